/-! two tables that tell the same room: all that a row, a law, a morning takes of them is the same -/
def TX (T T2 : Int → Int) : Prop := ∀ k : Int, 0 ≤ k → (k < 79 ∨ (135 ≤ k ∧ k < 1036)) → T2 k = T k
theorem TE.tx {T T2 : Int → Int} (h : TE T T2) : TX T T2 := fun k _ hk => h k (by omega)
theorem TX.rf {T : Int → Int} : TX T T := fun _ _ _ => rfl
theorem TX.tr {T T2 T3 : Int → Int} (h : TX T T2) (g : TX T2 T3) : TX T T3 := fun k h0 hk => (g k h0 hk).trans (h k h0 hk)
theorem TX.sy {T T2 : Int → Int} (h : TX T T2) : TX T2 T := fun k h0 hk => (h k h0 hk).symm
theorem TX.up {T : Int → Int} {σ : Mem} {k v : Int} (h : TX T (σ 116)) (hk : 79 ≤ k ∧ k < 135) : TX T (up σ 116 k v 116) := fun j h0 hj => by
  rw [up_nk (by omega)]; exact h j h0 hj
theorem TX.wd {T T2 : Int → Int} (h : TX T T2) {c k x : Int} (hk : 0 ≤ k ∧ k < 6) (hx : 0 ≤ x ∧ x < 3) : wdF T2 c k x = wdF T c k x := by
  unfold wdF
  rw [h (49 + k) (by omega) (by omega), h (61 + k) (by omega) (by omega), h (67 + k) (by omega) (by omega), h (43 + k) (by omega) (by omega), h (30 + x) (by omega) (by omega)]
theorem TX.ec {T T2 : Int → Int} (h : TX T T2) {k x : Int} (hk : 0 ≤ k ∧ k < 6) (hx : 0 ≤ x ∧ x < 3) (st : List Int) (c : Int) : evc T2 k x st c = evc T k x st c := by
  unfold evc
  rw [h.wd hk hx]
theorem TX.es {T T2 : Int → Int} (h : TX T T2) {k x : Int} (hk : 0 ≤ k ∧ k < 6) (hx : 0 ≤ x ∧ x < 3) : ∀ (cs st : List Int), evs T2 k x cs st = evs T k x cs st
  | [], st => rfl
  | c :: cs, st => by
    show evs T2 k x cs (evc T2 k x st c) = evs T k x cs (evc T k x st c)
    rw [h.ec hk hx, TX.es h hk hx cs]
theorem TX.cs {T T2 : Int → Int} (h : TX T T2) {f : Int} (hf : 0 ≤ f) : ∀ (n : Nat) (i : Int), 0 ≤ i → f + i + n ≤ 900 → cds T2 f n i = cds T f n i
  | 0, _, _, _ => rfl
  | n + 1, i, hi, hb => by
    show T2 (136 + f + i) :: cds T2 f n (i + 1) = T (136 + f + i) :: cds T f n (i + 1)
    rw [h _ (by omega) (by omega), TX.cs h hf n (i + 1) (by omega) (by omega)]
theorem TX.lw {T T2 : Int → Int} (h : TX T T2) {l : Int} (hl : 0 ≤ l ∧ l < 4) (hK : lawOK T l) : lawOK T2 l := by
  unfold lawOK at hK ⊢
  obtain ⟨k1, k2, k3, k4⟩ := hK
  rw [h (11 + l) (by omega) (by omega), h (15 + l) (by omega) (by omega), h.cs k1 _ _ (by omega) (by omega)]
  exact ⟨k1, k2, k3, k4⟩
theorem TX.rk {T T2 : Int → Int} (h : TX T T2) {l k x : Int} (hl : 0 ≤ l ∧ l < 4) (hK : lawOK T l) (hk : 0 ≤ k ∧ k < 6) (hx : 0 ≤ x ∧ x < 3) : rkF T2 l k x = rkF T l k x := by
  obtain ⟨k1, k2, k3, k4⟩ := hK
  unfold rkF
  rw [h (11 + l) (by omega) (by omega), h (15 + l) (by omega) (by omega), h.cs k1 _ _ (by omega) (by omega), h.es hk hx]
theorem TX.mt {T T2 : Int → Int} (h : TX T T2) (hT : MT T) : MT T2 := by
  obtain ⟨a1, a2, a3, a4, a5, a6, a7, a8, a9, a10, a11⟩ := hT
  have e1 := h 1 (by omega) (by omega)
  have e2 := h 2 (by omega) (by omega)
  have e3 := h 3 (by omega) (by omega)
  have e4 := h 4 (by omega) (by omega)
  have e5 := h 5 (by omega) (by omega)
  have e6 := h 6 (by omega) (by omega)
  refine ⟨by rw [e1]; exact a1, by rw [e2]; exact a2, by rw [e3]; exact a3, by rw [e4]; exact a4, by rw [e5]; exact a5, by rw [e6]; exact a6, fun i i0 i1 => ?_, fun x x0 x1 => ?_, fun c c0 c1 => ?_, fun k k0 k1 => ?_, fun l l0 l1 => ?_⟩
  · rw [e6] at i1; rw [h (19 + i) (by omega) (by omega)]; exact a7 i i0 i1
  · rw [h (27 + x) (by omega) (by omega), h (30 + x) (by omega) (by omega)]; exact a8 x x0 x1
  · rw [e3] at c1; rw [h (33 + c) (by omega) (by omega)]; exact a9 c c0 c1
  · rw [e4] at k1; rw [e3, h (37 + k) (by omega) (by omega), h (43 + k) (by omega) (by omega), h (49 + k) (by omega) (by omega), h (55 + k) (by omega) (by omega), h (61 + k) (by omega) (by omega), h (67 + k) (by omega) (by omega), h (73 + k) (by omega) (by omega)]; exact a10 k k0 k1
  · rw [h (7 + l) (by omega) (by omega)]
    exact ⟨(a11 l l0 l1).1, fun z => h.lw ⟨l0, l1⟩ ((a11 l l0 l1).2 z)⟩
theorem TX.F {T T2 : Int → Int} (h : TX T T2) (hT : MT T) {k x : Int} (hk : 0 ≤ k ∧ k < 6) (hx : 0 ≤ x ∧ x < 3) : opF T2 k = opF T k ∧ cpF T2 k x = cpF T k x ∧ mdF T2 k = mdF T k ∧ shF T2 k = shF T k := by
  have L := hT.2.2.2.2.2.2.2.2.2.2
  have l0 := L 0 (by omega) (by omega)
  have l1 := L 1 (by omega) (by omega)
  have l2 := L 2 (by omega) (by omega)
  have l3 := L 3 (by omega) (by omega)
  unfold opF cpF mdF shF
  rw [h 7 (by omega) (by omega), h 8 (by omega) (by omega), h 9 (by omega) (by omega), h 10 (by omega) (by omega), h (49 + k) (by omega) (by omega), h (30 + x) (by omega) (by omega), h (61 + k) (by omega) (by omega)]
  refine ⟨?_, ?_, ?_, ?_⟩
  · split
    · rfl
    · rename_i z; rw [h.rk (by omega) (l0.2 (by rcases l0.1 with e | e; exact absurd e z; exact e)) hk (by omega)]
  · split
    · rename_i z; rw [h.rk (by omega) (l1.2 z) hk hx]
    · rfl
  · split
    · rfl
    · rename_i z; rw [h.rk (by omega) (l2.2 (by rcases l2.1 with e | e; exact absurd e z; exact e)) hk (by omega)]
  · split
    · rfl
    · rename_i z; rw [h.rk (by omega) (l3.2 (by rcases l3.1 with e | e; exact absurd e z; exact e)) hk (by omega)]
/-- rows -/
def in63 (R : RL) : Prop := ∀ x ∈ R, (0 ≤ x.1 ∧ x.1 < 6) ∧ (0 ≤ x.2 ∧ x.2 < 3)
theorem in63.of {T : Int → Int} (hT : MT T) {R : RL} (h : RV T R) : in63 R := fun x hx => inM6 hT (h.mem x hx)
theorem in63.tl {x : Int × Int} {R : RL} (h : in63 (x :: R)) : in63 R := fun y hy => h y (List.mem_cons_of_mem _ hy)
theorem TX.on {T T2 : Int → Int} (h : TX T T2) (hT : MT T) : ∀ {R : RL}, in63 R → opn (gM T2) R = opn (gM T) R
  | [], _ => rfl
  | x :: R, q => by
    have h1 := TX.on h hT q.tl
    have h2 := (h.F hT (q x List.mem_cons_self).1 (q x List.mem_cons_self).2).1
    show opn (gM T2) R + opF T2 x.1 = opn (gM T) R + opF T x.1
    rw [h1, h2]
theorem TX.fr {T T2 : Int → Int} (h : TX T T2) (hT : MT T) : ∀ {R : RL}, in63 R → ∀ y, fre (gM T2) R y = fre (gM T) R y
  | [], _, _ => rfl
  | x :: R, q, y => by
    have h1 := TX.fr h hT q.tl
    have h0 := h.on hT q.tl
    have h2 := h.F hT (q x List.mem_cons_self).1 (q x List.mem_cons_self).2
    show (if x.2 = y then max (opn (gM T2) R + opF T2 x.1) (fre (gM T2) R x.2) + cpF T2 x.1 x.2 else fre (gM T2) R y) = (if x.2 = y then max (opn (gM T) R + opF T x.1) (fre (gM T) R x.2) + cpF T x.1 x.2 else fre (gM T) R y)
    rw [h0, h1, h1, h2.1, h2.2.1]
theorem TX.cp {T T2 : Int → Int} (h : TX T T2) (hT : MT T) {x : Int × Int} {R : RL} (q : in63 (x :: R)) : cpd (gM T2) x R = cpd (gM T) x R := by
  have h1 := TX.fr h hT q.tl
  have h0 := h.on hT q.tl
  have h2 := h.F hT (q x List.mem_cons_self).1 (q x List.mem_cons_self).2
  show max (opn (gM T2) R + opF T2 x.1) (fre (gM T2) R x.2) + cpF T2 x.1 x.2 = max (opn (gM T) R + opF T x.1) (fre (gM T) R x.2) + cpF T x.1 x.2
  rw [h0, h1, h2.1, h2.2.1]
theorem TX.ca {T T2 : Int → Int} (h : TX T T2) (hT : MT T) : ∀ {R : RL}, in63 R → ∀ p, copAt (gM T2) R p = copAt (gM T) R p
  | [], _, _ => rfl
  | x :: R, q, p => by
    show (if p = R.length then cpd (gM T2) x R else copAt (gM T2) R p) = (if p = R.length then cpd (gM T) x R else copAt (gM T) R p)
    rw [h.cp hT q, TX.ca h hT q.tl]
theorem kAt6 : ∀ {R : RL}, in63 R → ∀ p, 0 ≤ kAt R p ∧ kAt R p < 6
  | [], _, _ => by simp [kAt]
  | x :: R, q, p => by
    have := (q x List.mem_cons_self).1
    have := kAt6 q.tl p
    show 0 ≤ (if p = R.length then x.1 else kAt R p) ∧ (if p = R.length then x.1 else kAt R p) < 6
    split <;> omega
theorem TX.ev {T T2 : Int → Int} (h : TX T T2) (hT : MT T) {R : RL} (q : in63 R) : endV (gM T2) R = endV (gM T) R := by
  have e1 : copAt (gM T2) R = copAt (gM T) R := funext fun p => h.ca hT q p
  have e2 : (fun p => (gM T2).2.1 (kAt R p)) = (fun p => (gM T).2.1 (kAt R p)) := funext fun p => (h.F hT (x := 0) (kAt6 q p) (by omega)).2.2.1
  unfold endV
  rw [e1, e2]
theorem TX.rv {T T2 : Int → Int} (h : TX T T2) : ∀ {R : RL}, RV T R → RV T2 R
  | [], _ => trivial
  | x :: R, q => by
    refine ⟨?_, q.2.1, TX.rv h q.2.2⟩
    have := q.1
    unfold inM at this ⊢
    rw [h 4 (by omega) (by omega), h 2 (by omega) (by omega)]; exact this
theorem TX.RA {T T2 : Int → Int} (h : TX T T2) (hT : MT T) {σ : Mem} {a b c e : Nat} : ∀ {R : RL}, in63 R → RowA σ a b c e (gM T) R → RowA σ a b c e (gM T2) R
  | [], _, _ => trivial
  | x :: R, q, w => by
    have h2 := h.F hT (q x List.mem_cons_self).1 (q x List.mem_cons_self).2
    refine ⟨w.1, w.2.1, ?_, ?_, TX.RA h hT q.tl w.2.2.2.2⟩
    · show _ = opn (gM T2) R + opF T2 x.1
      rw [h.on hT q.tl, h2.1]; exact w.2.2.1
    · rw [h.cp hT q]; exact w.2.2.2.1
theorem TX.Fb {T T2 : Int → Int} (h : TX T T2) (hT : MT T) {σ : Mem} {a : Nat} : ∀ {R : RL}, in63 R → FbA σ a (gM T) R → FbA σ a (gM T2) R
  | [], _, _ => trivial
  | x :: R, q, w => ⟨by rw [h.fr hT q.tl]; exact w.1, TX.Fb h hT q.tl w.2⟩
theorem TX.RC {T T2 : Int → Int} (h : TX T T2) (hT : MT T) {σ : Mem} {w : Nat} {R : RL} (q : in63 R) (hR : RowC σ w (gM T) R) : RowC σ w (gM T2) R := by
  obtain ⟨h1, h2, h3, h4, h5, h6, h7⟩ := hR
  have e1 : copAt (gM T2) R = copAt (gM T) R := funext fun p => h.ca hT q p
  exact ⟨h1, h2, h3, h.RA hT q h4, fun x a b => by rw [h.fr hT q]; exact h5 x a b, h.Fb hT q h6, by rw [e1]; exact h7⟩
theorem TX.MR {T T2 : Int → Int} (h : TX T T2) (hT : MT T) {σ : Mem} {R : RL} (q : in63 R) (hR : MRow σ (gM T) R) : MRow σ (gM T2) R :=
  ⟨hR.1, hR.2.1, hR.2.2.1, h.RA hT q hR.2.2.2⟩
theorem TX.tf {T T2 : Int → Int} (h : TX T T2) (hT : MT T) {R : RL} (q : in63 R) (rd aw v : Int) : takeF T2 rd aw R v = takeF T rd aw R v := by
  have h4 := hT.2.2.2.1
  have h2 := hT.2.1
  unfold takeF
  rw [h 4 (by omega) (by omega), h 2 (by omega) (by omega), h 1 (by omega) (by omega)]
  split
  · rfl
  · rename_i z
    have z : 0 ≤ v ∧ v < 30 ∧ v % 10 < T 4 ∧ v / 10 < T 2 := Classical.not_not.mp z
    have q2 : in63 ((v % 10, v / 10) :: R) := by
      intro y hy
      rcases List.mem_cons.mp hy with rfl | hy
      · exact ⟨⟨by show 0 ≤ v % 10; omega, by show v % 10 < 6; omega⟩, ⟨by show 0 ≤ v / 10; omega, by show v / 10 < 3; omega⟩⟩
      · exact q y hy
    rw [h (27 + v / 10) (by omega) (by omega), h (43 + v % 10) (by omega) (by omega), h.ev hT q2]
theorem TX.ms {T T2 : Int → Int} (h : TX T T2) (hT : MT T) {a : Int → Int} (ha : ∀ p, 0 ≤ a p ∧ a p < 6) (s0 : Int × Int × Int × Int) : ∀ n : Nat, mornS T2 a s0 n = mornS T a s0 n
  | 0 => rfl
  | n + 1 => by
    simp only [mornS]
    rw [TX.ms h hT ha s0 n, (h.F hT (x := 0) (ha n) (by omega)).2.2.2]
theorem TX.mf {T T2 : Int → Int} (h : TX T T2) (hT : MT T) {R : RL} (q : in63 R) (a b c : Int) : mornF T2 R a b c = mornF T R a b c := h.ms hT (kAt6 q) _ _
