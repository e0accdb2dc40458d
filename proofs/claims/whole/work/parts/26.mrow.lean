/-! the reference's row -/
theorem bt_or : ∀ (a : Fin 64) (k j : Fin 6), bt (ior (a.val : Int) (ish 1 (k.val : Int))) (j.val : Int) = if j.val = k.val then 1 else bt (a.val : Int) (j.val : Int) := by decide +kernel
theorem or_lt : ∀ (a : Fin 64) (k : Fin 6), 0 ≤ ior (a.val : Int) (ish 1 (k.val : Int)) ∧ ior (a.val : Int) (ish 1 (k.val : Int)) < 64 := by decide +kernel
theorem an_lt : ∀ (a : Fin 64) (k : Fin 6), bt (a.val : Int) (k.val : Int) = 0 → ian (ior (a.val : Int) (ish 1 (k.val : Int))) (ixo (ish 1 (k.val : Int)) (-1)) = (a.val : Int) := by decide +kernel
theorem bor {a k j : Int} (ha : 0 ≤ a ∧ a < 64) (hk : 0 ≤ k ∧ k < 6) (hj : 0 ≤ j ∧ j < 6) : bt (ior a (ish 1 k)) j = if j = k then 1 else bt a j := by
  have := bt_or ⟨a.toNat, by omega⟩ ⟨k.toNat, by omega⟩ ⟨j.toNat, by omega⟩
  simp only [show ((a.toNat : Nat) : Int) = a by omega, show ((k.toNat : Nat) : Int) = k by omega, show ((j.toNat : Nat) : Int) = j by omega] at this
  rw [this]
  by_cases e : j = k
  · rw [if_pos (by omega), if_pos e]
  · rw [if_neg (by omega), if_neg e]
theorem bor_lt {a k : Int} (ha : 0 ≤ a ∧ a < 64) (hk : 0 ≤ k ∧ k < 6) : 0 ≤ ior a (ish 1 k) ∧ ior a (ish 1 k) < 64 := by
  have := or_lt ⟨a.toNat, by omega⟩ ⟨k.toNat, by omega⟩
  simp only [show ((a.toNat : Nat) : Int) = a by omega, show ((k.toNat : Nat) : Int) = k by omega] at this
  exact this
theorem bdrop {a k : Int} (ha : 0 ≤ a ∧ a < 64) (hk : 0 ≤ k ∧ k < 6) (hb : bt a k = 0) : ian (ior a (ish 1 k)) (ixo (ish 1 k) (-1)) = a := by
  have := an_lt ⟨a.toNat, by omega⟩ ⟨k.toNat, by omega⟩
  simp only [show ((a.toNat : Nat) : Int) = a by omega, show ((k.toNat : Nat) : Int) = k by omega] at this
  exact this hb
theorem tkn_lt : ∀ {R : RL}, (∀ x ∈ R, 0 ≤ x.1 ∧ x.1 < 6) → 0 ≤ tkn R ∧ tkn R < 64
  | [], _ => by simp [tkn]
  | x :: R, h => bor_lt (tkn_lt (fun y hy => h y (List.mem_cons_of_mem _ hy))) (h x List.mem_cons_self)
/-- what a told room holds, as the reference keeps it -/
def MT (T : Int → Int) : Prop := (0 ≤ T 1 ∧ T 1 ≤ 300) ∧ (0 ≤ T 2 ∧ T 2 ≤ 3) ∧ (0 ≤ T 3 ∧ T 3 ≤ 4) ∧ (0 ≤ T 4 ∧ T 4 ≤ 6) ∧ (0 ≤ T 5 ∧ T 5 ≤ 100) ∧ (0 ≤ T 6 ∧ T 6 ≤ 8) ∧ (∀ i : Int, 0 ≤ i → i < T 6 → 0 ≤ T (19 + i) ∧ T (19 + i) ≤ 25) ∧ (∀ h : Int, 0 ≤ h → h < 3 → (0 ≤ T (27 + h) ∧ T (27 + h) ≤ 15) ∧ (0 ≤ T (30 + h) ∧ T (30 + h) ≤ 9)) ∧ (∀ c : Int, 0 ≤ c → c < T 3 → 0 ≤ T (33 + c) ∧ T (33 + c) ≤ 100) ∧ (∀ k : Int, 0 ≤ k → k < T 4 → (0 ≤ T (37 + k) ∧ T (37 + k) < T 3) ∧ (0 ≤ T (43 + k) ∧ T (43 + k) ≤ 3) ∧ (1 ≤ T (49 + k) ∧ T (49 + k) ≤ 99) ∧ (0 ≤ T (55 + k) ∧ T (55 + k) ≤ 99) ∧ (0 ≤ T (61 + k) ∧ T (61 + k) ≤ 9) ∧ (0 ≤ T (67 + k) ∧ T (67 + k) ≤ 9) ∧ (0 ≤ T (73 + k) ∧ T (73 + k) ≤ 2)) ∧ (∀ l : Int, 0 ≤ l → l < 4 → (T (7 + l) = 0 ∨ T (7 + l) = 1) ∧ (T (7 + l) = 1 → lawOK T l))
def opF (T : Int → Int) (k : Int) : Int := if T 7 = 0 then 2 else clp 0 999 (rkF T 0 k 0)
def cpF (T : Int → Int) (k h : Int) : Int := if T 8 = 1 then clp 0 999 (rkF T 1 k h) else if 5 * T (49 + k) - T (30 + h) < 1 then 1 else 5 * T (49 + k) - T (30 + h)
def mdF (T : Int → Int) (k : Int) : Int := if T 9 = 0 then T (61 + k) + 3 else clp 0 999 (rkF T 2 k 0)
def shF (T : Int → Int) (k : Int) : Int := if T 10 = 0 then 10 else clp 0 100 (rkF T 3 k 0)
def gM (T : Int → Int) : GG := (opF T, mdF T, cpF T)
theorem MT.wd {T : Int → Int} (h : MT T) {k x : Int} (hk : 0 ≤ k ∧ k < T 4) (hx : 0 ≤ x ∧ x < 3) : wdB T k x := by
  obtain ⟨-, -, -, -, -, -, -, hh, -, hl, -⟩ := h
  have h1 := hl k hk.1 hk.2
  have h2 := (hh x hx.1 hx.2).2
  intro c c0 c4
  unfold wdF
  (repeat' split) <;> omega
theorem MT.law {T : Int → Int} (h : MT T) {l : Int} (hl : 0 ≤ l ∧ l < 4) (e : ¬ T (7 + l) = 0) : lawOK T l := by
  obtain ⟨-, -, -, -, -, -, -, -, -, -, hw⟩ := h
  have := hw l hl.1 hl.2
  rcases this.1 with q | q
  · exact absurd q e
  · exact this.2 q
theorem gM_b {T : Int → Int} (h : MT T) {x : Int × Int} (hk : 0 ≤ x.1 ∧ x.1 < T 4) (hx : 0 ≤ x.2 ∧ x.2 < T 2) : Gb (gM T) x := by
  obtain ⟨-, h2, -, -, -, -, -, hh, -, hl, -⟩ := h
  have h1 := hl x.1 hk.1 hk.2
  have h3 := (hh x.2 hx.1 (by omega)).2
  refine ⟨?_, ?_, ?_⟩
  · show 0 ≤ opF T x.1 ∧ opF T x.1 ≤ 999
    unfold opF; split
    · omega
    · exact clp_b (by decide)
  · show 0 ≤ mdF T x.1 ∧ mdF T x.1 ≤ 999
    unfold mdF; split
    · omega
    · exact clp_b (by decide)
  · show 0 ≤ cpF T x.1 x.2 ∧ cpF T x.1 x.2 ≤ 999
    unfold cpF; split
    · exact clp_b (by decide)
    · split <;> omega
variable {E : EN} {d : Nat} {σ : Mem} {R : RL}
theorem s_opensIn {K : Int → Mem → Prop} {k : Int} (hd : 2 ≤ d) (hT : MT (σ 116)) (hk : 0 ≤ k ∧ k < σ 116 4) (q : ∀ τ : Mem, Fr [120] σ τ → K (opF (σ 116) k) τ) : CI E y_Mod_opensIn d [vr 115, vi k] σ K := by
  have h4 := hT.2.2.2.1
  refine c_Mod_opensIn (b_Mod_opensIn_0 (by omega) ⟨fun e => ?_, fun e => ?_⟩)
  · refine s_reckons (by omega) (by omega) (by omega) (by omega) (by omega) (hT.law (l := 0) (by omega) e) (hT.wd hk (by omega)) (fun τ hF => ?_)
    have := q τ hF; unfold opF at this; rw [if_neg e] at this; exact this
  · have := q σ Fr.rf; unfold opF at this; rw [if_pos e] at this; exact this
theorem s_mendsIn {K : Int → Mem → Prop} {k : Int} (hd : 2 ≤ d) (hT : MT (σ 116)) (hk : 0 ≤ k ∧ k < σ 116 4) (q : ∀ τ : Mem, Fr [120] σ τ → K (mdF (σ 116) k) τ) : CI E y_Mod_mendsIn d [vr 115, vi k] σ K := by
  have h4 := hT.2.2.2.1
  have hk2 := (hT.2.2.2.2.2.2.2.2.2.1 k hk.1 hk.2).2.2.2.2.1
  refine c_Mod_mendsIn (b_Mod_mendsIn_0 (by omega) ⟨fun e => ?_, fun e => ?_⟩)
  · refine s_reckons (by omega) (by omega) (by omega) (by omega) (by omega) (hT.law (l := 2) (by omega) e) (hT.wd hk (by omega)) (fun τ hF => ?_)
    have := q τ hF; unfold mdF at this; rw [if_neg e] at this; exact this
  · have := q σ Fr.rf; unfold mdF at this; rw [if_pos e] at this
    rw [wid (x := 61 + k) (by omega) (by omega), wid (by omega) (by omega)]
    exact ⟨by omega, this⟩
theorem s_showsOf {K : Int → Mem → Prop} {k : Int} (hd : 2 ≤ d) (hT : MT (σ 116)) (hk : 0 ≤ k ∧ k < σ 116 4) (q : ∀ τ : Mem, Fr [120] σ τ → K (shF (σ 116) k) τ) : CI E y_Mod_showsOf d [vr 115, vi k] σ K := by
  have h4 := hT.2.2.2.1
  refine c_Mod_showsOf (b_Mod_showsOf_0 (by omega) ⟨fun e => ?_, fun e => ?_⟩)
  · refine s_reckons (by omega) (by omega) (by omega) (by omega) (by omega) (hT.law (l := 3) (by omega) e) (hT.wd hk (by omega)) (fun τ hF => ?_)
    have := q τ hF; unfold shF at this; rw [if_neg e] at this; exact this
  · have := q σ Fr.rf; unfold shF at this; rw [if_pos e] at this; exact this
theorem s_copiesIn {K : Int → Mem → Prop} {k h : Int} (hd : 2 ≤ d) (hT : MT (σ 116)) (hk : 0 ≤ k ∧ k < σ 116 4) (hh : 0 ≤ h ∧ h < σ 116 2) (q : ∀ τ : Mem, Fr [120] σ τ → K (cpF (σ 116) k h) τ) : CI E y_Mod_copiesIn d [vr 115, vi k, vi h] σ K := by
  have h4 := hT.2.2.2.1
  have h2 := hT.2.1
  have hk2 := (hT.2.2.2.2.2.2.2.2.2.1 k hk.1 hk.2).2.2.1
  have hh2 := (hT.2.2.2.2.2.2.2.1 h hh.1 (by omega)).2
  refine c_Mod_copiesIn (b_Mod_copiesIn_0 (by omega) ⟨fun e => ?_, fun e => ?_⟩)
  · have := q σ Fr.rf; unfold cpF at this; rw [if_neg e] at this
    rw [wid (x := 49 + k) (by omega) (by omega), wid (x := 30 + h) (by omega) (by omega), wid (x := 5 * σ 116 (49 + k)) (by omega) (by omega), wid (x := 5 * σ 116 (49 + k) - σ 116 (30 + h)) (by omega) (by omega)]
    refine ⟨by omega, by omega, fun e2 => ?_, fun e2 => ?_⟩
    · rw [if_neg (by omega)] at this; exact this
    · rw [if_pos e2] at this; exact this
  · refine s_reckons (by omega) (by omega) (by omega) (by omega) (by omega) (hT.law (l := 1) (by omega) (by rw [show (7 : Int) + 1 = 8 by omega, e]; decide)) (hT.wd hk (by omega)) (fun τ hF => ?_)
    have := q τ hF; unfold cpF at this; rw [if_pos e] at this; exact this
/-- the first i of a row -/
def suf (R : RL) (i : Nat) : RL := R.drop (R.length - i)
theorem suf_all (R : RL) : suf R R.length = R := by simp [suf]
theorem suf_0 (R : RL) : suf R 0 = [] := by simp [suf]
theorem suf_cons {x : Int × Int} {R : RL} {i : Nat} (h : i ≤ R.length) : suf (x :: R) i = suf R i := by
  unfold suf; rw [List.length_cons, show R.length + 1 - i = (R.length - i) + 1 by omega, List.drop_succ_cons]
theorem suf_at (g : GG) : ∀ (R : RL) (i : Nat), i < R.length → suf R (i + 1) = (kAt R i, hAt R i) :: suf R i ∧ copAt g R i = cpd g (kAt R i, hAt R i) (suf R i)
  | [], i, h => absurd h (by simp)
  | x :: R, i, h => by
    by_cases e : i = R.length
    · subst e
      have e1 : suf (x :: R) (R.length + 1) = x :: R := suf_all (x :: R)
      rw [e1, suf_cons (Nat.le_refl _), suf_all]
      simp [kAt, hAt, copAt]
    · have hi : i < R.length := by simp only [List.length_cons] at h; omega
      obtain ⟨h1, h2⟩ := suf_at g R i hi
      rw [suf_cons (by omega), suf_cons (by omega)]
      simp only [kAt, hAt, copAt]
      rw [if_neg (by omega), if_neg (by omega), if_neg (by omega)]
      exact ⟨h1, h2⟩
theorem fre_le {g : GG} {x : Int × Int} {R : RL} (hx : Gb g x) (h : Int) : fre g R h ≤ fre g (x :: R) h := by
  simp only [fre]
  split
  · rename_i e; subst e; obtain ⟨-, -, a⟩ := hx; omega
  · exact Int.le_refl _
def MRow (σ : Mem) (g : GG) (R : RL) : Prop := σ 115 22 = R.length ∧ R.length ≤ 6 ∧ σ 115 23 = tkn R ∧ RowA σ 121 122 123 124 g R
def inM (T : Int → Int) (x : Int × Int) : Prop := (0 ≤ x.1 ∧ x.1 < T 4) ∧ (0 ≤ x.2 ∧ x.2 < T 2)
theorem Rb_of {T : Int → Int} (hT : MT T) : ∀ {R : RL}, (∀ x ∈ R, inM T x) → Rb (gM T) R
  | [], _ => trivial
  | x :: R, h => ⟨gM_b hT (h x List.mem_cons_self).1 (h x List.mem_cons_self).2, Rb_of hT (fun y hy => h y (List.mem_cons_of_mem _ hy))⟩
theorem MRow.fr {σ τ : Mem} {g : GG} {R : RL} (h : MRow σ g R) (h0 : τ 115 = σ 115) (h1 : τ 121 = σ 121) (h2 : τ 122 = σ 122) (h3 : τ 123 = σ 123) (h4 : τ 124 = σ 124) : MRow τ g R :=
  ⟨by rw [h0]; exact h.1, h.2.1, by rw [h0]; exact h.2.2.1, h.2.2.2.congr (fun i _ _ => by rw [h1, h2, h3, h4]; exact ⟨rfl, rfl, rfl, rfl⟩)⟩
theorem s_copiedBy {K : Int → Mem → Prop} {x : Int × Int} (hd : 3 ≤ d) (hT : MT (σ 116)) (hx : inM (σ 116) x) (hin : ∀ y ∈ R, inM (σ 116) y) (hR : MRow σ (gM (σ 116)) R) (q : ∀ τ : Mem, Fr [120] σ τ → K (cpd (gM (σ 116)) x R) τ) : CI E y_Mod_copiedBy d [vr 115, vi x.1, vi x.2] σ K := by
  have hRb := Rb_of hT hin
  have ho := opn_b hRb
  have hxb := gM_b hT hx.1 hx.2
  obtain ⟨b1, b2, b3⟩ := id hxb
  have hl := hR.2.1
  have loop : ∀ (m i : Nat) (op : Int) (τ : Mem), i + m = R.length → Fr [120] σ τ → op = max (opn (gM (σ 116)) R + opF (σ 116) x.1) (fre (gM (σ 116)) (suf R i) x.2) → Z E y_Mod_copiedBy d 32 [some (vr 115), some (vi x.1), some (vi x.2), some (vi op), some (vi (i : Nat))] [] τ (qi K) := by
    intro m
    induction m with
    | zero =>
      intro i op τ hm hF hop
      have t22 : τ 115 22 = R.length := by rw [hF.one (by decide)]; exact hR.1
      have t116 : τ 116 = σ 116 := hF.one (by decide)
      refine b_Mod_copiedBy_32 (by omega) ⟨fun _ => ?_, fun z => absurd z (by omega)⟩
      refine s_copiesIn (by omega) (by rw [t116]; exact hT) (by rw [t116]; exact hx.1) (by rw [t116]; exact hx.2) (fun τ2 hF2 => ?_)
      have : i = R.length := by omega
      subst this
      rw [suf_all] at hop
      have hf := fre_b hRb x.2
      have b1' : 0 ≤ opF (σ 116) x.1 ∧ opF (σ 116) x.1 ≤ 999 := b1
      have b3' : 0 ≤ cpF (σ 116) x.1 x.2 ∧ cpF (σ 116) x.1 x.2 ≤ 999 := b3
      rw [t116, wid (by omega) (by omega), hop]
      exact q τ2 (hF.tr hF2)
    | succ m ih =>
      intro i op τ hm hF hop
      have t22 : τ 115 22 = R.length := by rw [hF.one (by decide)]; exact hR.1
      obtain ⟨s1, s2⟩ := suf_at (gM (σ 116)) R i (by omega)
      have ra := hR.2.2.2.at i (by omega) (by omega)
      obtain ⟨y, hy, ky, hyy⟩ := kAt_mem hin i (by omega) (by omega)
      have hyb := gM_b hT hy.1 hy.2
      have eh : τ 122 i = hAt R i := by rw [hF.one (by decide)]; exact ra.2.1
      have ec : τ 124 i = copAt (gM (σ 116)) R i := by rw [hF.one (by decide)]; exact ra.2.2
      refine b_Mod_copiedBy_32 (by omega) ⟨fun z => absurd z (by omega), fun _ => ⟨by omega, ?_⟩⟩
      rw [eh, ec, wid (x := (i : Int) + 1) (by omega) (by omega)]
      have next : ∀ v, v = max (opn (gM (σ 116)) R + opF (σ 116) x.1) (fre (gM (σ 116)) (suf R (i + 1)) x.2) → Z E y_Mod_copiedBy d 32 [some (vr 115), some (vi x.1), some (vi x.2), some (vi v), some (vi ((i : Int) + 1))] [] τ (qi K) := fun v hv => ih (i + 1) v τ (by omega) hF hv
      refine ⟨fun hne => next op ?_, fun he => ⟨fun hle => next op ?_, fun hgt => next _ ?_⟩⟩
      · rw [s1, hop]; simp only [fre]; rw [if_neg hne]
      · rw [s1]; simp only [fre]; rw [if_pos he]
        have := fre_le (R := suf R i) (x := (kAt R i, hAt R i)) (g := gM (σ 116)) (by rw [ky, hyy]; exact hyb) x.2
        simp only [fre] at this; rw [if_pos he] at this
        rw [s2] at hle; unfold cpd at hle; simp only at hle
        omega
      · rw [s1]; simp only [fre]; rw [if_pos he]
        rw [s2] at hgt ⊢; unfold cpd at hgt ⊢; simp only at hgt ⊢
        have := fre_le (R := suf R i) (x := (kAt R i, hAt R i)) (g := gM (σ 116)) (by rw [ky, hyy]; exact hyb) x.2
        simp only [fre] at this; rw [if_pos he] at this
        omega
  have hf0 : ∀ τ : Mem, Fr [120] σ τ → Z E y_Mod_copiedBy d 32 [some (vr 115), some (vi x.1), some (vi x.2), some (vi (opn (gM (σ 116)) R + opF (σ 116) x.1)), some (vi 0)] [] τ (qi K) := by
    intro τ hF
    have b1' : 0 ≤ opF (σ 116) x.1 ∧ opF (σ 116) x.1 ≤ 999 := b1
    exact loop R.length 0 _ τ (by omega) hF (by rw [suf_0]; simp only [fre]; omega)
  have b1' : 0 ≤ opF (σ 116) x.1 ∧ opF (σ 116) x.1 ≤ 999 := b1
  refine c_Mod_copiedBy (b_Mod_copiedBy_0 (by omega) ⟨fun hne => ?_, fun he => ?_⟩)
  · rw [hR.1] at hne ⊢
    cases R with
    | nil => exact absurd rfl hne
    | cons y R =>
      simp only [List.length_cons] at *
      have e3 : σ 123 R.length = opn (gM (σ 116)) (y :: R) := hR.2.2.2.2.2.1
      rw [wid (x := ((R.length + 1 : Nat) : Int) - 1) (by omega) (by omega), show ((R.length + 1 : Nat) : Int) - 1 = R.length by omega, e3]
      refine ⟨by omega, s_opensIn (by omega) hT hx.1 (fun τ hF => ?_)⟩
      rw [wid (by omega) (by omega)]
      exact hf0 τ hF
  · rw [hR.1] at he
    refine s_opensIn (by omega) hT hx.1 (fun τ hF => ?_)
    cases R with
    | cons y R => simp only [List.length_cons] at he; omega
    | nil =>
      rw [wid (by omega) (by omega)]
      exact hf0 τ hF
/-- the rest of the reference's own numbers stays -/
def keep (S : List Int) (σ τ : Mem) : Prop := ∀ k, k ∉ S → τ 115 k = σ 115 k
theorem s_comesLast {K : Mem → Prop} {x : Int × Int} (hd : 4 ≤ d) (hT : MT (σ 116)) (hx : inM (σ 116) x) (hin : ∀ y ∈ R, inM (σ 116) y) (hR : MRow σ (gM (σ 116)) R) (hl : R.length < 6) (q : ∀ τ : Mem, Fr [115, 120, 121, 122, 123, 124] σ τ → keep [22, 23] σ τ → MRow τ (gM (σ 116)) (x :: R) → K τ) : CV E y_Mod_comesLast d [vr 115, vi x.1, vi x.2] σ K := by
  have hRb := Rb_of hT hin
  have ho := opn_b hRb
  have hxb := gM_b hT hx.1 hx.2
  have b1 : 0 ≤ opF (σ 116) x.1 ∧ opF (σ 116) x.1 ≤ 999 := hxb.1
  obtain ⟨r1, r2, r3, r4⟩ := hR
  refine c_Mod_comesLast (b_Mod_comesLast_0 (by omega) (s_copiedBy (by omega) hT hx hin ⟨r1, r2, r3, r4⟩ (fun τ hF => ?_)))
  have t115 : τ 115 = σ 115 := hF.one (by decide)
  have go : ∀ s0, s0 = opn (gM (σ 116)) R → Z E y_Mod_comesLast d 45 [some (vr 115), some (vi x.1), some (vi x.2)] [vi s0, vi (σ 115 22), vr 123] (up τ 124 (σ 115 22) (cpd (gM (σ 116)) x R)) (qv K) := by
    intro s0 hs0
    subst hs0
    generalize hM : up τ 124 (σ 115 22) (cpd (gM (σ 116)) x R) = M
    have m116 : M 116 = σ 116 := by rw [← hM, up_cell (by decide), hF.one (by decide)]
    refine b_Mod_comesLast_45 (by omega) (s_opensIn (by omega) (by rw [m116]; exact hT) (by rw [m116]; exact hx.1) (fun υ hU => ?_))
    have u115 : υ 115 = σ 115 := by rw [hU.one (by decide), ← hM, up_cell (by decide), t115]
    rw [m116, u115, wid (by omega) (by omega), r1, wid (by omega) (by omega)]
    refine ⟨by omega, by omega, ?_⟩
    have uo : ∀ c, c ≠ 120 → c ≠ 124 → υ c = σ c := fun c c1 c2 => by rw [hU.one c1, ← hM, up_cell c2, hF.one c1]
    have u124 : ∀ i, υ 124 i = if i = R.length then cpd (gM (σ 116)) x R else σ 124 i := by
      intro i; rw [hU.one (by decide), ← hM, r1]; simp only [up]
      by_cases e : i = R.length
      · rw [if_pos ⟨trivial, e⟩, if_pos e]
      · rw [if_neg (fun z => e z.2), if_neg e, hF.one (by decide)]
    refine q _ (fun c hc => ?_) (fun k hk => ?_) ⟨?_, by simp only [List.length_cons]; omega, ?_, ?_, ?_, ?_, ?_, r4.congr (fun i i0 i1 => ⟨?_, ?_, ?_, ?_⟩)⟩
    · have n : c ≠ 115 ∧ c ≠ 120 ∧ c ≠ 121 ∧ c ≠ 122 ∧ c ≠ 123 ∧ c ≠ 124 := by simpa using hc
      rw [up_cell n.1, up_cell n.1, up_cell n.2.2.2.1, up_cell n.2.2.1, up_cell n.2.2.2.2.1]; exact uo c n.2.1 n.2.2.2.2.2
    · have n : k ≠ 22 ∧ k ≠ 23 := by simpa using hk
      rw [up_nk n.2, up_nk n.1, up_nc (by decide), up_nc (by decide), up_nc (by decide), u115]
    · rw [up_nk (by decide), up_same]; simp
    · rw [up_same, r3]; rfl
    · rw [up_nc (by decide), up_nc (by decide), up_nc (by decide), up_same]
    · rw [up_nc (by decide), up_nc (by decide), up_same]
    · rw [up_nc (by decide), up_nc (by decide), up_nc (by decide), up_nc (by decide), up_same]; rfl
    · rw [up_nc (by decide), up_nc (by decide), up_nc (by decide), up_nc (by decide), up_nc (by decide), u124, if_pos rfl]
    · rw [up_nc (by decide), up_nc (by decide), up_nc (by decide), up_nk (by omega), up_nc (by decide), uo _ (by decide) (by decide)]
    · rw [up_nc (by decide), up_nc (by decide), up_nk (by omega), up_nc (by decide), up_nc (by decide), uo _ (by decide) (by decide)]
    · rw [up_nc (by decide), up_nc (by decide), up_nc (by decide), up_nc (by decide), up_nk (by omega), uo _ (by decide) (by decide)]
    · rw [up_nc (by decide), up_nc (by decide), up_nc (by decide), up_nc (by decide), up_nc (by decide), u124, if_neg (by omega)]
  rw [t115, r1]
  refine ⟨by omega, fun hne => ?_, fun he => ?_⟩
  · cases R with
    | nil => exact absurd rfl hne
    | cons y R =>
      simp only [List.length_cons] at *
      rw [wid (by omega) (by omega), show ((R.length + 1 : Nat) : Int) - 1 = R.length by omega, hF.one (by decide)]
      refine ⟨by omega, ?_⟩
      have := go _ (show σ 123 R.length = opn (gM (σ 116)) (y :: R) from r4.2.2.1)
      rw [r1] at this; exact this
  · cases R with
    | cons y R => simp only [List.length_cons] at he; omega
    | nil =>
      have := go 0 rfl
      rw [r1] at this; exact this
theorem s_goesLast {K : Mem → Prop} {x : Int × Int} {g : GG} (hx : 0 ≤ x.1 ∧ x.1 < 6) (hin : ∀ y ∈ R, 0 ≤ y.1 ∧ y.1 < 6) (hb : bt (tkn R) x.1 = 0) (hR : MRow σ g (x :: R)) (q : ∀ τ : Mem, Fr [115] σ τ → keep [22, 23] σ τ → MRow τ g R → K τ) : CV E y_Mod_goesLast d [vr 115] σ K := by
  obtain ⟨r1, r2, r3, r4⟩ := hR
  simp only [List.length_cons] at r1 r2
  refine c_Mod_goesLast (b_Mod_goesLast_0 ?_)
  rw [r1, wid (by omega) (by omega), show ((R.length + 1 : Nat) : Int) - 1 = R.length by omega, r3, r4.1, show tkn (x :: R) = ior (tkn R) (ish 1 x.1) from rfl, bdrop (tkn_lt hin) hx hb]
  refine ⟨by omega, q _ (fun c hc => ?_) (fun k hk => ?_) ⟨?_, by omega, up_same _ _ _ _, r4.2.2.2.2.congr (fun i _ _ => ⟨?_, ?_, ?_, ?_⟩)⟩⟩
  · have n : c ≠ 115 := by simpa using hc
    rw [up_cell n, up_cell n]
  · have n : k ≠ 22 ∧ k ≠ 23 := by simpa using hk
    rw [up_nk n.2, up_nk n.1]
  · rw [up_nk (by decide), up_same]
  · rw [up_nc (by decide), up_nc (by decide)]
  · rw [up_nc (by decide), up_nc (by decide)]
  · rw [up_nc (by decide), up_nc (by decide)]
  · rw [up_nc (by decide), up_nc (by decide)]
theorem ord_ex (c : Int → Int) : ∀ n : Nat, ∃ o, OrdOK o c n
  | 0 => ⟨fun i => i, fun i a b => absurd b (by omega), fun i j a b e => absurd e (by omega), fun p a b => absurd b (by omega)⟩
  | n + 1 => by
    obtain ⟨o, ho⟩ := ord_ex c n
    -- the first place whose minute is later
    have key : ∀ m : Nat, m ≤ n → (∀ i : Int, m ≤ i → i < n → c n < c (o i)) → ∃ a : Int, 0 ≤ a ∧ a ≤ n ∧ (∀ i, 0 ≤ i → i < a → c (o i) ≤ c n) ∧ (∀ i, a ≤ i → i < n → c n < c (o i)) := by
      intro m
      induction m with
      | zero => intro _ h; exact ⟨0, by omega, by omega, fun i a b => absurd b (by omega), fun i a b => h i (by omega) b⟩
      | succ m ih =>
        intro hm h
        by_cases e : c (o m) ≤ c n
        · refine ⟨m + 1, by omega, by omega, fun i a b => ?_, fun i a b => h i (by omega) b⟩
          by_cases z : i = m
          · subst z; exact e
          · have := ho.2.1 i m a (by omega) (by omega)
            unfold lexl at this; omega
        · refine ih (by omega) (fun i a b => ?_)
          by_cases z : i = m
          · subst z; omega
          · exact h i (by omega) b
    obtain ⟨a, a0, a1, a2, a3⟩ := key n (Nat.le_refl _) (fun i a b => absurd b (by omega))
    refine ⟨fun i => if i < a then o i else if i = a then n else o (i - 1), ?_⟩
    have := ord_add (o2 := fun i => if i < a then o i else if i = a then (n : Int) else o (i - 1)) (c2 := c) (n := n) (at0 := a) (dn := c n) (by omega) ho ⟨a0, a1⟩ (fun i i0 i1 => if_pos i1) (by simp) (fun i i0 i1 => by rw [if_neg (by omega), if_neg (by omega)]; congr 1; omega) a2 a3 (fun p _ _ => rfl) rfl
    simpa using this
theorem s_mendedBy {K : Int → Mem → Prop} (hd : 3 ≤ d) (hT : MT (σ 116)) (hin : ∀ y ∈ R, inM (σ 116) y) (hR : MRow σ (gM (σ 116)) R) (q : ∀ (τ : Mem) (o : Int → Int), Fr [120, 125] σ τ → OrdOK o (copAt (gM (σ 116)) R) R.length → (∀ i : Nat, (i : Int) < R.length → τ 125 (o i) = endT (copAt (gM (σ 116)) R) (fun p => mdF (σ 116) (kAt R p)) o (i + 1)) → K (endV (gM (σ 116)) R) τ) : CI E y_Mod_mendedBy d [vr 115] σ K := by
  have hRb := Rb_of hT hin
  obtain ⟨r1, r2, r3, r4⟩ := hR
  obtain ⟨o, ho⟩ := ord_ex (copAt (gM (σ 116)) R) R.length
  have hcb := copAt_b hRb
  have hkb : ∀ p : Int, 0 ≤ p → p < R.length → (0 ≤ kAt R p ∧ kAt R p < σ 116 4) ∧ (0 ≤ mdF (σ 116) (kAt R p) ∧ mdF (σ 116) (kAt R p) ≤ 999) := by
    intro p p0 p1
    obtain ⟨x, hx, e, -⟩ := kAt_mem hin p p0 p1
    rw [e]; exact ⟨hx.1, (gM_b hT hx.1 hx.2).2.1⟩
  have hE := endT_b (c := copAt (gM (σ 116)) R) (m := fun p => mdF (σ 116) (kAt R p)) (o := o) (n := R.length) (M := 11988) (by omega) (fun i i0 i1 => by have := hcb (o i); omega) (fun i i0 i1 => (hkb _ (ho.1 i i0 i1).1 (ho.1 i i0 i1).2).2)
  have inner : ∀ (i : Nat) (D fr : Int) (τ : Mem), (i : Int) < R.length → 0 ≤ D ∧ D < 64 → (∀ j : Int, 0 ≤ j → j < R.length → (bt D j = 1 ↔ ∃ i2 : Int, 0 ≤ i2 ∧ i2 < i ∧ o i2 = j)) → Fr [120, 125] σ τ → (∀ (o5 : Option AV), Z E y_Mod_mendedBy d 94 [some (vr 115), some (vi D), some (vi fr), some (vi (i : Nat)), some (vi (o i)), o5] [vi (max fr (copAt (gM (σ 116)) R (o i)))] τ (qi K)) → ∀ (m j : Nat) (best : Int), j + m = R.length → ((best = -1 ∧ ∀ p : Int, 0 ≤ p → p < j → bt D p = 1) ∨ (0 ≤ best ∧ best < j ∧ bt D best = 0 ∧ ∀ p : Int, 0 ≤ p → p < j → bt D p = 0 → p ≠ best → lexl (copAt (gM (σ 116)) R) best p)) → Z E y_Mod_mendedBy d 20 [some (vr 115), some (vi D), some (vi fr), some (vi (i : Nat)), some (vi best), some (vi (j : Nat))] [] τ (qi K) := by
    intro i D fr τ hi hD hDb hF kk m
    have t22 : τ 115 22 = R.length := by rw [hF 115 (by decide)]; exact r1
    have t124 : ∀ p : Int, 0 ≤ p → p < R.length → τ 124 p = copAt (gM (σ 116)) R p := fun p p0 p1 => by rw [hF 124 (by decide)]; exact (r4.at p p0 p1).2.2
    have roi := ho.1 i (by omega) hi
    have boi : bt D (o i) = 0 := by
      rcases bt_01 D (o i) with e | e
      · exact e
      · obtain ⟨i2, a, b, e2⟩ := (hDb _ roi.1 roi.2).mp e
        have := ho.inj ⟨a, by omega⟩ ⟨by omega, hi⟩ e2
        omega
    induction m with
    | zero =>
      intro j best hm hb
      have hj : j = R.length := by omega
      subst hj
      have hbest : best = o i := by
        rcases hb with ⟨-, hall⟩ | ⟨b0, b1, b2, b3⟩
        · have := hall (o i) roi.1 roi.2; omega
        · rcases Classical.em (best = o i) with e | e
          · exact e
          · exfalso
            have l1 := b3 (o i) roi.1 roi.2 boi (fun z => e z.symm)
            obtain ⟨j0, c0, c1, c2⟩ := ho.2.2 best b0 b1
            have hge : (i : Int) ≤ j0 := by
              rcases Int.lt_or_le j0 i with z | z
              · have := (hDb best b0 b1).mpr ⟨j0, c0, z, c2⟩; omega
              · exact z
            have hne : j0 ≠ i := fun z => e (by rw [← c2, z])
            have l2 := ho.2.1 i j0 (by omega) (by omega) c1
            rw [c2] at l2
            exact lexl_asym l1 l2
      subst hbest
      refine b_Mod_mendedBy_20 (by omega) ⟨fun _ => ⟨by omega, ?_⟩, fun z => absurd z (by omega)⟩
      rw [t124 _ roi.1 roi.2]
      refine ⟨fun hle => ?_, fun hgt => ?_⟩
      · have := kk (some (vi (R.length : Nat))); rw [Int.max_eq_left (by omega)] at this; exact this
      · have := kk (some (vi (R.length : Nat))); rw [Int.max_eq_right (by omega)] at this; exact this
    | succ m ih =>
      intro j best hm hb
      refine b_Mod_mendedBy_20 (by omega) ⟨fun z => absurd z (by omega), fun _ => s_isIn (i32_64 ⟨by omega, by omega⟩) (by omega) ?_⟩
      rw [wid (by omega) (by omega)]
      have next : ∀ b2 : Int, ((b2 = -1 ∧ ∀ p : Int, 0 ≤ p → p < (j + 1 : Nat) → bt D p = 1) ∨ (0 ≤ b2 ∧ b2 < (j + 1 : Nat) ∧ bt D b2 = 0 ∧ ∀ p : Int, 0 ≤ p → p < (j + 1 : Nat) → bt D p = 0 → p ≠ b2 → lexl (copAt (gM (σ 116)) R) b2 p)) → Z E y_Mod_mendedBy d 20 [some (vr 115), some (vi D), some (vi fr), some (vi (i : Nat)), some (vi b2), some (vi ((j : Int) + 1))] [] τ (qi K) := fun b2 h2 => ih (j + 1) b2 (by omega) h2
      refine ⟨fun hne => next best ?_, fun he => ⟨fun hb1 => next j ?_, fun hb1 => ?_⟩⟩
      · have h1 : bt D j = 1 := by rcases bt_01 D j with e | e <;> omega
        rcases hb with ⟨e, hall⟩ | ⟨b0, b1, b2, b3⟩
        · exact Or.inl ⟨e, fun p p0 p1 => by
            by_cases z : p = j
            · subst z; exact h1
            · exact hall p p0 (by omega)⟩
        · exact Or.inr ⟨b0, by omega, b2, fun p p0 p1 hp hpn => b3 p p0 (by
            rcases Classical.em (p = j) with z | z
            · subst z; omega
            · omega) hp hpn⟩
      · rcases hb with ⟨e, hall⟩ | ⟨b0, -⟩
        · refine Or.inr ⟨by omega, by omega, he, fun p p0 p1 hp hpn => ?_⟩
          have := hall p p0 (by omega); omega
        · omega
      · rcases hb with ⟨e, -⟩ | ⟨b0, b1, b2, b3⟩
        · exact absurd e hb1
        · rw [t124 best b0 (by omega), t124 j (by omega) (by omega)]
          refine ⟨by omega, by omega, fun hle => next best (Or.inr ⟨b0, by omega, b2, fun p p0 p1 hp hpn => ?_⟩), fun hgt => next j (Or.inr ⟨by omega, by omega, he, fun p p0 p1 hp hpn => ?_⟩)⟩
          · by_cases z : p = j
            · subst z; unfold lexl; omega
            · exact b3 p p0 (by omega) hp hpn
          · by_cases z : p = best
            · subst z; unfold lexl; omega
            · have := b3 p p0 (by omega) hp z
              unfold lexl at *; omega
  have outer : ∀ (m i : Nat) (D : Int) (τ : Mem) (o4 o5 : Option AV), i + m = R.length → 0 ≤ D ∧ D < 64 → (∀ j : Int, 0 ≤ j → j < R.length → (bt D j = 1 ↔ ∃ i2 : Int, 0 ≤ i2 ∧ i2 < i ∧ o i2 = j)) → Fr [120, 125] σ τ → (∀ j : Nat, j < i → τ 125 (o j) = endT (copAt (gM (σ 116)) R) (fun p => mdF (σ 116) (kAt R p)) o (j + 1)) → Z E y_Mod_mendedBy d 6 [some (vr 115), some (vi D), some (vi (endT (copAt (gM (σ 116)) R) (fun p => mdF (σ 116) (kAt R p)) o i)), some (vi (i : Nat)), o4, o5] [] τ (qi K) := by
    intro m
    induction m with
    | zero =>
      intro i D τ o4 o5 hm hD hDb hF hmd
      have t22 : τ 115 22 = R.length := by rw [hF 115 (by decide)]; exact r1
      refine b_Mod_mendedBy_6 ⟨fun _ => ?_, fun z => absurd z (by omega)⟩
      have : i = R.length := by omega
      subst this
      have := q τ o hF ho (fun j hj => hmd j (by omega))
      rw [← endV_eq ho] at this
      exact this
    | succ m ih =>
      intro i D τ o4 o5 hm hD hDb hF hmd
      have t22 : τ 115 22 = R.length := by rw [hF 115 (by decide)]; exact r1
      have t116 : τ 116 = σ 116 := hF 116 (by decide)
      have roi := ho.1 i (by omega) (by omega)
      have hEi := hE i (by omega)
      have hci := hcb (o i)
      have hk := hkb _ roi.1 roi.2
      refine b_Mod_mendedBy_6 ⟨fun z => absurd z (by omega), fun _ => ?_⟩
      refine inner i D _ τ (by omega) hD hDb hF (fun o5 => ?_) R.length 0 (-1) (by omega) (Or.inl ⟨rfl, fun p p0 p1 => absurd p1 (by omega)⟩)
      refine b_Mod_mendedBy_94 (by omega) ⟨by omega, ?_⟩
      have e121 : τ 121 (o i) = kAt R (o i) := by rw [hF 121 (by decide)]; exact (r4.at _ roi.1 roi.2).1
      rw [e121]
      refine s_mendsIn (by omega) (by rw [t116]; exact hT) (by rw [t116]; exact hk.1) (fun υ hU => ?_)
      rw [t116, wid (by omega) (by omega), wid (by omega) (by omega)]
      refine ih (i + 1) (ior D (ish 1 (o i))) _ _ _ (by omega) (bor_lt hD (by omega)) (fun j j0 j1 => ?_) ?_ (fun j hj => ?_)
      · rw [bor hD (by omega) (by omega)]
        by_cases e : j = o i
        · rw [if_pos e]; exact ⟨fun _ => ⟨i, by omega, by omega, e.symm⟩, fun _ => rfl⟩
        · rw [if_neg e, hDb j j0 j1]
          refine ⟨fun ⟨i2, a, b, e2⟩ => ⟨i2, a, by omega, e2⟩, fun ⟨i2, a, b, e2⟩ => ⟨i2, a, ?_, e2⟩⟩
          rcases Classical.em (i2 = i) with z | z
          · subst z; exact absurd e2.symm e
          · omega
      · intro c hc
        have n : c ≠ 120 ∧ c ≠ 125 := by simpa using hc
        rw [up_cell n.2, hU.one n.1]; exact hF c hc
      · by_cases e : j = i
        · subst e; rw [up_same]; rfl
        · rw [up_nk (fun z => e (by have := ho.inj ⟨by omega, by omega⟩ ⟨by omega, by omega⟩ z; omega)), hU.one (by decide)]; exact hmd j (by omega)
  refine c_Mod_mendedBy (b_Mod_mendedBy_0 ?_)
  exact outer R.length 0 0 σ _ _ (by omega) (by omega) (fun j j0 j1 => ⟨fun z => absurd z (by simp [bt]), fun ⟨i2, a, b, _⟩ => absurd b (by omega)⟩) Fr.rf (fun j hj => absurd hj (by omega))
