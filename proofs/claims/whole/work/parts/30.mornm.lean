/-! the text's room does not hang on how things stand (keys 79 to 83) -/
def TE (T T2 : Int → Int) : Prop := ∀ k : Int, k < 79 ∨ 83 < k → T2 k = T k
theorem TE.rf {T : Int → Int} : TE T T := fun _ _ => rfl
theorem TE.tr {T T2 T3 : Int → Int} (h : TE T T2) (g : TE T2 T3) : TE T T3 := fun k hk => (g k hk).trans (h k hk)
theorem TE.up {T : Int → Int} {σ : Mem} {k v : Int} (h : TE T (σ 116)) (hk : 79 ≤ k ∧ k ≤ 83) : TE T (up σ 116 k v 116) := fun j hj => by
  rw [up_nk (by omega)]; exact h j hj
theorem TE.wd {T T2 : Int → Int} (h : TE T T2) {c k x : Int} (hk : 0 ≤ k ∧ k < 6) (hx : 0 ≤ x ∧ x < 3) : wdF T2 c k x = wdF T c k x := by
  unfold wdF
  rw [h (49 + k) (by omega), h (61 + k) (by omega), h (67 + k) (by omega), h (43 + k) (by omega), h (30 + x) (by omega)]
theorem TE.ec {T T2 : Int → Int} (h : TE T T2) {k x : Int} (hk : 0 ≤ k ∧ k < 6) (hx : 0 ≤ x ∧ x < 3) (st : List Int) (c : Int) : evc T2 k x st c = evc T k x st c := by
  unfold evc
  rw [h.wd hk hx]
theorem TE.es {T T2 : Int → Int} (h : TE T T2) {k x : Int} (hk : 0 ≤ k ∧ k < 6) (hx : 0 ≤ x ∧ x < 3) : ∀ (cs st : List Int), evs T2 k x cs st = evs T k x cs st
  | [], st => rfl
  | c :: cs, st => by
    show evs T2 k x cs (evc T2 k x st c) = evs T k x cs (evc T k x st c)
    rw [h.ec hk hx, TE.es h hk hx cs]
theorem TE.cs {T T2 : Int → Int} (h : TE T T2) {f : Int} (hf : 0 ≤ f) : ∀ (n : Nat) (i : Int), 0 ≤ i → cds T2 f n i = cds T f n i
  | 0, _, _ => rfl
  | n + 1, i, hi => by
    show T2 (136 + f + i) :: cds T2 f n (i + 1) = T (136 + f + i) :: cds T f n (i + 1)
    rw [h _ (by omega), TE.cs h hf n (i + 1) (by omega)]
theorem TE.lw {T T2 : Int → Int} (h : TE T T2) {l : Int} (hl : 0 ≤ l ∧ l < 4) (hK : lawOK T l) : lawOK T2 l := by
  unfold lawOK at hK ⊢
  rw [h (11 + l) (by omega), h (15 + l) (by omega), h.cs hK.1 _ _ (by omega)]
  exact hK
theorem TE.rk {T T2 : Int → Int} (h : TE T T2) {l k x : Int} (hl : 0 ≤ l ∧ l < 4) (hK : lawOK T l) (hk : 0 ≤ k ∧ k < 6) (hx : 0 ≤ x ∧ x < 3) : rkF T2 l k x = rkF T l k x := by
  unfold rkF
  rw [h (11 + l) (by omega), h (15 + l) (by omega), h.cs hK.1 _ _ (by omega), h.es hk hx]
theorem TE.mt {T T2 : Int → Int} (h : TE T T2) (hT : MT T) : MT T2 := by
  obtain ⟨a1, a2, a3, a4, a5, a6, a7, a8, a9, a10, a11⟩ := hT
  have e1 := h 1 (by omega)
  have e2 := h 2 (by omega)
  have e3 := h 3 (by omega)
  have e4 := h 4 (by omega)
  have e5 := h 5 (by omega)
  have e6 := h 6 (by omega)
  refine ⟨by rw [e1]; exact a1, by rw [e2]; exact a2, by rw [e3]; exact a3, by rw [e4]; exact a4, by rw [e5]; exact a5, by rw [e6]; exact a6, fun i i0 i1 => ?_, fun x x0 x1 => ?_, fun c c0 c1 => ?_, fun k k0 k1 => ?_, fun l l0 l1 => ?_⟩
  · rw [e6] at i1; rw [h (19 + i) (by omega)]; exact a7 i i0 i1
  · rw [h (27 + x) (by omega), h (30 + x) (by omega)]; exact a8 x x0 x1
  · rw [e3] at c1; rw [h (33 + c) (by omega)]; exact a9 c c0 c1
  · rw [e4] at k1; rw [e3, h (37 + k) (by omega), h (43 + k) (by omega), h (49 + k) (by omega), h (55 + k) (by omega), h (61 + k) (by omega), h (67 + k) (by omega), h (73 + k) (by omega)]; exact a10 k k0 k1
  · rw [h (7 + l) (by omega)]
    exact ⟨(a11 l l0 l1).1, fun z => h.lw ⟨l0, l1⟩ ((a11 l l0 l1).2 z)⟩
theorem TE.F {T T2 : Int → Int} (h : TE T T2) (hT : MT T) {k x : Int} (hk : 0 ≤ k ∧ k < 6) (hx : 0 ≤ x ∧ x < 3) : opF T2 k = opF T k ∧ cpF T2 k x = cpF T k x ∧ mdF T2 k = mdF T k ∧ shF T2 k = shF T k := by
  have L := hT.2.2.2.2.2.2.2.2.2.2
  have l0 := L 0 (by omega) (by omega)
  have l1 := L 1 (by omega) (by omega)
  have l2 := L 2 (by omega) (by omega)
  have l3 := L 3 (by omega) (by omega)
  unfold opF cpF mdF shF
  rw [h 7 (by omega), h 8 (by omega), h 9 (by omega), h 10 (by omega), h (49 + k) (by omega), h (30 + x) (by omega), h (61 + k) (by omega)]
  refine ⟨?_, ?_, ?_, ?_⟩
  · split
    · rfl
    · rename_i z; rw [h.rk (by omega) (l0.2 (by rcases l0.1 with e | e; exact absurd e z; exact e)) hk (by omega)]
  · split
    · rename_i z; rw [h.rk (by omega) (l1.2 z) hk hx]
    · rfl
  · split
    · rfl
    · rename_i z; rw [h.rk (by omega) (l2.2 (by rcases l2.1 with e | e; exact absurd e z; exact e)) hk (by omega)]
  · split
    · rfl
    · rename_i z; rw [h.rk (by omega) (l3.2 (by rcases l3.1 with e | e; exact absurd e z; exact e)) hk (by omega)]
