/-! the reference's best row -/
/-- what laysBest leaves -/
def LB (τ : Mem) (T : Int → Int) (wf rd A noon : Int) : Prop := (∃ B, IsBest T rd A noon B ∧ in63 B ∧ τ 115 28 = wor T B ∧ τ 115 27 = B.length ∧ τ 115 29 = endV (gM T) B ∧ ∀ i : Int, 0 ≤ i → i < B.length → τ 127 i = 10 * hAt B i + kAt B i) ∧ LSt τ T wf (CanB T rd A noon)
def lbK : List Int := [22, 23, 27, 28, 29, 30, 31, 32, 34]
theorem CanB.nil {T : Int → Int} {rd A noon : Int} (h : 0 ≤ noon) : CanB T rd A noon [] :=
  ⟨⟨trivial, fun x hx => by simp at hx⟩, fun x hx => by simp at hx, by rw [endV_nil]; exact h⟩
section
variable {E : EN} {T : Int → Int} {rd A noon : Int}
theorem t_laysBest {d : Nat} {σ : Mem} {K : Mem → Prop} (hd : 13 ≤ d) (hT : MT T) (hrd : 0 ≤ rd ∧ rd < 64) (hA : 0 ≤ A ∧ A < 8) (hn : 0 ≤ noon) (e6 : σ 116 = T) (q : ∀ τ, Fr gbC σ τ → keep lbK σ τ → LB τ T (σ 115 33) rd A noon → K τ) : CV E y_Mod_laysBest d [vr 115, vi rd, vi A, vi noon] σ K := by
  refine c_Mod_laysBest (b_Mod_laysBest_0 (by omega) (s_isNone (g := gM T) (fun τ1 hF1 hK1 hR1 => ?_)))
  have k33 : τ1 115 33 = σ 115 33 := hK1 33 (by decide)
  have e1 : τ1 116 = T := by rw [hF1 116 (by decide), e6]
  generalize hτ : (up (up (up (up (up (up τ1 115 30 rd) 115 31 A) 115 32 noon) 115 28 (-1)) 115 27 0) 115 34 1000) = τ2
  have f2 : Fr gbC σ τ2 := by
    subst hτ
    exact ((((((hF1.wk (by decide)).up (by decide)).up (by decide)).up (by decide)).up (by decide)).up (by decide)).up (by decide)
  have k2 : keep lbK σ τ2 := by
    subst hτ
    exact ((((((hK1.wk (by decide)).up (by decide)).up (by decide)).up (by decide)).up (by decide)).up (by decide)).up (by decide)
  have hG : GBp τ2 rd A noon (σ 115 33) := by
    subst hτ
    refine ⟨by simp [up], by simp [up], by simp [up], ?_⟩
    rw [← k33]; simp [up]
  have hR2 : MRow τ2 (gM T) [] := by
    have : τ2 115 22 = τ1 115 22 ∧ τ2 115 23 = τ1 115 23 := by subst hτ; exact ⟨by simp [up], by simp [up]⟩
    exact ⟨this.1.trans hR1.1, hR1.2.1, this.2.trans hR1.2.2.1, trivial⟩
  have h28 : τ2 115 28 = -1 := by subst hτ; simp [up]
  have h34 : τ2 115 34 = 1000 := by subst hτ; simp [up]
  have e2 : τ2 116 = T := by rw [f2 116 (by decide), e6]
  have hro : RO T A [] := ⟨trivial, fun x hx => by simp at hx⟩
  refine t_goesBest (R := []) (V := fun _ => False) hT hrd hA 6 (by simp) (by omega) e2 hG hro (fun x hx => by simp at hx) hR2 (Or.inr ⟨fun _ h => h, h28⟩) ⟨by omega, Or.inl h34, fun R h => h.elim⟩ (fun R h => h.elim) (fun τ hF hK hR hB hL => ?_)
  have hiff : ∀ Q, (CanB T rd A noon Q) ↔ (False ∨ ∃ L, Q = L ++ [] ∧ CanB T rd A noon Q) := fun Q => ⟨fun h => Or.inr ⟨Q, by simp, h⟩, fun h => h.elim False.elim (fun ⟨_, _, c⟩ => c)⟩
  have hB2 := hB.cg (V2 := CanB T rd A noon) rfl rfl rfl rfl hiff
  have hL2 := hL.cg (V2 := CanB T rd A noon) rfl hiff
  refine q τ (f2.tr hF) (k2.tr (hK.wk (by decide))) ⟨?_, hL2⟩
  rcases hB2 with ⟨B, b1, b2, b3, b4, b5, b6, b7⟩ | ⟨b1, -⟩
  · exact ⟨B, ⟨b1, b7⟩, b2, b3, b4, b5, b6⟩
  · exact (b1 [] (CanB.nil hn)).elim
end
/-- a best row is told by its numbers -/
theorem IsBest.wl {T : Int → Int} {rd A noon : Int} {B C : RL} (h : IsBest T rd A noon B) (g : IsBest T rd A noon C) : wor T B = wor T C ∧ B.length = C.length := by
  have h1 := h.2 C g.1
  have h2 := g.2 B h.1
  refine ⟨by omega, by omega⟩
theorem suf_le {R S : RL} : ∀ {m n : Nat}, n ≤ m → m ≤ R.length → m ≤ S.length → suf R m = suf S m → suf R n = suf S n
  | 0, n, h, _, _, _ => by rw [show n = 0 by omega, suf_0, suf_0]
  | m + 1, n, h, hR, hS, e => by
    by_cases hn : n = m + 1
    · rw [hn]; exact e
    · have a := (suf_at (gM (fun _ => 0)) R m (by omega)).1
      have b := (suf_at (gM (fun _ => 0)) S m (by omega)).1
      rw [a, b] at e
      exact suf_le (m := m) (by omega) (by omega) (by omega) (List.cons.inj e).2
theorem suf_nx {R S : RL} {m n : Nat} (h : n < m) (hR : m ≤ R.length) (hS : m ≤ S.length) (e : suf R m = suf S m) : kAt R n = kAt S n ∧ hAt R n = hAt S n := by
  have e2 := suf_le (n := n + 1) (by omega) hR hS e
  rw [(suf_at (gM (fun _ => 0)) R n (by omega)).1, (suf_at (gM (fun _ => 0)) S n (by omega)).1] at e2
  have := (List.cons.inj e2).1
  exact ⟨congrArg Prod.fst this, congrArg Prod.snd this⟩
theorem lexR.as {R S : RL} (h : lexR R S) (g : lexR S R) : False := by
  obtain ⟨n, n1, n2, n3, n4⟩ := h
  obtain ⟨m, m1, m2, m3, m4⟩ := g
  rcases Nat.lt_trichotomy n m with c | c | c
  · have := suf_nx c (by omega) (by omega) m3
    rw [this.1, this.2] at n4; omega
  · subst c; omega
  · have := suf_nx c (by omega) (by omega) n3
    rw [this.1, this.2] at m4; omega
/-- there is one best row -/
theorem IsBest.one {T : Int → Int} {rd A noon : Int} {B C : RL} (h : IsBest T rd A noon B) (g : IsBest T rd A noon C) : B = C := by
  have h1 := h.2 C g.1
  have h2 := g.2 B h.1
  have w := h.wl g
  rcases h1 with a | ⟨-, a | ⟨-, a | a⟩⟩
  · omega
  · omega
  · exact a.symm
  · rcases h2 with b | ⟨-, b | ⟨-, b | b⟩⟩
    · omega
    · omega
    · exact b
    · exact (a.as b).elim
