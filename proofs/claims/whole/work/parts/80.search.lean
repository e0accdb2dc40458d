/-! the planner: search -/
theorem RowC.cel {σ τ : Mem} {g : GG} {R : RL} {w : Nat} (h : RowC σ w g R) (e : ∀ c, w ≤ c → c ≤ w + 8 → τ c = σ c) : RowC τ w g R := by
  obtain ⟨h1, h2, h3, h4, h5, h6, h7⟩ := h
  refine ⟨by rw [e w (by omega) (by omega)]; exact h1, h2, by rw [e w (by omega) (by omega)]; exact h3, h4.congr (fun i _ _ => by rw [e _ (by omega) (by omega), e _ (by omega) (by omega), e _ (by omega) (by omega), e _ (by omega) (by omega)]; exact ⟨rfl, rfl, rfl, rfl⟩), fun x a b => by rw [e _ (by omega) (by omega)]; exact h5 x a b, h6.congr (fun i _ _ => by rw [e _ (by omega) (by omega)]), by rw [e _ (by omega) (by omega)]; exact h7⟩
theorem row82 {c : Nat} (h : c < 82 ∨ 90 < c) : c ∉ rowS 82 := by simp [rowS]; omega
theorem snocE : ∀ (L : RL), L = [] ∨ ∃ L2 y, L = L2 ++ [y]
  | [] => Or.inl rfl
  | x :: L => by
    rcases snocE L with e | ⟨L2, y, e⟩
    · subst e; exact Or.inr ⟨[], x, rfl⟩
    · exact Or.inr ⟨x :: L2, y, by rw [e]; rfl⟩
theorem bit_x1 : ∀ a : Fin 64, (a.val : Int) ≠ 0 → ∃ j : Fin 6, bt (a.val : Int) (j.val : Int) = 1 := by decide +kernel
theorem bit_x {a : Int} (ha : 0 ≤ a ∧ a < 64) (hn : a ≠ 0) : ∃ j : Int, 0 ≤ j ∧ j < 6 ∧ bt a j = 1 := by
  have := bit_x1 ⟨a.toNat, by omega⟩
  simp only [show ((a.toNat : Nat) : Int) = a by omega] at this
  obtain ⟨j, hj⟩ := this hn
  exact ⟨j.val, by omega, by have := j.isLt; omega, hj⟩
theorem tkn_sp {T : Int → Int} (hT : MT T) {L P : RL} (h : RV T (L ++ P)) {s : Int} (hs : 0 ≤ s ∧ s < 64) (e : ∀ j : Int, 0 ≤ j → j < 6 → bt s j = if bt (tkn (L ++ P)) j = 1 ∧ bt (tkn P) j = 0 then 1 else 0) : tkn L = s := by
  have a := (RV_iff hT).mp h
  rw [List.map_append] at a
  have dj := (List.nodup_append.mp a.2).2.2
  have i0 := in63.of hT h
  have iL : in63 L := fun x hx => i0 x (List.mem_append_left _ hx)
  have iP : in63 P := fun x hx => i0 x (List.mem_append_right _ hx)
  refine ext6 (tkn_lt (fun x hx => (iL x hx).1)) hs (fun j j0 j1 => ?_)
  rw [e j j0 j1]
  have eL := tkn_bt iL (j := j) ⟨j0, j1⟩
  have eP := tkn_bt iP (j := j) ⟨j0, j1⟩
  have e0 := tkn_bt i0 (j := j) ⟨j0, j1⟩
  rcases bt_01 (tkn L) j with z | z
  · rw [z, if_neg]
    rintro ⟨c1, c2⟩
    obtain ⟨x, x1, x2⟩ := e0.mp c1
    rcases List.mem_append.mp x1 with y | y
    · have := eL.mpr ⟨x, y, x2⟩; omega
    · have := eP.mpr ⟨x, y, x2⟩; omega
  · rw [z, if_pos]
    obtain ⟨x, x1, x2⟩ := eL.mp z
    refine ⟨e0.mpr ⟨x, List.mem_append_left _ x1, x2⟩, ?_⟩
    rcases bt_01 (tkn P) j with y | y
    · exact y
    · obtain ⟨u, u1, u2⟩ := eP.mp y
      exact (dj x.1 (List.mem_map.mpr ⟨x, x1, rfl⟩) u.1 (List.mem_map.mpr ⟨u, u1, rfl⟩) (by rw [x2, u2])).elim
theorem Cn.app {g : GG} {R : RL} : ∀ {L : RL}, Cn g (L ++ R) → Cn g R
  | [], h => h
  | _ :: _, h => Cn.app h.2
/-- what the planner has at hand: the table is right for the sets below S -/
def PE (T : Int → Int) (A S : Int) (σ : Mem) : Prop := HR σ 2 T ∧ σ 92 4 = 64 * A ∧ PQ σ T A ∧ ∀ S2 : Int, 0 ≤ S2 → S2 < S → IsSoon T A S2 (σ 13 (64 * A + S2)) ∧ 0 ≤ σ 13 (64 * A + S2)
def plC : List Nat := [82, 83, 84, 85, 86, 87, 88, 89, 90, 92]
theorem PE.fr {T : Int → Int} {A S : Int} {σ τ : Mem} (h : PE T A S σ) (hF : Fr plC σ τ) (e4 : τ 92 4 = σ 92 4) : PE T A S τ := by
  obtain ⟨a, b, c, e⟩ := h
  refine ⟨a.fr (fun c c0 c1 => hF c (by simp [plC]; omega)), by rw [e4]; exact b, ?_, ?_⟩
  · unfold PQ at c ⊢; rw [hF 93 (by decide), hF 94 (by decide)]; exact c
  · rw [hF 13 (by decide)]; exact e
theorem Fr82 {σ τ : Mem} (h : Fr (rowS 82) σ τ) : Fr plC σ τ := h.wk (by decide)
theorem Fr87 {σ τ : Mem} (h : Fr [87] σ τ) : Fr plC σ τ := h.wk (by decide)
/-- found, from σ to τ: of the rows P no one that is in order is sooner, but by the floor -/
def SI (T : Int → Int) (A S : Int) (σ τ : Mem) (P : RL → Prop) : Prop := (τ 92 5 ≤ σ 92 5 ∧ 0 ≤ τ 92 5) ∧ (τ 92 5 = σ 92 5 ∨ ∃ Q, RO T A Q ∧ tkn Q = S ∧ endV (gM T) Q = τ 92 5) ∧ ∀ Q, RO T A Q → tkn Q = S → Cn (gM T) Q → P Q → τ 92 5 ≤ endV (gM T) Q ∨ τ 92 5 ≤ σ 92 6
theorem SI.tr {T : Int → Int} {A S : Int} {σ τ υ : Mem} {P P2 P3 : RL → Prop} (h1 : SI T A S σ τ P) (h2 : SI T A S τ υ P2) (e6 : τ 92 6 = σ 92 6) (hP : ∀ Q, RO T A Q → tkn Q = S → Cn (gM T) Q → P3 Q → P Q ∨ P2 Q) : SI T A S σ υ P3 := by
  obtain ⟨⟨a1, a2⟩, a3, a4⟩ := h1
  obtain ⟨⟨b1, b2⟩, b3, b4⟩ := h2
  refine ⟨⟨by omega, b2⟩, ?_, fun Q q1 q2 q3 q4 => ?_⟩
  · rcases b3 with z | z
    · rw [z]; exact a3
    · exact Or.inr z
  · rcases hP Q q1 q2 q3 q4 with z | z
    · rcases a4 Q q1 q2 q3 z with y | y
      · exact Or.inl (by omega)
      · exact Or.inr (by omega)
    · have := b4 Q q1 q2 q3 z
      rw [e6] at this; exact this
theorem SI.cg {T : Int → Int} {A S : Int} {σ τ υ : Mem} {P P3 : RL → Prop} (h : SI T A S σ τ P) (e5 : υ 92 5 = τ 92 5) (hP : ∀ Q, RO T A Q → tkn Q = S → Cn (gM T) Q → P3 Q → P Q ∨ τ 92 5 ≤ endV (gM T) Q) : SI T A S σ υ P3 := by
  obtain ⟨a1, a3, a4⟩ := h
  refine ⟨by rw [e5]; exact a1, by rw [e5]; exact a3, fun Q q1 q2 q3 q4 => ?_⟩
  rw [e5]
  rcases hP Q q1 q2 q3 q4 with z | z
  · exact a4 Q q1 q2 q3 z
  · exact Or.inl z
def PB (R : RL) (k h : Int) (Q : RL) : Prop := ∃ L y, Q = L ++ y :: R ∧ (y.1 < k ∨ y.1 = k ∧ y.2 < h)
theorem PB.nx {T : Int → Int} {R : RL} {k h : Int} {Q : RL} (q : PB R k (h + 1) Q) : PB R k h Q ∨ ∃ L, Q = L ++ (k, h) :: R := by
  obtain ⟨L, y, a, b⟩ := q
  by_cases e : y.1 = k ∧ y.2 = h
  · have ey : y = (k, h) := by rw [← e.1, ← e.2]
    rw [ey] at a; exact Or.inr ⟨L, a⟩
  · exact Or.inl ⟨L, y, a, by omega⟩
section
variable {E : EN} {T : Int → Int}
theorem search_0 (hT : MT T) {A S : Int} {d : Nat} {σ : Mem} {R : RL} {K : Mem → Prop} (hd : 1 ≤ d) (hP : PE T A S σ) (hRO : RO T A R) (hR : RowC σ 82 (gM T) R) (eS : tkn R = S) (h5 : 0 ≤ σ 92 5 ∧ σ 92 5 ≤ 1000) (q : ∀ τ, Fr plC σ τ → (∀ k, k ≠ 5 → τ 92 k = σ 92 k) → RowC τ 82 (gM T) R → SI T A S σ τ (fun Q => ∃ L, Q = L ++ R) → K τ) : CI E y_Row_end d [vr 82] σ (fun x1 τ1 => CI E y_Math_min_II d [vi (σ 92 5), vi x1] τ1 (fun x2 τ2 => K (up τ2 92 5 x2))) := by
  have w82 : isRow 82 := Or.inr rfl
  have hb := Rb_of hT hRO.1.mem
  refine s_Row_end w82 hd (hP.1.hp hT).2.2.2.1 (hP.1.rb hT) (RV.in (hP.1.hp hT) hT hRO.1) hb hR (fun τ hF _ => s_Math_min (q _ ((Fr87 hF).up (by decide)) (fun k hk => ?_) ?_ ⟨⟨?_, ?_⟩, ?_, fun Q q1 q2 q3 q4 => ?_⟩))
  · rw [up_nk hk, hF 92 (by decide)]
  · exact (hR.md hF).cel (fun c c0 c1 => up_cell (by omega))
  · rw [up_same]; omega
  · rw [up_same]; have := endV_nn hb; omega
  · rw [up_same]
    rcases Int.le_total (σ 92 5) (endV (gM T) R) with z | z
    · exact Or.inl (by omega)
    · exact Or.inr ⟨R, hRO, eS, by omega⟩
  · rw [up_same]
    obtain ⟨L, e⟩ := q4
    subst e
    have := endV_app (Rb_of hT q1.1.mem)
    exact Or.inl (by omega)
set_option maxHeartbeats 2000000 in
theorem s_Plan_search (hT : MT T) {A S : Int} (hA : 0 ≤ A ∧ A < 8) (hS : 0 ≤ S ∧ S < 64) (hSl : ∀ j : Int, 0 ≤ j → j < 6 → bt S j = 1 → j < T 4) : ∀ (m : Nat) {d : Nat} {σ : Mem} {R : RL} {rest dep : Int} {K : Mem → Prop}, R.length + m = 6 → 4 + m ≤ d → dep = R.length → PE T A S σ → RO T A R → RowC σ 82 (gM T) R → (0 ≤ rest ∧ rest < 64) → rest ≤ S → (∀ j : Int, 0 ≤ j → j < 6 → bt rest j = if bt S j = 1 ∧ bt (tkn R) j = 0 then 1 else 0) → (∀ j : Int, 0 ≤ j → j < 6 → bt (tkn R) j = 1 → bt S j = 1) → (0 ≤ σ 92 5 ∧ σ 92 5 ≤ 1000) → (∀ τ, Fr plC σ τ → (∀ k, k ≠ 5 → τ 92 k = σ 92 k) → RowC τ 82 (gM T) R → SI T A S σ τ (fun Q => ∃ L, Q = L ++ R) → K τ) → CV E y_Plan_search d [vr 92, vi rest, vi dep] σ K := by
  have w82 : isRow 82 := Or.inr rfl
  have t4 := hT.2.2.2.1
  have t2 := hT.2.1
  have full : ∀ {R : RL} {rest : Int}, RO T A R → rest = 0 → (∀ j : Int, 0 ≤ j → j < 6 → bt rest j = if bt S j = 1 ∧ bt (tkn R) j = 0 then 1 else 0) → (∀ j : Int, 0 ≤ j → j < 6 → bt (tkn R) j = 1 → bt S j = 1) → tkn R = S := by
    intro R rest hRO z hr hin
    refine ext6 (tkn_lt (fun x hx => ((in63.of hT hRO.1) x hx).1)) hS (fun j j0 j1 => ?_)
    have a := hr j j0 j1
    rw [z, bt0] at a
    have b := hin j j0 j1
    rcases bt_01 (tkn R) j with u | u <;> rcases bt_01 S j with v | v
    · omega
    · rw [if_pos ⟨v, u⟩] at a; omega
    · have := b u; omega
    · omega
  intro m
  induction m with
  | zero =>
    intro d σ R rest dep K hm hd hdep hP hRO hR hrest hle hr hin h5 q
    refine c_Plan_search (b_Plan_search_0 (by omega) ⟨fun z => search_0 hT (by omega) hP hRO hR (full hRO z hr hin) h5 q, fun ne => ?_⟩)
    exfalso
    obtain ⟨j, j0, j1, jb⟩ := bit_x hrest ne
    have a := hr j j0 j1
    rw [jb] at a
    have c : bt S j = 1 ∧ bt (tkn R) j = 0 := by
      by_cases c : bt S j = 1 ∧ bt (tkn R) j = 0
      · exact c
      · rw [if_neg c] at a; omega
    have := RV.lt hT hRO.1 ⟨j0, j1⟩ c.2
    omega
  | succ m ihm =>
    intro d σ R rest dep K hm hd hdep hP hRO hR hrest hle hr hin h5 q
    refine c_Plan_search (b_Plan_search_0 (by omega) ⟨fun z => search_0 hT (by omega) hP hRO hR (full hRO z hr hin) h5 q, fun ne => ⟨fun _ => ?_, fun z => absurd z (by omega)⟩⟩)
    have hl : R.length < 6 := by omega
    have hb := Rb_of hT hRO.1.mem
    have itk := tkn_lt (fun x hx => ((in63.of hT hRO.1) x hx).1)
    have outer : ∀ (n : Nat) (k : Int) (τ : Mem) (o4 o5 o6 : Option AV), 0 ≤ k → k + n = T 4 → Fr plC σ τ → (∀ i, i ≠ 5 → τ 92 i = σ 92 i) → RowC τ 82 (gM T) R → SI T A S σ τ (PB R k 0) → Z E y_Plan_search d 31 [some (vr 92), some (vi rest), some (vi dep), some (vi k), o4, o5, o6] [] τ (qv K) := by
      intro n
      induction n with
      | zero =>
        intro k τ o4 o5 o6 k0 hk hF hK hRt hSI
        have hPt := hP.fr hF (hK 4 (by decide))
        have p3 : τ 2 3 = T 4 := hPt.1.1.2.2.2.1
        refine b_Plan_search_31 ⟨fun _ => q τ hF hK hRt (hSI.cg rfl (fun Q q1 q2 q3 q4 => Or.inl ?_)), fun z => absurd z (by omega)⟩
        obtain ⟨L, e⟩ := q4
        rcases snocE L with z | ⟨L2, y, z⟩
        · subst z
          have e2 : Q = R := e
          rw [e2] at q2
          obtain ⟨j, j0, j1, jb⟩ := bit_x hrest ne
          have a := hr j j0 j1
          rw [q2, jb] at a
          rcases bt_01 S j with u | u
          · rw [if_neg (fun c => by omega)] at a; omega
          · rw [if_neg (fun c => by omega)] at a; omega
        · subst z
          have e2 : Q = L2 ++ y :: R := by rw [e]; simp
          rw [e2] at q1
          have hy : inM T y := (q1.spl (L := L2)).1.1
          exact ⟨L2, y, e2, Or.inl (by have := hy.1; omega)⟩
      | succ n iho =>
        intro k τ o4 o5 o6 k0 hk hF hK hRt hSI
        have hPt := hP.fr hF (hK 4 (by decide))
        have p3 : τ 2 3 = T 4 := hPt.1.1.2.2.2.1
        have k6 : 0 ≤ k ∧ k < 6 := ⟨k0, by omega⟩
        have nxo : ∀ (τ2 : Mem) (o4 o5 o6 : Option AV), Fr plC σ τ2 → (∀ i, i ≠ 5 → τ2 92 i = σ 92 i) → RowC τ2 82 (gM T) R → SI T A S σ τ2 (PB R (k + 1) 0) → Z E y_Plan_search d 31 [some (vr 92), some (vi rest), some (vi dep), some (vi (w32 (k + 1))), o4, o5, o6] [] τ2 (qv K) := by
          intro τ2 o4 o5 o6 a b c e
          rw [wid (x := k + 1) (by omega) (by omega)]
          exact iho (k + 1) τ2 o4 o5 o6 (by omega) (by omega) a b c e
        have inner : ∀ (a4 : Int), (∀ h : Int, 0 ≤ h → h < T 2 → (bt a4 h = 1 ↔ bt rest k = 1 ∧ bt A h = 1 ∧ bt (T (27 + h)) (T (43 + k)) = 1)) → ∀ (n : Nat) (h : Int) (τ : Mem), 0 ≤ h → h + n = T 2 → Fr plC σ τ → (∀ i, i ≠ 5 → τ 92 i = σ 92 i) → RowC τ 82 (gM T) R → SI T A S σ τ (PB R k h) → Z E y_Plan_search d 80 [some (vr 92), some (vi rest), some (vi dep), some (vi k), some (vi a4), some (vi (ian rest (ixo (ish 1 k) (-1)))), some (vi h)] [] τ (qv K) := by
          intro a4 ha4 n
          induction n with
          | zero =>
            intro h τ h0 hh hF hK hRt hSI
            have hPt := hP.fr hF (hK 4 (by decide))
            have p1 : τ 2 1 = T 2 := hPt.1.1.2.1
            refine b_Plan_search_80 (by omega) ⟨fun _ => nxo τ _ _ _ hF hK hRt (hSI.cg rfl (fun Q q1 q2 q3 q4 => Or.inl ?_)), fun z => absurd z (by omega)⟩
            obtain ⟨L, y, e, c⟩ := q4
            rw [e] at q1
            have hy : inM T y := (q1.spl (L := L)).1.1
            have y2 := hy.2
            exact ⟨L, y, e, by omega⟩
          | succ n ihi =>
            intro h τ h0 hh hF hK hRt hSI
            have hPt := hP.fr hF (hK 4 (by decide))
            have p1 : τ 2 1 = T 2 := hPt.1.1.2.1
            have p3 : τ 2 3 = T 4 := hPt.1.1.2.2.2.1
            have nxi : ∀ (τ2 : Mem), Fr plC σ τ2 → (∀ i, i ≠ 5 → τ2 92 i = σ 92 i) → RowC τ2 82 (gM T) R → SI T A S σ τ2 (PB R k (h + 1)) → Z E y_Plan_search d 80 [some (vr 92), some (vi rest), some (vi dep), some (vi k), some (vi a4), some (vi (ian rest (ixo (ish 1 k) (-1)))), some (vi (w32 (h + 1)))] [] τ2 (qv K) := by
              intro τ2 a b c e
              rw [wid (x := h + 1) (by omega) (by omega)]
              exact ihi (h + 1) τ2 (by omega) (by omega) a b c e
            refine b_Plan_search_80 (by omega) ⟨fun z => absurd z (by omega), fun _ => ⟨fun fl => ?_, fun _ => ?_⟩⟩
            · refine nxo τ _ _ _ hF hK hRt ⟨hSI.1, hSI.2.1, fun Q _ _ _ _ => Or.inr ?_⟩
              rw [← hK 6 (by decide)]; exact fl
            · rw [bit_eqU (by omega)]
              refine ⟨fun z => nxi τ hF hK hRt (hSI.cg rfl (fun Q q1 q2 q3 q4 => ?_)), fun z => ?_⟩
              · rcases q4.nx (T := T) with y | ⟨L, e⟩
                · exact Or.inl y
                · exfalso
                  rw [e] at q1 q2
                  have r1 := q1.spl (L := L)
                  have r2 := r1.2 (k, h) List.mem_cons_self
                  have bS : bt S k = 1 := by rw [← q2]; exact (tkn_bt (in63.of hT q1.1) k6).mpr ⟨(k, h), by simp, rfl⟩
                  have bR : bt (tkn R) k = 0 := r1.1.2.1
                  have br : bt rest k = 1 := by rw [hr k k6.1 k6.2, if_pos ⟨bS, bR⟩]
                  have := (ha4 h h0 (by omega)).mpr ⟨br, r2.1, r2.2⟩
                  omega
              · have b1 : bt a4 h = 1 := by rcases bt_01 a4 h with y | y; exact absurd y z; exact y
                obtain ⟨br, bA, bT⟩ := (ha4 h h0 (by omega)).mp b1
                have bSR : bt S k = 1 ∧ bt (tkn R) k = 0 := by
                  have a := hr k k6.1 k6.2
                  by_cases c : bt S k = 1 ∧ bt (tkn R) k = 0
                  · exact c
                  · rw [if_neg c] at a; omega
                have hxM : inM T (k, h) := ⟨⟨k0, by omega⟩, ⟨h0, by omega⟩⟩
                have hRO2 : RO T A ((k, h) :: R) := ⟨⟨hxM, bSR.2, hRO.1⟩, fun y hy => by
                  rcases List.mem_cons.mp hy with rfl | hy
                  · exact ⟨bA, bT⟩
                  · exact hRO.2 y hy⟩
                have h3 : 0 ≤ h ∧ h < 3 := ⟨h0, by omega⟩
                have llt := bless_lt hrest k6 br
                have lb : ∀ j : Int, 0 ≤ j → j < 6 → bt (ian rest (ixo (ish 1 k) (-1))) j = if bt S j = 1 ∧ bt (tkn ((k, h) :: R)) j = 0 then 1 else 0 := by
                  intro j j0 j1
                  have e1 : bt (tkn ((k, h) :: R)) j = if j = k then 1 else bt (tkn R) j := bor itk k6 ⟨j0, j1⟩
                  rw [bless hrest k6 ⟨j0, j1⟩, e1, hr j j0 j1]
                  by_cases e : j = k
                  · rw [if_pos e, if_pos e, if_neg (fun c => by omega)]
                  · rw [if_neg e, if_neg e]
                have hin2 : ∀ j : Int, 0 ≤ j → j < 6 → bt (tkn ((k, h) :: R)) j = 1 → bt S j = 1 := by
                  intro j j0 j1
                  have e1 : bt (tkn ((k, h) :: R)) j = if j = k then 1 else bt (tkn R) j := bor itk k6 ⟨j0, j1⟩
                  rw [e1]
                  by_cases e : j = k
                  · intro _; rw [e]; exact bSR.1
                  · rw [if_neg e]; exact hin j j0 j1
                have fin : ∀ τ2, Fr plC σ τ2 → (∀ i, i ≠ 5 → τ2 92 i = σ 92 i) → RowC τ2 82 (gM T) ((k, h) :: R) → SI T A S σ τ2 (PB R k (h + 1)) → CV E y_Row_drop (d - 1) [vr 82] τ2 (fun τ3 => Z E y_Plan_search d 80 [some (vr 92), some (vi rest), some (vi dep), some (vi k), some (vi a4), some (vi (ian rest (ixo (ish 1 k) (-1)))), some (vi (w32 (h + 1)))] [] τ3 (qv K)) := by
                  intro τ2 hF2 hK2 hR2 hS2
                  refine s_Row_drop (x := (k, h)) w82 h3 hR2 (bdrop itk k6 bSR.2) (fun τ3 hF3 hR3 => nxi τ3 (hF2.tr (Fr82 hF3)) (fun i hi => ?_) hR3 (hS2.cg ?_ (fun Q _ _ _ z => Or.inl z)))
                  · rw [hF3 92 (row82 (by omega))]; exact hK2 i hi
                  · rw [hF3 92 (row82 (by omega))]
                refine s_Row_add (x := (k, h)) w82 (by omega) (hPt.1.rb hT) (hPt.1.hp hT).2.2.2.1 ⟨⟨k0, by show k < τ 2 3; omega⟩, ⟨h0, by show h < τ 2 1; omega⟩⟩ (gM_b hT hxM.1 hxM.2) hb hRt hl (fun τ1 hF1 hR1 => ?_)
                have hF1' := Fr82 hF1
                have e92 : τ1 92 = τ 92 := hF1 92 (row82 (by omega))
                have hP1 := hPt.fr hF1' (by rw [e92])
                have hS1 : ∀ {P : RL → Prop}, SI T A S σ τ P → SI T A S σ τ1 P := fun hs => hs.cg (by rw [e92]) (fun Q _ _ _ z => Or.inl z)
                have hK1 : ∀ i, i ≠ 5 → τ1 92 i = σ 92 i := fun i hi => by rw [e92]; exact hK i hi
                refine s_Row_isBetterSwapped w82 hR1 (fun bsw => ⟨fun _ => fin τ1 (hF.tr hF1') hK1 hR1 ((hS1 hSI).cg rfl (fun Q q1 q2 q3 q4 => ?_)), fun z => absurd z (by decide)⟩) (fun nbs => ⟨fun z => absurd rfl z, fun _ => ?_⟩)
                · rcases q4.nx (T := T) with y | ⟨L, e⟩
                  · exact Or.inl y
                  · rw [e] at q3; exact absurd bsw q3.app.1
                · refine s_Plan_leastEnd (S := ian rest (ixo (ish 1 k) (-1))) (R := (k, h) :: R) (by omega) hT hP1.1 hA hP1.2.1 hP1.2.2.1 ⟨llt.1, by omega⟩ (fun hne => ?_) (fun _ => hP1.2.2.2 _ llt.1 (by omega)) hRO2 hR1 (fun x τ4 hF4 _ hx => ⟨fun le => ?_, fun lt => ?_⟩)
                  · obtain ⟨j, j0, j1, jb⟩ := bit_x ⟨llt.1, by omega⟩ hne
                    refine ⟨j, ⟨j0, hSl j j0 j1 ?_⟩, jb⟩
                    have a := lb j j0 j1
                    rw [jb] at a
                    by_cases c : bt S j = 1 ∧ bt (tkn ((k, h) :: R)) j = 0
                    · exact c.1
                    · rw [if_neg c] at a; omega
                  · have e4 : τ4 92 = τ1 92 := hF4 92 (by decide)
                    refine fin τ4 ((hF.tr hF1').tr (Fr87 hF4)) (fun i hi => by rw [e4]; exact hK1 i hi) (hR1.md hF4) ((hS1 hSI).cg (by rw [e4]) (fun Q q1 q2 q3 q4 => ?_))
                    rcases q4.nx (T := T) with y | ⟨L, e⟩
                    · exact Or.inl y
                    · refine Or.inr ?_
                      rw [e] at q1 q2 ⊢
                      have tl := tkn_sp hT q1.1 ⟨llt.1, by omega⟩ (fun j j0 j1 => by rw [q2]; exact lb j j0 j1)
                      have := hx L q1 tl
                      rw [e4] at le
                      omega
                  · have e4 : τ4 92 = τ1 92 := hF4 92 (by decide)
                    have hS4 : SI T A S σ τ4 (PB R k h) := (hS1 hSI).cg (by rw [e4]) (fun Q _ _ _ z => Or.inl z)
                    have hK4 : ∀ i, i ≠ 5 → τ4 92 i = σ 92 i := fun i hi => by rw [e4]; exact hK1 i hi
                    rw [wid (x := dep + 1) (by omega) (by omega)]
                    refine ihm (R := (k, h) :: R) (by simp only [List.length_cons]; omega) (by omega) (by simp only [List.length_cons]; omega) (hP1.fr (Fr87 hF4) (by rw [e4])) hRO2 (hR1.md hF4) ⟨llt.1, by omega⟩ (by omega) lb hin2 ⟨hS4.1.2, by have := hS4.1.1; omega⟩ (fun τ6 hF6 hK6 hR6 hS6 => ?_)
                    refine fin τ6 (((hF.tr hF1').tr (Fr87 hF4)).tr hF6) (fun i hi => by rw [hK6 i hi]; exact hK4 i hi) hR6 (hS4.tr hS6 (hK4 6 (by decide)) (fun Q _ _ _ z => z.nx (T := T)))
        refine b_Plan_search_31 ⟨fun z => absurd z (by omega), fun _ => ⟨fun z => absurd z (by omega), fun _ => ?_⟩⟩
        rw [bit_eqU (by omega)]
        refine ⟨fun z => inner 0 (fun h h0 h1 => ⟨fun y => ?_, fun y => ?_⟩) (T 2).toNat 0 τ (by omega) (by omega) hF hK hRt hSI, fun z => ⟨k6, inner (τ 93 k) (fun h h0 h1 => ?_) (T 2).toNat 0 τ (by omega) (by omega) hF hK hRt hSI⟩⟩
        · rw [bt0] at y; omega
        · rw [z] at y; omega
        · have br : bt rest k = 1 := by rcases bt_01 rest k with y | y; exact absurd y z; exact y
          have := ((hPt.2.2.1 k k0 (by omega)).2.2 h h0 h1).1
          rw [this]
          exact ⟨fun y => ⟨br, y⟩, fun y => y.2⟩
    refine outer (T 4).toNat 0 σ _ _ _ (by omega) (by omega) Fr.rf (fun _ _ => rfl) hR ⟨⟨Int.le_refl _, h5.1⟩, Or.inl rfl, fun Q q1 q2 q3 q4 => ?_⟩
    obtain ⟨L, y, e, c⟩ := q4
    exfalso
    rw [e] at q1
    have hy : inM T y := (q1.spl (L := L)).1.1
    have y1 := hy.1
    have y2 := hy.2
    omega
end
