/-! the scan, and the reference's next -/
theorem pe_s {en : Int → Int} {j : Int} (h : 0 ≤ j) : pe en (j + 1) = en j := by unfold pe; rw [if_neg (by omega), show j + 1 - 1 = j by omega]
theorem pe_c {en en2 : Int → Int} {j : Int} (h : 0 ≤ j) (e : ∀ i, 0 ≤ i → i < j → en2 i = en i) : pe en2 j = pe en j := by
  unfold pe
  by_cases z : j = 0
  · rw [if_pos z, if_pos z]
  · rw [if_neg z, if_neg z, e _ (by omega) (by omega)]
/-- what the scan has laid ahead of token j -/
def Tk0 (t : Int → Int) (n : Int) (τ : Mem) (en : Int → Int) (j f : Int) : Prop := (∀ i : Int, 0 ≤ i → i < j → TK t n (τ 66 i) (en i) (τ 65 i) (τ 67 i) ∧ i ≤ τ 66 i) ∧ (∀ i : Int, 0 ≤ i → i < j → WS t (pe en i) (τ 66 i)) ∧ WS t (pe en j) f
section
variable {E : EN} {t : Int → Int} {n : Int}
theorem s_Rdr_scan {d : Nat} {σ : Mem} {K : Mem → Prop} (hd : 7 ≤ d) (hB : Byt σ t n) (q : ∀ τ N en, Fr [65, 66, 67] σ τ → TokOK t n N (τ 65) (τ 66) (τ 67) en → K τ) : CV E y_Rdr_scan d [vr 64, vi n] σ K := by
  have n9 := hB.1
  have loop : ∀ (c : Nat) (j f i : Int) (τ : Mem) (en : Int → Int) (o5 : Option AV), (n - f).toNat ≤ c → (0 ≤ j ∧ j ≤ f ∧ f ≤ n) → (0 ≤ i ∧ i ≤ f) → Fr [65, 66, 67] σ τ → Tk0 t n τ en j f → Z E y_Rdr_scan d 7 [some (vr 64), some (vi n), some (vi j), some (vi f), some (vi i), o5] [] τ (qv K) := by
    intro c
    induction c with
    | zero =>
      intro j f i τ en o5 hc hj hi hF hT
      have ef : f = n := by omega
      have fin : K (up (up τ 65 j 0) 66 j n) := by
        obtain ⟨a, b, c⟩ := hT
        refine q _ j (fun x => if x = j then n else en x) ((hF.up (by decide)).up (by decide)) ⟨⟨hj.1, by omega⟩, fun x x0 x1 => ?_, fun x x0 x1 => ?_, ?_, ?_, if_pos rfl⟩
        · show TK t n (up (up τ 65 j 0) 66 j n 66 x) (if x = j then n else en x) (up (up τ 65 j 0) 66 j n 65 x) (up (up τ 65 j 0) 66 j n 67 x) ∧ x ≤ up (up τ 65 j 0) 66 j n 66 x
          rw [if_neg (by omega), up_nk (by omega), up_nk (by omega), up_nk (by omega), up_nk (by omega), up_nk (by omega), up_nk (by omega)]
          exact a x x0 x1
        · rw [pe_c x0 (fun y y0 y1 => if_neg (by omega))]
          by_cases e : x = j
          · rw [e, up_same, ← ef]; exact c
          · rw [up_nk e, up_nk e]; exact b x x0 (by omega)
        · rw [up_nc (by decide), up_same]
        · rw [up_same]
      exact b_Rdr_scan_7 (by omega) ⟨fun _ => ⟨by omega, fin⟩, fun _ => ⟨fun _ => ⟨by omega, fin⟩, fun z => absurd z (by omega)⟩⟩
    | succ c ih =>
      intro j f i τ en o5 hc hj hi hF hT
      by_cases ef : f = n
      · exact ih j f i τ en o5 (by omega) hj hi hF hT
      · have e1 : τ 1 = σ 1 := hF 1 (by decide)
        have hBt : Byt τ t n := hB.fr e1
        have c10 := (hBt.c (p := f) (by omega) (by omega) (c := 10) (by omega)).1
        have c32 := (hBt.c (p := f) (by omega) (by omega) (c := 32) (by omega)).1
        obtain ⟨a, b, w⟩ := hT
        refine b_Rdr_scan_7 (by omega) ⟨fun z => absurd z (by omega), fun _ => ⟨fun z => absurd z (by omega), fun _ => ⟨by omega, ?_⟩⟩⟩
        rw [wid (x := i + 1) (by omega) (by omega)]
        have ws : wsp (t f) → Z E y_Rdr_scan d 7 [some (vr 64), some (vi n), some (vi j), some (vi (w32 (f + 1))), some (vi (i + 1)), some (vi (w32 (f + 1)))] [] τ (qv K) := by
          intro hw
          rw [wid (x := f + 1) (by omega) (by omega)]
          refine ih j (f + 1) (i + 1) τ en _ (by omega) (by omega) (by omega) hF ⟨a, b, by have := w.1; omega, fun x x0 x1 => ?_⟩
          by_cases e : x = f
          · rw [e]; exact hw
          · exact w.2 x x0 (by omega)
        refine ⟨fun z => ws (Or.inl (c10.mp z)), fun z => ⟨fun y => ws (Or.inr (c32.mp y)), fun y => ?_⟩⟩
        have hnw : ¬ wsp (t f) := fun g => g.elim (fun g => z (c10.mpr g)) (fun g => y (c32.mpr g))
        refine s_Rdr_tokenEnd (by omega) hBt ⟨by omega, by omega⟩ (fun e he => ⟨by omega, s_Rdr_setToken (by omega) (hBt.fr (up_cell (by decide))) ⟨hj.1, by omega⟩ (by omega) hnw he (fun k v hk => ?_)⟩)
        have hb := he.1
        rw [wid (x := j + 1) (by omega) (by omega)]
        refine ih (j + 1) e (i + 1) _ (fun x => if x = j then e else en x) _ (by omega) (by omega) (by omega) (((hF.up (by decide)).up (by decide)).up (by decide)) ⟨fun x x0 x1 => ?_, fun x x0 x1 => ?_, ?_⟩
        · show TK t n (up (up (up τ 66 j f) 67 j v) 65 j k 66 x) (if x = j then e else en x) (up (up (up τ 66 j f) 67 j v) 65 j k 65 x) (up (up (up τ 66 j f) 67 j v) 65 j k 67 x) ∧ x ≤ up (up (up τ 66 j f) 67 j v) 65 j k 66 x
          by_cases ej : x = j
          · rw [ej, if_pos rfl, up_nc (by decide), up_nc (by decide), up_same, up_same, up_nc (by decide), up_same]
            exact ⟨hk, hj.2.1⟩
          · rw [if_neg ej, up_nk ej, up_nk ej, up_nk ej, up_nk ej, up_nk ej, up_nk ej, up_nk ej, up_nk ej, up_nk ej]
            exact a x x0 (by omega)
        · rw [pe_c x0 (fun y y0 y1 => if_neg (by omega)), up_nc (by decide), up_nc (by decide)]
          by_cases ej : x = j
          · rw [ej, up_same]; exact w
          · rw [up_nk ej]; exact b x x0 (by omega)
        · rw [pe_s hj.1, if_pos rfl]; exact ⟨Int.le_refl _, fun x x0 x1 => absurd x1 (by omega)⟩
  refine c_Rdr_scan (b_Rdr_scan_0 ?_)
  exact loop (n - 0).toNat 0 0 0 σ (fun _ => 0) none (Nat.le_refl _) (by omega) (by omega) Fr.rf ⟨fun x x0 x1 => absurd x1 (by omega), fun x x0 x1 => absurd x1 (by omega), by unfold pe; rw [if_pos rfl]; exact ⟨Int.le_refl _, fun x x0 x1 => absurd x1 (by omega)⟩⟩
/-- kinds of the reference -/
def rkK (k : Int) : Int := if k = 0 then 24 else if k = 1 then 23 else if k = 2 then 25 else if k = 59 then 30 else if k = 58 then 31 else if k = 43 then 32 else if k = 45 then 33 else if k = 42 then 34 else if k = 40 then 35 else if k = 41 then 36 else if k = 200 then 22 else k - 201
def KDv (k : Int) : Prop := k = 0 ∨ k = 1 ∨ k = 2 ∨ sgn k ∨ (200 ≤ k ∧ k ≤ 219)
theorem rk_1 : ∀ k : Fin 220, KDv (k.val : Int) → (rkK (k.val : Int) ≤ 18 ∧ 0 ≤ rkK (k.val : Int) ∧ (k.val : Int) = rkK (k.val : Int) + 201) ∨ (rkK (k.val : Int) = 22 ∧ (k.val : Int) = 200) ∨ (rkK (k.val : Int) = 23 ∧ (k.val : Int) = 1) ∨ (rkK (k.val : Int) = 24 ∧ (k.val : Int) = 0) ∨ (rkK (k.val : Int) = 25 ∧ (k.val : Int) = 2) ∨ (rkK (k.val : Int) = 30 ∧ (k.val : Int) = 59) ∨ (rkK (k.val : Int) = 31 ∧ (k.val : Int) = 58) ∨ (rkK (k.val : Int) = 32 ∧ (k.val : Int) = 43) ∨ (rkK (k.val : Int) = 33 ∧ (k.val : Int) = 45) ∨ (rkK (k.val : Int) = 34 ∧ (k.val : Int) = 42) ∨ (rkK (k.val : Int) = 35 ∧ (k.val : Int) = 40) ∨ (rkK (k.val : Int) = 36 ∧ (k.val : Int) = 41) := by
  intro k
  unfold KDv sgn
  revert k
  decide +kernel
theorem rk_i {k : Int} (h : KDv k) : (rkK k ≤ 18 ∧ 0 ≤ rkK k ∧ k = rkK k + 201) ∨ (rkK k = 22 ∧ k = 200) ∨ (rkK k = 23 ∧ k = 1) ∨ (rkK k = 24 ∧ k = 0) ∨ (rkK k = 25 ∧ k = 2) ∨ (rkK k = 30 ∧ k = 59) ∨ (rkK k = 31 ∧ k = 58) ∨ (rkK k = 32 ∧ k = 43) ∨ (rkK k = 33 ∧ k = 45) ∨ (rkK k = 34 ∧ k = 42) ∨ (rkK k = 35 ∧ k = 40) ∨ (rkK k = 36 ∧ k = 41) := by
  have b : 0 ≤ k ∧ k < 220 := by unfold KDv sgn at h; omega
  have := rk_1 ⟨k.toNat, by omega⟩
  simp only [show ((k.toNat : Nat) : Int) = k by omega] at this
  exact this h
theorem TK.kd {s e k v : Int} (h : TK t n s e k v) : KDv k ∧ k ≠ 0 := by
  obtain ⟨h0, hw, he, hs, hdg, ho⟩ := h
  unfold KDv
  by_cases a : sml (t s)
  · rcases (hs a).2 with ⟨m, m1, m2, m3⟩ | ⟨m1, m2⟩
    · exact ⟨Or.inr (Or.inr (Or.inr (Or.inr (by omega)))), by omega⟩
    · exact ⟨Or.inr (Or.inr (Or.inr (Or.inr (by omega)))), by omega⟩
  · by_cases b : dgt (t s)
    · have := (hdg b).1
      by_cases c : e - s ≤ 3
      · rw [if_pos c] at this; exact ⟨Or.inr (Or.inl this), by omega⟩
      · rw [if_neg c] at this; exact ⟨Or.inr (Or.inr (Or.inl this)), by omega⟩
    · have := ho a b
      by_cases c : sgn (t s)
      · rw [this.1 c]
        refine ⟨Or.inr (Or.inr (Or.inr (Or.inl c))), ?_⟩
        unfold sgn at c; omega
      · rw [this.2 c]; exact ⟨Or.inr (Or.inr (Or.inl rfl)), by omega⟩
/-- the reference stands at token j -/
def RT (τ : Mem) (kd st vl en : Int → Int) (j : Int) : Prop := τ 115 6 = st j ∧ τ 115 7 = en j ∧ τ 115 9 = rkK (kd j) ∧ (kd j = 1 → τ 115 10 = vl j)
theorem t_see {d : Nat} {σ : Mem} {K : Int → Mem → Prop} {p : Int} (h118 : σ 118 = t) (h8 : σ 115 8 = n) (hn : n ≤ 900) (hp : 0 ≤ p) (q1 : p < n → K (t p) σ) (q0 : n ≤ p → K (-1) σ) : CI E y_Mod_see d [vr 115, vi p] σ K := by
  refine c_Mod_see (b_Mod_see_0 ?_)
  rw [h8, h118]
  exact ⟨fun z => q0 z, fun z => ⟨⟨hp, by omega⟩, q1 z⟩⟩
theorem t_isSm {d : Nat} {σ : Mem} {K : Int → Mem → Prop} {c : Int} (k1 : sml c → K 1 σ) (k0 : ¬ sml c → K 0 σ) : CI E y_Mod_isSmall d [vi c] σ K := by
  unfold sml at *
  exact c_Mod_isSmall (b_Mod_isSmall_0 ⟨fun z => k0 (by omega), fun z => ⟨fun y => k0 (by omega), fun y => k1 (by omega)⟩⟩)
theorem t_isDg {d : Nat} {σ : Mem} {K : Int → Mem → Prop} {c : Int} (k1 : dgt c → K 1 σ) (k0 : ¬ dgt c → K 0 σ) : CI E y_Mod_isDigit d [vi c] σ K := by
  unfold dgt at *
  exact c_Mod_isDigit (b_Mod_isDigit_0 ⟨fun z => k0 (by omega), fun z => ⟨fun y => k0 (by omega), fun y => k1 (by omega)⟩⟩)
theorem sg_1 : ∀ k : Fin 7, cSt 20 (k.val : Int) = [59, 58, 43, 45, 42, 40, 41].getD k.val 0 := by decide +kernel
def sgL (k : Int) : Int := if k = 0 then 59 else if k = 1 then 58 else if k = 2 then 43 else if k = 3 then 45 else if k = 4 then 42 else if k = 5 then 40 else 41
theorem sg_2 : ∀ k : Fin 7, cSt 20 (k.val : Int) = sgL (k.val : Int) ∧ rkK (sgL (k.val : Int)) = 30 + (k.val : Int) ∧ sgn (sgL (k.val : Int)) ∧ ∀ m : Fin 7, sgL (k.val : Int) = sgL (m.val : Int) → k = m := by
  intro k
  unfold sgn
  revert k
  decide +kernel
def nxK : List Int := [6, 7, 9, 10]
set_option maxHeartbeats 1000000 in
theorem t_next {d : Nat} {σ : Mem} {K : Mem → Prop} {N j : Int} {kd st vl en : Int → Int} (hd : 5 ≤ d) (hn : 0 ≤ n ∧ n ≤ 900) (hT : TokOK t n N kd st vl en) (h118 : σ 118 = t) (h8 : σ 115 8 = n) (hj : 0 ≤ j ∧ j ≤ N) (h7 : σ 115 7 = pe en j) (q : ∀ τ, Fr [115] σ τ → keep nxK σ τ → RT τ kd st vl en j → K τ) : CV E y_Mod_next d [vr 115] σ K := by
  obtain ⟨hN, hTK, hWS, hk0, hs0, he0⟩ := hT
  have ws := hWS j hj.1 hj.2
  have p0 : 0 ≤ pe en j := by
    unfold pe
    by_cases z : j = 0
    · rw [if_pos z]; omega
    · rw [if_neg z]
      have := (hTK (j - 1) (by omega) (by omega)).1
      have a := this.1
      have b := this.2.2.1.1
      omega
  have sn : st j ≤ n := by
    by_cases z : j = N
    · rw [z, hs0]; omega
    · have := (hTK j hj.1 (by omega)).1.2.2.1.1; omega
  have see : ∀ {τ : Mem} {K : Int → Mem → Prop} {p : Int} {d : Nat}, Fr [115] σ τ → keep nxK σ τ → 0 ≤ p → (p < n → K (t p) τ) → (n ≤ p → K (-1) τ) → CI E y_Mod_see d [vr 115, vi p] τ K := fun hF hK hp q1 q0 => t_see (by rw [hF.one (by decide), h118]) (by rw [hK 8 (by decide), h8]) hn.2 hp q1 q0
  refine c_Mod_next (b_Mod_next_0 ?_)
  have loop : ∀ (c : Nat) (p : Int) (τ : Mem) (o1 : Option AV), p + c = st j → pe en j ≤ p → Fr [115] σ τ → keep nxK σ τ → τ 115 6 = p → Z E y_Mod_next d 8 [some (vr 115), o1] [] τ (qv K) := by
    intro c
    induction c with
    | succ c ih =>
      intro p τ o1 hp hpe hF hK h6
      have w := ws.2 p hpe (by omega)
      have nx : Z E y_Mod_next d 8 [some (vr 115), o1] [] (up τ 115 6 (w32 (τ 115 6 + 1))) (qv K) := by
        rw [h6, wid (x := p + 1) (by omega) (by omega)]
        exact ih (p + 1) _ o1 (by omega) (by omega) (hF.up (by simp)) (hK.up (by decide)) (up_same _ _ _ _)
      refine b_Mod_next_8 (by omega) ?_
      rw [h6]
      refine see hF hK (by omega) (fun _ => ?_) (fun z => absurd z (by omega))
      rw [h6] at nx ⊢
      refine ⟨fun _ => nx, fun a => see hF hK (by omega) (fun _ => ?_) (fun z => absurd z (by omega))⟩
      rw [h6]
      refine ⟨fun b => absurd w (fun g => g.elim a b), fun _ => nx⟩
    | zero =>
      intro p τ o1 hp hpe hF hK h6
      have ep : p = st j := by omega
      subst ep
      have k8 : τ 115 8 = n := by rw [hK 8 (by decide), h8]
      refine b_Mod_next_8 (by omega) ?_
      rw [h6]
      by_cases ej : j = N
      · have sN : st j = n := by rw [ej, hs0]
        refine see hF hK (by omega) (fun z => absurd z (by omega)) (fun _ => ⟨fun z => absurd z (by decide), fun _ => ?_⟩)
        rw [h6]
        refine see hF hK (by omega) (fun z => absurd z (by omega)) (fun _ => ⟨fun _ => ⟨fun z => absurd z (by omega), fun _ => ?_⟩, fun z => absurd z (by decide)⟩)
        rw [h6]
        refine q _ ((hF.up (by simp)).up (by simp)) ((hK.up (by decide)).up (by decide)) ⟨?_, ?_, ?_, fun z => ?_⟩
        · rw [up_nk (by decide), up_nk (by decide), h6]
        · rw [up_nk (by decide), up_same, ej, he0, hs0]
        · rw [up_same, ej, hk0]; rfl
        · rw [ej, hk0] at z; exact absurd z (by decide)
      · have tk := (hTK j hj.1 (by omega)).1
        obtain ⟨s0, snw, te, tS, tD, tO⟩ := tk
        have tb := te.1
        refine see hF hK s0 (fun _ => ⟨fun z => absurd (Or.inl z) snw, fun _ => ?_⟩) (fun z => absurd z (by omega))
        rw [h6]
        refine see hF hK s0 (fun _ => ⟨fun _ => ⟨fun _ => ?_, fun z => absurd z (by omega)⟩, fun z => absurd (Or.inr z) snw⟩) (fun z => absurd z (by omega))
        rw [h6]
        have hF2 : Fr [115] σ (up τ 115 7 (st j)) := hF.up (by simp)
        have hK2 : keep nxK σ (up τ 115 7 (st j)) := hK.up (by decide)
        have g6 : up τ 115 7 (st j) 115 6 = st j := by rw [up_nk (by decide), h6]
        have g7 : up τ 115 7 (st j) 115 7 = st j := up_same _ _ _ _
        generalize up τ 115 7 (st j) = υ at hF2 hK2 g6 g7 ⊢
        refine see hF2 hK2 s0 (fun _ => t_isSm (fun hsm => ⟨fun z => absurd z (by decide), fun _ => ?_⟩) (fun hsm => ⟨fun _ => ?_, fun z => absurd rfl z⟩)) (fun z => absurd z (by omega))
        · -- a word
          have ts := te.2.1 hsm
          have lw : ∀ (c : Nat) (b : Int) (υ : Mem) (o1 : Option AV), b + c = en j → st j ≤ b → Fr [115] σ υ → keep nxK σ υ → υ 115 6 = st j → υ 115 7 = b → Z E y_Mod_next d 89 [some (vr 115), o1] [] υ (qv K) := by
            intro c
            induction c with
            | zero =>
              intro b υ o1 hb hsb hF hK g6 g7
              have eb : b = en j := by omega
              subst eb
              refine b_Mod_next_89 (by omega) ?_
              rw [g7]
              have fin : CI E y_Mod_keyOf (d - 1) [vr 115] υ (fun x3 τ3 => K (up τ3 115 9 x3)) := by
                refine t_keyOf (by omega) (by rw [hF.one (by decide), h118]) g6 g7 ⟨s0, by omega, by omega⟩ (fun x hx => ?_)
                refine q _ (hF.up (by simp)) (hK.up (by decide)) ⟨by rw [up_nk (by decide), g6], by rw [up_nk (by decide), g7], ?_, fun z => ?_⟩
                · rw [up_same]
                  have wk := (tS hsm).2
                  rcases hx with ⟨m, m1, m2, m3⟩ | ⟨m1, m2⟩ <;> rcases wk with ⟨m', a1, a2, a3⟩ | ⟨a1, a2⟩
                  · have := m2.u m1 a1 a2
                    subst this
                    rw [a3, m3]
                    have b : ∀ m : Fin 19, (m.val : Int) = rkK (201 + (m.val : Int)) := by decide +kernel
                    exact b ⟨m, m1⟩
                  · exact absurd m2 (a2 m m1)
                  · exact absurd a2 (m2 m' a1)
                  · rw [a1, m1]; rfl
                · have wk := (tS hsm).2
                  rcases wk with ⟨m', a1, a2, a3⟩ | ⟨a1, a2⟩ <;> omega
              refine see hF hK (by omega) (fun y => t_isSm (fun z => absurd ⟨y, z⟩ ts.2) (fun _ => ⟨fun _ => fin, fun z => absurd rfl z⟩)) (fun _ => t_isSm (fun z => absurd z (by unfold sml; omega)) (fun _ => ⟨fun _ => fin, fun z => absurd rfl z⟩))
            | succ c ihw =>
              intro b υ o1 hb hsb hF hK g6 g7
              refine b_Mod_next_89 (by omega) ?_
              rw [g7]
              refine see hF hK (by omega) (fun y => t_isSm (fun _ => ⟨fun z => absurd z (by decide), fun _ => ?_⟩) (fun z => absurd (ts.1 b hsb (by omega)) z)) (fun z => absurd z (by omega))
              rw [g7, wid (x := b + 1) (by omega) (by omega)]
              exact ihw (b + 1) _ o1 (by omega) (by omega) (hF.up (by simp)) (hK.up (by decide)) (by rw [up_nk (by decide), g6]) (up_same _ _ _ _)
          exact lw (en j - st j).toNat (st j) υ o1 (by omega) (by omega) hF2 hK2 g6 g7
        · rw [g6]
          refine see hF2 hK2 s0 (fun _ => t_isDg (fun hdg => ⟨fun z => absurd z (by decide), fun _ => ?_⟩) (fun hdg => ⟨fun _ => ?_, fun z => absurd rfl z⟩)) (fun z => absurd z (by omega))
          · -- a number
            have td := te.2.2.1 hdg
            have lw : ∀ (c m : Nat) (υ : Mem) (o1 : Option AV), st j + m + c = en j → Fr [115] σ υ → keep nxK σ υ → υ 115 6 = st j → υ 115 7 = st j + m → υ 115 10 = numF t (st j) (min 3 m) → Z E y_Mod_next d 146 [some (vr 115), o1] [] υ (qv K) := by
              intro c
              induction c with
              | zero =>
                intro m υ o1 hb hF hK g6 g7 g10
                have tv := tD hdg
                have em : (en j - st j).toNat = m := by omega
                refine b_Mod_next_146 (by omega) ?_
                rw [g7]
                have fin : ∀ v : Int, v = rkK (kd j) → K (up υ 115 9 v) := by
                  intro v hv
                  refine q _ (hF.up (by simp)) (hK.up (by decide)) ⟨by rw [up_nk (by decide), g6], by rw [up_nk (by decide), g7]; omega, by rw [up_same, hv], fun z => ?_⟩
                  rw [up_nk (by decide), g10, tv.2, em]
                have fin2 : (w32 (st j + m - υ 115 6) ≤ 3 → K (up υ 115 9 23)) ∧ (3 < w32 (st j + m - υ 115 6) → K (up υ 115 9 25)) := by
                  rw [g6, wid (x := st j + m - st j) (by omega) (by omega)]
                  refine ⟨fun z => fin 23 ?_, fun z => fin 25 ?_⟩
                  · rw [tv.1, if_pos (by omega)]; rfl
                  · rw [tv.1, if_neg (by omega)]; rfl
                refine see hF hK (by omega) (fun y => t_isDg (fun z => absurd ⟨by omega, by rw [show st j + (m : Int) = en j by omega] at z; exact z⟩ td.2) (fun _ => ⟨fun _ => by rw [g7]; exact fin2, fun z => absurd rfl z⟩)) (fun _ => t_isDg (fun z => absurd z (by unfold dgt; omega)) (fun _ => ⟨fun _ => by rw [g7]; exact fin2, fun z => absurd rfl z⟩))
              | succ c ihw =>
                intro m υ o1 hb hF hK g6 g7 g10
                have dm := td.1 (st j + m) (by omega) (by omega)
                refine b_Mod_next_146 (by omega) ?_
                rw [g7]
                refine see hF hK (by omega) (fun y => t_isDg (fun _ => ⟨fun z => absurd z (by decide), fun _ => ?_⟩) (fun z => absurd dm z)) (fun z => absurd z (by omega))
                rw [g6, g7, wid (x := st j + m - st j) (by omega) (by omega)]
                refine ⟨fun z => ?_, fun z => see hF hK (by omega) (fun _ => ?_) (fun z => absurd z (by omega))⟩
                · rw [wid (x := st j + m + 1) (by omega) (by omega)]
                  refine ihw (m + 1) _ o1 (by omega) (hF.up (by simp)) (hK.up (by decide)) (by rw [up_nk (by decide), g6]) (by rw [up_same]; omega) ?_
                  rw [up_nk (by decide), g10, show min 3 m = min 3 (m + 1) by omega]
                · have m3 : m < 3 := by omega
                  have nb := numF_b (t := t) (s := st j) m (by omega) (fun i a b => td.1 (st j + i) (by omega) (by omega))
                  have n2 := nb.2.2.1 (by omega)
                  have g10' : υ 115 10 = numF t (st j) m := by rw [g10, show min 3 m = m by omega]
                  unfold dgt at dm
                  rw [g10', g7, wid (x := 10 * numF t (st j) m) (by omega) (by omega), wid (x := 10 * numF t (st j) m + t (st j + m)) (by omega) (by omega), wid (x := 10 * numF t (st j) m + t (st j + m) - 48) (by omega) (by omega), wid (x := st j + m + 1) (by omega) (by omega)]
                  refine ihw (m + 1) _ o1 (by omega) ((hF.up (by simp)).up (by simp)) ((hK.up (by decide)).up (by decide)) (by rw [up_nk (by decide), up_nk (by decide), g6]) (by rw [up_same]; omega) ?_
                  rw [up_nk (by decide), up_same, show min 3 (m + 1) = m + 1 by omega]
                  show _ = 10 * numF t (st j) m + (t (st j + m) - 48)
                  omega
            have g7' : up υ 115 10 0 115 7 = st j + ((0 : Nat) : Int) := by rw [up_nk (by decide), g7]; omega
            exact lw (en j - st j).toNat 0 (up υ 115 10 0) o1 (by omega) (hF2.up (by simp)) (hK2.up (by decide)) (by rw [up_nk (by decide), g6]) g7' (by rw [up_same]; rfl)
          · -- a sign, or strange
            have eo := te.2.2.2 hsm hdg
            have to_ := tO hsm hdg
            rw [g7, wid (x := st j + 1) (by omega) (by omega)]
            have lw : ∀ (c m : Nat) (υ : Mem), m + c = 7 → Fr [115] σ υ → keep nxK σ υ → υ 115 6 = st j → υ 115 7 = en j → ((∃ i : Nat, i < m ∧ t (st j) = sgL i ∧ υ 115 9 = 30 + i) ∨ ((∀ i : Nat, i < m → t (st j) ≠ sgL i) ∧ υ 115 9 = 25)) → Z E y_Mod_next d 254 [some (vr 115), some (vi (m : Int))] [] υ (qv K) := by
              intro c
              induction c with
              | zero =>
                intro m υ hm hF hK g6 g7 g9
                have em : m = 7 := by omega
                subst em
                refine b_Mod_next_254 (by omega) (s_Str_length (by decide) (by omega) ⟨fun _ => q υ hF hK ⟨g6, g7, ?_, fun z => ?_⟩, fun z => absurd z (by rw [k_n.2.2.2]; omega)⟩)
                · rcases g9 with ⟨i, i1, i2, i3⟩ | ⟨i1, i2⟩
                  · have s2 := sg_2 ⟨i, i1⟩
                    simp only at s2
                    rw [i3, to_.1 (by rw [i2]; exact s2.2.2.1), i2, s2.2.1]
                  · rw [i2, to_.2 (fun g => ?_)]
                    · rfl
                    · have a0 := i1 0 (by omega)
                      have a1 := i1 1 (by omega)
                      have a2 := i1 2 (by omega)
                      have a3 := i1 3 (by omega)
                      have a4 := i1 4 (by omega)
                      have a5 := i1 5 (by omega)
                      have a6 := i1 6 (by omega)
                      simp [sgL] at a0 a1 a2 a3 a4 a5 a6
                      unfold sgn at g; omega
                · exfalso
                  by_cases g : sgn (t (st j))
                  · have := to_.1 g
                    unfold sgn at g; omega
                  · have := to_.2 g; omega
              | succ c ihw =>
                intro m υ hm hF hK g6 g7 g9
                have s2 := sg_2 ⟨m, by omega⟩
                simp only at s2
                refine b_Mod_next_254 (by omega) (s_Str_length (by decide) (by omega) ⟨fun z => absurd z (by rw [k_n.2.2.2]; omega), fun _ => ?_⟩)
                rw [g6]
                refine see hF hK s0 (fun _ => s_Str_charAt (by decide) (by omega) ⟨by omega, by rw [k_n.2.2.2]; omega⟩ ?_) (fun z => absurd z (by omega))
                rw [s2.1, wid (x := (m : Int) + 1) (by omega) (by omega), wid (x := 30 + (m : Int)) (by omega) (by omega), show (m : Int) + 1 = ((m + 1 : Nat) : Int) by omega]
                refine ⟨fun ne => ihw (m + 1) υ (by omega) hF hK g6 g7 ?_, fun e => ihw (m + 1) _ (by omega) (hF.up (by simp)) (hK.up (by decide)) (by rw [up_nk (by decide), g6]) (by rw [up_nk (by decide), g7]) (Or.inl ⟨m, by omega, e, up_same _ _ _ _⟩)⟩
                rcases g9 with ⟨i, i1, i2, i3⟩ | ⟨i1, i2⟩
                · exact Or.inl ⟨i, by omega, i2, i3⟩
                · refine Or.inr ⟨fun i hi => ?_, i2⟩
                  by_cases z : i = m
                  · rw [z]; exact ne
                  · exact i1 i (by omega)
            refine lw 7 0 _ (by omega) ((hF2.up (by simp)).up (by simp)) ((hK2.up (by decide)).up (by decide)) (by rw [up_nk (by decide), up_nk (by decide), g6]) (by rw [up_nk (by decide), up_same]; omega) (Or.inr ⟨fun i hi => absurd hi (by omega), up_same _ _ _ _⟩)
  have l0 := loop (st j - pe en j).toNat (pe en j) (up σ 115 6 (σ 115 7)) none (by have := ws.1; omega) (Int.le_refl _) (Fr.rf.up (by simp)) (keep.rf.up (by decide)) (by rw [up_same, h7])
  exact l0
end
