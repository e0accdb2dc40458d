/-! trays: numbers, write -/
theorem trN {n : Nat} (h : n < 4) : isTray (102 + 2 * n) := by
  rcases (show n = 0 ∨ n = 1 ∨ n = 2 ∨ n = 3 by omega) with rfl | rfl | rfl | rfl <;> simp [isTray]
theorem trS {n : Nat} (h : n < 4) : sh (103 + 2 * n) = (23, 40) := by
  rcases (show n = 0 ∨ n = 1 ∨ n = 2 ∨ n = 3 by omega) with rfl | rfl | rfl | rfl <;> decide +kernel
/-- what is known of a tray that is there -/
def Tr (σ : Mem) (t : Int) : Prop := σ 130 t = σ (102 + 2 * t.toNat) 0 ∧ (0 ≤ σ (102 + 2 * t.toNat) 0 ∧ σ (102 + 2 * t.toNat) 0 ≤ 3) ∧ σ 131 t = σ (102 + 2 * t.toNat) 1 ∧ (0 ≤ σ (102 + 2 * t.toNat) 1 ∧ σ (102 + 2 * t.toNat) 1 ≤ 40) ∧ ∀ i : Int, 0 ≤ i → i < σ (102 + 2 * t.toNat) 1 → σ (103 + 2 * t.toNat) i = σ 132 (40 * t + i)
theorem TrayOK.get {σ : Mem} (h : TrayOK σ) {t : Int} (ht : 0 ≤ t ∧ t < 4) : (σ 130 t = -1 ∧ σ (102 + 2 * t.toNat) 1 = -1) ∨ Tr σ t := by
  have := h t.toNat (by omega)
  rw [show ((t.toNat : Nat) : Int) = t by omega] at this
  exact this
theorem TrayOK.put {σ τ : Mem} {t : Int} (ht : 0 ≤ t ∧ t < 4) (h : TrayOK σ) (hn : Tr τ t) (e : ∀ c, 102 ≤ c → c ≤ 109 → c ≠ 102 + 2 * t.toNat → c ≠ 103 + 2 * t.toNat → τ c = σ c) (e0 : ∀ k, k ≠ t → τ 130 k = σ 130 k) (e1 : ∀ k, k ≠ t → τ 131 k = σ 131 k) (e2 : ∀ k, ¬ (40 * t ≤ k ∧ k < 40 * t + 40) → τ 132 k = σ 132 k) : TrayOK τ := by
  intro u hu
  by_cases q : (u : Int) = t
  · subst q; exact Or.inr hn
  · rw [e (102 + 2 * u) (by omega) (by omega) (by omega) (by omega), e (103 + 2 * u) (by omega) (by omega) (by omega) (by omega), e0 _ q, e1 _ q]
    rcases h u hu with w | ⟨w1, w2, w3, w4, w5⟩
    · exact Or.inl w
    · exact Or.inr ⟨w1, w2, w3, w4, fun i i0 i1 => by rw [w5 i i0 i1, e2 _ (by omega)]⟩
def traC : List Nat := 102 :: 103 :: 104 :: 105 :: 106 :: 107 :: 108 :: 109 :: 130 :: 131 :: 132 :: scrt
theorem II.tray {σ τ : Mem} (h : II σ) (hF : Fr traC σ τ) (hK : ∀ k, k ∈ [5, 13, 14, 33] → τ 115 k = σ 115 k) (hT : TrayOK τ) : II τ := by
  have e : ∀ c, c ∉ traC → τ c = σ c := hF
  have k5 := hK 5 (by decide)
  have k13 := hK 13 (by decide)
  have k14 := hK 14 (by decide)
  have k33 := hK 33 (by decide)
  have e116 := e 116 (by decide)
  obtain ⟨a, b, c, d, f, g, i, j, l, m⟩ := h
  have e26 : ∀ c, 26 ≤ c → c ≤ 49 → τ c = σ c := fun c c0 c1 => e c (by simp [traC, scrt]; omega)
  have e52 : ∀ c, 52 ≤ c → c ≤ 63 → c ≠ 53 → τ c = σ c := fun c c0 c1 c2 => e c (by simp [traC, scrt]; omega)
  have e2 : ∀ c, 2 ≤ c → c ≤ 13 → τ c = σ c := fun c c0 c1 => e c (by simp [traC, scrt]; omega)
  refine ⟨by rw [e116]; exact a, by rw [e116]; exact b.fr (fun c c0 c1 => e2 c (by omega) (by omega)), by rw [e116]; exact c.fr (by rw [e2 2 (by omega) (by omega)]) (e2 _ (by omega) (by omega)), ?_, f.fr e52 (by rw [e116]) (fun k _ _ => by rw [e116]), hT, i.fr e26 (e _ (by decide)) (e _ (by decide)) (e _ (by decide)) (e _ (by decide)) (fun k _ => by rw [e116]), ?_, by rw [e116]; exact l.fr (e _ (by decide)) (e _ (by decide)), by rw [k33]; exact m⟩
  · rw [e116]; exact d.fr (fun k _ _ => by rw [e 50 (by decide)]) (fun _ _ _ => rfl)
  · unfold TapeOK at j ⊢
    rw [e 0 (by decide), e 1 (by decide), e 118 (by decide), k5, k13, k14]; exact j
def cutF (s v : Int) : Int := if s = 0 then w8 (w32 v) else if s = 1 then w16 (w32 v) else if s = 2 then w32 v else v
section
variable {E : EN} {d : Nat} {σ : Mem}
theorem s_hasTray {K : Int → Mem → Prop} {t : Int} (k1 : 0 ≤ t ∧ t < 4 → K 1 σ) (k0 : ¬ (0 ≤ t ∧ t < 4) → K 0 σ) : CI E y_BC_hasTray d [vi t] σ K :=
  c_BC_hasTray (b_BC_hasTray_0 ⟨fun _ => k0 (by omega), fun _ => ⟨fun _ => k0 (by omega), fun _ => k1 (by omega)⟩⟩)
theorem s_trayCode {K : Int → Mem → Prop} {t : Int} (hd : 1 ≤ d) (hT : TrayOK σ) (k0 : ¬ (0 ≤ t ∧ t < 4) → K (-2) σ) (k1 : 0 ≤ t ∧ t < 4 → σ 130 t = -1 → K (-6) σ) (k2 : 0 ≤ t ∧ t < 4 → Tr σ t → K 0 σ) : CI E y_BC_trayCode d [vr 0, vi t] σ K := by
  refine c_BC_trayCode (b_BC_trayCode_0 hd (s_hasTray (fun h => ⟨fun _ => ⟨h, fun q => ?_, fun q => ?_⟩, fun z => absurd z (by decide)⟩) (fun h => ⟨fun z => absurd rfl z, fun _ => k0 h⟩)))
  · rcases hT.get h with w | w
    · omega
    · exact k2 h w
  · rcases hT.get h with w | w
    · exact k1 h w.1
    · have := w.2.2.2.1; omega
theorem s_trayAndWhat {K : Int → Mem → Prop} {t w n : Int} (hd : 1 ≤ d) (hT : TrayOK σ) (k0 : ¬ ((0 ≤ t ∧ t < 4) ∧ (0 ≤ w ∧ w < n)) → K (-2) σ) (k1 : 0 ≤ t ∧ t < 4 → 0 ≤ w ∧ w < n → σ 130 t = -1 → K (-6) σ) (k2 : 0 ≤ t ∧ t < 4 → 0 ≤ w ∧ w < n → Tr σ t → K 0 σ) : CI E y_BC_trayAndWhat d [vr 0, vi t, vi w, vi n] σ K := by
  refine c_BC_trayAndWhat (b_BC_trayAndWhat_0 hd (s_hasTray (fun h => ⟨fun z => absurd z (by decide), fun _ => ⟨fun a => k0 (by omega), fun a => ⟨fun b => ⟨h, fun q => ?_, fun q => ?_⟩, fun b => k0 (by omega)⟩⟩⟩) (fun h => ⟨fun _ => k0 (by omega), fun z => absurd rfl z⟩)))
  · rcases hT.get h with w | w
    · omega
    · exact k2 h ⟨a, b⟩ w
  · rcases hT.get h with w | w
    · exact k1 h ⟨a, b⟩ w.1
    · have := w.2.2.2.1; omega
/-- the reference's: no such tray, or one that is MISSING, or one that is there -/
theorem s_noTr {K : Int → Mem → Prop} {t : Int} (hd : 1 ≤ d) (hT : TrayOK σ) (k0 : ¬ (0 ≤ t ∧ t < 4) → K (-2) σ) (k1 : 0 ≤ t ∧ t < 4 → σ 130 t = -1 → K (-6) σ) (k2 : 0 ≤ t ∧ t < 4 → Tr σ t → K 0 σ) : CI E y_Mod_noTray d [vr 115, vi t] σ K :=
  s_noTray hd k0 k1 (fun h q => by
    rcases hT.get h with w | w
    · exact absurd w.1 q
    · exact k2 h w)
theorem Tr.ne {t : Int} (h : Tr σ t) : σ 130 t ≠ -1 := by
  obtain ⟨h1, h2, -⟩ := h; omega
theorem s_fillJ {K : Mem → Prop} {r n : Nat} {v : Int} (hs : sh r = (23, n)) (hn : n < 2147483648) (q : ∀ τ : Mem, Fr [r] σ τ → (∀ i : Int, 0 ≤ i → i < n → τ r i = v) → K τ) : CV E y_Arr_fill_AJJ d [vr r, vl v] σ K := by
  have hi : i32 n := ⟨by omega, by omega⟩
  refine c_Arr_fill_AJJ (n0 := n) (b_Arr_fill_AJJ_0 hs hi ?_)
  have loop : ∀ (m : Nat) (j : Int) (τ : Mem) (o : Option AV), 0 ≤ j → j + m = n → Fr [r] σ τ → (∀ i : Int, 0 ≤ i → i < j → τ r i = v) → Z E y_Arr_fill_AJJ d 6 [some (vr r), some (vl v), o, some (vi j), some (vi (n : Nat))] [] τ (qv K) := by
    intro m
    induction m with
    | zero =>
      intro j τ o h0 hj hF h1
      exact b_Arr_fill_AJJ_6 hs hi ⟨fun _ => q τ hF (fun i a b => h1 i a (by omega)), fun z => absurd z (by omega)⟩
    | succ m ih =>
      intro j τ o h0 hj hF h1
      refine b_Arr_fill_AJJ_6 hs hi ⟨fun z => absurd z (by omega), fun _ => ⟨by omega, ?_⟩⟩
      rw [wid (by omega) (by omega)]
      refine ih (j + 1) _ _ (by omega) (by omega) (hF.up (by simp)) (fun i a b => ?_)
      by_cases e : i = j
      · subst e; exact up_same _ _ _ _
      · rw [up_nk e]; exact h1 i a (by omega)
  exact loop n 0 σ _ (by omega) (by omega) Fr.rf (fun i a b => absurd b (by omega))
theorem s_Tray_cut {K : Int → Mem → Prop} {r : Nat} {v : Int} (hr : isTray r) (q : K (cutF (σ r 0) v) σ) : CL E y_Tray_cut d [vr r, vl v] σ K := by
  unfold cutF at q
  refine c_Tray_cut (b_Tray_cut_0 hr ⟨fun e => ?_, fun e => ?_, fun e => ?_, fun e => ?_⟩)
  · rw [if_pos e] at q; exact q
  · rw [if_neg (by omega), if_pos e] at q; exact q
  · rw [if_neg (by omega), if_neg (by omega), if_pos e] at q; exact q
  · rw [if_neg (by omega), if_neg (by omega), if_neg (by omega)] at q; exact q
theorem s_Mod_cut {K : Int → Mem → Prop} {s v : Int} (q : K (cutF s v) σ) : CL E y_Mod_cut d [vl v, vi s] σ K := by
  unfold cutF at q
  refine c_Mod_cut (b_Mod_cut_0 ⟨fun a => ⟨fun b => ⟨fun c => ?_, fun c => ?_⟩, fun b => ?_⟩, fun a => ?_⟩)
  · rw [if_neg a, if_neg b, if_neg c] at q; exact q
  · rw [if_neg a, if_neg b, if_pos c] at q; exact q
  · rw [if_neg a, if_pos b] at q; exact q
  · rw [if_pos a] at q; exact q
/-- a number is put into a tray -/
theorem s_Tray_put {K : Int → Mem → Prop} {t i v : Int} (hd : 1 ≤ d) (ht : 0 ≤ t ∧ t < 4) (hT : Tr σ t) (hi : 0 ≤ i ∧ i < σ (102 + 2 * t.toNat) 1) (q : K (cutF (σ 130 t) v) (up σ (103 + 2 * t.toNat) i (cutF (σ 130 t) v))) : CL E y_Tray_put d [vr (102 + 2 * t.toNat), vi i, vl v] σ K := by
  have b := hT.2.2.2.1
  rw [hT.1] at q
  refine c_Tray_put (b_Tray_put_0 (trN (by omega)) hd ⟨fun z => absurd z (by omega), fun _ => ⟨fun z => absurd z (by omega), fun _ => ⟨fun _ => s_Tray_cut (trN (by omega)) ⟨by omega, ?_⟩, fun z => absurd z (by omega)⟩⟩⟩)
  rw [show 102 + 2 * t.toNat + 1 = 103 + 2 * t.toNat by omega]; exact q
end
theorem II.m {σ τ : Mem} (h : II σ) (hF : Fr scrt σ τ) (hK : keep [22, 23, 25] σ τ) : II τ := h.same hF (fun k hk => hK k (by simp at hk ⊢; omega))
theorem sp41 : SP41 II := by
  intro E σ t s n hI hR ht hs hn
  obtain ⟨hT, hH, -, hS, hPa, hTr, -⟩ := id hI
  have M2 : ¬ ((0 ≤ t ∧ t < 4) ∧ (0 ≤ s ∧ s ≤ 3)) → CI E y_Mod_numbers 400 [vr 115, vi t, vi s, vi n] σ (fun y υ => -2 = y ∧ II υ) := by
    intro h0
    exact c_Mod_numbers (b_Mod_numbers_0 (by omega) (s_within (fun z => ⟨fun y => absurd y (by decide), fun _ => s_within (fun z2 => absurd ⟨⟨z.1, by omega⟩, z2⟩ h0) (fun z2 => ⟨fun y => absurd rfl y, fun _ => ⟨rfl, hI.thr⟩⟩)⟩) (fun z => ⟨fun _ => ⟨rfl, hI.thr⟩, fun y => absurd rfl y⟩)))
  have M3 : (0 ≤ t ∧ t < 4) ∧ (0 ≤ s ∧ s ≤ 3) → ¬ (0 ≤ n ∧ n ≤ 40) → CI E y_Mod_numbers 400 [vr 115, vi t, vi s, vi n] σ (fun y υ => -3 = y ∧ II υ) := by
    intro h0 h1
    exact c_Mod_numbers (b_Mod_numbers_0 (by omega) (s_within (fun z => ⟨fun y => absurd y (by decide), fun _ => s_within (fun z2 => ⟨fun _ => s_within (fun z3 => absurd z3 h1) (fun _ => ⟨fun y => absurd rfl y, fun _ => ⟨rfl, hI.thr⟩⟩), fun y => absurd y (by decide)⟩) (fun z2 => absurd h0.2 z2)⟩) (fun z => absurd h0.1 (by omega))))
  refine c_BC_numbers (b_BC_numbers_0 (by omega) (s_hasTray (fun h => ⟨fun z => absurd z (by decide), fun _ => ⟨fun a => M2 (by omega), fun a => ⟨fun b => ⟨fun c => M3 (by omega) (by omega), fun c => ⟨fun e => ⟨h, ?_⟩, fun e => M3 (by omega) (by omega)⟩⟩, fun b => M2 (by omega)⟩⟩⟩) (fun h => ⟨fun _ => M2 (by omega), fun z => absurd rfl z⟩)))
  refine c_Tray_begin (b_Tray_begin_0 (trN (by omega)) (by omega) ?_)
  rw [show 102 + 2 * t.toNat + 1 = 103 + 2 * t.toNat by omega]
  refine s_fillJ (n := 40) (trS (by omega)) (by omega) (fun τ hF hz => ?_)
  have f : ∀ c, c ≠ 102 + 2 * t.toNat → c ≠ 103 + 2 * t.toNat → τ c = σ c := fun c a b => by rw [hF.one b, up_cell a, up_cell a]
  have f0 : τ (102 + 2 * t.toNat) 0 = s := by rw [hF.one (by omega), up_nk (by decide), up_same]
  have f1 : τ (102 + 2 * t.toNat) 1 = n := by rw [hF.one (by omega), up_same]
  refine c_Mod_numbers (b_Mod_numbers_0 (by omega) (s_within (fun z => ⟨fun y => absurd y (by decide), fun _ => s_within (fun z2 => ⟨fun _ => s_within (fun z3 => ⟨fun _ => ⟨h, ?_⟩, fun y => absurd y (by decide)⟩) (fun z3 => absurd ⟨c, e⟩ z3), fun y => absurd y (by decide)⟩) (fun z2 => absurd ⟨a, b⟩ z2)⟩) (fun z => absurd h (by omega))))
  generalize hM0 : up (up (up τ 115 0 0) 130 t s) 131 t n = M
  have loop : ∀ (m : Nat) (i : Int) (τ1 : Mem) (o : Option AV), 0 ≤ i → i + m = n → Fr [132] M τ1 → (∀ k : Int, 0 ≤ k → k < i → τ1 132 (40 * t + k) = 0) → (∀ k : Int, ¬ (40 * t ≤ k ∧ k < 40 * t + 40) → τ1 132 k = M 132 k) → Z E y_Mod_numbers 400 64 [some (vr 115), some (vi t), o, some (vi n), some (vi i)] [] τ1 (qi fun y υ => 0 = y ∧ II υ) := by
    intro m
    induction m with
    | zero =>
      intro i τ1 o h0 hi hF1 hw ho
      refine b_Mod_numbers_64 (a2 := 0) ⟨fun _ => ⟨rfl, ?_⟩, fun z => absurd z (by omega)⟩
      have g : ∀ c, c ≠ 132 → c ≠ 131 → c ≠ 130 → c ≠ 115 → τ1 c = τ c := fun c a1 a2 a3 a4 => by rw [hF1.one a1, ← hM0, up_cell a2, up_cell a3, up_cell a4]
      have g130 : ∀ k, τ1 130 k = if k = t then s else σ 130 k := fun k => by
        rw [hF1.one (by decide), ← hM0, up_nc (by decide)]
        by_cases q : k = t
        · subst q; rw [up_same, if_pos rfl]
        · rw [up_nk q, if_neg q, up_nc (by decide), f 130 (by omega) (by omega)]
      have g131 : ∀ k, τ1 131 k = if k = t then n else σ 131 k := fun k => by
        rw [hF1.one (by decide), ← hM0]
        by_cases q : k = t
        · subst q; rw [up_same, if_pos rfl]
        · rw [up_nk q, if_neg q, up_nc (by decide), up_nc (by decide), f 131 (by omega) (by omega)]
      have m132 : M 132 = σ 132 := by rw [← hM0, up_cell (by decide), up_cell (by decide), up_cell (by decide), f 132 (by omega) (by omega)]
      refine hI.tray (fun c hc => ?_) (fun k hk => ?_) (TrayOK.put h hTr ⟨?_, ?_, ?_, ?_, fun j j0 j1 => ?_⟩ (fun c c0 c1 c2 c3 => ?_) (fun k hk => by rw [g130, if_neg hk]) (fun k hk => by rw [g131, if_neg hk]) (fun k hk => by rw [ho k hk, m132]))
      · have n1 : c ≠ 102 ∧ c ≠ 103 ∧ c ≠ 104 ∧ c ≠ 105 ∧ c ≠ 106 ∧ c ≠ 107 ∧ c ≠ 108 ∧ c ≠ 109 ∧ c ≠ 130 ∧ c ≠ 131 ∧ c ≠ 132 ∧ c ≠ 115 := by simp [traC, scrt] at hc ⊢; omega
        rw [g c (by omega) (by omega) (by omega) (by omega), f c (by omega) (by omega)]
      · rw [hF1.one (by decide), ← hM0, up_nc (by decide), up_nc (by decide), up_nk (k115 hk).1, f 115 (by omega) (by omega)]
      · rw [g130, if_pos rfl, g _ (by omega) (by omega) (by omega) (by omega), f0]
      · rw [g _ (by omega) (by omega) (by omega) (by omega), f0]; omega
      · rw [g131, if_pos rfl, g _ (by omega) (by omega) (by omega) (by omega), f1]
      · rw [g _ (by omega) (by omega) (by omega) (by omega), f1]; omega
      · rw [g (102 + 2 * t.toNat) (by omega) (by omega) (by omega) (by omega), f1] at j1
        rw [g _ (by omega) (by omega) (by omega) (by omega), hz j j0 (by omega), hw j j0 (by omega)]
      · rw [g c (by omega) (by omega) (by omega) (by omega), f c c2 c3]
    | succ m ih =>
      intro i τ1 o h0 hi hF1 hw ho
      refine b_Mod_numbers_64 (a2 := 0) ⟨fun z => absurd z (by omega), fun _ => ?_⟩
      rw [wid (x := 40 * t) (by omega) (by omega), wid (x := 40 * t + i) (by omega) (by omega), wid (x := i + 1) (by omega) (by omega)]
      refine ⟨by omega, ih (i + 1) _ _ (by omega) (by omega) (hF1.up (by simp)) (fun k k0 k1 => ?_) (fun k hk => ?_)⟩
      · by_cases q : k = i
        · subst q; rw [up_same]
        · rw [up_nk (by omega)]; exact hw k k0 (by omega)
      · rw [up_nk (by omega)]; exact ho k hk
  exact loop n.toNat 0 M _ (by omega) (by omega) Fr.rf (fun k k0 k1 => absurd k1 (by omega)) (fun _ _ => rfl)
theorem sp42 : SP42 II := by
  intro E σ t i v hI hR ht hi hv
  obtain ⟨hT, hH, -, hS, hPa, hTr, -⟩ := id hI
  have hTr' : TrayOK (up σ 115 0 0) := hI.thr.2.2.2.2.2.1
  have e0 : ∀ c, c ≠ 115 → up σ 115 0 0 c = σ c := fun c hc => up_cell hc
  refine c_BC_write (b_BC_write_0 (by omega) (s_trayCode (by omega) hTr (fun h => ⟨fun z => absurd z (by decide), fun _ => ?_⟩) (fun h hm => ⟨fun z => absurd z (by decide), fun _ => ?_⟩) (fun h hm => ⟨fun _ => ?_, fun z => absurd rfl z⟩)))
  · exact c_Mod_write (b_Mod_write_0 (by omega) (s_noTr (by omega) hTr' (fun _ => ⟨fun z => absurd z (by decide), fun _ => ⟨rfl, hI.thr⟩⟩) (fun z => absurd z h) (fun z => absurd z h)))
  · exact c_Mod_write (b_Mod_write_0 (by omega) (s_noTr (by omega) hTr' (fun z => absurd h z) (fun _ _ => ⟨fun z => absurd z (by decide), fun _ => ⟨rfl, hI.thr⟩⟩) (fun _ z => absurd hm (by rw [← e0 130 (by decide)]; exact z.ne))))
  · have b := hm.2.2.2.1
    have e131 := hm.2.2.1
    have M7 : ¬ (0 ≤ i ∧ i < σ (102 + 2 * t.toNat) 1) → CL E y_Mod_write 400 [vr 115, vi t, vi i, vl v] σ (fun y υ => -7 = y ∧ II υ) := by
      intro h0
      refine c_Mod_write (b_Mod_write_0 (by omega) (s_noTr (by omega) hTr' (fun z => absurd h z) (fun _ z => absurd z (by rw [e0 130 (by decide)]; exact hm.ne)) (fun _ _ => ⟨fun _ => ⟨h, ?_⟩, fun z => absurd rfl z⟩)))
      rw [e0 131 (by decide), e131, wid (by omega) (by omega)]
      exact s_within (fun z => absurd z (by omega)) (fun z => ⟨fun y => absurd rfl y, fun _ => ⟨rfl, hI.thr⟩⟩)
    refine ⟨fun a => M7 (by omega), fun a => ⟨h, fun c => ?_, fun c => M7 (by omega)⟩⟩
    refine s_Tray_put (by omega) h hm ⟨a, c⟩ ?_
    generalize hM0 : up σ (103 + 2 * t.toNat) i (cutF (σ 130 t) v) = M
    have m : ∀ c, c ≠ 103 + 2 * t.toNat → M c = σ c := fun c hc => by rw [← hM0, up_cell hc]
    refine c_Mod_write (b_Mod_write_0 (by omega) (s_noTray (by omega) (fun z => absurd h z) (fun _ z => absurd z (by rw [up_nc (by decide), m 130 (by omega)]; exact hm.ne)) (fun _ _ => ⟨fun _ => ⟨h, ?_⟩, fun z => absurd rfl z⟩)))
    rw [up_nc (by decide), m 131 (by omega), e131, wid (by omega) (by omega)]
    refine s_within (fun z => ⟨fun _ => ?_, fun y => absurd y (by decide)⟩) (fun z => absurd (And.intro a (show i ≤ σ (102 + 2 * t.toNat) 1 - 1 by omega)) z)
    rw [up_nc (by decide), m 130 (by omega)]
    refine s_Mod_cut ?_
    rw [wid (x := 40 * t) (by omega) (by omega), wid (x := 40 * t + i) (by omega) (by omega)]
    refine ⟨by omega, rfl, ?_⟩
    have g : ∀ c, c ≠ 132 → c ≠ 115 → c ≠ 103 + 2 * t.toNat → up (up M 115 0 0) 132 (40 * t + i) (cutF (σ 130 t) v) c = σ c := fun c a1 a2 a3 => by rw [up_cell a1, up_cell a2, m c a3]
    refine hI.tray (fun c hc => ?_) (fun k hk => ?_) (TrayOK.put h hTr ⟨?_, ?_, ?_, ?_, fun j j0 j1 => ?_⟩ (fun c c0 c1 c2 c3 => g c (by omega) (by omega) c3) (fun k hk => by rw [g 130 (by decide) (by decide) (by omega)]) (fun k hk => by rw [g 131 (by decide) (by decide) (by omega)]) (fun k hk => by rw [up_nk (by omega), up_nc (by decide), m 132 (by omega)]))
    · have n1 : c ≠ 102 ∧ c ≠ 103 ∧ c ≠ 104 ∧ c ≠ 105 ∧ c ≠ 106 ∧ c ≠ 107 ∧ c ≠ 108 ∧ c ≠ 109 ∧ c ≠ 130 ∧ c ≠ 131 ∧ c ≠ 132 ∧ c ≠ 115 := by simp [traC, scrt] at hc ⊢; omega
      exact g c (by omega) (by omega) (by omega)
    · rw [up_nc (by decide), up_nk (k115 hk).1, m 115 (by omega)]
    · rw [g 130 (by decide) (by decide) (by omega), g _ (by omega) (by omega) (by omega)]; exact hm.1
    · rw [g _ (by omega) (by omega) (by omega)]; exact hm.2.1
    · rw [g 131 (by decide) (by decide) (by omega), g _ (by omega) (by omega) (by omega)]; exact hm.2.2.1
    · rw [g _ (by omega) (by omega) (by omega)]; exact b
    · rw [g _ (by omega) (by omega) (by omega)] at j1
      rw [up_nc (by omega), up_nc (by omega), ← hM0]
      by_cases q : j = i
      · subst q; rw [up_same, up_same]
      · rw [up_nk q, up_nk (by omega), up_nc (by decide), up_nc (by omega)]; exact hm.2.2.2.2 j j0 j1
