/-! small methods -/
def Fr (S : List Nat) (σ τ : Mem) : Prop := ∀ c, c ∉ S → τ c = σ c
theorem Fr.rf {S : List Nat} {σ : Mem} : Fr S σ σ := fun _ _ => rfl
theorem Fr.tr {S : List Nat} {σ τ υ : Mem} (h1 : Fr S σ τ) (h2 : Fr S τ υ) : Fr S σ υ := fun c h => (h2 c h).trans (h1 c h)
theorem Fr.wk {S S2 : List Nat} {σ τ : Mem} (h : Fr S σ τ) (hs : ∀ c, c ∈ S → c ∈ S2) : Fr S2 σ τ := fun c q => h c (fun z => q (hs c z))
theorem Fr.up {S : List Nat} {σ τ : Mem} {c : Nat} {k v : Int} (h : Fr S σ τ) (hc : c ∈ S) : Fr S σ (up τ c k v) := fun c' q => by
  rw [← h c' q]; funext k'; exact up_nc (fun e => q (e ▸ hc))
theorem up_cell {σ : Mem} {c c' : Nat} {k v : Int} (h : c' ≠ c) : up σ c k v c' = σ c' := funext fun _ => up_nc h
variable {E : EN} {d : Nat} {σ : Mem} {r : Nat}
theorem s_Math_max {K : Int → Mem → Prop} {a b : Int} (k : K (max a b) σ) : CI E y_Math_max_II d [vi a, vi b] σ K :=
  c_Math_max_II (b_Math_max_II_0 ⟨fun h => by rw [Int.max_eq_right (by omega)] at k; exact k, fun h => by rw [Int.max_eq_left (by omega)] at k; exact k⟩)
theorem s_Math_min {K : Int → Mem → Prop} {a b : Int} (k : K (min a b) σ) : CI E y_Math_min_II d [vi a, vi b] σ K :=
  c_Math_min_II (b_Math_min_II_0 ⟨fun h => by rw [Int.min_eq_right (by omega)] at k; exact k, fun h => by rw [Int.min_eq_left (by omega)] at k; exact k⟩)
theorem s_Math_maxL {K : Int → Mem → Prop} {a b : Int} (k : K (max a b) σ) : CL E y_Math_max_JJ d [vl a, vl b] σ K :=
  c_Math_max_JJ (b_Math_max_JJ_0 ⟨fun h => by rw [lcm_lt] at h; rw [Int.max_eq_right (by omega)] at k; exact k, fun h => by rw [lcm_ge] at h; rw [Int.max_eq_left (by omega)] at k; exact k⟩)
theorem s_Math_minL {K : Int → Mem → Prop} {a b : Int} (k : K (min a b) σ) : CL E y_Math_min_JJ d [vl a, vl b] σ K :=
  c_Math_min_JJ (b_Math_min_JJ_0 ⟨fun h => by rw [lcm_gt] at h; rw [Int.min_eq_right (by omega)] at k; exact k, fun h => by rw [lcm_le] at h; rw [Int.min_eq_left (by omega)] at k; exact k⟩)
theorem s_Math_abs {K : Int → Mem → Prop} {a : Int} (h : -2147483648 < a ∧ a < 2147483648) (k : K (if a < 0 then -a else a) σ) : CI E y_Math_abs d [vi a] σ K :=
  c_Math_abs (b_Math_abs_0 ⟨fun q => by rw [if_neg (by omega)] at k; exact k, fun q => by rw [if_pos q] at k; rw [wid (by omega) (by omega)]; exact k⟩)
/-- a room's numbers are in their bounds -/
def RB (σ : Mem) (r : Nat) : Prop := (0 ≤ σ r 1 ∧ σ r 1 ≤ 3) ∧ (0 ≤ σ r 2 ∧ σ r 2 ≤ 4) ∧ (0 ≤ σ r 3 ∧ σ r 3 ≤ 6)
theorem s_Room_hasHand {K : Int → Mem → Prop} {k : Int} (h : isRoom r) (hb : σ r 1 ≤ 3) (k1 : 0 ≤ k ∧ k < σ r 1 → K 1 σ) (k0 : ¬ (0 ≤ k ∧ k < σ r 1) → K 0 σ) : CI E y_Room_hasHand d [vr r, vi k] σ K :=
  c_Room_hasHand (b_Room_hasHand_0 h ⟨fun _ => k0 (by omega), fun _ => ⟨fun _ => k0 (by omega), fun _ => ⟨fun _ => k0 (by omega), fun _ => k1 (by omega)⟩⟩⟩)
theorem s_Room_hasLetter {K : Int → Mem → Prop} {k : Int} (h : isRoom r) (hb : σ r 3 ≤ 6) (k1 : 0 ≤ k ∧ k < σ r 3 → K 1 σ) (k0 : ¬ (0 ≤ k ∧ k < σ r 3) → K 0 σ) : CI E y_Room_hasLetter d [vr r, vi k] σ K :=
  c_Room_hasLetter (b_Room_hasLetter_0 h ⟨fun _ => k0 (by omega), fun _ => ⟨fun _ => k0 (by omega), fun _ => ⟨fun _ => k0 (by omega), fun _ => k1 (by omega)⟩⟩⟩)
theorem p2b (n : Int) (h : 0 ≤ n ∧ n ≤ 6) : ((1 : Int) ≤ 2 ^ n.toNat ∧ (2 : Int) ^ n.toNat ≤ 64) ∧ w32 (ish 1 n - 1) = 2 ^ n.toNat - 1 := by
  rcases (show n = 0 ∨ n = 1 ∨ n = 2 ∨ n = 3 ∨ n = 4 ∨ n = 5 ∨ n = 6 by omega) with rfl | rfl | rfl | rfl | rfl | rfl | rfl <;> decide +kernel
theorem s_Room_allHands {K : Int → Mem → Prop} (h : isRoom r) (hb : 0 ≤ σ r 1 ∧ σ r 1 ≤ 3) (k : K (2 ^ (σ r 1).toNat - 1) σ) : CI E y_Room_allHands d [vr r] σ K :=
  c_Room_allHands (b_Room_allHands_0 h (by rw [(p2b _ (by omega)).2]; exact k))
theorem s_Room_allLetters {K : Int → Mem → Prop} (h : isRoom r) (hb : 0 ≤ σ r 3 ∧ σ r 3 ≤ 6) (k : K (2 ^ (σ r 3).toNat - 1) σ) : CI E y_Room_allLetters d [vr r] σ K :=
  c_Room_allLetters (b_Room_allLetters_0 h (by rw [(p2b _ (by omega)).2]; exact k))
theorem s_Room_fact {K : Int → Mem → Prop} {k w : Int} (hd : 1 ≤ d) (h : isRoom r) (hb : σ r 3 ≤ 6) (hk : 0 ≤ k ∧ k < σ r 3) (hw : 0 ≤ w ∧ w < 7) (q : K (σ (r + 4) (7 * k + w)) σ) : CI E y_Room_fact d [vr r, vi k, vi w] σ K := by
  refine c_Room_fact (b_Room_fact_0 h hd (s_Room_hasLetter h hb (fun _ => ⟨fun z => absurd z (by decide), fun _ => ⟨fun _ => absurd hw (by omega), fun _ => ⟨fun _ => absurd hw (by omega), fun _ => ?_⟩⟩⟩) (fun z => absurd hk z)))
  rw [wid (x := k * 7) (by omega) (by omega), wid (by omega) (by omega)]
  exact ⟨by omega, by rw [Int.mul_comm]; exact q⟩
theorem s_Room_copyTime {K : Int → Mem → Prop} {k w : Int} (hd : 1 ≤ d) (h : isRoom r) (hb : RB σ r) (hk : 0 ≤ k ∧ k < σ r 3) (hw : 0 ≤ w ∧ w < σ r 1) (q : K (σ (r + 9) (3 * k + w)) σ) : CI E y_Room_copyTime d [vr r, vi k, vi w] σ K := by
  obtain ⟨h1, h2, h3⟩ := hb
  refine c_Room_copyTime (b_Room_copyTime_0 h hd (s_Room_hasLetter h h3.2 (fun _ => ⟨fun z => absurd z (by decide), fun _ => s_Room_hasHand h h1.2 (fun _ => ⟨fun z => absurd z (by decide), fun _ => ?_⟩) (fun z => absurd hw z)⟩) (fun z => absurd hk z)))
  rw [wid (x := k * 3) (by omega) (by omega), wid (by omega) (by omega)]
  exact ⟨by omega, by rw [Int.mul_comm]; exact q⟩
theorem s_Room_readersOf {K : Int → Mem → Prop} {k w : Int} (hd : 1 ≤ d) (h : isRoom r) (hb : σ r 3 ≤ 6) (hk : 0 ≤ k ∧ k < σ r 3) (q : K (ian (σ (r + 10) k) w) σ) : CI E y_Room_readersOf d [vr r, vi k, vi w] σ K :=
  c_Room_readersOf (b_Room_readersOf_0 h hd (s_Room_hasLetter h hb (fun _ => ⟨fun z => absurd z (by decide), fun _ => ⟨by omega, q⟩⟩) (fun z => absurd hk z)))
/-- the model's small methods -/
theorem s_within {K : Int → Mem → Prop} {v lo hi : Int} (k1 : lo ≤ v ∧ v ≤ hi → K 1 σ) (k0 : ¬ (lo ≤ v ∧ v ≤ hi) → K 0 σ) : CI E y_Mod_within d [vl v, vl lo, vl hi] σ K :=
  c_Mod_within (b_Mod_within_0 ⟨fun h => k0 (by rw [lcm_lt] at h; omega), fun h => ⟨fun h2 => k0 (by rw [lcm_gt] at h2; omega), fun h2 => k1 (by rw [lcm_ge] at h; rw [lcm_le] at h2; omega)⟩⟩)
theorem s_isIn {K : Int → Mem → Prop} {s k : Int} (hs : i64 s) (hk : 0 ≤ k ∧ k < 64) (q : K (bt s k) σ) : CI E y_Mod_isIn d [vl s, vi k] σ K := by
  refine c_Mod_isIn (b_Mod_isIn_0 ?_)
  rw [lbit_eq hs hk]
  refine ⟨fun h => ?_, fun h => ?_⟩
  · rw [lcm_ne] at h
    rcases bt_01 s k with e | e
    · rw [e] at q; exact q
    · exact absurd e h
  · rw [lcm_eq] at h; rw [h] at q; exact q
theorem s_isLetter {K : Int → Mem → Prop} {k : Int} (hd : 1 ≤ d) (hb : 0 ≤ σ 116 4 ∧ σ 116 4 ≤ 6) (k1 : 0 ≤ k ∧ k < σ 116 4 → K 1 σ) (k0 : ¬ (0 ≤ k ∧ k < σ 116 4) → K 0 σ) : CI E y_Mod_isLetter d [vr 115, vl k] σ K := by
  refine c_Mod_isLetter (b_Mod_isLetter_0 hd ?_)
  rw [wid (by omega) (by omega)]
  exact s_within (fun h => ⟨by decide, k1 (by omega)⟩) (fun h => ⟨by decide, k0 (by omega)⟩)
theorem s_isHand {K : Int → Mem → Prop} {k : Int} (hd : 1 ≤ d) (hb : 0 ≤ σ 116 2 ∧ σ 116 2 ≤ 3) (k1 : 0 ≤ k ∧ k < σ 116 2 → K 1 σ) (k0 : ¬ (0 ≤ k ∧ k < σ 116 2) → K 0 σ) : CI E y_Mod_isHand d [vr 115, vl k] σ K := by
  refine c_Mod_isHand (b_Mod_isHand_0 hd ?_)
  rw [wid (by omega) (by omega)]
  exact s_within (fun h => ⟨by decide, k1 (by omega)⟩) (fun h => ⟨by decide, k0 (by omega)⟩)
theorem s_letters {K : Int → Mem → Prop} (hb : 0 ≤ σ 116 4 ∧ σ 116 4 ≤ 6) (q : K (2 ^ (σ 116 4).toNat - 1) σ) : CI E y_Mod_letters d [vr 115] σ K :=
  c_Mod_letters (b_Mod_letters_0 (by rw [(p2b _ (by omega)).2]; exact q))
theorem s_awake {K : Int → Mem → Prop} (hb : 0 ≤ σ 116 2 ∧ σ 116 2 ≤ 3) (q : K (ian (2 ^ (σ 116 2).toNat - 1) (ixo (σ 116 81) (-1))) σ) : CI E y_Mod_awake d [vr 115] σ K :=
  c_Mod_awake (b_Mod_awake_0 (by rw [(p2b _ (by omega)).2]; exact q))
theorem s_reads1 {K : Int → Mem → Prop} {h k : Int} (hd : 1 ≤ d) (hh : 0 ≤ h ∧ h < 3) (hk : 0 ≤ k ∧ k < 6) (hT : i32 (σ 116 (27 + h))) (hg : 0 ≤ σ 116 (43 + k) ∧ σ 116 (43 + k) ≤ 3) (q : K (bt (σ 116 (27 + h)) (σ 116 (43 + k))) σ) : CI E y_Mod_reads1 d [vr 115, vi h, vi k] σ K := by
  refine c_Mod_reads1 (b_Mod_reads1_0 hd ?_)
  rw [wid (x := 27 + h) (by omega) (by omega), wid (x := 43 + k) (by omega) (by omega)]
  refine ⟨by omega, by omega, s_isIn (i32_64 hT) (by omega) ⟨?_, q⟩⟩
  exact bt_01 _ _
theorem s_noTray {K : Int → Mem → Prop} {t : Int} (hd : 1 ≤ d) (k0 : ¬ (0 ≤ t ∧ t < 4) → K (-2) σ) (k1 : 0 ≤ t ∧ t < 4 → σ 130 t = -1 → K (-6) σ) (k2 : 0 ≤ t ∧ t < 4 → σ 130 t ≠ -1 → K 0 σ) : CI E y_Mod_noTray d [vr 115, vi t] σ K :=
  c_Mod_noTray (b_Mod_noTray_0 hd (s_within (fun h => ⟨fun _ => ⟨by omega, fun q => k2 (by omega) q, fun q => k1 (by omega) q⟩, fun z => absurd z (by decide)⟩) (fun h => ⟨fun z => absurd rfl z, fun _ => k0 (by omega)⟩)))
/-- DRAWS -/
def dx (x : Int) : Int := w32 (w32 (1103515245 * x) + 12345)
theorem s_draw {K : Int → Mem → Prop} (q : K (ius (dx (σ 116 83)) 16) (up σ 116 83 (dx (σ 116 83)))) : CI E y_Mod_draw d [vr 115] σ K :=
  c_Mod_draw (b_Mod_draw_0 q)
