/-! what is asked for and told: fault, letter, hand, court, takes, copies, name, count -/
theorem aw_bt1 : ∀ (H : Fin 4) (a : Fin 8) (h : Fin 3), bt (ian (2 ^ H.val - 1) (ixo (a.val : Int) (-1))) (h.val : Int) = if h.val < H.val ∧ bt (a.val : Int) (h.val : Int) = 0 then 1 else 0 := by decide +kernel
theorem aw_bt {H a h : Int} (hH : 0 ≤ H ∧ H ≤ 3) (ha : 0 ≤ a ∧ a < 8) (hh : 0 ≤ h ∧ h < 3) : bt (ian (2 ^ H.toNat - 1) (ixo a (-1))) h = if h < H ∧ bt a h = 0 then 1 else 0 := by
  have := aw_bt1 ⟨H.toNat, by omega⟩ ⟨a.toNat, by omega⟩ ⟨h.toNat, by omega⟩
  simp only [show ((a.toNat : Nat) : Int) = a by omega, show ((h.toNat : Nat) : Int) = h by omega] at this
  rw [this]
  by_cases e : h < H ∧ bt a h = 0
  · rw [if_pos e, if_pos ⟨by omega, e.2⟩]
  · rw [if_neg e, if_neg (fun z => e ⟨by omega, z.2⟩)]
theorem aw_lt1 : ∀ (H : Fin 4) (a : Fin 8), 0 ≤ ian (2 ^ H.val - 1) (ixo (a.val : Int) (-1)) ∧ ian (2 ^ H.val - 1) (ixo (a.val : Int) (-1)) < 2 ^ H.val := by decide +kernel
theorem aw_lt {H a : Int} (hH : 0 ≤ H ∧ H ≤ 3) (ha : 0 ≤ a ∧ a < 8) : 0 ≤ ian (2 ^ H.toNat - 1) (ixo a (-1)) ∧ ian (2 ^ H.toNat - 1) (ixo a (-1)) < 2 ^ H.toNat := by
  have := aw_lt1 ⟨H.toNat, by omega⟩ ⟨a.toNat, by omega⟩
  simp only [show ((a.toNat : Nat) : Int) = a by omega] at this
  exact this
theorem an_b1 : ∀ (a : Fin 8) (h : Fin 3), (ian (a.val : Int) (ish 1 (h.val : Int)) = 0) ↔ bt (a.val : Int) (h.val : Int) = 0 := by decide +kernel
theorem an_b {a h : Int} (ha : 0 ≤ a ∧ a < 8) (hh : 0 ≤ h ∧ h < 3) : (ian a (ish 1 h) = 0) ↔ bt a h = 0 := by
  have := an_b1 ⟨a.toNat, by omega⟩ ⟨h.toNat, by omega⟩
  simp only [show ((a.toNat : Nat) : Int) = a by omega, show ((h.toNat : Nat) : Int) = h by omega] at this
  exact this
theorem ior0 {a : Int} (h : i32 a) : ior a 0 = a := by
  unfold ior
  rw [show Int32.ofInt 0 = 0 from rfl, Int32.or_zero, of32 h]
/-- the letters that a hand reads -/
def ltS (T : Int → Int) (h : Int) : Nat → Int
  | 0 => 0
  | n + 1 => if bt (T (27 + h)) (T (43 + (n : Int))) = 0 then ltS T h n else ior (ltS T h n) (ish 1 n)
theorem ltS_i {T : Int → Int} {h : Int} : ∀ n, i32 (ltS T h n)
  | 0 => by unfold ltS i32; omega
  | n + 1 => by
    unfold ltS
    split
    · exact ltS_i n
    · exact ior_i32 _ _
section
variable {E : EN} {d : Nat} {σ : Mem}
theorem s_Room_lettersOf {K : Int → Mem → Prop} {T : Int → Int} {h : Int} (hd : 2 ≤ d) (hT : MT T) (hP : HR σ 2 T) (hh : 0 ≤ h ∧ h < T 2) (q : K (ltS T h (T 4).toNat) σ) : CI E y_Room_lettersOf d [vr 2, vi h] σ K := by
  have h2r : isRoom 2 := Or.inl rfl
  have t2 := hT.2.1
  have t4 := hT.2.2.2.1
  have p3 : σ 2 3 = T 4 := hP.1.2.2.2.1
  have pw := pw8 t2
  have loop : ∀ (m i : Nat), (i : Int) + m = T 4 → Z E y_Room_lettersOf d 4 [some (vr 2), some (vi h), some (vi (ltS T h i)), some (vi (i : Int))] [] σ (qi K) := by
    intro m
    induction m with
    | zero =>
      intro i hi
      refine b_Room_lettersOf_4 h2r (by omega) ⟨fun _ => ?_, fun z => absurd z (by omega)⟩
      have : i = (T 4).toNat := by omega
      subst this; exact q
    | succ m ih =>
      intro i hi
      have hk := hP.2.2.2.2.2 i (by omega) (by omega)
      refine b_Room_lettersOf_4 h2r (by omega) ⟨fun z => absurd z (by omega), fun _ => s_Room_readersOf (by omega) h2r (by omega) (by omega) ?_⟩
      have key := an_b (a := σ 12 i) (h := h) ⟨hk.2.2.2.1.1, by have := hk.2.2.2.1.2; show σ (2 + 10) i < 8; omega⟩ (by omega)
      have kb : bt (σ 12 i) h = bt (T (27 + h)) (T (43 + (i : Int))) := (hk.2.2.2.2 h hh.1 hh.2).2
      rw [kb] at key
      rw [wid (x := (i : Int) + 1) (by omega) (by omega)]
      have nx := ih (i + 1) (by omega)
      unfold ltS at nx
      refine ⟨fun e => ?_, fun e => ?_⟩
      · rw [if_pos (key.mp e)] at nx; exact nx
      · rw [if_neg (fun z => e (key.mpr z))] at nx; exact nx
  exact c_Room_lettersOf (b_Room_lettersOf_0 h2r (loop (T 4).toNat 0 (by omega)))
theorem s_Mod_lettersOf {K : Int → Mem → Prop} {h : Int} (hd : 2 ≤ d) (hT : MT (σ 116)) (hh : 0 ≤ h ∧ h < σ 116 2) (q : K (ltS (σ 116) h (σ 116 4).toNat) σ) : CI E y_Mod_lettersOf d [vr 115, vi h] σ K := by
  have t2 := hT.2.1
  have t4 := hT.2.2.2.1
  have loop : ∀ (m i : Nat), (i : Int) + m = σ 116 4 → Z E y_Mod_lettersOf d 4 [some (vr 115), some (vi h), some (vi (ltS (σ 116) h i)), some (vi (i : Int))] [] σ (qi K) := by
    intro m
    induction m with
    | zero =>
      intro i hi
      refine b_Mod_lettersOf_4 (by omega) ⟨fun _ => ?_, fun z => absurd z (by omega)⟩
      have : i = (σ 116 4).toNat := by omega
      rw [this]; exact q
    | succ m ih =>
      intro i hi
      have t27 := (hT.2.2.2.2.2.2.2.1 h (by omega) (by omega)).1
      have t43 := (hT.2.2.2.2.2.2.2.2.2.1 i (by omega) (by omega)).2.1
      refine b_Mod_lettersOf_4 (by omega) ⟨fun z => absurd z (by omega), fun _ => s_reads1 (by omega) (by omega) (by omega) (by unfold i32; omega) t43 ?_⟩
      rw [wid (x := (i : Int) + 1) (by omega) (by omega), ior0 (ltS_i i)]
      have nx := ih (i + 1) (by omega)
      unfold ltS at nx
      refine ⟨fun e => ?_, fun e => ?_⟩
      · rw [if_pos e] at nx; exact nx
      · rw [if_neg e] at nx; exact nx
  exact c_Mod_lettersOf (b_Mod_lettersOf_0 (loop (σ 116 4).toNat 0 (by omega)))
end
theorem sp2 : SP2 II := by
  intro E σ v hI hR hv
  obtain ⟨-, -, -, -, -, -, -, tp, -⟩ := id hI
  obtain ⟨-, -, -, f1, f2⟩ := tp
  refine c_BC_fault (b_BC_fault_0 ?_)
  rw [f1, f2]
  refine ⟨fun a => ⟨fun b => c_Mod_fault (b_Mod_fault_0 ⟨fun _ => ⟨fun _ => ⟨rfl, hI.thr⟩, fun z => absurd z b⟩, fun z => absurd z a⟩), fun b => c_Mod_fault (b_Mod_fault_0 ⟨fun _ => ⟨fun z => absurd b z, fun _ => ⟨rfl, hI.thr⟩⟩, fun z => absurd z a⟩)⟩, fun a => c_Mod_fault (b_Mod_fault_0 ⟨fun z => absurd a z, fun _ => ⟨rfl, hI.thr⟩⟩)⟩
theorem sp5 : SP5 II := by
  intro E σ v hI hR hv
  obtain ⟨hT, hH, -⟩ := id hI
  have c2 : σ 2 2 = σ 116 3 := hH.1.2.2.1
  have t3 := hT.2.2.1
  have M : ∀ x, (¬ (0 ≤ v ∧ v < σ 116 3) → x = -2) → (0 ≤ v ∧ v < σ 116 3 → x = σ 116 (33 + v)) → CI E y_Mod_court 400 [vr 115, vi v] σ (fun y υ => x = y ∧ II υ) := by
    intro x h0 h1
    refine c_Mod_court (b_Mod_court_0 (by omega) ?_)
    rw [wid (by omega) (by omega)]
    refine s_within (fun h => ⟨fun z => absurd z (by decide), fun _ => ?_⟩) (fun h => ⟨fun _ => ⟨h0 (by omega), hI.thr⟩, fun z => absurd rfl z⟩)
    rw [wid (x := 33 + v) (by omega) (by omega), up_nc (by decide)]
    exact ⟨by omega, h1 (by omega), hI.thr⟩
  refine c_BC_court (b_BC_court_0 ?_)
  rw [c2]
  exact ⟨fun _ => M _ (fun _ => rfl) (fun z => by omega), fun _ => ⟨fun _ => M _ (fun _ => rfl) (fun z => by omega), fun _ => ⟨fun _ => M _ (fun _ => rfl) (fun z => by omega), fun _ => ⟨by omega, M _ (fun z => by omega) (fun z => hH.2.2.1 v z.1 z.2)⟩⟩⟩⟩
theorem sp8 : SP8 II := by
  intro E σ v hI hR hv
  obtain ⟨hT, hH, -⟩ := id hI
  have c6 : σ 2 6 = σ 116 6 := hH.1.2.2.2.2.2.2
  have t6 := hT.2.2.2.2.2.1
  have M : ∀ x, (v < 0 → x = -3) → (0 ≤ v → σ 116 6 ≤ v → x = -1) → (0 ≤ v → v < σ 116 6 → x = σ 116 (19 + v)) → CI E y_Mod_name 400 [vr 115, vi v] σ (fun y υ => x = y ∧ II υ) := by
    intro x h0 h1 h2
    refine c_Mod_name (b_Mod_name_0 ⟨fun a => ⟨fun b => ⟨h1 a b, hI.thr⟩, fun b => ?_⟩, fun a => ⟨h0 a, hI.thr⟩⟩)
    rw [wid (x := 19 + v) (by omega) (by omega)]
    exact ⟨by omega, h2 a b, hI.thr⟩
  refine c_BC_name (b_BC_name_0 ?_)
  rw [c6]
  exact ⟨fun a => ⟨fun b => M _ (fun z => by omega) (fun _ _ => rfl) (fun z y => by omega), fun b => ⟨fun c => by omega, fun c => ⟨by omega, M _ (fun z => by omega) (fun z y => by omega) (fun _ _ => hH.2.2.2.2.1 v a b)⟩⟩⟩, fun a => M _ (fun _ => rfl) (fun z y => by omega) (fun z y => by omega)⟩
theorem sp3 : SP3 II := by
  intro E σ v w hI hR hv hw
  obtain ⟨hT, hH, -, hS, -⟩ := id hI
  have h2r : isRoom 2 := Or.inl rfl
  have t4 := hT.2.2.2.1
  have c3 : σ 2 3 = σ 116 4 := hH.1.2.2.2.1
  have e6 : (up σ 115 0 0) 116 = σ 116 := up_cell (by decide)
  have r0 : σ 50 0 = σ 116 79 := hS.1
  have r1 : σ 50 1 = σ 116 80 := hS.2.1
  have b0 : i32 (σ 116 79) := hR 116 79
  have b1 : i32 (σ 116 80) := hR 116 80
  have M0 : ¬ (0 ≤ v ∧ v < σ 116 4) → CI E y_Mod_letter 400 [vr 115, vi v, vi w] σ (fun y υ => -2 = y ∧ II υ) := by
    intro h0
    exact c_Mod_letter (b_Mod_letter_0 (by omega) (s_isLetter (by omega) (by rw [e6]; exact t4) (fun z => absurd z (by rw [e6]; exact h0)) (fun z => ⟨fun y => absurd rfl y, fun _ => ⟨rfl, hI.thr⟩⟩)))
  have M1 : ∀ x, (0 ≤ v ∧ v < σ 116 4) → (0 ≤ w ∧ w ≤ 6 → x = σ 116 (37 + 6 * w + v)) → (w = 7 → x = bt (σ 116 79) v) → (w = 8 → x = bt (σ 116 80) v) → (w < 0 ∨ 8 < w → x = -2) → CI E y_Mod_letter 400 [vr 115, vi v, vi w] σ (fun y υ => x = y ∧ II υ) := by
    intro x hl h1 h2 h3 h4
    refine c_Mod_letter (b_Mod_letter_0 (by omega) (s_isLetter (by omega) (by rw [e6]; exact t4) (fun z => ⟨fun _ => ?_, fun y => absurd y (by decide)⟩) (fun z => absurd hl (by rw [e6] at z; exact z))))
    refine s_within (fun z => ⟨fun y => absurd y (by decide), fun _ => ?_⟩) (fun z => ⟨fun _ => ⟨fun n7 => ⟨fun n8 => ⟨h4 (by omega), hI.thr⟩, fun n8 => ?_⟩, fun n7 => ?_⟩, fun y => absurd rfl y⟩)
    · rw [wid (x := 6 * w) (by omega) (by omega), wid (x := 37 + 6 * w) (by omega) (by omega), wid (by omega) (by omega), e6]
      exact ⟨by omega, h1 z, hI.thr⟩
    · rw [e6]
      refine s_isIn (i32_64 b1) (by omega) ⟨fun e => ⟨by rw [h3 n8, e], hI.thr⟩, fun e => ⟨?_, hI.thr⟩⟩
      rw [h3 n8]; rcases bt_01 (σ 116 80) v with q | q
      · exact absurd q e
      · exact q
    · rw [e6]
      refine s_isIn (i32_64 b0) (by omega) ⟨fun e => ⟨by rw [h2 n7, e], hI.thr⟩, fun e => ⟨?_, hI.thr⟩⟩
      rw [h2 n7]; rcases bt_01 (σ 116 79) v with q | q
      · exact absurd q e
      · exact q
  refine c_BC_letter (b_BC_letter_0 (by omega) (s_Room_hasLetter h2r (by omega) (fun hl => ⟨fun _ => ?_, fun z => absurd z (by decide)⟩) (fun hl => ⟨fun z => absurd rfl z, fun _ => M0 (by omega)⟩)))
  rw [c3] at hl
  have big : (w < 0 ∨ 7 ≤ w) → Z E y_BC_letter 400 34 [some (vr 0), some (vi v), some (vi w)] [] σ (qi fun x τ => CI E y_Mod_letter 400 [vr 115, vi v, vi w] τ (fun y υ => x = y ∧ II υ)) := by
    intro hw2
    refine b_BC_letter_34 ?_
    rw [r0, r1, bit_eq b0 (by omega), bit_eq b1 (by omega)]
    exact ⟨fun n7 => ⟨fun n8 => M1 _ hl (fun z => by omega) (fun z => absurd z n7) (fun z => absurd z n8) (fun _ => rfl), fun n8 => M1 _ hl (fun z => by omega) (fun z => absurd z n7) (fun _ => rfl) (fun z => by omega)⟩, fun n7 => M1 _ hl (fun z => by omega) (fun _ => rfl) (fun z => by omega) (fun z => by omega)⟩
  refine ⟨fun z => big (by omega), fun w0 => ⟨fun z => big (by omega), fun w7 => s_Room_fact (by omega) h2r (by omega) (by omega) (by omega) ?_⟩⟩
  exact M1 _ hl (fun _ => hH.2.2.2.1 v w hl.1 hl.2 w0 w7) (fun z => by omega) (fun z => by omega) (fun z => by omega)
theorem sp4 : SP4 II := by
  intro E σ v w hI hR hv hw
  obtain ⟨hT, hH, -, hS, -⟩ := id hI
  have h2r : isRoom 2 := Or.inl rfl
  have t2 := hT.2.1
  have c1 : σ 2 1 = σ 116 2 := hH.1.2.1
  have e6 : (up σ 115 0 0) 116 = σ 116 := up_cell (by decide)
  have r2 : σ 50 2 = ian (2 ^ (σ 116 2).toNat - 1) (ixo (σ 116 81) (-1)) := hS.2.2.1
  have r81 : 0 ≤ σ 116 81 ∧ σ 116 81 < 8 := hS.2.2.2.2.2.2.2
  have M0 : ¬ (0 ≤ v ∧ v < σ 116 2) → CI E y_Mod_hand 400 [vr 115, vi v, vi w] σ (fun y υ => -2 = y ∧ II υ) := by
    intro h0
    exact c_Mod_hand (b_Mod_hand_0 (by omega) (s_isHand (by omega) (by rw [e6]; exact t2) (fun z => absurd z (by rw [e6]; exact h0)) (fun z => ⟨fun y => absurd rfl y, fun _ => ⟨rfl, hI.thr⟩⟩)))
  have M1 : ∀ x, (0 ≤ v ∧ v < σ 116 2) → (w = 0 → x = σ 116 (27 + v)) → (w = 1 → x = σ 116 (30 + v)) → (w = 2 → x = if bt (σ 116 81) v = 0 then 1 else 0) → (w = 3 → x = ltS (σ 116) v (σ 116 4).toNat) → (w < 0 ∨ 3 < w → x = -2) → CI E y_Mod_hand 400 [vr 115, vi v, vi w] σ (fun y υ => x = y ∧ II υ) := by
    intro x hl h1 h2 h3 h4 h5
    refine c_Mod_hand (b_Mod_hand_0 (by omega) (s_isHand (by omega) (by rw [e6]; exact t2) (fun z => ⟨fun _ => ⟨fun a => ?_, fun a => ?_, fun a => ?_, fun a => ?_, fun a => ⟨h5 a, hI.thr⟩⟩, fun y => absurd y (by decide)⟩) (fun z => absurd hl (by rw [e6] at z; exact z))))
    · rw [wid (x := 27 + v) (by omega) (by omega), e6]; exact ⟨by omega, h1 a, hI.thr⟩
    · rw [wid (x := 30 + v) (by omega) (by omega), e6]; exact ⟨by omega, h2 a, hI.thr⟩
    · rw [e6]
      refine s_isIn (i32_64 (hR 116 81)) (by omega) ⟨fun e => ⟨by rw [h3 a, if_pos e], hI.thr⟩, fun e => ⟨by rw [h3 a, if_neg e], hI.thr⟩⟩
    · exact s_Mod_lettersOf (by omega) (by rw [e6]; exact hT) (by rw [e6]; exact hl) ⟨by rw [e6]; exact h4 a, hI.thr⟩
  refine c_BC_hand (b_BC_hand_0 (by omega) (s_Room_hasHand h2r (by omega) (fun hl => ⟨fun _ => ?_, fun z => absurd z (by decide)⟩) (fun hl => ⟨fun z => absurd rfl z, fun _ => M0 (by omega)⟩)))
  rw [c1] at hl
  refine ⟨fun a => ⟨by omega, ?_⟩, fun a => ⟨by omega, ?_⟩, fun a => ?_, fun a => ?_, fun a => ?_⟩
  · exact M1 _ hl (fun _ => (hH.2.1 v hl.1 hl.2).1) (fun z => by omega) (fun z => by omega) (fun z => by omega) (fun z => by omega)
  · exact M1 _ hl (fun z => by omega) (fun _ => (hH.2.1 v hl.1 hl.2).2) (fun z => by omega) (fun z => by omega) (fun z => by omega)
  · rw [bit_eq (hR 50 2) (by omega)]
    refine M1 _ hl (fun z => by omega) (fun z => by omega) (fun _ => ?_) (fun z => by omega) (fun z => by omega)
    rw [r2, aw_bt t2 r81 (by omega)]
    by_cases e : bt (σ 116 81) v = 0
    · rw [if_pos e, if_pos ⟨hl.2, e⟩]
    · rw [if_neg e, if_neg (fun z => e z.2)]
  · exact s_Room_lettersOf (by omega) hT hH hl (M1 _ hl (fun z => by omega) (fun z => by omega) (fun z => by omega) (fun _ => rfl) (fun z => by omega))
  · exact M1 _ hl (fun z => by omega) (fun z => by omega) (fun z => by omega) (fun z => by omega) (fun _ => rfl)
theorem sp6 : SP6 II := by
  intro E σ v w hI hR hv hw
  obtain ⟨hT, hH, -⟩ := id hI
  have h2r : isRoom 2 := Or.inl rfl
  have t4 := hT.2.2.2.1
  have c3 : σ 2 3 = σ 116 4 := hH.1.2.2.2.1
  have e6 : (up σ 115 0 0) 116 = σ 116 := up_cell (by decide)
  have hT' : MT (up σ 115 0 0 116) := by rw [e6]; exact hT
  have M : ∀ x, (¬ (0 ≤ v ∧ v < σ 116 4 ∧ 0 ≤ w ∧ w ≤ 2) → x = -2) → (0 ≤ v ∧ v < σ 116 4 → w = 0 → x = opF (σ 116) v) → (0 ≤ v ∧ v < σ 116 4 → w = 1 → x = mdF (σ 116) v) → (0 ≤ v ∧ v < σ 116 4 → w = 2 → x = shF (σ 116) v) → CI E y_Mod_takes 400 [vr 115, vi v, vi w] σ (fun y υ => x = y ∧ II υ) := by
    intro x h0 h1 h2 h3
    refine c_Mod_takes (b_Mod_takes_0 (by omega) (s_isLetter (by omega) (by rw [e6]; exact t4) (fun z => ⟨fun y => absurd y (by decide), fun _ => ?_⟩) (fun z => ⟨fun _ => ⟨h0 (by rw [e6] at z; omega), hI.thr⟩, fun y => absurd rfl y⟩)))
    have z' : 0 ≤ v ∧ v < σ 116 4 := by rw [e6] at z; exact z
    refine s_within (fun a => ⟨fun _ => ⟨fun b => ⟨fun c => ?_, fun c => ?_⟩, fun b => ?_⟩, fun y => absurd y (by decide)⟩) (fun a => ⟨fun y => absurd rfl y, fun _ => ⟨h0 (by omega), hI.thr⟩⟩)
    · exact s_showsOf (by omega) hT' z (fun τ hF => ⟨by rw [e6]; exact h3 z' (by omega), hI.thr.rk hF⟩)
    · exact s_mendsIn (by omega) hT' z (fun τ hF => ⟨by rw [e6]; exact h2 z' c, hI.thr.rk hF⟩)
    · exact s_opensIn (by omega) hT' z (fun τ hF => ⟨by rw [e6]; exact h1 z' b, hI.thr.rk hF⟩)
  refine c_BC_takes (b_BC_takes_0 (by omega) (s_Room_hasLetter h2r (by omega) (fun hl => ⟨fun _ => ?_, fun z => absurd z (by decide)⟩) (fun hl => ⟨fun z => absurd rfl z, fun _ => M _ (fun _ => rfl) (fun z => by omega) (fun z => by omega) (fun z => by omega)⟩)))
  rw [c3] at hl
  have hk := hH.2.2.2.2.2 v hl.1 hl.2
  exact ⟨fun a => ⟨by omega, M _ (fun z => by omega) (fun _ _ => hk.1) (fun z y => by omega) (fun z y => by omega)⟩, fun a => ⟨by omega, M _ (fun z => by omega) (fun z y => by omega) (fun _ _ => hk.2.1) (fun z y => by omega)⟩, fun a => ⟨by omega, M _ (fun z => by omega) (fun z y => by omega) (fun z y => by omega) (fun _ _ => hk.2.2.1)⟩, fun a => M _ (fun _ => rfl) (fun z y => by omega) (fun z y => by omega) (fun z y => by omega)⟩
theorem sp7 : SP7 II := by
  intro E σ v w hI hR hv hw
  obtain ⟨hT, hH, -⟩ := id hI
  have h2r : isRoom 2 := Or.inl rfl
  have t4 := hT.2.2.2.1
  have t2 := hT.2.1
  have c3 : σ 2 3 = σ 116 4 := hH.1.2.2.2.1
  have c1 : σ 2 1 = σ 116 2 := hH.1.2.1
  have e6 : (up σ 115 0 0) 116 = σ 116 := up_cell (by decide)
  have hT' : MT (up σ 115 0 0 116) := by rw [e6]; exact hT
  have M : ∀ x, (¬ ((0 ≤ v ∧ v < σ 116 4) ∧ (0 ≤ w ∧ w < σ 116 2)) → x = -2) → ((0 ≤ v ∧ v < σ 116 4) ∧ (0 ≤ w ∧ w < σ 116 2) → x = cpF (σ 116) v w) → CI E y_Mod_copies 400 [vr 115, vi v, vi w] σ (fun y υ => x = y ∧ II υ) := by
    intro x h0 h1
    refine c_Mod_copies (b_Mod_copies_0 (by omega) (s_isLetter (by omega) (by rw [e6]; exact t4) (fun z => ⟨fun y => absurd y (by decide), fun _ => ?_⟩) (fun z => ⟨fun _ => ⟨h0 (by rw [e6] at z; omega), hI.thr⟩, fun y => absurd rfl y⟩)))
    refine s_isHand (by omega) (by rw [e6]; exact t2) (fun z2 => ⟨fun y => absurd y (by decide), fun _ => ?_⟩) (fun z2 => ⟨fun _ => ⟨h0 (by rw [e6] at z2; omega), hI.thr⟩, fun y => absurd rfl y⟩)
    exact s_copiesIn (by omega) hT' z z2 (fun τ hF => ⟨by rw [e6] at z z2 ⊢; exact h1 ⟨z, z2⟩, hI.thr.rk hF⟩)
  refine c_BC_copies (b_BC_copies_0 (by omega) (s_Room_hasLetter h2r (by omega) (fun hl => ⟨fun z => absurd z (by decide), fun _ => ?_⟩) (fun hl => ⟨fun _ => M _ (fun _ => rfl) (fun z => by omega), fun z => absurd rfl z⟩)))
  refine s_Room_hasHand h2r (by omega) (fun hh => ⟨fun z => absurd z (by decide), fun _ => ?_⟩) (fun hh => ⟨fun _ => M _ (fun _ => rfl) (fun z => by omega), fun z => absurd rfl z⟩)
  refine s_Room_copyTime (by omega) h2r (hH.rb hT) hl hh ?_
  rw [c3] at hl
  rw [c1] at hh
  exact M _ (fun z => absurd ⟨hl, hh⟩ z) (fun _ => ((hH.2.2.2.2.2 v hl.1 hl.2).2.2.2.2 w hh.1 hh.2).1)
theorem sp46 : SP46 II := by
  intro E σ v hI hR hv
  obtain ⟨hT, hH, -, hS, hPa, -, -, hTa, -⟩ := id hI
  obtain ⟨a0, a1, a2, a3, a4, a5, a6⟩ := hH.1
  obtain ⟨s0, s1, s2, s3, -⟩ := hS
  have p9 := hPa.2.2.1
  have t10 := hTa.1
  have e6 : (up σ 115 0 0) 116 = σ 116 := up_cell (by decide)
  have M : ∀ x, (v = 0 → x = σ 116 1) → (v = 1 → x = σ 116 2) → (v = 2 → x = σ 116 3) → (v = 3 → x = σ 116 4) → (v = 4 → x = σ 116 79) → (v = 5 → x = σ 116 80) → (v = 6 → x = σ 116 82) → (v = 7 → x = ian (2 ^ (σ 116 2).toNat - 1) (ixo (σ 116 81) (-1))) → (v = 8 → x = σ 116 5) → (v = 9 → x = σ 116 84) → (v = 10 → x = σ 115 5) → (v = 11 → x = σ 116 0) → (v = 12 → x = σ 116 6) → (v < 0 ∨ 12 < v → x = -1) → CI E y_Mod_count 400 [vr 115, vi v] σ (fun y υ => x = y ∧ II υ) := by
    intro x h0 h1 h2 h3 h4 h5 h6 h7 h8 h9 h10 h11 h12 h13
    refine c_Mod_count (b_Mod_count_0 (by omega) ⟨fun a => ⟨h0 a, hI.thr⟩, fun a => ⟨h1 a, hI.thr⟩, fun a => ⟨h2 a, hI.thr⟩, fun a => ⟨h3 a, hI.thr⟩, fun a => ⟨h4 a, hI.thr⟩, fun a => ⟨h5 a, hI.thr⟩, fun a => ⟨h6 a, hI.thr⟩, fun a => ?_, fun a => ⟨h8 a, hI.thr⟩, fun a => ⟨h9 a, hI.thr⟩, fun a => ⟨h10 a, hI.thr⟩, fun a => ⟨h11 a, hI.thr⟩, fun a => ⟨h12 a, hI.thr⟩, fun a => ⟨h13 a, hI.thr⟩⟩)
    exact s_awake (by rw [e6]; exact hT.2.1) ⟨by rw [e6]; exact h7 a, hI.thr⟩
  refine c_BC_count (b_BC_count_0 ⟨fun a => ?_, fun a => ?_, fun a => ?_, fun a => ?_, fun a => ?_, fun a => ?_, fun a => ?_, fun a => ?_, fun a => ?_, fun a => ?_, fun a => ?_, fun a => ?_, fun a => ?_, fun a => ?_⟩)
  · exact M _ (fun _ => a0) (fun z => by omega) (fun z => by omega) (fun z => by omega) (fun z => by omega) (fun z => by omega) (fun z => by omega) (fun z => by omega) (fun z => by omega) (fun z => by omega) (fun z => by omega) (fun z => by omega) (fun z => by omega) (fun z => by omega)
  · exact M _ (fun z => by omega) (fun _ => a1) (fun z => by omega) (fun z => by omega) (fun z => by omega) (fun z => by omega) (fun z => by omega) (fun z => by omega) (fun z => by omega) (fun z => by omega) (fun z => by omega) (fun z => by omega) (fun z => by omega) (fun z => by omega)
  · exact M _ (fun z => by omega) (fun z => by omega) (fun _ => a2) (fun z => by omega) (fun z => by omega) (fun z => by omega) (fun z => by omega) (fun z => by omega) (fun z => by omega) (fun z => by omega) (fun z => by omega) (fun z => by omega) (fun z => by omega) (fun z => by omega)
  · exact M _ (fun z => by omega) (fun z => by omega) (fun z => by omega) (fun _ => a3) (fun z => by omega) (fun z => by omega) (fun z => by omega) (fun z => by omega) (fun z => by omega) (fun z => by omega) (fun z => by omega) (fun z => by omega) (fun z => by omega) (fun z => by omega)
  · exact M _ (fun z => by omega) (fun z => by omega) (fun z => by omega) (fun z => by omega) (fun _ => s0) (fun z => by omega) (fun z => by omega) (fun z => by omega) (fun z => by omega) (fun z => by omega) (fun z => by omega) (fun z => by omega) (fun z => by omega) (fun z => by omega)
  · exact M _ (fun z => by omega) (fun z => by omega) (fun z => by omega) (fun z => by omega) (fun z => by omega) (fun _ => s1) (fun z => by omega) (fun z => by omega) (fun z => by omega) (fun z => by omega) (fun z => by omega) (fun z => by omega) (fun z => by omega) (fun z => by omega)
  · exact M _ (fun z => by omega) (fun z => by omega) (fun z => by omega) (fun z => by omega) (fun z => by omega) (fun z => by omega) (fun _ => s3) (fun z => by omega) (fun z => by omega) (fun z => by omega) (fun z => by omega) (fun z => by omega) (fun z => by omega) (fun z => by omega)
  · exact M _ (fun z => by omega) (fun z => by omega) (fun z => by omega) (fun z => by omega) (fun z => by omega) (fun z => by omega) (fun z => by omega) (fun _ => s2) (fun z => by omega) (fun z => by omega) (fun z => by omega) (fun z => by omega) (fun z => by omega) (fun z => by omega)
  · exact M _ (fun z => by omega) (fun z => by omega) (fun z => by omega) (fun z => by omega) (fun z => by omega) (fun z => by omega) (fun z => by omega) (fun z => by omega) (fun _ => a5) (fun z => by omega) (fun z => by omega) (fun z => by omega) (fun z => by omega) (fun z => by omega)
  · exact M _ (fun z => by omega) (fun z => by omega) (fun z => by omega) (fun z => by omega) (fun z => by omega) (fun z => by omega) (fun z => by omega) (fun z => by omega) (fun z => by omega) (fun _ => p9.symm) (fun z => by omega) (fun z => by omega) (fun z => by omega) (fun z => by omega)
  · exact M _ (fun z => by omega) (fun z => by omega) (fun z => by omega) (fun z => by omega) (fun z => by omega) (fun z => by omega) (fun z => by omega) (fun z => by omega) (fun z => by omega) (fun z => by omega) (fun _ => t10) (fun z => by omega) (fun z => by omega) (fun z => by omega)
  · exact M _ (fun z => by omega) (fun z => by omega) (fun z => by omega) (fun z => by omega) (fun z => by omega) (fun z => by omega) (fun z => by omega) (fun z => by omega) (fun z => by omega) (fun z => by omega) (fun z => by omega) (fun _ => a4) (fun z => by omega) (fun z => by omega)
  · exact M _ (fun z => by omega) (fun z => by omega) (fun z => by omega) (fun z => by omega) (fun z => by omega) (fun z => by omega) (fun z => by omega) (fun z => by omega) (fun z => by omega) (fun z => by omega) (fun z => by omega) (fun z => by omega) (fun _ => a6) (fun z => by omega)
  · exact M _ (fun z => by omega) (fun z => by omega) (fun z => by omega) (fun z => by omega) (fun z => by omega) (fun z => by omega) (fun z => by omega) (fun z => by omega) (fun z => by omega) (fun z => by omega) (fun z => by omega) (fun z => by omega) (fun z => by omega) (fun _ => rfl)
