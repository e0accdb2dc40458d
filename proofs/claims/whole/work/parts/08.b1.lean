theorem b_Math_abs_0 {E : EN} {d : Nat} {a0 : Int} {σ : Mem} {K : Int → Mem → Prop}  (k : (0 ≤ a0 → K a0 σ) ∧ (a0 < 0 → K (w32 (-a0)) σ)) :
    Z E y_Math_abs d 0 [some (vi a0)] [] σ (qi K) := by
  refine z_iload_n (pc := 0) (q := 0) (by decide +kernel) rfl ?_
  refine z_if_ge (pc := 1) (off := 8) 9 (by decide +kernel) (by decide) ⟨fun hc => ?_, fun hc => ?_⟩
  · have k := k.1 hc
    refine z_iload_n (pc := 9) (q := 0) (by decide +kernel) rfl ?_
    exact z_iret (pc := 10) (by decide +kernel) rfl k
  · have k := k.2 hc
    refine z_iload_n (pc := 4) (q := 0) (by decide +kernel) rfl ?_
    refine z_ineg (pc := 5) (by decide +kernel) ?_
    refine z_goto (pc := 6) (off := 4) 10 (by decide +kernel) (by decide) ?_
    exact z_iret (pc := 10) (by decide +kernel) rfl k
theorem b_Math_floorMod_0 {E : EN} {d : Nat} {a0 : Int} {a1 : Int} {σ : Mem} {K : Int → Mem → Prop}  (k : (a1 ≠ 0) ∧ (0 ≤ ixo a0 a1 → K (Int.tmod a0 a1) σ) ∧ (ixo a0 a1 < 0 → (Int.tmod a0 a1 = 0 → K (Int.tmod a0 a1) σ) ∧ (Int.tmod a0 a1 ≠ 0 → K (w32 ((Int.tmod a0 a1) + a1)) σ))) :
    Z E y_Math_floorMod d 0 [some (vi a0), some (vi a1), none] [] σ (qi K) := by
  refine z_iload_n (pc := 0) (q := 0) (by decide +kernel) rfl ?_
  refine z_iload_n (pc := 1) (q := 1) (by decide +kernel) rfl ?_
  have hb1 := k.1
  have k := k.2
  refine z_irem (pc := 2) (by decide +kernel) hb1 ?_
  refine z_istore_n (pc := 3) (q := 2) [some (vi a0), some (vi a1), some (vi (Int.tmod a0 a1))] (by decide +kernel) (Nat.le_of_ble_eq_true rfl) rfl ?_
  refine z_iload_n (pc := 4) (q := 0) (by decide +kernel) rfl ?_
  refine z_iload_n (pc := 5) (q := 1) (by decide +kernel) rfl ?_
  refine z_ixor (pc := 6) (by decide +kernel) ?_
  refine z_if_ge (pc := 7) (off := 11) 18 (by decide +kernel) (by decide) ⟨fun hc => ?_, fun hc => ?_⟩
  · have k := k.1 hc
    refine z_iload_n (pc := 18) (q := 2) (by decide +kernel) rfl ?_
    exact z_iret (pc := 19) (by decide +kernel) rfl k
  · have k := k.2 hc
    refine z_iload_n (pc := 10) (q := 2) (by decide +kernel) rfl ?_
    refine z_if_eq (pc := 11) (off := 7) 18 (by decide +kernel) (by decide) ⟨fun hc => ?_, fun hc => ?_⟩
    · have k := k.1 hc
      refine z_iload_n (pc := 18) (q := 2) (by decide +kernel) rfl ?_
      exact z_iret (pc := 19) (by decide +kernel) rfl k
    · have k := k.2 hc
      refine z_iload_n (pc := 14) (q := 2) (by decide +kernel) rfl ?_
      refine z_iload_n (pc := 15) (q := 1) (by decide +kernel) rfl ?_
      refine z_iadd (pc := 16) (by decide +kernel) ?_
      exact z_iret (pc := 17) (by decide +kernel) rfl k
theorem b_Math_max_II_0 {E : EN} {d : Nat} {a0 : Int} {a1 : Int} {σ : Mem} {K : Int → Mem → Prop}  (k : (a0 < a1 → K a1 σ) ∧ (a1 ≤ a0 → K a0 σ)) :
    Z E y_Math_max_II d 0 [some (vi a0), some (vi a1)] [] σ (qi K) := by
  refine z_iload_n (pc := 0) (q := 0) (by decide +kernel) rfl ?_
  refine z_iload_n (pc := 1) (q := 1) (by decide +kernel) rfl ?_
  refine z_icmp_lt (pc := 2) (off := 7) 9 (by decide +kernel) (by decide) ⟨fun hc => ?_, fun hc => ?_⟩
  · have k := k.1 hc
    refine z_iload_n (pc := 9) (q := 1) (by decide +kernel) rfl ?_
    exact z_iret (pc := 10) (by decide +kernel) rfl k
  · have k := k.2 hc
    refine z_iload_n (pc := 5) (q := 0) (by decide +kernel) rfl ?_
    refine z_goto (pc := 6) (off := 4) 10 (by decide +kernel) (by decide) ?_
    exact z_iret (pc := 10) (by decide +kernel) rfl k
theorem b_Math_max_JJ_0 {E : EN} {d : Nat} {b0 : Int} {b2 : Int} {σ : Mem} {K : Int → Mem → Prop}  (k : (lcm b0 b2 < 0 → K b2 σ) ∧ (0 ≤ lcm b0 b2 → K b0 σ)) :
    Z E y_Math_max_JJ d 0 [some (vl b0), none, some (vl b2), none] [] σ (ql K) := by
  refine z_lload_n (pc := 0) (q := 0) (by decide +kernel) rfl ?_
  refine z_lload_n (pc := 1) (q := 2) (by decide +kernel) rfl ?_
  refine z_lcmp (pc := 2) (by decide +kernel) ?_
  refine z_if_lt (pc := 3) (off := 7) 10 (by decide +kernel) (by decide) ⟨fun hc => ?_, fun hc => ?_⟩
  · have k := k.1 hc
    refine z_lload_n (pc := 10) (q := 2) (by decide +kernel) rfl ?_
    exact z_lret (pc := 11) (by decide +kernel) rfl k
  · have k := k.2 hc
    refine z_lload_n (pc := 6) (q := 0) (by decide +kernel) rfl ?_
    refine z_goto (pc := 7) (off := 4) 11 (by decide +kernel) (by decide) ?_
    exact z_lret (pc := 11) (by decide +kernel) rfl k
theorem b_Math_min_II_0 {E : EN} {d : Nat} {a0 : Int} {a1 : Int} {σ : Mem} {K : Int → Mem → Prop}  (k : (a1 < a0 → K a1 σ) ∧ (a0 ≤ a1 → K a0 σ)) :
    Z E y_Math_min_II d 0 [some (vi a0), some (vi a1)] [] σ (qi K) := by
  refine z_iload_n (pc := 0) (q := 0) (by decide +kernel) rfl ?_
  refine z_iload_n (pc := 1) (q := 1) (by decide +kernel) rfl ?_
  refine z_icmp_gt (pc := 2) (off := 7) 9 (by decide +kernel) (by decide) ⟨fun hc => ?_, fun hc => ?_⟩
  · have k := k.1 hc
    refine z_iload_n (pc := 9) (q := 1) (by decide +kernel) rfl ?_
    exact z_iret (pc := 10) (by decide +kernel) rfl k
  · have k := k.2 hc
    refine z_iload_n (pc := 5) (q := 0) (by decide +kernel) rfl ?_
    refine z_goto (pc := 6) (off := 4) 10 (by decide +kernel) (by decide) ?_
    exact z_iret (pc := 10) (by decide +kernel) rfl k
theorem b_Math_min_JJ_0 {E : EN} {d : Nat} {b0 : Int} {b2 : Int} {σ : Mem} {K : Int → Mem → Prop}  (k : (0 < lcm b0 b2 → K b2 σ) ∧ (lcm b0 b2 ≤ 0 → K b0 σ)) :
    Z E y_Math_min_JJ d 0 [some (vl b0), none, some (vl b2), none] [] σ (ql K) := by
  refine z_lload_n (pc := 0) (q := 0) (by decide +kernel) rfl ?_
  refine z_lload_n (pc := 1) (q := 2) (by decide +kernel) rfl ?_
  refine z_lcmp (pc := 2) (by decide +kernel) ?_
  refine z_if_gt (pc := 3) (off := 7) 10 (by decide +kernel) (by decide) ⟨fun hc => ?_, fun hc => ?_⟩
  · have k := k.1 hc
    refine z_lload_n (pc := 10) (q := 2) (by decide +kernel) rfl ?_
    exact z_lret (pc := 11) (by decide +kernel) rfl k
  · have k := k.2 hc
    refine z_lload_n (pc := 6) (q := 0) (by decide +kernel) rfl ?_
    refine z_goto (pc := 7) (off := 4) 11 (by decide +kernel) (by decide) ?_
    exact z_lret (pc := 11) (by decide +kernel) rfl k
theorem b_Stg_begin_0 {E : EN} {d : Nat} {r0 : Nat} {a1 : Int} {σ : Mem} {K : Mem → Prop} (h0 : isStg r0) (k : K (up (up (up (up (up σ r0 0 0) r0 1 0) r0 2 a1) r0 3 0) r0 4 0)) :
    Z E y_Stg_begin d 0 [some (vr r0), some (vi a1)] [] σ (qv K) := by
  refine z_aload_n (pc := 0) (q := 0) (by decide +kernel) rfl ?_
  refine z_iconst (pc := 1) (n := 0) (by decide +kernel) ⟨by decide, by decide⟩ ?_
  refine z_putI (pc := 2) 0 fp_Stg_7 (shStg h0) rfl rfl (by decide +kernel) ?_
  refine z_aload_n (pc := 5) (q := 0) (by decide +kernel) rfl ?_
  refine z_iconst (pc := 6) (n := 0) (by decide +kernel) ⟨by decide, by decide⟩ ?_
  refine z_putI (pc := 7) 1 fp_Stg_13 (shStg h0) rfl rfl (by decide +kernel) ?_
  refine z_aload_n (pc := 10) (q := 0) (by decide +kernel) rfl ?_
  refine z_iload_n (pc := 11) (q := 1) (by decide +kernel) rfl ?_
  refine z_putI (pc := 12) 2 fp_Stg_16 (shStg h0) rfl rfl (by decide +kernel) ?_
  refine z_aload_n (pc := 15) (q := 0) (by decide +kernel) rfl ?_
  refine z_iconst (pc := 16) (n := 0) (by decide +kernel) ⟨by decide, by decide⟩ ?_
  refine z_putI (pc := 17) 3 fp_Stg_19 (shStg h0) rfl rfl (by decide +kernel) ?_
  refine z_aload_n (pc := 20) (q := 0) (by decide +kernel) rfl ?_
  refine z_iconst (pc := 21) (n := 0) (by decide +kernel) ⟨by decide, by decide⟩ ?_
  refine z_putI (pc := 22) 4 fp_Stg_22 (shStg h0) rfl rfl (by decide +kernel) ?_
  exact z_vret (pc := 25) (by decide +kernel) rfl k
theorem b_Stg_become_0 {E : EN} {d : Nat} {r0 : Nat} {r1 : Nat} {σ : Mem} {K : Mem → Prop} (h0 : isStg r0) (h1 : isStg r1) (k : K (up (up (up (up (up σ r0 0 (σ r1 0)) r0 1 ((up σ r0 0 (σ r1 0)) r1 1)) r0 2 ((up (up σ r0 0 (σ r1 0)) r0 1 ((up σ r0 0 (σ r1 0)) r1 1)) r1 2)) r0 3 ((up (up (up σ r0 0 (σ r1 0)) r0 1 ((up σ r0 0 (σ r1 0)) r1 1)) r0 2 ((up (up σ r0 0 (σ r1 0)) r0 1 ((up σ r0 0 (σ r1 0)) r1 1)) r1 2)) r1 3)) r0 4 ((up (up (up (up σ r0 0 (σ r1 0)) r0 1 ((up σ r0 0 (σ r1 0)) r1 1)) r0 2 ((up (up σ r0 0 (σ r1 0)) r0 1 ((up σ r0 0 (σ r1 0)) r1 1)) r1 2)) r0 3 ((up (up (up σ r0 0 (σ r1 0)) r0 1 ((up σ r0 0 (σ r1 0)) r1 1)) r0 2 ((up (up σ r0 0 (σ r1 0)) r0 1 ((up σ r0 0 (σ r1 0)) r1 1)) r1 2)) r1 3)) r1 4))) :
    Z E y_Stg_become d 0 [some (vr r0), some (vr r1)] [] σ (qv K) := by
  refine z_aload_n (pc := 0) (q := 0) (by decide +kernel) rfl ?_
  refine z_aload_n (pc := 1) (q := 1) (by decide +kernel) rfl ?_
  refine z_getI (pc := 2) 0 fl_Stg_7 (shStg h1) (by decide) rfl (by decide +kernel) ?_
  refine z_putI (pc := 5) 0 fp_Stg_7 (shStg h0) rfl rfl (by decide +kernel) ?_
  refine z_aload_n (pc := 8) (q := 0) (by decide +kernel) rfl ?_
  refine z_aload_n (pc := 9) (q := 1) (by decide +kernel) rfl ?_
  refine z_getI (pc := 10) 1 fl_Stg_13 (shStg h1) (by decide) rfl (by decide +kernel) ?_
  refine z_putI (pc := 13) 1 fp_Stg_13 (shStg h0) rfl rfl (by decide +kernel) ?_
  refine z_aload_n (pc := 16) (q := 0) (by decide +kernel) rfl ?_
  refine z_aload_n (pc := 17) (q := 1) (by decide +kernel) rfl ?_
  refine z_getI (pc := 18) 2 fl_Stg_16 (shStg h1) (by decide) rfl (by decide +kernel) ?_
  refine z_putI (pc := 21) 2 fp_Stg_16 (shStg h0) rfl rfl (by decide +kernel) ?_
  refine z_aload_n (pc := 24) (q := 0) (by decide +kernel) rfl ?_
  refine z_aload_n (pc := 25) (q := 1) (by decide +kernel) rfl ?_
  refine z_getI (pc := 26) 3 fl_Stg_19 (shStg h1) (by decide) rfl (by decide +kernel) ?_
  refine z_putI (pc := 29) 3 fp_Stg_19 (shStg h0) rfl rfl (by decide +kernel) ?_
  refine z_aload_n (pc := 32) (q := 0) (by decide +kernel) rfl ?_
  refine z_aload_n (pc := 33) (q := 1) (by decide +kernel) rfl ?_
  refine z_getI (pc := 34) 4 fl_Stg_22 (shStg h1) (by decide) rfl (by decide +kernel) ?_
  refine z_putI (pc := 37) 4 fp_Stg_22 (shStg h0) rfl rfl (by decide +kernel) ?_
  exact z_vret (pc := 40) (by decide +kernel) rfl k
theorem b_Stg_draw_0 {E : EN} {d : Nat} {r0 : Nat} {σ : Mem} {K : Int → Mem → Prop} (h0 : isStg r0) (k : K (ius (w32 ((w32 (1103515245 * (σ r0 4))) + 12345)) 16) (up σ r0 4 (w32 ((w32 (1103515245 * (σ r0 4))) + 12345)))) :
    Z E y_Stg_draw d 0 [some (vr r0)] [] σ (qi K) := by
  refine z_aload_n (pc := 0) (q := 0) (by decide +kernel) rfl ?_
  refine z_ldc (pc := 1) (index := 25) 1103515245 (mm4 185 rfl) ⟨by decide, by decide⟩ (by decide +kernel) ?_
  refine z_aload_n (pc := 3) (q := 0) (by decide +kernel) rfl ?_
  refine z_getI (pc := 4) 4 fl_Stg_22 (shStg h0) (by decide) rfl (by decide +kernel) ?_
  refine z_imul (pc := 7) (by decide +kernel) ?_
  refine z_sipush (pc := 8) (n := 12345) (by decide +kernel) (by decide) ⟨by decide, by decide⟩ ?_
  refine z_iadd (pc := 11) (by decide +kernel) ?_
  refine z_putI (pc := 12) 4 fp_Stg_22 (shStg h0) rfl rfl (by decide +kernel) ?_
  refine z_aload_n (pc := 15) (q := 0) (by decide +kernel) rfl ?_
  refine z_getI (pc := 16) 4 fl_Stg_22 (shStg h0) (by decide) rfl (by decide +kernel) ?_
  refine z_topI (up_same _ _ _ _) ?_
  refine z_bipush (pc := 19) (n := 16) (by decide +kernel) (by decide) ⟨by decide, by decide⟩ ?_
  refine z_iushr (pc := 21) (by decide +kernel) ?_
  exact z_iret (pc := 22) (by decide +kernel) rfl k
theorem b_Tray_begin_0 {E : EN} {d : Nat} {r0 : Nat} {a1 : Int} {a2 : Int} {σ : Mem} {K : Mem → Prop} (h0 : isTray r0) (hd : 1 ≤ d) (k : CV E y_Arr_fill_AJJ (d - 1) [vr (r0 + 1), vl 0] (up (up σ r0 0 a1) r0 1 a2) (fun τ1 => K τ1)) :
    Z E y_Tray_begin d 0 [some (vr r0), some (vi a1), some (vi a2)] [] σ (qv K) := by
  refine z_aload_n (pc := 0) (q := 0) (by decide +kernel) rfl ?_
  refine z_iload_n (pc := 1) (q := 1) (by decide +kernel) rfl ?_
  refine z_putI (pc := 2) 0 fp_Tray_9 (shTray h0) rfl rfl (by decide +kernel) ?_
  refine z_aload_n (pc := 5) (q := 0) (by decide +kernel) rfl ?_
  refine z_iload_n (pc := 6) (q := 2) (by decide +kernel) rfl ?_
  refine z_putI (pc := 7) 1 fp_Tray_15 (shTray h0) rfl rfl (by decide +kernel) ?_
  refine z_aload_n (pc := 10) (q := 0) (by decide +kernel) rfl ?_
  refine z_getR (pc := 11) (r0 + 1) fl_Tray_18 (shTray h0) rfl (rfTray_2 h0) (by decide +kernel) ?_
  refine z_lconst (pc := 14) (n := 0) 0 (by decide +kernel) (by decide) ⟨by decide, by decide⟩ ?_
  refine z_calls (pc := 15) (as := [vr (r0 + 1), vl 0]) ml_Tray_22 rfl rfl (Nat.le_of_ble_eq_true rfl) (dc := d - 1) (by omega) (by decide +kernel) (CV.z (CV.mono (fun τ1 k => ?_) k))
  exact z_vret (pc := 18) (by decide +kernel) rfl k
theorem b_Tray_at_0 {E : EN} {d : Nat} {r0 : Nat} {a1 : Int} {σ : Mem} {K : Int → Mem → Prop} (h0 : isTray r0) (k : (a1 < 0 → K 0 σ) ∧ (0 ≤ a1 → (σ r0 1 ≤ a1 → K 0 σ) ∧ (a1 < σ r0 1 → (40 ≤ a1 → K 0 σ) ∧ (a1 < 40 → (0 ≤ a1 ∧ a1 < 40) ∧ K (σ (r0 + 1) a1) σ)))) :
    Z E y_Tray_at d 0 [some (vr r0), some (vi a1)] [] σ (ql K) := by
  refine z_iload_n (pc := 0) (q := 1) (by decide +kernel) rfl ?_
  refine z_if_lt (pc := 1) (off := 26) 27 (by decide +kernel) (by decide) ⟨fun hc => ?_, fun hc => ?_⟩
  · have k := k.1 hc
    refine z_lconst (pc := 27) (n := 0) 0 (by decide +kernel) (by decide) ⟨by decide, by decide⟩ ?_
    exact z_lret (pc := 28) (by decide +kernel) rfl k
  · have k := k.2 hc
    refine z_iload_n (pc := 4) (q := 1) (by decide +kernel) rfl ?_
    refine z_aload_n (pc := 5) (q := 0) (by decide +kernel) rfl ?_
    refine z_getI (pc := 6) 1 fl_Tray_15 (shTray h0) (by decide) rfl (by decide +kernel) ?_
    refine z_icmp_ge (pc := 9) (off := 18) 27 (by decide +kernel) (by decide) ⟨fun hc => ?_, fun hc => ?_⟩
    · have k := k.1 hc
      refine z_lconst (pc := 27) (n := 0) 0 (by decide +kernel) (by decide) ⟨by decide, by decide⟩ ?_
      exact z_lret (pc := 28) (by decide +kernel) rfl k
    · have k := k.2 hc
      refine z_iload_n (pc := 12) (q := 1) (by decide +kernel) rfl ?_
      refine z_bipush (pc := 13) (n := 40) (by decide +kernel) (by decide) ⟨by decide, by decide⟩ ?_
      refine z_icmp_ge (pc := 15) (off := 12) 27 (by decide +kernel) (by decide) ⟨fun hc => ?_, fun hc => ?_⟩
      · have k := k.1 hc
        refine z_lconst (pc := 27) (n := 0) 0 (by decide +kernel) (by decide) ⟨by decide, by decide⟩ ?_
        exact z_lret (pc := 28) (by decide +kernel) rfl k
      · have k := k.2 hc
        refine z_aload_n (pc := 18) (q := 0) (by decide +kernel) rfl ?_
        refine z_getR (pc := 19) (r0 + 1) fl_Tray_18 (shTray h0) rfl (rfTray_2 h0) (by decide +kernel) ?_
        refine z_iload_n (pc := 22) (q := 1) (by decide +kernel) rfl ?_
        have hb1 := k.1
        have k := k.2
        refine z_lald (pc := 23) (shTray_1 h0) hb1 (by decide +kernel) ?_
        refine z_goto (pc := 24) (off := 4) 28 (by decide +kernel) (by decide) ?_
        exact z_lret (pc := 28) (by decide +kernel) rfl k
theorem b_Tray_put_0 {E : EN} {d : Nat} {r0 : Nat} {a1 : Int} {b2 : Int} {σ : Mem} {K : Int → Mem → Prop} (h0 : isTray r0) (hd : 1 ≤ d) (k : (a1 < 0 → K 0 σ) ∧ (0 ≤ a1 → (σ r0 1 ≤ a1 → K 0 σ) ∧ (a1 < σ r0 1 → (a1 < 40 → CL E y_Tray_cut (d - 1) [vr r0, vl b2] σ (fun x1 τ1 => (0 ≤ a1 ∧ a1 < 40) ∧ K x1 (up τ1 (r0 + 1) a1 x1))) ∧ (40 ≤ a1 → K 0 σ)))) :
    Z E y_Tray_put d 0 [some (vr r0), some (vi a1), some (vl b2), none] [] σ (ql K) := by
  refine z_iload_n (pc := 0) (q := 1) (by decide +kernel) rfl ?_
  refine z_if_lt (pc := 1) (off := 17) 18 (by decide +kernel) (by decide) ⟨fun hc => ?_, fun hc => ?_⟩
  · have k := k.1 hc
    refine z_lconst (pc := 18) (n := 0) 0 (by decide +kernel) (by decide) ⟨by decide, by decide⟩ ?_
    exact z_lret (pc := 19) (by decide +kernel) rfl k
  · have k := k.2 hc
    refine z_iload_n (pc := 4) (q := 1) (by decide +kernel) rfl ?_
    refine z_aload_n (pc := 5) (q := 0) (by decide +kernel) rfl ?_
    refine z_getI (pc := 6) 1 fl_Tray_15 (shTray h0) (by decide) rfl (by decide +kernel) ?_
    refine z_icmp_ge (pc := 9) (off := 9) 18 (by decide +kernel) (by decide) ⟨fun hc => ?_, fun hc => ?_⟩
    · have k := k.1 hc
      refine z_lconst (pc := 18) (n := 0) 0 (by decide +kernel) (by decide) ⟨by decide, by decide⟩ ?_
      exact z_lret (pc := 19) (by decide +kernel) rfl k
    · have k := k.2 hc
      refine z_iload_n (pc := 12) (q := 1) (by decide +kernel) rfl ?_
      refine z_bipush (pc := 13) (n := 40) (by decide +kernel) (by decide) ⟨by decide, by decide⟩ ?_
      refine z_icmp_lt (pc := 15) (off := 5) 20 (by decide +kernel) (by decide) ⟨fun hc => ?_, fun hc => ?_⟩
      · have k := k.1 hc
        refine z_aload_n (pc := 20) (q := 0) (by decide +kernel) rfl ?_
        refine z_getR (pc := 21) (r0 + 1) fl_Tray_18 (shTray h0) rfl (rfTray_2 h0) (by decide +kernel) ?_
        refine z_iload_n (pc := 24) (q := 1) (by decide +kernel) rfl ?_
        refine z_aload_n (pc := 25) (q := 0) (by decide +kernel) rfl ?_
        refine z_lload_n (pc := 26) (q := 2) (by decide +kernel) rfl ?_
        refine z_callv (pc := 27) (as := [vl b2]) ml_Tray_28 (shTray h0) ⟨rfl, by decide⟩ rfl rfl (Nat.le_of_ble_eq_true rfl) (dc := d - 1) (by omega) (by decide +kernel) (CL.z (CL.mono (fun x1 τ1 k => ?_) k))
        have hb1 := k.1
        have k := k.2
        refine z_last (pc := 30) (shTray_1 h0) hb1 (by decide +kernel) ?_
        refine z_aload_n (pc := 31) (q := 0) (by decide +kernel) rfl ?_
        refine z_getR (pc := 32) (r0 + 1) fl_Tray_18 (shTray h0) rfl (rfTray_2 h0) (by decide +kernel) ?_
        refine z_iload_n (pc := 35) (q := 1) (by decide +kernel) rfl ?_
        refine z_lald (pc := 36) (shTray_1 h0) hb1 (by decide +kernel) ?_
        refine z_topL (up_same _ _ _ _) ?_
        exact z_lret (pc := 37) (by decide +kernel) rfl k
      · have k := k.2 hc
        refine z_lconst (pc := 18) (n := 0) 0 (by decide +kernel) (by decide) ⟨by decide, by decide⟩ ?_
        exact z_lret (pc := 19) (by decide +kernel) rfl k
theorem b_Tray_cut_0 {E : EN} {d : Nat} {r0 : Nat} {b1 : Int} {σ : Mem} {K : Int → Mem → Prop} (h0 : isTray r0) (k : (σ r0 0 = 0 → K (w8 (w32 b1)) σ) ∧ (σ r0 0 = 1 → K (w16 (w32 b1)) σ) ∧ (σ r0 0 = 2 → K (w32 b1) σ) ∧ (σ r0 0 < 0 ∨ 2 < σ r0 0 → K b1 σ)) :
    Z E y_Tray_cut d 0 [some (vr r0), some (vl b1), none] [] σ (ql K) := by
  refine z_aload_n (pc := 0) (q := 0) (by decide +kernel) rfl ?_
  refine z_getI (pc := 1) 0 fl_Tray_9 (shTray h0) (by decide) rfl (by decide +kernel) ?_
  have hdg : decode y_Tray_cut.2.1 4 = .ok (.tableswitch 42 0 2 #[28, 33, 38], 28) := by decide +kernel
  by_cases hl0 : σ r0 0 < 0
  · have k := k.2.2.2 (Or.inl hl0)
    refine z_tableOut (pc := 4) 46 hdg (Or.inl hl0) (by decide) ?_
    refine z_lload_n (pc := 46) (q := 1) (by decide +kernel) rfl ?_
    exact z_lret (pc := 47) (by decide +kernel) rfl k
  have hl : 0 ≤ σ r0 0 := Int.not_lt.mp hl0
  by_cases hc : σ r0 0 = 0
  · have k := k.1 hc
    refine z_tableIn2 (pc := 4) (off := 28) 32 hdg hc (by decide) (by decide +kernel) (by decide) ?_
    refine z_lload_n (pc := 32) (q := 1) (by decide +kernel) rfl ?_
    refine z_l2i (pc := 33) (by decide +kernel) ?_
    refine z_i2b (pc := 34) (by decide +kernel) ?_
    refine z_i2l (pc := 35) (by decide +kernel) ?_
    exact z_lret (pc := 36) (by decide +kernel) rfl k
  have k := k.2
  have hl := ne_up (w := 1) hl hc rfl; clear hc
  by_cases hc : σ r0 0 = 1
  · have k := k.1 hc
    refine z_tableIn2 (pc := 4) (off := 33) 37 hdg hc (by decide) (by decide +kernel) (by decide) ?_
    refine z_lload_n (pc := 37) (q := 1) (by decide +kernel) rfl ?_
    refine z_l2i (pc := 38) (by decide +kernel) ?_
    refine z_i2s (pc := 39) (by decide +kernel) ?_
    refine z_i2l (pc := 40) (by decide +kernel) ?_
    exact z_lret (pc := 41) (by decide +kernel) rfl k
  have k := k.2
  have hl := ne_up (w := 2) hl hc rfl; clear hc
  by_cases hc : σ r0 0 = 2
  · have k := k.1 hc
    refine z_tableIn2 (pc := 4) (off := 38) 42 hdg hc (by decide) (by decide +kernel) (by decide) ?_
    refine z_lload_n (pc := 42) (q := 1) (by decide +kernel) rfl ?_
    refine z_l2i (pc := 43) (by decide +kernel) ?_
    refine z_i2l (pc := 44) (by decide +kernel) ?_
    exact z_lret (pc := 45) (by decide +kernel) rfl k
  have k := k.2
  have hl := ne_up (w := 3) hl hc rfl; clear hc
  have hl := Int.lt_of_add_one_le (a := 2) hl
  have k := k (Or.inr hl)
  refine z_tableOut (pc := 4) 46 hdg (Or.inr hl) (by decide) ?_
  refine z_lload_n (pc := 46) (q := 1) (by decide +kernel) rfl ?_
  exact z_lret (pc := 47) (by decide +kernel) rfl k
theorem b_Room_clear_0 {E : EN} {d : Nat} {r0 : Nat} {σ : Mem} {K : Mem → Prop} (h0 : isRoom r0) (hd : 1 ≤ d) (k : CV E y_Arr_fill_AII (d - 1) [vr (r0 + 1), vi 0] (up (up (up (up (up (up (up (up σ r0 0 0) r0 1 0) r0 2 0) r0 3 0) r0 4 0) r0 5 50) r0 6 0) r0 18 0) (fun τ1 => CV E y_Arr_fill_AII (d - 1) [vr (r0 + 2), vi 0] τ1 (fun τ2 => CV E y_Arr_fill_AII (d - 1) [vr (r0 + 4), vi 0] τ2 (fun τ3 => K τ3)))) :
    Z E y_Room_clear d 0 [some (vr r0)] [] σ (qv K) := by
  refine z_aload_n (pc := 0) (q := 0) (by decide +kernel) rfl ?_
  refine z_iconst (pc := 1) (n := 0) (by decide +kernel) ⟨by decide, by decide⟩ ?_
  refine z_putI (pc := 2) 0 fp_Room_9 (shRoom h0) rfl rfl (by decide +kernel) ?_
  refine z_aload_n (pc := 5) (q := 0) (by decide +kernel) rfl ?_
  refine z_iconst (pc := 6) (n := 0) (by decide +kernel) ⟨by decide, by decide⟩ ?_
  refine z_putI (pc := 7) 1 fp_Room_15 (shRoom h0) rfl rfl (by decide +kernel) ?_
  refine z_aload_n (pc := 10) (q := 0) (by decide +kernel) rfl ?_
  refine z_iconst (pc := 11) (n := 0) (by decide +kernel) ⟨by decide, by decide⟩ ?_
  refine z_putI (pc := 12) 2 fp_Room_18 (shRoom h0) rfl rfl (by decide +kernel) ?_
  refine z_aload_n (pc := 15) (q := 0) (by decide +kernel) rfl ?_
  refine z_iconst (pc := 16) (n := 0) (by decide +kernel) ⟨by decide, by decide⟩ ?_
  refine z_putI (pc := 17) 3 fp_Room_21 (shRoom h0) rfl rfl (by decide +kernel) ?_
  refine z_aload_n (pc := 20) (q := 0) (by decide +kernel) rfl ?_
  refine z_iconst (pc := 21) (n := 0) (by decide +kernel) ⟨by decide, by decide⟩ ?_
  refine z_putI (pc := 22) 4 fp_Room_24 (shRoom h0) rfl rfl (by decide +kernel) ?_
  refine z_aload_n (pc := 25) (q := 0) (by decide +kernel) rfl ?_
  refine z_bipush (pc := 26) (n := 50) (by decide +kernel) (by decide) ⟨by decide, by decide⟩ ?_
  refine z_putI (pc := 28) 5 fp_Room_27 (shRoom h0) rfl rfl (by decide +kernel) ?_
  refine z_aload_n (pc := 31) (q := 0) (by decide +kernel) rfl ?_
  refine z_iconst (pc := 32) (n := 0) (by decide +kernel) ⟨by decide, by decide⟩ ?_
  refine z_putI (pc := 33) 6 fp_Room_30 (shRoom h0) rfl rfl (by decide +kernel) ?_
  refine z_aload_n (pc := 36) (q := 0) (by decide +kernel) rfl ?_
  refine z_iconst (pc := 37) (n := 0) (by decide +kernel) ⟨by decide, by decide⟩ ?_
  refine z_putI (pc := 38) 18 fp_Room_67 (shRoom h0) rfl rfl (by decide +kernel) ?_
  refine z_aload_n (pc := 41) (q := 0) (by decide +kernel) rfl ?_
  refine z_getR (pc := 42) (r0 + 1) fl_Room_33 (shRoom h0) rfl (rfRoom_7 h0) (by decide +kernel) ?_
  refine z_iconst (pc := 45) (n := 0) (by decide +kernel) ⟨by decide, by decide⟩ ?_
  refine z_calls (pc := 46) (as := [vr (r0 + 1), vi 0]) ml_Room_70 rfl rfl (Nat.le_of_ble_eq_true rfl) (dc := d - 1) (by omega) (by decide +kernel) (CV.z (CV.mono (fun τ1 k => ?_) k))
  refine z_aload_n (pc := 49) (q := 0) (by decide +kernel) rfl ?_
  refine z_getR (pc := 50) (r0 + 2) fl_Room_37 (shRoom h0) rfl (rfRoom_8 h0) (by decide +kernel) ?_
  refine z_iconst (pc := 53) (n := 0) (by decide +kernel) ⟨by decide, by decide⟩ ?_
  refine z_calls (pc := 54) (as := [vr (r0 + 2), vi 0]) ml_Room_70 rfl rfl (Nat.le_of_ble_eq_true rfl) (dc := d - 1) (by omega) (by decide +kernel) (CV.z (CV.mono (fun τ2 k => ?_) k))
  refine z_aload_n (pc := 57) (q := 0) (by decide +kernel) rfl ?_
  refine z_getR (pc := 58) (r0 + 4) fl_Room_43 (shRoom h0) rfl (rfRoom_10 h0) (by decide +kernel) ?_
  refine z_iconst (pc := 61) (n := 0) (by decide +kernel) ⟨by decide, by decide⟩ ?_
  refine z_calls (pc := 62) (as := [vr (r0 + 4), vi 0]) ml_Room_70 rfl rfl (Nat.le_of_ble_eq_true rfl) (dc := d - 1) (by omega) (by decide +kernel) (CV.z (CV.mono (fun τ3 k => ?_) k))
  exact z_vret (pc := 65) (by decide +kernel) rfl k
theorem b_Room_become_0 {E : EN} {d : Nat} {r0 : Nat} {r1 : Nat} {σ : Mem} {K : Mem → Prop} (h0 : isRoom r0) (h1 : isRoom r1) (hd : 1 ≤ d) (k : K (acp (acp (acp (acp (acp (acp (acp (acp (acp (acp (acp (up (up (up (up (up (up (up (up σ r0 0 (σ r1 0)) r0 1 ((up σ r0 0 (σ r1 0)) r1 1)) r0 2 ((up (up σ r0 0 (σ r1 0)) r0 1 ((up σ r0 0 (σ r1 0)) r1 1)) r1 2)) r0 3 ((up (up (up σ r0 0 (σ r1 0)) r0 1 ((up σ r0 0 (σ r1 0)) r1 1)) r0 2 ((up (up σ r0 0 (σ r1 0)) r0 1 ((up σ r0 0 (σ r1 0)) r1 1)) r1 2)) r1 3)) r0 4 ((up (up (up (up σ r0 0 (σ r1 0)) r0 1 ((up σ r0 0 (σ r1 0)) r1 1)) r0 2 ((up (up σ r0 0 (σ r1 0)) r0 1 ((up σ r0 0 (σ r1 0)) r1 1)) r1 2)) r0 3 ((up (up (up σ r0 0 (σ r1 0)) r0 1 ((up σ r0 0 (σ r1 0)) r1 1)) r0 2 ((up (up σ r0 0 (σ r1 0)) r0 1 ((up σ r0 0 (σ r1 0)) r1 1)) r1 2)) r1 3)) r1 4)) r0 5 ((up (up (up (up (up σ r0 0 (σ r1 0)) r0 1 ((up σ r0 0 (σ r1 0)) r1 1)) r0 2 ((up (up σ r0 0 (σ r1 0)) r0 1 ((up σ r0 0 (σ r1 0)) r1 1)) r1 2)) r0 3 ((up (up (up σ r0 0 (σ r1 0)) r0 1 ((up σ r0 0 (σ r1 0)) r1 1)) r0 2 ((up (up σ r0 0 (σ r1 0)) r0 1 ((up σ r0 0 (σ r1 0)) r1 1)) r1 2)) r1 3)) r0 4 ((up (up (up (up σ r0 0 (σ r1 0)) r0 1 ((up σ r0 0 (σ r1 0)) r1 1)) r0 2 ((up (up σ r0 0 (σ r1 0)) r0 1 ((up σ r0 0 (σ r1 0)) r1 1)) r1 2)) r0 3 ((up (up (up σ r0 0 (σ r1 0)) r0 1 ((up σ r0 0 (σ r1 0)) r1 1)) r0 2 ((up (up σ r0 0 (σ r1 0)) r0 1 ((up σ r0 0 (σ r1 0)) r1 1)) r1 2)) r1 3)) r1 4)) r1 5)) r0 6 ((up (up (up (up (up (up σ r0 0 (σ r1 0)) r0 1 ((up σ r0 0 (σ r1 0)) r1 1)) r0 2 ((up (up σ r0 0 (σ r1 0)) r0 1 ((up σ r0 0 (σ r1 0)) r1 1)) r1 2)) r0 3 ((up (up (up σ r0 0 (σ r1 0)) r0 1 ((up σ r0 0 (σ r1 0)) r1 1)) r0 2 ((up (up σ r0 0 (σ r1 0)) r0 1 ((up σ r0 0 (σ r1 0)) r1 1)) r1 2)) r1 3)) r0 4 ((up (up (up (up σ r0 0 (σ r1 0)) r0 1 ((up σ r0 0 (σ r1 0)) r1 1)) r0 2 ((up (up σ r0 0 (σ r1 0)) r0 1 ((up σ r0 0 (σ r1 0)) r1 1)) r1 2)) r0 3 ((up (up (up σ r0 0 (σ r1 0)) r0 1 ((up σ r0 0 (σ r1 0)) r1 1)) r0 2 ((up (up σ r0 0 (σ r1 0)) r0 1 ((up σ r0 0 (σ r1 0)) r1 1)) r1 2)) r1 3)) r1 4)) r0 5 ((up (up (up (up (up σ r0 0 (σ r1 0)) r0 1 ((up σ r0 0 (σ r1 0)) r1 1)) r0 2 ((up (up σ r0 0 (σ r1 0)) r0 1 ((up σ r0 0 (σ r1 0)) r1 1)) r1 2)) r0 3 ((up (up (up σ r0 0 (σ r1 0)) r0 1 ((up σ r0 0 (σ r1 0)) r1 1)) r0 2 ((up (up σ r0 0 (σ r1 0)) r0 1 ((up σ r0 0 (σ r1 0)) r1 1)) r1 2)) r1 3)) r0 4 ((up (up (up (up σ r0 0 (σ r1 0)) r0 1 ((up σ r0 0 (σ r1 0)) r1 1)) r0 2 ((up (up σ r0 0 (σ r1 0)) r0 1 ((up σ r0 0 (σ r1 0)) r1 1)) r1 2)) r0 3 ((up (up (up σ r0 0 (σ r1 0)) r0 1 ((up σ r0 0 (σ r1 0)) r1 1)) r0 2 ((up (up σ r0 0 (σ r1 0)) r0 1 ((up σ r0 0 (σ r1 0)) r1 1)) r1 2)) r1 3)) r1 4)) r1 5)) r1 6)) r0 18 ((up (up (up (up (up (up (up σ r0 0 (σ r1 0)) r0 1 ((up σ r0 0 (σ r1 0)) r1 1)) r0 2 ((up (up σ r0 0 (σ r1 0)) r0 1 ((up σ r0 0 (σ r1 0)) r1 1)) r1 2)) r0 3 ((up (up (up σ r0 0 (σ r1 0)) r0 1 ((up σ r0 0 (σ r1 0)) r1 1)) r0 2 ((up (up σ r0 0 (σ r1 0)) r0 1 ((up σ r0 0 (σ r1 0)) r1 1)) r1 2)) r1 3)) r0 4 ((up (up (up (up σ r0 0 (σ r1 0)) r0 1 ((up σ r0 0 (σ r1 0)) r1 1)) r0 2 ((up (up σ r0 0 (σ r1 0)) r0 1 ((up σ r0 0 (σ r1 0)) r1 1)) r1 2)) r0 3 ((up (up (up σ r0 0 (σ r1 0)) r0 1 ((up σ r0 0 (σ r1 0)) r1 1)) r0 2 ((up (up σ r0 0 (σ r1 0)) r0 1 ((up σ r0 0 (σ r1 0)) r1 1)) r1 2)) r1 3)) r1 4)) r0 5 ((up (up (up (up (up σ r0 0 (σ r1 0)) r0 1 ((up σ r0 0 (σ r1 0)) r1 1)) r0 2 ((up (up σ r0 0 (σ r1 0)) r0 1 ((up σ r0 0 (σ r1 0)) r1 1)) r1 2)) r0 3 ((up (up (up σ r0 0 (σ r1 0)) r0 1 ((up σ r0 0 (σ r1 0)) r1 1)) r0 2 ((up (up σ r0 0 (σ r1 0)) r0 1 ((up σ r0 0 (σ r1 0)) r1 1)) r1 2)) r1 3)) r0 4 ((up (up (up (up σ r0 0 (σ r1 0)) r0 1 ((up σ r0 0 (σ r1 0)) r1 1)) r0 2 ((up (up σ r0 0 (σ r1 0)) r0 1 ((up σ r0 0 (σ r1 0)) r1 1)) r1 2)) r0 3 ((up (up (up σ r0 0 (σ r1 0)) r0 1 ((up σ r0 0 (σ r1 0)) r1 1)) r0 2 ((up (up σ r0 0 (σ r1 0)) r0 1 ((up σ r0 0 (σ r1 0)) r1 1)) r1 2)) r1 3)) r1 4)) r1 5)) r0 6 ((up (up (up (up (up (up σ r0 0 (σ r1 0)) r0 1 ((up σ r0 0 (σ r1 0)) r1 1)) r0 2 ((up (up σ r0 0 (σ r1 0)) r0 1 ((up σ r0 0 (σ r1 0)) r1 1)) r1 2)) r0 3 ((up (up (up σ r0 0 (σ r1 0)) r0 1 ((up σ r0 0 (σ r1 0)) r1 1)) r0 2 ((up (up σ r0 0 (σ r1 0)) r0 1 ((up σ r0 0 (σ r1 0)) r1 1)) r1 2)) r1 3)) r0 4 ((up (up (up (up σ r0 0 (σ r1 0)) r0 1 ((up σ r0 0 (σ r1 0)) r1 1)) r0 2 ((up (up σ r0 0 (σ r1 0)) r0 1 ((up σ r0 0 (σ r1 0)) r1 1)) r1 2)) r0 3 ((up (up (up σ r0 0 (σ r1 0)) r0 1 ((up σ r0 0 (σ r1 0)) r1 1)) r0 2 ((up (up σ r0 0 (σ r1 0)) r0 1 ((up σ r0 0 (σ r1 0)) r1 1)) r1 2)) r1 3)) r1 4)) r0 5 ((up (up (up (up (up σ r0 0 (σ r1 0)) r0 1 ((up σ r0 0 (σ r1 0)) r1 1)) r0 2 ((up (up σ r0 0 (σ r1 0)) r0 1 ((up σ r0 0 (σ r1 0)) r1 1)) r1 2)) r0 3 ((up (up (up σ r0 0 (σ r1 0)) r0 1 ((up σ r0 0 (σ r1 0)) r1 1)) r0 2 ((up (up σ r0 0 (σ r1 0)) r0 1 ((up σ r0 0 (σ r1 0)) r1 1)) r1 2)) r1 3)) r0 4 ((up (up (up (up σ r0 0 (σ r1 0)) r0 1 ((up σ r0 0 (σ r1 0)) r1 1)) r0 2 ((up (up σ r0 0 (σ r1 0)) r0 1 ((up σ r0 0 (σ r1 0)) r1 1)) r1 2)) r0 3 ((up (up (up σ r0 0 (σ r1 0)) r0 1 ((up σ r0 0 (σ r1 0)) r1 1)) r0 2 ((up (up σ r0 0 (σ r1 0)) r0 1 ((up σ r0 0 (σ r1 0)) r1 1)) r1 2)) r1 3)) r1 4)) r1 5)) r1 6)) r1 18)) (r1 + 1) (r0 + 1) 0 0 3) (r1 + 2) (r0 + 2) 0 0 3) (r1 + 3) (r0 + 3) 0 0 4) (r1 + 4) (r0 + 4) 0 0 42) (r1 + 5) (r0 + 5) 0 0 8) (r1 + 6) (r0 + 6) 0 0 6) (r1 + 7) (r0 + 7) 0 0 6) (r1 + 8) (r0 + 8) 0 0 6) (r1 + 9) (r0 + 9) 0 0 18) (r1 + 10) (r0 + 10) 0 0 6) (r1 + 11) (r0 + 11) 0 0 512)) :
    Z E y_Room_become d 0 [some (vr r0), some (vr r1)] [] σ (qv K) := by
  refine z_aload_n (pc := 0) (q := 0) (by decide +kernel) rfl ?_
  refine z_aload_n (pc := 1) (q := 1) (by decide +kernel) rfl ?_
  refine z_getI (pc := 2) 0 fl_Room_9 (shRoom h1) (by decide) rfl (by decide +kernel) ?_
  refine z_putI (pc := 5) 0 fp_Room_9 (shRoom h0) rfl rfl (by decide +kernel) ?_
  refine z_aload_n (pc := 8) (q := 0) (by decide +kernel) rfl ?_
  refine z_aload_n (pc := 9) (q := 1) (by decide +kernel) rfl ?_
  refine z_getI (pc := 10) 1 fl_Room_15 (shRoom h1) (by decide) rfl (by decide +kernel) ?_
  refine z_putI (pc := 13) 1 fp_Room_15 (shRoom h0) rfl rfl (by decide +kernel) ?_
  refine z_aload_n (pc := 16) (q := 0) (by decide +kernel) rfl ?_
  refine z_aload_n (pc := 17) (q := 1) (by decide +kernel) rfl ?_
  refine z_getI (pc := 18) 2 fl_Room_18 (shRoom h1) (by decide) rfl (by decide +kernel) ?_
  refine z_putI (pc := 21) 2 fp_Room_18 (shRoom h0) rfl rfl (by decide +kernel) ?_
  refine z_aload_n (pc := 24) (q := 0) (by decide +kernel) rfl ?_
  refine z_aload_n (pc := 25) (q := 1) (by decide +kernel) rfl ?_
  refine z_getI (pc := 26) 3 fl_Room_21 (shRoom h1) (by decide) rfl (by decide +kernel) ?_
  refine z_putI (pc := 29) 3 fp_Room_21 (shRoom h0) rfl rfl (by decide +kernel) ?_
  refine z_aload_n (pc := 32) (q := 0) (by decide +kernel) rfl ?_
  refine z_aload_n (pc := 33) (q := 1) (by decide +kernel) rfl ?_
  refine z_getI (pc := 34) 4 fl_Room_24 (shRoom h1) (by decide) rfl (by decide +kernel) ?_
  refine z_putI (pc := 37) 4 fp_Room_24 (shRoom h0) rfl rfl (by decide +kernel) ?_
  refine z_aload_n (pc := 40) (q := 0) (by decide +kernel) rfl ?_
  refine z_aload_n (pc := 41) (q := 1) (by decide +kernel) rfl ?_
  refine z_getI (pc := 42) 5 fl_Room_27 (shRoom h1) (by decide) rfl (by decide +kernel) ?_
  refine z_putI (pc := 45) 5 fp_Room_27 (shRoom h0) rfl rfl (by decide +kernel) ?_
  refine z_aload_n (pc := 48) (q := 0) (by decide +kernel) rfl ?_
  refine z_aload_n (pc := 49) (q := 1) (by decide +kernel) rfl ?_
  refine z_getI (pc := 50) 6 fl_Room_30 (shRoom h1) (by decide) rfl (by decide +kernel) ?_
  refine z_putI (pc := 53) 6 fp_Room_30 (shRoom h0) rfl rfl (by decide +kernel) ?_
  refine z_aload_n (pc := 56) (q := 0) (by decide +kernel) rfl ?_
  refine z_aload_n (pc := 57) (q := 1) (by decide +kernel) rfl ?_
  refine z_getI (pc := 58) 18 fl_Room_67 (shRoom h1) (by decide) rfl (by decide +kernel) ?_
  refine z_putI (pc := 61) 18 fp_Room_67 (shRoom h0) rfl rfl (by decide +kernel) ?_
  refine z_aload_n (pc := 64) (q := 1) (by decide +kernel) rfl ?_
  refine z_getR (pc := 65) (r1 + 1) fl_Room_33 (shRoom h1) rfl (rfRoom_7 h1) (by decide +kernel) ?_
  refine z_iconst (pc := 68) (n := 0) (by decide +kernel) ⟨by decide, by decide⟩ ?_
  refine z_aload_n (pc := 69) (q := 0) (by decide +kernel) rfl ?_
  refine z_getR (pc := 70) (r0 + 1) fl_Room_33 (shRoom h0) rfl (rfRoom_7 h0) (by decide +kernel) ?_
  refine z_iconst (pc := 73) (n := 0) (by decide +kernel) ⟨by decide, by decide⟩ ?_
  refine z_iconst (pc := 74) (n := 3) (by decide +kernel) ⟨by decide, by decide⟩ ?_
  refine z_acopy (pc := 75) ac_Room_76 (shRoom_1 h1) (shRoom_1 h0) (by decide) hd (by decide) (by decide +kernel) ?_
  refine z_aload_n (pc := 78) (q := 1) (by decide +kernel) rfl ?_
  refine z_getR (pc := 79) (r1 + 2) fl_Room_37 (shRoom h1) rfl (rfRoom_8 h1) (by decide +kernel) ?_
  refine z_iconst (pc := 82) (n := 0) (by decide +kernel) ⟨by decide, by decide⟩ ?_
  refine z_aload_n (pc := 83) (q := 0) (by decide +kernel) rfl ?_
  refine z_getR (pc := 84) (r0 + 2) fl_Room_37 (shRoom h0) rfl (rfRoom_8 h0) (by decide +kernel) ?_
  refine z_iconst (pc := 87) (n := 0) (by decide +kernel) ⟨by decide, by decide⟩ ?_
  refine z_iconst (pc := 88) (n := 3) (by decide +kernel) ⟨by decide, by decide⟩ ?_
  refine z_acopy (pc := 89) ac_Room_76 (shRoom_2 h1) (shRoom_2 h0) (by decide) hd (by decide) (by decide +kernel) ?_
  refine z_aload_n (pc := 92) (q := 1) (by decide +kernel) rfl ?_
  refine z_getR (pc := 93) (r1 + 3) fl_Room_40 (shRoom h1) rfl (rfRoom_9 h1) (by decide +kernel) ?_
  refine z_iconst (pc := 96) (n := 0) (by decide +kernel) ⟨by decide, by decide⟩ ?_
  refine z_aload_n (pc := 97) (q := 0) (by decide +kernel) rfl ?_
  refine z_getR (pc := 98) (r0 + 3) fl_Room_40 (shRoom h0) rfl (rfRoom_9 h0) (by decide +kernel) ?_
  refine z_iconst (pc := 101) (n := 0) (by decide +kernel) ⟨by decide, by decide⟩ ?_
  refine z_iconst (pc := 102) (n := 4) (by decide +kernel) ⟨by decide, by decide⟩ ?_
  refine z_acopy (pc := 103) ac_Room_76 (shRoom_3 h1) (shRoom_3 h0) (by decide) hd (by decide) (by decide +kernel) ?_
  refine z_aload_n (pc := 106) (q := 1) (by decide +kernel) rfl ?_
  refine z_getR (pc := 107) (r1 + 4) fl_Room_43 (shRoom h1) rfl (rfRoom_10 h1) (by decide +kernel) ?_
  refine z_iconst (pc := 110) (n := 0) (by decide +kernel) ⟨by decide, by decide⟩ ?_
  refine z_aload_n (pc := 111) (q := 0) (by decide +kernel) rfl ?_
  refine z_getR (pc := 112) (r0 + 4) fl_Room_43 (shRoom h0) rfl (rfRoom_10 h0) (by decide +kernel) ?_
  refine z_iconst (pc := 115) (n := 0) (by decide +kernel) ⟨by decide, by decide⟩ ?_
  refine z_bipush (pc := 116) (n := 42) (by decide +kernel) (by decide) ⟨by decide, by decide⟩ ?_
  refine z_acopy (pc := 118) ac_Room_76 (shRoom_4 h1) (shRoom_4 h0) (by decide) hd (by decide) (by decide +kernel) ?_
  refine z_aload_n (pc := 121) (q := 1) (by decide +kernel) rfl ?_
  refine z_getR (pc := 122) (r1 + 5) fl_Room_46 (shRoom h1) rfl (rfRoom_11 h1) (by decide +kernel) ?_
  refine z_iconst (pc := 125) (n := 0) (by decide +kernel) ⟨by decide, by decide⟩ ?_
  refine z_aload_n (pc := 126) (q := 0) (by decide +kernel) rfl ?_
  refine z_getR (pc := 127) (r0 + 5) fl_Room_46 (shRoom h0) rfl (rfRoom_11 h0) (by decide +kernel) ?_
  refine z_iconst (pc := 130) (n := 0) (by decide +kernel) ⟨by decide, by decide⟩ ?_
  refine z_bipush (pc := 131) (n := 8) (by decide +kernel) (by decide) ⟨by decide, by decide⟩ ?_
  refine z_acopy (pc := 133) ac_Room_76 (shRoom_5 h1) (shRoom_5 h0) (by decide) hd (by decide) (by decide +kernel) ?_
  refine z_aload_n (pc := 136) (q := 1) (by decide +kernel) rfl ?_
  refine z_getR (pc := 137) (r1 + 6) fl_Room_49 (shRoom h1) rfl (rfRoom_12 h1) (by decide +kernel) ?_
  refine z_iconst (pc := 140) (n := 0) (by decide +kernel) ⟨by decide, by decide⟩ ?_
  refine z_aload_n (pc := 141) (q := 0) (by decide +kernel) rfl ?_
  refine z_getR (pc := 142) (r0 + 6) fl_Room_49 (shRoom h0) rfl (rfRoom_12 h0) (by decide +kernel) ?_
  refine z_iconst (pc := 145) (n := 0) (by decide +kernel) ⟨by decide, by decide⟩ ?_
  refine z_bipush (pc := 146) (n := 6) (by decide +kernel) (by decide) ⟨by decide, by decide⟩ ?_
  refine z_acopy (pc := 148) ac_Room_76 (shRoom_6 h1) (shRoom_6 h0) (by decide) hd (by decide) (by decide +kernel) ?_
  refine z_aload_n (pc := 151) (q := 1) (by decide +kernel) rfl ?_
  refine z_getR (pc := 152) (r1 + 7) fl_Room_52 (shRoom h1) rfl (rfRoom_13 h1) (by decide +kernel) ?_
  refine z_iconst (pc := 155) (n := 0) (by decide +kernel) ⟨by decide, by decide⟩ ?_
  refine z_aload_n (pc := 156) (q := 0) (by decide +kernel) rfl ?_
  refine z_getR (pc := 157) (r0 + 7) fl_Room_52 (shRoom h0) rfl (rfRoom_13 h0) (by decide +kernel) ?_
  refine z_iconst (pc := 160) (n := 0) (by decide +kernel) ⟨by decide, by decide⟩ ?_
  refine z_bipush (pc := 161) (n := 6) (by decide +kernel) (by decide) ⟨by decide, by decide⟩ ?_
  refine z_acopy (pc := 163) ac_Room_76 (shRoom_7 h1) (shRoom_7 h0) (by decide) hd (by decide) (by decide +kernel) ?_
  refine z_aload_n (pc := 166) (q := 1) (by decide +kernel) rfl ?_
  refine z_getR (pc := 167) (r1 + 8) fl_Room_55 (shRoom h1) rfl (rfRoom_14 h1) (by decide +kernel) ?_
  refine z_iconst (pc := 170) (n := 0) (by decide +kernel) ⟨by decide, by decide⟩ ?_
  refine z_aload_n (pc := 171) (q := 0) (by decide +kernel) rfl ?_
  refine z_getR (pc := 172) (r0 + 8) fl_Room_55 (shRoom h0) rfl (rfRoom_14 h0) (by decide +kernel) ?_
  refine z_iconst (pc := 175) (n := 0) (by decide +kernel) ⟨by decide, by decide⟩ ?_
  refine z_bipush (pc := 176) (n := 6) (by decide +kernel) (by decide) ⟨by decide, by decide⟩ ?_
  refine z_acopy (pc := 178) ac_Room_76 (shRoom_8 h1) (shRoom_8 h0) (by decide) hd (by decide) (by decide +kernel) ?_
  refine z_aload_n (pc := 181) (q := 1) (by decide +kernel) rfl ?_
  refine z_getR (pc := 182) (r1 + 9) fl_Room_58 (shRoom h1) rfl (rfRoom_15 h1) (by decide +kernel) ?_
  refine z_iconst (pc := 185) (n := 0) (by decide +kernel) ⟨by decide, by decide⟩ ?_
  refine z_aload_n (pc := 186) (q := 0) (by decide +kernel) rfl ?_
  refine z_getR (pc := 187) (r0 + 9) fl_Room_58 (shRoom h0) rfl (rfRoom_15 h0) (by decide +kernel) ?_
  refine z_iconst (pc := 190) (n := 0) (by decide +kernel) ⟨by decide, by decide⟩ ?_
  refine z_bipush (pc := 191) (n := 18) (by decide +kernel) (by decide) ⟨by decide, by decide⟩ ?_
  refine z_acopy (pc := 193) ac_Room_76 (shRoom_9 h1) (shRoom_9 h0) (by decide) hd (by decide) (by decide +kernel) ?_
  refine z_aload_n (pc := 196) (q := 1) (by decide +kernel) rfl ?_
  refine z_getR (pc := 197) (r1 + 10) fl_Room_61 (shRoom h1) rfl (rfRoom_16 h1) (by decide +kernel) ?_
  refine z_iconst (pc := 200) (n := 0) (by decide +kernel) ⟨by decide, by decide⟩ ?_
  refine z_aload_n (pc := 201) (q := 0) (by decide +kernel) rfl ?_
  refine z_getR (pc := 202) (r0 + 10) fl_Room_61 (shRoom h0) rfl (rfRoom_16 h0) (by decide +kernel) ?_
  refine z_iconst (pc := 205) (n := 0) (by decide +kernel) ⟨by decide, by decide⟩ ?_
  refine z_bipush (pc := 206) (n := 6) (by decide +kernel) (by decide) ⟨by decide, by decide⟩ ?_
  refine z_acopy (pc := 208) ac_Room_76 (shRoom_10 h1) (shRoom_10 h0) (by decide) hd (by decide) (by decide +kernel) ?_
  refine z_aload_n (pc := 211) (q := 1) (by decide +kernel) rfl ?_
  refine z_getR (pc := 212) (r1 + 11) fl_Room_64 (shRoom h1) rfl (rfRoom_17 h1) (by decide +kernel) ?_
  refine z_iconst (pc := 215) (n := 0) (by decide +kernel) ⟨by decide, by decide⟩ ?_
  refine z_aload_n (pc := 216) (q := 0) (by decide +kernel) rfl ?_
  refine z_getR (pc := 217) (r0 + 11) fl_Room_64 (shRoom h0) rfl (rfRoom_17 h0) (by decide +kernel) ?_
  refine z_iconst (pc := 220) (n := 0) (by decide +kernel) ⟨by decide, by decide⟩ ?_
  refine z_sipush (pc := 221) (n := 512) (by decide +kernel) (by decide) ⟨by decide, by decide⟩ ?_
  refine z_acopy (pc := 224) ac_Room_76 (shRoom_11 h1) (shRoom_11 h0) (by decide) hd (by decide) (by decide +kernel) ?_
  exact z_vret (pc := 227) (by decide +kernel) rfl k
theorem b_Room_hasHand_0 {E : EN} {d : Nat} {r0 : Nat} {a1 : Int} {σ : Mem} {K : Int → Mem → Prop} (h0 : isRoom r0) (k : (a1 < 0 → K 0 σ) ∧ (0 ≤ a1 → (σ r0 1 ≤ a1 → K 0 σ) ∧ (a1 < σ r0 1 → (3 ≤ a1 → K 0 σ) ∧ (a1 < 3 → K 1 σ)))) :
    Z E y_Room_hasHand d 0 [some (vr r0), some (vi a1)] [] σ (qi K) := by
  refine z_iload_n (pc := 0) (q := 1) (by decide +kernel) rfl ?_
  refine z_if_lt (pc := 1) (off := 20) 21 (by decide +kernel) (by decide) ⟨fun hc => ?_, fun hc => ?_⟩
  · have k := k.1 hc
    refine z_iconst (pc := 21) (n := 0) (by decide +kernel) ⟨by decide, by decide⟩ ?_
    exact z_zret (pc := 22) (by decide +kernel) rfl ⟨by decide, k⟩
  · have k := k.2 hc
    refine z_iload_n (pc := 4) (q := 1) (by decide +kernel) rfl ?_
    refine z_aload_n (pc := 5) (q := 0) (by decide +kernel) rfl ?_
    refine z_getI (pc := 6) 1 fl_Room_15 (shRoom h0) (by decide) rfl (by decide +kernel) ?_
    refine z_icmp_ge (pc := 9) (off := 12) 21 (by decide +kernel) (by decide) ⟨fun hc => ?_, fun hc => ?_⟩
    · have k := k.1 hc
      refine z_iconst (pc := 21) (n := 0) (by decide +kernel) ⟨by decide, by decide⟩ ?_
      exact z_zret (pc := 22) (by decide +kernel) rfl ⟨by decide, k⟩
    · have k := k.2 hc
      refine z_iload_n (pc := 12) (q := 1) (by decide +kernel) rfl ?_
      refine z_iconst (pc := 13) (n := 3) (by decide +kernel) ⟨by decide, by decide⟩ ?_
      refine z_icmp_ge (pc := 14) (off := 7) 21 (by decide +kernel) (by decide) ⟨fun hc => ?_, fun hc => ?_⟩
      · have k := k.1 hc
        refine z_iconst (pc := 21) (n := 0) (by decide +kernel) ⟨by decide, by decide⟩ ?_
        exact z_zret (pc := 22) (by decide +kernel) rfl ⟨by decide, k⟩
      · have k := k.2 hc
        refine z_iconst (pc := 17) (n := 1) (by decide +kernel) ⟨by decide, by decide⟩ ?_
        refine z_goto (pc := 18) (off := 4) 22 (by decide +kernel) (by decide) ?_
        exact z_zret (pc := 22) (by decide +kernel) rfl ⟨by decide, k⟩
theorem b_Room_hasLetter_0 {E : EN} {d : Nat} {r0 : Nat} {a1 : Int} {σ : Mem} {K : Int → Mem → Prop} (h0 : isRoom r0) (k : (a1 < 0 → K 0 σ) ∧ (0 ≤ a1 → (σ r0 3 ≤ a1 → K 0 σ) ∧ (a1 < σ r0 3 → (6 ≤ a1 → K 0 σ) ∧ (a1 < 6 → K 1 σ)))) :
    Z E y_Room_hasLetter d 0 [some (vr r0), some (vi a1)] [] σ (qi K) := by
  refine z_iload_n (pc := 0) (q := 1) (by decide +kernel) rfl ?_
  refine z_if_lt (pc := 1) (off := 21) 22 (by decide +kernel) (by decide) ⟨fun hc => ?_, fun hc => ?_⟩
  · have k := k.1 hc
    refine z_iconst (pc := 22) (n := 0) (by decide +kernel) ⟨by decide, by decide⟩ ?_
    exact z_zret (pc := 23) (by decide +kernel) rfl ⟨by decide, k⟩
  · have k := k.2 hc
    refine z_iload_n (pc := 4) (q := 1) (by decide +kernel) rfl ?_
    refine z_aload_n (pc := 5) (q := 0) (by decide +kernel) rfl ?_
    refine z_getI (pc := 6) 3 fl_Room_21 (shRoom h0) (by decide) rfl (by decide +kernel) ?_
    refine z_icmp_ge (pc := 9) (off := 13) 22 (by decide +kernel) (by decide) ⟨fun hc => ?_, fun hc => ?_⟩
    · have k := k.1 hc
      refine z_iconst (pc := 22) (n := 0) (by decide +kernel) ⟨by decide, by decide⟩ ?_
      exact z_zret (pc := 23) (by decide +kernel) rfl ⟨by decide, k⟩
    · have k := k.2 hc
      refine z_iload_n (pc := 12) (q := 1) (by decide +kernel) rfl ?_
      refine z_bipush (pc := 13) (n := 6) (by decide +kernel) (by decide) ⟨by decide, by decide⟩ ?_
      refine z_icmp_ge (pc := 15) (off := 7) 22 (by decide +kernel) (by decide) ⟨fun hc => ?_, fun hc => ?_⟩
      · have k := k.1 hc
        refine z_iconst (pc := 22) (n := 0) (by decide +kernel) ⟨by decide, by decide⟩ ?_
        exact z_zret (pc := 23) (by decide +kernel) rfl ⟨by decide, k⟩
      · have k := k.2 hc
        refine z_iconst (pc := 18) (n := 1) (by decide +kernel) ⟨by decide, by decide⟩ ?_
        refine z_goto (pc := 19) (off := 4) 23 (by decide +kernel) (by decide) ?_
        exact z_zret (pc := 23) (by decide +kernel) rfl ⟨by decide, k⟩
theorem b_Room_hasSet_0 {E : EN} {d : Nat} {r0 : Nat} {a1 : Int} {σ : Mem} {K : Int → Mem → Prop} (h0 : isRoom r0) (hd : 1 ≤ d) (k : CI E y_Room_allLetters (d - 1) [vr r0] σ (fun x1 τ1 => (ian a1 (ixo x1 (-1)) ≠ 0 → K 0 τ1) ∧ (ian a1 (ixo x1 (-1)) = 0 → K 1 τ1))) :
    Z E y_Room_hasSet d 0 [some (vr r0), some (vi a1)] [] σ (qi K) := by
  refine z_iload_n (pc := 0) (q := 1) (by decide +kernel) rfl ?_
  refine z_aload_n (pc := 1) (q := 0) (by decide +kernel) rfl ?_
  refine z_callv (pc := 2) (as := []) ml_Room_82 (shRoom h0) ⟨rfl, by decide⟩ rfl rfl (Nat.le_of_ble_eq_true rfl) (dc := d - 1) (by omega) (by decide +kernel) (CI.z (CI.mono (fun x1 τ1 k => ?_) k))
  refine z_iconst (pc := 5) (n := -1) (by decide +kernel) ⟨by decide, by decide⟩ ?_
  refine z_ixor (pc := 6) (by decide +kernel) ?_
  refine z_iand (pc := 7) (by decide +kernel) ?_
  refine z_if_ne (pc := 8) (off := 7) 15 (by decide +kernel) (by decide) ⟨fun hc => ?_, fun hc => ?_⟩
  · have k := k.1 hc
    refine z_iconst (pc := 15) (n := 0) (by decide +kernel) ⟨by decide, by decide⟩ ?_
    exact z_zret (pc := 16) (by decide +kernel) rfl ⟨by decide, k⟩
  · have k := k.2 hc
    refine z_iconst (pc := 11) (n := 1) (by decide +kernel) ⟨by decide, by decide⟩ ?_
    refine z_goto (pc := 12) (off := 4) 16 (by decide +kernel) (by decide) ?_
    exact z_zret (pc := 16) (by decide +kernel) rfl ⟨by decide, k⟩
theorem b_Room_allHands_0 {E : EN} {d : Nat} {r0 : Nat} {σ : Mem} {K : Int → Mem → Prop} (h0 : isRoom r0) (k : K (w32 ((ish 1 (σ r0 1)) - 1)) σ) :
    Z E y_Room_allHands d 0 [some (vr r0)] [] σ (qi K) := by
  refine z_iconst (pc := 0) (n := 1) (by decide +kernel) ⟨by decide, by decide⟩ ?_
  refine z_aload_n (pc := 1) (q := 0) (by decide +kernel) rfl ?_
  refine z_getI (pc := 2) 1 fl_Room_15 (shRoom h0) (by decide) rfl (by decide +kernel) ?_
  refine z_ishl (pc := 5) (by decide +kernel) ?_
  refine z_iconst (pc := 6) (n := 1) (by decide +kernel) ⟨by decide, by decide⟩ ?_
  refine z_isub (pc := 7) (by decide +kernel) ?_
  exact z_iret (pc := 8) (by decide +kernel) rfl k
theorem b_Room_allLetters_0 {E : EN} {d : Nat} {r0 : Nat} {σ : Mem} {K : Int → Mem → Prop} (h0 : isRoom r0) (k : K (w32 ((ish 1 (σ r0 3)) - 1)) σ) :
    Z E y_Room_allLetters d 0 [some (vr r0)] [] σ (qi K) := by
  refine z_iconst (pc := 0) (n := 1) (by decide +kernel) ⟨by decide, by decide⟩ ?_
  refine z_aload_n (pc := 1) (q := 0) (by decide +kernel) rfl ?_
  refine z_getI (pc := 2) 3 fl_Room_21 (shRoom h0) (by decide) rfl (by decide +kernel) ?_
  refine z_ishl (pc := 5) (by decide +kernel) ?_
  refine z_iconst (pc := 6) (n := 1) (by decide +kernel) ⟨by decide, by decide⟩ ?_
  refine z_isub (pc := 7) (by decide +kernel) ?_
  exact z_iret (pc := 8) (by decide +kernel) rfl k
theorem b_Room_fact_0 {E : EN} {d : Nat} {r0 : Nat} {a1 : Int} {a2 : Int} {σ : Mem} {K : Int → Mem → Prop} (h0 : isRoom r0) (hd : 1 ≤ d) (k : CI E y_Room_hasLetter (d - 1) [vr r0, vi a1] σ (fun x1 τ1 => (x1 = 0 → K 0 τ1) ∧ (x1 ≠ 0 → (a2 < 0 → K 0 τ1) ∧ (0 ≤ a2 → (7 ≤ a2 → K 0 τ1) ∧ (a2 < 7 → (0 ≤ w32 ((w32 (a1 * 7)) + a2) ∧ w32 ((w32 (a1 * 7)) + a2) < 42) ∧ K (τ1 (r0 + 4) (w32 ((w32 (a1 * 7)) + a2))) τ1))))) :
    Z E y_Room_fact d 0 [some (vr r0), some (vi a1), some (vi a2)] [] σ (qi K) := by
  refine z_aload_n (pc := 0) (q := 0) (by decide +kernel) rfl ?_
  refine z_iload_n (pc := 1) (q := 1) (by decide +kernel) rfl ?_
  refine z_callv (pc := 2) (as := [vi a1]) ml_Room_86 (shRoom h0) ⟨rfl, by decide⟩ rfl rfl (Nat.le_of_ble_eq_true rfl) (dc := d - 1) (by omega) (by decide +kernel) (CI.z (CI.mono (fun x1 τ1 k => ?_) k))
  refine z_if_eq (pc := 5) (off := 27) 32 (by decide +kernel) (by decide) ⟨fun hc => ?_, fun hc => ?_⟩
  · have k := k.1 hc
    refine z_iconst (pc := 32) (n := 0) (by decide +kernel) ⟨by decide, by decide⟩ ?_
    exact z_iret (pc := 33) (by decide +kernel) rfl k
  · have k := k.2 hc
    refine z_iload_n (pc := 8) (q := 2) (by decide +kernel) rfl ?_
    refine z_if_lt (pc := 9) (off := 23) 32 (by decide +kernel) (by decide) ⟨fun hc => ?_, fun hc => ?_⟩
    · have k := k.1 hc
      refine z_iconst (pc := 32) (n := 0) (by decide +kernel) ⟨by decide, by decide⟩ ?_
      exact z_iret (pc := 33) (by decide +kernel) rfl k
    · have k := k.2 hc
      refine z_iload_n (pc := 12) (q := 2) (by decide +kernel) rfl ?_
      refine z_bipush (pc := 13) (n := 7) (by decide +kernel) (by decide) ⟨by decide, by decide⟩ ?_
      refine z_icmp_ge (pc := 15) (off := 17) 32 (by decide +kernel) (by decide) ⟨fun hc => ?_, fun hc => ?_⟩
      · have k := k.1 hc
        refine z_iconst (pc := 32) (n := 0) (by decide +kernel) ⟨by decide, by decide⟩ ?_
        exact z_iret (pc := 33) (by decide +kernel) rfl k
      · have k := k.2 hc
        refine z_aload_n (pc := 18) (q := 0) (by decide +kernel) rfl ?_
        refine z_getR (pc := 19) (r0 + 4) fl_Room_43 (shRoom h0) rfl (rfRoom_10 h0) (by decide +kernel) ?_
        refine z_iload_n (pc := 22) (q := 1) (by decide +kernel) rfl ?_
        refine z_bipush (pc := 23) (n := 7) (by decide +kernel) (by decide) ⟨by decide, by decide⟩ ?_
        refine z_imul (pc := 25) (by decide +kernel) ?_
        refine z_iload_n (pc := 26) (q := 2) (by decide +kernel) rfl ?_
        refine z_iadd (pc := 27) (by decide +kernel) ?_
        have hb1 := k.1
        have k := k.2
        refine z_iald (pc := 28) (shRoom_4 h0) hb1 (by decide +kernel) ?_
        refine z_goto (pc := 29) (off := 4) 33 (by decide +kernel) (by decide) ?_
        exact z_iret (pc := 33) (by decide +kernel) rfl k
theorem b_Room_copyTime_0 {E : EN} {d : Nat} {r0 : Nat} {a1 : Int} {a2 : Int} {σ : Mem} {K : Int → Mem → Prop} (h0 : isRoom r0) (hd : 1 ≤ d) (k : CI E y_Room_hasLetter (d - 1) [vr r0, vi a1] σ (fun x1 τ1 => (x1 = 0 → K 0 τ1) ∧ (x1 ≠ 0 → CI E y_Room_hasHand (d - 1) [vr r0, vi a2] τ1 (fun x2 τ2 => (x2 = 0 → K 0 τ2) ∧ (x2 ≠ 0 → (0 ≤ w32 ((w32 (a1 * 3)) + a2) ∧ w32 ((w32 (a1 * 3)) + a2) < 18) ∧ K (τ2 (r0 + 9) (w32 ((w32 (a1 * 3)) + a2))) τ2))))) :
    Z E y_Room_copyTime d 0 [some (vr r0), some (vi a1), some (vi a2)] [] σ (qi K) := by
  refine z_aload_n (pc := 0) (q := 0) (by decide +kernel) rfl ?_
  refine z_iload_n (pc := 1) (q := 1) (by decide +kernel) rfl ?_
  refine z_callv (pc := 2) (as := [vi a1]) ml_Room_86 (shRoom h0) ⟨rfl, by decide⟩ rfl rfl (Nat.le_of_ble_eq_true rfl) (dc := d - 1) (by omega) (by decide +kernel) (CI.z (CI.mono (fun x1 τ1 k => ?_) k))
  refine z_if_eq (pc := 5) (off := 24) 29 (by decide +kernel) (by decide) ⟨fun hc => ?_, fun hc => ?_⟩
  · have k := k.1 hc
    refine z_iconst (pc := 29) (n := 0) (by decide +kernel) ⟨by decide, by decide⟩ ?_
    exact z_iret (pc := 30) (by decide +kernel) rfl k
  · have k := k.2 hc
    refine z_aload_n (pc := 8) (q := 0) (by decide +kernel) rfl ?_
    refine z_iload_n (pc := 9) (q := 2) (by decide +kernel) rfl ?_
    refine z_callv (pc := 10) (as := [vi a2]) ml_Room_90 (shRoom h0) ⟨rfl, by decide⟩ rfl rfl (Nat.le_of_ble_eq_true rfl) (dc := d - 1) (by omega) (by decide +kernel) (CI.z (CI.mono (fun x2 τ2 k => ?_) k))
    refine z_if_eq (pc := 13) (off := 16) 29 (by decide +kernel) (by decide) ⟨fun hc => ?_, fun hc => ?_⟩
    · have k := k.1 hc
      refine z_iconst (pc := 29) (n := 0) (by decide +kernel) ⟨by decide, by decide⟩ ?_
      exact z_iret (pc := 30) (by decide +kernel) rfl k
    · have k := k.2 hc
      refine z_aload_n (pc := 16) (q := 0) (by decide +kernel) rfl ?_
      refine z_getR (pc := 17) (r0 + 9) fl_Room_58 (shRoom h0) rfl (rfRoom_15 h0) (by decide +kernel) ?_
      refine z_iload_n (pc := 20) (q := 1) (by decide +kernel) rfl ?_
      refine z_iconst (pc := 21) (n := 3) (by decide +kernel) ⟨by decide, by decide⟩ ?_
      refine z_imul (pc := 22) (by decide +kernel) ?_
      refine z_iload_n (pc := 23) (q := 2) (by decide +kernel) rfl ?_
      refine z_iadd (pc := 24) (by decide +kernel) ?_
      have hb1 := k.1
      have k := k.2
      refine z_iald (pc := 25) (shRoom_9 h0) hb1 (by decide +kernel) ?_
      refine z_goto (pc := 26) (off := 4) 30 (by decide +kernel) (by decide) ?_
      exact z_iret (pc := 30) (by decide +kernel) rfl k
theorem b_Room_readersOf_0 {E : EN} {d : Nat} {r0 : Nat} {a1 : Int} {a2 : Int} {σ : Mem} {K : Int → Mem → Prop} (h0 : isRoom r0) (hd : 1 ≤ d) (k : CI E y_Room_hasLetter (d - 1) [vr r0, vi a1] σ (fun x1 τ1 => (x1 = 0 → K 0 τ1) ∧ (x1 ≠ 0 → (0 ≤ a1 ∧ a1 < 6) ∧ K (ian (τ1 (r0 + 10) a1) a2) τ1))) :
    Z E y_Room_readersOf d 0 [some (vr r0), some (vi a1), some (vi a2)] [] σ (qi K) := by
  refine z_aload_n (pc := 0) (q := 0) (by decide +kernel) rfl ?_
  refine z_iload_n (pc := 1) (q := 1) (by decide +kernel) rfl ?_
  refine z_callv (pc := 2) (as := [vi a1]) ml_Room_86 (shRoom h0) ⟨rfl, by decide⟩ rfl rfl (Nat.le_of_ble_eq_true rfl) (dc := d - 1) (by omega) (by decide +kernel) (CI.z (CI.mono (fun x1 τ1 k => ?_) k))
  refine z_if_eq (pc := 5) (off := 14) 19 (by decide +kernel) (by decide) ⟨fun hc => ?_, fun hc => ?_⟩
  · have k := k.1 hc
    refine z_iconst (pc := 19) (n := 0) (by decide +kernel) ⟨by decide, by decide⟩ ?_
    exact z_iret (pc := 20) (by decide +kernel) rfl k
  · have k := k.2 hc
    refine z_aload_n (pc := 8) (q := 0) (by decide +kernel) rfl ?_
    refine z_getR (pc := 9) (r0 + 10) fl_Room_61 (shRoom h0) rfl (rfRoom_16 h0) (by decide +kernel) ?_
    refine z_iload_n (pc := 12) (q := 1) (by decide +kernel) rfl ?_
    have hb1 := k.1
    have k := k.2
    refine z_iald (pc := 13) (shRoom_10 h0) hb1 (by decide +kernel) ?_
    refine z_iload_n (pc := 14) (q := 2) (by decide +kernel) rfl ?_
    refine z_iand (pc := 15) (by decide +kernel) ?_
    refine z_goto (pc := 16) (off := 4) 20 (by decide +kernel) (by decide) ?_
    exact z_iret (pc := 20) (by decide +kernel) rfl k
theorem b_Room_lettersOf_0 {E : EN} {d : Nat} {r0 : Nat} {a1 : Int} {σ : Mem} {K : Int → Mem → Prop} (h0 : isRoom r0) (k : Z E y_Room_lettersOf d 4 [some (vr r0), some (vi a1), some (vi 0), some (vi 0)] [] σ (qi K)) :
    Z E y_Room_lettersOf d 0 [some (vr r0), some (vi a1), none, none] [] σ (qi K) := by
  refine z_iconst (pc := 0) (n := 0) (by decide +kernel) ⟨by decide, by decide⟩ ?_
  refine z_istore_n (pc := 1) (q := 2) [some (vr r0), some (vi a1), some (vi 0), none] (by decide +kernel) (Nat.le_of_ble_eq_true rfl) rfl ?_
  refine z_iconst (pc := 2) (n := 0) (by decide +kernel) ⟨by decide, by decide⟩ ?_
  refine z_istore_n (pc := 3) (q := 3) [some (vr r0), some (vi a1), some (vi 0), some (vi 0)] (by decide +kernel) (Nat.le_of_ble_eq_true rfl) rfl ?_
  exact k
theorem b_Room_lettersOf_4 {E : EN} {d : Nat} {r0 : Nat} {a1 : Int} {a2 : Int} {a3 : Int} {σ : Mem} {K : Int → Mem → Prop} (h0 : isRoom r0) (hd : 1 ≤ d) (k : (σ r0 3 ≤ a3 → K a2 σ) ∧ (a3 < σ r0 3 → CI E y_Room_readersOf (d - 1) [vr r0, vi a3, vi (ish 1 a1)] σ (fun x1 τ1 => (x1 = 0 → Z E y_Room_lettersOf d 4 [some (vr r0), some (vi a1), some (vi a2), some (vi (w32 (a3 + 1)))] [] τ1 (qi K)) ∧ (x1 ≠ 0 → Z E y_Room_lettersOf d 4 [some (vr r0), some (vi a1), some (vi (ior a2 (ish 1 a3))), some (vi (w32 (a3 + 1)))] [] τ1 (qi K))))) :
    Z E y_Room_lettersOf d 4 [some (vr r0), some (vi a1), some (vi a2), some (vi a3)] [] σ (qi K) := by
  refine z_iload_n (pc := 4) (q := 3) (by decide +kernel) rfl ?_
  refine z_aload_n (pc := 5) (q := 0) (by decide +kernel) rfl ?_
  refine z_getI (pc := 6) 3 fl_Room_21 (shRoom h0) (by decide) rfl (by decide +kernel) ?_
  refine z_icmp_ge (pc := 9) (off := 26) 35 (by decide +kernel) (by decide) ⟨fun hc => ?_, fun hc => ?_⟩
  · have k := k.1 hc
    refine z_iload_n (pc := 35) (q := 2) (by decide +kernel) rfl ?_
    exact z_iret (pc := 36) (by decide +kernel) rfl k
  · have k := k.2 hc
    refine z_aload_n (pc := 12) (q := 0) (by decide +kernel) rfl ?_
    refine z_iload_n (pc := 13) (q := 3) (by decide +kernel) rfl ?_
    refine z_iconst (pc := 14) (n := 1) (by decide +kernel) ⟨by decide, by decide⟩ ?_
    refine z_iload_n (pc := 15) (q := 1) (by decide +kernel) rfl ?_
    refine z_ishl (pc := 16) (by decide +kernel) ?_
    refine z_callv (pc := 17) (as := [vi a3, vi (ish 1 a1)]) ml_Room_93 (shRoom h0) ⟨rfl, by decide⟩ rfl rfl (Nat.le_of_ble_eq_true rfl) (dc := d - 1) (by omega) (by decide +kernel) (CI.z (CI.mono (fun x1 τ1 k => ?_) k))
    refine z_if_eq (pc := 20) (off := 9) 29 (by decide +kernel) (by decide) ⟨fun hc => ?_, fun hc => ?_⟩
    · have k := k.1 hc
      refine z_iinc (pc := 29) (i := 3) (n := 1) [some (vr r0), some (vi a1), some (vi a2), some (vi (w32 (a3 + 1)))] (by decide +kernel) rfl rfl ?_
      refine z_goto (pc := 32) (off := -28) 4 (by decide +kernel) (by decide) ?_
      exact k
    · have k := k.2 hc
      refine z_iload_n (pc := 23) (q := 2) (by decide +kernel) rfl ?_
      refine z_iconst (pc := 24) (n := 1) (by decide +kernel) ⟨by decide, by decide⟩ ?_
      refine z_iload_n (pc := 25) (q := 3) (by decide +kernel) rfl ?_
      refine z_ishl (pc := 26) (by decide +kernel) ?_
      refine z_ior (pc := 27) (by decide +kernel) ?_
      refine z_istore_n (pc := 28) (q := 2) [some (vr r0), some (vi a1), some (vi (ior a2 (ish 1 a3))), some (vi a3)] (by decide +kernel) (Nat.le_of_ble_eq_true rfl) rfl ?_
      refine z_iinc (pc := 29) (i := 3) (n := 1) [some (vr r0), some (vi a1), some (vi (ior a2 (ish 1 a3))), some (vi (w32 (a3 + 1)))] (by decide +kernel) rfl rfl ?_
      refine z_goto (pc := 32) (off := -28) 4 (by decide +kernel) (by decide) ?_
      exact k
theorem b_Room_worthOf_0 {E : EN} {d : Nat} {r0 : Nat} {a1 : Int} {σ : Mem} {K : Int → Mem → Prop} (h0 : isRoom r0) (k : Z E y_Room_worthOf d 4 [some (vr r0), some (vi a1), some (vi 0), some (vi 0)] [] σ (qi K)) :
    Z E y_Room_worthOf d 0 [some (vr r0), some (vi a1), none, none] [] σ (qi K) := by
  refine z_iconst (pc := 0) (n := 0) (by decide +kernel) ⟨by decide, by decide⟩ ?_
  refine z_istore_n (pc := 1) (q := 2) [some (vr r0), some (vi a1), some (vi 0), none] (by decide +kernel) (Nat.le_of_ble_eq_true rfl) rfl ?_
  refine z_iconst (pc := 2) (n := 0) (by decide +kernel) ⟨by decide, by decide⟩ ?_
  refine z_istore_n (pc := 3) (q := 3) [some (vr r0), some (vi a1), some (vi 0), some (vi 0)] (by decide +kernel) (Nat.le_of_ble_eq_true rfl) rfl ?_
  exact k
theorem b_Room_worthOf_4 {E : EN} {d : Nat} {r0 : Nat} {a1 : Int} {a2 : Int} {a3 : Int} {σ : Mem} {K : Int → Mem → Prop} (h0 : isRoom r0) (hd : 1 ≤ d) (k : (σ r0 3 ≤ a3 → K a2 σ) ∧ (a3 < σ r0 3 → (ian (isr a1 a3) 1 = 0 → Z E y_Room_worthOf d 4 [some (vr r0), some (vi a1), some (vi a2), some (vi (w32 (a3 + 1)))] [] σ (qi K)) ∧ (ian (isr a1 a3) 1 ≠ 0 → CI E y_Room_fact (d - 1) [vr r0, vi a3, vi 3] σ (fun x1 τ1 => Z E y_Room_worthOf d 4 [some (vr r0), some (vi a1), some (vi (w32 (a2 + x1))), some (vi (w32 (a3 + 1)))] [] τ1 (qi K))))) :
    Z E y_Room_worthOf d 4 [some (vr r0), some (vi a1), some (vi a2), some (vi a3)] [] σ (qi K) := by
  refine z_iload_n (pc := 4) (q := 3) (by decide +kernel) rfl ?_
  refine z_aload_n (pc := 5) (q := 0) (by decide +kernel) rfl ?_
  refine z_getI (pc := 6) 3 fl_Room_21 (shRoom h0) (by decide) rfl (by decide +kernel) ?_
  refine z_icmp_ge (pc := 9) (off := 26) 35 (by decide +kernel) (by decide) ⟨fun hc => ?_, fun hc => ?_⟩
  · have k := k.1 hc
    refine z_iload_n (pc := 35) (q := 2) (by decide +kernel) rfl ?_
    exact z_iret (pc := 36) (by decide +kernel) rfl k
  · have k := k.2 hc
    refine z_iload_n (pc := 12) (q := 1) (by decide +kernel) rfl ?_
    refine z_iload_n (pc := 13) (q := 3) (by decide +kernel) rfl ?_
    refine z_ishr (pc := 14) (by decide +kernel) ?_
    refine z_iconst (pc := 15) (n := 1) (by decide +kernel) ⟨by decide, by decide⟩ ?_
    refine z_iand (pc := 16) (by decide +kernel) ?_
    refine z_if_eq (pc := 17) (off := 12) 29 (by decide +kernel) (by decide) ⟨fun hc => ?_, fun hc => ?_⟩
    · have k := k.1 hc
      refine z_iinc (pc := 29) (i := 3) (n := 1) [some (vr r0), some (vi a1), some (vi a2), some (vi (w32 (a3 + 1)))] (by decide +kernel) rfl rfl ?_
      refine z_goto (pc := 32) (off := -28) 4 (by decide +kernel) (by decide) ?_
      exact k
    · have k := k.2 hc
      refine z_iload_n (pc := 20) (q := 2) (by decide +kernel) rfl ?_
      refine z_aload_n (pc := 21) (q := 0) (by decide +kernel) rfl ?_
      refine z_iload_n (pc := 22) (q := 3) (by decide +kernel) rfl ?_
      refine z_iconst (pc := 23) (n := 3) (by decide +kernel) ⟨by decide, by decide⟩ ?_
      refine z_callv (pc := 24) (as := [vi a3, vi 3]) ml_Room_97 (shRoom h0) ⟨rfl, by decide⟩ rfl rfl (Nat.le_of_ble_eq_true rfl) (dc := d - 1) (by omega) (by decide +kernel) (CI.z (CI.mono (fun x1 τ1 k => ?_) k))
      refine z_iadd (pc := 27) (by decide +kernel) ?_
      refine z_istore_n (pc := 28) (q := 2) [some (vr r0), some (vi a1), some (vi (w32 (a2 + x1))), some (vi a3)] (by decide +kernel) (Nat.le_of_ble_eq_true rfl) rfl ?_
      refine z_iinc (pc := 29) (i := 3) (n := 1) [some (vr r0), some (vi a1), some (vi (w32 (a2 + x1))), some (vi (w32 (a3 + 1)))] (by decide +kernel) rfl rfl ?_
      refine z_goto (pc := 32) (off := -28) 4 (by decide +kernel) (by decide) ?_
      exact k
theorem b_Room_quietOf_0 {E : EN} {d : Nat} {r0 : Nat} {a1 : Int} {σ : Mem} {K : Int → Mem → Prop} (h0 : isRoom r0) (k : Z E y_Room_quietOf d 6 [some (vr r0), some (vi a1), some (vi 10000), some (vi 0)] [] σ (qi K)) :
    Z E y_Room_quietOf d 0 [some (vr r0), some (vi a1), none, none] [] σ (qi K) := by
  refine z_sipush (pc := 0) (n := 10000) (by decide +kernel) (by decide) ⟨by decide, by decide⟩ ?_
  refine z_istore_n (pc := 3) (q := 2) [some (vr r0), some (vi a1), some (vi 10000), none] (by decide +kernel) (Nat.le_of_ble_eq_true rfl) rfl ?_
  refine z_iconst (pc := 4) (n := 0) (by decide +kernel) ⟨by decide, by decide⟩ ?_
  refine z_istore_n (pc := 5) (q := 3) [some (vr r0), some (vi a1), some (vi 10000), some (vi 0)] (by decide +kernel) (Nat.le_of_ble_eq_true rfl) rfl ?_
  exact k
theorem b_Room_quietOf_6 {E : EN} {d : Nat} {r0 : Nat} {a1 : Int} {a2 : Int} {a3 : Int} {σ : Mem} {K : Int → Mem → Prop} (h0 : isRoom r0) (k : (σ r0 3 ≤ a3 → K a2 σ) ∧ (a3 < σ r0 3 → (6 ≤ a3 → K a2 σ) ∧ (a3 < 6 → (ian (isr a1 a3) 1 = 0 → Z E y_Room_quietOf d 6 [some (vr r0), some (vi a1), some (vi a2), some (vi (w32 (a3 + 1)))] [] σ (qi K)) ∧ (ian (isr a1 a3) 1 ≠ 0 → (0 ≤ a3 ∧ a3 < 6) ∧ Z E y_Room_quietOf d 6 [some (vr r0), some (vi a1), some (vi (w32 (Int.tdiv (w32 (a2 * (w32 (100 - (σ (r0 + 8) a3))))) 100))), some (vi (w32 (a3 + 1)))] [] σ (qi K))))) :
    Z E y_Room_quietOf d 6 [some (vr r0), some (vi a1), some (vi a2), some (vi a3)] [] σ (qi K) := by
  refine z_iload_n (pc := 6) (q := 3) (by decide +kernel) rfl ?_
  refine z_aload_n (pc := 7) (q := 0) (by decide +kernel) rfl ?_
  refine z_getI (pc := 8) 3 fl_Room_21 (shRoom h0) (by decide) rfl (by decide +kernel) ?_
  refine z_icmp_ge (pc := 11) (off := 38) 49 (by decide +kernel) (by decide) ⟨fun hc => ?_, fun hc => ?_⟩
  · have k := k.1 hc
    refine z_iload_n (pc := 49) (q := 2) (by decide +kernel) rfl ?_
    exact z_iret (pc := 50) (by decide +kernel) rfl k
  · have k := k.2 hc
    refine z_iload_n (pc := 14) (q := 3) (by decide +kernel) rfl ?_
    refine z_bipush (pc := 15) (n := 6) (by decide +kernel) (by decide) ⟨by decide, by decide⟩ ?_
    refine z_icmp_ge (pc := 17) (off := 32) 49 (by decide +kernel) (by decide) ⟨fun hc => ?_, fun hc => ?_⟩
    · have k := k.1 hc
      refine z_iload_n (pc := 49) (q := 2) (by decide +kernel) rfl ?_
      exact z_iret (pc := 50) (by decide +kernel) rfl k
    · have k := k.2 hc
      refine z_iload_n (pc := 20) (q := 1) (by decide +kernel) rfl ?_
      refine z_iload_n (pc := 21) (q := 3) (by decide +kernel) rfl ?_
      refine z_ishr (pc := 22) (by decide +kernel) ?_
      refine z_iconst (pc := 23) (n := 1) (by decide +kernel) ⟨by decide, by decide⟩ ?_
      refine z_iand (pc := 24) (by decide +kernel) ?_
      refine z_if_eq (pc := 25) (off := 18) 43 (by decide +kernel) (by decide) ⟨fun hc => ?_, fun hc => ?_⟩
      · have k := k.1 hc
        refine z_iinc (pc := 43) (i := 3) (n := 1) [some (vr r0), some (vi a1), some (vi a2), some (vi (w32 (a3 + 1)))] (by decide +kernel) rfl rfl ?_
        refine z_goto (pc := 46) (off := -40) 6 (by decide +kernel) (by decide) ?_
        exact k
      · have k := k.2 hc
        refine z_iload_n (pc := 28) (q := 2) (by decide +kernel) rfl ?_
        refine z_bipush (pc := 29) (n := 100) (by decide +kernel) (by decide) ⟨by decide, by decide⟩ ?_
        refine z_aload_n (pc := 31) (q := 0) (by decide +kernel) rfl ?_
        refine z_getR (pc := 32) (r0 + 8) fl_Room_55 (shRoom h0) rfl (rfRoom_14 h0) (by decide +kernel) ?_
        refine z_iload_n (pc := 35) (q := 3) (by decide +kernel) rfl ?_
        have hb1 := k.1
        have k := k.2
        refine z_iald (pc := 36) (shRoom_8 h0) hb1 (by decide +kernel) ?_
        refine z_isub (pc := 37) (by decide +kernel) ?_
        refine z_imul (pc := 38) (by decide +kernel) ?_
        refine z_bipush (pc := 39) (n := 100) (by decide +kernel) (by decide) ⟨by decide, by decide⟩ ?_
        refine z_idiv (pc := 41) (by decide +kernel) (by decide) ?_
        refine z_istore_n (pc := 42) (q := 2) [some (vr r0), some (vi a1), some (vi (w32 (Int.tdiv (w32 (a2 * (w32 (100 - (σ (r0 + 8) a3))))) 100))), some (vi a3)] (by decide +kernel) (Nat.le_of_ble_eq_true rfl) rfl ?_
        refine z_iinc (pc := 43) (i := 3) (n := 1) [some (vr r0), some (vi a1), some (vi (w32 (Int.tdiv (w32 (a2 * (w32 (100 - (σ (r0 + 8) a3))))) 100))), some (vi (w32 (a3 + 1)))] (by decide +kernel) rfl rfl ?_
        refine z_goto (pc := 46) (off := -40) 6 (by decide +kernel) (by decide) ?_
        exact k
theorem b_Room_chance_0 {E : EN} {d : Nat} {r0 : Nat} {a1 : Int} {a2 : Int} {σ : Mem} {K : Int → Mem → Prop} (h0 : isRoom r0) (k : (a2 = 0 → Z E y_Room_chance d 24 [some (vr r0), some (vi a1), some (vi a2), some (vl (w32 (100 - (σ r0 5)))), none, some (vi 0), none, none, none] [] σ (ql K)) ∧ (a2 ≠ 0 → Z E y_Room_chance d 24 [some (vr r0), some (vi a1), some (vi a2), some (vl (σ r0 5)), none, some (vi 0), none, none, none] [] σ (ql K))) :
    Z E y_Room_chance d 0 [some (vr r0), some (vi a1), some (vi a2), none, none, none, none, none, none] [] σ (ql K) := by
  refine z_iload_n (pc := 0) (q := 2) (by decide +kernel) rfl ?_
  refine z_if_eq (pc := 1) (off := 11) 12 (by decide +kernel) (by decide) ⟨fun hc => ?_, fun hc => ?_⟩
  · have k := k.1 hc
    refine z_bipush (pc := 12) (n := 100) (by decide +kernel) (by decide) ⟨by decide, by decide⟩ ?_
    refine z_aload_n (pc := 14) (q := 0) (by decide +kernel) rfl ?_
    refine z_getI (pc := 15) 5 fl_Room_27 (shRoom h0) (by decide) rfl (by decide +kernel) ?_
    refine z_isub (pc := 18) (by decide +kernel) ?_
    refine z_i2l (pc := 19) (by decide +kernel) ?_
    refine z_lstore_n (pc := 20) (q := 3) [some (vr r0), some (vi a1), some (vi a2), some (vl (w32 (100 - (σ r0 5)))), none, none, none, none, none] (by decide +kernel) (Nat.le_of_ble_eq_true rfl) rfl ?_
    refine z_iconst (pc := 21) (n := 0) (by decide +kernel) ⟨by decide, by decide⟩ ?_
    refine z_istore (pc := 22) (i := 5) [some (vr r0), some (vi a1), some (vi a2), some (vl (w32 (100 - (σ r0 5)))), none, some (vi 0), none, none, none] (by decide +kernel) (Nat.le_of_ble_eq_true rfl) rfl ?_
    exact k
  · have k := k.2 hc
    refine z_aload_n (pc := 4) (q := 0) (by decide +kernel) rfl ?_
    refine z_getI (pc := 5) 5 fl_Room_27 (shRoom h0) (by decide) rfl (by decide +kernel) ?_
    refine z_i2l (pc := 8) (by decide +kernel) ?_
    refine z_goto (pc := 9) (off := 11) 20 (by decide +kernel) (by decide) ?_
    refine z_lstore_n (pc := 20) (q := 3) [some (vr r0), some (vi a1), some (vi a2), some (vl (σ r0 5)), none, none, none, none, none] (by decide +kernel) (Nat.le_of_ble_eq_true rfl) rfl ?_
    refine z_iconst (pc := 21) (n := 0) (by decide +kernel) ⟨by decide, by decide⟩ ?_
    refine z_istore (pc := 22) (i := 5) [some (vr r0), some (vi a1), some (vi a2), some (vl (σ r0 5)), none, some (vi 0), none, none, none] (by decide +kernel) (Nat.le_of_ble_eq_true rfl) rfl ?_
    exact k
theorem b_Room_chance_24 {E : EN} {d : Nat} {r0 : Nat} {a1 : Int} {a2 : Int} {b3 : Int} {o4 : Option AV} {a5 : Int} {o6 : Option AV} {o7 : Option AV} {o8 : Option AV} {σ : Mem} {K : Int → Mem → Prop} (h0 : isRoom r0) (hd : 1 ≤ d) (k : (σ r0 3 ≤ a5 → K b3 σ) ∧ (a5 < σ r0 3 → (ian (isr a1 a5) 1 = 0 → Z E y_Room_chance d 54 [some (vr r0), some (vi a1), some (vi a2), some (vl b3), o4, some (vi a5), o6, o7, o8] [vi 0] σ (ql K)) ∧ (ian (isr a1 a5) 1 ≠ 0 → CI E y_Room_fact (d - 1) [vr r0, vi a5, vi 6] σ (fun x1 τ1 => Z E y_Room_chance d 54 [some (vr r0), some (vi a1), some (vi a2), some (vl b3), o4, some (vi a5), o6, o7, o8] [vi x1] τ1 (ql K))))) :
    Z E y_Room_chance d 24 [some (vr r0), some (vi a1), some (vi a2), some (vl b3), o4, some (vi a5), o6, o7, o8] [] σ (ql K) := by
  refine z_iload (pc := 24) (i := 5) (by decide +kernel) rfl ?_
  refine z_aload_n (pc := 26) (q := 0) (by decide +kernel) rfl ?_
  refine z_getI (pc := 27) 3 fl_Room_21 (shRoom h0) (by decide) rfl (by decide +kernel) ?_
  refine z_icmp_ge (pc := 30) (off := 109) 139 (by decide +kernel) (by decide) ⟨fun hc => ?_, fun hc => ?_⟩
  · have k := k.1 hc
    refine z_lload_n (pc := 139) (q := 3) (by decide +kernel) rfl ?_
    exact z_lret (pc := 140) (by decide +kernel) rfl k
  · have k := k.2 hc
    refine z_iload_n (pc := 33) (q := 1) (by decide +kernel) rfl ?_
    refine z_iload (pc := 34) (i := 5) (by decide +kernel) rfl ?_
    refine z_ishr (pc := 36) (by decide +kernel) ?_
    refine z_iconst (pc := 37) (n := 1) (by decide +kernel) ⟨by decide, by decide⟩ ?_
    refine z_iand (pc := 38) (by decide +kernel) ?_
    refine z_if_eq (pc := 39) (off := 14) 53 (by decide +kernel) (by decide) ⟨fun hc => ?_, fun hc => ?_⟩
    · have k := k.1 hc
      refine z_iconst (pc := 53) (n := 0) (by decide +kernel) ⟨by decide, by decide⟩ ?_
      exact k
    · have k := k.2 hc
      refine z_aload_n (pc := 42) (q := 0) (by decide +kernel) rfl ?_
      refine z_iload (pc := 43) (i := 5) (by decide +kernel) rfl ?_
      refine z_bipush (pc := 45) (n := 6) (by decide +kernel) (by decide) ⟨by decide, by decide⟩ ?_
      refine z_callv (pc := 47) (as := [vi a5, vi 6]) ml_Room_97 (shRoom h0) ⟨rfl, by decide⟩ rfl rfl (Nat.le_of_ble_eq_true rfl) (dc := d - 1) (by omega) (by decide +kernel) (CI.z (CI.mono (fun x1 τ1 k => ?_) k))
      refine z_goto (pc := 50) (off := 4) 54 (by decide +kernel) (by decide) ?_
      exact k
theorem b_Room_chance_54 {E : EN} {d : Nat} {r0 : Nat} {a1 : Int} {a2 : Int} {b3 : Int} {o4 : Option AV} {a5 : Int} {o6 : Option AV} {o7 : Option AV} {o8 : Option AV} {s0 : Int} {σ : Mem} {K : Int → Mem → Prop} (h0 : isRoom r0) (hd : 1 ≤ d) (k : CI E y_Room_fact (d - 1) [vr r0, vi a5, vi 0] σ (fun x1 τ1 => (s0 = 0 → Z E y_Room_chance d 24 [some (vr r0), some (vi a1), some (vi a2), some (vl b3), none, some (vi (w32 (a5 + 1))), some (vi s0), some (vi x1), o8] [] τ1 (ql K)) ∧ (s0 ≠ 0 → (x1 < 0 → Z E y_Room_chance d 24 [some (vr r0), some (vi a1), some (vi a2), some (vl b3), none, some (vi (w32 (a5 + 1))), some (vi s0), some (vi x1), o8] [] τ1 (ql K)) ∧ (0 ≤ x1 → (4 ≤ x1 → Z E y_Room_chance d 24 [some (vr r0), some (vi a1), some (vi a2), some (vl b3), none, some (vi (w32 (a5 + 1))), some (vi s0), some (vi x1), o8] [] τ1 (ql K)) ∧ (x1 < 4 → (s0 ≠ 1 → (0 ≠ a2 → Z E y_Room_chance d 101 [some (vr r0), some (vi a1), some (vi a2), some (vl b3), o4, some (vi a5), some (vi s0), some (vi x1), o8] [vi 0] τ1 (ql K)) ∧ (0 = a2 → Z E y_Room_chance d 101 [some (vr r0), some (vi a1), some (vi a2), some (vl b3), o4, some (vi a5), some (vi s0), some (vi x1), o8] [vi 1] τ1 (ql K))) ∧ (s0 = 1 → (1 ≠ a2 → Z E y_Room_chance d 101 [some (vr r0), some (vi a1), some (vi a2), some (vl b3), o4, some (vi a5), some (vi s0), some (vi x1), o8] [vi 0] τ1 (ql K)) ∧ (1 = a2 → Z E y_Room_chance d 101 [some (vr r0), some (vi a1), some (vi a2), some (vl b3), o4, some (vi a5), some (vi s0), some (vi x1), o8] [vi 1] τ1 (ql K)))))))) :
    Z E y_Room_chance d 54 [some (vr r0), some (vi a1), some (vi a2), some (vl b3), o4, some (vi a5), o6, o7, o8] [vi s0] σ (ql K) := by
  refine z_istore (pc := 54) (i := 6) [some (vr r0), some (vi a1), some (vi a2), some (vl b3), o4, some (vi a5), some (vi s0), o7, o8] (by decide +kernel) (Nat.le_of_ble_eq_true rfl) rfl ?_
  refine z_aload_n (pc := 56) (q := 0) (by decide +kernel) rfl ?_
  refine z_iload (pc := 57) (i := 5) (by decide +kernel) rfl ?_
  refine z_iconst (pc := 59) (n := 0) (by decide +kernel) ⟨by decide, by decide⟩ ?_
  refine z_callv (pc := 60) (as := [vi a5, vi 0]) ml_Room_97 (shRoom h0) ⟨rfl, by decide⟩ rfl rfl (Nat.le_of_ble_eq_true rfl) (dc := d - 1) (by omega) (by decide +kernel) (CI.z (CI.mono (fun x1 τ1 k => ?_) k))
  refine z_istore (pc := 63) (i := 7) [some (vr r0), some (vi a1), some (vi a2), some (vl b3), o4, some (vi a5), some (vi s0), some (vi x1), o8] (by decide +kernel) (Nat.le_of_ble_eq_true rfl) rfl ?_
  refine z_iload (pc := 65) (i := 6) (by decide +kernel) rfl ?_
  refine z_if_eq (pc := 67) (off := 66) 133 (by decide +kernel) (by decide) ⟨fun hc => ?_, fun hc => ?_⟩
  · have k := k.1 hc
    refine z_forget (pc := 133) 4 [some (vr r0), some (vi a1), some (vi a2), some (vl b3), none, some (vi a5), some (vi s0), some (vi x1), o8] rfl ?_
    refine z_iinc (pc := 133) (i := 5) (n := 1) [some (vr r0), some (vi a1), some (vi a2), some (vl b3), none, some (vi (w32 (a5 + 1))), some (vi s0), some (vi x1), o8] (by decide +kernel) rfl rfl ?_
    refine z_goto (pc := 136) (off := -112) 24 (by decide +kernel) (by decide) ?_
    exact k
  · have k := k.2 hc
    refine z_iload (pc := 70) (i := 7) (by decide +kernel) rfl ?_
    refine z_if_lt (pc := 72) (off := 61) 133 (by decide +kernel) (by decide) ⟨fun hc => ?_, fun hc => ?_⟩
    · have k := k.1 hc
      refine z_forget (pc := 133) 4 [some (vr r0), some (vi a1), some (vi a2), some (vl b3), none, some (vi a5), some (vi s0), some (vi x1), o8] rfl ?_
      refine z_iinc (pc := 133) (i := 5) (n := 1) [some (vr r0), some (vi a1), some (vi a2), some (vl b3), none, some (vi (w32 (a5 + 1))), some (vi s0), some (vi x1), o8] (by decide +kernel) rfl rfl ?_
      refine z_goto (pc := 136) (off := -112) 24 (by decide +kernel) (by decide) ?_
      exact k
    · have k := k.2 hc
      refine z_iload (pc := 75) (i := 7) (by decide +kernel) rfl ?_
      refine z_iconst (pc := 77) (n := 4) (by decide +kernel) ⟨by decide, by decide⟩ ?_
      refine z_icmp_ge (pc := 78) (off := 55) 133 (by decide +kernel) (by decide) ⟨fun hc => ?_, fun hc => ?_⟩
      · have k := k.1 hc
        refine z_forget (pc := 133) 4 [some (vr r0), some (vi a1), some (vi a2), some (vl b3), none, some (vi a5), some (vi s0), some (vi x1), o8] rfl ?_
        refine z_iinc (pc := 133) (i := 5) (n := 1) [some (vr r0), some (vi a1), some (vi a2), some (vl b3), none, some (vi (w32 (a5 + 1))), some (vi s0), some (vi x1), o8] (by decide +kernel) rfl rfl ?_
        refine z_goto (pc := 136) (off := -112) 24 (by decide +kernel) (by decide) ?_
        exact k
      · have k := k.2 hc
        refine z_iload (pc := 81) (i := 6) (by decide +kernel) rfl ?_
        refine z_iconst (pc := 83) (n := 1) (by decide +kernel) ⟨by decide, by decide⟩ ?_
        refine z_icmp_ne (pc := 84) (off := 7) 91 (by decide +kernel) (by decide) ⟨fun hc => ?_, fun hc => ?_⟩
        · have k := k.1 hc
          refine z_iconst (pc := 91) (n := 0) (by decide +kernel) ⟨by decide, by decide⟩ ?_
          refine z_iload_n (pc := 92) (q := 2) (by decide +kernel) rfl ?_
          refine z_icmp_ne (pc := 93) (off := 7) 100 (by decide +kernel) (by decide) ⟨fun hc => ?_, fun hc => ?_⟩
          · have k := k.1 hc
            refine z_iconst (pc := 100) (n := 0) (by decide +kernel) ⟨by decide, by decide⟩ ?_
            exact k
          · have k := k.2 hc
            refine z_iconst (pc := 96) (n := 1) (by decide +kernel) ⟨by decide, by decide⟩ ?_
            refine z_goto (pc := 97) (off := 4) 101 (by decide +kernel) (by decide) ?_
            exact k
        · have k := k.2 hc
          refine z_iconst (pc := 87) (n := 1) (by decide +kernel) ⟨by decide, by decide⟩ ?_
          refine z_goto (pc := 88) (off := 4) 92 (by decide +kernel) (by decide) ?_
          refine z_iload_n (pc := 92) (q := 2) (by decide +kernel) rfl ?_
          refine z_icmp_ne (pc := 93) (off := 7) 100 (by decide +kernel) (by decide) ⟨fun hc => ?_, fun hc => ?_⟩
          · have k := k.1 hc
            refine z_iconst (pc := 100) (n := 0) (by decide +kernel) ⟨by decide, by decide⟩ ?_
            exact k
          · have k := k.2 hc
            refine z_iconst (pc := 96) (n := 1) (by decide +kernel) ⟨by decide, by decide⟩ ?_
            refine z_goto (pc := 97) (off := 4) 101 (by decide +kernel) (by decide) ?_
            exact k
theorem b_Room_chance_101 {E : EN} {d : Nat} {r0 : Nat} {a1 : Int} {a2 : Int} {b3 : Int} {o4 : Option AV} {a5 : Int} {o6 : Option AV} {a7 : Int} {o8 : Option AV} {s0 : Int} {σ : Mem} {K : Int → Mem → Prop} (h0 : isRoom r0) (k : (s0 = 0 → (0 ≤ a7 ∧ a7 < 4) ∧ Z E y_Room_chance d 24 [some (vr r0), some (vi a1), some (vi a2), some (vl (w64 (b3 * (w32 (100 - (σ (r0 + 3) a7)))))), none, some (vi (w32 (a5 + 1))), o6, some (vi a7), some (vi s0)] [] σ (ql K)) ∧ (s0 ≠ 0 → (0 ≤ a7 ∧ a7 < 4) ∧ Z E y_Room_chance d 24 [some (vr r0), some (vi a1), some (vi a2), some (vl (w64 (b3 * (σ (r0 + 3) a7)))), none, some (vi (w32 (a5 + 1))), o6, some (vi a7), some (vi s0)] [] σ (ql K))) :
    Z E y_Room_chance d 101 [some (vr r0), some (vi a1), some (vi a2), some (vl b3), o4, some (vi a5), o6, some (vi a7), o8] [vi s0] σ (ql K) := by
  refine z_istore (pc := 101) (i := 8) [some (vr r0), some (vi a1), some (vi a2), some (vl b3), o4, some (vi a5), o6, some (vi a7), some (vi s0)] (by decide +kernel) (Nat.le_of_ble_eq_true rfl) rfl ?_
  refine z_lload_n (pc := 103) (q := 3) (by decide +kernel) rfl ?_
  refine z_iload (pc := 104) (i := 8) (by decide +kernel) rfl ?_
  refine z_if_eq (pc := 106) (off := 14) 120 (by decide +kernel) (by decide) ⟨fun hc => ?_, fun hc => ?_⟩
  · have k := k.1 hc
    refine z_bipush (pc := 120) (n := 100) (by decide +kernel) (by decide) ⟨by decide, by decide⟩ ?_
    refine z_aload_n (pc := 122) (q := 0) (by decide +kernel) rfl ?_
    refine z_getR (pc := 123) (r0 + 3) fl_Room_40 (shRoom h0) rfl (rfRoom_9 h0) (by decide +kernel) ?_
    refine z_iload (pc := 126) (i := 7) (by decide +kernel) rfl ?_
    have hb1 := k.1
    have k := k.2
    refine z_iald (pc := 128) (shRoom_3 h0) hb1 (by decide +kernel) ?_
    refine z_isub (pc := 129) (by decide +kernel) ?_
    refine z_i2l (pc := 130) (by decide +kernel) ?_
    refine z_lmul (pc := 131) (by decide +kernel) ?_
    refine z_lstore_n (pc := 132) (q := 3) [some (vr r0), some (vi a1), some (vi a2), some (vl (w64 (b3 * (w32 (100 - (σ (r0 + 3) a7)))))), none, some (vi a5), o6, some (vi a7), some (vi s0)] (by decide +kernel) (Nat.le_of_ble_eq_true rfl) rfl ?_
    refine z_iinc (pc := 133) (i := 5) (n := 1) [some (vr r0), some (vi a1), some (vi a2), some (vl (w64 (b3 * (w32 (100 - (σ (r0 + 3) a7)))))), none, some (vi (w32 (a5 + 1))), o6, some (vi a7), some (vi s0)] (by decide +kernel) rfl rfl ?_
    refine z_goto (pc := 136) (off := -112) 24 (by decide +kernel) (by decide) ?_
    exact k
  · have k := k.2 hc
    refine z_aload_n (pc := 109) (q := 0) (by decide +kernel) rfl ?_
    refine z_getR (pc := 110) (r0 + 3) fl_Room_40 (shRoom h0) rfl (rfRoom_9 h0) (by decide +kernel) ?_
    refine z_iload (pc := 113) (i := 7) (by decide +kernel) rfl ?_
    have hb2 := k.1
    have k := k.2
    refine z_iald (pc := 115) (shRoom_3 h0) hb2 (by decide +kernel) ?_
    refine z_i2l (pc := 116) (by decide +kernel) ?_
    refine z_goto (pc := 117) (off := 14) 131 (by decide +kernel) (by decide) ?_
    refine z_lmul (pc := 131) (by decide +kernel) ?_
    refine z_lstore_n (pc := 132) (q := 3) [some (vr r0), some (vi a1), some (vi a2), some (vl (w64 (b3 * (σ (r0 + 3) a7)))), none, some (vi a5), o6, some (vi a7), some (vi s0)] (by decide +kernel) (Nat.le_of_ble_eq_true rfl) rfl ?_
    refine z_iinc (pc := 133) (i := 5) (n := 1) [some (vr r0), some (vi a1), some (vi a2), some (vl (w64 (b3 * (σ (r0 + 3) a7)))), none, some (vi (w32 (a5 + 1))), o6, some (vi a7), some (vi s0)] (by decide +kernel) rfl rfl ?_
    refine z_goto (pc := 136) (off := -112) 24 (by decide +kernel) (by decide) ?_
    exact k
theorem b_Room_believed_0 {E : EN} {d : Nat} {r0 : Nat} {a1 : Int} {σ : Mem} {K : Int → Mem → Prop} (h0 : isRoom r0) (hd : 1 ≤ d) (k : CL E y_Room_chance (d - 1) [vr r0, vi a1, vi 1] σ (fun x1 τ1 => CL E y_Room_chance (d - 1) [vr r0, vi a1, vi 0] τ1 (fun x2 τ2 => (lcm (w64 (x1 + x2)) 0 ≠ 0 → (w64 (x1 + x2) ≠ 0) ∧ K (w32 (w64 (Int.tdiv (w64 (x1 * 10000)) (w64 (x1 + x2))))) τ2) ∧ (lcm (w64 (x1 + x2)) 0 = 0 → K (-1) τ2)))) :
    Z E y_Room_believed d 0 [some (vr r0), some (vi a1), none, none, none, none] [] σ (qi K) := by
  refine z_aload_n (pc := 0) (q := 0) (by decide +kernel) rfl ?_
  refine z_iload_n (pc := 1) (q := 1) (by decide +kernel) rfl ?_
  refine z_iconst (pc := 2) (n := 1) (by decide +kernel) ⟨by decide, by decide⟩ ?_
  refine z_callv (pc := 3) (as := [vi a1, vi 1]) ml_Room_100 (shRoom h0) ⟨rfl, by decide⟩ rfl rfl (Nat.le_of_ble_eq_true rfl) (dc := d - 1) (by omega) (by decide +kernel) (CL.z (CL.mono (fun x1 τ1 k => ?_) k))
  refine z_lstore_n (pc := 6) (q := 2) [some (vr r0), some (vi a1), some (vl x1), none, none, none] (by decide +kernel) (Nat.le_of_ble_eq_true rfl) rfl ?_
  refine z_lload_n (pc := 7) (q := 2) (by decide +kernel) rfl ?_
  refine z_aload_n (pc := 8) (q := 0) (by decide +kernel) rfl ?_
  refine z_iload_n (pc := 9) (q := 1) (by decide +kernel) rfl ?_
  refine z_iconst (pc := 10) (n := 0) (by decide +kernel) ⟨by decide, by decide⟩ ?_
  refine z_callv (pc := 11) (as := [vi a1, vi 0]) ml_Room_100 (shRoom h0) ⟨rfl, by decide⟩ rfl rfl (Nat.le_of_ble_eq_true rfl) (dc := d - 1) (by omega) (by decide +kernel) (CL.z (CL.mono (fun x2 τ2 k => ?_) k))
  refine z_ladd (pc := 14) (by decide +kernel) ?_
  refine z_lstore (pc := 15) (i := 4) [some (vr r0), some (vi a1), some (vl x1), none, some (vl (w64 (x1 + x2))), none] (by decide +kernel) (Nat.le_of_ble_eq_true rfl) rfl ?_
  refine z_lload (pc := 17) (i := 4) (by decide +kernel) rfl ?_
  refine z_lconst (pc := 19) (n := 0) 0 (by decide +kernel) (by decide) ⟨by decide, by decide⟩ ?_
  refine z_lcmp (pc := 20) (by decide +kernel) ?_
  refine z_if_ne (pc := 21) (off := 7) 28 (by decide +kernel) (by decide) ⟨fun hc => ?_, fun hc => ?_⟩
  · have k := k.1 hc
    refine z_lload_n (pc := 28) (q := 2) (by decide +kernel) rfl ?_
    refine z_ldc2 (pc := 29) (index := 104) 10000 (mm5 198 rfl) ⟨by decide, by decide⟩ (by decide +kernel) ?_
    refine z_lmul (pc := 32) (by decide +kernel) ?_
    refine z_lload (pc := 33) (i := 4) (by decide +kernel) rfl ?_
    have hb1 := k.1
    have k := k.2
    refine z_ldiv (pc := 35) (by decide +kernel) hb1 ?_
    refine z_l2i (pc := 36) (by decide +kernel) ?_
    exact z_iret (pc := 37) (by decide +kernel) rfl k
  · have k := k.2 hc
    refine z_iconst (pc := 24) (n := -1) (by decide +kernel) ⟨by decide, by decide⟩ ?_
    refine z_goto (pc := 25) (off := 12) 37 (by decide +kernel) (by decide) ?_
    exact z_iret (pc := 37) (by decide +kernel) rfl k
theorem b_Int_bitCount_0 {E : EN} {d : Nat} {a0 : Int} {σ : Mem} {K : Int → Mem → Prop}  (k : K (ian (w32 ((w32 ((ian (w32 ((w32 ((ian (w32 (a0 - (ian (ius a0 1) 1431655765))) 858993459) + (ian (ius (w32 (a0 - (ian (ius a0 1) 1431655765))) 2) 858993459))) + (ius (w32 ((ian (w32 (a0 - (ian (ius a0 1) 1431655765))) 858993459) + (ian (ius (w32 (a0 - (ian (ius a0 1) 1431655765))) 2) 858993459))) 4))) 252645135) + (ius (ian (w32 ((w32 ((ian (w32 (a0 - (ian (ius a0 1) 1431655765))) 858993459) + (ian (ius (w32 (a0 - (ian (ius a0 1) 1431655765))) 2) 858993459))) + (ius (w32 ((ian (w32 (a0 - (ian (ius a0 1) 1431655765))) 858993459) + (ian (ius (w32 (a0 - (ian (ius a0 1) 1431655765))) 2) 858993459))) 4))) 252645135) 8))) + (ius (w32 ((ian (w32 ((w32 ((ian (w32 (a0 - (ian (ius a0 1) 1431655765))) 858993459) + (ian (ius (w32 (a0 - (ian (ius a0 1) 1431655765))) 2) 858993459))) + (ius (w32 ((ian (w32 (a0 - (ian (ius a0 1) 1431655765))) 858993459) + (ian (ius (w32 (a0 - (ian (ius a0 1) 1431655765))) 2) 858993459))) 4))) 252645135) + (ius (ian (w32 ((w32 ((ian (w32 (a0 - (ian (ius a0 1) 1431655765))) 858993459) + (ian (ius (w32 (a0 - (ian (ius a0 1) 1431655765))) 2) 858993459))) + (ius (w32 ((ian (w32 (a0 - (ian (ius a0 1) 1431655765))) 858993459) + (ian (ius (w32 (a0 - (ian (ius a0 1) 1431655765))) 2) 858993459))) 4))) 252645135) 8))) 16))) 63) σ) :
    Z E y_Int_bitCount d 0 [some (vi a0)] [] σ (qi K) := by
  refine z_iload_n (pc := 0) (q := 0) (by decide +kernel) rfl ?_
  refine z_iload_n (pc := 1) (q := 0) (by decide +kernel) rfl ?_
  refine z_iconst (pc := 2) (n := 1) (by decide +kernel) ⟨by decide, by decide⟩ ?_
  refine z_iushr (pc := 3) (by decide +kernel) ?_
  refine z_ldcw (pc := 4) (index := 265) 1431655765 (mm5 90 rfl) ⟨by decide, by decide⟩ (by decide +kernel) ?_
  refine z_iand (pc := 7) (by decide +kernel) ?_
  refine z_isub (pc := 8) (by decide +kernel) ?_
  refine z_istore_n (pc := 9) (q := 0) [some (vi (w32 (a0 - (ian (ius a0 1) 1431655765))))] (by decide +kernel) (Nat.le_of_ble_eq_true rfl) rfl ?_
  refine z_iload_n (pc := 10) (q := 0) (by decide +kernel) rfl ?_
  refine z_ldcw (pc := 11) (index := 266) 858993459 (mm5 91 rfl) ⟨by decide, by decide⟩ (by decide +kernel) ?_
  refine z_iand (pc := 14) (by decide +kernel) ?_
  refine z_iload_n (pc := 15) (q := 0) (by decide +kernel) rfl ?_
  refine z_iconst (pc := 16) (n := 2) (by decide +kernel) ⟨by decide, by decide⟩ ?_
  refine z_iushr (pc := 17) (by decide +kernel) ?_
  refine z_ldcw (pc := 18) (index := 266) 858993459 (mm5 91 rfl) ⟨by decide, by decide⟩ (by decide +kernel) ?_
  refine z_iand (pc := 21) (by decide +kernel) ?_
  refine z_iadd (pc := 22) (by decide +kernel) ?_
  refine z_istore_n (pc := 23) (q := 0) [some (vi (w32 ((ian (w32 (a0 - (ian (ius a0 1) 1431655765))) 858993459) + (ian (ius (w32 (a0 - (ian (ius a0 1) 1431655765))) 2) 858993459))))] (by decide +kernel) (Nat.le_of_ble_eq_true rfl) rfl ?_
  refine z_iload_n (pc := 24) (q := 0) (by decide +kernel) rfl ?_
  refine z_iload_n (pc := 25) (q := 0) (by decide +kernel) rfl ?_
  refine z_iconst (pc := 26) (n := 4) (by decide +kernel) ⟨by decide, by decide⟩ ?_
  refine z_iushr (pc := 27) (by decide +kernel) ?_
  refine z_iadd (pc := 28) (by decide +kernel) ?_
  refine z_ldcw (pc := 29) (index := 267) 252645135 (mm5 92 rfl) ⟨by decide, by decide⟩ (by decide +kernel) ?_
  refine z_iand (pc := 32) (by decide +kernel) ?_
  refine z_istore_n (pc := 33) (q := 0) [some (vi (ian (w32 ((w32 ((ian (w32 (a0 - (ian (ius a0 1) 1431655765))) 858993459) + (ian (ius (w32 (a0 - (ian (ius a0 1) 1431655765))) 2) 858993459))) + (ius (w32 ((ian (w32 (a0 - (ian (ius a0 1) 1431655765))) 858993459) + (ian (ius (w32 (a0 - (ian (ius a0 1) 1431655765))) 2) 858993459))) 4))) 252645135))] (by decide +kernel) (Nat.le_of_ble_eq_true rfl) rfl ?_
  refine z_iload_n (pc := 34) (q := 0) (by decide +kernel) rfl ?_
  refine z_iload_n (pc := 35) (q := 0) (by decide +kernel) rfl ?_
  refine z_bipush (pc := 36) (n := 8) (by decide +kernel) (by decide) ⟨by decide, by decide⟩ ?_
  refine z_iushr (pc := 38) (by decide +kernel) ?_
  refine z_iadd (pc := 39) (by decide +kernel) ?_
  refine z_istore_n (pc := 40) (q := 0) [some (vi (w32 ((ian (w32 ((w32 ((ian (w32 (a0 - (ian (ius a0 1) 1431655765))) 858993459) + (ian (ius (w32 (a0 - (ian (ius a0 1) 1431655765))) 2) 858993459))) + (ius (w32 ((ian (w32 (a0 - (ian (ius a0 1) 1431655765))) 858993459) + (ian (ius (w32 (a0 - (ian (ius a0 1) 1431655765))) 2) 858993459))) 4))) 252645135) + (ius (ian (w32 ((w32 ((ian (w32 (a0 - (ian (ius a0 1) 1431655765))) 858993459) + (ian (ius (w32 (a0 - (ian (ius a0 1) 1431655765))) 2) 858993459))) + (ius (w32 ((ian (w32 (a0 - (ian (ius a0 1) 1431655765))) 858993459) + (ian (ius (w32 (a0 - (ian (ius a0 1) 1431655765))) 2) 858993459))) 4))) 252645135) 8))))] (by decide +kernel) (Nat.le_of_ble_eq_true rfl) rfl ?_
  refine z_iload_n (pc := 41) (q := 0) (by decide +kernel) rfl ?_
  refine z_iload_n (pc := 42) (q := 0) (by decide +kernel) rfl ?_
  refine z_bipush (pc := 43) (n := 16) (by decide +kernel) (by decide) ⟨by decide, by decide⟩ ?_
  refine z_iushr (pc := 45) (by decide +kernel) ?_
  refine z_iadd (pc := 46) (by decide +kernel) ?_
  refine z_istore_n (pc := 47) (q := 0) [some (vi (w32 ((w32 ((ian (w32 ((w32 ((ian (w32 (a0 - (ian (ius a0 1) 1431655765))) 858993459) + (ian (ius (w32 (a0 - (ian (ius a0 1) 1431655765))) 2) 858993459))) + (ius (w32 ((ian (w32 (a0 - (ian (ius a0 1) 1431655765))) 858993459) + (ian (ius (w32 (a0 - (ian (ius a0 1) 1431655765))) 2) 858993459))) 4))) 252645135) + (ius (ian (w32 ((w32 ((ian (w32 (a0 - (ian (ius a0 1) 1431655765))) 858993459) + (ian (ius (w32 (a0 - (ian (ius a0 1) 1431655765))) 2) 858993459))) + (ius (w32 ((ian (w32 (a0 - (ian (ius a0 1) 1431655765))) 858993459) + (ian (ius (w32 (a0 - (ian (ius a0 1) 1431655765))) 2) 858993459))) 4))) 252645135) 8))) + (ius (w32 ((ian (w32 ((w32 ((ian (w32 (a0 - (ian (ius a0 1) 1431655765))) 858993459) + (ian (ius (w32 (a0 - (ian (ius a0 1) 1431655765))) 2) 858993459))) + (ius (w32 ((ian (w32 (a0 - (ian (ius a0 1) 1431655765))) 858993459) + (ian (ius (w32 (a0 - (ian (ius a0 1) 1431655765))) 2) 858993459))) 4))) 252645135) + (ius (ian (w32 ((w32 ((ian (w32 (a0 - (ian (ius a0 1) 1431655765))) 858993459) + (ian (ius (w32 (a0 - (ian (ius a0 1) 1431655765))) 2) 858993459))) + (ius (w32 ((ian (w32 (a0 - (ian (ius a0 1) 1431655765))) 858993459) + (ian (ius (w32 (a0 - (ian (ius a0 1) 1431655765))) 2) 858993459))) 4))) 252645135) 8))) 16))))] (by decide +kernel) (Nat.le_of_ble_eq_true rfl) rfl ?_
  refine z_iload_n (pc := 48) (q := 0) (by decide +kernel) rfl ?_
  refine z_bipush (pc := 49) (n := 63) (by decide +kernel) (by decide) ⟨by decide, by decide⟩ ?_
  refine z_iand (pc := 51) (by decide +kernel) ?_
  exact z_iret (pc := 52) (by decide +kernel) rfl k
theorem b_Str_charAt_0 {E : EN} {d : Nat} {i0 : Nat} {a1 : Int} {σ : Mem} {K : Int → Mem → Prop} (h0 : i0 < nS) (hd : 1 ≤ d) (k : CI E y_Str_isLatin1 (d - 1) [vr (nC + 2 * i0)] σ (fun x1 τ1 => (x1 = 0 → CI E y_SU_charAt (d - 1) [vr (nC + 2 * i0 + 1), vi a1] τ1 (fun x2 τ2 => (0 ≤ x2 ∧ x2 < 65536) ∧ K x2 τ2)) ∧ (x1 ≠ 0 → CI E y_SL_charAt (d - 1) [vr (nC + 2 * i0 + 1), vi a1] τ1 (fun x3 τ3 => (0 ≤ x3 ∧ x3 < 65536) ∧ K x3 τ3)))) :
    Z E y_Str_charAt d 0 [some (vr (nC + 2 * i0)), some (vi a1)] [] σ (qi K) := by
  refine z_aload_n (pc := 0) (q := 0) (by decide +kernel) rfl ?_
  refine z_callstr (pc := 1) (as := []) ml_Str_492 h0 rfl rfl rfl (Nat.le_of_ble_eq_true rfl) (dc := d - 1) (by omega) (by decide +kernel) (CI.z (CI.mono (fun x1 τ1 k => ?_) k))
  refine z_if_eq (pc := 4) (off := 12) 16 (by decide +kernel) (by decide) ⟨fun hc => ?_, fun hc => ?_⟩
  · have k := k.1 hc
    refine z_aload_n (pc := 16) (q := 0) (by decide +kernel) rfl ?_
    refine z_sval (pc := 17) (index := 9) h0 (mm9 26 rfl) (by decide +kernel) ?_
    refine z_iload_n (pc := 20) (q := 1) (by decide +kernel) rfl ?_
    refine z_calls (pc := 21) (as := [vr (nC + 2 * i0 + 1), vi a1]) ml_Str_498 rfl rfl (Nat.le_of_ble_eq_true rfl) (dc := d - 1) (by omega) (by decide +kernel) (CI.z (CI.mono (fun x2 τ2 k => ?_) k))
    exact z_cret (pc := 24) (by decide +kernel) rfl k
  · have k := k.2 hc
    refine z_aload_n (pc := 7) (q := 0) (by decide +kernel) rfl ?_
    refine z_sval (pc := 8) (index := 9) h0 (mm9 26 rfl) (by decide +kernel) ?_
    refine z_iload_n (pc := 11) (q := 1) (by decide +kernel) rfl ?_
    refine z_calls (pc := 12) (as := [vr (nC + 2 * i0 + 1), vi a1]) ml_Str_495 rfl rfl (Nat.le_of_ble_eq_true rfl) (dc := d - 1) (by omega) (by decide +kernel) (CI.z (CI.mono (fun x3 τ3 k => ?_) k))
    exact z_cret (pc := 15) (by decide +kernel) rfl k
theorem b_Str_coder_0 {E : EN} {d : Nat} {i0 : Nat} {σ : Mem} {K : Int → Mem → Prop} (h0 : i0 < nS) (k : ((1 : Int) = 0 → K 1 σ) ∧ ((1 : Int) ≠ 0 → K 0 σ)) :
    Z E y_Str_coder d 0 [some (vr (nC + 2 * i0))] [] σ (qi K) := by
  refine z_scs (pc := 0) (index := 38) (mm3 91 rfl) (by decide +kernel) ?_
  refine z_if_eq (pc := 3) (off := 10) 13 (by decide +kernel) (by decide) ⟨fun hc => ?_, fun hc => ?_⟩
  · have k := k.1 hc
    refine z_iconst (pc := 13) (n := 1) (by decide +kernel) ⟨by decide, by decide⟩ ?_
    exact z_bret (pc := 14) (by decide +kernel) rfl ⟨by decide, k⟩
  · have k := k.2 hc
    refine z_aload_n (pc := 6) (q := 0) (by decide +kernel) rfl ?_
    refine z_scod (pc := 7) (index := 15) h0 (mm9 27 rfl) (by decide +kernel) ?_
    refine z_goto (pc := 10) (off := 4) 14 (by decide +kernel) (by decide) ?_
    exact z_bret (pc := 14) (by decide +kernel) rfl ⟨by decide, k⟩
theorem b_Str_isLatin1_0 {E : EN} {d : Nat} {i0 : Nat} {σ : Mem} {K : Int → Mem → Prop} (h0 : i0 < nS) (k : ((1 : Int) = 0 → K 0 σ) ∧ ((1 : Int) ≠ 0 → ((0 : Int) ≠ 0 → K 0 σ) ∧ ((0 : Int) = 0 → K 1 σ))) :
    Z E y_Str_isLatin1 d 0 [some (vr (nC + 2 * i0))] [] σ (qi K) := by
  refine z_scs (pc := 0) (index := 38) (mm3 91 rfl) (by decide +kernel) ?_
  refine z_if_eq (pc := 3) (off := 14) 17 (by decide +kernel) (by decide) ⟨fun hc => ?_, fun hc => ?_⟩
  · have k := k.1 hc
    refine z_iconst (pc := 17) (n := 0) (by decide +kernel) ⟨by decide, by decide⟩ ?_
    exact z_zret (pc := 18) (by decide +kernel) rfl ⟨by decide, k⟩
  · have k := k.2 hc
    refine z_aload_n (pc := 6) (q := 0) (by decide +kernel) rfl ?_
    refine z_scod (pc := 7) (index := 15) h0 (mm9 27 rfl) (by decide +kernel) ?_
    refine z_if_ne (pc := 10) (off := 7) 17 (by decide +kernel) (by decide) ⟨fun hc => ?_, fun hc => ?_⟩
    · have k := k.1 hc
      refine z_iconst (pc := 17) (n := 0) (by decide +kernel) ⟨by decide, by decide⟩ ?_
      exact z_zret (pc := 18) (by decide +kernel) rfl ⟨by decide, k⟩
    · have k := k.2 hc
      refine z_iconst (pc := 13) (n := 1) (by decide +kernel) ⟨by decide, by decide⟩ ?_
      refine z_goto (pc := 14) (off := 4) 18 (by decide +kernel) (by decide) ?_
      exact z_zret (pc := 18) (by decide +kernel) rfl ⟨by decide, k⟩
theorem b_Str_length_0 {E : EN} {d : Nat} {i0 : Nat} {σ : Mem} {K : Int → Mem → Prop} (h0 : i0 < nS) (hd : 1 ≤ d) (k : CI E y_Str_coder (d - 1) [vr (nC + 2 * i0)] σ (fun x1 τ1 => K (isr (stN i0) x1) τ1)) :
    Z E y_Str_length d 0 [some (vr (nC + 2 * i0))] [] σ (qi K) := by
  refine z_aload_n (pc := 0) (q := 0) (by decide +kernel) rfl ?_
  refine z_sval (pc := 1) (index := 9) h0 (mm9 26 rfl) (by decide +kernel) ?_
  refine z_slen (pc := 4) h0 (by decide +kernel) ?_
  refine z_aload_n (pc := 5) (q := 0) (by decide +kernel) rfl ?_
  refine z_callstr (pc := 6) (as := []) ml_Str_335 h0 rfl rfl rfl (Nat.le_of_ble_eq_true rfl) (dc := d - 1) (by omega) (by decide +kernel) (CI.z (CI.mono (fun x1 τ1 k => ?_) k))
  refine z_ishr (pc := 9) (by decide +kernel) ?_
  exact z_iret (pc := 10) (by decide +kernel) rfl k
theorem b_SL_charAt_0 {E : EN} {d : Nat} {i0 : Nat} {a1 : Int} {σ : Mem} {K : Int → Mem → Prop} (h0 : i0 < nS) (hd : 1 ≤ d) (k : CV E y_Str_checkIndex (d - 1) [vi a1, vi (stN i0)] σ (fun τ1 => (0 ≤ a1 ∧ a1 < stN i0) ∧ (0 ≤ (u16 (ian (stB i0 a1) 255)) ∧ (u16 (ian (stB i0 a1) 255)) < 65536) ∧ K (u16 (ian (stB i0 a1) 255)) τ1)) :
    Z E y_SL_charAt d 0 [some (vr (nC + 2 * i0 + 1)), some (vi a1)] [] σ (qi K) := by
  refine z_iload_n (pc := 0) (q := 1) (by decide +kernel) rfl ?_
  refine z_aload_n (pc := 1) (q := 0) (by decide +kernel) rfl ?_
  refine z_slen (pc := 2) h0 (by decide +kernel) ?_
  refine z_calls (pc := 3) (as := [vi a1, vi (stN i0)]) ml_SL_9 rfl rfl (Nat.le_of_ble_eq_true rfl) (dc := d - 1) (by omega) (by decide +kernel) (CV.z (CV.mono (fun τ1 k => ?_) k))
  refine z_aload_n (pc := 6) (q := 0) (by decide +kernel) rfl ?_
  refine z_iload_n (pc := 7) (q := 1) (by decide +kernel) rfl ?_
  have hb1 := k.1
  have k := k.2
  refine z_sbal (pc := 8) h0 hb1 (by decide +kernel) ?_
  refine z_sipush (pc := 9) (n := 255) (by decide +kernel) (by decide) ⟨by decide, by decide⟩ ?_
  refine z_iand (pc := 12) (by decide +kernel) ?_
  refine z_i2c (pc := 13) (by decide +kernel) ?_
  exact z_cret (pc := 14) (by decide +kernel) rfl k
theorem b_Arr_fill_AII_0 {E : EN} {d : Nat} {r0 : Nat} {n0 : Nat} {a1 : Int} {σ : Mem} {K : Mem → Prop} (h0 : sh r0 = (20, n0)) (g0 : i32 n0) (k : Z E y_Arr_fill_AII d 5 [some (vr r0), some (vi a1), some (vi 0), some (vi (n0 : Nat))] [] σ (qv K)) :
    Z E y_Arr_fill_AII d 0 [some (vr r0), some (vi a1), none, none] [] σ (qv K) := by
  refine z_iconst (pc := 0) (n := 0) (by decide +kernel) ⟨by decide, by decide⟩ ?_
  refine z_istore_n (pc := 1) (q := 2) [some (vr r0), some (vi a1), some (vi 0), none] (by decide +kernel) (Nat.le_of_ble_eq_true rfl) rfl ?_
  refine z_aload_n (pc := 2) (q := 0) (by decide +kernel) rfl ?_
  refine z_alen (pc := 3) _ h0 (by decide) (by decide) rfl g0 (by decide +kernel) ?_
  refine z_istore_n (pc := 4) (q := 3) [some (vr r0), some (vi a1), some (vi 0), some (vi (n0 : Nat))] (by decide +kernel) (Nat.le_of_ble_eq_true rfl) rfl ?_
  exact k
theorem b_Arr_fill_AII_5 {E : EN} {d : Nat} {r0 : Nat} {n0 : Nat} {a1 : Int} {a2 : Int} {a3 : Int} {σ : Mem} {K : Mem → Prop} (h0 : sh r0 = (20, n0)) (g0 : i32 n0) (k : (a3 ≤ a2 → K σ) ∧ (a2 < a3 → (0 ≤ a2 ∧ a2 < (n0 : Nat)) ∧ Z E y_Arr_fill_AII d 5 [some (vr r0), some (vi a1), some (vi (w32 (a2 + 1))), some (vi a3)] [] (up σ r0 a2 a1) (qv K))) :
    Z E y_Arr_fill_AII d 5 [some (vr r0), some (vi a1), some (vi a2), some (vi a3)] [] σ (qv K) := by
  refine z_iload_n (pc := 5) (q := 2) (by decide +kernel) rfl ?_
  refine z_iload_n (pc := 6) (q := 3) (by decide +kernel) rfl ?_
  refine z_icmp_ge (pc := 7) (off := 13) 20 (by decide +kernel) (by decide) ⟨fun hc => ?_, fun hc => ?_⟩
  · have k := k.1 hc
    exact z_vret (pc := 20) (by decide +kernel) rfl k
  · have k := k.2 hc
    refine z_aload_n (pc := 10) (q := 0) (by decide +kernel) rfl ?_
    refine z_iload_n (pc := 11) (q := 2) (by decide +kernel) rfl ?_
    refine z_iload_n (pc := 12) (q := 1) (by decide +kernel) rfl ?_
    have hb1 := k.1
    have k := k.2
    refine z_iast (pc := 13) h0 hb1 (by decide +kernel) ?_
    refine z_iinc (pc := 14) (i := 2) (n := 1) [some (vr r0), some (vi a1), some (vi (w32 (a2 + 1))), some (vi a3)] (by decide +kernel) rfl rfl ?_
    refine z_goto (pc := 17) (off := -12) 5 (by decide +kernel) (by decide) ?_
    exact k
theorem b_Arr_fill_AJJ_0 {E : EN} {d : Nat} {r0 : Nat} {n0 : Nat} {b1 : Int} {σ : Mem} {K : Mem → Prop} (h0 : sh r0 = (23, n0)) (g0 : i32 n0) (k : Z E y_Arr_fill_AJJ d 6 [some (vr r0), some (vl b1), none, some (vi 0), some (vi (n0 : Nat))] [] σ (qv K)) :
    Z E y_Arr_fill_AJJ d 0 [some (vr r0), some (vl b1), none, none, none] [] σ (qv K) := by
  refine z_iconst (pc := 0) (n := 0) (by decide +kernel) ⟨by decide, by decide⟩ ?_
  refine z_istore_n (pc := 1) (q := 3) [some (vr r0), some (vl b1), none, some (vi 0), none] (by decide +kernel) (Nat.le_of_ble_eq_true rfl) rfl ?_
  refine z_aload_n (pc := 2) (q := 0) (by decide +kernel) rfl ?_
  refine z_alen (pc := 3) _ h0 (by decide) (by decide) rfl g0 (by decide +kernel) ?_
  refine z_istore (pc := 4) (i := 4) [some (vr r0), some (vl b1), none, some (vi 0), some (vi (n0 : Nat))] (by decide +kernel) (Nat.le_of_ble_eq_true rfl) rfl ?_
  exact k
theorem b_Arr_fill_AJJ_6 {E : EN} {d : Nat} {r0 : Nat} {n0 : Nat} {b1 : Int} {o2 : Option AV} {a3 : Int} {a4 : Int} {σ : Mem} {K : Mem → Prop} (h0 : sh r0 = (23, n0)) (g0 : i32 n0) (k : (a4 ≤ a3 → K σ) ∧ (a3 < a4 → (0 ≤ a3 ∧ a3 < (n0 : Nat)) ∧ Z E y_Arr_fill_AJJ d 6 [some (vr r0), some (vl b1), none, some (vi (w32 (a3 + 1))), some (vi a4)] [] (up σ r0 a3 b1) (qv K))) :
    Z E y_Arr_fill_AJJ d 6 [some (vr r0), some (vl b1), o2, some (vi a3), some (vi a4)] [] σ (qv K) := by
  refine z_iload_n (pc := 6) (q := 3) (by decide +kernel) rfl ?_
  refine z_iload (pc := 7) (i := 4) (by decide +kernel) rfl ?_
  refine z_icmp_ge (pc := 9) (off := 13) 22 (by decide +kernel) (by decide) ⟨fun hc => ?_, fun hc => ?_⟩
  · have k := k.1 hc
    exact z_vret (pc := 22) (by decide +kernel) rfl k
  · have k := k.2 hc
    refine z_aload_n (pc := 12) (q := 0) (by decide +kernel) rfl ?_
    refine z_iload_n (pc := 13) (q := 3) (by decide +kernel) rfl ?_
    refine z_lload_n (pc := 14) (q := 1) (by decide +kernel) rfl ?_
    have hb1 := k.1
    have k := k.2
    refine z_last (pc := 15) h0 hb1 (by decide +kernel) ?_
    refine z_forget (pc := 16) 2 [some (vr r0), some (vl b1), none, some (vi a3), some (vi a4)] rfl ?_
    refine z_iinc (pc := 16) (i := 3) (n := 1) [some (vr r0), some (vl b1), none, some (vi (w32 (a3 + 1))), some (vi a4)] (by decide +kernel) rfl rfl ?_
    refine z_goto (pc := 19) (off := -13) 6 (by decide +kernel) (by decide) ?_
    exact k
theorem b_Past_forget_0 {E : EN} {d : Nat}  {σ : Mem} {K : Mem → Prop}  (k : K (up (up σ 52 1 0) 52 2 0)) :
    Z E y_Past_forget d 0 [some (vr 52)] [] σ (qv K) := by
  refine z_aload_n (pc := 0) (q := 0) (by decide +kernel) rfl ?_
  refine z_iconst (pc := 1) (n := 0) (by decide +kernel) ⟨by decide, by decide⟩ ?_
  refine z_putI (pc := 2) 1 fp_Past_17 rfl rfl rfl (by decide +kernel) ?_
  refine z_aload_n (pc := 5) (q := 0) (by decide +kernel) rfl ?_
  refine z_iconst (pc := 6) (n := 0) (by decide +kernel) ⟨by decide, by decide⟩ ?_
  refine z_putI (pc := 7) 2 fp_Past_21 rfl rfl rfl (by decide +kernel) ?_
  exact z_vret (pc := 10) (by decide +kernel) rfl k
theorem b_Past_keep_0 {E : EN} {d : Nat} {r1 : Nat} {σ : Mem} {K : Mem → Prop} (h1 : isStg r1) (hd : 1 ≤ d) (k : (0 ≤ Int.tmod (w32 ((σ 52 1) + (σ 52 2))) 10 ∧ Int.tmod (w32 ((σ 52 1) + (σ 52 2))) 10 < 10) ∧ CV E y_Stg_become (d - 1) [vr (54 + (Int.tmod (w32 ((σ 52 1) + (σ 52 2))) 10).toNat), vr r1] σ (fun τ1 => (10 ≤ τ1 52 2 → K (up τ1 52 1 (Int.tmod (w32 ((τ1 52 1) + 1)) 10))) ∧ (τ1 52 2 < 10 → K (up τ1 52 2 (w32 ((τ1 52 2) + 1)))))) :
    Z E y_Past_keep d 0 [some (vr 52), some (vr r1)] [] σ (qv K) := by
  refine z_aload_n (pc := 0) (q := 0) (by decide +kernel) rfl ?_
  refine z_getR (pc := 1) 53 fl_Past_11 rfl rfl rfl (by decide +kernel) ?_
  refine z_aload_n (pc := 4) (q := 0) (by decide +kernel) rfl ?_
  refine z_getI (pc := 5) 1 fl_Past_17 rfl (by decide) rfl (by decide +kernel) ?_
  refine z_aload_n (pc := 8) (q := 0) (by decide +kernel) rfl ?_
  refine z_getI (pc := 9) 2 fl_Past_21 rfl (by decide) rfl (by decide +kernel) ?_
  refine z_iadd (pc := 12) (by decide +kernel) ?_
  refine z_bipush (pc := 13) (n := 10) (by decide +kernel) (by decide) ⟨by decide, by decide⟩ ?_
  refine z_irem (pc := 15) (by decide +kernel) (by decide) ?_
  have hb1 := k.1
  have k := k.2
  refine z_aald (pc := 16) (54 + (Int.tmod (w32 ((σ 52 1) + (σ 52 2))) 10).toNat) rfl (by decide) (rf_kept hb1) hb1 (by decide +kernel) ?_
  refine z_aload_n (pc := 17) (q := 1) (by decide +kernel) rfl ?_
  refine z_callv (pc := 18) (as := [vr r1]) ml_Past_25 (shStg (is_kept hb1)) ⟨rfl, by decide⟩ rfl rfl (Nat.le_of_ble_eq_true rfl) (dc := d - 1) (by omega) (by decide +kernel) (CV.z (CV.mono (fun τ1 k => ?_) k))
  refine z_aload_n (pc := 21) (q := 0) (by decide +kernel) rfl ?_
  refine z_getI (pc := 22) 2 fl_Past_21 rfl (by decide) rfl (by decide +kernel) ?_
  refine z_bipush (pc := 25) (n := 10) (by decide +kernel) (by decide) ⟨by decide, by decide⟩ ?_
  refine z_icmp_ge (pc := 27) (off := 16) 43 (by decide +kernel) (by decide) ⟨fun hc => ?_, fun hc => ?_⟩
  · have k := k.1 hc
    refine z_aload_n (pc := 43) (q := 0) (by decide +kernel) rfl ?_
    refine z_aload_n (pc := 44) (q := 0) (by decide +kernel) rfl ?_
    refine z_getI (pc := 45) 1 fl_Past_17 rfl (by decide) rfl (by decide +kernel) ?_
    refine z_iconst (pc := 48) (n := 1) (by decide +kernel) ⟨by decide, by decide⟩ ?_
    refine z_iadd (pc := 49) (by decide +kernel) ?_
    refine z_bipush (pc := 50) (n := 10) (by decide +kernel) (by decide) ⟨by decide, by decide⟩ ?_
    refine z_irem (pc := 52) (by decide +kernel) (by decide) ?_
    refine z_putI (pc := 53) 1 fp_Past_17 rfl rfl rfl (by decide +kernel) ?_
    exact z_vret (pc := 56) (by decide +kernel) rfl k
  · have k := k.2 hc
    refine z_aload_n (pc := 30) (q := 0) (by decide +kernel) rfl ?_
    refine z_dup (pc := 31) (by decide +kernel) rfl ?_
    refine z_getI (pc := 32) 2 fl_Past_21 rfl (by decide) rfl (by decide +kernel) ?_
    refine z_iconst (pc := 35) (n := 1) (by decide +kernel) ⟨by decide, by decide⟩ ?_
    refine z_iadd (pc := 36) (by decide +kernel) ?_
    refine z_putI (pc := 37) 2 fp_Past_21 rfl rfl rfl (by decide +kernel) ?_
    refine z_goto (pc := 40) (off := 16) 56 (by decide +kernel) (by decide) ?_
    exact z_vret (pc := 56) (by decide +kernel) rfl k
theorem b_Past_bringBack_0 {E : EN} {d : Nat} {a1 : Int} {r2 : Nat} {σ : Mem} {K : Mem → Prop} (h2 : isStg r2) (hd : 1 ≤ d) (k : (a1 < 1 → K σ) ∧ (1 ≤ a1 → (σ 52 2 < a1 → K σ) ∧ (a1 ≤ σ 52 2 → (0 ≤ Int.tmod (w32 ((σ 52 1) + (w32 ((σ 52 2) - a1)))) 10 ∧ Int.tmod (w32 ((σ 52 1) + (w32 ((σ 52 2) - a1)))) 10 < 10) ∧ CV E y_Stg_become (d - 1) [vr r2, vr (54 + (Int.tmod (w32 ((σ 52 1) + (w32 ((σ 52 2) - a1)))) 10).toNat)] (up σ 52 2 (w32 ((σ 52 2) - a1))) (fun τ1 => K τ1)))) :
    Z E y_Past_bringBack d 0 [some (vr 52), some (vi a1), some (vr r2)] [] σ (qv K) := by
  refine z_iload_n (pc := 0) (q := 1) (by decide +kernel) rfl ?_
  refine z_iconst (pc := 1) (n := 1) (by decide +kernel) ⟨by decide, by decide⟩ ?_
  refine z_icmp_lt (pc := 2) (off := 42) 44 (by decide +kernel) (by decide) ⟨fun hc => ?_, fun hc => ?_⟩
  · have k := k.1 hc
    exact z_vret (pc := 44) (by decide +kernel) rfl k
  · have k := k.2 hc
    refine z_iload_n (pc := 5) (q := 1) (by decide +kernel) rfl ?_
    refine z_aload_n (pc := 6) (q := 0) (by decide +kernel) rfl ?_
    refine z_getI (pc := 7) 2 fl_Past_21 rfl (by decide) rfl (by decide +kernel) ?_
    refine z_icmp_gt (pc := 10) (off := 34) 44 (by decide +kernel) (by decide) ⟨fun hc => ?_, fun hc => ?_⟩
    · have k := k.1 hc
      exact z_vret (pc := 44) (by decide +kernel) rfl k
    · have k := k.2 hc
      refine z_aload_n (pc := 13) (q := 0) (by decide +kernel) rfl ?_
      refine z_dup (pc := 14) (by decide +kernel) rfl ?_
      refine z_getI (pc := 15) 2 fl_Past_21 rfl (by decide) rfl (by decide +kernel) ?_
      refine z_iload_n (pc := 18) (q := 1) (by decide +kernel) rfl ?_
      refine z_isub (pc := 19) (by decide +kernel) ?_
      refine z_putI (pc := 20) 2 fp_Past_21 rfl rfl rfl (by decide +kernel) ?_
      refine z_aload_n (pc := 23) (q := 2) (by decide +kernel) rfl ?_
      refine z_aload_n (pc := 24) (q := 0) (by decide +kernel) rfl ?_
      refine z_getR (pc := 25) 53 fl_Past_11 rfl rfl rfl (by decide +kernel) ?_
      refine z_aload_n (pc := 28) (q := 0) (by decide +kernel) rfl ?_
      refine z_getI (pc := 29) 1 fl_Past_17 rfl (by decide) rfl (by decide +kernel) ?_
      refine z_topI (up_nk (by decide)) ?_
      refine z_aload_n (pc := 32) (q := 0) (by decide +kernel) rfl ?_
      refine z_getI (pc := 33) 2 fl_Past_21 rfl (by decide) rfl (by decide +kernel) ?_
      refine z_topI (up_same _ _ _ _) ?_
      refine z_iadd (pc := 36) (by decide +kernel) ?_
      refine z_bipush (pc := 37) (n := 10) (by decide +kernel) (by decide) ⟨by decide, by decide⟩ ?_
      refine z_irem (pc := 39) (by decide +kernel) (by decide) ?_
      have hb1 := k.1
      have k := k.2
      refine z_aald (pc := 40) (54 + (Int.tmod (w32 ((σ 52 1) + (w32 ((σ 52 2) - a1)))) 10).toNat) rfl (by decide) (rf_kept hb1) hb1 (by decide +kernel) ?_
      refine z_callv (pc := 41) (as := [vr (54 + (Int.tmod (w32 ((σ 52 1) + (w32 ((σ 52 2) - a1)))) 10).toNat)]) ml_Past_25 (shStg h2) ⟨rfl, by decide⟩ rfl rfl (Nat.le_of_ble_eq_true rfl) (dc := d - 1) (by omega) (by decide +kernel) (CV.z (CV.mono (fun τ1 k => ?_) k))
      exact z_vret (pc := 44) (by decide +kernel) rfl k
