theorem b_Mod_within_0 {E : EN} {d : Nat} {b0 : Int} {b2 : Int} {b4 : Int} {σ : Mem} {K : Int → Mem → Prop}  (k : (lcm b0 b2 < 0 → K 0 σ) ∧ (0 ≤ lcm b0 b2 → (0 < lcm b0 b4 → K 0 σ) ∧ (lcm b0 b4 ≤ 0 → K 1 σ))) :
    Z E y_Mod_within d 0 [some (vl b0), none, some (vl b2), none, some (vl b4), none] [] σ (qi K) := by
  refine z_lload_n (pc := 0) (q := 0) (by decide +kernel) rfl ?_
  refine z_lload_n (pc := 1) (q := 2) (by decide +kernel) rfl ?_
  refine z_lcmp (pc := 2) (by decide +kernel) ?_
  refine z_if_lt (pc := 3) (off := 14) 17 (by decide +kernel) (by decide) ⟨fun hc => ?_, fun hc => ?_⟩
  · have k := k.1 hc
    refine z_iconst (pc := 17) (n := 0) (by decide +kernel) ⟨by decide, by decide⟩ ?_
    exact z_zret (pc := 18) (by decide +kernel) rfl ⟨by decide, k⟩
  · have k := k.2 hc
    refine z_lload_n (pc := 6) (q := 0) (by decide +kernel) rfl ?_
    refine z_lload (pc := 7) (i := 4) (by decide +kernel) rfl ?_
    refine z_lcmp (pc := 9) (by decide +kernel) ?_
    refine z_if_gt (pc := 10) (off := 7) 17 (by decide +kernel) (by decide) ⟨fun hc => ?_, fun hc => ?_⟩
    · have k := k.1 hc
      refine z_iconst (pc := 17) (n := 0) (by decide +kernel) ⟨by decide, by decide⟩ ?_
      exact z_zret (pc := 18) (by decide +kernel) rfl ⟨by decide, k⟩
    · have k := k.2 hc
      refine z_iconst (pc := 13) (n := 1) (by decide +kernel) ⟨by decide, by decide⟩ ?_
      refine z_goto (pc := 14) (off := 4) 18 (by decide +kernel) (by decide) ?_
      exact z_zret (pc := 18) (by decide +kernel) rfl ⟨by decide, k⟩
theorem b_Mod_plain0_0 {E : EN} {d : Nat} {r0 : Nat} {n0 : Nat} {σ : Mem} {K : Mem → Prop} (h0 : sh r0 = (20, n0)) (g0 : i32 n0) (k : Z E y_Mod_plain0 d 2 [some (vr r0), some (vi 0)] [] σ (qv K)) :
    Z E y_Mod_plain0 d 0 [some (vr r0), none] [] σ (qv K) := by
  refine z_iconst (pc := 0) (n := 0) (by decide +kernel) ⟨by decide, by decide⟩ ?_
  refine z_istore_n (pc := 1) (q := 1) [some (vr r0), some (vi 0)] (by decide +kernel) (Nat.le_of_ble_eq_true rfl) rfl ?_
  exact k
theorem b_Mod_plain0_2 {E : EN} {d : Nat} {r0 : Nat} {n0 : Nat} {a1 : Int} {σ : Mem} {K : Mem → Prop} (h0 : sh r0 = (20, n0)) (g0 : i32 n0) (k : (1036 ≤ a1 → (0 ≤ (5 : Int) ∧ (5 : Int) < (n0 : Nat)) ∧ K (up σ r0 5 50)) ∧ (a1 < 1036 → (0 ≤ a1 ∧ a1 < (n0 : Nat)) ∧ Z E y_Mod_plain0 d 2 [some (vr r0), some (vi (w32 (a1 + 1)))] [] (up σ r0 a1 0) (qv K))) :
    Z E y_Mod_plain0 d 2 [some (vr r0), some (vi a1)] [] σ (qv K) := by
  refine z_iload_n (pc := 2) (q := 1) (by decide +kernel) rfl ?_
  refine z_sipush (pc := 3) (n := 1036) (by decide +kernel) (by decide) ⟨by decide, by decide⟩ ?_
  refine z_icmp_ge (pc := 6) (off := 13) 19 (by decide +kernel) (by decide) ⟨fun hc => ?_, fun hc => ?_⟩
  · have k := k.1 hc
    refine z_aload_n (pc := 19) (q := 0) (by decide +kernel) rfl ?_
    refine z_iconst (pc := 20) (n := 5) (by decide +kernel) ⟨by decide, by decide⟩ ?_
    refine z_bipush (pc := 21) (n := 50) (by decide +kernel) (by decide) ⟨by decide, by decide⟩ ?_
    have hb1 := k.1
    have k := k.2
    refine z_iast (pc := 23) h0 hb1 (by decide +kernel) ?_
    exact z_vret (pc := 24) (by decide +kernel) rfl k
  · have k := k.2 hc
    refine z_aload_n (pc := 9) (q := 0) (by decide +kernel) rfl ?_
    refine z_iload_n (pc := 10) (q := 1) (by decide +kernel) rfl ?_
    refine z_iconst (pc := 11) (n := 0) (by decide +kernel) ⟨by decide, by decide⟩ ?_
    have hb2 := k.1
    have k := k.2
    refine z_iast (pc := 12) h0 hb2 (by decide +kernel) ?_
    refine z_iinc (pc := 13) (i := 1) (n := 1) [some (vr r0), some (vi (w32 (a1 + 1)))] (by decide +kernel) rfl rfl ?_
    refine z_goto (pc := 16) (off := -14) 2 (by decide +kernel) (by decide) ?_
    exact k
theorem b_Mod_feed_0 {E : EN} {d : Nat} {a1 : Int} {a2 : Int} {a3 : Int} {a4 : Int} {a5 : Int} {σ : Mem} {K : Int → Mem → Prop}  (k : (w32 ((σ 115 5) + 20) ≤ 900 → Z E y_Mod_feed d 24 [some (vr 115), some (vi a1), some (vi a2), some (vi a3), some (vi a4), some (vi a5), some (vi 0), none] [] (up σ 115 0 0) (qi K)) ∧ (900 < w32 ((σ 115 5) + 20) → K (-5) (up σ 115 0 0))) :
    Z E y_Mod_feed d 0 [some (vr 115), some (vi a1), some (vi a2), some (vi a3), some (vi a4), some (vi a5), none, none] [] σ (qi K) := by
  refine z_aload_n (pc := 0) (q := 0) (by decide +kernel) rfl ?_
  refine z_iconst (pc := 1) (n := 0) (by decide +kernel) ⟨by decide, by decide⟩ ?_
  refine z_putI (pc := 2) 0 fp_Mod_1 rfl rfl rfl (by decide +kernel) ?_
  refine z_aload_n (pc := 5) (q := 0) (by decide +kernel) rfl ?_
  refine z_getI (pc := 6) 5 fl_Mod_74 rfl (by decide) rfl (by decide +kernel) ?_
  refine z_topI (up_nk (by decide)) ?_
  refine z_bipush (pc := 9) (n := 20) (by decide +kernel) (by decide) ⟨by decide, by decide⟩ ?_
  refine z_iadd (pc := 11) (by decide +kernel) ?_
  refine z_sipush (pc := 12) (n := 900) (by decide +kernel) (by decide) ⟨by decide, by decide⟩ ?_
  refine z_icmp_le (pc := 15) (off := 6) 21 (by decide +kernel) (by decide) ⟨fun hc => ?_, fun hc => ?_⟩
  · have k := k.1 hc
    refine z_iconst (pc := 21) (n := 0) (by decide +kernel) ⟨by decide, by decide⟩ ?_
    refine z_istore (pc := 22) (i := 6) [some (vr 115), some (vi a1), some (vi a2), some (vi a3), some (vi a4), some (vi a5), some (vi 0), none] (by decide +kernel) (Nat.le_of_ble_eq_true rfl) rfl ?_
    exact k
  · have k := k.2 hc
    refine z_bipush (pc := 18) (n := -5) (by decide +kernel) (by decide) ⟨by decide, by decide⟩ ?_
    exact z_iret (pc := 20) (by decide +kernel) rfl k
theorem b_Mod_feed_24 {E : EN} {d : Nat} {a1 : Int} {a2 : Int} {a3 : Int} {a4 : Int} {a5 : Int} {a6 : Int} {o7 : Option AV} {σ : Mem} {K : Int → Mem → Prop}  (k : (20 ≤ a6 → K (σ 115 5) σ) ∧ (a6 < 20 → (4 ≤ a6 → (8 ≤ a6 → (12 ≤ a6 → (16 ≤ a6 → Z E y_Mod_feed d 77 [some (vr 115), some (vi a1), some (vi a2), some (vi a3), some (vi a4), some (vi a5), some (vi a6), o7] [vi a5] σ (qi K)) ∧ (a6 < 16 → Z E y_Mod_feed d 77 [some (vr 115), some (vi a1), some (vi a2), some (vi a3), some (vi a4), some (vi a5), some (vi a6), o7] [vi a4] σ (qi K))) ∧ (a6 < 12 → Z E y_Mod_feed d 77 [some (vr 115), some (vi a1), some (vi a2), some (vi a3), some (vi a4), some (vi a5), some (vi a6), o7] [vi a3] σ (qi K))) ∧ (a6 < 8 → Z E y_Mod_feed d 77 [some (vr 115), some (vi a1), some (vi a2), some (vi a3), some (vi a4), some (vi a5), some (vi a6), o7] [vi a2] σ (qi K))) ∧ (a6 < 4 → Z E y_Mod_feed d 77 [some (vr 115), some (vi a1), some (vi a2), some (vi a3), some (vi a4), some (vi a5), some (vi a6), o7] [vi a1] σ (qi K)))) :
    Z E y_Mod_feed d 24 [some (vr 115), some (vi a1), some (vi a2), some (vi a3), some (vi a4), some (vi a5), some (vi a6), o7] [] σ (qi K) := by
  refine z_iload (pc := 24) (i := 6) (by decide +kernel) rfl ?_
  refine z_bipush (pc := 26) (n := 20) (by decide +kernel) (by decide) ⟨by decide, by decide⟩ ?_
  refine z_icmp_ge (pc := 28) (off := 93) 121 (by decide +kernel) (by decide) ⟨fun hc => ?_, fun hc => ?_⟩
  · have k := k.1 hc
    refine z_aload_n (pc := 121) (q := 0) (by decide +kernel) rfl ?_
    refine z_getI (pc := 122) 5 fl_Mod_74 rfl (by decide) rfl (by decide +kernel) ?_
    exact z_iret (pc := 125) (by decide +kernel) rfl k
  · have k := k.2 hc
    refine z_iload (pc := 31) (i := 6) (by decide +kernel) rfl ?_
    refine z_iconst (pc := 33) (n := 4) (by decide +kernel) ⟨by decide, by decide⟩ ?_
    refine z_icmp_ge (pc := 34) (off := 7) 41 (by decide +kernel) (by decide) ⟨fun hc => ?_, fun hc => ?_⟩
    · have k := k.1 hc
      refine z_iload (pc := 41) (i := 6) (by decide +kernel) rfl ?_
      refine z_bipush (pc := 43) (n := 8) (by decide +kernel) (by decide) ⟨by decide, by decide⟩ ?_
      refine z_icmp_ge (pc := 45) (off := 7) 52 (by decide +kernel) (by decide) ⟨fun hc => ?_, fun hc => ?_⟩
      · have k := k.1 hc
        refine z_iload (pc := 52) (i := 6) (by decide +kernel) rfl ?_
        refine z_bipush (pc := 54) (n := 12) (by decide +kernel) (by decide) ⟨by decide, by decide⟩ ?_
        refine z_icmp_ge (pc := 56) (off := 7) 63 (by decide +kernel) (by decide) ⟨fun hc => ?_, fun hc => ?_⟩
        · have k := k.1 hc
          refine z_iload (pc := 63) (i := 6) (by decide +kernel) rfl ?_
          refine z_bipush (pc := 65) (n := 16) (by decide +kernel) (by decide) ⟨by decide, by decide⟩ ?_
          refine z_icmp_ge (pc := 67) (off := 8) 75 (by decide +kernel) (by decide) ⟨fun hc => ?_, fun hc => ?_⟩
          · have k := k.1 hc
            refine z_iload (pc := 75) (i := 5) (by decide +kernel) rfl ?_
            exact k
          · have k := k.2 hc
            refine z_iload (pc := 70) (i := 4) (by decide +kernel) rfl ?_
            refine z_goto (pc := 72) (off := 5) 77 (by decide +kernel) (by decide) ?_
            exact k
        · have k := k.2 hc
          refine z_iload_n (pc := 59) (q := 3) (by decide +kernel) rfl ?_
          refine z_goto (pc := 60) (off := 17) 77 (by decide +kernel) (by decide) ?_
          exact k
      · have k := k.2 hc
        refine z_iload_n (pc := 48) (q := 2) (by decide +kernel) rfl ?_
        refine z_goto (pc := 49) (off := 28) 77 (by decide +kernel) (by decide) ?_
        exact k
    · have k := k.2 hc
      refine z_iload_n (pc := 37) (q := 1) (by decide +kernel) rfl ?_
      refine z_goto (pc := 38) (off := 39) 77 (by decide +kernel) (by decide) ?_
      exact k
theorem b_Mod_feed_77 {E : EN} {d : Nat} {a1 : Int} {a2 : Int} {a3 : Int} {a4 : Int} {a5 : Int} {a6 : Int} {o7 : Option AV} {s0 : Int} {σ : Mem} {K : Int → Mem → Prop}  (k : (0 ≤ σ 115 5 ∧ σ 115 5 < 900) ∧ Z E y_Mod_feed d 24 [some (vr 115), some (vi a1), some (vi a2), some (vi a3), some (vi a4), some (vi a5), some (vi (w32 (a6 + 1))), some (vi s0)] [] (up (up σ 118 (σ 115 5) (ian (isr s0 (w32 (24 - (w32 (8 * (Int.tmod a6 4)))))) 255)) 115 5 (w32 ((σ 115 5) + 1))) (qi K)) :
    Z E y_Mod_feed d 77 [some (vr 115), some (vi a1), some (vi a2), some (vi a3), some (vi a4), some (vi a5), some (vi a6), o7] [vi s0] σ (qi K) := by
  refine z_istore (pc := 77) (i := 7) [some (vr 115), some (vi a1), some (vi a2), some (vi a3), some (vi a4), some (vi a5), some (vi a6), some (vi s0)] (by decide +kernel) (Nat.le_of_ble_eq_true rfl) rfl ?_
  refine z_aload_n (pc := 79) (q := 0) (by decide +kernel) rfl ?_
  refine z_getR (pc := 80) 118 fl_Mod_21 rfl rfl rfl (by decide +kernel) ?_
  refine z_aload_n (pc := 83) (q := 0) (by decide +kernel) rfl ?_
  refine z_getI (pc := 84) 5 fl_Mod_74 rfl (by decide) rfl (by decide +kernel) ?_
  refine z_iload (pc := 87) (i := 7) (by decide +kernel) rfl ?_
  refine z_bipush (pc := 89) (n := 24) (by decide +kernel) (by decide) ⟨by decide, by decide⟩ ?_
  refine z_bipush (pc := 91) (n := 8) (by decide +kernel) (by decide) ⟨by decide, by decide⟩ ?_
  refine z_iload (pc := 93) (i := 6) (by decide +kernel) rfl ?_
  refine z_iconst (pc := 95) (n := 4) (by decide +kernel) ⟨by decide, by decide⟩ ?_
  refine z_irem (pc := 96) (by decide +kernel) (by decide) ?_
  refine z_imul (pc := 97) (by decide +kernel) ?_
  refine z_isub (pc := 98) (by decide +kernel) ?_
  refine z_ishr (pc := 99) (by decide +kernel) ?_
  refine z_sipush (pc := 100) (n := 255) (by decide +kernel) (by decide) ⟨by decide, by decide⟩ ?_
  refine z_iand (pc := 103) (by decide +kernel) ?_
  have hb1 := k.1
  have k := k.2
  refine z_iast (pc := 104) rfl hb1 (by decide +kernel) ?_
  refine z_aload_n (pc := 105) (q := 0) (by decide +kernel) rfl ?_
  refine z_dup (pc := 106) (by decide +kernel) rfl ?_
  refine z_getI (pc := 107) 5 fl_Mod_74 rfl (by decide) rfl (by decide +kernel) ?_
  refine z_topI (up_nc (by decide)) ?_
  refine z_iconst (pc := 110) (n := 1) (by decide +kernel) ⟨by decide, by decide⟩ ?_
  refine z_iadd (pc := 111) (by decide +kernel) ?_
  refine z_putI (pc := 112) 5 fp_Mod_74 rfl rfl rfl (by decide +kernel) ?_
  refine z_iinc (pc := 115) (i := 6) (n := 1) [some (vr 115), some (vi a1), some (vi a2), some (vi a3), some (vi a4), some (vi a5), some (vi (w32 (a6 + 1))), some (vi s0)] (by decide +kernel) rfl rfl ?_
  refine z_goto (pc := 118) (off := -94) 24 (by decide +kernel) (by decide) ?_
  exact k
theorem b_Mod_see_0 {E : EN} {d : Nat} {a1 : Int} {σ : Mem} {K : Int → Mem → Prop}  (k : (σ 115 8 ≤ a1 → K (-1) σ) ∧ (a1 < σ 115 8 → (0 ≤ a1 ∧ a1 < 900) ∧ K (σ 118 a1) σ)) :
    Z E y_Mod_see d 0 [some (vr 115), some (vi a1)] [] σ (qi K) := by
  refine z_iload_n (pc := 0) (q := 1) (by decide +kernel) rfl ?_
  refine z_aload_n (pc := 1) (q := 0) (by decide +kernel) rfl ?_
  refine z_getI (pc := 2) 8 fl_Mod_77 rfl (by decide) rfl (by decide +kernel) ?_
  refine z_icmp_ge (pc := 5) (off := 12) 17 (by decide +kernel) (by decide) ⟨fun hc => ?_, fun hc => ?_⟩
  · have k := k.1 hc
    refine z_iconst (pc := 17) (n := -1) (by decide +kernel) ⟨by decide, by decide⟩ ?_
    exact z_iret (pc := 18) (by decide +kernel) rfl k
  · have k := k.2 hc
    refine z_aload_n (pc := 8) (q := 0) (by decide +kernel) rfl ?_
    refine z_getR (pc := 9) 118 fl_Mod_21 rfl rfl rfl (by decide +kernel) ?_
    refine z_iload_n (pc := 12) (q := 1) (by decide +kernel) rfl ?_
    have hb1 := k.1
    have k := k.2
    refine z_iald (pc := 13) rfl hb1 (by decide +kernel) ?_
    refine z_goto (pc := 14) (off := 4) 18 (by decide +kernel) (by decide) ?_
    exact z_iret (pc := 18) (by decide +kernel) rfl k
theorem b_Mod_isSmall_0 {E : EN} {d : Nat} {a0 : Int} {σ : Mem} {K : Int → Mem → Prop}  (k : (a0 < 97 → K 0 σ) ∧ (97 ≤ a0 → (122 < a0 → K 0 σ) ∧ (a0 ≤ 122 → K 1 σ))) :
    Z E y_Mod_isSmall d 0 [some (vi a0)] [] σ (qi K) := by
  refine z_iload_n (pc := 0) (q := 0) (by decide +kernel) rfl ?_
  refine z_bipush (pc := 1) (n := 97) (by decide +kernel) (by decide) ⟨by decide, by decide⟩ ?_
  refine z_icmp_lt (pc := 3) (off := 13) 16 (by decide +kernel) (by decide) ⟨fun hc => ?_, fun hc => ?_⟩
  · have k := k.1 hc
    refine z_iconst (pc := 16) (n := 0) (by decide +kernel) ⟨by decide, by decide⟩ ?_
    exact z_zret (pc := 17) (by decide +kernel) rfl ⟨by decide, k⟩
  · have k := k.2 hc
    refine z_iload_n (pc := 6) (q := 0) (by decide +kernel) rfl ?_
    refine z_bipush (pc := 7) (n := 122) (by decide +kernel) (by decide) ⟨by decide, by decide⟩ ?_
    refine z_icmp_gt (pc := 9) (off := 7) 16 (by decide +kernel) (by decide) ⟨fun hc => ?_, fun hc => ?_⟩
    · have k := k.1 hc
      refine z_iconst (pc := 16) (n := 0) (by decide +kernel) ⟨by decide, by decide⟩ ?_
      exact z_zret (pc := 17) (by decide +kernel) rfl ⟨by decide, k⟩
    · have k := k.2 hc
      refine z_iconst (pc := 12) (n := 1) (by decide +kernel) ⟨by decide, by decide⟩ ?_
      refine z_goto (pc := 13) (off := 4) 17 (by decide +kernel) (by decide) ?_
      exact z_zret (pc := 17) (by decide +kernel) rfl ⟨by decide, k⟩
theorem b_Mod_isDigit_0 {E : EN} {d : Nat} {a0 : Int} {σ : Mem} {K : Int → Mem → Prop}  (k : (a0 < 48 → K 0 σ) ∧ (48 ≤ a0 → (57 < a0 → K 0 σ) ∧ (a0 ≤ 57 → K 1 σ))) :
    Z E y_Mod_isDigit d 0 [some (vi a0)] [] σ (qi K) := by
  refine z_iload_n (pc := 0) (q := 0) (by decide +kernel) rfl ?_
  refine z_bipush (pc := 1) (n := 48) (by decide +kernel) (by decide) ⟨by decide, by decide⟩ ?_
  refine z_icmp_lt (pc := 3) (off := 13) 16 (by decide +kernel) (by decide) ⟨fun hc => ?_, fun hc => ?_⟩
  · have k := k.1 hc
    refine z_iconst (pc := 16) (n := 0) (by decide +kernel) ⟨by decide, by decide⟩ ?_
    exact z_zret (pc := 17) (by decide +kernel) rfl ⟨by decide, k⟩
  · have k := k.2 hc
    refine z_iload_n (pc := 6) (q := 0) (by decide +kernel) rfl ?_
    refine z_bipush (pc := 7) (n := 57) (by decide +kernel) (by decide) ⟨by decide, by decide⟩ ?_
    refine z_icmp_gt (pc := 9) (off := 7) 16 (by decide +kernel) (by decide) ⟨fun hc => ?_, fun hc => ?_⟩
    · have k := k.1 hc
      refine z_iconst (pc := 16) (n := 0) (by decide +kernel) ⟨by decide, by decide⟩ ?_
      exact z_zret (pc := 17) (by decide +kernel) rfl ⟨by decide, k⟩
    · have k := k.2 hc
      refine z_iconst (pc := 12) (n := 1) (by decide +kernel) ⟨by decide, by decide⟩ ?_
      refine z_goto (pc := 13) (off := 4) 17 (by decide +kernel) (by decide) ?_
      exact z_zret (pc := 17) (by decide +kernel) rfl ⟨by decide, k⟩
theorem b_Mod_keyOf_0 {E : EN} {d : Nat}  {σ : Mem} {K : Int → Mem → Prop}  (k : Z E y_Mod_keyOf d 4 [some (vr 115), some (vi 0), some (vi 1), none] [] σ (qi K)) :
    Z E y_Mod_keyOf d 0 [some (vr 115), none, none, none] [] σ (qi K) := by
  refine z_iconst (pc := 0) (n := 0) (by decide +kernel) ⟨by decide, by decide⟩ ?_
  refine z_istore_n (pc := 1) (q := 1) [some (vr 115), some (vi 0), none, none] (by decide +kernel) (Nat.le_of_ble_eq_true rfl) rfl ?_
  refine z_iconst (pc := 2) (n := 1) (by decide +kernel) ⟨by decide, by decide⟩ ?_
  refine z_istore_n (pc := 3) (q := 2) [some (vr 115), some (vi 0), some (vi 1), none] (by decide +kernel) (Nat.le_of_ble_eq_true rfl) rfl ?_
  exact k
theorem b_Mod_keyOf_4 {E : EN} {d : Nat} {a1 : Int} {a2 : Int} {o3 : Option AV} {σ : Mem} {K : Int → Mem → Prop}  (hd : 1 ≤ d) (k : CI E y_Str_length (d - 1) [vr (nC + 2 * 19)] σ (fun x1 τ1 => (x1 ≤ a2 → K 22 τ1) ∧ (a2 < x1 → Z E y_Mod_keyOf d 15 [some (vr 115), some (vi a1), some (vi a2), some (vi 0)] [] τ1 (qi K)))) :
    Z E y_Mod_keyOf d 4 [some (vr 115), some (vi a1), some (vi a2), o3] [] σ (qi K) := by
  refine z_iload_n (pc := 4) (q := 2) (by decide +kernel) rfl ?_
  refine z_ldcs (pc := 5) (index := 80) 19 rfl (by decide +kernel) ?_
  refine z_callstr (pc := 7) (as := []) ml_Mod_82 (by decide) rfl rfl rfl (Nat.le_of_ble_eq_true rfl) (dc := d - 1) (by omega) (by decide +kernel) (CI.z (CI.mono (fun x1 τ1 k => ?_) k))
  refine z_icmp_ge (pc := 10) (off := 113) 123 (by decide +kernel) (by decide) ⟨fun hc => ?_, fun hc => ?_⟩
  · have k := k.1 hc
    refine z_bipush (pc := 123) (n := 22) (by decide +kernel) (by decide) ⟨by decide, by decide⟩ ?_
    exact z_iret (pc := 125) (by decide +kernel) rfl k
  · have k := k.2 hc
    refine z_iconst (pc := 13) (n := 0) (by decide +kernel) ⟨by decide, by decide⟩ ?_
    refine z_istore_n (pc := 14) (q := 3) [some (vr 115), some (vi a1), some (vi a2), some (vi 0)] (by decide +kernel) (Nat.le_of_ble_eq_true rfl) rfl ?_
    exact k
theorem b_Mod_keyOf_15 {E : EN} {d : Nat} {a1 : Int} {a2 : Int} {a3 : Int} {σ : Mem} {K : Int → Mem → Prop}  (hd : 1 ≤ d) (k : CI E y_Str_charAt (d - 1) [vr (nC + 2 * 19), vi (w32 (a2 + a3))] σ (fun x1 τ1 => (x1 = 32 → Z E y_Mod_keyOf d 69 [some (vr 115), some (vi a1), some (vi a2), some (vi a3)] [] τ1 (qi K)) ∧ (x1 ≠ 32 → (τ1 115 7 ≤ w32 ((τ1 115 6) + a3) → Z E y_Mod_keyOf d 69 [some (vr 115), some (vi a1), some (vi a2), some (vi a3)] [] τ1 (qi K)) ∧ (w32 ((τ1 115 6) + a3) < τ1 115 7 → (0 ≤ w32 ((τ1 115 6) + a3) ∧ w32 ((τ1 115 6) + a3) < 900) ∧ CI E y_Str_charAt (d - 1) [vr (nC + 2 * 19), vi (w32 (a2 + a3))] τ1 (fun x2 τ2 => (τ1 118 (w32 ((τ1 115 6) + a3)) ≠ x2 → Z E y_Mod_keyOf d 69 [some (vr 115), some (vi a1), some (vi a2), some (vi a3)] [] τ2 (qi K)) ∧ (τ1 118 (w32 ((τ1 115 6) + a3)) = x2 → Z E y_Mod_keyOf d 15 [some (vr 115), some (vi a1), some (vi a2), some (vi (w32 (a3 + 1)))] [] τ2 (qi K))))))) :
    Z E y_Mod_keyOf d 15 [some (vr 115), some (vi a1), some (vi a2), some (vi a3)] [] σ (qi K) := by
  refine z_ldcs (pc := 15) (index := 80) 19 rfl (by decide +kernel) ?_
  refine z_iload_n (pc := 17) (q := 2) (by decide +kernel) rfl ?_
  refine z_iload_n (pc := 18) (q := 3) (by decide +kernel) rfl ?_
  refine z_iadd (pc := 19) (by decide +kernel) ?_
  refine z_callstr (pc := 20) (as := [vi (w32 (a2 + a3))]) ml_Mod_88 (by decide) rfl rfl rfl (Nat.le_of_ble_eq_true rfl) (dc := d - 1) (by omega) (by decide +kernel) (CI.z (CI.mono (fun x1 τ1 k => ?_) k))
  refine z_bipush (pc := 23) (n := 32) (by decide +kernel) (by decide) ⟨by decide, by decide⟩ ?_
  refine z_icmp_eq (pc := 25) (off := 44) 69 (by decide +kernel) (by decide) ⟨fun hc => ?_, fun hc => ?_⟩
  · have k := k.1 hc
    exact k
  · have k := k.2 hc
    refine z_aload_n (pc := 28) (q := 0) (by decide +kernel) rfl ?_
    refine z_getI (pc := 29) 6 fl_Mod_92 rfl (by decide) rfl (by decide +kernel) ?_
    refine z_iload_n (pc := 32) (q := 3) (by decide +kernel) rfl ?_
    refine z_iadd (pc := 33) (by decide +kernel) ?_
    refine z_aload_n (pc := 34) (q := 0) (by decide +kernel) rfl ?_
    refine z_getI (pc := 35) 7 fl_Mod_95 rfl (by decide) rfl (by decide +kernel) ?_
    refine z_icmp_ge (pc := 38) (off := 31) 69 (by decide +kernel) (by decide) ⟨fun hc => ?_, fun hc => ?_⟩
    · have k := k.1 hc
      exact k
    · have k := k.2 hc
      refine z_aload_n (pc := 41) (q := 0) (by decide +kernel) rfl ?_
      refine z_getR (pc := 42) 118 fl_Mod_21 rfl rfl rfl (by decide +kernel) ?_
      refine z_aload_n (pc := 45) (q := 0) (by decide +kernel) rfl ?_
      refine z_getI (pc := 46) 6 fl_Mod_92 rfl (by decide) rfl (by decide +kernel) ?_
      refine z_iload_n (pc := 49) (q := 3) (by decide +kernel) rfl ?_
      refine z_iadd (pc := 50) (by decide +kernel) ?_
      have hb1 := k.1
      have k := k.2
      refine z_iald (pc := 51) rfl hb1 (by decide +kernel) ?_
      refine z_ldcs (pc := 52) (index := 80) 19 rfl (by decide +kernel) ?_
      refine z_iload_n (pc := 54) (q := 2) (by decide +kernel) rfl ?_
      refine z_iload_n (pc := 55) (q := 3) (by decide +kernel) rfl ?_
      refine z_iadd (pc := 56) (by decide +kernel) ?_
      refine z_callstr (pc := 57) (as := [vi (w32 (a2 + a3))]) ml_Mod_88 (by decide) rfl rfl rfl (Nat.le_of_ble_eq_true rfl) (dc := d - 1) (by omega) (by decide +kernel) (CI.z (CI.mono (fun x2 τ2 k => ?_) k))
      refine z_icmp_ne (pc := 60) (off := 9) 69 (by decide +kernel) (by decide) ⟨fun hc => ?_, fun hc => ?_⟩
      · have k := k.1 hc
        exact k
      · have k := k.2 hc
        refine z_iinc (pc := 63) (i := 3) (n := 1) [some (vr 115), some (vi a1), some (vi a2), some (vi (w32 (a3 + 1)))] (by decide +kernel) rfl rfl ?_
        refine z_goto (pc := 66) (off := -51) 15 (by decide +kernel) (by decide) ?_
        exact k
theorem b_Mod_keyOf_69 {E : EN} {d : Nat} {a1 : Int} {a2 : Int} {a3 : Int} {σ : Mem} {K : Int → Mem → Prop}  (hd : 1 ≤ d) (k : CI E y_Str_charAt (d - 1) [vr (nC + 2 * 19), vi (w32 (a2 + a3))] σ (fun x1 τ1 => (x1 ≠ 32 → Z E y_Mod_keyOf d 97 [some (vr 115), some (vi a1), some (vi a2), some (vi a3)] [] τ1 (qi K)) ∧ (x1 = 32 → (w32 ((τ1 115 6) + a3) ≠ τ1 115 7 → Z E y_Mod_keyOf d 97 [some (vr 115), some (vi a1), some (vi a2), some (vi a3)] [] τ1 (qi K)) ∧ (w32 ((τ1 115 6) + a3) = τ1 115 7 → K a1 τ1)))) :
    Z E y_Mod_keyOf d 69 [some (vr 115), some (vi a1), some (vi a2), some (vi a3)] [] σ (qi K) := by
  refine z_ldcs (pc := 69) (index := 80) 19 rfl (by decide +kernel) ?_
  refine z_iload_n (pc := 71) (q := 2) (by decide +kernel) rfl ?_
  refine z_iload_n (pc := 72) (q := 3) (by decide +kernel) rfl ?_
  refine z_iadd (pc := 73) (by decide +kernel) ?_
  refine z_callstr (pc := 74) (as := [vi (w32 (a2 + a3))]) ml_Mod_88 (by decide) rfl rfl rfl (Nat.le_of_ble_eq_true rfl) (dc := d - 1) (by omega) (by decide +kernel) (CI.z (CI.mono (fun x1 τ1 k => ?_) k))
  refine z_bipush (pc := 77) (n := 32) (by decide +kernel) (by decide) ⟨by decide, by decide⟩ ?_
  refine z_icmp_ne (pc := 79) (off := 18) 97 (by decide +kernel) (by decide) ⟨fun hc => ?_, fun hc => ?_⟩
  · have k := k.1 hc
    exact k
  · have k := k.2 hc
    refine z_aload_n (pc := 82) (q := 0) (by decide +kernel) rfl ?_
    refine z_getI (pc := 83) 6 fl_Mod_92 rfl (by decide) rfl (by decide +kernel) ?_
    refine z_iload_n (pc := 86) (q := 3) (by decide +kernel) rfl ?_
    refine z_iadd (pc := 87) (by decide +kernel) ?_
    refine z_aload_n (pc := 88) (q := 0) (by decide +kernel) rfl ?_
    refine z_getI (pc := 89) 7 fl_Mod_95 rfl (by decide) rfl (by decide +kernel) ?_
    refine z_icmp_ne (pc := 92) (off := 5) 97 (by decide +kernel) (by decide) ⟨fun hc => ?_, fun hc => ?_⟩
    · have k := k.1 hc
      exact k
    · have k := k.2 hc
      refine z_iload_n (pc := 95) (q := 1) (by decide +kernel) rfl ?_
      exact z_iret (pc := 96) (by decide +kernel) rfl k
theorem b_Mod_keyOf_97 {E : EN} {d : Nat} {a1 : Int} {a2 : Int} {o3 : Option AV} {σ : Mem} {K : Int → Mem → Prop}  (hd : 1 ≤ d) (k : CI E y_Str_charAt (d - 1) [vr (nC + 2 * 19), vi a2] σ (fun x1 τ1 => (x1 = 32 → Z E y_Mod_keyOf d 4 [some (vr 115), some (vi (w32 (a1 + 1))), some (vi (w32 (a2 + 1))), o3] [] τ1 (qi K)) ∧ (x1 ≠ 32 → Z E y_Mod_keyOf d 97 [some (vr 115), some (vi a1), some (vi (w32 (a2 + 1))), o3] [] τ1 (qi K)))) :
    Z E y_Mod_keyOf d 97 [some (vr 115), some (vi a1), some (vi a2), o3] [] σ (qi K) := by
  refine z_ldcs (pc := 97) (index := 80) 19 rfl (by decide +kernel) ?_
  refine z_iload_n (pc := 99) (q := 2) (by decide +kernel) rfl ?_
  refine z_callstr (pc := 100) (as := [vi a2]) ml_Mod_88 (by decide) rfl rfl rfl (Nat.le_of_ble_eq_true rfl) (dc := d - 1) (by omega) (by decide +kernel) (CI.z (CI.mono (fun x1 τ1 k => ?_) k))
  refine z_bipush (pc := 103) (n := 32) (by decide +kernel) (by decide) ⟨by decide, by decide⟩ ?_
  refine z_icmp_eq (pc := 105) (off := 9) 114 (by decide +kernel) (by decide) ⟨fun hc => ?_, fun hc => ?_⟩
  · have k := k.1 hc
    refine z_iinc (pc := 114) (i := 2) (n := 1) [some (vr 115), some (vi a1), some (vi (w32 (a2 + 1))), o3] (by decide +kernel) rfl rfl ?_
    refine z_iinc (pc := 117) (i := 1) (n := 1) [some (vr 115), some (vi (w32 (a1 + 1))), some (vi (w32 (a2 + 1))), o3] (by decide +kernel) rfl rfl ?_
    refine z_goto (pc := 120) (off := -116) 4 (by decide +kernel) (by decide) ?_
    exact k
  · have k := k.2 hc
    refine z_iinc (pc := 108) (i := 2) (n := 1) [some (vr 115), some (vi a1), some (vi (w32 (a2 + 1))), o3] (by decide +kernel) rfl rfl ?_
    refine z_goto (pc := 111) (off := -14) 97 (by decide +kernel) (by decide) ?_
    exact k
theorem b_Mod_next_0 {E : EN} {d : Nat}  {σ : Mem} {K : Mem → Prop}  (k : Z E y_Mod_next d 8 [some (vr 115), none] [] (up σ 115 6 (σ 115 7)) (qv K)) :
    Z E y_Mod_next d 0 [some (vr 115), none] [] σ (qv K) := by
  refine z_aload_n (pc := 0) (q := 0) (by decide +kernel) rfl ?_
  refine z_aload_n (pc := 1) (q := 0) (by decide +kernel) rfl ?_
  refine z_getI (pc := 2) 7 fl_Mod_95 rfl (by decide) rfl (by decide +kernel) ?_
  refine z_putI (pc := 5) 6 fp_Mod_92 rfl rfl rfl (by decide +kernel) ?_
  exact k
theorem b_Mod_next_8 {E : EN} {d : Nat} {o1 : Option AV} {σ : Mem} {K : Mem → Prop}  (hd : 1 ≤ d) (k : CI E y_Mod_see (d - 1) [vr 115, vi (σ 115 6)] σ (fun x1 τ1 => (x1 = 10 → Z E y_Mod_next d 8 [some (vr 115), o1] [] (up τ1 115 6 (w32 ((τ1 115 6) + 1))) (qv K)) ∧ (x1 ≠ 10 → CI E y_Mod_see (d - 1) [vr 115, vi (τ1 115 6)] τ1 (fun x2 τ2 => (x2 ≠ 32 → (τ2 115 6 < τ2 115 8 → CI E y_Mod_see (d - 1) [vr 115, vi (τ2 115 6)] (up τ2 115 7 (τ2 115 6)) (fun x3 τ3 => CI E y_Mod_isSmall (d - 1) [vi x3] τ3 (fun x4 τ4 => (x4 = 0 → CI E y_Mod_see (d - 1) [vr 115, vi (τ4 115 6)] τ4 (fun x5 τ5 => CI E y_Mod_isDigit (d - 1) [vi x5] τ5 (fun x6 τ6 => (x6 = 0 → Z E y_Mod_next d 254 [some (vr 115), some (vi 0)] [] (up (up τ6 115 7 (w32 ((τ6 115 7) + 1))) 115 9 25) (qv K)) ∧ (x6 ≠ 0 → Z E y_Mod_next d 146 [some (vr 115), o1] [] (up τ6 115 10 0) (qv K))))) ∧ (x4 ≠ 0 → Z E y_Mod_next d 89 [some (vr 115), o1] [] τ4 (qv K))))) ∧ (τ2 115 8 ≤ τ2 115 6 → K (up (up τ2 115 7 (τ2 115 6)) 115 9 24))) ∧ (x2 = 32 → Z E y_Mod_next d 8 [some (vr 115), o1] [] (up τ2 115 6 (w32 ((τ2 115 6) + 1))) (qv K)))))) :
    Z E y_Mod_next d 8 [some (vr 115), o1] [] σ (qv K) := by
  refine z_aload_n (pc := 8) (q := 0) (by decide +kernel) rfl ?_
  refine z_aload_n (pc := 9) (q := 0) (by decide +kernel) rfl ?_
  refine z_getI (pc := 10) 6 fl_Mod_92 rfl (by decide) rfl (by decide +kernel) ?_
  refine z_callv (pc := 13) (as := [vi (σ 115 6)]) ml_Mod_98 rfl ⟨rfl, by decide⟩ rfl rfl (Nat.le_of_ble_eq_true rfl) (dc := d - 1) (by omega) (by decide +kernel) (CI.z (CI.mono (fun x1 τ1 k => ?_) k))
  refine z_bipush (pc := 16) (n := 10) (by decide +kernel) (by decide) ⟨by decide, by decide⟩ ?_
  refine z_icmp_eq (pc := 18) (off := 16) 34 (by decide +kernel) (by decide) ⟨fun hc => ?_, fun hc => ?_⟩
  · have k := k.1 hc
    refine z_aload_n (pc := 34) (q := 0) (by decide +kernel) rfl ?_
    refine z_dup (pc := 35) (by decide +kernel) rfl ?_
    refine z_getI (pc := 36) 6 fl_Mod_92 rfl (by decide) rfl (by decide +kernel) ?_
    refine z_iconst (pc := 39) (n := 1) (by decide +kernel) ⟨by decide, by decide⟩ ?_
    refine z_iadd (pc := 40) (by decide +kernel) ?_
    refine z_putI (pc := 41) 6 fp_Mod_92 rfl rfl rfl (by decide +kernel) ?_
    refine z_goto (pc := 44) (off := -36) 8 (by decide +kernel) (by decide) ?_
    exact k
  · have k := k.2 hc
    refine z_aload_n (pc := 21) (q := 0) (by decide +kernel) rfl ?_
    refine z_aload_n (pc := 22) (q := 0) (by decide +kernel) rfl ?_
    refine z_getI (pc := 23) 6 fl_Mod_92 rfl (by decide) rfl (by decide +kernel) ?_
    refine z_callv (pc := 26) (as := [vi (τ1 115 6)]) ml_Mod_98 rfl ⟨rfl, by decide⟩ rfl rfl (Nat.le_of_ble_eq_true rfl) (dc := d - 1) (by omega) (by decide +kernel) (CI.z (CI.mono (fun x2 τ2 k => ?_) k))
    refine z_bipush (pc := 29) (n := 32) (by decide +kernel) (by decide) ⟨by decide, by decide⟩ ?_
    refine z_icmp_ne (pc := 31) (off := 16) 47 (by decide +kernel) (by decide) ⟨fun hc => ?_, fun hc => ?_⟩
    · have k := k.1 hc
      refine z_aload_n (pc := 47) (q := 0) (by decide +kernel) rfl ?_
      refine z_aload_n (pc := 48) (q := 0) (by decide +kernel) rfl ?_
      refine z_getI (pc := 49) 6 fl_Mod_92 rfl (by decide) rfl (by decide +kernel) ?_
      refine z_putI (pc := 52) 7 fp_Mod_95 rfl rfl rfl (by decide +kernel) ?_
      refine z_aload_n (pc := 55) (q := 0) (by decide +kernel) rfl ?_
      refine z_getI (pc := 56) 6 fl_Mod_92 rfl (by decide) rfl (by decide +kernel) ?_
      refine z_topI (up_nk (by decide)) ?_
      refine z_aload_n (pc := 59) (q := 0) (by decide +kernel) rfl ?_
      refine z_getI (pc := 60) 8 fl_Mod_77 rfl (by decide) rfl (by decide +kernel) ?_
      refine z_topI (up_nk (by decide)) ?_
      refine z_icmp_lt (pc := 63) (off := 12) 75 (by decide +kernel) (by decide) ⟨fun hc => ?_, fun hc => ?_⟩
      · have k := k.1 hc
        refine z_aload_n (pc := 75) (q := 0) (by decide +kernel) rfl ?_
        refine z_aload_n (pc := 76) (q := 0) (by decide +kernel) rfl ?_
        refine z_getI (pc := 77) 6 fl_Mod_92 rfl (by decide) rfl (by decide +kernel) ?_
        refine z_topI (up_nk (by decide)) ?_
        refine z_callv (pc := 80) (as := [vi (τ2 115 6)]) ml_Mod_98 rfl ⟨rfl, by decide⟩ rfl rfl (Nat.le_of_ble_eq_true rfl) (dc := d - 1) (by omega) (by decide +kernel) (CI.z (CI.mono (fun x3 τ3 k => ?_) k))
        refine z_calls (pc := 83) (as := [vi x3]) ml_Mod_105 rfl rfl (Nat.le_of_ble_eq_true rfl) (dc := d - 1) (by omega) (by decide +kernel) (CI.z (CI.mono (fun x4 τ4 k => ?_) k))
        refine z_if_eq (pc := 86) (off := 41) 127 (by decide +kernel) (by decide) ⟨fun hc => ?_, fun hc => ?_⟩
        · have k := k.1 hc
          refine z_aload_n (pc := 127) (q := 0) (by decide +kernel) rfl ?_
          refine z_aload_n (pc := 128) (q := 0) (by decide +kernel) rfl ?_
          refine z_getI (pc := 129) 6 fl_Mod_92 rfl (by decide) rfl (by decide +kernel) ?_
          refine z_callv (pc := 132) (as := [vi (τ4 115 6)]) ml_Mod_98 rfl ⟨rfl, by decide⟩ rfl rfl (Nat.le_of_ble_eq_true rfl) (dc := d - 1) (by omega) (by decide +kernel) (CI.z (CI.mono (fun x5 τ5 k => ?_) k))
          refine z_calls (pc := 135) (as := [vi x5]) ml_Mod_112 rfl rfl (Nat.le_of_ble_eq_true rfl) (dc := d - 1) (by omega) (by decide +kernel) (CI.z (CI.mono (fun x6 τ6 k => ?_) k))
          refine z_if_eq (pc := 138) (off := 98) 236 (by decide +kernel) (by decide) ⟨fun hc => ?_, fun hc => ?_⟩
          · have k := k.1 hc
            refine z_aload_n (pc := 236) (q := 0) (by decide +kernel) rfl ?_
            refine z_dup (pc := 237) (by decide +kernel) rfl ?_
            refine z_getI (pc := 238) 7 fl_Mod_95 rfl (by decide) rfl (by decide +kernel) ?_
            refine z_iconst (pc := 241) (n := 1) (by decide +kernel) ⟨by decide, by decide⟩ ?_
            refine z_iadd (pc := 242) (by decide +kernel) ?_
            refine z_putI (pc := 243) 7 fp_Mod_95 rfl rfl rfl (by decide +kernel) ?_
            refine z_aload_n (pc := 246) (q := 0) (by decide +kernel) rfl ?_
            refine z_bipush (pc := 247) (n := 25) (by decide +kernel) (by decide) ⟨by decide, by decide⟩ ?_
            refine z_putI (pc := 249) 9 fp_Mod_102 rfl rfl rfl (by decide +kernel) ?_
            refine z_iconst (pc := 252) (n := 0) (by decide +kernel) ⟨by decide, by decide⟩ ?_
            refine z_istore_n (pc := 253) (q := 1) [some (vr 115), some (vi 0)] (by decide +kernel) (Nat.le_of_ble_eq_true rfl) rfl ?_
            exact k
          · have k := k.2 hc
            refine z_aload_n (pc := 141) (q := 0) (by decide +kernel) rfl ?_
            refine z_iconst (pc := 142) (n := 0) (by decide +kernel) ⟨by decide, by decide⟩ ?_
            refine z_putI (pc := 143) 10 fp_Mod_115 rfl rfl rfl (by decide +kernel) ?_
            exact k
        · have k := k.2 hc
          exact k
      · have k := k.2 hc
        refine z_aload_n (pc := 66) (q := 0) (by decide +kernel) rfl ?_
        refine z_bipush (pc := 67) (n := 24) (by decide +kernel) (by decide) ⟨by decide, by decide⟩ ?_
        refine z_putI (pc := 69) 9 fp_Mod_102 rfl rfl rfl (by decide +kernel) ?_
        refine z_goto (pc := 72) (off := 222) 294 (by decide +kernel) (by decide) ?_
        exact z_vret (pc := 294) (by decide +kernel) rfl k
    · have k := k.2 hc
      refine z_aload_n (pc := 34) (q := 0) (by decide +kernel) rfl ?_
      refine z_dup (pc := 35) (by decide +kernel) rfl ?_
      refine z_getI (pc := 36) 6 fl_Mod_92 rfl (by decide) rfl (by decide +kernel) ?_
      refine z_iconst (pc := 39) (n := 1) (by decide +kernel) ⟨by decide, by decide⟩ ?_
      refine z_iadd (pc := 40) (by decide +kernel) ?_
      refine z_putI (pc := 41) 6 fp_Mod_92 rfl rfl rfl (by decide +kernel) ?_
      refine z_goto (pc := 44) (off := -36) 8 (by decide +kernel) (by decide) ?_
      exact k
theorem b_Mod_next_254 {E : EN} {d : Nat} {a1 : Int} {σ : Mem} {K : Mem → Prop}  (hd : 1 ≤ d) (k : CI E y_Str_length (d - 1) [vr (nC + 2 * 20)] σ (fun x1 τ1 => (x1 ≤ a1 → K τ1) ∧ (a1 < x1 → CI E y_Mod_see (d - 1) [vr 115, vi (τ1 115 6)] τ1 (fun x2 τ2 => CI E y_Str_charAt (d - 1) [vr (nC + 2 * 20), vi a1] τ2 (fun x3 τ3 => (x2 ≠ x3 → Z E y_Mod_next d 254 [some (vr 115), some (vi (w32 (a1 + 1)))] [] τ3 (qv K)) ∧ (x2 = x3 → Z E y_Mod_next d 254 [some (vr 115), some (vi (w32 (a1 + 1)))] [] (up τ3 115 9 (w32 (30 + a1))) (qv K))))))) :
    Z E y_Mod_next d 254 [some (vr 115), some (vi a1)] [] σ (qv K) := by
  refine z_iload_n (pc := 254) (q := 1) (by decide +kernel) rfl ?_
  refine z_ldcs (pc := 255) (index := 118) 20 rfl (by decide +kernel) ?_
  refine z_callstr (pc := 257) (as := []) ml_Mod_82 (by decide) rfl rfl rfl (Nat.le_of_ble_eq_true rfl) (dc := d - 1) (by omega) (by decide +kernel) (CI.z (CI.mono (fun x1 τ1 k => ?_) k))
  refine z_icmp_ge (pc := 260) (off := 34) 294 (by decide +kernel) (by decide) ⟨fun hc => ?_, fun hc => ?_⟩
  · have k := k.1 hc
    exact z_vret (pc := 294) (by decide +kernel) rfl k
  · have k := k.2 hc
    refine z_aload_n (pc := 263) (q := 0) (by decide +kernel) rfl ?_
    refine z_aload_n (pc := 264) (q := 0) (by decide +kernel) rfl ?_
    refine z_getI (pc := 265) 6 fl_Mod_92 rfl (by decide) rfl (by decide +kernel) ?_
    refine z_callv (pc := 268) (as := [vi (τ1 115 6)]) ml_Mod_98 rfl ⟨rfl, by decide⟩ rfl rfl (Nat.le_of_ble_eq_true rfl) (dc := d - 1) (by omega) (by decide +kernel) (CI.z (CI.mono (fun x2 τ2 k => ?_) k))
    refine z_ldcs (pc := 271) (index := 118) 20 rfl (by decide +kernel) ?_
    refine z_iload_n (pc := 273) (q := 1) (by decide +kernel) rfl ?_
    refine z_callstr (pc := 274) (as := [vi a1]) ml_Mod_88 (by decide) rfl rfl rfl (Nat.le_of_ble_eq_true rfl) (dc := d - 1) (by omega) (by decide +kernel) (CI.z (CI.mono (fun x3 τ3 k => ?_) k))
    refine z_icmp_ne (pc := 277) (off := 11) 288 (by decide +kernel) (by decide) ⟨fun hc => ?_, fun hc => ?_⟩
    · have k := k.1 hc
      refine z_iinc (pc := 288) (i := 1) (n := 1) [some (vr 115), some (vi (w32 (a1 + 1)))] (by decide +kernel) rfl rfl ?_
      refine z_goto (pc := 291) (off := -37) 254 (by decide +kernel) (by decide) ?_
      exact k
    · have k := k.2 hc
      refine z_aload_n (pc := 280) (q := 0) (by decide +kernel) rfl ?_
      refine z_bipush (pc := 281) (n := 30) (by decide +kernel) (by decide) ⟨by decide, by decide⟩ ?_
      refine z_iload_n (pc := 283) (q := 1) (by decide +kernel) rfl ?_
      refine z_iadd (pc := 284) (by decide +kernel) ?_
      refine z_putI (pc := 285) 9 fp_Mod_102 rfl rfl rfl (by decide +kernel) ?_
      refine z_iinc (pc := 288) (i := 1) (n := 1) [some (vr 115), some (vi (w32 (a1 + 1)))] (by decide +kernel) rfl rfl ?_
      refine z_goto (pc := 291) (off := -37) 254 (by decide +kernel) (by decide) ?_
      exact k
theorem b_Mod_next_146 {E : EN} {d : Nat} {o1 : Option AV} {σ : Mem} {K : Mem → Prop}  (hd : 1 ≤ d) (k : CI E y_Mod_see (d - 1) [vr 115, vi (σ 115 7)] σ (fun x1 τ1 => CI E y_Mod_isDigit (d - 1) [vi x1] τ1 (fun x2 τ2 => (x2 = 0 → (w32 ((τ2 115 7) - (τ2 115 6)) ≤ 3 → K (up τ2 115 9 23)) ∧ (3 < w32 ((τ2 115 7) - (τ2 115 6)) → K (up τ2 115 9 25))) ∧ (x2 ≠ 0 → (3 ≤ w32 ((τ2 115 7) - (τ2 115 6)) → Z E y_Mod_next d 146 [some (vr 115), o1] [] (up τ2 115 7 (w32 ((τ2 115 7) + 1))) (qv K)) ∧ (w32 ((τ2 115 7) - (τ2 115 6)) < 3 → CI E y_Mod_see (d - 1) [vr 115, vi (τ2 115 7)] τ2 (fun x3 τ3 => Z E y_Mod_next d 146 [some (vr 115), o1] [] (up (up τ3 115 10 (w32 ((w32 ((w32 (10 * (τ2 115 10))) + x3)) - 48))) 115 7 (w32 ((τ3 115 7) + 1))) (qv K))))))) :
    Z E y_Mod_next d 146 [some (vr 115), o1] [] σ (qv K) := by
  refine z_aload_n (pc := 146) (q := 0) (by decide +kernel) rfl ?_
  refine z_aload_n (pc := 147) (q := 0) (by decide +kernel) rfl ?_
  refine z_getI (pc := 148) 7 fl_Mod_95 rfl (by decide) rfl (by decide +kernel) ?_
  refine z_callv (pc := 151) (as := [vi (σ 115 7)]) ml_Mod_98 rfl ⟨rfl, by decide⟩ rfl rfl (Nat.le_of_ble_eq_true rfl) (dc := d - 1) (by omega) (by decide +kernel) (CI.z (CI.mono (fun x1 τ1 k => ?_) k))
  refine z_calls (pc := 154) (as := [vi x1]) ml_Mod_112 rfl rfl (Nat.le_of_ble_eq_true rfl) (dc := d - 1) (by omega) (by decide +kernel) (CI.z (CI.mono (fun x2 τ2 k => ?_) k))
  refine z_if_eq (pc := 157) (off := 52) 209 (by decide +kernel) (by decide) ⟨fun hc => ?_, fun hc => ?_⟩
  · have k := k.1 hc
    refine z_aload_n (pc := 209) (q := 0) (by decide +kernel) rfl ?_
    refine z_aload_n (pc := 210) (q := 0) (by decide +kernel) rfl ?_
    refine z_getI (pc := 211) 7 fl_Mod_95 rfl (by decide) rfl (by decide +kernel) ?_
    refine z_aload_n (pc := 214) (q := 0) (by decide +kernel) rfl ?_
    refine z_getI (pc := 215) 6 fl_Mod_92 rfl (by decide) rfl (by decide +kernel) ?_
    refine z_isub (pc := 218) (by decide +kernel) ?_
    refine z_iconst (pc := 219) (n := 3) (by decide +kernel) ⟨by decide, by decide⟩ ?_
    refine z_icmp_le (pc := 220) (off := 8) 228 (by decide +kernel) (by decide) ⟨fun hc => ?_, fun hc => ?_⟩
    · have k := k.1 hc
      refine z_bipush (pc := 228) (n := 23) (by decide +kernel) (by decide) ⟨by decide, by decide⟩ ?_
      refine z_putI (pc := 230) 9 fp_Mod_102 rfl rfl rfl (by decide +kernel) ?_
      refine z_goto (pc := 233) (off := 61) 294 (by decide +kernel) (by decide) ?_
      exact z_vret (pc := 294) (by decide +kernel) rfl k
    · have k := k.2 hc
      refine z_bipush (pc := 223) (n := 25) (by decide +kernel) (by decide) ⟨by decide, by decide⟩ ?_
      refine z_goto (pc := 225) (off := 5) 230 (by decide +kernel) (by decide) ?_
      refine z_putI (pc := 230) 9 fp_Mod_102 rfl rfl rfl (by decide +kernel) ?_
      refine z_goto (pc := 233) (off := 61) 294 (by decide +kernel) (by decide) ?_
      exact z_vret (pc := 294) (by decide +kernel) rfl k
  · have k := k.2 hc
    refine z_aload_n (pc := 160) (q := 0) (by decide +kernel) rfl ?_
    refine z_getI (pc := 161) 7 fl_Mod_95 rfl (by decide) rfl (by decide +kernel) ?_
    refine z_aload_n (pc := 164) (q := 0) (by decide +kernel) rfl ?_
    refine z_getI (pc := 165) 6 fl_Mod_92 rfl (by decide) rfl (by decide +kernel) ?_
    refine z_isub (pc := 168) (by decide +kernel) ?_
    refine z_iconst (pc := 169) (n := 3) (by decide +kernel) ⟨by decide, by decide⟩ ?_
    refine z_icmp_ge (pc := 170) (off := 26) 196 (by decide +kernel) (by decide) ⟨fun hc => ?_, fun hc => ?_⟩
    · have k := k.1 hc
      refine z_aload_n (pc := 196) (q := 0) (by decide +kernel) rfl ?_
      refine z_dup (pc := 197) (by decide +kernel) rfl ?_
      refine z_getI (pc := 198) 7 fl_Mod_95 rfl (by decide) rfl (by decide +kernel) ?_
      refine z_iconst (pc := 201) (n := 1) (by decide +kernel) ⟨by decide, by decide⟩ ?_
      refine z_iadd (pc := 202) (by decide +kernel) ?_
      refine z_putI (pc := 203) 7 fp_Mod_95 rfl rfl rfl (by decide +kernel) ?_
      refine z_goto (pc := 206) (off := -60) 146 (by decide +kernel) (by decide) ?_
      exact k
    · have k := k.2 hc
      refine z_aload_n (pc := 173) (q := 0) (by decide +kernel) rfl ?_
      refine z_bipush (pc := 174) (n := 10) (by decide +kernel) (by decide) ⟨by decide, by decide⟩ ?_
      refine z_aload_n (pc := 176) (q := 0) (by decide +kernel) rfl ?_
      refine z_getI (pc := 177) 10 fl_Mod_115 rfl (by decide) rfl (by decide +kernel) ?_
      refine z_imul (pc := 180) (by decide +kernel) ?_
      refine z_aload_n (pc := 181) (q := 0) (by decide +kernel) rfl ?_
      refine z_aload_n (pc := 182) (q := 0) (by decide +kernel) rfl ?_
      refine z_getI (pc := 183) 7 fl_Mod_95 rfl (by decide) rfl (by decide +kernel) ?_
      refine z_callv (pc := 186) (as := [vi (τ2 115 7)]) ml_Mod_98 rfl ⟨rfl, by decide⟩ rfl rfl (Nat.le_of_ble_eq_true rfl) (dc := d - 1) (by omega) (by decide +kernel) (CI.z (CI.mono (fun x3 τ3 k => ?_) k))
      refine z_iadd (pc := 189) (by decide +kernel) ?_
      refine z_bipush (pc := 190) (n := 48) (by decide +kernel) (by decide) ⟨by decide, by decide⟩ ?_
      refine z_isub (pc := 192) (by decide +kernel) ?_
      refine z_putI (pc := 193) 10 fp_Mod_115 rfl rfl rfl (by decide +kernel) ?_
      refine z_aload_n (pc := 196) (q := 0) (by decide +kernel) rfl ?_
      refine z_dup (pc := 197) (by decide +kernel) rfl ?_
      refine z_getI (pc := 198) 7 fl_Mod_95 rfl (by decide) rfl (by decide +kernel) ?_
      refine z_topI (up_nk (by decide)) ?_
      refine z_iconst (pc := 201) (n := 1) (by decide +kernel) ⟨by decide, by decide⟩ ?_
      refine z_iadd (pc := 202) (by decide +kernel) ?_
      refine z_putI (pc := 203) 7 fp_Mod_95 rfl rfl rfl (by decide +kernel) ?_
      refine z_goto (pc := 206) (off := -60) 146 (by decide +kernel) (by decide) ?_
      exact k
theorem b_Mod_next_89 {E : EN} {d : Nat} {o1 : Option AV} {σ : Mem} {K : Mem → Prop}  (hd : 1 ≤ d) (k : CI E y_Mod_see (d - 1) [vr 115, vi (σ 115 7)] σ (fun x1 τ1 => CI E y_Mod_isSmall (d - 1) [vi x1] τ1 (fun x2 τ2 => (x2 = 0 → CI E y_Mod_keyOf (d - 1) [vr 115] τ2 (fun x3 τ3 => K (up τ3 115 9 x3))) ∧ (x2 ≠ 0 → Z E y_Mod_next d 89 [some (vr 115), o1] [] (up τ2 115 7 (w32 ((τ2 115 7) + 1))) (qv K))))) :
    Z E y_Mod_next d 89 [some (vr 115), o1] [] σ (qv K) := by
  refine z_aload_n (pc := 89) (q := 0) (by decide +kernel) rfl ?_
  refine z_aload_n (pc := 90) (q := 0) (by decide +kernel) rfl ?_
  refine z_getI (pc := 91) 7 fl_Mod_95 rfl (by decide) rfl (by decide +kernel) ?_
  refine z_callv (pc := 94) (as := [vi (σ 115 7)]) ml_Mod_98 rfl ⟨rfl, by decide⟩ rfl rfl (Nat.le_of_ble_eq_true rfl) (dc := d - 1) (by omega) (by decide +kernel) (CI.z (CI.mono (fun x1 τ1 k => ?_) k))
  refine z_calls (pc := 97) (as := [vi x1]) ml_Mod_105 rfl rfl (Nat.le_of_ble_eq_true rfl) (dc := d - 1) (by omega) (by decide +kernel) (CI.z (CI.mono (fun x2 τ2 k => ?_) k))
  refine z_if_eq (pc := 100) (off := 16) 116 (by decide +kernel) (by decide) ⟨fun hc => ?_, fun hc => ?_⟩
  · have k := k.1 hc
    refine z_aload_n (pc := 116) (q := 0) (by decide +kernel) rfl ?_
    refine z_aload_n (pc := 117) (q := 0) (by decide +kernel) rfl ?_
    refine z_callv (pc := 118) (as := []) ml_Mod_109 rfl ⟨rfl, by decide⟩ rfl rfl (Nat.le_of_ble_eq_true rfl) (dc := d - 1) (by omega) (by decide +kernel) (CI.z (CI.mono (fun x3 τ3 k => ?_) k))
    refine z_putI (pc := 121) 9 fp_Mod_102 rfl rfl rfl (by decide +kernel) ?_
    refine z_goto (pc := 124) (off := 170) 294 (by decide +kernel) (by decide) ?_
    exact z_vret (pc := 294) (by decide +kernel) rfl k
  · have k := k.2 hc
    refine z_aload_n (pc := 103) (q := 0) (by decide +kernel) rfl ?_
    refine z_dup (pc := 104) (by decide +kernel) rfl ?_
    refine z_getI (pc := 105) 7 fl_Mod_95 rfl (by decide) rfl (by decide +kernel) ?_
    refine z_iconst (pc := 108) (n := 1) (by decide +kernel) ⟨by decide, by decide⟩ ?_
    refine z_iadd (pc := 109) (by decide +kernel) ?_
    refine z_putI (pc := 110) 7 fp_Mod_95 rfl rfl rfl (by decide +kernel) ?_
    refine z_goto (pc := 113) (off := -24) 89 (by decide +kernel) (by decide) ?_
    exact k
theorem b_Mod_fails_0 {E : EN} {d : Nat} {a1 : Int} {σ : Mem} {K : Mem → Prop}  (k : (σ 115 11 = 0 → (σ 115 9 ≠ 25 → K (up (up σ 115 11 a1) 115 12 (σ 115 6))) ∧ (σ 115 9 = 25 → K (up (up σ 115 11 1) 115 12 (σ 115 6)))) ∧ (σ 115 11 ≠ 0 → K σ)) :
    Z E y_Mod_fails d 0 [some (vr 115), some (vi a1)] [] σ (qv K) := by
  refine z_aload_n (pc := 0) (q := 0) (by decide +kernel) rfl ?_
  refine z_getI (pc := 1) 11 fl_Mod_120 rfl (by decide) rfl (by decide +kernel) ?_
  refine z_if_eq (pc := 4) (off := 4) 8 (by decide +kernel) (by decide) ⟨fun hc => ?_, fun hc => ?_⟩
  · have k := k.1 hc
    refine z_aload_n (pc := 8) (q := 0) (by decide +kernel) rfl ?_
    refine z_aload_n (pc := 9) (q := 0) (by decide +kernel) rfl ?_
    refine z_getI (pc := 10) 9 fl_Mod_102 rfl (by decide) rfl (by decide +kernel) ?_
    refine z_bipush (pc := 13) (n := 25) (by decide +kernel) (by decide) ⟨by decide, by decide⟩ ?_
    refine z_icmp_ne (pc := 15) (off := 7) 22 (by decide +kernel) (by decide) ⟨fun hc => ?_, fun hc => ?_⟩
    · have k := k.1 hc
      refine z_iload_n (pc := 22) (q := 1) (by decide +kernel) rfl ?_
      refine z_putI (pc := 23) 11 fp_Mod_120 rfl rfl rfl (by decide +kernel) ?_
      refine z_aload_n (pc := 26) (q := 0) (by decide +kernel) rfl ?_
      refine z_aload_n (pc := 27) (q := 0) (by decide +kernel) rfl ?_
      refine z_getI (pc := 28) 6 fl_Mod_92 rfl (by decide) rfl (by decide +kernel) ?_
      refine z_topI (up_nk (by decide)) ?_
      refine z_putI (pc := 31) 12 fp_Mod_123 rfl rfl rfl (by decide +kernel) ?_
      exact z_vret (pc := 34) (by decide +kernel) rfl k
    · have k := k.2 hc
      refine z_iconst (pc := 18) (n := 1) (by decide +kernel) ⟨by decide, by decide⟩ ?_
      refine z_goto (pc := 19) (off := 4) 23 (by decide +kernel) (by decide) ?_
      refine z_putI (pc := 23) 11 fp_Mod_120 rfl rfl rfl (by decide +kernel) ?_
      refine z_aload_n (pc := 26) (q := 0) (by decide +kernel) rfl ?_
      refine z_aload_n (pc := 27) (q := 0) (by decide +kernel) rfl ?_
      refine z_getI (pc := 28) 6 fl_Mod_92 rfl (by decide) rfl (by decide +kernel) ?_
      refine z_topI (up_nk (by decide)) ?_
      refine z_putI (pc := 31) 12 fp_Mod_123 rfl rfl rfl (by decide +kernel) ?_
      exact z_vret (pc := 34) (by decide +kernel) rfl k
  · have k := k.2 hc
    exact z_vret (pc := 7) (by decide +kernel) rfl k
theorem b_Mod_is_0 {E : EN} {d : Nat} {a1 : Int} {σ : Mem} {K : Int → Mem → Prop}  (k : (σ 115 11 ≠ 0 → K 0 σ) ∧ (σ 115 11 = 0 → (σ 115 9 ≠ a1 → K 0 σ) ∧ (σ 115 9 = a1 → K 1 σ))) :
    Z E y_Mod_is d 0 [some (vr 115), some (vi a1)] [] σ (qi K) := by
  refine z_aload_n (pc := 0) (q := 0) (by decide +kernel) rfl ?_
  refine z_getI (pc := 1) 11 fl_Mod_120 rfl (by decide) rfl (by decide +kernel) ?_
  refine z_if_ne (pc := 4) (off := 15) 19 (by decide +kernel) (by decide) ⟨fun hc => ?_, fun hc => ?_⟩
  · have k := k.1 hc
    refine z_iconst (pc := 19) (n := 0) (by decide +kernel) ⟨by decide, by decide⟩ ?_
    exact z_zret (pc := 20) (by decide +kernel) rfl ⟨by decide, k⟩
  · have k := k.2 hc
    refine z_aload_n (pc := 7) (q := 0) (by decide +kernel) rfl ?_
    refine z_getI (pc := 8) 9 fl_Mod_102 rfl (by decide) rfl (by decide +kernel) ?_
    refine z_iload_n (pc := 11) (q := 1) (by decide +kernel) rfl ?_
    refine z_icmp_ne (pc := 12) (off := 7) 19 (by decide +kernel) (by decide) ⟨fun hc => ?_, fun hc => ?_⟩
    · have k := k.1 hc
      refine z_iconst (pc := 19) (n := 0) (by decide +kernel) ⟨by decide, by decide⟩ ?_
      exact z_zret (pc := 20) (by decide +kernel) rfl ⟨by decide, k⟩
    · have k := k.2 hc
      refine z_iconst (pc := 15) (n := 1) (by decide +kernel) ⟨by decide, by decide⟩ ?_
      refine z_goto (pc := 16) (off := 4) 20 (by decide +kernel) (by decide) ?_
      exact z_zret (pc := 20) (by decide +kernel) rfl ⟨by decide, k⟩
theorem b_Mod_eats_0 {E : EN} {d : Nat} {a1 : Int} {σ : Mem} {K : Int → Mem → Prop}  (hd : 1 ≤ d) (k : CI E y_Mod_is (d - 1) [vr 115, vi a1] σ (fun x1 τ1 => (x1 ≠ 0 → CV E y_Mod_next (d - 1) [vr 115] τ1 (fun τ2 => K 1 τ2)) ∧ (x1 = 0 → K 0 τ1))) :
    Z E y_Mod_eats d 0 [some (vr 115), some (vi a1)] [] σ (qi K) := by
  refine z_aload_n (pc := 0) (q := 0) (by decide +kernel) rfl ?_
  refine z_iload_n (pc := 1) (q := 1) (by decide +kernel) rfl ?_
  refine z_callv (pc := 2) (as := [vi a1]) ml_Mod_126 rfl ⟨rfl, by decide⟩ rfl rfl (Nat.le_of_ble_eq_true rfl) (dc := d - 1) (by omega) (by decide +kernel) (CI.z (CI.mono (fun x1 τ1 k => ?_) k))
  refine z_if_ne (pc := 5) (off := 5) 10 (by decide +kernel) (by decide) ⟨fun hc => ?_, fun hc => ?_⟩
  · have k := k.1 hc
    refine z_aload_n (pc := 10) (q := 0) (by decide +kernel) rfl ?_
    refine z_callv (pc := 11) (as := []) ml_Mod_129 rfl ⟨rfl, by decide⟩ rfl rfl (Nat.le_of_ble_eq_true rfl) (dc := d - 1) (by omega) (by decide +kernel) (CV.z (CV.mono (fun τ2 k => ?_) k))
    refine z_iconst (pc := 14) (n := 1) (by decide +kernel) ⟨by decide, by decide⟩ ?_
    exact z_zret (pc := 15) (by decide +kernel) rfl ⟨by decide, k⟩
  · have k := k.2 hc
    refine z_iconst (pc := 8) (n := 0) (by decide +kernel) ⟨by decide, by decide⟩ ?_
    exact z_zret (pc := 9) (by decide +kernel) rfl ⟨by decide, k⟩
theorem b_Mod_takesN_0 {E : EN} {d : Nat} {a1 : Int} {a2 : Int} {σ : Mem} {K : Int → Mem → Prop}  (hd : 1 ≤ d) (k : CI E y_Mod_is (d - 1) [vr 115, vi 23] σ (fun x1 τ1 => (x1 ≠ 0 → CI E y_Mod_within (d - 1) [vl (τ1 115 10), vl a1, vl a2] τ1 (fun x2 τ2 => (x2 ≠ 0 → Z E y_Mod_takesN d 37 [some (vr 115), some (vi a1), some (vi a2), none] [] τ2 (qi K)) ∧ (x2 = 0 → CV E y_Mod_fails (d - 1) [vr 115, vi 3] τ2 (fun τ3 => Z E y_Mod_takesN d 37 [some (vr 115), some (vi a1), some (vi a2), none] [] τ3 (qi K))))) ∧ (x1 = 0 → CV E y_Mod_fails (d - 1) [vr 115, vi 2] τ1 (fun τ4 => Z E y_Mod_takesN d 37 [some (vr 115), some (vi a1), some (vi a2), none] [] τ4 (qi K))))) :
    Z E y_Mod_takesN d 0 [some (vr 115), some (vi a1), some (vi a2), none] [] σ (qi K) := by
  refine z_aload_n (pc := 0) (q := 0) (by decide +kernel) rfl ?_
  refine z_bipush (pc := 1) (n := 23) (by decide +kernel) (by decide) ⟨by decide, by decide⟩ ?_
  refine z_callv (pc := 3) (as := [vi 23]) ml_Mod_126 rfl ⟨rfl, by decide⟩ rfl rfl (Nat.le_of_ble_eq_true rfl) (dc := d - 1) (by omega) (by decide +kernel) (CI.z (CI.mono (fun x1 τ1 k => ?_) k))
  refine z_if_ne (pc := 6) (off := 11) 17 (by decide +kernel) (by decide) ⟨fun hc => ?_, fun hc => ?_⟩
  · have k := k.1 hc
    refine z_aload_n (pc := 17) (q := 0) (by decide +kernel) rfl ?_
    refine z_getI (pc := 18) 10 fl_Mod_115 rfl (by decide) rfl (by decide +kernel) ?_
    refine z_i2l (pc := 21) (by decide +kernel) ?_
    refine z_iload_n (pc := 22) (q := 1) (by decide +kernel) rfl ?_
    refine z_i2l (pc := 23) (by decide +kernel) ?_
    refine z_iload_n (pc := 24) (q := 2) (by decide +kernel) rfl ?_
    refine z_i2l (pc := 25) (by decide +kernel) ?_
    refine z_calls (pc := 26) (as := [vl (τ1 115 10), vl a1, vl a2]) ml_Mod_136 rfl rfl (Nat.le_of_ble_eq_true rfl) (dc := d - 1) (by omega) (by decide +kernel) (CI.z (CI.mono (fun x2 τ2 k => ?_) k))
    refine z_if_ne (pc := 29) (off := 8) 37 (by decide +kernel) (by decide) ⟨fun hc => ?_, fun hc => ?_⟩
    · have k := k.1 hc
      exact k
    · have k := k.2 hc
      refine z_aload_n (pc := 32) (q := 0) (by decide +kernel) rfl ?_
      refine z_iconst (pc := 33) (n := 3) (by decide +kernel) ⟨by decide, by decide⟩ ?_
      refine z_callv (pc := 34) (as := [vi 3]) ml_Mod_132 rfl ⟨rfl, by decide⟩ rfl rfl (Nat.le_of_ble_eq_true rfl) (dc := d - 1) (by omega) (by decide +kernel) (CV.z (CV.mono (fun τ3 k => ?_) k))
      exact k
  · have k := k.2 hc
    refine z_aload_n (pc := 9) (q := 0) (by decide +kernel) rfl ?_
    refine z_iconst (pc := 10) (n := 2) (by decide +kernel) ⟨by decide, by decide⟩ ?_
    refine z_callv (pc := 11) (as := [vi 2]) ml_Mod_132 rfl ⟨rfl, by decide⟩ rfl rfl (Nat.le_of_ble_eq_true rfl) (dc := d - 1) (by omega) (by decide +kernel) (CV.z (CV.mono (fun τ4 k => ?_) k))
    refine z_goto (pc := 14) (off := 23) 37 (by decide +kernel) (by decide) ?_
    exact k
theorem b_Mod_takesN_37 {E : EN} {d : Nat} {a1 : Int} {a2 : Int} {o1 : Option AV} {o2 : Option AV} {o3 : Option AV} {σ : Mem} {K : Int → Mem → Prop}  (hd : 1 ≤ d) (k : (σ 115 11 ≠ 0 → K (σ 115 10) σ) ∧ (σ 115 11 = 0 → CV E y_Mod_next (d - 1) [vr 115] σ (fun τ1 => K (σ 115 10) τ1))) :
    Z E y_Mod_takesN d 37 [some (vr 115), o1, o2, o3] [] σ (qi K) := by
  refine z_aload_n (pc := 37) (q := 0) (by decide +kernel) rfl ?_
  refine z_getI (pc := 38) 10 fl_Mod_115 rfl (by decide) rfl (by decide +kernel) ?_
  refine z_forget (pc := 41) 2 [some (vr 115), o1, none, o3] rfl ?_
  refine z_istore_n (pc := 41) (q := 3) [some (vr 115), o1, none, some (vi (σ 115 10))] (by decide +kernel) (Nat.le_of_ble_eq_true rfl) rfl ?_
  refine z_aload_n (pc := 42) (q := 0) (by decide +kernel) rfl ?_
  refine z_getI (pc := 43) 11 fl_Mod_120 rfl (by decide) rfl (by decide +kernel) ?_
  refine z_if_ne (pc := 46) (off := 7) 53 (by decide +kernel) (by decide) ⟨fun hc => ?_, fun hc => ?_⟩
  · have k := k.1 hc
    refine z_iload_n (pc := 53) (q := 3) (by decide +kernel) rfl ?_
    exact z_iret (pc := 54) (by decide +kernel) rfl k
  · have k := k.2 hc
    refine z_aload_n (pc := 49) (q := 0) (by decide +kernel) rfl ?_
    refine z_callv (pc := 50) (as := []) ml_Mod_129 rfl ⟨rfl, by decide⟩ rfl rfl (Nat.le_of_ble_eq_true rfl) (dc := d - 1) (by omega) (by decide +kernel) (CV.z (CV.mono (fun τ1 k => ?_) k))
    refine z_iload_n (pc := 53) (q := 3) (by decide +kernel) rfl ?_
    exact z_iret (pc := 54) (by decide +kernel) rfl k
theorem b_Mod_isIn_0 {E : EN} {d : Nat} {b0 : Int} {a2 : Int} {σ : Mem} {K : Int → Mem → Prop}  (k : (lcm (lan (lsr b0 a2) 1) 1 ≠ 0 → K 0 σ) ∧ (lcm (lan (lsr b0 a2) 1) 1 = 0 → K 1 σ)) :
    Z E y_Mod_isIn d 0 [some (vl b0), none, some (vi a2)] [] σ (qi K) := by
  refine z_lload_n (pc := 0) (q := 0) (by decide +kernel) rfl ?_
  refine z_iload_n (pc := 1) (q := 2) (by decide +kernel) rfl ?_
  refine z_lshr (pc := 2) (by decide +kernel) ?_
  refine z_lconst (pc := 3) (n := 1) 1 (by decide +kernel) (by decide) ⟨by decide, by decide⟩ ?_
  refine z_land (pc := 4) (by decide +kernel) ?_
  refine z_lconst (pc := 5) (n := 1) 1 (by decide +kernel) (by decide) ⟨by decide, by decide⟩ ?_
  refine z_lcmp (pc := 6) (by decide +kernel) ?_
  refine z_if_ne (pc := 7) (off := 7) 14 (by decide +kernel) (by decide) ⟨fun hc => ?_, fun hc => ?_⟩
  · have k := k.1 hc
    refine z_iconst (pc := 14) (n := 0) (by decide +kernel) ⟨by decide, by decide⟩ ?_
    exact z_zret (pc := 15) (by decide +kernel) rfl ⟨by decide, k⟩
  · have k := k.2 hc
    refine z_iconst (pc := 10) (n := 1) (by decide +kernel) ⟨by decide, by decide⟩ ?_
    refine z_goto (pc := 11) (off := 4) 15 (by decide +kernel) (by decide) ?_
    exact z_zret (pc := 15) (by decide +kernel) rfl ⟨by decide, k⟩
theorem b_Mod_wordOf_0 {E : EN} {d : Nat} {a1 : Int} {σ : Mem} {K : Int → Mem → Prop}  (k : (a1 = 2 → (σ 115 15 ≠ 1 → K (-1) σ) ∧ (σ 115 15 = 1 → K 4 σ)) ∧ (a1 = 3 → K (-1) σ) ∧ (a1 = 4 → K (-1) σ) ∧ (a1 = 5 → K 3 σ) ∧ (a1 = 6 → K 0 σ) ∧ (a1 = 7 → K (-1) σ) ∧ (a1 = 8 → K 1 σ) ∧ (a1 = 9 → K 2 σ) ∧ (a1 < 2 ∨ 9 < a1 → K (-1) σ)) :
    Z E y_Mod_wordOf d 0 [some (vr 115), some (vi a1)] [] σ (qi K) := by
  refine z_iload_n (pc := 0) (q := 1) (by decide +kernel) rfl ?_
  have hdg : decode y_Mod_wordOf.2.1 1 = .ok (.tableswitch 69 2 9 #[55, 69, 69, 53, 47, 69, 49, 51], 47) := by decide +kernel
  by_cases hl0 : a1 < 2
  · have k := k.2.2.2.2.2.2.2.2 (Or.inl hl0)
    refine z_tableOut (pc := 1) 70 hdg (Or.inl hl0) (by decide) ?_
    refine z_iconst (pc := 70) (n := -1) (by decide +kernel) ⟨by decide, by decide⟩ ?_
    exact z_iret (pc := 71) (by decide +kernel) rfl k
  have hl : 2 ≤ a1 := Int.not_lt.mp hl0
  by_cases hc : a1 = 2
  · have k := k.1 hc
    refine z_tableIn2 (pc := 1) (off := 55) 56 hdg hc (by decide) (by decide +kernel) (by decide) ?_
    refine z_aload_n (pc := 56) (q := 0) (by decide +kernel) rfl ?_
    refine z_getI (pc := 57) 15 fl_Mod_140 rfl (by decide) rfl (by decide +kernel) ?_
    refine z_iconst (pc := 60) (n := 1) (by decide +kernel) ⟨by decide, by decide⟩ ?_
    refine z_icmp_ne (pc := 61) (off := 7) 68 (by decide +kernel) (by decide) ⟨fun hc => ?_, fun hc => ?_⟩
    · have k := k.1 hc
      refine z_iconst (pc := 68) (n := -1) (by decide +kernel) ⟨by decide, by decide⟩ ?_
      exact z_iret (pc := 69) (by decide +kernel) rfl k
    · have k := k.2 hc
      refine z_iconst (pc := 64) (n := 4) (by decide +kernel) ⟨by decide, by decide⟩ ?_
      refine z_goto (pc := 65) (off := 4) 69 (by decide +kernel) (by decide) ?_
      exact z_iret (pc := 69) (by decide +kernel) rfl k
  have k := k.2
  have hl := ne_up (w := 3) hl hc rfl; clear hc
  by_cases hc : a1 = 3
  · have k := k.1 hc
    refine z_tableIn2 (pc := 1) (off := 69) 70 hdg hc (by decide) (by decide +kernel) (by decide) ?_
    refine z_iconst (pc := 70) (n := -1) (by decide +kernel) ⟨by decide, by decide⟩ ?_
    exact z_iret (pc := 71) (by decide +kernel) rfl k
  have k := k.2
  have hl := ne_up (w := 4) hl hc rfl; clear hc
  by_cases hc : a1 = 4
  · have k := k.1 hc
    refine z_tableIn2 (pc := 1) (off := 69) 70 hdg hc (by decide) (by decide +kernel) (by decide) ?_
    refine z_iconst (pc := 70) (n := -1) (by decide +kernel) ⟨by decide, by decide⟩ ?_
    exact z_iret (pc := 71) (by decide +kernel) rfl k
  have k := k.2
  have hl := ne_up (w := 5) hl hc rfl; clear hc
  by_cases hc : a1 = 5
  · have k := k.1 hc
    refine z_tableIn2 (pc := 1) (off := 53) 54 hdg hc (by decide) (by decide +kernel) (by decide) ?_
    refine z_iconst (pc := 54) (n := 3) (by decide +kernel) ⟨by decide, by decide⟩ ?_
    exact z_iret (pc := 55) (by decide +kernel) rfl k
  have k := k.2
  have hl := ne_up (w := 6) hl hc rfl; clear hc
  by_cases hc : a1 = 6
  · have k := k.1 hc
    refine z_tableIn2 (pc := 1) (off := 47) 48 hdg hc (by decide) (by decide +kernel) (by decide) ?_
    refine z_iconst (pc := 48) (n := 0) (by decide +kernel) ⟨by decide, by decide⟩ ?_
    exact z_iret (pc := 49) (by decide +kernel) rfl k
  have k := k.2
  have hl := ne_up (w := 7) hl hc rfl; clear hc
  by_cases hc : a1 = 7
  · have k := k.1 hc
    refine z_tableIn2 (pc := 1) (off := 69) 70 hdg hc (by decide) (by decide +kernel) (by decide) ?_
    refine z_iconst (pc := 70) (n := -1) (by decide +kernel) ⟨by decide, by decide⟩ ?_
    exact z_iret (pc := 71) (by decide +kernel) rfl k
  have k := k.2
  have hl := ne_up (w := 8) hl hc rfl; clear hc
  by_cases hc : a1 = 8
  · have k := k.1 hc
    refine z_tableIn2 (pc := 1) (off := 49) 50 hdg hc (by decide) (by decide +kernel) (by decide) ?_
    refine z_iconst (pc := 50) (n := 1) (by decide +kernel) ⟨by decide, by decide⟩ ?_
    exact z_iret (pc := 51) (by decide +kernel) rfl k
  have k := k.2
  have hl := ne_up (w := 9) hl hc rfl; clear hc
  by_cases hc : a1 = 9
  · have k := k.1 hc
    refine z_tableIn2 (pc := 1) (off := 51) 52 hdg hc (by decide) (by decide +kernel) (by decide) ?_
    refine z_iconst (pc := 52) (n := 2) (by decide +kernel) ⟨by decide, by decide⟩ ?_
    exact z_iret (pc := 53) (by decide +kernel) rfl k
  have k := k.2
  have hl := ne_up (w := 10) hl hc rfl; clear hc
  have hl := Int.lt_of_add_one_le (a := 9) hl
  have k := k (Or.inr hl)
  refine z_tableOut (pc := 1) 70 hdg (Or.inr hl) (by decide) ?_
  refine z_iconst (pc := 70) (n := -1) (by decide +kernel) ⟨by decide, by decide⟩ ?_
  exact z_iret (pc := 71) (by decide +kernel) rfl k
theorem b_Mod_codes_0 {E : EN} {d : Nat} {a1 : Int} {σ : Mem} {K : Mem → Prop}  (k : (σ 115 11 = 0 → (0 ≤ w32 (136 + (σ 119 135)) ∧ w32 (136 + (σ 119 135)) < 1036) ∧ K (up (up σ 119 (w32 (136 + (σ 119 135))) a1) 119 135 (w32 (((up σ 119 (w32 (136 + (σ 119 135))) a1) 119 135) + 1)))) ∧ (σ 115 11 ≠ 0 → K σ)) :
    Z E y_Mod_codes d 0 [some (vr 115), some (vi a1)] [] σ (qv K) := by
  refine z_aload_n (pc := 0) (q := 0) (by decide +kernel) rfl ?_
  refine z_getI (pc := 1) 11 fl_Mod_120 rfl (by decide) rfl (by decide +kernel) ?_
  refine z_if_eq (pc := 4) (off := 4) 8 (by decide +kernel) (by decide) ⟨fun hc => ?_, fun hc => ?_⟩
  · have k := k.1 hc
    refine z_aload_n (pc := 8) (q := 0) (by decide +kernel) rfl ?_
    refine z_getR (pc := 9) 119 fl_Mod_24 rfl rfl rfl (by decide +kernel) ?_
    refine z_sipush (pc := 12) (n := 136) (by decide +kernel) (by decide) ⟨by decide, by decide⟩ ?_
    refine z_aload_n (pc := 15) (q := 0) (by decide +kernel) rfl ?_
    refine z_getR (pc := 16) 119 fl_Mod_24 rfl rfl rfl (by decide +kernel) ?_
    refine z_sipush (pc := 19) (n := 135) (by decide +kernel) (by decide) ⟨by decide, by decide⟩ ?_
    refine z_iald (pc := 22) rfl ⟨by decide, by decide⟩ (by decide +kernel) ?_
    refine z_iadd (pc := 23) (by decide +kernel) ?_
    refine z_iload_n (pc := 24) (q := 1) (by decide +kernel) rfl ?_
    have hb1 := k.1
    have k := k.2
    refine z_iast (pc := 25) rfl hb1 (by decide +kernel) ?_
    refine z_aload_n (pc := 26) (q := 0) (by decide +kernel) rfl ?_
    refine z_getR (pc := 27) 119 fl_Mod_24 rfl rfl rfl (by decide +kernel) ?_
    refine z_sipush (pc := 30) (n := 135) (by decide +kernel) (by decide) ⟨by decide, by decide⟩ ?_
    refine z_dup2 (pc := 33) (by decide +kernel) rfl rfl ?_
    refine z_iald (pc := 34) rfl ⟨by decide, by decide⟩ (by decide +kernel) ?_
    refine z_iconst (pc := 35) (n := 1) (by decide +kernel) ⟨by decide, by decide⟩ ?_
    refine z_iadd (pc := 36) (by decide +kernel) ?_
    refine z_iast (pc := 37) rfl ⟨by decide, by decide⟩ (by decide +kernel) ?_
    exact z_vret (pc := 38) (by decide +kernel) rfl k
  · have k := k.2 hc
    exact z_vret (pc := 7) (by decide +kernel) rfl k
theorem b_Mod_goesIn_0 {E : EN} {d : Nat} {a1 : Int} {σ : Mem} {K : Int → Mem → Prop}  (hd : 1 ≤ d) (k : (a1 ≠ 6 → Z E y_Mod_goesIn d 11 [some (vr 115), some (vi a1)] [] σ (qi K)) ∧ (a1 = 6 → CV E y_Mod_fails (d - 1) [vr 115, vi 4] σ (fun τ1 => Z E y_Mod_goesIn d 11 [some (vr 115), some (vi a1)] [] τ1 (qi K)))) :
    Z E y_Mod_goesIn d 0 [some (vr 115), some (vi a1)] [] σ (qi K) := by
  refine z_iload_n (pc := 0) (q := 1) (by decide +kernel) rfl ?_
  refine z_bipush (pc := 1) (n := 6) (by decide +kernel) (by decide) ⟨by decide, by decide⟩ ?_
  refine z_icmp_ne (pc := 3) (off := 8) 11 (by decide +kernel) (by decide) ⟨fun hc => ?_, fun hc => ?_⟩
  · have k := k.1 hc
    exact k
  · have k := k.2 hc
    refine z_aload_n (pc := 6) (q := 0) (by decide +kernel) rfl ?_
    refine z_iconst (pc := 7) (n := 4) (by decide +kernel) ⟨by decide, by decide⟩ ?_
    refine z_callv (pc := 8) (as := [vi 4]) ml_Mod_132 rfl ⟨rfl, by decide⟩ rfl rfl (Nat.le_of_ble_eq_true rfl) (dc := d - 1) (by omega) (by decide +kernel) (CV.z (CV.mono (fun τ1 k => ?_) k))
    exact k
theorem b_Mod_goesIn_11 {E : EN} {d : Nat} {a1 : Int} {o1 : Option AV} {σ : Mem} {K : Int → Mem → Prop}  (hd : 1 ≤ d) (k : (σ 115 11 ≠ 0 → (σ 115 11 ≠ 0 → K 0 σ) ∧ (σ 115 11 = 0 → K 1 σ)) ∧ (σ 115 11 = 0 → CV E y_Mod_next (d - 1) [vr 115] σ (fun τ1 => (τ1 115 11 ≠ 0 → K 0 τ1) ∧ (τ1 115 11 = 0 → K 1 τ1)))) :
    Z E y_Mod_goesIn d 11 [some (vr 115), o1] [] σ (qi K) := by
  refine z_aload_n (pc := 11) (q := 0) (by decide +kernel) rfl ?_
  refine z_getI (pc := 12) 11 fl_Mod_120 rfl (by decide) rfl (by decide +kernel) ?_
  refine z_if_ne (pc := 15) (off := 7) 22 (by decide +kernel) (by decide) ⟨fun hc => ?_, fun hc => ?_⟩
  · have k := k.1 hc
    refine z_aload_n (pc := 22) (q := 0) (by decide +kernel) rfl ?_
    refine z_getI (pc := 23) 11 fl_Mod_120 rfl (by decide) rfl (by decide +kernel) ?_
    refine z_if_ne (pc := 26) (off := 7) 33 (by decide +kernel) (by decide) ⟨fun hc => ?_, fun hc => ?_⟩
    · have k := k.1 hc
      refine z_iconst (pc := 33) (n := 0) (by decide +kernel) ⟨by decide, by decide⟩ ?_
      exact z_zret (pc := 34) (by decide +kernel) rfl ⟨by decide, k⟩
    · have k := k.2 hc
      refine z_iconst (pc := 29) (n := 1) (by decide +kernel) ⟨by decide, by decide⟩ ?_
      refine z_goto (pc := 30) (off := 4) 34 (by decide +kernel) (by decide) ?_
      exact z_zret (pc := 34) (by decide +kernel) rfl ⟨by decide, k⟩
  · have k := k.2 hc
    refine z_aload_n (pc := 18) (q := 0) (by decide +kernel) rfl ?_
    refine z_callv (pc := 19) (as := []) ml_Mod_129 rfl ⟨rfl, by decide⟩ rfl rfl (Nat.le_of_ble_eq_true rfl) (dc := d - 1) (by omega) (by decide +kernel) (CV.z (CV.mono (fun τ1 k => ?_) k))
    refine z_aload_n (pc := 22) (q := 0) (by decide +kernel) rfl ?_
    refine z_getI (pc := 23) 11 fl_Mod_120 rfl (by decide) rfl (by decide +kernel) ?_
    refine z_if_ne (pc := 26) (off := 7) 33 (by decide +kernel) (by decide) ⟨fun hc => ?_, fun hc => ?_⟩
    · have k := k.1 hc
      refine z_iconst (pc := 33) (n := 0) (by decide +kernel) ⟨by decide, by decide⟩ ?_
      exact z_zret (pc := 34) (by decide +kernel) rfl ⟨by decide, k⟩
    · have k := k.2 hc
      refine z_iconst (pc := 29) (n := 1) (by decide +kernel) ⟨by decide, by decide⟩ ?_
      refine z_goto (pc := 30) (off := 4) 34 (by decide +kernel) (by decide) ?_
      exact z_zret (pc := 34) (by decide +kernel) rfl ⟨by decide, k⟩
theorem b_Mod_readAtom_0 {E : EN} {d : Nat} {a1 : Int} {σ : Mem} {K : Mem → Prop}  (hd : 1 ≤ d) (k : CI E y_Mod_is (d - 1) [vr 115, vi 23] σ (fun x1 τ1 => (x1 = 0 → (τ1 115 11 ≠ 0 → Z E y_Mod_readAtom d 66 [some (vr 115), some (vi a1)] [] τ1 (qv K)) ∧ (τ1 115 11 = 0 → CI E y_Mod_wordOf (d - 1) [vr 115, vi (τ1 115 9)] τ1 (fun x2 τ2 => (x2 = (-1) → Z E y_Mod_readAtom d 66 [some (vr 115), some (vi a1)] [] τ2 (qv K)) ∧ (x2 ≠ (-1) → CI E y_Mod_wordOf (d - 1) [vr 115, vi (τ2 115 9)] τ2 (fun x3 τ3 => CV E y_Mod_codes (d - 1) [vr 115, vi (w32 (1000 + x3))] τ3 (fun τ4 => CV E y_Mod_next (d - 1) [vr 115] τ4 (fun τ5 => K τ5))))))) ∧ (x1 ≠ 0 → CV E y_Mod_codes (d - 1) [vr 115, vi (τ1 115 10)] τ1 (fun τ6 => CV E y_Mod_next (d - 1) [vr 115] τ6 (fun τ7 => K τ7))))) :
    Z E y_Mod_readAtom d 0 [some (vr 115), some (vi a1)] [] σ (qv K) := by
  refine z_aload_n (pc := 0) (q := 0) (by decide +kernel) rfl ?_
  refine z_bipush (pc := 1) (n := 23) (by decide +kernel) (by decide) ⟨by decide, by decide⟩ ?_
  refine z_callv (pc := 3) (as := [vi 23]) ml_Mod_126 rfl ⟨rfl, by decide⟩ rfl rfl (Nat.le_of_ble_eq_true rfl) (dc := d - 1) (by omega) (by decide +kernel) (CI.z (CI.mono (fun x1 τ1 k => ?_) k))
  refine z_if_eq (pc := 6) (off := 18) 24 (by decide +kernel) (by decide) ⟨fun hc => ?_, fun hc => ?_⟩
  · have k := k.1 hc
    refine z_aload_n (pc := 24) (q := 0) (by decide +kernel) rfl ?_
    refine z_getI (pc := 25) 11 fl_Mod_120 rfl (by decide) rfl (by decide +kernel) ?_
    refine z_if_ne (pc := 28) (off := 38) 66 (by decide +kernel) (by decide) ⟨fun hc => ?_, fun hc => ?_⟩
    · have k := k.1 hc
      exact k
    · have k := k.2 hc
      refine z_aload_n (pc := 31) (q := 0) (by decide +kernel) rfl ?_
      refine z_aload_n (pc := 32) (q := 0) (by decide +kernel) rfl ?_
      refine z_getI (pc := 33) 9 fl_Mod_102 rfl (by decide) rfl (by decide +kernel) ?_
      refine z_callv (pc := 36) (as := [vi (τ1 115 9)]) ml_Mod_146 rfl ⟨rfl, by decide⟩ rfl rfl (Nat.le_of_ble_eq_true rfl) (dc := d - 1) (by omega) (by decide +kernel) (CI.z (CI.mono (fun x2 τ2 k => ?_) k))
      refine z_iconst (pc := 39) (n := -1) (by decide +kernel) ⟨by decide, by decide⟩ ?_
      refine z_icmp_eq (pc := 40) (off := 26) 66 (by decide +kernel) (by decide) ⟨fun hc => ?_, fun hc => ?_⟩
      · have k := k.1 hc
        exact k
      · have k := k.2 hc
        refine z_aload_n (pc := 43) (q := 0) (by decide +kernel) rfl ?_
        refine z_sipush (pc := 44) (n := 1000) (by decide +kernel) (by decide) ⟨by decide, by decide⟩ ?_
        refine z_aload_n (pc := 47) (q := 0) (by decide +kernel) rfl ?_
        refine z_aload_n (pc := 48) (q := 0) (by decide +kernel) rfl ?_
        refine z_getI (pc := 49) 9 fl_Mod_102 rfl (by decide) rfl (by decide +kernel) ?_
        refine z_callv (pc := 52) (as := [vi (τ2 115 9)]) ml_Mod_146 rfl ⟨rfl, by decide⟩ rfl rfl (Nat.le_of_ble_eq_true rfl) (dc := d - 1) (by omega) (by decide +kernel) (CI.z (CI.mono (fun x3 τ3 k => ?_) k))
        refine z_iadd (pc := 55) (by decide +kernel) ?_
        refine z_callv (pc := 56) (as := [vi (w32 (1000 + x3))]) ml_Mod_143 rfl ⟨rfl, by decide⟩ rfl rfl (Nat.le_of_ble_eq_true rfl) (dc := d - 1) (by omega) (by decide +kernel) (CV.z (CV.mono (fun τ4 k => ?_) k))
        refine z_aload_n (pc := 59) (q := 0) (by decide +kernel) rfl ?_
        refine z_callv (pc := 60) (as := []) ml_Mod_129 rfl ⟨rfl, by decide⟩ rfl rfl (Nat.le_of_ble_eq_true rfl) (dc := d - 1) (by omega) (by decide +kernel) (CV.z (CV.mono (fun τ5 k => ?_) k))
        refine z_goto (pc := 63) (off := 50) 113 (by decide +kernel) (by decide) ?_
        exact z_vret (pc := 113) (by decide +kernel) rfl k
  · have k := k.2 hc
    refine z_aload_n (pc := 9) (q := 0) (by decide +kernel) rfl ?_
    refine z_aload_n (pc := 10) (q := 0) (by decide +kernel) rfl ?_
    refine z_getI (pc := 11) 10 fl_Mod_115 rfl (by decide) rfl (by decide +kernel) ?_
    refine z_callv (pc := 14) (as := [vi (τ1 115 10)]) ml_Mod_143 rfl ⟨rfl, by decide⟩ rfl rfl (Nat.le_of_ble_eq_true rfl) (dc := d - 1) (by omega) (by decide +kernel) (CV.z (CV.mono (fun τ6 k => ?_) k))
    refine z_aload_n (pc := 17) (q := 0) (by decide +kernel) rfl ?_
    refine z_callv (pc := 18) (as := []) ml_Mod_129 rfl ⟨rfl, by decide⟩ rfl rfl (Nat.le_of_ble_eq_true rfl) (dc := d - 1) (by omega) (by decide +kernel) (CV.z (CV.mono (fun τ7 k => ?_) k))
    refine z_goto (pc := 21) (off := 92) 113 (by decide +kernel) (by decide) ?_
    exact z_vret (pc := 113) (by decide +kernel) rfl k
theorem b_Mod_readAtom_66 {E : EN} {d : Nat} {a1 : Int} {σ : Mem} {K : Mem → Prop}  (hd : 1 ≤ d) (k : CI E y_Mod_is (d - 1) [vr 115, vi 35] σ (fun x1 τ1 => (x1 = 0 → CV E y_Mod_fails (d - 1) [vr 115, vi 2] τ1 (fun τ2 => K τ2)) ∧ (x1 ≠ 0 → CI E y_Mod_goesIn (d - 1) [vr 115, vi a1] τ1 (fun x3 τ3 => (x3 ≠ 0 → CV E y_Mod_readSum (d - 1) [vr 115, vi (w32 (a1 + 1))] τ3 (fun τ4 => CI E y_Mod_eats (d - 1) [vr 115, vi 36] τ4 (fun x5 τ5 => (x5 ≠ 0 → K τ5) ∧ (x5 = 0 → CV E y_Mod_fails (d - 1) [vr 115, vi 2] τ5 (fun τ6 => K τ6))))) ∧ (x3 = 0 → K τ3))))) :
    Z E y_Mod_readAtom d 66 [some (vr 115), some (vi a1)] [] σ (qv K) := by
  refine z_aload_n (pc := 66) (q := 0) (by decide +kernel) rfl ?_
  refine z_bipush (pc := 67) (n := 35) (by decide +kernel) (by decide) ⟨by decide, by decide⟩ ?_
  refine z_callv (pc := 69) (as := [vi 35]) ml_Mod_126 rfl ⟨rfl, by decide⟩ rfl rfl (Nat.le_of_ble_eq_true rfl) (dc := d - 1) (by omega) (by decide +kernel) (CI.z (CI.mono (fun x1 τ1 k => ?_) k))
  refine z_if_eq (pc := 72) (off := 36) 108 (by decide +kernel) (by decide) ⟨fun hc => ?_, fun hc => ?_⟩
  · have k := k.1 hc
    refine z_aload_n (pc := 108) (q := 0) (by decide +kernel) rfl ?_
    refine z_iconst (pc := 109) (n := 2) (by decide +kernel) ⟨by decide, by decide⟩ ?_
    refine z_callv (pc := 110) (as := [vi 2]) ml_Mod_132 rfl ⟨rfl, by decide⟩ rfl rfl (Nat.le_of_ble_eq_true rfl) (dc := d - 1) (by omega) (by decide +kernel) (CV.z (CV.mono (fun τ2 k => ?_) k))
    exact z_vret (pc := 113) (by decide +kernel) rfl k
  · have k := k.2 hc
    refine z_aload_n (pc := 75) (q := 0) (by decide +kernel) rfl ?_
    refine z_iload_n (pc := 76) (q := 1) (by decide +kernel) rfl ?_
    refine z_callv (pc := 77) (as := [vi a1]) ml_Mod_149 rfl ⟨rfl, by decide⟩ rfl rfl (Nat.le_of_ble_eq_true rfl) (dc := d - 1) (by omega) (by decide +kernel) (CI.z (CI.mono (fun x3 τ3 k => ?_) k))
    refine z_if_ne (pc := 80) (off := 4) 84 (by decide +kernel) (by decide) ⟨fun hc => ?_, fun hc => ?_⟩
    · have k := k.1 hc
      refine z_aload_n (pc := 84) (q := 0) (by decide +kernel) rfl ?_
      refine z_iload_n (pc := 85) (q := 1) (by decide +kernel) rfl ?_
      refine z_iconst (pc := 86) (n := 1) (by decide +kernel) ⟨by decide, by decide⟩ ?_
      refine z_iadd (pc := 87) (by decide +kernel) ?_
      refine z_callv (pc := 88) (as := [vi (w32 (a1 + 1))]) ml_Mod_152 rfl ⟨rfl, by decide⟩ rfl rfl (Nat.le_of_ble_eq_true rfl) (dc := d - 1) (by omega) (by decide +kernel) (CV.z (CV.mono (fun τ4 k => ?_) k))
      refine z_aload_n (pc := 91) (q := 0) (by decide +kernel) rfl ?_
      refine z_bipush (pc := 92) (n := 36) (by decide +kernel) (by decide) ⟨by decide, by decide⟩ ?_
      refine z_callv (pc := 94) (as := [vi 36]) ml_Mod_155 rfl ⟨rfl, by decide⟩ rfl rfl (Nat.le_of_ble_eq_true rfl) (dc := d - 1) (by omega) (by decide +kernel) (CI.z (CI.mono (fun x5 τ5 k => ?_) k))
      refine z_if_ne (pc := 97) (off := 16) 113 (by decide +kernel) (by decide) ⟨fun hc => ?_, fun hc => ?_⟩
      · have k := k.1 hc
        exact z_vret (pc := 113) (by decide +kernel) rfl k
      · have k := k.2 hc
        refine z_aload_n (pc := 100) (q := 0) (by decide +kernel) rfl ?_
        refine z_iconst (pc := 101) (n := 2) (by decide +kernel) ⟨by decide, by decide⟩ ?_
        refine z_callv (pc := 102) (as := [vi 2]) ml_Mod_132 rfl ⟨rfl, by decide⟩ rfl rfl (Nat.le_of_ble_eq_true rfl) (dc := d - 1) (by omega) (by decide +kernel) (CV.z (CV.mono (fun τ6 k => ?_) k))
        refine z_goto (pc := 105) (off := 8) 113 (by decide +kernel) (by decide) ?_
        exact z_vret (pc := 113) (by decide +kernel) rfl k
    · have k := k.2 hc
      exact z_vret (pc := 83) (by decide +kernel) rfl k
theorem b_Mod_readTerm_0 {E : EN} {d : Nat} {a1 : Int} {σ : Mem} {K : Mem → Prop}  (hd : 1 ≤ d) (k : CV E y_Mod_readAtom (d - 1) [vr 115, vi a1] σ (fun τ1 => Z E y_Mod_readTerm d 5 [some (vr 115), some (vi a1)] [] τ1 (qv K))) :
    Z E y_Mod_readTerm d 0 [some (vr 115), some (vi a1)] [] σ (qv K) := by
  refine z_aload_n (pc := 0) (q := 0) (by decide +kernel) rfl ?_
  refine z_iload_n (pc := 1) (q := 1) (by decide +kernel) rfl ?_
  refine z_callv (pc := 2) (as := [vi a1]) ml_Mod_158 rfl ⟨rfl, by decide⟩ rfl rfl (Nat.le_of_ble_eq_true rfl) (dc := d - 1) (by omega) (by decide +kernel) (CV.z (CV.mono (fun τ1 k => ?_) k))
  exact k
theorem b_Mod_readTerm_5 {E : EN} {d : Nat} {a1 : Int} {σ : Mem} {K : Mem → Prop}  (hd : 1 ≤ d) (k : CI E y_Mod_eats (d - 1) [vr 115, vi 34] σ (fun x1 τ1 => (x1 = 0 → K τ1) ∧ (x1 ≠ 0 → CV E y_Mod_readAtom (d - 1) [vr 115, vi a1] τ1 (fun τ2 => CV E y_Mod_codes (d - 1) [vr 115, vi 3002] τ2 (fun τ3 => Z E y_Mod_readTerm d 5 [some (vr 115), some (vi a1)] [] τ3 (qv K)))))) :
    Z E y_Mod_readTerm d 5 [some (vr 115), some (vi a1)] [] σ (qv K) := by
  refine z_aload_n (pc := 5) (q := 0) (by decide +kernel) rfl ?_
  refine z_bipush (pc := 6) (n := 34) (by decide +kernel) (by decide) ⟨by decide, by decide⟩ ?_
  refine z_callv (pc := 8) (as := [vi 34]) ml_Mod_155 rfl ⟨rfl, by decide⟩ rfl rfl (Nat.le_of_ble_eq_true rfl) (dc := d - 1) (by omega) (by decide +kernel) (CI.z (CI.mono (fun x1 τ1 k => ?_) k))
  refine z_if_eq (pc := 11) (off := 18) 29 (by decide +kernel) (by decide) ⟨fun hc => ?_, fun hc => ?_⟩
  · have k := k.1 hc
    exact z_vret (pc := 29) (by decide +kernel) rfl k
  · have k := k.2 hc
    refine z_aload_n (pc := 14) (q := 0) (by decide +kernel) rfl ?_
    refine z_iload_n (pc := 15) (q := 1) (by decide +kernel) rfl ?_
    refine z_callv (pc := 16) (as := [vi a1]) ml_Mod_158 rfl ⟨rfl, by decide⟩ rfl rfl (Nat.le_of_ble_eq_true rfl) (dc := d - 1) (by omega) (by decide +kernel) (CV.z (CV.mono (fun τ2 k => ?_) k))
    refine z_aload_n (pc := 19) (q := 0) (by decide +kernel) rfl ?_
    refine z_sipush (pc := 20) (n := 3002) (by decide +kernel) (by decide) ⟨by decide, by decide⟩ ?_
    refine z_callv (pc := 23) (as := [vi 3002]) ml_Mod_143 rfl ⟨rfl, by decide⟩ rfl rfl (Nat.le_of_ble_eq_true rfl) (dc := d - 1) (by omega) (by decide +kernel) (CV.z (CV.mono (fun τ3 k => ?_) k))
    refine z_goto (pc := 26) (off := -21) 5 (by decide +kernel) (by decide) ?_
    exact k
theorem b_Mod_readSum_0 {E : EN} {d : Nat} {a1 : Int} {σ : Mem} {K : Mem → Prop}  (hd : 1 ≤ d) (k : CV E y_Mod_readTerm (d - 1) [vr 115, vi a1] σ (fun τ1 => Z E y_Mod_readSum d 5 [some (vr 115), some (vi a1), none] [] τ1 (qv K))) :
    Z E y_Mod_readSum d 0 [some (vr 115), some (vi a1), none] [] σ (qv K) := by
  refine z_aload_n (pc := 0) (q := 0) (by decide +kernel) rfl ?_
  refine z_iload_n (pc := 1) (q := 1) (by decide +kernel) rfl ?_
  refine z_callv (pc := 2) (as := [vi a1]) ml_Mod_161 rfl ⟨rfl, by decide⟩ rfl rfl (Nat.le_of_ble_eq_true rfl) (dc := d - 1) (by omega) (by decide +kernel) (CV.z (CV.mono (fun τ1 k => ?_) k))
  exact k
theorem b_Mod_readSum_5 {E : EN} {d : Nat} {a1 : Int} {o2 : Option AV} {σ : Mem} {K : Mem → Prop}  (hd : 1 ≤ d) (k : CI E y_Mod_is (d - 1) [vr 115, vi 32] σ (fun x1 τ1 => (x1 ≠ 0 → Z E y_Mod_readSum d 23 [some (vr 115), some (vi a1), o2] [] τ1 (qv K)) ∧ (x1 = 0 → CI E y_Mod_is (d - 1) [vr 115, vi 33] τ1 (fun x2 τ2 => (x2 = 0 → K τ2) ∧ (x2 ≠ 0 → Z E y_Mod_readSum d 23 [some (vr 115), some (vi a1), o2] [] τ2 (qv K)))))) :
    Z E y_Mod_readSum d 5 [some (vr 115), some (vi a1), o2] [] σ (qv K) := by
  refine z_aload_n (pc := 5) (q := 0) (by decide +kernel) rfl ?_
  refine z_bipush (pc := 6) (n := 32) (by decide +kernel) (by decide) ⟨by decide, by decide⟩ ?_
  refine z_callv (pc := 8) (as := [vi 32]) ml_Mod_126 rfl ⟨rfl, by decide⟩ rfl rfl (Nat.le_of_ble_eq_true rfl) (dc := d - 1) (by omega) (by decide +kernel) (CI.z (CI.mono (fun x1 τ1 k => ?_) k))
  refine z_if_ne (pc := 11) (off := 12) 23 (by decide +kernel) (by decide) ⟨fun hc => ?_, fun hc => ?_⟩
  · have k := k.1 hc
    exact k
  · have k := k.2 hc
    refine z_aload_n (pc := 14) (q := 0) (by decide +kernel) rfl ?_
    refine z_bipush (pc := 15) (n := 33) (by decide +kernel) (by decide) ⟨by decide, by decide⟩ ?_
    refine z_callv (pc := 17) (as := [vi 33]) ml_Mod_126 rfl ⟨rfl, by decide⟩ rfl rfl (Nat.le_of_ble_eq_true rfl) (dc := d - 1) (by omega) (by decide +kernel) (CI.z (CI.mono (fun x2 τ2 k => ?_) k))
    refine z_if_eq (pc := 20) (off := 39) 59 (by decide +kernel) (by decide) ⟨fun hc => ?_, fun hc => ?_⟩
    · have k := k.1 hc
      exact z_vret (pc := 59) (by decide +kernel) rfl k
    · have k := k.2 hc
      exact k
theorem b_Mod_readSum_23 {E : EN} {d : Nat} {a1 : Int} {o2 : Option AV} {σ : Mem} {K : Mem → Prop}  (hd : 1 ≤ d) (k : (σ 115 9 ≠ 32 → CV E y_Mod_next (d - 1) [vr 115] σ (fun τ1 => CV E y_Mod_readTerm (d - 1) [vr 115, vi a1] τ1 (fun τ2 => CV E y_Mod_codes (d - 1) [vr 115, vi 3001] τ2 (fun τ3 => Z E y_Mod_readSum d 5 [some (vr 115), some (vi a1), some (vi 3001)] [] τ3 (qv K))))) ∧ (σ 115 9 = 32 → CV E y_Mod_next (d - 1) [vr 115] σ (fun τ4 => CV E y_Mod_readTerm (d - 1) [vr 115, vi a1] τ4 (fun τ5 => CV E y_Mod_codes (d - 1) [vr 115, vi 3000] τ5 (fun τ6 => Z E y_Mod_readSum d 5 [some (vr 115), some (vi a1), some (vi 3000)] [] τ6 (qv K)))))) :
    Z E y_Mod_readSum d 23 [some (vr 115), some (vi a1), o2] [] σ (qv K) := by
  refine z_aload_n (pc := 23) (q := 0) (by decide +kernel) rfl ?_
  refine z_getI (pc := 24) 9 fl_Mod_102 rfl (by decide) rfl (by decide +kernel) ?_
  refine z_bipush (pc := 27) (n := 32) (by decide +kernel) (by decide) ⟨by decide, by decide⟩ ?_
  refine z_icmp_ne (pc := 29) (off := 9) 38 (by decide +kernel) (by decide) ⟨fun hc => ?_, fun hc => ?_⟩
  · have k := k.1 hc
    refine z_sipush (pc := 38) (n := 3001) (by decide +kernel) (by decide) ⟨by decide, by decide⟩ ?_
    refine z_istore_n (pc := 41) (q := 2) [some (vr 115), some (vi a1), some (vi 3001)] (by decide +kernel) (Nat.le_of_ble_eq_true rfl) rfl ?_
    refine z_aload_n (pc := 42) (q := 0) (by decide +kernel) rfl ?_
    refine z_callv (pc := 43) (as := []) ml_Mod_129 rfl ⟨rfl, by decide⟩ rfl rfl (Nat.le_of_ble_eq_true rfl) (dc := d - 1) (by omega) (by decide +kernel) (CV.z (CV.mono (fun τ1 k => ?_) k))
    refine z_aload_n (pc := 46) (q := 0) (by decide +kernel) rfl ?_
    refine z_iload_n (pc := 47) (q := 1) (by decide +kernel) rfl ?_
    refine z_callv (pc := 48) (as := [vi a1]) ml_Mod_161 rfl ⟨rfl, by decide⟩ rfl rfl (Nat.le_of_ble_eq_true rfl) (dc := d - 1) (by omega) (by decide +kernel) (CV.z (CV.mono (fun τ2 k => ?_) k))
    refine z_aload_n (pc := 51) (q := 0) (by decide +kernel) rfl ?_
    refine z_iload_n (pc := 52) (q := 2) (by decide +kernel) rfl ?_
    refine z_callv (pc := 53) (as := [vi 3001]) ml_Mod_143 rfl ⟨rfl, by decide⟩ rfl rfl (Nat.le_of_ble_eq_true rfl) (dc := d - 1) (by omega) (by decide +kernel) (CV.z (CV.mono (fun τ3 k => ?_) k))
    refine z_goto (pc := 56) (off := -51) 5 (by decide +kernel) (by decide) ?_
    exact k
  · have k := k.2 hc
    refine z_sipush (pc := 32) (n := 3000) (by decide +kernel) (by decide) ⟨by decide, by decide⟩ ?_
    refine z_goto (pc := 35) (off := 6) 41 (by decide +kernel) (by decide) ?_
    refine z_istore_n (pc := 41) (q := 2) [some (vr 115), some (vi a1), some (vi 3000)] (by decide +kernel) (Nat.le_of_ble_eq_true rfl) rfl ?_
    refine z_aload_n (pc := 42) (q := 0) (by decide +kernel) rfl ?_
    refine z_callv (pc := 43) (as := []) ml_Mod_129 rfl ⟨rfl, by decide⟩ rfl rfl (Nat.le_of_ble_eq_true rfl) (dc := d - 1) (by omega) (by decide +kernel) (CV.z (CV.mono (fun τ4 k => ?_) k))
    refine z_aload_n (pc := 46) (q := 0) (by decide +kernel) rfl ?_
    refine z_iload_n (pc := 47) (q := 1) (by decide +kernel) rfl ?_
    refine z_callv (pc := 48) (as := [vi a1]) ml_Mod_161 rfl ⟨rfl, by decide⟩ rfl rfl (Nat.le_of_ble_eq_true rfl) (dc := d - 1) (by omega) (by decide +kernel) (CV.z (CV.mono (fun τ5 k => ?_) k))
    refine z_aload_n (pc := 51) (q := 0) (by decide +kernel) rfl ?_
    refine z_iload_n (pc := 52) (q := 2) (by decide +kernel) rfl ?_
    refine z_callv (pc := 53) (as := [vi 3000]) ml_Mod_143 rfl ⟨rfl, by decide⟩ rfl rfl (Nat.le_of_ble_eq_true rfl) (dc := d - 1) (by omega) (by decide +kernel) (CV.z (CV.mono (fun τ6 k => ?_) k))
    refine z_goto (pc := 56) (off := -51) 5 (by decide +kernel) (by decide) ?_
    exact k
theorem b_Mod_readHand_0 {E : EN} {d : Nat}  {σ : Mem} {K : Mem → Prop}  (hd : 1 ≤ d) (k : (σ 119 2 ≠ 3 → (σ 115 11 = 0 → CV E y_Mod_next (d - 1) [vr 115] σ (fun τ1 => Z E y_Mod_readHand d 33 [some (vr 115), some (vi (σ 119 2)), some (vi 0), some (vi 0), none] [] τ1 (qv K))) ∧ (σ 115 11 ≠ 0 → K σ)) ∧ (σ 119 2 = 3 → CV E y_Mod_fails (d - 1) [vr 115, vi 4] σ (fun τ2 => (τ2 115 11 = 0 → CV E y_Mod_next (d - 1) [vr 115] τ2 (fun τ3 => Z E y_Mod_readHand d 33 [some (vr 115), some (vi (σ 119 2)), some (vi 0), some (vi 0), none] [] τ3 (qv K))) ∧ (τ2 115 11 ≠ 0 → K τ2)))) :
    Z E y_Mod_readHand d 0 [some (vr 115), none, none, none, none] [] σ (qv K) := by
  refine z_aload_n (pc := 0) (q := 0) (by decide +kernel) rfl ?_
  refine z_getR (pc := 1) 119 fl_Mod_24 rfl rfl rfl (by decide +kernel) ?_
  refine z_iconst (pc := 4) (n := 2) (by decide +kernel) ⟨by decide, by decide⟩ ?_
  refine z_iald (pc := 5) rfl ⟨by decide, by decide⟩ (by decide +kernel) ?_
  refine z_istore_n (pc := 6) (q := 1) [some (vr 115), some (vi (σ 119 2)), none, none, none] (by decide +kernel) (Nat.le_of_ble_eq_true rfl) rfl ?_
  refine z_iload_n (pc := 7) (q := 1) (by decide +kernel) rfl ?_
  refine z_iconst (pc := 8) (n := 3) (by decide +kernel) ⟨by decide, by decide⟩ ?_
  refine z_icmp_ne (pc := 9) (off := 8) 17 (by decide +kernel) (by decide) ⟨fun hc => ?_, fun hc => ?_⟩
  · have k := k.1 hc
    refine z_aload_n (pc := 17) (q := 0) (by decide +kernel) rfl ?_
    refine z_getI (pc := 18) 11 fl_Mod_120 rfl (by decide) rfl (by decide +kernel) ?_
    refine z_if_eq (pc := 21) (off := 4) 25 (by decide +kernel) (by decide) ⟨fun hc => ?_, fun hc => ?_⟩
    · have k := k.1 hc
      refine z_aload_n (pc := 25) (q := 0) (by decide +kernel) rfl ?_
      refine z_callv (pc := 26) (as := []) ml_Mod_129 rfl ⟨rfl, by decide⟩ rfl rfl (Nat.le_of_ble_eq_true rfl) (dc := d - 1) (by omega) (by decide +kernel) (CV.z (CV.mono (fun τ1 k => ?_) k))
      refine z_iconst (pc := 29) (n := 0) (by decide +kernel) ⟨by decide, by decide⟩ ?_
      refine z_istore_n (pc := 30) (q := 2) [some (vr 115), some (vi (σ 119 2)), some (vi 0), none, none] (by decide +kernel) (Nat.le_of_ble_eq_true rfl) rfl ?_
      refine z_iconst (pc := 31) (n := 0) (by decide +kernel) ⟨by decide, by decide⟩ ?_
      refine z_istore_n (pc := 32) (q := 3) [some (vr 115), some (vi (σ 119 2)), some (vi 0), some (vi 0), none] (by decide +kernel) (Nat.le_of_ble_eq_true rfl) rfl ?_
      exact k
    · have k := k.2 hc
      exact z_vret (pc := 24) (by decide +kernel) rfl k
  · have k := k.2 hc
    refine z_aload_n (pc := 12) (q := 0) (by decide +kernel) rfl ?_
    refine z_iconst (pc := 13) (n := 4) (by decide +kernel) ⟨by decide, by decide⟩ ?_
    refine z_callv (pc := 14) (as := [vi 4]) ml_Mod_132 rfl ⟨rfl, by decide⟩ rfl rfl (Nat.le_of_ble_eq_true rfl) (dc := d - 1) (by omega) (by decide +kernel) (CV.z (CV.mono (fun τ2 k => ?_) k))
    refine z_aload_n (pc := 17) (q := 0) (by decide +kernel) rfl ?_
    refine z_getI (pc := 18) 11 fl_Mod_120 rfl (by decide) rfl (by decide +kernel) ?_
    refine z_if_eq (pc := 21) (off := 4) 25 (by decide +kernel) (by decide) ⟨fun hc => ?_, fun hc => ?_⟩
    · have k := k.1 hc
      refine z_aload_n (pc := 25) (q := 0) (by decide +kernel) rfl ?_
      refine z_callv (pc := 26) (as := []) ml_Mod_129 rfl ⟨rfl, by decide⟩ rfl rfl (Nat.le_of_ble_eq_true rfl) (dc := d - 1) (by omega) (by decide +kernel) (CV.z (CV.mono (fun τ3 k => ?_) k))
      refine z_iconst (pc := 29) (n := 0) (by decide +kernel) ⟨by decide, by decide⟩ ?_
      refine z_istore_n (pc := 30) (q := 2) [some (vr 115), some (vi (σ 119 2)), some (vi 0), none, none] (by decide +kernel) (Nat.le_of_ble_eq_true rfl) rfl ?_
      refine z_iconst (pc := 31) (n := 0) (by decide +kernel) ⟨by decide, by decide⟩ ?_
      refine z_istore_n (pc := 32) (q := 3) [some (vr 115), some (vi (σ 119 2)), some (vi 0), some (vi 0), none] (by decide +kernel) (Nat.le_of_ble_eq_true rfl) rfl ?_
      exact k
    · have k := k.2 hc
      exact z_vret (pc := 24) (by decide +kernel) rfl k
theorem b_Mod_readHand_33 {E : EN} {d : Nat} {a1 : Int} {a2 : Int} {a3 : Int} {o4 : Option AV} {σ : Mem} {K : Mem → Prop}  (hd : 1 ≤ d) (k : (σ 115 11 ≠ 0 → CI E y_Mod_eats (d - 1) [vr 115, vi 2] σ (fun x1 τ1 => (x1 = 0 → Z E y_Mod_readHand d 99 [some (vr 115), some (vi a1), some (vi a2), some (vi a3), o4] [vi 0] τ1 (qv K)) ∧ (x1 ≠ 0 → CI E y_Mod_takesN (d - 1) [vr 115, vi 0, vi 9] τ1 (fun x2 τ2 => Z E y_Mod_readHand d 99 [some (vr 115), some (vi a1), some (vi a2), some (vi a3), o4] [vi x2] τ2 (qv K))))) ∧ (σ 115 11 = 0 → (a3 = 0 → Z E y_Mod_readHand d 53 [some (vr 115), some (vi a1), some (vi a2), some (vi a3), o4] [] σ (qv K)) ∧ (a3 ≠ 0 → CI E y_Mod_is (d - 1) [vr 115, vi 23] σ (fun x3 τ3 => (x3 = 0 → CI E y_Mod_eats (d - 1) [vr 115, vi 2] τ3 (fun x4 τ4 => (x4 = 0 → Z E y_Mod_readHand d 99 [some (vr 115), some (vi a1), some (vi a2), some (vi a3), o4] [vi 0] τ4 (qv K)) ∧ (x4 ≠ 0 → CI E y_Mod_takesN (d - 1) [vr 115, vi 0, vi 9] τ4 (fun x5 τ5 => Z E y_Mod_readHand d 99 [some (vr 115), some (vi a1), some (vi a2), some (vi a3), o4] [vi x5] τ5 (qv K))))) ∧ (x3 ≠ 0 → Z E y_Mod_readHand d 53 [some (vr 115), some (vi a1), some (vi a2), some (vi a3), o4] [] τ3 (qv K)))))) :
    Z E y_Mod_readHand d 33 [some (vr 115), some (vi a1), some (vi a2), some (vi a3), o4] [] σ (qv K) := by
  refine z_aload_n (pc := 33) (q := 0) (by decide +kernel) rfl ?_
  refine z_getI (pc := 34) 11 fl_Mod_120 rfl (by decide) rfl (by decide +kernel) ?_
  refine z_if_ne (pc := 37) (off := 43) 80 (by decide +kernel) (by decide) ⟨fun hc => ?_, fun hc => ?_⟩
  · have k := k.1 hc
    refine z_aload_n (pc := 80) (q := 0) (by decide +kernel) rfl ?_
    refine z_iconst (pc := 81) (n := 2) (by decide +kernel) ⟨by decide, by decide⟩ ?_
    refine z_callv (pc := 82) (as := [vi 2]) ml_Mod_155 rfl ⟨rfl, by decide⟩ rfl rfl (Nat.le_of_ble_eq_true rfl) (dc := d - 1) (by omega) (by decide +kernel) (CI.z (CI.mono (fun x1 τ1 k => ?_) k))
    refine z_if_eq (pc := 85) (off := 13) 98 (by decide +kernel) (by decide) ⟨fun hc => ?_, fun hc => ?_⟩
    · have k := k.1 hc
      refine z_iconst (pc := 98) (n := 0) (by decide +kernel) ⟨by decide, by decide⟩ ?_
      exact k
    · have k := k.2 hc
      refine z_aload_n (pc := 88) (q := 0) (by decide +kernel) rfl ?_
      refine z_iconst (pc := 89) (n := 0) (by decide +kernel) ⟨by decide, by decide⟩ ?_
      refine z_bipush (pc := 90) (n := 9) (by decide +kernel) (by decide) ⟨by decide, by decide⟩ ?_
      refine z_callv (pc := 92) (as := [vi 0, vi 9]) ml_Mod_164 rfl ⟨rfl, by decide⟩ rfl rfl (Nat.le_of_ble_eq_true rfl) (dc := d - 1) (by omega) (by decide +kernel) (CI.z (CI.mono (fun x2 τ2 k => ?_) k))
      refine z_goto (pc := 95) (off := 4) 99 (by decide +kernel) (by decide) ?_
      exact k
  · have k := k.2 hc
    refine z_iload_n (pc := 40) (q := 3) (by decide +kernel) rfl ?_
    refine z_if_eq (pc := 41) (off := 12) 53 (by decide +kernel) (by decide) ⟨fun hc => ?_, fun hc => ?_⟩
    · have k := k.1 hc
      exact k
    · have k := k.2 hc
      refine z_aload_n (pc := 44) (q := 0) (by decide +kernel) rfl ?_
      refine z_bipush (pc := 45) (n := 23) (by decide +kernel) (by decide) ⟨by decide, by decide⟩ ?_
      refine z_callv (pc := 47) (as := [vi 23]) ml_Mod_126 rfl ⟨rfl, by decide⟩ rfl rfl (Nat.le_of_ble_eq_true rfl) (dc := d - 1) (by omega) (by decide +kernel) (CI.z (CI.mono (fun x3 τ3 k => ?_) k))
      refine z_if_eq (pc := 50) (off := 30) 80 (by decide +kernel) (by decide) ⟨fun hc => ?_, fun hc => ?_⟩
      · have k := k.1 hc
        refine z_aload_n (pc := 80) (q := 0) (by decide +kernel) rfl ?_
        refine z_iconst (pc := 81) (n := 2) (by decide +kernel) ⟨by decide, by decide⟩ ?_
        refine z_callv (pc := 82) (as := [vi 2]) ml_Mod_155 rfl ⟨rfl, by decide⟩ rfl rfl (Nat.le_of_ble_eq_true rfl) (dc := d - 1) (by omega) (by decide +kernel) (CI.z (CI.mono (fun x4 τ4 k => ?_) k))
        refine z_if_eq (pc := 85) (off := 13) 98 (by decide +kernel) (by decide) ⟨fun hc => ?_, fun hc => ?_⟩
        · have k := k.1 hc
          refine z_iconst (pc := 98) (n := 0) (by decide +kernel) ⟨by decide, by decide⟩ ?_
          exact k
        · have k := k.2 hc
          refine z_aload_n (pc := 88) (q := 0) (by decide +kernel) rfl ?_
          refine z_iconst (pc := 89) (n := 0) (by decide +kernel) ⟨by decide, by decide⟩ ?_
          refine z_bipush (pc := 90) (n := 9) (by decide +kernel) (by decide) ⟨by decide, by decide⟩ ?_
          refine z_callv (pc := 92) (as := [vi 0, vi 9]) ml_Mod_164 rfl ⟨rfl, by decide⟩ rfl rfl (Nat.le_of_ble_eq_true rfl) (dc := d - 1) (by omega) (by decide +kernel) (CI.z (CI.mono (fun x5 τ5 k => ?_) k))
          refine z_goto (pc := 95) (off := 4) 99 (by decide +kernel) (by decide) ?_
          exact k
      · have k := k.2 hc
        exact k
theorem b_Mod_readHand_99 {E : EN} {d : Nat} {a1 : Int} {a2 : Int} {o3 : Option AV} {o4 : Option AV} {s0 : Int} {σ : Mem} {K : Mem → Prop}  (k : (σ 115 11 = 0 → (0 ≤ w32 (27 + a1) ∧ w32 (27 + a1) < 1036) ∧ (0 ≤ w32 (30 + a1) ∧ w32 (30 + a1) < 1036) ∧ K (up (up (up σ 119 (w32 (27 + a1)) a2) 119 (w32 (30 + a1)) s0) 119 2 (w32 (((up (up σ 119 (w32 (27 + a1)) a2) 119 (w32 (30 + a1)) s0) 119 2) + 1)))) ∧ (σ 115 11 ≠ 0 → K σ)) :
    Z E y_Mod_readHand d 99 [some (vr 115), some (vi a1), some (vi a2), o3, o4] [vi s0] σ (qv K) := by
  refine z_forget (pc := 99) 3 [some (vr 115), some (vi a1), some (vi a2), none, o4] rfl ?_
  refine z_istore (pc := 99) (i := 4) [some (vr 115), some (vi a1), some (vi a2), none, some (vi s0)] (by decide +kernel) (Nat.le_of_ble_eq_true rfl) rfl ?_
  refine z_aload_n (pc := 101) (q := 0) (by decide +kernel) rfl ?_
  refine z_getI (pc := 102) 11 fl_Mod_120 rfl (by decide) rfl (by decide +kernel) ?_
  refine z_if_eq (pc := 105) (off := 4) 109 (by decide +kernel) (by decide) ⟨fun hc => ?_, fun hc => ?_⟩
  · have k := k.1 hc
    refine z_aload_n (pc := 109) (q := 0) (by decide +kernel) rfl ?_
    refine z_getR (pc := 110) 119 fl_Mod_24 rfl rfl rfl (by decide +kernel) ?_
    refine z_bipush (pc := 113) (n := 27) (by decide +kernel) (by decide) ⟨by decide, by decide⟩ ?_
    refine z_iload_n (pc := 115) (q := 1) (by decide +kernel) rfl ?_
    refine z_iadd (pc := 116) (by decide +kernel) ?_
    refine z_iload_n (pc := 117) (q := 2) (by decide +kernel) rfl ?_
    have hb1 := k.1
    have k := k.2
    refine z_iast (pc := 118) rfl hb1 (by decide +kernel) ?_
    refine z_aload_n (pc := 119) (q := 0) (by decide +kernel) rfl ?_
    refine z_getR (pc := 120) 119 fl_Mod_24 rfl rfl rfl (by decide +kernel) ?_
    refine z_bipush (pc := 123) (n := 30) (by decide +kernel) (by decide) ⟨by decide, by decide⟩ ?_
    refine z_iload_n (pc := 125) (q := 1) (by decide +kernel) rfl ?_
    refine z_iadd (pc := 126) (by decide +kernel) ?_
    refine z_iload (pc := 127) (i := 4) (by decide +kernel) rfl ?_
    have hb2 := k.1
    have k := k.2
    refine z_iast (pc := 129) rfl hb2 (by decide +kernel) ?_
    refine z_aload_n (pc := 130) (q := 0) (by decide +kernel) rfl ?_
    refine z_getR (pc := 131) 119 fl_Mod_24 rfl rfl rfl (by decide +kernel) ?_
    refine z_iconst (pc := 134) (n := 2) (by decide +kernel) ⟨by decide, by decide⟩ ?_
    refine z_dup2 (pc := 135) (by decide +kernel) rfl rfl ?_
    refine z_iald (pc := 136) rfl ⟨by decide, by decide⟩ (by decide +kernel) ?_
    refine z_iconst (pc := 137) (n := 1) (by decide +kernel) ⟨by decide, by decide⟩ ?_
    refine z_iadd (pc := 138) (by decide +kernel) ?_
    refine z_iast (pc := 139) rfl ⟨by decide, by decide⟩ (by decide +kernel) ?_
    exact z_vret (pc := 140) (by decide +kernel) rfl k
  · have k := k.2 hc
    exact z_vret (pc := 108) (by decide +kernel) rfl k
theorem b_Mod_readHand_53 {E : EN} {d : Nat} {a1 : Int} {a2 : Int} {o3 : Option AV} {o4 : Option AV} {σ : Mem} {K : Mem → Prop}  (hd : 1 ≤ d) (k : CI E y_Mod_takesN (d - 1) [vr 115, vi 0, vi 3] σ (fun x1 τ1 => (τ1 115 11 ≠ 0 → Z E y_Mod_readHand d 33 [some (vr 115), some (vi a1), some (vi a2), some (vi 1), some (vi x1)] [] τ1 (qv K)) ∧ (τ1 115 11 = 0 → Z E y_Mod_readHand d 33 [some (vr 115), some (vi a1), some (vi (ior a2 (ish 1 x1))), some (vi 1), some (vi x1)] [] τ1 (qv K)))) :
    Z E y_Mod_readHand d 53 [some (vr 115), some (vi a1), some (vi a2), o3, o4] [] σ (qv K) := by
  refine z_aload_n (pc := 53) (q := 0) (by decide +kernel) rfl ?_
  refine z_iconst (pc := 54) (n := 0) (by decide +kernel) ⟨by decide, by decide⟩ ?_
  refine z_iconst (pc := 55) (n := 3) (by decide +kernel) ⟨by decide, by decide⟩ ?_
  refine z_callv (pc := 56) (as := [vi 0, vi 3]) ml_Mod_164 rfl ⟨rfl, by decide⟩ rfl rfl (Nat.le_of_ble_eq_true rfl) (dc := d - 1) (by omega) (by decide +kernel) (CI.z (CI.mono (fun x1 τ1 k => ?_) k))
  refine z_forget (pc := 59) 3 [some (vr 115), some (vi a1), some (vi a2), none, o4] rfl ?_
  refine z_istore (pc := 59) (i := 4) [some (vr 115), some (vi a1), some (vi a2), none, some (vi x1)] (by decide +kernel) (Nat.le_of_ble_eq_true rfl) rfl ?_
  refine z_aload_n (pc := 61) (q := 0) (by decide +kernel) rfl ?_
  refine z_getI (pc := 62) 11 fl_Mod_120 rfl (by decide) rfl (by decide +kernel) ?_
  refine z_if_ne (pc := 65) (off := 10) 75 (by decide +kernel) (by decide) ⟨fun hc => ?_, fun hc => ?_⟩
  · have k := k.1 hc
    refine z_iconst (pc := 75) (n := 1) (by decide +kernel) ⟨by decide, by decide⟩ ?_
    refine z_istore_n (pc := 76) (q := 3) [some (vr 115), some (vi a1), some (vi a2), some (vi 1), some (vi x1)] (by decide +kernel) (Nat.le_of_ble_eq_true rfl) rfl ?_
    refine z_goto (pc := 77) (off := -44) 33 (by decide +kernel) (by decide) ?_
    exact k
  · have k := k.2 hc
    refine z_iload_n (pc := 68) (q := 2) (by decide +kernel) rfl ?_
    refine z_iconst (pc := 69) (n := 1) (by decide +kernel) ⟨by decide, by decide⟩ ?_
    refine z_iload (pc := 70) (i := 4) (by decide +kernel) rfl ?_
    refine z_ishl (pc := 72) (by decide +kernel) ?_
    refine z_ior (pc := 73) (by decide +kernel) ?_
    refine z_istore_n (pc := 74) (q := 2) [some (vr 115), some (vi a1), some (vi (ior a2 (ish 1 x1))), none, some (vi x1)] (by decide +kernel) (Nat.le_of_ble_eq_true rfl) rfl ?_
    refine z_iconst (pc := 75) (n := 1) (by decide +kernel) ⟨by decide, by decide⟩ ?_
    refine z_istore_n (pc := 76) (q := 3) [some (vr 115), some (vi a1), some (vi (ior a2 (ish 1 x1))), some (vi 1), some (vi x1)] (by decide +kernel) (Nat.le_of_ble_eq_true rfl) rfl ?_
    refine z_goto (pc := 77) (off := -44) 33 (by decide +kernel) (by decide) ?_
    exact k
theorem b_Mod_readCourt_0 {E : EN} {d : Nat}  {σ : Mem} {K : Mem → Prop}  (hd : 1 ≤ d) (k : (σ 119 3 ≠ 4 → Z E y_Mod_readCourt d 17 [some (vr 115), some (vi (σ 119 3)), none] [] σ (qv K)) ∧ (σ 119 3 = 4 → CV E y_Mod_fails (d - 1) [vr 115, vi 4] σ (fun τ1 => Z E y_Mod_readCourt d 17 [some (vr 115), some (vi (σ 119 3)), none] [] τ1 (qv K)))) :
    Z E y_Mod_readCourt d 0 [some (vr 115), none, none] [] σ (qv K) := by
  refine z_aload_n (pc := 0) (q := 0) (by decide +kernel) rfl ?_
  refine z_getR (pc := 1) 119 fl_Mod_24 rfl rfl rfl (by decide +kernel) ?_
  refine z_iconst (pc := 4) (n := 3) (by decide +kernel) ⟨by decide, by decide⟩ ?_
  refine z_iald (pc := 5) rfl ⟨by decide, by decide⟩ (by decide +kernel) ?_
  refine z_istore_n (pc := 6) (q := 1) [some (vr 115), some (vi (σ 119 3)), none] (by decide +kernel) (Nat.le_of_ble_eq_true rfl) rfl ?_
  refine z_iload_n (pc := 7) (q := 1) (by decide +kernel) rfl ?_
  refine z_iconst (pc := 8) (n := 4) (by decide +kernel) ⟨by decide, by decide⟩ ?_
  refine z_icmp_ne (pc := 9) (off := 8) 17 (by decide +kernel) (by decide) ⟨fun hc => ?_, fun hc => ?_⟩
  · have k := k.1 hc
    exact k
  · have k := k.2 hc
    refine z_aload_n (pc := 12) (q := 0) (by decide +kernel) rfl ?_
    refine z_iconst (pc := 13) (n := 4) (by decide +kernel) ⟨by decide, by decide⟩ ?_
    refine z_callv (pc := 14) (as := [vi 4]) ml_Mod_132 rfl ⟨rfl, by decide⟩ rfl rfl (Nat.le_of_ble_eq_true rfl) (dc := d - 1) (by omega) (by decide +kernel) (CV.z (CV.mono (fun τ1 k => ?_) k))
    exact k
theorem b_Mod_readCourt_17 {E : EN} {d : Nat} {a1 : Int} {o2 : Option AV} {σ : Mem} {K : Mem → Prop}  (hd : 1 ≤ d) (k : (σ 115 11 = 0 → CV E y_Mod_next (d - 1) [vr 115] σ (fun τ1 => CI E y_Mod_takesN (d - 1) [vr 115, vi 0, vi 100] τ1 (fun x2 τ2 => (τ2 115 11 = 0 → (0 ≤ w32 (33 + a1) ∧ w32 (33 + a1) < 1036) ∧ K (up (up τ2 119 (w32 (33 + a1)) x2) 119 3 (w32 (((up τ2 119 (w32 (33 + a1)) x2) 119 3) + 1)))) ∧ (τ2 115 11 ≠ 0 → K τ2)))) ∧ (σ 115 11 ≠ 0 → K σ)) :
    Z E y_Mod_readCourt d 17 [some (vr 115), some (vi a1), o2] [] σ (qv K) := by
  refine z_aload_n (pc := 17) (q := 0) (by decide +kernel) rfl ?_
  refine z_getI (pc := 18) 11 fl_Mod_120 rfl (by decide) rfl (by decide +kernel) ?_
  refine z_if_eq (pc := 21) (off := 4) 25 (by decide +kernel) (by decide) ⟨fun hc => ?_, fun hc => ?_⟩
  · have k := k.1 hc
    refine z_aload_n (pc := 25) (q := 0) (by decide +kernel) rfl ?_
    refine z_callv (pc := 26) (as := []) ml_Mod_129 rfl ⟨rfl, by decide⟩ rfl rfl (Nat.le_of_ble_eq_true rfl) (dc := d - 1) (by omega) (by decide +kernel) (CV.z (CV.mono (fun τ1 k => ?_) k))
    refine z_aload_n (pc := 29) (q := 0) (by decide +kernel) rfl ?_
    refine z_iconst (pc := 30) (n := 0) (by decide +kernel) ⟨by decide, by decide⟩ ?_
    refine z_bipush (pc := 31) (n := 100) (by decide +kernel) (by decide) ⟨by decide, by decide⟩ ?_
    refine z_callv (pc := 33) (as := [vi 0, vi 100]) ml_Mod_164 rfl ⟨rfl, by decide⟩ rfl rfl (Nat.le_of_ble_eq_true rfl) (dc := d - 1) (by omega) (by decide +kernel) (CI.z (CI.mono (fun x2 τ2 k => ?_) k))
    refine z_istore_n (pc := 36) (q := 2) [some (vr 115), some (vi a1), some (vi x2)] (by decide +kernel) (Nat.le_of_ble_eq_true rfl) rfl ?_
    refine z_aload_n (pc := 37) (q := 0) (by decide +kernel) rfl ?_
    refine z_getI (pc := 38) 11 fl_Mod_120 rfl (by decide) rfl (by decide +kernel) ?_
    refine z_if_eq (pc := 41) (off := 4) 45 (by decide +kernel) (by decide) ⟨fun hc => ?_, fun hc => ?_⟩
    · have k := k.1 hc
      refine z_aload_n (pc := 45) (q := 0) (by decide +kernel) rfl ?_
      refine z_getR (pc := 46) 119 fl_Mod_24 rfl rfl rfl (by decide +kernel) ?_
      refine z_bipush (pc := 49) (n := 33) (by decide +kernel) (by decide) ⟨by decide, by decide⟩ ?_
      refine z_iload_n (pc := 51) (q := 1) (by decide +kernel) rfl ?_
      refine z_iadd (pc := 52) (by decide +kernel) ?_
      refine z_iload_n (pc := 53) (q := 2) (by decide +kernel) rfl ?_
      have hb1 := k.1
      have k := k.2
      refine z_iast (pc := 54) rfl hb1 (by decide +kernel) ?_
      refine z_aload_n (pc := 55) (q := 0) (by decide +kernel) rfl ?_
      refine z_getR (pc := 56) 119 fl_Mod_24 rfl rfl rfl (by decide +kernel) ?_
      refine z_iconst (pc := 59) (n := 3) (by decide +kernel) ⟨by decide, by decide⟩ ?_
      refine z_dup2 (pc := 60) (by decide +kernel) rfl rfl ?_
      refine z_iald (pc := 61) rfl ⟨by decide, by decide⟩ (by decide +kernel) ?_
      refine z_iconst (pc := 62) (n := 1) (by decide +kernel) ⟨by decide, by decide⟩ ?_
      refine z_iadd (pc := 63) (by decide +kernel) ?_
      refine z_iast (pc := 64) rfl ⟨by decide, by decide⟩ (by decide +kernel) ?_
      exact z_vret (pc := 65) (by decide +kernel) rfl k
    · have k := k.2 hc
      exact z_vret (pc := 44) (by decide +kernel) rfl k
  · have k := k.2 hc
    exact z_vret (pc := 24) (by decide +kernel) rfl k
theorem b_Mod_readFlag_0 {E : EN} {d : Nat} {a1 : Int} {σ : Mem} {K : Int → Mem → Prop}  (hd : 1 ≤ d) (k : CI E y_Mod_eats (d - 1) [vr 115, vi 6] σ (fun x1 τ1 => (x1 = 0 → CI E y_Mod_eats (d - 1) [vr 115, vi 7] τ1 (fun x2 τ2 => (x2 = 0 → CI E y_Mod_eats (d - 1) [vr 115, vi 8] τ2 (fun x3 τ3 => (x3 = 0 → CI E y_Mod_eats (d - 1) [vr 115, vi 9] τ3 (fun x4 τ4 => (x4 = 0 → CI E y_Mod_eats (d - 1) [vr 115, vi 10] τ4 (fun x5 τ5 => (x5 = 0 → K 0 τ5) ∧ (x5 ≠ 0 → CI E y_Mod_eats (d - 1) [vr 115, vi 11] τ5 (fun x6 τ6 => (x6 = 0 → CI E y_Mod_eats (d - 1) [vr 115, vi 12] τ6 (fun x7 τ7 => (x7 = 0 → CV E y_Mod_fails (d - 1) [vr 115, vi 2] τ7 (fun τ8 => Z E y_Mod_readFlag d 175 [some (vr 115), some (vi a1)] [] τ8 (qi K))) ∧ (x7 ≠ 0 → (0 ≤ w32 (73 + a1) ∧ w32 (73 + a1) < 1036) ∧ Z E y_Mod_readFlag d 175 [some (vr 115), some (vi a1)] [] (up τ7 119 (w32 (73 + a1)) 2) (qi K)))) ∧ (x6 ≠ 0 → (0 ≤ w32 (73 + a1) ∧ w32 (73 + a1) < 1036) ∧ Z E y_Mod_readFlag d 175 [some (vr 115), some (vi a1)] [] (up τ6 119 (w32 (73 + a1)) 1) (qi K)))))) ∧ (x4 ≠ 0 → CI E y_Mod_takesN (d - 1) [vr 115, vi 0, vi 9] τ4 (fun x9 τ9 => (0 ≤ w32 (67 + a1) ∧ w32 (67 + a1) < 1036) ∧ Z E y_Mod_readFlag d 175 [some (vr 115), some (vi a1)] [] (up τ9 119 (w32 (67 + a1)) x9) (qi K))))) ∧ (x3 ≠ 0 → CI E y_Mod_takesN (d - 1) [vr 115, vi 0, vi 9] τ3 (fun x10 τ10 => (0 ≤ w32 (61 + a1) ∧ w32 (61 + a1) < 1036) ∧ Z E y_Mod_readFlag d 175 [some (vr 115), some (vi a1)] [] (up τ10 119 (w32 (61 + a1)) x10) (qi K))))) ∧ (x2 ≠ 0 → CI E y_Mod_takesN (d - 1) [vr 115, vi 0, vi 99] τ2 (fun x11 τ11 => (0 ≤ w32 (55 + a1) ∧ w32 (55 + a1) < 1036) ∧ Z E y_Mod_readFlag d 175 [some (vr 115), some (vi a1)] [] (up τ11 119 (w32 (55 + a1)) x11) (qi K))))) ∧ (x1 ≠ 0 → CI E y_Mod_takesN (d - 1) [vr 115, vi 1, vi 99] τ1 (fun x12 τ12 => (0 ≤ w32 (49 + a1) ∧ w32 (49 + a1) < 1036) ∧ Z E y_Mod_readFlag d 175 [some (vr 115), some (vi a1)] [] (up τ12 119 (w32 (49 + a1)) x12) (qi K))))) :
    Z E y_Mod_readFlag d 0 [some (vr 115), some (vi a1)] [] σ (qi K) := by
  refine z_aload_n (pc := 0) (q := 0) (by decide +kernel) rfl ?_
  refine z_bipush (pc := 1) (n := 6) (by decide +kernel) (by decide) ⟨by decide, by decide⟩ ?_
  refine z_callv (pc := 3) (as := [vi 6]) ml_Mod_155 rfl ⟨rfl, by decide⟩ rfl rfl (Nat.le_of_ble_eq_true rfl) (dc := d - 1) (by omega) (by decide +kernel) (CI.z (CI.mono (fun x1 τ1 k => ?_) k))
  refine z_if_eq (pc := 6) (off := 22) 28 (by decide +kernel) (by decide) ⟨fun hc => ?_, fun hc => ?_⟩
  · have k := k.1 hc
    refine z_aload_n (pc := 28) (q := 0) (by decide +kernel) rfl ?_
    refine z_bipush (pc := 29) (n := 7) (by decide +kernel) (by decide) ⟨by decide, by decide⟩ ?_
    refine z_callv (pc := 31) (as := [vi 7]) ml_Mod_155 rfl ⟨rfl, by decide⟩ rfl rfl (Nat.le_of_ble_eq_true rfl) (dc := d - 1) (by omega) (by decide +kernel) (CI.z (CI.mono (fun x2 τ2 k => ?_) k))
    refine z_if_eq (pc := 34) (off := 22) 56 (by decide +kernel) (by decide) ⟨fun hc => ?_, fun hc => ?_⟩
    · have k := k.1 hc
      refine z_aload_n (pc := 56) (q := 0) (by decide +kernel) rfl ?_
      refine z_bipush (pc := 57) (n := 8) (by decide +kernel) (by decide) ⟨by decide, by decide⟩ ?_
      refine z_callv (pc := 59) (as := [vi 8]) ml_Mod_155 rfl ⟨rfl, by decide⟩ rfl rfl (Nat.le_of_ble_eq_true rfl) (dc := d - 1) (by omega) (by decide +kernel) (CI.z (CI.mono (fun x3 τ3 k => ?_) k))
      refine z_if_eq (pc := 62) (off := 22) 84 (by decide +kernel) (by decide) ⟨fun hc => ?_, fun hc => ?_⟩
      · have k := k.1 hc
        refine z_aload_n (pc := 84) (q := 0) (by decide +kernel) rfl ?_
        refine z_bipush (pc := 85) (n := 9) (by decide +kernel) (by decide) ⟨by decide, by decide⟩ ?_
        refine z_callv (pc := 87) (as := [vi 9]) ml_Mod_155 rfl ⟨rfl, by decide⟩ rfl rfl (Nat.le_of_ble_eq_true rfl) (dc := d - 1) (by omega) (by decide +kernel) (CI.z (CI.mono (fun x4 τ4 k => ?_) k))
        refine z_if_eq (pc := 90) (off := 22) 112 (by decide +kernel) (by decide) ⟨fun hc => ?_, fun hc => ?_⟩
        · have k := k.1 hc
          refine z_aload_n (pc := 112) (q := 0) (by decide +kernel) rfl ?_
          refine z_bipush (pc := 113) (n := 10) (by decide +kernel) (by decide) ⟨by decide, by decide⟩ ?_
          refine z_callv (pc := 115) (as := [vi 10]) ml_Mod_155 rfl ⟨rfl, by decide⟩ rfl rfl (Nat.le_of_ble_eq_true rfl) (dc := d - 1) (by omega) (by decide +kernel) (CI.z (CI.mono (fun x5 τ5 k => ?_) k))
          refine z_if_eq (pc := 118) (off := 55) 173 (by decide +kernel) (by decide) ⟨fun hc => ?_, fun hc => ?_⟩
          · have k := k.1 hc
            refine z_iconst (pc := 173) (n := 0) (by decide +kernel) ⟨by decide, by decide⟩ ?_
            exact z_zret (pc := 174) (by decide +kernel) rfl ⟨by decide, k⟩
          · have k := k.2 hc
            refine z_aload_n (pc := 121) (q := 0) (by decide +kernel) rfl ?_
            refine z_bipush (pc := 122) (n := 11) (by decide +kernel) (by decide) ⟨by decide, by decide⟩ ?_
            refine z_callv (pc := 124) (as := [vi 11]) ml_Mod_155 rfl ⟨rfl, by decide⟩ rfl rfl (Nat.le_of_ble_eq_true rfl) (dc := d - 1) (by omega) (by decide +kernel) (CI.z (CI.mono (fun x6 τ6 k => ?_) k))
            refine z_if_eq (pc := 127) (off := 16) 143 (by decide +kernel) (by decide) ⟨fun hc => ?_, fun hc => ?_⟩
            · have k := k.1 hc
              refine z_aload_n (pc := 143) (q := 0) (by decide +kernel) rfl ?_
              refine z_bipush (pc := 144) (n := 12) (by decide +kernel) (by decide) ⟨by decide, by decide⟩ ?_
              refine z_callv (pc := 146) (as := [vi 12]) ml_Mod_155 rfl ⟨rfl, by decide⟩ rfl rfl (Nat.le_of_ble_eq_true rfl) (dc := d - 1) (by omega) (by decide +kernel) (CI.z (CI.mono (fun x7 τ7 k => ?_) k))
              refine z_if_eq (pc := 149) (off := 16) 165 (by decide +kernel) (by decide) ⟨fun hc => ?_, fun hc => ?_⟩
              · have k := k.1 hc
                refine z_aload_n (pc := 165) (q := 0) (by decide +kernel) rfl ?_
                refine z_iconst (pc := 166) (n := 2) (by decide +kernel) ⟨by decide, by decide⟩ ?_
                refine z_callv (pc := 167) (as := [vi 2]) ml_Mod_132 rfl ⟨rfl, by decide⟩ rfl rfl (Nat.le_of_ble_eq_true rfl) (dc := d - 1) (by omega) (by decide +kernel) (CV.z (CV.mono (fun τ8 k => ?_) k))
                refine z_goto (pc := 170) (off := 5) 175 (by decide +kernel) (by decide) ?_
                exact k
              · have k := k.2 hc
                refine z_aload_n (pc := 152) (q := 0) (by decide +kernel) rfl ?_
                refine z_getR (pc := 153) 119 fl_Mod_24 rfl rfl rfl (by decide +kernel) ?_
                refine z_bipush (pc := 156) (n := 73) (by decide +kernel) (by decide) ⟨by decide, by decide⟩ ?_
                refine z_iload_n (pc := 158) (q := 1) (by decide +kernel) rfl ?_
                refine z_iadd (pc := 159) (by decide +kernel) ?_
                refine z_iconst (pc := 160) (n := 2) (by decide +kernel) ⟨by decide, by decide⟩ ?_
                have hb1 := k.1
                have k := k.2
                refine z_iast (pc := 161) rfl hb1 (by decide +kernel) ?_
                refine z_goto (pc := 162) (off := 13) 175 (by decide +kernel) (by decide) ?_
                exact k
            · have k := k.2 hc
              refine z_aload_n (pc := 130) (q := 0) (by decide +kernel) rfl ?_
              refine z_getR (pc := 131) 119 fl_Mod_24 rfl rfl rfl (by decide +kernel) ?_
              refine z_bipush (pc := 134) (n := 73) (by decide +kernel) (by decide) ⟨by decide, by decide⟩ ?_
              refine z_iload_n (pc := 136) (q := 1) (by decide +kernel) rfl ?_
              refine z_iadd (pc := 137) (by decide +kernel) ?_
              refine z_iconst (pc := 138) (n := 1) (by decide +kernel) ⟨by decide, by decide⟩ ?_
              have hb2 := k.1
              have k := k.2
              refine z_iast (pc := 139) rfl hb2 (by decide +kernel) ?_
              refine z_goto (pc := 140) (off := 35) 175 (by decide +kernel) (by decide) ?_
              exact k
        · have k := k.2 hc
          refine z_aload_n (pc := 93) (q := 0) (by decide +kernel) rfl ?_
          refine z_getR (pc := 94) 119 fl_Mod_24 rfl rfl rfl (by decide +kernel) ?_
          refine z_bipush (pc := 97) (n := 67) (by decide +kernel) (by decide) ⟨by decide, by decide⟩ ?_
          refine z_iload_n (pc := 99) (q := 1) (by decide +kernel) rfl ?_
          refine z_iadd (pc := 100) (by decide +kernel) ?_
          refine z_aload_n (pc := 101) (q := 0) (by decide +kernel) rfl ?_
          refine z_iconst (pc := 102) (n := 0) (by decide +kernel) ⟨by decide, by decide⟩ ?_
          refine z_bipush (pc := 103) (n := 9) (by decide +kernel) (by decide) ⟨by decide, by decide⟩ ?_
          refine z_callv (pc := 105) (as := [vi 0, vi 9]) ml_Mod_164 rfl ⟨rfl, by decide⟩ rfl rfl (Nat.le_of_ble_eq_true rfl) (dc := d - 1) (by omega) (by decide +kernel) (CI.z (CI.mono (fun x9 τ9 k => ?_) k))
          have hb3 := k.1
          have k := k.2
          refine z_iast (pc := 108) rfl hb3 (by decide +kernel) ?_
          refine z_goto (pc := 109) (off := 66) 175 (by decide +kernel) (by decide) ?_
          exact k
      · have k := k.2 hc
        refine z_aload_n (pc := 65) (q := 0) (by decide +kernel) rfl ?_
        refine z_getR (pc := 66) 119 fl_Mod_24 rfl rfl rfl (by decide +kernel) ?_
        refine z_bipush (pc := 69) (n := 61) (by decide +kernel) (by decide) ⟨by decide, by decide⟩ ?_
        refine z_iload_n (pc := 71) (q := 1) (by decide +kernel) rfl ?_
        refine z_iadd (pc := 72) (by decide +kernel) ?_
        refine z_aload_n (pc := 73) (q := 0) (by decide +kernel) rfl ?_
        refine z_iconst (pc := 74) (n := 0) (by decide +kernel) ⟨by decide, by decide⟩ ?_
        refine z_bipush (pc := 75) (n := 9) (by decide +kernel) (by decide) ⟨by decide, by decide⟩ ?_
        refine z_callv (pc := 77) (as := [vi 0, vi 9]) ml_Mod_164 rfl ⟨rfl, by decide⟩ rfl rfl (Nat.le_of_ble_eq_true rfl) (dc := d - 1) (by omega) (by decide +kernel) (CI.z (CI.mono (fun x10 τ10 k => ?_) k))
        have hb4 := k.1
        have k := k.2
        refine z_iast (pc := 80) rfl hb4 (by decide +kernel) ?_
        refine z_goto (pc := 81) (off := 94) 175 (by decide +kernel) (by decide) ?_
        exact k
    · have k := k.2 hc
      refine z_aload_n (pc := 37) (q := 0) (by decide +kernel) rfl ?_
      refine z_getR (pc := 38) 119 fl_Mod_24 rfl rfl rfl (by decide +kernel) ?_
      refine z_bipush (pc := 41) (n := 55) (by decide +kernel) (by decide) ⟨by decide, by decide⟩ ?_
      refine z_iload_n (pc := 43) (q := 1) (by decide +kernel) rfl ?_
      refine z_iadd (pc := 44) (by decide +kernel) ?_
      refine z_aload_n (pc := 45) (q := 0) (by decide +kernel) rfl ?_
      refine z_iconst (pc := 46) (n := 0) (by decide +kernel) ⟨by decide, by decide⟩ ?_
      refine z_bipush (pc := 47) (n := 99) (by decide +kernel) (by decide) ⟨by decide, by decide⟩ ?_
      refine z_callv (pc := 49) (as := [vi 0, vi 99]) ml_Mod_164 rfl ⟨rfl, by decide⟩ rfl rfl (Nat.le_of_ble_eq_true rfl) (dc := d - 1) (by omega) (by decide +kernel) (CI.z (CI.mono (fun x11 τ11 k => ?_) k))
      have hb5 := k.1
      have k := k.2
      refine z_iast (pc := 52) rfl hb5 (by decide +kernel) ?_
      refine z_goto (pc := 53) (off := 122) 175 (by decide +kernel) (by decide) ?_
      exact k
  · have k := k.2 hc
    refine z_aload_n (pc := 9) (q := 0) (by decide +kernel) rfl ?_
    refine z_getR (pc := 10) 119 fl_Mod_24 rfl rfl rfl (by decide +kernel) ?_
    refine z_bipush (pc := 13) (n := 49) (by decide +kernel) (by decide) ⟨by decide, by decide⟩ ?_
    refine z_iload_n (pc := 15) (q := 1) (by decide +kernel) rfl ?_
    refine z_iadd (pc := 16) (by decide +kernel) ?_
    refine z_aload_n (pc := 17) (q := 0) (by decide +kernel) rfl ?_
    refine z_iconst (pc := 18) (n := 1) (by decide +kernel) ⟨by decide, by decide⟩ ?_
    refine z_bipush (pc := 19) (n := 99) (by decide +kernel) (by decide) ⟨by decide, by decide⟩ ?_
    refine z_callv (pc := 21) (as := [vi 1, vi 99]) ml_Mod_164 rfl ⟨rfl, by decide⟩ rfl rfl (Nat.le_of_ble_eq_true rfl) (dc := d - 1) (by omega) (by decide +kernel) (CI.z (CI.mono (fun x12 τ12 k => ?_) k))
    have hb6 := k.1
    have k := k.2
    refine z_iast (pc := 24) rfl hb6 (by decide +kernel) ?_
    refine z_goto (pc := 25) (off := 150) 175 (by decide +kernel) (by decide) ?_
    exact k
theorem b_Mod_readFlag_175 {E : EN} {d : Nat} {a1 : Int} {o1 : Option AV} {σ : Mem} {K : Int → Mem → Prop}  (k : (σ 115 11 ≠ 0 → K 0 σ) ∧ (σ 115 11 = 0 → K 1 σ)) :
    Z E y_Mod_readFlag d 175 [some (vr 115), o1] [] σ (qi K) := by
  refine z_aload_n (pc := 175) (q := 0) (by decide +kernel) rfl ?_
  refine z_getI (pc := 176) 11 fl_Mod_120 rfl (by decide) rfl (by decide +kernel) ?_
  refine z_if_ne (pc := 179) (off := 7) 186 (by decide +kernel) (by decide) ⟨fun hc => ?_, fun hc => ?_⟩
  · have k := k.1 hc
    refine z_iconst (pc := 186) (n := 0) (by decide +kernel) ⟨by decide, by decide⟩ ?_
    exact z_zret (pc := 187) (by decide +kernel) rfl ⟨by decide, k⟩
  · have k := k.2 hc
    refine z_iconst (pc := 182) (n := 1) (by decide +kernel) ⟨by decide, by decide⟩ ?_
    refine z_goto (pc := 183) (off := 4) 187 (by decide +kernel) (by decide) ?_
    exact z_zret (pc := 187) (by decide +kernel) rfl ⟨by decide, k⟩
theorem b_Mod_readLetter_0 {E : EN} {d : Nat}  {σ : Mem} {K : Mem → Prop}  (hd : 1 ≤ d) (k : (σ 119 4 ≠ 6 → Z E y_Mod_readLetter d 18 [some (vr 115), some (vi (σ 119 4))] [] σ (qv K)) ∧ (σ 119 4 = 6 → CV E y_Mod_fails (d - 1) [vr 115, vi 4] σ (fun τ1 => Z E y_Mod_readLetter d 18 [some (vr 115), some (vi (σ 119 4))] [] τ1 (qv K)))) :
    Z E y_Mod_readLetter d 0 [some (vr 115), none] [] σ (qv K) := by
  refine z_aload_n (pc := 0) (q := 0) (by decide +kernel) rfl ?_
  refine z_getR (pc := 1) 119 fl_Mod_24 rfl rfl rfl (by decide +kernel) ?_
  refine z_iconst (pc := 4) (n := 4) (by decide +kernel) ⟨by decide, by decide⟩ ?_
  refine z_iald (pc := 5) rfl ⟨by decide, by decide⟩ (by decide +kernel) ?_
  refine z_istore_n (pc := 6) (q := 1) [some (vr 115), some (vi (σ 119 4))] (by decide +kernel) (Nat.le_of_ble_eq_true rfl) rfl ?_
  refine z_iload_n (pc := 7) (q := 1) (by decide +kernel) rfl ?_
  refine z_bipush (pc := 8) (n := 6) (by decide +kernel) (by decide) ⟨by decide, by decide⟩ ?_
  refine z_icmp_ne (pc := 10) (off := 8) 18 (by decide +kernel) (by decide) ⟨fun hc => ?_, fun hc => ?_⟩
  · have k := k.1 hc
    exact k
  · have k := k.2 hc
    refine z_aload_n (pc := 13) (q := 0) (by decide +kernel) rfl ?_
    refine z_iconst (pc := 14) (n := 4) (by decide +kernel) ⟨by decide, by decide⟩ ?_
    refine z_callv (pc := 15) (as := [vi 4]) ml_Mod_132 rfl ⟨rfl, by decide⟩ rfl rfl (Nat.le_of_ble_eq_true rfl) (dc := d - 1) (by omega) (by decide +kernel) (CV.z (CV.mono (fun τ1 k => ?_) k))
    exact k
theorem b_Mod_readLetter_18 {E : EN} {d : Nat} {a1 : Int} {σ : Mem} {K : Mem → Prop}  (hd : 1 ≤ d) (k : (σ 115 11 = 0 → CV E y_Mod_next (d - 1) [vr 115] σ (fun τ1 => CI E y_Mod_takesN (d - 1) [vr 115, vi 0, vi (w32 ((τ1 119 3) - 1))] τ1 (fun x2 τ2 => (0 ≤ w32 (37 + a1) ∧ w32 (37 + a1) < 1036) ∧ CI E y_Mod_eats (d - 1) [vr 115, vi 5] (up τ2 119 (w32 (37 + a1)) x2) (fun x3 τ3 => (x3 ≠ 0 → Z E y_Mod_readLetter d 65 [some (vr 115), some (vi a1)] [] τ3 (qv K)) ∧ (x3 = 0 → CV E y_Mod_fails (d - 1) [vr 115, vi 2] τ3 (fun τ4 => Z E y_Mod_readLetter d 65 [some (vr 115), some (vi a1)] [] τ4 (qv K))))))) ∧ (σ 115 11 ≠ 0 → K σ)) :
    Z E y_Mod_readLetter d 18 [some (vr 115), some (vi a1)] [] σ (qv K) := by
  refine z_aload_n (pc := 18) (q := 0) (by decide +kernel) rfl ?_
  refine z_getI (pc := 19) 11 fl_Mod_120 rfl (by decide) rfl (by decide +kernel) ?_
  refine z_if_eq (pc := 22) (off := 4) 26 (by decide +kernel) (by decide) ⟨fun hc => ?_, fun hc => ?_⟩
  · have k := k.1 hc
    refine z_aload_n (pc := 26) (q := 0) (by decide +kernel) rfl ?_
    refine z_callv (pc := 27) (as := []) ml_Mod_129 rfl ⟨rfl, by decide⟩ rfl rfl (Nat.le_of_ble_eq_true rfl) (dc := d - 1) (by omega) (by decide +kernel) (CV.z (CV.mono (fun τ1 k => ?_) k))
    refine z_aload_n (pc := 30) (q := 0) (by decide +kernel) rfl ?_
    refine z_getR (pc := 31) 119 fl_Mod_24 rfl rfl rfl (by decide +kernel) ?_
    refine z_bipush (pc := 34) (n := 37) (by decide +kernel) (by decide) ⟨by decide, by decide⟩ ?_
    refine z_iload_n (pc := 36) (q := 1) (by decide +kernel) rfl ?_
    refine z_iadd (pc := 37) (by decide +kernel) ?_
    refine z_aload_n (pc := 38) (q := 0) (by decide +kernel) rfl ?_
    refine z_iconst (pc := 39) (n := 0) (by decide +kernel) ⟨by decide, by decide⟩ ?_
    refine z_aload_n (pc := 40) (q := 0) (by decide +kernel) rfl ?_
    refine z_getR (pc := 41) 119 fl_Mod_24 rfl rfl rfl (by decide +kernel) ?_
    refine z_iconst (pc := 44) (n := 3) (by decide +kernel) ⟨by decide, by decide⟩ ?_
    refine z_iald (pc := 45) rfl ⟨by decide, by decide⟩ (by decide +kernel) ?_
    refine z_iconst (pc := 46) (n := 1) (by decide +kernel) ⟨by decide, by decide⟩ ?_
    refine z_isub (pc := 47) (by decide +kernel) ?_
    refine z_callv (pc := 48) (as := [vi 0, vi (w32 ((τ1 119 3) - 1))]) ml_Mod_164 rfl ⟨rfl, by decide⟩ rfl rfl (Nat.le_of_ble_eq_true rfl) (dc := d - 1) (by omega) (by decide +kernel) (CI.z (CI.mono (fun x2 τ2 k => ?_) k))
    have hb1 := k.1
    have k := k.2
    refine z_iast (pc := 51) rfl hb1 (by decide +kernel) ?_
    refine z_aload_n (pc := 52) (q := 0) (by decide +kernel) rfl ?_
    refine z_iconst (pc := 53) (n := 5) (by decide +kernel) ⟨by decide, by decide⟩ ?_
    refine z_callv (pc := 54) (as := [vi 5]) ml_Mod_155 rfl ⟨rfl, by decide⟩ rfl rfl (Nat.le_of_ble_eq_true rfl) (dc := d - 1) (by omega) (by decide +kernel) (CI.z (CI.mono (fun x3 τ3 k => ?_) k))
    refine z_if_ne (pc := 57) (off := 8) 65 (by decide +kernel) (by decide) ⟨fun hc => ?_, fun hc => ?_⟩
    · have k := k.1 hc
      exact k
    · have k := k.2 hc
      refine z_aload_n (pc := 60) (q := 0) (by decide +kernel) rfl ?_
      refine z_iconst (pc := 61) (n := 2) (by decide +kernel) ⟨by decide, by decide⟩ ?_
      refine z_callv (pc := 62) (as := [vi 2]) ml_Mod_132 rfl ⟨rfl, by decide⟩ rfl rfl (Nat.le_of_ble_eq_true rfl) (dc := d - 1) (by omega) (by decide +kernel) (CV.z (CV.mono (fun τ4 k => ?_) k))
      exact k
  · have k := k.2 hc
    exact z_vret (pc := 25) (by decide +kernel) rfl k
theorem b_Mod_readLetter_65 {E : EN} {d : Nat} {a1 : Int} {σ : Mem} {K : Mem → Prop}  (hd : 1 ≤ d) (k : CI E y_Mod_takesN (d - 1) [vr 115, vi 0, vi 3] σ (fun x1 τ1 => (0 ≤ w32 (43 + a1) ∧ w32 (43 + a1) < 1036) ∧ (0 ≤ w32 (49 + a1) ∧ w32 (49 + a1) < 1036) ∧ (0 ≤ w32 (55 + a1) ∧ w32 (55 + a1) < 1036) ∧ Z E y_Mod_readLetter d 100 [some (vr 115), some (vi a1)] [] (up (up (up τ1 119 (w32 (43 + a1)) x1) 119 (w32 (49 + a1)) 1) 119 (w32 (55 + a1)) 1) (qv K))) :
    Z E y_Mod_readLetter d 65 [some (vr 115), some (vi a1)] [] σ (qv K) := by
  refine z_aload_n (pc := 65) (q := 0) (by decide +kernel) rfl ?_
  refine z_getR (pc := 66) 119 fl_Mod_24 rfl rfl rfl (by decide +kernel) ?_
  refine z_bipush (pc := 69) (n := 43) (by decide +kernel) (by decide) ⟨by decide, by decide⟩ ?_
  refine z_iload_n (pc := 71) (q := 1) (by decide +kernel) rfl ?_
  refine z_iadd (pc := 72) (by decide +kernel) ?_
  refine z_aload_n (pc := 73) (q := 0) (by decide +kernel) rfl ?_
  refine z_iconst (pc := 74) (n := 0) (by decide +kernel) ⟨by decide, by decide⟩ ?_
  refine z_iconst (pc := 75) (n := 3) (by decide +kernel) ⟨by decide, by decide⟩ ?_
  refine z_callv (pc := 76) (as := [vi 0, vi 3]) ml_Mod_164 rfl ⟨rfl, by decide⟩ rfl rfl (Nat.le_of_ble_eq_true rfl) (dc := d - 1) (by omega) (by decide +kernel) (CI.z (CI.mono (fun x1 τ1 k => ?_) k))
  have hb1 := k.1
  have k := k.2
  refine z_iast (pc := 79) rfl hb1 (by decide +kernel) ?_
  refine z_aload_n (pc := 80) (q := 0) (by decide +kernel) rfl ?_
  refine z_getR (pc := 81) 119 fl_Mod_24 rfl rfl rfl (by decide +kernel) ?_
  refine z_bipush (pc := 84) (n := 49) (by decide +kernel) (by decide) ⟨by decide, by decide⟩ ?_
  refine z_iload_n (pc := 86) (q := 1) (by decide +kernel) rfl ?_
  refine z_iadd (pc := 87) (by decide +kernel) ?_
  refine z_iconst (pc := 88) (n := 1) (by decide +kernel) ⟨by decide, by decide⟩ ?_
  have hb2 := k.1
  have k := k.2
  refine z_iast (pc := 89) rfl hb2 (by decide +kernel) ?_
  refine z_aload_n (pc := 90) (q := 0) (by decide +kernel) rfl ?_
  refine z_getR (pc := 91) 119 fl_Mod_24 rfl rfl rfl (by decide +kernel) ?_
  refine z_bipush (pc := 94) (n := 55) (by decide +kernel) (by decide) ⟨by decide, by decide⟩ ?_
  refine z_iload_n (pc := 96) (q := 1) (by decide +kernel) rfl ?_
  refine z_iadd (pc := 97) (by decide +kernel) ?_
  refine z_iconst (pc := 98) (n := 1) (by decide +kernel) ⟨by decide, by decide⟩ ?_
  have hb3 := k.1
  have k := k.2
  refine z_iast (pc := 99) rfl hb3 (by decide +kernel) ?_
  exact k
theorem b_Mod_readLetter_100 {E : EN} {d : Nat} {a1 : Int} {σ : Mem} {K : Mem → Prop}  (hd : 1 ≤ d) (k : (σ 115 11 ≠ 0 → (σ 115 11 ≠ 0 → K σ) ∧ (σ 115 11 = 0 → K (up σ 119 4 (w32 ((σ 119 4) + 1))))) ∧ (σ 115 11 = 0 → CI E y_Mod_readFlag (d - 1) [vr 115, vi a1] σ (fun x1 τ1 => (x1 = 0 → (τ1 115 11 ≠ 0 → K τ1) ∧ (τ1 115 11 = 0 → K (up τ1 119 4 (w32 ((τ1 119 4) + 1))))) ∧ (x1 ≠ 0 → Z E y_Mod_readLetter d 100 [some (vr 115), some (vi a1)] [] τ1 (qv K))))) :
    Z E y_Mod_readLetter d 100 [some (vr 115), some (vi a1)] [] σ (qv K) := by
  refine z_aload_n (pc := 100) (q := 0) (by decide +kernel) rfl ?_
  refine z_getI (pc := 101) 11 fl_Mod_120 rfl (by decide) rfl (by decide +kernel) ?_
  refine z_if_ne (pc := 104) (off := 14) 118 (by decide +kernel) (by decide) ⟨fun hc => ?_, fun hc => ?_⟩
  · have k := k.1 hc
    refine z_aload_n (pc := 118) (q := 0) (by decide +kernel) rfl ?_
    refine z_getI (pc := 119) 11 fl_Mod_120 rfl (by decide) rfl (by decide +kernel) ?_
    refine z_if_ne (pc := 122) (off := 13) 135 (by decide +kernel) (by decide) ⟨fun hc => ?_, fun hc => ?_⟩
    · have k := k.1 hc
      exact z_vret (pc := 135) (by decide +kernel) rfl k
    · have k := k.2 hc
      refine z_aload_n (pc := 125) (q := 0) (by decide +kernel) rfl ?_
      refine z_getR (pc := 126) 119 fl_Mod_24 rfl rfl rfl (by decide +kernel) ?_
      refine z_iconst (pc := 129) (n := 4) (by decide +kernel) ⟨by decide, by decide⟩ ?_
      refine z_dup2 (pc := 130) (by decide +kernel) rfl rfl ?_
      refine z_iald (pc := 131) rfl ⟨by decide, by decide⟩ (by decide +kernel) ?_
      refine z_iconst (pc := 132) (n := 1) (by decide +kernel) ⟨by decide, by decide⟩ ?_
      refine z_iadd (pc := 133) (by decide +kernel) ?_
      refine z_iast (pc := 134) rfl ⟨by decide, by decide⟩ (by decide +kernel) ?_
      exact z_vret (pc := 135) (by decide +kernel) rfl k
  · have k := k.2 hc
    refine z_aload_n (pc := 107) (q := 0) (by decide +kernel) rfl ?_
    refine z_iload_n (pc := 108) (q := 1) (by decide +kernel) rfl ?_
    refine z_callv (pc := 109) (as := [vi a1]) ml_Mod_168 rfl ⟨rfl, by decide⟩ rfl rfl (Nat.le_of_ble_eq_true rfl) (dc := d - 1) (by omega) (by decide +kernel) (CI.z (CI.mono (fun x1 τ1 k => ?_) k))
    refine z_if_eq (pc := 112) (off := 6) 118 (by decide +kernel) (by decide) ⟨fun hc => ?_, fun hc => ?_⟩
    · have k := k.1 hc
      refine z_aload_n (pc := 118) (q := 0) (by decide +kernel) rfl ?_
      refine z_getI (pc := 119) 11 fl_Mod_120 rfl (by decide) rfl (by decide +kernel) ?_
      refine z_if_ne (pc := 122) (off := 13) 135 (by decide +kernel) (by decide) ⟨fun hc => ?_, fun hc => ?_⟩
      · have k := k.1 hc
        exact z_vret (pc := 135) (by decide +kernel) rfl k
      · have k := k.2 hc
        refine z_aload_n (pc := 125) (q := 0) (by decide +kernel) rfl ?_
        refine z_getR (pc := 126) 119 fl_Mod_24 rfl rfl rfl (by decide +kernel) ?_
        refine z_iconst (pc := 129) (n := 4) (by decide +kernel) ⟨by decide, by decide⟩ ?_
        refine z_dup2 (pc := 130) (by decide +kernel) rfl rfl ?_
        refine z_iald (pc := 131) rfl ⟨by decide, by decide⟩ (by decide +kernel) ?_
        refine z_iconst (pc := 132) (n := 1) (by decide +kernel) ⟨by decide, by decide⟩ ?_
        refine z_iadd (pc := 133) (by decide +kernel) ?_
        refine z_iast (pc := 134) rfl ⟨by decide, by decide⟩ (by decide +kernel) ?_
        exact z_vret (pc := 135) (by decide +kernel) rfl k
    · have k := k.2 hc
      refine z_goto (pc := 115) (off := -15) 100 (by decide +kernel) (by decide) ?_
      exact k
theorem b_Mod_readLaw_0 {E : EN} {d : Nat} {a1 : Int} {σ : Mem} {K : Mem → Prop}  (hd : 1 ≤ d) (k : CV E y_Mod_next (d - 1) [vr 115] σ (fun τ1 => CI E y_Mod_eats (d - 1) [vr 115, vi 31] τ1 (fun x2 τ2 => (x2 ≠ 0 → Z E y_Mod_readLaw d 18 [some (vr 115), some (vi a1), none] [] τ2 (qv K)) ∧ (x2 = 0 → CV E y_Mod_fails (d - 1) [vr 115, vi 2] τ2 (fun τ3 => Z E y_Mod_readLaw d 18 [some (vr 115), some (vi a1), none] [] τ3 (qv K)))))) :
    Z E y_Mod_readLaw d 0 [some (vr 115), some (vi a1), none] [] σ (qv K) := by
  refine z_aload_n (pc := 0) (q := 0) (by decide +kernel) rfl ?_
  refine z_callv (pc := 1) (as := []) ml_Mod_129 rfl ⟨rfl, by decide⟩ rfl rfl (Nat.le_of_ble_eq_true rfl) (dc := d - 1) (by omega) (by decide +kernel) (CV.z (CV.mono (fun τ1 k => ?_) k))
  refine z_aload_n (pc := 4) (q := 0) (by decide +kernel) rfl ?_
  refine z_bipush (pc := 5) (n := 31) (by decide +kernel) (by decide) ⟨by decide, by decide⟩ ?_
  refine z_callv (pc := 7) (as := [vi 31]) ml_Mod_155 rfl ⟨rfl, by decide⟩ rfl rfl (Nat.le_of_ble_eq_true rfl) (dc := d - 1) (by omega) (by decide +kernel) (CI.z (CI.mono (fun x2 τ2 k => ?_) k))
  refine z_if_ne (pc := 10) (off := 8) 18 (by decide +kernel) (by decide) ⟨fun hc => ?_, fun hc => ?_⟩
  · have k := k.1 hc
    exact k
  · have k := k.2 hc
    refine z_aload_n (pc := 13) (q := 0) (by decide +kernel) rfl ?_
    refine z_iconst (pc := 14) (n := 2) (by decide +kernel) ⟨by decide, by decide⟩ ?_
    refine z_callv (pc := 15) (as := [vi 2]) ml_Mod_132 rfl ⟨rfl, by decide⟩ rfl rfl (Nat.le_of_ble_eq_true rfl) (dc := d - 1) (by omega) (by decide +kernel) (CV.z (CV.mono (fun τ3 k => ?_) k))
    exact k
theorem b_Mod_readLaw_18 {E : EN} {d : Nat} {a1 : Int} {o2 : Option AV} {σ : Mem} {K : Mem → Prop}  (hd : 1 ≤ d) (k : CV E y_Mod_readSum (d - 1) [vr 115, vi 0] (up σ 115 15 a1) (fun τ1 => (τ1 115 11 = 0 → (0 ≤ w32 (7 + a1) ∧ w32 (7 + a1) < 1036) ∧ (0 ≤ w32 (11 + a1) ∧ w32 (11 + a1) < 1036) ∧ (0 ≤ w32 (15 + a1) ∧ w32 (15 + a1) < 1036) ∧ K (up (up (up τ1 119 (w32 (7 + a1)) 1) 119 (w32 (11 + a1)) (σ 119 135)) 119 (w32 (15 + a1)) (w32 (((up (up τ1 119 (w32 (7 + a1)) 1) 119 (w32 (11 + a1)) (σ 119 135)) 119 135) - (σ 119 135))))) ∧ (τ1 115 11 ≠ 0 → K τ1))) :
    Z E y_Mod_readLaw d 18 [some (vr 115), some (vi a1), o2] [] σ (qv K) := by
  refine z_aload_n (pc := 18) (q := 0) (by decide +kernel) rfl ?_
  refine z_getR (pc := 19) 119 fl_Mod_24 rfl rfl rfl (by decide +kernel) ?_
  refine z_sipush (pc := 22) (n := 135) (by decide +kernel) (by decide) ⟨by decide, by decide⟩ ?_
  refine z_iald (pc := 25) rfl ⟨by decide, by decide⟩ (by decide +kernel) ?_
  refine z_istore_n (pc := 26) (q := 2) [some (vr 115), some (vi a1), some (vi (σ 119 135))] (by decide +kernel) (Nat.le_of_ble_eq_true rfl) rfl ?_
  refine z_aload_n (pc := 27) (q := 0) (by decide +kernel) rfl ?_
  refine z_iload_n (pc := 28) (q := 1) (by decide +kernel) rfl ?_
  refine z_putI (pc := 29) 15 fp_Mod_140 rfl rfl rfl (by decide +kernel) ?_
  refine z_aload_n (pc := 32) (q := 0) (by decide +kernel) rfl ?_
  refine z_iconst (pc := 33) (n := 0) (by decide +kernel) ⟨by decide, by decide⟩ ?_
  refine z_callv (pc := 34) (as := [vi 0]) ml_Mod_152 rfl ⟨rfl, by decide⟩ rfl rfl (Nat.le_of_ble_eq_true rfl) (dc := d - 1) (by omega) (by decide +kernel) (CV.z (CV.mono (fun τ1 k => ?_) k))
  refine z_aload_n (pc := 37) (q := 0) (by decide +kernel) rfl ?_
  refine z_getI (pc := 38) 11 fl_Mod_120 rfl (by decide) rfl (by decide +kernel) ?_
  refine z_if_eq (pc := 41) (off := 4) 45 (by decide +kernel) (by decide) ⟨fun hc => ?_, fun hc => ?_⟩
  · have k := k.1 hc
    refine z_aload_n (pc := 45) (q := 0) (by decide +kernel) rfl ?_
    refine z_getR (pc := 46) 119 fl_Mod_24 rfl rfl rfl (by decide +kernel) ?_
    refine z_bipush (pc := 49) (n := 7) (by decide +kernel) (by decide) ⟨by decide, by decide⟩ ?_
    refine z_iload_n (pc := 51) (q := 1) (by decide +kernel) rfl ?_
    refine z_iadd (pc := 52) (by decide +kernel) ?_
    refine z_iconst (pc := 53) (n := 1) (by decide +kernel) ⟨by decide, by decide⟩ ?_
    have hb1 := k.1
    have k := k.2
    refine z_iast (pc := 54) rfl hb1 (by decide +kernel) ?_
    refine z_aload_n (pc := 55) (q := 0) (by decide +kernel) rfl ?_
    refine z_getR (pc := 56) 119 fl_Mod_24 rfl rfl rfl (by decide +kernel) ?_
    refine z_bipush (pc := 59) (n := 11) (by decide +kernel) (by decide) ⟨by decide, by decide⟩ ?_
    refine z_iload_n (pc := 61) (q := 1) (by decide +kernel) rfl ?_
    refine z_iadd (pc := 62) (by decide +kernel) ?_
    refine z_iload_n (pc := 63) (q := 2) (by decide +kernel) rfl ?_
    have hb2 := k.1
    have k := k.2
    refine z_iast (pc := 64) rfl hb2 (by decide +kernel) ?_
    refine z_aload_n (pc := 65) (q := 0) (by decide +kernel) rfl ?_
    refine z_getR (pc := 66) 119 fl_Mod_24 rfl rfl rfl (by decide +kernel) ?_
    refine z_bipush (pc := 69) (n := 15) (by decide +kernel) (by decide) ⟨by decide, by decide⟩ ?_
    refine z_iload_n (pc := 71) (q := 1) (by decide +kernel) rfl ?_
    refine z_iadd (pc := 72) (by decide +kernel) ?_
    refine z_aload_n (pc := 73) (q := 0) (by decide +kernel) rfl ?_
    refine z_getR (pc := 74) 119 fl_Mod_24 rfl rfl rfl (by decide +kernel) ?_
    refine z_sipush (pc := 77) (n := 135) (by decide +kernel) (by decide) ⟨by decide, by decide⟩ ?_
    refine z_iald (pc := 80) rfl ⟨by decide, by decide⟩ (by decide +kernel) ?_
    refine z_iload_n (pc := 81) (q := 2) (by decide +kernel) rfl ?_
    refine z_isub (pc := 82) (by decide +kernel) ?_
    have hb3 := k.1
    have k := k.2
    refine z_iast (pc := 83) rfl hb3 (by decide +kernel) ?_
    exact z_vret (pc := 84) (by decide +kernel) rfl k
  · have k := k.2 hc
    exact z_vret (pc := 44) (by decide +kernel) rfl k
theorem b_Mod_readName_0 {E : EN} {d : Nat}  {σ : Mem} {K : Mem → Prop}  (hd : 1 ≤ d) (k : CV E y_Mod_next (d - 1) [vr 115] σ (fun τ1 => CI E y_Mod_see (d - 1) [vr 115, vi (τ1 115 6)] τ1 (fun x2 τ2 => CI E y_Mod_isSmall (d - 1) [vi x2] τ2 (fun x3 τ3 => (x3 = 0 → CV E y_Mod_fails (d - 1) [vr 115, vi 2] τ3 (fun τ4 => (τ4 115 11 = 0 → Z E y_Mod_readName d 50 [some (vr 115), some (vi (τ4 115 6))] [] τ4 (qv K)) ∧ (τ4 115 11 ≠ 0 → K τ4))) ∧ (x3 ≠ 0 → (w32 ((τ3 115 7) - (τ3 115 6)) ≤ 8 → (τ3 115 11 = 0 → Z E y_Mod_readName d 50 [some (vr 115), some (vi (τ3 115 6))] [] τ3 (qv K)) ∧ (τ3 115 11 ≠ 0 → K τ3)) ∧ (8 < w32 ((τ3 115 7) - (τ3 115 6)) → CV E y_Mod_fails (d - 1) [vr 115, vi 2] τ3 (fun τ5 => (τ5 115 11 = 0 → Z E y_Mod_readName d 50 [some (vr 115), some (vi (τ5 115 6))] [] τ5 (qv K)) ∧ (τ5 115 11 ≠ 0 → K τ5)))))))) :
    Z E y_Mod_readName d 0 [some (vr 115), none] [] σ (qv K) := by
  refine z_aload_n (pc := 0) (q := 0) (by decide +kernel) rfl ?_
  refine z_callv (pc := 1) (as := []) ml_Mod_129 rfl ⟨rfl, by decide⟩ rfl rfl (Nat.le_of_ble_eq_true rfl) (dc := d - 1) (by omega) (by decide +kernel) (CV.z (CV.mono (fun τ1 k => ?_) k))
  refine z_aload_n (pc := 4) (q := 0) (by decide +kernel) rfl ?_
  refine z_aload_n (pc := 5) (q := 0) (by decide +kernel) rfl ?_
  refine z_getI (pc := 6) 6 fl_Mod_92 rfl (by decide) rfl (by decide +kernel) ?_
  refine z_callv (pc := 9) (as := [vi (τ1 115 6)]) ml_Mod_98 rfl ⟨rfl, by decide⟩ rfl rfl (Nat.le_of_ble_eq_true rfl) (dc := d - 1) (by omega) (by decide +kernel) (CI.z (CI.mono (fun x2 τ2 k => ?_) k))
  refine z_calls (pc := 12) (as := [vi x2]) ml_Mod_105 rfl rfl (Nat.le_of_ble_eq_true rfl) (dc := d - 1) (by omega) (by decide +kernel) (CI.z (CI.mono (fun x3 τ3 k => ?_) k))
  refine z_if_eq (pc := 15) (off := 17) 32 (by decide +kernel) (by decide) ⟨fun hc => ?_, fun hc => ?_⟩
  · have k := k.1 hc
    refine z_aload_n (pc := 32) (q := 0) (by decide +kernel) rfl ?_
    refine z_iconst (pc := 33) (n := 2) (by decide +kernel) ⟨by decide, by decide⟩ ?_
    refine z_callv (pc := 34) (as := [vi 2]) ml_Mod_132 rfl ⟨rfl, by decide⟩ rfl rfl (Nat.le_of_ble_eq_true rfl) (dc := d - 1) (by omega) (by decide +kernel) (CV.z (CV.mono (fun τ4 k => ?_) k))
    refine z_aload_n (pc := 37) (q := 0) (by decide +kernel) rfl ?_
    refine z_getI (pc := 38) 11 fl_Mod_120 rfl (by decide) rfl (by decide +kernel) ?_
    refine z_if_eq (pc := 41) (off := 4) 45 (by decide +kernel) (by decide) ⟨fun hc => ?_, fun hc => ?_⟩
    · have k := k.1 hc
      refine z_aload_n (pc := 45) (q := 0) (by decide +kernel) rfl ?_
      refine z_getI (pc := 46) 6 fl_Mod_92 rfl (by decide) rfl (by decide +kernel) ?_
      refine z_istore_n (pc := 49) (q := 1) [some (vr 115), some (vi (τ4 115 6))] (by decide +kernel) (Nat.le_of_ble_eq_true rfl) rfl ?_
      exact k
    · have k := k.2 hc
      exact z_vret (pc := 44) (by decide +kernel) rfl k
  · have k := k.2 hc
    refine z_aload_n (pc := 18) (q := 0) (by decide +kernel) rfl ?_
    refine z_getI (pc := 19) 7 fl_Mod_95 rfl (by decide) rfl (by decide +kernel) ?_
    refine z_aload_n (pc := 22) (q := 0) (by decide +kernel) rfl ?_
    refine z_getI (pc := 23) 6 fl_Mod_92 rfl (by decide) rfl (by decide +kernel) ?_
    refine z_isub (pc := 26) (by decide +kernel) ?_
    refine z_bipush (pc := 27) (n := 8) (by decide +kernel) (by decide) ⟨by decide, by decide⟩ ?_
    refine z_icmp_le (pc := 29) (off := 8) 37 (by decide +kernel) (by decide) ⟨fun hc => ?_, fun hc => ?_⟩
    · have k := k.1 hc
      refine z_aload_n (pc := 37) (q := 0) (by decide +kernel) rfl ?_
      refine z_getI (pc := 38) 11 fl_Mod_120 rfl (by decide) rfl (by decide +kernel) ?_
      refine z_if_eq (pc := 41) (off := 4) 45 (by decide +kernel) (by decide) ⟨fun hc => ?_, fun hc => ?_⟩
      · have k := k.1 hc
        refine z_aload_n (pc := 45) (q := 0) (by decide +kernel) rfl ?_
        refine z_getI (pc := 46) 6 fl_Mod_92 rfl (by decide) rfl (by decide +kernel) ?_
        refine z_istore_n (pc := 49) (q := 1) [some (vr 115), some (vi (τ3 115 6))] (by decide +kernel) (Nat.le_of_ble_eq_true rfl) rfl ?_
        exact k
      · have k := k.2 hc
        exact z_vret (pc := 44) (by decide +kernel) rfl k
    · have k := k.2 hc
      refine z_aload_n (pc := 32) (q := 0) (by decide +kernel) rfl ?_
      refine z_iconst (pc := 33) (n := 2) (by decide +kernel) ⟨by decide, by decide⟩ ?_
      refine z_callv (pc := 34) (as := [vi 2]) ml_Mod_132 rfl ⟨rfl, by decide⟩ rfl rfl (Nat.le_of_ble_eq_true rfl) (dc := d - 1) (by omega) (by decide +kernel) (CV.z (CV.mono (fun τ5 k => ?_) k))
      refine z_aload_n (pc := 37) (q := 0) (by decide +kernel) rfl ?_
      refine z_getI (pc := 38) 11 fl_Mod_120 rfl (by decide) rfl (by decide +kernel) ?_
      refine z_if_eq (pc := 41) (off := 4) 45 (by decide +kernel) (by decide) ⟨fun hc => ?_, fun hc => ?_⟩
      · have k := k.1 hc
        refine z_aload_n (pc := 45) (q := 0) (by decide +kernel) rfl ?_
        refine z_getI (pc := 46) 6 fl_Mod_92 rfl (by decide) rfl (by decide +kernel) ?_
        refine z_istore_n (pc := 49) (q := 1) [some (vr 115), some (vi (τ5 115 6))] (by decide +kernel) (Nat.le_of_ble_eq_true rfl) rfl ?_
        exact k
      · have k := k.2 hc
        exact z_vret (pc := 44) (by decide +kernel) rfl k
theorem b_Mod_readName_50 {E : EN} {d : Nat} {a1 : Int} {σ : Mem} {K : Mem → Prop}  (hd : 1 ≤ d) (k : (σ 115 7 ≤ a1 → CV E y_Mod_next (d - 1) [vr 115] (up σ 119 6 (w32 ((σ 115 7) - (σ 115 6)))) (fun τ1 => K τ1)) ∧ (a1 < σ 115 7 → (0 ≤ a1 ∧ a1 < 900) ∧ (0 ≤ w32 ((w32 (19 + a1)) - (σ 115 6)) ∧ w32 ((w32 (19 + a1)) - (σ 115 6)) < 1036) ∧ Z E y_Mod_readName d 50 [some (vr 115), some (vi (w32 (a1 + 1)))] [] (up σ 119 (w32 ((w32 (19 + a1)) - (σ 115 6))) (w32 ((σ 118 a1) - 97))) (qv K))) :
    Z E y_Mod_readName d 50 [some (vr 115), some (vi a1)] [] σ (qv K) := by
  refine z_iload_n (pc := 50) (q := 1) (by decide +kernel) rfl ?_
  refine z_aload_n (pc := 51) (q := 0) (by decide +kernel) rfl ?_
  refine z_getI (pc := 52) 7 fl_Mod_95 rfl (by decide) rfl (by decide +kernel) ?_
  refine z_icmp_ge (pc := 55) (off := 32) 87 (by decide +kernel) (by decide) ⟨fun hc => ?_, fun hc => ?_⟩
  · have k := k.1 hc
    refine z_aload_n (pc := 87) (q := 0) (by decide +kernel) rfl ?_
    refine z_getR (pc := 88) 119 fl_Mod_24 rfl rfl rfl (by decide +kernel) ?_
    refine z_bipush (pc := 91) (n := 6) (by decide +kernel) (by decide) ⟨by decide, by decide⟩ ?_
    refine z_aload_n (pc := 93) (q := 0) (by decide +kernel) rfl ?_
    refine z_getI (pc := 94) 7 fl_Mod_95 rfl (by decide) rfl (by decide +kernel) ?_
    refine z_aload_n (pc := 97) (q := 0) (by decide +kernel) rfl ?_
    refine z_getI (pc := 98) 6 fl_Mod_92 rfl (by decide) rfl (by decide +kernel) ?_
    refine z_isub (pc := 101) (by decide +kernel) ?_
    refine z_iast (pc := 102) rfl ⟨by decide, by decide⟩ (by decide +kernel) ?_
    refine z_aload_n (pc := 103) (q := 0) (by decide +kernel) rfl ?_
    refine z_callv (pc := 104) (as := []) ml_Mod_129 rfl ⟨rfl, by decide⟩ rfl rfl (Nat.le_of_ble_eq_true rfl) (dc := d - 1) (by omega) (by decide +kernel) (CV.z (CV.mono (fun τ1 k => ?_) k))
    exact z_vret (pc := 107) (by decide +kernel) rfl k
  · have k := k.2 hc
    refine z_aload_n (pc := 58) (q := 0) (by decide +kernel) rfl ?_
    refine z_getR (pc := 59) 119 fl_Mod_24 rfl rfl rfl (by decide +kernel) ?_
    refine z_bipush (pc := 62) (n := 19) (by decide +kernel) (by decide) ⟨by decide, by decide⟩ ?_
    refine z_iload_n (pc := 64) (q := 1) (by decide +kernel) rfl ?_
    refine z_iadd (pc := 65) (by decide +kernel) ?_
    refine z_aload_n (pc := 66) (q := 0) (by decide +kernel) rfl ?_
    refine z_getI (pc := 67) 6 fl_Mod_92 rfl (by decide) rfl (by decide +kernel) ?_
    refine z_isub (pc := 70) (by decide +kernel) ?_
    refine z_aload_n (pc := 71) (q := 0) (by decide +kernel) rfl ?_
    refine z_getR (pc := 72) 118 fl_Mod_21 rfl rfl rfl (by decide +kernel) ?_
    refine z_iload_n (pc := 75) (q := 1) (by decide +kernel) rfl ?_
    have hb1 := k.1
    have k := k.2
    refine z_iald (pc := 76) rfl hb1 (by decide +kernel) ?_
    refine z_bipush (pc := 77) (n := 97) (by decide +kernel) (by decide) ⟨by decide, by decide⟩ ?_
    refine z_isub (pc := 79) (by decide +kernel) ?_
    have hb2 := k.1
    have k := k.2
    refine z_iast (pc := 80) rfl hb2 (by decide +kernel) ?_
    refine z_iinc (pc := 81) (i := 1) (n := 1) [some (vr 115), some (vi (w32 (a1 + 1)))] (by decide +kernel) rfl rfl ?_
    refine z_goto (pc := 84) (off := -34) 50 (by decide +kernel) (by decide) ?_
    exact k
theorem b_Mod_readLine_0 {E : EN} {d : Nat}  {σ : Mem} {K : Mem → Prop}  (hd : 1 ≤ d) (k : (σ 115 11 = 0 → CI E y_Mod_is (d - 1) [vr 115, vi 1] σ (fun x1 τ1 => (x1 = 0 → CI E y_Mod_is (d - 1) [vr 115, vi 3] τ1 (fun x2 τ2 => (x2 = 0 → CI E y_Mod_is (d - 1) [vr 115, vi 4] τ2 (fun x3 τ3 => (x3 = 0 → CI E y_Mod_within (d - 1) [vl (τ3 115 9), vl 13, vl 16] τ3 (fun x4 τ4 => (x4 = 0 → CI E y_Mod_eats (d - 1) [vr 115, vi 17] τ4 (fun x5 τ5 => (x5 = 0 → CI E y_Mod_is (d - 1) [vr 115, vi 18] τ5 (fun x6 τ6 => (x6 = 0 → CV E y_Mod_fails (d - 1) [vr 115, vi 2] τ6 (fun τ7 => K τ7)) ∧ (x6 ≠ 0 → CV E y_Mod_readName (d - 1) [vr 115] τ6 (fun τ8 => K τ8)))) ∧ (x5 ≠ 0 → CI E y_Mod_takesN (d - 1) [vr 115, vi 0, vi 100] τ5 (fun x9 τ9 => K (up τ9 119 5 x9))))) ∧ (x4 ≠ 0 → CV E y_Mod_readLaw (d - 1) [vr 115, vi (w32 ((τ4 115 9) - 13))] τ4 (fun τ10 => K τ10)))) ∧ (x3 ≠ 0 → CV E y_Mod_readLetter (d - 1) [vr 115] τ3 (fun τ11 => K τ11)))) ∧ (x2 ≠ 0 → CV E y_Mod_readCourt (d - 1) [vr 115] τ2 (fun τ12 => K τ12)))) ∧ (x1 ≠ 0 → CV E y_Mod_readHand (d - 1) [vr 115] τ1 (fun τ13 => K τ13)))) ∧ (σ 115 11 ≠ 0 → K σ)) :
    Z E y_Mod_readLine d 0 [some (vr 115)] [] σ (qv K) := by
  refine z_aload_n (pc := 0) (q := 0) (by decide +kernel) rfl ?_
  refine z_getI (pc := 1) 11 fl_Mod_120 rfl (by decide) rfl (by decide +kernel) ?_
  refine z_if_eq (pc := 4) (off := 4) 8 (by decide +kernel) (by decide) ⟨fun hc => ?_, fun hc => ?_⟩
  · have k := k.1 hc
    refine z_aload_n (pc := 8) (q := 0) (by decide +kernel) rfl ?_
    refine z_iconst (pc := 9) (n := 1) (by decide +kernel) ⟨by decide, by decide⟩ ?_
    refine z_callv (pc := 10) (as := [vi 1]) ml_Mod_126 rfl ⟨rfl, by decide⟩ rfl rfl (Nat.le_of_ble_eq_true rfl) (dc := d - 1) (by omega) (by decide +kernel) (CI.z (CI.mono (fun x1 τ1 k => ?_) k))
    refine z_if_eq (pc := 13) (off := 10) 23 (by decide +kernel) (by decide) ⟨fun hc => ?_, fun hc => ?_⟩
    · have k := k.1 hc
      refine z_aload_n (pc := 23) (q := 0) (by decide +kernel) rfl ?_
      refine z_iconst (pc := 24) (n := 3) (by decide +kernel) ⟨by decide, by decide⟩ ?_
      refine z_callv (pc := 25) (as := [vi 3]) ml_Mod_126 rfl ⟨rfl, by decide⟩ rfl rfl (Nat.le_of_ble_eq_true rfl) (dc := d - 1) (by omega) (by decide +kernel) (CI.z (CI.mono (fun x2 τ2 k => ?_) k))
      refine z_if_eq (pc := 28) (off := 10) 38 (by decide +kernel) (by decide) ⟨fun hc => ?_, fun hc => ?_⟩
      · have k := k.1 hc
        refine z_aload_n (pc := 38) (q := 0) (by decide +kernel) rfl ?_
        refine z_iconst (pc := 39) (n := 4) (by decide +kernel) ⟨by decide, by decide⟩ ?_
        refine z_callv (pc := 40) (as := [vi 4]) ml_Mod_126 rfl ⟨rfl, by decide⟩ rfl rfl (Nat.le_of_ble_eq_true rfl) (dc := d - 1) (by omega) (by decide +kernel) (CI.z (CI.mono (fun x3 τ3 k => ?_) k))
        refine z_if_eq (pc := 43) (off := 10) 53 (by decide +kernel) (by decide) ⟨fun hc => ?_, fun hc => ?_⟩
        · have k := k.1 hc
          refine z_aload_n (pc := 53) (q := 0) (by decide +kernel) rfl ?_
          refine z_getI (pc := 54) 9 fl_Mod_102 rfl (by decide) rfl (by decide +kernel) ?_
          refine z_i2l (pc := 57) (by decide +kernel) ?_
          refine z_ldc2 (pc := 58) (index := 180) 13 (mm7 83 rfl) ⟨by decide, by decide⟩ (by decide +kernel) ?_
          refine z_ldc2 (pc := 61) (index := 182) 16 (mm7 84 rfl) ⟨by decide, by decide⟩ (by decide +kernel) ?_
          refine z_calls (pc := 64) (as := [vl (τ3 115 9), vl 13, vl 16]) ml_Mod_136 rfl rfl (Nat.le_of_ble_eq_true rfl) (dc := d - 1) (by omega) (by decide +kernel) (CI.z (CI.mono (fun x4 τ4 k => ?_) k))
          refine z_if_eq (pc := 67) (off := 17) 84 (by decide +kernel) (by decide) ⟨fun hc => ?_, fun hc => ?_⟩
          · have k := k.1 hc
            refine z_aload_n (pc := 84) (q := 0) (by decide +kernel) rfl ?_
            refine z_bipush (pc := 85) (n := 17) (by decide +kernel) (by decide) ⟨by decide, by decide⟩ ?_
            refine z_callv (pc := 87) (as := [vi 17]) ml_Mod_155 rfl ⟨rfl, by decide⟩ rfl rfl (Nat.le_of_ble_eq_true rfl) (dc := d - 1) (by omega) (by decide +kernel) (CI.z (CI.mono (fun x5 τ5 k => ?_) k))
            refine z_if_eq (pc := 90) (off := 19) 109 (by decide +kernel) (by decide) ⟨fun hc => ?_, fun hc => ?_⟩
            · have k := k.1 hc
              refine z_aload_n (pc := 109) (q := 0) (by decide +kernel) rfl ?_
              refine z_bipush (pc := 110) (n := 18) (by decide +kernel) (by decide) ⟨by decide, by decide⟩ ?_
              refine z_callv (pc := 112) (as := [vi 18]) ml_Mod_126 rfl ⟨rfl, by decide⟩ rfl rfl (Nat.le_of_ble_eq_true rfl) (dc := d - 1) (by omega) (by decide +kernel) (CI.z (CI.mono (fun x6 τ6 k => ?_) k))
              refine z_if_eq (pc := 115) (off := 10) 125 (by decide +kernel) (by decide) ⟨fun hc => ?_, fun hc => ?_⟩
              · have k := k.1 hc
                refine z_aload_n (pc := 125) (q := 0) (by decide +kernel) rfl ?_
                refine z_iconst (pc := 126) (n := 2) (by decide +kernel) ⟨by decide, by decide⟩ ?_
                refine z_callv (pc := 127) (as := [vi 2]) ml_Mod_132 rfl ⟨rfl, by decide⟩ rfl rfl (Nat.le_of_ble_eq_true rfl) (dc := d - 1) (by omega) (by decide +kernel) (CV.z (CV.mono (fun τ7 k => ?_) k))
                exact z_vret (pc := 130) (by decide +kernel) rfl k
              · have k := k.2 hc
                refine z_aload_n (pc := 118) (q := 0) (by decide +kernel) rfl ?_
                refine z_callv (pc := 119) (as := []) ml_Mod_187 rfl ⟨rfl, by decide⟩ rfl rfl (Nat.le_of_ble_eq_true rfl) (dc := d - 1) (by omega) (by decide +kernel) (CV.z (CV.mono (fun τ8 k => ?_) k))
                refine z_goto (pc := 122) (off := 8) 130 (by decide +kernel) (by decide) ?_
                exact z_vret (pc := 130) (by decide +kernel) rfl k
            · have k := k.2 hc
              refine z_aload_n (pc := 93) (q := 0) (by decide +kernel) rfl ?_
              refine z_getR (pc := 94) 119 fl_Mod_24 rfl rfl rfl (by decide +kernel) ?_
              refine z_iconst (pc := 97) (n := 5) (by decide +kernel) ⟨by decide, by decide⟩ ?_
              refine z_aload_n (pc := 98) (q := 0) (by decide +kernel) rfl ?_
              refine z_iconst (pc := 99) (n := 0) (by decide +kernel) ⟨by decide, by decide⟩ ?_
              refine z_bipush (pc := 100) (n := 100) (by decide +kernel) (by decide) ⟨by decide, by decide⟩ ?_
              refine z_callv (pc := 102) (as := [vi 0, vi 100]) ml_Mod_164 rfl ⟨rfl, by decide⟩ rfl rfl (Nat.le_of_ble_eq_true rfl) (dc := d - 1) (by omega) (by decide +kernel) (CI.z (CI.mono (fun x9 τ9 k => ?_) k))
              refine z_iast (pc := 105) rfl ⟨by decide, by decide⟩ (by decide +kernel) ?_
              refine z_goto (pc := 106) (off := 24) 130 (by decide +kernel) (by decide) ?_
              exact z_vret (pc := 130) (by decide +kernel) rfl k
          · have k := k.2 hc
            refine z_aload_n (pc := 70) (q := 0) (by decide +kernel) rfl ?_
            refine z_aload_n (pc := 71) (q := 0) (by decide +kernel) rfl ?_
            refine z_getI (pc := 72) 9 fl_Mod_102 rfl (by decide) rfl (by decide +kernel) ?_
            refine z_bipush (pc := 75) (n := 13) (by decide +kernel) (by decide) ⟨by decide, by decide⟩ ?_
            refine z_isub (pc := 77) (by decide +kernel) ?_
            refine z_callv (pc := 78) (as := [vi (w32 ((τ4 115 9) - 13))]) ml_Mod_184 rfl ⟨rfl, by decide⟩ rfl rfl (Nat.le_of_ble_eq_true rfl) (dc := d - 1) (by omega) (by decide +kernel) (CV.z (CV.mono (fun τ10 k => ?_) k))
            refine z_goto (pc := 81) (off := 49) 130 (by decide +kernel) (by decide) ?_
            exact z_vret (pc := 130) (by decide +kernel) rfl k
        · have k := k.2 hc
          refine z_aload_n (pc := 46) (q := 0) (by decide +kernel) rfl ?_
          refine z_callv (pc := 47) (as := []) ml_Mod_177 rfl ⟨rfl, by decide⟩ rfl rfl (Nat.le_of_ble_eq_true rfl) (dc := d - 1) (by omega) (by decide +kernel) (CV.z (CV.mono (fun τ11 k => ?_) k))
          refine z_goto (pc := 50) (off := 80) 130 (by decide +kernel) (by decide) ?_
          exact z_vret (pc := 130) (by decide +kernel) rfl k
      · have k := k.2 hc
        refine z_aload_n (pc := 31) (q := 0) (by decide +kernel) rfl ?_
        refine z_callv (pc := 32) (as := []) ml_Mod_174 rfl ⟨rfl, by decide⟩ rfl rfl (Nat.le_of_ble_eq_true rfl) (dc := d - 1) (by omega) (by decide +kernel) (CV.z (CV.mono (fun τ12 k => ?_) k))
        refine z_goto (pc := 35) (off := 95) 130 (by decide +kernel) (by decide) ?_
        exact z_vret (pc := 130) (by decide +kernel) rfl k
    · have k := k.2 hc
      refine z_aload_n (pc := 16) (q := 0) (by decide +kernel) rfl ?_
      refine z_callv (pc := 17) (as := []) ml_Mod_171 rfl ⟨rfl, by decide⟩ rfl rfl (Nat.le_of_ble_eq_true rfl) (dc := d - 1) (by omega) (by decide +kernel) (CV.z (CV.mono (fun τ13 k => ?_) k))
      refine z_goto (pc := 20) (off := 110) 130 (by decide +kernel) (by decide) ?_
      exact z_vret (pc := 130) (by decide +kernel) rfl k
  · have k := k.2 hc
    exact z_vret (pc := 7) (by decide +kernel) rfl k
theorem b_Mod_ends_0 {E : EN} {d : Nat}  {σ : Mem} {K : Mem → Prop}  (hd : 1 ≤ d) (k : CI E y_Mod_eats (d - 1) [vr 115, vi 30] σ (fun x1 τ1 => (x1 ≠ 0 → K (up τ1 119 0 (w32 ((τ1 119 0) + 1)))) ∧ (x1 = 0 → CV E y_Mod_fails (d - 1) [vr 115, vi 2] τ1 (fun τ2 => K (up τ2 119 0 (w32 ((τ2 119 0) + 1))))))) :
    Z E y_Mod_ends d 0 [some (vr 115)] [] σ (qv K) := by
  refine z_aload_n (pc := 0) (q := 0) (by decide +kernel) rfl ?_
  refine z_bipush (pc := 1) (n := 30) (by decide +kernel) (by decide) ⟨by decide, by decide⟩ ?_
  refine z_callv (pc := 3) (as := [vi 30]) ml_Mod_155 rfl ⟨rfl, by decide⟩ rfl rfl (Nat.le_of_ble_eq_true rfl) (dc := d - 1) (by omega) (by decide +kernel) (CI.z (CI.mono (fun x1 τ1 k => ?_) k))
  refine z_if_ne (pc := 6) (off := 8) 14 (by decide +kernel) (by decide) ⟨fun hc => ?_, fun hc => ?_⟩
  · have k := k.1 hc
    refine z_aload_n (pc := 14) (q := 0) (by decide +kernel) rfl ?_
    refine z_getR (pc := 15) 119 fl_Mod_24 rfl rfl rfl (by decide +kernel) ?_
    refine z_iconst (pc := 18) (n := 0) (by decide +kernel) ⟨by decide, by decide⟩ ?_
    refine z_dup2 (pc := 19) (by decide +kernel) rfl rfl ?_
    refine z_iald (pc := 20) rfl ⟨by decide, by decide⟩ (by decide +kernel) ?_
    refine z_iconst (pc := 21) (n := 1) (by decide +kernel) ⟨by decide, by decide⟩ ?_
    refine z_iadd (pc := 22) (by decide +kernel) ?_
    refine z_iast (pc := 23) rfl ⟨by decide, by decide⟩ (by decide +kernel) ?_
    exact z_vret (pc := 24) (by decide +kernel) rfl k
  · have k := k.2 hc
    refine z_aload_n (pc := 9) (q := 0) (by decide +kernel) rfl ?_
    refine z_iconst (pc := 10) (n := 2) (by decide +kernel) ⟨by decide, by decide⟩ ?_
    refine z_callv (pc := 11) (as := [vi 2]) ml_Mod_132 rfl ⟨rfl, by decide⟩ rfl rfl (Nat.le_of_ble_eq_true rfl) (dc := d - 1) (by omega) (by decide +kernel) (CV.z (CV.mono (fun τ2 k => ?_) k))
    refine z_aload_n (pc := 14) (q := 0) (by decide +kernel) rfl ?_
    refine z_getR (pc := 15) 119 fl_Mod_24 rfl rfl rfl (by decide +kernel) ?_
    refine z_iconst (pc := 18) (n := 0) (by decide +kernel) ⟨by decide, by decide⟩ ?_
    refine z_dup2 (pc := 19) (by decide +kernel) rfl rfl ?_
    refine z_iald (pc := 20) rfl ⟨by decide, by decide⟩ (by decide +kernel) ?_
    refine z_iconst (pc := 21) (n := 1) (by decide +kernel) ⟨by decide, by decide⟩ ?_
    refine z_iadd (pc := 22) (by decide +kernel) ?_
    refine z_iast (pc := 23) rfl ⟨by decide, by decide⟩ (by decide +kernel) ?_
    exact z_vret (pc := 24) (by decide +kernel) rfl k
theorem b_Mod_room_0 {E : EN} {d : Nat} {a1 : Int} {σ : Mem} {K : Int → Mem → Prop}  (hd : 1 ≤ d) (k : CI E y_Mod_within (d - 1) [vl a1, vl 0, vl (σ 115 5)] (up σ 115 0 0) (fun x1 τ1 => (x1 ≠ 0 → CV E y_Mod_plain0 (d - 1) [vr 119] (up (up (up (up τ1 115 8 a1) 115 5 0) 115 7 0) 115 11 0) (fun τ2 => CV E y_Mod_next (d - 1) [vr 115] τ2 (fun τ3 => CI E y_Mod_eats (d - 1) [vr 115, vi 0] τ3 (fun x4 τ4 => (x4 ≠ 0 → CI E y_Mod_takesN (d - 1) [vr 115, vi 1, vi 300] τ4 (fun x5 τ5 => CV E y_Mod_ends (d - 1) [vr 115] (up τ5 119 1 x5) (fun τ6 => Z E y_Mod_room d 84 [some (vr 115), some (vi a1), none] [] τ6 (qi K)))) ∧ (x4 = 0 → CV E y_Mod_fails (d - 1) [vr 115, vi 2] τ4 (fun τ7 => CI E y_Mod_takesN (d - 1) [vr 115, vi 1, vi 300] τ7 (fun x8 τ8 => CV E y_Mod_ends (d - 1) [vr 115] (up τ8 119 1 x8) (fun τ9 => Z E y_Mod_room d 84 [some (vr 115), some (vi a1), none] [] τ9 (qi K))))))))) ∧ (x1 = 0 → K (-3) τ1))) :
    Z E y_Mod_room d 0 [some (vr 115), some (vi a1), none] [] σ (qi K) := by
  refine z_aload_n (pc := 0) (q := 0) (by decide +kernel) rfl ?_
  refine z_iconst (pc := 1) (n := 0) (by decide +kernel) ⟨by decide, by decide⟩ ?_
  refine z_putI (pc := 2) 0 fp_Mod_1 rfl rfl rfl (by decide +kernel) ?_
  refine z_iload_n (pc := 5) (q := 1) (by decide +kernel) rfl ?_
  refine z_i2l (pc := 6) (by decide +kernel) ?_
  refine z_lconst (pc := 7) (n := 0) 0 (by decide +kernel) (by decide) ⟨by decide, by decide⟩ ?_
  refine z_aload_n (pc := 8) (q := 0) (by decide +kernel) rfl ?_
  refine z_getI (pc := 9) 5 fl_Mod_74 rfl (by decide) rfl (by decide +kernel) ?_
  refine z_topI (up_nk (by decide)) ?_
  refine z_i2l (pc := 12) (by decide +kernel) ?_
  refine z_calls (pc := 13) (as := [vl a1, vl 0, vl (σ 115 5)]) ml_Mod_136 rfl rfl (Nat.le_of_ble_eq_true rfl) (dc := d - 1) (by omega) (by decide +kernel) (CI.z (CI.mono (fun x1 τ1 k => ?_) k))
  refine z_if_ne (pc := 16) (off := 6) 22 (by decide +kernel) (by decide) ⟨fun hc => ?_, fun hc => ?_⟩
  · have k := k.1 hc
    refine z_aload_n (pc := 22) (q := 0) (by decide +kernel) rfl ?_
    refine z_iload_n (pc := 23) (q := 1) (by decide +kernel) rfl ?_
    refine z_putI (pc := 24) 8 fp_Mod_77 rfl rfl rfl (by decide +kernel) ?_
    refine z_aload_n (pc := 27) (q := 0) (by decide +kernel) rfl ?_
    refine z_iconst (pc := 28) (n := 0) (by decide +kernel) ⟨by decide, by decide⟩ ?_
    refine z_putI (pc := 29) 5 fp_Mod_74 rfl rfl rfl (by decide +kernel) ?_
    refine z_aload_n (pc := 32) (q := 0) (by decide +kernel) rfl ?_
    refine z_iconst (pc := 33) (n := 0) (by decide +kernel) ⟨by decide, by decide⟩ ?_
    refine z_putI (pc := 34) 7 fp_Mod_95 rfl rfl rfl (by decide +kernel) ?_
    refine z_aload_n (pc := 37) (q := 0) (by decide +kernel) rfl ?_
    refine z_iconst (pc := 38) (n := 0) (by decide +kernel) ⟨by decide, by decide⟩ ?_
    refine z_putI (pc := 39) 11 fp_Mod_120 rfl rfl rfl (by decide +kernel) ?_
    refine z_aload_n (pc := 42) (q := 0) (by decide +kernel) rfl ?_
    refine z_getR (pc := 43) 119 fl_Mod_24 rfl rfl rfl (by decide +kernel) ?_
    refine z_calls (pc := 46) (as := [vr 119]) ml_Mod_70 rfl rfl (Nat.le_of_ble_eq_true rfl) (dc := d - 1) (by omega) (by decide +kernel) (CV.z (CV.mono (fun τ2 k => ?_) k))
    refine z_aload_n (pc := 49) (q := 0) (by decide +kernel) rfl ?_
    refine z_callv (pc := 50) (as := []) ml_Mod_129 rfl ⟨rfl, by decide⟩ rfl rfl (Nat.le_of_ble_eq_true rfl) (dc := d - 1) (by omega) (by decide +kernel) (CV.z (CV.mono (fun τ3 k => ?_) k))
    refine z_aload_n (pc := 53) (q := 0) (by decide +kernel) rfl ?_
    refine z_iconst (pc := 54) (n := 0) (by decide +kernel) ⟨by decide, by decide⟩ ?_
    refine z_callv (pc := 55) (as := [vi 0]) ml_Mod_155 rfl ⟨rfl, by decide⟩ rfl rfl (Nat.le_of_ble_eq_true rfl) (dc := d - 1) (by omega) (by decide +kernel) (CI.z (CI.mono (fun x4 τ4 k => ?_) k))
    refine z_if_ne (pc := 58) (off := 8) 66 (by decide +kernel) (by decide) ⟨fun hc => ?_, fun hc => ?_⟩
    · have k := k.1 hc
      refine z_aload_n (pc := 66) (q := 0) (by decide +kernel) rfl ?_
      refine z_getR (pc := 67) 119 fl_Mod_24 rfl rfl rfl (by decide +kernel) ?_
      refine z_iconst (pc := 70) (n := 1) (by decide +kernel) ⟨by decide, by decide⟩ ?_
      refine z_aload_n (pc := 71) (q := 0) (by decide +kernel) rfl ?_
      refine z_iconst (pc := 72) (n := 1) (by decide +kernel) ⟨by decide, by decide⟩ ?_
      refine z_sipush (pc := 73) (n := 300) (by decide +kernel) (by decide) ⟨by decide, by decide⟩ ?_
      refine z_callv (pc := 76) (as := [vi 1, vi 300]) ml_Mod_164 rfl ⟨rfl, by decide⟩ rfl rfl (Nat.le_of_ble_eq_true rfl) (dc := d - 1) (by omega) (by decide +kernel) (CI.z (CI.mono (fun x5 τ5 k => ?_) k))
      refine z_iast (pc := 79) rfl ⟨by decide, by decide⟩ (by decide +kernel) ?_
      refine z_aload_n (pc := 80) (q := 0) (by decide +kernel) rfl ?_
      refine z_callv (pc := 81) (as := []) ml_Mod_190 rfl ⟨rfl, by decide⟩ rfl rfl (Nat.le_of_ble_eq_true rfl) (dc := d - 1) (by omega) (by decide +kernel) (CV.z (CV.mono (fun τ6 k => ?_) k))
      exact k
    · have k := k.2 hc
      refine z_aload_n (pc := 61) (q := 0) (by decide +kernel) rfl ?_
      refine z_iconst (pc := 62) (n := 2) (by decide +kernel) ⟨by decide, by decide⟩ ?_
      refine z_callv (pc := 63) (as := [vi 2]) ml_Mod_132 rfl ⟨rfl, by decide⟩ rfl rfl (Nat.le_of_ble_eq_true rfl) (dc := d - 1) (by omega) (by decide +kernel) (CV.z (CV.mono (fun τ7 k => ?_) k))
      refine z_aload_n (pc := 66) (q := 0) (by decide +kernel) rfl ?_
      refine z_getR (pc := 67) 119 fl_Mod_24 rfl rfl rfl (by decide +kernel) ?_
      refine z_iconst (pc := 70) (n := 1) (by decide +kernel) ⟨by decide, by decide⟩ ?_
      refine z_aload_n (pc := 71) (q := 0) (by decide +kernel) rfl ?_
      refine z_iconst (pc := 72) (n := 1) (by decide +kernel) ⟨by decide, by decide⟩ ?_
      refine z_sipush (pc := 73) (n := 300) (by decide +kernel) (by decide) ⟨by decide, by decide⟩ ?_
      refine z_callv (pc := 76) (as := [vi 1, vi 300]) ml_Mod_164 rfl ⟨rfl, by decide⟩ rfl rfl (Nat.le_of_ble_eq_true rfl) (dc := d - 1) (by omega) (by decide +kernel) (CI.z (CI.mono (fun x8 τ8 k => ?_) k))
      refine z_iast (pc := 79) rfl ⟨by decide, by decide⟩ (by decide +kernel) ?_
      refine z_aload_n (pc := 80) (q := 0) (by decide +kernel) rfl ?_
      refine z_callv (pc := 81) (as := []) ml_Mod_190 rfl ⟨rfl, by decide⟩ rfl rfl (Nat.le_of_ble_eq_true rfl) (dc := d - 1) (by omega) (by decide +kernel) (CV.z (CV.mono (fun τ9 k => ?_) k))
      exact k
  · have k := k.2 hc
    refine z_bipush (pc := 19) (n := -3) (by decide +kernel) (by decide) ⟨by decide, by decide⟩ ?_
    exact z_iret (pc := 21) (by decide +kernel) rfl k
theorem b_Mod_room_84 {E : EN} {d : Nat} {a1 : Int} {o1 : Option AV} {o2 : Option AV} {σ : Mem} {K : Int → Mem → Prop}  (hd : 1 ≤ d) (k : (σ 115 11 ≠ 0 → Z E y_Mod_room d 111 [some (vr 115), o1, o2] [] σ (qi K)) ∧ (σ 115 11 = 0 → (σ 115 9 = 24 → Z E y_Mod_room d 111 [some (vr 115), o1, o2] [] σ (qi K)) ∧ (σ 115 9 ≠ 24 → CV E y_Mod_readLine (d - 1) [vr 115] σ (fun τ1 => CV E y_Mod_ends (d - 1) [vr 115] τ1 (fun τ2 => Z E y_Mod_room d 84 [some (vr 115), o1, o2] [] τ2 (qi K)))))) :
    Z E y_Mod_room d 84 [some (vr 115), o1, o2] [] σ (qi K) := by
  refine z_aload_n (pc := 84) (q := 0) (by decide +kernel) rfl ?_
  refine z_getI (pc := 85) 11 fl_Mod_120 rfl (by decide) rfl (by decide +kernel) ?_
  refine z_if_ne (pc := 88) (off := 23) 111 (by decide +kernel) (by decide) ⟨fun hc => ?_, fun hc => ?_⟩
  · have k := k.1 hc
    exact k
  · have k := k.2 hc
    refine z_aload_n (pc := 91) (q := 0) (by decide +kernel) rfl ?_
    refine z_getI (pc := 92) 9 fl_Mod_102 rfl (by decide) rfl (by decide +kernel) ?_
    refine z_bipush (pc := 95) (n := 24) (by decide +kernel) (by decide) ⟨by decide, by decide⟩ ?_
    refine z_icmp_eq (pc := 97) (off := 14) 111 (by decide +kernel) (by decide) ⟨fun hc => ?_, fun hc => ?_⟩
    · have k := k.1 hc
      exact k
    · have k := k.2 hc
      refine z_aload_n (pc := 100) (q := 0) (by decide +kernel) rfl ?_
      refine z_callv (pc := 101) (as := []) ml_Mod_193 rfl ⟨rfl, by decide⟩ rfl rfl (Nat.le_of_ble_eq_true rfl) (dc := d - 1) (by omega) (by decide +kernel) (CV.z (CV.mono (fun τ1 k => ?_) k))
      refine z_aload_n (pc := 104) (q := 0) (by decide +kernel) rfl ?_
      refine z_callv (pc := 105) (as := []) ml_Mod_190 rfl ⟨rfl, by decide⟩ rfl rfl (Nat.le_of_ble_eq_true rfl) (dc := d - 1) (by omega) (by decide +kernel) (CV.z (CV.mono (fun τ2 k => ?_) k))
      refine z_goto (pc := 108) (off := -24) 84 (by decide +kernel) (by decide) ?_
      exact k
theorem b_Mod_room_111 {E : EN} {d : Nat} {a1 : Int} {o1 : Option AV} {o2 : Option AV} {σ : Mem} {K : Int → Mem → Prop}  (k : (σ 115 11 ≠ 0 → (σ 115 11 = 0 → Z E y_Mod_room d 155 [some (vr 115), none, some (vi 0)] [] (up (up σ 115 13 (σ 115 11)) 115 14 (σ 115 12)) (qi K)) ∧ (σ 115 11 ≠ 0 → K (w32 ((-30) - (σ 115 11))) (up (up σ 115 13 (σ 115 11)) 115 14 (σ 115 12)))) ∧ (σ 115 11 = 0 → (σ 115 11 = 0 → Z E y_Mod_room d 155 [some (vr 115), none, some (vi 0)] [] (up (up σ 115 13 (σ 115 11)) 115 14 (-1)) (qi K)) ∧ (σ 115 11 ≠ 0 → K (w32 ((-30) - (σ 115 11))) (up (up σ 115 13 (σ 115 11)) 115 14 (-1))))) :
    Z E y_Mod_room d 111 [some (vr 115), o1, o2] [] σ (qi K) := by
  refine z_aload_n (pc := 111) (q := 0) (by decide +kernel) rfl ?_
  refine z_aload_n (pc := 112) (q := 0) (by decide +kernel) rfl ?_
  refine z_getI (pc := 113) 11 fl_Mod_120 rfl (by decide) rfl (by decide +kernel) ?_
  refine z_putI (pc := 116) 13 fp_Mod_196 rfl rfl rfl (by decide +kernel) ?_
  refine z_aload_n (pc := 119) (q := 0) (by decide +kernel) rfl ?_
  refine z_aload_n (pc := 120) (q := 0) (by decide +kernel) rfl ?_
  refine z_getI (pc := 121) 11 fl_Mod_120 rfl (by decide) rfl (by decide +kernel) ?_
  refine z_topI (up_nk (by decide)) ?_
  refine z_if_ne (pc := 124) (off := 7) 131 (by decide +kernel) (by decide) ⟨fun hc => ?_, fun hc => ?_⟩
  · have k := k.1 hc
    refine z_aload_n (pc := 131) (q := 0) (by decide +kernel) rfl ?_
    refine z_getI (pc := 132) 12 fl_Mod_123 rfl (by decide) rfl (by decide +kernel) ?_
    refine z_topI (up_nk (by decide)) ?_
    refine z_putI (pc := 135) 14 fp_Mod_27 rfl rfl rfl (by decide +kernel) ?_
    refine z_aload_n (pc := 138) (q := 0) (by decide +kernel) rfl ?_
    refine z_getI (pc := 139) 11 fl_Mod_120 rfl (by decide) rfl (by decide +kernel) ?_
    refine z_topI ((up_nk (by decide)).trans (up_nk (by decide))) ?_
    refine z_if_eq (pc := 142) (off := 11) 153 (by decide +kernel) (by decide) ⟨fun hc => ?_, fun hc => ?_⟩
    · have k := k.1 hc
      refine z_iconst (pc := 153) (n := 0) (by decide +kernel) ⟨by decide, by decide⟩ ?_
      refine z_forget (pc := 154) 1 [some (vr 115), none, o2] rfl ?_
      refine z_istore_n (pc := 154) (q := 2) [some (vr 115), none, some (vi 0)] (by decide +kernel) (Nat.le_of_ble_eq_true rfl) rfl ?_
      exact k
    · have k := k.2 hc
      refine z_bipush (pc := 145) (n := -30) (by decide +kernel) (by decide) ⟨by decide, by decide⟩ ?_
      refine z_aload_n (pc := 147) (q := 0) (by decide +kernel) rfl ?_
      refine z_getI (pc := 148) 11 fl_Mod_120 rfl (by decide) rfl (by decide +kernel) ?_
      refine z_topI ((up_nk (by decide)).trans (up_nk (by decide))) ?_
      refine z_isub (pc := 151) (by decide +kernel) ?_
      exact z_iret (pc := 152) (by decide +kernel) rfl k
  · have k := k.2 hc
    refine z_iconst (pc := 127) (n := -1) (by decide +kernel) ⟨by decide, by decide⟩ ?_
    refine z_goto (pc := 128) (off := 7) 135 (by decide +kernel) (by decide) ?_
    refine z_putI (pc := 135) 14 fp_Mod_27 rfl rfl rfl (by decide +kernel) ?_
    refine z_aload_n (pc := 138) (q := 0) (by decide +kernel) rfl ?_
    refine z_getI (pc := 139) 11 fl_Mod_120 rfl (by decide) rfl (by decide +kernel) ?_
    refine z_topI ((up_nk (by decide)).trans (up_nk (by decide))) ?_
    refine z_if_eq (pc := 142) (off := 11) 153 (by decide +kernel) (by decide) ⟨fun hc => ?_, fun hc => ?_⟩
    · have k := k.1 hc
      refine z_iconst (pc := 153) (n := 0) (by decide +kernel) ⟨by decide, by decide⟩ ?_
      refine z_forget (pc := 154) 1 [some (vr 115), none, o2] rfl ?_
      refine z_istore_n (pc := 154) (q := 2) [some (vr 115), none, some (vi 0)] (by decide +kernel) (Nat.le_of_ble_eq_true rfl) rfl ?_
      exact k
    · have k := k.2 hc
      refine z_bipush (pc := 145) (n := -30) (by decide +kernel) (by decide) ⟨by decide, by decide⟩ ?_
      refine z_aload_n (pc := 147) (q := 0) (by decide +kernel) rfl ?_
      refine z_getI (pc := 148) 11 fl_Mod_120 rfl (by decide) rfl (by decide +kernel) ?_
      refine z_topI ((up_nk (by decide)).trans (up_nk (by decide))) ?_
      refine z_isub (pc := 151) (by decide +kernel) ?_
      exact z_iret (pc := 152) (by decide +kernel) rfl k
theorem b_Mod_room_155 {E : EN} {d : Nat} {a1 : Int} {o1 : Option AV} {a2 : Int} {σ : Mem} {K : Int → Mem → Prop}  (k : (1036 ≤ a2 → K (σ 116 0) σ) ∧ (a2 < 1036 → (0 ≤ a2 ∧ a2 < 1036) ∧ (0 ≤ a2 ∧ a2 < 3108) ∧ Z E y_Mod_room d 155 [some (vr 115), none, some (vi (w32 (a2 + 1)))] [] (up σ 116 a2 (σ 119 a2)) (qi K))) :
    Z E y_Mod_room d 155 [some (vr 115), o1, some (vi a2)] [] σ (qi K) := by
  refine z_iload_n (pc := 155) (q := 2) (by decide +kernel) rfl ?_
  refine z_sipush (pc := 156) (n := 1036) (by decide +kernel) (by decide) ⟨by decide, by decide⟩ ?_
  refine z_icmp_ge (pc := 159) (off := 21) 180 (by decide +kernel) (by decide) ⟨fun hc => ?_, fun hc => ?_⟩
  · have k := k.1 hc
    refine z_aload_n (pc := 180) (q := 0) (by decide +kernel) rfl ?_
    refine z_getR (pc := 181) 116 fl_Mod_13 rfl rfl rfl (by decide +kernel) ?_
    refine z_iconst (pc := 184) (n := 0) (by decide +kernel) ⟨by decide, by decide⟩ ?_
    refine z_iald (pc := 185) rfl ⟨by decide, by decide⟩ (by decide +kernel) ?_
    exact z_iret (pc := 186) (by decide +kernel) rfl k
  · have k := k.2 hc
    refine z_aload_n (pc := 162) (q := 0) (by decide +kernel) rfl ?_
    refine z_getR (pc := 163) 116 fl_Mod_13 rfl rfl rfl (by decide +kernel) ?_
    refine z_iload_n (pc := 166) (q := 2) (by decide +kernel) rfl ?_
    refine z_aload_n (pc := 167) (q := 0) (by decide +kernel) rfl ?_
    refine z_getR (pc := 168) 119 fl_Mod_24 rfl rfl rfl (by decide +kernel) ?_
    refine z_iload_n (pc := 171) (q := 2) (by decide +kernel) rfl ?_
    have hb1 := k.1
    have k := k.2
    refine z_iald (pc := 172) rfl hb1 (by decide +kernel) ?_
    have hb2 := k.1
    have k := k.2
    refine z_iast (pc := 173) rfl hb2 (by decide +kernel) ?_
    refine z_forget (pc := 174) 1 [some (vr 115), none, some (vi a2)] rfl ?_
    refine z_iinc (pc := 174) (i := 2) (n := 1) [some (vr 115), none, some (vi (w32 (a2 + 1)))] (by decide +kernel) rfl rfl ?_
    refine z_goto (pc := 177) (off := -22) 155 (by decide +kernel) (by decide) ?_
    exact k
theorem b_Mod_fault_0 {E : EN} {d : Nat} {a1 : Int} {σ : Mem} {K : Int → Mem → Prop}  (k : (a1 ≠ 0 → (a1 ≠ 1 → K (-1) (up σ 115 0 0)) ∧ (a1 = 1 → K (σ 115 14) (up σ 115 0 0))) ∧ (a1 = 0 → K (σ 115 13) (up σ 115 0 0))) :
    Z E y_Mod_fault d 0 [some (vr 115), some (vi a1)] [] σ (qi K) := by
  refine z_aload_n (pc := 0) (q := 0) (by decide +kernel) rfl ?_
  refine z_iconst (pc := 1) (n := 0) (by decide +kernel) ⟨by decide, by decide⟩ ?_
  refine z_putI (pc := 2) 0 fp_Mod_1 rfl rfl rfl (by decide +kernel) ?_
  refine z_iload_n (pc := 5) (q := 1) (by decide +kernel) rfl ?_
  refine z_if_ne (pc := 6) (off := 10) 16 (by decide +kernel) (by decide) ⟨fun hc => ?_, fun hc => ?_⟩
  · have k := k.1 hc
    refine z_iload_n (pc := 16) (q := 1) (by decide +kernel) rfl ?_
    refine z_iconst (pc := 17) (n := 1) (by decide +kernel) ⟨by decide, by decide⟩ ?_
    refine z_icmp_ne (pc := 18) (off := 10) 28 (by decide +kernel) (by decide) ⟨fun hc => ?_, fun hc => ?_⟩
    · have k := k.1 hc
      refine z_iconst (pc := 28) (n := -1) (by decide +kernel) ⟨by decide, by decide⟩ ?_
      exact z_iret (pc := 29) (by decide +kernel) rfl k
    · have k := k.2 hc
      refine z_aload_n (pc := 21) (q := 0) (by decide +kernel) rfl ?_
      refine z_getI (pc := 22) 14 fl_Mod_27 rfl (by decide) rfl (by decide +kernel) ?_
      refine z_topI (up_nk (by decide)) ?_
      refine z_goto (pc := 25) (off := 4) 29 (by decide +kernel) (by decide) ?_
      exact z_iret (pc := 29) (by decide +kernel) rfl k
  · have k := k.2 hc
    refine z_aload_n (pc := 9) (q := 0) (by decide +kernel) rfl ?_
    refine z_getI (pc := 10) 13 fl_Mod_196 rfl (by decide) rfl (by decide +kernel) ?_
    refine z_topI (up_nk (by decide)) ?_
    refine z_goto (pc := 13) (off := 16) 29 (by decide +kernel) (by decide) ?_
    exact z_iret (pc := 29) (by decide +kernel) rfl k
theorem b_Mod_isLetter_0 {E : EN} {d : Nat} {b1 : Int} {σ : Mem} {K : Int → Mem → Prop}  (hd : 1 ≤ d) (k : CI E y_Mod_within (d - 1) [vl b1, vl 0, vl (w32 ((σ 116 4) - 1))] σ (fun x1 τ1 => (x1 = 0 ∨ x1 = 1) ∧ K x1 τ1)) :
    Z E y_Mod_isLetter d 0 [some (vr 115), some (vl b1), none] [] σ (qi K) := by
  refine z_lload_n (pc := 0) (q := 1) (by decide +kernel) rfl ?_
  refine z_lconst (pc := 1) (n := 0) 0 (by decide +kernel) (by decide) ⟨by decide, by decide⟩ ?_
  refine z_aload_n (pc := 2) (q := 0) (by decide +kernel) rfl ?_
  refine z_getR (pc := 3) 116 fl_Mod_13 rfl rfl rfl (by decide +kernel) ?_
  refine z_iconst (pc := 6) (n := 4) (by decide +kernel) ⟨by decide, by decide⟩ ?_
  refine z_iald (pc := 7) rfl ⟨by decide, by decide⟩ (by decide +kernel) ?_
  refine z_iconst (pc := 8) (n := 1) (by decide +kernel) ⟨by decide, by decide⟩ ?_
  refine z_isub (pc := 9) (by decide +kernel) ?_
  refine z_i2l (pc := 10) (by decide +kernel) ?_
  refine z_calls (pc := 11) (as := [vl b1, vl 0, vl (w32 ((σ 116 4) - 1))]) ml_Mod_136 rfl rfl (Nat.le_of_ble_eq_true rfl) (dc := d - 1) (by omega) (by decide +kernel) (CI.z (CI.mono (fun x1 τ1 k => ?_) k))
  exact z_zret (pc := 14) (by decide +kernel) rfl k
theorem b_Mod_isHand_0 {E : EN} {d : Nat} {b1 : Int} {σ : Mem} {K : Int → Mem → Prop}  (hd : 1 ≤ d) (k : CI E y_Mod_within (d - 1) [vl b1, vl 0, vl (w32 ((σ 116 2) - 1))] σ (fun x1 τ1 => (x1 = 0 ∨ x1 = 1) ∧ K x1 τ1)) :
    Z E y_Mod_isHand d 0 [some (vr 115), some (vl b1), none] [] σ (qi K) := by
  refine z_lload_n (pc := 0) (q := 1) (by decide +kernel) rfl ?_
  refine z_lconst (pc := 1) (n := 0) 0 (by decide +kernel) (by decide) ⟨by decide, by decide⟩ ?_
  refine z_aload_n (pc := 2) (q := 0) (by decide +kernel) rfl ?_
  refine z_getR (pc := 3) 116 fl_Mod_13 rfl rfl rfl (by decide +kernel) ?_
  refine z_iconst (pc := 6) (n := 2) (by decide +kernel) ⟨by decide, by decide⟩ ?_
  refine z_iald (pc := 7) rfl ⟨by decide, by decide⟩ (by decide +kernel) ?_
  refine z_iconst (pc := 8) (n := 1) (by decide +kernel) ⟨by decide, by decide⟩ ?_
  refine z_isub (pc := 9) (by decide +kernel) ?_
  refine z_i2l (pc := 10) (by decide +kernel) ?_
  refine z_calls (pc := 11) (as := [vl b1, vl 0, vl (w32 ((σ 116 2) - 1))]) ml_Mod_136 rfl rfl (Nat.le_of_ble_eq_true rfl) (dc := d - 1) (by omega) (by decide +kernel) (CI.z (CI.mono (fun x1 τ1 k => ?_) k))
  exact z_zret (pc := 14) (by decide +kernel) rfl k
theorem b_Mod_letters_0 {E : EN} {d : Nat}  {σ : Mem} {K : Int → Mem → Prop}  (k : K (w32 ((ish 1 (σ 116 4)) - 1)) σ) :
    Z E y_Mod_letters d 0 [some (vr 115)] [] σ (qi K) := by
  refine z_iconst (pc := 0) (n := 1) (by decide +kernel) ⟨by decide, by decide⟩ ?_
  refine z_aload_n (pc := 1) (q := 0) (by decide +kernel) rfl ?_
  refine z_getR (pc := 2) 116 fl_Mod_13 rfl rfl rfl (by decide +kernel) ?_
  refine z_iconst (pc := 5) (n := 4) (by decide +kernel) ⟨by decide, by decide⟩ ?_
  refine z_iald (pc := 6) rfl ⟨by decide, by decide⟩ (by decide +kernel) ?_
  refine z_ishl (pc := 7) (by decide +kernel) ?_
  refine z_iconst (pc := 8) (n := 1) (by decide +kernel) ⟨by decide, by decide⟩ ?_
  refine z_isub (pc := 9) (by decide +kernel) ?_
  exact z_iret (pc := 10) (by decide +kernel) rfl k
theorem b_Mod_between_0 {E : EN} {d : Nat} {a0 : Int} {a1 : Int} {a2 : Int} {σ : Mem} {K : Int → Mem → Prop}  (k : (a0 ≠ 3000 → (a0 ≠ 3001 → Z E y_Mod_between d 35 [some (vi a0), some (vi a1), some (vi a2), none, none] [vl (w64 (a1 * a2))] σ (qi K)) ∧ (a0 = 3001 → Z E y_Mod_between d 35 [some (vi a0), some (vi a1), some (vi a2), none, none] [vl (w64 (a1 - a2))] σ (qi K))) ∧ (a0 = 3000 → Z E y_Mod_between d 35 [some (vi a0), some (vi a1), some (vi a2), none, none] [vl (w64 (a1 + a2))] σ (qi K))) :
    Z E y_Mod_between d 0 [some (vi a0), some (vi a1), some (vi a2), none, none] [] σ (qi K) := by
  refine z_iload_n (pc := 0) (q := 0) (by decide +kernel) rfl ?_
  refine z_sipush (pc := 1) (n := 3000) (by decide +kernel) (by decide) ⟨by decide, by decide⟩ ?_
  refine z_icmp_ne (pc := 4) (off := 11) 15 (by decide +kernel) (by decide) ⟨fun hc => ?_, fun hc => ?_⟩
  · have k := k.1 hc
    refine z_iload_n (pc := 15) (q := 0) (by decide +kernel) rfl ?_
    refine z_sipush (pc := 16) (n := 3001) (by decide +kernel) (by decide) ⟨by decide, by decide⟩ ?_
    refine z_icmp_ne (pc := 19) (off := 11) 30 (by decide +kernel) (by decide) ⟨fun hc => ?_, fun hc => ?_⟩
    · have k := k.1 hc
      refine z_iload_n (pc := 30) (q := 1) (by decide +kernel) rfl ?_
      refine z_i2l (pc := 31) (by decide +kernel) ?_
      refine z_iload_n (pc := 32) (q := 2) (by decide +kernel) rfl ?_
      refine z_i2l (pc := 33) (by decide +kernel) ?_
      refine z_lmul (pc := 34) (by decide +kernel) ?_
      exact k
    · have k := k.2 hc
      refine z_iload_n (pc := 22) (q := 1) (by decide +kernel) rfl ?_
      refine z_i2l (pc := 23) (by decide +kernel) ?_
      refine z_iload_n (pc := 24) (q := 2) (by decide +kernel) rfl ?_
      refine z_i2l (pc := 25) (by decide +kernel) ?_
      refine z_lsub (pc := 26) (by decide +kernel) ?_
      refine z_goto (pc := 27) (off := 8) 35 (by decide +kernel) (by decide) ?_
      exact k
  · have k := k.2 hc
    refine z_iload_n (pc := 7) (q := 1) (by decide +kernel) rfl ?_
    refine z_i2l (pc := 8) (by decide +kernel) ?_
    refine z_iload_n (pc := 9) (q := 2) (by decide +kernel) rfl ?_
    refine z_i2l (pc := 10) (by decide +kernel) ?_
    refine z_ladd (pc := 11) (by decide +kernel) ?_
    refine z_goto (pc := 12) (off := 23) 35 (by decide +kernel) (by decide) ?_
    exact k
theorem b_Mod_between_35 {E : EN} {d : Nat} {a0 : Int} {a1 : Int} {a2 : Int} {o0 : Option AV} {o1 : Option AV} {o2 : Option AV} {o3 : Option AV} {o4 : Option AV} {s0 : Int} {σ : Mem} {K : Int → Mem → Prop}  (k : (lcm s0 1000000 ≤ 0 → (0 ≤ lcm s0 (-1000000) → K (w32 s0) σ) ∧ (lcm s0 (-1000000) < 0 → K (w32 (-1000000)) σ)) ∧ (0 < lcm s0 1000000 → K (w32 1000000) σ)) :
    Z E y_Mod_between d 35 [o0, o1, o2, o3, o4] [vl s0] σ (qi K) := by
  refine z_forget (pc := 35) 2 [o0, o1, none, o3, o4] rfl ?_
  refine z_lstore_n (pc := 35) (q := 3) [o0, o1, none, some (vl s0), none] (by decide +kernel) (Nat.le_of_ble_eq_true rfl) rfl ?_
  refine z_lload_n (pc := 36) (q := 3) (by decide +kernel) rfl ?_
  refine z_ldc2 (pc := 37) (index := 199) 1000000 (mm7 173 rfl) ⟨by decide, by decide⟩ (by decide +kernel) ?_
  refine z_lcmp (pc := 40) (by decide +kernel) ?_
  refine z_if_le (pc := 41) (off := 9) 50 (by decide +kernel) (by decide) ⟨fun hc => ?_, fun hc => ?_⟩
  · have k := k.1 hc
    refine z_lload_n (pc := 50) (q := 3) (by decide +kernel) rfl ?_
    refine z_ldc2 (pc := 51) (index := 201) (-1000000) (mm7 174 rfl) ⟨by decide, by decide⟩ (by decide +kernel) ?_
    refine z_lcmp (pc := 54) (by decide +kernel) ?_
    refine z_if_ge (pc := 55) (off := 9) 64 (by decide +kernel) (by decide) ⟨fun hc => ?_, fun hc => ?_⟩
    · have k := k.1 hc
      refine z_lload_n (pc := 64) (q := 3) (by decide +kernel) rfl ?_
      refine z_l2i (pc := 65) (by decide +kernel) ?_
      exact z_iret (pc := 66) (by decide +kernel) rfl k
    · have k := k.2 hc
      refine z_ldc2 (pc := 58) (index := 201) (-1000000) (mm7 174 rfl) ⟨by decide, by decide⟩ (by decide +kernel) ?_
      refine z_goto (pc := 61) (off := 4) 65 (by decide +kernel) (by decide) ?_
      refine z_l2i (pc := 65) (by decide +kernel) ?_
      exact z_iret (pc := 66) (by decide +kernel) rfl k
  · have k := k.2 hc
    refine z_ldc2 (pc := 44) (index := 199) 1000000 (mm7 173 rfl) ⟨by decide, by decide⟩ (by decide +kernel) ?_
    refine z_goto (pc := 47) (off := 18) 65 (by decide +kernel) (by decide) ?_
    refine z_l2i (pc := 65) (by decide +kernel) ?_
    exact z_iret (pc := 66) (by decide +kernel) rfl k
theorem b_Mod_wordFor_0 {E : EN} {d : Nat} {a1 : Int} {a2 : Int} {a3 : Int} {σ : Mem} {K : Int → Mem → Prop}  (k : (a1 = 0 → (0 ≤ w32 (49 + a2) ∧ w32 (49 + a2) < 3108) ∧ K (σ 116 (w32 (49 + a2))) σ) ∧ (a1 = 1 → (0 ≤ w32 (61 + a2) ∧ w32 (61 + a2) < 3108) ∧ K (σ 116 (w32 (61 + a2))) σ) ∧ (a1 = 2 → (0 ≤ w32 (67 + a2) ∧ w32 (67 + a2) < 3108) ∧ K (σ 116 (w32 (67 + a2))) σ) ∧ (a1 = 3 → (0 ≤ w32 (43 + a2) ∧ w32 (43 + a2) < 3108) ∧ K (σ 116 (w32 (43 + a2))) σ) ∧ (a1 < 0 ∨ 3 < a1 → (0 ≤ w32 (30 + a3) ∧ w32 (30 + a3) < 3108) ∧ K (σ 116 (w32 (30 + a3))) σ)) :
    Z E y_Mod_wordFor d 0 [some (vr 115), some (vi a1), some (vi a2), some (vi a3)] [] σ (qi K) := by
  refine z_iload_n (pc := 0) (q := 1) (by decide +kernel) rfl ?_
  have hdg : decode y_Mod_wordFor.2.1 1 = .ok (.tableswitch 71 0 3 #[31, 41, 51, 61], 31) := by decide +kernel
  by_cases hl0 : a1 < 0
  · have k := k.2.2.2.2 (Or.inl hl0)
    refine z_tableOut (pc := 1) 72 hdg (Or.inl hl0) (by decide) ?_
    refine z_aload_n (pc := 72) (q := 0) (by decide +kernel) rfl ?_
    refine z_getR (pc := 73) 116 fl_Mod_13 rfl rfl rfl (by decide +kernel) ?_
    refine z_bipush (pc := 76) (n := 30) (by decide +kernel) (by decide) ⟨by decide, by decide⟩ ?_
    refine z_iload_n (pc := 78) (q := 3) (by decide +kernel) rfl ?_
    refine z_iadd (pc := 79) (by decide +kernel) ?_
    have hb1 := k.1
    have k := k.2
    refine z_iald (pc := 80) rfl hb1 (by decide +kernel) ?_
    exact z_iret (pc := 81) (by decide +kernel) rfl k
  have hl : 0 ≤ a1 := Int.not_lt.mp hl0
  by_cases hc : a1 = 0
  · have k := k.1 hc
    refine z_tableIn2 (pc := 1) (off := 31) 32 hdg hc (by decide) (by decide +kernel) (by decide) ?_
    refine z_aload_n (pc := 32) (q := 0) (by decide +kernel) rfl ?_
    refine z_getR (pc := 33) 116 fl_Mod_13 rfl rfl rfl (by decide +kernel) ?_
    refine z_bipush (pc := 36) (n := 49) (by decide +kernel) (by decide) ⟨by decide, by decide⟩ ?_
    refine z_iload_n (pc := 38) (q := 2) (by decide +kernel) rfl ?_
    refine z_iadd (pc := 39) (by decide +kernel) ?_
    have hb2 := k.1
    have k := k.2
    refine z_iald (pc := 40) rfl hb2 (by decide +kernel) ?_
    exact z_iret (pc := 41) (by decide +kernel) rfl k
  have k := k.2
  have hl := ne_up (w := 1) hl hc rfl; clear hc
  by_cases hc : a1 = 1
  · have k := k.1 hc
    refine z_tableIn2 (pc := 1) (off := 41) 42 hdg hc (by decide) (by decide +kernel) (by decide) ?_
    refine z_aload_n (pc := 42) (q := 0) (by decide +kernel) rfl ?_
    refine z_getR (pc := 43) 116 fl_Mod_13 rfl rfl rfl (by decide +kernel) ?_
    refine z_bipush (pc := 46) (n := 61) (by decide +kernel) (by decide) ⟨by decide, by decide⟩ ?_
    refine z_iload_n (pc := 48) (q := 2) (by decide +kernel) rfl ?_
    refine z_iadd (pc := 49) (by decide +kernel) ?_
    have hb3 := k.1
    have k := k.2
    refine z_iald (pc := 50) rfl hb3 (by decide +kernel) ?_
    exact z_iret (pc := 51) (by decide +kernel) rfl k
  have k := k.2
  have hl := ne_up (w := 2) hl hc rfl; clear hc
  by_cases hc : a1 = 2
  · have k := k.1 hc
    refine z_tableIn2 (pc := 1) (off := 51) 52 hdg hc (by decide) (by decide +kernel) (by decide) ?_
    refine z_aload_n (pc := 52) (q := 0) (by decide +kernel) rfl ?_
    refine z_getR (pc := 53) 116 fl_Mod_13 rfl rfl rfl (by decide +kernel) ?_
    refine z_bipush (pc := 56) (n := 67) (by decide +kernel) (by decide) ⟨by decide, by decide⟩ ?_
    refine z_iload_n (pc := 58) (q := 2) (by decide +kernel) rfl ?_
    refine z_iadd (pc := 59) (by decide +kernel) ?_
    have hb4 := k.1
    have k := k.2
    refine z_iald (pc := 60) rfl hb4 (by decide +kernel) ?_
    exact z_iret (pc := 61) (by decide +kernel) rfl k
  have k := k.2
  have hl := ne_up (w := 3) hl hc rfl; clear hc
  by_cases hc : a1 = 3
  · have k := k.1 hc
    refine z_tableIn2 (pc := 1) (off := 61) 62 hdg hc (by decide) (by decide +kernel) (by decide) ?_
    refine z_aload_n (pc := 62) (q := 0) (by decide +kernel) rfl ?_
    refine z_getR (pc := 63) 116 fl_Mod_13 rfl rfl rfl (by decide +kernel) ?_
    refine z_bipush (pc := 66) (n := 43) (by decide +kernel) (by decide) ⟨by decide, by decide⟩ ?_
    refine z_iload_n (pc := 68) (q := 2) (by decide +kernel) rfl ?_
    refine z_iadd (pc := 69) (by decide +kernel) ?_
    have hb5 := k.1
    have k := k.2
    refine z_iald (pc := 70) rfl hb5 (by decide +kernel) ?_
    exact z_iret (pc := 71) (by decide +kernel) rfl k
  have k := k.2
  have hl := ne_up (w := 4) hl hc rfl; clear hc
  have hl := Int.lt_of_add_one_le (a := 3) hl
  have k := k (Or.inr hl)
  refine z_tableOut (pc := 1) 72 hdg (Or.inr hl) (by decide) ?_
  refine z_aload_n (pc := 72) (q := 0) (by decide +kernel) rfl ?_
  refine z_getR (pc := 73) 116 fl_Mod_13 rfl rfl rfl (by decide +kernel) ?_
  refine z_bipush (pc := 76) (n := 30) (by decide +kernel) (by decide) ⟨by decide, by decide⟩ ?_
  refine z_iload_n (pc := 78) (q := 3) (by decide +kernel) rfl ?_
  refine z_iadd (pc := 79) (by decide +kernel) ?_
  have hb1 := k.1
  have k := k.2
  refine z_iald (pc := 80) rfl hb1 (by decide +kernel) ?_
  exact z_iret (pc := 81) (by decide +kernel) rfl k
theorem b_Mod_reckons_0 {E : EN} {d : Nat} {a1 : Int} {a2 : Int} {a3 : Int} {a4 : Int} {σ : Mem} {K : Int → Mem → Prop}  (k : Z E y_Mod_reckons d 6 [some (vr 115), some (vi a1), some (vi a2), some (vi a3), some (vi a4), some (vi 0), some (vi 0), none] [] σ (qi K)) :
    Z E y_Mod_reckons d 0 [some (vr 115), some (vi a1), some (vi a2), some (vi a3), some (vi a4), none, none, none] [] σ (qi K) := by
  refine z_iconst (pc := 0) (n := 0) (by decide +kernel) ⟨by decide, by decide⟩ ?_
  refine z_istore (pc := 1) (i := 5) [some (vr 115), some (vi a1), some (vi a2), some (vi a3), some (vi a4), some (vi 0), none, none] (by decide +kernel) (Nat.le_of_ble_eq_true rfl) rfl ?_
  refine z_iconst (pc := 3) (n := 0) (by decide +kernel) ⟨by decide, by decide⟩ ?_
  refine z_istore (pc := 4) (i := 6) [some (vr 115), some (vi a1), some (vi a2), some (vi a3), some (vi a4), some (vi 0), some (vi 0), none] (by decide +kernel) (Nat.le_of_ble_eq_true rfl) rfl ?_
  exact k
theorem b_Mod_reckons_6 {E : EN} {d : Nat} {a1 : Int} {a2 : Int} {a3 : Int} {a4 : Int} {a5 : Int} {a6 : Int} {o7 : Option AV} {σ : Mem} {K : Int → Mem → Prop}  (hd : 1 ≤ d) (k : (0 ≤ w32 (15 + a1) ∧ w32 (15 + a1) < 3108) ∧ (σ 116 (w32 (15 + a1)) ≤ a6 → (0 ≤ σ 120 0 → (σ 120 0 ≤ a4 → K (σ 120 0) σ) ∧ (a4 < σ 120 0 → K a4 σ)) ∧ (σ 120 0 < 0 → K 0 σ)) ∧ (a6 < σ 116 (w32 (15 + a1)) → (0 ≤ w32 (11 + a1) ∧ w32 (11 + a1) < 3108) ∧ (0 ≤ w32 ((w32 (136 + (σ 116 (w32 (11 + a1))))) + a6) ∧ w32 ((w32 (136 + (σ 116 (w32 (11 + a1))))) + a6) < 3108) ∧ (3000 ≤ σ 116 (w32 ((w32 (136 + (σ 116 (w32 (11 + a1))))) + a6)) → (0 ≤ w32 ((w32 (a5 + (-1))) - 1) ∧ w32 ((w32 (a5 + (-1))) - 1) < 900) ∧ (0 ≤ w32 (a5 + (-1)) ∧ w32 (a5 + (-1)) < 900) ∧ CI E y_Mod_between (d - 1) [vi (σ 116 (w32 ((w32 (136 + (σ 116 (w32 (11 + a1))))) + a6))), vi (σ 120 (w32 ((w32 (a5 + (-1))) - 1))), vi (σ 120 (w32 (a5 + (-1))))] σ (fun x1 τ1 => Z E y_Mod_reckons d 6 [some (vr 115), some (vi a1), some (vi a2), some (vi a3), some (vi a4), some (vi (w32 (a5 + (-1)))), some (vi (w32 (a6 + 1))), some (vi (σ 116 (w32 ((w32 (136 + (σ 116 (w32 (11 + a1))))) + a6))))] [] (up τ1 120 (w32 ((w32 (a5 + (-1))) - 1)) x1) (qi K))) ∧ (σ 116 (w32 ((w32 (136 + (σ 116 (w32 (11 + a1))))) + a6)) < 3000 → (1000 ≤ σ 116 (w32 ((w32 (136 + (σ 116 (w32 (11 + a1))))) + a6)) → CI E y_Mod_wordFor (d - 1) [vr 115, vi (w32 ((σ 116 (w32 ((w32 (136 + (σ 116 (w32 (11 + a1))))) + a6))) - 1000)), vi a2, vi a3] σ (fun x2 τ2 => (0 ≤ a5 ∧ a5 < 900) ∧ Z E y_Mod_reckons d 6 [some (vr 115), some (vi a1), some (vi a2), some (vi a3), some (vi a4), some (vi (w32 (a5 + 1))), some (vi (w32 (a6 + 1))), some (vi (σ 116 (w32 ((w32 (136 + (σ 116 (w32 (11 + a1))))) + a6))))] [] (up τ2 120 a5 x2) (qi K))) ∧ (σ 116 (w32 ((w32 (136 + (σ 116 (w32 (11 + a1))))) + a6)) < 1000 → (0 ≤ a5 ∧ a5 < 900) ∧ Z E y_Mod_reckons d 6 [some (vr 115), some (vi a1), some (vi a2), some (vi a3), some (vi a4), some (vi (w32 (a5 + 1))), some (vi (w32 (a6 + 1))), some (vi (σ 116 (w32 ((w32 (136 + (σ 116 (w32 (11 + a1))))) + a6))))] [] (up σ 120 a5 (σ 116 (w32 ((w32 (136 + (σ 116 (w32 (11 + a1))))) + a6)))) (qi K))))) :
    Z E y_Mod_reckons d 6 [some (vr 115), some (vi a1), some (vi a2), some (vi a3), some (vi a4), some (vi a5), some (vi a6), o7] [] σ (qi K) := by
  refine z_iload (pc := 6) (i := 6) (by decide +kernel) rfl ?_
  refine z_aload_n (pc := 8) (q := 0) (by decide +kernel) rfl ?_
  refine z_getR (pc := 9) 116 fl_Mod_13 rfl rfl rfl (by decide +kernel) ?_
  refine z_bipush (pc := 12) (n := 15) (by decide +kernel) (by decide) ⟨by decide, by decide⟩ ?_
  refine z_iload_n (pc := 14) (q := 1) (by decide +kernel) rfl ?_
  refine z_iadd (pc := 15) (by decide +kernel) ?_
  have hb1 := k.1
  have k := k.2
  refine z_iald (pc := 16) rfl hb1 (by decide +kernel) ?_
  refine z_icmp_ge (pc := 17) (off := 111) 128 (by decide +kernel) (by decide) ⟨fun hc => ?_, fun hc => ?_⟩
  · have k := k.1 hc
    refine z_aload_n (pc := 128) (q := 0) (by decide +kernel) rfl ?_
    refine z_getR (pc := 129) 120 fl_Mod_30 rfl rfl rfl (by decide +kernel) ?_
    refine z_iconst (pc := 132) (n := 0) (by decide +kernel) ⟨by decide, by decide⟩ ?_
    refine z_iald (pc := 133) rfl ⟨by decide, by decide⟩ (by decide +kernel) ?_
    refine z_if_ge (pc := 134) (off := 7) 141 (by decide +kernel) (by decide) ⟨fun hc => ?_, fun hc => ?_⟩
    · have k := k.1 hc
      refine z_aload_n (pc := 141) (q := 0) (by decide +kernel) rfl ?_
      refine z_getR (pc := 142) 120 fl_Mod_30 rfl rfl rfl (by decide +kernel) ?_
      refine z_iconst (pc := 145) (n := 0) (by decide +kernel) ⟨by decide, by decide⟩ ?_
      refine z_iald (pc := 146) rfl ⟨by decide, by decide⟩ (by decide +kernel) ?_
      refine z_iload (pc := 147) (i := 4) (by decide +kernel) rfl ?_
      refine z_icmp_le (pc := 149) (off := 8) 157 (by decide +kernel) (by decide) ⟨fun hc => ?_, fun hc => ?_⟩
      · have k := k.1 hc
        refine z_aload_n (pc := 157) (q := 0) (by decide +kernel) rfl ?_
        refine z_getR (pc := 158) 120 fl_Mod_30 rfl rfl rfl (by decide +kernel) ?_
        refine z_iconst (pc := 161) (n := 0) (by decide +kernel) ⟨by decide, by decide⟩ ?_
        refine z_iald (pc := 162) rfl ⟨by decide, by decide⟩ (by decide +kernel) ?_
        exact z_iret (pc := 163) (by decide +kernel) rfl k
      · have k := k.2 hc
        refine z_iload (pc := 152) (i := 4) (by decide +kernel) rfl ?_
        refine z_goto (pc := 154) (off := 9) 163 (by decide +kernel) (by decide) ?_
        exact z_iret (pc := 163) (by decide +kernel) rfl k
    · have k := k.2 hc
      refine z_iconst (pc := 137) (n := 0) (by decide +kernel) ⟨by decide, by decide⟩ ?_
      refine z_goto (pc := 138) (off := 25) 163 (by decide +kernel) (by decide) ?_
      exact z_iret (pc := 163) (by decide +kernel) rfl k
  · have k := k.2 hc
    refine z_aload_n (pc := 20) (q := 0) (by decide +kernel) rfl ?_
    refine z_getR (pc := 21) 116 fl_Mod_13 rfl rfl rfl (by decide +kernel) ?_
    refine z_sipush (pc := 24) (n := 136) (by decide +kernel) (by decide) ⟨by decide, by decide⟩ ?_
    refine z_aload_n (pc := 27) (q := 0) (by decide +kernel) rfl ?_
    refine z_getR (pc := 28) 116 fl_Mod_13 rfl rfl rfl (by decide +kernel) ?_
    refine z_bipush (pc := 31) (n := 11) (by decide +kernel) (by decide) ⟨by decide, by decide⟩ ?_
    refine z_iload_n (pc := 33) (q := 1) (by decide +kernel) rfl ?_
    refine z_iadd (pc := 34) (by decide +kernel) ?_
    have hb2 := k.1
    have k := k.2
    refine z_iald (pc := 35) rfl hb2 (by decide +kernel) ?_
    refine z_iadd (pc := 36) (by decide +kernel) ?_
    refine z_iload (pc := 37) (i := 6) (by decide +kernel) rfl ?_
    refine z_iadd (pc := 39) (by decide +kernel) ?_
    have hb3 := k.1
    have k := k.2
    refine z_iald (pc := 40) rfl hb3 (by decide +kernel) ?_
    refine z_istore (pc := 41) (i := 7) [some (vr 115), some (vi a1), some (vi a2), some (vi a3), some (vi a4), some (vi a5), some (vi a6), some (vi (σ 116 (w32 ((w32 (136 + (σ 116 (w32 (11 + a1))))) + a6))))] (by decide +kernel) (Nat.le_of_ble_eq_true rfl) rfl ?_
    refine z_iload (pc := 43) (i := 7) (by decide +kernel) rfl ?_
    refine z_sipush (pc := 45) (n := 3000) (by decide +kernel) (by decide) ⟨by decide, by decide⟩ ?_
    refine z_icmp_ge (pc := 48) (off := 41) 89 (by decide +kernel) (by decide) ⟨fun hc => ?_, fun hc => ?_⟩
    · have k := k.1 hc
      refine z_iinc (pc := 89) (i := 5) (n := -1) [some (vr 115), some (vi a1), some (vi a2), some (vi a3), some (vi a4), some (vi (w32 (a5 + (-1)))), some (vi a6), some (vi (σ 116 (w32 ((w32 (136 + (σ 116 (w32 (11 + a1))))) + a6))))] (by decide +kernel) rfl rfl ?_
      refine z_aload_n (pc := 92) (q := 0) (by decide +kernel) rfl ?_
      refine z_getR (pc := 93) 120 fl_Mod_30 rfl rfl rfl (by decide +kernel) ?_
      refine z_iload (pc := 96) (i := 5) (by decide +kernel) rfl ?_
      refine z_iconst (pc := 98) (n := 1) (by decide +kernel) ⟨by decide, by decide⟩ ?_
      refine z_isub (pc := 99) (by decide +kernel) ?_
      refine z_iload (pc := 100) (i := 7) (by decide +kernel) rfl ?_
      refine z_aload_n (pc := 102) (q := 0) (by decide +kernel) rfl ?_
      refine z_getR (pc := 103) 120 fl_Mod_30 rfl rfl rfl (by decide +kernel) ?_
      refine z_iload (pc := 106) (i := 5) (by decide +kernel) rfl ?_
      refine z_iconst (pc := 108) (n := 1) (by decide +kernel) ⟨by decide, by decide⟩ ?_
      refine z_isub (pc := 109) (by decide +kernel) ?_
      have hb4 := k.1
      have k := k.2
      refine z_iald (pc := 110) rfl hb4 (by decide +kernel) ?_
      refine z_aload_n (pc := 111) (q := 0) (by decide +kernel) rfl ?_
      refine z_getR (pc := 112) 120 fl_Mod_30 rfl rfl rfl (by decide +kernel) ?_
      refine z_iload (pc := 115) (i := 5) (by decide +kernel) rfl ?_
      have hb5 := k.1
      have k := k.2
      refine z_iald (pc := 117) rfl hb5 (by decide +kernel) ?_
      refine z_calls (pc := 118) (as := [vi (σ 116 (w32 ((w32 (136 + (σ 116 (w32 (11 + a1))))) + a6))), vi (σ 120 (w32 ((w32 (a5 + (-1))) - 1))), vi (σ 120 (w32 (a5 + (-1))))]) ml_Mod_207 rfl rfl (Nat.le_of_ble_eq_true rfl) (dc := d - 1) (by omega) (by decide +kernel) (CI.z (CI.mono (fun x1 τ1 k => ?_) k))
      refine z_iast (pc := 121) rfl hb4 (by decide +kernel) ?_
      refine z_iinc (pc := 122) (i := 6) (n := 1) [some (vr 115), some (vi a1), some (vi a2), some (vi a3), some (vi a4), some (vi (w32 (a5 + (-1)))), some (vi (w32 (a6 + 1))), some (vi (σ 116 (w32 ((w32 (136 + (σ 116 (w32 (11 + a1))))) + a6))))] (by decide +kernel) rfl rfl ?_
      refine z_goto (pc := 125) (off := -119) 6 (by decide +kernel) (by decide) ?_
      exact k
    · have k := k.2 hc
      refine z_aload_n (pc := 51) (q := 0) (by decide +kernel) rfl ?_
      refine z_getR (pc := 52) 120 fl_Mod_30 rfl rfl rfl (by decide +kernel) ?_
      refine z_iload (pc := 55) (i := 5) (by decide +kernel) rfl ?_
      refine z_iload (pc := 57) (i := 7) (by decide +kernel) rfl ?_
      refine z_sipush (pc := 59) (n := 1000) (by decide +kernel) (by decide) ⟨by decide, by decide⟩ ?_
      refine z_icmp_ge (pc := 62) (off := 8) 70 (by decide +kernel) (by decide) ⟨fun hc => ?_, fun hc => ?_⟩
      · have k := k.1 hc
        refine z_aload_n (pc := 70) (q := 0) (by decide +kernel) rfl ?_
        refine z_iload (pc := 71) (i := 7) (by decide +kernel) rfl ?_
        refine z_sipush (pc := 73) (n := 1000) (by decide +kernel) (by decide) ⟨by decide, by decide⟩ ?_
        refine z_isub (pc := 76) (by decide +kernel) ?_
        refine z_iload_n (pc := 77) (q := 2) (by decide +kernel) rfl ?_
        refine z_iload_n (pc := 78) (q := 3) (by decide +kernel) rfl ?_
        refine z_callv (pc := 79) (as := [vi (w32 ((σ 116 (w32 ((w32 (136 + (σ 116 (w32 (11 + a1))))) + a6))) - 1000)), vi a2, vi a3]) ml_Mod_203 rfl ⟨rfl, by decide⟩ rfl rfl (Nat.le_of_ble_eq_true rfl) (dc := d - 1) (by omega) (by decide +kernel) (CI.z (CI.mono (fun x2 τ2 k => ?_) k))
        have hb6 := k.1
        have k := k.2
        refine z_iast (pc := 82) rfl hb6 (by decide +kernel) ?_
        refine z_iinc (pc := 83) (i := 5) (n := 1) [some (vr 115), some (vi a1), some (vi a2), some (vi a3), some (vi a4), some (vi (w32 (a5 + 1))), some (vi a6), some (vi (σ 116 (w32 ((w32 (136 + (σ 116 (w32 (11 + a1))))) + a6))))] (by decide +kernel) rfl rfl ?_
        refine z_goto (pc := 86) (off := 36) 122 (by decide +kernel) (by decide) ?_
        refine z_iinc (pc := 122) (i := 6) (n := 1) [some (vr 115), some (vi a1), some (vi a2), some (vi a3), some (vi a4), some (vi (w32 (a5 + 1))), some (vi (w32 (a6 + 1))), some (vi (σ 116 (w32 ((w32 (136 + (σ 116 (w32 (11 + a1))))) + a6))))] (by decide +kernel) rfl rfl ?_
        refine z_goto (pc := 125) (off := -119) 6 (by decide +kernel) (by decide) ?_
        exact k
      · have k := k.2 hc
        refine z_iload (pc := 65) (i := 7) (by decide +kernel) rfl ?_
        refine z_goto (pc := 67) (off := 15) 82 (by decide +kernel) (by decide) ?_
        have hb7 := k.1
        have k := k.2
        refine z_iast (pc := 82) rfl hb7 (by decide +kernel) ?_
        refine z_iinc (pc := 83) (i := 5) (n := 1) [some (vr 115), some (vi a1), some (vi a2), some (vi a3), some (vi a4), some (vi (w32 (a5 + 1))), some (vi a6), some (vi (σ 116 (w32 ((w32 (136 + (σ 116 (w32 (11 + a1))))) + a6))))] (by decide +kernel) rfl rfl ?_
        refine z_goto (pc := 86) (off := 36) 122 (by decide +kernel) (by decide) ?_
        refine z_iinc (pc := 122) (i := 6) (n := 1) [some (vr 115), some (vi a1), some (vi a2), some (vi a3), some (vi a4), some (vi (w32 (a5 + 1))), some (vi (w32 (a6 + 1))), some (vi (σ 116 (w32 ((w32 (136 + (σ 116 (w32 (11 + a1))))) + a6))))] (by decide +kernel) rfl rfl ?_
        refine z_goto (pc := 125) (off := -119) 6 (by decide +kernel) (by decide) ?_
        exact k
theorem b_Mod_opensIn_0 {E : EN} {d : Nat} {a1 : Int} {σ : Mem} {K : Int → Mem → Prop}  (hd : 1 ≤ d) (k : (σ 116 7 ≠ 0 → CI E y_Mod_reckons (d - 1) [vr 115, vi 0, vi a1, vi 0, vi 999] σ (fun x1 τ1 => K x1 τ1)) ∧ (σ 116 7 = 0 → K 2 σ)) :
    Z E y_Mod_opensIn d 0 [some (vr 115), some (vi a1)] [] σ (qi K) := by
  refine z_aload_n (pc := 0) (q := 0) (by decide +kernel) rfl ?_
  refine z_getR (pc := 1) 116 fl_Mod_13 rfl rfl rfl (by decide +kernel) ?_
  refine z_bipush (pc := 4) (n := 7) (by decide +kernel) (by decide) ⟨by decide, by decide⟩ ?_
  refine z_iald (pc := 6) rfl ⟨by decide, by decide⟩ (by decide +kernel) ?_
  refine z_if_ne (pc := 7) (off := 7) 14 (by decide +kernel) (by decide) ⟨fun hc => ?_, fun hc => ?_⟩
  · have k := k.1 hc
    refine z_aload_n (pc := 14) (q := 0) (by decide +kernel) rfl ?_
    refine z_iconst (pc := 15) (n := 0) (by decide +kernel) ⟨by decide, by decide⟩ ?_
    refine z_iload_n (pc := 16) (q := 1) (by decide +kernel) rfl ?_
    refine z_iconst (pc := 17) (n := 0) (by decide +kernel) ⟨by decide, by decide⟩ ?_
    refine z_sipush (pc := 18) (n := 999) (by decide +kernel) (by decide) ⟨by decide, by decide⟩ ?_
    refine z_callv (pc := 21) (as := [vi 0, vi a1, vi 0, vi 999]) ml_Mod_210 rfl ⟨rfl, by decide⟩ rfl rfl (Nat.le_of_ble_eq_true rfl) (dc := d - 1) (by omega) (by decide +kernel) (CI.z (CI.mono (fun x1 τ1 k => ?_) k))
    exact z_iret (pc := 24) (by decide +kernel) rfl k
  · have k := k.2 hc
    refine z_iconst (pc := 10) (n := 2) (by decide +kernel) ⟨by decide, by decide⟩ ?_
    refine z_goto (pc := 11) (off := 13) 24 (by decide +kernel) (by decide) ?_
    exact z_iret (pc := 24) (by decide +kernel) rfl k
theorem b_Mod_copiesIn_0 {E : EN} {d : Nat} {a1 : Int} {a2 : Int} {σ : Mem} {K : Int → Mem → Prop}  (hd : 1 ≤ d) (k : (σ 116 8 ≠ 1 → (0 ≤ w32 (49 + a1) ∧ w32 (49 + a1) < 3108) ∧ (0 ≤ w32 (30 + a2) ∧ w32 (30 + a2) < 3108) ∧ (1 ≤ w32 ((w32 (5 * (σ 116 (w32 (49 + a1))))) - (σ 116 (w32 (30 + a2)))) → K (w32 ((w32 (5 * (σ 116 (w32 (49 + a1))))) - (σ 116 (w32 (30 + a2))))) σ) ∧ (w32 ((w32 (5 * (σ 116 (w32 (49 + a1))))) - (σ 116 (w32 (30 + a2)))) < 1 → K 1 σ)) ∧ (σ 116 8 = 1 → CI E y_Mod_reckons (d - 1) [vr 115, vi 1, vi a1, vi a2, vi 999] σ (fun x1 τ1 => K x1 τ1))) :
    Z E y_Mod_copiesIn d 0 [some (vr 115), some (vi a1), some (vi a2), none] [] σ (qi K) := by
  refine z_aload_n (pc := 0) (q := 0) (by decide +kernel) rfl ?_
  refine z_getR (pc := 1) 116 fl_Mod_13 rfl rfl rfl (by decide +kernel) ?_
  refine z_bipush (pc := 4) (n := 8) (by decide +kernel) (by decide) ⟨by decide, by decide⟩ ?_
  refine z_iald (pc := 6) rfl ⟨by decide, by decide⟩ (by decide +kernel) ?_
  refine z_iconst (pc := 7) (n := 1) (by decide +kernel) ⟨by decide, by decide⟩ ?_
  refine z_icmp_ne (pc := 8) (off := 14) 22 (by decide +kernel) (by decide) ⟨fun hc => ?_, fun hc => ?_⟩
  · have k := k.1 hc
    refine z_iconst (pc := 22) (n := 5) (by decide +kernel) ⟨by decide, by decide⟩ ?_
    refine z_aload_n (pc := 23) (q := 0) (by decide +kernel) rfl ?_
    refine z_getR (pc := 24) 116 fl_Mod_13 rfl rfl rfl (by decide +kernel) ?_
    refine z_bipush (pc := 27) (n := 49) (by decide +kernel) (by decide) ⟨by decide, by decide⟩ ?_
    refine z_iload_n (pc := 29) (q := 1) (by decide +kernel) rfl ?_
    refine z_iadd (pc := 30) (by decide +kernel) ?_
    have hb1 := k.1
    have k := k.2
    refine z_iald (pc := 31) rfl hb1 (by decide +kernel) ?_
    refine z_imul (pc := 32) (by decide +kernel) ?_
    refine z_aload_n (pc := 33) (q := 0) (by decide +kernel) rfl ?_
    refine z_getR (pc := 34) 116 fl_Mod_13 rfl rfl rfl (by decide +kernel) ?_
    refine z_bipush (pc := 37) (n := 30) (by decide +kernel) (by decide) ⟨by decide, by decide⟩ ?_
    refine z_iload_n (pc := 39) (q := 2) (by decide +kernel) rfl ?_
    refine z_iadd (pc := 40) (by decide +kernel) ?_
    have hb2 := k.1
    have k := k.2
    refine z_iald (pc := 41) rfl hb2 (by decide +kernel) ?_
    refine z_isub (pc := 42) (by decide +kernel) ?_
    refine z_istore_n (pc := 43) (q := 3) [some (vr 115), some (vi a1), some (vi a2), some (vi (w32 ((w32 (5 * (σ 116 (w32 (49 + a1))))) - (σ 116 (w32 (30 + a2))))))] (by decide +kernel) (Nat.le_of_ble_eq_true rfl) rfl ?_
    refine z_iload_n (pc := 44) (q := 3) (by decide +kernel) rfl ?_
    refine z_iconst (pc := 45) (n := 1) (by decide +kernel) ⟨by decide, by decide⟩ ?_
    refine z_icmp_ge (pc := 46) (off := 7) 53 (by decide +kernel) (by decide) ⟨fun hc => ?_, fun hc => ?_⟩
    · have k := k.1 hc
      refine z_iload_n (pc := 53) (q := 3) (by decide +kernel) rfl ?_
      exact z_iret (pc := 54) (by decide +kernel) rfl k
    · have k := k.2 hc
      refine z_iconst (pc := 49) (n := 1) (by decide +kernel) ⟨by decide, by decide⟩ ?_
      refine z_goto (pc := 50) (off := 4) 54 (by decide +kernel) (by decide) ?_
      exact z_iret (pc := 54) (by decide +kernel) rfl k
  · have k := k.2 hc
    refine z_aload_n (pc := 11) (q := 0) (by decide +kernel) rfl ?_
    refine z_iconst (pc := 12) (n := 1) (by decide +kernel) ⟨by decide, by decide⟩ ?_
    refine z_iload_n (pc := 13) (q := 1) (by decide +kernel) rfl ?_
    refine z_iload_n (pc := 14) (q := 2) (by decide +kernel) rfl ?_
    refine z_sipush (pc := 15) (n := 999) (by decide +kernel) (by decide) ⟨by decide, by decide⟩ ?_
    refine z_callv (pc := 18) (as := [vi 1, vi a1, vi a2, vi 999]) ml_Mod_210 rfl ⟨rfl, by decide⟩ rfl rfl (Nat.le_of_ble_eq_true rfl) (dc := d - 1) (by omega) (by decide +kernel) (CI.z (CI.mono (fun x1 τ1 k => ?_) k))
    exact z_iret (pc := 21) (by decide +kernel) rfl k
theorem b_Mod_mendsIn_0 {E : EN} {d : Nat} {a1 : Int} {σ : Mem} {K : Int → Mem → Prop}  (hd : 1 ≤ d) (k : (σ 116 9 ≠ 0 → CI E y_Mod_reckons (d - 1) [vr 115, vi 2, vi a1, vi 0, vi 999] σ (fun x1 τ1 => K x1 τ1)) ∧ (σ 116 9 = 0 → (0 ≤ w32 (61 + a1) ∧ w32 (61 + a1) < 3108) ∧ K (w32 ((σ 116 (w32 (61 + a1))) + 3)) σ)) :
    Z E y_Mod_mendsIn d 0 [some (vr 115), some (vi a1)] [] σ (qi K) := by
  refine z_aload_n (pc := 0) (q := 0) (by decide +kernel) rfl ?_
  refine z_getR (pc := 1) 116 fl_Mod_13 rfl rfl rfl (by decide +kernel) ?_
  refine z_bipush (pc := 4) (n := 9) (by decide +kernel) (by decide) ⟨by decide, by decide⟩ ?_
  refine z_iald (pc := 6) rfl ⟨by decide, by decide⟩ (by decide +kernel) ?_
  refine z_if_ne (pc := 7) (off := 17) 24 (by decide +kernel) (by decide) ⟨fun hc => ?_, fun hc => ?_⟩
  · have k := k.1 hc
    refine z_aload_n (pc := 24) (q := 0) (by decide +kernel) rfl ?_
    refine z_iconst (pc := 25) (n := 2) (by decide +kernel) ⟨by decide, by decide⟩ ?_
    refine z_iload_n (pc := 26) (q := 1) (by decide +kernel) rfl ?_
    refine z_iconst (pc := 27) (n := 0) (by decide +kernel) ⟨by decide, by decide⟩ ?_
    refine z_sipush (pc := 28) (n := 999) (by decide +kernel) (by decide) ⟨by decide, by decide⟩ ?_
    refine z_callv (pc := 31) (as := [vi 2, vi a1, vi 0, vi 999]) ml_Mod_210 rfl ⟨rfl, by decide⟩ rfl rfl (Nat.le_of_ble_eq_true rfl) (dc := d - 1) (by omega) (by decide +kernel) (CI.z (CI.mono (fun x1 τ1 k => ?_) k))
    exact z_iret (pc := 34) (by decide +kernel) rfl k
  · have k := k.2 hc
    refine z_aload_n (pc := 10) (q := 0) (by decide +kernel) rfl ?_
    refine z_getR (pc := 11) 116 fl_Mod_13 rfl rfl rfl (by decide +kernel) ?_
    refine z_bipush (pc := 14) (n := 61) (by decide +kernel) (by decide) ⟨by decide, by decide⟩ ?_
    refine z_iload_n (pc := 16) (q := 1) (by decide +kernel) rfl ?_
    refine z_iadd (pc := 17) (by decide +kernel) ?_
    have hb1 := k.1
    have k := k.2
    refine z_iald (pc := 18) rfl hb1 (by decide +kernel) ?_
    refine z_iconst (pc := 19) (n := 3) (by decide +kernel) ⟨by decide, by decide⟩ ?_
    refine z_iadd (pc := 20) (by decide +kernel) ?_
    refine z_goto (pc := 21) (off := 13) 34 (by decide +kernel) (by decide) ?_
    exact z_iret (pc := 34) (by decide +kernel) rfl k
theorem b_Mod_showsOf_0 {E : EN} {d : Nat} {a1 : Int} {σ : Mem} {K : Int → Mem → Prop}  (hd : 1 ≤ d) (k : (σ 116 10 ≠ 0 → CI E y_Mod_reckons (d - 1) [vr 115, vi 3, vi a1, vi 0, vi 100] σ (fun x1 τ1 => K x1 τ1)) ∧ (σ 116 10 = 0 → K 10 σ)) :
    Z E y_Mod_showsOf d 0 [some (vr 115), some (vi a1)] [] σ (qi K) := by
  refine z_aload_n (pc := 0) (q := 0) (by decide +kernel) rfl ?_
  refine z_getR (pc := 1) 116 fl_Mod_13 rfl rfl rfl (by decide +kernel) ?_
  refine z_bipush (pc := 4) (n := 10) (by decide +kernel) (by decide) ⟨by decide, by decide⟩ ?_
  refine z_iald (pc := 6) rfl ⟨by decide, by decide⟩ (by decide +kernel) ?_
  refine z_if_ne (pc := 7) (off := 8) 15 (by decide +kernel) (by decide) ⟨fun hc => ?_, fun hc => ?_⟩
  · have k := k.1 hc
    refine z_aload_n (pc := 15) (q := 0) (by decide +kernel) rfl ?_
    refine z_iconst (pc := 16) (n := 3) (by decide +kernel) ⟨by decide, by decide⟩ ?_
    refine z_iload_n (pc := 17) (q := 1) (by decide +kernel) rfl ?_
    refine z_iconst (pc := 18) (n := 0) (by decide +kernel) ⟨by decide, by decide⟩ ?_
    refine z_bipush (pc := 19) (n := 100) (by decide +kernel) (by decide) ⟨by decide, by decide⟩ ?_
    refine z_callv (pc := 21) (as := [vi 3, vi a1, vi 0, vi 100]) ml_Mod_210 rfl ⟨rfl, by decide⟩ rfl rfl (Nat.le_of_ble_eq_true rfl) (dc := d - 1) (by omega) (by decide +kernel) (CI.z (CI.mono (fun x1 τ1 k => ?_) k))
    exact z_iret (pc := 24) (by decide +kernel) rfl k
  · have k := k.2 hc
    refine z_bipush (pc := 10) (n := 10) (by decide +kernel) (by decide) ⟨by decide, by decide⟩ ?_
    refine z_goto (pc := 12) (off := 12) 24 (by decide +kernel) (by decide) ?_
    exact z_iret (pc := 24) (by decide +kernel) rfl k
theorem b_Mod_reads1_0 {E : EN} {d : Nat} {a1 : Int} {a2 : Int} {σ : Mem} {K : Int → Mem → Prop}  (hd : 1 ≤ d) (k : (0 ≤ w32 (27 + a1) ∧ w32 (27 + a1) < 3108) ∧ (0 ≤ w32 (43 + a2) ∧ w32 (43 + a2) < 3108) ∧ CI E y_Mod_isIn (d - 1) [vl (σ 116 (w32 (27 + a1))), vi (σ 116 (w32 (43 + a2)))] σ (fun x1 τ1 => (x1 = 0 ∨ x1 = 1) ∧ K x1 τ1)) :
    Z E y_Mod_reads1 d 0 [some (vr 115), some (vi a1), some (vi a2)] [] σ (qi K) := by
  refine z_aload_n (pc := 0) (q := 0) (by decide +kernel) rfl ?_
  refine z_getR (pc := 1) 116 fl_Mod_13 rfl rfl rfl (by decide +kernel) ?_
  refine z_bipush (pc := 4) (n := 27) (by decide +kernel) (by decide) ⟨by decide, by decide⟩ ?_
  refine z_iload_n (pc := 6) (q := 1) (by decide +kernel) rfl ?_
  refine z_iadd (pc := 7) (by decide +kernel) ?_
  have hb1 := k.1
  have k := k.2
  refine z_iald (pc := 8) rfl hb1 (by decide +kernel) ?_
  refine z_i2l (pc := 9) (by decide +kernel) ?_
  refine z_aload_n (pc := 10) (q := 0) (by decide +kernel) rfl ?_
  refine z_getR (pc := 11) 116 fl_Mod_13 rfl rfl rfl (by decide +kernel) ?_
  refine z_bipush (pc := 14) (n := 43) (by decide +kernel) (by decide) ⟨by decide, by decide⟩ ?_
  refine z_iload_n (pc := 16) (q := 2) (by decide +kernel) rfl ?_
  refine z_iadd (pc := 17) (by decide +kernel) ?_
  have hb2 := k.1
  have k := k.2
  refine z_iald (pc := 18) rfl hb2 (by decide +kernel) ?_
  refine z_calls (pc := 19) (as := [vl (σ 116 (w32 (27 + a1))), vi (σ 116 (w32 (43 + a2)))]) ml_Mod_214 rfl rfl (Nat.le_of_ble_eq_true rfl) (dc := d - 1) (by omega) (by decide +kernel) (CI.z (CI.mono (fun x1 τ1 k => ?_) k))
  exact z_zret (pc := 22) (by decide +kernel) rfl k
theorem b_Mod_lettersOf_0 {E : EN} {d : Nat} {a1 : Int} {σ : Mem} {K : Int → Mem → Prop}  (k : Z E y_Mod_lettersOf d 4 [some (vr 115), some (vi a1), some (vi 0), some (vi 0)] [] σ (qi K)) :
    Z E y_Mod_lettersOf d 0 [some (vr 115), some (vi a1), none, none] [] σ (qi K) := by
  refine z_iconst (pc := 0) (n := 0) (by decide +kernel) ⟨by decide, by decide⟩ ?_
  refine z_istore_n (pc := 1) (q := 2) [some (vr 115), some (vi a1), some (vi 0), none] (by decide +kernel) (Nat.le_of_ble_eq_true rfl) rfl ?_
  refine z_iconst (pc := 2) (n := 0) (by decide +kernel) ⟨by decide, by decide⟩ ?_
  refine z_istore_n (pc := 3) (q := 3) [some (vr 115), some (vi a1), some (vi 0), some (vi 0)] (by decide +kernel) (Nat.le_of_ble_eq_true rfl) rfl ?_
  exact k
theorem b_Mod_lettersOf_4 {E : EN} {d : Nat} {a1 : Int} {a2 : Int} {a3 : Int} {σ : Mem} {K : Int → Mem → Prop}  (hd : 1 ≤ d) (k : (σ 116 4 ≤ a3 → K a2 σ) ∧ (a3 < σ 116 4 → CI E y_Mod_reads1 (d - 1) [vr 115, vi a1, vi a3] σ (fun x1 τ1 => (x1 = 0 → Z E y_Mod_lettersOf d 4 [some (vr 115), some (vi a1), some (vi (ior a2 0)), some (vi (w32 (a3 + 1)))] [] τ1 (qi K)) ∧ (x1 ≠ 0 → Z E y_Mod_lettersOf d 4 [some (vr 115), some (vi a1), some (vi (ior a2 (ish 1 a3))), some (vi (w32 (a3 + 1)))] [] τ1 (qi K))))) :
    Z E y_Mod_lettersOf d 4 [some (vr 115), some (vi a1), some (vi a2), some (vi a3)] [] σ (qi K) := by
  refine z_iload_n (pc := 4) (q := 3) (by decide +kernel) rfl ?_
  refine z_aload_n (pc := 5) (q := 0) (by decide +kernel) rfl ?_
  refine z_getR (pc := 6) 116 fl_Mod_13 rfl rfl rfl (by decide +kernel) ?_
  refine z_iconst (pc := 9) (n := 4) (by decide +kernel) ⟨by decide, by decide⟩ ?_
  refine z_iald (pc := 10) rfl ⟨by decide, by decide⟩ (by decide +kernel) ?_
  refine z_icmp_ge (pc := 11) (off := 28) 39 (by decide +kernel) (by decide) ⟨fun hc => ?_, fun hc => ?_⟩
  · have k := k.1 hc
    refine z_iload_n (pc := 39) (q := 2) (by decide +kernel) rfl ?_
    exact z_iret (pc := 40) (by decide +kernel) rfl k
  · have k := k.2 hc
    refine z_iload_n (pc := 14) (q := 2) (by decide +kernel) rfl ?_
    refine z_aload_n (pc := 15) (q := 0) (by decide +kernel) rfl ?_
    refine z_iload_n (pc := 16) (q := 1) (by decide +kernel) rfl ?_
    refine z_iload_n (pc := 17) (q := 3) (by decide +kernel) rfl ?_
    refine z_callv (pc := 18) (as := [vi a1, vi a3]) ml_Mod_218 rfl ⟨rfl, by decide⟩ rfl rfl (Nat.le_of_ble_eq_true rfl) (dc := d - 1) (by omega) (by decide +kernel) (CI.z (CI.mono (fun x1 τ1 k => ?_) k))
    refine z_if_eq (pc := 21) (off := 9) 30 (by decide +kernel) (by decide) ⟨fun hc => ?_, fun hc => ?_⟩
    · have k := k.1 hc
      refine z_iconst (pc := 30) (n := 0) (by decide +kernel) ⟨by decide, by decide⟩ ?_
      refine z_ior (pc := 31) (by decide +kernel) ?_
      refine z_istore_n (pc := 32) (q := 2) [some (vr 115), some (vi a1), some (vi (ior a2 0)), some (vi a3)] (by decide +kernel) (Nat.le_of_ble_eq_true rfl) rfl ?_
      refine z_iinc (pc := 33) (i := 3) (n := 1) [some (vr 115), some (vi a1), some (vi (ior a2 0)), some (vi (w32 (a3 + 1)))] (by decide +kernel) rfl rfl ?_
      refine z_goto (pc := 36) (off := -32) 4 (by decide +kernel) (by decide) ?_
      exact k
    · have k := k.2 hc
      refine z_iconst (pc := 24) (n := 1) (by decide +kernel) ⟨by decide, by decide⟩ ?_
      refine z_iload_n (pc := 25) (q := 3) (by decide +kernel) rfl ?_
      refine z_ishl (pc := 26) (by decide +kernel) ?_
      refine z_goto (pc := 27) (off := 4) 31 (by decide +kernel) (by decide) ?_
      refine z_ior (pc := 31) (by decide +kernel) ?_
      refine z_istore_n (pc := 32) (q := 2) [some (vr 115), some (vi a1), some (vi (ior a2 (ish 1 a3))), some (vi a3)] (by decide +kernel) (Nat.le_of_ble_eq_true rfl) rfl ?_
      refine z_iinc (pc := 33) (i := 3) (n := 1) [some (vr 115), some (vi a1), some (vi (ior a2 (ish 1 a3))), some (vi (w32 (a3 + 1)))] (by decide +kernel) rfl rfl ?_
      refine z_goto (pc := 36) (off := -32) 4 (by decide +kernel) (by decide) ?_
      exact k
theorem b_Mod_letter_0 {E : EN} {d : Nat} {a1 : Int} {a2 : Int} {σ : Mem} {K : Int → Mem → Prop}  (hd : 1 ≤ d) (k : CI E y_Mod_isLetter (d - 1) [vr 115, vl a1] (up σ 115 0 0) (fun x1 τ1 => (x1 ≠ 0 → CI E y_Mod_within (d - 1) [vl a2, vl 0, vl 6] τ1 (fun x2 τ2 => (x2 = 0 → (a2 ≠ 7 → (a2 ≠ 8 → K (-2) τ2) ∧ (a2 = 8 → CI E y_Mod_isIn (d - 1) [vl (τ2 116 80), vi a1] τ2 (fun x3 τ3 => (x3 = 0 → K 0 τ3) ∧ (x3 ≠ 0 → K 1 τ3)))) ∧ (a2 = 7 → CI E y_Mod_isIn (d - 1) [vl (τ2 116 79), vi a1] τ2 (fun x4 τ4 => (x4 = 0 → K 0 τ4) ∧ (x4 ≠ 0 → K 1 τ4)))) ∧ (x2 ≠ 0 → (0 ≤ w32 ((w32 (37 + (w32 (6 * a2)))) + a1) ∧ w32 ((w32 (37 + (w32 (6 * a2)))) + a1) < 3108) ∧ K (τ2 116 (w32 ((w32 (37 + (w32 (6 * a2)))) + a1))) τ2))) ∧ (x1 = 0 → K (-2) τ1))) :
    Z E y_Mod_letter d 0 [some (vr 115), some (vi a1), some (vi a2)] [] σ (qi K) := by
  refine z_aload_n (pc := 0) (q := 0) (by decide +kernel) rfl ?_
  refine z_iconst (pc := 1) (n := 0) (by decide +kernel) ⟨by decide, by decide⟩ ?_
  refine z_putI (pc := 2) 0 fp_Mod_1 rfl rfl rfl (by decide +kernel) ?_
  refine z_aload_n (pc := 5) (q := 0) (by decide +kernel) rfl ?_
  refine z_iload_n (pc := 6) (q := 1) (by decide +kernel) rfl ?_
  refine z_i2l (pc := 7) (by decide +kernel) ?_
  refine z_callv (pc := 8) (as := [vl a1]) ml_Mod_222 rfl ⟨rfl, by decide⟩ rfl rfl (Nat.le_of_ble_eq_true rfl) (dc := d - 1) (by omega) (by decide +kernel) (CI.z (CI.mono (fun x1 τ1 k => ?_) k))
  refine z_if_ne (pc := 11) (off := 6) 17 (by decide +kernel) (by decide) ⟨fun hc => ?_, fun hc => ?_⟩
  · have k := k.1 hc
    refine z_iload_n (pc := 17) (q := 2) (by decide +kernel) rfl ?_
    refine z_i2l (pc := 18) (by decide +kernel) ?_
    refine z_lconst (pc := 19) (n := 0) 0 (by decide +kernel) (by decide) ⟨by decide, by decide⟩ ?_
    refine z_ldc2 (pc := 20) (index := 226) 6 (mm7 129 rfl) ⟨by decide, by decide⟩ (by decide +kernel) ?_
    refine z_calls (pc := 23) (as := [vl a2, vl 0, vl 6]) ml_Mod_136 rfl rfl (Nat.le_of_ble_eq_true rfl) (dc := d - 1) (by omega) (by decide +kernel) (CI.z (CI.mono (fun x2 τ2 k => ?_) k))
    refine z_if_eq (pc := 26) (off := 18) 44 (by decide +kernel) (by decide) ⟨fun hc => ?_, fun hc => ?_⟩
    · have k := k.1 hc
      refine z_iload_n (pc := 44) (q := 2) (by decide +kernel) rfl ?_
      refine z_bipush (pc := 45) (n := 7) (by decide +kernel) (by decide) ⟨by decide, by decide⟩ ?_
      refine z_icmp_ne (pc := 47) (off := 26) 73 (by decide +kernel) (by decide) ⟨fun hc => ?_, fun hc => ?_⟩
      · have k := k.1 hc
        refine z_iload_n (pc := 73) (q := 2) (by decide +kernel) rfl ?_
        refine z_bipush (pc := 74) (n := 8) (by decide +kernel) (by decide) ⟨by decide, by decide⟩ ?_
        refine z_icmp_ne (pc := 76) (off := 26) 102 (by decide +kernel) (by decide) ⟨fun hc => ?_, fun hc => ?_⟩
        · have k := k.1 hc
          refine z_bipush (pc := 102) (n := -2) (by decide +kernel) (by decide) ⟨by decide, by decide⟩ ?_
          exact z_iret (pc := 104) (by decide +kernel) rfl k
        · have k := k.2 hc
          refine z_aload_n (pc := 79) (q := 0) (by decide +kernel) rfl ?_
          refine z_getR (pc := 80) 116 fl_Mod_13 rfl rfl rfl (by decide +kernel) ?_
          refine z_bipush (pc := 83) (n := 80) (by decide +kernel) (by decide) ⟨by decide, by decide⟩ ?_
          refine z_iald (pc := 85) rfl ⟨by decide, by decide⟩ (by decide +kernel) ?_
          refine z_i2l (pc := 86) (by decide +kernel) ?_
          refine z_iload_n (pc := 87) (q := 1) (by decide +kernel) rfl ?_
          refine z_calls (pc := 88) (as := [vl (τ2 116 80), vi a1]) ml_Mod_214 rfl rfl (Nat.le_of_ble_eq_true rfl) (dc := d - 1) (by omega) (by decide +kernel) (CI.z (CI.mono (fun x3 τ3 k => ?_) k))
          refine z_if_eq (pc := 91) (off := 7) 98 (by decide +kernel) (by decide) ⟨fun hc => ?_, fun hc => ?_⟩
          · have k := k.1 hc
            refine z_iconst (pc := 98) (n := 0) (by decide +kernel) ⟨by decide, by decide⟩ ?_
            refine z_goto (pc := 99) (off := 5) 104 (by decide +kernel) (by decide) ?_
            exact z_iret (pc := 104) (by decide +kernel) rfl k
          · have k := k.2 hc
            refine z_iconst (pc := 94) (n := 1) (by decide +kernel) ⟨by decide, by decide⟩ ?_
            refine z_goto (pc := 95) (off := 9) 104 (by decide +kernel) (by decide) ?_
            exact z_iret (pc := 104) (by decide +kernel) rfl k
      · have k := k.2 hc
        refine z_aload_n (pc := 50) (q := 0) (by decide +kernel) rfl ?_
        refine z_getR (pc := 51) 116 fl_Mod_13 rfl rfl rfl (by decide +kernel) ?_
        refine z_bipush (pc := 54) (n := 79) (by decide +kernel) (by decide) ⟨by decide, by decide⟩ ?_
        refine z_iald (pc := 56) rfl ⟨by decide, by decide⟩ (by decide +kernel) ?_
        refine z_i2l (pc := 57) (by decide +kernel) ?_
        refine z_iload_n (pc := 58) (q := 1) (by decide +kernel) rfl ?_
        refine z_calls (pc := 59) (as := [vl (τ2 116 79), vi a1]) ml_Mod_214 rfl rfl (Nat.le_of_ble_eq_true rfl) (dc := d - 1) (by omega) (by decide +kernel) (CI.z (CI.mono (fun x4 τ4 k => ?_) k))
        refine z_if_eq (pc := 62) (off := 7) 69 (by decide +kernel) (by decide) ⟨fun hc => ?_, fun hc => ?_⟩
        · have k := k.1 hc
          refine z_iconst (pc := 69) (n := 0) (by decide +kernel) ⟨by decide, by decide⟩ ?_
          refine z_goto (pc := 70) (off := 34) 104 (by decide +kernel) (by decide) ?_
          exact z_iret (pc := 104) (by decide +kernel) rfl k
        · have k := k.2 hc
          refine z_iconst (pc := 65) (n := 1) (by decide +kernel) ⟨by decide, by decide⟩ ?_
          refine z_goto (pc := 66) (off := 38) 104 (by decide +kernel) (by decide) ?_
          exact z_iret (pc := 104) (by decide +kernel) rfl k
    · have k := k.2 hc
      refine z_aload_n (pc := 29) (q := 0) (by decide +kernel) rfl ?_
      refine z_getR (pc := 30) 116 fl_Mod_13 rfl rfl rfl (by decide +kernel) ?_
      refine z_bipush (pc := 33) (n := 37) (by decide +kernel) (by decide) ⟨by decide, by decide⟩ ?_
      refine z_bipush (pc := 35) (n := 6) (by decide +kernel) (by decide) ⟨by decide, by decide⟩ ?_
      refine z_iload_n (pc := 37) (q := 2) (by decide +kernel) rfl ?_
      refine z_imul (pc := 38) (by decide +kernel) ?_
      refine z_iadd (pc := 39) (by decide +kernel) ?_
      refine z_iload_n (pc := 40) (q := 1) (by decide +kernel) rfl ?_
      refine z_iadd (pc := 41) (by decide +kernel) ?_
      have hb1 := k.1
      have k := k.2
      refine z_iald (pc := 42) rfl hb1 (by decide +kernel) ?_
      exact z_iret (pc := 43) (by decide +kernel) rfl k
  · have k := k.2 hc
    refine z_bipush (pc := 14) (n := -2) (by decide +kernel) (by decide) ⟨by decide, by decide⟩ ?_
    exact z_iret (pc := 16) (by decide +kernel) rfl k
theorem b_Mod_hand_0 {E : EN} {d : Nat} {a1 : Int} {a2 : Int} {σ : Mem} {K : Int → Mem → Prop}  (hd : 1 ≤ d) (k : CI E y_Mod_isHand (d - 1) [vr 115, vl a1] (up σ 115 0 0) (fun x1 τ1 => (x1 ≠ 0 → (a2 = 0 → (0 ≤ w32 (27 + a1) ∧ w32 (27 + a1) < 3108) ∧ K (τ1 116 (w32 (27 + a1))) τ1) ∧ (a2 = 1 → (0 ≤ w32 (30 + a1) ∧ w32 (30 + a1) < 3108) ∧ K (τ1 116 (w32 (30 + a1))) τ1) ∧ (a2 = 2 → CI E y_Mod_isIn (d - 1) [vl (τ1 116 81), vi a1] τ1 (fun x2 τ2 => (x2 = 0 → K 1 τ2) ∧ (x2 ≠ 0 → K 0 τ2))) ∧ (a2 = 3 → CI E y_Mod_lettersOf (d - 1) [vr 115, vi a1] τ1 (fun x3 τ3 => K x3 τ3)) ∧ (a2 < 0 ∨ 3 < a2 → K (-2) τ1)) ∧ (x1 = 0 → K (-2) τ1))) :
    Z E y_Mod_hand d 0 [some (vr 115), some (vi a1), some (vi a2)] [] σ (qi K) := by
  refine z_aload_n (pc := 0) (q := 0) (by decide +kernel) rfl ?_
  refine z_iconst (pc := 1) (n := 0) (by decide +kernel) ⟨by decide, by decide⟩ ?_
  refine z_putI (pc := 2) 0 fp_Mod_1 rfl rfl rfl (by decide +kernel) ?_
  refine z_aload_n (pc := 5) (q := 0) (by decide +kernel) rfl ?_
  refine z_iload_n (pc := 6) (q := 1) (by decide +kernel) rfl ?_
  refine z_i2l (pc := 7) (by decide +kernel) ?_
  refine z_callv (pc := 8) (as := [vl a1]) ml_Mod_228 rfl ⟨rfl, by decide⟩ rfl rfl (Nat.le_of_ble_eq_true rfl) (dc := d - 1) (by omega) (by decide +kernel) (CI.z (CI.mono (fun x1 τ1 k => ?_) k))
  refine z_if_ne (pc := 11) (off := 6) 17 (by decide +kernel) (by decide) ⟨fun hc => ?_, fun hc => ?_⟩
  · have k := k.1 hc
    refine z_iload_n (pc := 17) (q := 2) (by decide +kernel) rfl ?_
    have hdg : decode y_Mod_hand.2.1 18 = .ok (.tableswitch 77 0 3 #[30, 40, 50, 71], 30) := by decide +kernel
    by_cases hl0 : a2 < 0
    · have k := k.2.2.2.2 (Or.inl hl0)
      refine z_tableOut (pc := 18) 95 hdg (Or.inl hl0) (by decide) ?_
      refine z_bipush (pc := 95) (n := -2) (by decide +kernel) (by decide) ⟨by decide, by decide⟩ ?_
      exact z_iret (pc := 97) (by decide +kernel) rfl k
    have hl : 0 ≤ a2 := Int.not_lt.mp hl0
    by_cases hc : a2 = 0
    · have k := k.1 hc
      refine z_tableIn2 (pc := 18) (off := 30) 48 hdg hc (by decide) (by decide +kernel) (by decide) ?_
      refine z_aload_n (pc := 48) (q := 0) (by decide +kernel) rfl ?_
      refine z_getR (pc := 49) 116 fl_Mod_13 rfl rfl rfl (by decide +kernel) ?_
      refine z_bipush (pc := 52) (n := 27) (by decide +kernel) (by decide) ⟨by decide, by decide⟩ ?_
      refine z_iload_n (pc := 54) (q := 1) (by decide +kernel) rfl ?_
      refine z_iadd (pc := 55) (by decide +kernel) ?_
      have hb1 := k.1
      have k := k.2
      refine z_iald (pc := 56) rfl hb1 (by decide +kernel) ?_
      exact z_iret (pc := 57) (by decide +kernel) rfl k
    have k := k.2
    have hl := ne_up (w := 1) hl hc rfl; clear hc
    by_cases hc : a2 = 1
    · have k := k.1 hc
      refine z_tableIn2 (pc := 18) (off := 40) 58 hdg hc (by decide) (by decide +kernel) (by decide) ?_
      refine z_aload_n (pc := 58) (q := 0) (by decide +kernel) rfl ?_
      refine z_getR (pc := 59) 116 fl_Mod_13 rfl rfl rfl (by decide +kernel) ?_
      refine z_bipush (pc := 62) (n := 30) (by decide +kernel) (by decide) ⟨by decide, by decide⟩ ?_
      refine z_iload_n (pc := 64) (q := 1) (by decide +kernel) rfl ?_
      refine z_iadd (pc := 65) (by decide +kernel) ?_
      have hb2 := k.1
      have k := k.2
      refine z_iald (pc := 66) rfl hb2 (by decide +kernel) ?_
      exact z_iret (pc := 67) (by decide +kernel) rfl k
    have k := k.2
    have hl := ne_up (w := 2) hl hc rfl; clear hc
    by_cases hc : a2 = 2
    · have k := k.1 hc
      refine z_tableIn2 (pc := 18) (off := 50) 68 hdg hc (by decide) (by decide +kernel) (by decide) ?_
      refine z_aload_n (pc := 68) (q := 0) (by decide +kernel) rfl ?_
      refine z_getR (pc := 69) 116 fl_Mod_13 rfl rfl rfl (by decide +kernel) ?_
      refine z_bipush (pc := 72) (n := 81) (by decide +kernel) (by decide) ⟨by decide, by decide⟩ ?_
      refine z_iald (pc := 74) rfl ⟨by decide, by decide⟩ (by decide +kernel) ?_
      refine z_i2l (pc := 75) (by decide +kernel) ?_
      refine z_iload_n (pc := 76) (q := 1) (by decide +kernel) rfl ?_
      refine z_calls (pc := 77) (as := [vl (τ1 116 81), vi a1]) ml_Mod_214 rfl rfl (Nat.le_of_ble_eq_true rfl) (dc := d - 1) (by omega) (by decide +kernel) (CI.z (CI.mono (fun x2 τ2 k => ?_) k))
      refine z_if_eq (pc := 80) (off := 7) 87 (by decide +kernel) (by decide) ⟨fun hc => ?_, fun hc => ?_⟩
      · have k := k.1 hc
        refine z_iconst (pc := 87) (n := 1) (by decide +kernel) ⟨by decide, by decide⟩ ?_
        exact z_iret (pc := 88) (by decide +kernel) rfl k
      · have k := k.2 hc
        refine z_iconst (pc := 83) (n := 0) (by decide +kernel) ⟨by decide, by decide⟩ ?_
        refine z_goto (pc := 84) (off := 4) 88 (by decide +kernel) (by decide) ?_
        exact z_iret (pc := 88) (by decide +kernel) rfl k
    have k := k.2
    have hl := ne_up (w := 3) hl hc rfl; clear hc
    by_cases hc : a2 = 3
    · have k := k.1 hc
      refine z_tableIn2 (pc := 18) (off := 71) 89 hdg hc (by decide) (by decide +kernel) (by decide) ?_
      refine z_aload_n (pc := 89) (q := 0) (by decide +kernel) rfl ?_
      refine z_iload_n (pc := 90) (q := 1) (by decide +kernel) rfl ?_
      refine z_callv (pc := 91) (as := [vi a1]) ml_Mod_231 rfl ⟨rfl, by decide⟩ rfl rfl (Nat.le_of_ble_eq_true rfl) (dc := d - 1) (by omega) (by decide +kernel) (CI.z (CI.mono (fun x3 τ3 k => ?_) k))
      exact z_iret (pc := 94) (by decide +kernel) rfl k
    have k := k.2
    have hl := ne_up (w := 4) hl hc rfl; clear hc
    have hl := Int.lt_of_add_one_le (a := 3) hl
    have k := k (Or.inr hl)
    refine z_tableOut (pc := 18) 95 hdg (Or.inr hl) (by decide) ?_
    refine z_bipush (pc := 95) (n := -2) (by decide +kernel) (by decide) ⟨by decide, by decide⟩ ?_
    exact z_iret (pc := 97) (by decide +kernel) rfl k
  · have k := k.2 hc
    refine z_bipush (pc := 14) (n := -2) (by decide +kernel) (by decide) ⟨by decide, by decide⟩ ?_
    exact z_iret (pc := 16) (by decide +kernel) rfl k
theorem b_Mod_court_0 {E : EN} {d : Nat} {a1 : Int} {σ : Mem} {K : Int → Mem → Prop}  (hd : 1 ≤ d) (k : CI E y_Mod_within (d - 1) [vl a1, vl 0, vl (w32 ((σ 116 3) - 1))] (up σ 115 0 0) (fun x1 τ1 => (x1 = 0 → K (-2) τ1) ∧ (x1 ≠ 0 → (0 ≤ w32 (33 + a1) ∧ w32 (33 + a1) < 3108) ∧ K (τ1 116 (w32 (33 + a1))) τ1))) :
    Z E y_Mod_court d 0 [some (vr 115), some (vi a1)] [] σ (qi K) := by
  refine z_aload_n (pc := 0) (q := 0) (by decide +kernel) rfl ?_
  refine z_iconst (pc := 1) (n := 0) (by decide +kernel) ⟨by decide, by decide⟩ ?_
  refine z_putI (pc := 2) 0 fp_Mod_1 rfl rfl rfl (by decide +kernel) ?_
  refine z_iload_n (pc := 5) (q := 1) (by decide +kernel) rfl ?_
  refine z_i2l (pc := 6) (by decide +kernel) ?_
  refine z_lconst (pc := 7) (n := 0) 0 (by decide +kernel) (by decide) ⟨by decide, by decide⟩ ?_
  refine z_aload_n (pc := 8) (q := 0) (by decide +kernel) rfl ?_
  refine z_getR (pc := 9) 116 fl_Mod_13 rfl rfl rfl (by decide +kernel) ?_
  refine z_iconst (pc := 12) (n := 3) (by decide +kernel) ⟨by decide, by decide⟩ ?_
  refine z_iald (pc := 13) rfl ⟨by decide, by decide⟩ (by decide +kernel) ?_
  refine z_topI (up_nc (by decide)) ?_
  refine z_iconst (pc := 14) (n := 1) (by decide +kernel) ⟨by decide, by decide⟩ ?_
  refine z_isub (pc := 15) (by decide +kernel) ?_
  refine z_i2l (pc := 16) (by decide +kernel) ?_
  refine z_calls (pc := 17) (as := [vl a1, vl 0, vl (w32 ((σ 116 3) - 1))]) ml_Mod_136 rfl rfl (Nat.le_of_ble_eq_true rfl) (dc := d - 1) (by omega) (by decide +kernel) (CI.z (CI.mono (fun x1 τ1 k => ?_) k))
  refine z_if_eq (pc := 20) (off := 15) 35 (by decide +kernel) (by decide) ⟨fun hc => ?_, fun hc => ?_⟩
  · have k := k.1 hc
    refine z_bipush (pc := 35) (n := -2) (by decide +kernel) (by decide) ⟨by decide, by decide⟩ ?_
    exact z_iret (pc := 37) (by decide +kernel) rfl k
  · have k := k.2 hc
    refine z_aload_n (pc := 23) (q := 0) (by decide +kernel) rfl ?_
    refine z_getR (pc := 24) 116 fl_Mod_13 rfl rfl rfl (by decide +kernel) ?_
    refine z_bipush (pc := 27) (n := 33) (by decide +kernel) (by decide) ⟨by decide, by decide⟩ ?_
    refine z_iload_n (pc := 29) (q := 1) (by decide +kernel) rfl ?_
    refine z_iadd (pc := 30) (by decide +kernel) ?_
    have hb1 := k.1
    have k := k.2
    refine z_iald (pc := 31) rfl hb1 (by decide +kernel) ?_
    refine z_goto (pc := 32) (off := 5) 37 (by decide +kernel) (by decide) ?_
    exact z_iret (pc := 37) (by decide +kernel) rfl k
theorem b_Mod_takes_0 {E : EN} {d : Nat} {a1 : Int} {a2 : Int} {σ : Mem} {K : Int → Mem → Prop}  (hd : 1 ≤ d) (k : CI E y_Mod_isLetter (d - 1) [vr 115, vl a1] (up σ 115 0 0) (fun x1 τ1 => (x1 = 0 → K (-2) τ1) ∧ (x1 ≠ 0 → CI E y_Mod_within (d - 1) [vl a2, vl 0, vl 2] τ1 (fun x2 τ2 => (x2 ≠ 0 → (a2 ≠ 0 → (a2 ≠ 1 → CI E y_Mod_showsOf (d - 1) [vr 115, vi a1] τ2 (fun x3 τ3 => K x3 τ3)) ∧ (a2 = 1 → CI E y_Mod_mendsIn (d - 1) [vr 115, vi a1] τ2 (fun x4 τ4 => K x4 τ4))) ∧ (a2 = 0 → CI E y_Mod_opensIn (d - 1) [vr 115, vi a1] τ2 (fun x5 τ5 => K x5 τ5))) ∧ (x2 = 0 → K (-2) τ2))))) :
    Z E y_Mod_takes d 0 [some (vr 115), some (vi a1), some (vi a2)] [] σ (qi K) := by
  refine z_aload_n (pc := 0) (q := 0) (by decide +kernel) rfl ?_
  refine z_iconst (pc := 1) (n := 0) (by decide +kernel) ⟨by decide, by decide⟩ ?_
  refine z_putI (pc := 2) 0 fp_Mod_1 rfl rfl rfl (by decide +kernel) ?_
  refine z_aload_n (pc := 5) (q := 0) (by decide +kernel) rfl ?_
  refine z_iload_n (pc := 6) (q := 1) (by decide +kernel) rfl ?_
  refine z_i2l (pc := 7) (by decide +kernel) ?_
  refine z_callv (pc := 8) (as := [vl a1]) ml_Mod_222 rfl ⟨rfl, by decide⟩ rfl rfl (Nat.le_of_ble_eq_true rfl) (dc := d - 1) (by omega) (by decide +kernel) (CI.z (CI.mono (fun x1 τ1 k => ?_) k))
  refine z_if_eq (pc := 11) (off := 15) 26 (by decide +kernel) (by decide) ⟨fun hc => ?_, fun hc => ?_⟩
  · have k := k.1 hc
    refine z_bipush (pc := 26) (n := -2) (by decide +kernel) (by decide) ⟨by decide, by decide⟩ ?_
    exact z_iret (pc := 28) (by decide +kernel) rfl k
  · have k := k.2 hc
    refine z_iload_n (pc := 14) (q := 2) (by decide +kernel) rfl ?_
    refine z_i2l (pc := 15) (by decide +kernel) ?_
    refine z_lconst (pc := 16) (n := 0) 0 (by decide +kernel) (by decide) ⟨by decide, by decide⟩ ?_
    refine z_ldc2 (pc := 17) (index := 234) 2 (mm7 157 rfl) ⟨by decide, by decide⟩ (by decide +kernel) ?_
    refine z_calls (pc := 20) (as := [vl a2, vl 0, vl 2]) ml_Mod_136 rfl rfl (Nat.le_of_ble_eq_true rfl) (dc := d - 1) (by omega) (by decide +kernel) (CI.z (CI.mono (fun x2 τ2 k => ?_) k))
    refine z_if_ne (pc := 23) (off := 6) 29 (by decide +kernel) (by decide) ⟨fun hc => ?_, fun hc => ?_⟩
    · have k := k.1 hc
      refine z_iload_n (pc := 29) (q := 2) (by decide +kernel) rfl ?_
      refine z_if_ne (pc := 30) (off := 11) 41 (by decide +kernel) (by decide) ⟨fun hc => ?_, fun hc => ?_⟩
      · have k := k.1 hc
        refine z_iload_n (pc := 41) (q := 2) (by decide +kernel) rfl ?_
        refine z_iconst (pc := 42) (n := 1) (by decide +kernel) ⟨by decide, by decide⟩ ?_
        refine z_icmp_ne (pc := 43) (off := 11) 54 (by decide +kernel) (by decide) ⟨fun hc => ?_, fun hc => ?_⟩
        · have k := k.1 hc
          refine z_aload_n (pc := 54) (q := 0) (by decide +kernel) rfl ?_
          refine z_iload_n (pc := 55) (q := 1) (by decide +kernel) rfl ?_
          refine z_callv (pc := 56) (as := [vi a1]) ml_Mod_242 rfl ⟨rfl, by decide⟩ rfl rfl (Nat.le_of_ble_eq_true rfl) (dc := d - 1) (by omega) (by decide +kernel) (CI.z (CI.mono (fun x3 τ3 k => ?_) k))
          exact z_iret (pc := 59) (by decide +kernel) rfl k
        · have k := k.2 hc
          refine z_aload_n (pc := 46) (q := 0) (by decide +kernel) rfl ?_
          refine z_iload_n (pc := 47) (q := 1) (by decide +kernel) rfl ?_
          refine z_callv (pc := 48) (as := [vi a1]) ml_Mod_239 rfl ⟨rfl, by decide⟩ rfl rfl (Nat.le_of_ble_eq_true rfl) (dc := d - 1) (by omega) (by decide +kernel) (CI.z (CI.mono (fun x4 τ4 k => ?_) k))
          refine z_goto (pc := 51) (off := 8) 59 (by decide +kernel) (by decide) ?_
          exact z_iret (pc := 59) (by decide +kernel) rfl k
      · have k := k.2 hc
        refine z_aload_n (pc := 33) (q := 0) (by decide +kernel) rfl ?_
        refine z_iload_n (pc := 34) (q := 1) (by decide +kernel) rfl ?_
        refine z_callv (pc := 35) (as := [vi a1]) ml_Mod_236 rfl ⟨rfl, by decide⟩ rfl rfl (Nat.le_of_ble_eq_true rfl) (dc := d - 1) (by omega) (by decide +kernel) (CI.z (CI.mono (fun x5 τ5 k => ?_) k))
        refine z_goto (pc := 38) (off := 21) 59 (by decide +kernel) (by decide) ?_
        exact z_iret (pc := 59) (by decide +kernel) rfl k
    · have k := k.2 hc
      refine z_bipush (pc := 26) (n := -2) (by decide +kernel) (by decide) ⟨by decide, by decide⟩ ?_
      exact z_iret (pc := 28) (by decide +kernel) rfl k
theorem b_Mod_copies_0 {E : EN} {d : Nat} {a1 : Int} {a2 : Int} {σ : Mem} {K : Int → Mem → Prop}  (hd : 1 ≤ d) (k : CI E y_Mod_isLetter (d - 1) [vr 115, vl a1] (up σ 115 0 0) (fun x1 τ1 => (x1 = 0 → K (-2) τ1) ∧ (x1 ≠ 0 → CI E y_Mod_isHand (d - 1) [vr 115, vl a2] τ1 (fun x2 τ2 => (x2 = 0 → K (-2) τ2) ∧ (x2 ≠ 0 → CI E y_Mod_copiesIn (d - 1) [vr 115, vi a1, vi a2] τ2 (fun x3 τ3 => K x3 τ3)))))) :
    Z E y_Mod_copies d 0 [some (vr 115), some (vi a1), some (vi a2)] [] σ (qi K) := by
  refine z_aload_n (pc := 0) (q := 0) (by decide +kernel) rfl ?_
  refine z_iconst (pc := 1) (n := 0) (by decide +kernel) ⟨by decide, by decide⟩ ?_
  refine z_putI (pc := 2) 0 fp_Mod_1 rfl rfl rfl (by decide +kernel) ?_
  refine z_aload_n (pc := 5) (q := 0) (by decide +kernel) rfl ?_
  refine z_iload_n (pc := 6) (q := 1) (by decide +kernel) rfl ?_
  refine z_i2l (pc := 7) (by decide +kernel) ?_
  refine z_callv (pc := 8) (as := [vl a1]) ml_Mod_222 rfl ⟨rfl, by decide⟩ rfl rfl (Nat.le_of_ble_eq_true rfl) (dc := d - 1) (by omega) (by decide +kernel) (CI.z (CI.mono (fun x1 τ1 k => ?_) k))
  refine z_if_eq (pc := 11) (off := 21) 32 (by decide +kernel) (by decide) ⟨fun hc => ?_, fun hc => ?_⟩
  · have k := k.1 hc
    refine z_bipush (pc := 32) (n := -2) (by decide +kernel) (by decide) ⟨by decide, by decide⟩ ?_
    exact z_iret (pc := 34) (by decide +kernel) rfl k
  · have k := k.2 hc
    refine z_aload_n (pc := 14) (q := 0) (by decide +kernel) rfl ?_
    refine z_iload_n (pc := 15) (q := 2) (by decide +kernel) rfl ?_
    refine z_i2l (pc := 16) (by decide +kernel) ?_
    refine z_callv (pc := 17) (as := [vl a2]) ml_Mod_228 rfl ⟨rfl, by decide⟩ rfl rfl (Nat.le_of_ble_eq_true rfl) (dc := d - 1) (by omega) (by decide +kernel) (CI.z (CI.mono (fun x2 τ2 k => ?_) k))
    refine z_if_eq (pc := 20) (off := 12) 32 (by decide +kernel) (by decide) ⟨fun hc => ?_, fun hc => ?_⟩
    · have k := k.1 hc
      refine z_bipush (pc := 32) (n := -2) (by decide +kernel) (by decide) ⟨by decide, by decide⟩ ?_
      exact z_iret (pc := 34) (by decide +kernel) rfl k
    · have k := k.2 hc
      refine z_aload_n (pc := 23) (q := 0) (by decide +kernel) rfl ?_
      refine z_iload_n (pc := 24) (q := 1) (by decide +kernel) rfl ?_
      refine z_iload_n (pc := 25) (q := 2) (by decide +kernel) rfl ?_
      refine z_callv (pc := 26) (as := [vi a1, vi a2]) ml_Mod_245 rfl ⟨rfl, by decide⟩ rfl rfl (Nat.le_of_ble_eq_true rfl) (dc := d - 1) (by omega) (by decide +kernel) (CI.z (CI.mono (fun x3 τ3 k => ?_) k))
      refine z_goto (pc := 29) (off := 5) 34 (by decide +kernel) (by decide) ?_
      exact z_iret (pc := 34) (by decide +kernel) rfl k
theorem b_Mod_name_0 {E : EN} {d : Nat} {a1 : Int} {σ : Mem} {K : Int → Mem → Prop}  (k : (0 ≤ a1 → (σ 116 6 ≤ a1 → K (-1) (up σ 115 0 0)) ∧ (a1 < σ 116 6 → (0 ≤ w32 (19 + a1) ∧ w32 (19 + a1) < 3108) ∧ K (σ 116 (w32 (19 + a1))) (up σ 115 0 0))) ∧ (a1 < 0 → K (-3) (up σ 115 0 0))) :
    Z E y_Mod_name d 0 [some (vr 115), some (vi a1)] [] σ (qi K) := by
  refine z_aload_n (pc := 0) (q := 0) (by decide +kernel) rfl ?_
  refine z_iconst (pc := 1) (n := 0) (by decide +kernel) ⟨by decide, by decide⟩ ?_
  refine z_putI (pc := 2) 0 fp_Mod_1 rfl rfl rfl (by decide +kernel) ?_
  refine z_iload_n (pc := 5) (q := 1) (by decide +kernel) rfl ?_
  refine z_if_ge (pc := 6) (off := 8) 14 (by decide +kernel) (by decide) ⟨fun hc => ?_, fun hc => ?_⟩
  · have k := k.1 hc
    refine z_iload_n (pc := 14) (q := 1) (by decide +kernel) rfl ?_
    refine z_aload_n (pc := 15) (q := 0) (by decide +kernel) rfl ?_
    refine z_getR (pc := 16) 116 fl_Mod_13 rfl rfl rfl (by decide +kernel) ?_
    refine z_bipush (pc := 19) (n := 6) (by decide +kernel) (by decide) ⟨by decide, by decide⟩ ?_
    refine z_iald (pc := 21) rfl ⟨by decide, by decide⟩ (by decide +kernel) ?_
    refine z_topI (up_nc (by decide)) ?_
    refine z_icmp_ge (pc := 22) (off := 15) 37 (by decide +kernel) (by decide) ⟨fun hc => ?_, fun hc => ?_⟩
    · have k := k.1 hc
      refine z_iconst (pc := 37) (n := -1) (by decide +kernel) ⟨by decide, by decide⟩ ?_
      exact z_iret (pc := 38) (by decide +kernel) rfl k
    · have k := k.2 hc
      refine z_aload_n (pc := 25) (q := 0) (by decide +kernel) rfl ?_
      refine z_getR (pc := 26) 116 fl_Mod_13 rfl rfl rfl (by decide +kernel) ?_
      refine z_bipush (pc := 29) (n := 19) (by decide +kernel) (by decide) ⟨by decide, by decide⟩ ?_
      refine z_iload_n (pc := 31) (q := 1) (by decide +kernel) rfl ?_
      refine z_iadd (pc := 32) (by decide +kernel) ?_
      have hb1 := k.1
      have k := k.2
      refine z_iald (pc := 33) rfl hb1 (by decide +kernel) ?_
      refine z_topI (up_nc (by decide)) ?_
      refine z_goto (pc := 34) (off := 4) 38 (by decide +kernel) (by decide) ?_
      exact z_iret (pc := 38) (by decide +kernel) rfl k
  · have k := k.2 hc
    refine z_bipush (pc := 9) (n := -3) (by decide +kernel) (by decide) ⟨by decide, by decide⟩ ?_
    refine z_goto (pc := 11) (off := 27) 38 (by decide +kernel) (by decide) ?_
    exact z_iret (pc := 38) (by decide +kernel) rfl k
theorem b_Mod_isNone_0 {E : EN} {d : Nat}  {σ : Mem} {K : Mem → Prop}  (k : K (up (up σ 115 22 0) 115 23 0)) :
    Z E y_Mod_isNone d 0 [some (vr 115)] [] σ (qv K) := by
  refine z_aload_n (pc := 0) (q := 0) (by decide +kernel) rfl ?_
  refine z_iconst (pc := 1) (n := 0) (by decide +kernel) ⟨by decide, by decide⟩ ?_
  refine z_putI (pc := 2) 22 fp_Mod_248 rfl rfl rfl (by decide +kernel) ?_
  refine z_aload_n (pc := 5) (q := 0) (by decide +kernel) rfl ?_
  refine z_iconst (pc := 6) (n := 0) (by decide +kernel) ⟨by decide, by decide⟩ ?_
  refine z_putI (pc := 7) 23 fp_Mod_251 rfl rfl rfl (by decide +kernel) ?_
  exact z_vret (pc := 10) (by decide +kernel) rfl k
theorem b_Mod_copiedBy_0 {E : EN} {d : Nat} {a1 : Int} {a2 : Int} {σ : Mem} {K : Int → Mem → Prop}  (hd : 1 ≤ d) (k : (σ 115 22 ≠ 0 → (0 ≤ w32 ((σ 115 22) - 1) ∧ w32 ((σ 115 22) - 1) < 6) ∧ CI E y_Mod_opensIn (d - 1) [vr 115, vi a1] σ (fun x1 τ1 => Z E y_Mod_copiedBy d 32 [some (vr 115), some (vi a1), some (vi a2), some (vi (w32 ((σ 123 (w32 ((σ 115 22) - 1))) + x1))), some (vi 0)] [] τ1 (qi K))) ∧ (σ 115 22 = 0 → CI E y_Mod_opensIn (d - 1) [vr 115, vi a1] σ (fun x2 τ2 => Z E y_Mod_copiedBy d 32 [some (vr 115), some (vi a1), some (vi a2), some (vi (w32 (0 + x2))), some (vi 0)] [] τ2 (qi K)))) :
    Z E y_Mod_copiedBy d 0 [some (vr 115), some (vi a1), some (vi a2), none, none] [] σ (qi K) := by
  refine z_aload_n (pc := 0) (q := 0) (by decide +kernel) rfl ?_
  refine z_getI (pc := 1) 22 fl_Mod_248 rfl (by decide) rfl (by decide +kernel) ?_
  refine z_if_ne (pc := 4) (off := 7) 11 (by decide +kernel) (by decide) ⟨fun hc => ?_, fun hc => ?_⟩
  · have k := k.1 hc
    refine z_aload_n (pc := 11) (q := 0) (by decide +kernel) rfl ?_
    refine z_getR (pc := 12) 123 fl_Mod_39 rfl rfl rfl (by decide +kernel) ?_
    refine z_aload_n (pc := 15) (q := 0) (by decide +kernel) rfl ?_
    refine z_getI (pc := 16) 22 fl_Mod_248 rfl (by decide) rfl (by decide +kernel) ?_
    refine z_iconst (pc := 19) (n := 1) (by decide +kernel) ⟨by decide, by decide⟩ ?_
    refine z_isub (pc := 20) (by decide +kernel) ?_
    have hb1 := k.1
    have k := k.2
    refine z_iald (pc := 21) rfl hb1 (by decide +kernel) ?_
    refine z_aload_n (pc := 22) (q := 0) (by decide +kernel) rfl ?_
    refine z_iload_n (pc := 23) (q := 1) (by decide +kernel) rfl ?_
    refine z_callv (pc := 24) (as := [vi a1]) ml_Mod_236 rfl ⟨rfl, by decide⟩ rfl rfl (Nat.le_of_ble_eq_true rfl) (dc := d - 1) (by omega) (by decide +kernel) (CI.z (CI.mono (fun x1 τ1 k => ?_) k))
    refine z_iadd (pc := 27) (by decide +kernel) ?_
    refine z_istore_n (pc := 28) (q := 3) [some (vr 115), some (vi a1), some (vi a2), some (vi (w32 ((σ 123 (w32 ((σ 115 22) - 1))) + x1))), none] (by decide +kernel) (Nat.le_of_ble_eq_true rfl) rfl ?_
    refine z_iconst (pc := 29) (n := 0) (by decide +kernel) ⟨by decide, by decide⟩ ?_
    refine z_istore (pc := 30) (i := 4) [some (vr 115), some (vi a1), some (vi a2), some (vi (w32 ((σ 123 (w32 ((σ 115 22) - 1))) + x1))), some (vi 0)] (by decide +kernel) (Nat.le_of_ble_eq_true rfl) rfl ?_
    exact k
  · have k := k.2 hc
    refine z_iconst (pc := 7) (n := 0) (by decide +kernel) ⟨by decide, by decide⟩ ?_
    refine z_goto (pc := 8) (off := 14) 22 (by decide +kernel) (by decide) ?_
    refine z_aload_n (pc := 22) (q := 0) (by decide +kernel) rfl ?_
    refine z_iload_n (pc := 23) (q := 1) (by decide +kernel) rfl ?_
    refine z_callv (pc := 24) (as := [vi a1]) ml_Mod_236 rfl ⟨rfl, by decide⟩ rfl rfl (Nat.le_of_ble_eq_true rfl) (dc := d - 1) (by omega) (by decide +kernel) (CI.z (CI.mono (fun x2 τ2 k => ?_) k))
    refine z_iadd (pc := 27) (by decide +kernel) ?_
    refine z_istore_n (pc := 28) (q := 3) [some (vr 115), some (vi a1), some (vi a2), some (vi (w32 (0 + x2))), none] (by decide +kernel) (Nat.le_of_ble_eq_true rfl) rfl ?_
    refine z_iconst (pc := 29) (n := 0) (by decide +kernel) ⟨by decide, by decide⟩ ?_
    refine z_istore (pc := 30) (i := 4) [some (vr 115), some (vi a1), some (vi a2), some (vi (w32 (0 + x2))), some (vi 0)] (by decide +kernel) (Nat.le_of_ble_eq_true rfl) rfl ?_
    exact k
theorem b_Mod_copiedBy_32 {E : EN} {d : Nat} {a1 : Int} {a2 : Int} {a3 : Int} {a4 : Int} {σ : Mem} {K : Int → Mem → Prop}  (hd : 1 ≤ d) (k : (σ 115 22 ≤ a4 → CI E y_Mod_copiesIn (d - 1) [vr 115, vi a1, vi a2] σ (fun x1 τ1 => K (w32 (a3 + x1)) τ1)) ∧ (a4 < σ 115 22 → (0 ≤ a4 ∧ a4 < 6) ∧ (σ 122 a4 ≠ a2 → Z E y_Mod_copiedBy d 32 [some (vr 115), some (vi a1), some (vi a2), some (vi a3), some (vi (w32 (a4 + 1)))] [] σ (qi K)) ∧ (σ 122 a4 = a2 → (σ 124 a4 ≤ a3 → Z E y_Mod_copiedBy d 32 [some (vr 115), some (vi a1), some (vi a2), some (vi a3), some (vi (w32 (a4 + 1)))] [] σ (qi K)) ∧ (a3 < σ 124 a4 → Z E y_Mod_copiedBy d 32 [some (vr 115), some (vi a1), some (vi a2), some (vi (σ 124 a4)), some (vi (w32 (a4 + 1)))] [] σ (qi K))))) :
    Z E y_Mod_copiedBy d 32 [some (vr 115), some (vi a1), some (vi a2), some (vi a3), some (vi a4)] [] σ (qi K) := by
  refine z_iload (pc := 32) (i := 4) (by decide +kernel) rfl ?_
  refine z_aload_n (pc := 34) (q := 0) (by decide +kernel) rfl ?_
  refine z_getI (pc := 35) 22 fl_Mod_248 rfl (by decide) rfl (by decide +kernel) ?_
  refine z_icmp_ge (pc := 38) (off := 39) 77 (by decide +kernel) (by decide) ⟨fun hc => ?_, fun hc => ?_⟩
  · have k := k.1 hc
    refine z_iload_n (pc := 77) (q := 3) (by decide +kernel) rfl ?_
    refine z_aload_n (pc := 78) (q := 0) (by decide +kernel) rfl ?_
    refine z_iload_n (pc := 79) (q := 1) (by decide +kernel) rfl ?_
    refine z_iload_n (pc := 80) (q := 2) (by decide +kernel) rfl ?_
    refine z_callv (pc := 81) (as := [vi a1, vi a2]) ml_Mod_245 rfl ⟨rfl, by decide⟩ rfl rfl (Nat.le_of_ble_eq_true rfl) (dc := d - 1) (by omega) (by decide +kernel) (CI.z (CI.mono (fun x1 τ1 k => ?_) k))
    refine z_iadd (pc := 84) (by decide +kernel) ?_
    exact z_iret (pc := 85) (by decide +kernel) rfl k
  · have k := k.2 hc
    refine z_aload_n (pc := 41) (q := 0) (by decide +kernel) rfl ?_
    refine z_getR (pc := 42) 122 fl_Mod_36 rfl rfl rfl (by decide +kernel) ?_
    refine z_iload (pc := 45) (i := 4) (by decide +kernel) rfl ?_
    have hb1 := k.1
    have k := k.2
    refine z_iald (pc := 47) rfl hb1 (by decide +kernel) ?_
    refine z_iload_n (pc := 48) (q := 2) (by decide +kernel) rfl ?_
    refine z_icmp_ne (pc := 49) (off := 22) 71 (by decide +kernel) (by decide) ⟨fun hc => ?_, fun hc => ?_⟩
    · have k := k.1 hc
      refine z_iinc (pc := 71) (i := 4) (n := 1) [some (vr 115), some (vi a1), some (vi a2), some (vi a3), some (vi (w32 (a4 + 1)))] (by decide +kernel) rfl rfl ?_
      refine z_goto (pc := 74) (off := -42) 32 (by decide +kernel) (by decide) ?_
      exact k
    · have k := k.2 hc
      refine z_aload_n (pc := 52) (q := 0) (by decide +kernel) rfl ?_
      refine z_getR (pc := 53) 124 fl_Mod_42 rfl rfl rfl (by decide +kernel) ?_
      refine z_iload (pc := 56) (i := 4) (by decide +kernel) rfl ?_
      refine z_iald (pc := 58) rfl hb1 (by decide +kernel) ?_
      refine z_iload_n (pc := 59) (q := 3) (by decide +kernel) rfl ?_
      refine z_icmp_le (pc := 60) (off := 11) 71 (by decide +kernel) (by decide) ⟨fun hc => ?_, fun hc => ?_⟩
      · have k := k.1 hc
        refine z_iinc (pc := 71) (i := 4) (n := 1) [some (vr 115), some (vi a1), some (vi a2), some (vi a3), some (vi (w32 (a4 + 1)))] (by decide +kernel) rfl rfl ?_
        refine z_goto (pc := 74) (off := -42) 32 (by decide +kernel) (by decide) ?_
        exact k
      · have k := k.2 hc
        refine z_aload_n (pc := 63) (q := 0) (by decide +kernel) rfl ?_
        refine z_getR (pc := 64) 124 fl_Mod_42 rfl rfl rfl (by decide +kernel) ?_
        refine z_iload (pc := 67) (i := 4) (by decide +kernel) rfl ?_
        refine z_iald (pc := 69) rfl hb1 (by decide +kernel) ?_
        refine z_istore_n (pc := 70) (q := 3) [some (vr 115), some (vi a1), some (vi a2), some (vi (σ 124 a4)), some (vi a4)] (by decide +kernel) (Nat.le_of_ble_eq_true rfl) rfl ?_
        refine z_iinc (pc := 71) (i := 4) (n := 1) [some (vr 115), some (vi a1), some (vi a2), some (vi (σ 124 a4)), some (vi (w32 (a4 + 1)))] (by decide +kernel) rfl rfl ?_
        refine z_goto (pc := 74) (off := -42) 32 (by decide +kernel) (by decide) ?_
        exact k
theorem b_Mod_comesLast_0 {E : EN} {d : Nat} {a1 : Int} {a2 : Int} {σ : Mem} {K : Mem → Prop}  (hd : 1 ≤ d) (k : CI E y_Mod_copiedBy (d - 1) [vr 115, vi a1, vi a2] σ (fun x1 τ1 => (0 ≤ σ 115 22 ∧ σ 115 22 < 6) ∧ (τ1 115 22 ≠ 0 → (0 ≤ w32 ((τ1 115 22) - 1) ∧ w32 ((τ1 115 22) - 1) < 6) ∧ Z E y_Mod_comesLast d 45 [some (vr 115), some (vi a1), some (vi a2)] [vi (τ1 123 (w32 ((τ1 115 22) - 1))), vi (τ1 115 22), vr 123] (up τ1 124 (σ 115 22) x1) (qv K)) ∧ (τ1 115 22 = 0 → Z E y_Mod_comesLast d 45 [some (vr 115), some (vi a1), some (vi a2)] [vi 0, vi (τ1 115 22), vr 123] (up τ1 124 (σ 115 22) x1) (qv K)))) :
    Z E y_Mod_comesLast d 0 [some (vr 115), some (vi a1), some (vi a2)] [] σ (qv K) := by
  refine z_aload_n (pc := 0) (q := 0) (by decide +kernel) rfl ?_
  refine z_getR (pc := 1) 124 fl_Mod_42 rfl rfl rfl (by decide +kernel) ?_
  refine z_aload_n (pc := 4) (q := 0) (by decide +kernel) rfl ?_
  refine z_getI (pc := 5) 22 fl_Mod_248 rfl (by decide) rfl (by decide +kernel) ?_
  refine z_aload_n (pc := 8) (q := 0) (by decide +kernel) rfl ?_
  refine z_iload_n (pc := 9) (q := 1) (by decide +kernel) rfl ?_
  refine z_iload_n (pc := 10) (q := 2) (by decide +kernel) rfl ?_
  refine z_callv (pc := 11) (as := [vi a1, vi a2]) ml_Mod_254 rfl ⟨rfl, by decide⟩ rfl rfl (Nat.le_of_ble_eq_true rfl) (dc := d - 1) (by omega) (by decide +kernel) (CI.z (CI.mono (fun x1 τ1 k => ?_) k))
  have hb1 := k.1
  have k := k.2
  refine z_iast (pc := 14) rfl hb1 (by decide +kernel) ?_
  refine z_aload_n (pc := 15) (q := 0) (by decide +kernel) rfl ?_
  refine z_getR (pc := 16) 123 fl_Mod_39 rfl rfl rfl (by decide +kernel) ?_
  refine z_aload_n (pc := 19) (q := 0) (by decide +kernel) rfl ?_
  refine z_getI (pc := 20) 22 fl_Mod_248 rfl (by decide) rfl (by decide +kernel) ?_
  refine z_topI (up_nc (by decide)) ?_
  refine z_aload_n (pc := 23) (q := 0) (by decide +kernel) rfl ?_
  refine z_getI (pc := 24) 22 fl_Mod_248 rfl (by decide) rfl (by decide +kernel) ?_
  refine z_topI (up_nc (by decide)) ?_
  refine z_if_ne (pc := 27) (off := 7) 34 (by decide +kernel) (by decide) ⟨fun hc => ?_, fun hc => ?_⟩
  · have k := k.1 hc
    refine z_aload_n (pc := 34) (q := 0) (by decide +kernel) rfl ?_
    refine z_getR (pc := 35) 123 fl_Mod_39 rfl rfl rfl (by decide +kernel) ?_
    refine z_aload_n (pc := 38) (q := 0) (by decide +kernel) rfl ?_
    refine z_getI (pc := 39) 22 fl_Mod_248 rfl (by decide) rfl (by decide +kernel) ?_
    refine z_topI (up_nc (by decide)) ?_
    refine z_iconst (pc := 42) (n := 1) (by decide +kernel) ⟨by decide, by decide⟩ ?_
    refine z_isub (pc := 43) (by decide +kernel) ?_
    have hb2 := k.1
    have k := k.2
    refine z_iald (pc := 44) rfl hb2 (by decide +kernel) ?_
    refine z_topI (up_nc (by decide)) ?_
    exact k
  · have k := k.2 hc
    refine z_iconst (pc := 30) (n := 0) (by decide +kernel) ⟨by decide, by decide⟩ ?_
    refine z_goto (pc := 31) (off := 14) 45 (by decide +kernel) (by decide) ?_
    exact k
theorem b_Mod_comesLast_45 {E : EN} {d : Nat} {a1 : Int} {a2 : Int} {s0 : Int} {s1 : Int} {σ : Mem} {K : Mem → Prop}  (hd : 1 ≤ d) (k : CI E y_Mod_opensIn (d - 1) [vr 115, vi a1] σ (fun x1 τ1 => (0 ≤ s1 ∧ s1 < 6) ∧ (0 ≤ τ1 115 22 ∧ τ1 115 22 < 6) ∧ K (up (up (up (up (up τ1 123 s1 (w32 (s0 + x1))) 121 (τ1 115 22) a1) 122 (τ1 115 22) a2) 115 22 (w32 ((τ1 115 22) + 1))) 115 23 (ior (τ1 115 23) (ish 1 a1))))) :
    Z E y_Mod_comesLast d 45 [some (vr 115), some (vi a1), some (vi a2)] [vi s0, vi s1, vr 123] σ (qv K) := by
  refine z_aload_n (pc := 45) (q := 0) (by decide +kernel) rfl ?_
  refine z_iload_n (pc := 46) (q := 1) (by decide +kernel) rfl ?_
  refine z_callv (pc := 47) (as := [vi a1]) ml_Mod_236 rfl ⟨rfl, by decide⟩ rfl rfl (Nat.le_of_ble_eq_true rfl) (dc := d - 1) (by omega) (by decide +kernel) (CI.z (CI.mono (fun x1 τ1 k => ?_) k))
  refine z_iadd (pc := 50) (by decide +kernel) ?_
  have hb1 := k.1
  have k := k.2
  refine z_iast (pc := 51) rfl hb1 (by decide +kernel) ?_
  refine z_aload_n (pc := 52) (q := 0) (by decide +kernel) rfl ?_
  refine z_getR (pc := 53) 121 fl_Mod_33 rfl rfl rfl (by decide +kernel) ?_
  refine z_aload_n (pc := 56) (q := 0) (by decide +kernel) rfl ?_
  refine z_getI (pc := 57) 22 fl_Mod_248 rfl (by decide) rfl (by decide +kernel) ?_
  refine z_topI (up_nc (by decide)) ?_
  refine z_iload_n (pc := 60) (q := 1) (by decide +kernel) rfl ?_
  have hb2 := k.1
  have k := k.2
  refine z_iast (pc := 61) rfl hb2 (by decide +kernel) ?_
  refine z_aload_n (pc := 62) (q := 0) (by decide +kernel) rfl ?_
  refine z_getR (pc := 63) 122 fl_Mod_36 rfl rfl rfl (by decide +kernel) ?_
  refine z_aload_n (pc := 66) (q := 0) (by decide +kernel) rfl ?_
  refine z_getI (pc := 67) 22 fl_Mod_248 rfl (by decide) rfl (by decide +kernel) ?_
  refine z_topI ((up_nc (by decide)).trans (up_nc (by decide))) ?_
  refine z_iload_n (pc := 70) (q := 2) (by decide +kernel) rfl ?_
  refine z_iast (pc := 71) rfl hb2 (by decide +kernel) ?_
  refine z_aload_n (pc := 72) (q := 0) (by decide +kernel) rfl ?_
  refine z_dup (pc := 73) (by decide +kernel) rfl ?_
  refine z_getI (pc := 74) 22 fl_Mod_248 rfl (by decide) rfl (by decide +kernel) ?_
  refine z_topI ((up_nc (by decide)).trans ((up_nc (by decide)).trans (up_nc (by decide)))) ?_
  refine z_iconst (pc := 77) (n := 1) (by decide +kernel) ⟨by decide, by decide⟩ ?_
  refine z_iadd (pc := 78) (by decide +kernel) ?_
  refine z_putI (pc := 79) 22 fp_Mod_248 rfl rfl rfl (by decide +kernel) ?_
  refine z_aload_n (pc := 82) (q := 0) (by decide +kernel) rfl ?_
  refine z_dup (pc := 83) (by decide +kernel) rfl ?_
  refine z_getI (pc := 84) 23 fl_Mod_251 rfl (by decide) rfl (by decide +kernel) ?_
  refine z_topI ((up_nk (by decide)).trans ((up_nc (by decide)).trans ((up_nc (by decide)).trans (up_nc (by decide))))) ?_
  refine z_iconst (pc := 87) (n := 1) (by decide +kernel) ⟨by decide, by decide⟩ ?_
  refine z_iload_n (pc := 88) (q := 1) (by decide +kernel) rfl ?_
  refine z_ishl (pc := 89) (by decide +kernel) ?_
  refine z_ior (pc := 90) (by decide +kernel) ?_
  refine z_putI (pc := 91) 23 fp_Mod_251 rfl rfl rfl (by decide +kernel) ?_
  exact z_vret (pc := 94) (by decide +kernel) rfl k
theorem b_Mod_goesLast_0 {E : EN} {d : Nat}  {σ : Mem} {K : Mem → Prop}  (k : (0 ≤ w32 ((σ 115 22) - 1) ∧ w32 ((σ 115 22) - 1) < 6) ∧ K (up (up σ 115 22 (w32 ((σ 115 22) - 1))) 115 23 (ian (σ 115 23) (ixo (ish 1 (σ 121 (w32 ((σ 115 22) - 1)))) (-1))))) :
    Z E y_Mod_goesLast d 0 [some (vr 115)] [] σ (qv K) := by
  refine z_aload_n (pc := 0) (q := 0) (by decide +kernel) rfl ?_
  refine z_dup (pc := 1) (by decide +kernel) rfl ?_
  refine z_getI (pc := 2) 22 fl_Mod_248 rfl (by decide) rfl (by decide +kernel) ?_
  refine z_iconst (pc := 5) (n := 1) (by decide +kernel) ⟨by decide, by decide⟩ ?_
  refine z_isub (pc := 6) (by decide +kernel) ?_
  refine z_putI (pc := 7) 22 fp_Mod_248 rfl rfl rfl (by decide +kernel) ?_
  refine z_aload_n (pc := 10) (q := 0) (by decide +kernel) rfl ?_
  refine z_dup (pc := 11) (by decide +kernel) rfl ?_
  refine z_getI (pc := 12) 23 fl_Mod_251 rfl (by decide) rfl (by decide +kernel) ?_
  refine z_topI (up_nk (by decide)) ?_
  refine z_iconst (pc := 15) (n := 1) (by decide +kernel) ⟨by decide, by decide⟩ ?_
  refine z_aload_n (pc := 16) (q := 0) (by decide +kernel) rfl ?_
  refine z_getR (pc := 17) 121 fl_Mod_33 rfl rfl rfl (by decide +kernel) ?_
  refine z_aload_n (pc := 20) (q := 0) (by decide +kernel) rfl ?_
  refine z_getI (pc := 21) 22 fl_Mod_248 rfl (by decide) rfl (by decide +kernel) ?_
  refine z_topI (up_same _ _ _ _) ?_
  have hb1 := k.1
  have k := k.2
  refine z_iald (pc := 24) rfl hb1 (by decide +kernel) ?_
  refine z_topI (up_nc (by decide)) ?_
  refine z_ishl (pc := 25) (by decide +kernel) ?_
  refine z_iconst (pc := 26) (n := -1) (by decide +kernel) ⟨by decide, by decide⟩ ?_
  refine z_ixor (pc := 27) (by decide +kernel) ?_
  refine z_iand (pc := 28) (by decide +kernel) ?_
  refine z_putI (pc := 29) 23 fp_Mod_251 rfl rfl rfl (by decide +kernel) ?_
  exact z_vret (pc := 32) (by decide +kernel) rfl k
theorem b_Mod_mendedBy_0 {E : EN} {d : Nat}  {σ : Mem} {K : Int → Mem → Prop}  (k : Z E y_Mod_mendedBy d 6 [some (vr 115), some (vi 0), some (vi 0), some (vi 0), none, none] [] σ (qi K)) :
    Z E y_Mod_mendedBy d 0 [some (vr 115), none, none, none, none, none] [] σ (qi K) := by
  refine z_iconst (pc := 0) (n := 0) (by decide +kernel) ⟨by decide, by decide⟩ ?_
  refine z_istore_n (pc := 1) (q := 1) [some (vr 115), some (vi 0), none, none, none, none] (by decide +kernel) (Nat.le_of_ble_eq_true rfl) rfl ?_
  refine z_iconst (pc := 2) (n := 0) (by decide +kernel) ⟨by decide, by decide⟩ ?_
  refine z_istore_n (pc := 3) (q := 2) [some (vr 115), some (vi 0), some (vi 0), none, none, none] (by decide +kernel) (Nat.le_of_ble_eq_true rfl) rfl ?_
  refine z_iconst (pc := 4) (n := 0) (by decide +kernel) ⟨by decide, by decide⟩ ?_
  refine z_istore_n (pc := 5) (q := 3) [some (vr 115), some (vi 0), some (vi 0), some (vi 0), none, none] (by decide +kernel) (Nat.le_of_ble_eq_true rfl) rfl ?_
  exact k
theorem b_Mod_mendedBy_6 {E : EN} {d : Nat} {a1 : Int} {a2 : Int} {a3 : Int} {o4 : Option AV} {o5 : Option AV} {σ : Mem} {K : Int → Mem → Prop}  (k : (σ 115 22 ≤ a3 → K a2 σ) ∧ (a3 < σ 115 22 → Z E y_Mod_mendedBy d 20 [some (vr 115), some (vi a1), some (vi a2), some (vi a3), some (vi (-1)), some (vi 0)] [] σ (qi K))) :
    Z E y_Mod_mendedBy d 6 [some (vr 115), some (vi a1), some (vi a2), some (vi a3), o4, o5] [] σ (qi K) := by
  refine z_iload_n (pc := 6) (q := 3) (by decide +kernel) rfl ?_
  refine z_aload_n (pc := 7) (q := 0) (by decide +kernel) rfl ?_
  refine z_getI (pc := 8) 22 fl_Mod_248 rfl (by decide) rfl (by decide +kernel) ?_
  refine z_icmp_ge (pc := 11) (off := 117) 128 (by decide +kernel) (by decide) ⟨fun hc => ?_, fun hc => ?_⟩
  · have k := k.1 hc
    refine z_iload_n (pc := 128) (q := 2) (by decide +kernel) rfl ?_
    exact z_iret (pc := 129) (by decide +kernel) rfl k
  · have k := k.2 hc
    refine z_iconst (pc := 14) (n := -1) (by decide +kernel) ⟨by decide, by decide⟩ ?_
    refine z_istore (pc := 15) (i := 4) [some (vr 115), some (vi a1), some (vi a2), some (vi a3), some (vi (-1)), o5] (by decide +kernel) (Nat.le_of_ble_eq_true rfl) rfl ?_
    refine z_iconst (pc := 17) (n := 0) (by decide +kernel) ⟨by decide, by decide⟩ ?_
    refine z_istore (pc := 18) (i := 5) [some (vr 115), some (vi a1), some (vi a2), some (vi a3), some (vi (-1)), some (vi 0)] (by decide +kernel) (Nat.le_of_ble_eq_true rfl) rfl ?_
    exact k
theorem b_Mod_mendedBy_20 {E : EN} {d : Nat} {a1 : Int} {a2 : Int} {a3 : Int} {a4 : Int} {a5 : Int} {σ : Mem} {K : Int → Mem → Prop}  (hd : 1 ≤ d) (k : (σ 115 22 ≤ a5 → (0 ≤ a4 ∧ a4 < 6) ∧ (σ 124 a4 ≤ a2 → Z E y_Mod_mendedBy d 94 [some (vr 115), some (vi a1), some (vi a2), some (vi a3), some (vi a4), some (vi a5)] [vi a2] σ (qi K)) ∧ (a2 < σ 124 a4 → Z E y_Mod_mendedBy d 94 [some (vr 115), some (vi a1), some (vi a2), some (vi a3), some (vi a4), some (vi a5)] [vi (σ 124 a4)] σ (qi K))) ∧ (a5 < σ 115 22 → CI E y_Mod_isIn (d - 1) [vl a1, vi a5] σ (fun x1 τ1 => (x1 ≠ 0 → Z E y_Mod_mendedBy d 20 [some (vr 115), some (vi a1), some (vi a2), some (vi a3), some (vi a4), some (vi (w32 (a5 + 1)))] [] τ1 (qi K)) ∧ (x1 = 0 → (a4 = (-1) → Z E y_Mod_mendedBy d 20 [some (vr 115), some (vi a1), some (vi a2), some (vi a3), some (vi a5), some (vi (w32 (a5 + 1)))] [] τ1 (qi K)) ∧ (a4 ≠ (-1) → (0 ≤ a5 ∧ a5 < 6) ∧ (0 ≤ a4 ∧ a4 < 6) ∧ (τ1 124 a4 ≤ τ1 124 a5 → Z E y_Mod_mendedBy d 20 [some (vr 115), some (vi a1), some (vi a2), some (vi a3), some (vi a4), some (vi (w32 (a5 + 1)))] [] τ1 (qi K)) ∧ (τ1 124 a5 < τ1 124 a4 → Z E y_Mod_mendedBy d 20 [some (vr 115), some (vi a1), some (vi a2), some (vi a3), some (vi a5), some (vi (w32 (a5 + 1)))] [] τ1 (qi K))))))) :
    Z E y_Mod_mendedBy d 20 [some (vr 115), some (vi a1), some (vi a2), some (vi a3), some (vi a4), some (vi a5)] [] σ (qi K) := by
  refine z_iload (pc := 20) (i := 5) (by decide +kernel) rfl ?_
  refine z_aload_n (pc := 22) (q := 0) (by decide +kernel) rfl ?_
  refine z_getI (pc := 23) 22 fl_Mod_248 rfl (by decide) rfl (by decide +kernel) ?_
  refine z_icmp_ge (pc := 26) (off := 46) 72 (by decide +kernel) (by decide) ⟨fun hc => ?_, fun hc => ?_⟩
  · have k := k.1 hc
    refine z_aload_n (pc := 72) (q := 0) (by decide +kernel) rfl ?_
    refine z_getR (pc := 73) 124 fl_Mod_42 rfl rfl rfl (by decide +kernel) ?_
    refine z_iload (pc := 76) (i := 4) (by decide +kernel) rfl ?_
    have hb1 := k.1
    have k := k.2
    refine z_iald (pc := 78) rfl hb1 (by decide +kernel) ?_
    refine z_iload_n (pc := 79) (q := 2) (by decide +kernel) rfl ?_
    refine z_icmp_le (pc := 80) (off := 13) 93 (by decide +kernel) (by decide) ⟨fun hc => ?_, fun hc => ?_⟩
    · have k := k.1 hc
      refine z_iload_n (pc := 93) (q := 2) (by decide +kernel) rfl ?_
      exact k
    · have k := k.2 hc
      refine z_aload_n (pc := 83) (q := 0) (by decide +kernel) rfl ?_
      refine z_getR (pc := 84) 124 fl_Mod_42 rfl rfl rfl (by decide +kernel) ?_
      refine z_iload (pc := 87) (i := 4) (by decide +kernel) rfl ?_
      refine z_iald (pc := 89) rfl hb1 (by decide +kernel) ?_
      refine z_goto (pc := 90) (off := 4) 94 (by decide +kernel) (by decide) ?_
      exact k
  · have k := k.2 hc
    refine z_iload_n (pc := 29) (q := 1) (by decide +kernel) rfl ?_
    refine z_i2l (pc := 30) (by decide +kernel) ?_
    refine z_iload (pc := 31) (i := 5) (by decide +kernel) rfl ?_
    refine z_calls (pc := 33) (as := [vl a1, vi a5]) ml_Mod_214 rfl rfl (Nat.le_of_ble_eq_true rfl) (dc := d - 1) (by omega) (by decide +kernel) (CI.z (CI.mono (fun x1 τ1 k => ?_) k))
    refine z_if_ne (pc := 36) (off := 30) 66 (by decide +kernel) (by decide) ⟨fun hc => ?_, fun hc => ?_⟩
    · have k := k.1 hc
      refine z_iinc (pc := 66) (i := 5) (n := 1) [some (vr 115), some (vi a1), some (vi a2), some (vi a3), some (vi a4), some (vi (w32 (a5 + 1)))] (by decide +kernel) rfl rfl ?_
      refine z_goto (pc := 69) (off := -49) 20 (by decide +kernel) (by decide) ?_
      exact k
    · have k := k.2 hc
      refine z_iload (pc := 39) (i := 4) (by decide +kernel) rfl ?_
      refine z_iconst (pc := 41) (n := -1) (by decide +kernel) ⟨by decide, by decide⟩ ?_
      refine z_icmp_eq (pc := 42) (off := 20) 62 (by decide +kernel) (by decide) ⟨fun hc => ?_, fun hc => ?_⟩
      · have k := k.1 hc
        refine z_iload (pc := 62) (i := 5) (by decide +kernel) rfl ?_
        refine z_istore (pc := 64) (i := 4) [some (vr 115), some (vi a1), some (vi a2), some (vi a3), some (vi a5), some (vi a5)] (by decide +kernel) (Nat.le_of_ble_eq_true rfl) rfl ?_
        refine z_iinc (pc := 66) (i := 5) (n := 1) [some (vr 115), some (vi a1), some (vi a2), some (vi a3), some (vi a5), some (vi (w32 (a5 + 1)))] (by decide +kernel) rfl rfl ?_
        refine z_goto (pc := 69) (off := -49) 20 (by decide +kernel) (by decide) ?_
        exact k
      · have k := k.2 hc
        refine z_aload_n (pc := 45) (q := 0) (by decide +kernel) rfl ?_
        refine z_getR (pc := 46) 124 fl_Mod_42 rfl rfl rfl (by decide +kernel) ?_
        refine z_iload (pc := 49) (i := 5) (by decide +kernel) rfl ?_
        have hb2 := k.1
        have k := k.2
        refine z_iald (pc := 51) rfl hb2 (by decide +kernel) ?_
        refine z_aload_n (pc := 52) (q := 0) (by decide +kernel) rfl ?_
        refine z_getR (pc := 53) 124 fl_Mod_42 rfl rfl rfl (by decide +kernel) ?_
        refine z_iload (pc := 56) (i := 4) (by decide +kernel) rfl ?_
        have hb3 := k.1
        have k := k.2
        refine z_iald (pc := 58) rfl hb3 (by decide +kernel) ?_
        refine z_icmp_ge (pc := 59) (off := 7) 66 (by decide +kernel) (by decide) ⟨fun hc => ?_, fun hc => ?_⟩
        · have k := k.1 hc
          refine z_iinc (pc := 66) (i := 5) (n := 1) [some (vr 115), some (vi a1), some (vi a2), some (vi a3), some (vi a4), some (vi (w32 (a5 + 1)))] (by decide +kernel) rfl rfl ?_
          refine z_goto (pc := 69) (off := -49) 20 (by decide +kernel) (by decide) ?_
          exact k
        · have k := k.2 hc
          refine z_iload (pc := 62) (i := 5) (by decide +kernel) rfl ?_
          refine z_istore (pc := 64) (i := 4) [some (vr 115), some (vi a1), some (vi a2), some (vi a3), some (vi a5), some (vi a5)] (by decide +kernel) (Nat.le_of_ble_eq_true rfl) rfl ?_
          refine z_iinc (pc := 66) (i := 5) (n := 1) [some (vr 115), some (vi a1), some (vi a2), some (vi a3), some (vi a5), some (vi (w32 (a5 + 1)))] (by decide +kernel) rfl rfl ?_
          refine z_goto (pc := 69) (off := -49) 20 (by decide +kernel) (by decide) ?_
          exact k
theorem b_Mod_mendedBy_94 {E : EN} {d : Nat} {a1 : Int} {o2 : Option AV} {a3 : Int} {a4 : Int} {o5 : Option AV} {s0 : Int} {σ : Mem} {K : Int → Mem → Prop}  (hd : 1 ≤ d) (k : (0 ≤ a4 ∧ a4 < 6) ∧ CI E y_Mod_mendsIn (d - 1) [vr 115, vi (σ 121 a4)] σ (fun x1 τ1 => Z E y_Mod_mendedBy d 6 [some (vr 115), some (vi (ior a1 (ish 1 a4))), some (vi (w32 (s0 + x1))), some (vi (w32 (a3 + 1))), some (vi a4), o5] [] (up τ1 125 a4 (w32 (s0 + x1))) (qi K))) :
    Z E y_Mod_mendedBy d 94 [some (vr 115), some (vi a1), o2, some (vi a3), some (vi a4), o5] [vi s0] σ (qi K) := by
  refine z_aload_n (pc := 94) (q := 0) (by decide +kernel) rfl ?_
  refine z_aload_n (pc := 95) (q := 0) (by decide +kernel) rfl ?_
  refine z_getR (pc := 96) 121 fl_Mod_33 rfl rfl rfl (by decide +kernel) ?_
  refine z_iload (pc := 99) (i := 4) (by decide +kernel) rfl ?_
  have hb1 := k.1
  have k := k.2
  refine z_iald (pc := 101) rfl hb1 (by decide +kernel) ?_
  refine z_callv (pc := 102) (as := [vi (σ 121 a4)]) ml_Mod_239 rfl ⟨rfl, by decide⟩ rfl rfl (Nat.le_of_ble_eq_true rfl) (dc := d - 1) (by omega) (by decide +kernel) (CI.z (CI.mono (fun x1 τ1 k => ?_) k))
  refine z_iadd (pc := 105) (by decide +kernel) ?_
  refine z_istore_n (pc := 106) (q := 2) [some (vr 115), some (vi a1), some (vi (w32 (s0 + x1))), some (vi a3), some (vi a4), o5] (by decide +kernel) (Nat.le_of_ble_eq_true rfl) rfl ?_
  refine z_aload_n (pc := 107) (q := 0) (by decide +kernel) rfl ?_
  refine z_getR (pc := 108) 125 fl_Mod_45 rfl rfl rfl (by decide +kernel) ?_
  refine z_iload (pc := 111) (i := 4) (by decide +kernel) rfl ?_
  refine z_iload_n (pc := 113) (q := 2) (by decide +kernel) rfl ?_
  refine z_iast (pc := 114) rfl hb1 (by decide +kernel) ?_
  refine z_iload_n (pc := 115) (q := 1) (by decide +kernel) rfl ?_
  refine z_iconst (pc := 116) (n := 1) (by decide +kernel) ⟨by decide, by decide⟩ ?_
  refine z_iload (pc := 117) (i := 4) (by decide +kernel) rfl ?_
  refine z_ishl (pc := 119) (by decide +kernel) ?_
  refine z_ior (pc := 120) (by decide +kernel) ?_
  refine z_istore_n (pc := 121) (q := 1) [some (vr 115), some (vi (ior a1 (ish 1 a4))), some (vi (w32 (s0 + x1))), some (vi a3), some (vi a4), o5] (by decide +kernel) (Nat.le_of_ble_eq_true rfl) rfl ?_
  refine z_iinc (pc := 122) (i := 3) (n := 1) [some (vr 115), some (vi (ior a1 (ish 1 a4))), some (vi (w32 (s0 + x1))), some (vi (w32 (a3 + 1))), some (vi a4), o5] (by decide +kernel) rfl rfl ?_
  refine z_goto (pc := 125) (off := -119) 6 (by decide +kernel) (by decide) ?_
  exact k
theorem b_Mod_awake_0 {E : EN} {d : Nat}  {σ : Mem} {K : Int → Mem → Prop}  (k : K (ian (w32 ((ish 1 (σ 116 2)) - 1)) (ixo (σ 116 81) (-1))) σ) :
    Z E y_Mod_awake d 0 [some (vr 115)] [] σ (qi K) := by
  refine z_iconst (pc := 0) (n := 1) (by decide +kernel) ⟨by decide, by decide⟩ ?_
  refine z_aload_n (pc := 1) (q := 0) (by decide +kernel) rfl ?_
  refine z_getR (pc := 2) 116 fl_Mod_13 rfl rfl rfl (by decide +kernel) ?_
  refine z_iconst (pc := 5) (n := 2) (by decide +kernel) ⟨by decide, by decide⟩ ?_
  refine z_iald (pc := 6) rfl ⟨by decide, by decide⟩ (by decide +kernel) ?_
  refine z_ishl (pc := 7) (by decide +kernel) ?_
  refine z_iconst (pc := 8) (n := 1) (by decide +kernel) ⟨by decide, by decide⟩ ?_
  refine z_isub (pc := 9) (by decide +kernel) ?_
  refine z_aload_n (pc := 10) (q := 0) (by decide +kernel) rfl ?_
  refine z_getR (pc := 11) 116 fl_Mod_13 rfl rfl rfl (by decide +kernel) ?_
  refine z_bipush (pc := 14) (n := 81) (by decide +kernel) (by decide) ⟨by decide, by decide⟩ ?_
  refine z_iald (pc := 16) rfl ⟨by decide, by decide⟩ (by decide +kernel) ?_
  refine z_iconst (pc := 17) (n := -1) (by decide +kernel) ⟨by decide, by decide⟩ ?_
  refine z_ixor (pc := 18) (by decide +kernel) ?_
  refine z_iand (pc := 19) (by decide +kernel) ?_
  exact z_iret (pc := 20) (by decide +kernel) rfl k
theorem b_Mod_whyLast_0 {E : EN} {d : Nat} {b1 : Int} {σ : Mem} {K : Int → Mem → Prop}  (hd : 1 ≤ d) (k : CI E y_Mod_within (d - 1) [vl b1, vl 0, vl 29] σ (fun x1 τ1 => (x1 = 0 → K 1 τ1) ∧ (x1 ≠ 0 → CI E y_Mod_isLetter (d - 1) [vr 115, vl (Int.tmod b1 10)] τ1 (fun x2 τ2 => (x2 = 0 → K 1 τ2) ∧ (x2 ≠ 0 → CI E y_Mod_isHand (d - 1) [vr 115, vl (w64 (Int.tdiv b1 10))] τ2 (fun x3 τ3 => (x3 ≠ 0 → CI E y_Mod_isIn (d - 1) [vl (ior (τ3 116 79) (τ3 115 23)), vi (Int.tmod (w32 b1) 10)] τ3 (fun x4 τ4 => (x4 ≠ 0 → K 2 τ4) ∧ (x4 = 0 → CI E y_Mod_awake (d - 1) [vr 115] τ4 (fun x5 τ5 => CI E y_Mod_isIn (d - 1) [vl x5, vi (w32 (Int.tdiv (w32 b1) 10))] τ5 (fun x6 τ6 => (x6 = 0 → K 2 τ6) ∧ (x6 ≠ 0 → CI E y_Mod_reads1 (d - 1) [vr 115, vi (w32 (Int.tdiv (w32 b1) 10)), vi (Int.tmod (w32 b1) 10)] τ6 (fun x7 τ7 => (x7 ≠ 0 → CV E y_Mod_comesLast (d - 1) [vr 115, vi (Int.tmod (w32 b1) 10), vi (w32 (Int.tdiv (w32 b1) 10))] τ7 (fun τ8 => CI E y_Mod_mendedBy (d - 1) [vr 115] τ8 (fun x9 τ9 => (τ9 116 1 < x9 → CV E y_Mod_goesLast (d - 1) [vr 115] τ9 (fun τ10 => K 3 τ10)) ∧ (x9 ≤ τ9 116 1 → K 0 τ9)))) ∧ (x7 = 0 → K 2 τ7)))))))) ∧ (x3 = 0 → K 1 τ3))))))) :
    Z E y_Mod_whyLast d 0 [some (vr 115), some (vl b1), none, none, none] [] σ (qi K) := by
  refine z_lload_n (pc := 0) (q := 1) (by decide +kernel) rfl ?_
  refine z_lconst (pc := 1) (n := 0) 0 (by decide +kernel) (by decide) ⟨by decide, by decide⟩ ?_
  refine z_ldc2 (pc := 2) (index := 257) 29 (mm7 228 rfl) ⟨by decide, by decide⟩ (by decide +kernel) ?_
  refine z_calls (pc := 5) (as := [vl b1, vl 0, vl 29]) ml_Mod_136 rfl rfl (Nat.le_of_ble_eq_true rfl) (dc := d - 1) (by omega) (by decide +kernel) (CI.z (CI.mono (fun x1 τ1 k => ?_) k))
  refine z_if_eq (pc := 8) (off := 27) 35 (by decide +kernel) (by decide) ⟨fun hc => ?_, fun hc => ?_⟩
  · have k := k.1 hc
    refine z_iconst (pc := 35) (n := 1) (by decide +kernel) ⟨by decide, by decide⟩ ?_
    exact z_iret (pc := 36) (by decide +kernel) rfl k
  · have k := k.2 hc
    refine z_aload_n (pc := 11) (q := 0) (by decide +kernel) rfl ?_
    refine z_lload_n (pc := 12) (q := 1) (by decide +kernel) rfl ?_
    refine z_ldc2 (pc := 13) (index := 259) 10 (mm7 229 rfl) ⟨by decide, by decide⟩ (by decide +kernel) ?_
    refine z_lrem (pc := 16) (by decide +kernel) (by decide) ?_
    refine z_callv (pc := 17) (as := [vl (Int.tmod b1 10)]) ml_Mod_222 rfl ⟨rfl, by decide⟩ rfl rfl (Nat.le_of_ble_eq_true rfl) (dc := d - 1) (by omega) (by decide +kernel) (CI.z (CI.mono (fun x2 τ2 k => ?_) k))
    refine z_if_eq (pc := 20) (off := 15) 35 (by decide +kernel) (by decide) ⟨fun hc => ?_, fun hc => ?_⟩
    · have k := k.1 hc
      refine z_iconst (pc := 35) (n := 1) (by decide +kernel) ⟨by decide, by decide⟩ ?_
      exact z_iret (pc := 36) (by decide +kernel) rfl k
    · have k := k.2 hc
      refine z_aload_n (pc := 23) (q := 0) (by decide +kernel) rfl ?_
      refine z_lload_n (pc := 24) (q := 1) (by decide +kernel) rfl ?_
      refine z_ldc2 (pc := 25) (index := 259) 10 (mm7 229 rfl) ⟨by decide, by decide⟩ (by decide +kernel) ?_
      refine z_ldiv (pc := 28) (by decide +kernel) (by decide) ?_
      refine z_callv (pc := 29) (as := [vl (w64 (Int.tdiv b1 10))]) ml_Mod_228 rfl ⟨rfl, by decide⟩ rfl rfl (Nat.le_of_ble_eq_true rfl) (dc := d - 1) (by omega) (by decide +kernel) (CI.z (CI.mono (fun x3 τ3 k => ?_) k))
      refine z_if_ne (pc := 32) (off := 5) 37 (by decide +kernel) (by decide) ⟨fun hc => ?_, fun hc => ?_⟩
      · have k := k.1 hc
        refine z_lload_n (pc := 37) (q := 1) (by decide +kernel) rfl ?_
        refine z_l2i (pc := 38) (by decide +kernel) ?_
        refine z_bipush (pc := 39) (n := 10) (by decide +kernel) (by decide) ⟨by decide, by decide⟩ ?_
        refine z_irem (pc := 41) (by decide +kernel) (by decide) ?_
        refine z_istore_n (pc := 42) (q := 3) [some (vr 115), some (vl b1), none, some (vi (Int.tmod (w32 b1) 10)), none] (by decide +kernel) (Nat.le_of_ble_eq_true rfl) rfl ?_
        refine z_lload_n (pc := 43) (q := 1) (by decide +kernel) rfl ?_
        refine z_l2i (pc := 44) (by decide +kernel) ?_
        refine z_bipush (pc := 45) (n := 10) (by decide +kernel) (by decide) ⟨by decide, by decide⟩ ?_
        refine z_idiv (pc := 47) (by decide +kernel) (by decide) ?_
        refine z_istore (pc := 48) (i := 4) [some (vr 115), some (vl b1), none, some (vi (Int.tmod (w32 b1) 10)), some (vi (w32 (Int.tdiv (w32 b1) 10)))] (by decide +kernel) (Nat.le_of_ble_eq_true rfl) rfl ?_
        refine z_aload_n (pc := 50) (q := 0) (by decide +kernel) rfl ?_
        refine z_getR (pc := 51) 116 fl_Mod_13 rfl rfl rfl (by decide +kernel) ?_
        refine z_bipush (pc := 54) (n := 79) (by decide +kernel) (by decide) ⟨by decide, by decide⟩ ?_
        refine z_iald (pc := 56) rfl ⟨by decide, by decide⟩ (by decide +kernel) ?_
        refine z_aload_n (pc := 57) (q := 0) (by decide +kernel) rfl ?_
        refine z_getI (pc := 58) 23 fl_Mod_251 rfl (by decide) rfl (by decide +kernel) ?_
        refine z_ior (pc := 61) (by decide +kernel) ?_
        refine z_i2l (pc := 62) (by decide +kernel) ?_
        refine z_iload_n (pc := 63) (q := 3) (by decide +kernel) rfl ?_
        refine z_calls (pc := 64) (as := [vl (ior (τ3 116 79) (τ3 115 23)), vi (Int.tmod (w32 b1) 10)]) ml_Mod_214 rfl rfl (Nat.le_of_ble_eq_true rfl) (dc := d - 1) (by omega) (by decide +kernel) (CI.z (CI.mono (fun x4 τ4 k => ?_) k))
        refine z_if_ne (pc := 67) (off := 26) 93 (by decide +kernel) (by decide) ⟨fun hc => ?_, fun hc => ?_⟩
        · have k := k.1 hc
          refine z_iconst (pc := 93) (n := 2) (by decide +kernel) ⟨by decide, by decide⟩ ?_
          exact z_iret (pc := 94) (by decide +kernel) rfl k
        · have k := k.2 hc
          refine z_aload_n (pc := 70) (q := 0) (by decide +kernel) rfl ?_
          refine z_callv (pc := 71) (as := []) ml_Mod_261 rfl ⟨rfl, by decide⟩ rfl rfl (Nat.le_of_ble_eq_true rfl) (dc := d - 1) (by omega) (by decide +kernel) (CI.z (CI.mono (fun x5 τ5 k => ?_) k))
          refine z_i2l (pc := 74) (by decide +kernel) ?_
          refine z_iload (pc := 75) (i := 4) (by decide +kernel) rfl ?_
          refine z_calls (pc := 77) (as := [vl x5, vi (w32 (Int.tdiv (w32 b1) 10))]) ml_Mod_214 rfl rfl (Nat.le_of_ble_eq_true rfl) (dc := d - 1) (by omega) (by decide +kernel) (CI.z (CI.mono (fun x6 τ6 k => ?_) k))
          refine z_if_eq (pc := 80) (off := 13) 93 (by decide +kernel) (by decide) ⟨fun hc => ?_, fun hc => ?_⟩
          · have k := k.1 hc
            refine z_iconst (pc := 93) (n := 2) (by decide +kernel) ⟨by decide, by decide⟩ ?_
            exact z_iret (pc := 94) (by decide +kernel) rfl k
          · have k := k.2 hc
            refine z_aload_n (pc := 83) (q := 0) (by decide +kernel) rfl ?_
            refine z_iload (pc := 84) (i := 4) (by decide +kernel) rfl ?_
            refine z_iload_n (pc := 86) (q := 3) (by decide +kernel) rfl ?_
            refine z_callv (pc := 87) (as := [vi (w32 (Int.tdiv (w32 b1) 10)), vi (Int.tmod (w32 b1) 10)]) ml_Mod_218 rfl ⟨rfl, by decide⟩ rfl rfl (Nat.le_of_ble_eq_true rfl) (dc := d - 1) (by omega) (by decide +kernel) (CI.z (CI.mono (fun x7 τ7 k => ?_) k))
            refine z_if_ne (pc := 90) (off := 5) 95 (by decide +kernel) (by decide) ⟨fun hc => ?_, fun hc => ?_⟩
            · have k := k.1 hc
              refine z_aload_n (pc := 95) (q := 0) (by decide +kernel) rfl ?_
              refine z_iload_n (pc := 96) (q := 3) (by decide +kernel) rfl ?_
              refine z_iload (pc := 97) (i := 4) (by decide +kernel) rfl ?_
              refine z_callv (pc := 99) (as := [vi (Int.tmod (w32 b1) 10), vi (w32 (Int.tdiv (w32 b1) 10))]) ml_Mod_264 rfl ⟨rfl, by decide⟩ rfl rfl (Nat.le_of_ble_eq_true rfl) (dc := d - 1) (by omega) (by decide +kernel) (CV.z (CV.mono (fun τ8 k => ?_) k))
              refine z_aload_n (pc := 102) (q := 0) (by decide +kernel) rfl ?_
              refine z_callv (pc := 103) (as := []) ml_Mod_268 rfl ⟨rfl, by decide⟩ rfl rfl (Nat.le_of_ble_eq_true rfl) (dc := d - 1) (by omega) (by decide +kernel) (CI.z (CI.mono (fun x9 τ9 k => ?_) k))
              refine z_aload_n (pc := 106) (q := 0) (by decide +kernel) rfl ?_
              refine z_getR (pc := 107) 116 fl_Mod_13 rfl rfl rfl (by decide +kernel) ?_
              refine z_iconst (pc := 110) (n := 1) (by decide +kernel) ⟨by decide, by decide⟩ ?_
              refine z_iald (pc := 111) rfl ⟨by decide, by decide⟩ (by decide +kernel) ?_
              refine z_icmp_gt (pc := 112) (off := 5) 117 (by decide +kernel) (by decide) ⟨fun hc => ?_, fun hc => ?_⟩
              · have k := k.1 hc
                refine z_aload_n (pc := 117) (q := 0) (by decide +kernel) rfl ?_
                refine z_callv (pc := 118) (as := []) ml_Mod_271 rfl ⟨rfl, by decide⟩ rfl rfl (Nat.le_of_ble_eq_true rfl) (dc := d - 1) (by omega) (by decide +kernel) (CV.z (CV.mono (fun τ10 k => ?_) k))
                refine z_iconst (pc := 121) (n := 3) (by decide +kernel) ⟨by decide, by decide⟩ ?_
                exact z_iret (pc := 122) (by decide +kernel) rfl k
              · have k := k.2 hc
                refine z_iconst (pc := 115) (n := 0) (by decide +kernel) ⟨by decide, by decide⟩ ?_
                exact z_iret (pc := 116) (by decide +kernel) rfl k
            · have k := k.2 hc
              refine z_iconst (pc := 93) (n := 2) (by decide +kernel) ⟨by decide, by decide⟩ ?_
              exact z_iret (pc := 94) (by decide +kernel) rfl k
      · have k := k.2 hc
        refine z_iconst (pc := 35) (n := 1) (by decide +kernel) ⟨by decide, by decide⟩ ?_
        exact z_iret (pc := 36) (by decide +kernel) rfl k
theorem b_Mod_laysRule_0 {E : EN} {d : Nat} {a1 : Int} {a2 : Int} {σ : Mem} {K : Mem → Prop}  (hd : 1 ≤ d) (k : CV E y_Mod_isNone (d - 1) [vr 115] σ (fun τ1 => Z E y_Mod_laysRule d 6 [some (vr 115), some (vi a1), some (vi a2), some (vi 0), none, none] [] τ1 (qv K))) :
    Z E y_Mod_laysRule d 0 [some (vr 115), some (vi a1), some (vi a2), none, none, none] [] σ (qv K) := by
  refine z_aload_n (pc := 0) (q := 0) (by decide +kernel) rfl ?_
  refine z_callv (pc := 1) (as := []) ml_Mod_274 rfl ⟨rfl, by decide⟩ rfl rfl (Nat.le_of_ble_eq_true rfl) (dc := d - 1) (by omega) (by decide +kernel) (CV.z (CV.mono (fun τ1 k => ?_) k))
  refine z_iconst (pc := 4) (n := 0) (by decide +kernel) ⟨by decide, by decide⟩ ?_
  refine z_istore_n (pc := 5) (q := 3) [some (vr 115), some (vi a1), some (vi a2), some (vi 0), none, none] (by decide +kernel) (Nat.le_of_ble_eq_true rfl) rfl ?_
  exact k
theorem b_Mod_laysRule_6 {E : EN} {d : Nat} {a1 : Int} {a2 : Int} {a3 : Int} {o4 : Option AV} {o5 : Option AV} {σ : Mem} {K : Mem → Prop}  (hd : 1 ≤ d) (k : (σ 116 4 ≤ a3 → K σ) ∧ (a3 < σ 116 4 → CI E y_Mod_isIn (d - 1) [vl a1, vi a3] σ (fun x1 τ1 => (x1 = 0 → Z E y_Mod_laysRule d 34 [some (vr 115), some (vi a1), some (vi a2), some (vi a3), some (vi (-1)), some (vi 0)] [] τ1 (qv K)) ∧ (x1 ≠ 0 → Z E y_Mod_laysRule d 6 [some (vr 115), some (vi a1), some (vi a2), some (vi (w32 (a3 + 1))), o4, o5] [] τ1 (qv K))))) :
    Z E y_Mod_laysRule d 6 [some (vr 115), some (vi a1), some (vi a2), some (vi a3), o4, o5] [] σ (qv K) := by
  refine z_iload_n (pc := 6) (q := 3) (by decide +kernel) rfl ?_
  refine z_aload_n (pc := 7) (q := 0) (by decide +kernel) rfl ?_
  refine z_getR (pc := 8) 116 fl_Mod_13 rfl rfl rfl (by decide +kernel) ?_
  refine z_iconst (pc := 11) (n := 4) (by decide +kernel) ⟨by decide, by decide⟩ ?_
  refine z_iald (pc := 12) rfl ⟨by decide, by decide⟩ (by decide +kernel) ?_
  refine z_icmp_ge (pc := 13) (off := 124) 137 (by decide +kernel) (by decide) ⟨fun hc => ?_, fun hc => ?_⟩
  · have k := k.1 hc
    exact z_vret (pc := 137) (by decide +kernel) rfl k
  · have k := k.2 hc
    refine z_iload_n (pc := 16) (q := 1) (by decide +kernel) rfl ?_
    refine z_i2l (pc := 17) (by decide +kernel) ?_
    refine z_iload_n (pc := 18) (q := 3) (by decide +kernel) rfl ?_
    refine z_calls (pc := 19) (as := [vl a1, vi a3]) ml_Mod_214 rfl rfl (Nat.le_of_ble_eq_true rfl) (dc := d - 1) (by omega) (by decide +kernel) (CI.z (CI.mono (fun x1 τ1 k => ?_) k))
    refine z_if_eq (pc := 22) (off := 6) 28 (by decide +kernel) (by decide) ⟨fun hc => ?_, fun hc => ?_⟩
    · have k := k.1 hc
      refine z_iconst (pc := 28) (n := -1) (by decide +kernel) ⟨by decide, by decide⟩ ?_
      refine z_istore (pc := 29) (i := 4) [some (vr 115), some (vi a1), some (vi a2), some (vi a3), some (vi (-1)), o5] (by decide +kernel) (Nat.le_of_ble_eq_true rfl) rfl ?_
      refine z_iconst (pc := 31) (n := 0) (by decide +kernel) ⟨by decide, by decide⟩ ?_
      refine z_istore (pc := 32) (i := 5) [some (vr 115), some (vi a1), some (vi a2), some (vi a3), some (vi (-1)), some (vi 0)] (by decide +kernel) (Nat.le_of_ble_eq_true rfl) rfl ?_
      exact k
    · have k := k.2 hc
      refine z_goto (pc := 25) (off := 106) 131 (by decide +kernel) (by decide) ?_
      refine z_iinc (pc := 131) (i := 3) (n := 1) [some (vr 115), some (vi a1), some (vi a2), some (vi (w32 (a3 + 1))), o4, o5] (by decide +kernel) rfl rfl ?_
      refine z_goto (pc := 134) (off := -128) 6 (by decide +kernel) (by decide) ?_
      exact k
theorem b_Mod_laysRule_34 {E : EN} {d : Nat} {a1 : Int} {a2 : Int} {a3 : Int} {a4 : Int} {a5 : Int} {σ : Mem} {K : Mem → Prop}  (hd : 1 ≤ d) (k : (σ 116 2 ≤ a5 → (a4 ≠ (-1) → CV E y_Mod_comesLast (d - 1) [vr 115, vi a3, vi a4] σ (fun τ1 => CI E y_Mod_mendedBy (d - 1) [vr 115] τ1 (fun x2 τ2 => (x2 ≤ τ2 116 1 → Z E y_Mod_laysRule d 6 [some (vr 115), some (vi a1), some (vi a2), some (vi (w32 (a3 + 1))), some (vi a4), some (vi a5)] [] τ2 (qv K)) ∧ (τ2 116 1 < x2 → CV E y_Mod_goesLast (d - 1) [vr 115] τ2 (fun τ3 => Z E y_Mod_laysRule d 6 [some (vr 115), some (vi a1), some (vi a2), some (vi (w32 (a3 + 1))), some (vi a4), some (vi a5)] [] τ3 (qv K)))))) ∧ (a4 = (-1) → Z E y_Mod_laysRule d 6 [some (vr 115), some (vi a1), some (vi a2), some (vi (w32 (a3 + 1))), some (vi a4), some (vi a5)] [] σ (qv K))) ∧ (a5 < σ 116 2 → CI E y_Mod_isIn (d - 1) [vl a2, vi a5] σ (fun x4 τ4 => (x4 = 0 → Z E y_Mod_laysRule d 34 [some (vr 115), some (vi a1), some (vi a2), some (vi a3), some (vi a4), some (vi (w32 (a5 + 1)))] [] τ4 (qv K)) ∧ (x4 ≠ 0 → CI E y_Mod_reads1 (d - 1) [vr 115, vi a5, vi a3] τ4 (fun x5 τ5 => (x5 = 0 → Z E y_Mod_laysRule d 34 [some (vr 115), some (vi a1), some (vi a2), some (vi a3), some (vi a4), some (vi (w32 (a5 + 1)))] [] τ5 (qv K)) ∧ (x5 ≠ 0 → (a4 = (-1) → Z E y_Mod_laysRule d 34 [some (vr 115), some (vi a1), some (vi a2), some (vi a3), some (vi a5), some (vi (w32 (a5 + 1)))] [] τ5 (qv K)) ∧ (a4 ≠ (-1) → CI E y_Mod_copiedBy (d - 1) [vr 115, vi a3, vi a5] τ5 (fun x6 τ6 => CI E y_Mod_copiedBy (d - 1) [vr 115, vi a3, vi a4] τ6 (fun x7 τ7 => (x7 ≤ x6 → Z E y_Mod_laysRule d 34 [some (vr 115), some (vi a1), some (vi a2), some (vi a3), some (vi a4), some (vi (w32 (a5 + 1)))] [] τ7 (qv K)) ∧ (x6 < x7 → Z E y_Mod_laysRule d 34 [some (vr 115), some (vi a1), some (vi a2), some (vi a3), some (vi a5), some (vi (w32 (a5 + 1)))] [] τ7 (qv K))))))))))) :
    Z E y_Mod_laysRule d 34 [some (vr 115), some (vi a1), some (vi a2), some (vi a3), some (vi a4), some (vi a5)] [] σ (qv K) := by
  refine z_iload (pc := 34) (i := 5) (by decide +kernel) rfl ?_
  refine z_aload_n (pc := 36) (q := 0) (by decide +kernel) rfl ?_
  refine z_getR (pc := 37) 116 fl_Mod_13 rfl rfl rfl (by decide +kernel) ?_
  refine z_iconst (pc := 40) (n := 2) (by decide +kernel) ⟨by decide, by decide⟩ ?_
  refine z_iald (pc := 41) rfl ⟨by decide, by decide⟩ (by decide +kernel) ?_
  refine z_icmp_ge (pc := 42) (off := 56) 98 (by decide +kernel) (by decide) ⟨fun hc => ?_, fun hc => ?_⟩
  · have k := k.1 hc
    refine z_iload (pc := 98) (i := 4) (by decide +kernel) rfl ?_
    refine z_iconst (pc := 100) (n := -1) (by decide +kernel) ⟨by decide, by decide⟩ ?_
    refine z_icmp_ne (pc := 101) (off := 6) 107 (by decide +kernel) (by decide) ⟨fun hc => ?_, fun hc => ?_⟩
    · have k := k.1 hc
      refine z_aload_n (pc := 107) (q := 0) (by decide +kernel) rfl ?_
      refine z_iload_n (pc := 108) (q := 3) (by decide +kernel) rfl ?_
      refine z_iload (pc := 109) (i := 4) (by decide +kernel) rfl ?_
      refine z_callv (pc := 111) (as := [vi a3, vi a4]) ml_Mod_264 rfl ⟨rfl, by decide⟩ rfl rfl (Nat.le_of_ble_eq_true rfl) (dc := d - 1) (by omega) (by decide +kernel) (CV.z (CV.mono (fun τ1 k => ?_) k))
      refine z_aload_n (pc := 114) (q := 0) (by decide +kernel) rfl ?_
      refine z_callv (pc := 115) (as := []) ml_Mod_268 rfl ⟨rfl, by decide⟩ rfl rfl (Nat.le_of_ble_eq_true rfl) (dc := d - 1) (by omega) (by decide +kernel) (CI.z (CI.mono (fun x2 τ2 k => ?_) k))
      refine z_aload_n (pc := 118) (q := 0) (by decide +kernel) rfl ?_
      refine z_getR (pc := 119) 116 fl_Mod_13 rfl rfl rfl (by decide +kernel) ?_
      refine z_iconst (pc := 122) (n := 1) (by decide +kernel) ⟨by decide, by decide⟩ ?_
      refine z_iald (pc := 123) rfl ⟨by decide, by decide⟩ (by decide +kernel) ?_
      refine z_icmp_le (pc := 124) (off := 7) 131 (by decide +kernel) (by decide) ⟨fun hc => ?_, fun hc => ?_⟩
      · have k := k.1 hc
        refine z_iinc (pc := 131) (i := 3) (n := 1) [some (vr 115), some (vi a1), some (vi a2), some (vi (w32 (a3 + 1))), some (vi a4), some (vi a5)] (by decide +kernel) rfl rfl ?_
        refine z_goto (pc := 134) (off := -128) 6 (by decide +kernel) (by decide) ?_
        exact k
      · have k := k.2 hc
        refine z_aload_n (pc := 127) (q := 0) (by decide +kernel) rfl ?_
        refine z_callv (pc := 128) (as := []) ml_Mod_271 rfl ⟨rfl, by decide⟩ rfl rfl (Nat.le_of_ble_eq_true rfl) (dc := d - 1) (by omega) (by decide +kernel) (CV.z (CV.mono (fun τ3 k => ?_) k))
        refine z_iinc (pc := 131) (i := 3) (n := 1) [some (vr 115), some (vi a1), some (vi a2), some (vi (w32 (a3 + 1))), some (vi a4), some (vi a5)] (by decide +kernel) rfl rfl ?_
        refine z_goto (pc := 134) (off := -128) 6 (by decide +kernel) (by decide) ?_
        exact k
    · have k := k.2 hc
      refine z_goto (pc := 104) (off := 27) 131 (by decide +kernel) (by decide) ?_
      refine z_iinc (pc := 131) (i := 3) (n := 1) [some (vr 115), some (vi a1), some (vi a2), some (vi (w32 (a3 + 1))), some (vi a4), some (vi a5)] (by decide +kernel) rfl rfl ?_
      refine z_goto (pc := 134) (off := -128) 6 (by decide +kernel) (by decide) ?_
      exact k
  · have k := k.2 hc
    refine z_iload_n (pc := 45) (q := 2) (by decide +kernel) rfl ?_
    refine z_i2l (pc := 46) (by decide +kernel) ?_
    refine z_iload (pc := 47) (i := 5) (by decide +kernel) rfl ?_
    refine z_calls (pc := 49) (as := [vl a2, vi a5]) ml_Mod_214 rfl rfl (Nat.le_of_ble_eq_true rfl) (dc := d - 1) (by omega) (by decide +kernel) (CI.z (CI.mono (fun x4 τ4 k => ?_) k))
    refine z_if_eq (pc := 52) (off := 40) 92 (by decide +kernel) (by decide) ⟨fun hc => ?_, fun hc => ?_⟩
    · have k := k.1 hc
      refine z_iinc (pc := 92) (i := 5) (n := 1) [some (vr 115), some (vi a1), some (vi a2), some (vi a3), some (vi a4), some (vi (w32 (a5 + 1)))] (by decide +kernel) rfl rfl ?_
      refine z_goto (pc := 95) (off := -61) 34 (by decide +kernel) (by decide) ?_
      exact k
    · have k := k.2 hc
      refine z_aload_n (pc := 55) (q := 0) (by decide +kernel) rfl ?_
      refine z_iload (pc := 56) (i := 5) (by decide +kernel) rfl ?_
      refine z_iload_n (pc := 58) (q := 3) (by decide +kernel) rfl ?_
      refine z_callv (pc := 59) (as := [vi a5, vi a3]) ml_Mod_218 rfl ⟨rfl, by decide⟩ rfl rfl (Nat.le_of_ble_eq_true rfl) (dc := d - 1) (by omega) (by decide +kernel) (CI.z (CI.mono (fun x5 τ5 k => ?_) k))
      refine z_if_eq (pc := 62) (off := 30) 92 (by decide +kernel) (by decide) ⟨fun hc => ?_, fun hc => ?_⟩
      · have k := k.1 hc
        refine z_iinc (pc := 92) (i := 5) (n := 1) [some (vr 115), some (vi a1), some (vi a2), some (vi a3), some (vi a4), some (vi (w32 (a5 + 1)))] (by decide +kernel) rfl rfl ?_
        refine z_goto (pc := 95) (off := -61) 34 (by decide +kernel) (by decide) ?_
        exact k
      · have k := k.2 hc
        refine z_iload (pc := 65) (i := 4) (by decide +kernel) rfl ?_
        refine z_iconst (pc := 67) (n := -1) (by decide +kernel) ⟨by decide, by decide⟩ ?_
        refine z_icmp_eq (pc := 68) (off := 20) 88 (by decide +kernel) (by decide) ⟨fun hc => ?_, fun hc => ?_⟩
        · have k := k.1 hc
          refine z_iload (pc := 88) (i := 5) (by decide +kernel) rfl ?_
          refine z_istore (pc := 90) (i := 4) [some (vr 115), some (vi a1), some (vi a2), some (vi a3), some (vi a5), some (vi a5)] (by decide +kernel) (Nat.le_of_ble_eq_true rfl) rfl ?_
          refine z_iinc (pc := 92) (i := 5) (n := 1) [some (vr 115), some (vi a1), some (vi a2), some (vi a3), some (vi a5), some (vi (w32 (a5 + 1)))] (by decide +kernel) rfl rfl ?_
          refine z_goto (pc := 95) (off := -61) 34 (by decide +kernel) (by decide) ?_
          exact k
        · have k := k.2 hc
          refine z_aload_n (pc := 71) (q := 0) (by decide +kernel) rfl ?_
          refine z_iload_n (pc := 72) (q := 3) (by decide +kernel) rfl ?_
          refine z_iload (pc := 73) (i := 5) (by decide +kernel) rfl ?_
          refine z_callv (pc := 75) (as := [vi a3, vi a5]) ml_Mod_254 rfl ⟨rfl, by decide⟩ rfl rfl (Nat.le_of_ble_eq_true rfl) (dc := d - 1) (by omega) (by decide +kernel) (CI.z (CI.mono (fun x6 τ6 k => ?_) k))
          refine z_aload_n (pc := 78) (q := 0) (by decide +kernel) rfl ?_
          refine z_iload_n (pc := 79) (q := 3) (by decide +kernel) rfl ?_
          refine z_iload (pc := 80) (i := 4) (by decide +kernel) rfl ?_
          refine z_callv (pc := 82) (as := [vi a3, vi a4]) ml_Mod_254 rfl ⟨rfl, by decide⟩ rfl rfl (Nat.le_of_ble_eq_true rfl) (dc := d - 1) (by omega) (by decide +kernel) (CI.z (CI.mono (fun x7 τ7 k => ?_) k))
          refine z_icmp_ge (pc := 85) (off := 7) 92 (by decide +kernel) (by decide) ⟨fun hc => ?_, fun hc => ?_⟩
          · have k := k.1 hc
            refine z_iinc (pc := 92) (i := 5) (n := 1) [some (vr 115), some (vi a1), some (vi a2), some (vi a3), some (vi a4), some (vi (w32 (a5 + 1)))] (by decide +kernel) rfl rfl ?_
            refine z_goto (pc := 95) (off := -61) 34 (by decide +kernel) (by decide) ?_
            exact k
          · have k := k.2 hc
            refine z_iload (pc := 88) (i := 5) (by decide +kernel) rfl ?_
            refine z_istore (pc := 90) (i := 4) [some (vr 115), some (vi a1), some (vi a2), some (vi a3), some (vi a5), some (vi a5)] (by decide +kernel) (Nat.le_of_ble_eq_true rfl) rfl ?_
            refine z_iinc (pc := 92) (i := 5) (n := 1) [some (vr 115), some (vi a1), some (vi a2), some (vi a3), some (vi a5), some (vi (w32 (a5 + 1)))] (by decide +kernel) rfl rfl ?_
            refine z_goto (pc := 95) (off := -61) 34 (by decide +kernel) (by decide) ?_
            exact k
theorem b_Mod_keeps_0 {E : EN} {d : Nat}  {σ : Mem} {K : Mem → Prop}  (k : Z E y_Mod_keeps d 2 [some (vr 115), some (vi 0)] [] σ (qv K)) :
    Z E y_Mod_keeps d 0 [some (vr 115), none] [] σ (qv K) := by
  refine z_iconst (pc := 0) (n := 0) (by decide +kernel) ⟨by decide, by decide⟩ ?_
  refine z_istore_n (pc := 1) (q := 1) [some (vr 115), some (vi 0)] (by decide +kernel) (Nat.le_of_ble_eq_true rfl) rfl ?_
  exact k
theorem b_Mod_keeps_2 {E : EN} {d : Nat} {a1 : Int} {σ : Mem} {K : Mem → Prop}  (k : (5 ≤ a1 → K σ) ∧ (a1 < 5 → (0 ≤ w32 (79 + a1) ∧ w32 (79 + a1) < 3108) ∧ (0 ≤ a1 ∧ a1 < 5) ∧ Z E y_Mod_keeps d 2 [some (vr 115), some (vi (w32 (a1 + 1)))] [] (up σ 126 a1 (σ 116 (w32 (79 + a1)))) (qv K))) :
    Z E y_Mod_keeps d 2 [some (vr 115), some (vi a1)] [] σ (qv K) := by
  refine z_iload_n (pc := 2) (q := 1) (by decide +kernel) rfl ?_
  refine z_iconst (pc := 3) (n := 5) (by decide +kernel) ⟨by decide, by decide⟩ ?_
  refine z_icmp_ge (pc := 4) (off := 24) 28 (by decide +kernel) (by decide) ⟨fun hc => ?_, fun hc => ?_⟩
  · have k := k.1 hc
    exact z_vret (pc := 28) (by decide +kernel) rfl k
  · have k := k.2 hc
    refine z_aload_n (pc := 7) (q := 0) (by decide +kernel) rfl ?_
    refine z_getR (pc := 8) 126 fl_Mod_48 rfl rfl rfl (by decide +kernel) ?_
    refine z_iload_n (pc := 11) (q := 1) (by decide +kernel) rfl ?_
    refine z_aload_n (pc := 12) (q := 0) (by decide +kernel) rfl ?_
    refine z_getR (pc := 13) 116 fl_Mod_13 rfl rfl rfl (by decide +kernel) ?_
    refine z_bipush (pc := 16) (n := 79) (by decide +kernel) (by decide) ⟨by decide, by decide⟩ ?_
    refine z_iload_n (pc := 18) (q := 1) (by decide +kernel) rfl ?_
    refine z_iadd (pc := 19) (by decide +kernel) ?_
    have hb1 := k.1
    have k := k.2
    refine z_iald (pc := 20) rfl hb1 (by decide +kernel) ?_
    have hb2 := k.1
    have k := k.2
    refine z_iast (pc := 21) rfl hb2 (by decide +kernel) ?_
    refine z_iinc (pc := 22) (i := 1) (n := 1) [some (vr 115), some (vi (w32 (a1 + 1)))] (by decide +kernel) rfl rfl ?_
    refine z_goto (pc := 25) (off := -23) 2 (by decide +kernel) (by decide) ?_
    exact k
theorem b_Mod_isAgain_0 {E : EN} {d : Nat}  {σ : Mem} {K : Mem → Prop}  (k : Z E y_Mod_isAgain d 2 [some (vr 115), some (vi 0)] [] σ (qv K)) :
    Z E y_Mod_isAgain d 0 [some (vr 115), none] [] σ (qv K) := by
  refine z_iconst (pc := 0) (n := 0) (by decide +kernel) ⟨by decide, by decide⟩ ?_
  refine z_istore_n (pc := 1) (q := 1) [some (vr 115), some (vi 0)] (by decide +kernel) (Nat.le_of_ble_eq_true rfl) rfl ?_
  exact k
theorem b_Mod_isAgain_2 {E : EN} {d : Nat} {a1 : Int} {σ : Mem} {K : Mem → Prop}  (k : (5 ≤ a1 → K σ) ∧ (a1 < 5 → (0 ≤ a1 ∧ a1 < 5) ∧ (0 ≤ w32 (79 + a1) ∧ w32 (79 + a1) < 3108) ∧ Z E y_Mod_isAgain d 2 [some (vr 115), some (vi (w32 (a1 + 1)))] [] (up σ 116 (w32 (79 + a1)) (σ 126 a1)) (qv K))) :
    Z E y_Mod_isAgain d 2 [some (vr 115), some (vi a1)] [] σ (qv K) := by
  refine z_iload_n (pc := 2) (q := 1) (by decide +kernel) rfl ?_
  refine z_iconst (pc := 3) (n := 5) (by decide +kernel) ⟨by decide, by decide⟩ ?_
  refine z_icmp_ge (pc := 4) (off := 24) 28 (by decide +kernel) (by decide) ⟨fun hc => ?_, fun hc => ?_⟩
  · have k := k.1 hc
    exact z_vret (pc := 28) (by decide +kernel) rfl k
  · have k := k.2 hc
    refine z_aload_n (pc := 7) (q := 0) (by decide +kernel) rfl ?_
    refine z_getR (pc := 8) 116 fl_Mod_13 rfl rfl rfl (by decide +kernel) ?_
    refine z_bipush (pc := 11) (n := 79) (by decide +kernel) (by decide) ⟨by decide, by decide⟩ ?_
    refine z_iload_n (pc := 13) (q := 1) (by decide +kernel) rfl ?_
    refine z_iadd (pc := 14) (by decide +kernel) ?_
    refine z_aload_n (pc := 15) (q := 0) (by decide +kernel) rfl ?_
    refine z_getR (pc := 16) 126 fl_Mod_48 rfl rfl rfl (by decide +kernel) ?_
    refine z_iload_n (pc := 19) (q := 1) (by decide +kernel) rfl ?_
    have hb1 := k.1
    have k := k.2
    refine z_iald (pc := 20) rfl hb1 (by decide +kernel) ?_
    have hb2 := k.1
    have k := k.2
    refine z_iast (pc := 21) rfl hb2 (by decide +kernel) ?_
    refine z_iinc (pc := 22) (i := 1) (n := 1) [some (vr 115), some (vi (w32 (a1 + 1)))] (by decide +kernel) rfl rfl ?_
    refine z_goto (pc := 25) (off := -23) 2 (by decide +kernel) (by decide) ?_
    exact k
theorem b_Mod_notes_0 {E : EN} {d : Nat}  {σ : Mem} {K : Mem → Prop}  (k : (σ 116 84 ≠ 10 → Z E y_Mod_notes d 57 [some (vr 115), some (vi 0)] [] σ (qv K)) ∧ (σ 116 84 = 10 → Z E y_Mod_notes d 14 [some (vr 115), some (vi 0)] [] σ (qv K))) :
    Z E y_Mod_notes d 0 [some (vr 115), none] [] σ (qv K) := by
  refine z_aload_n (pc := 0) (q := 0) (by decide +kernel) rfl ?_
  refine z_getR (pc := 1) 116 fl_Mod_13 rfl rfl rfl (by decide +kernel) ?_
  refine z_bipush (pc := 4) (n := 84) (by decide +kernel) (by decide) ⟨by decide, by decide⟩ ?_
  refine z_iald (pc := 6) rfl ⟨by decide, by decide⟩ (by decide +kernel) ?_
  refine z_bipush (pc := 7) (n := 10) (by decide +kernel) (by decide) ⟨by decide, by decide⟩ ?_
  refine z_icmp_ne (pc := 9) (off := 46) 55 (by decide +kernel) (by decide) ⟨fun hc => ?_, fun hc => ?_⟩
  · have k := k.1 hc
    refine z_iconst (pc := 55) (n := 0) (by decide +kernel) ⟨by decide, by decide⟩ ?_
    refine z_istore_n (pc := 56) (q := 1) [some (vr 115), some (vi 0)] (by decide +kernel) (Nat.le_of_ble_eq_true rfl) rfl ?_
    exact k
  · have k := k.2 hc
    refine z_iconst (pc := 12) (n := 0) (by decide +kernel) ⟨by decide, by decide⟩ ?_
    refine z_istore_n (pc := 13) (q := 1) [some (vr 115), some (vi 0)] (by decide +kernel) (Nat.le_of_ble_eq_true rfl) rfl ?_
    exact k
theorem b_Mod_notes_57 {E : EN} {d : Nat} {a1 : Int} {σ : Mem} {K : Mem → Prop}  (k : (5 ≤ a1 → K (up σ 116 84 (w32 ((σ 116 84) + 1)))) ∧ (a1 < 5 → (0 ≤ a1 ∧ a1 < 5) ∧ (0 ≤ w32 ((w32 (85 + (w32 (5 * (σ 116 84))))) + a1) ∧ w32 ((w32 (85 + (w32 (5 * (σ 116 84))))) + a1) < 3108) ∧ Z E y_Mod_notes d 57 [some (vr 115), some (vi (w32 (a1 + 1)))] [] (up σ 116 (w32 ((w32 (85 + (w32 (5 * (σ 116 84))))) + a1)) (σ 126 a1)) (qv K))) :
    Z E y_Mod_notes d 57 [some (vr 115), some (vi a1)] [] σ (qv K) := by
  refine z_iload_n (pc := 57) (q := 1) (by decide +kernel) rfl ?_
  refine z_iconst (pc := 58) (n := 5) (by decide +kernel) ⟨by decide, by decide⟩ ?_
  refine z_icmp_ge (pc := 59) (off := 34) 93 (by decide +kernel) (by decide) ⟨fun hc => ?_, fun hc => ?_⟩
  · have k := k.1 hc
    refine z_aload_n (pc := 93) (q := 0) (by decide +kernel) rfl ?_
    refine z_getR (pc := 94) 116 fl_Mod_13 rfl rfl rfl (by decide +kernel) ?_
    refine z_bipush (pc := 97) (n := 84) (by decide +kernel) (by decide) ⟨by decide, by decide⟩ ?_
    refine z_dup2 (pc := 99) (by decide +kernel) rfl rfl ?_
    refine z_iald (pc := 100) rfl ⟨by decide, by decide⟩ (by decide +kernel) ?_
    refine z_iconst (pc := 101) (n := 1) (by decide +kernel) ⟨by decide, by decide⟩ ?_
    refine z_iadd (pc := 102) (by decide +kernel) ?_
    refine z_iast (pc := 103) rfl ⟨by decide, by decide⟩ (by decide +kernel) ?_
    exact z_vret (pc := 104) (by decide +kernel) rfl k
  · have k := k.2 hc
    refine z_aload_n (pc := 62) (q := 0) (by decide +kernel) rfl ?_
    refine z_getR (pc := 63) 116 fl_Mod_13 rfl rfl rfl (by decide +kernel) ?_
    refine z_bipush (pc := 66) (n := 85) (by decide +kernel) (by decide) ⟨by decide, by decide⟩ ?_
    refine z_iconst (pc := 68) (n := 5) (by decide +kernel) ⟨by decide, by decide⟩ ?_
    refine z_aload_n (pc := 69) (q := 0) (by decide +kernel) rfl ?_
    refine z_getR (pc := 70) 116 fl_Mod_13 rfl rfl rfl (by decide +kernel) ?_
    refine z_bipush (pc := 73) (n := 84) (by decide +kernel) (by decide) ⟨by decide, by decide⟩ ?_
    refine z_iald (pc := 75) rfl ⟨by decide, by decide⟩ (by decide +kernel) ?_
    refine z_imul (pc := 76) (by decide +kernel) ?_
    refine z_iadd (pc := 77) (by decide +kernel) ?_
    refine z_iload_n (pc := 78) (q := 1) (by decide +kernel) rfl ?_
    refine z_iadd (pc := 79) (by decide +kernel) ?_
    refine z_aload_n (pc := 80) (q := 0) (by decide +kernel) rfl ?_
    refine z_getR (pc := 81) 126 fl_Mod_48 rfl rfl rfl (by decide +kernel) ?_
    refine z_iload_n (pc := 84) (q := 1) (by decide +kernel) rfl ?_
    have hb1 := k.1
    have k := k.2
    refine z_iald (pc := 85) rfl hb1 (by decide +kernel) ?_
    have hb2 := k.1
    have k := k.2
    refine z_iast (pc := 86) rfl hb2 (by decide +kernel) ?_
    refine z_iinc (pc := 87) (i := 1) (n := 1) [some (vr 115), some (vi (w32 (a1 + 1)))] (by decide +kernel) rfl rfl ?_
    refine z_goto (pc := 90) (off := -33) 57 (by decide +kernel) (by decide) ?_
    exact k
theorem b_Mod_notes_14 {E : EN} {d : Nat} {a1 : Int} {σ : Mem} {K : Mem → Prop}  (k : (45 ≤ a1 → Z E y_Mod_notes d 57 [some (vr 115), some (vi 0)] [] (up σ 116 84 (w32 ((σ 116 84) - 1))) (qv K)) ∧ (a1 < 45 → (0 ≤ w32 (90 + a1) ∧ w32 (90 + a1) < 3108) ∧ (0 ≤ w32 (85 + a1) ∧ w32 (85 + a1) < 3108) ∧ Z E y_Mod_notes d 14 [some (vr 115), some (vi (w32 (a1 + 1)))] [] (up σ 116 (w32 (85 + a1)) (σ 116 (w32 (90 + a1)))) (qv K))) :
    Z E y_Mod_notes d 14 [some (vr 115), some (vi a1)] [] σ (qv K) := by
  refine z_iload_n (pc := 14) (q := 1) (by decide +kernel) rfl ?_
  refine z_bipush (pc := 15) (n := 45) (by decide +kernel) (by decide) ⟨by decide, by decide⟩ ?_
  refine z_icmp_ge (pc := 17) (off := 27) 44 (by decide +kernel) (by decide) ⟨fun hc => ?_, fun hc => ?_⟩
  · have k := k.1 hc
    refine z_aload_n (pc := 44) (q := 0) (by decide +kernel) rfl ?_
    refine z_getR (pc := 45) 116 fl_Mod_13 rfl rfl rfl (by decide +kernel) ?_
    refine z_bipush (pc := 48) (n := 84) (by decide +kernel) (by decide) ⟨by decide, by decide⟩ ?_
    refine z_dup2 (pc := 50) (by decide +kernel) rfl rfl ?_
    refine z_iald (pc := 51) rfl ⟨by decide, by decide⟩ (by decide +kernel) ?_
    refine z_iconst (pc := 52) (n := 1) (by decide +kernel) ⟨by decide, by decide⟩ ?_
    refine z_isub (pc := 53) (by decide +kernel) ?_
    refine z_iast (pc := 54) rfl ⟨by decide, by decide⟩ (by decide +kernel) ?_
    refine z_iconst (pc := 55) (n := 0) (by decide +kernel) ⟨by decide, by decide⟩ ?_
    refine z_istore_n (pc := 56) (q := 1) [some (vr 115), some (vi 0)] (by decide +kernel) (Nat.le_of_ble_eq_true rfl) rfl ?_
    exact k
  · have k := k.2 hc
    refine z_aload_n (pc := 20) (q := 0) (by decide +kernel) rfl ?_
    refine z_getR (pc := 21) 116 fl_Mod_13 rfl rfl rfl (by decide +kernel) ?_
    refine z_bipush (pc := 24) (n := 85) (by decide +kernel) (by decide) ⟨by decide, by decide⟩ ?_
    refine z_iload_n (pc := 26) (q := 1) (by decide +kernel) rfl ?_
    refine z_iadd (pc := 27) (by decide +kernel) ?_
    refine z_aload_n (pc := 28) (q := 0) (by decide +kernel) rfl ?_
    refine z_getR (pc := 29) 116 fl_Mod_13 rfl rfl rfl (by decide +kernel) ?_
    refine z_bipush (pc := 32) (n := 90) (by decide +kernel) (by decide) ⟨by decide, by decide⟩ ?_
    refine z_iload_n (pc := 34) (q := 1) (by decide +kernel) rfl ?_
    refine z_iadd (pc := 35) (by decide +kernel) ?_
    have hb1 := k.1
    have k := k.2
    refine z_iald (pc := 36) rfl hb1 (by decide +kernel) ?_
    have hb2 := k.1
    have k := k.2
    refine z_iast (pc := 37) rfl hb2 (by decide +kernel) ?_
    refine z_iinc (pc := 38) (i := 1) (n := 1) [some (vr 115), some (vi (w32 (a1 + 1)))] (by decide +kernel) rfl rfl ?_
    refine z_goto (pc := 41) (off := -27) 14 (by decide +kernel) (by decide) ?_
    exact k
theorem b_Mod_draw_0 {E : EN} {d : Nat}  {σ : Mem} {K : Int → Mem → Prop}  (k : K (ius (w32 ((w32 (1103515245 * (σ 116 83))) + 12345)) 16) (up σ 116 83 (w32 ((w32 (1103515245 * (σ 116 83))) + 12345)))) :
    Z E y_Mod_draw d 0 [some (vr 115)] [] σ (qi K) := by
  refine z_aload_n (pc := 0) (q := 0) (by decide +kernel) rfl ?_
  refine z_getR (pc := 1) 116 fl_Mod_13 rfl rfl rfl (by decide +kernel) ?_
  refine z_bipush (pc := 4) (n := 83) (by decide +kernel) (by decide) ⟨by decide, by decide⟩ ?_
  refine z_ldcw (pc := 6) (index := 277) 1103515245 (mm8 18 rfl) ⟨by decide, by decide⟩ (by decide +kernel) ?_
  refine z_aload_n (pc := 9) (q := 0) (by decide +kernel) rfl ?_
  refine z_getR (pc := 10) 116 fl_Mod_13 rfl rfl rfl (by decide +kernel) ?_
  refine z_bipush (pc := 13) (n := 83) (by decide +kernel) (by decide) ⟨by decide, by decide⟩ ?_
  refine z_iald (pc := 15) rfl ⟨by decide, by decide⟩ (by decide +kernel) ?_
  refine z_imul (pc := 16) (by decide +kernel) ?_
  refine z_sipush (pc := 17) (n := 12345) (by decide +kernel) (by decide) ⟨by decide, by decide⟩ ?_
  refine z_iadd (pc := 20) (by decide +kernel) ?_
  refine z_iast (pc := 21) rfl ⟨by decide, by decide⟩ (by decide +kernel) ?_
  refine z_aload_n (pc := 22) (q := 0) (by decide +kernel) rfl ?_
  refine z_getR (pc := 23) 116 fl_Mod_13 rfl rfl rfl (by decide +kernel) ?_
  refine z_bipush (pc := 26) (n := 83) (by decide +kernel) (by decide) ⟨by decide, by decide⟩ ?_
  refine z_iald (pc := 28) rfl ⟨by decide, by decide⟩ (by decide +kernel) ?_
  refine z_topI (up_same _ _ _ _) ?_
  refine z_bipush (pc := 29) (n := 16) (by decide +kernel) (by decide) ⟨by decide, by decide⟩ ?_
  refine z_iushr (pc := 31) (by decide +kernel) ?_
  exact z_iret (pc := 32) (by decide +kernel) rfl k
theorem b_Mod_goesMorning_0 {E : EN} {d : Nat}  {σ : Mem} {K : Int → Mem → Prop}  (k : Z E y_Mod_goesMorning d 4 [some (vr 115), some (vi 0), some (vi 0)] [] σ (qi K)) :
    Z E y_Mod_goesMorning d 0 [some (vr 115), none, none] [] σ (qi K) := by
  refine z_iconst (pc := 0) (n := 0) (by decide +kernel) ⟨by decide, by decide⟩ ?_
  refine z_istore_n (pc := 1) (q := 1) [some (vr 115), some (vi 0), none] (by decide +kernel) (Nat.le_of_ble_eq_true rfl) rfl ?_
  refine z_iconst (pc := 2) (n := 0) (by decide +kernel) ⟨by decide, by decide⟩ ?_
  refine z_istore_n (pc := 3) (q := 2) [some (vr 115), some (vi 0), some (vi 0)] (by decide +kernel) (Nat.le_of_ble_eq_true rfl) rfl ?_
  exact k
theorem b_Mod_goesMorning_4 {E : EN} {d : Nat} {a1 : Int} {a2 : Int} {σ : Mem} {K : Int → Mem → Prop}  (hd : 1 ≤ d) (k : (σ 115 22 ≤ a2 → CV E y_Mod_isNone (d - 1) [vr 115] (up σ 116 82 (w32 ((σ 116 82) + 1))) (fun τ1 => K a1 τ1)) ∧ (a2 < σ 115 22 → (0 ≤ a2 ∧ a2 < 6) ∧ CI E y_Mod_draw (d - 1) [vr 115] (up σ 116 79 (ior (σ 116 79) (ish 1 (σ 121 a2)))) (fun x2 τ2 => CI E y_Mod_showsOf (d - 1) [vr 115, vi (τ2 121 a2)] τ2 (fun x3 τ3 => (Int.tmod x2 100 < x3 → Z E y_Mod_goesMorning d 4 [some (vr 115), some (vi (w32 (a1 + 1))), some (vi (w32 (a2 + 1)))] [] (up τ3 116 80 (ior (τ3 116 80) (ish 1 (τ3 121 a2)))) (qi K)) ∧ (x3 ≤ Int.tmod x2 100 → Z E y_Mod_goesMorning d 4 [some (vr 115), some (vi a1), some (vi (w32 (a2 + 1)))] [] τ3 (qi K)))))) :
    Z E y_Mod_goesMorning d 4 [some (vr 115), some (vi a1), some (vi a2)] [] σ (qi K) := by
  refine z_iload_n (pc := 4) (q := 2) (by decide +kernel) rfl ?_
  refine z_aload_n (pc := 5) (q := 0) (by decide +kernel) rfl ?_
  refine z_getI (pc := 6) 22 fl_Mod_248 rfl (by decide) rfl (by decide +kernel) ?_
  refine z_icmp_ge (pc := 9) (off := 71) 80 (by decide +kernel) (by decide) ⟨fun hc => ?_, fun hc => ?_⟩
  · have k := k.1 hc
    refine z_aload_n (pc := 80) (q := 0) (by decide +kernel) rfl ?_
    refine z_getR (pc := 81) 116 fl_Mod_13 rfl rfl rfl (by decide +kernel) ?_
    refine z_bipush (pc := 84) (n := 82) (by decide +kernel) (by decide) ⟨by decide, by decide⟩ ?_
    refine z_dup2 (pc := 86) (by decide +kernel) rfl rfl ?_
    refine z_iald (pc := 87) rfl ⟨by decide, by decide⟩ (by decide +kernel) ?_
    refine z_iconst (pc := 88) (n := 1) (by decide +kernel) ⟨by decide, by decide⟩ ?_
    refine z_iadd (pc := 89) (by decide +kernel) ?_
    refine z_iast (pc := 90) rfl ⟨by decide, by decide⟩ (by decide +kernel) ?_
    refine z_aload_n (pc := 91) (q := 0) (by decide +kernel) rfl ?_
    refine z_callv (pc := 92) (as := []) ml_Mod_274 rfl ⟨rfl, by decide⟩ rfl rfl (Nat.le_of_ble_eq_true rfl) (dc := d - 1) (by omega) (by decide +kernel) (CV.z (CV.mono (fun τ1 k => ?_) k))
    refine z_iload_n (pc := 95) (q := 1) (by decide +kernel) rfl ?_
    exact z_iret (pc := 96) (by decide +kernel) rfl k
  · have k := k.2 hc
    refine z_aload_n (pc := 12) (q := 0) (by decide +kernel) rfl ?_
    refine z_getR (pc := 13) 116 fl_Mod_13 rfl rfl rfl (by decide +kernel) ?_
    refine z_bipush (pc := 16) (n := 79) (by decide +kernel) (by decide) ⟨by decide, by decide⟩ ?_
    refine z_dup2 (pc := 18) (by decide +kernel) rfl rfl ?_
    refine z_iald (pc := 19) rfl ⟨by decide, by decide⟩ (by decide +kernel) ?_
    refine z_iconst (pc := 20) (n := 1) (by decide +kernel) ⟨by decide, by decide⟩ ?_
    refine z_aload_n (pc := 21) (q := 0) (by decide +kernel) rfl ?_
    refine z_getR (pc := 22) 121 fl_Mod_33 rfl rfl rfl (by decide +kernel) ?_
    refine z_iload_n (pc := 25) (q := 2) (by decide +kernel) rfl ?_
    have hb1 := k.1
    have k := k.2
    refine z_iald (pc := 26) rfl hb1 (by decide +kernel) ?_
    refine z_ishl (pc := 27) (by decide +kernel) ?_
    refine z_ior (pc := 28) (by decide +kernel) ?_
    refine z_iast (pc := 29) rfl ⟨by decide, by decide⟩ (by decide +kernel) ?_
    refine z_aload_n (pc := 30) (q := 0) (by decide +kernel) rfl ?_
    refine z_callv (pc := 31) (as := []) ml_Mod_278 rfl ⟨rfl, by decide⟩ rfl rfl (Nat.le_of_ble_eq_true rfl) (dc := d - 1) (by omega) (by decide +kernel) (CI.z (CI.mono (fun x2 τ2 k => ?_) k))
    refine z_bipush (pc := 34) (n := 100) (by decide +kernel) (by decide) ⟨by decide, by decide⟩ ?_
    refine z_irem (pc := 36) (by decide +kernel) (by decide) ?_
    refine z_aload_n (pc := 37) (q := 0) (by decide +kernel) rfl ?_
    refine z_aload_n (pc := 38) (q := 0) (by decide +kernel) rfl ?_
    refine z_getR (pc := 39) 121 fl_Mod_33 rfl rfl rfl (by decide +kernel) ?_
    refine z_iload_n (pc := 42) (q := 2) (by decide +kernel) rfl ?_
    refine z_iald (pc := 43) rfl hb1 (by decide +kernel) ?_
    refine z_callv (pc := 44) (as := [vi (τ2 121 a2)]) ml_Mod_242 rfl ⟨rfl, by decide⟩ rfl rfl (Nat.le_of_ble_eq_true rfl) (dc := d - 1) (by omega) (by decide +kernel) (CI.z (CI.mono (fun x3 τ3 k => ?_) k))
    refine z_icmp_lt (pc := 47) (off := 6) 53 (by decide +kernel) (by decide) ⟨fun hc => ?_, fun hc => ?_⟩
    · have k := k.1 hc
      refine z_aload_n (pc := 53) (q := 0) (by decide +kernel) rfl ?_
      refine z_getR (pc := 54) 116 fl_Mod_13 rfl rfl rfl (by decide +kernel) ?_
      refine z_bipush (pc := 57) (n := 80) (by decide +kernel) (by decide) ⟨by decide, by decide⟩ ?_
      refine z_dup2 (pc := 59) (by decide +kernel) rfl rfl ?_
      refine z_iald (pc := 60) rfl ⟨by decide, by decide⟩ (by decide +kernel) ?_
      refine z_iconst (pc := 61) (n := 1) (by decide +kernel) ⟨by decide, by decide⟩ ?_
      refine z_aload_n (pc := 62) (q := 0) (by decide +kernel) rfl ?_
      refine z_getR (pc := 63) 121 fl_Mod_33 rfl rfl rfl (by decide +kernel) ?_
      refine z_iload_n (pc := 66) (q := 2) (by decide +kernel) rfl ?_
      refine z_iald (pc := 67) rfl hb1 (by decide +kernel) ?_
      refine z_ishl (pc := 68) (by decide +kernel) ?_
      refine z_ior (pc := 69) (by decide +kernel) ?_
      refine z_iast (pc := 70) rfl ⟨by decide, by decide⟩ (by decide +kernel) ?_
      refine z_iinc (pc := 71) (i := 1) (n := 1) [some (vr 115), some (vi (w32 (a1 + 1))), some (vi a2)] (by decide +kernel) rfl rfl ?_
      refine z_iinc (pc := 74) (i := 2) (n := 1) [some (vr 115), some (vi (w32 (a1 + 1))), some (vi (w32 (a2 + 1)))] (by decide +kernel) rfl rfl ?_
      refine z_goto (pc := 77) (off := -73) 4 (by decide +kernel) (by decide) ?_
      exact k
    · have k := k.2 hc
      refine z_goto (pc := 50) (off := 24) 74 (by decide +kernel) (by decide) ?_
      refine z_iinc (pc := 74) (i := 2) (n := 1) [some (vr 115), some (vi a1), some (vi (w32 (a2 + 1)))] (by decide +kernel) rfl rfl ?_
      refine z_goto (pc := 77) (off := -73) 4 (by decide +kernel) (by decide) ?_
      exact k
theorem b_Mod_seed_0 {E : EN} {d : Nat} {a1 : Int} {σ : Mem} {K : Int → Mem → Prop}  (hd : 1 ≤ d) (k : CV E y_Mod_keeps (d - 1) [vr 115] (up σ 115 0 0) (fun τ1 => CV E y_Mod_notes (d - 1) [vr 115] (up τ1 116 83 a1) (fun τ2 => K (τ2 126 4) τ2))) :
    Z E y_Mod_seed d 0 [some (vr 115), some (vi a1)] [] σ (qi K) := by
  refine z_aload_n (pc := 0) (q := 0) (by decide +kernel) rfl ?_
  refine z_iconst (pc := 1) (n := 0) (by decide +kernel) ⟨by decide, by decide⟩ ?_
  refine z_putI (pc := 2) 0 fp_Mod_1 rfl rfl rfl (by decide +kernel) ?_
  refine z_aload_n (pc := 5) (q := 0) (by decide +kernel) rfl ?_
  refine z_callv (pc := 6) (as := []) ml_Mod_281 rfl ⟨rfl, by decide⟩ rfl rfl (Nat.le_of_ble_eq_true rfl) (dc := d - 1) (by omega) (by decide +kernel) (CV.z (CV.mono (fun τ1 k => ?_) k))
  refine z_aload_n (pc := 9) (q := 0) (by decide +kernel) rfl ?_
  refine z_getR (pc := 10) 116 fl_Mod_13 rfl rfl rfl (by decide +kernel) ?_
  refine z_bipush (pc := 13) (n := 83) (by decide +kernel) (by decide) ⟨by decide, by decide⟩ ?_
  refine z_iload_n (pc := 15) (q := 1) (by decide +kernel) rfl ?_
  refine z_iast (pc := 16) rfl ⟨by decide, by decide⟩ (by decide +kernel) ?_
  refine z_aload_n (pc := 17) (q := 0) (by decide +kernel) rfl ?_
  refine z_callv (pc := 18) (as := []) ml_Mod_284 rfl ⟨rfl, by decide⟩ rfl rfl (Nat.le_of_ble_eq_true rfl) (dc := d - 1) (by omega) (by decide +kernel) (CV.z (CV.mono (fun τ2 k => ?_) k))
  refine z_aload_n (pc := 21) (q := 0) (by decide +kernel) rfl ?_
  refine z_getR (pc := 22) 126 fl_Mod_48 rfl rfl rfl (by decide +kernel) ?_
  refine z_iconst (pc := 25) (n := 4) (by decide +kernel) ⟨by decide, by decide⟩ ?_
  refine z_iald (pc := 26) rfl ⟨by decide, by decide⟩ (by decide +kernel) ?_
  exact z_iret (pc := 27) (by decide +kernel) rfl k
theorem b_Mod_noTray_0 {E : EN} {d : Nat} {a1 : Int} {σ : Mem} {K : Int → Mem → Prop}  (hd : 1 ≤ d) (k : CI E y_Mod_within (d - 1) [vl a1, vl 0, vl 3] σ (fun x1 τ1 => (x1 ≠ 0 → (0 ≤ a1 ∧ a1 < 4) ∧ (τ1 130 a1 ≠ (-1) → K 0 τ1) ∧ (τ1 130 a1 = (-1) → K (-6) τ1)) ∧ (x1 = 0 → K (-2) τ1))) :
    Z E y_Mod_noTray d 0 [some (vr 115), some (vi a1)] [] σ (qi K) := by
  refine z_iload_n (pc := 0) (q := 1) (by decide +kernel) rfl ?_
  refine z_i2l (pc := 1) (by decide +kernel) ?_
  refine z_lconst (pc := 2) (n := 0) 0 (by decide +kernel) (by decide) ⟨by decide, by decide⟩ ?_
  refine z_ldc2 (pc := 3) (index := 287) 3 (mm7 215 rfl) ⟨by decide, by decide⟩ (by decide +kernel) ?_
  refine z_calls (pc := 6) (as := [vl a1, vl 0, vl 3]) ml_Mod_136 rfl rfl (Nat.le_of_ble_eq_true rfl) (dc := d - 1) (by omega) (by decide +kernel) (CI.z (CI.mono (fun x1 τ1 k => ?_) k))
  refine z_if_ne (pc := 9) (off := 8) 17 (by decide +kernel) (by decide) ⟨fun hc => ?_, fun hc => ?_⟩
  · have k := k.1 hc
    refine z_aload_n (pc := 17) (q := 0) (by decide +kernel) rfl ?_
    refine z_getR (pc := 18) 130 fl_Mod_60 rfl rfl rfl (by decide +kernel) ?_
    refine z_iload_n (pc := 21) (q := 1) (by decide +kernel) rfl ?_
    have hb1 := k.1
    have k := k.2
    refine z_iald (pc := 22) rfl hb1 (by decide +kernel) ?_
    refine z_iconst (pc := 23) (n := -1) (by decide +kernel) ⟨by decide, by decide⟩ ?_
    refine z_icmp_ne (pc := 24) (off := 8) 32 (by decide +kernel) (by decide) ⟨fun hc => ?_, fun hc => ?_⟩
    · have k := k.1 hc
      refine z_iconst (pc := 32) (n := 0) (by decide +kernel) ⟨by decide, by decide⟩ ?_
      exact z_iret (pc := 33) (by decide +kernel) rfl k
    · have k := k.2 hc
      refine z_bipush (pc := 27) (n := -6) (by decide +kernel) (by decide) ⟨by decide, by decide⟩ ?_
      refine z_goto (pc := 29) (off := 4) 33 (by decide +kernel) (by decide) ?_
      exact z_iret (pc := 33) (by decide +kernel) rfl k
  · have k := k.2 hc
    refine z_bipush (pc := 12) (n := -2) (by decide +kernel) (by decide) ⟨by decide, by decide⟩ ?_
    refine z_goto (pc := 14) (off := 19) 33 (by decide +kernel) (by decide) ?_
    exact z_iret (pc := 33) (by decide +kernel) rfl k
theorem b_Mod_laysTold_0 {E : EN} {d : Nat} {a1 : Int} {σ : Mem} {K : Int → Mem → Prop}  (hd : 1 ≤ d) (k : CV E y_Mod_isNone (d - 1) [vr 115] σ (fun τ1 => Z E y_Mod_laysTold d 11 [some (vr 115), some (vi a1), some (vi 0)] [] (up τ1 115 25 0) (qi K))) :
    Z E y_Mod_laysTold d 0 [some (vr 115), some (vi a1), none] [] σ (qi K) := by
  refine z_aload_n (pc := 0) (q := 0) (by decide +kernel) rfl ?_
  refine z_callv (pc := 1) (as := []) ml_Mod_274 rfl ⟨rfl, by decide⟩ rfl rfl (Nat.le_of_ble_eq_true rfl) (dc := d - 1) (by omega) (by decide +kernel) (CV.z (CV.mono (fun τ1 k => ?_) k))
  refine z_aload_n (pc := 4) (q := 0) (by decide +kernel) rfl ?_
  refine z_iconst (pc := 5) (n := 0) (by decide +kernel) ⟨by decide, by decide⟩ ?_
  refine z_putI (pc := 6) 25 fp_Mod_289 rfl rfl rfl (by decide +kernel) ?_
  refine z_iconst (pc := 9) (n := 0) (by decide +kernel) ⟨by decide, by decide⟩ ?_
  refine z_istore_n (pc := 10) (q := 2) [some (vr 115), some (vi a1), some (vi 0)] (by decide +kernel) (Nat.le_of_ble_eq_true rfl) rfl ?_
  exact k
theorem b_Mod_laysTold_11 {E : EN} {d : Nat} {a1 : Int} {a2 : Int} {σ : Mem} {K : Int → Mem → Prop}  (hd : 1 ≤ d) (k : (0 ≤ a1 ∧ a1 < 4) ∧ (σ 131 a1 ≤ a2 → K (σ 131 a1) σ) ∧ (a2 < σ 131 a1 → (0 ≤ w32 ((w32 (40 * a1)) + a2) ∧ w32 ((w32 (40 * a1)) + a2) < 160) ∧ CI E y_Mod_whyLast (d - 1) [vr 115, vl (σ 132 (w32 ((w32 (40 * a1)) + a2)))] σ (fun x1 τ1 => (x1 = 0 → Z E y_Mod_laysTold d 11 [some (vr 115), some (vi a1), some (vi (w32 (a2 + 1)))] [] (up τ1 115 25 x1) (qi K)) ∧ (x1 ≠ 0 → K a2 (up τ1 115 25 x1))))) :
    Z E y_Mod_laysTold d 11 [some (vr 115), some (vi a1), some (vi a2)] [] σ (qi K) := by
  refine z_iload_n (pc := 11) (q := 2) (by decide +kernel) rfl ?_
  refine z_aload_n (pc := 12) (q := 0) (by decide +kernel) rfl ?_
  refine z_getR (pc := 13) 131 fl_Mod_63 rfl rfl rfl (by decide +kernel) ?_
  refine z_iload_n (pc := 16) (q := 1) (by decide +kernel) rfl ?_
  have hb1 := k.1
  have k := k.2
  refine z_iald (pc := 17) rfl hb1 (by decide +kernel) ?_
  refine z_icmp_ge (pc := 18) (off := 37) 55 (by decide +kernel) (by decide) ⟨fun hc => ?_, fun hc => ?_⟩
  · have k := k.1 hc
    refine z_aload_n (pc := 55) (q := 0) (by decide +kernel) rfl ?_
    refine z_getR (pc := 56) 131 fl_Mod_63 rfl rfl rfl (by decide +kernel) ?_
    refine z_iload_n (pc := 59) (q := 1) (by decide +kernel) rfl ?_
    refine z_iald (pc := 60) rfl hb1 (by decide +kernel) ?_
    exact z_iret (pc := 61) (by decide +kernel) rfl k
  · have k := k.2 hc
    refine z_aload_n (pc := 21) (q := 0) (by decide +kernel) rfl ?_
    refine z_aload_n (pc := 22) (q := 0) (by decide +kernel) rfl ?_
    refine z_aload_n (pc := 23) (q := 0) (by decide +kernel) rfl ?_
    refine z_getR (pc := 24) 132 fl_Mod_66 rfl rfl rfl (by decide +kernel) ?_
    refine z_bipush (pc := 27) (n := 40) (by decide +kernel) (by decide) ⟨by decide, by decide⟩ ?_
    refine z_iload_n (pc := 29) (q := 1) (by decide +kernel) rfl ?_
    refine z_imul (pc := 30) (by decide +kernel) ?_
    refine z_iload_n (pc := 31) (q := 2) (by decide +kernel) rfl ?_
    refine z_iadd (pc := 32) (by decide +kernel) ?_
    have hb2 := k.1
    have k := k.2
    refine z_lald (pc := 33) rfl hb2 (by decide +kernel) ?_
    refine z_callv (pc := 34) (as := [vl (σ 132 (w32 ((w32 (40 * a1)) + a2)))]) ml_Mod_292 rfl ⟨rfl, by decide⟩ rfl rfl (Nat.le_of_ble_eq_true rfl) (dc := d - 1) (by omega) (by decide +kernel) (CI.z (CI.mono (fun x1 τ1 k => ?_) k))
    refine z_putI (pc := 37) 25 fp_Mod_289 rfl rfl rfl (by decide +kernel) ?_
    refine z_aload_n (pc := 40) (q := 0) (by decide +kernel) rfl ?_
    refine z_getI (pc := 41) 25 fl_Mod_289 rfl (by decide) rfl (by decide +kernel) ?_
    refine z_topI (up_same _ _ _ _) ?_
    refine z_if_eq (pc := 44) (off := 5) 49 (by decide +kernel) (by decide) ⟨fun hc => ?_, fun hc => ?_⟩
    · have k := k.1 hc
      refine z_iinc (pc := 49) (i := 2) (n := 1) [some (vr 115), some (vi a1), some (vi (w32 (a2 + 1)))] (by decide +kernel) rfl rfl ?_
      refine z_goto (pc := 52) (off := -41) 11 (by decide +kernel) (by decide) ?_
      exact k
    · have k := k.2 hc
      refine z_iload_n (pc := 47) (q := 2) (by decide +kernel) rfl ?_
      exact z_iret (pc := 48) (by decide +kernel) rfl k
theorem b_Mod_morning_0 {E : EN} {d : Nat} {a1 : Int} {σ : Mem} {K : Int → Mem → Prop}  (hd : 1 ≤ d) (k : CI E y_Mod_noTray (d - 1) [vr 115, vi a1] (up σ 115 0 0) (fun x1 τ1 => (x1 = 0 → CI E y_Mod_laysTold (d - 1) [vr 115, vi a1] τ1 (fun x2 τ2 => (τ2 115 25 = 0 → CV E y_Mod_keeps (d - 1) [vr 115] τ2 (fun τ3 => CI E y_Mod_goesMorning (d - 1) [vr 115] τ3 (fun x4 τ4 => CV E y_Mod_notes (d - 1) [vr 115] τ4 (fun τ5 => K x4 τ5)))) ∧ (τ2 115 25 ≠ 0 → K (w32 ((-10) - (τ2 115 25))) τ2))) ∧ (x1 ≠ 0 → K x1 τ1))) :
    Z E y_Mod_morning d 0 [some (vr 115), some (vi a1), none, none] [] σ (qi K) := by
  refine z_aload_n (pc := 0) (q := 0) (by decide +kernel) rfl ?_
  refine z_iconst (pc := 1) (n := 0) (by decide +kernel) ⟨by decide, by decide⟩ ?_
  refine z_putI (pc := 2) 0 fp_Mod_1 rfl rfl rfl (by decide +kernel) ?_
  refine z_aload_n (pc := 5) (q := 0) (by decide +kernel) rfl ?_
  refine z_iload_n (pc := 6) (q := 1) (by decide +kernel) rfl ?_
  refine z_callv (pc := 7) (as := [vi a1]) ml_Mod_296 rfl ⟨rfl, by decide⟩ rfl rfl (Nat.le_of_ble_eq_true rfl) (dc := d - 1) (by omega) (by decide +kernel) (CI.z (CI.mono (fun x1 τ1 k => ?_) k))
  refine z_istore_n (pc := 10) (q := 2) [some (vr 115), some (vi a1), some (vi x1), none] (by decide +kernel) (Nat.le_of_ble_eq_true rfl) rfl ?_
  refine z_iload_n (pc := 11) (q := 2) (by decide +kernel) rfl ?_
  refine z_if_eq (pc := 12) (off := 5) 17 (by decide +kernel) (by decide) ⟨fun hc => ?_, fun hc => ?_⟩
  · have k := k.1 hc
    refine z_aload_n (pc := 17) (q := 0) (by decide +kernel) rfl ?_
    refine z_iload_n (pc := 18) (q := 1) (by decide +kernel) rfl ?_
    refine z_callv (pc := 19) (as := [vi a1]) ml_Mod_299 rfl ⟨rfl, by decide⟩ rfl rfl (Nat.le_of_ble_eq_true rfl) (dc := d - 1) (by omega) (by decide +kernel) (CI.z (CI.mono (fun x2 τ2 k => ?_) k))
    refine z_pop (pc := 22) (by decide +kernel) rfl ?_
    refine z_aload_n (pc := 23) (q := 0) (by decide +kernel) rfl ?_
    refine z_getI (pc := 24) 25 fl_Mod_289 rfl (by decide) rfl (by decide +kernel) ?_
    refine z_if_eq (pc := 27) (off := 11) 38 (by decide +kernel) (by decide) ⟨fun hc => ?_, fun hc => ?_⟩
    · have k := k.1 hc
      refine z_aload_n (pc := 38) (q := 0) (by decide +kernel) rfl ?_
      refine z_callv (pc := 39) (as := []) ml_Mod_281 rfl ⟨rfl, by decide⟩ rfl rfl (Nat.le_of_ble_eq_true rfl) (dc := d - 1) (by omega) (by decide +kernel) (CV.z (CV.mono (fun τ3 k => ?_) k))
      refine z_aload_n (pc := 42) (q := 0) (by decide +kernel) rfl ?_
      refine z_callv (pc := 43) (as := []) ml_Mod_302 rfl ⟨rfl, by decide⟩ rfl rfl (Nat.le_of_ble_eq_true rfl) (dc := d - 1) (by omega) (by decide +kernel) (CI.z (CI.mono (fun x4 τ4 k => ?_) k))
      refine z_istore_n (pc := 46) (q := 3) [some (vr 115), some (vi a1), some (vi x1), some (vi x4)] (by decide +kernel) (Nat.le_of_ble_eq_true rfl) rfl ?_
      refine z_aload_n (pc := 47) (q := 0) (by decide +kernel) rfl ?_
      refine z_callv (pc := 48) (as := []) ml_Mod_284 rfl ⟨rfl, by decide⟩ rfl rfl (Nat.le_of_ble_eq_true rfl) (dc := d - 1) (by omega) (by decide +kernel) (CV.z (CV.mono (fun τ5 k => ?_) k))
      refine z_iload_n (pc := 51) (q := 3) (by decide +kernel) rfl ?_
      exact z_iret (pc := 52) (by decide +kernel) rfl k
    · have k := k.2 hc
      refine z_bipush (pc := 30) (n := -10) (by decide +kernel) (by decide) ⟨by decide, by decide⟩ ?_
      refine z_aload_n (pc := 32) (q := 0) (by decide +kernel) rfl ?_
      refine z_getI (pc := 33) 25 fl_Mod_289 rfl (by decide) rfl (by decide +kernel) ?_
      refine z_isub (pc := 36) (by decide +kernel) ?_
      exact z_iret (pc := 37) (by decide +kernel) rfl k
  · have k := k.2 hc
    refine z_iload_n (pc := 15) (q := 2) (by decide +kernel) rfl ?_
    exact z_iret (pc := 16) (by decide +kernel) rfl k
theorem b_Mod_goesRule_0 {E : EN} {d : Nat}  {σ : Mem} {K : Mem → Prop}  (hd : 1 ≤ d) (k : CI E y_Mod_awake (d - 1) [vr 115] σ (fun x1 τ1 => CV E y_Mod_laysRule (d - 1) [vr 115, vi (σ 116 79), vi x1] τ1 (fun τ2 => CI E y_Mod_goesMorning (d - 1) [vr 115] τ2 (fun x3 τ3 => K τ3)))) :
    Z E y_Mod_goesRule d 0 [some (vr 115)] [] σ (qv K) := by
  refine z_aload_n (pc := 0) (q := 0) (by decide +kernel) rfl ?_
  refine z_aload_n (pc := 1) (q := 0) (by decide +kernel) rfl ?_
  refine z_getR (pc := 2) 116 fl_Mod_13 rfl rfl rfl (by decide +kernel) ?_
  refine z_bipush (pc := 5) (n := 79) (by decide +kernel) (by decide) ⟨by decide, by decide⟩ ?_
  refine z_iald (pc := 7) rfl ⟨by decide, by decide⟩ (by decide +kernel) ?_
  refine z_aload_n (pc := 8) (q := 0) (by decide +kernel) rfl ?_
  refine z_callv (pc := 9) (as := []) ml_Mod_261 rfl ⟨rfl, by decide⟩ rfl rfl (Nat.le_of_ble_eq_true rfl) (dc := d - 1) (by omega) (by decide +kernel) (CI.z (CI.mono (fun x1 τ1 k => ?_) k))
  refine z_callv (pc := 12) (as := [vi (σ 116 79), vi x1]) ml_Mod_305 rfl ⟨rfl, by decide⟩ rfl rfl (Nat.le_of_ble_eq_true rfl) (dc := d - 1) (by omega) (by decide +kernel) (CV.z (CV.mono (fun τ2 k => ?_) k))
  refine z_aload_n (pc := 15) (q := 0) (by decide +kernel) rfl ?_
  refine z_callv (pc := 16) (as := []) ml_Mod_302 rfl ⟨rfl, by decide⟩ rfl rfl (Nat.le_of_ble_eq_true rfl) (dc := d - 1) (by omega) (by decide +kernel) (CI.z (CI.mono (fun x3 τ3 k => ?_) k))
  refine z_pop (pc := 19) (by decide +kernel) rfl ?_
  exact z_vret (pc := 20) (by decide +kernel) rfl k
theorem b_Mod_byRule_0 {E : EN} {d : Nat}  {σ : Mem} {K : Int → Mem → Prop}  (hd : 1 ≤ d) (k : CV E y_Mod_keeps (d - 1) [vr 115] (up σ 115 0 0) (fun τ1 => CV E y_Mod_goesRule (d - 1) [vr 115] τ1 (fun τ2 => CV E y_Mod_notes (d - 1) [vr 115] τ2 (fun τ3 => K (ian (τ3 116 79) (ixo (τ3 126 0) (-1))) τ3)))) :
    Z E y_Mod_byRule d 0 [some (vr 115)] [] σ (qi K) := by
  refine z_aload_n (pc := 0) (q := 0) (by decide +kernel) rfl ?_
  refine z_iconst (pc := 1) (n := 0) (by decide +kernel) ⟨by decide, by decide⟩ ?_
  refine z_putI (pc := 2) 0 fp_Mod_1 rfl rfl rfl (by decide +kernel) ?_
  refine z_aload_n (pc := 5) (q := 0) (by decide +kernel) rfl ?_
  refine z_callv (pc := 6) (as := []) ml_Mod_281 rfl ⟨rfl, by decide⟩ rfl rfl (Nat.le_of_ble_eq_true rfl) (dc := d - 1) (by omega) (by decide +kernel) (CV.z (CV.mono (fun τ1 k => ?_) k))
  refine z_aload_n (pc := 9) (q := 0) (by decide +kernel) rfl ?_
  refine z_callv (pc := 10) (as := []) ml_Mod_308 rfl ⟨rfl, by decide⟩ rfl rfl (Nat.le_of_ble_eq_true rfl) (dc := d - 1) (by omega) (by decide +kernel) (CV.z (CV.mono (fun τ2 k => ?_) k))
  refine z_aload_n (pc := 13) (q := 0) (by decide +kernel) rfl ?_
  refine z_callv (pc := 14) (as := []) ml_Mod_284 rfl ⟨rfl, by decide⟩ rfl rfl (Nat.le_of_ble_eq_true rfl) (dc := d - 1) (by omega) (by decide +kernel) (CV.z (CV.mono (fun τ3 k => ?_) k))
  refine z_aload_n (pc := 17) (q := 0) (by decide +kernel) rfl ?_
  refine z_getR (pc := 18) 116 fl_Mod_13 rfl rfl rfl (by decide +kernel) ?_
  refine z_bipush (pc := 21) (n := 79) (by decide +kernel) (by decide) ⟨by decide, by decide⟩ ?_
  refine z_iald (pc := 23) rfl ⟨by decide, by decide⟩ (by decide +kernel) ?_
  refine z_aload_n (pc := 24) (q := 0) (by decide +kernel) rfl ?_
  refine z_getR (pc := 25) 126 fl_Mod_48 rfl rfl rfl (by decide +kernel) ?_
  refine z_iconst (pc := 28) (n := 0) (by decide +kernel) ⟨by decide, by decide⟩ ?_
  refine z_iald (pc := 29) rfl ⟨by decide, by decide⟩ (by decide +kernel) ?_
  refine z_iconst (pc := 30) (n := -1) (by decide +kernel) ⟨by decide, by decide⟩ ?_
  refine z_ixor (pc := 31) (by decide +kernel) ?_
  refine z_iand (pc := 32) (by decide +kernel) ?_
  exact z_iret (pc := 33) (by decide +kernel) rfl k
theorem b_Mod_sleeps_0 {E : EN} {d : Nat} {a1 : Int} {σ : Mem} {K : Int → Mem → Prop}  (hd : 1 ≤ d) (k : CI E y_Mod_isHand (d - 1) [vr 115, vl a1] (up σ 115 0 0) (fun x1 τ1 => (x1 ≠ 0 → CV E y_Mod_keeps (d - 1) [vr 115] τ1 (fun τ2 => CV E y_Mod_notes (d - 1) [vr 115] (up τ2 116 81 (ixo (τ2 116 81) (ish 1 a1))) (fun τ3 => CI E y_Mod_isIn (d - 1) [vl (τ3 116 81), vi a1] τ3 (fun x4 τ4 => (x4 = 0 → K 1 τ4) ∧ (x4 ≠ 0 → K 0 τ4))))) ∧ (x1 = 0 → K (-2) τ1))) :
    Z E y_Mod_sleeps d 0 [some (vr 115), some (vi a1)] [] σ (qi K) := by
  refine z_aload_n (pc := 0) (q := 0) (by decide +kernel) rfl ?_
  refine z_iconst (pc := 1) (n := 0) (by decide +kernel) ⟨by decide, by decide⟩ ?_
  refine z_putI (pc := 2) 0 fp_Mod_1 rfl rfl rfl (by decide +kernel) ?_
  refine z_aload_n (pc := 5) (q := 0) (by decide +kernel) rfl ?_
  refine z_iload_n (pc := 6) (q := 1) (by decide +kernel) rfl ?_
  refine z_i2l (pc := 7) (by decide +kernel) ?_
  refine z_callv (pc := 8) (as := [vl a1]) ml_Mod_228 rfl ⟨rfl, by decide⟩ rfl rfl (Nat.le_of_ble_eq_true rfl) (dc := d - 1) (by omega) (by decide +kernel) (CI.z (CI.mono (fun x1 τ1 k => ?_) k))
  refine z_if_ne (pc := 11) (off := 6) 17 (by decide +kernel) (by decide) ⟨fun hc => ?_, fun hc => ?_⟩
  · have k := k.1 hc
    refine z_aload_n (pc := 17) (q := 0) (by decide +kernel) rfl ?_
    refine z_callv (pc := 18) (as := []) ml_Mod_281 rfl ⟨rfl, by decide⟩ rfl rfl (Nat.le_of_ble_eq_true rfl) (dc := d - 1) (by omega) (by decide +kernel) (CV.z (CV.mono (fun τ2 k => ?_) k))
    refine z_aload_n (pc := 21) (q := 0) (by decide +kernel) rfl ?_
    refine z_getR (pc := 22) 116 fl_Mod_13 rfl rfl rfl (by decide +kernel) ?_
    refine z_bipush (pc := 25) (n := 81) (by decide +kernel) (by decide) ⟨by decide, by decide⟩ ?_
    refine z_dup2 (pc := 27) (by decide +kernel) rfl rfl ?_
    refine z_iald (pc := 28) rfl ⟨by decide, by decide⟩ (by decide +kernel) ?_
    refine z_iconst (pc := 29) (n := 1) (by decide +kernel) ⟨by decide, by decide⟩ ?_
    refine z_iload_n (pc := 30) (q := 1) (by decide +kernel) rfl ?_
    refine z_ishl (pc := 31) (by decide +kernel) ?_
    refine z_ixor (pc := 32) (by decide +kernel) ?_
    refine z_iast (pc := 33) rfl ⟨by decide, by decide⟩ (by decide +kernel) ?_
    refine z_aload_n (pc := 34) (q := 0) (by decide +kernel) rfl ?_
    refine z_callv (pc := 35) (as := []) ml_Mod_284 rfl ⟨rfl, by decide⟩ rfl rfl (Nat.le_of_ble_eq_true rfl) (dc := d - 1) (by omega) (by decide +kernel) (CV.z (CV.mono (fun τ3 k => ?_) k))
    refine z_aload_n (pc := 38) (q := 0) (by decide +kernel) rfl ?_
    refine z_getR (pc := 39) 116 fl_Mod_13 rfl rfl rfl (by decide +kernel) ?_
    refine z_bipush (pc := 42) (n := 81) (by decide +kernel) (by decide) ⟨by decide, by decide⟩ ?_
    refine z_iald (pc := 44) rfl ⟨by decide, by decide⟩ (by decide +kernel) ?_
    refine z_i2l (pc := 45) (by decide +kernel) ?_
    refine z_iload_n (pc := 46) (q := 1) (by decide +kernel) rfl ?_
    refine z_calls (pc := 47) (as := [vl (τ3 116 81), vi a1]) ml_Mod_214 rfl rfl (Nat.le_of_ble_eq_true rfl) (dc := d - 1) (by omega) (by decide +kernel) (CI.z (CI.mono (fun x4 τ4 k => ?_) k))
    refine z_if_eq (pc := 50) (off := 7) 57 (by decide +kernel) (by decide) ⟨fun hc => ?_, fun hc => ?_⟩
    · have k := k.1 hc
      refine z_iconst (pc := 57) (n := 1) (by decide +kernel) ⟨by decide, by decide⟩ ?_
      exact z_iret (pc := 58) (by decide +kernel) rfl k
    · have k := k.2 hc
      refine z_iconst (pc := 53) (n := 0) (by decide +kernel) ⟨by decide, by decide⟩ ?_
      refine z_goto (pc := 54) (off := 4) 58 (by decide +kernel) (by decide) ?_
      exact z_iret (pc := 58) (by decide +kernel) rfl k
  · have k := k.2 hc
    refine z_bipush (pc := 14) (n := -2) (by decide +kernel) (by decide) ⟨by decide, by decide⟩ ?_
    exact z_iret (pc := 16) (by decide +kernel) rfl k
theorem b_Mod_undo_0 {E : EN} {d : Nat} {a1 : Int} {σ : Mem} {K : Int → Mem → Prop}  (hd : 1 ≤ d) (k : CI E y_Mod_within (d - 1) [vl a1, vl 1, vl 10] (up σ 115 0 0) (fun x1 τ1 => (x1 = 0 → K (-3) τ1) ∧ (x1 ≠ 0 → (a1 ≤ τ1 116 84 → Z E y_Mod_undo d 44 [some (vr 115), some (vi a1), some (vi 0)] [] (up τ1 116 84 (w32 ((τ1 116 84) - a1))) (qi K)) ∧ (τ1 116 84 < a1 → K (-3) τ1)))) :
    Z E y_Mod_undo d 0 [some (vr 115), some (vi a1), none] [] σ (qi K) := by
  refine z_aload_n (pc := 0) (q := 0) (by decide +kernel) rfl ?_
  refine z_iconst (pc := 1) (n := 0) (by decide +kernel) ⟨by decide, by decide⟩ ?_
  refine z_putI (pc := 2) 0 fp_Mod_1 rfl rfl rfl (by decide +kernel) ?_
  refine z_iload_n (pc := 5) (q := 1) (by decide +kernel) rfl ?_
  refine z_i2l (pc := 6) (by decide +kernel) ?_
  refine z_lconst (pc := 7) (n := 1) 1 (by decide +kernel) (by decide) ⟨by decide, by decide⟩ ?_
  refine z_ldc2 (pc := 8) (index := 259) 10 (mm7 229 rfl) ⟨by decide, by decide⟩ (by decide +kernel) ?_
  refine z_calls (pc := 11) (as := [vl a1, vl 1, vl 10]) ml_Mod_136 rfl rfl (Nat.le_of_ble_eq_true rfl) (dc := d - 1) (by omega) (by decide +kernel) (CI.z (CI.mono (fun x1 τ1 k => ?_) k))
  refine z_if_eq (pc := 14) (off := 14) 28 (by decide +kernel) (by decide) ⟨fun hc => ?_, fun hc => ?_⟩
  · have k := k.1 hc
    refine z_bipush (pc := 28) (n := -3) (by decide +kernel) (by decide) ⟨by decide, by decide⟩ ?_
    exact z_iret (pc := 30) (by decide +kernel) rfl k
  · have k := k.2 hc
    refine z_iload_n (pc := 17) (q := 1) (by decide +kernel) rfl ?_
    refine z_aload_n (pc := 18) (q := 0) (by decide +kernel) rfl ?_
    refine z_getR (pc := 19) 116 fl_Mod_13 rfl rfl rfl (by decide +kernel) ?_
    refine z_bipush (pc := 22) (n := 84) (by decide +kernel) (by decide) ⟨by decide, by decide⟩ ?_
    refine z_iald (pc := 24) rfl ⟨by decide, by decide⟩ (by decide +kernel) ?_
    refine z_icmp_le (pc := 25) (off := 6) 31 (by decide +kernel) (by decide) ⟨fun hc => ?_, fun hc => ?_⟩
    · have k := k.1 hc
      refine z_aload_n (pc := 31) (q := 0) (by decide +kernel) rfl ?_
      refine z_getR (pc := 32) 116 fl_Mod_13 rfl rfl rfl (by decide +kernel) ?_
      refine z_bipush (pc := 35) (n := 84) (by decide +kernel) (by decide) ⟨by decide, by decide⟩ ?_
      refine z_dup2 (pc := 37) (by decide +kernel) rfl rfl ?_
      refine z_iald (pc := 38) rfl ⟨by decide, by decide⟩ (by decide +kernel) ?_
      refine z_iload_n (pc := 39) (q := 1) (by decide +kernel) rfl ?_
      refine z_isub (pc := 40) (by decide +kernel) ?_
      refine z_iast (pc := 41) rfl ⟨by decide, by decide⟩ (by decide +kernel) ?_
      refine z_iconst (pc := 42) (n := 0) (by decide +kernel) ⟨by decide, by decide⟩ ?_
      refine z_istore_n (pc := 43) (q := 2) [some (vr 115), some (vi a1), some (vi 0)] (by decide +kernel) (Nat.le_of_ble_eq_true rfl) rfl ?_
      exact k
    · have k := k.2 hc
      refine z_bipush (pc := 28) (n := -3) (by decide +kernel) (by decide) ⟨by decide, by decide⟩ ?_
      exact z_iret (pc := 30) (by decide +kernel) rfl k
theorem b_Mod_undo_44 {E : EN} {d : Nat} {a1 : Int} {o1 : Option AV} {a2 : Int} {σ : Mem} {K : Int → Mem → Prop}  (k : (5 ≤ a2 → K (σ 116 84) σ) ∧ (a2 < 5 → (0 ≤ w32 ((w32 (85 + (w32 (5 * (σ 116 84))))) + a2) ∧ w32 ((w32 (85 + (w32 (5 * (σ 116 84))))) + a2) < 3108) ∧ (0 ≤ w32 (79 + a2) ∧ w32 (79 + a2) < 3108) ∧ Z E y_Mod_undo d 44 [some (vr 115), none, some (vi (w32 (a2 + 1)))] [] (up σ 116 (w32 (79 + a2)) (σ 116 (w32 ((w32 (85 + (w32 (5 * (σ 116 84))))) + a2)))) (qi K))) :
    Z E y_Mod_undo d 44 [some (vr 115), o1, some (vi a2)] [] σ (qi K) := by
  refine z_iload_n (pc := 44) (q := 2) (by decide +kernel) rfl ?_
  refine z_iconst (pc := 45) (n := 5) (by decide +kernel) ⟨by decide, by decide⟩ ?_
  refine z_icmp_ge (pc := 46) (off := 37) 83 (by decide +kernel) (by decide) ⟨fun hc => ?_, fun hc => ?_⟩
  · have k := k.1 hc
    refine z_aload_n (pc := 83) (q := 0) (by decide +kernel) rfl ?_
    refine z_getR (pc := 84) 116 fl_Mod_13 rfl rfl rfl (by decide +kernel) ?_
    refine z_bipush (pc := 87) (n := 84) (by decide +kernel) (by decide) ⟨by decide, by decide⟩ ?_
    refine z_iald (pc := 89) rfl ⟨by decide, by decide⟩ (by decide +kernel) ?_
    exact z_iret (pc := 90) (by decide +kernel) rfl k
  · have k := k.2 hc
    refine z_aload_n (pc := 49) (q := 0) (by decide +kernel) rfl ?_
    refine z_getR (pc := 50) 116 fl_Mod_13 rfl rfl rfl (by decide +kernel) ?_
    refine z_bipush (pc := 53) (n := 79) (by decide +kernel) (by decide) ⟨by decide, by decide⟩ ?_
    refine z_iload_n (pc := 55) (q := 2) (by decide +kernel) rfl ?_
    refine z_iadd (pc := 56) (by decide +kernel) ?_
    refine z_aload_n (pc := 57) (q := 0) (by decide +kernel) rfl ?_
    refine z_getR (pc := 58) 116 fl_Mod_13 rfl rfl rfl (by decide +kernel) ?_
    refine z_bipush (pc := 61) (n := 85) (by decide +kernel) (by decide) ⟨by decide, by decide⟩ ?_
    refine z_iconst (pc := 63) (n := 5) (by decide +kernel) ⟨by decide, by decide⟩ ?_
    refine z_aload_n (pc := 64) (q := 0) (by decide +kernel) rfl ?_
    refine z_getR (pc := 65) 116 fl_Mod_13 rfl rfl rfl (by decide +kernel) ?_
    refine z_bipush (pc := 68) (n := 84) (by decide +kernel) (by decide) ⟨by decide, by decide⟩ ?_
    refine z_iald (pc := 70) rfl ⟨by decide, by decide⟩ (by decide +kernel) ?_
    refine z_imul (pc := 71) (by decide +kernel) ?_
    refine z_iadd (pc := 72) (by decide +kernel) ?_
    refine z_iload_n (pc := 73) (q := 2) (by decide +kernel) rfl ?_
    refine z_iadd (pc := 74) (by decide +kernel) ?_
    have hb1 := k.1
    have k := k.2
    refine z_iald (pc := 75) rfl hb1 (by decide +kernel) ?_
    have hb2 := k.1
    have k := k.2
    refine z_iast (pc := 76) rfl hb2 (by decide +kernel) ?_
    refine z_forget (pc := 77) 1 [some (vr 115), none, some (vi a2)] rfl ?_
    refine z_iinc (pc := 77) (i := 2) (n := 1) [some (vr 115), none, some (vi (w32 (a2 + 1)))] (by decide +kernel) rfl rfl ?_
    refine z_goto (pc := 80) (off := -36) 44 (by decide +kernel) (by decide) ?_
    exact k
theorem b_Mod_does_0 {E : EN} {d : Nat} {b1 : Int} {σ : Mem} {K : Int → Mem → Prop}  (hd : 1 ≤ d) (k : (lcm b1 100 ≠ 0 → (lcm b1 200 ≠ 0 → CI E y_Mod_within (d - 1) [vl b1, vl 300, vl 399] σ (fun x1 τ1 => (x1 ≠ 0 → CI E y_Mod_isHand (d - 1) [vr 115, vl (w64 (b1 - 300))] τ1 (fun x2 τ2 => (x2 ≠ 0 → K 0 (up τ2 116 81 (ixo (τ2 116 81) (ish 1 (w32 ((w32 b1) - 300)))))) ∧ (x2 = 0 → K 1 τ2))) ∧ (x1 = 0 → CI E y_Mod_whyLast (d - 1) [vr 115, vl b1] τ1 (fun x3 τ3 => K x3 τ3)))) ∧ (lcm b1 200 = 0 → CV E y_Mod_goesRule (d - 1) [vr 115] σ (fun τ4 => K 0 τ4))) ∧ (lcm b1 100 = 0 → CI E y_Mod_goesMorning (d - 1) [vr 115] σ (fun x5 τ5 => K 0 τ5))) :
    Z E y_Mod_does d 0 [some (vr 115), some (vl b1), none] [] σ (qi K) := by
  refine z_lload_n (pc := 0) (q := 1) (by decide +kernel) rfl ?_
  refine z_ldc2 (pc := 1) (index := 311) 100 (mm8 51 rfl) ⟨by decide, by decide⟩ (by decide +kernel) ?_
  refine z_lcmp (pc := 4) (by decide +kernel) ?_
  refine z_if_ne (pc := 5) (off := 10) 15 (by decide +kernel) (by decide) ⟨fun hc => ?_, fun hc => ?_⟩
  · have k := k.1 hc
    refine z_lload_n (pc := 15) (q := 1) (by decide +kernel) rfl ?_
    refine z_ldc2 (pc := 16) (index := 313) 200 (mm8 52 rfl) ⟨by decide, by decide⟩ (by decide +kernel) ?_
    refine z_lcmp (pc := 19) (by decide +kernel) ?_
    refine z_if_ne (pc := 20) (off := 9) 29 (by decide +kernel) (by decide) ⟨fun hc => ?_, fun hc => ?_⟩
    · have k := k.1 hc
      refine z_lload_n (pc := 29) (q := 1) (by decide +kernel) rfl ?_
      refine z_ldc2 (pc := 30) (index := 315) 300 (mm8 53 rfl) ⟨by decide, by decide⟩ (by decide +kernel) ?_
      refine z_ldc2 (pc := 33) (index := 317) 399 (mm8 54 rfl) ⟨by decide, by decide⟩ (by decide +kernel) ?_
      refine z_calls (pc := 36) (as := [vl b1, vl 300, vl 399]) ml_Mod_136 rfl rfl (Nat.le_of_ble_eq_true rfl) (dc := d - 1) (by omega) (by decide +kernel) (CI.z (CI.mono (fun x1 τ1 k => ?_) k))
      refine z_if_ne (pc := 39) (off := 9) 48 (by decide +kernel) (by decide) ⟨fun hc => ?_, fun hc => ?_⟩
      · have k := k.1 hc
        refine z_aload_n (pc := 48) (q := 0) (by decide +kernel) rfl ?_
        refine z_lload_n (pc := 49) (q := 1) (by decide +kernel) rfl ?_
        refine z_ldc2 (pc := 50) (index := 315) 300 (mm8 53 rfl) ⟨by decide, by decide⟩ (by decide +kernel) ?_
        refine z_lsub (pc := 53) (by decide +kernel) ?_
        refine z_callv (pc := 54) (as := [vl (w64 (b1 - 300))]) ml_Mod_228 rfl ⟨rfl, by decide⟩ rfl rfl (Nat.le_of_ble_eq_true rfl) (dc := d - 1) (by omega) (by decide +kernel) (CI.z (CI.mono (fun x2 τ2 k => ?_) k))
        refine z_if_ne (pc := 57) (off := 5) 62 (by decide +kernel) (by decide) ⟨fun hc => ?_, fun hc => ?_⟩
        · have k := k.1 hc
          refine z_aload_n (pc := 62) (q := 0) (by decide +kernel) rfl ?_
          refine z_getR (pc := 63) 116 fl_Mod_13 rfl rfl rfl (by decide +kernel) ?_
          refine z_bipush (pc := 66) (n := 81) (by decide +kernel) (by decide) ⟨by decide, by decide⟩ ?_
          refine z_dup2 (pc := 68) (by decide +kernel) rfl rfl ?_
          refine z_iald (pc := 69) rfl ⟨by decide, by decide⟩ (by decide +kernel) ?_
          refine z_iconst (pc := 70) (n := 1) (by decide +kernel) ⟨by decide, by decide⟩ ?_
          refine z_lload_n (pc := 71) (q := 1) (by decide +kernel) rfl ?_
          refine z_l2i (pc := 72) (by decide +kernel) ?_
          refine z_sipush (pc := 73) (n := 300) (by decide +kernel) (by decide) ⟨by decide, by decide⟩ ?_
          refine z_isub (pc := 76) (by decide +kernel) ?_
          refine z_ishl (pc := 77) (by decide +kernel) ?_
          refine z_ixor (pc := 78) (by decide +kernel) ?_
          refine z_iast (pc := 79) rfl ⟨by decide, by decide⟩ (by decide +kernel) ?_
          refine z_iconst (pc := 80) (n := 0) (by decide +kernel) ⟨by decide, by decide⟩ ?_
          exact z_iret (pc := 81) (by decide +kernel) rfl k
        · have k := k.2 hc
          refine z_iconst (pc := 60) (n := 1) (by decide +kernel) ⟨by decide, by decide⟩ ?_
          exact z_iret (pc := 61) (by decide +kernel) rfl k
      · have k := k.2 hc
        refine z_aload_n (pc := 42) (q := 0) (by decide +kernel) rfl ?_
        refine z_lload_n (pc := 43) (q := 1) (by decide +kernel) rfl ?_
        refine z_callv (pc := 44) (as := [vl b1]) ml_Mod_292 rfl ⟨rfl, by decide⟩ rfl rfl (Nat.le_of_ble_eq_true rfl) (dc := d - 1) (by omega) (by decide +kernel) (CI.z (CI.mono (fun x3 τ3 k => ?_) k))
        exact z_iret (pc := 47) (by decide +kernel) rfl k
    · have k := k.2 hc
      refine z_aload_n (pc := 23) (q := 0) (by decide +kernel) rfl ?_
      refine z_callv (pc := 24) (as := []) ml_Mod_308 rfl ⟨rfl, by decide⟩ rfl rfl (Nat.le_of_ble_eq_true rfl) (dc := d - 1) (by omega) (by decide +kernel) (CV.z (CV.mono (fun τ4 k => ?_) k))
      refine z_iconst (pc := 27) (n := 0) (by decide +kernel) ⟨by decide, by decide⟩ ?_
      exact z_iret (pc := 28) (by decide +kernel) rfl k
  · have k := k.2 hc
    refine z_aload_n (pc := 8) (q := 0) (by decide +kernel) rfl ?_
    refine z_callv (pc := 9) (as := []) ml_Mod_302 rfl ⟨rfl, by decide⟩ rfl rfl (Nat.le_of_ble_eq_true rfl) (dc := d - 1) (by omega) (by decide +kernel) (CI.z (CI.mono (fun x5 τ5 k => ?_) k))
    refine z_pop (pc := 12) (by decide +kernel) rfl ?_
    refine z_iconst (pc := 13) (n := 0) (by decide +kernel) ⟨by decide, by decide⟩ ?_
    exact z_iret (pc := 14) (by decide +kernel) rfl k
theorem b_Mod_tells_0 {E : EN} {d : Nat} {a1 : Int} {σ : Mem} {K : Int → Mem → Prop}  (hd : 1 ≤ d) (k : CV E y_Mod_isNone (d - 1) [vr 115] σ (fun τ1 => Z E y_Mod_tells d 11 [some (vr 115), some (vi a1), some (vi 0)] [] (up τ1 115 25 0) (qi K))) :
    Z E y_Mod_tells d 0 [some (vr 115), some (vi a1), none] [] σ (qi K) := by
  refine z_aload_n (pc := 0) (q := 0) (by decide +kernel) rfl ?_
  refine z_callv (pc := 1) (as := []) ml_Mod_274 rfl ⟨rfl, by decide⟩ rfl rfl (Nat.le_of_ble_eq_true rfl) (dc := d - 1) (by omega) (by decide +kernel) (CV.z (CV.mono (fun τ1 k => ?_) k))
  refine z_aload_n (pc := 4) (q := 0) (by decide +kernel) rfl ?_
  refine z_iconst (pc := 5) (n := 0) (by decide +kernel) ⟨by decide, by decide⟩ ?_
  refine z_putI (pc := 6) 25 fp_Mod_289 rfl rfl rfl (by decide +kernel) ?_
  refine z_iconst (pc := 9) (n := 0) (by decide +kernel) ⟨by decide, by decide⟩ ?_
  refine z_istore_n (pc := 10) (q := 2) [some (vr 115), some (vi a1), some (vi 0)] (by decide +kernel) (Nat.le_of_ble_eq_true rfl) rfl ?_
  exact k
theorem b_Mod_tells_11 {E : EN} {d : Nat} {a1 : Int} {a2 : Int} {σ : Mem} {K : Int → Mem → Prop}  (hd : 1 ≤ d) (k : (0 ≤ a1 ∧ a1 < 4) ∧ (σ 131 a1 ≤ a2 → K (σ 131 a1) σ) ∧ (a2 < σ 131 a1 → (0 ≤ w32 ((w32 (40 * a1)) + a2) ∧ w32 ((w32 (40 * a1)) + a2) < 160) ∧ CI E y_Mod_does (d - 1) [vr 115, vl (σ 132 (w32 ((w32 (40 * a1)) + a2)))] σ (fun x1 τ1 => (x1 = 0 → Z E y_Mod_tells d 11 [some (vr 115), some (vi a1), some (vi (w32 (a2 + 1)))] [] (up τ1 115 25 x1) (qi K)) ∧ (x1 ≠ 0 → K a2 (up τ1 115 25 x1))))) :
    Z E y_Mod_tells d 11 [some (vr 115), some (vi a1), some (vi a2)] [] σ (qi K) := by
  refine z_iload_n (pc := 11) (q := 2) (by decide +kernel) rfl ?_
  refine z_aload_n (pc := 12) (q := 0) (by decide +kernel) rfl ?_
  refine z_getR (pc := 13) 131 fl_Mod_63 rfl rfl rfl (by decide +kernel) ?_
  refine z_iload_n (pc := 16) (q := 1) (by decide +kernel) rfl ?_
  have hb1 := k.1
  have k := k.2
  refine z_iald (pc := 17) rfl hb1 (by decide +kernel) ?_
  refine z_icmp_ge (pc := 18) (off := 37) 55 (by decide +kernel) (by decide) ⟨fun hc => ?_, fun hc => ?_⟩
  · have k := k.1 hc
    refine z_aload_n (pc := 55) (q := 0) (by decide +kernel) rfl ?_
    refine z_getR (pc := 56) 131 fl_Mod_63 rfl rfl rfl (by decide +kernel) ?_
    refine z_iload_n (pc := 59) (q := 1) (by decide +kernel) rfl ?_
    refine z_iald (pc := 60) rfl hb1 (by decide +kernel) ?_
    exact z_iret (pc := 61) (by decide +kernel) rfl k
  · have k := k.2 hc
    refine z_aload_n (pc := 21) (q := 0) (by decide +kernel) rfl ?_
    refine z_aload_n (pc := 22) (q := 0) (by decide +kernel) rfl ?_
    refine z_aload_n (pc := 23) (q := 0) (by decide +kernel) rfl ?_
    refine z_getR (pc := 24) 132 fl_Mod_66 rfl rfl rfl (by decide +kernel) ?_
    refine z_bipush (pc := 27) (n := 40) (by decide +kernel) (by decide) ⟨by decide, by decide⟩ ?_
    refine z_iload_n (pc := 29) (q := 1) (by decide +kernel) rfl ?_
    refine z_imul (pc := 30) (by decide +kernel) ?_
    refine z_iload_n (pc := 31) (q := 2) (by decide +kernel) rfl ?_
    refine z_iadd (pc := 32) (by decide +kernel) ?_
    have hb2 := k.1
    have k := k.2
    refine z_lald (pc := 33) rfl hb2 (by decide +kernel) ?_
    refine z_callv (pc := 34) (as := [vl (σ 132 (w32 ((w32 (40 * a1)) + a2)))]) ml_Mod_319 rfl ⟨rfl, by decide⟩ rfl rfl (Nat.le_of_ble_eq_true rfl) (dc := d - 1) (by omega) (by decide +kernel) (CI.z (CI.mono (fun x1 τ1 k => ?_) k))
    refine z_putI (pc := 37) 25 fp_Mod_289 rfl rfl rfl (by decide +kernel) ?_
    refine z_aload_n (pc := 40) (q := 0) (by decide +kernel) rfl ?_
    refine z_getI (pc := 41) 25 fl_Mod_289 rfl (by decide) rfl (by decide +kernel) ?_
    refine z_topI (up_same _ _ _ _) ?_
    refine z_if_eq (pc := 44) (off := 5) 49 (by decide +kernel) (by decide) ⟨fun hc => ?_, fun hc => ?_⟩
    · have k := k.1 hc
      refine z_iinc (pc := 49) (i := 2) (n := 1) [some (vr 115), some (vi a1), some (vi (w32 (a2 + 1)))] (by decide +kernel) rfl rfl ?_
      refine z_goto (pc := 52) (off := -41) 11 (by decide +kernel) (by decide) ?_
      exact k
    · have k := k.2 hc
      refine z_iload_n (pc := 47) (q := 2) (by decide +kernel) rfl ?_
      exact z_iret (pc := 48) (by decide +kernel) rfl k
theorem b_Mod_judge_0 {E : EN} {d : Nat} {a1 : Int} {a2 : Int} {σ : Mem} {K : Int → Mem → Prop}  (hd : 1 ≤ d) (k : CI E y_Mod_within (d - 1) [vl a2, vl 0, vl 3] (up σ 115 0 0) (fun x1 τ1 => (x1 ≠ 0 → CI E y_Mod_noTray (d - 1) [vr 115, vi a1] τ1 (fun x2 τ2 => (x2 = 0 → CV E y_Mod_keeps (d - 1) [vr 115] τ2 (fun τ3 => CI E y_Mod_tells (d - 1) [vr 115, vi a1] τ3 (fun x4 τ4 => CV E y_Mod_isAgain (d - 1) [vr 115] τ4 (fun τ5 => (a2 ≠ 0 → (a2 ≠ 1 → (a2 ≠ 2 → K (τ4 116 82) τ5) ∧ (a2 = 2 → K (τ4 116 79) τ5)) ∧ (a2 = 1 → K (τ5 115 25) τ5)) ∧ (a2 = 0 → (τ5 115 25 ≠ 0 → K x4 τ5) ∧ (τ5 115 25 = 0 → K (-1) τ5)))))) ∧ (x2 ≠ 0 → K x2 τ2))) ∧ (x1 = 0 → K (-2) τ1))) :
    Z E y_Mod_judge d 0 [some (vr 115), some (vi a1), some (vi a2), none, none, none, none] [] σ (qi K) := by
  refine z_aload_n (pc := 0) (q := 0) (by decide +kernel) rfl ?_
  refine z_iconst (pc := 1) (n := 0) (by decide +kernel) ⟨by decide, by decide⟩ ?_
  refine z_putI (pc := 2) 0 fp_Mod_1 rfl rfl rfl (by decide +kernel) ?_
  refine z_iload_n (pc := 5) (q := 2) (by decide +kernel) rfl ?_
  refine z_i2l (pc := 6) (by decide +kernel) ?_
  refine z_lconst (pc := 7) (n := 0) 0 (by decide +kernel) (by decide) ⟨by decide, by decide⟩ ?_
  refine z_ldc2 (pc := 8) (index := 287) 3 (mm7 215 rfl) ⟨by decide, by decide⟩ (by decide +kernel) ?_
  refine z_calls (pc := 11) (as := [vl a2, vl 0, vl 3]) ml_Mod_136 rfl rfl (Nat.le_of_ble_eq_true rfl) (dc := d - 1) (by omega) (by decide +kernel) (CI.z (CI.mono (fun x1 τ1 k => ?_) k))
  refine z_if_ne (pc := 14) (off := 6) 20 (by decide +kernel) (by decide) ⟨fun hc => ?_, fun hc => ?_⟩
  · have k := k.1 hc
    refine z_aload_n (pc := 20) (q := 0) (by decide +kernel) rfl ?_
    refine z_iload_n (pc := 21) (q := 1) (by decide +kernel) rfl ?_
    refine z_callv (pc := 22) (as := [vi a1]) ml_Mod_296 rfl ⟨rfl, by decide⟩ rfl rfl (Nat.le_of_ble_eq_true rfl) (dc := d - 1) (by omega) (by decide +kernel) (CI.z (CI.mono (fun x2 τ2 k => ?_) k))
    refine z_istore_n (pc := 25) (q := 3) [some (vr 115), some (vi a1), some (vi a2), some (vi x2), none, none, none] (by decide +kernel) (Nat.le_of_ble_eq_true rfl) rfl ?_
    refine z_iload_n (pc := 26) (q := 3) (by decide +kernel) rfl ?_
    refine z_if_eq (pc := 27) (off := 5) 32 (by decide +kernel) (by decide) ⟨fun hc => ?_, fun hc => ?_⟩
    · have k := k.1 hc
      refine z_aload_n (pc := 32) (q := 0) (by decide +kernel) rfl ?_
      refine z_callv (pc := 33) (as := []) ml_Mod_281 rfl ⟨rfl, by decide⟩ rfl rfl (Nat.le_of_ble_eq_true rfl) (dc := d - 1) (by omega) (by decide +kernel) (CV.z (CV.mono (fun τ3 k => ?_) k))
      refine z_aload_n (pc := 36) (q := 0) (by decide +kernel) rfl ?_
      refine z_iload_n (pc := 37) (q := 1) (by decide +kernel) rfl ?_
      refine z_callv (pc := 38) (as := [vi a1]) ml_Mod_322 rfl ⟨rfl, by decide⟩ rfl rfl (Nat.le_of_ble_eq_true rfl) (dc := d - 1) (by omega) (by decide +kernel) (CI.z (CI.mono (fun x4 τ4 k => ?_) k))
      refine z_istore (pc := 41) (i := 4) [some (vr 115), some (vi a1), some (vi a2), some (vi x2), some (vi x4), none, none] (by decide +kernel) (Nat.le_of_ble_eq_true rfl) rfl ?_
      refine z_aload_n (pc := 43) (q := 0) (by decide +kernel) rfl ?_
      refine z_getR (pc := 44) 116 fl_Mod_13 rfl rfl rfl (by decide +kernel) ?_
      refine z_bipush (pc := 47) (n := 79) (by decide +kernel) (by decide) ⟨by decide, by decide⟩ ?_
      refine z_iald (pc := 49) rfl ⟨by decide, by decide⟩ (by decide +kernel) ?_
      refine z_istore (pc := 50) (i := 5) [some (vr 115), some (vi a1), some (vi a2), some (vi x2), some (vi x4), some (vi (τ4 116 79)), none] (by decide +kernel) (Nat.le_of_ble_eq_true rfl) rfl ?_
      refine z_aload_n (pc := 52) (q := 0) (by decide +kernel) rfl ?_
      refine z_getR (pc := 53) 116 fl_Mod_13 rfl rfl rfl (by decide +kernel) ?_
      refine z_bipush (pc := 56) (n := 82) (by decide +kernel) (by decide) ⟨by decide, by decide⟩ ?_
      refine z_iald (pc := 58) rfl ⟨by decide, by decide⟩ (by decide +kernel) ?_
      refine z_istore (pc := 59) (i := 6) [some (vr 115), some (vi a1), some (vi a2), some (vi x2), some (vi x4), some (vi (τ4 116 79)), some (vi (τ4 116 82))] (by decide +kernel) (Nat.le_of_ble_eq_true rfl) rfl ?_
      refine z_aload_n (pc := 61) (q := 0) (by decide +kernel) rfl ?_
      refine z_callv (pc := 62) (as := []) ml_Mod_325 rfl ⟨rfl, by decide⟩ rfl rfl (Nat.le_of_ble_eq_true rfl) (dc := d - 1) (by omega) (by decide +kernel) (CV.z (CV.mono (fun τ5 k => ?_) k))
      refine z_iload_n (pc := 65) (q := 2) (by decide +kernel) rfl ?_
      refine z_if_ne (pc := 66) (off := 19) 85 (by decide +kernel) (by decide) ⟨fun hc => ?_, fun hc => ?_⟩
      · have k := k.1 hc
        refine z_iload_n (pc := 85) (q := 2) (by decide +kernel) rfl ?_
        refine z_iconst (pc := 86) (n := 1) (by decide +kernel) ⟨by decide, by decide⟩ ?_
        refine z_icmp_ne (pc := 87) (off := 10) 97 (by decide +kernel) (by decide) ⟨fun hc => ?_, fun hc => ?_⟩
        · have k := k.1 hc
          refine z_iload_n (pc := 97) (q := 2) (by decide +kernel) rfl ?_
          refine z_iconst (pc := 98) (n := 2) (by decide +kernel) ⟨by decide, by decide⟩ ?_
          refine z_icmp_ne (pc := 99) (off := 8) 107 (by decide +kernel) (by decide) ⟨fun hc => ?_, fun hc => ?_⟩
          · have k := k.1 hc
            refine z_iload (pc := 107) (i := 6) (by decide +kernel) rfl ?_
            exact z_iret (pc := 109) (by decide +kernel) rfl k
          · have k := k.2 hc
            refine z_iload (pc := 102) (i := 5) (by decide +kernel) rfl ?_
            refine z_goto (pc := 104) (off := 5) 109 (by decide +kernel) (by decide) ?_
            exact z_iret (pc := 109) (by decide +kernel) rfl k
        · have k := k.2 hc
          refine z_aload_n (pc := 90) (q := 0) (by decide +kernel) rfl ?_
          refine z_getI (pc := 91) 25 fl_Mod_289 rfl (by decide) rfl (by decide +kernel) ?_
          refine z_goto (pc := 94) (off := 15) 109 (by decide +kernel) (by decide) ?_
          exact z_iret (pc := 109) (by decide +kernel) rfl k
      · have k := k.2 hc
        refine z_aload_n (pc := 69) (q := 0) (by decide +kernel) rfl ?_
        refine z_getI (pc := 70) 25 fl_Mod_289 rfl (by decide) rfl (by decide +kernel) ?_
        refine z_if_ne (pc := 73) (off := 7) 80 (by decide +kernel) (by decide) ⟨fun hc => ?_, fun hc => ?_⟩
        · have k := k.1 hc
          refine z_iload (pc := 80) (i := 4) (by decide +kernel) rfl ?_
          refine z_goto (pc := 82) (off := 27) 109 (by decide +kernel) (by decide) ?_
          exact z_iret (pc := 109) (by decide +kernel) rfl k
        · have k := k.2 hc
          refine z_iconst (pc := 76) (n := -1) (by decide +kernel) ⟨by decide, by decide⟩ ?_
          refine z_goto (pc := 77) (off := 32) 109 (by decide +kernel) (by decide) ?_
          exact z_iret (pc := 109) (by decide +kernel) rfl k
    · have k := k.2 hc
      refine z_iload_n (pc := 30) (q := 3) (by decide +kernel) rfl ?_
      exact z_iret (pc := 31) (by decide +kernel) rfl k
  · have k := k.2 hc
    refine z_bipush (pc := 17) (n := -2) (by decide +kernel) (by decide) ⟨by decide, by decide⟩ ?_
    exact z_iret (pc := 19) (by decide +kernel) rfl k
theorem b_Mod_perform_0 {E : EN} {d : Nat} {a1 : Int} {σ : Mem} {K : Int → Mem → Prop}  (hd : 1 ≤ d) (k : CI E y_Mod_noTray (d - 1) [vr 115, vi a1] (up σ 115 0 0) (fun x1 τ1 => (x1 = 0 → CV E y_Mod_keeps (d - 1) [vr 115] τ1 (fun τ2 => CI E y_Mod_tells (d - 1) [vr 115, vi a1] τ2 (fun x3 τ3 => (x3 ≤ 0 → K x3 τ3) ∧ (0 < x3 → CV E y_Mod_notes (d - 1) [vr 115] τ3 (fun τ4 => K x3 τ4))))) ∧ (x1 ≠ 0 → K x1 τ1))) :
    Z E y_Mod_perform d 0 [some (vr 115), some (vi a1), none, none] [] σ (qi K) := by
  refine z_aload_n (pc := 0) (q := 0) (by decide +kernel) rfl ?_
  refine z_iconst (pc := 1) (n := 0) (by decide +kernel) ⟨by decide, by decide⟩ ?_
  refine z_putI (pc := 2) 0 fp_Mod_1 rfl rfl rfl (by decide +kernel) ?_
  refine z_aload_n (pc := 5) (q := 0) (by decide +kernel) rfl ?_
  refine z_iload_n (pc := 6) (q := 1) (by decide +kernel) rfl ?_
  refine z_callv (pc := 7) (as := [vi a1]) ml_Mod_296 rfl ⟨rfl, by decide⟩ rfl rfl (Nat.le_of_ble_eq_true rfl) (dc := d - 1) (by omega) (by decide +kernel) (CI.z (CI.mono (fun x1 τ1 k => ?_) k))
  refine z_istore_n (pc := 10) (q := 2) [some (vr 115), some (vi a1), some (vi x1), none] (by decide +kernel) (Nat.le_of_ble_eq_true rfl) rfl ?_
  refine z_iload_n (pc := 11) (q := 2) (by decide +kernel) rfl ?_
  refine z_if_eq (pc := 12) (off := 5) 17 (by decide +kernel) (by decide) ⟨fun hc => ?_, fun hc => ?_⟩
  · have k := k.1 hc
    refine z_aload_n (pc := 17) (q := 0) (by decide +kernel) rfl ?_
    refine z_callv (pc := 18) (as := []) ml_Mod_281 rfl ⟨rfl, by decide⟩ rfl rfl (Nat.le_of_ble_eq_true rfl) (dc := d - 1) (by omega) (by decide +kernel) (CV.z (CV.mono (fun τ2 k => ?_) k))
    refine z_aload_n (pc := 21) (q := 0) (by decide +kernel) rfl ?_
    refine z_iload_n (pc := 22) (q := 1) (by decide +kernel) rfl ?_
    refine z_callv (pc := 23) (as := [vi a1]) ml_Mod_322 rfl ⟨rfl, by decide⟩ rfl rfl (Nat.le_of_ble_eq_true rfl) (dc := d - 1) (by omega) (by decide +kernel) (CI.z (CI.mono (fun x3 τ3 k => ?_) k))
    refine z_istore_n (pc := 26) (q := 3) [some (vr 115), some (vi a1), some (vi x1), some (vi x3)] (by decide +kernel) (Nat.le_of_ble_eq_true rfl) rfl ?_
    refine z_iload_n (pc := 27) (q := 3) (by decide +kernel) rfl ?_
    refine z_if_le (pc := 28) (off := 7) 35 (by decide +kernel) (by decide) ⟨fun hc => ?_, fun hc => ?_⟩
    · have k := k.1 hc
      refine z_iload_n (pc := 35) (q := 3) (by decide +kernel) rfl ?_
      exact z_iret (pc := 36) (by decide +kernel) rfl k
    · have k := k.2 hc
      refine z_aload_n (pc := 31) (q := 0) (by decide +kernel) rfl ?_
      refine z_callv (pc := 32) (as := []) ml_Mod_284 rfl ⟨rfl, by decide⟩ rfl rfl (Nat.le_of_ble_eq_true rfl) (dc := d - 1) (by omega) (by decide +kernel) (CV.z (CV.mono (fun τ4 k => ?_) k))
      refine z_iload_n (pc := 35) (q := 3) (by decide +kernel) rfl ?_
      exact z_iret (pc := 36) (by decide +kernel) rfl k
  · have k := k.2 hc
    refine z_iload_n (pc := 15) (q := 2) (by decide +kernel) rfl ?_
    exact z_iret (pc := 16) (by decide +kernel) rfl k
theorem b_Mod_mornings_0 {E : EN} {d : Nat} {a1 : Int} {a2 : Int} {σ : Mem} {K : Int → Mem → Prop}  (hd : 1 ≤ d) (k : CI E y_Mod_within (d - 1) [vl a2, vl 1, vl 30] (up σ 115 0 0) (fun x1 τ1 => (x1 ≠ 0 → (τ1 116 2 ≠ 0 → CV E y_Mod_keeps (d - 1) [vr 115] τ1 (fun τ2 => Z E y_Mod_mornings d 46 [some (vr 115), some (vi a1), some (vi a2), some (vi 0)] [] (up τ2 116 83 a1) (qi K))) ∧ (τ1 116 2 = 0 → K (-5) τ1)) ∧ (x1 = 0 → K (-3) τ1))) :
    Z E y_Mod_mornings d 0 [some (vr 115), some (vi a1), some (vi a2), none] [] σ (qi K) := by
  refine z_aload_n (pc := 0) (q := 0) (by decide +kernel) rfl ?_
  refine z_iconst (pc := 1) (n := 0) (by decide +kernel) ⟨by decide, by decide⟩ ?_
  refine z_putI (pc := 2) 0 fp_Mod_1 rfl rfl rfl (by decide +kernel) ?_
  refine z_iload_n (pc := 5) (q := 2) (by decide +kernel) rfl ?_
  refine z_i2l (pc := 6) (by decide +kernel) ?_
  refine z_lconst (pc := 7) (n := 1) 1 (by decide +kernel) (by decide) ⟨by decide, by decide⟩ ?_
  refine z_ldc2 (pc := 8) (index := 328) 30 (mm8 67 rfl) ⟨by decide, by decide⟩ (by decide +kernel) ?_
  refine z_calls (pc := 11) (as := [vl a2, vl 1, vl 30]) ml_Mod_136 rfl rfl (Nat.le_of_ble_eq_true rfl) (dc := d - 1) (by omega) (by decide +kernel) (CI.z (CI.mono (fun x1 τ1 k => ?_) k))
  refine z_if_ne (pc := 14) (off := 6) 20 (by decide +kernel) (by decide) ⟨fun hc => ?_, fun hc => ?_⟩
  · have k := k.1 hc
    refine z_aload_n (pc := 20) (q := 0) (by decide +kernel) rfl ?_
    refine z_getR (pc := 21) 116 fl_Mod_13 rfl rfl rfl (by decide +kernel) ?_
    refine z_iconst (pc := 24) (n := 2) (by decide +kernel) ⟨by decide, by decide⟩ ?_
    refine z_iald (pc := 25) rfl ⟨by decide, by decide⟩ (by decide +kernel) ?_
    refine z_if_ne (pc := 26) (off := 6) 32 (by decide +kernel) (by decide) ⟨fun hc => ?_, fun hc => ?_⟩
    · have k := k.1 hc
      refine z_aload_n (pc := 32) (q := 0) (by decide +kernel) rfl ?_
      refine z_callv (pc := 33) (as := []) ml_Mod_281 rfl ⟨rfl, by decide⟩ rfl rfl (Nat.le_of_ble_eq_true rfl) (dc := d - 1) (by omega) (by decide +kernel) (CV.z (CV.mono (fun τ2 k => ?_) k))
      refine z_aload_n (pc := 36) (q := 0) (by decide +kernel) rfl ?_
      refine z_getR (pc := 37) 116 fl_Mod_13 rfl rfl rfl (by decide +kernel) ?_
      refine z_bipush (pc := 40) (n := 83) (by decide +kernel) (by decide) ⟨by decide, by decide⟩ ?_
      refine z_iload_n (pc := 42) (q := 1) (by decide +kernel) rfl ?_
      refine z_iast (pc := 43) rfl ⟨by decide, by decide⟩ (by decide +kernel) ?_
      refine z_iconst (pc := 44) (n := 0) (by decide +kernel) ⟨by decide, by decide⟩ ?_
      refine z_istore_n (pc := 45) (q := 3) [some (vr 115), some (vi a1), some (vi a2), some (vi 0)] (by decide +kernel) (Nat.le_of_ble_eq_true rfl) rfl ?_
      exact k
    · have k := k.2 hc
      refine z_bipush (pc := 29) (n := -5) (by decide +kernel) (by decide) ⟨by decide, by decide⟩ ?_
      exact z_iret (pc := 31) (by decide +kernel) rfl k
  · have k := k.2 hc
    refine z_bipush (pc := 17) (n := -3) (by decide +kernel) (by decide) ⟨by decide, by decide⟩ ?_
    exact z_iret (pc := 19) (by decide +kernel) rfl k
theorem b_Mod_mornings_46 {E : EN} {d : Nat} {a1 : Int} {a2 : Int} {o1 : Option AV} {a3 : Int} {σ : Mem} {K : Int → Mem → Prop}  (hd : 1 ≤ d) (k : (a2 ≤ a3 → CV E y_Mod_notes (d - 1) [vr 115] σ (fun τ1 => K (τ1 116 79) τ1)) ∧ (a3 < a2 → CI E y_Mod_draw (d - 1) [vr 115] σ (fun x2 τ2 => (Int.tmod x2 3 ≠ 0 → CI E y_Mod_draw (d - 1) [vr 115] τ2 (fun x3 τ3 => (τ3 116 2 ≠ 0) ∧ Z E y_Mod_mornings d 46 [some (vr 115), o1, some (vi a2), some (vi (w32 (a3 + 1)))] [] (up τ3 116 81 (ixo (τ2 116 81) (ish 1 (Int.tmod x3 (τ3 116 2))))) (qi K))) ∧ (Int.tmod x2 3 = 0 → CV E y_Mod_goesRule (d - 1) [vr 115] τ2 (fun τ4 => Z E y_Mod_mornings d 46 [some (vr 115), o1, some (vi a2), some (vi (w32 (a3 + 1)))] [] τ4 (qi K)))))) :
    Z E y_Mod_mornings d 46 [some (vr 115), o1, some (vi a2), some (vi a3)] [] σ (qi K) := by
  refine z_iload_n (pc := 46) (q := 3) (by decide +kernel) rfl ?_
  refine z_iload_n (pc := 47) (q := 2) (by decide +kernel) rfl ?_
  refine z_icmp_ge (pc := 48) (off := 48) 96 (by decide +kernel) (by decide) ⟨fun hc => ?_, fun hc => ?_⟩
  · have k := k.1 hc
    refine z_aload_n (pc := 96) (q := 0) (by decide +kernel) rfl ?_
    refine z_callv (pc := 97) (as := []) ml_Mod_284 rfl ⟨rfl, by decide⟩ rfl rfl (Nat.le_of_ble_eq_true rfl) (dc := d - 1) (by omega) (by decide +kernel) (CV.z (CV.mono (fun τ1 k => ?_) k))
    refine z_aload_n (pc := 100) (q := 0) (by decide +kernel) rfl ?_
    refine z_getR (pc := 101) 116 fl_Mod_13 rfl rfl rfl (by decide +kernel) ?_
    refine z_bipush (pc := 104) (n := 79) (by decide +kernel) (by decide) ⟨by decide, by decide⟩ ?_
    refine z_iald (pc := 106) rfl ⟨by decide, by decide⟩ (by decide +kernel) ?_
    exact z_iret (pc := 107) (by decide +kernel) rfl k
  · have k := k.2 hc
    refine z_aload_n (pc := 51) (q := 0) (by decide +kernel) rfl ?_
    refine z_callv (pc := 52) (as := []) ml_Mod_278 rfl ⟨rfl, by decide⟩ rfl rfl (Nat.le_of_ble_eq_true rfl) (dc := d - 1) (by omega) (by decide +kernel) (CI.z (CI.mono (fun x2 τ2 k => ?_) k))
    refine z_iconst (pc := 55) (n := 3) (by decide +kernel) ⟨by decide, by decide⟩ ?_
    refine z_irem (pc := 56) (by decide +kernel) (by decide) ?_
    refine z_if_ne (pc := 57) (off := 10) 67 (by decide +kernel) (by decide) ⟨fun hc => ?_, fun hc => ?_⟩
    · have k := k.1 hc
      refine z_aload_n (pc := 67) (q := 0) (by decide +kernel) rfl ?_
      refine z_getR (pc := 68) 116 fl_Mod_13 rfl rfl rfl (by decide +kernel) ?_
      refine z_bipush (pc := 71) (n := 81) (by decide +kernel) (by decide) ⟨by decide, by decide⟩ ?_
      refine z_dup2 (pc := 73) (by decide +kernel) rfl rfl ?_
      refine z_iald (pc := 74) rfl ⟨by decide, by decide⟩ (by decide +kernel) ?_
      refine z_iconst (pc := 75) (n := 1) (by decide +kernel) ⟨by decide, by decide⟩ ?_
      refine z_aload_n (pc := 76) (q := 0) (by decide +kernel) rfl ?_
      refine z_callv (pc := 77) (as := []) ml_Mod_278 rfl ⟨rfl, by decide⟩ rfl rfl (Nat.le_of_ble_eq_true rfl) (dc := d - 1) (by omega) (by decide +kernel) (CI.z (CI.mono (fun x3 τ3 k => ?_) k))
      refine z_aload_n (pc := 80) (q := 0) (by decide +kernel) rfl ?_
      refine z_getR (pc := 81) 116 fl_Mod_13 rfl rfl rfl (by decide +kernel) ?_
      refine z_iconst (pc := 84) (n := 2) (by decide +kernel) ⟨by decide, by decide⟩ ?_
      refine z_iald (pc := 85) rfl ⟨by decide, by decide⟩ (by decide +kernel) ?_
      have hb1 := k.1
      have k := k.2
      refine z_irem (pc := 86) (by decide +kernel) hb1 ?_
      refine z_ishl (pc := 87) (by decide +kernel) ?_
      refine z_ixor (pc := 88) (by decide +kernel) ?_
      refine z_iast (pc := 89) rfl ⟨by decide, by decide⟩ (by decide +kernel) ?_
      refine z_iinc (pc := 90) (i := 3) (n := 1) [some (vr 115), o1, some (vi a2), some (vi (w32 (a3 + 1)))] (by decide +kernel) rfl rfl ?_
      refine z_goto (pc := 93) (off := -47) 46 (by decide +kernel) (by decide) ?_
      exact k
    · have k := k.2 hc
      refine z_aload_n (pc := 60) (q := 0) (by decide +kernel) rfl ?_
      refine z_callv (pc := 61) (as := []) ml_Mod_308 rfl ⟨rfl, by decide⟩ rfl rfl (Nat.le_of_ble_eq_true rfl) (dc := d - 1) (by omega) (by decide +kernel) (CV.z (CV.mono (fun τ4 k => ?_) k))
      refine z_goto (pc := 64) (off := 26) 90 (by decide +kernel) (by decide) ?_
      refine z_iinc (pc := 90) (i := 3) (n := 1) [some (vr 115), o1, some (vi a2), some (vi (w32 (a3 + 1)))] (by decide +kernel) rfl rfl ?_
      refine z_goto (pc := 93) (off := -47) 46 (by decide +kernel) (by decide) ?_
      exact k
theorem b_Mod_row_0 {E : EN} {d : Nat} {a1 : Int} {a2 : Int} {σ : Mem} {K : Int → Mem → Prop}  (hd : 1 ≤ d) (k : CI E y_Mod_within (d - 1) [vl a2, vl 0, vl 2] (up σ 115 0 0) (fun x1 τ1 => (x1 ≠ 0 → CI E y_Mod_noTray (d - 1) [vr 115, vi a1] τ1 (fun x2 τ2 => (x2 = 0 → CI E y_Mod_laysTold (d - 1) [vr 115, vi a1] τ2 (fun x3 τ3 => (a2 ≠ 0 → (a2 ≠ 1 → CI E y_Mod_mendedBy (d - 1) [vr 115] τ3 (fun x4 τ4 => K x4 τ4)) ∧ (a2 = 1 → K (τ3 115 25) τ3)) ∧ (a2 = 0 → (τ3 115 25 ≠ 0 → K x3 τ3) ∧ (τ3 115 25 = 0 → K (-1) τ3)))) ∧ (x2 ≠ 0 → K x2 τ2))) ∧ (x1 = 0 → K (-2) τ1))) :
    Z E y_Mod_row d 0 [some (vr 115), some (vi a1), some (vi a2), none, none] [] σ (qi K) := by
  refine z_aload_n (pc := 0) (q := 0) (by decide +kernel) rfl ?_
  refine z_iconst (pc := 1) (n := 0) (by decide +kernel) ⟨by decide, by decide⟩ ?_
  refine z_putI (pc := 2) 0 fp_Mod_1 rfl rfl rfl (by decide +kernel) ?_
  refine z_iload_n (pc := 5) (q := 2) (by decide +kernel) rfl ?_
  refine z_i2l (pc := 6) (by decide +kernel) ?_
  refine z_lconst (pc := 7) (n := 0) 0 (by decide +kernel) (by decide) ⟨by decide, by decide⟩ ?_
  refine z_ldc2 (pc := 8) (index := 234) 2 (mm7 157 rfl) ⟨by decide, by decide⟩ (by decide +kernel) ?_
  refine z_calls (pc := 11) (as := [vl a2, vl 0, vl 2]) ml_Mod_136 rfl rfl (Nat.le_of_ble_eq_true rfl) (dc := d - 1) (by omega) (by decide +kernel) (CI.z (CI.mono (fun x1 τ1 k => ?_) k))
  refine z_if_ne (pc := 14) (off := 6) 20 (by decide +kernel) (by decide) ⟨fun hc => ?_, fun hc => ?_⟩
  · have k := k.1 hc
    refine z_aload_n (pc := 20) (q := 0) (by decide +kernel) rfl ?_
    refine z_iload_n (pc := 21) (q := 1) (by decide +kernel) rfl ?_
    refine z_callv (pc := 22) (as := [vi a1]) ml_Mod_296 rfl ⟨rfl, by decide⟩ rfl rfl (Nat.le_of_ble_eq_true rfl) (dc := d - 1) (by omega) (by decide +kernel) (CI.z (CI.mono (fun x2 τ2 k => ?_) k))
    refine z_istore_n (pc := 25) (q := 3) [some (vr 115), some (vi a1), some (vi a2), some (vi x2), none] (by decide +kernel) (Nat.le_of_ble_eq_true rfl) rfl ?_
    refine z_iload_n (pc := 26) (q := 3) (by decide +kernel) rfl ?_
    refine z_if_eq (pc := 27) (off := 5) 32 (by decide +kernel) (by decide) ⟨fun hc => ?_, fun hc => ?_⟩
    · have k := k.1 hc
      refine z_aload_n (pc := 32) (q := 0) (by decide +kernel) rfl ?_
      refine z_iload_n (pc := 33) (q := 1) (by decide +kernel) rfl ?_
      refine z_callv (pc := 34) (as := [vi a1]) ml_Mod_299 rfl ⟨rfl, by decide⟩ rfl rfl (Nat.le_of_ble_eq_true rfl) (dc := d - 1) (by omega) (by decide +kernel) (CI.z (CI.mono (fun x3 τ3 k => ?_) k))
      refine z_istore (pc := 37) (i := 4) [some (vr 115), some (vi a1), some (vi a2), some (vi x2), some (vi x3)] (by decide +kernel) (Nat.le_of_ble_eq_true rfl) rfl ?_
      refine z_iload_n (pc := 39) (q := 2) (by decide +kernel) rfl ?_
      refine z_if_ne (pc := 40) (off := 19) 59 (by decide +kernel) (by decide) ⟨fun hc => ?_, fun hc => ?_⟩
      · have k := k.1 hc
        refine z_iload_n (pc := 59) (q := 2) (by decide +kernel) rfl ?_
        refine z_iconst (pc := 60) (n := 1) (by decide +kernel) ⟨by decide, by decide⟩ ?_
        refine z_icmp_ne (pc := 61) (off := 10) 71 (by decide +kernel) (by decide) ⟨fun hc => ?_, fun hc => ?_⟩
        · have k := k.1 hc
          refine z_aload_n (pc := 71) (q := 0) (by decide +kernel) rfl ?_
          refine z_callv (pc := 72) (as := []) ml_Mod_268 rfl ⟨rfl, by decide⟩ rfl rfl (Nat.le_of_ble_eq_true rfl) (dc := d - 1) (by omega) (by decide +kernel) (CI.z (CI.mono (fun x4 τ4 k => ?_) k))
          exact z_iret (pc := 75) (by decide +kernel) rfl k
        · have k := k.2 hc
          refine z_aload_n (pc := 64) (q := 0) (by decide +kernel) rfl ?_
          refine z_getI (pc := 65) 25 fl_Mod_289 rfl (by decide) rfl (by decide +kernel) ?_
          refine z_goto (pc := 68) (off := 7) 75 (by decide +kernel) (by decide) ?_
          exact z_iret (pc := 75) (by decide +kernel) rfl k
      · have k := k.2 hc
        refine z_aload_n (pc := 43) (q := 0) (by decide +kernel) rfl ?_
        refine z_getI (pc := 44) 25 fl_Mod_289 rfl (by decide) rfl (by decide +kernel) ?_
        refine z_if_ne (pc := 47) (off := 7) 54 (by decide +kernel) (by decide) ⟨fun hc => ?_, fun hc => ?_⟩
        · have k := k.1 hc
          refine z_iload (pc := 54) (i := 4) (by decide +kernel) rfl ?_
          refine z_goto (pc := 56) (off := 19) 75 (by decide +kernel) (by decide) ?_
          exact z_iret (pc := 75) (by decide +kernel) rfl k
        · have k := k.2 hc
          refine z_iconst (pc := 50) (n := -1) (by decide +kernel) ⟨by decide, by decide⟩ ?_
          refine z_goto (pc := 51) (off := 24) 75 (by decide +kernel) (by decide) ?_
          exact z_iret (pc := 75) (by decide +kernel) rfl k
    · have k := k.2 hc
      refine z_iload_n (pc := 30) (q := 3) (by decide +kernel) rfl ?_
      exact z_iret (pc := 31) (by decide +kernel) rfl k
  · have k := k.2 hc
    refine z_bipush (pc := 17) (n := -2) (by decide +kernel) (by decide) ⟨by decide, by decide⟩ ?_
    exact z_iret (pc := 19) (by decide +kernel) rfl k
theorem b_Mod_when_0 {E : EN} {d : Nat} {a1 : Int} {a2 : Int} {a3 : Int} {σ : Mem} {K : Int → Mem → Prop}  (hd : 1 ≤ d) (k : CI E y_Mod_within (d - 1) [vl a3, vl 0, vl 2] (up σ 115 0 0) (fun x1 τ1 => (x1 ≠ 0 → CI E y_Mod_noTray (d - 1) [vr 115, vi a1] τ1 (fun x2 τ2 => (x2 = 0 → (0 ≤ a1 ∧ a1 < 4) ∧ CI E y_Mod_within (d - 1) [vl a2, vl 0, vl (w32 ((τ2 131 a1) - 1))] τ2 (fun x3 τ3 => (x3 ≠ 0 → CI E y_Mod_laysTold (d - 1) [vr 115, vi a1] τ3 (fun x4 τ4 => (a2 < x4 → Z E y_Mod_when d 67 [some (vr 115), some (vi a1), some (vi a2), some (vi a3), some (vi x2)] [] τ4 (qi K)) ∧ (x4 ≤ a2 → K (-1) τ4))) ∧ (x3 = 0 → K (-7) τ3))) ∧ (x2 ≠ 0 → K x2 τ2))) ∧ (x1 = 0 → K (-2) τ1))) :
    Z E y_Mod_when d 0 [some (vr 115), some (vi a1), some (vi a2), some (vi a3), none] [] σ (qi K) := by
  refine z_aload_n (pc := 0) (q := 0) (by decide +kernel) rfl ?_
  refine z_iconst (pc := 1) (n := 0) (by decide +kernel) ⟨by decide, by decide⟩ ?_
  refine z_putI (pc := 2) 0 fp_Mod_1 rfl rfl rfl (by decide +kernel) ?_
  refine z_iload_n (pc := 5) (q := 3) (by decide +kernel) rfl ?_
  refine z_i2l (pc := 6) (by decide +kernel) ?_
  refine z_lconst (pc := 7) (n := 0) 0 (by decide +kernel) (by decide) ⟨by decide, by decide⟩ ?_
  refine z_ldc2 (pc := 8) (index := 234) 2 (mm7 157 rfl) ⟨by decide, by decide⟩ (by decide +kernel) ?_
  refine z_calls (pc := 11) (as := [vl a3, vl 0, vl 2]) ml_Mod_136 rfl rfl (Nat.le_of_ble_eq_true rfl) (dc := d - 1) (by omega) (by decide +kernel) (CI.z (CI.mono (fun x1 τ1 k => ?_) k))
  refine z_if_ne (pc := 14) (off := 6) 20 (by decide +kernel) (by decide) ⟨fun hc => ?_, fun hc => ?_⟩
  · have k := k.1 hc
    refine z_aload_n (pc := 20) (q := 0) (by decide +kernel) rfl ?_
    refine z_iload_n (pc := 21) (q := 1) (by decide +kernel) rfl ?_
    refine z_callv (pc := 22) (as := [vi a1]) ml_Mod_296 rfl ⟨rfl, by decide⟩ rfl rfl (Nat.le_of_ble_eq_true rfl) (dc := d - 1) (by omega) (by decide +kernel) (CI.z (CI.mono (fun x2 τ2 k => ?_) k))
    refine z_istore (pc := 25) (i := 4) [some (vr 115), some (vi a1), some (vi a2), some (vi a3), some (vi x2)] (by decide +kernel) (Nat.le_of_ble_eq_true rfl) rfl ?_
    refine z_iload (pc := 27) (i := 4) (by decide +kernel) rfl ?_
    refine z_if_eq (pc := 29) (off := 6) 35 (by decide +kernel) (by decide) ⟨fun hc => ?_, fun hc => ?_⟩
    · have k := k.1 hc
      refine z_iload_n (pc := 35) (q := 2) (by decide +kernel) rfl ?_
      refine z_i2l (pc := 36) (by decide +kernel) ?_
      refine z_lconst (pc := 37) (n := 0) 0 (by decide +kernel) (by decide) ⟨by decide, by decide⟩ ?_
      refine z_aload_n (pc := 38) (q := 0) (by decide +kernel) rfl ?_
      refine z_getR (pc := 39) 131 fl_Mod_63 rfl rfl rfl (by decide +kernel) ?_
      refine z_iload_n (pc := 42) (q := 1) (by decide +kernel) rfl ?_
      have hb1 := k.1
      have k := k.2
      refine z_iald (pc := 43) rfl hb1 (by decide +kernel) ?_
      refine z_iconst (pc := 44) (n := 1) (by decide +kernel) ⟨by decide, by decide⟩ ?_
      refine z_isub (pc := 45) (by decide +kernel) ?_
      refine z_i2l (pc := 46) (by decide +kernel) ?_
      refine z_calls (pc := 47) (as := [vl a2, vl 0, vl (w32 ((τ2 131 a1) - 1))]) ml_Mod_136 rfl rfl (Nat.le_of_ble_eq_true rfl) (dc := d - 1) (by omega) (by decide +kernel) (CI.z (CI.mono (fun x3 τ3 k => ?_) k))
      refine z_if_ne (pc := 50) (off := 6) 56 (by decide +kernel) (by decide) ⟨fun hc => ?_, fun hc => ?_⟩
      · have k := k.1 hc
        refine z_iload_n (pc := 56) (q := 2) (by decide +kernel) rfl ?_
        refine z_aload_n (pc := 57) (q := 0) (by decide +kernel) rfl ?_
        refine z_iload_n (pc := 58) (q := 1) (by decide +kernel) rfl ?_
        refine z_callv (pc := 59) (as := [vi a1]) ml_Mod_299 rfl ⟨rfl, by decide⟩ rfl rfl (Nat.le_of_ble_eq_true rfl) (dc := d - 1) (by omega) (by decide +kernel) (CI.z (CI.mono (fun x4 τ4 k => ?_) k))
        refine z_icmp_lt (pc := 62) (off := 5) 67 (by decide +kernel) (by decide) ⟨fun hc => ?_, fun hc => ?_⟩
        · have k := k.1 hc
          exact k
        · have k := k.2 hc
          refine z_iconst (pc := 65) (n := -1) (by decide +kernel) ⟨by decide, by decide⟩ ?_
          exact z_iret (pc := 66) (by decide +kernel) rfl k
      · have k := k.2 hc
        refine z_bipush (pc := 53) (n := -7) (by decide +kernel) (by decide) ⟨by decide, by decide⟩ ?_
        exact z_iret (pc := 55) (by decide +kernel) rfl k
    · have k := k.2 hc
      refine z_iload (pc := 32) (i := 4) (by decide +kernel) rfl ?_
      exact z_iret (pc := 34) (by decide +kernel) rfl k
  · have k := k.2 hc
    refine z_bipush (pc := 17) (n := -2) (by decide +kernel) (by decide) ⟨by decide, by decide⟩ ?_
    exact z_iret (pc := 19) (by decide +kernel) rfl k
theorem b_Mod_when_67 {E : EN} {d : Nat} {a1 : Int} {a2 : Int} {a3 : Int} {o1 : Option AV} {o4 : Option AV} {σ : Mem} {K : Int → Mem → Prop}  (hd : 1 ≤ d) (k : (σ 115 22 ≤ w32 (a2 + 1) → CI E y_Mod_mendedBy (d - 1) [vr 115] σ (fun x1 τ1 => (a3 ≠ 0 → (a3 ≠ 1 → (0 ≤ a2 ∧ a2 < 6) ∧ K (τ1 125 a2) τ1) ∧ (a3 = 1 → (0 ≤ a2 ∧ a2 < 6) ∧ K (τ1 124 a2) τ1)) ∧ (a3 = 0 → (0 ≤ a2 ∧ a2 < 6) ∧ K (τ1 123 a2) τ1))) ∧ (w32 (a2 + 1) < σ 115 22 → CV E y_Mod_goesLast (d - 1) [vr 115] σ (fun τ2 => Z E y_Mod_when d 67 [some (vr 115), o1, some (vi a2), some (vi a3), o4] [] τ2 (qi K)))) :
    Z E y_Mod_when d 67 [some (vr 115), o1, some (vi a2), some (vi a3), o4] [] σ (qi K) := by
  refine z_aload_n (pc := 67) (q := 0) (by decide +kernel) rfl ?_
  refine z_getI (pc := 68) 22 fl_Mod_248 rfl (by decide) rfl (by decide +kernel) ?_
  refine z_iload_n (pc := 71) (q := 2) (by decide +kernel) rfl ?_
  refine z_iconst (pc := 72) (n := 1) (by decide +kernel) ⟨by decide, by decide⟩ ?_
  refine z_iadd (pc := 73) (by decide +kernel) ?_
  refine z_icmp_le (pc := 74) (off := 10) 84 (by decide +kernel) (by decide) ⟨fun hc => ?_, fun hc => ?_⟩
  · have k := k.1 hc
    refine z_aload_n (pc := 84) (q := 0) (by decide +kernel) rfl ?_
    refine z_callv (pc := 85) (as := []) ml_Mod_268 rfl ⟨rfl, by decide⟩ rfl rfl (Nat.le_of_ble_eq_true rfl) (dc := d - 1) (by omega) (by decide +kernel) (CI.z (CI.mono (fun x1 τ1 k => ?_) k))
    refine z_pop (pc := 88) (by decide +kernel) rfl ?_
    refine z_iload_n (pc := 89) (q := 3) (by decide +kernel) rfl ?_
    refine z_if_ne (pc := 90) (off := 12) 102 (by decide +kernel) (by decide) ⟨fun hc => ?_, fun hc => ?_⟩
    · have k := k.1 hc
      refine z_iload_n (pc := 102) (q := 3) (by decide +kernel) rfl ?_
      refine z_iconst (pc := 103) (n := 1) (by decide +kernel) ⟨by decide, by decide⟩ ?_
      refine z_icmp_ne (pc := 104) (off := 12) 116 (by decide +kernel) (by decide) ⟨fun hc => ?_, fun hc => ?_⟩
      · have k := k.1 hc
        refine z_aload_n (pc := 116) (q := 0) (by decide +kernel) rfl ?_
        refine z_getR (pc := 117) 125 fl_Mod_45 rfl rfl rfl (by decide +kernel) ?_
        refine z_iload_n (pc := 120) (q := 2) (by decide +kernel) rfl ?_
        have hb1 := k.1
        have k := k.2
        refine z_iald (pc := 121) rfl hb1 (by decide +kernel) ?_
        exact z_iret (pc := 122) (by decide +kernel) rfl k
      · have k := k.2 hc
        refine z_aload_n (pc := 107) (q := 0) (by decide +kernel) rfl ?_
        refine z_getR (pc := 108) 124 fl_Mod_42 rfl rfl rfl (by decide +kernel) ?_
        refine z_iload_n (pc := 111) (q := 2) (by decide +kernel) rfl ?_
        have hb2 := k.1
        have k := k.2
        refine z_iald (pc := 112) rfl hb2 (by decide +kernel) ?_
        refine z_goto (pc := 113) (off := 9) 122 (by decide +kernel) (by decide) ?_
        exact z_iret (pc := 122) (by decide +kernel) rfl k
    · have k := k.2 hc
      refine z_aload_n (pc := 93) (q := 0) (by decide +kernel) rfl ?_
      refine z_getR (pc := 94) 123 fl_Mod_39 rfl rfl rfl (by decide +kernel) ?_
      refine z_iload_n (pc := 97) (q := 2) (by decide +kernel) rfl ?_
      have hb3 := k.1
      have k := k.2
      refine z_iald (pc := 98) rfl hb3 (by decide +kernel) ?_
      refine z_goto (pc := 99) (off := 23) 122 (by decide +kernel) (by decide) ?_
      exact z_iret (pc := 122) (by decide +kernel) rfl k
  · have k := k.2 hc
    refine z_aload_n (pc := 77) (q := 0) (by decide +kernel) rfl ?_
    refine z_callv (pc := 78) (as := []) ml_Mod_271 rfl ⟨rfl, by decide⟩ rfl rfl (Nat.le_of_ble_eq_true rfl) (dc := d - 1) (by omega) (by decide +kernel) (CV.z (CV.mono (fun τ2 k => ?_) k))
    refine z_goto (pc := 81) (off := -14) 67 (by decide +kernel) (by decide) ?_
    exact k
theorem b_Mod_goesBest_0 {E : EN} {d : Nat} {a1 : Int} {σ : Mem} {K : Mem → Prop}  (hd : 1 ≤ d) (k : CI E y_Mod_mendedBy (d - 1) [vr 115] σ (fun x1 τ1 => (x1 ≤ τ1 115 32 → (τ1 115 28 < a1 → Z E y_Mod_goesBest d 61 [some (vr 115), some (vi a1), some (vi x1), some (vi 0), none] [] (up (up (up τ1 115 28 a1) 115 27 (τ1 115 22)) 115 29 x1) (qv K)) ∧ (a1 ≤ τ1 115 28 → (a1 ≠ τ1 115 28 → Z E y_Mod_goesBest d 97 [some (vr 115), some (vi a1), some (vi x1), none, none] [] τ1 (qv K)) ∧ (a1 = τ1 115 28 → (τ1 115 27 ≤ τ1 115 22 → Z E y_Mod_goesBest d 97 [some (vr 115), some (vi a1), some (vi x1), none, none] [] τ1 (qv K)) ∧ (τ1 115 22 < τ1 115 27 → Z E y_Mod_goesBest d 61 [some (vr 115), some (vi a1), some (vi x1), some (vi 0), none] [] (up (up (up τ1 115 28 a1) 115 27 (τ1 115 22)) 115 29 x1) (qv K))))) ∧ (τ1 115 32 < x1 → K τ1))) :
    Z E y_Mod_goesBest d 0 [some (vr 115), some (vi a1), none, none, none] [] σ (qv K) := by
  refine z_aload_n (pc := 0) (q := 0) (by decide +kernel) rfl ?_
  refine z_callv (pc := 1) (as := []) ml_Mod_268 rfl ⟨rfl, by decide⟩ rfl rfl (Nat.le_of_ble_eq_true rfl) (dc := d - 1) (by omega) (by decide +kernel) (CI.z (CI.mono (fun x1 τ1 k => ?_) k))
  refine z_istore_n (pc := 4) (q := 2) [some (vr 115), some (vi a1), some (vi x1), none, none] (by decide +kernel) (Nat.le_of_ble_eq_true rfl) rfl ?_
  refine z_iload_n (pc := 5) (q := 2) (by decide +kernel) rfl ?_
  refine z_aload_n (pc := 6) (q := 0) (by decide +kernel) rfl ?_
  refine z_getI (pc := 7) 32 fl_Mod_330 rfl (by decide) rfl (by decide +kernel) ?_
  refine z_icmp_le (pc := 10) (off := 4) 14 (by decide +kernel) (by decide) ⟨fun hc => ?_, fun hc => ?_⟩
  · have k := k.1 hc
    refine z_iload_n (pc := 14) (q := 1) (by decide +kernel) rfl ?_
    refine z_aload_n (pc := 15) (q := 0) (by decide +kernel) rfl ?_
    refine z_getI (pc := 16) 28 fl_Mod_333 rfl (by decide) rfl (by decide +kernel) ?_
    refine z_icmp_gt (pc := 19) (off := 22) 41 (by decide +kernel) (by decide) ⟨fun hc => ?_, fun hc => ?_⟩
    · have k := k.1 hc
      refine z_aload_n (pc := 41) (q := 0) (by decide +kernel) rfl ?_
      refine z_iload_n (pc := 42) (q := 1) (by decide +kernel) rfl ?_
      refine z_putI (pc := 43) 28 fp_Mod_333 rfl rfl rfl (by decide +kernel) ?_
      refine z_aload_n (pc := 46) (q := 0) (by decide +kernel) rfl ?_
      refine z_aload_n (pc := 47) (q := 0) (by decide +kernel) rfl ?_
      refine z_getI (pc := 48) 22 fl_Mod_248 rfl (by decide) rfl (by decide +kernel) ?_
      refine z_topI (up_nk (by decide)) ?_
      refine z_putI (pc := 51) 27 fp_Mod_336 rfl rfl rfl (by decide +kernel) ?_
      refine z_aload_n (pc := 54) (q := 0) (by decide +kernel) rfl ?_
      refine z_iload_n (pc := 55) (q := 2) (by decide +kernel) rfl ?_
      refine z_putI (pc := 56) 29 fp_Mod_339 rfl rfl rfl (by decide +kernel) ?_
      refine z_iconst (pc := 59) (n := 0) (by decide +kernel) ⟨by decide, by decide⟩ ?_
      refine z_istore_n (pc := 60) (q := 3) [some (vr 115), some (vi a1), some (vi x1), some (vi 0), none] (by decide +kernel) (Nat.le_of_ble_eq_true rfl) rfl ?_
      exact k
    · have k := k.2 hc
      refine z_iload_n (pc := 22) (q := 1) (by decide +kernel) rfl ?_
      refine z_aload_n (pc := 23) (q := 0) (by decide +kernel) rfl ?_
      refine z_getI (pc := 24) 28 fl_Mod_333 rfl (by decide) rfl (by decide +kernel) ?_
      refine z_icmp_ne (pc := 27) (off := 70) 97 (by decide +kernel) (by decide) ⟨fun hc => ?_, fun hc => ?_⟩
      · have k := k.1 hc
        exact k
      · have k := k.2 hc
        refine z_aload_n (pc := 30) (q := 0) (by decide +kernel) rfl ?_
        refine z_getI (pc := 31) 22 fl_Mod_248 rfl (by decide) rfl (by decide +kernel) ?_
        refine z_aload_n (pc := 34) (q := 0) (by decide +kernel) rfl ?_
        refine z_getI (pc := 35) 27 fl_Mod_336 rfl (by decide) rfl (by decide +kernel) ?_
        refine z_icmp_ge (pc := 38) (off := 59) 97 (by decide +kernel) (by decide) ⟨fun hc => ?_, fun hc => ?_⟩
        · have k := k.1 hc
          exact k
        · have k := k.2 hc
          refine z_aload_n (pc := 41) (q := 0) (by decide +kernel) rfl ?_
          refine z_iload_n (pc := 42) (q := 1) (by decide +kernel) rfl ?_
          refine z_putI (pc := 43) 28 fp_Mod_333 rfl rfl rfl (by decide +kernel) ?_
          refine z_aload_n (pc := 46) (q := 0) (by decide +kernel) rfl ?_
          refine z_aload_n (pc := 47) (q := 0) (by decide +kernel) rfl ?_
          refine z_getI (pc := 48) 22 fl_Mod_248 rfl (by decide) rfl (by decide +kernel) ?_
          refine z_topI (up_nk (by decide)) ?_
          refine z_putI (pc := 51) 27 fp_Mod_336 rfl rfl rfl (by decide +kernel) ?_
          refine z_aload_n (pc := 54) (q := 0) (by decide +kernel) rfl ?_
          refine z_iload_n (pc := 55) (q := 2) (by decide +kernel) rfl ?_
          refine z_putI (pc := 56) 29 fp_Mod_339 rfl rfl rfl (by decide +kernel) ?_
          refine z_iconst (pc := 59) (n := 0) (by decide +kernel) ⟨by decide, by decide⟩ ?_
          refine z_istore_n (pc := 60) (q := 3) [some (vr 115), some (vi a1), some (vi x1), some (vi 0), none] (by decide +kernel) (Nat.le_of_ble_eq_true rfl) rfl ?_
          exact k
  · have k := k.2 hc
    exact z_vret (pc := 13) (by decide +kernel) rfl k
theorem b_Mod_goesBest_61 {E : EN} {d : Nat} {a1 : Int} {a2 : Int} {a3 : Int} {o4 : Option AV} {σ : Mem} {K : Mem → Prop}  (k : (σ 115 22 ≤ a3 → Z E y_Mod_goesBest d 97 [some (vr 115), some (vi a1), some (vi a2), some (vi a3), o4] [] σ (qv K)) ∧ (a3 < σ 115 22 → (0 ≤ a3 ∧ a3 < 6) ∧ Z E y_Mod_goesBest d 61 [some (vr 115), some (vi a1), some (vi a2), some (vi (w32 (a3 + 1))), o4] [] (up σ 127 a3 (w32 ((w32 (10 * (σ 122 a3))) + (σ 121 a3)))) (qv K))) :
    Z E y_Mod_goesBest d 61 [some (vr 115), some (vi a1), some (vi a2), some (vi a3), o4] [] σ (qv K) := by
  refine z_iload_n (pc := 61) (q := 3) (by decide +kernel) rfl ?_
  refine z_aload_n (pc := 62) (q := 0) (by decide +kernel) rfl ?_
  refine z_getI (pc := 63) 22 fl_Mod_248 rfl (by decide) rfl (by decide +kernel) ?_
  refine z_icmp_ge (pc := 66) (off := 31) 97 (by decide +kernel) (by decide) ⟨fun hc => ?_, fun hc => ?_⟩
  · have k := k.1 hc
    exact k
  · have k := k.2 hc
    refine z_aload_n (pc := 69) (q := 0) (by decide +kernel) rfl ?_
    refine z_getR (pc := 70) 127 fl_Mod_51 rfl rfl rfl (by decide +kernel) ?_
    refine z_iload_n (pc := 73) (q := 3) (by decide +kernel) rfl ?_
    refine z_bipush (pc := 74) (n := 10) (by decide +kernel) (by decide) ⟨by decide, by decide⟩ ?_
    refine z_aload_n (pc := 76) (q := 0) (by decide +kernel) rfl ?_
    refine z_getR (pc := 77) 122 fl_Mod_36 rfl rfl rfl (by decide +kernel) ?_
    refine z_iload_n (pc := 80) (q := 3) (by decide +kernel) rfl ?_
    have hb1 := k.1
    have k := k.2
    refine z_iald (pc := 81) rfl hb1 (by decide +kernel) ?_
    refine z_imul (pc := 82) (by decide +kernel) ?_
    refine z_aload_n (pc := 83) (q := 0) (by decide +kernel) rfl ?_
    refine z_getR (pc := 84) 121 fl_Mod_33 rfl rfl rfl (by decide +kernel) ?_
    refine z_iload_n (pc := 87) (q := 3) (by decide +kernel) rfl ?_
    refine z_iald (pc := 88) rfl hb1 (by decide +kernel) ?_
    refine z_iadd (pc := 89) (by decide +kernel) ?_
    refine z_iast (pc := 90) rfl hb1 (by decide +kernel) ?_
    refine z_iinc (pc := 91) (i := 3) (n := 1) [some (vr 115), some (vi a1), some (vi a2), some (vi (w32 (a3 + 1))), o4] (by decide +kernel) rfl rfl ?_
    refine z_goto (pc := 94) (off := -33) 61 (by decide +kernel) (by decide) ?_
    exact k
theorem b_Mod_goesBest_97 {E : EN} {d : Nat} {a1 : Int} {a2 : Int} {o3 : Option AV} {o4 : Option AV} {σ : Mem} {K : Mem → Prop}  (k : (a1 < σ 115 33 → Z E y_Mod_goesBest d 120 [some (vr 115), some (vi a1), some (vi a2), some (vi 0), o4] [] σ (qv K)) ∧ (σ 115 33 ≤ a1 → (σ 115 34 ≤ a2 → Z E y_Mod_goesBest d 120 [some (vr 115), some (vi a1), some (vi a2), some (vi 0), o4] [] σ (qv K)) ∧ (a2 < σ 115 34 → Z E y_Mod_goesBest d 120 [some (vr 115), some (vi a1), some (vi a2), some (vi 0), o4] [] (up σ 115 34 a2) (qv K)))) :
    Z E y_Mod_goesBest d 97 [some (vr 115), some (vi a1), some (vi a2), o3, o4] [] σ (qv K) := by
  refine z_iload_n (pc := 97) (q := 1) (by decide +kernel) rfl ?_
  refine z_aload_n (pc := 98) (q := 0) (by decide +kernel) rfl ?_
  refine z_getI (pc := 99) 33 fl_Mod_342 rfl (by decide) rfl (by decide +kernel) ?_
  refine z_icmp_lt (pc := 102) (off := 16) 118 (by decide +kernel) (by decide) ⟨fun hc => ?_, fun hc => ?_⟩
  · have k := k.1 hc
    refine z_iconst (pc := 118) (n := 0) (by decide +kernel) ⟨by decide, by decide⟩ ?_
    refine z_istore_n (pc := 119) (q := 3) [some (vr 115), some (vi a1), some (vi a2), some (vi 0), o4] (by decide +kernel) (Nat.le_of_ble_eq_true rfl) rfl ?_
    exact k
  · have k := k.2 hc
    refine z_iload_n (pc := 105) (q := 2) (by decide +kernel) rfl ?_
    refine z_aload_n (pc := 106) (q := 0) (by decide +kernel) rfl ?_
    refine z_getI (pc := 107) 34 fl_Mod_345 rfl (by decide) rfl (by decide +kernel) ?_
    refine z_icmp_ge (pc := 110) (off := 8) 118 (by decide +kernel) (by decide) ⟨fun hc => ?_, fun hc => ?_⟩
    · have k := k.1 hc
      refine z_iconst (pc := 118) (n := 0) (by decide +kernel) ⟨by decide, by decide⟩ ?_
      refine z_istore_n (pc := 119) (q := 3) [some (vr 115), some (vi a1), some (vi a2), some (vi 0), o4] (by decide +kernel) (Nat.le_of_ble_eq_true rfl) rfl ?_
      exact k
    · have k := k.2 hc
      refine z_aload_n (pc := 113) (q := 0) (by decide +kernel) rfl ?_
      refine z_iload_n (pc := 114) (q := 2) (by decide +kernel) rfl ?_
      refine z_putI (pc := 115) 34 fp_Mod_345 rfl rfl rfl (by decide +kernel) ?_
      refine z_iconst (pc := 118) (n := 0) (by decide +kernel) ⟨by decide, by decide⟩ ?_
      refine z_istore_n (pc := 119) (q := 3) [some (vr 115), some (vi a1), some (vi a2), some (vi 0), o4] (by decide +kernel) (Nat.le_of_ble_eq_true rfl) rfl ?_
      exact k
theorem b_Mod_goesBest_120 {E : EN} {d : Nat} {a1 : Int} {o2 : Option AV} {a3 : Int} {o4 : Option AV} {σ : Mem} {K : Mem → Prop}  (k : (σ 116 2 ≤ a3 → K σ) ∧ (a3 < σ 116 2 → Z E y_Mod_goesBest d 133 [some (vr 115), some (vi a1), o2, some (vi a3), some (vi 0)] [] σ (qv K))) :
    Z E y_Mod_goesBest d 120 [some (vr 115), some (vi a1), o2, some (vi a3), o4] [] σ (qv K) := by
  refine z_iload_n (pc := 120) (q := 3) (by decide +kernel) rfl ?_
  refine z_aload_n (pc := 121) (q := 0) (by decide +kernel) rfl ?_
  refine z_getR (pc := 122) 116 fl_Mod_13 rfl rfl rfl (by decide +kernel) ?_
  refine z_iconst (pc := 125) (n := 2) (by decide +kernel) ⟨by decide, by decide⟩ ?_
  refine z_iald (pc := 126) rfl ⟨by decide, by decide⟩ (by decide +kernel) ?_
  refine z_icmp_ge (pc := 127) (off := 99) 226 (by decide +kernel) (by decide) ⟨fun hc => ?_, fun hc => ?_⟩
  · have k := k.1 hc
    exact z_vret (pc := 226) (by decide +kernel) rfl k
  · have k := k.2 hc
    refine z_iconst (pc := 130) (n := 0) (by decide +kernel) ⟨by decide, by decide⟩ ?_
    refine z_istore (pc := 131) (i := 4) [some (vr 115), some (vi a1), o2, some (vi a3), some (vi 0)] (by decide +kernel) (Nat.le_of_ble_eq_true rfl) rfl ?_
    exact k
theorem b_Mod_goesBest_133 {E : EN} {d : Nat} {a1 : Int} {o2 : Option AV} {a3 : Int} {a4 : Int} {σ : Mem} {K : Mem → Prop}  (hd : 1 ≤ d) (k : (σ 116 4 ≤ a4 → Z E y_Mod_goesBest d 120 [some (vr 115), some (vi a1), none, some (vi (w32 (a3 + 1))), some (vi a4)] [] σ (qv K)) ∧ (a4 < σ 116 4 → CI E y_Mod_isIn (d - 1) [vl (σ 115 31), vi a3] σ (fun x1 τ1 => (x1 = 0 → Z E y_Mod_goesBest d 133 [some (vr 115), some (vi a1), o2, some (vi a3), some (vi (w32 (a4 + 1)))] [] τ1 (qv K)) ∧ (x1 ≠ 0 → CI E y_Mod_isIn (d - 1) [vl (ior (τ1 115 30) (τ1 115 23)), vi a4] τ1 (fun x2 τ2 => (x2 ≠ 0 → Z E y_Mod_goesBest d 133 [some (vr 115), some (vi a1), o2, some (vi a3), some (vi (w32 (a4 + 1)))] [] τ2 (qv K)) ∧ (x2 = 0 → CI E y_Mod_reads1 (d - 1) [vr 115, vi a3, vi a4] τ2 (fun x3 τ3 => (x3 ≠ 0 → CV E y_Mod_comesLast (d - 1) [vr 115, vi a4, vi a3] τ3 (fun τ4 => (0 ≤ w32 (55 + a4) ∧ w32 (55 + a4) < 3108) ∧ CV E y_Mod_goesBest (d - 1) [vr 115, vi (w32 (a1 + (τ4 116 (w32 (55 + a4)))))] τ4 (fun τ5 => CV E y_Mod_goesLast (d - 1) [vr 115] τ5 (fun τ6 => Z E y_Mod_goesBest d 133 [some (vr 115), some (vi a1), o2, some (vi a3), some (vi (w32 (a4 + 1)))] [] τ6 (qv K))))) ∧ (x3 = 0 → Z E y_Mod_goesBest d 133 [some (vr 115), some (vi a1), o2, some (vi a3), some (vi (w32 (a4 + 1)))] [] τ3 (qv K))))))))) :
    Z E y_Mod_goesBest d 133 [some (vr 115), some (vi a1), o2, some (vi a3), some (vi a4)] [] σ (qv K) := by
  refine z_iload (pc := 133) (i := 4) (by decide +kernel) rfl ?_
  refine z_aload_n (pc := 135) (q := 0) (by decide +kernel) rfl ?_
  refine z_getR (pc := 136) 116 fl_Mod_13 rfl rfl rfl (by decide +kernel) ?_
  refine z_iconst (pc := 139) (n := 4) (by decide +kernel) ⟨by decide, by decide⟩ ?_
  refine z_iald (pc := 140) rfl ⟨by decide, by decide⟩ (by decide +kernel) ?_
  refine z_icmp_ge (pc := 141) (off := 79) 220 (by decide +kernel) (by decide) ⟨fun hc => ?_, fun hc => ?_⟩
  · have k := k.1 hc
    refine z_forget (pc := 220) 2 [some (vr 115), some (vi a1), none, some (vi a3), some (vi a4)] rfl ?_
    refine z_iinc (pc := 220) (i := 3) (n := 1) [some (vr 115), some (vi a1), none, some (vi (w32 (a3 + 1))), some (vi a4)] (by decide +kernel) rfl rfl ?_
    refine z_goto (pc := 223) (off := -103) 120 (by decide +kernel) (by decide) ?_
    exact k
  · have k := k.2 hc
    refine z_aload_n (pc := 144) (q := 0) (by decide +kernel) rfl ?_
    refine z_getI (pc := 145) 31 fl_Mod_348 rfl (by decide) rfl (by decide +kernel) ?_
    refine z_i2l (pc := 148) (by decide +kernel) ?_
    refine z_iload_n (pc := 149) (q := 3) (by decide +kernel) rfl ?_
    refine z_calls (pc := 150) (as := [vl (σ 115 31), vi a3]) ml_Mod_214 rfl rfl (Nat.le_of_ble_eq_true rfl) (dc := d - 1) (by omega) (by decide +kernel) (CI.z (CI.mono (fun x1 τ1 k => ?_) k))
    refine z_if_eq (pc := 153) (off := 61) 214 (by decide +kernel) (by decide) ⟨fun hc => ?_, fun hc => ?_⟩
    · have k := k.1 hc
      refine z_iinc (pc := 214) (i := 4) (n := 1) [some (vr 115), some (vi a1), o2, some (vi a3), some (vi (w32 (a4 + 1)))] (by decide +kernel) rfl rfl ?_
      refine z_goto (pc := 217) (off := -84) 133 (by decide +kernel) (by decide) ?_
      exact k
    · have k := k.2 hc
      refine z_aload_n (pc := 156) (q := 0) (by decide +kernel) rfl ?_
      refine z_getI (pc := 157) 30 fl_Mod_351 rfl (by decide) rfl (by decide +kernel) ?_
      refine z_aload_n (pc := 160) (q := 0) (by decide +kernel) rfl ?_
      refine z_getI (pc := 161) 23 fl_Mod_251 rfl (by decide) rfl (by decide +kernel) ?_
      refine z_ior (pc := 164) (by decide +kernel) ?_
      refine z_i2l (pc := 165) (by decide +kernel) ?_
      refine z_iload (pc := 166) (i := 4) (by decide +kernel) rfl ?_
      refine z_calls (pc := 168) (as := [vl (ior (τ1 115 30) (τ1 115 23)), vi a4]) ml_Mod_214 rfl rfl (Nat.le_of_ble_eq_true rfl) (dc := d - 1) (by omega) (by decide +kernel) (CI.z (CI.mono (fun x2 τ2 k => ?_) k))
      refine z_if_ne (pc := 171) (off := 43) 214 (by decide +kernel) (by decide) ⟨fun hc => ?_, fun hc => ?_⟩
      · have k := k.1 hc
        refine z_iinc (pc := 214) (i := 4) (n := 1) [some (vr 115), some (vi a1), o2, some (vi a3), some (vi (w32 (a4 + 1)))] (by decide +kernel) rfl rfl ?_
        refine z_goto (pc := 217) (off := -84) 133 (by decide +kernel) (by decide) ?_
        exact k
      · have k := k.2 hc
        refine z_aload_n (pc := 174) (q := 0) (by decide +kernel) rfl ?_
        refine z_iload_n (pc := 175) (q := 3) (by decide +kernel) rfl ?_
        refine z_iload (pc := 176) (i := 4) (by decide +kernel) rfl ?_
        refine z_callv (pc := 178) (as := [vi a3, vi a4]) ml_Mod_218 rfl ⟨rfl, by decide⟩ rfl rfl (Nat.le_of_ble_eq_true rfl) (dc := d - 1) (by omega) (by decide +kernel) (CI.z (CI.mono (fun x3 τ3 k => ?_) k))
        refine z_if_ne (pc := 181) (off := 6) 187 (by decide +kernel) (by decide) ⟨fun hc => ?_, fun hc => ?_⟩
        · have k := k.1 hc
          refine z_aload_n (pc := 187) (q := 0) (by decide +kernel) rfl ?_
          refine z_iload (pc := 188) (i := 4) (by decide +kernel) rfl ?_
          refine z_iload_n (pc := 190) (q := 3) (by decide +kernel) rfl ?_
          refine z_callv (pc := 191) (as := [vi a4, vi a3]) ml_Mod_264 rfl ⟨rfl, by decide⟩ rfl rfl (Nat.le_of_ble_eq_true rfl) (dc := d - 1) (by omega) (by decide +kernel) (CV.z (CV.mono (fun τ4 k => ?_) k))
          refine z_aload_n (pc := 194) (q := 0) (by decide +kernel) rfl ?_
          refine z_iload_n (pc := 195) (q := 1) (by decide +kernel) rfl ?_
          refine z_aload_n (pc := 196) (q := 0) (by decide +kernel) rfl ?_
          refine z_getR (pc := 197) 116 fl_Mod_13 rfl rfl rfl (by decide +kernel) ?_
          refine z_bipush (pc := 200) (n := 55) (by decide +kernel) (by decide) ⟨by decide, by decide⟩ ?_
          refine z_iload (pc := 202) (i := 4) (by decide +kernel) rfl ?_
          refine z_iadd (pc := 204) (by decide +kernel) ?_
          have hb1 := k.1
          have k := k.2
          refine z_iald (pc := 205) rfl hb1 (by decide +kernel) ?_
          refine z_iadd (pc := 206) (by decide +kernel) ?_
          refine z_callv (pc := 207) (as := [vi (w32 (a1 + (τ4 116 (w32 (55 + a4)))))]) ml_Mod_354 rfl ⟨rfl, by decide⟩ rfl rfl (Nat.le_of_ble_eq_true rfl) (dc := d - 1) (by omega) (by decide +kernel) (CV.z (CV.mono (fun τ5 k => ?_) k))
          refine z_aload_n (pc := 210) (q := 0) (by decide +kernel) rfl ?_
          refine z_callv (pc := 211) (as := []) ml_Mod_271 rfl ⟨rfl, by decide⟩ rfl rfl (Nat.le_of_ble_eq_true rfl) (dc := d - 1) (by omega) (by decide +kernel) (CV.z (CV.mono (fun τ6 k => ?_) k))
          refine z_iinc (pc := 214) (i := 4) (n := 1) [some (vr 115), some (vi a1), o2, some (vi a3), some (vi (w32 (a4 + 1)))] (by decide +kernel) rfl rfl ?_
          refine z_goto (pc := 217) (off := -84) 133 (by decide +kernel) (by decide) ?_
          exact k
        · have k := k.2 hc
          refine z_goto (pc := 184) (off := 30) 214 (by decide +kernel) (by decide) ?_
          refine z_iinc (pc := 214) (i := 4) (n := 1) [some (vr 115), some (vi a1), o2, some (vi a3), some (vi (w32 (a4 + 1)))] (by decide +kernel) rfl rfl ?_
          refine z_goto (pc := 217) (off := -84) 133 (by decide +kernel) (by decide) ?_
          exact k
theorem b_Mod_laysBest_0 {E : EN} {d : Nat} {a1 : Int} {a2 : Int} {a3 : Int} {σ : Mem} {K : Mem → Prop}  (hd : 1 ≤ d) (k : CV E y_Mod_isNone (d - 1) [vr 115] σ (fun τ1 => CV E y_Mod_goesBest (d - 1) [vr 115, vi 0] (up (up (up (up (up (up τ1 115 30 a1) 115 31 a2) 115 32 a3) 115 28 (-1)) 115 27 0) 115 34 1000) (fun τ2 => K τ2))) :
    Z E y_Mod_laysBest d 0 [some (vr 115), some (vi a1), some (vi a2), some (vi a3)] [] σ (qv K) := by
  refine z_aload_n (pc := 0) (q := 0) (by decide +kernel) rfl ?_
  refine z_callv (pc := 1) (as := []) ml_Mod_274 rfl ⟨rfl, by decide⟩ rfl rfl (Nat.le_of_ble_eq_true rfl) (dc := d - 1) (by omega) (by decide +kernel) (CV.z (CV.mono (fun τ1 k => ?_) k))
  refine z_aload_n (pc := 4) (q := 0) (by decide +kernel) rfl ?_
  refine z_iload_n (pc := 5) (q := 1) (by decide +kernel) rfl ?_
  refine z_putI (pc := 6) 30 fp_Mod_351 rfl rfl rfl (by decide +kernel) ?_
  refine z_aload_n (pc := 9) (q := 0) (by decide +kernel) rfl ?_
  refine z_iload_n (pc := 10) (q := 2) (by decide +kernel) rfl ?_
  refine z_putI (pc := 11) 31 fp_Mod_348 rfl rfl rfl (by decide +kernel) ?_
  refine z_aload_n (pc := 14) (q := 0) (by decide +kernel) rfl ?_
  refine z_iload_n (pc := 15) (q := 3) (by decide +kernel) rfl ?_
  refine z_putI (pc := 16) 32 fp_Mod_330 rfl rfl rfl (by decide +kernel) ?_
  refine z_aload_n (pc := 19) (q := 0) (by decide +kernel) rfl ?_
  refine z_iconst (pc := 20) (n := -1) (by decide +kernel) ⟨by decide, by decide⟩ ?_
  refine z_putI (pc := 21) 28 fp_Mod_333 rfl rfl rfl (by decide +kernel) ?_
  refine z_aload_n (pc := 24) (q := 0) (by decide +kernel) rfl ?_
  refine z_iconst (pc := 25) (n := 0) (by decide +kernel) ⟨by decide, by decide⟩ ?_
  refine z_putI (pc := 26) 27 fp_Mod_336 rfl rfl rfl (by decide +kernel) ?_
  refine z_aload_n (pc := 29) (q := 0) (by decide +kernel) rfl ?_
  refine z_sipush (pc := 30) (n := 1000) (by decide +kernel) (by decide) ⟨by decide, by decide⟩ ?_
  refine z_putI (pc := 33) 34 fp_Mod_345 rfl rfl rfl (by decide +kernel) ?_
  refine z_aload_n (pc := 36) (q := 0) (by decide +kernel) rfl ?_
  refine z_iconst (pc := 37) (n := 0) (by decide +kernel) ⟨by decide, by decide⟩ ?_
  refine z_callv (pc := 38) (as := [vi 0]) ml_Mod_354 rfl ⟨rfl, by decide⟩ rfl rfl (Nat.le_of_ble_eq_true rfl) (dc := d - 1) (by omega) (by decide +kernel) (CV.z (CV.mono (fun τ2 k => ?_) k))
  exact z_vret (pc := 41) (by decide +kernel) rfl k
theorem b_Mod_laysNow_0 {E : EN} {d : Nat}  {σ : Mem} {K : Mem → Prop}  (hd : 1 ≤ d) (k : CI E y_Mod_awake (d - 1) [vr 115] σ (fun x1 τ1 => CV E y_Mod_laysBest (d - 1) [vr 115, vi (σ 116 79), vi x1, vi (τ1 116 1)] τ1 (fun τ2 => K τ2))) :
    Z E y_Mod_laysNow d 0 [some (vr 115)] [] σ (qv K) := by
  refine z_aload_n (pc := 0) (q := 0) (by decide +kernel) rfl ?_
  refine z_aload_n (pc := 1) (q := 0) (by decide +kernel) rfl ?_
  refine z_getR (pc := 2) 116 fl_Mod_13 rfl rfl rfl (by decide +kernel) ?_
  refine z_bipush (pc := 5) (n := 79) (by decide +kernel) (by decide) ⟨by decide, by decide⟩ ?_
  refine z_iald (pc := 7) rfl ⟨by decide, by decide⟩ (by decide +kernel) ?_
  refine z_aload_n (pc := 8) (q := 0) (by decide +kernel) rfl ?_
  refine z_callv (pc := 9) (as := []) ml_Mod_261 rfl ⟨rfl, by decide⟩ rfl rfl (Nat.le_of_ble_eq_true rfl) (dc := d - 1) (by omega) (by decide +kernel) (CI.z (CI.mono (fun x1 τ1 k => ?_) k))
  refine z_aload_n (pc := 12) (q := 0) (by decide +kernel) rfl ?_
  refine z_getR (pc := 13) 116 fl_Mod_13 rfl rfl rfl (by decide +kernel) ?_
  refine z_iconst (pc := 16) (n := 1) (by decide +kernel) ⟨by decide, by decide⟩ ?_
  refine z_iald (pc := 17) rfl ⟨by decide, by decide⟩ (by decide +kernel) ?_
  refine z_callv (pc := 18) (as := [vi (σ 116 79), vi x1, vi (τ1 116 1)]) ml_Mod_357 rfl ⟨rfl, by decide⟩ rfl rfl (Nat.le_of_ble_eq_true rfl) (dc := d - 1) (by omega) (by decide +kernel) (CV.z (CV.mono (fun τ2 k => ?_) k))
  exact z_vret (pc := 21) (by decide +kernel) rfl k
theorem b_Mod_best_0 {E : EN} {d : Nat} {a1 : Int} {σ : Mem} {K : Int → Mem → Prop}  (hd : 1 ≤ d) (k : CI E y_Mod_within (d - 1) [vl a1, vl 0, vl 3] (up σ 115 0 0) (fun x1 τ1 => (x1 ≠ 0 → CV E y_Mod_laysNow (d - 1) [vr 115] τ1 (fun τ2 => (a1 = 2 → Z E y_Mod_best d 61 [some (vr 115), some (vi a1), some (vi 0), some (vi 0)] [] τ2 (qi K)) ∧ (a1 ≠ 2 → (a1 ≠ 0 → (a1 ≠ 1 → K (τ2 115 29) τ2) ∧ (a1 = 1 → K (τ2 115 27) τ2)) ∧ (a1 = 0 → K (τ2 115 28) τ2)))) ∧ (x1 = 0 → K (-2) τ1))) :
    Z E y_Mod_best d 0 [some (vr 115), some (vi a1), none, none] [] σ (qi K) := by
  refine z_aload_n (pc := 0) (q := 0) (by decide +kernel) rfl ?_
  refine z_iconst (pc := 1) (n := 0) (by decide +kernel) ⟨by decide, by decide⟩ ?_
  refine z_putI (pc := 2) 0 fp_Mod_1 rfl rfl rfl (by decide +kernel) ?_
  refine z_iload_n (pc := 5) (q := 1) (by decide +kernel) rfl ?_
  refine z_i2l (pc := 6) (by decide +kernel) ?_
  refine z_lconst (pc := 7) (n := 0) 0 (by decide +kernel) (by decide) ⟨by decide, by decide⟩ ?_
  refine z_ldc2 (pc := 8) (index := 287) 3 (mm7 215 rfl) ⟨by decide, by decide⟩ (by decide +kernel) ?_
  refine z_calls (pc := 11) (as := [vl a1, vl 0, vl 3]) ml_Mod_136 rfl rfl (Nat.le_of_ble_eq_true rfl) (dc := d - 1) (by omega) (by decide +kernel) (CI.z (CI.mono (fun x1 τ1 k => ?_) k))
  refine z_if_ne (pc := 14) (off := 6) 20 (by decide +kernel) (by decide) ⟨fun hc => ?_, fun hc => ?_⟩
  · have k := k.1 hc
    refine z_aload_n (pc := 20) (q := 0) (by decide +kernel) rfl ?_
    refine z_callv (pc := 21) (as := []) ml_Mod_361 rfl ⟨rfl, by decide⟩ rfl rfl (Nat.le_of_ble_eq_true rfl) (dc := d - 1) (by omega) (by decide +kernel) (CV.z (CV.mono (fun τ2 k => ?_) k))
    refine z_iload_n (pc := 24) (q := 1) (by decide +kernel) rfl ?_
    refine z_iconst (pc := 25) (n := 2) (by decide +kernel) ⟨by decide, by decide⟩ ?_
    refine z_icmp_eq (pc := 26) (off := 31) 57 (by decide +kernel) (by decide) ⟨fun hc => ?_, fun hc => ?_⟩
    · have k := k.1 hc
      refine z_iconst (pc := 57) (n := 0) (by decide +kernel) ⟨by decide, by decide⟩ ?_
      refine z_istore_n (pc := 58) (q := 2) [some (vr 115), some (vi a1), some (vi 0), none] (by decide +kernel) (Nat.le_of_ble_eq_true rfl) rfl ?_
      refine z_iconst (pc := 59) (n := 0) (by decide +kernel) ⟨by decide, by decide⟩ ?_
      refine z_istore_n (pc := 60) (q := 3) [some (vr 115), some (vi a1), some (vi 0), some (vi 0)] (by decide +kernel) (Nat.le_of_ble_eq_true rfl) rfl ?_
      exact k
    · have k := k.2 hc
      refine z_iload_n (pc := 29) (q := 1) (by decide +kernel) rfl ?_
      refine z_if_ne (pc := 30) (off := 10) 40 (by decide +kernel) (by decide) ⟨fun hc => ?_, fun hc => ?_⟩
      · have k := k.1 hc
        refine z_iload_n (pc := 40) (q := 1) (by decide +kernel) rfl ?_
        refine z_iconst (pc := 41) (n := 1) (by decide +kernel) ⟨by decide, by decide⟩ ?_
        refine z_icmp_ne (pc := 42) (off := 10) 52 (by decide +kernel) (by decide) ⟨fun hc => ?_, fun hc => ?_⟩
        · have k := k.1 hc
          refine z_aload_n (pc := 52) (q := 0) (by decide +kernel) rfl ?_
          refine z_getI (pc := 53) 29 fl_Mod_339 rfl (by decide) rfl (by decide +kernel) ?_
          exact z_iret (pc := 56) (by decide +kernel) rfl k
        · have k := k.2 hc
          refine z_aload_n (pc := 45) (q := 0) (by decide +kernel) rfl ?_
          refine z_getI (pc := 46) 27 fl_Mod_336 rfl (by decide) rfl (by decide +kernel) ?_
          refine z_goto (pc := 49) (off := 7) 56 (by decide +kernel) (by decide) ?_
          exact z_iret (pc := 56) (by decide +kernel) rfl k
      · have k := k.2 hc
        refine z_aload_n (pc := 33) (q := 0) (by decide +kernel) rfl ?_
        refine z_getI (pc := 34) 28 fl_Mod_333 rfl (by decide) rfl (by decide +kernel) ?_
        refine z_goto (pc := 37) (off := 19) 56 (by decide +kernel) (by decide) ?_
        exact z_iret (pc := 56) (by decide +kernel) rfl k
  · have k := k.2 hc
    refine z_bipush (pc := 17) (n := -2) (by decide +kernel) (by decide) ⟨by decide, by decide⟩ ?_
    exact z_iret (pc := 19) (by decide +kernel) rfl k
theorem b_Mod_best_61 {E : EN} {d : Nat} {a1 : Int} {o1 : Option AV} {a2 : Int} {a3 : Int} {σ : Mem} {K : Int → Mem → Prop}  (k : (σ 115 27 ≤ a3 → K a2 σ) ∧ (a3 < σ 115 27 → (0 ≤ a3 ∧ a3 < 6) ∧ Z E y_Mod_best d 61 [some (vr 115), none, some (vi (ior a2 (ish 1 (Int.tmod (σ 127 a3) 10)))), some (vi (w32 (a3 + 1)))] [] σ (qi K))) :
    Z E y_Mod_best d 61 [some (vr 115), o1, some (vi a2), some (vi a3)] [] σ (qi K) := by
  refine z_iload_n (pc := 61) (q := 3) (by decide +kernel) rfl ?_
  refine z_aload_n (pc := 62) (q := 0) (by decide +kernel) rfl ?_
  refine z_getI (pc := 63) 27 fl_Mod_336 rfl (by decide) rfl (by decide +kernel) ?_
  refine z_icmp_ge (pc := 66) (off := 23) 89 (by decide +kernel) (by decide) ⟨fun hc => ?_, fun hc => ?_⟩
  · have k := k.1 hc
    refine z_iload_n (pc := 89) (q := 2) (by decide +kernel) rfl ?_
    exact z_iret (pc := 90) (by decide +kernel) rfl k
  · have k := k.2 hc
    refine z_iload_n (pc := 69) (q := 2) (by decide +kernel) rfl ?_
    refine z_iconst (pc := 70) (n := 1) (by decide +kernel) ⟨by decide, by decide⟩ ?_
    refine z_aload_n (pc := 71) (q := 0) (by decide +kernel) rfl ?_
    refine z_getR (pc := 72) 127 fl_Mod_51 rfl rfl rfl (by decide +kernel) ?_
    refine z_iload_n (pc := 75) (q := 3) (by decide +kernel) rfl ?_
    have hb1 := k.1
    have k := k.2
    refine z_iald (pc := 76) rfl hb1 (by decide +kernel) ?_
    refine z_bipush (pc := 77) (n := 10) (by decide +kernel) (by decide) ⟨by decide, by decide⟩ ?_
    refine z_irem (pc := 79) (by decide +kernel) (by decide) ?_
    refine z_ishl (pc := 80) (by decide +kernel) ?_
    refine z_ior (pc := 81) (by decide +kernel) ?_
    refine z_forget (pc := 82) 1 [some (vr 115), none, some (vi a2), some (vi a3)] rfl ?_
    refine z_istore_n (pc := 82) (q := 2) [some (vr 115), none, some (vi (ior a2 (ish 1 (Int.tmod (σ 127 a3) 10)))), some (vi a3)] (by decide +kernel) (Nat.le_of_ble_eq_true rfl) rfl ?_
    refine z_iinc (pc := 83) (i := 3) (n := 1) [some (vr 115), none, some (vi (ior a2 (ish 1 (Int.tmod (σ 127 a3) 10)))), some (vi (w32 (a3 + 1)))] (by decide +kernel) rfl rfl ?_
    refine z_goto (pc := 86) (off := -25) 61 (by decide +kernel) (by decide) ?_
    exact k
theorem b_Mod_bestAt_0 {E : EN} {d : Nat} {a1 : Int} {σ : Mem} {K : Int → Mem → Prop}  (hd : 1 ≤ d) (k : (0 ≤ a1 → CV E y_Mod_laysNow (d - 1) [vr 115] (up σ 115 0 0) (fun τ1 => (τ1 115 27 ≤ a1 → K (-1) τ1) ∧ (a1 < τ1 115 27 → (0 ≤ a1 ∧ a1 < 6) ∧ K (τ1 127 a1) τ1))) ∧ (a1 < 0 → K (-3) (up σ 115 0 0))) :
    Z E y_Mod_bestAt d 0 [some (vr 115), some (vi a1)] [] σ (qi K) := by
  refine z_aload_n (pc := 0) (q := 0) (by decide +kernel) rfl ?_
  refine z_iconst (pc := 1) (n := 0) (by decide +kernel) ⟨by decide, by decide⟩ ?_
  refine z_putI (pc := 2) 0 fp_Mod_1 rfl rfl rfl (by decide +kernel) ?_
  refine z_iload_n (pc := 5) (q := 1) (by decide +kernel) rfl ?_
  refine z_if_ge (pc := 6) (off := 6) 12 (by decide +kernel) (by decide) ⟨fun hc => ?_, fun hc => ?_⟩
  · have k := k.1 hc
    refine z_aload_n (pc := 12) (q := 0) (by decide +kernel) rfl ?_
    refine z_callv (pc := 13) (as := []) ml_Mod_361 rfl ⟨rfl, by decide⟩ rfl rfl (Nat.le_of_ble_eq_true rfl) (dc := d - 1) (by omega) (by decide +kernel) (CV.z (CV.mono (fun τ1 k => ?_) k))
    refine z_iload_n (pc := 16) (q := 1) (by decide +kernel) rfl ?_
    refine z_aload_n (pc := 17) (q := 0) (by decide +kernel) rfl ?_
    refine z_getI (pc := 18) 27 fl_Mod_336 rfl (by decide) rfl (by decide +kernel) ?_
    refine z_icmp_ge (pc := 21) (off := 12) 33 (by decide +kernel) (by decide) ⟨fun hc => ?_, fun hc => ?_⟩
    · have k := k.1 hc
      refine z_iconst (pc := 33) (n := -1) (by decide +kernel) ⟨by decide, by decide⟩ ?_
      exact z_iret (pc := 34) (by decide +kernel) rfl k
    · have k := k.2 hc
      refine z_aload_n (pc := 24) (q := 0) (by decide +kernel) rfl ?_
      refine z_getR (pc := 25) 127 fl_Mod_51 rfl rfl rfl (by decide +kernel) ?_
      refine z_iload_n (pc := 28) (q := 1) (by decide +kernel) rfl ?_
      have hb1 := k.1
      have k := k.2
      refine z_iald (pc := 29) rfl hb1 (by decide +kernel) ?_
      refine z_goto (pc := 30) (off := 4) 34 (by decide +kernel) (by decide) ?_
      exact z_iret (pc := 34) (by decide +kernel) rfl k
  · have k := k.2 hc
    refine z_bipush (pc := 9) (n := -3) (by decide +kernel) (by decide) ⟨by decide, by decide⟩ ?_
    exact z_iret (pc := 11) (by decide +kernel) rfl k
theorem b_Mod_bestBy_0 {E : EN} {d : Nat} {a1 : Int} {σ : Mem} {K : Int → Mem → Prop}  (hd : 1 ≤ d) (k : CI E y_Mod_within (d - 1) [vl a1, vl 0, vl 999] (up σ 115 0 0) (fun x1 τ1 => (x1 ≠ 0 → CI E y_Mod_awake (d - 1) [vr 115] τ1 (fun x2 τ2 => CV E y_Mod_laysBest (d - 1) [vr 115, vi (τ1 116 79), vi x2, vi a1] τ2 (fun τ3 => K (τ3 115 28) τ3))) ∧ (x1 = 0 → K (-3) τ1))) :
    Z E y_Mod_bestBy d 0 [some (vr 115), some (vi a1)] [] σ (qi K) := by
  refine z_aload_n (pc := 0) (q := 0) (by decide +kernel) rfl ?_
  refine z_iconst (pc := 1) (n := 0) (by decide +kernel) ⟨by decide, by decide⟩ ?_
  refine z_putI (pc := 2) 0 fp_Mod_1 rfl rfl rfl (by decide +kernel) ?_
  refine z_iload_n (pc := 5) (q := 1) (by decide +kernel) rfl ?_
  refine z_i2l (pc := 6) (by decide +kernel) ?_
  refine z_lconst (pc := 7) (n := 0) 0 (by decide +kernel) (by decide) ⟨by decide, by decide⟩ ?_
  refine z_ldc2 (pc := 8) (index := 364) 999 (mm8 100 rfl) ⟨by decide, by decide⟩ (by decide +kernel) ?_
  refine z_calls (pc := 11) (as := [vl a1, vl 0, vl 999]) ml_Mod_136 rfl rfl (Nat.le_of_ble_eq_true rfl) (dc := d - 1) (by omega) (by decide +kernel) (CI.z (CI.mono (fun x1 τ1 k => ?_) k))
  refine z_if_ne (pc := 14) (off := 6) 20 (by decide +kernel) (by decide) ⟨fun hc => ?_, fun hc => ?_⟩
  · have k := k.1 hc
    refine z_aload_n (pc := 20) (q := 0) (by decide +kernel) rfl ?_
    refine z_aload_n (pc := 21) (q := 0) (by decide +kernel) rfl ?_
    refine z_getR (pc := 22) 116 fl_Mod_13 rfl rfl rfl (by decide +kernel) ?_
    refine z_bipush (pc := 25) (n := 79) (by decide +kernel) (by decide) ⟨by decide, by decide⟩ ?_
    refine z_iald (pc := 27) rfl ⟨by decide, by decide⟩ (by decide +kernel) ?_
    refine z_aload_n (pc := 28) (q := 0) (by decide +kernel) rfl ?_
    refine z_callv (pc := 29) (as := []) ml_Mod_261 rfl ⟨rfl, by decide⟩ rfl rfl (Nat.le_of_ble_eq_true rfl) (dc := d - 1) (by omega) (by decide +kernel) (CI.z (CI.mono (fun x2 τ2 k => ?_) k))
    refine z_iload_n (pc := 32) (q := 1) (by decide +kernel) rfl ?_
    refine z_callv (pc := 33) (as := [vi (τ1 116 79), vi x2, vi a1]) ml_Mod_357 rfl ⟨rfl, by decide⟩ rfl rfl (Nat.le_of_ble_eq_true rfl) (dc := d - 1) (by omega) (by decide +kernel) (CV.z (CV.mono (fun τ3 k => ?_) k))
    refine z_aload_n (pc := 36) (q := 0) (by decide +kernel) rfl ?_
    refine z_getI (pc := 37) 28 fl_Mod_333 rfl (by decide) rfl (by decide +kernel) ?_
    exact z_iret (pc := 40) (by decide +kernel) rfl k
  · have k := k.2 hc
    refine z_bipush (pc := 17) (n := -3) (by decide +kernel) (by decide) ⟨by decide, by decide⟩ ?_
    exact z_iret (pc := 19) (by decide +kernel) rfl k
theorem b_Mod_noonFor_0 {E : EN} {d : Nat} {a1 : Int} {σ : Mem} {K : Int → Mem → Prop}  (hd : 1 ≤ d) (k : (0 ≤ a1 → CI E y_Mod_awake (d - 1) [vr 115] (up (up σ 115 0 0) 115 33 a1) (fun x1 τ1 => CV E y_Mod_laysBest (d - 1) [vr 115, vi (σ 116 79), vi x1, vi 999] τ1 (fun τ2 => (τ2 115 34 ≤ 999 → K (τ2 115 34) (up τ2 115 33 0)) ∧ (999 < τ2 115 34 → K (-1) (up τ2 115 33 0))))) ∧ (a1 < 0 → K (-3) (up σ 115 0 0))) :
    Z E y_Mod_noonFor d 0 [some (vr 115), some (vi a1)] [] σ (qi K) := by
  refine z_aload_n (pc := 0) (q := 0) (by decide +kernel) rfl ?_
  refine z_iconst (pc := 1) (n := 0) (by decide +kernel) ⟨by decide, by decide⟩ ?_
  refine z_putI (pc := 2) 0 fp_Mod_1 rfl rfl rfl (by decide +kernel) ?_
  refine z_iload_n (pc := 5) (q := 1) (by decide +kernel) rfl ?_
  refine z_if_ge (pc := 6) (off := 6) 12 (by decide +kernel) (by decide) ⟨fun hc => ?_, fun hc => ?_⟩
  · have k := k.1 hc
    refine z_aload_n (pc := 12) (q := 0) (by decide +kernel) rfl ?_
    refine z_iload_n (pc := 13) (q := 1) (by decide +kernel) rfl ?_
    refine z_putI (pc := 14) 33 fp_Mod_342 rfl rfl rfl (by decide +kernel) ?_
    refine z_aload_n (pc := 17) (q := 0) (by decide +kernel) rfl ?_
    refine z_aload_n (pc := 18) (q := 0) (by decide +kernel) rfl ?_
    refine z_getR (pc := 19) 116 fl_Mod_13 rfl rfl rfl (by decide +kernel) ?_
    refine z_bipush (pc := 22) (n := 79) (by decide +kernel) (by decide) ⟨by decide, by decide⟩ ?_
    refine z_iald (pc := 24) rfl ⟨by decide, by decide⟩ (by decide +kernel) ?_
    refine z_topI ((up_nc (by decide)).trans (up_nc (by decide))) ?_
    refine z_aload_n (pc := 25) (q := 0) (by decide +kernel) rfl ?_
    refine z_callv (pc := 26) (as := []) ml_Mod_261 rfl ⟨rfl, by decide⟩ rfl rfl (Nat.le_of_ble_eq_true rfl) (dc := d - 1) (by omega) (by decide +kernel) (CI.z (CI.mono (fun x1 τ1 k => ?_) k))
    refine z_sipush (pc := 29) (n := 999) (by decide +kernel) (by decide) ⟨by decide, by decide⟩ ?_
    refine z_callv (pc := 32) (as := [vi (σ 116 79), vi x1, vi 999]) ml_Mod_357 rfl ⟨rfl, by decide⟩ rfl rfl (Nat.le_of_ble_eq_true rfl) (dc := d - 1) (by omega) (by decide +kernel) (CV.z (CV.mono (fun τ2 k => ?_) k))
    refine z_aload_n (pc := 35) (q := 0) (by decide +kernel) rfl ?_
    refine z_iconst (pc := 36) (n := 0) (by decide +kernel) ⟨by decide, by decide⟩ ?_
    refine z_putI (pc := 37) 33 fp_Mod_342 rfl rfl rfl (by decide +kernel) ?_
    refine z_aload_n (pc := 40) (q := 0) (by decide +kernel) rfl ?_
    refine z_getI (pc := 41) 34 fl_Mod_345 rfl (by decide) rfl (by decide +kernel) ?_
    refine z_topI (up_nk (by decide)) ?_
    refine z_sipush (pc := 44) (n := 999) (by decide +kernel) (by decide) ⟨by decide, by decide⟩ ?_
    refine z_icmp_le (pc := 47) (off := 7) 54 (by decide +kernel) (by decide) ⟨fun hc => ?_, fun hc => ?_⟩
    · have k := k.1 hc
      refine z_aload_n (pc := 54) (q := 0) (by decide +kernel) rfl ?_
      refine z_getI (pc := 55) 34 fl_Mod_345 rfl (by decide) rfl (by decide +kernel) ?_
      refine z_topI (up_nk (by decide)) ?_
      exact z_iret (pc := 58) (by decide +kernel) rfl k
    · have k := k.2 hc
      refine z_iconst (pc := 50) (n := -1) (by decide +kernel) ⟨by decide, by decide⟩ ?_
      refine z_goto (pc := 51) (off := 7) 58 (by decide +kernel) (by decide) ?_
      exact z_iret (pc := 58) (by decide +kernel) rfl k
  · have k := k.2 hc
    refine z_bipush (pc := 9) (n := -3) (by decide +kernel) (by decide) ⟨by decide, by decide⟩ ?_
    exact z_iret (pc := 11) (by decide +kernel) rfl k
theorem b_Mod_without_0 {E : EN} {d : Nat} {a1 : Int} {σ : Mem} {K : Int → Mem → Prop}  (hd : 1 ≤ d) (k : CI E y_Mod_isHand (d - 1) [vr 115, vl a1] (up σ 115 0 0) (fun x1 τ1 => (x1 ≠ 0 → CV E y_Mod_laysNow (d - 1) [vr 115] τ1 (fun τ2 => CI E y_Mod_awake (d - 1) [vr 115] τ2 (fun x3 τ3 => CV E y_Mod_laysBest (d - 1) [vr 115, vi (τ2 116 79), vi (ian x3 (ixo (ish 1 a1) (-1))), vi (τ3 116 1)] τ3 (fun τ4 => K (w32 ((τ2 115 28) - (τ4 115 28))) τ4)))) ∧ (x1 = 0 → K (-2) τ1))) :
    Z E y_Mod_without d 0 [some (vr 115), some (vi a1), none] [] σ (qi K) := by
  refine z_aload_n (pc := 0) (q := 0) (by decide +kernel) rfl ?_
  refine z_iconst (pc := 1) (n := 0) (by decide +kernel) ⟨by decide, by decide⟩ ?_
  refine z_putI (pc := 2) 0 fp_Mod_1 rfl rfl rfl (by decide +kernel) ?_
  refine z_aload_n (pc := 5) (q := 0) (by decide +kernel) rfl ?_
  refine z_iload_n (pc := 6) (q := 1) (by decide +kernel) rfl ?_
  refine z_i2l (pc := 7) (by decide +kernel) ?_
  refine z_callv (pc := 8) (as := [vl a1]) ml_Mod_228 rfl ⟨rfl, by decide⟩ rfl rfl (Nat.le_of_ble_eq_true rfl) (dc := d - 1) (by omega) (by decide +kernel) (CI.z (CI.mono (fun x1 τ1 k => ?_) k))
  refine z_if_ne (pc := 11) (off := 6) 17 (by decide +kernel) (by decide) ⟨fun hc => ?_, fun hc => ?_⟩
  · have k := k.1 hc
    refine z_aload_n (pc := 17) (q := 0) (by decide +kernel) rfl ?_
    refine z_callv (pc := 18) (as := []) ml_Mod_361 rfl ⟨rfl, by decide⟩ rfl rfl (Nat.le_of_ble_eq_true rfl) (dc := d - 1) (by omega) (by decide +kernel) (CV.z (CV.mono (fun τ2 k => ?_) k))
    refine z_aload_n (pc := 21) (q := 0) (by decide +kernel) rfl ?_
    refine z_getI (pc := 22) 28 fl_Mod_333 rfl (by decide) rfl (by decide +kernel) ?_
    refine z_istore_n (pc := 25) (q := 2) [some (vr 115), some (vi a1), some (vi (τ2 115 28))] (by decide +kernel) (Nat.le_of_ble_eq_true rfl) rfl ?_
    refine z_aload_n (pc := 26) (q := 0) (by decide +kernel) rfl ?_
    refine z_aload_n (pc := 27) (q := 0) (by decide +kernel) rfl ?_
    refine z_getR (pc := 28) 116 fl_Mod_13 rfl rfl rfl (by decide +kernel) ?_
    refine z_bipush (pc := 31) (n := 79) (by decide +kernel) (by decide) ⟨by decide, by decide⟩ ?_
    refine z_iald (pc := 33) rfl ⟨by decide, by decide⟩ (by decide +kernel) ?_
    refine z_aload_n (pc := 34) (q := 0) (by decide +kernel) rfl ?_
    refine z_callv (pc := 35) (as := []) ml_Mod_261 rfl ⟨rfl, by decide⟩ rfl rfl (Nat.le_of_ble_eq_true rfl) (dc := d - 1) (by omega) (by decide +kernel) (CI.z (CI.mono (fun x3 τ3 k => ?_) k))
    refine z_iconst (pc := 38) (n := 1) (by decide +kernel) ⟨by decide, by decide⟩ ?_
    refine z_iload_n (pc := 39) (q := 1) (by decide +kernel) rfl ?_
    refine z_ishl (pc := 40) (by decide +kernel) ?_
    refine z_iconst (pc := 41) (n := -1) (by decide +kernel) ⟨by decide, by decide⟩ ?_
    refine z_ixor (pc := 42) (by decide +kernel) ?_
    refine z_iand (pc := 43) (by decide +kernel) ?_
    refine z_aload_n (pc := 44) (q := 0) (by decide +kernel) rfl ?_
    refine z_getR (pc := 45) 116 fl_Mod_13 rfl rfl rfl (by decide +kernel) ?_
    refine z_iconst (pc := 48) (n := 1) (by decide +kernel) ⟨by decide, by decide⟩ ?_
    refine z_iald (pc := 49) rfl ⟨by decide, by decide⟩ (by decide +kernel) ?_
    refine z_callv (pc := 50) (as := [vi (τ2 116 79), vi (ian x3 (ixo (ish 1 a1) (-1))), vi (τ3 116 1)]) ml_Mod_357 rfl ⟨rfl, by decide⟩ rfl rfl (Nat.le_of_ble_eq_true rfl) (dc := d - 1) (by omega) (by decide +kernel) (CV.z (CV.mono (fun τ4 k => ?_) k))
    refine z_iload_n (pc := 53) (q := 2) (by decide +kernel) rfl ?_
    refine z_aload_n (pc := 54) (q := 0) (by decide +kernel) rfl ?_
    refine z_getI (pc := 55) 28 fl_Mod_333 rfl (by decide) rfl (by decide +kernel) ?_
    refine z_isub (pc := 58) (by decide +kernel) ?_
    exact z_iret (pc := 59) (by decide +kernel) rfl k
  · have k := k.2 hc
    refine z_bipush (pc := 14) (n := -2) (by decide +kernel) (by decide) ⟨by decide, by decide⟩ ?_
    exact z_iret (pc := 16) (by decide +kernel) rfl k
theorem b_Mod_hindrance_0 {E : EN} {d : Nat}  {σ : Mem} {K : Int → Mem → Prop}  (k : Z E y_Mod_hindrance d 11 [some (vr 115), some (vi (-1)), some (vi (-1)), some (vi 0)] [] (up σ 115 0 0) (qi K)) :
    Z E y_Mod_hindrance d 0 [some (vr 115), none, none, none] [] σ (qi K) := by
  refine z_aload_n (pc := 0) (q := 0) (by decide +kernel) rfl ?_
  refine z_iconst (pc := 1) (n := 0) (by decide +kernel) ⟨by decide, by decide⟩ ?_
  refine z_putI (pc := 2) 0 fp_Mod_1 rfl rfl rfl (by decide +kernel) ?_
  refine z_iconst (pc := 5) (n := -1) (by decide +kernel) ⟨by decide, by decide⟩ ?_
  refine z_istore_n (pc := 6) (q := 1) [some (vr 115), some (vi (-1)), none, none] (by decide +kernel) (Nat.le_of_ble_eq_true rfl) rfl ?_
  refine z_iconst (pc := 7) (n := -1) (by decide +kernel) ⟨by decide, by decide⟩ ?_
  refine z_istore_n (pc := 8) (q := 2) [some (vr 115), some (vi (-1)), some (vi (-1)), none] (by decide +kernel) (Nat.le_of_ble_eq_true rfl) rfl ?_
  refine z_iconst (pc := 9) (n := 0) (by decide +kernel) ⟨by decide, by decide⟩ ?_
  refine z_istore_n (pc := 10) (q := 3) [some (vr 115), some (vi (-1)), some (vi (-1)), some (vi 0)] (by decide +kernel) (Nat.le_of_ble_eq_true rfl) rfl ?_
  exact k
theorem b_Mod_hindrance_11 {E : EN} {d : Nat} {a1 : Int} {a2 : Int} {a3 : Int} {σ : Mem} {K : Int → Mem → Prop}  (hd : 1 ≤ d) (k : (σ 116 4 ≤ a3 → K a1 σ) ∧ (a3 < σ 116 4 → CI E y_Mod_isIn (d - 1) [vl (σ 116 79), vi a3] σ (fun x1 τ1 => (x1 = 0 → CI E y_Mod_awake (d - 1) [vr 115] τ1 (fun x2 τ2 => CV E y_Mod_laysBest (d - 1) [vr 115, vi (ior (τ1 116 79) (ish 1 a3)), vi x2, vi (τ2 116 1)] τ2 (fun τ3 => (a2 < τ3 115 28 → Z E y_Mod_hindrance d 11 [some (vr 115), some (vi a3), some (vi (τ3 115 28)), some (vi (w32 (a3 + 1)))] [] τ3 (qi K)) ∧ (τ3 115 28 ≤ a2 → Z E y_Mod_hindrance d 11 [some (vr 115), some (vi a1), some (vi a2), some (vi (w32 (a3 + 1)))] [] τ3 (qi K))))) ∧ (x1 ≠ 0 → Z E y_Mod_hindrance d 11 [some (vr 115), some (vi a1), some (vi a2), some (vi (w32 (a3 + 1)))] [] τ1 (qi K))))) :
    Z E y_Mod_hindrance d 11 [some (vr 115), some (vi a1), some (vi a2), some (vi a3)] [] σ (qi K) := by
  refine z_iload_n (pc := 11) (q := 3) (by decide +kernel) rfl ?_
  refine z_aload_n (pc := 12) (q := 0) (by decide +kernel) rfl ?_
  refine z_getR (pc := 13) 116 fl_Mod_13 rfl rfl rfl (by decide +kernel) ?_
  refine z_iconst (pc := 16) (n := 4) (by decide +kernel) ⟨by decide, by decide⟩ ?_
  refine z_iald (pc := 17) rfl ⟨by decide, by decide⟩ (by decide +kernel) ?_
  refine z_icmp_ge (pc := 18) (off := 70) 88 (by decide +kernel) (by decide) ⟨fun hc => ?_, fun hc => ?_⟩
  · have k := k.1 hc
    refine z_iload_n (pc := 88) (q := 1) (by decide +kernel) rfl ?_
    exact z_iret (pc := 89) (by decide +kernel) rfl k
  · have k := k.2 hc
    refine z_aload_n (pc := 21) (q := 0) (by decide +kernel) rfl ?_
    refine z_getR (pc := 22) 116 fl_Mod_13 rfl rfl rfl (by decide +kernel) ?_
    refine z_bipush (pc := 25) (n := 79) (by decide +kernel) (by decide) ⟨by decide, by decide⟩ ?_
    refine z_iald (pc := 27) rfl ⟨by decide, by decide⟩ (by decide +kernel) ?_
    refine z_i2l (pc := 28) (by decide +kernel) ?_
    refine z_iload_n (pc := 29) (q := 3) (by decide +kernel) rfl ?_
    refine z_calls (pc := 30) (as := [vl (σ 116 79), vi a3]) ml_Mod_214 rfl rfl (Nat.le_of_ble_eq_true rfl) (dc := d - 1) (by omega) (by decide +kernel) (CI.z (CI.mono (fun x1 τ1 k => ?_) k))
    refine z_if_eq (pc := 33) (off := 6) 39 (by decide +kernel) (by decide) ⟨fun hc => ?_, fun hc => ?_⟩
    · have k := k.1 hc
      refine z_aload_n (pc := 39) (q := 0) (by decide +kernel) rfl ?_
      refine z_aload_n (pc := 40) (q := 0) (by decide +kernel) rfl ?_
      refine z_getR (pc := 41) 116 fl_Mod_13 rfl rfl rfl (by decide +kernel) ?_
      refine z_bipush (pc := 44) (n := 79) (by decide +kernel) (by decide) ⟨by decide, by decide⟩ ?_
      refine z_iald (pc := 46) rfl ⟨by decide, by decide⟩ (by decide +kernel) ?_
      refine z_iconst (pc := 47) (n := 1) (by decide +kernel) ⟨by decide, by decide⟩ ?_
      refine z_iload_n (pc := 48) (q := 3) (by decide +kernel) rfl ?_
      refine z_ishl (pc := 49) (by decide +kernel) ?_
      refine z_ior (pc := 50) (by decide +kernel) ?_
      refine z_aload_n (pc := 51) (q := 0) (by decide +kernel) rfl ?_
      refine z_callv (pc := 52) (as := []) ml_Mod_261 rfl ⟨rfl, by decide⟩ rfl rfl (Nat.le_of_ble_eq_true rfl) (dc := d - 1) (by omega) (by decide +kernel) (CI.z (CI.mono (fun x2 τ2 k => ?_) k))
      refine z_aload_n (pc := 55) (q := 0) (by decide +kernel) rfl ?_
      refine z_getR (pc := 56) 116 fl_Mod_13 rfl rfl rfl (by decide +kernel) ?_
      refine z_iconst (pc := 59) (n := 1) (by decide +kernel) ⟨by decide, by decide⟩ ?_
      refine z_iald (pc := 60) rfl ⟨by decide, by decide⟩ (by decide +kernel) ?_
      refine z_callv (pc := 61) (as := [vi (ior (τ1 116 79) (ish 1 a3)), vi x2, vi (τ2 116 1)]) ml_Mod_357 rfl ⟨rfl, by decide⟩ rfl rfl (Nat.le_of_ble_eq_true rfl) (dc := d - 1) (by omega) (by decide +kernel) (CV.z (CV.mono (fun τ3 k => ?_) k))
      refine z_aload_n (pc := 64) (q := 0) (by decide +kernel) rfl ?_
      refine z_getI (pc := 65) 28 fl_Mod_333 rfl (by decide) rfl (by decide +kernel) ?_
      refine z_iload_n (pc := 68) (q := 2) (by decide +kernel) rfl ?_
      refine z_icmp_gt (pc := 69) (off := 6) 75 (by decide +kernel) (by decide) ⟨fun hc => ?_, fun hc => ?_⟩
      · have k := k.1 hc
        refine z_iload_n (pc := 75) (q := 3) (by decide +kernel) rfl ?_
        refine z_istore_n (pc := 76) (q := 1) [some (vr 115), some (vi a3), some (vi a2), some (vi a3)] (by decide +kernel) (Nat.le_of_ble_eq_true rfl) rfl ?_
        refine z_aload_n (pc := 77) (q := 0) (by decide +kernel) rfl ?_
        refine z_getI (pc := 78) 28 fl_Mod_333 rfl (by decide) rfl (by decide +kernel) ?_
        refine z_istore_n (pc := 81) (q := 2) [some (vr 115), some (vi a3), some (vi (τ3 115 28)), some (vi a3)] (by decide +kernel) (Nat.le_of_ble_eq_true rfl) rfl ?_
        refine z_iinc (pc := 82) (i := 3) (n := 1) [some (vr 115), some (vi a3), some (vi (τ3 115 28)), some (vi (w32 (a3 + 1)))] (by decide +kernel) rfl rfl ?_
        refine z_goto (pc := 85) (off := -74) 11 (by decide +kernel) (by decide) ?_
        exact k
      · have k := k.2 hc
        refine z_goto (pc := 72) (off := 10) 82 (by decide +kernel) (by decide) ?_
        refine z_iinc (pc := 82) (i := 3) (n := 1) [some (vr 115), some (vi a1), some (vi a2), some (vi (w32 (a3 + 1)))] (by decide +kernel) rfl rfl ?_
        refine z_goto (pc := 85) (off := -74) 11 (by decide +kernel) (by decide) ?_
        exact k
    · have k := k.2 hc
      refine z_goto (pc := 36) (off := 46) 82 (by decide +kernel) (by decide) ?_
      refine z_iinc (pc := 82) (i := 3) (n := 1) [some (vr 115), some (vi a1), some (vi a2), some (vi (w32 (a3 + 1)))] (by decide +kernel) rfl rfl ?_
      refine z_goto (pc := 85) (off := -74) 11 (by decide +kernel) (by decide) ?_
      exact k
theorem b_Mod_hopeless_0 {E : EN} {d : Nat}  {σ : Mem} {K : Int → Mem → Prop}  (hd : 1 ≤ d) (k : CI E y_Mod_letters (d - 1) [vr 115] (up σ 115 0 0) (fun x1 τ1 => Z E y_Mod_hopeless d 22 [some (vr 115), some (vi (ian x1 (ixo (τ1 116 79) (-1)))), some (vi 0), none] [] τ1 (qi K))) :
    Z E y_Mod_hopeless d 0 [some (vr 115), none, none, none] [] σ (qi K) := by
  refine z_aload_n (pc := 0) (q := 0) (by decide +kernel) rfl ?_
  refine z_iconst (pc := 1) (n := 0) (by decide +kernel) ⟨by decide, by decide⟩ ?_
  refine z_putI (pc := 2) 0 fp_Mod_1 rfl rfl rfl (by decide +kernel) ?_
  refine z_aload_n (pc := 5) (q := 0) (by decide +kernel) rfl ?_
  refine z_callv (pc := 6) (as := []) ml_Mod_366 rfl ⟨rfl, by decide⟩ rfl rfl (Nat.le_of_ble_eq_true rfl) (dc := d - 1) (by omega) (by decide +kernel) (CI.z (CI.mono (fun x1 τ1 k => ?_) k))
  refine z_aload_n (pc := 9) (q := 0) (by decide +kernel) rfl ?_
  refine z_getR (pc := 10) 116 fl_Mod_13 rfl rfl rfl (by decide +kernel) ?_
  refine z_bipush (pc := 13) (n := 79) (by decide +kernel) (by decide) ⟨by decide, by decide⟩ ?_
  refine z_iald (pc := 15) rfl ⟨by decide, by decide⟩ (by decide +kernel) ?_
  refine z_iconst (pc := 16) (n := -1) (by decide +kernel) ⟨by decide, by decide⟩ ?_
  refine z_ixor (pc := 17) (by decide +kernel) ?_
  refine z_iand (pc := 18) (by decide +kernel) ?_
  refine z_istore_n (pc := 19) (q := 1) [some (vr 115), some (vi (ian x1 (ixo (τ1 116 79) (-1)))), none, none] (by decide +kernel) (Nat.le_of_ble_eq_true rfl) rfl ?_
  refine z_iconst (pc := 20) (n := 0) (by decide +kernel) ⟨by decide, by decide⟩ ?_
  refine z_istore_n (pc := 21) (q := 2) [some (vr 115), some (vi (ian x1 (ixo (τ1 116 79) (-1)))), some (vi 0), none] (by decide +kernel) (Nat.le_of_ble_eq_true rfl) rfl ?_
  exact k
theorem b_Mod_hopeless_22 {E : EN} {d : Nat} {a1 : Int} {a2 : Int} {o3 : Option AV} {σ : Mem} {K : Int → Mem → Prop}  (k : (σ 116 4 ≤ a2 → K a1 σ) ∧ (a2 < σ 116 4 → Z E y_Mod_hopeless d 34 [some (vr 115), some (vi a1), some (vi a2), some (vi 0)] [] σ (qi K))) :
    Z E y_Mod_hopeless d 22 [some (vr 115), some (vi a1), some (vi a2), o3] [] σ (qi K) := by
  refine z_iload_n (pc := 22) (q := 2) (by decide +kernel) rfl ?_
  refine z_aload_n (pc := 23) (q := 0) (by decide +kernel) rfl ?_
  refine z_getR (pc := 24) 116 fl_Mod_13 rfl rfl rfl (by decide +kernel) ?_
  refine z_iconst (pc := 27) (n := 4) (by decide +kernel) ⟨by decide, by decide⟩ ?_
  refine z_iald (pc := 28) rfl ⟨by decide, by decide⟩ (by decide +kernel) ?_
  refine z_icmp_ge (pc := 29) (off := 53) 82 (by decide +kernel) (by decide) ⟨fun hc => ?_, fun hc => ?_⟩
  · have k := k.1 hc
    refine z_iload_n (pc := 82) (q := 1) (by decide +kernel) rfl ?_
    exact z_iret (pc := 83) (by decide +kernel) rfl k
  · have k := k.2 hc
    refine z_iconst (pc := 32) (n := 0) (by decide +kernel) ⟨by decide, by decide⟩ ?_
    refine z_istore_n (pc := 33) (q := 3) [some (vr 115), some (vi a1), some (vi a2), some (vi 0)] (by decide +kernel) (Nat.le_of_ble_eq_true rfl) rfl ?_
    exact k
theorem b_Mod_hopeless_34 {E : EN} {d : Nat} {a1 : Int} {a2 : Int} {a3 : Int} {σ : Mem} {K : Int → Mem → Prop}  (hd : 1 ≤ d) (k : (σ 116 2 ≤ a3 → Z E y_Mod_hopeless d 22 [some (vr 115), some (vi a1), some (vi (w32 (a2 + 1))), some (vi a3)] [] σ (qi K)) ∧ (a3 < σ 116 2 → CV E y_Mod_isNone (d - 1) [vr 115] σ (fun τ1 => CI E y_Mod_whyLast (d - 1) [vr 115, vl (w32 ((w32 (10 * a3)) + a2))] τ1 (fun x2 τ2 => (x2 ≠ 0 → Z E y_Mod_hopeless d 34 [some (vr 115), some (vi a1), some (vi a2), some (vi (w32 (a3 + 1)))] [] τ2 (qi K)) ∧ (x2 = 0 → Z E y_Mod_hopeless d 34 [some (vr 115), some (vi (ian a1 (ixo (ish 1 a2) (-1)))), some (vi a2), some (vi (w32 (a3 + 1)))] [] τ2 (qi K)))))) :
    Z E y_Mod_hopeless d 34 [some (vr 115), some (vi a1), some (vi a2), some (vi a3)] [] σ (qi K) := by
  refine z_iload_n (pc := 34) (q := 3) (by decide +kernel) rfl ?_
  refine z_aload_n (pc := 35) (q := 0) (by decide +kernel) rfl ?_
  refine z_getR (pc := 36) 116 fl_Mod_13 rfl rfl rfl (by decide +kernel) ?_
  refine z_iconst (pc := 39) (n := 2) (by decide +kernel) ⟨by decide, by decide⟩ ?_
  refine z_iald (pc := 40) rfl ⟨by decide, by decide⟩ (by decide +kernel) ?_
  refine z_icmp_ge (pc := 41) (off := 35) 76 (by decide +kernel) (by decide) ⟨fun hc => ?_, fun hc => ?_⟩
  · have k := k.1 hc
    refine z_iinc (pc := 76) (i := 2) (n := 1) [some (vr 115), some (vi a1), some (vi (w32 (a2 + 1))), some (vi a3)] (by decide +kernel) rfl rfl ?_
    refine z_goto (pc := 79) (off := -57) 22 (by decide +kernel) (by decide) ?_
    exact k
  · have k := k.2 hc
    refine z_aload_n (pc := 44) (q := 0) (by decide +kernel) rfl ?_
    refine z_callv (pc := 45) (as := []) ml_Mod_274 rfl ⟨rfl, by decide⟩ rfl rfl (Nat.le_of_ble_eq_true rfl) (dc := d - 1) (by omega) (by decide +kernel) (CV.z (CV.mono (fun τ1 k => ?_) k))
    refine z_aload_n (pc := 48) (q := 0) (by decide +kernel) rfl ?_
    refine z_bipush (pc := 49) (n := 10) (by decide +kernel) (by decide) ⟨by decide, by decide⟩ ?_
    refine z_iload_n (pc := 51) (q := 3) (by decide +kernel) rfl ?_
    refine z_imul (pc := 52) (by decide +kernel) ?_
    refine z_iload_n (pc := 53) (q := 2) (by decide +kernel) rfl ?_
    refine z_iadd (pc := 54) (by decide +kernel) ?_
    refine z_i2l (pc := 55) (by decide +kernel) ?_
    refine z_callv (pc := 56) (as := [vl (w32 ((w32 (10 * a3)) + a2))]) ml_Mod_292 rfl ⟨rfl, by decide⟩ rfl rfl (Nat.le_of_ble_eq_true rfl) (dc := d - 1) (by omega) (by decide +kernel) (CI.z (CI.mono (fun x2 τ2 k => ?_) k))
    refine z_if_ne (pc := 59) (off := 11) 70 (by decide +kernel) (by decide) ⟨fun hc => ?_, fun hc => ?_⟩
    · have k := k.1 hc
      refine z_iinc (pc := 70) (i := 3) (n := 1) [some (vr 115), some (vi a1), some (vi a2), some (vi (w32 (a3 + 1)))] (by decide +kernel) rfl rfl ?_
      refine z_goto (pc := 73) (off := -39) 34 (by decide +kernel) (by decide) ?_
      exact k
    · have k := k.2 hc
      refine z_iload_n (pc := 62) (q := 1) (by decide +kernel) rfl ?_
      refine z_iconst (pc := 63) (n := 1) (by decide +kernel) ⟨by decide, by decide⟩ ?_
      refine z_iload_n (pc := 64) (q := 2) (by decide +kernel) rfl ?_
      refine z_ishl (pc := 65) (by decide +kernel) ?_
      refine z_iconst (pc := 66) (n := -1) (by decide +kernel) ⟨by decide, by decide⟩ ?_
      refine z_ixor (pc := 67) (by decide +kernel) ?_
      refine z_iand (pc := 68) (by decide +kernel) ?_
      refine z_istore_n (pc := 69) (q := 1) [some (vr 115), some (vi (ian a1 (ixo (ish 1 a2) (-1)))), some (vi a2), some (vi a3)] (by decide +kernel) (Nat.le_of_ble_eq_true rfl) rfl ?_
      refine z_iinc (pc := 70) (i := 3) (n := 1) [some (vr 115), some (vi (ian a1 (ixo (ish 1 a2) (-1)))), some (vi a2), some (vi (w32 (a3 + 1)))] (by decide +kernel) rfl rfl ?_
      refine z_goto (pc := 73) (off := -39) 34 (by decide +kernel) (by decide) ?_
      exact k
theorem b_Mod_worthOf_0 {E : EN} {d : Nat} {a1 : Int} {σ : Mem} {K : Int → Mem → Prop}  (k : Z E y_Mod_worthOf d 4 [some (vr 115), some (vi a1), some (vi 0), some (vi 0)] [] σ (qi K)) :
    Z E y_Mod_worthOf d 0 [some (vr 115), some (vi a1), none, none] [] σ (qi K) := by
  refine z_iconst (pc := 0) (n := 0) (by decide +kernel) ⟨by decide, by decide⟩ ?_
  refine z_istore_n (pc := 1) (q := 2) [some (vr 115), some (vi a1), some (vi 0), none] (by decide +kernel) (Nat.le_of_ble_eq_true rfl) rfl ?_
  refine z_iconst (pc := 2) (n := 0) (by decide +kernel) ⟨by decide, by decide⟩ ?_
  refine z_istore_n (pc := 3) (q := 3) [some (vr 115), some (vi a1), some (vi 0), some (vi 0)] (by decide +kernel) (Nat.le_of_ble_eq_true rfl) rfl ?_
  exact k
theorem b_Mod_worthOf_4 {E : EN} {d : Nat} {a1 : Int} {a2 : Int} {a3 : Int} {σ : Mem} {K : Int → Mem → Prop}  (hd : 1 ≤ d) (k : (σ 116 4 ≤ a3 → K a2 σ) ∧ (a3 < σ 116 4 → CI E y_Mod_isIn (d - 1) [vl a1, vi a3] σ (fun x1 τ1 => (x1 = 0 → Z E y_Mod_worthOf d 4 [some (vr 115), some (vi a1), some (vi (w32 (a2 + 0))), some (vi (w32 (a3 + 1)))] [] τ1 (qi K)) ∧ (x1 ≠ 0 → (0 ≤ w32 (55 + a3) ∧ w32 (55 + a3) < 3108) ∧ Z E y_Mod_worthOf d 4 [some (vr 115), some (vi a1), some (vi (w32 (a2 + (τ1 116 (w32 (55 + a3)))))), some (vi (w32 (a3 + 1)))] [] τ1 (qi K))))) :
    Z E y_Mod_worthOf d 4 [some (vr 115), some (vi a1), some (vi a2), some (vi a3)] [] σ (qi K) := by
  refine z_iload_n (pc := 4) (q := 3) (by decide +kernel) rfl ?_
  refine z_aload_n (pc := 5) (q := 0) (by decide +kernel) rfl ?_
  refine z_getR (pc := 6) 116 fl_Mod_13 rfl rfl rfl (by decide +kernel) ?_
  refine z_iconst (pc := 9) (n := 4) (by decide +kernel) ⟨by decide, by decide⟩ ?_
  refine z_iald (pc := 10) rfl ⟨by decide, by decide⟩ (by decide +kernel) ?_
  refine z_icmp_ge (pc := 11) (off := 34) 45 (by decide +kernel) (by decide) ⟨fun hc => ?_, fun hc => ?_⟩
  · have k := k.1 hc
    refine z_iload_n (pc := 45) (q := 2) (by decide +kernel) rfl ?_
    exact z_iret (pc := 46) (by decide +kernel) rfl k
  · have k := k.2 hc
    refine z_iload_n (pc := 14) (q := 2) (by decide +kernel) rfl ?_
    refine z_iload_n (pc := 15) (q := 1) (by decide +kernel) rfl ?_
    refine z_i2l (pc := 16) (by decide +kernel) ?_
    refine z_iload_n (pc := 17) (q := 3) (by decide +kernel) rfl ?_
    refine z_calls (pc := 18) (as := [vl a1, vi a3]) ml_Mod_214 rfl rfl (Nat.le_of_ble_eq_true rfl) (dc := d - 1) (by omega) (by decide +kernel) (CI.z (CI.mono (fun x1 τ1 k => ?_) k))
    refine z_if_eq (pc := 21) (off := 15) 36 (by decide +kernel) (by decide) ⟨fun hc => ?_, fun hc => ?_⟩
    · have k := k.1 hc
      refine z_iconst (pc := 36) (n := 0) (by decide +kernel) ⟨by decide, by decide⟩ ?_
      refine z_iadd (pc := 37) (by decide +kernel) ?_
      refine z_istore_n (pc := 38) (q := 2) [some (vr 115), some (vi a1), some (vi (w32 (a2 + 0))), some (vi a3)] (by decide +kernel) (Nat.le_of_ble_eq_true rfl) rfl ?_
      refine z_iinc (pc := 39) (i := 3) (n := 1) [some (vr 115), some (vi a1), some (vi (w32 (a2 + 0))), some (vi (w32 (a3 + 1)))] (by decide +kernel) rfl rfl ?_
      refine z_goto (pc := 42) (off := -38) 4 (by decide +kernel) (by decide) ?_
      exact k
    · have k := k.2 hc
      refine z_aload_n (pc := 24) (q := 0) (by decide +kernel) rfl ?_
      refine z_getR (pc := 25) 116 fl_Mod_13 rfl rfl rfl (by decide +kernel) ?_
      refine z_bipush (pc := 28) (n := 55) (by decide +kernel) (by decide) ⟨by decide, by decide⟩ ?_
      refine z_iload_n (pc := 30) (q := 3) (by decide +kernel) rfl ?_
      refine z_iadd (pc := 31) (by decide +kernel) ?_
      have hb1 := k.1
      have k := k.2
      refine z_iald (pc := 32) rfl hb1 (by decide +kernel) ?_
      refine z_goto (pc := 33) (off := 4) 37 (by decide +kernel) (by decide) ?_
      refine z_iadd (pc := 37) (by decide +kernel) ?_
      refine z_istore_n (pc := 38) (q := 2) [some (vr 115), some (vi a1), some (vi (w32 (a2 + (τ1 116 (w32 (55 + a3)))))), some (vi a3)] (by decide +kernel) (Nat.le_of_ble_eq_true rfl) rfl ?_
      refine z_iinc (pc := 39) (i := 3) (n := 1) [some (vr 115), some (vi a1), some (vi (w32 (a2 + (τ1 116 (w32 (55 + a3)))))), some (vi (w32 (a3 + 1)))] (by decide +kernel) rfl rfl ?_
      refine z_goto (pc := 42) (off := -38) 4 (by decide +kernel) (by decide) ?_
      exact k
theorem b_Mod_rule_0 {E : EN} {d : Nat} {a1 : Int} {σ : Mem} {K : Int → Mem → Prop}  (hd : 1 ≤ d) (k : CI E y_Mod_within (d - 1) [vl a1, vl 0, vl 2] (up σ 115 0 0) (fun x1 τ1 => (x1 ≠ 0 → CI E y_Mod_awake (d - 1) [vr 115] τ1 (fun x2 τ2 => CV E y_Mod_laysRule (d - 1) [vr 115, vi (τ1 116 79), vi x2] τ2 (fun τ3 => (a1 ≠ 0 → (a1 ≠ 1 → CI E y_Mod_mendedBy (d - 1) [vr 115] τ3 (fun x4 τ4 => K x4 τ4)) ∧ (a1 = 1 → CI E y_Mod_worthOf (d - 1) [vr 115, vi (τ3 115 23)] τ3 (fun x5 τ5 => K x5 τ5))) ∧ (a1 = 0 → K (τ3 115 23) τ3)))) ∧ (x1 = 0 → K (-2) τ1))) :
    Z E y_Mod_rule d 0 [some (vr 115), some (vi a1)] [] σ (qi K) := by
  refine z_aload_n (pc := 0) (q := 0) (by decide +kernel) rfl ?_
  refine z_iconst (pc := 1) (n := 0) (by decide +kernel) ⟨by decide, by decide⟩ ?_
  refine z_putI (pc := 2) 0 fp_Mod_1 rfl rfl rfl (by decide +kernel) ?_
  refine z_iload_n (pc := 5) (q := 1) (by decide +kernel) rfl ?_
  refine z_i2l (pc := 6) (by decide +kernel) ?_
  refine z_lconst (pc := 7) (n := 0) 0 (by decide +kernel) (by decide) ⟨by decide, by decide⟩ ?_
  refine z_ldc2 (pc := 8) (index := 234) 2 (mm7 157 rfl) ⟨by decide, by decide⟩ (by decide +kernel) ?_
  refine z_calls (pc := 11) (as := [vl a1, vl 0, vl 2]) ml_Mod_136 rfl rfl (Nat.le_of_ble_eq_true rfl) (dc := d - 1) (by omega) (by decide +kernel) (CI.z (CI.mono (fun x1 τ1 k => ?_) k))
  refine z_if_ne (pc := 14) (off := 6) 20 (by decide +kernel) (by decide) ⟨fun hc => ?_, fun hc => ?_⟩
  · have k := k.1 hc
    refine z_aload_n (pc := 20) (q := 0) (by decide +kernel) rfl ?_
    refine z_aload_n (pc := 21) (q := 0) (by decide +kernel) rfl ?_
    refine z_getR (pc := 22) 116 fl_Mod_13 rfl rfl rfl (by decide +kernel) ?_
    refine z_bipush (pc := 25) (n := 79) (by decide +kernel) (by decide) ⟨by decide, by decide⟩ ?_
    refine z_iald (pc := 27) rfl ⟨by decide, by decide⟩ (by decide +kernel) ?_
    refine z_aload_n (pc := 28) (q := 0) (by decide +kernel) rfl ?_
    refine z_callv (pc := 29) (as := []) ml_Mod_261 rfl ⟨rfl, by decide⟩ rfl rfl (Nat.le_of_ble_eq_true rfl) (dc := d - 1) (by omega) (by decide +kernel) (CI.z (CI.mono (fun x2 τ2 k => ?_) k))
    refine z_callv (pc := 32) (as := [vi (τ1 116 79), vi x2]) ml_Mod_305 rfl ⟨rfl, by decide⟩ rfl rfl (Nat.le_of_ble_eq_true rfl) (dc := d - 1) (by omega) (by decide +kernel) (CV.z (CV.mono (fun τ3 k => ?_) k))
    refine z_iload_n (pc := 35) (q := 1) (by decide +kernel) rfl ?_
    refine z_if_ne (pc := 36) (off := 10) 46 (by decide +kernel) (by decide) ⟨fun hc => ?_, fun hc => ?_⟩
    · have k := k.1 hc
      refine z_iload_n (pc := 46) (q := 1) (by decide +kernel) rfl ?_
      refine z_iconst (pc := 47) (n := 1) (by decide +kernel) ⟨by decide, by decide⟩ ?_
      refine z_icmp_ne (pc := 48) (off := 14) 62 (by decide +kernel) (by decide) ⟨fun hc => ?_, fun hc => ?_⟩
      · have k := k.1 hc
        refine z_aload_n (pc := 62) (q := 0) (by decide +kernel) rfl ?_
        refine z_callv (pc := 63) (as := []) ml_Mod_268 rfl ⟨rfl, by decide⟩ rfl rfl (Nat.le_of_ble_eq_true rfl) (dc := d - 1) (by omega) (by decide +kernel) (CI.z (CI.mono (fun x4 τ4 k => ?_) k))
        exact z_iret (pc := 66) (by decide +kernel) rfl k
      · have k := k.2 hc
        refine z_aload_n (pc := 51) (q := 0) (by decide +kernel) rfl ?_
        refine z_aload_n (pc := 52) (q := 0) (by decide +kernel) rfl ?_
        refine z_getI (pc := 53) 23 fl_Mod_251 rfl (by decide) rfl (by decide +kernel) ?_
        refine z_callv (pc := 56) (as := [vi (τ3 115 23)]) ml_Mod_369 rfl ⟨rfl, by decide⟩ rfl rfl (Nat.le_of_ble_eq_true rfl) (dc := d - 1) (by omega) (by decide +kernel) (CI.z (CI.mono (fun x5 τ5 k => ?_) k))
        refine z_goto (pc := 59) (off := 7) 66 (by decide +kernel) (by decide) ?_
        exact z_iret (pc := 66) (by decide +kernel) rfl k
    · have k := k.2 hc
      refine z_aload_n (pc := 39) (q := 0) (by decide +kernel) rfl ?_
      refine z_getI (pc := 40) 23 fl_Mod_251 rfl (by decide) rfl (by decide +kernel) ?_
      refine z_goto (pc := 43) (off := 23) 66 (by decide +kernel) (by decide) ?_
      exact z_iret (pc := 66) (by decide +kernel) rfl k
  · have k := k.2 hc
    refine z_bipush (pc := 17) (n := -2) (by decide +kernel) (by decide) ⟨by decide, by decide⟩ ?_
    exact z_iret (pc := 19) (by decide +kernel) rfl k
theorem b_Mod_ruleBy_0 {E : EN} {d : Nat} {a1 : Int} {σ : Mem} {K : Int → Mem → Prop}  (hd : 1 ≤ d) (k : CI E y_Mod_isLetter (d - 1) [vr 115, vl a1] (up σ 115 0 0) (fun x1 τ1 => (x1 ≠ 0 → CI E y_Mod_awake (d - 1) [vr 115] τ1 (fun x2 τ2 => CV E y_Mod_laysRule (d - 1) [vr 115, vi (τ1 116 79), vi x2] τ2 (fun τ3 => Z E y_Mod_ruleBy d 34 [some (vr 115), some (vi a1), some (vi 0)] [] τ3 (qi K)))) ∧ (x1 = 0 → K (-2) τ1))) :
    Z E y_Mod_ruleBy d 0 [some (vr 115), some (vi a1), none] [] σ (qi K) := by
  refine z_aload_n (pc := 0) (q := 0) (by decide +kernel) rfl ?_
  refine z_iconst (pc := 1) (n := 0) (by decide +kernel) ⟨by decide, by decide⟩ ?_
  refine z_putI (pc := 2) 0 fp_Mod_1 rfl rfl rfl (by decide +kernel) ?_
  refine z_aload_n (pc := 5) (q := 0) (by decide +kernel) rfl ?_
  refine z_iload_n (pc := 6) (q := 1) (by decide +kernel) rfl ?_
  refine z_i2l (pc := 7) (by decide +kernel) ?_
  refine z_callv (pc := 8) (as := [vl a1]) ml_Mod_222 rfl ⟨rfl, by decide⟩ rfl rfl (Nat.le_of_ble_eq_true rfl) (dc := d - 1) (by omega) (by decide +kernel) (CI.z (CI.mono (fun x1 τ1 k => ?_) k))
  refine z_if_ne (pc := 11) (off := 6) 17 (by decide +kernel) (by decide) ⟨fun hc => ?_, fun hc => ?_⟩
  · have k := k.1 hc
    refine z_aload_n (pc := 17) (q := 0) (by decide +kernel) rfl ?_
    refine z_aload_n (pc := 18) (q := 0) (by decide +kernel) rfl ?_
    refine z_getR (pc := 19) 116 fl_Mod_13 rfl rfl rfl (by decide +kernel) ?_
    refine z_bipush (pc := 22) (n := 79) (by decide +kernel) (by decide) ⟨by decide, by decide⟩ ?_
    refine z_iald (pc := 24) rfl ⟨by decide, by decide⟩ (by decide +kernel) ?_
    refine z_aload_n (pc := 25) (q := 0) (by decide +kernel) rfl ?_
    refine z_callv (pc := 26) (as := []) ml_Mod_261 rfl ⟨rfl, by decide⟩ rfl rfl (Nat.le_of_ble_eq_true rfl) (dc := d - 1) (by omega) (by decide +kernel) (CI.z (CI.mono (fun x2 τ2 k => ?_) k))
    refine z_callv (pc := 29) (as := [vi (τ1 116 79), vi x2]) ml_Mod_305 rfl ⟨rfl, by decide⟩ rfl rfl (Nat.le_of_ble_eq_true rfl) (dc := d - 1) (by omega) (by decide +kernel) (CV.z (CV.mono (fun τ3 k => ?_) k))
    refine z_iconst (pc := 32) (n := 0) (by decide +kernel) ⟨by decide, by decide⟩ ?_
    refine z_istore_n (pc := 33) (q := 2) [some (vr 115), some (vi a1), some (vi 0)] (by decide +kernel) (Nat.le_of_ble_eq_true rfl) rfl ?_
    exact k
  · have k := k.2 hc
    refine z_bipush (pc := 14) (n := -2) (by decide +kernel) (by decide) ⟨by decide, by decide⟩ ?_
    exact z_iret (pc := 16) (by decide +kernel) rfl k
theorem b_Mod_ruleBy_34 {E : EN} {d : Nat} {a1 : Int} {a2 : Int} {σ : Mem} {K : Int → Mem → Prop}  (k : (σ 115 22 ≤ a2 → K (-1) σ) ∧ (a2 < σ 115 22 → (0 ≤ a2 ∧ a2 < 6) ∧ (σ 121 a2 ≠ a1 → Z E y_Mod_ruleBy d 34 [some (vr 115), some (vi a1), some (vi (w32 (a2 + 1)))] [] σ (qi K)) ∧ (σ 121 a2 = a1 → K (σ 122 a2) σ))) :
    Z E y_Mod_ruleBy d 34 [some (vr 115), some (vi a1), some (vi a2)] [] σ (qi K) := by
  refine z_iload_n (pc := 34) (q := 2) (by decide +kernel) rfl ?_
  refine z_aload_n (pc := 35) (q := 0) (by decide +kernel) rfl ?_
  refine z_getI (pc := 36) 22 fl_Mod_248 rfl (by decide) rfl (by decide +kernel) ?_
  refine z_icmp_ge (pc := 39) (off := 26) 65 (by decide +kernel) (by decide) ⟨fun hc => ?_, fun hc => ?_⟩
  · have k := k.1 hc
    refine z_iconst (pc := 65) (n := -1) (by decide +kernel) ⟨by decide, by decide⟩ ?_
    exact z_iret (pc := 66) (by decide +kernel) rfl k
  · have k := k.2 hc
    refine z_aload_n (pc := 42) (q := 0) (by decide +kernel) rfl ?_
    refine z_getR (pc := 43) 121 fl_Mod_33 rfl rfl rfl (by decide +kernel) ?_
    refine z_iload_n (pc := 46) (q := 2) (by decide +kernel) rfl ?_
    have hb1 := k.1
    have k := k.2
    refine z_iald (pc := 47) rfl hb1 (by decide +kernel) ?_
    refine z_iload_n (pc := 48) (q := 1) (by decide +kernel) rfl ?_
    refine z_icmp_ne (pc := 49) (off := 10) 59 (by decide +kernel) (by decide) ⟨fun hc => ?_, fun hc => ?_⟩
    · have k := k.1 hc
      refine z_iinc (pc := 59) (i := 2) (n := 1) [some (vr 115), some (vi a1), some (vi (w32 (a2 + 1)))] (by decide +kernel) rfl rfl ?_
      refine z_goto (pc := 62) (off := -28) 34 (by decide +kernel) (by decide) ?_
      exact k
    · have k := k.2 hc
      refine z_aload_n (pc := 52) (q := 0) (by decide +kernel) rfl ?_
      refine z_getR (pc := 53) 122 fl_Mod_36 rfl rfl rfl (by decide +kernel) ?_
      refine z_iload_n (pc := 56) (q := 2) (by decide +kernel) rfl ?_
      refine z_iald (pc := 57) rfl hb1 (by decide +kernel) ?_
      exact z_iret (pc := 58) (by decide +kernel) rfl k
theorem b_Mod_isSet_0 {E : EN} {d : Nat} {a1 : Int} {σ : Mem} {K : Int → Mem → Prop}  (hd : 1 ≤ d) (k : CI E y_Mod_letters (d - 1) [vr 115] σ (fun x1 τ1 => (ian a1 (ixo x1 (-1)) ≠ 0 → K 0 τ1) ∧ (ian a1 (ixo x1 (-1)) = 0 → K 1 τ1))) :
    Z E y_Mod_isSet d 0 [some (vr 115), some (vi a1)] [] σ (qi K) := by
  refine z_iload_n (pc := 0) (q := 1) (by decide +kernel) rfl ?_
  refine z_aload_n (pc := 1) (q := 0) (by decide +kernel) rfl ?_
  refine z_callv (pc := 2) (as := []) ml_Mod_366 rfl ⟨rfl, by decide⟩ rfl rfl (Nat.le_of_ble_eq_true rfl) (dc := d - 1) (by omega) (by decide +kernel) (CI.z (CI.mono (fun x1 τ1 k => ?_) k))
  refine z_iconst (pc := 5) (n := -1) (by decide +kernel) ⟨by decide, by decide⟩ ?_
  refine z_ixor (pc := 6) (by decide +kernel) ?_
  refine z_iand (pc := 7) (by decide +kernel) ?_
  refine z_if_ne (pc := 8) (off := 7) 15 (by decide +kernel) (by decide) ⟨fun hc => ?_, fun hc => ?_⟩
  · have k := k.1 hc
    refine z_iconst (pc := 15) (n := 0) (by decide +kernel) ⟨by decide, by decide⟩ ?_
    exact z_zret (pc := 16) (by decide +kernel) rfl ⟨by decide, k⟩
  · have k := k.2 hc
    refine z_iconst (pc := 11) (n := 1) (by decide +kernel) ⟨by decide, by decide⟩ ?_
    refine z_goto (pc := 12) (off := 4) 16 (by decide +kernel) (by decide) ?_
    exact z_zret (pc := 16) (by decide +kernel) rfl ⟨by decide, k⟩
theorem b_Mod_sleptFor_0 {E : EN} {d : Nat} {a1 : Int} {σ : Mem} {K : Int → Mem → Prop}  (k : Z E y_Mod_sleptFor d 21 [some (vr 115), some (vi a1), some (vi (w32 ((ish 1 (σ 116 2)) - 1))), some (vi 0), some (vi 0)] [] (up σ 115 35 (w32 ((ish 1 (σ 116 2)) - 1))) (qi K)) :
    Z E y_Mod_sleptFor d 0 [some (vr 115), some (vi a1), none, none, none] [] σ (qi K) := by
  refine z_iconst (pc := 0) (n := 1) (by decide +kernel) ⟨by decide, by decide⟩ ?_
  refine z_aload_n (pc := 1) (q := 0) (by decide +kernel) rfl ?_
  refine z_getR (pc := 2) 116 fl_Mod_13 rfl rfl rfl (by decide +kernel) ?_
  refine z_iconst (pc := 5) (n := 2) (by decide +kernel) ⟨by decide, by decide⟩ ?_
  refine z_iald (pc := 6) rfl ⟨by decide, by decide⟩ (by decide +kernel) ?_
  refine z_ishl (pc := 7) (by decide +kernel) ?_
  refine z_iconst (pc := 8) (n := 1) (by decide +kernel) ⟨by decide, by decide⟩ ?_
  refine z_isub (pc := 9) (by decide +kernel) ?_
  refine z_istore_n (pc := 10) (q := 2) [some (vr 115), some (vi a1), some (vi (w32 ((ish 1 (σ 116 2)) - 1))), none, none] (by decide +kernel) (Nat.le_of_ble_eq_true rfl) rfl ?_
  refine z_iconst (pc := 11) (n := 0) (by decide +kernel) ⟨by decide, by decide⟩ ?_
  refine z_istore_n (pc := 12) (q := 3) [some (vr 115), some (vi a1), some (vi (w32 ((ish 1 (σ 116 2)) - 1))), some (vi 0), none] (by decide +kernel) (Nat.le_of_ble_eq_true rfl) rfl ?_
  refine z_aload_n (pc := 13) (q := 0) (by decide +kernel) rfl ?_
  refine z_iload_n (pc := 14) (q := 2) (by decide +kernel) rfl ?_
  refine z_putI (pc := 15) 35 fp_Mod_372 rfl rfl rfl (by decide +kernel) ?_
  refine z_iconst (pc := 18) (n := 0) (by decide +kernel) ⟨by decide, by decide⟩ ?_
  refine z_istore (pc := 19) (i := 4) [some (vr 115), some (vi a1), some (vi (w32 ((ish 1 (σ 116 2)) - 1))), some (vi 0), some (vi 0)] (by decide +kernel) (Nat.le_of_ble_eq_true rfl) rfl ?_
  exact k
theorem b_Mod_sleptFor_21 {E : EN} {d : Nat} {a1 : Int} {a2 : Int} {a3 : Int} {a4 : Int} {σ : Mem} {K : Int → Mem → Prop}  (hd : 1 ≤ d) (k : (a2 < a4 → K a3 σ) ∧ (a4 ≤ a2 → CV E y_Mod_laysRule (d - 1) [vr 115, vi 0, vi (ian a2 (ixo a4 (-1)))] σ (fun τ1 => (τ1 115 23 = a1 → Z E y_Mod_sleptFor d 21 [some (vr 115), some (vi a1), some (vi a2), some (vi (w32 (a3 + 1))), some (vi (w32 (a4 + 1)))] [] (up τ1 115 35 (ian (τ1 115 35) a4)) (qi K)) ∧ (τ1 115 23 ≠ a1 → Z E y_Mod_sleptFor d 21 [some (vr 115), some (vi a1), some (vi a2), some (vi a3), some (vi (w32 (a4 + 1)))] [] τ1 (qi K))))) :
    Z E y_Mod_sleptFor d 21 [some (vr 115), some (vi a1), some (vi a2), some (vi a3), some (vi a4)] [] σ (qi K) := by
  refine z_iload (pc := 21) (i := 4) (by decide +kernel) rfl ?_
  refine z_iload_n (pc := 23) (q := 2) (by decide +kernel) rfl ?_
  refine z_icmp_gt (pc := 24) (off := 45) 69 (by decide +kernel) (by decide) ⟨fun hc => ?_, fun hc => ?_⟩
  · have k := k.1 hc
    refine z_iload_n (pc := 69) (q := 3) (by decide +kernel) rfl ?_
    exact z_iret (pc := 70) (by decide +kernel) rfl k
  · have k := k.2 hc
    refine z_aload_n (pc := 27) (q := 0) (by decide +kernel) rfl ?_
    refine z_iconst (pc := 28) (n := 0) (by decide +kernel) ⟨by decide, by decide⟩ ?_
    refine z_iload_n (pc := 29) (q := 2) (by decide +kernel) rfl ?_
    refine z_iload (pc := 30) (i := 4) (by decide +kernel) rfl ?_
    refine z_iconst (pc := 32) (n := -1) (by decide +kernel) ⟨by decide, by decide⟩ ?_
    refine z_ixor (pc := 33) (by decide +kernel) ?_
    refine z_iand (pc := 34) (by decide +kernel) ?_
    refine z_callv (pc := 35) (as := [vi 0, vi (ian a2 (ixo a4 (-1)))]) ml_Mod_305 rfl ⟨rfl, by decide⟩ rfl rfl (Nat.le_of_ble_eq_true rfl) (dc := d - 1) (by omega) (by decide +kernel) (CV.z (CV.mono (fun τ1 k => ?_) k))
    refine z_aload_n (pc := 38) (q := 0) (by decide +kernel) rfl ?_
    refine z_getI (pc := 39) 23 fl_Mod_251 rfl (by decide) rfl (by decide +kernel) ?_
    refine z_iload_n (pc := 42) (q := 1) (by decide +kernel) rfl ?_
    refine z_icmp_eq (pc := 43) (off := 6) 49 (by decide +kernel) (by decide) ⟨fun hc => ?_, fun hc => ?_⟩
    · have k := k.1 hc
      refine z_iinc (pc := 49) (i := 3) (n := 1) [some (vr 115), some (vi a1), some (vi a2), some (vi (w32 (a3 + 1))), some (vi a4)] (by decide +kernel) rfl rfl ?_
      refine z_aload_n (pc := 52) (q := 0) (by decide +kernel) rfl ?_
      refine z_dup (pc := 53) (by decide +kernel) rfl ?_
      refine z_getI (pc := 54) 35 fl_Mod_372 rfl (by decide) rfl (by decide +kernel) ?_
      refine z_iload (pc := 57) (i := 4) (by decide +kernel) rfl ?_
      refine z_iand (pc := 59) (by decide +kernel) ?_
      refine z_putI (pc := 60) 35 fp_Mod_372 rfl rfl rfl (by decide +kernel) ?_
      refine z_iinc (pc := 63) (i := 4) (n := 1) [some (vr 115), some (vi a1), some (vi a2), some (vi (w32 (a3 + 1))), some (vi (w32 (a4 + 1)))] (by decide +kernel) rfl rfl ?_
      refine z_goto (pc := 66) (off := -45) 21 (by decide +kernel) (by decide) ?_
      exact k
    · have k := k.2 hc
      refine z_goto (pc := 46) (off := 17) 63 (by decide +kernel) (by decide) ?_
      refine z_iinc (pc := 63) (i := 4) (n := 1) [some (vr 115), some (vi a1), some (vi a2), some (vi a3), some (vi (w32 (a4 + 1)))] (by decide +kernel) rfl rfl ?_
      refine z_goto (pc := 66) (off := -45) 21 (by decide +kernel) (by decide) ?_
      exact k
theorem b_Mod_slept_0 {E : EN} {d : Nat} {a1 : Int} {σ : Mem} {K : Int → Mem → Prop}  (hd : 1 ≤ d) (k : CI E y_Mod_isSet (d - 1) [vr 115, vi a1] (up σ 115 0 0) (fun x1 τ1 => (x1 = 0 → K (-3) τ1) ∧ (x1 ≠ 0 → CI E y_Mod_sleptFor (d - 1) [vr 115, vi a1] τ1 (fun x2 τ2 => K x2 τ2)))) :
    Z E y_Mod_slept d 0 [some (vr 115), some (vi a1)] [] σ (qi K) := by
  refine z_aload_n (pc := 0) (q := 0) (by decide +kernel) rfl ?_
  refine z_iconst (pc := 1) (n := 0) (by decide +kernel) ⟨by decide, by decide⟩ ?_
  refine z_putI (pc := 2) 0 fp_Mod_1 rfl rfl rfl (by decide +kernel) ?_
  refine z_aload_n (pc := 5) (q := 0) (by decide +kernel) rfl ?_
  refine z_iload_n (pc := 6) (q := 1) (by decide +kernel) rfl ?_
  refine z_callv (pc := 7) (as := [vi a1]) ml_Mod_375 rfl ⟨rfl, by decide⟩ rfl rfl (Nat.le_of_ble_eq_true rfl) (dc := d - 1) (by omega) (by decide +kernel) (CI.z (CI.mono (fun x1 τ1 k => ?_) k))
  refine z_if_eq (pc := 10) (off := 11) 21 (by decide +kernel) (by decide) ⟨fun hc => ?_, fun hc => ?_⟩
  · have k := k.1 hc
    refine z_bipush (pc := 21) (n := -3) (by decide +kernel) (by decide) ⟨by decide, by decide⟩ ?_
    exact z_iret (pc := 23) (by decide +kernel) rfl k
  · have k := k.2 hc
    refine z_aload_n (pc := 13) (q := 0) (by decide +kernel) rfl ?_
    refine z_iload_n (pc := 14) (q := 1) (by decide +kernel) rfl ?_
    refine z_callv (pc := 15) (as := [vi a1]) ml_Mod_378 rfl ⟨rfl, by decide⟩ rfl rfl (Nat.le_of_ble_eq_true rfl) (dc := d - 1) (by omega) (by decide +kernel) (CI.z (CI.mono (fun x2 τ2 k => ?_) k))
    refine z_goto (pc := 18) (off := 5) 23 (by decide +kernel) (by decide) ?_
    exact z_iret (pc := 23) (by decide +kernel) rfl k
theorem b_Mod_sleeper_0 {E : EN} {d : Nat} {a1 : Int} {σ : Mem} {K : Int → Mem → Prop}  (hd : 1 ≤ d) (k : CI E y_Mod_isSet (d - 1) [vr 115, vi a1] (up σ 115 0 0) (fun x1 τ1 => (x1 ≠ 0 → CI E y_Mod_sleptFor (d - 1) [vr 115, vi a1] τ1 (fun x2 τ2 => (x2 ≠ 0 → K (τ2 115 35) τ2) ∧ (x2 = 0 → K 0 τ2))) ∧ (x1 = 0 → K (-3) τ1))) :
    Z E y_Mod_sleeper d 0 [some (vr 115), some (vi a1)] [] σ (qi K) := by
  refine z_aload_n (pc := 0) (q := 0) (by decide +kernel) rfl ?_
  refine z_iconst (pc := 1) (n := 0) (by decide +kernel) ⟨by decide, by decide⟩ ?_
  refine z_putI (pc := 2) 0 fp_Mod_1 rfl rfl rfl (by decide +kernel) ?_
  refine z_aload_n (pc := 5) (q := 0) (by decide +kernel) rfl ?_
  refine z_iload_n (pc := 6) (q := 1) (by decide +kernel) rfl ?_
  refine z_callv (pc := 7) (as := [vi a1]) ml_Mod_375 rfl ⟨rfl, by decide⟩ rfl rfl (Nat.le_of_ble_eq_true rfl) (dc := d - 1) (by omega) (by decide +kernel) (CI.z (CI.mono (fun x1 τ1 k => ?_) k))
  refine z_if_ne (pc := 10) (off := 6) 16 (by decide +kernel) (by decide) ⟨fun hc => ?_, fun hc => ?_⟩
  · have k := k.1 hc
    refine z_aload_n (pc := 16) (q := 0) (by decide +kernel) rfl ?_
    refine z_iload_n (pc := 17) (q := 1) (by decide +kernel) rfl ?_
    refine z_callv (pc := 18) (as := [vi a1]) ml_Mod_378 rfl ⟨rfl, by decide⟩ rfl rfl (Nat.le_of_ble_eq_true rfl) (dc := d - 1) (by omega) (by decide +kernel) (CI.z (CI.mono (fun x2 τ2 k => ?_) k))
    refine z_if_ne (pc := 21) (off := 7) 28 (by decide +kernel) (by decide) ⟨fun hc => ?_, fun hc => ?_⟩
    · have k := k.1 hc
      refine z_aload_n (pc := 28) (q := 0) (by decide +kernel) rfl ?_
      refine z_getI (pc := 29) 35 fl_Mod_372 rfl (by decide) rfl (by decide +kernel) ?_
      exact z_iret (pc := 32) (by decide +kernel) rfl k
    · have k := k.2 hc
      refine z_iconst (pc := 24) (n := 0) (by decide +kernel) ⟨by decide, by decide⟩ ?_
      refine z_goto (pc := 25) (off := 7) 32 (by decide +kernel) (by decide) ?_
      exact z_iret (pc := 32) (by decide +kernel) rfl k
  · have k := k.2 hc
    refine z_bipush (pc := 13) (n := -3) (by decide +kernel) (by decide) ⟨by decide, by decide⟩ ?_
    exact z_iret (pc := 15) (by decide +kernel) rfl k
theorem b_Mod_quietOf_0 {E : EN} {d : Nat} {a1 : Int} {σ : Mem} {K : Int → Mem → Prop}  (k : Z E y_Mod_quietOf d 6 [some (vr 115), some (vi a1), some (vi 10000), some (vi 0)] [] σ (qi K)) :
    Z E y_Mod_quietOf d 0 [some (vr 115), some (vi a1), none, none] [] σ (qi K) := by
  refine z_sipush (pc := 0) (n := 10000) (by decide +kernel) (by decide) ⟨by decide, by decide⟩ ?_
  refine z_istore_n (pc := 3) (q := 2) [some (vr 115), some (vi a1), some (vi 10000), none] (by decide +kernel) (Nat.le_of_ble_eq_true rfl) rfl ?_
  refine z_iconst (pc := 4) (n := 0) (by decide +kernel) ⟨by decide, by decide⟩ ?_
  refine z_istore_n (pc := 5) (q := 3) [some (vr 115), some (vi a1), some (vi 10000), some (vi 0)] (by decide +kernel) (Nat.le_of_ble_eq_true rfl) rfl ?_
  exact k
theorem b_Mod_quietOf_6 {E : EN} {d : Nat} {a1 : Int} {a2 : Int} {a3 : Int} {σ : Mem} {K : Int → Mem → Prop}  (hd : 1 ≤ d) (k : (σ 116 4 ≤ a3 → K a2 σ) ∧ (a3 < σ 116 4 → CI E y_Mod_isIn (d - 1) [vl a1, vi a3] σ (fun x1 τ1 => (x1 = 0 → Z E y_Mod_quietOf d 6 [some (vr 115), some (vi a1), some (vi a2), some (vi (w32 (a3 + 1)))] [] τ1 (qi K)) ∧ (x1 ≠ 0 → CI E y_Mod_showsOf (d - 1) [vr 115, vi a3] τ1 (fun x2 τ2 => Z E y_Mod_quietOf d 6 [some (vr 115), some (vi a1), some (vi (w32 (Int.tdiv (w32 (a2 * (w32 (100 - x2)))) 100))), some (vi (w32 (a3 + 1)))] [] τ2 (qi K)))))) :
    Z E y_Mod_quietOf d 6 [some (vr 115), some (vi a1), some (vi a2), some (vi a3)] [] σ (qi K) := by
  refine z_iload_n (pc := 6) (q := 3) (by decide +kernel) rfl ?_
  refine z_aload_n (pc := 7) (q := 0) (by decide +kernel) rfl ?_
  refine z_getR (pc := 8) 116 fl_Mod_13 rfl rfl rfl (by decide +kernel) ?_
  refine z_iconst (pc := 11) (n := 4) (by decide +kernel) ⟨by decide, by decide⟩ ?_
  refine z_iald (pc := 12) rfl ⟨by decide, by decide⟩ (by decide +kernel) ?_
  refine z_icmp_ge (pc := 13) (off := 32) 45 (by decide +kernel) (by decide) ⟨fun hc => ?_, fun hc => ?_⟩
  · have k := k.1 hc
    refine z_iload_n (pc := 45) (q := 2) (by decide +kernel) rfl ?_
    exact z_iret (pc := 46) (by decide +kernel) rfl k
  · have k := k.2 hc
    refine z_iload_n (pc := 16) (q := 1) (by decide +kernel) rfl ?_
    refine z_i2l (pc := 17) (by decide +kernel) ?_
    refine z_iload_n (pc := 18) (q := 3) (by decide +kernel) rfl ?_
    refine z_calls (pc := 19) (as := [vl a1, vi a3]) ml_Mod_214 rfl rfl (Nat.le_of_ble_eq_true rfl) (dc := d - 1) (by omega) (by decide +kernel) (CI.z (CI.mono (fun x1 τ1 k => ?_) k))
    refine z_if_eq (pc := 22) (off := 17) 39 (by decide +kernel) (by decide) ⟨fun hc => ?_, fun hc => ?_⟩
    · have k := k.1 hc
      refine z_iinc (pc := 39) (i := 3) (n := 1) [some (vr 115), some (vi a1), some (vi a2), some (vi (w32 (a3 + 1)))] (by decide +kernel) rfl rfl ?_
      refine z_goto (pc := 42) (off := -36) 6 (by decide +kernel) (by decide) ?_
      exact k
    · have k := k.2 hc
      refine z_iload_n (pc := 25) (q := 2) (by decide +kernel) rfl ?_
      refine z_bipush (pc := 26) (n := 100) (by decide +kernel) (by decide) ⟨by decide, by decide⟩ ?_
      refine z_aload_n (pc := 28) (q := 0) (by decide +kernel) rfl ?_
      refine z_iload_n (pc := 29) (q := 3) (by decide +kernel) rfl ?_
      refine z_callv (pc := 30) (as := [vi a3]) ml_Mod_242 rfl ⟨rfl, by decide⟩ rfl rfl (Nat.le_of_ble_eq_true rfl) (dc := d - 1) (by omega) (by decide +kernel) (CI.z (CI.mono (fun x2 τ2 k => ?_) k))
      refine z_isub (pc := 33) (by decide +kernel) ?_
      refine z_imul (pc := 34) (by decide +kernel) ?_
      refine z_bipush (pc := 35) (n := 100) (by decide +kernel) (by decide) ⟨by decide, by decide⟩ ?_
      refine z_idiv (pc := 37) (by decide +kernel) (by decide) ?_
      refine z_istore_n (pc := 38) (q := 2) [some (vr 115), some (vi a1), some (vi (w32 (Int.tdiv (w32 (a2 * (w32 (100 - x2)))) 100))), some (vi a3)] (by decide +kernel) (Nat.le_of_ble_eq_true rfl) rfl ?_
      refine z_iinc (pc := 39) (i := 3) (n := 1) [some (vr 115), some (vi a1), some (vi (w32 (Int.tdiv (w32 (a2 * (w32 (100 - x2)))) 100))), some (vi (w32 (a3 + 1)))] (by decide +kernel) rfl rfl ?_
      refine z_goto (pc := 42) (off := -36) 6 (by decide +kernel) (by decide) ?_
      exact k
theorem b_Mod_bitsOf_0 {E : EN} {d : Nat} {a0 : Int} {σ : Mem} {K : Int → Mem → Prop}  (k : Z E y_Mod_bitsOf d 4 [some (vi a0), some (vi 0), some (vi 0)] [] σ (qi K)) :
    Z E y_Mod_bitsOf d 0 [some (vi a0), none, none] [] σ (qi K) := by
  refine z_iconst (pc := 0) (n := 0) (by decide +kernel) ⟨by decide, by decide⟩ ?_
  refine z_istore_n (pc := 1) (q := 1) [some (vi a0), some (vi 0), none] (by decide +kernel) (Nat.le_of_ble_eq_true rfl) rfl ?_
  refine z_iconst (pc := 2) (n := 0) (by decide +kernel) ⟨by decide, by decide⟩ ?_
  refine z_istore_n (pc := 3) (q := 2) [some (vi a0), some (vi 0), some (vi 0)] (by decide +kernel) (Nat.le_of_ble_eq_true rfl) rfl ?_
  exact k
theorem b_Mod_bitsOf_4 {E : EN} {d : Nat} {a0 : Int} {a1 : Int} {a2 : Int} {σ : Mem} {K : Int → Mem → Prop}  (k : (6 ≤ a2 → K a1 σ) ∧ (a2 < 6 → Z E y_Mod_bitsOf d 4 [some (vi a0), some (vi (w32 (a1 + (ian (isr a0 a2) 1)))), some (vi (w32 (a2 + 1)))] [] σ (qi K))) :
    Z E y_Mod_bitsOf d 4 [some (vi a0), some (vi a1), some (vi a2)] [] σ (qi K) := by
  refine z_iload_n (pc := 4) (q := 2) (by decide +kernel) rfl ?_
  refine z_bipush (pc := 5) (n := 6) (by decide +kernel) (by decide) ⟨by decide, by decide⟩ ?_
  refine z_icmp_ge (pc := 7) (off := 17) 24 (by decide +kernel) (by decide) ⟨fun hc => ?_, fun hc => ?_⟩
  · have k := k.1 hc
    refine z_iload_n (pc := 24) (q := 1) (by decide +kernel) rfl ?_
    exact z_iret (pc := 25) (by decide +kernel) rfl k
  · have k := k.2 hc
    refine z_iload_n (pc := 10) (q := 1) (by decide +kernel) rfl ?_
    refine z_iload_n (pc := 11) (q := 0) (by decide +kernel) rfl ?_
    refine z_iload_n (pc := 12) (q := 2) (by decide +kernel) rfl ?_
    refine z_ishr (pc := 13) (by decide +kernel) ?_
    refine z_iconst (pc := 14) (n := 1) (by decide +kernel) ⟨by decide, by decide⟩ ?_
    refine z_iand (pc := 15) (by decide +kernel) ?_
    refine z_iadd (pc := 16) (by decide +kernel) ?_
    refine z_istore_n (pc := 17) (q := 1) [some (vi a0), some (vi (w32 (a1 + (ian (isr a0 a2) 1)))), some (vi a2)] (by decide +kernel) (Nat.le_of_ble_eq_true rfl) rfl ?_
    refine z_iinc (pc := 18) (i := 2) (n := 1) [some (vi a0), some (vi (w32 (a1 + (ian (isr a0 a2) 1)))), some (vi (w32 (a2 + 1)))] (by decide +kernel) rfl rfl ?_
    refine z_goto (pc := 21) (off := -17) 4 (by decide +kernel) (by decide) ?_
    exact k
theorem b_Mod_quiet_0 {E : EN} {d : Nat} {a1 : Int} {σ : Mem} {K : Int → Mem → Prop}  (hd : 1 ≤ d) (k : CI E y_Mod_isSet (d - 1) [vr 115, vi a1] (up σ 115 0 0) (fun x1 τ1 => (x1 = 0 → K (-3) τ1) ∧ (x1 ≠ 0 → CI E y_Mod_quietOf (d - 1) [vr 115, vi a1] τ1 (fun x2 τ2 => K x2 τ2)))) :
    Z E y_Mod_quiet d 0 [some (vr 115), some (vi a1)] [] σ (qi K) := by
  refine z_aload_n (pc := 0) (q := 0) (by decide +kernel) rfl ?_
  refine z_iconst (pc := 1) (n := 0) (by decide +kernel) ⟨by decide, by decide⟩ ?_
  refine z_putI (pc := 2) 0 fp_Mod_1 rfl rfl rfl (by decide +kernel) ?_
  refine z_aload_n (pc := 5) (q := 0) (by decide +kernel) rfl ?_
  refine z_iload_n (pc := 6) (q := 1) (by decide +kernel) rfl ?_
  refine z_callv (pc := 7) (as := [vi a1]) ml_Mod_375 rfl ⟨rfl, by decide⟩ rfl rfl (Nat.le_of_ble_eq_true rfl) (dc := d - 1) (by omega) (by decide +kernel) (CI.z (CI.mono (fun x1 τ1 k => ?_) k))
  refine z_if_eq (pc := 10) (off := 11) 21 (by decide +kernel) (by decide) ⟨fun hc => ?_, fun hc => ?_⟩
  · have k := k.1 hc
    refine z_bipush (pc := 21) (n := -3) (by decide +kernel) (by decide) ⟨by decide, by decide⟩ ?_
    exact z_iret (pc := 23) (by decide +kernel) rfl k
  · have k := k.2 hc
    refine z_aload_n (pc := 13) (q := 0) (by decide +kernel) rfl ?_
    refine z_iload_n (pc := 14) (q := 1) (by decide +kernel) rfl ?_
    refine z_callv (pc := 15) (as := [vi a1]) ml_Mod_381 rfl ⟨rfl, by decide⟩ rfl rfl (Nat.le_of_ble_eq_true rfl) (dc := d - 1) (by omega) (by decide +kernel) (CI.z (CI.mono (fun x2 τ2 k => ?_) k))
    refine z_goto (pc := 18) (off := 5) 23 (by decide +kernel) (by decide) ?_
    exact z_iret (pc := 23) (by decide +kernel) rfl k
theorem b_Mod_safest_0 {E : EN} {d : Nat} {a1 : Int} {σ : Mem} {K : Int → Mem → Prop}  (hd : 1 ≤ d) (k : CI E y_Mod_within (d - 1) [vl a1, vl 0, vl 6] (up σ 115 0 0) (fun x1 τ1 => (x1 ≠ 0 → Z E y_Mod_safest d 24 [some (vr 115), some (vi a1), some (vi (-1)), some (vi 0)] [] τ1 (qi K)) ∧ (x1 = 0 → K (-3) τ1))) :
    Z E y_Mod_safest d 0 [some (vr 115), some (vi a1), none, none] [] σ (qi K) := by
  refine z_aload_n (pc := 0) (q := 0) (by decide +kernel) rfl ?_
  refine z_iconst (pc := 1) (n := 0) (by decide +kernel) ⟨by decide, by decide⟩ ?_
  refine z_putI (pc := 2) 0 fp_Mod_1 rfl rfl rfl (by decide +kernel) ?_
  refine z_iload_n (pc := 5) (q := 1) (by decide +kernel) rfl ?_
  refine z_i2l (pc := 6) (by decide +kernel) ?_
  refine z_lconst (pc := 7) (n := 0) 0 (by decide +kernel) (by decide) ⟨by decide, by decide⟩ ?_
  refine z_ldc2 (pc := 8) (index := 226) 6 (mm7 129 rfl) ⟨by decide, by decide⟩ (by decide +kernel) ?_
  refine z_calls (pc := 11) (as := [vl a1, vl 0, vl 6]) ml_Mod_136 rfl rfl (Nat.le_of_ble_eq_true rfl) (dc := d - 1) (by omega) (by decide +kernel) (CI.z (CI.mono (fun x1 τ1 k => ?_) k))
  refine z_if_ne (pc := 14) (off := 6) 20 (by decide +kernel) (by decide) ⟨fun hc => ?_, fun hc => ?_⟩
  · have k := k.1 hc
    refine z_iconst (pc := 20) (n := -1) (by decide +kernel) ⟨by decide, by decide⟩ ?_
    refine z_istore_n (pc := 21) (q := 2) [some (vr 115), some (vi a1), some (vi (-1)), none] (by decide +kernel) (Nat.le_of_ble_eq_true rfl) rfl ?_
    refine z_iconst (pc := 22) (n := 0) (by decide +kernel) ⟨by decide, by decide⟩ ?_
    refine z_istore_n (pc := 23) (q := 3) [some (vr 115), some (vi a1), some (vi (-1)), some (vi 0)] (by decide +kernel) (Nat.le_of_ble_eq_true rfl) rfl ?_
    exact k
  · have k := k.2 hc
    refine z_bipush (pc := 17) (n := -3) (by decide +kernel) (by decide) ⟨by decide, by decide⟩ ?_
    exact z_iret (pc := 19) (by decide +kernel) rfl k
theorem b_Mod_safest_24 {E : EN} {d : Nat} {a1 : Int} {a2 : Int} {a3 : Int} {σ : Mem} {K : Int → Mem → Prop}  (hd : 1 ≤ d) (k : CI E y_Mod_letters (d - 1) [vr 115] σ (fun x1 τ1 => (x1 < a3 → K a2 τ1) ∧ (a3 ≤ x1 → (ian a3 (τ1 116 79) ≠ 0 → Z E y_Mod_safest d 24 [some (vr 115), some (vi a1), some (vi a2), some (vi (w32 (a3 + 1)))] [] τ1 (qi K)) ∧ (ian a3 (τ1 116 79) = 0 → CI E y_Mod_bitsOf (d - 1) [vi a3] τ1 (fun x2 τ2 => (x2 ≠ a1 → Z E y_Mod_safest d 24 [some (vr 115), some (vi a1), some (vi a2), some (vi (w32 (a3 + 1)))] [] τ2 (qi K)) ∧ (x2 = a1 → (a2 = (-1) → Z E y_Mod_safest d 24 [some (vr 115), some (vi a1), some (vi a3), some (vi (w32 (a3 + 1)))] [] τ2 (qi K)) ∧ (a2 ≠ (-1) → CI E y_Mod_quietOf (d - 1) [vr 115, vi a3] τ2 (fun x3 τ3 => CI E y_Mod_quietOf (d - 1) [vr 115, vi a2] τ3 (fun x4 τ4 => (x3 ≤ x4 → Z E y_Mod_safest d 24 [some (vr 115), some (vi a1), some (vi a2), some (vi (w32 (a3 + 1)))] [] τ4 (qi K)) ∧ (x4 < x3 → Z E y_Mod_safest d 24 [some (vr 115), some (vi a1), some (vi a3), some (vi (w32 (a3 + 1)))] [] τ4 (qi K))))))))))) :
    Z E y_Mod_safest d 24 [some (vr 115), some (vi a1), some (vi a2), some (vi a3)] [] σ (qi K) := by
  refine z_iload_n (pc := 24) (q := 3) (by decide +kernel) rfl ?_
  refine z_aload_n (pc := 25) (q := 0) (by decide +kernel) rfl ?_
  refine z_callv (pc := 26) (as := []) ml_Mod_366 rfl ⟨rfl, by decide⟩ rfl rfl (Nat.le_of_ble_eq_true rfl) (dc := d - 1) (by omega) (by decide +kernel) (CI.z (CI.mono (fun x1 τ1 k => ?_) k))
  refine z_icmp_gt (pc := 29) (off := 49) 78 (by decide +kernel) (by decide) ⟨fun hc => ?_, fun hc => ?_⟩
  · have k := k.1 hc
    refine z_iload_n (pc := 78) (q := 2) (by decide +kernel) rfl ?_
    exact z_iret (pc := 79) (by decide +kernel) rfl k
  · have k := k.2 hc
    refine z_iload_n (pc := 32) (q := 3) (by decide +kernel) rfl ?_
    refine z_aload_n (pc := 33) (q := 0) (by decide +kernel) rfl ?_
    refine z_getR (pc := 34) 116 fl_Mod_13 rfl rfl rfl (by decide +kernel) ?_
    refine z_bipush (pc := 37) (n := 79) (by decide +kernel) (by decide) ⟨by decide, by decide⟩ ?_
    refine z_iald (pc := 39) rfl ⟨by decide, by decide⟩ (by decide +kernel) ?_
    refine z_iand (pc := 40) (by decide +kernel) ?_
    refine z_if_ne (pc := 41) (off := 31) 72 (by decide +kernel) (by decide) ⟨fun hc => ?_, fun hc => ?_⟩
    · have k := k.1 hc
      refine z_iinc (pc := 72) (i := 3) (n := 1) [some (vr 115), some (vi a1), some (vi a2), some (vi (w32 (a3 + 1)))] (by decide +kernel) rfl rfl ?_
      refine z_goto (pc := 75) (off := -51) 24 (by decide +kernel) (by decide) ?_
      exact k
    · have k := k.2 hc
      refine z_iload_n (pc := 44) (q := 3) (by decide +kernel) rfl ?_
      refine z_calls (pc := 45) (as := [vi a3]) ml_Mod_384 rfl rfl (Nat.le_of_ble_eq_true rfl) (dc := d - 1) (by omega) (by decide +kernel) (CI.z (CI.mono (fun x2 τ2 k => ?_) k))
      refine z_iload_n (pc := 48) (q := 1) (by decide +kernel) rfl ?_
      refine z_icmp_ne (pc := 49) (off := 23) 72 (by decide +kernel) (by decide) ⟨fun hc => ?_, fun hc => ?_⟩
      · have k := k.1 hc
        refine z_iinc (pc := 72) (i := 3) (n := 1) [some (vr 115), some (vi a1), some (vi a2), some (vi (w32 (a3 + 1)))] (by decide +kernel) rfl rfl ?_
        refine z_goto (pc := 75) (off := -51) 24 (by decide +kernel) (by decide) ?_
        exact k
      · have k := k.2 hc
        refine z_iload_n (pc := 52) (q := 2) (by decide +kernel) rfl ?_
        refine z_iconst (pc := 53) (n := -1) (by decide +kernel) ⟨by decide, by decide⟩ ?_
        refine z_icmp_eq (pc := 54) (off := 16) 70 (by decide +kernel) (by decide) ⟨fun hc => ?_, fun hc => ?_⟩
        · have k := k.1 hc
          refine z_iload_n (pc := 70) (q := 3) (by decide +kernel) rfl ?_
          refine z_istore_n (pc := 71) (q := 2) [some (vr 115), some (vi a1), some (vi a3), some (vi a3)] (by decide +kernel) (Nat.le_of_ble_eq_true rfl) rfl ?_
          refine z_iinc (pc := 72) (i := 3) (n := 1) [some (vr 115), some (vi a1), some (vi a3), some (vi (w32 (a3 + 1)))] (by decide +kernel) rfl rfl ?_
          refine z_goto (pc := 75) (off := -51) 24 (by decide +kernel) (by decide) ?_
          exact k
        · have k := k.2 hc
          refine z_aload_n (pc := 57) (q := 0) (by decide +kernel) rfl ?_
          refine z_iload_n (pc := 58) (q := 3) (by decide +kernel) rfl ?_
          refine z_callv (pc := 59) (as := [vi a3]) ml_Mod_381 rfl ⟨rfl, by decide⟩ rfl rfl (Nat.le_of_ble_eq_true rfl) (dc := d - 1) (by omega) (by decide +kernel) (CI.z (CI.mono (fun x3 τ3 k => ?_) k))
          refine z_aload_n (pc := 62) (q := 0) (by decide +kernel) rfl ?_
          refine z_iload_n (pc := 63) (q := 2) (by decide +kernel) rfl ?_
          refine z_callv (pc := 64) (as := [vi a2]) ml_Mod_381 rfl ⟨rfl, by decide⟩ rfl rfl (Nat.le_of_ble_eq_true rfl) (dc := d - 1) (by omega) (by decide +kernel) (CI.z (CI.mono (fun x4 τ4 k => ?_) k))
          refine z_icmp_le (pc := 67) (off := 5) 72 (by decide +kernel) (by decide) ⟨fun hc => ?_, fun hc => ?_⟩
          · have k := k.1 hc
            refine z_iinc (pc := 72) (i := 3) (n := 1) [some (vr 115), some (vi a1), some (vi a2), some (vi (w32 (a3 + 1)))] (by decide +kernel) rfl rfl ?_
            refine z_goto (pc := 75) (off := -51) 24 (by decide +kernel) (by decide) ?_
            exact k
          · have k := k.2 hc
            refine z_iload_n (pc := 70) (q := 3) (by decide +kernel) rfl ?_
            refine z_istore_n (pc := 71) (q := 2) [some (vr 115), some (vi a1), some (vi a3), some (vi a3)] (by decide +kernel) (Nat.le_of_ble_eq_true rfl) rfl ?_
            refine z_iinc (pc := 72) (i := 3) (n := 1) [some (vr 115), some (vi a1), some (vi a3), some (vi (w32 (a3 + 1)))] (by decide +kernel) rfl rfl ?_
            refine z_goto (pc := 75) (off := -51) 24 (by decide +kernel) (by decide) ?_
            exact k
theorem b_Mod_bold_0 {E : EN} {d : Nat} {a1 : Int} {σ : Mem} {K : Int → Mem → Prop}  (hd : 1 ≤ d) (k : CI E y_Mod_within (d - 1) [vl a1, vl 0, vl 10000] (up σ 115 0 0) (fun x1 τ1 => (x1 ≠ 0 → Z E y_Mod_bold d 24 [some (vr 115), some (vi a1), some (vi 0), some (vi 1)] [] τ1 (qi K)) ∧ (x1 = 0 → K (-3) τ1))) :
    Z E y_Mod_bold d 0 [some (vr 115), some (vi a1), none, none] [] σ (qi K) := by
  refine z_aload_n (pc := 0) (q := 0) (by decide +kernel) rfl ?_
  refine z_iconst (pc := 1) (n := 0) (by decide +kernel) ⟨by decide, by decide⟩ ?_
  refine z_putI (pc := 2) 0 fp_Mod_1 rfl rfl rfl (by decide +kernel) ?_
  refine z_iload_n (pc := 5) (q := 1) (by decide +kernel) rfl ?_
  refine z_i2l (pc := 6) (by decide +kernel) ?_
  refine z_lconst (pc := 7) (n := 0) 0 (by decide +kernel) (by decide) ⟨by decide, by decide⟩ ?_
  refine z_ldc2 (pc := 8) (index := 387) 10000 (mm8 168 rfl) ⟨by decide, by decide⟩ (by decide +kernel) ?_
  refine z_calls (pc := 11) (as := [vl a1, vl 0, vl 10000]) ml_Mod_136 rfl rfl (Nat.le_of_ble_eq_true rfl) (dc := d - 1) (by omega) (by decide +kernel) (CI.z (CI.mono (fun x1 τ1 k => ?_) k))
  refine z_if_ne (pc := 14) (off := 6) 20 (by decide +kernel) (by decide) ⟨fun hc => ?_, fun hc => ?_⟩
  · have k := k.1 hc
    refine z_iconst (pc := 20) (n := 0) (by decide +kernel) ⟨by decide, by decide⟩ ?_
    refine z_istore_n (pc := 21) (q := 2) [some (vr 115), some (vi a1), some (vi 0), none] (by decide +kernel) (Nat.le_of_ble_eq_true rfl) rfl ?_
    refine z_iconst (pc := 22) (n := 1) (by decide +kernel) ⟨by decide, by decide⟩ ?_
    refine z_istore_n (pc := 23) (q := 3) [some (vr 115), some (vi a1), some (vi 0), some (vi 1)] (by decide +kernel) (Nat.le_of_ble_eq_true rfl) rfl ?_
    exact k
  · have k := k.2 hc
    refine z_bipush (pc := 17) (n := -3) (by decide +kernel) (by decide) ⟨by decide, by decide⟩ ?_
    exact z_iret (pc := 19) (by decide +kernel) rfl k
theorem b_Mod_bold_24 {E : EN} {d : Nat} {a1 : Int} {a2 : Int} {a3 : Int} {σ : Mem} {K : Int → Mem → Prop}  (hd : 1 ≤ d) (k : CI E y_Mod_letters (d - 1) [vr 115] σ (fun x1 τ1 => (x1 < a3 → K a2 τ1) ∧ (a3 ≤ x1 → (ian a3 (τ1 116 79) ≠ 0 → Z E y_Mod_bold d 24 [some (vr 115), some (vi a1), some (vi a2), some (vi (w32 (a3 + 1)))] [] τ1 (qi K)) ∧ (ian a3 (τ1 116 79) = 0 → CI E y_Mod_quietOf (d - 1) [vr 115, vi a3] τ1 (fun x2 τ2 => (x2 < a1 → Z E y_Mod_bold d 24 [some (vr 115), some (vi a1), some (vi a2), some (vi (w32 (a3 + 1)))] [] τ2 (qi K)) ∧ (a1 ≤ x2 → CI E y_Mod_worthOf (d - 1) [vr 115, vi a3] τ2 (fun x3 τ3 => CI E y_Mod_worthOf (d - 1) [vr 115, vi a2] τ3 (fun x4 τ4 => (x3 ≤ x4 → Z E y_Mod_bold d 24 [some (vr 115), some (vi a1), some (vi a2), some (vi (w32 (a3 + 1)))] [] τ4 (qi K)) ∧ (x4 < x3 → Z E y_Mod_bold d 24 [some (vr 115), some (vi a1), some (vi a3), some (vi (w32 (a3 + 1)))] [] τ4 (qi K)))))))))) :
    Z E y_Mod_bold d 24 [some (vr 115), some (vi a1), some (vi a2), some (vi a3)] [] σ (qi K) := by
  refine z_iload_n (pc := 24) (q := 3) (by decide +kernel) rfl ?_
  refine z_aload_n (pc := 25) (q := 0) (by decide +kernel) rfl ?_
  refine z_callv (pc := 26) (as := []) ml_Mod_366 rfl ⟨rfl, by decide⟩ rfl rfl (Nat.le_of_ble_eq_true rfl) (dc := d - 1) (by omega) (by decide +kernel) (CI.z (CI.mono (fun x1 τ1 k => ?_) k))
  refine z_icmp_gt (pc := 29) (off := 45) 74 (by decide +kernel) (by decide) ⟨fun hc => ?_, fun hc => ?_⟩
  · have k := k.1 hc
    refine z_iload_n (pc := 74) (q := 2) (by decide +kernel) rfl ?_
    exact z_iret (pc := 75) (by decide +kernel) rfl k
  · have k := k.2 hc
    refine z_iload_n (pc := 32) (q := 3) (by decide +kernel) rfl ?_
    refine z_aload_n (pc := 33) (q := 0) (by decide +kernel) rfl ?_
    refine z_getR (pc := 34) 116 fl_Mod_13 rfl rfl rfl (by decide +kernel) ?_
    refine z_bipush (pc := 37) (n := 79) (by decide +kernel) (by decide) ⟨by decide, by decide⟩ ?_
    refine z_iald (pc := 39) rfl ⟨by decide, by decide⟩ (by decide +kernel) ?_
    refine z_iand (pc := 40) (by decide +kernel) ?_
    refine z_if_ne (pc := 41) (off := 27) 68 (by decide +kernel) (by decide) ⟨fun hc => ?_, fun hc => ?_⟩
    · have k := k.1 hc
      refine z_iinc (pc := 68) (i := 3) (n := 1) [some (vr 115), some (vi a1), some (vi a2), some (vi (w32 (a3 + 1)))] (by decide +kernel) rfl rfl ?_
      refine z_goto (pc := 71) (off := -47) 24 (by decide +kernel) (by decide) ?_
      exact k
    · have k := k.2 hc
      refine z_aload_n (pc := 44) (q := 0) (by decide +kernel) rfl ?_
      refine z_iload_n (pc := 45) (q := 3) (by decide +kernel) rfl ?_
      refine z_callv (pc := 46) (as := [vi a3]) ml_Mod_381 rfl ⟨rfl, by decide⟩ rfl rfl (Nat.le_of_ble_eq_true rfl) (dc := d - 1) (by omega) (by decide +kernel) (CI.z (CI.mono (fun x2 τ2 k => ?_) k))
      refine z_iload_n (pc := 49) (q := 1) (by decide +kernel) rfl ?_
      refine z_icmp_lt (pc := 50) (off := 18) 68 (by decide +kernel) (by decide) ⟨fun hc => ?_, fun hc => ?_⟩
      · have k := k.1 hc
        refine z_iinc (pc := 68) (i := 3) (n := 1) [some (vr 115), some (vi a1), some (vi a2), some (vi (w32 (a3 + 1)))] (by decide +kernel) rfl rfl ?_
        refine z_goto (pc := 71) (off := -47) 24 (by decide +kernel) (by decide) ?_
        exact k
      · have k := k.2 hc
        refine z_aload_n (pc := 53) (q := 0) (by decide +kernel) rfl ?_
        refine z_iload_n (pc := 54) (q := 3) (by decide +kernel) rfl ?_
        refine z_callv (pc := 55) (as := [vi a3]) ml_Mod_369 rfl ⟨rfl, by decide⟩ rfl rfl (Nat.le_of_ble_eq_true rfl) (dc := d - 1) (by omega) (by decide +kernel) (CI.z (CI.mono (fun x3 τ3 k => ?_) k))
        refine z_aload_n (pc := 58) (q := 0) (by decide +kernel) rfl ?_
        refine z_iload_n (pc := 59) (q := 2) (by decide +kernel) rfl ?_
        refine z_callv (pc := 60) (as := [vi a2]) ml_Mod_369 rfl ⟨rfl, by decide⟩ rfl rfl (Nat.le_of_ble_eq_true rfl) (dc := d - 1) (by omega) (by decide +kernel) (CI.z (CI.mono (fun x4 τ4 k => ?_) k))
        refine z_icmp_le (pc := 63) (off := 5) 68 (by decide +kernel) (by decide) ⟨fun hc => ?_, fun hc => ?_⟩
        · have k := k.1 hc
          refine z_iinc (pc := 68) (i := 3) (n := 1) [some (vr 115), some (vi a1), some (vi a2), some (vi (w32 (a3 + 1)))] (by decide +kernel) rfl rfl ?_
          refine z_goto (pc := 71) (off := -47) 24 (by decide +kernel) (by decide) ?_
          exact k
        · have k := k.2 hc
          refine z_iload_n (pc := 66) (q := 3) (by decide +kernel) rfl ?_
          refine z_istore_n (pc := 67) (q := 2) [some (vr 115), some (vi a1), some (vi a3), some (vi a3)] (by decide +kernel) (Nat.le_of_ble_eq_true rfl) rfl ?_
          refine z_iinc (pc := 68) (i := 3) (n := 1) [some (vr 115), some (vi a1), some (vi a3), some (vi (w32 (a3 + 1)))] (by decide +kernel) rfl rfl ?_
          refine z_goto (pc := 71) (off := -47) 24 (by decide +kernel) (by decide) ?_
          exact k
theorem b_Mod_laysBelief_0 {E : EN} {d : Nat} {a1 : Int} {σ : Mem} {K : Mem → Prop}  (k : Z E y_Mod_laysBelief d 28 [some (vr 115), some (vi a1), some (vi 0), none, none] [] (up (up σ 115 36 (σ 116 5)) 115 37 (w64 (100 - (σ 116 5)))) (qv K)) :
    Z E y_Mod_laysBelief d 0 [some (vr 115), some (vi a1), none, none, none] [] σ (qv K) := by
  refine z_aload_n (pc := 0) (q := 0) (by decide +kernel) rfl ?_
  refine z_aload_n (pc := 1) (q := 0) (by decide +kernel) rfl ?_
  refine z_getR (pc := 2) 116 fl_Mod_13 rfl rfl rfl (by decide +kernel) ?_
  refine z_iconst (pc := 5) (n := 5) (by decide +kernel) ⟨by decide, by decide⟩ ?_
  refine z_iald (pc := 6) rfl ⟨by decide, by decide⟩ (by decide +kernel) ?_
  refine z_i2l (pc := 7) (by decide +kernel) ?_
  refine z_putL (pc := 8) 36 fp_Mod_389 rfl rfl rfl (by decide +kernel) ?_
  refine z_aload_n (pc := 11) (q := 0) (by decide +kernel) rfl ?_
  refine z_ldc2 (pc := 12) (index := 311) 100 (mm8 51 rfl) ⟨by decide, by decide⟩ (by decide +kernel) ?_
  refine z_aload_n (pc := 15) (q := 0) (by decide +kernel) rfl ?_
  refine z_getR (pc := 16) 116 fl_Mod_13 rfl rfl rfl (by decide +kernel) ?_
  refine z_iconst (pc := 19) (n := 5) (by decide +kernel) ⟨by decide, by decide⟩ ?_
  refine z_iald (pc := 20) rfl ⟨by decide, by decide⟩ (by decide +kernel) ?_
  refine z_topI (up_nc (by decide)) ?_
  refine z_i2l (pc := 21) (by decide +kernel) ?_
  refine z_lsub (pc := 22) (by decide +kernel) ?_
  refine z_putL (pc := 23) 37 fp_Mod_393 rfl rfl rfl (by decide +kernel) ?_
  refine z_iconst (pc := 26) (n := 0) (by decide +kernel) ⟨by decide, by decide⟩ ?_
  refine z_istore_n (pc := 27) (q := 2) [some (vr 115), some (vi a1), some (vi 0), none, none] (by decide +kernel) (Nat.le_of_ble_eq_true rfl) rfl ?_
  exact k
theorem b_Mod_laysBelief_28 {E : EN} {d : Nat} {a1 : Int} {a2 : Int} {o3 : Option AV} {o4 : Option AV} {σ : Mem} {K : Mem → Prop}  (hd : 1 ≤ d) (k : (σ 116 4 ≤ a2 → K σ) ∧ (a2 < σ 116 4 → (0 ≤ w32 (73 + a2) ∧ w32 (73 + a2) < 3108) ∧ CI E y_Mod_isIn (d - 1) [vl a1, vi a2] σ (fun x1 τ1 => (x1 = 0 → Z E y_Mod_laysBelief d 28 [some (vr 115), some (vi a1), some (vi (w32 (a2 + 1))), some (vi (σ 116 (w32 (73 + a2)))), o4] [] τ1 (qv K)) ∧ (x1 ≠ 0 → (σ 116 (w32 (73 + a2)) ≠ 0 → (0 ≤ w32 (37 + a2) ∧ w32 (37 + a2) < 3108) ∧ (0 ≤ w32 (33 + (τ1 116 (w32 (37 + a2)))) ∧ w32 (33 + (τ1 116 (w32 (37 + a2)))) < 3108) ∧ (σ 116 (w32 (73 + a2)) ≠ 1 → Z E y_Mod_laysBelief d 106 [some (vr 115), some (vi a1), some (vi a2), some (vi (σ 116 (w32 (73 + a2)))), some (vi (τ1 116 (w32 (33 + (τ1 116 (w32 (37 + a2)))))))] [vl (w64 (100 - (τ1 116 (w32 (33 + (τ1 116 (w32 (37 + a2)))))))), vl (τ1 115 36), vr 115] τ1 (qv K)) ∧ (σ 116 (w32 (73 + a2)) = 1 → Z E y_Mod_laysBelief d 106 [some (vr 115), some (vi a1), some (vi a2), some (vi (σ 116 (w32 (73 + a2)))), some (vi (τ1 116 (w32 (33 + (τ1 116 (w32 (37 + a2)))))))] [vl (τ1 116 (w32 (33 + (τ1 116 (w32 (37 + a2)))))), vl (τ1 115 36), vr 115] τ1 (qv K))) ∧ (σ 116 (w32 (73 + a2)) = 0 → Z E y_Mod_laysBelief d 28 [some (vr 115), some (vi a1), some (vi (w32 (a2 + 1))), some (vi (σ 116 (w32 (73 + a2)))), o4] [] τ1 (qv K)))))) :
    Z E y_Mod_laysBelief d 28 [some (vr 115), some (vi a1), some (vi a2), o3, o4] [] σ (qv K) := by
  refine z_iload_n (pc := 28) (q := 2) (by decide +kernel) rfl ?_
  refine z_aload_n (pc := 29) (q := 0) (by decide +kernel) rfl ?_
  refine z_getR (pc := 30) 116 fl_Mod_13 rfl rfl rfl (by decide +kernel) ?_
  refine z_iconst (pc := 33) (n := 4) (by decide +kernel) ⟨by decide, by decide⟩ ?_
  refine z_iald (pc := 34) rfl ⟨by decide, by decide⟩ (by decide +kernel) ?_
  refine z_icmp_ge (pc := 35) (off := 108) 143 (by decide +kernel) (by decide) ⟨fun hc => ?_, fun hc => ?_⟩
  · have k := k.1 hc
    exact z_vret (pc := 143) (by decide +kernel) rfl k
  · have k := k.2 hc
    refine z_aload_n (pc := 38) (q := 0) (by decide +kernel) rfl ?_
    refine z_getR (pc := 39) 116 fl_Mod_13 rfl rfl rfl (by decide +kernel) ?_
    refine z_bipush (pc := 42) (n := 73) (by decide +kernel) (by decide) ⟨by decide, by decide⟩ ?_
    refine z_iload_n (pc := 44) (q := 2) (by decide +kernel) rfl ?_
    refine z_iadd (pc := 45) (by decide +kernel) ?_
    have hb1 := k.1
    have k := k.2
    refine z_iald (pc := 46) rfl hb1 (by decide +kernel) ?_
    refine z_istore_n (pc := 47) (q := 3) [some (vr 115), some (vi a1), some (vi a2), some (vi (σ 116 (w32 (73 + a2)))), o4] (by decide +kernel) (Nat.le_of_ble_eq_true rfl) rfl ?_
    refine z_iload_n (pc := 48) (q := 1) (by decide +kernel) rfl ?_
    refine z_i2l (pc := 49) (by decide +kernel) ?_
    refine z_iload_n (pc := 50) (q := 2) (by decide +kernel) rfl ?_
    refine z_calls (pc := 51) (as := [vl a1, vi a2]) ml_Mod_214 rfl rfl (Nat.le_of_ble_eq_true rfl) (dc := d - 1) (by omega) (by decide +kernel) (CI.z (CI.mono (fun x1 τ1 k => ?_) k))
    refine z_if_eq (pc := 54) (off := 83) 137 (by decide +kernel) (by decide) ⟨fun hc => ?_, fun hc => ?_⟩
    · have k := k.1 hc
      refine z_iinc (pc := 137) (i := 2) (n := 1) [some (vr 115), some (vi a1), some (vi (w32 (a2 + 1))), some (vi (σ 116 (w32 (73 + a2)))), o4] (by decide +kernel) rfl rfl ?_
      refine z_goto (pc := 140) (off := -112) 28 (by decide +kernel) (by decide) ?_
      exact k
    · have k := k.2 hc
      refine z_iload_n (pc := 57) (q := 3) (by decide +kernel) rfl ?_
      refine z_if_ne (pc := 58) (off := 6) 64 (by decide +kernel) (by decide) ⟨fun hc => ?_, fun hc => ?_⟩
      · have k := k.1 hc
        refine z_aload_n (pc := 64) (q := 0) (by decide +kernel) rfl ?_
        refine z_getR (pc := 65) 116 fl_Mod_13 rfl rfl rfl (by decide +kernel) ?_
        refine z_bipush (pc := 68) (n := 33) (by decide +kernel) (by decide) ⟨by decide, by decide⟩ ?_
        refine z_aload_n (pc := 70) (q := 0) (by decide +kernel) rfl ?_
        refine z_getR (pc := 71) 116 fl_Mod_13 rfl rfl rfl (by decide +kernel) ?_
        refine z_bipush (pc := 74) (n := 37) (by decide +kernel) (by decide) ⟨by decide, by decide⟩ ?_
        refine z_iload_n (pc := 76) (q := 2) (by decide +kernel) rfl ?_
        refine z_iadd (pc := 77) (by decide +kernel) ?_
        have hb2 := k.1
        have k := k.2
        refine z_iald (pc := 78) rfl hb2 (by decide +kernel) ?_
        refine z_iadd (pc := 79) (by decide +kernel) ?_
        have hb3 := k.1
        have k := k.2
        refine z_iald (pc := 80) rfl hb3 (by decide +kernel) ?_
        refine z_istore (pc := 81) (i := 4) [some (vr 115), some (vi a1), some (vi a2), some (vi (σ 116 (w32 (73 + a2)))), some (vi (τ1 116 (w32 (33 + (τ1 116 (w32 (37 + a2)))))))] (by decide +kernel) (Nat.le_of_ble_eq_true rfl) rfl ?_
        refine z_aload_n (pc := 83) (q := 0) (by decide +kernel) rfl ?_
        refine z_dup (pc := 84) (by decide +kernel) rfl ?_
        refine z_getL (pc := 85) 36 fl_Mod_389 rfl rfl rfl (by decide +kernel) ?_
        refine z_iload_n (pc := 88) (q := 3) (by decide +kernel) rfl ?_
        refine z_iconst (pc := 89) (n := 1) (by decide +kernel) ⟨by decide, by decide⟩ ?_
        refine z_icmp_ne (pc := 90) (off := 9) 99 (by decide +kernel) (by decide) ⟨fun hc => ?_, fun hc => ?_⟩
        · have k := k.1 hc
          refine z_ldc2 (pc := 99) (index := 311) 100 (mm8 51 rfl) ⟨by decide, by decide⟩ (by decide +kernel) ?_
          refine z_iload (pc := 102) (i := 4) (by decide +kernel) rfl ?_
          refine z_i2l (pc := 104) (by decide +kernel) ?_
          refine z_lsub (pc := 105) (by decide +kernel) ?_
          exact k
        · have k := k.2 hc
          refine z_iload (pc := 93) (i := 4) (by decide +kernel) rfl ?_
          refine z_i2l (pc := 95) (by decide +kernel) ?_
          refine z_goto (pc := 96) (off := 10) 106 (by decide +kernel) (by decide) ?_
          exact k
      · have k := k.2 hc
        refine z_goto (pc := 61) (off := 76) 137 (by decide +kernel) (by decide) ?_
        refine z_iinc (pc := 137) (i := 2) (n := 1) [some (vr 115), some (vi a1), some (vi (w32 (a2 + 1))), some (vi (σ 116 (w32 (73 + a2)))), o4] (by decide +kernel) rfl rfl ?_
        refine z_goto (pc := 140) (off := -112) 28 (by decide +kernel) (by decide) ?_
        exact k
theorem b_Mod_laysBelief_106 {E : EN} {d : Nat} {a1 : Int} {a2 : Int} {a3 : Int} {a4 : Int} {s0 : Int} {s1 : Int} {σ : Mem} {K : Mem → Prop}  (k : (a3 ≠ 1 → Z E y_Mod_laysBelief d 28 [some (vr 115), some (vi a1), some (vi (w32 (a2 + 1))), some (vi a3), some (vi a4)] [] (up (up σ 115 36 (w64 (s1 * s0))) 115 37 (w64 ((σ 115 37) * a4))) (qv K)) ∧ (a3 = 1 → Z E y_Mod_laysBelief d 28 [some (vr 115), some (vi a1), some (vi (w32 (a2 + 1))), some (vi a3), some (vi a4)] [] (up (up σ 115 36 (w64 (s1 * s0))) 115 37 (w64 ((σ 115 37) * (w64 (100 - a4))))) (qv K))) :
    Z E y_Mod_laysBelief d 106 [some (vr 115), some (vi a1), some (vi a2), some (vi a3), some (vi a4)] [vl s0, vl s1, vr 115] σ (qv K) := by
  refine z_lmul (pc := 106) (by decide +kernel) ?_
  refine z_putL (pc := 107) 36 fp_Mod_389 rfl rfl rfl (by decide +kernel) ?_
  refine z_aload_n (pc := 110) (q := 0) (by decide +kernel) rfl ?_
  refine z_dup (pc := 111) (by decide +kernel) rfl ?_
  refine z_getL (pc := 112) 37 fl_Mod_393 rfl rfl rfl (by decide +kernel) ?_
  refine z_topL (up_nk (by decide)) ?_
  refine z_iload_n (pc := 115) (q := 3) (by decide +kernel) rfl ?_
  refine z_iconst (pc := 116) (n := 1) (by decide +kernel) ⟨by decide, by decide⟩ ?_
  refine z_icmp_ne (pc := 117) (off := 13) 130 (by decide +kernel) (by decide) ⟨fun hc => ?_, fun hc => ?_⟩
  · have k := k.1 hc
    refine z_iload (pc := 130) (i := 4) (by decide +kernel) rfl ?_
    refine z_i2l (pc := 132) (by decide +kernel) ?_
    refine z_lmul (pc := 133) (by decide +kernel) ?_
    refine z_putL (pc := 134) 37 fp_Mod_393 rfl rfl rfl (by decide +kernel) ?_
    refine z_iinc (pc := 137) (i := 2) (n := 1) [some (vr 115), some (vi a1), some (vi (w32 (a2 + 1))), some (vi a3), some (vi a4)] (by decide +kernel) rfl rfl ?_
    refine z_goto (pc := 140) (off := -112) 28 (by decide +kernel) (by decide) ?_
    exact k
  · have k := k.2 hc
    refine z_ldc2 (pc := 120) (index := 311) 100 (mm8 51 rfl) ⟨by decide, by decide⟩ (by decide +kernel) ?_
    refine z_iload (pc := 123) (i := 4) (by decide +kernel) rfl ?_
    refine z_i2l (pc := 125) (by decide +kernel) ?_
    refine z_lsub (pc := 126) (by decide +kernel) ?_
    refine z_goto (pc := 127) (off := 6) 133 (by decide +kernel) (by decide) ?_
    refine z_lmul (pc := 133) (by decide +kernel) ?_
    refine z_putL (pc := 134) 37 fp_Mod_393 rfl rfl rfl (by decide +kernel) ?_
    refine z_iinc (pc := 137) (i := 2) (n := 1) [some (vr 115), some (vi a1), some (vi (w32 (a2 + 1))), some (vi a3), some (vi a4)] (by decide +kernel) rfl rfl ?_
    refine z_goto (pc := 140) (off := -112) 28 (by decide +kernel) (by decide) ?_
    exact k
theorem b_Mod_common_0 {E : EN} {d : Nat} {b0 : Int} {b2 : Int} {σ : Mem} {K : Int → Mem → Prop}  (hd : 1 ≤ d) (k : (lcm b2 0 ≠ 0 → (b2 ≠ 0) ∧ CL E y_Mod_common (d - 1) [vl b2, vl (Int.tmod b0 b2)] σ (fun x1 τ1 => K x1 τ1)) ∧ (lcm b2 0 = 0 → K b0 σ)) :
    Z E y_Mod_common d 0 [some (vl b0), none, some (vl b2), none] [] σ (ql K) := by
  refine z_lload_n (pc := 0) (q := 2) (by decide +kernel) rfl ?_
  refine z_lconst (pc := 1) (n := 0) 0 (by decide +kernel) (by decide) ⟨by decide, by decide⟩ ?_
  refine z_lcmp (pc := 2) (by decide +kernel) ?_
  refine z_if_ne (pc := 3) (off := 7) 10 (by decide +kernel) (by decide) ⟨fun hc => ?_, fun hc => ?_⟩
  · have k := k.1 hc
    refine z_lload_n (pc := 10) (q := 2) (by decide +kernel) rfl ?_
    refine z_lload_n (pc := 11) (q := 0) (by decide +kernel) rfl ?_
    refine z_lload_n (pc := 12) (q := 2) (by decide +kernel) rfl ?_
    have hb1 := k.1
    have k := k.2
    refine z_lrem (pc := 13) (by decide +kernel) hb1 ?_
    refine z_calls (pc := 14) (as := [vl b2, vl (Int.tmod b0 b2)]) ml_Mod_396 rfl rfl (Nat.le_of_ble_eq_true rfl) (dc := d - 1) (by omega) (by decide +kernel) (CL.z (CL.mono (fun x1 τ1 k => ?_) k))
    exact z_lret (pc := 17) (by decide +kernel) rfl k
  · have k := k.2 hc
    refine z_lload_n (pc := 6) (q := 0) (by decide +kernel) rfl ?_
    refine z_goto (pc := 7) (off := 10) 17 (by decide +kernel) (by decide) ?_
    exact z_lret (pc := 17) (by decide +kernel) rfl k
theorem b_Mod_belief_0 {E : EN} {d : Nat} {a1 : Int} {a2 : Int} {σ : Mem} {K : Int → Mem → Prop}  (hd : 1 ≤ d) (k : CI E y_Mod_within (d - 1) [vl a2, vl 0, vl 1] (up σ 115 0 0) (fun x1 τ1 => (x1 ≠ 0 → CI E y_Mod_isSet (d - 1) [vr 115, vi a1] τ1 (fun x2 τ2 => (x2 ≠ 0 → CV E y_Mod_laysBelief (d - 1) [vr 115, vi a1] τ2 (fun τ3 => (lcm (w64 ((τ3 115 36) + (τ3 115 37))) 0 ≠ 0 → CL E y_Mod_common (d - 1) [vl (τ3 115 36), vl (w64 ((τ3 115 36) + (τ3 115 37)))] τ3 (fun x4 τ4 => (a2 ≠ 0 → (x4 ≠ 0) ∧ K (w64 (Int.tdiv (w64 ((τ3 115 36) + (τ3 115 37))) x4)) τ4) ∧ (a2 = 0 → (x4 ≠ 0) ∧ K (w64 (Int.tdiv (τ4 115 36) x4)) τ4))) ∧ (lcm (w64 ((τ3 115 36) + (τ3 115 37))) 0 = 0 → K 0 τ3))) ∧ (x2 = 0 → K (-3) τ2))) ∧ (x1 = 0 → K (-2) τ1))) :
    Z E y_Mod_belief d 0 [some (vr 115), some (vi a1), some (vi a2), none, none, none, none] [] σ (ql K) := by
  refine z_aload_n (pc := 0) (q := 0) (by decide +kernel) rfl ?_
  refine z_iconst (pc := 1) (n := 0) (by decide +kernel) ⟨by decide, by decide⟩ ?_
  refine z_putI (pc := 2) 0 fp_Mod_1 rfl rfl rfl (by decide +kernel) ?_
  refine z_iload_n (pc := 5) (q := 2) (by decide +kernel) rfl ?_
  refine z_i2l (pc := 6) (by decide +kernel) ?_
  refine z_lconst (pc := 7) (n := 0) 0 (by decide +kernel) (by decide) ⟨by decide, by decide⟩ ?_
  refine z_lconst (pc := 8) (n := 1) 1 (by decide +kernel) (by decide) ⟨by decide, by decide⟩ ?_
  refine z_calls (pc := 9) (as := [vl a2, vl 0, vl 1]) ml_Mod_136 rfl rfl (Nat.le_of_ble_eq_true rfl) (dc := d - 1) (by omega) (by decide +kernel) (CI.z (CI.mono (fun x1 τ1 k => ?_) k))
  refine z_if_ne (pc := 12) (off := 7) 19 (by decide +kernel) (by decide) ⟨fun hc => ?_, fun hc => ?_⟩
  · have k := k.1 hc
    refine z_aload_n (pc := 19) (q := 0) (by decide +kernel) rfl ?_
    refine z_iload_n (pc := 20) (q := 1) (by decide +kernel) rfl ?_
    refine z_callv (pc := 21) (as := [vi a1]) ml_Mod_375 rfl ⟨rfl, by decide⟩ rfl rfl (Nat.le_of_ble_eq_true rfl) (dc := d - 1) (by omega) (by decide +kernel) (CI.z (CI.mono (fun x2 τ2 k => ?_) k))
    refine z_if_ne (pc := 24) (off := 7) 31 (by decide +kernel) (by decide) ⟨fun hc => ?_, fun hc => ?_⟩
    · have k := k.1 hc
      refine z_aload_n (pc := 31) (q := 0) (by decide +kernel) rfl ?_
      refine z_iload_n (pc := 32) (q := 1) (by decide +kernel) rfl ?_
      refine z_callv (pc := 33) (as := [vi a1]) ml_Mod_404 rfl ⟨rfl, by decide⟩ rfl rfl (Nat.le_of_ble_eq_true rfl) (dc := d - 1) (by omega) (by decide +kernel) (CV.z (CV.mono (fun τ3 k => ?_) k))
      refine z_aload_n (pc := 36) (q := 0) (by decide +kernel) rfl ?_
      refine z_getL (pc := 37) 36 fl_Mod_389 rfl rfl rfl (by decide +kernel) ?_
      refine z_aload_n (pc := 40) (q := 0) (by decide +kernel) rfl ?_
      refine z_getL (pc := 41) 37 fl_Mod_393 rfl rfl rfl (by decide +kernel) ?_
      refine z_ladd (pc := 44) (by decide +kernel) ?_
      refine z_lstore_n (pc := 45) (q := 3) [some (vr 115), some (vi a1), some (vi a2), some (vl (w64 ((τ3 115 36) + (τ3 115 37)))), none, none, none] (by decide +kernel) (Nat.le_of_ble_eq_true rfl) rfl ?_
      refine z_lload_n (pc := 46) (q := 3) (by decide +kernel) rfl ?_
      refine z_lconst (pc := 47) (n := 0) 0 (by decide +kernel) (by decide) ⟨by decide, by decide⟩ ?_
      refine z_lcmp (pc := 48) (by decide +kernel) ?_
      refine z_if_ne (pc := 49) (off := 5) 54 (by decide +kernel) (by decide) ⟨fun hc => ?_, fun hc => ?_⟩
      · have k := k.1 hc
        refine z_aload_n (pc := 54) (q := 0) (by decide +kernel) rfl ?_
        refine z_getL (pc := 55) 36 fl_Mod_389 rfl rfl rfl (by decide +kernel) ?_
        refine z_lload_n (pc := 58) (q := 3) (by decide +kernel) rfl ?_
        refine z_calls (pc := 59) (as := [vl (τ3 115 36), vl (w64 ((τ3 115 36) + (τ3 115 37)))]) ml_Mod_396 rfl rfl (Nat.le_of_ble_eq_true rfl) (dc := d - 1) (by omega) (by decide +kernel) (CL.z (CL.mono (fun x4 τ4 k => ?_) k))
        refine z_lstore (pc := 62) (i := 5) [some (vr 115), some (vi a1), some (vi a2), some (vl (w64 ((τ3 115 36) + (τ3 115 37)))), none, some (vl x4), none] (by decide +kernel) (Nat.le_of_ble_eq_true rfl) rfl ?_
        refine z_iload_n (pc := 64) (q := 2) (by decide +kernel) rfl ?_
        refine z_if_ne (pc := 65) (off := 13) 78 (by decide +kernel) (by decide) ⟨fun hc => ?_, fun hc => ?_⟩
        · have k := k.1 hc
          refine z_lload_n (pc := 78) (q := 3) (by decide +kernel) rfl ?_
          refine z_lload (pc := 79) (i := 5) (by decide +kernel) rfl ?_
          have hb1 := k.1
          have k := k.2
          refine z_ldiv (pc := 81) (by decide +kernel) hb1 ?_
          exact z_lret (pc := 82) (by decide +kernel) rfl k
        · have k := k.2 hc
          refine z_aload_n (pc := 68) (q := 0) (by decide +kernel) rfl ?_
          refine z_getL (pc := 69) 36 fl_Mod_389 rfl rfl rfl (by decide +kernel) ?_
          refine z_lload (pc := 72) (i := 5) (by decide +kernel) rfl ?_
          have hb2 := k.1
          have k := k.2
          refine z_ldiv (pc := 74) (by decide +kernel) hb2 ?_
          refine z_goto (pc := 75) (off := 7) 82 (by decide +kernel) (by decide) ?_
          exact z_lret (pc := 82) (by decide +kernel) rfl k
      · have k := k.2 hc
        refine z_lconst (pc := 52) (n := 0) 0 (by decide +kernel) (by decide) ⟨by decide, by decide⟩ ?_
        exact z_lret (pc := 53) (by decide +kernel) rfl k
    · have k := k.2 hc
      refine z_ldc2 (pc := 27) (index := 402) (-3) (mm8 174 rfl) ⟨by decide, by decide⟩ (by decide +kernel) ?_
      exact z_lret (pc := 30) (by decide +kernel) rfl k
  · have k := k.2 hc
    refine z_ldc2 (pc := 15) (index := 400) (-2) (mm8 173 rfl) ⟨by decide, by decide⟩ (by decide +kernel) ?_
    exact z_lret (pc := 18) (by decide +kernel) rfl k
theorem b_Mod_beliefOf_0 {E : EN} {d : Nat} {a1 : Int} {σ : Mem} {K : Int → Mem → Prop}  (hd : 1 ≤ d) (k : CV E y_Mod_laysBelief (d - 1) [vr 115, vi a1] σ (fun τ1 => (lcm (w64 ((τ1 115 36) + (τ1 115 37))) 0 ≠ 0 → (w64 ((τ1 115 36) + (τ1 115 37)) ≠ 0) ∧ K (w32 (w64 (Int.tdiv (w64 ((τ1 115 36) * 10000)) (w64 ((τ1 115 36) + (τ1 115 37)))))) τ1) ∧ (lcm (w64 ((τ1 115 36) + (τ1 115 37))) 0 = 0 → K (-1) τ1))) :
    Z E y_Mod_beliefOf d 0 [some (vr 115), some (vi a1), none, none] [] σ (qi K) := by
  refine z_aload_n (pc := 0) (q := 0) (by decide +kernel) rfl ?_
  refine z_iload_n (pc := 1) (q := 1) (by decide +kernel) rfl ?_
  refine z_callv (pc := 2) (as := [vi a1]) ml_Mod_404 rfl ⟨rfl, by decide⟩ rfl rfl (Nat.le_of_ble_eq_true rfl) (dc := d - 1) (by omega) (by decide +kernel) (CV.z (CV.mono (fun τ1 k => ?_) k))
  refine z_aload_n (pc := 5) (q := 0) (by decide +kernel) rfl ?_
  refine z_getL (pc := 6) 36 fl_Mod_389 rfl rfl rfl (by decide +kernel) ?_
  refine z_aload_n (pc := 9) (q := 0) (by decide +kernel) rfl ?_
  refine z_getL (pc := 10) 37 fl_Mod_393 rfl rfl rfl (by decide +kernel) ?_
  refine z_ladd (pc := 13) (by decide +kernel) ?_
  refine z_lstore_n (pc := 14) (q := 2) [some (vr 115), some (vi a1), some (vl (w64 ((τ1 115 36) + (τ1 115 37)))), none] (by decide +kernel) (Nat.le_of_ble_eq_true rfl) rfl ?_
  refine z_lload_n (pc := 15) (q := 2) (by decide +kernel) rfl ?_
  refine z_lconst (pc := 16) (n := 0) 0 (by decide +kernel) (by decide) ⟨by decide, by decide⟩ ?_
  refine z_lcmp (pc := 17) (by decide +kernel) ?_
  refine z_if_ne (pc := 18) (off := 7) 25 (by decide +kernel) (by decide) ⟨fun hc => ?_, fun hc => ?_⟩
  · have k := k.1 hc
    refine z_aload_n (pc := 25) (q := 0) (by decide +kernel) rfl ?_
    refine z_getL (pc := 26) 36 fl_Mod_389 rfl rfl rfl (by decide +kernel) ?_
    refine z_ldc2 (pc := 29) (index := 387) 10000 (mm8 168 rfl) ⟨by decide, by decide⟩ (by decide +kernel) ?_
    refine z_lmul (pc := 32) (by decide +kernel) ?_
    refine z_lload_n (pc := 33) (q := 2) (by decide +kernel) rfl ?_
    have hb1 := k.1
    have k := k.2
    refine z_ldiv (pc := 34) (by decide +kernel) hb1 ?_
    refine z_l2i (pc := 35) (by decide +kernel) ?_
    exact z_iret (pc := 36) (by decide +kernel) rfl k
  · have k := k.2 hc
    refine z_iconst (pc := 21) (n := -1) (by decide +kernel) ⟨by decide, by decide⟩ ?_
    refine z_goto (pc := 22) (off := 14) 36 (by decide +kernel) (by decide) ?_
    exact z_iret (pc := 36) (by decide +kernel) rfl k
theorem b_Mod_now_0 {E : EN} {d : Nat}  {σ : Mem} {K : Int → Mem → Prop}  (hd : 1 ≤ d) (k : CI E y_Mod_beliefOf (d - 1) [vr 115, vi (σ 116 79)] (up σ 115 0 0) (fun x1 τ1 => K x1 τ1)) :
    Z E y_Mod_now d 0 [some (vr 115)] [] σ (qi K) := by
  refine z_aload_n (pc := 0) (q := 0) (by decide +kernel) rfl ?_
  refine z_iconst (pc := 1) (n := 0) (by decide +kernel) ⟨by decide, by decide⟩ ?_
  refine z_putI (pc := 2) 0 fp_Mod_1 rfl rfl rfl (by decide +kernel) ?_
  refine z_aload_n (pc := 5) (q := 0) (by decide +kernel) rfl ?_
  refine z_aload_n (pc := 6) (q := 0) (by decide +kernel) rfl ?_
  refine z_getR (pc := 7) 116 fl_Mod_13 rfl rfl rfl (by decide +kernel) ?_
  refine z_bipush (pc := 10) (n := 79) (by decide +kernel) (by decide) ⟨by decide, by decide⟩ ?_
  refine z_iald (pc := 12) rfl ⟨by decide, by decide⟩ (by decide +kernel) ?_
  refine z_topI (up_nc (by decide)) ?_
  refine z_callv (pc := 13) (as := [vi (σ 116 79)]) ml_Mod_407 rfl ⟨rfl, by decide⟩ rfl rfl (Nat.le_of_ble_eq_true rfl) (dc := d - 1) (by omega) (by decide +kernel) (CI.z (CI.mono (fun x1 τ1 k => ?_) k))
  exact z_iret (pc := 16) (by decide +kernel) rfl k
theorem b_Mod_tellsMost_0 {E : EN} {d : Nat}  {σ : Mem} {K : Int → Mem → Prop}  (hd : 1 ≤ d) (k : CI E y_Mod_beliefOf (d - 1) [vr 115, vi (σ 116 79)] (up σ 115 0 0) (fun x1 τ1 => Z E y_Mod_tellsMost d 24 [some (vr 115), some (vi x1), some (vi (-1)), some (vi 0), some (vi 0), none, none] [] τ1 (qi K))) :
    Z E y_Mod_tellsMost d 0 [some (vr 115), none, none, none, none, none, none] [] σ (qi K) := by
  refine z_aload_n (pc := 0) (q := 0) (by decide +kernel) rfl ?_
  refine z_iconst (pc := 1) (n := 0) (by decide +kernel) ⟨by decide, by decide⟩ ?_
  refine z_putI (pc := 2) 0 fp_Mod_1 rfl rfl rfl (by decide +kernel) ?_
  refine z_aload_n (pc := 5) (q := 0) (by decide +kernel) rfl ?_
  refine z_aload_n (pc := 6) (q := 0) (by decide +kernel) rfl ?_
  refine z_getR (pc := 7) 116 fl_Mod_13 rfl rfl rfl (by decide +kernel) ?_
  refine z_bipush (pc := 10) (n := 79) (by decide +kernel) (by decide) ⟨by decide, by decide⟩ ?_
  refine z_iald (pc := 12) rfl ⟨by decide, by decide⟩ (by decide +kernel) ?_
  refine z_topI (up_nc (by decide)) ?_
  refine z_callv (pc := 13) (as := [vi (σ 116 79)]) ml_Mod_407 rfl ⟨rfl, by decide⟩ rfl rfl (Nat.le_of_ble_eq_true rfl) (dc := d - 1) (by omega) (by decide +kernel) (CI.z (CI.mono (fun x1 τ1 k => ?_) k))
  refine z_istore_n (pc := 16) (q := 1) [some (vr 115), some (vi x1), none, none, none, none, none] (by decide +kernel) (Nat.le_of_ble_eq_true rfl) rfl ?_
  refine z_iconst (pc := 17) (n := -1) (by decide +kernel) ⟨by decide, by decide⟩ ?_
  refine z_istore_n (pc := 18) (q := 2) [some (vr 115), some (vi x1), some (vi (-1)), none, none, none, none] (by decide +kernel) (Nat.le_of_ble_eq_true rfl) rfl ?_
  refine z_iconst (pc := 19) (n := 0) (by decide +kernel) ⟨by decide, by decide⟩ ?_
  refine z_istore_n (pc := 20) (q := 3) [some (vr 115), some (vi x1), some (vi (-1)), some (vi 0), none, none, none] (by decide +kernel) (Nat.le_of_ble_eq_true rfl) rfl ?_
  refine z_iconst (pc := 21) (n := 0) (by decide +kernel) ⟨by decide, by decide⟩ ?_
  refine z_istore (pc := 22) (i := 4) [some (vr 115), some (vi x1), some (vi (-1)), some (vi 0), some (vi 0), none, none] (by decide +kernel) (Nat.le_of_ble_eq_true rfl) rfl ?_
  exact k
theorem b_Mod_tellsMost_24 {E : EN} {d : Nat} {a1 : Int} {a2 : Int} {a3 : Int} {a4 : Int} {o5 : Option AV} {o6 : Option AV} {σ : Mem} {K : Int → Mem → Prop}  (hd : 1 ≤ d) (k : (σ 116 4 ≤ a4 → K a2 σ) ∧ (a4 < σ 116 4 → (a1 = (-1) → K a2 σ) ∧ (a1 ≠ (-1) → CI E y_Mod_isIn (d - 1) [vl (σ 116 79), vi a4] σ (fun x1 τ1 => (x1 = 0 → CI E y_Mod_beliefOf (d - 1) [vr 115, vi (ior (τ1 116 79) (ish 1 a4))] τ1 (fun x2 τ2 => (x2 ≠ (-1) → (a1 ≤ x2 → Z E y_Mod_tellsMost d 104 [some (vr 115), some (vi a1), some (vi a2), some (vi a3), some (vi a4), some (vi x2), o6] [vi (w32 (x2 - a1))] τ2 (qi K)) ∧ (x2 < a1 → Z E y_Mod_tellsMost d 104 [some (vr 115), some (vi a1), some (vi a2), some (vi a3), some (vi a4), some (vi x2), o6] [vi (w32 (a1 - x2))] τ2 (qi K))) ∧ (x2 = (-1) → Z E y_Mod_tellsMost d 104 [some (vr 115), some (vi a1), some (vi a2), some (vi a3), some (vi a4), some (vi x2), o6] [vi 0] τ2 (qi K)))) ∧ (x1 ≠ 0 → Z E y_Mod_tellsMost d 24 [some (vr 115), some (vi a1), some (vi a2), some (vi a3), some (vi (w32 (a4 + 1))), o5, o6] [] τ1 (qi K)))))) :
    Z E y_Mod_tellsMost d 24 [some (vr 115), some (vi a1), some (vi a2), some (vi a3), some (vi a4), o5, o6] [] σ (qi K) := by
  refine z_iload (pc := 24) (i := 4) (by decide +kernel) rfl ?_
  refine z_aload_n (pc := 26) (q := 0) (by decide +kernel) rfl ?_
  refine z_getR (pc := 27) 116 fl_Mod_13 rfl rfl rfl (by decide +kernel) ?_
  refine z_iconst (pc := 30) (n := 4) (by decide +kernel) ⟨by decide, by decide⟩ ?_
  refine z_iald (pc := 31) rfl ⟨by decide, by decide⟩ (by decide +kernel) ?_
  refine z_icmp_ge (pc := 32) (off := 95) 127 (by decide +kernel) (by decide) ⟨fun hc => ?_, fun hc => ?_⟩
  · have k := k.1 hc
    refine z_iload_n (pc := 127) (q := 2) (by decide +kernel) rfl ?_
    exact z_iret (pc := 128) (by decide +kernel) rfl k
  · have k := k.2 hc
    refine z_iload_n (pc := 35) (q := 1) (by decide +kernel) rfl ?_
    refine z_iconst (pc := 36) (n := -1) (by decide +kernel) ⟨by decide, by decide⟩ ?_
    refine z_icmp_eq (pc := 37) (off := 90) 127 (by decide +kernel) (by decide) ⟨fun hc => ?_, fun hc => ?_⟩
    · have k := k.1 hc
      refine z_iload_n (pc := 127) (q := 2) (by decide +kernel) rfl ?_
      exact z_iret (pc := 128) (by decide +kernel) rfl k
    · have k := k.2 hc
      refine z_aload_n (pc := 40) (q := 0) (by decide +kernel) rfl ?_
      refine z_getR (pc := 41) 116 fl_Mod_13 rfl rfl rfl (by decide +kernel) ?_
      refine z_bipush (pc := 44) (n := 79) (by decide +kernel) (by decide) ⟨by decide, by decide⟩ ?_
      refine z_iald (pc := 46) rfl ⟨by decide, by decide⟩ (by decide +kernel) ?_
      refine z_i2l (pc := 47) (by decide +kernel) ?_
      refine z_iload (pc := 48) (i := 4) (by decide +kernel) rfl ?_
      refine z_calls (pc := 50) (as := [vl (σ 116 79), vi a4]) ml_Mod_214 rfl rfl (Nat.le_of_ble_eq_true rfl) (dc := d - 1) (by omega) (by decide +kernel) (CI.z (CI.mono (fun x1 τ1 k => ?_) k))
      refine z_if_eq (pc := 53) (off := 6) 59 (by decide +kernel) (by decide) ⟨fun hc => ?_, fun hc => ?_⟩
      · have k := k.1 hc
        refine z_aload_n (pc := 59) (q := 0) (by decide +kernel) rfl ?_
        refine z_aload_n (pc := 60) (q := 0) (by decide +kernel) rfl ?_
        refine z_getR (pc := 61) 116 fl_Mod_13 rfl rfl rfl (by decide +kernel) ?_
        refine z_bipush (pc := 64) (n := 79) (by decide +kernel) (by decide) ⟨by decide, by decide⟩ ?_
        refine z_iald (pc := 66) rfl ⟨by decide, by decide⟩ (by decide +kernel) ?_
        refine z_iconst (pc := 67) (n := 1) (by decide +kernel) ⟨by decide, by decide⟩ ?_
        refine z_iload (pc := 68) (i := 4) (by decide +kernel) rfl ?_
        refine z_ishl (pc := 70) (by decide +kernel) ?_
        refine z_ior (pc := 71) (by decide +kernel) ?_
        refine z_callv (pc := 72) (as := [vi (ior (τ1 116 79) (ish 1 a4))]) ml_Mod_407 rfl ⟨rfl, by decide⟩ rfl rfl (Nat.le_of_ble_eq_true rfl) (dc := d - 1) (by omega) (by decide +kernel) (CI.z (CI.mono (fun x2 τ2 k => ?_) k))
        refine z_istore (pc := 75) (i := 5) [some (vr 115), some (vi a1), some (vi a2), some (vi a3), some (vi a4), some (vi x2), o6] (by decide +kernel) (Nat.le_of_ble_eq_true rfl) rfl ?_
        refine z_iload (pc := 77) (i := 5) (by decide +kernel) rfl ?_
        refine z_iconst (pc := 79) (n := -1) (by decide +kernel) ⟨by decide, by decide⟩ ?_
        refine z_icmp_ne (pc := 80) (off := 7) 87 (by decide +kernel) (by decide) ⟨fun hc => ?_, fun hc => ?_⟩
        · have k := k.1 hc
          refine z_iload (pc := 87) (i := 5) (by decide +kernel) rfl ?_
          refine z_iload_n (pc := 89) (q := 1) (by decide +kernel) rfl ?_
          refine z_icmp_ge (pc := 90) (off := 10) 100 (by decide +kernel) (by decide) ⟨fun hc => ?_, fun hc => ?_⟩
          · have k := k.1 hc
            refine z_iload (pc := 100) (i := 5) (by decide +kernel) rfl ?_
            refine z_iload_n (pc := 102) (q := 1) (by decide +kernel) rfl ?_
            refine z_isub (pc := 103) (by decide +kernel) ?_
            exact k
          · have k := k.2 hc
            refine z_iload_n (pc := 93) (q := 1) (by decide +kernel) rfl ?_
            refine z_iload (pc := 94) (i := 5) (by decide +kernel) rfl ?_
            refine z_isub (pc := 96) (by decide +kernel) ?_
            refine z_goto (pc := 97) (off := 7) 104 (by decide +kernel) (by decide) ?_
            exact k
        · have k := k.2 hc
          refine z_iconst (pc := 83) (n := 0) (by decide +kernel) ⟨by decide, by decide⟩ ?_
          refine z_goto (pc := 84) (off := 20) 104 (by decide +kernel) (by decide) ?_
          exact k
      · have k := k.2 hc
        refine z_goto (pc := 56) (off := 65) 121 (by decide +kernel) (by decide) ?_
        refine z_iinc (pc := 121) (i := 4) (n := 1) [some (vr 115), some (vi a1), some (vi a2), some (vi a3), some (vi (w32 (a4 + 1))), o5, o6] (by decide +kernel) rfl rfl ?_
        refine z_goto (pc := 124) (off := -100) 24 (by decide +kernel) (by decide) ?_
        exact k
theorem b_Mod_tellsMost_104 {E : EN} {d : Nat} {a1 : Int} {a2 : Int} {a3 : Int} {a4 : Int} {o5 : Option AV} {o6 : Option AV} {s0 : Int} {σ : Mem} {K : Int → Mem → Prop}  (k : (a3 < s0 → Z E y_Mod_tellsMost d 24 [some (vr 115), some (vi a1), some (vi a4), some (vi s0), some (vi (w32 (a4 + 1))), none, some (vi s0)] [] σ (qi K)) ∧ (s0 ≤ a3 → Z E y_Mod_tellsMost d 24 [some (vr 115), some (vi a1), some (vi a2), some (vi a3), some (vi (w32 (a4 + 1))), none, some (vi s0)] [] σ (qi K))) :
    Z E y_Mod_tellsMost d 104 [some (vr 115), some (vi a1), some (vi a2), some (vi a3), some (vi a4), o5, o6] [vi s0] σ (qi K) := by
  refine z_forget (pc := 104) 5 [some (vr 115), some (vi a1), some (vi a2), some (vi a3), some (vi a4), none, o6] rfl ?_
  refine z_istore (pc := 104) (i := 6) [some (vr 115), some (vi a1), some (vi a2), some (vi a3), some (vi a4), none, some (vi s0)] (by decide +kernel) (Nat.le_of_ble_eq_true rfl) rfl ?_
  refine z_iload (pc := 106) (i := 6) (by decide +kernel) rfl ?_
  refine z_iload_n (pc := 108) (q := 3) (by decide +kernel) rfl ?_
  refine z_icmp_gt (pc := 109) (off := 6) 115 (by decide +kernel) (by decide) ⟨fun hc => ?_, fun hc => ?_⟩
  · have k := k.1 hc
    refine z_iload (pc := 115) (i := 4) (by decide +kernel) rfl ?_
    refine z_istore_n (pc := 117) (q := 2) [some (vr 115), some (vi a1), some (vi a4), some (vi a3), some (vi a4), none, some (vi s0)] (by decide +kernel) (Nat.le_of_ble_eq_true rfl) rfl ?_
    refine z_iload (pc := 118) (i := 6) (by decide +kernel) rfl ?_
    refine z_istore_n (pc := 120) (q := 3) [some (vr 115), some (vi a1), some (vi a4), some (vi s0), some (vi a4), none, some (vi s0)] (by decide +kernel) (Nat.le_of_ble_eq_true rfl) rfl ?_
    refine z_iinc (pc := 121) (i := 4) (n := 1) [some (vr 115), some (vi a1), some (vi a4), some (vi s0), some (vi (w32 (a4 + 1))), none, some (vi s0)] (by decide +kernel) rfl rfl ?_
    refine z_goto (pc := 124) (off := -100) 24 (by decide +kernel) (by decide) ?_
    exact k
  · have k := k.2 hc
    refine z_goto (pc := 112) (off := 9) 121 (by decide +kernel) (by decide) ?_
    refine z_iinc (pc := 121) (i := 4) (n := 1) [some (vr 115), some (vi a1), some (vi a2), some (vi a3), some (vi (w32 (a4 + 1))), none, some (vi s0)] (by decide +kernel) rfl rfl ?_
    refine z_goto (pc := 124) (off := -100) 24 (by decide +kernel) (by decide) ?_
    exact k
theorem b_Mod_laysKey_0 {E : EN} {d : Nat} {a1 : Int} {σ : Mem} {K : Int → Mem → Prop}  (k : (26 ≤ a1 → (702 ≤ a1 → Z E y_Mod_laysKey d 29 [some (vr 115), some (vi a1), none, none, none] [vi (w32 (a1 - 702))] σ (qi K)) ∧ (a1 < 702 → Z E y_Mod_laysKey d 29 [some (vr 115), some (vi a1), none, none, none] [vi (w32 (a1 - 26))] σ (qi K))) ∧ (a1 < 26 → Z E y_Mod_laysKey d 29 [some (vr 115), some (vi a1), none, none, none] [vi a1] σ (qi K))) :
    Z E y_Mod_laysKey d 0 [some (vr 115), some (vi a1), none, none, none] [] σ (qi K) := by
  refine z_iload_n (pc := 0) (q := 1) (by decide +kernel) rfl ?_
  refine z_bipush (pc := 1) (n := 26) (by decide +kernel) (by decide) ⟨by decide, by decide⟩ ?_
  refine z_icmp_ge (pc := 3) (off := 7) 10 (by decide +kernel) (by decide) ⟨fun hc => ?_, fun hc => ?_⟩
  · have k := k.1 hc
    refine z_iload_n (pc := 10) (q := 1) (by decide +kernel) rfl ?_
    refine z_sipush (pc := 11) (n := 702) (by decide +kernel) (by decide) ⟨by decide, by decide⟩ ?_
    refine z_icmp_ge (pc := 14) (off := 10) 24 (by decide +kernel) (by decide) ⟨fun hc => ?_, fun hc => ?_⟩
    · have k := k.1 hc
      refine z_iload_n (pc := 24) (q := 1) (by decide +kernel) rfl ?_
      refine z_sipush (pc := 25) (n := 702) (by decide +kernel) (by decide) ⟨by decide, by decide⟩ ?_
      refine z_isub (pc := 28) (by decide +kernel) ?_
      exact k
    · have k := k.2 hc
      refine z_iload_n (pc := 17) (q := 1) (by decide +kernel) rfl ?_
      refine z_bipush (pc := 18) (n := 26) (by decide +kernel) (by decide) ⟨by decide, by decide⟩ ?_
      refine z_isub (pc := 20) (by decide +kernel) ?_
      refine z_goto (pc := 21) (off := 8) 29 (by decide +kernel) (by decide) ?_
      exact k
  · have k := k.2 hc
    refine z_iload_n (pc := 6) (q := 1) (by decide +kernel) rfl ?_
    refine z_goto (pc := 7) (off := 22) 29 (by decide +kernel) (by decide) ?_
    exact k
theorem b_Mod_laysKey_29 {E : EN} {d : Nat} {a1 : Int} {o2 : Option AV} {o3 : Option AV} {o4 : Option AV} {s0 : Int} {σ : Mem} {K : Int → Mem → Prop}  (k : (26 ≤ a1 → (702 ≤ a1 → Z E y_Mod_laysKey d 66 [some (vr 115), some (vi a1), some (vi s0), some (vi s0), some (vi (w32 (3 - 1)))] [] (up σ 115 39 3) (qi K)) ∧ (a1 < 702 → Z E y_Mod_laysKey d 66 [some (vr 115), some (vi a1), some (vi s0), some (vi s0), some (vi (w32 (2 - 1)))] [] (up σ 115 39 2) (qi K))) ∧ (a1 < 26 → Z E y_Mod_laysKey d 66 [some (vr 115), some (vi a1), some (vi s0), some (vi s0), some (vi (w32 (1 - 1)))] [] (up σ 115 39 1) (qi K))) :
    Z E y_Mod_laysKey d 29 [some (vr 115), some (vi a1), o2, o3, o4] [vi s0] σ (qi K) := by
  refine z_istore_n (pc := 29) (q := 2) [some (vr 115), some (vi a1), some (vi s0), o3, o4] (by decide +kernel) (Nat.le_of_ble_eq_true rfl) rfl ?_
  refine z_aload_n (pc := 30) (q := 0) (by decide +kernel) rfl ?_
  refine z_iload_n (pc := 31) (q := 1) (by decide +kernel) rfl ?_
  refine z_bipush (pc := 32) (n := 26) (by decide +kernel) (by decide) ⟨by decide, by decide⟩ ?_
  refine z_icmp_ge (pc := 34) (off := 7) 41 (by decide +kernel) (by decide) ⟨fun hc => ?_, fun hc => ?_⟩
  · have k := k.1 hc
    refine z_iload_n (pc := 41) (q := 1) (by decide +kernel) rfl ?_
    refine z_sipush (pc := 42) (n := 702) (by decide +kernel) (by decide) ⟨by decide, by decide⟩ ?_
    refine z_icmp_ge (pc := 45) (off := 7) 52 (by decide +kernel) (by decide) ⟨fun hc => ?_, fun hc => ?_⟩
    · have k := k.1 hc
      refine z_iconst (pc := 52) (n := 3) (by decide +kernel) ⟨by decide, by decide⟩ ?_
      refine z_putI (pc := 53) 39 fp_Mod_410 rfl rfl rfl (by decide +kernel) ?_
      refine z_iload_n (pc := 56) (q := 2) (by decide +kernel) rfl ?_
      refine z_istore_n (pc := 57) (q := 3) [some (vr 115), some (vi a1), some (vi s0), some (vi s0), o4] (by decide +kernel) (Nat.le_of_ble_eq_true rfl) rfl ?_
      refine z_aload_n (pc := 58) (q := 0) (by decide +kernel) rfl ?_
      refine z_getI (pc := 59) 39 fl_Mod_410 rfl (by decide) rfl (by decide +kernel) ?_
      refine z_topI (up_same _ _ _ _) ?_
      refine z_iconst (pc := 62) (n := 1) (by decide +kernel) ⟨by decide, by decide⟩ ?_
      refine z_isub (pc := 63) (by decide +kernel) ?_
      refine z_istore (pc := 64) (i := 4) [some (vr 115), some (vi a1), some (vi s0), some (vi s0), some (vi (w32 (3 - 1)))] (by decide +kernel) (Nat.le_of_ble_eq_true rfl) rfl ?_
      exact k
    · have k := k.2 hc
      refine z_iconst (pc := 48) (n := 2) (by decide +kernel) ⟨by decide, by decide⟩ ?_
      refine z_goto (pc := 49) (off := 4) 53 (by decide +kernel) (by decide) ?_
      refine z_putI (pc := 53) 39 fp_Mod_410 rfl rfl rfl (by decide +kernel) ?_
      refine z_iload_n (pc := 56) (q := 2) (by decide +kernel) rfl ?_
      refine z_istore_n (pc := 57) (q := 3) [some (vr 115), some (vi a1), some (vi s0), some (vi s0), o4] (by decide +kernel) (Nat.le_of_ble_eq_true rfl) rfl ?_
      refine z_aload_n (pc := 58) (q := 0) (by decide +kernel) rfl ?_
      refine z_getI (pc := 59) 39 fl_Mod_410 rfl (by decide) rfl (by decide +kernel) ?_
      refine z_topI (up_same _ _ _ _) ?_
      refine z_iconst (pc := 62) (n := 1) (by decide +kernel) ⟨by decide, by decide⟩ ?_
      refine z_isub (pc := 63) (by decide +kernel) ?_
      refine z_istore (pc := 64) (i := 4) [some (vr 115), some (vi a1), some (vi s0), some (vi s0), some (vi (w32 (2 - 1)))] (by decide +kernel) (Nat.le_of_ble_eq_true rfl) rfl ?_
      exact k
  · have k := k.2 hc
    refine z_iconst (pc := 37) (n := 1) (by decide +kernel) ⟨by decide, by decide⟩ ?_
    refine z_goto (pc := 38) (off := 15) 53 (by decide +kernel) (by decide) ?_
    refine z_putI (pc := 53) 39 fp_Mod_410 rfl rfl rfl (by decide +kernel) ?_
    refine z_iload_n (pc := 56) (q := 2) (by decide +kernel) rfl ?_
    refine z_istore_n (pc := 57) (q := 3) [some (vr 115), some (vi a1), some (vi s0), some (vi s0), o4] (by decide +kernel) (Nat.le_of_ble_eq_true rfl) rfl ?_
    refine z_aload_n (pc := 58) (q := 0) (by decide +kernel) rfl ?_
    refine z_getI (pc := 59) 39 fl_Mod_410 rfl (by decide) rfl (by decide +kernel) ?_
    refine z_topI (up_same _ _ _ _) ?_
    refine z_iconst (pc := 62) (n := 1) (by decide +kernel) ⟨by decide, by decide⟩ ?_
    refine z_isub (pc := 63) (by decide +kernel) ?_
    refine z_istore (pc := 64) (i := 4) [some (vr 115), some (vi a1), some (vi s0), some (vi s0), some (vi (w32 (1 - 1)))] (by decide +kernel) (Nat.le_of_ble_eq_true rfl) rfl ?_
    exact k
theorem b_Mod_laysKey_66 {E : EN} {d : Nat} {a1 : Int} {o1 : Option AV} {a2 : Int} {a3 : Int} {a4 : Int} {σ : Mem} {K : Int → Mem → Prop}  (k : (a4 < 0 → (σ 115 39 ≠ 1 → (σ 115 39 ≠ 2 → K (w32 (1000 + a2)) σ) ∧ (σ 115 39 = 2 → K (w32 (100 + a2)) σ)) ∧ (σ 115 39 = 1 → K a2 σ)) ∧ (0 ≤ a4 → (0 ≤ a4 ∧ a4 < 3) ∧ Z E y_Mod_laysKey d 66 [some (vr 115), o1, some (vi a2), some (vi (w32 (Int.tdiv a3 26))), some (vi (w32 (a4 + (-1))))] [] (up σ 128 a4 (Int.tmod a3 26)) (qi K))) :
    Z E y_Mod_laysKey d 66 [some (vr 115), o1, some (vi a2), some (vi a3), some (vi a4)] [] σ (qi K) := by
  refine z_iload (pc := 66) (i := 4) (by decide +kernel) rfl ?_
  refine z_if_lt (pc := 68) (off := 25) 93 (by decide +kernel) (by decide) ⟨fun hc => ?_, fun hc => ?_⟩
  · have k := k.1 hc
    refine z_aload_n (pc := 93) (q := 0) (by decide +kernel) rfl ?_
    refine z_getI (pc := 94) 39 fl_Mod_410 rfl (by decide) rfl (by decide +kernel) ?_
    refine z_iconst (pc := 97) (n := 1) (by decide +kernel) ⟨by decide, by decide⟩ ?_
    refine z_icmp_ne (pc := 98) (off := 7) 105 (by decide +kernel) (by decide) ⟨fun hc => ?_, fun hc => ?_⟩
    · have k := k.1 hc
      refine z_aload_n (pc := 105) (q := 0) (by decide +kernel) rfl ?_
      refine z_getI (pc := 106) 39 fl_Mod_410 rfl (by decide) rfl (by decide +kernel) ?_
      refine z_iconst (pc := 109) (n := 2) (by decide +kernel) ⟨by decide, by decide⟩ ?_
      refine z_icmp_ne (pc := 110) (off := 10) 120 (by decide +kernel) (by decide) ⟨fun hc => ?_, fun hc => ?_⟩
      · have k := k.1 hc
        refine z_sipush (pc := 120) (n := 1000) (by decide +kernel) (by decide) ⟨by decide, by decide⟩ ?_
        refine z_iload_n (pc := 123) (q := 2) (by decide +kernel) rfl ?_
        refine z_iadd (pc := 124) (by decide +kernel) ?_
        exact z_iret (pc := 125) (by decide +kernel) rfl k
      · have k := k.2 hc
        refine z_bipush (pc := 113) (n := 100) (by decide +kernel) (by decide) ⟨by decide, by decide⟩ ?_
        refine z_iload_n (pc := 115) (q := 2) (by decide +kernel) rfl ?_
        refine z_iadd (pc := 116) (by decide +kernel) ?_
        refine z_goto (pc := 117) (off := 8) 125 (by decide +kernel) (by decide) ?_
        exact z_iret (pc := 125) (by decide +kernel) rfl k
    · have k := k.2 hc
      refine z_iload_n (pc := 101) (q := 2) (by decide +kernel) rfl ?_
      refine z_goto (pc := 102) (off := 23) 125 (by decide +kernel) (by decide) ?_
      exact z_iret (pc := 125) (by decide +kernel) rfl k
  · have k := k.2 hc
    refine z_aload_n (pc := 71) (q := 0) (by decide +kernel) rfl ?_
    refine z_getR (pc := 72) 128 fl_Mod_54 rfl rfl rfl (by decide +kernel) ?_
    refine z_iload (pc := 75) (i := 4) (by decide +kernel) rfl ?_
    refine z_iload_n (pc := 77) (q := 3) (by decide +kernel) rfl ?_
    refine z_bipush (pc := 78) (n := 26) (by decide +kernel) (by decide) ⟨by decide, by decide⟩ ?_
    refine z_irem (pc := 80) (by decide +kernel) (by decide) ?_
    have hb1 := k.1
    have k := k.2
    refine z_iast (pc := 81) rfl hb1 (by decide +kernel) ?_
    refine z_iload_n (pc := 82) (q := 3) (by decide +kernel) rfl ?_
    refine z_bipush (pc := 83) (n := 26) (by decide +kernel) (by decide) ⟨by decide, by decide⟩ ?_
    refine z_idiv (pc := 85) (by decide +kernel) (by decide) ?_
    refine z_istore_n (pc := 86) (q := 3) [some (vr 115), o1, some (vi a2), some (vi (w32 (Int.tdiv a3 26))), some (vi a4)] (by decide +kernel) (Nat.le_of_ble_eq_true rfl) rfl ?_
    refine z_iinc (pc := 87) (i := 4) (n := -1) [some (vr 115), o1, some (vi a2), some (vi (w32 (Int.tdiv a3 26))), some (vi (w32 (a4 + (-1))))] (by decide +kernel) rfl rfl ?_
    refine z_goto (pc := 90) (off := -24) 66 (by decide +kernel) (by decide) ?_
    exact k
theorem b_Mod_plainAt_0 {E : EN} {d : Nat} {a1 : Int} {a2 : Int} {σ : Mem} {K : Int → Mem → Prop}  (k : (0 ≤ w32 ((w32 (40 * a1)) + a2) ∧ w32 ((w32 (40 * a1)) + a2) < 160) ∧ (σ 115 39 ≠ 0) ∧ (0 ≤ Int.tmod a2 (σ 115 39) ∧ Int.tmod a2 (σ 115 39) < 3) ∧ (0 ≤ w32 ((w32 (σ 132 (w32 ((w32 (40 * a1)) + a2)))) - (σ 128 (Int.tmod a2 (σ 115 39)))) → K (w32 ((w32 (σ 132 (w32 ((w32 (40 * a1)) + a2)))) - (σ 128 (Int.tmod a2 (σ 115 39))))) σ) ∧ (w32 ((w32 (σ 132 (w32 ((w32 (40 * a1)) + a2)))) - (σ 128 (Int.tmod a2 (σ 115 39)))) < 0 → K (w32 ((w32 ((w32 (σ 132 (w32 ((w32 (40 * a1)) + a2)))) - (σ 128 (Int.tmod a2 (σ 115 39))))) + 26)) σ)) :
    Z E y_Mod_plainAt d 0 [some (vr 115), some (vi a1), some (vi a2), none] [] σ (qi K) := by
  refine z_aload_n (pc := 0) (q := 0) (by decide +kernel) rfl ?_
  refine z_getR (pc := 1) 132 fl_Mod_66 rfl rfl rfl (by decide +kernel) ?_
  refine z_bipush (pc := 4) (n := 40) (by decide +kernel) (by decide) ⟨by decide, by decide⟩ ?_
  refine z_iload_n (pc := 6) (q := 1) (by decide +kernel) rfl ?_
  refine z_imul (pc := 7) (by decide +kernel) ?_
  refine z_iload_n (pc := 8) (q := 2) (by decide +kernel) rfl ?_
  refine z_iadd (pc := 9) (by decide +kernel) ?_
  have hb1 := k.1
  have k := k.2
  refine z_lald (pc := 10) rfl hb1 (by decide +kernel) ?_
  refine z_l2i (pc := 11) (by decide +kernel) ?_
  refine z_aload_n (pc := 12) (q := 0) (by decide +kernel) rfl ?_
  refine z_getR (pc := 13) 128 fl_Mod_54 rfl rfl rfl (by decide +kernel) ?_
  refine z_iload_n (pc := 16) (q := 2) (by decide +kernel) rfl ?_
  refine z_aload_n (pc := 17) (q := 0) (by decide +kernel) rfl ?_
  refine z_getI (pc := 18) 39 fl_Mod_410 rfl (by decide) rfl (by decide +kernel) ?_
  have hb2 := k.1
  have k := k.2
  refine z_irem (pc := 21) (by decide +kernel) hb2 ?_
  have hb3 := k.1
  have k := k.2
  refine z_iald (pc := 22) rfl hb3 (by decide +kernel) ?_
  refine z_isub (pc := 23) (by decide +kernel) ?_
  refine z_istore_n (pc := 24) (q := 3) [some (vr 115), some (vi a1), some (vi a2), some (vi (w32 ((w32 (σ 132 (w32 ((w32 (40 * a1)) + a2)))) - (σ 128 (Int.tmod a2 (σ 115 39))))))] (by decide +kernel) (Nat.le_of_ble_eq_true rfl) rfl ?_
  refine z_iload_n (pc := 25) (q := 3) (by decide +kernel) rfl ?_
  refine z_if_ge (pc := 26) (off := 10) 36 (by decide +kernel) (by decide) ⟨fun hc => ?_, fun hc => ?_⟩
  · have k := k.1 hc
    refine z_iload_n (pc := 36) (q := 3) (by decide +kernel) rfl ?_
    exact z_iret (pc := 37) (by decide +kernel) rfl k
  · have k := k.2 hc
    refine z_iload_n (pc := 29) (q := 3) (by decide +kernel) rfl ?_
    refine z_bipush (pc := 30) (n := 26) (by decide +kernel) (by decide) ⟨by decide, by decide⟩ ?_
    refine z_iadd (pc := 32) (by decide +kernel) ?_
    refine z_goto (pc := 33) (off := 4) 37 (by decide +kernel) (by decide) ?_
    exact z_iret (pc := 37) (by decide +kernel) rfl k
theorem b_Mod_placeOf_0 {E : EN} {d : Nat} {a1 : Int} {σ : Mem} {K : Int → Mem → Prop}  (k : Z E y_Mod_placeOf d 2 [some (vr 115), some (vi a1), some (vi 0), none] [] σ (qi K)) :
    Z E y_Mod_placeOf d 0 [some (vr 115), some (vi a1), none, none] [] σ (qi K) := by
  refine z_iconst (pc := 0) (n := 0) (by decide +kernel) ⟨by decide, by decide⟩ ?_
  refine z_istore_n (pc := 1) (q := 2) [some (vr 115), some (vi a1), some (vi 0), none] (by decide +kernel) (Nat.le_of_ble_eq_true rfl) rfl ?_
  exact k
theorem b_Mod_placeOf_2 {E : EN} {d : Nat} {a1 : Int} {a2 : Int} {o3 : Option AV} {σ : Mem} {K : Int → Mem → Prop}  (k : (σ 116 6 ≤ 0 → K (-1) σ) ∧ (0 < σ 116 6 → (0 ≤ a1 ∧ a1 < 4) ∧ (σ 131 a1 < w32 (a2 + (σ 116 6)) → K (-1) σ) ∧ (w32 (a2 + (σ 116 6)) ≤ σ 131 a1 → Z E y_Mod_placeOf d 32 [some (vr 115), some (vi a1), some (vi a2), some (vi 0)] [] σ (qi K)))) :
    Z E y_Mod_placeOf d 2 [some (vr 115), some (vi a1), some (vi a2), o3] [] σ (qi K) := by
  refine z_aload_n (pc := 2) (q := 0) (by decide +kernel) rfl ?_
  refine z_getR (pc := 3) 116 fl_Mod_13 rfl rfl rfl (by decide +kernel) ?_
  refine z_bipush (pc := 6) (n := 6) (by decide +kernel) (by decide) ⟨by decide, by decide⟩ ?_
  refine z_iald (pc := 8) rfl ⟨by decide, by decide⟩ (by decide +kernel) ?_
  refine z_if_le (pc := 9) (off := 79) 88 (by decide +kernel) (by decide) ⟨fun hc => ?_, fun hc => ?_⟩
  · have k := k.1 hc
    refine z_iconst (pc := 88) (n := -1) (by decide +kernel) ⟨by decide, by decide⟩ ?_
    exact z_iret (pc := 89) (by decide +kernel) rfl k
  · have k := k.2 hc
    refine z_iload_n (pc := 12) (q := 2) (by decide +kernel) rfl ?_
    refine z_aload_n (pc := 13) (q := 0) (by decide +kernel) rfl ?_
    refine z_getR (pc := 14) 116 fl_Mod_13 rfl rfl rfl (by decide +kernel) ?_
    refine z_bipush (pc := 17) (n := 6) (by decide +kernel) (by decide) ⟨by decide, by decide⟩ ?_
    refine z_iald (pc := 19) rfl ⟨by decide, by decide⟩ (by decide +kernel) ?_
    refine z_iadd (pc := 20) (by decide +kernel) ?_
    refine z_aload_n (pc := 21) (q := 0) (by decide +kernel) rfl ?_
    refine z_getR (pc := 22) 131 fl_Mod_63 rfl rfl rfl (by decide +kernel) ?_
    refine z_iload_n (pc := 25) (q := 1) (by decide +kernel) rfl ?_
    have hb1 := k.1
    have k := k.2
    refine z_iald (pc := 26) rfl hb1 (by decide +kernel) ?_
    refine z_icmp_gt (pc := 27) (off := 61) 88 (by decide +kernel) (by decide) ⟨fun hc => ?_, fun hc => ?_⟩
    · have k := k.1 hc
      refine z_iconst (pc := 88) (n := -1) (by decide +kernel) ⟨by decide, by decide⟩ ?_
      exact z_iret (pc := 89) (by decide +kernel) rfl k
    · have k := k.2 hc
      refine z_iconst (pc := 30) (n := 0) (by decide +kernel) ⟨by decide, by decide⟩ ?_
      refine z_istore_n (pc := 31) (q := 3) [some (vr 115), some (vi a1), some (vi a2), some (vi 0)] (by decide +kernel) (Nat.le_of_ble_eq_true rfl) rfl ?_
      exact k
theorem b_Mod_placeOf_32 {E : EN} {d : Nat} {a1 : Int} {a2 : Int} {a3 : Int} {σ : Mem} {K : Int → Mem → Prop}  (hd : 1 ≤ d) (k : (σ 116 6 ≤ a3 → (a3 ≠ σ 116 6 → Z E y_Mod_placeOf d 2 [some (vr 115), some (vi a1), some (vi (w32 (a2 + 1))), some (vi a3)] [] σ (qi K)) ∧ (a3 = σ 116 6 → K a2 σ)) ∧ (a3 < σ 116 6 → CI E y_Mod_plainAt (d - 1) [vr 115, vi a1, vi (w32 (a2 + a3))] σ (fun x1 τ1 => (0 ≤ w32 (19 + a3) ∧ w32 (19 + a3) < 3108) ∧ (x1 ≠ τ1 116 (w32 (19 + a3)) → (a3 ≠ τ1 116 6 → Z E y_Mod_placeOf d 2 [some (vr 115), some (vi a1), some (vi (w32 (a2 + 1))), some (vi a3)] [] τ1 (qi K)) ∧ (a3 = τ1 116 6 → K a2 τ1)) ∧ (x1 = τ1 116 (w32 (19 + a3)) → Z E y_Mod_placeOf d 32 [some (vr 115), some (vi a1), some (vi a2), some (vi (w32 (a3 + 1)))] [] τ1 (qi K))))) :
    Z E y_Mod_placeOf d 32 [some (vr 115), some (vi a1), some (vi a2), some (vi a3)] [] σ (qi K) := by
  refine z_iload_n (pc := 32) (q := 3) (by decide +kernel) rfl ?_
  refine z_aload_n (pc := 33) (q := 0) (by decide +kernel) rfl ?_
  refine z_getR (pc := 34) 116 fl_Mod_13 rfl rfl rfl (by decide +kernel) ?_
  refine z_bipush (pc := 37) (n := 6) (by decide +kernel) (by decide) ⟨by decide, by decide⟩ ?_
  refine z_iald (pc := 39) rfl ⟨by decide, by decide⟩ (by decide +kernel) ?_
  refine z_icmp_ge (pc := 40) (off := 29) 69 (by decide +kernel) (by decide) ⟨fun hc => ?_, fun hc => ?_⟩
  · have k := k.1 hc
    refine z_iload_n (pc := 69) (q := 3) (by decide +kernel) rfl ?_
    refine z_aload_n (pc := 70) (q := 0) (by decide +kernel) rfl ?_
    refine z_getR (pc := 71) 116 fl_Mod_13 rfl rfl rfl (by decide +kernel) ?_
    refine z_bipush (pc := 74) (n := 6) (by decide +kernel) (by decide) ⟨by decide, by decide⟩ ?_
    refine z_iald (pc := 76) rfl ⟨by decide, by decide⟩ (by decide +kernel) ?_
    refine z_icmp_ne (pc := 77) (off := 5) 82 (by decide +kernel) (by decide) ⟨fun hc => ?_, fun hc => ?_⟩
    · have k := k.1 hc
      refine z_iinc (pc := 82) (i := 2) (n := 1) [some (vr 115), some (vi a1), some (vi (w32 (a2 + 1))), some (vi a3)] (by decide +kernel) rfl rfl ?_
      refine z_goto (pc := 85) (off := -83) 2 (by decide +kernel) (by decide) ?_
      exact k
    · have k := k.2 hc
      refine z_iload_n (pc := 80) (q := 2) (by decide +kernel) rfl ?_
      exact z_iret (pc := 81) (by decide +kernel) rfl k
  · have k := k.2 hc
    refine z_aload_n (pc := 43) (q := 0) (by decide +kernel) rfl ?_
    refine z_iload_n (pc := 44) (q := 1) (by decide +kernel) rfl ?_
    refine z_iload_n (pc := 45) (q := 2) (by decide +kernel) rfl ?_
    refine z_iload_n (pc := 46) (q := 3) (by decide +kernel) rfl ?_
    refine z_iadd (pc := 47) (by decide +kernel) ?_
    refine z_callv (pc := 48) (as := [vi a1, vi (w32 (a2 + a3))]) ml_Mod_413 rfl ⟨rfl, by decide⟩ rfl rfl (Nat.le_of_ble_eq_true rfl) (dc := d - 1) (by omega) (by decide +kernel) (CI.z (CI.mono (fun x1 τ1 k => ?_) k))
    refine z_aload_n (pc := 51) (q := 0) (by decide +kernel) rfl ?_
    refine z_getR (pc := 52) 116 fl_Mod_13 rfl rfl rfl (by decide +kernel) ?_
    refine z_bipush (pc := 55) (n := 19) (by decide +kernel) (by decide) ⟨by decide, by decide⟩ ?_
    refine z_iload_n (pc := 57) (q := 3) (by decide +kernel) rfl ?_
    refine z_iadd (pc := 58) (by decide +kernel) ?_
    have hb1 := k.1
    have k := k.2
    refine z_iald (pc := 59) rfl hb1 (by decide +kernel) ?_
    refine z_icmp_ne (pc := 60) (off := 9) 69 (by decide +kernel) (by decide) ⟨fun hc => ?_, fun hc => ?_⟩
    · have k := k.1 hc
      refine z_iload_n (pc := 69) (q := 3) (by decide +kernel) rfl ?_
      refine z_aload_n (pc := 70) (q := 0) (by decide +kernel) rfl ?_
      refine z_getR (pc := 71) 116 fl_Mod_13 rfl rfl rfl (by decide +kernel) ?_
      refine z_bipush (pc := 74) (n := 6) (by decide +kernel) (by decide) ⟨by decide, by decide⟩ ?_
      refine z_iald (pc := 76) rfl ⟨by decide, by decide⟩ (by decide +kernel) ?_
      refine z_icmp_ne (pc := 77) (off := 5) 82 (by decide +kernel) (by decide) ⟨fun hc => ?_, fun hc => ?_⟩
      · have k := k.1 hc
        refine z_iinc (pc := 82) (i := 2) (n := 1) [some (vr 115), some (vi a1), some (vi (w32 (a2 + 1))), some (vi a3)] (by decide +kernel) rfl rfl ?_
        refine z_goto (pc := 85) (off := -83) 2 (by decide +kernel) (by decide) ?_
        exact k
      · have k := k.2 hc
        refine z_iload_n (pc := 80) (q := 2) (by decide +kernel) rfl ?_
        exact z_iret (pc := 81) (by decide +kernel) rfl k
    · have k := k.2 hc
      refine z_iinc (pc := 63) (i := 3) (n := 1) [some (vr 115), some (vi a1), some (vi a2), some (vi (w32 (a3 + 1)))] (by decide +kernel) rfl rfl ?_
      refine z_goto (pc := 66) (off := -34) 32 (by decide +kernel) (by decide) ?_
      exact k
theorem b_Mod_noCipher_0 {E : EN} {d : Nat} {a1 : Int} {σ : Mem} {K : Int → Mem → Prop}  (hd : 1 ≤ d) (k : CI E y_Mod_noTray (d - 1) [vr 115, vi a1] σ (fun x1 τ1 => (x1 = 0 → (0 ≤ a1 ∧ a1 < 4) ∧ CI E y_Mod_within (d - 1) [vl (τ1 131 a1), vl 1, vl 40] τ1 (fun x2 τ2 => (x2 ≠ 0 → Z E y_Mod_noCipher d 34 [some (vr 115), some (vi a1), some (vi x1), some (vi 0)] [] τ2 (qi K)) ∧ (x2 = 0 → K (-4) τ2))) ∧ (x1 ≠ 0 → K x1 τ1))) :
    Z E y_Mod_noCipher d 0 [some (vr 115), some (vi a1), none, none] [] σ (qi K) := by
  refine z_aload_n (pc := 0) (q := 0) (by decide +kernel) rfl ?_
  refine z_iload_n (pc := 1) (q := 1) (by decide +kernel) rfl ?_
  refine z_callv (pc := 2) (as := [vi a1]) ml_Mod_296 rfl ⟨rfl, by decide⟩ rfl rfl (Nat.le_of_ble_eq_true rfl) (dc := d - 1) (by omega) (by decide +kernel) (CI.z (CI.mono (fun x1 τ1 k => ?_) k))
  refine z_istore_n (pc := 5) (q := 2) [some (vr 115), some (vi a1), some (vi x1), none] (by decide +kernel) (Nat.le_of_ble_eq_true rfl) rfl ?_
  refine z_iload_n (pc := 6) (q := 2) (by decide +kernel) rfl ?_
  refine z_if_eq (pc := 7) (off := 5) 12 (by decide +kernel) (by decide) ⟨fun hc => ?_, fun hc => ?_⟩
  · have k := k.1 hc
    refine z_aload_n (pc := 12) (q := 0) (by decide +kernel) rfl ?_
    refine z_getR (pc := 13) 131 fl_Mod_63 rfl rfl rfl (by decide +kernel) ?_
    refine z_iload_n (pc := 16) (q := 1) (by decide +kernel) rfl ?_
    have hb1 := k.1
    have k := k.2
    refine z_iald (pc := 17) rfl hb1 (by decide +kernel) ?_
    refine z_i2l (pc := 18) (by decide +kernel) ?_
    refine z_lconst (pc := 19) (n := 1) 1 (by decide +kernel) (by decide) ⟨by decide, by decide⟩ ?_
    refine z_ldc2 (pc := 20) (index := 416) 40 (mm8 202 rfl) ⟨by decide, by decide⟩ (by decide +kernel) ?_
    refine z_calls (pc := 23) (as := [vl (τ1 131 a1), vl 1, vl 40]) ml_Mod_136 rfl rfl (Nat.le_of_ble_eq_true rfl) (dc := d - 1) (by omega) (by decide +kernel) (CI.z (CI.mono (fun x2 τ2 k => ?_) k))
    refine z_if_ne (pc := 26) (off := 6) 32 (by decide +kernel) (by decide) ⟨fun hc => ?_, fun hc => ?_⟩
    · have k := k.1 hc
      refine z_iconst (pc := 32) (n := 0) (by decide +kernel) ⟨by decide, by decide⟩ ?_
      refine z_istore_n (pc := 33) (q := 3) [some (vr 115), some (vi a1), some (vi x1), some (vi 0)] (by decide +kernel) (Nat.le_of_ble_eq_true rfl) rfl ?_
      exact k
    · have k := k.2 hc
      refine z_bipush (pc := 29) (n := -4) (by decide +kernel) (by decide) ⟨by decide, by decide⟩ ?_
      exact z_iret (pc := 31) (by decide +kernel) rfl k
  · have k := k.2 hc
    refine z_iload_n (pc := 10) (q := 2) (by decide +kernel) rfl ?_
    exact z_iret (pc := 11) (by decide +kernel) rfl k
theorem b_Mod_noCipher_34 {E : EN} {d : Nat} {a1 : Int} {o2 : Option AV} {a3 : Int} {σ : Mem} {K : Int → Mem → Prop}  (hd : 1 ≤ d) (k : (0 ≤ a1 ∧ a1 < 4) ∧ (σ 131 a1 ≤ a3 → K 0 σ) ∧ (a3 < σ 131 a1 → (0 ≤ w32 ((w32 (40 * a1)) + a3) ∧ w32 ((w32 (40 * a1)) + a3) < 160) ∧ CI E y_Mod_within (d - 1) [vl (σ 132 (w32 ((w32 (40 * a1)) + a3))), vl 0, vl 25] σ (fun x1 τ1 => (x1 ≠ 0 → Z E y_Mod_noCipher d 34 [some (vr 115), some (vi a1), none, some (vi (w32 (a3 + 1)))] [] τ1 (qi K)) ∧ (x1 = 0 → K (-3) τ1)))) :
    Z E y_Mod_noCipher d 34 [some (vr 115), some (vi a1), o2, some (vi a3)] [] σ (qi K) := by
  refine z_iload_n (pc := 34) (q := 3) (by decide +kernel) rfl ?_
  refine z_aload_n (pc := 35) (q := 0) (by decide +kernel) rfl ?_
  refine z_getR (pc := 36) 131 fl_Mod_63 rfl rfl rfl (by decide +kernel) ?_
  refine z_iload_n (pc := 39) (q := 1) (by decide +kernel) rfl ?_
  have hb1 := k.1
  have k := k.2
  refine z_iald (pc := 40) rfl hb1 (by decide +kernel) ?_
  refine z_icmp_ge (pc := 41) (off := 33) 74 (by decide +kernel) (by decide) ⟨fun hc => ?_, fun hc => ?_⟩
  · have k := k.1 hc
    refine z_iconst (pc := 74) (n := 0) (by decide +kernel) ⟨by decide, by decide⟩ ?_
    exact z_iret (pc := 75) (by decide +kernel) rfl k
  · have k := k.2 hc
    refine z_aload_n (pc := 44) (q := 0) (by decide +kernel) rfl ?_
    refine z_getR (pc := 45) 132 fl_Mod_66 rfl rfl rfl (by decide +kernel) ?_
    refine z_bipush (pc := 48) (n := 40) (by decide +kernel) (by decide) ⟨by decide, by decide⟩ ?_
    refine z_iload_n (pc := 50) (q := 1) (by decide +kernel) rfl ?_
    refine z_imul (pc := 51) (by decide +kernel) ?_
    refine z_iload_n (pc := 52) (q := 3) (by decide +kernel) rfl ?_
    refine z_iadd (pc := 53) (by decide +kernel) ?_
    have hb2 := k.1
    have k := k.2
    refine z_lald (pc := 54) rfl hb2 (by decide +kernel) ?_
    refine z_lconst (pc := 55) (n := 0) 0 (by decide +kernel) (by decide) ⟨by decide, by decide⟩ ?_
    refine z_ldc2 (pc := 56) (index := 418) 25 (mm8 203 rfl) ⟨by decide, by decide⟩ (by decide +kernel) ?_
    refine z_calls (pc := 59) (as := [vl (σ 132 (w32 ((w32 (40 * a1)) + a3))), vl 0, vl 25]) ml_Mod_136 rfl rfl (Nat.le_of_ble_eq_true rfl) (dc := d - 1) (by omega) (by decide +kernel) (CI.z (CI.mono (fun x1 τ1 k => ?_) k))
    refine z_if_ne (pc := 62) (off := 6) 68 (by decide +kernel) (by decide) ⟨fun hc => ?_, fun hc => ?_⟩
    · have k := k.1 hc
      refine z_forget (pc := 68) 2 [some (vr 115), some (vi a1), none, some (vi a3)] rfl ?_
      refine z_iinc (pc := 68) (i := 3) (n := 1) [some (vr 115), some (vi a1), none, some (vi (w32 (a3 + 1)))] (by decide +kernel) rfl rfl ?_
      refine z_goto (pc := 71) (off := -37) 34 (by decide +kernel) (by decide) ?_
      exact k
    · have k := k.2 hc
      refine z_bipush (pc := 65) (n := -3) (by decide +kernel) (by decide) ⟨by decide, by decide⟩ ?_
      exact z_iret (pc := 67) (by decide +kernel) rfl k
theorem b_Mod_keys_0 {E : EN} {d : Nat} {a1 : Int} {σ : Mem} {K : Int → Mem → Prop}  (hd : 1 ≤ d) (k : CI E y_Mod_noCipher (d - 1) [vr 115, vi a1] (up σ 115 0 0) (fun x1 τ1 => (x1 = 0 → Z E y_Mod_keys d 22 [some (vr 115), some (vi a1), some (vi x1), some (vi 0), some (vi 0)] [] τ1 (qi K)) ∧ (x1 ≠ 0 → K x1 τ1))) :
    Z E y_Mod_keys d 0 [some (vr 115), some (vi a1), none, none, none] [] σ (qi K) := by
  refine z_aload_n (pc := 0) (q := 0) (by decide +kernel) rfl ?_
  refine z_iconst (pc := 1) (n := 0) (by decide +kernel) ⟨by decide, by decide⟩ ?_
  refine z_putI (pc := 2) 0 fp_Mod_1 rfl rfl rfl (by decide +kernel) ?_
  refine z_aload_n (pc := 5) (q := 0) (by decide +kernel) rfl ?_
  refine z_iload_n (pc := 6) (q := 1) (by decide +kernel) rfl ?_
  refine z_callv (pc := 7) (as := [vi a1]) ml_Mod_420 rfl ⟨rfl, by decide⟩ rfl rfl (Nat.le_of_ble_eq_true rfl) (dc := d - 1) (by omega) (by decide +kernel) (CI.z (CI.mono (fun x1 τ1 k => ?_) k))
  refine z_istore_n (pc := 10) (q := 2) [some (vr 115), some (vi a1), some (vi x1), none, none] (by decide +kernel) (Nat.le_of_ble_eq_true rfl) rfl ?_
  refine z_iload_n (pc := 11) (q := 2) (by decide +kernel) rfl ?_
  refine z_if_eq (pc := 12) (off := 5) 17 (by decide +kernel) (by decide) ⟨fun hc => ?_, fun hc => ?_⟩
  · have k := k.1 hc
    refine z_iconst (pc := 17) (n := 0) (by decide +kernel) ⟨by decide, by decide⟩ ?_
    refine z_istore_n (pc := 18) (q := 3) [some (vr 115), some (vi a1), some (vi x1), some (vi 0), none] (by decide +kernel) (Nat.le_of_ble_eq_true rfl) rfl ?_
    refine z_iconst (pc := 19) (n := 0) (by decide +kernel) ⟨by decide, by decide⟩ ?_
    refine z_istore (pc := 20) (i := 4) [some (vr 115), some (vi a1), some (vi x1), some (vi 0), some (vi 0)] (by decide +kernel) (Nat.le_of_ble_eq_true rfl) rfl ?_
    exact k
  · have k := k.2 hc
    refine z_iload_n (pc := 15) (q := 2) (by decide +kernel) rfl ?_
    exact z_iret (pc := 16) (by decide +kernel) rfl k
theorem b_Mod_keys_22 {E : EN} {d : Nat} {a1 : Int} {o2 : Option AV} {a3 : Int} {a4 : Int} {σ : Mem} {K : Int → Mem → Prop}  (hd : 1 ≤ d) (k : (18278 ≤ a4 → K a3 σ) ∧ (a4 < 18278 → CI E y_Mod_laysKey (d - 1) [vr 115, vi a4] σ (fun x1 τ1 => CI E y_Mod_placeOf (d - 1) [vr 115, vi a1] τ1 (fun x2 τ2 => (x2 ≠ (-1) → Z E y_Mod_keys d 22 [some (vr 115), some (vi a1), none, some (vi (w32 (a3 + 1))), some (vi (w32 (a4 + 1)))] [] τ2 (qi K)) ∧ (x2 = (-1) → Z E y_Mod_keys d 22 [some (vr 115), some (vi a1), none, some (vi (w32 (a3 + 0))), some (vi (w32 (a4 + 1)))] [] τ2 (qi K)))))) :
    Z E y_Mod_keys d 22 [some (vr 115), some (vi a1), o2, some (vi a3), some (vi a4)] [] σ (qi K) := by
  refine z_iload (pc := 22) (i := 4) (by decide +kernel) rfl ?_
  refine z_sipush (pc := 24) (n := 18278) (by decide +kernel) (by decide) ⟨by decide, by decide⟩ ?_
  refine z_icmp_ge (pc := 27) (off := 33) 60 (by decide +kernel) (by decide) ⟨fun hc => ?_, fun hc => ?_⟩
  · have k := k.1 hc
    refine z_iload_n (pc := 60) (q := 3) (by decide +kernel) rfl ?_
    exact z_iret (pc := 61) (by decide +kernel) rfl k
  · have k := k.2 hc
    refine z_aload_n (pc := 30) (q := 0) (by decide +kernel) rfl ?_
    refine z_iload (pc := 31) (i := 4) (by decide +kernel) rfl ?_
    refine z_callv (pc := 33) (as := [vi a4]) ml_Mod_423 rfl ⟨rfl, by decide⟩ rfl rfl (Nat.le_of_ble_eq_true rfl) (dc := d - 1) (by omega) (by decide +kernel) (CI.z (CI.mono (fun x1 τ1 k => ?_) k))
    refine z_pop (pc := 36) (by decide +kernel) rfl ?_
    refine z_iload_n (pc := 37) (q := 3) (by decide +kernel) rfl ?_
    refine z_aload_n (pc := 38) (q := 0) (by decide +kernel) rfl ?_
    refine z_iload_n (pc := 39) (q := 1) (by decide +kernel) rfl ?_
    refine z_callv (pc := 40) (as := [vi a1]) ml_Mod_426 rfl ⟨rfl, by decide⟩ rfl rfl (Nat.le_of_ble_eq_true rfl) (dc := d - 1) (by omega) (by decide +kernel) (CI.z (CI.mono (fun x2 τ2 k => ?_) k))
    refine z_iconst (pc := 43) (n := -1) (by decide +kernel) ⟨by decide, by decide⟩ ?_
    refine z_icmp_ne (pc := 44) (off := 7) 51 (by decide +kernel) (by decide) ⟨fun hc => ?_, fun hc => ?_⟩
    · have k := k.1 hc
      refine z_iconst (pc := 51) (n := 1) (by decide +kernel) ⟨by decide, by decide⟩ ?_
      refine z_iadd (pc := 52) (by decide +kernel) ?_
      refine z_forget (pc := 53) 2 [some (vr 115), some (vi a1), none, some (vi a3), some (vi a4)] rfl ?_
      refine z_istore_n (pc := 53) (q := 3) [some (vr 115), some (vi a1), none, some (vi (w32 (a3 + 1))), some (vi a4)] (by decide +kernel) (Nat.le_of_ble_eq_true rfl) rfl ?_
      refine z_iinc (pc := 54) (i := 4) (n := 1) [some (vr 115), some (vi a1), none, some (vi (w32 (a3 + 1))), some (vi (w32 (a4 + 1)))] (by decide +kernel) rfl rfl ?_
      refine z_goto (pc := 57) (off := -35) 22 (by decide +kernel) (by decide) ?_
      exact k
    · have k := k.2 hc
      refine z_iconst (pc := 47) (n := 0) (by decide +kernel) ⟨by decide, by decide⟩ ?_
      refine z_goto (pc := 48) (off := 4) 52 (by decide +kernel) (by decide) ?_
      refine z_iadd (pc := 52) (by decide +kernel) ?_
      refine z_forget (pc := 53) 2 [some (vr 115), some (vi a1), none, some (vi a3), some (vi a4)] rfl ?_
      refine z_istore_n (pc := 53) (q := 3) [some (vr 115), some (vi a1), none, some (vi (w32 (a3 + 0))), some (vi a4)] (by decide +kernel) (Nat.le_of_ble_eq_true rfl) rfl ?_
      refine z_iinc (pc := 54) (i := 4) (n := 1) [some (vr 115), some (vi a1), none, some (vi (w32 (a3 + 0))), some (vi (w32 (a4 + 1)))] (by decide +kernel) rfl rfl ?_
      refine z_goto (pc := 57) (off := -35) 22 (by decide +kernel) (by decide) ?_
      exact k
theorem b_Mod_keyAt_0 {E : EN} {d : Nat} {a1 : Int} {a2 : Int} {σ : Mem} {K : Int → Mem → Prop}  (hd : 1 ≤ d) (k : CI E y_Mod_noCipher (d - 1) [vr 115, vi a1] (up σ 115 0 0) (fun x1 τ1 => (x1 = 0 → (0 ≤ a2 → Z E y_Mod_keyAt d 30 [some (vr 115), some (vi a1), some (vi a2), some (vi x1), some (vi a2), some (vi 0), none] [] τ1 (qi K)) ∧ (a2 < 0 → K (-3) τ1)) ∧ (x1 ≠ 0 → K x1 τ1))) :
    Z E y_Mod_keyAt d 0 [some (vr 115), some (vi a1), some (vi a2), none, none, none, none] [] σ (qi K) := by
  refine z_aload_n (pc := 0) (q := 0) (by decide +kernel) rfl ?_
  refine z_iconst (pc := 1) (n := 0) (by decide +kernel) ⟨by decide, by decide⟩ ?_
  refine z_putI (pc := 2) 0 fp_Mod_1 rfl rfl rfl (by decide +kernel) ?_
  refine z_aload_n (pc := 5) (q := 0) (by decide +kernel) rfl ?_
  refine z_iload_n (pc := 6) (q := 1) (by decide +kernel) rfl ?_
  refine z_callv (pc := 7) (as := [vi a1]) ml_Mod_420 rfl ⟨rfl, by decide⟩ rfl rfl (Nat.le_of_ble_eq_true rfl) (dc := d - 1) (by omega) (by decide +kernel) (CI.z (CI.mono (fun x1 τ1 k => ?_) k))
  refine z_istore_n (pc := 10) (q := 3) [some (vr 115), some (vi a1), some (vi a2), some (vi x1), none, none, none] (by decide +kernel) (Nat.le_of_ble_eq_true rfl) rfl ?_
  refine z_iload_n (pc := 11) (q := 3) (by decide +kernel) rfl ?_
  refine z_if_eq (pc := 12) (off := 5) 17 (by decide +kernel) (by decide) ⟨fun hc => ?_, fun hc => ?_⟩
  · have k := k.1 hc
    refine z_iload_n (pc := 17) (q := 2) (by decide +kernel) rfl ?_
    refine z_if_ge (pc := 18) (off := 6) 24 (by decide +kernel) (by decide) ⟨fun hc => ?_, fun hc => ?_⟩
    · have k := k.1 hc
      refine z_iload_n (pc := 24) (q := 2) (by decide +kernel) rfl ?_
      refine z_istore (pc := 25) (i := 4) [some (vr 115), some (vi a1), some (vi a2), some (vi x1), some (vi a2), none, none] (by decide +kernel) (Nat.le_of_ble_eq_true rfl) rfl ?_
      refine z_iconst (pc := 27) (n := 0) (by decide +kernel) ⟨by decide, by decide⟩ ?_
      refine z_istore (pc := 28) (i := 5) [some (vr 115), some (vi a1), some (vi a2), some (vi x1), some (vi a2), some (vi 0), none] (by decide +kernel) (Nat.le_of_ble_eq_true rfl) rfl ?_
      exact k
    · have k := k.2 hc
      refine z_bipush (pc := 21) (n := -3) (by decide +kernel) (by decide) ⟨by decide, by decide⟩ ?_
      exact z_iret (pc := 23) (by decide +kernel) rfl k
  · have k := k.2 hc
    refine z_iload_n (pc := 15) (q := 3) (by decide +kernel) rfl ?_
    exact z_iret (pc := 16) (by decide +kernel) rfl k
theorem b_Mod_keyAt_30 {E : EN} {d : Nat} {a1 : Int} {a2 : Int} {o2 : Option AV} {o3 : Option AV} {a4 : Int} {a5 : Int} {o6 : Option AV} {σ : Mem} {K : Int → Mem → Prop}  (hd : 1 ≤ d) (k : (18278 ≤ a5 → K (-1) σ) ∧ (a5 < 18278 → CI E y_Mod_laysKey (d - 1) [vr 115, vi a5] σ (fun x1 τ1 => CI E y_Mod_placeOf (d - 1) [vr 115, vi a1] τ1 (fun x2 τ2 => (x2 ≠ (-1) → (a4 ≠ 0 → Z E y_Mod_keyAt d 30 [some (vr 115), some (vi a1), o2, none, some (vi (w32 (a4 + (-1)))), some (vi (w32 (a5 + 1))), some (vi x1)] [] τ2 (qi K)) ∧ (a4 = 0 → K x1 τ2)) ∧ (x2 = (-1) → Z E y_Mod_keyAt d 30 [some (vr 115), some (vi a1), o2, o3, some (vi a4), some (vi (w32 (a5 + 1))), some (vi x1)] [] τ2 (qi K)))))) :
    Z E y_Mod_keyAt d 30 [some (vr 115), some (vi a1), o2, o3, some (vi a4), some (vi a5), o6] [] σ (qi K) := by
  refine z_iload (pc := 30) (i := 5) (by decide +kernel) rfl ?_
  refine z_sipush (pc := 32) (n := 18278) (by decide +kernel) (by decide) ⟨by decide, by decide⟩ ?_
  refine z_icmp_ge (pc := 35) (off := 40) 75 (by decide +kernel) (by decide) ⟨fun hc => ?_, fun hc => ?_⟩
  · have k := k.1 hc
    refine z_iconst (pc := 75) (n := -1) (by decide +kernel) ⟨by decide, by decide⟩ ?_
    exact z_iret (pc := 76) (by decide +kernel) rfl k
  · have k := k.2 hc
    refine z_aload_n (pc := 38) (q := 0) (by decide +kernel) rfl ?_
    refine z_iload (pc := 39) (i := 5) (by decide +kernel) rfl ?_
    refine z_callv (pc := 41) (as := [vi a5]) ml_Mod_423 rfl ⟨rfl, by decide⟩ rfl rfl (Nat.le_of_ble_eq_true rfl) (dc := d - 1) (by omega) (by decide +kernel) (CI.z (CI.mono (fun x1 τ1 k => ?_) k))
    refine z_istore (pc := 44) (i := 6) [some (vr 115), some (vi a1), o2, o3, some (vi a4), some (vi a5), some (vi x1)] (by decide +kernel) (Nat.le_of_ble_eq_true rfl) rfl ?_
    refine z_aload_n (pc := 46) (q := 0) (by decide +kernel) rfl ?_
    refine z_iload_n (pc := 47) (q := 1) (by decide +kernel) rfl ?_
    refine z_callv (pc := 48) (as := [vi a1]) ml_Mod_426 rfl ⟨rfl, by decide⟩ rfl rfl (Nat.le_of_ble_eq_true rfl) (dc := d - 1) (by omega) (by decide +kernel) (CI.z (CI.mono (fun x2 τ2 k => ?_) k))
    refine z_iconst (pc := 51) (n := -1) (by decide +kernel) ⟨by decide, by decide⟩ ?_
    refine z_icmp_ne (pc := 52) (off := 6) 58 (by decide +kernel) (by decide) ⟨fun hc => ?_, fun hc => ?_⟩
    · have k := k.1 hc
      refine z_iload (pc := 58) (i := 4) (by decide +kernel) rfl ?_
      refine z_if_ne (pc := 60) (off := 6) 66 (by decide +kernel) (by decide) ⟨fun hc => ?_, fun hc => ?_⟩
      · have k := k.1 hc
        refine z_forget (pc := 66) 3 [some (vr 115), some (vi a1), o2, none, some (vi a4), some (vi a5), some (vi x1)] rfl ?_
        refine z_iinc (pc := 66) (i := 4) (n := -1) [some (vr 115), some (vi a1), o2, none, some (vi (w32 (a4 + (-1)))), some (vi a5), some (vi x1)] (by decide +kernel) rfl rfl ?_
        refine z_iinc (pc := 69) (i := 5) (n := 1) [some (vr 115), some (vi a1), o2, none, some (vi (w32 (a4 + (-1)))), some (vi (w32 (a5 + 1))), some (vi x1)] (by decide +kernel) rfl rfl ?_
        refine z_goto (pc := 72) (off := -42) 30 (by decide +kernel) (by decide) ?_
        exact k
      · have k := k.2 hc
        refine z_iload (pc := 63) (i := 6) (by decide +kernel) rfl ?_
        exact z_iret (pc := 65) (by decide +kernel) rfl k
    · have k := k.2 hc
      refine z_goto (pc := 55) (off := 14) 69 (by decide +kernel) (by decide) ?_
      refine z_iinc (pc := 69) (i := 5) (n := 1) [some (vr 115), some (vi a1), o2, o3, some (vi a4), some (vi (w32 (a5 + 1))), some (vi x1)] (by decide +kernel) rfl rfl ?_
      refine z_goto (pc := 72) (off := -42) 30 (by decide +kernel) (by decide) ?_
      exact k
theorem b_Mod_isKey_0 {E : EN} {d : Nat} {a1 : Int} {σ : Mem} {K : Int → Mem → Prop}  (k : (100 ≤ a1 → (1000 ≤ a1 → Z E y_Mod_isKey d 29 [some (vr 115), some (vi a1), none] [vi (w32 (a1 - 298))] σ (qi K)) ∧ (a1 < 1000 → Z E y_Mod_isKey d 29 [some (vr 115), some (vi a1), none] [vi (w32 (a1 - 74))] σ (qi K))) ∧ (a1 < 100 → Z E y_Mod_isKey d 29 [some (vr 115), some (vi a1), none] [vi a1] σ (qi K))) :
    Z E y_Mod_isKey d 0 [some (vr 115), some (vi a1), none] [] σ (qi K) := by
  refine z_iload_n (pc := 0) (q := 1) (by decide +kernel) rfl ?_
  refine z_bipush (pc := 1) (n := 100) (by decide +kernel) (by decide) ⟨by decide, by decide⟩ ?_
  refine z_icmp_ge (pc := 3) (off := 7) 10 (by decide +kernel) (by decide) ⟨fun hc => ?_, fun hc => ?_⟩
  · have k := k.1 hc
    refine z_iload_n (pc := 10) (q := 1) (by decide +kernel) rfl ?_
    refine z_sipush (pc := 11) (n := 1000) (by decide +kernel) (by decide) ⟨by decide, by decide⟩ ?_
    refine z_icmp_ge (pc := 14) (off := 10) 24 (by decide +kernel) (by decide) ⟨fun hc => ?_, fun hc => ?_⟩
    · have k := k.1 hc
      refine z_iload_n (pc := 24) (q := 1) (by decide +kernel) rfl ?_
      refine z_sipush (pc := 25) (n := 298) (by decide +kernel) (by decide) ⟨by decide, by decide⟩ ?_
      refine z_isub (pc := 28) (by decide +kernel) ?_
      exact k
    · have k := k.2 hc
      refine z_iload_n (pc := 17) (q := 1) (by decide +kernel) rfl ?_
      refine z_bipush (pc := 18) (n := 74) (by decide +kernel) (by decide) ⟨by decide, by decide⟩ ?_
      refine z_isub (pc := 20) (by decide +kernel) ?_
      refine z_goto (pc := 21) (off := 8) 29 (by decide +kernel) (by decide) ?_
      exact k
  · have k := k.2 hc
    refine z_iload_n (pc := 6) (q := 1) (by decide +kernel) rfl ?_
    refine z_goto (pc := 7) (off := 22) 29 (by decide +kernel) (by decide) ?_
    exact k
theorem b_Mod_isKey_29 {E : EN} {d : Nat} {a1 : Int} {o2 : Option AV} {s0 : Int} {σ : Mem} {K : Int → Mem → Prop}  (hd : 1 ≤ d) (k : CI E y_Mod_within (d - 1) [vl s0, vl 0, vl 18277] σ (fun x1 τ1 => (x1 ≠ 0 → CI E y_Mod_laysKey (d - 1) [vr 115, vi s0] τ1 (fun x2 τ2 => (x2 ≠ a1 → K 0 τ2) ∧ (x2 = a1 → K 1 τ2))) ∧ (x1 = 0 → K 0 τ1))) :
    Z E y_Mod_isKey d 29 [some (vr 115), some (vi a1), o2] [vi s0] σ (qi K) := by
  refine z_istore_n (pc := 29) (q := 2) [some (vr 115), some (vi a1), some (vi s0)] (by decide +kernel) (Nat.le_of_ble_eq_true rfl) rfl ?_
  refine z_iload_n (pc := 30) (q := 2) (by decide +kernel) rfl ?_
  refine z_i2l (pc := 31) (by decide +kernel) ?_
  refine z_lconst (pc := 32) (n := 0) 0 (by decide +kernel) (by decide) ⟨by decide, by decide⟩ ?_
  refine z_ldc2 (pc := 33) (index := 429) 18277 (mm8 228 rfl) ⟨by decide, by decide⟩ (by decide +kernel) ?_
  refine z_calls (pc := 36) (as := [vl s0, vl 0, vl 18277]) ml_Mod_136 rfl rfl (Nat.le_of_ble_eq_true rfl) (dc := d - 1) (by omega) (by decide +kernel) (CI.z (CI.mono (fun x1 τ1 k => ?_) k))
  refine z_if_ne (pc := 39) (off := 5) 44 (by decide +kernel) (by decide) ⟨fun hc => ?_, fun hc => ?_⟩
  · have k := k.1 hc
    refine z_aload_n (pc := 44) (q := 0) (by decide +kernel) rfl ?_
    refine z_iload_n (pc := 45) (q := 2) (by decide +kernel) rfl ?_
    refine z_callv (pc := 46) (as := [vi s0]) ml_Mod_423 rfl ⟨rfl, by decide⟩ rfl rfl (Nat.le_of_ble_eq_true rfl) (dc := d - 1) (by omega) (by decide +kernel) (CI.z (CI.mono (fun x2 τ2 k => ?_) k))
    refine z_iload_n (pc := 49) (q := 1) (by decide +kernel) rfl ?_
    refine z_icmp_ne (pc := 50) (off := 7) 57 (by decide +kernel) (by decide) ⟨fun hc => ?_, fun hc => ?_⟩
    · have k := k.1 hc
      refine z_iconst (pc := 57) (n := 0) (by decide +kernel) ⟨by decide, by decide⟩ ?_
      exact z_zret (pc := 58) (by decide +kernel) rfl ⟨by decide, k⟩
    · have k := k.2 hc
      refine z_iconst (pc := 53) (n := 1) (by decide +kernel) ⟨by decide, by decide⟩ ?_
      refine z_goto (pc := 54) (off := 4) 58 (by decide +kernel) (by decide) ?_
      exact z_zret (pc := 58) (by decide +kernel) rfl ⟨by decide, k⟩
  · have k := k.2 hc
    refine z_iconst (pc := 42) (n := 0) (by decide +kernel) ⟨by decide, by decide⟩ ?_
    exact z_zret (pc := 43) (by decide +kernel) rfl ⟨by decide, k⟩
theorem b_Mod_place_0 {E : EN} {d : Nat} {a1 : Int} {a2 : Int} {σ : Mem} {K : Int → Mem → Prop}  (hd : 1 ≤ d) (k : CI E y_Mod_noCipher (d - 1) [vr 115, vi a1] (up σ 115 0 0) (fun x1 τ1 => (x1 = 0 → CI E y_Mod_isKey (d - 1) [vr 115, vi a2] τ1 (fun x2 τ2 => (x2 = 0 → K (-3) τ2) ∧ (x2 ≠ 0 → CI E y_Mod_placeOf (d - 1) [vr 115, vi a1] τ2 (fun x3 τ3 => K x3 τ3)))) ∧ (x1 ≠ 0 → K x1 τ1))) :
    Z E y_Mod_place d 0 [some (vr 115), some (vi a1), some (vi a2), none] [] σ (qi K) := by
  refine z_aload_n (pc := 0) (q := 0) (by decide +kernel) rfl ?_
  refine z_iconst (pc := 1) (n := 0) (by decide +kernel) ⟨by decide, by decide⟩ ?_
  refine z_putI (pc := 2) 0 fp_Mod_1 rfl rfl rfl (by decide +kernel) ?_
  refine z_aload_n (pc := 5) (q := 0) (by decide +kernel) rfl ?_
  refine z_iload_n (pc := 6) (q := 1) (by decide +kernel) rfl ?_
  refine z_callv (pc := 7) (as := [vi a1]) ml_Mod_420 rfl ⟨rfl, by decide⟩ rfl rfl (Nat.le_of_ble_eq_true rfl) (dc := d - 1) (by omega) (by decide +kernel) (CI.z (CI.mono (fun x1 τ1 k => ?_) k))
  refine z_istore_n (pc := 10) (q := 3) [some (vr 115), some (vi a1), some (vi a2), some (vi x1)] (by decide +kernel) (Nat.le_of_ble_eq_true rfl) rfl ?_
  refine z_iload_n (pc := 11) (q := 3) (by decide +kernel) rfl ?_
  refine z_if_eq (pc := 12) (off := 5) 17 (by decide +kernel) (by decide) ⟨fun hc => ?_, fun hc => ?_⟩
  · have k := k.1 hc
    refine z_aload_n (pc := 17) (q := 0) (by decide +kernel) rfl ?_
    refine z_iload_n (pc := 18) (q := 2) (by decide +kernel) rfl ?_
    refine z_callv (pc := 19) (as := [vi a2]) ml_Mod_431 rfl ⟨rfl, by decide⟩ rfl rfl (Nat.le_of_ble_eq_true rfl) (dc := d - 1) (by omega) (by decide +kernel) (CI.z (CI.mono (fun x2 τ2 k => ?_) k))
    refine z_if_eq (pc := 22) (off := 11) 33 (by decide +kernel) (by decide) ⟨fun hc => ?_, fun hc => ?_⟩
    · have k := k.1 hc
      refine z_bipush (pc := 33) (n := -3) (by decide +kernel) (by decide) ⟨by decide, by decide⟩ ?_
      exact z_iret (pc := 35) (by decide +kernel) rfl k
    · have k := k.2 hc
      refine z_aload_n (pc := 25) (q := 0) (by decide +kernel) rfl ?_
      refine z_iload_n (pc := 26) (q := 1) (by decide +kernel) rfl ?_
      refine z_callv (pc := 27) (as := [vi a1]) ml_Mod_426 rfl ⟨rfl, by decide⟩ rfl rfl (Nat.le_of_ble_eq_true rfl) (dc := d - 1) (by omega) (by decide +kernel) (CI.z (CI.mono (fun x3 τ3 k => ?_) k))
      refine z_goto (pc := 30) (off := 5) 35 (by decide +kernel) (by decide) ?_
      exact z_iret (pc := 35) (by decide +kernel) rfl k
  · have k := k.2 hc
    refine z_iload_n (pc := 15) (q := 3) (by decide +kernel) rfl ?_
    exact z_iret (pc := 16) (by decide +kernel) rfl k
theorem b_Mod_plain_0 {E : EN} {d : Nat} {a1 : Int} {a2 : Int} {a3 : Int} {σ : Mem} {K : Int → Mem → Prop}  (hd : 1 ≤ d) (k : CI E y_Mod_within (d - 1) [vl a1, vl 0, vl 3] (up σ 115 0 0) (fun x1 τ1 => (x1 = 0 → K (-2) τ1) ∧ (x1 ≠ 0 → CI E y_Mod_within (d - 1) [vl a3, vl 0, vl 3] τ1 (fun x2 τ2 => (x2 = 0 → K (-2) τ2) ∧ (x2 ≠ 0 → (a1 ≠ a3 → (0 ≤ a1 ∧ a1 < 4) ∧ (τ2 130 a1 = (-1) → K (-6) τ2) ∧ (τ2 130 a1 ≠ (-1) → (0 ≤ a3 ∧ a3 < 4) ∧ (τ2 130 a3 ≠ (-1) → CI E y_Mod_noCipher (d - 1) [vr 115, vi a1] τ2 (fun x3 τ3 => (x3 = 0 → CI E y_Mod_isKey (d - 1) [vr 115, vi a2] τ3 (fun x4 τ4 => (x4 ≠ 0 → (τ4 131 a3 ≤ τ4 131 a1 → Z E y_Mod_plain d 121 [some (vr 115), some (vi a1), some (vi a2), some (vi a3), some (vi x3), some (vi (τ4 131 a3)), some (vi 0)] [] τ4 (qi K)) ∧ (τ4 131 a1 < τ4 131 a3 → Z E y_Mod_plain d 121 [some (vr 115), some (vi a1), some (vi a2), some (vi a3), some (vi x3), some (vi (τ4 131 a1)), some (vi 0)] [] τ4 (qi K))) ∧ (x4 = 0 → K (-3) τ4))) ∧ (x3 ≠ 0 → K x3 τ3))) ∧ (τ2 130 a3 = (-1) → K (-6) τ2))) ∧ (a1 = a3 → K (-2) τ2)))))) :
    Z E y_Mod_plain d 0 [some (vr 115), some (vi a1), some (vi a2), some (vi a3), none, none, none] [] σ (qi K) := by
  refine z_aload_n (pc := 0) (q := 0) (by decide +kernel) rfl ?_
  refine z_iconst (pc := 1) (n := 0) (by decide +kernel) ⟨by decide, by decide⟩ ?_
  refine z_putI (pc := 2) 0 fp_Mod_1 rfl rfl rfl (by decide +kernel) ?_
  refine z_iload_n (pc := 5) (q := 1) (by decide +kernel) rfl ?_
  refine z_i2l (pc := 6) (by decide +kernel) ?_
  refine z_lconst (pc := 7) (n := 0) 0 (by decide +kernel) (by decide) ⟨by decide, by decide⟩ ?_
  refine z_ldc2 (pc := 8) (index := 287) 3 (mm7 215 rfl) ⟨by decide, by decide⟩ (by decide +kernel) ?_
  refine z_calls (pc := 11) (as := [vl a1, vl 0, vl 3]) ml_Mod_136 rfl rfl (Nat.le_of_ble_eq_true rfl) (dc := d - 1) (by omega) (by decide +kernel) (CI.z (CI.mono (fun x1 τ1 k => ?_) k))
  refine z_if_eq (pc := 14) (off := 20) 34 (by decide +kernel) (by decide) ⟨fun hc => ?_, fun hc => ?_⟩
  · have k := k.1 hc
    refine z_bipush (pc := 34) (n := -2) (by decide +kernel) (by decide) ⟨by decide, by decide⟩ ?_
    exact z_iret (pc := 36) (by decide +kernel) rfl k
  · have k := k.2 hc
    refine z_iload_n (pc := 17) (q := 3) (by decide +kernel) rfl ?_
    refine z_i2l (pc := 18) (by decide +kernel) ?_
    refine z_lconst (pc := 19) (n := 0) 0 (by decide +kernel) (by decide) ⟨by decide, by decide⟩ ?_
    refine z_ldc2 (pc := 20) (index := 287) 3 (mm7 215 rfl) ⟨by decide, by decide⟩ (by decide +kernel) ?_
    refine z_calls (pc := 23) (as := [vl a3, vl 0, vl 3]) ml_Mod_136 rfl rfl (Nat.le_of_ble_eq_true rfl) (dc := d - 1) (by omega) (by decide +kernel) (CI.z (CI.mono (fun x2 τ2 k => ?_) k))
    refine z_if_eq (pc := 26) (off := 8) 34 (by decide +kernel) (by decide) ⟨fun hc => ?_, fun hc => ?_⟩
    · have k := k.1 hc
      refine z_bipush (pc := 34) (n := -2) (by decide +kernel) (by decide) ⟨by decide, by decide⟩ ?_
      exact z_iret (pc := 36) (by decide +kernel) rfl k
    · have k := k.2 hc
      refine z_iload_n (pc := 29) (q := 1) (by decide +kernel) rfl ?_
      refine z_iload_n (pc := 30) (q := 3) (by decide +kernel) rfl ?_
      refine z_icmp_ne (pc := 31) (off := 6) 37 (by decide +kernel) (by decide) ⟨fun hc => ?_, fun hc => ?_⟩
      · have k := k.1 hc
        refine z_aload_n (pc := 37) (q := 0) (by decide +kernel) rfl ?_
        refine z_getR (pc := 38) 130 fl_Mod_60 rfl rfl rfl (by decide +kernel) ?_
        refine z_iload_n (pc := 41) (q := 1) (by decide +kernel) rfl ?_
        have hb1 := k.1
        have k := k.2
        refine z_iald (pc := 42) rfl hb1 (by decide +kernel) ?_
        refine z_iconst (pc := 43) (n := -1) (by decide +kernel) ⟨by decide, by decide⟩ ?_
        refine z_icmp_eq (pc := 44) (off := 13) 57 (by decide +kernel) (by decide) ⟨fun hc => ?_, fun hc => ?_⟩
        · have k := k.1 hc
          refine z_bipush (pc := 57) (n := -6) (by decide +kernel) (by decide) ⟨by decide, by decide⟩ ?_
          exact z_iret (pc := 59) (by decide +kernel) rfl k
        · have k := k.2 hc
          refine z_aload_n (pc := 47) (q := 0) (by decide +kernel) rfl ?_
          refine z_getR (pc := 48) 130 fl_Mod_60 rfl rfl rfl (by decide +kernel) ?_
          refine z_iload_n (pc := 51) (q := 3) (by decide +kernel) rfl ?_
          have hb2 := k.1
          have k := k.2
          refine z_iald (pc := 52) rfl hb2 (by decide +kernel) ?_
          refine z_iconst (pc := 53) (n := -1) (by decide +kernel) ⟨by decide, by decide⟩ ?_
          refine z_icmp_ne (pc := 54) (off := 6) 60 (by decide +kernel) (by decide) ⟨fun hc => ?_, fun hc => ?_⟩
          · have k := k.1 hc
            refine z_aload_n (pc := 60) (q := 0) (by decide +kernel) rfl ?_
            refine z_iload_n (pc := 61) (q := 1) (by decide +kernel) rfl ?_
            refine z_callv (pc := 62) (as := [vi a1]) ml_Mod_420 rfl ⟨rfl, by decide⟩ rfl rfl (Nat.le_of_ble_eq_true rfl) (dc := d - 1) (by omega) (by decide +kernel) (CI.z (CI.mono (fun x3 τ3 k => ?_) k))
            refine z_istore (pc := 65) (i := 4) [some (vr 115), some (vi a1), some (vi a2), some (vi a3), some (vi x3), none, none] (by decide +kernel) (Nat.le_of_ble_eq_true rfl) rfl ?_
            refine z_iload (pc := 67) (i := 4) (by decide +kernel) rfl ?_
            refine z_if_eq (pc := 69) (off := 6) 75 (by decide +kernel) (by decide) ⟨fun hc => ?_, fun hc => ?_⟩
            · have k := k.1 hc
              refine z_aload_n (pc := 75) (q := 0) (by decide +kernel) rfl ?_
              refine z_iload_n (pc := 76) (q := 2) (by decide +kernel) rfl ?_
              refine z_callv (pc := 77) (as := [vi a2]) ml_Mod_431 rfl ⟨rfl, by decide⟩ rfl rfl (Nat.le_of_ble_eq_true rfl) (dc := d - 1) (by omega) (by decide +kernel) (CI.z (CI.mono (fun x4 τ4 k => ?_) k))
              refine z_if_ne (pc := 80) (off := 6) 86 (by decide +kernel) (by decide) ⟨fun hc => ?_, fun hc => ?_⟩
              · have k := k.1 hc
                refine z_aload_n (pc := 86) (q := 0) (by decide +kernel) rfl ?_
                refine z_getR (pc := 87) 131 fl_Mod_63 rfl rfl rfl (by decide +kernel) ?_
                refine z_iload_n (pc := 90) (q := 1) (by decide +kernel) rfl ?_
                refine z_iald (pc := 91) rfl hb1 (by decide +kernel) ?_
                refine z_aload_n (pc := 92) (q := 0) (by decide +kernel) rfl ?_
                refine z_getR (pc := 93) 131 fl_Mod_63 rfl rfl rfl (by decide +kernel) ?_
                refine z_iload_n (pc := 96) (q := 3) (by decide +kernel) rfl ?_
                refine z_iald (pc := 97) rfl hb2 (by decide +kernel) ?_
                refine z_icmp_ge (pc := 98) (off := 12) 110 (by decide +kernel) (by decide) ⟨fun hc => ?_, fun hc => ?_⟩
                · have k := k.1 hc
                  refine z_aload_n (pc := 110) (q := 0) (by decide +kernel) rfl ?_
                  refine z_getR (pc := 111) 131 fl_Mod_63 rfl rfl rfl (by decide +kernel) ?_
                  refine z_iload_n (pc := 114) (q := 3) (by decide +kernel) rfl ?_
                  refine z_iald (pc := 115) rfl hb2 (by decide +kernel) ?_
                  refine z_istore (pc := 116) (i := 5) [some (vr 115), some (vi a1), some (vi a2), some (vi a3), some (vi x3), some (vi (τ4 131 a3)), none] (by decide +kernel) (Nat.le_of_ble_eq_true rfl) rfl ?_
                  refine z_iconst (pc := 118) (n := 0) (by decide +kernel) ⟨by decide, by decide⟩ ?_
                  refine z_istore (pc := 119) (i := 6) [some (vr 115), some (vi a1), some (vi a2), some (vi a3), some (vi x3), some (vi (τ4 131 a3)), some (vi 0)] (by decide +kernel) (Nat.le_of_ble_eq_true rfl) rfl ?_
                  exact k
                · have k := k.2 hc
                  refine z_aload_n (pc := 101) (q := 0) (by decide +kernel) rfl ?_
                  refine z_getR (pc := 102) 131 fl_Mod_63 rfl rfl rfl (by decide +kernel) ?_
                  refine z_iload_n (pc := 105) (q := 1) (by decide +kernel) rfl ?_
                  refine z_iald (pc := 106) rfl hb1 (by decide +kernel) ?_
                  refine z_goto (pc := 107) (off := 9) 116 (by decide +kernel) (by decide) ?_
                  refine z_istore (pc := 116) (i := 5) [some (vr 115), some (vi a1), some (vi a2), some (vi a3), some (vi x3), some (vi (τ4 131 a1)), none] (by decide +kernel) (Nat.le_of_ble_eq_true rfl) rfl ?_
                  refine z_iconst (pc := 118) (n := 0) (by decide +kernel) ⟨by decide, by decide⟩ ?_
                  refine z_istore (pc := 119) (i := 6) [some (vr 115), some (vi a1), some (vi a2), some (vi a3), some (vi x3), some (vi (τ4 131 a1)), some (vi 0)] (by decide +kernel) (Nat.le_of_ble_eq_true rfl) rfl ?_
                  exact k
              · have k := k.2 hc
                refine z_bipush (pc := 83) (n := -3) (by decide +kernel) (by decide) ⟨by decide, by decide⟩ ?_
                exact z_iret (pc := 85) (by decide +kernel) rfl k
            · have k := k.2 hc
              refine z_iload (pc := 72) (i := 4) (by decide +kernel) rfl ?_
              exact z_iret (pc := 74) (by decide +kernel) rfl k
          · have k := k.2 hc
            refine z_bipush (pc := 57) (n := -6) (by decide +kernel) (by decide) ⟨by decide, by decide⟩ ?_
            exact z_iret (pc := 59) (by decide +kernel) rfl k
      · have k := k.2 hc
        refine z_bipush (pc := 34) (n := -2) (by decide +kernel) (by decide) ⟨by decide, by decide⟩ ?_
        exact z_iret (pc := 36) (by decide +kernel) rfl k
theorem b_Mod_plain_121 {E : EN} {d : Nat} {a1 : Int} {a2 : Int} {a3 : Int} {o2 : Option AV} {o4 : Option AV} {a5 : Int} {a6 : Int} {σ : Mem} {K : Int → Mem → Prop}  (hd : 1 ≤ d) (k : (a5 ≤ a6 → K a5 σ) ∧ (a6 < a5 → CI E y_Mod_plainAt (d - 1) [vr 115, vi a1, vi a6] σ (fun x1 τ1 => (0 ≤ w32 ((w32 (40 * a3)) + a6) ∧ w32 ((w32 (40 * a3)) + a6) < 160) ∧ Z E y_Mod_plain d 121 [some (vr 115), some (vi a1), o2, some (vi a3), o4, some (vi a5), some (vi (w32 (a6 + 1)))] [] (up τ1 132 (w32 ((w32 (40 * a3)) + a6)) x1) (qi K)))) :
    Z E y_Mod_plain d 121 [some (vr 115), some (vi a1), o2, some (vi a3), o4, some (vi a5), some (vi a6)] [] σ (qi K) := by
  refine z_iload (pc := 121) (i := 6) (by decide +kernel) rfl ?_
  refine z_iload (pc := 123) (i := 5) (by decide +kernel) rfl ?_
  refine z_icmp_ge (pc := 125) (off := 29) 154 (by decide +kernel) (by decide) ⟨fun hc => ?_, fun hc => ?_⟩
  · have k := k.1 hc
    refine z_iload (pc := 154) (i := 5) (by decide +kernel) rfl ?_
    exact z_iret (pc := 156) (by decide +kernel) rfl k
  · have k := k.2 hc
    refine z_aload_n (pc := 128) (q := 0) (by decide +kernel) rfl ?_
    refine z_getR (pc := 129) 132 fl_Mod_66 rfl rfl rfl (by decide +kernel) ?_
    refine z_bipush (pc := 132) (n := 40) (by decide +kernel) (by decide) ⟨by decide, by decide⟩ ?_
    refine z_iload_n (pc := 134) (q := 3) (by decide +kernel) rfl ?_
    refine z_imul (pc := 135) (by decide +kernel) ?_
    refine z_iload (pc := 136) (i := 6) (by decide +kernel) rfl ?_
    refine z_iadd (pc := 138) (by decide +kernel) ?_
    refine z_aload_n (pc := 139) (q := 0) (by decide +kernel) rfl ?_
    refine z_iload_n (pc := 140) (q := 1) (by decide +kernel) rfl ?_
    refine z_iload (pc := 141) (i := 6) (by decide +kernel) rfl ?_
    refine z_callv (pc := 143) (as := [vi a1, vi a6]) ml_Mod_413 rfl ⟨rfl, by decide⟩ rfl rfl (Nat.le_of_ble_eq_true rfl) (dc := d - 1) (by omega) (by decide +kernel) (CI.z (CI.mono (fun x1 τ1 k => ?_) k))
    refine z_i2l (pc := 146) (by decide +kernel) ?_
    have hb1 := k.1
    have k := k.2
    refine z_last (pc := 147) rfl hb1 (by decide +kernel) ?_
    refine z_iinc (pc := 148) (i := 6) (n := 1) [some (vr 115), some (vi a1), o2, some (vi a3), o4, some (vi a5), some (vi (w32 (a6 + 1)))] (by decide +kernel) rfl rfl ?_
    refine z_goto (pc := 151) (off := -30) 121 (by decide +kernel) (by decide) ?_
    exact k
theorem b_Mod_look_0 {E : EN} {d : Nat} {a1 : Int} {σ : Mem} {K : Int → Mem → Prop}  (hd : 1 ≤ d) (k : CI E y_Mod_noCipher (d - 1) [vr 115, vi a1] (up σ 115 0 0) (fun x1 τ1 => (x1 = 0 → Z E y_Mod_look d 22 [some (vr 115), some (vi a1), some (vi x1), some (vi 0), some (vi 0), none, none, none, none] [] τ1 (qi K)) ∧ (x1 ≠ 0 → K x1 τ1))) :
    Z E y_Mod_look d 0 [some (vr 115), some (vi a1), none, none, none, none, none, none, none] [] σ (qi K) := by
  refine z_aload_n (pc := 0) (q := 0) (by decide +kernel) rfl ?_
  refine z_iconst (pc := 1) (n := 0) (by decide +kernel) ⟨by decide, by decide⟩ ?_
  refine z_putI (pc := 2) 0 fp_Mod_1 rfl rfl rfl (by decide +kernel) ?_
  refine z_aload_n (pc := 5) (q := 0) (by decide +kernel) rfl ?_
  refine z_iload_n (pc := 6) (q := 1) (by decide +kernel) rfl ?_
  refine z_callv (pc := 7) (as := [vi a1]) ml_Mod_420 rfl ⟨rfl, by decide⟩ rfl rfl (Nat.le_of_ble_eq_true rfl) (dc := d - 1) (by omega) (by decide +kernel) (CI.z (CI.mono (fun x1 τ1 k => ?_) k))
  refine z_istore_n (pc := 10) (q := 2) [some (vr 115), some (vi a1), some (vi x1), none, none, none, none, none, none] (by decide +kernel) (Nat.le_of_ble_eq_true rfl) rfl ?_
  refine z_iload_n (pc := 11) (q := 2) (by decide +kernel) rfl ?_
  refine z_if_eq (pc := 12) (off := 5) 17 (by decide +kernel) (by decide) ⟨fun hc => ?_, fun hc => ?_⟩
  · have k := k.1 hc
    refine z_iconst (pc := 17) (n := 0) (by decide +kernel) ⟨by decide, by decide⟩ ?_
    refine z_istore_n (pc := 18) (q := 3) [some (vr 115), some (vi a1), some (vi x1), some (vi 0), none, none, none, none, none] (by decide +kernel) (Nat.le_of_ble_eq_true rfl) rfl ?_
    refine z_iconst (pc := 19) (n := 0) (by decide +kernel) ⟨by decide, by decide⟩ ?_
    refine z_istore (pc := 20) (i := 4) [some (vr 115), some (vi a1), some (vi x1), some (vi 0), some (vi 0), none, none, none, none] (by decide +kernel) (Nat.le_of_ble_eq_true rfl) rfl ?_
    exact k
  · have k := k.2 hc
    refine z_iload_n (pc := 15) (q := 2) (by decide +kernel) rfl ?_
    exact z_iret (pc := 16) (by decide +kernel) rfl k
theorem b_Mod_look_22 {E : EN} {d : Nat} {a1 : Int} {o2 : Option AV} {a3 : Int} {a4 : Int} {o5 : Option AV} {o6 : Option AV} {o7 : Option AV} {o8 : Option AV} {σ : Mem} {K : Int → Mem → Prop}  (k : (40 ≤ a4 → Z E y_Mod_look d 46 [some (vr 115), some (vi a1), o2, some (vi a3), some (vi 0), o5, o6, o7, o8] [] σ (qi K)) ∧ (a4 < 40 → (0 ≤ a4 ∧ a4 < 40) ∧ Z E y_Mod_look d 22 [some (vr 115), some (vi a1), o2, some (vi a3), some (vi (w32 (a4 + 1))), o5, o6, o7, o8] [] (up σ 129 a4 0) (qi K))) :
    Z E y_Mod_look d 22 [some (vr 115), some (vi a1), o2, some (vi a3), some (vi a4), o5, o6, o7, o8] [] σ (qi K) := by
  refine z_iload (pc := 22) (i := 4) (by decide +kernel) rfl ?_
  refine z_bipush (pc := 24) (n := 40) (by decide +kernel) (by decide) ⟨by decide, by decide⟩ ?_
  refine z_icmp_ge (pc := 26) (off := 17) 43 (by decide +kernel) (by decide) ⟨fun hc => ?_, fun hc => ?_⟩
  · have k := k.1 hc
    refine z_iconst (pc := 43) (n := 0) (by decide +kernel) ⟨by decide, by decide⟩ ?_
    refine z_istore (pc := 44) (i := 4) [some (vr 115), some (vi a1), o2, some (vi a3), some (vi 0), o5, o6, o7, o8] (by decide +kernel) (Nat.le_of_ble_eq_true rfl) rfl ?_
    exact k
  · have k := k.2 hc
    refine z_aload_n (pc := 29) (q := 0) (by decide +kernel) rfl ?_
    refine z_getR (pc := 30) 129 fl_Mod_57 rfl rfl rfl (by decide +kernel) ?_
    refine z_iload (pc := 33) (i := 4) (by decide +kernel) rfl ?_
    refine z_iconst (pc := 35) (n := 0) (by decide +kernel) ⟨by decide, by decide⟩ ?_
    have hb1 := k.1
    have k := k.2
    refine z_iast (pc := 36) rfl hb1 (by decide +kernel) ?_
    refine z_iinc (pc := 37) (i := 4) (n := 1) [some (vr 115), some (vi a1), o2, some (vi a3), some (vi (w32 (a4 + 1))), o5, o6, o7, o8] (by decide +kernel) rfl rfl ?_
    refine z_goto (pc := 40) (off := -18) 22 (by decide +kernel) (by decide) ?_
    exact k
theorem b_Mod_look_46 {E : EN} {d : Nat} {a1 : Int} {o2 : Option AV} {a3 : Int} {a4 : Int} {o5 : Option AV} {o6 : Option AV} {o7 : Option AV} {o8 : Option AV} {σ : Mem} {K : Int → Mem → Prop}  (hd : 1 ≤ d) (k : (18278 ≤ a4 → Z E y_Mod_look d 129 [some (vr 115), some (vi a1), o2, some (vi a3), some (vi (-1)), some (vi 0), some (vi 0), o7, o8] [] σ (qi K)) ∧ (a4 < 18278 → CI E y_Mod_laysKey (d - 1) [vr 115, vi a4] σ (fun x1 τ1 => CI E y_Mod_placeOf (d - 1) [vr 115, vi a1] τ1 (fun x2 τ2 => (x2 ≠ (-1) → Z E y_Mod_look d 78 [some (vr 115), some (vi a1), none, some (vi 1), some (vi a4), some (vi 0), o6, o7, o8] [] τ2 (qi K)) ∧ (x2 = (-1) → Z E y_Mod_look d 46 [some (vr 115), some (vi a1), o2, some (vi a3), some (vi (w32 (a4 + 1))), o5, o6, o7, o8] [] τ2 (qi K)))))) :
    Z E y_Mod_look d 46 [some (vr 115), some (vi a1), o2, some (vi a3), some (vi a4), o5, o6, o7, o8] [] σ (qi K) := by
  refine z_iload (pc := 46) (i := 4) (by decide +kernel) rfl ?_
  refine z_sipush (pc := 48) (n := 18278) (by decide +kernel) (by decide) ⟨by decide, by decide⟩ ?_
  refine z_icmp_ge (pc := 51) (off := 69) 120 (by decide +kernel) (by decide) ⟨fun hc => ?_, fun hc => ?_⟩
  · have k := k.1 hc
    refine z_iconst (pc := 120) (n := -1) (by decide +kernel) ⟨by decide, by decide⟩ ?_
    refine z_istore (pc := 121) (i := 4) [some (vr 115), some (vi a1), o2, some (vi a3), some (vi (-1)), o5, o6, o7, o8] (by decide +kernel) (Nat.le_of_ble_eq_true rfl) rfl ?_
    refine z_iconst (pc := 123) (n := 0) (by decide +kernel) ⟨by decide, by decide⟩ ?_
    refine z_istore (pc := 124) (i := 5) [some (vr 115), some (vi a1), o2, some (vi a3), some (vi (-1)), some (vi 0), o6, o7, o8] (by decide +kernel) (Nat.le_of_ble_eq_true rfl) rfl ?_
    refine z_iconst (pc := 126) (n := 0) (by decide +kernel) ⟨by decide, by decide⟩ ?_
    refine z_istore (pc := 127) (i := 6) [some (vr 115), some (vi a1), o2, some (vi a3), some (vi (-1)), some (vi 0), some (vi 0), o7, o8] (by decide +kernel) (Nat.le_of_ble_eq_true rfl) rfl ?_
    exact k
  · have k := k.2 hc
    refine z_aload_n (pc := 54) (q := 0) (by decide +kernel) rfl ?_
    refine z_iload (pc := 55) (i := 4) (by decide +kernel) rfl ?_
    refine z_callv (pc := 57) (as := [vi a4]) ml_Mod_423 rfl ⟨rfl, by decide⟩ rfl rfl (Nat.le_of_ble_eq_true rfl) (dc := d - 1) (by omega) (by decide +kernel) (CI.z (CI.mono (fun x1 τ1 k => ?_) k))
    refine z_pop (pc := 60) (by decide +kernel) rfl ?_
    refine z_aload_n (pc := 61) (q := 0) (by decide +kernel) rfl ?_
    refine z_iload_n (pc := 62) (q := 1) (by decide +kernel) rfl ?_
    refine z_callv (pc := 63) (as := [vi a1]) ml_Mod_426 rfl ⟨rfl, by decide⟩ rfl rfl (Nat.le_of_ble_eq_true rfl) (dc := d - 1) (by omega) (by decide +kernel) (CI.z (CI.mono (fun x2 τ2 k => ?_) k))
    refine z_iconst (pc := 66) (n := -1) (by decide +kernel) ⟨by decide, by decide⟩ ?_
    refine z_icmp_ne (pc := 67) (off := 6) 73 (by decide +kernel) (by decide) ⟨fun hc => ?_, fun hc => ?_⟩
    · have k := k.1 hc
      refine z_iconst (pc := 73) (n := 1) (by decide +kernel) ⟨by decide, by decide⟩ ?_
      refine z_forget (pc := 74) 2 [some (vr 115), some (vi a1), none, some (vi a3), some (vi a4), o5, o6, o7, o8] rfl ?_
      refine z_istore_n (pc := 74) (q := 3) [some (vr 115), some (vi a1), none, some (vi 1), some (vi a4), o5, o6, o7, o8] (by decide +kernel) (Nat.le_of_ble_eq_true rfl) rfl ?_
      refine z_iconst (pc := 75) (n := 0) (by decide +kernel) ⟨by decide, by decide⟩ ?_
      refine z_istore (pc := 76) (i := 5) [some (vr 115), some (vi a1), none, some (vi 1), some (vi a4), some (vi 0), o6, o7, o8] (by decide +kernel) (Nat.le_of_ble_eq_true rfl) rfl ?_
      exact k
    · have k := k.2 hc
      refine z_goto (pc := 70) (off := 44) 114 (by decide +kernel) (by decide) ?_
      refine z_iinc (pc := 114) (i := 4) (n := 1) [some (vr 115), some (vi a1), o2, some (vi a3), some (vi (w32 (a4 + 1))), o5, o6, o7, o8] (by decide +kernel) rfl rfl ?_
      refine z_goto (pc := 117) (off := -71) 46 (by decide +kernel) (by decide) ?_
      exact k
theorem b_Mod_look_129 {E : EN} {d : Nat} {a1 : Int} {o2 : Option AV} {a3 : Int} {a4 : Int} {a5 : Int} {a6 : Int} {o7 : Option AV} {o8 : Option AV} {σ : Mem} {K : Int → Mem → Prop}  (k : (0 ≤ a1 ∧ a1 < 4) ∧ (σ 131 a1 ≤ a6 → K a4 σ) ∧ (a6 < σ 131 a1 → (a3 = 0 → K a4 σ) ∧ (a3 ≠ 0 → Z E y_Mod_look d 150 [some (vr 115), some (vi a1), o2, some (vi a3), some (vi a4), some (vi a5), some (vi a6), some (vi 0), some (vi 0)] [] σ (qi K)))) :
    Z E y_Mod_look d 129 [some (vr 115), some (vi a1), o2, some (vi a3), some (vi a4), some (vi a5), some (vi a6), o7, o8] [] σ (qi K) := by
  refine z_iload (pc := 129) (i := 6) (by decide +kernel) rfl ?_
  refine z_aload_n (pc := 131) (q := 0) (by decide +kernel) rfl ?_
  refine z_getR (pc := 132) 131 fl_Mod_63 rfl rfl rfl (by decide +kernel) ?_
  refine z_iload_n (pc := 135) (q := 1) (by decide +kernel) rfl ?_
  have hb1 := k.1
  have k := k.2
  refine z_iald (pc := 136) rfl hb1 (by decide +kernel) ?_
  refine z_icmp_ge (pc := 137) (off := 67) 204 (by decide +kernel) (by decide) ⟨fun hc => ?_, fun hc => ?_⟩
  · have k := k.1 hc
    refine z_iload (pc := 204) (i := 4) (by decide +kernel) rfl ?_
    exact z_iret (pc := 206) (by decide +kernel) rfl k
  · have k := k.2 hc
    refine z_iload_n (pc := 140) (q := 3) (by decide +kernel) rfl ?_
    refine z_if_eq (pc := 141) (off := 63) 204 (by decide +kernel) (by decide) ⟨fun hc => ?_, fun hc => ?_⟩
    · have k := k.1 hc
      refine z_iload (pc := 204) (i := 4) (by decide +kernel) rfl ?_
      exact z_iret (pc := 206) (by decide +kernel) rfl k
    · have k := k.2 hc
      refine z_iconst (pc := 144) (n := 0) (by decide +kernel) ⟨by decide, by decide⟩ ?_
      refine z_istore (pc := 145) (i := 7) [some (vr 115), some (vi a1), o2, some (vi a3), some (vi a4), some (vi a5), some (vi a6), some (vi 0), o8] (by decide +kernel) (Nat.le_of_ble_eq_true rfl) rfl ?_
      refine z_iconst (pc := 147) (n := 0) (by decide +kernel) ⟨by decide, by decide⟩ ?_
      refine z_istore (pc := 148) (i := 8) [some (vr 115), some (vi a1), o2, some (vi a3), some (vi a4), some (vi a5), some (vi a6), some (vi 0), some (vi 0)] (by decide +kernel) (Nat.le_of_ble_eq_true rfl) rfl ?_
      exact k
theorem b_Mod_look_78 {E : EN} {d : Nat} {a1 : Int} {o2 : Option AV} {a3 : Int} {a4 : Int} {a5 : Int} {o6 : Option AV} {o7 : Option AV} {o8 : Option AV} {σ : Mem} {K : Int → Mem → Prop}  (hd : 1 ≤ d) (k : (0 ≤ a1 ∧ a1 < 4) ∧ (σ 131 a1 ≤ a5 → Z E y_Mod_look d 46 [some (vr 115), some (vi a1), o2, some (vi a3), some (vi (w32 (a4 + 1))), some (vi a5), o6, o7, o8] [] σ (qi K)) ∧ (a5 < σ 131 a1 → (0 ≤ a5 ∧ a5 < 40) ∧ CI E y_Mod_plainAt (d - 1) [vr 115, vi a1, vi a5] σ (fun x1 τ1 => Z E y_Mod_look d 78 [some (vr 115), some (vi a1), o2, some (vi a3), some (vi a4), some (vi (w32 (a5 + 1))), o6, o7, o8] [] (up τ1 129 a5 (ior (σ 129 a5) (ish 1 x1))) (qi K)))) :
    Z E y_Mod_look d 78 [some (vr 115), some (vi a1), o2, some (vi a3), some (vi a4), some (vi a5), o6, o7, o8] [] σ (qi K) := by
  refine z_iload (pc := 78) (i := 5) (by decide +kernel) rfl ?_
  refine z_aload_n (pc := 80) (q := 0) (by decide +kernel) rfl ?_
  refine z_getR (pc := 81) 131 fl_Mod_63 rfl rfl rfl (by decide +kernel) ?_
  refine z_iload_n (pc := 84) (q := 1) (by decide +kernel) rfl ?_
  have hb1 := k.1
  have k := k.2
  refine z_iald (pc := 85) rfl hb1 (by decide +kernel) ?_
  refine z_icmp_ge (pc := 86) (off := 28) 114 (by decide +kernel) (by decide) ⟨fun hc => ?_, fun hc => ?_⟩
  · have k := k.1 hc
    refine z_iinc (pc := 114) (i := 4) (n := 1) [some (vr 115), some (vi a1), o2, some (vi a3), some (vi (w32 (a4 + 1))), some (vi a5), o6, o7, o8] (by decide +kernel) rfl rfl ?_
    refine z_goto (pc := 117) (off := -71) 46 (by decide +kernel) (by decide) ?_
    exact k
  · have k := k.2 hc
    refine z_aload_n (pc := 89) (q := 0) (by decide +kernel) rfl ?_
    refine z_getR (pc := 90) 129 fl_Mod_57 rfl rfl rfl (by decide +kernel) ?_
    refine z_iload (pc := 93) (i := 5) (by decide +kernel) rfl ?_
    refine z_dup2 (pc := 95) (by decide +kernel) rfl rfl ?_
    have hb2 := k.1
    have k := k.2
    refine z_iald (pc := 96) rfl hb2 (by decide +kernel) ?_
    refine z_iconst (pc := 97) (n := 1) (by decide +kernel) ⟨by decide, by decide⟩ ?_
    refine z_aload_n (pc := 98) (q := 0) (by decide +kernel) rfl ?_
    refine z_iload_n (pc := 99) (q := 1) (by decide +kernel) rfl ?_
    refine z_iload (pc := 100) (i := 5) (by decide +kernel) rfl ?_
    refine z_callv (pc := 102) (as := [vi a1, vi a5]) ml_Mod_413 rfl ⟨rfl, by decide⟩ rfl rfl (Nat.le_of_ble_eq_true rfl) (dc := d - 1) (by omega) (by decide +kernel) (CI.z (CI.mono (fun x1 τ1 k => ?_) k))
    refine z_ishl (pc := 105) (by decide +kernel) ?_
    refine z_ior (pc := 106) (by decide +kernel) ?_
    refine z_iast (pc := 107) rfl hb2 (by decide +kernel) ?_
    refine z_iinc (pc := 108) (i := 5) (n := 1) [some (vr 115), some (vi a1), o2, some (vi a3), some (vi a4), some (vi (w32 (a5 + 1))), o6, o7, o8] (by decide +kernel) rfl rfl ?_
    refine z_goto (pc := 111) (off := -33) 78 (by decide +kernel) (by decide) ?_
    exact k
theorem b_Mod_look_150 {E : EN} {d : Nat} {a1 : Int} {o2 : Option AV} {a3 : Int} {a4 : Int} {a5 : Int} {a6 : Int} {a7 : Int} {a8 : Int} {σ : Mem} {K : Int → Mem → Prop}  (k : (26 ≤ a8 → (a5 < a7 → Z E y_Mod_look d 129 [some (vr 115), some (vi a1), o2, some (vi a3), some (vi a6), some (vi a7), some (vi (w32 (a6 + 1))), some (vi a7), some (vi a8)] [] σ (qi K)) ∧ (a7 ≤ a5 → Z E y_Mod_look d 129 [some (vr 115), some (vi a1), o2, some (vi a3), some (vi a4), some (vi a5), some (vi (w32 (a6 + 1))), some (vi a7), some (vi a8)] [] σ (qi K))) ∧ (a8 < 26 → (0 ≤ a6 ∧ a6 < 40) ∧ Z E y_Mod_look d 150 [some (vr 115), some (vi a1), o2, some (vi a3), some (vi a4), some (vi a5), some (vi a6), some (vi (w32 (a7 + (ian (isr (σ 129 a6) a8) 1)))), some (vi (w32 (a8 + 1)))] [] σ (qi K))) :
    Z E y_Mod_look d 150 [some (vr 115), some (vi a1), o2, some (vi a3), some (vi a4), some (vi a5), some (vi a6), some (vi a7), some (vi a8)] [] σ (qi K) := by
  refine z_iload (pc := 150) (i := 8) (by decide +kernel) rfl ?_
  refine z_bipush (pc := 152) (n := 26) (by decide +kernel) (by decide) ⟨by decide, by decide⟩ ?_
  refine z_icmp_ge (pc := 154) (off := 26) 180 (by decide +kernel) (by decide) ⟨fun hc => ?_, fun hc => ?_⟩
  · have k := k.1 hc
    refine z_iload (pc := 180) (i := 7) (by decide +kernel) rfl ?_
    refine z_iload (pc := 182) (i := 5) (by decide +kernel) rfl ?_
    refine z_icmp_gt (pc := 184) (off := 6) 190 (by decide +kernel) (by decide) ⟨fun hc => ?_, fun hc => ?_⟩
    · have k := k.1 hc
      refine z_iload (pc := 190) (i := 6) (by decide +kernel) rfl ?_
      refine z_istore (pc := 192) (i := 4) [some (vr 115), some (vi a1), o2, some (vi a3), some (vi a6), some (vi a5), some (vi a6), some (vi a7), some (vi a8)] (by decide +kernel) (Nat.le_of_ble_eq_true rfl) rfl ?_
      refine z_iload (pc := 194) (i := 7) (by decide +kernel) rfl ?_
      refine z_istore (pc := 196) (i := 5) [some (vr 115), some (vi a1), o2, some (vi a3), some (vi a6), some (vi a7), some (vi a6), some (vi a7), some (vi a8)] (by decide +kernel) (Nat.le_of_ble_eq_true rfl) rfl ?_
      refine z_iinc (pc := 198) (i := 6) (n := 1) [some (vr 115), some (vi a1), o2, some (vi a3), some (vi a6), some (vi a7), some (vi (w32 (a6 + 1))), some (vi a7), some (vi a8)] (by decide +kernel) rfl rfl ?_
      refine z_goto (pc := 201) (off := -72) 129 (by decide +kernel) (by decide) ?_
      exact k
    · have k := k.2 hc
      refine z_goto (pc := 187) (off := 11) 198 (by decide +kernel) (by decide) ?_
      refine z_iinc (pc := 198) (i := 6) (n := 1) [some (vr 115), some (vi a1), o2, some (vi a3), some (vi a4), some (vi a5), some (vi (w32 (a6 + 1))), some (vi a7), some (vi a8)] (by decide +kernel) rfl rfl ?_
      refine z_goto (pc := 201) (off := -72) 129 (by decide +kernel) (by decide) ?_
      exact k
  · have k := k.2 hc
    refine z_iload (pc := 157) (i := 7) (by decide +kernel) rfl ?_
    refine z_aload_n (pc := 159) (q := 0) (by decide +kernel) rfl ?_
    refine z_getR (pc := 160) 129 fl_Mod_57 rfl rfl rfl (by decide +kernel) ?_
    refine z_iload (pc := 163) (i := 6) (by decide +kernel) rfl ?_
    have hb1 := k.1
    have k := k.2
    refine z_iald (pc := 165) rfl hb1 (by decide +kernel) ?_
    refine z_iload (pc := 166) (i := 8) (by decide +kernel) rfl ?_
    refine z_ishr (pc := 168) (by decide +kernel) ?_
    refine z_iconst (pc := 169) (n := 1) (by decide +kernel) ⟨by decide, by decide⟩ ?_
    refine z_iand (pc := 170) (by decide +kernel) ?_
    refine z_iadd (pc := 171) (by decide +kernel) ?_
    refine z_istore (pc := 172) (i := 7) [some (vr 115), some (vi a1), o2, some (vi a3), some (vi a4), some (vi a5), some (vi a6), some (vi (w32 (a7 + (ian (isr (σ 129 a6) a8) 1)))), some (vi a8)] (by decide +kernel) (Nat.le_of_ble_eq_true rfl) rfl ?_
    refine z_iinc (pc := 174) (i := 8) (n := 1) [some (vr 115), some (vi a1), o2, some (vi a3), some (vi a4), some (vi a5), some (vi a6), some (vi (w32 (a7 + (ian (isr (σ 129 a6) a8) 1)))), some (vi (w32 (a8 + 1)))] (by decide +kernel) rfl rfl ?_
    refine z_goto (pc := 177) (off := -27) 150 (by decide +kernel) (by decide) ?_
    exact k
theorem b_Mod_cut_0 {E : EN} {d : Nat} {b0 : Int} {a2 : Int} {σ : Mem} {K : Int → Mem → Prop}  (k : (a2 ≠ 0 → (a2 ≠ 1 → (a2 ≠ 2 → K b0 σ) ∧ (a2 = 2 → K (w32 b0) σ)) ∧ (a2 = 1 → K (w16 (w32 b0)) σ)) ∧ (a2 = 0 → K (w8 (w32 b0)) σ)) :
    Z E y_Mod_cut d 0 [some (vl b0), none, some (vi a2)] [] σ (ql K) := by
  refine z_iload_n (pc := 0) (q := 2) (by decide +kernel) rfl ?_
  refine z_if_ne (pc := 1) (off := 10) 11 (by decide +kernel) (by decide) ⟨fun hc => ?_, fun hc => ?_⟩
  · have k := k.1 hc
    refine z_iload_n (pc := 11) (q := 2) (by decide +kernel) rfl ?_
    refine z_iconst (pc := 12) (n := 1) (by decide +kernel) ⟨by decide, by decide⟩ ?_
    refine z_icmp_ne (pc := 13) (off := 10) 23 (by decide +kernel) (by decide) ⟨fun hc => ?_, fun hc => ?_⟩
    · have k := k.1 hc
      refine z_iload_n (pc := 23) (q := 2) (by decide +kernel) rfl ?_
      refine z_iconst (pc := 24) (n := 2) (by decide +kernel) ⟨by decide, by decide⟩ ?_
      refine z_icmp_ne (pc := 25) (off := 9) 34 (by decide +kernel) (by decide) ⟨fun hc => ?_, fun hc => ?_⟩
      · have k := k.1 hc
        refine z_lload_n (pc := 34) (q := 0) (by decide +kernel) rfl ?_
        exact z_lret (pc := 35) (by decide +kernel) rfl k
      · have k := k.2 hc
        refine z_lload_n (pc := 28) (q := 0) (by decide +kernel) rfl ?_
        refine z_l2i (pc := 29) (by decide +kernel) ?_
        refine z_i2l (pc := 30) (by decide +kernel) ?_
        refine z_goto (pc := 31) (off := 4) 35 (by decide +kernel) (by decide) ?_
        exact z_lret (pc := 35) (by decide +kernel) rfl k
    · have k := k.2 hc
      refine z_lload_n (pc := 16) (q := 0) (by decide +kernel) rfl ?_
      refine z_l2i (pc := 17) (by decide +kernel) ?_
      refine z_i2s (pc := 18) (by decide +kernel) ?_
      refine z_i2l (pc := 19) (by decide +kernel) ?_
      refine z_goto (pc := 20) (off := 15) 35 (by decide +kernel) (by decide) ?_
      exact z_lret (pc := 35) (by decide +kernel) rfl k
  · have k := k.2 hc
    refine z_lload_n (pc := 4) (q := 0) (by decide +kernel) rfl ?_
    refine z_l2i (pc := 5) (by decide +kernel) ?_
    refine z_i2b (pc := 6) (by decide +kernel) ?_
    refine z_i2l (pc := 7) (by decide +kernel) ?_
    refine z_goto (pc := 8) (off := 27) 35 (by decide +kernel) (by decide) ?_
    exact z_lret (pc := 35) (by decide +kernel) rfl k
theorem b_Mod_numbers_0 {E : EN} {d : Nat} {a1 : Int} {a2 : Int} {a3 : Int} {σ : Mem} {K : Int → Mem → Prop}  (hd : 1 ≤ d) (k : CI E y_Mod_within (d - 1) [vl a1, vl 0, vl 3] (up σ 115 0 0) (fun x1 τ1 => (x1 = 0 → K (-2) τ1) ∧ (x1 ≠ 0 → CI E y_Mod_within (d - 1) [vl a2, vl 0, vl 3] τ1 (fun x2 τ2 => (x2 ≠ 0 → CI E y_Mod_within (d - 1) [vl a3, vl 0, vl 40] τ2 (fun x3 τ3 => (x3 ≠ 0 → (0 ≤ a1 ∧ a1 < 4) ∧ Z E y_Mod_numbers d 64 [some (vr 115), some (vi a1), some (vi a2), some (vi a3), some (vi 0)] [] (up (up τ3 130 a1 a2) 131 a1 a3) (qi K)) ∧ (x3 = 0 → K (-3) τ3))) ∧ (x2 = 0 → K (-2) τ2))))) :
    Z E y_Mod_numbers d 0 [some (vr 115), some (vi a1), some (vi a2), some (vi a3), none] [] σ (qi K) := by
  refine z_aload_n (pc := 0) (q := 0) (by decide +kernel) rfl ?_
  refine z_iconst (pc := 1) (n := 0) (by decide +kernel) ⟨by decide, by decide⟩ ?_
  refine z_putI (pc := 2) 0 fp_Mod_1 rfl rfl rfl (by decide +kernel) ?_
  refine z_iload_n (pc := 5) (q := 1) (by decide +kernel) rfl ?_
  refine z_i2l (pc := 6) (by decide +kernel) ?_
  refine z_lconst (pc := 7) (n := 0) 0 (by decide +kernel) (by decide) ⟨by decide, by decide⟩ ?_
  refine z_ldc2 (pc := 8) (index := 287) 3 (mm7 215 rfl) ⟨by decide, by decide⟩ (by decide +kernel) ?_
  refine z_calls (pc := 11) (as := [vl a1, vl 0, vl 3]) ml_Mod_136 rfl rfl (Nat.le_of_ble_eq_true rfl) (dc := d - 1) (by omega) (by decide +kernel) (CI.z (CI.mono (fun x1 τ1 k => ?_) k))
  refine z_if_eq (pc := 14) (off := 15) 29 (by decide +kernel) (by decide) ⟨fun hc => ?_, fun hc => ?_⟩
  · have k := k.1 hc
    refine z_bipush (pc := 29) (n := -2) (by decide +kernel) (by decide) ⟨by decide, by decide⟩ ?_
    exact z_iret (pc := 31) (by decide +kernel) rfl k
  · have k := k.2 hc
    refine z_iload_n (pc := 17) (q := 2) (by decide +kernel) rfl ?_
    refine z_i2l (pc := 18) (by decide +kernel) ?_
    refine z_lconst (pc := 19) (n := 0) 0 (by decide +kernel) (by decide) ⟨by decide, by decide⟩ ?_
    refine z_ldc2 (pc := 20) (index := 287) 3 (mm7 215 rfl) ⟨by decide, by decide⟩ (by decide +kernel) ?_
    refine z_calls (pc := 23) (as := [vl a2, vl 0, vl 3]) ml_Mod_136 rfl rfl (Nat.le_of_ble_eq_true rfl) (dc := d - 1) (by omega) (by decide +kernel) (CI.z (CI.mono (fun x2 τ2 k => ?_) k))
    refine z_if_ne (pc := 26) (off := 6) 32 (by decide +kernel) (by decide) ⟨fun hc => ?_, fun hc => ?_⟩
    · have k := k.1 hc
      refine z_iload_n (pc := 32) (q := 3) (by decide +kernel) rfl ?_
      refine z_i2l (pc := 33) (by decide +kernel) ?_
      refine z_lconst (pc := 34) (n := 0) 0 (by decide +kernel) (by decide) ⟨by decide, by decide⟩ ?_
      refine z_ldc2 (pc := 35) (index := 416) 40 (mm8 202 rfl) ⟨by decide, by decide⟩ (by decide +kernel) ?_
      refine z_calls (pc := 38) (as := [vl a3, vl 0, vl 40]) ml_Mod_136 rfl rfl (Nat.le_of_ble_eq_true rfl) (dc := d - 1) (by omega) (by decide +kernel) (CI.z (CI.mono (fun x3 τ3 k => ?_) k))
      refine z_if_ne (pc := 41) (off := 6) 47 (by decide +kernel) (by decide) ⟨fun hc => ?_, fun hc => ?_⟩
      · have k := k.1 hc
        refine z_aload_n (pc := 47) (q := 0) (by decide +kernel) rfl ?_
        refine z_getR (pc := 48) 130 fl_Mod_60 rfl rfl rfl (by decide +kernel) ?_
        refine z_iload_n (pc := 51) (q := 1) (by decide +kernel) rfl ?_
        refine z_iload_n (pc := 52) (q := 2) (by decide +kernel) rfl ?_
        have hb1 := k.1
        have k := k.2
        refine z_iast (pc := 53) rfl hb1 (by decide +kernel) ?_
        refine z_aload_n (pc := 54) (q := 0) (by decide +kernel) rfl ?_
        refine z_getR (pc := 55) 131 fl_Mod_63 rfl rfl rfl (by decide +kernel) ?_
        refine z_iload_n (pc := 58) (q := 1) (by decide +kernel) rfl ?_
        refine z_iload_n (pc := 59) (q := 3) (by decide +kernel) rfl ?_
        refine z_iast (pc := 60) rfl hb1 (by decide +kernel) ?_
        refine z_iconst (pc := 61) (n := 0) (by decide +kernel) ⟨by decide, by decide⟩ ?_
        refine z_istore (pc := 62) (i := 4) [some (vr 115), some (vi a1), some (vi a2), some (vi a3), some (vi 0)] (by decide +kernel) (Nat.le_of_ble_eq_true rfl) rfl ?_
        exact k
      · have k := k.2 hc
        refine z_bipush (pc := 44) (n := -3) (by decide +kernel) (by decide) ⟨by decide, by decide⟩ ?_
        exact z_iret (pc := 46) (by decide +kernel) rfl k
    · have k := k.2 hc
      refine z_bipush (pc := 29) (n := -2) (by decide +kernel) (by decide) ⟨by decide, by decide⟩ ?_
      exact z_iret (pc := 31) (by decide +kernel) rfl k
theorem b_Mod_numbers_64 {E : EN} {d : Nat} {a1 : Int} {a2 : Int} {a3 : Int} {o2 : Option AV} {a4 : Int} {σ : Mem} {K : Int → Mem → Prop}  (k : (a3 ≤ a4 → K 0 σ) ∧ (a4 < a3 → (0 ≤ w32 ((w32 (40 * a1)) + a4) ∧ w32 ((w32 (40 * a1)) + a4) < 160) ∧ Z E y_Mod_numbers d 64 [some (vr 115), some (vi a1), o2, some (vi a3), some (vi (w32 (a4 + 1)))] [] (up σ 132 (w32 ((w32 (40 * a1)) + a4)) 0) (qi K))) :
    Z E y_Mod_numbers d 64 [some (vr 115), some (vi a1), o2, some (vi a3), some (vi a4)] [] σ (qi K) := by
  refine z_iload (pc := 64) (i := 4) (by decide +kernel) rfl ?_
  refine z_iload_n (pc := 66) (q := 3) (by decide +kernel) rfl ?_
  refine z_icmp_ge (pc := 67) (off := 22) 89 (by decide +kernel) (by decide) ⟨fun hc => ?_, fun hc => ?_⟩
  · have k := k.1 hc
    refine z_iconst (pc := 89) (n := 0) (by decide +kernel) ⟨by decide, by decide⟩ ?_
    exact z_iret (pc := 90) (by decide +kernel) rfl k
  · have k := k.2 hc
    refine z_aload_n (pc := 70) (q := 0) (by decide +kernel) rfl ?_
    refine z_getR (pc := 71) 132 fl_Mod_66 rfl rfl rfl (by decide +kernel) ?_
    refine z_bipush (pc := 74) (n := 40) (by decide +kernel) (by decide) ⟨by decide, by decide⟩ ?_
    refine z_iload_n (pc := 76) (q := 1) (by decide +kernel) rfl ?_
    refine z_imul (pc := 77) (by decide +kernel) ?_
    refine z_iload (pc := 78) (i := 4) (by decide +kernel) rfl ?_
    refine z_iadd (pc := 80) (by decide +kernel) ?_
    refine z_lconst (pc := 81) (n := 0) 0 (by decide +kernel) (by decide) ⟨by decide, by decide⟩ ?_
    have hb1 := k.1
    have k := k.2
    refine z_last (pc := 82) rfl hb1 (by decide +kernel) ?_
    refine z_iinc (pc := 83) (i := 4) (n := 1) [some (vr 115), some (vi a1), o2, some (vi a3), some (vi (w32 (a4 + 1)))] (by decide +kernel) rfl rfl ?_
    refine z_goto (pc := 86) (off := -22) 64 (by decide +kernel) (by decide) ?_
    exact k
theorem b_Mod_write_0 {E : EN} {d : Nat} {a1 : Int} {a2 : Int} {b3 : Int} {σ : Mem} {K : Int → Mem → Prop}  (hd : 1 ≤ d) (k : CI E y_Mod_noTray (d - 1) [vr 115, vi a1] (up σ 115 0 0) (fun x1 τ1 => (x1 = 0 → (0 ≤ a1 ∧ a1 < 4) ∧ CI E y_Mod_within (d - 1) [vl a2, vl 0, vl (w32 ((τ1 131 a1) - 1))] τ1 (fun x2 τ2 => (x2 ≠ 0 → CL E y_Mod_cut (d - 1) [vl b3, vi (τ2 130 a1)] τ2 (fun x3 τ3 => (0 ≤ w32 ((w32 (40 * a1)) + a2) ∧ w32 ((w32 (40 * a1)) + a2) < 160) ∧ K x3 (up τ3 132 (w32 ((w32 (40 * a1)) + a2)) x3))) ∧ (x2 = 0 → K (-7) τ2))) ∧ (x1 ≠ 0 → K x1 τ1))) :
    Z E y_Mod_write d 0 [some (vr 115), some (vi a1), some (vi a2), some (vl b3), none, none] [] σ (ql K) := by
  refine z_aload_n (pc := 0) (q := 0) (by decide +kernel) rfl ?_
  refine z_iconst (pc := 1) (n := 0) (by decide +kernel) ⟨by decide, by decide⟩ ?_
  refine z_putI (pc := 2) 0 fp_Mod_1 rfl rfl rfl (by decide +kernel) ?_
  refine z_aload_n (pc := 5) (q := 0) (by decide +kernel) rfl ?_
  refine z_iload_n (pc := 6) (q := 1) (by decide +kernel) rfl ?_
  refine z_callv (pc := 7) (as := [vi a1]) ml_Mod_296 rfl ⟨rfl, by decide⟩ rfl rfl (Nat.le_of_ble_eq_true rfl) (dc := d - 1) (by omega) (by decide +kernel) (CI.z (CI.mono (fun x1 τ1 k => ?_) k))
  refine z_istore (pc := 10) (i := 5) [some (vr 115), some (vi a1), some (vi a2), some (vl b3), none, some (vi x1)] (by decide +kernel) (Nat.le_of_ble_eq_true rfl) rfl ?_
  refine z_iload (pc := 12) (i := 5) (by decide +kernel) rfl ?_
  refine z_if_eq (pc := 14) (off := 7) 21 (by decide +kernel) (by decide) ⟨fun hc => ?_, fun hc => ?_⟩
  · have k := k.1 hc
    refine z_iload_n (pc := 21) (q := 2) (by decide +kernel) rfl ?_
    refine z_i2l (pc := 22) (by decide +kernel) ?_
    refine z_lconst (pc := 23) (n := 0) 0 (by decide +kernel) (by decide) ⟨by decide, by decide⟩ ?_
    refine z_aload_n (pc := 24) (q := 0) (by decide +kernel) rfl ?_
    refine z_getR (pc := 25) 131 fl_Mod_63 rfl rfl rfl (by decide +kernel) ?_
    refine z_iload_n (pc := 28) (q := 1) (by decide +kernel) rfl ?_
    have hb1 := k.1
    have k := k.2
    refine z_iald (pc := 29) rfl hb1 (by decide +kernel) ?_
    refine z_iconst (pc := 30) (n := 1) (by decide +kernel) ⟨by decide, by decide⟩ ?_
    refine z_isub (pc := 31) (by decide +kernel) ?_
    refine z_i2l (pc := 32) (by decide +kernel) ?_
    refine z_calls (pc := 33) (as := [vl a2, vl 0, vl (w32 ((τ1 131 a1) - 1))]) ml_Mod_136 rfl rfl (Nat.le_of_ble_eq_true rfl) (dc := d - 1) (by omega) (by decide +kernel) (CI.z (CI.mono (fun x2 τ2 k => ?_) k))
    refine z_if_ne (pc := 36) (off := 7) 43 (by decide +kernel) (by decide) ⟨fun hc => ?_, fun hc => ?_⟩
    · have k := k.1 hc
      refine z_aload_n (pc := 43) (q := 0) (by decide +kernel) rfl ?_
      refine z_getR (pc := 44) 132 fl_Mod_66 rfl rfl rfl (by decide +kernel) ?_
      refine z_bipush (pc := 47) (n := 40) (by decide +kernel) (by decide) ⟨by decide, by decide⟩ ?_
      refine z_iload_n (pc := 49) (q := 1) (by decide +kernel) rfl ?_
      refine z_imul (pc := 50) (by decide +kernel) ?_
      refine z_iload_n (pc := 51) (q := 2) (by decide +kernel) rfl ?_
      refine z_iadd (pc := 52) (by decide +kernel) ?_
      refine z_lload_n (pc := 53) (q := 3) (by decide +kernel) rfl ?_
      refine z_aload_n (pc := 54) (q := 0) (by decide +kernel) rfl ?_
      refine z_getR (pc := 55) 130 fl_Mod_60 rfl rfl rfl (by decide +kernel) ?_
      refine z_iload_n (pc := 58) (q := 1) (by decide +kernel) rfl ?_
      refine z_iald (pc := 59) rfl hb1 (by decide +kernel) ?_
      refine z_calls (pc := 60) (as := [vl b3, vi (τ2 130 a1)]) ml_Mod_436 rfl rfl (Nat.le_of_ble_eq_true rfl) (dc := d - 1) (by omega) (by decide +kernel) (CL.z (CL.mono (fun x3 τ3 k => ?_) k))
      have hb2 := k.1
      have k := k.2
      refine z_last (pc := 63) rfl hb2 (by decide +kernel) ?_
      refine z_aload_n (pc := 64) (q := 0) (by decide +kernel) rfl ?_
      refine z_getR (pc := 65) 132 fl_Mod_66 rfl rfl rfl (by decide +kernel) ?_
      refine z_bipush (pc := 68) (n := 40) (by decide +kernel) (by decide) ⟨by decide, by decide⟩ ?_
      refine z_iload_n (pc := 70) (q := 1) (by decide +kernel) rfl ?_
      refine z_imul (pc := 71) (by decide +kernel) ?_
      refine z_iload_n (pc := 72) (q := 2) (by decide +kernel) rfl ?_
      refine z_iadd (pc := 73) (by decide +kernel) ?_
      refine z_lald (pc := 74) rfl hb2 (by decide +kernel) ?_
      refine z_topL (up_same _ _ _ _) ?_
      exact z_lret (pc := 75) (by decide +kernel) rfl k
    · have k := k.2 hc
      refine z_ldc2 (pc := 39) (index := 434) (-7) (mm9 5 rfl) ⟨by decide, by decide⟩ (by decide +kernel) ?_
      exact z_lret (pc := 42) (by decide +kernel) rfl k
  · have k := k.2 hc
    refine z_iload (pc := 17) (i := 5) (by decide +kernel) rfl ?_
    refine z_i2l (pc := 19) (by decide +kernel) ?_
    exact z_lret (pc := 20) (by decide +kernel) rfl k
theorem b_Mod_lists_0 {E : EN} {d : Nat} {a1 : Int} {σ : Mem} {K : Int → Mem → Prop}  (hd : 1 ≤ d) (k : CI E y_Mod_noTray (d - 1) [vr 115, vi a1] (up σ 115 0 0) (fun x1 τ1 => (x1 = 0 → CV E y_Mod_laysNow (d - 1) [vr 115] τ1 (fun τ2 => (0 ≤ a1 ∧ a1 < 4) ∧ (τ2 131 a1 ≤ τ2 115 27 → Z E y_Mod_lists d 51 [some (vr 115), some (vi a1), some (vi x1), some (vi (τ2 131 a1)), some (vi 0)] [] τ2 (qi K)) ∧ (τ2 115 27 < τ2 131 a1 → Z E y_Mod_lists d 51 [some (vr 115), some (vi a1), some (vi x1), some (vi (τ2 115 27)), some (vi 0)] [] τ2 (qi K)))) ∧ (x1 ≠ 0 → K x1 τ1))) :
    Z E y_Mod_lists d 0 [some (vr 115), some (vi a1), none, none, none] [] σ (qi K) := by
  refine z_aload_n (pc := 0) (q := 0) (by decide +kernel) rfl ?_
  refine z_iconst (pc := 1) (n := 0) (by decide +kernel) ⟨by decide, by decide⟩ ?_
  refine z_putI (pc := 2) 0 fp_Mod_1 rfl rfl rfl (by decide +kernel) ?_
  refine z_aload_n (pc := 5) (q := 0) (by decide +kernel) rfl ?_
  refine z_iload_n (pc := 6) (q := 1) (by decide +kernel) rfl ?_
  refine z_callv (pc := 7) (as := [vi a1]) ml_Mod_296 rfl ⟨rfl, by decide⟩ rfl rfl (Nat.le_of_ble_eq_true rfl) (dc := d - 1) (by omega) (by decide +kernel) (CI.z (CI.mono (fun x1 τ1 k => ?_) k))
  refine z_istore_n (pc := 10) (q := 2) [some (vr 115), some (vi a1), some (vi x1), none, none] (by decide +kernel) (Nat.le_of_ble_eq_true rfl) rfl ?_
  refine z_iload_n (pc := 11) (q := 2) (by decide +kernel) rfl ?_
  refine z_if_eq (pc := 12) (off := 5) 17 (by decide +kernel) (by decide) ⟨fun hc => ?_, fun hc => ?_⟩
  · have k := k.1 hc
    refine z_aload_n (pc := 17) (q := 0) (by decide +kernel) rfl ?_
    refine z_callv (pc := 18) (as := []) ml_Mod_361 rfl ⟨rfl, by decide⟩ rfl rfl (Nat.le_of_ble_eq_true rfl) (dc := d - 1) (by omega) (by decide +kernel) (CV.z (CV.mono (fun τ2 k => ?_) k))
    refine z_aload_n (pc := 21) (q := 0) (by decide +kernel) rfl ?_
    refine z_getI (pc := 22) 27 fl_Mod_336 rfl (by decide) rfl (by decide +kernel) ?_
    refine z_aload_n (pc := 25) (q := 0) (by decide +kernel) rfl ?_
    refine z_getR (pc := 26) 131 fl_Mod_63 rfl rfl rfl (by decide +kernel) ?_
    refine z_iload_n (pc := 29) (q := 1) (by decide +kernel) rfl ?_
    have hb1 := k.1
    have k := k.2
    refine z_iald (pc := 30) rfl hb1 (by decide +kernel) ?_
    refine z_icmp_ge (pc := 31) (off := 10) 41 (by decide +kernel) (by decide) ⟨fun hc => ?_, fun hc => ?_⟩
    · have k := k.1 hc
      refine z_aload_n (pc := 41) (q := 0) (by decide +kernel) rfl ?_
      refine z_getR (pc := 42) 131 fl_Mod_63 rfl rfl rfl (by decide +kernel) ?_
      refine z_iload_n (pc := 45) (q := 1) (by decide +kernel) rfl ?_
      refine z_iald (pc := 46) rfl hb1 (by decide +kernel) ?_
      refine z_istore_n (pc := 47) (q := 3) [some (vr 115), some (vi a1), some (vi x1), some (vi (τ2 131 a1)), none] (by decide +kernel) (Nat.le_of_ble_eq_true rfl) rfl ?_
      refine z_iconst (pc := 48) (n := 0) (by decide +kernel) ⟨by decide, by decide⟩ ?_
      refine z_istore (pc := 49) (i := 4) [some (vr 115), some (vi a1), some (vi x1), some (vi (τ2 131 a1)), some (vi 0)] (by decide +kernel) (Nat.le_of_ble_eq_true rfl) rfl ?_
      exact k
    · have k := k.2 hc
      refine z_aload_n (pc := 34) (q := 0) (by decide +kernel) rfl ?_
      refine z_getI (pc := 35) 27 fl_Mod_336 rfl (by decide) rfl (by decide +kernel) ?_
      refine z_goto (pc := 38) (off := 9) 47 (by decide +kernel) (by decide) ?_
      refine z_istore_n (pc := 47) (q := 3) [some (vr 115), some (vi a1), some (vi x1), some (vi (τ2 115 27)), none] (by decide +kernel) (Nat.le_of_ble_eq_true rfl) rfl ?_
      refine z_iconst (pc := 48) (n := 0) (by decide +kernel) ⟨by decide, by decide⟩ ?_
      refine z_istore (pc := 49) (i := 4) [some (vr 115), some (vi a1), some (vi x1), some (vi (τ2 115 27)), some (vi 0)] (by decide +kernel) (Nat.le_of_ble_eq_true rfl) rfl ?_
      exact k
  · have k := k.2 hc
    refine z_iload_n (pc := 15) (q := 2) (by decide +kernel) rfl ?_
    exact z_iret (pc := 16) (by decide +kernel) rfl k
theorem b_Mod_lists_51 {E : EN} {d : Nat} {a1 : Int} {o2 : Option AV} {a3 : Int} {a4 : Int} {σ : Mem} {K : Int → Mem → Prop}  (k : (a3 ≤ a4 → K a3 σ) ∧ (a4 < a3 → (0 ≤ a4 ∧ a4 < 6) ∧ (0 ≤ w32 ((w32 (40 * a1)) + a4) ∧ w32 ((w32 (40 * a1)) + a4) < 160) ∧ Z E y_Mod_lists d 51 [some (vr 115), some (vi a1), o2, some (vi a3), some (vi (w32 (a4 + 1)))] [] (up σ 132 (w32 ((w32 (40 * a1)) + a4)) (σ 127 a4)) (qi K))) :
    Z E y_Mod_lists d 51 [some (vr 115), some (vi a1), o2, some (vi a3), some (vi a4)] [] σ (qi K) := by
  refine z_iload (pc := 51) (i := 4) (by decide +kernel) rfl ?_
  refine z_iload_n (pc := 53) (q := 3) (by decide +kernel) rfl ?_
  refine z_icmp_ge (pc := 54) (off := 29) 83 (by decide +kernel) (by decide) ⟨fun hc => ?_, fun hc => ?_⟩
  · have k := k.1 hc
    refine z_iload_n (pc := 83) (q := 3) (by decide +kernel) rfl ?_
    exact z_iret (pc := 84) (by decide +kernel) rfl k
  · have k := k.2 hc
    refine z_aload_n (pc := 57) (q := 0) (by decide +kernel) rfl ?_
    refine z_getR (pc := 58) 132 fl_Mod_66 rfl rfl rfl (by decide +kernel) ?_
    refine z_bipush (pc := 61) (n := 40) (by decide +kernel) (by decide) ⟨by decide, by decide⟩ ?_
    refine z_iload_n (pc := 63) (q := 1) (by decide +kernel) rfl ?_
    refine z_imul (pc := 64) (by decide +kernel) ?_
    refine z_iload (pc := 65) (i := 4) (by decide +kernel) rfl ?_
    refine z_iadd (pc := 67) (by decide +kernel) ?_
    refine z_aload_n (pc := 68) (q := 0) (by decide +kernel) rfl ?_
    refine z_getR (pc := 69) 127 fl_Mod_51 rfl rfl rfl (by decide +kernel) ?_
    refine z_iload (pc := 72) (i := 4) (by decide +kernel) rfl ?_
    have hb1 := k.1
    have k := k.2
    refine z_iald (pc := 74) rfl hb1 (by decide +kernel) ?_
    refine z_i2l (pc := 75) (by decide +kernel) ?_
    have hb2 := k.1
    have k := k.2
    refine z_last (pc := 76) rfl hb2 (by decide +kernel) ?_
    refine z_iinc (pc := 77) (i := 4) (n := 1) [some (vr 115), some (vi a1), o2, some (vi a3), some (vi (w32 (a4 + 1)))] (by decide +kernel) rfl rfl ?_
    refine z_goto (pc := 80) (off := -29) 51 (by decide +kernel) (by decide) ?_
    exact k
theorem b_Mod_image_0 {E : EN} {d : Nat} {a1 : Int} {σ : Mem} {K : Int → Mem → Prop}  (hd : 1 ≤ d) (k : CI E y_Mod_within (d - 1) [vl a1, vl 0, vl 1] (up σ 115 0 0) (fun x1 τ1 => (x1 ≠ 0 → Z E y_Mod_image d 20 [some (vr 115), some (vi a1), some (vi 0)] [] τ1 (qi K)) ∧ (x1 = 0 → K (-2) τ1))) :
    Z E y_Mod_image d 0 [some (vr 115), some (vi a1), none] [] σ (qi K) := by
  refine z_aload_n (pc := 0) (q := 0) (by decide +kernel) rfl ?_
  refine z_iconst (pc := 1) (n := 0) (by decide +kernel) ⟨by decide, by decide⟩ ?_
  refine z_putI (pc := 2) 0 fp_Mod_1 rfl rfl rfl (by decide +kernel) ?_
  refine z_iload_n (pc := 5) (q := 1) (by decide +kernel) rfl ?_
  refine z_i2l (pc := 6) (by decide +kernel) ?_
  refine z_lconst (pc := 7) (n := 0) 0 (by decide +kernel) (by decide) ⟨by decide, by decide⟩ ?_
  refine z_lconst (pc := 8) (n := 1) 1 (by decide +kernel) (by decide) ⟨by decide, by decide⟩ ?_
  refine z_calls (pc := 9) (as := [vl a1, vl 0, vl 1]) ml_Mod_136 rfl rfl (Nat.le_of_ble_eq_true rfl) (dc := d - 1) (by omega) (by decide +kernel) (CI.z (CI.mono (fun x1 τ1 k => ?_) k))
  refine z_if_ne (pc := 12) (off := 6) 18 (by decide +kernel) (by decide) ⟨fun hc => ?_, fun hc => ?_⟩
  · have k := k.1 hc
    refine z_iconst (pc := 18) (n := 0) (by decide +kernel) ⟨by decide, by decide⟩ ?_
    refine z_istore_n (pc := 19) (q := 2) [some (vr 115), some (vi a1), some (vi 0)] (by decide +kernel) (Nat.le_of_ble_eq_true rfl) rfl ?_
    exact k
  · have k := k.2 hc
    refine z_bipush (pc := 15) (n := -2) (by decide +kernel) (by decide) ⟨by decide, by decide⟩ ?_
    exact z_iret (pc := 17) (by decide +kernel) rfl k
theorem b_Mod_image_20 {E : EN} {d : Nat} {a1 : Int} {a2 : Int} {σ : Mem} {K : Int → Mem → Prop}  (k : (1036 ≤ a2 → (0 ≤ a1 ∧ a1 < 2) ∧ K 0 (up σ 117 a1 1)) ∧ (a2 < 1036 → (0 ≤ a2 ∧ a2 < 3108) ∧ (0 ≤ w32 ((w32 (1036 * (w32 (a1 + 1)))) + a2) ∧ w32 ((w32 (1036 * (w32 (a1 + 1)))) + a2) < 3108) ∧ Z E y_Mod_image d 20 [some (vr 115), some (vi a1), some (vi (w32 (a2 + 1)))] [] (up σ 116 (w32 ((w32 (1036 * (w32 (a1 + 1)))) + a2)) (σ 116 a2)) (qi K))) :
    Z E y_Mod_image d 20 [some (vr 115), some (vi a1), some (vi a2)] [] σ (qi K) := by
  refine z_iload_n (pc := 20) (q := 2) (by decide +kernel) rfl ?_
  refine z_sipush (pc := 21) (n := 1036) (by decide +kernel) (by decide) ⟨by decide, by decide⟩ ?_
  refine z_icmp_ge (pc := 24) (off := 29) 53 (by decide +kernel) (by decide) ⟨fun hc => ?_, fun hc => ?_⟩
  · have k := k.1 hc
    refine z_aload_n (pc := 53) (q := 0) (by decide +kernel) rfl ?_
    refine z_getR (pc := 54) 117 fl_Mod_17 rfl rfl rfl (by decide +kernel) ?_
    refine z_iload_n (pc := 57) (q := 1) (by decide +kernel) rfl ?_
    refine z_iconst (pc := 58) (n := 1) (by decide +kernel) ⟨by decide, by decide⟩ ?_
    have hb1 := k.1
    have k := k.2
    refine z_zast (pc := 59) rfl hb1 (by decide) (by decide +kernel) ?_
    refine z_iconst (pc := 60) (n := 0) (by decide +kernel) ⟨by decide, by decide⟩ ?_
    exact z_iret (pc := 61) (by decide +kernel) rfl k
  · have k := k.2 hc
    refine z_aload_n (pc := 27) (q := 0) (by decide +kernel) rfl ?_
    refine z_getR (pc := 28) 116 fl_Mod_13 rfl rfl rfl (by decide +kernel) ?_
    refine z_sipush (pc := 31) (n := 1036) (by decide +kernel) (by decide) ⟨by decide, by decide⟩ ?_
    refine z_iload_n (pc := 34) (q := 1) (by decide +kernel) rfl ?_
    refine z_iconst (pc := 35) (n := 1) (by decide +kernel) ⟨by decide, by decide⟩ ?_
    refine z_iadd (pc := 36) (by decide +kernel) ?_
    refine z_imul (pc := 37) (by decide +kernel) ?_
    refine z_iload_n (pc := 38) (q := 2) (by decide +kernel) rfl ?_
    refine z_iadd (pc := 39) (by decide +kernel) ?_
    refine z_aload_n (pc := 40) (q := 0) (by decide +kernel) rfl ?_
    refine z_getR (pc := 41) 116 fl_Mod_13 rfl rfl rfl (by decide +kernel) ?_
    refine z_iload_n (pc := 44) (q := 2) (by decide +kernel) rfl ?_
    have hb2 := k.1
    have k := k.2
    refine z_iald (pc := 45) rfl hb2 (by decide +kernel) ?_
    have hb3 := k.1
    have k := k.2
    refine z_iast (pc := 46) rfl hb3 (by decide +kernel) ?_
    refine z_iinc (pc := 47) (i := 2) (n := 1) [some (vr 115), some (vi a1), some (vi (w32 (a2 + 1)))] (by decide +kernel) rfl rfl ?_
    refine z_goto (pc := 50) (off := -30) 20 (by decide +kernel) (by decide) ?_
    exact k
theorem b_Mod_restore_0 {E : EN} {d : Nat} {a1 : Int} {σ : Mem} {K : Int → Mem → Prop}  (hd : 1 ≤ d) (k : CI E y_Mod_within (d - 1) [vl a1, vl 0, vl 1] (up σ 115 0 0) (fun x1 τ1 => (x1 ≠ 0 → (0 ≤ a1 ∧ a1 < 2) ∧ (τ1 117 a1 ≠ 0 → Z E y_Mod_restore d 32 [some (vr 115), some (vi a1), some (vi 0)] [] τ1 (qi K)) ∧ (τ1 117 a1 = 0 → K (-5) τ1)) ∧ (x1 = 0 → K (-2) τ1))) :
    Z E y_Mod_restore d 0 [some (vr 115), some (vi a1), none] [] σ (qi K) := by
  refine z_aload_n (pc := 0) (q := 0) (by decide +kernel) rfl ?_
  refine z_iconst (pc := 1) (n := 0) (by decide +kernel) ⟨by decide, by decide⟩ ?_
  refine z_putI (pc := 2) 0 fp_Mod_1 rfl rfl rfl (by decide +kernel) ?_
  refine z_iload_n (pc := 5) (q := 1) (by decide +kernel) rfl ?_
  refine z_i2l (pc := 6) (by decide +kernel) ?_
  refine z_lconst (pc := 7) (n := 0) 0 (by decide +kernel) (by decide) ⟨by decide, by decide⟩ ?_
  refine z_lconst (pc := 8) (n := 1) 1 (by decide +kernel) (by decide) ⟨by decide, by decide⟩ ?_
  refine z_calls (pc := 9) (as := [vl a1, vl 0, vl 1]) ml_Mod_136 rfl rfl (Nat.le_of_ble_eq_true rfl) (dc := d - 1) (by omega) (by decide +kernel) (CI.z (CI.mono (fun x1 τ1 k => ?_) k))
  refine z_if_ne (pc := 12) (off := 6) 18 (by decide +kernel) (by decide) ⟨fun hc => ?_, fun hc => ?_⟩
  · have k := k.1 hc
    refine z_aload_n (pc := 18) (q := 0) (by decide +kernel) rfl ?_
    refine z_getR (pc := 19) 117 fl_Mod_17 rfl rfl rfl (by decide +kernel) ?_
    refine z_iload_n (pc := 22) (q := 1) (by decide +kernel) rfl ?_
    have hb1 := k.1
    have k := k.2
    refine z_zald (pc := 23) rfl hb1 (by decide +kernel) ?_
    refine z_if_ne (pc := 24) (off := 6) 30 (by decide +kernel) (by decide) ⟨fun hc => ?_, fun hc => ?_⟩
    · have k := k.1 hc
      refine z_iconst (pc := 30) (n := 0) (by decide +kernel) ⟨by decide, by decide⟩ ?_
      refine z_istore_n (pc := 31) (q := 2) [some (vr 115), some (vi a1), some (vi 0)] (by decide +kernel) (Nat.le_of_ble_eq_true rfl) rfl ?_
      exact k
    · have k := k.2 hc
      refine z_bipush (pc := 27) (n := -5) (by decide +kernel) (by decide) ⟨by decide, by decide⟩ ?_
      exact z_iret (pc := 29) (by decide +kernel) rfl k
  · have k := k.2 hc
    refine z_bipush (pc := 15) (n := -2) (by decide +kernel) (by decide) ⟨by decide, by decide⟩ ?_
    exact z_iret (pc := 17) (by decide +kernel) rfl k
theorem b_Mod_restore_32 {E : EN} {d : Nat} {a1 : Int} {a2 : Int} {σ : Mem} {K : Int → Mem → Prop}  (k : (1036 ≤ a2 → K 0 (up σ 116 84 0)) ∧ (a2 < 1036 → (0 ≤ w32 ((w32 (1036 * (w32 (a1 + 1)))) + a2) ∧ w32 ((w32 (1036 * (w32 (a1 + 1)))) + a2) < 3108) ∧ (0 ≤ a2 ∧ a2 < 3108) ∧ Z E y_Mod_restore d 32 [some (vr 115), some (vi a1), some (vi (w32 (a2 + 1)))] [] (up σ 116 a2 (σ 116 (w32 ((w32 (1036 * (w32 (a1 + 1)))) + a2)))) (qi K))) :
    Z E y_Mod_restore d 32 [some (vr 115), some (vi a1), some (vi a2)] [] σ (qi K) := by
  refine z_iload_n (pc := 32) (q := 2) (by decide +kernel) rfl ?_
  refine z_sipush (pc := 33) (n := 1036) (by decide +kernel) (by decide) ⟨by decide, by decide⟩ ?_
  refine z_icmp_ge (pc := 36) (off := 29) 65 (by decide +kernel) (by decide) ⟨fun hc => ?_, fun hc => ?_⟩
  · have k := k.1 hc
    refine z_aload_n (pc := 65) (q := 0) (by decide +kernel) rfl ?_
    refine z_getR (pc := 66) 116 fl_Mod_13 rfl rfl rfl (by decide +kernel) ?_
    refine z_bipush (pc := 69) (n := 84) (by decide +kernel) (by decide) ⟨by decide, by decide⟩ ?_
    refine z_iconst (pc := 71) (n := 0) (by decide +kernel) ⟨by decide, by decide⟩ ?_
    refine z_iast (pc := 72) rfl ⟨by decide, by decide⟩ (by decide +kernel) ?_
    refine z_iconst (pc := 73) (n := 0) (by decide +kernel) ⟨by decide, by decide⟩ ?_
    exact z_iret (pc := 74) (by decide +kernel) rfl k
  · have k := k.2 hc
    refine z_aload_n (pc := 39) (q := 0) (by decide +kernel) rfl ?_
    refine z_getR (pc := 40) 116 fl_Mod_13 rfl rfl rfl (by decide +kernel) ?_
    refine z_iload_n (pc := 43) (q := 2) (by decide +kernel) rfl ?_
    refine z_aload_n (pc := 44) (q := 0) (by decide +kernel) rfl ?_
    refine z_getR (pc := 45) 116 fl_Mod_13 rfl rfl rfl (by decide +kernel) ?_
    refine z_sipush (pc := 48) (n := 1036) (by decide +kernel) (by decide) ⟨by decide, by decide⟩ ?_
    refine z_iload_n (pc := 51) (q := 1) (by decide +kernel) rfl ?_
    refine z_iconst (pc := 52) (n := 1) (by decide +kernel) ⟨by decide, by decide⟩ ?_
    refine z_iadd (pc := 53) (by decide +kernel) ?_
    refine z_imul (pc := 54) (by decide +kernel) ?_
    refine z_iload_n (pc := 55) (q := 2) (by decide +kernel) rfl ?_
    refine z_iadd (pc := 56) (by decide +kernel) ?_
    have hb1 := k.1
    have k := k.2
    refine z_iald (pc := 57) rfl hb1 (by decide +kernel) ?_
    have hb2 := k.1
    have k := k.2
    refine z_iast (pc := 58) rfl hb2 (by decide +kernel) ?_
    refine z_iinc (pc := 59) (i := 2) (n := 1) [some (vr 115), some (vi a1), some (vi (w32 (a2 + 1)))] (by decide +kernel) rfl rfl ?_
    refine z_goto (pc := 62) (off := -30) 32 (by decide +kernel) (by decide) ?_
    exact k
theorem b_Mod_count_0 {E : EN} {d : Nat} {a1 : Int} {σ : Mem} {K : Int → Mem → Prop}  (hd : 1 ≤ d) (k : (a1 = 0 → K (σ 116 1) (up σ 115 0 0)) ∧ (a1 = 1 → K (σ 116 2) (up σ 115 0 0)) ∧ (a1 = 2 → K (σ 116 3) (up σ 115 0 0)) ∧ (a1 = 3 → K (σ 116 4) (up σ 115 0 0)) ∧ (a1 = 4 → K (σ 116 79) (up σ 115 0 0)) ∧ (a1 = 5 → K (σ 116 80) (up σ 115 0 0)) ∧ (a1 = 6 → K (σ 116 82) (up σ 115 0 0)) ∧ (a1 = 7 → CI E y_Mod_awake (d - 1) [vr 115] (up σ 115 0 0) (fun x1 τ1 => K x1 τ1)) ∧ (a1 = 8 → K (σ 116 5) (up σ 115 0 0)) ∧ (a1 = 9 → K (σ 116 84) (up σ 115 0 0)) ∧ (a1 = 10 → K (σ 115 5) (up σ 115 0 0)) ∧ (a1 = 11 → K (σ 116 0) (up σ 115 0 0)) ∧ (a1 = 12 → K (σ 116 6) (up σ 115 0 0)) ∧ (a1 < 0 ∨ 12 < a1 → K (-1) (up σ 115 0 0))) :
    Z E y_Mod_count d 0 [some (vr 115), some (vi a1)] [] σ (qi K) := by
  refine z_aload_n (pc := 0) (q := 0) (by decide +kernel) rfl ?_
  refine z_iconst (pc := 1) (n := 0) (by decide +kernel) ⟨by decide, by decide⟩ ?_
  refine z_putI (pc := 2) 0 fp_Mod_1 rfl rfl rfl (by decide +kernel) ?_
  refine z_iload_n (pc := 5) (q := 1) (by decide +kernel) rfl ?_
  have hdg : decode y_Mod_count.2.1 6 = .ok (.tableswitch 158 0 12 #[66, 73, 80, 87, 94, 102, 110, 118, 123, 130, 138, 143, 150], 66) := by decide +kernel
  by_cases hl0 : a1 < 0
  · have k := k.2.2.2.2.2.2.2.2.2.2.2.2.2 (Or.inl hl0)
    refine z_tableOut (pc := 6) 164 hdg (Or.inl hl0) (by decide) ?_
    refine z_iconst (pc := 164) (n := -1) (by decide +kernel) ⟨by decide, by decide⟩ ?_
    exact z_iret (pc := 165) (by decide +kernel) rfl k
  have hl : 0 ≤ a1 := Int.not_lt.mp hl0
  by_cases hc : a1 = 0
  · have k := k.1 hc
    refine z_tableIn2 (pc := 6) (off := 66) 72 hdg hc (by decide) (by decide +kernel) (by decide) ?_
    refine z_aload_n (pc := 72) (q := 0) (by decide +kernel) rfl ?_
    refine z_getR (pc := 73) 116 fl_Mod_13 rfl rfl rfl (by decide +kernel) ?_
    refine z_iconst (pc := 76) (n := 1) (by decide +kernel) ⟨by decide, by decide⟩ ?_
    refine z_iald (pc := 77) rfl ⟨by decide, by decide⟩ (by decide +kernel) ?_
    refine z_topI (up_nc (by decide)) ?_
    exact z_iret (pc := 78) (by decide +kernel) rfl k
  have k := k.2
  have hl := ne_up (w := 1) hl hc rfl; clear hc
  by_cases hc : a1 = 1
  · have k := k.1 hc
    refine z_tableIn2 (pc := 6) (off := 73) 79 hdg hc (by decide) (by decide +kernel) (by decide) ?_
    refine z_aload_n (pc := 79) (q := 0) (by decide +kernel) rfl ?_
    refine z_getR (pc := 80) 116 fl_Mod_13 rfl rfl rfl (by decide +kernel) ?_
    refine z_iconst (pc := 83) (n := 2) (by decide +kernel) ⟨by decide, by decide⟩ ?_
    refine z_iald (pc := 84) rfl ⟨by decide, by decide⟩ (by decide +kernel) ?_
    refine z_topI (up_nc (by decide)) ?_
    exact z_iret (pc := 85) (by decide +kernel) rfl k
  have k := k.2
  have hl := ne_up (w := 2) hl hc rfl; clear hc
  by_cases hc : a1 = 2
  · have k := k.1 hc
    refine z_tableIn2 (pc := 6) (off := 80) 86 hdg hc (by decide) (by decide +kernel) (by decide) ?_
    refine z_aload_n (pc := 86) (q := 0) (by decide +kernel) rfl ?_
    refine z_getR (pc := 87) 116 fl_Mod_13 rfl rfl rfl (by decide +kernel) ?_
    refine z_iconst (pc := 90) (n := 3) (by decide +kernel) ⟨by decide, by decide⟩ ?_
    refine z_iald (pc := 91) rfl ⟨by decide, by decide⟩ (by decide +kernel) ?_
    refine z_topI (up_nc (by decide)) ?_
    exact z_iret (pc := 92) (by decide +kernel) rfl k
  have k := k.2
  have hl := ne_up (w := 3) hl hc rfl; clear hc
  by_cases hc : a1 = 3
  · have k := k.1 hc
    refine z_tableIn2 (pc := 6) (off := 87) 93 hdg hc (by decide) (by decide +kernel) (by decide) ?_
    refine z_aload_n (pc := 93) (q := 0) (by decide +kernel) rfl ?_
    refine z_getR (pc := 94) 116 fl_Mod_13 rfl rfl rfl (by decide +kernel) ?_
    refine z_iconst (pc := 97) (n := 4) (by decide +kernel) ⟨by decide, by decide⟩ ?_
    refine z_iald (pc := 98) rfl ⟨by decide, by decide⟩ (by decide +kernel) ?_
    refine z_topI (up_nc (by decide)) ?_
    exact z_iret (pc := 99) (by decide +kernel) rfl k
  have k := k.2
  have hl := ne_up (w := 4) hl hc rfl; clear hc
  by_cases hc : a1 = 4
  · have k := k.1 hc
    refine z_tableIn2 (pc := 6) (off := 94) 100 hdg hc (by decide) (by decide +kernel) (by decide) ?_
    refine z_aload_n (pc := 100) (q := 0) (by decide +kernel) rfl ?_
    refine z_getR (pc := 101) 116 fl_Mod_13 rfl rfl rfl (by decide +kernel) ?_
    refine z_bipush (pc := 104) (n := 79) (by decide +kernel) (by decide) ⟨by decide, by decide⟩ ?_
    refine z_iald (pc := 106) rfl ⟨by decide, by decide⟩ (by decide +kernel) ?_
    refine z_topI (up_nc (by decide)) ?_
    exact z_iret (pc := 107) (by decide +kernel) rfl k
  have k := k.2
  have hl := ne_up (w := 5) hl hc rfl; clear hc
  by_cases hc : a1 = 5
  · have k := k.1 hc
    refine z_tableIn2 (pc := 6) (off := 102) 108 hdg hc (by decide) (by decide +kernel) (by decide) ?_
    refine z_aload_n (pc := 108) (q := 0) (by decide +kernel) rfl ?_
    refine z_getR (pc := 109) 116 fl_Mod_13 rfl rfl rfl (by decide +kernel) ?_
    refine z_bipush (pc := 112) (n := 80) (by decide +kernel) (by decide) ⟨by decide, by decide⟩ ?_
    refine z_iald (pc := 114) rfl ⟨by decide, by decide⟩ (by decide +kernel) ?_
    refine z_topI (up_nc (by decide)) ?_
    exact z_iret (pc := 115) (by decide +kernel) rfl k
  have k := k.2
  have hl := ne_up (w := 6) hl hc rfl; clear hc
  by_cases hc : a1 = 6
  · have k := k.1 hc
    refine z_tableIn2 (pc := 6) (off := 110) 116 hdg hc (by decide) (by decide +kernel) (by decide) ?_
    refine z_aload_n (pc := 116) (q := 0) (by decide +kernel) rfl ?_
    refine z_getR (pc := 117) 116 fl_Mod_13 rfl rfl rfl (by decide +kernel) ?_
    refine z_bipush (pc := 120) (n := 82) (by decide +kernel) (by decide) ⟨by decide, by decide⟩ ?_
    refine z_iald (pc := 122) rfl ⟨by decide, by decide⟩ (by decide +kernel) ?_
    refine z_topI (up_nc (by decide)) ?_
    exact z_iret (pc := 123) (by decide +kernel) rfl k
  have k := k.2
  have hl := ne_up (w := 7) hl hc rfl; clear hc
  by_cases hc : a1 = 7
  · have k := k.1 hc
    refine z_tableIn2 (pc := 6) (off := 118) 124 hdg hc (by decide) (by decide +kernel) (by decide) ?_
    refine z_aload_n (pc := 124) (q := 0) (by decide +kernel) rfl ?_
    refine z_callv (pc := 125) (as := []) ml_Mod_261 rfl ⟨rfl, by decide⟩ rfl rfl (Nat.le_of_ble_eq_true rfl) (dc := d - 1) (by omega) (by decide +kernel) (CI.z (CI.mono (fun x1 τ1 k => ?_) k))
    exact z_iret (pc := 128) (by decide +kernel) rfl k
  have k := k.2
  have hl := ne_up (w := 8) hl hc rfl; clear hc
  by_cases hc : a1 = 8
  · have k := k.1 hc
    refine z_tableIn2 (pc := 6) (off := 123) 129 hdg hc (by decide) (by decide +kernel) (by decide) ?_
    refine z_aload_n (pc := 129) (q := 0) (by decide +kernel) rfl ?_
    refine z_getR (pc := 130) 116 fl_Mod_13 rfl rfl rfl (by decide +kernel) ?_
    refine z_iconst (pc := 133) (n := 5) (by decide +kernel) ⟨by decide, by decide⟩ ?_
    refine z_iald (pc := 134) rfl ⟨by decide, by decide⟩ (by decide +kernel) ?_
    refine z_topI (up_nc (by decide)) ?_
    exact z_iret (pc := 135) (by decide +kernel) rfl k
  have k := k.2
  have hl := ne_up (w := 9) hl hc rfl; clear hc
  by_cases hc : a1 = 9
  · have k := k.1 hc
    refine z_tableIn2 (pc := 6) (off := 130) 136 hdg hc (by decide) (by decide +kernel) (by decide) ?_
    refine z_aload_n (pc := 136) (q := 0) (by decide +kernel) rfl ?_
    refine z_getR (pc := 137) 116 fl_Mod_13 rfl rfl rfl (by decide +kernel) ?_
    refine z_bipush (pc := 140) (n := 84) (by decide +kernel) (by decide) ⟨by decide, by decide⟩ ?_
    refine z_iald (pc := 142) rfl ⟨by decide, by decide⟩ (by decide +kernel) ?_
    refine z_topI (up_nc (by decide)) ?_
    exact z_iret (pc := 143) (by decide +kernel) rfl k
  have k := k.2
  have hl := ne_up (w := 10) hl hc rfl; clear hc
  by_cases hc : a1 = 10
  · have k := k.1 hc
    refine z_tableIn2 (pc := 6) (off := 138) 144 hdg hc (by decide) (by decide +kernel) (by decide) ?_
    refine z_aload_n (pc := 144) (q := 0) (by decide +kernel) rfl ?_
    refine z_getI (pc := 145) 5 fl_Mod_74 rfl (by decide) rfl (by decide +kernel) ?_
    refine z_topI (up_nk (by decide)) ?_
    exact z_iret (pc := 148) (by decide +kernel) rfl k
  have k := k.2
  have hl := ne_up (w := 11) hl hc rfl; clear hc
  by_cases hc : a1 = 11
  · have k := k.1 hc
    refine z_tableIn2 (pc := 6) (off := 143) 149 hdg hc (by decide) (by decide +kernel) (by decide) ?_
    refine z_aload_n (pc := 149) (q := 0) (by decide +kernel) rfl ?_
    refine z_getR (pc := 150) 116 fl_Mod_13 rfl rfl rfl (by decide +kernel) ?_
    refine z_iconst (pc := 153) (n := 0) (by decide +kernel) ⟨by decide, by decide⟩ ?_
    refine z_iald (pc := 154) rfl ⟨by decide, by decide⟩ (by decide +kernel) ?_
    refine z_topI (up_nc (by decide)) ?_
    exact z_iret (pc := 155) (by decide +kernel) rfl k
  have k := k.2
  have hl := ne_up (w := 12) hl hc rfl; clear hc
  by_cases hc : a1 = 12
  · have k := k.1 hc
    refine z_tableIn2 (pc := 6) (off := 150) 156 hdg hc (by decide) (by decide +kernel) (by decide) ?_
    refine z_aload_n (pc := 156) (q := 0) (by decide +kernel) rfl ?_
    refine z_getR (pc := 157) 116 fl_Mod_13 rfl rfl rfl (by decide +kernel) ?_
    refine z_bipush (pc := 160) (n := 6) (by decide +kernel) (by decide) ⟨by decide, by decide⟩ ?_
    refine z_iald (pc := 162) rfl ⟨by decide, by decide⟩ (by decide +kernel) ?_
    refine z_topI (up_nc (by decide)) ?_
    exact z_iret (pc := 163) (by decide +kernel) rfl k
  have k := k.2
  have hl := ne_up (w := 13) hl hc rfl; clear hc
  have hl := Int.lt_of_add_one_le (a := 12) hl
  have k := k (Or.inr hl)
  refine z_tableOut (pc := 6) 164 hdg (Or.inr hl) (by decide) ?_
  refine z_iconst (pc := 164) (n := -1) (by decide +kernel) ⟨by decide, by decide⟩ ?_
  exact z_iret (pc := 165) (by decide +kernel) rfl k
