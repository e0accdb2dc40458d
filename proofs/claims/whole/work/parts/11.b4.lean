theorem b_BC_feed_0 {E : EN} {d : Nat} {a1 : Int} {a2 : Int} {a3 : Int} {a4 : Int} {a5 : Int} {σ : Mem} {K : Int → Mem → Prop}  (hd : 1 ≤ d) (k : (w32 ((σ 0 1) + 20) ≤ 900 → CV E y_BC_putOnTape (d - 1) [vr 0, vi a1] σ (fun τ1 => CV E y_BC_putOnTape (d - 1) [vr 0, vi a2] τ1 (fun τ2 => CV E y_BC_putOnTape (d - 1) [vr 0, vi a3] τ2 (fun τ3 => CV E y_BC_putOnTape (d - 1) [vr 0, vi a4] τ3 (fun τ4 => CV E y_BC_putOnTape (d - 1) [vr 0, vi a5] τ4 (fun τ5 => K (τ5 0 1) τ5)))))) ∧ (900 < w32 ((σ 0 1) + 20) → K (-5) σ)) :
    Z E y_BC_feed d 0 [some (vr 0), some (vi a1), some (vi a2), some (vi a3), some (vi a4), some (vi a5)] [] σ (qi K) := by
  refine z_aload_n (pc := 0) (q := 0) (by decide +kernel) rfl ?_
  refine z_getI (pc := 1) 1 fl_BC_13 rfl (by decide) rfl (by decide +kernel) ?_
  refine z_bipush (pc := 4) (n := 20) (by decide +kernel) (by decide) ⟨by decide, by decide⟩ ?_
  refine z_iadd (pc := 6) (by decide +kernel) ?_
  refine z_sipush (pc := 7) (n := 900) (by decide +kernel) (by decide) ⟨by decide, by decide⟩ ?_
  refine z_icmp_le (pc := 10) (off := 6) 16 (by decide +kernel) (by decide) ⟨fun hc => ?_, fun hc => ?_⟩
  · have k := k.1 hc
    refine z_aload_n (pc := 16) (q := 0) (by decide +kernel) rfl ?_
    refine z_iload_n (pc := 17) (q := 1) (by decide +kernel) rfl ?_
    refine z_callv (pc := 18) (as := [vi a1]) ml_BC_110 rfl ⟨rfl, by decide⟩ rfl rfl (Nat.le_of_ble_eq_true rfl) (dc := d - 1) (by omega) (by decide +kernel) (CV.z (CV.mono (fun τ1 k => ?_) k))
    refine z_aload_n (pc := 21) (q := 0) (by decide +kernel) rfl ?_
    refine z_iload_n (pc := 22) (q := 2) (by decide +kernel) rfl ?_
    refine z_callv (pc := 23) (as := [vi a2]) ml_BC_110 rfl ⟨rfl, by decide⟩ rfl rfl (Nat.le_of_ble_eq_true rfl) (dc := d - 1) (by omega) (by decide +kernel) (CV.z (CV.mono (fun τ2 k => ?_) k))
    refine z_aload_n (pc := 26) (q := 0) (by decide +kernel) rfl ?_
    refine z_iload_n (pc := 27) (q := 3) (by decide +kernel) rfl ?_
    refine z_callv (pc := 28) (as := [vi a3]) ml_BC_110 rfl ⟨rfl, by decide⟩ rfl rfl (Nat.le_of_ble_eq_true rfl) (dc := d - 1) (by omega) (by decide +kernel) (CV.z (CV.mono (fun τ3 k => ?_) k))
    refine z_aload_n (pc := 31) (q := 0) (by decide +kernel) rfl ?_
    refine z_iload (pc := 32) (i := 4) (by decide +kernel) rfl ?_
    refine z_callv (pc := 34) (as := [vi a4]) ml_BC_110 rfl ⟨rfl, by decide⟩ rfl rfl (Nat.le_of_ble_eq_true rfl) (dc := d - 1) (by omega) (by decide +kernel) (CV.z (CV.mono (fun τ4 k => ?_) k))
    refine z_aload_n (pc := 37) (q := 0) (by decide +kernel) rfl ?_
    refine z_iload (pc := 38) (i := 5) (by decide +kernel) rfl ?_
    refine z_callv (pc := 40) (as := [vi a5]) ml_BC_110 rfl ⟨rfl, by decide⟩ rfl rfl (Nat.le_of_ble_eq_true rfl) (dc := d - 1) (by omega) (by decide +kernel) (CV.z (CV.mono (fun τ5 k => ?_) k))
    refine z_aload_n (pc := 43) (q := 0) (by decide +kernel) rfl ?_
    refine z_getI (pc := 44) 1 fl_BC_13 rfl (by decide) rfl (by decide +kernel) ?_
    exact z_iret (pc := 47) (by decide +kernel) rfl k
  · have k := k.2 hc
    refine z_bipush (pc := 13) (n := -5) (by decide +kernel) (by decide) ⟨by decide, by decide⟩ ?_
    exact z_iret (pc := 15) (by decide +kernel) rfl k
theorem b_BC_putOnTape_0 {E : EN} {d : Nat} {a1 : Int} {σ : Mem} {K : Mem → Prop}  (k : Z E y_BC_putOnTape d 3 [some (vr 0), some (vi a1), some (vi 24)] [] σ (qv K)) :
    Z E y_BC_putOnTape d 0 [some (vr 0), some (vi a1), none] [] σ (qv K) := by
  refine z_bipush (pc := 0) (n := 24) (by decide +kernel) (by decide) ⟨by decide, by decide⟩ ?_
  refine z_istore_n (pc := 2) (q := 2) [some (vr 0), some (vi a1), some (vi 24)] (by decide +kernel) (Nat.le_of_ble_eq_true rfl) rfl ?_
  exact k
theorem b_BC_putOnTape_3 {E : EN} {d : Nat} {a1 : Int} {a2 : Int} {σ : Mem} {K : Mem → Prop}  (k : (a2 < 0 → K σ) ∧ (0 ≤ a2 → (900 ≤ σ 0 1 → K σ) ∧ (σ 0 1 < 900 → (0 ≤ σ 0 1 ∧ σ 0 1 < 900) ∧ Z E y_BC_putOnTape d 3 [some (vr 0), some (vi a1), some (vi (w32 (a2 + (-8))))] [] (up (up σ 1 (σ 0 1) (w8 (w8 (ius a1 a2)))) 0 1 (w32 ((σ 0 1) + 1))) (qv K)))) :
    Z E y_BC_putOnTape d 3 [some (vr 0), some (vi a1), some (vi a2)] [] σ (qv K) := by
  refine z_iload_n (pc := 3) (q := 2) (by decide +kernel) rfl ?_
  refine z_if_lt (pc := 4) (off := 42) 46 (by decide +kernel) (by decide) ⟨fun hc => ?_, fun hc => ?_⟩
  · have k := k.1 hc
    exact z_vret (pc := 46) (by decide +kernel) rfl k
  · have k := k.2 hc
    refine z_aload_n (pc := 7) (q := 0) (by decide +kernel) rfl ?_
    refine z_getI (pc := 8) 1 fl_BC_13 rfl (by decide) rfl (by decide +kernel) ?_
    refine z_sipush (pc := 11) (n := 900) (by decide +kernel) (by decide) ⟨by decide, by decide⟩ ?_
    refine z_icmp_ge (pc := 14) (off := 32) 46 (by decide +kernel) (by decide) ⟨fun hc => ?_, fun hc => ?_⟩
    · have k := k.1 hc
      exact z_vret (pc := 46) (by decide +kernel) rfl k
    · have k := k.2 hc
      refine z_aload_n (pc := 17) (q := 0) (by decide +kernel) rfl ?_
      refine z_getR (pc := 18) 1 fl_BC_9 rfl rfl rfl (by decide +kernel) ?_
      refine z_aload_n (pc := 21) (q := 0) (by decide +kernel) rfl ?_
      refine z_getI (pc := 22) 1 fl_BC_13 rfl (by decide) rfl (by decide +kernel) ?_
      refine z_iload_n (pc := 25) (q := 1) (by decide +kernel) rfl ?_
      refine z_iload_n (pc := 26) (q := 2) (by decide +kernel) rfl ?_
      refine z_iushr (pc := 27) (by decide +kernel) ?_
      refine z_i2b (pc := 28) (by decide +kernel) ?_
      have hb1 := k.1
      have k := k.2
      refine z_bast (pc := 29) rfl hb1 (by decide +kernel) ?_
      refine z_aload_n (pc := 30) (q := 0) (by decide +kernel) rfl ?_
      refine z_dup (pc := 31) (by decide +kernel) rfl ?_
      refine z_getI (pc := 32) 1 fl_BC_13 rfl (by decide) rfl (by decide +kernel) ?_
      refine z_topI (up_nc (by decide)) ?_
      refine z_iconst (pc := 35) (n := 1) (by decide +kernel) ⟨by decide, by decide⟩ ?_
      refine z_iadd (pc := 36) (by decide +kernel) ?_
      refine z_putI (pc := 37) 1 fp_BC_13 rfl rfl rfl (by decide +kernel) ?_
      refine z_iinc (pc := 40) (i := 2) (n := -8) [some (vr 0), some (vi a1), some (vi (w32 (a2 + (-8))))] (by decide +kernel) rfl rfl ?_
      refine z_goto (pc := 43) (off := -40) 3 (by decide +kernel) (by decide) ?_
      exact k
theorem b_BC_room_0 {E : EN} {d : Nat} {a1 : Int} {σ : Mem} {K : Int → Mem → Prop}  (hd : 1 ≤ d) (k : (a1 < 0 → K (-3) σ) ∧ (0 ≤ a1 → (a1 ≤ σ 0 1 → CV E y_Rdr_read (d - 1) [vr 64, vi a1] (up σ 0 1 0) (fun τ1 => (τ1 64 7 = 0 → CV E y_Room_become (d - 1) [vr 2, vr 14] (up (up τ1 0 2 (τ1 64 7)) 0 3 (τ1 64 8)) (fun τ2 => CI E y_Room_allHands (d - 1) [vr 2] τ2 (fun x3 τ3 => CV E y_Stg_begin (d - 1) [vr 50, vi x3] τ3 (fun τ4 => CV E y_Past_forget (d - 1) [vr 52] τ4 (fun τ5 => CV E y_Plan_forget (d - 1) [vr 92] τ5 (fun τ6 => K (τ6 2 4) τ6)))))) ∧ (τ1 64 7 ≠ 0 → K (w32 ((-30) - (τ1 64 7))) (up (up τ1 0 2 (τ1 64 7)) 0 3 (τ1 64 8))))) ∧ (σ 0 1 < a1 → K (-3) σ))) :
    Z E y_BC_room d 0 [some (vr 0), some (vi a1)] [] σ (qi K) := by
  refine z_iload_n (pc := 0) (q := 1) (by decide +kernel) rfl ?_
  refine z_if_lt (pc := 1) (off := 11) 12 (by decide +kernel) (by decide) ⟨fun hc => ?_, fun hc => ?_⟩
  · have k := k.1 hc
    refine z_bipush (pc := 12) (n := -3) (by decide +kernel) (by decide) ⟨by decide, by decide⟩ ?_
    exact z_iret (pc := 14) (by decide +kernel) rfl k
  · have k := k.2 hc
    refine z_iload_n (pc := 4) (q := 1) (by decide +kernel) rfl ?_
    refine z_aload_n (pc := 5) (q := 0) (by decide +kernel) rfl ?_
    refine z_getI (pc := 6) 1 fl_BC_13 rfl (by decide) rfl (by decide +kernel) ?_
    refine z_icmp_le (pc := 9) (off := 6) 15 (by decide +kernel) (by decide) ⟨fun hc => ?_, fun hc => ?_⟩
    · have k := k.1 hc
      refine z_aload_n (pc := 15) (q := 0) (by decide +kernel) rfl ?_
      refine z_iconst (pc := 16) (n := 0) (by decide +kernel) ⟨by decide, by decide⟩ ?_
      refine z_putI (pc := 17) 1 fp_BC_13 rfl rfl rfl (by decide +kernel) ?_
      refine z_aload_n (pc := 20) (q := 0) (by decide +kernel) rfl ?_
      refine z_getR (pc := 21) 64 fl_BC_55 rfl rfl rfl (by decide +kernel) ?_
      refine z_iload_n (pc := 24) (q := 1) (by decide +kernel) rfl ?_
      refine z_callv (pc := 25) (as := [vi a1]) ml_BC_114 rfl ⟨rfl, by decide⟩ rfl rfl (Nat.le_of_ble_eq_true rfl) (dc := d - 1) (by omega) (by decide +kernel) (CV.z (CV.mono (fun τ1 k => ?_) k))
      refine z_aload_n (pc := 28) (q := 0) (by decide +kernel) rfl ?_
      refine z_aload_n (pc := 29) (q := 0) (by decide +kernel) rfl ?_
      refine z_getR (pc := 30) 64 fl_BC_55 rfl rfl rfl (by decide +kernel) ?_
      refine z_getI (pc := 33) 7 fl_BC_117 rfl (by decide) rfl (by decide +kernel) ?_
      refine z_putI (pc := 36) 2 fp_BC_17 rfl rfl rfl (by decide +kernel) ?_
      refine z_aload_n (pc := 39) (q := 0) (by decide +kernel) rfl ?_
      refine z_aload_n (pc := 40) (q := 0) (by decide +kernel) rfl ?_
      refine z_getR (pc := 41) 64 fl_BC_55 rfl rfl rfl (by decide +kernel) ?_
      refine z_getI (pc := 44) 8 fl_BC_118 rfl (by decide) rfl (by decide +kernel) ?_
      refine z_topI (up_nc (by decide)) ?_
      refine z_putI (pc := 47) 3 fp_BC_20 rfl rfl rfl (by decide +kernel) ?_
      refine z_aload_n (pc := 50) (q := 0) (by decide +kernel) rfl ?_
      refine z_getI (pc := 51) 2 fl_BC_17 rfl (by decide) rfl (by decide +kernel) ?_
      refine z_topI ((up_nk (by decide)).trans (up_same _ _ _ _)) ?_
      refine z_if_eq (pc := 54) (off := 11) 65 (by decide +kernel) (by decide) ⟨fun hc => ?_, fun hc => ?_⟩
      · have k := k.1 hc
        refine z_aload_n (pc := 65) (q := 0) (by decide +kernel) rfl ?_
        refine z_getR (pc := 66) 2 fl_BC_26 rfl rfl rfl (by decide +kernel) ?_
        refine z_aload_n (pc := 69) (q := 0) (by decide +kernel) rfl ?_
        refine z_getR (pc := 70) 14 fl_BC_30 rfl rfl rfl (by decide +kernel) ?_
        refine z_callv (pc := 73) (as := [vr 14]) ml_BC_119 rfl ⟨rfl, by decide⟩ rfl rfl (Nat.le_of_ble_eq_true rfl) (dc := d - 1) (by omega) (by decide +kernel) (CV.z (CV.mono (fun τ2 k => ?_) k))
        refine z_aload_n (pc := 76) (q := 0) (by decide +kernel) rfl ?_
        refine z_getR (pc := 77) 50 fl_BC_36 rfl rfl rfl (by decide +kernel) ?_
        refine z_aload_n (pc := 80) (q := 0) (by decide +kernel) rfl ?_
        refine z_getR (pc := 81) 2 fl_BC_26 rfl rfl rfl (by decide +kernel) ?_
        refine z_callv (pc := 84) (as := []) ml_BC_122 rfl ⟨rfl, by decide⟩ rfl rfl (Nat.le_of_ble_eq_true rfl) (dc := d - 1) (by omega) (by decide +kernel) (CI.z (CI.mono (fun x3 τ3 k => ?_) k))
        refine z_callv (pc := 87) (as := [vi x3]) ml_BC_126 rfl ⟨rfl, by decide⟩ rfl rfl (Nat.le_of_ble_eq_true rfl) (dc := d - 1) (by omega) (by decide +kernel) (CV.z (CV.mono (fun τ4 k => ?_) k))
        refine z_aload_n (pc := 90) (q := 0) (by decide +kernel) rfl ?_
        refine z_getR (pc := 91) 52 fl_BC_46 rfl rfl rfl (by decide +kernel) ?_
        refine z_callv (pc := 94) (as := []) ml_BC_129 rfl ⟨rfl, by decide⟩ rfl rfl (Nat.le_of_ble_eq_true rfl) (dc := d - 1) (by omega) (by decide +kernel) (CV.z (CV.mono (fun τ5 k => ?_) k))
        refine z_aload_n (pc := 97) (q := 0) (by decide +kernel) rfl ?_
        refine z_getR (pc := 98) 92 fl_BC_80 rfl rfl rfl (by decide +kernel) ?_
        refine z_callv (pc := 101) (as := []) ml_BC_132 rfl ⟨rfl, by decide⟩ rfl rfl (Nat.le_of_ble_eq_true rfl) (dc := d - 1) (by omega) (by decide +kernel) (CV.z (CV.mono (fun τ6 k => ?_) k))
        refine z_aload_n (pc := 104) (q := 0) (by decide +kernel) rfl ?_
        refine z_getR (pc := 105) 2 fl_BC_26 rfl rfl rfl (by decide +kernel) ?_
        refine z_getI (pc := 108) 4 fl_BC_133 rfl (by decide) rfl (by decide +kernel) ?_
        exact z_iret (pc := 111) (by decide +kernel) rfl k
      · have k := k.2 hc
        refine z_bipush (pc := 57) (n := -30) (by decide +kernel) (by decide) ⟨by decide, by decide⟩ ?_
        refine z_aload_n (pc := 59) (q := 0) (by decide +kernel) rfl ?_
        refine z_getI (pc := 60) 2 fl_BC_17 rfl (by decide) rfl (by decide +kernel) ?_
        refine z_topI ((up_nk (by decide)).trans (up_same _ _ _ _)) ?_
        refine z_isub (pc := 63) (by decide +kernel) ?_
        exact z_iret (pc := 64) (by decide +kernel) rfl k
    · have k := k.2 hc
      refine z_bipush (pc := 12) (n := -3) (by decide +kernel) (by decide) ⟨by decide, by decide⟩ ?_
      exact z_iret (pc := 14) (by decide +kernel) rfl k
theorem b_BC_fault_0 {E : EN} {d : Nat} {a1 : Int} {σ : Mem} {K : Int → Mem → Prop}  (k : (a1 ≠ 0 → (a1 ≠ 1 → K (-1) σ) ∧ (a1 = 1 → K (σ 0 3) σ)) ∧ (a1 = 0 → K (σ 0 2) σ)) :
    Z E y_BC_fault d 0 [some (vr 0), some (vi a1)] [] σ (qi K) := by
  refine z_iload_n (pc := 0) (q := 1) (by decide +kernel) rfl ?_
  refine z_if_ne (pc := 1) (off := 8) 9 (by decide +kernel) (by decide) ⟨fun hc => ?_, fun hc => ?_⟩
  · have k := k.1 hc
    refine z_iload_n (pc := 9) (q := 1) (by decide +kernel) rfl ?_
    refine z_iconst (pc := 10) (n := 1) (by decide +kernel) ⟨by decide, by decide⟩ ?_
    refine z_icmp_ne (pc := 11) (off := 10) 21 (by decide +kernel) (by decide) ⟨fun hc => ?_, fun hc => ?_⟩
    · have k := k.1 hc
      refine z_iconst (pc := 21) (n := -1) (by decide +kernel) ⟨by decide, by decide⟩ ?_
      exact z_iret (pc := 22) (by decide +kernel) rfl k
    · have k := k.2 hc
      refine z_aload_n (pc := 14) (q := 0) (by decide +kernel) rfl ?_
      refine z_getI (pc := 15) 3 fl_BC_20 rfl (by decide) rfl (by decide +kernel) ?_
      refine z_goto (pc := 18) (off := 4) 22 (by decide +kernel) (by decide) ?_
      exact z_iret (pc := 22) (by decide +kernel) rfl k
  · have k := k.2 hc
    refine z_aload_n (pc := 4) (q := 0) (by decide +kernel) rfl ?_
    refine z_getI (pc := 5) 2 fl_BC_17 rfl (by decide) rfl (by decide +kernel) ?_
    exact z_iret (pc := 8) (by decide +kernel) rfl k
theorem b_BC_letter_0 {E : EN} {d : Nat} {a1 : Int} {a2 : Int} {σ : Mem} {K : Int → Mem → Prop}  (hd : 1 ≤ d) (k : CI E y_Room_hasLetter (d - 1) [vr 2, vi a1] σ (fun x1 τ1 => (x1 ≠ 0 → (a2 < 0 → Z E y_BC_letter d 34 [some (vr 0), some (vi a1), some (vi a2)] [] τ1 (qi K)) ∧ (0 ≤ a2 → (7 ≤ a2 → Z E y_BC_letter d 34 [some (vr 0), some (vi a1), some (vi a2)] [] τ1 (qi K)) ∧ (a2 < 7 → CI E y_Room_fact (d - 1) [vr 2, vi a1, vi a2] τ1 (fun x2 τ2 => K x2 τ2)))) ∧ (x1 = 0 → K (-2) τ1))) :
    Z E y_BC_letter d 0 [some (vr 0), some (vi a1), some (vi a2)] [] σ (qi K) := by
  refine z_aload_n (pc := 0) (q := 0) (by decide +kernel) rfl ?_
  refine z_getR (pc := 1) 2 fl_BC_26 rfl rfl rfl (by decide +kernel) ?_
  refine z_iload_n (pc := 4) (q := 1) (by decide +kernel) rfl ?_
  refine z_callv (pc := 5) (as := [vi a1]) ml_BC_136 rfl ⟨rfl, by decide⟩ rfl rfl (Nat.le_of_ble_eq_true rfl) (dc := d - 1) (by omega) (by decide +kernel) (CI.z (CI.mono (fun x1 τ1 k => ?_) k))
  refine z_if_ne (pc := 8) (off := 6) 14 (by decide +kernel) (by decide) ⟨fun hc => ?_, fun hc => ?_⟩
  · have k := k.1 hc
    refine z_iload_n (pc := 14) (q := 2) (by decide +kernel) rfl ?_
    refine z_if_lt (pc := 15) (off := 19) 34 (by decide +kernel) (by decide) ⟨fun hc => ?_, fun hc => ?_⟩
    · have k := k.1 hc
      exact k
    · have k := k.2 hc
      refine z_iload_n (pc := 18) (q := 2) (by decide +kernel) rfl ?_
      refine z_bipush (pc := 19) (n := 7) (by decide +kernel) (by decide) ⟨by decide, by decide⟩ ?_
      refine z_icmp_ge (pc := 21) (off := 13) 34 (by decide +kernel) (by decide) ⟨fun hc => ?_, fun hc => ?_⟩
      · have k := k.1 hc
        exact k
      · have k := k.2 hc
        refine z_aload_n (pc := 24) (q := 0) (by decide +kernel) rfl ?_
        refine z_getR (pc := 25) 2 fl_BC_26 rfl rfl rfl (by decide +kernel) ?_
        refine z_iload_n (pc := 28) (q := 1) (by decide +kernel) rfl ?_
        refine z_iload_n (pc := 29) (q := 2) (by decide +kernel) rfl ?_
        refine z_callv (pc := 30) (as := [vi a1, vi a2]) ml_BC_140 rfl ⟨rfl, by decide⟩ rfl rfl (Nat.le_of_ble_eq_true rfl) (dc := d - 1) (by omega) (by decide +kernel) (CI.z (CI.mono (fun x2 τ2 k => ?_) k))
        exact z_iret (pc := 33) (by decide +kernel) rfl k
  · have k := k.2 hc
    refine z_bipush (pc := 11) (n := -2) (by decide +kernel) (by decide) ⟨by decide, by decide⟩ ?_
    exact z_iret (pc := 13) (by decide +kernel) rfl k
theorem b_BC_letter_34 {E : EN} {d : Nat} {a1 : Int} {a2 : Int} {σ : Mem} {K : Int → Mem → Prop}  (k : (a2 ≠ 7 → (a2 ≠ 8 → K (-2) σ) ∧ (a2 = 8 → K (ian (isr (σ 50 1) a1) 1) σ)) ∧ (a2 = 7 → K (ian (isr (σ 50 0) a1) 1) σ)) :
    Z E y_BC_letter d 34 [some (vr 0), some (vi a1), some (vi a2)] [] σ (qi K) := by
  refine z_iload_n (pc := 34) (q := 2) (by decide +kernel) rfl ?_
  refine z_bipush (pc := 35) (n := 7) (by decide +kernel) (by decide) ⟨by decide, by decide⟩ ?_
  refine z_icmp_ne (pc := 37) (off := 15) 52 (by decide +kernel) (by decide) ⟨fun hc => ?_, fun hc => ?_⟩
  · have k := k.1 hc
    refine z_iload_n (pc := 52) (q := 2) (by decide +kernel) rfl ?_
    refine z_bipush (pc := 53) (n := 8) (by decide +kernel) (by decide) ⟨by decide, by decide⟩ ?_
    refine z_icmp_ne (pc := 55) (off := 17) 72 (by decide +kernel) (by decide) ⟨fun hc => ?_, fun hc => ?_⟩
    · have k := k.1 hc
      refine z_bipush (pc := 72) (n := -2) (by decide +kernel) (by decide) ⟨by decide, by decide⟩ ?_
      exact z_iret (pc := 74) (by decide +kernel) rfl k
    · have k := k.2 hc
      refine z_aload_n (pc := 58) (q := 0) (by decide +kernel) rfl ?_
      refine z_getR (pc := 59) 50 fl_BC_36 rfl rfl rfl (by decide +kernel) ?_
      refine z_getI (pc := 62) 1 fl_BC_146 rfl (by decide) rfl (by decide +kernel) ?_
      refine z_iload_n (pc := 65) (q := 1) (by decide +kernel) rfl ?_
      refine z_ishr (pc := 66) (by decide +kernel) ?_
      refine z_iconst (pc := 67) (n := 1) (by decide +kernel) ⟨by decide, by decide⟩ ?_
      refine z_iand (pc := 68) (by decide +kernel) ?_
      refine z_goto (pc := 69) (off := 5) 74 (by decide +kernel) (by decide) ?_
      exact z_iret (pc := 74) (by decide +kernel) rfl k
  · have k := k.2 hc
    refine z_aload_n (pc := 40) (q := 0) (by decide +kernel) rfl ?_
    refine z_getR (pc := 41) 50 fl_BC_36 rfl rfl rfl (by decide +kernel) ?_
    refine z_getI (pc := 44) 0 fl_BC_144 rfl (by decide) rfl (by decide +kernel) ?_
    refine z_iload_n (pc := 47) (q := 1) (by decide +kernel) rfl ?_
    refine z_ishr (pc := 48) (by decide +kernel) ?_
    refine z_iconst (pc := 49) (n := 1) (by decide +kernel) ⟨by decide, by decide⟩ ?_
    refine z_iand (pc := 50) (by decide +kernel) ?_
    exact z_iret (pc := 51) (by decide +kernel) rfl k
theorem b_BC_hand_0 {E : EN} {d : Nat} {a1 : Int} {a2 : Int} {σ : Mem} {K : Int → Mem → Prop}  (hd : 1 ≤ d) (k : CI E y_Room_hasHand (d - 1) [vr 2, vi a1] σ (fun x1 τ1 => (x1 ≠ 0 → (a2 = 0 → (0 ≤ a1 ∧ a1 < 3) ∧ K (τ1 3 a1) τ1) ∧ (a2 = 1 → (0 ≤ a1 ∧ a1 < 3) ∧ K (τ1 4 a1) τ1) ∧ (a2 = 2 → K (ian (isr (τ1 50 2) a1) 1) τ1) ∧ (a2 = 3 → CI E y_Room_lettersOf (d - 1) [vr 2, vi a1] τ1 (fun x2 τ2 => K x2 τ2)) ∧ (a2 < 0 ∨ 3 < a2 → K (-2) τ1)) ∧ (x1 = 0 → K (-2) τ1))) :
    Z E y_BC_hand d 0 [some (vr 0), some (vi a1), some (vi a2)] [] σ (qi K) := by
  refine z_aload_n (pc := 0) (q := 0) (by decide +kernel) rfl ?_
  refine z_getR (pc := 1) 2 fl_BC_26 rfl rfl rfl (by decide +kernel) ?_
  refine z_iload_n (pc := 4) (q := 1) (by decide +kernel) rfl ?_
  refine z_callv (pc := 5) (as := [vi a1]) ml_BC_149 rfl ⟨rfl, by decide⟩ rfl rfl (Nat.le_of_ble_eq_true rfl) (dc := d - 1) (by omega) (by decide +kernel) (CI.z (CI.mono (fun x1 τ1 k => ?_) k))
  refine z_if_ne (pc := 8) (off := 6) 14 (by decide +kernel) (by decide) ⟨fun hc => ?_, fun hc => ?_⟩
  · have k := k.1 hc
    refine z_iload_n (pc := 14) (q := 2) (by decide +kernel) rfl ?_
    have hdg : decode y_BC_hand.2.1 15 = .ok (.tableswitch 70 0 3 #[29, 39, 49, 61], 29) := by decide +kernel
    by_cases hl0 : a2 < 0
    · have k := k.2.2.2.2 (Or.inl hl0)
      refine z_tableOut (pc := 15) 85 hdg (Or.inl hl0) (by decide) ?_
      refine z_bipush (pc := 85) (n := -2) (by decide +kernel) (by decide) ⟨by decide, by decide⟩ ?_
      exact z_iret (pc := 87) (by decide +kernel) rfl k
    have hl : 0 ≤ a2 := Int.not_lt.mp hl0
    by_cases hc : a2 = 0
    · have k := k.1 hc
      refine z_tableIn2 (pc := 15) (off := 29) 44 hdg hc (by decide) (by decide +kernel) (by decide) ?_
      refine z_aload_n (pc := 44) (q := 0) (by decide +kernel) rfl ?_
      refine z_getR (pc := 45) 2 fl_BC_26 rfl rfl rfl (by decide +kernel) ?_
      refine z_getR (pc := 48) 3 fl_BC_152 rfl rfl rfl (by decide +kernel) ?_
      refine z_iload_n (pc := 51) (q := 1) (by decide +kernel) rfl ?_
      have hb1 := k.1
      have k := k.2
      refine z_iald (pc := 52) rfl hb1 (by decide +kernel) ?_
      exact z_iret (pc := 53) (by decide +kernel) rfl k
    have k := k.2
    have hl := ne_up (w := 1) hl hc rfl; clear hc
    by_cases hc : a2 = 1
    · have k := k.1 hc
      refine z_tableIn2 (pc := 15) (off := 39) 54 hdg hc (by decide) (by decide +kernel) (by decide) ?_
      refine z_aload_n (pc := 54) (q := 0) (by decide +kernel) rfl ?_
      refine z_getR (pc := 55) 2 fl_BC_26 rfl rfl rfl (by decide +kernel) ?_
      refine z_getR (pc := 58) 4 fl_BC_156 rfl rfl rfl (by decide +kernel) ?_
      refine z_iload_n (pc := 61) (q := 1) (by decide +kernel) rfl ?_
      have hb2 := k.1
      have k := k.2
      refine z_iald (pc := 62) rfl hb2 (by decide +kernel) ?_
      exact z_iret (pc := 63) (by decide +kernel) rfl k
    have k := k.2
    have hl := ne_up (w := 2) hl hc rfl; clear hc
    by_cases hc : a2 = 2
    · have k := k.1 hc
      refine z_tableIn2 (pc := 15) (off := 49) 64 hdg hc (by decide) (by decide +kernel) (by decide) ?_
      refine z_aload_n (pc := 64) (q := 0) (by decide +kernel) rfl ?_
      refine z_getR (pc := 65) 50 fl_BC_36 rfl rfl rfl (by decide +kernel) ?_
      refine z_getI (pc := 68) 2 fl_BC_159 rfl (by decide) rfl (by decide +kernel) ?_
      refine z_iload_n (pc := 71) (q := 1) (by decide +kernel) rfl ?_
      refine z_ishr (pc := 72) (by decide +kernel) ?_
      refine z_iconst (pc := 73) (n := 1) (by decide +kernel) ⟨by decide, by decide⟩ ?_
      refine z_iand (pc := 74) (by decide +kernel) ?_
      exact z_iret (pc := 75) (by decide +kernel) rfl k
    have k := k.2
    have hl := ne_up (w := 3) hl hc rfl; clear hc
    by_cases hc : a2 = 3
    · have k := k.1 hc
      refine z_tableIn2 (pc := 15) (off := 61) 76 hdg hc (by decide) (by decide +kernel) (by decide) ?_
      refine z_aload_n (pc := 76) (q := 0) (by decide +kernel) rfl ?_
      refine z_getR (pc := 77) 2 fl_BC_26 rfl rfl rfl (by decide +kernel) ?_
      refine z_iload_n (pc := 80) (q := 1) (by decide +kernel) rfl ?_
      refine z_callv (pc := 81) (as := [vi a1]) ml_BC_162 rfl ⟨rfl, by decide⟩ rfl rfl (Nat.le_of_ble_eq_true rfl) (dc := d - 1) (by omega) (by decide +kernel) (CI.z (CI.mono (fun x2 τ2 k => ?_) k))
      exact z_iret (pc := 84) (by decide +kernel) rfl k
    have k := k.2
    have hl := ne_up (w := 4) hl hc rfl; clear hc
    have hl := Int.lt_of_add_one_le (a := 3) hl
    have k := k (Or.inr hl)
    refine z_tableOut (pc := 15) 85 hdg (Or.inr hl) (by decide) ?_
    refine z_bipush (pc := 85) (n := -2) (by decide +kernel) (by decide) ⟨by decide, by decide⟩ ?_
    exact z_iret (pc := 87) (by decide +kernel) rfl k
  · have k := k.2 hc
    refine z_bipush (pc := 11) (n := -2) (by decide +kernel) (by decide) ⟨by decide, by decide⟩ ?_
    exact z_iret (pc := 13) (by decide +kernel) rfl k
theorem b_BC_court_0 {E : EN} {d : Nat} {a1 : Int} {σ : Mem} {K : Int → Mem → Prop}  (k : (a1 < 0 → K (-2) σ) ∧ (0 ≤ a1 → (σ 2 2 ≤ a1 → K (-2) σ) ∧ (a1 < σ 2 2 → (4 ≤ a1 → K (-2) σ) ∧ (a1 < 4 → (0 ≤ a1 ∧ a1 < 4) ∧ K (σ 5 a1) σ)))) :
    Z E y_BC_court d 0 [some (vr 0), some (vi a1)] [] σ (qi K) := by
  refine z_iload_n (pc := 0) (q := 1) (by decide +kernel) rfl ?_
  refine z_if_lt (pc := 1) (off := 31) 32 (by decide +kernel) (by decide) ⟨fun hc => ?_, fun hc => ?_⟩
  · have k := k.1 hc
    refine z_bipush (pc := 32) (n := -2) (by decide +kernel) (by decide) ⟨by decide, by decide⟩ ?_
    exact z_iret (pc := 34) (by decide +kernel) rfl k
  · have k := k.2 hc
    refine z_iload_n (pc := 4) (q := 1) (by decide +kernel) rfl ?_
    refine z_aload_n (pc := 5) (q := 0) (by decide +kernel) rfl ?_
    refine z_getR (pc := 6) 2 fl_BC_26 rfl rfl rfl (by decide +kernel) ?_
    refine z_getI (pc := 9) 2 fl_BC_166 rfl (by decide) rfl (by decide +kernel) ?_
    refine z_icmp_ge (pc := 12) (off := 20) 32 (by decide +kernel) (by decide) ⟨fun hc => ?_, fun hc => ?_⟩
    · have k := k.1 hc
      refine z_bipush (pc := 32) (n := -2) (by decide +kernel) (by decide) ⟨by decide, by decide⟩ ?_
      exact z_iret (pc := 34) (by decide +kernel) rfl k
    · have k := k.2 hc
      refine z_iload_n (pc := 15) (q := 1) (by decide +kernel) rfl ?_
      refine z_iconst (pc := 16) (n := 4) (by decide +kernel) ⟨by decide, by decide⟩ ?_
      refine z_icmp_ge (pc := 17) (off := 15) 32 (by decide +kernel) (by decide) ⟨fun hc => ?_, fun hc => ?_⟩
      · have k := k.1 hc
        refine z_bipush (pc := 32) (n := -2) (by decide +kernel) (by decide) ⟨by decide, by decide⟩ ?_
        exact z_iret (pc := 34) (by decide +kernel) rfl k
      · have k := k.2 hc
        refine z_aload_n (pc := 20) (q := 0) (by decide +kernel) rfl ?_
        refine z_getR (pc := 21) 2 fl_BC_26 rfl rfl rfl (by decide +kernel) ?_
        refine z_getR (pc := 24) 5 fl_BC_169 rfl rfl rfl (by decide +kernel) ?_
        refine z_iload_n (pc := 27) (q := 1) (by decide +kernel) rfl ?_
        have hb1 := k.1
        have k := k.2
        refine z_iald (pc := 28) rfl hb1 (by decide +kernel) ?_
        refine z_goto (pc := 29) (off := 5) 34 (by decide +kernel) (by decide) ?_
        exact z_iret (pc := 34) (by decide +kernel) rfl k
theorem b_BC_takes_0 {E : EN} {d : Nat} {a1 : Int} {a2 : Int} {σ : Mem} {K : Int → Mem → Prop}  (hd : 1 ≤ d) (k : CI E y_Room_hasLetter (d - 1) [vr 2, vi a1] σ (fun x1 τ1 => (x1 ≠ 0 → (a2 = 0 → (0 ≤ a1 ∧ a1 < 6) ∧ K (τ1 8 a1) τ1) ∧ (a2 = 1 → (0 ≤ a1 ∧ a1 < 6) ∧ K (τ1 9 a1) τ1) ∧ (a2 = 2 → (0 ≤ a1 ∧ a1 < 6) ∧ K (τ1 10 a1) τ1) ∧ (a2 < 0 ∨ 2 < a2 → K (-2) τ1)) ∧ (x1 = 0 → K (-2) τ1))) :
    Z E y_BC_takes d 0 [some (vr 0), some (vi a1), some (vi a2)] [] σ (qi K) := by
  refine z_aload_n (pc := 0) (q := 0) (by decide +kernel) rfl ?_
  refine z_getR (pc := 1) 2 fl_BC_26 rfl rfl rfl (by decide +kernel) ?_
  refine z_iload_n (pc := 4) (q := 1) (by decide +kernel) rfl ?_
  refine z_callv (pc := 5) (as := [vi a1]) ml_BC_136 rfl ⟨rfl, by decide⟩ rfl rfl (Nat.le_of_ble_eq_true rfl) (dc := d - 1) (by omega) (by decide +kernel) (CI.z (CI.mono (fun x1 τ1 k => ?_) k))
  refine z_if_ne (pc := 8) (off := 6) 14 (by decide +kernel) (by decide) ⟨fun hc => ?_, fun hc => ?_⟩
  · have k := k.1 hc
    refine z_iload_n (pc := 14) (q := 2) (by decide +kernel) rfl ?_
    have hdg : decode y_BC_takes.2.1 15 = .ok (.tableswitch 55 0 2 #[25, 35, 45], 25) := by decide +kernel
    by_cases hl0 : a2 < 0
    · have k := k.2.2.2 (Or.inl hl0)
      refine z_tableOut (pc := 15) 70 hdg (Or.inl hl0) (by decide) ?_
      refine z_bipush (pc := 70) (n := -2) (by decide +kernel) (by decide) ⟨by decide, by decide⟩ ?_
      exact z_iret (pc := 72) (by decide +kernel) rfl k
    have hl : 0 ≤ a2 := Int.not_lt.mp hl0
    by_cases hc : a2 = 0
    · have k := k.1 hc
      refine z_tableIn2 (pc := 15) (off := 25) 40 hdg hc (by decide) (by decide +kernel) (by decide) ?_
      refine z_aload_n (pc := 40) (q := 0) (by decide +kernel) rfl ?_
      refine z_getR (pc := 41) 2 fl_BC_26 rfl rfl rfl (by decide +kernel) ?_
      refine z_getR (pc := 44) 8 fl_BC_172 rfl rfl rfl (by decide +kernel) ?_
      refine z_iload_n (pc := 47) (q := 1) (by decide +kernel) rfl ?_
      have hb1 := k.1
      have k := k.2
      refine z_iald (pc := 48) rfl hb1 (by decide +kernel) ?_
      exact z_iret (pc := 49) (by decide +kernel) rfl k
    have k := k.2
    have hl := ne_up (w := 1) hl hc rfl; clear hc
    by_cases hc : a2 = 1
    · have k := k.1 hc
      refine z_tableIn2 (pc := 15) (off := 35) 50 hdg hc (by decide) (by decide +kernel) (by decide) ?_
      refine z_aload_n (pc := 50) (q := 0) (by decide +kernel) rfl ?_
      refine z_getR (pc := 51) 2 fl_BC_26 rfl rfl rfl (by decide +kernel) ?_
      refine z_getR (pc := 54) 9 fl_BC_175 rfl rfl rfl (by decide +kernel) ?_
      refine z_iload_n (pc := 57) (q := 1) (by decide +kernel) rfl ?_
      have hb2 := k.1
      have k := k.2
      refine z_iald (pc := 58) rfl hb2 (by decide +kernel) ?_
      exact z_iret (pc := 59) (by decide +kernel) rfl k
    have k := k.2
    have hl := ne_up (w := 2) hl hc rfl; clear hc
    by_cases hc : a2 = 2
    · have k := k.1 hc
      refine z_tableIn2 (pc := 15) (off := 45) 60 hdg hc (by decide) (by decide +kernel) (by decide) ?_
      refine z_aload_n (pc := 60) (q := 0) (by decide +kernel) rfl ?_
      refine z_getR (pc := 61) 2 fl_BC_26 rfl rfl rfl (by decide +kernel) ?_
      refine z_getR (pc := 64) 10 fl_BC_178 rfl rfl rfl (by decide +kernel) ?_
      refine z_iload_n (pc := 67) (q := 1) (by decide +kernel) rfl ?_
      have hb3 := k.1
      have k := k.2
      refine z_iald (pc := 68) rfl hb3 (by decide +kernel) ?_
      exact z_iret (pc := 69) (by decide +kernel) rfl k
    have k := k.2
    have hl := ne_up (w := 3) hl hc rfl; clear hc
    have hl := Int.lt_of_add_one_le (a := 2) hl
    have k := k (Or.inr hl)
    refine z_tableOut (pc := 15) 70 hdg (Or.inr hl) (by decide) ?_
    refine z_bipush (pc := 70) (n := -2) (by decide +kernel) (by decide) ⟨by decide, by decide⟩ ?_
    exact z_iret (pc := 72) (by decide +kernel) rfl k
  · have k := k.2 hc
    refine z_bipush (pc := 11) (n := -2) (by decide +kernel) (by decide) ⟨by decide, by decide⟩ ?_
    exact z_iret (pc := 13) (by decide +kernel) rfl k
theorem b_BC_copies_0 {E : EN} {d : Nat} {a1 : Int} {a2 : Int} {σ : Mem} {K : Int → Mem → Prop}  (hd : 1 ≤ d) (k : CI E y_Room_hasLetter (d - 1) [vr 2, vi a1] σ (fun x1 τ1 => (x1 = 0 → K (-2) τ1) ∧ (x1 ≠ 0 → CI E y_Room_hasHand (d - 1) [vr 2, vi a2] τ1 (fun x2 τ2 => (x2 = 0 → K (-2) τ2) ∧ (x2 ≠ 0 → CI E y_Room_copyTime (d - 1) [vr 2, vi a1, vi a2] τ2 (fun x3 τ3 => K x3 τ3)))))) :
    Z E y_BC_copies d 0 [some (vr 0), some (vi a1), some (vi a2)] [] σ (qi K) := by
  refine z_aload_n (pc := 0) (q := 0) (by decide +kernel) rfl ?_
  refine z_getR (pc := 1) 2 fl_BC_26 rfl rfl rfl (by decide +kernel) ?_
  refine z_iload_n (pc := 4) (q := 1) (by decide +kernel) rfl ?_
  refine z_callv (pc := 5) (as := [vi a1]) ml_BC_136 rfl ⟨rfl, by decide⟩ rfl rfl (Nat.le_of_ble_eq_true rfl) (dc := d - 1) (by omega) (by decide +kernel) (CI.z (CI.mono (fun x1 τ1 k => ?_) k))
  refine z_if_eq (pc := 8) (off := 26) 34 (by decide +kernel) (by decide) ⟨fun hc => ?_, fun hc => ?_⟩
  · have k := k.1 hc
    refine z_bipush (pc := 34) (n := -2) (by decide +kernel) (by decide) ⟨by decide, by decide⟩ ?_
    exact z_iret (pc := 36) (by decide +kernel) rfl k
  · have k := k.2 hc
    refine z_aload_n (pc := 11) (q := 0) (by decide +kernel) rfl ?_
    refine z_getR (pc := 12) 2 fl_BC_26 rfl rfl rfl (by decide +kernel) ?_
    refine z_iload_n (pc := 15) (q := 2) (by decide +kernel) rfl ?_
    refine z_callv (pc := 16) (as := [vi a2]) ml_BC_149 rfl ⟨rfl, by decide⟩ rfl rfl (Nat.le_of_ble_eq_true rfl) (dc := d - 1) (by omega) (by decide +kernel) (CI.z (CI.mono (fun x2 τ2 k => ?_) k))
    refine z_if_eq (pc := 19) (off := 15) 34 (by decide +kernel) (by decide) ⟨fun hc => ?_, fun hc => ?_⟩
    · have k := k.1 hc
      refine z_bipush (pc := 34) (n := -2) (by decide +kernel) (by decide) ⟨by decide, by decide⟩ ?_
      exact z_iret (pc := 36) (by decide +kernel) rfl k
    · have k := k.2 hc
      refine z_aload_n (pc := 22) (q := 0) (by decide +kernel) rfl ?_
      refine z_getR (pc := 23) 2 fl_BC_26 rfl rfl rfl (by decide +kernel) ?_
      refine z_iload_n (pc := 26) (q := 1) (by decide +kernel) rfl ?_
      refine z_iload_n (pc := 27) (q := 2) (by decide +kernel) rfl ?_
      refine z_callv (pc := 28) (as := [vi a1, vi a2]) ml_BC_181 rfl ⟨rfl, by decide⟩ rfl rfl (Nat.le_of_ble_eq_true rfl) (dc := d - 1) (by omega) (by decide +kernel) (CI.z (CI.mono (fun x3 τ3 k => ?_) k))
      refine z_goto (pc := 31) (off := 5) 36 (by decide +kernel) (by decide) ?_
      exact z_iret (pc := 36) (by decide +kernel) rfl k
theorem b_BC_name_0 {E : EN} {d : Nat} {a1 : Int} {σ : Mem} {K : Int → Mem → Prop}  (k : (0 ≤ a1 → (σ 2 6 ≤ a1 → K (-1) σ) ∧ (a1 < σ 2 6 → (8 ≤ a1 → K (-1) σ) ∧ (a1 < 8 → (0 ≤ a1 ∧ a1 < 8) ∧ K (σ 7 a1) σ))) ∧ (a1 < 0 → K (-3) σ)) :
    Z E y_BC_name d 0 [some (vr 0), some (vi a1)] [] σ (qi K) := by
  refine z_iload_n (pc := 0) (q := 1) (by decide +kernel) rfl ?_
  refine z_if_ge (pc := 1) (off := 6) 7 (by decide +kernel) (by decide) ⟨fun hc => ?_, fun hc => ?_⟩
  · have k := k.1 hc
    refine z_iload_n (pc := 7) (q := 1) (by decide +kernel) rfl ?_
    refine z_aload_n (pc := 8) (q := 0) (by decide +kernel) rfl ?_
    refine z_getR (pc := 9) 2 fl_BC_26 rfl rfl rfl (by decide +kernel) ?_
    refine z_getI (pc := 12) 6 fl_BC_184 rfl (by decide) rfl (by decide +kernel) ?_
    refine z_icmp_ge (pc := 15) (off := 21) 36 (by decide +kernel) (by decide) ⟨fun hc => ?_, fun hc => ?_⟩
    · have k := k.1 hc
      refine z_iconst (pc := 36) (n := -1) (by decide +kernel) ⟨by decide, by decide⟩ ?_
      exact z_iret (pc := 37) (by decide +kernel) rfl k
    · have k := k.2 hc
      refine z_iload_n (pc := 18) (q := 1) (by decide +kernel) rfl ?_
      refine z_bipush (pc := 19) (n := 8) (by decide +kernel) (by decide) ⟨by decide, by decide⟩ ?_
      refine z_icmp_ge (pc := 21) (off := 15) 36 (by decide +kernel) (by decide) ⟨fun hc => ?_, fun hc => ?_⟩
      · have k := k.1 hc
        refine z_iconst (pc := 36) (n := -1) (by decide +kernel) ⟨by decide, by decide⟩ ?_
        exact z_iret (pc := 37) (by decide +kernel) rfl k
      · have k := k.2 hc
        refine z_aload_n (pc := 24) (q := 0) (by decide +kernel) rfl ?_
        refine z_getR (pc := 25) 2 fl_BC_26 rfl rfl rfl (by decide +kernel) ?_
        refine z_getR (pc := 28) 7 fl_BC_187 rfl rfl rfl (by decide +kernel) ?_
        refine z_iload_n (pc := 31) (q := 1) (by decide +kernel) rfl ?_
        have hb1 := k.1
        have k := k.2
        refine z_iald (pc := 32) rfl hb1 (by decide +kernel) ?_
        refine z_goto (pc := 33) (off := 4) 37 (by decide +kernel) (by decide) ?_
        exact z_iret (pc := 37) (by decide +kernel) rfl k
  · have k := k.2 hc
    refine z_bipush (pc := 4) (n := -3) (by decide +kernel) (by decide) ⟨by decide, by decide⟩ ?_
    exact z_iret (pc := 6) (by decide +kernel) rfl k
theorem b_BC_seed_0 {E : EN} {d : Nat} {a1 : Int} {σ : Mem} {K : Int → Mem → Prop}  (hd : 1 ≤ d) (k : CV E y_Past_keep (d - 1) [vr 52, vr 50] σ (fun τ1 => K (σ 50 4) (up τ1 50 4 a1))) :
    Z E y_BC_seed d 0 [some (vr 0), some (vi a1), none] [] σ (qi K) := by
  refine z_aload_n (pc := 0) (q := 0) (by decide +kernel) rfl ?_
  refine z_getR (pc := 1) 50 fl_BC_36 rfl rfl rfl (by decide +kernel) ?_
  refine z_getI (pc := 4) 4 fl_BC_190 rfl (by decide) rfl (by decide +kernel) ?_
  refine z_istore_n (pc := 7) (q := 2) [some (vr 0), some (vi a1), some (vi (σ 50 4))] (by decide +kernel) (Nat.le_of_ble_eq_true rfl) rfl ?_
  refine z_aload_n (pc := 8) (q := 0) (by decide +kernel) rfl ?_
  refine z_getR (pc := 9) 52 fl_BC_46 rfl rfl rfl (by decide +kernel) ?_
  refine z_aload_n (pc := 12) (q := 0) (by decide +kernel) rfl ?_
  refine z_getR (pc := 13) 50 fl_BC_36 rfl rfl rfl (by decide +kernel) ?_
  refine z_callv (pc := 16) (as := [vr 50]) ml_BC_193 rfl ⟨rfl, by decide⟩ rfl rfl (Nat.le_of_ble_eq_true rfl) (dc := d - 1) (by omega) (by decide +kernel) (CV.z (CV.mono (fun τ1 k => ?_) k))
  refine z_aload_n (pc := 19) (q := 0) (by decide +kernel) rfl ?_
  refine z_getR (pc := 20) 50 fl_BC_36 rfl rfl rfl (by decide +kernel) ?_
  refine z_iload_n (pc := 23) (q := 1) (by decide +kernel) rfl ?_
  refine z_putI (pc := 24) 4 fp_BC_190 rfl rfl rfl (by decide +kernel) ?_
  refine z_iload_n (pc := 27) (q := 2) (by decide +kernel) rfl ?_
  exact z_iret (pc := 28) (by decide +kernel) rfl k
theorem b_BC_morning_0 {E : EN} {d : Nat} {a1 : Int} {σ : Mem} {K : Int → Mem → Prop}  (hd : 1 ≤ d) (k : CI E y_BC_trayCode (d - 1) [vr 0, vi a1] σ (fun x1 τ1 => (x1 = 0 → (0 ≤ a1 ∧ a1 < 4) ∧ CV E y_Doer_layRow (d - 1) [vr 91, vr (102 + 2 * (a1).toNat), vi 40, vr 50] τ1 (fun τ2 => (τ2 91 3 = 0 → CV E y_Past_keep (d - 1) [vr 52, vr 50] τ2 (fun τ3 => CI E y_Doer_readRow (d - 1) [vr 91, vr 50] τ3 (fun x4 τ4 => K x4 τ4))) ∧ (τ2 91 3 ≠ 0 → K (w32 ((-10) - (τ2 91 3))) τ2))) ∧ (x1 ≠ 0 → K x1 τ1))) :
    Z E y_BC_morning d 0 [some (vr 0), some (vi a1), none] [] σ (qi K) := by
  refine z_aload_n (pc := 0) (q := 0) (by decide +kernel) rfl ?_
  refine z_iload_n (pc := 1) (q := 1) (by decide +kernel) rfl ?_
  refine z_callv (pc := 2) (as := [vi a1]) ml_BC_197 rfl ⟨rfl, by decide⟩ rfl rfl (Nat.le_of_ble_eq_true rfl) (dc := d - 1) (by omega) (by decide +kernel) (CI.z (CI.mono (fun x1 τ1 k => ?_) k))
  refine z_istore_n (pc := 5) (q := 2) [some (vr 0), some (vi a1), some (vi x1)] (by decide +kernel) (Nat.le_of_ble_eq_true rfl) rfl ?_
  refine z_iload_n (pc := 6) (q := 2) (by decide +kernel) rfl ?_
  refine z_if_eq (pc := 7) (off := 5) 12 (by decide +kernel) (by decide) ⟨fun hc => ?_, fun hc => ?_⟩
  · have k := k.1 hc
    refine z_aload_n (pc := 12) (q := 0) (by decide +kernel) rfl ?_
    refine z_getR (pc := 13) 91 fl_BC_73 rfl rfl rfl (by decide +kernel) ?_
    refine z_aload_n (pc := 16) (q := 0) (by decide +kernel) rfl ?_
    refine z_getR (pc := 17) 101 fl_BC_93 rfl rfl rfl (by decide +kernel) ?_
    refine z_iload_n (pc := 20) (q := 1) (by decide +kernel) rfl ?_
    have hb1 := k.1
    have k := k.2
    refine z_aald (pc := 21) (102 + 2 * (a1).toNat) rfl (by decide) (rf_trays hb1) hb1 (by decide +kernel) ?_
    refine z_bipush (pc := 22) (n := 40) (by decide +kernel) (by decide) ⟨by decide, by decide⟩ ?_
    refine z_aload_n (pc := 24) (q := 0) (by decide +kernel) rfl ?_
    refine z_getR (pc := 25) 50 fl_BC_36 rfl rfl rfl (by decide +kernel) ?_
    refine z_callv (pc := 28) (as := [vr (102 + 2 * (a1).toNat), vi 40, vr 50]) ml_BC_200 rfl ⟨rfl, by decide⟩ rfl rfl (Nat.le_of_ble_eq_true rfl) (dc := d - 1) (by omega) (by decide +kernel) (CV.z (CV.mono (fun τ2 k => ?_) k))
    refine z_aload_n (pc := 31) (q := 0) (by decide +kernel) rfl ?_
    refine z_getR (pc := 32) 91 fl_BC_73 rfl rfl rfl (by decide +kernel) ?_
    refine z_getI (pc := 35) 3 fl_BC_204 rfl (by decide) rfl (by decide +kernel) ?_
    refine z_if_eq (pc := 38) (off := 14) 52 (by decide +kernel) (by decide) ⟨fun hc => ?_, fun hc => ?_⟩
    · have k := k.1 hc
      refine z_aload_n (pc := 52) (q := 0) (by decide +kernel) rfl ?_
      refine z_getR (pc := 53) 52 fl_BC_46 rfl rfl rfl (by decide +kernel) ?_
      refine z_aload_n (pc := 56) (q := 0) (by decide +kernel) rfl ?_
      refine z_getR (pc := 57) 50 fl_BC_36 rfl rfl rfl (by decide +kernel) ?_
      refine z_callv (pc := 60) (as := [vr 50]) ml_BC_193 rfl ⟨rfl, by decide⟩ rfl rfl (Nat.le_of_ble_eq_true rfl) (dc := d - 1) (by omega) (by decide +kernel) (CV.z (CV.mono (fun τ3 k => ?_) k))
      refine z_aload_n (pc := 63) (q := 0) (by decide +kernel) rfl ?_
      refine z_getR (pc := 64) 91 fl_BC_73 rfl rfl rfl (by decide +kernel) ?_
      refine z_aload_n (pc := 67) (q := 0) (by decide +kernel) rfl ?_
      refine z_getR (pc := 68) 50 fl_BC_36 rfl rfl rfl (by decide +kernel) ?_
      refine z_callv (pc := 71) (as := [vr 50]) ml_BC_207 rfl ⟨rfl, by decide⟩ rfl rfl (Nat.le_of_ble_eq_true rfl) (dc := d - 1) (by omega) (by decide +kernel) (CI.z (CI.mono (fun x4 τ4 k => ?_) k))
      exact z_iret (pc := 74) (by decide +kernel) rfl k
    · have k := k.2 hc
      refine z_bipush (pc := 41) (n := -10) (by decide +kernel) (by decide) ⟨by decide, by decide⟩ ?_
      refine z_aload_n (pc := 43) (q := 0) (by decide +kernel) rfl ?_
      refine z_getR (pc := 44) 91 fl_BC_73 rfl rfl rfl (by decide +kernel) ?_
      refine z_getI (pc := 47) 3 fl_BC_204 rfl (by decide) rfl (by decide +kernel) ?_
      refine z_isub (pc := 50) (by decide +kernel) ?_
      exact z_iret (pc := 51) (by decide +kernel) rfl k
  · have k := k.2 hc
    refine z_iload_n (pc := 10) (q := 2) (by decide +kernel) rfl ?_
    exact z_iret (pc := 11) (by decide +kernel) rfl k
theorem b_BC_byRule_0 {E : EN} {d : Nat}  {σ : Mem} {K : Int → Mem → Prop}  (hd : 1 ≤ d) (k : CV E y_Past_keep (d - 1) [vr 52, vr 50] σ (fun τ1 => CI E y_Room_allLetters (d - 1) [vr 2] τ1 (fun x2 τ2 => CV E y_Doer_ruleRow (d - 1) [vr 91, vi (ian x2 (ixo (τ2 50 0) (-1))), vi (τ2 50 2)] τ2 (fun τ3 => CI E y_Doer_readRow (d - 1) [vr 91, vr 50] τ3 (fun x4 τ4 => K (τ3 73 2) τ4))))) :
    Z E y_BC_byRule d 0 [some (vr 0), none] [] σ (qi K) := by
  refine z_aload_n (pc := 0) (q := 0) (by decide +kernel) rfl ?_
  refine z_getR (pc := 1) 52 fl_BC_46 rfl rfl rfl (by decide +kernel) ?_
  refine z_aload_n (pc := 4) (q := 0) (by decide +kernel) rfl ?_
  refine z_getR (pc := 5) 50 fl_BC_36 rfl rfl rfl (by decide +kernel) ?_
  refine z_callv (pc := 8) (as := [vr 50]) ml_BC_193 rfl ⟨rfl, by decide⟩ rfl rfl (Nat.le_of_ble_eq_true rfl) (dc := d - 1) (by omega) (by decide +kernel) (CV.z (CV.mono (fun τ1 k => ?_) k))
  refine z_aload_n (pc := 11) (q := 0) (by decide +kernel) rfl ?_
  refine z_getR (pc := 12) 91 fl_BC_73 rfl rfl rfl (by decide +kernel) ?_
  refine z_aload_n (pc := 15) (q := 0) (by decide +kernel) rfl ?_
  refine z_getR (pc := 16) 2 fl_BC_26 rfl rfl rfl (by decide +kernel) ?_
  refine z_callv (pc := 19) (as := []) ml_BC_211 rfl ⟨rfl, by decide⟩ rfl rfl (Nat.le_of_ble_eq_true rfl) (dc := d - 1) (by omega) (by decide +kernel) (CI.z (CI.mono (fun x2 τ2 k => ?_) k))
  refine z_aload_n (pc := 22) (q := 0) (by decide +kernel) rfl ?_
  refine z_getR (pc := 23) 50 fl_BC_36 rfl rfl rfl (by decide +kernel) ?_
  refine z_getI (pc := 26) 0 fl_BC_144 rfl (by decide) rfl (by decide +kernel) ?_
  refine z_iconst (pc := 29) (n := -1) (by decide +kernel) ⟨by decide, by decide⟩ ?_
  refine z_ixor (pc := 30) (by decide +kernel) ?_
  refine z_iand (pc := 31) (by decide +kernel) ?_
  refine z_aload_n (pc := 32) (q := 0) (by decide +kernel) rfl ?_
  refine z_getR (pc := 33) 50 fl_BC_36 rfl rfl rfl (by decide +kernel) ?_
  refine z_getI (pc := 36) 2 fl_BC_159 rfl (by decide) rfl (by decide +kernel) ?_
  refine z_callv (pc := 39) (as := [vi (ian x2 (ixo (τ2 50 0) (-1))), vi (τ2 50 2)]) ml_BC_214 rfl ⟨rfl, by decide⟩ rfl rfl (Nat.le_of_ble_eq_true rfl) (dc := d - 1) (by omega) (by decide +kernel) (CV.z (CV.mono (fun τ3 k => ?_) k))
  refine z_aload_n (pc := 42) (q := 0) (by decide +kernel) rfl ?_
  refine z_getR (pc := 43) 73 fl_BC_64 rfl rfl rfl (by decide +kernel) ?_
  refine z_getI (pc := 46) 2 fl_BC_218 rfl (by decide) rfl (by decide +kernel) ?_
  refine z_istore_n (pc := 49) (q := 1) [some (vr 0), some (vi (τ3 73 2))] (by decide +kernel) (Nat.le_of_ble_eq_true rfl) rfl ?_
  refine z_aload_n (pc := 50) (q := 0) (by decide +kernel) rfl ?_
  refine z_getR (pc := 51) 91 fl_BC_73 rfl rfl rfl (by decide +kernel) ?_
  refine z_aload_n (pc := 54) (q := 0) (by decide +kernel) rfl ?_
  refine z_getR (pc := 55) 50 fl_BC_36 rfl rfl rfl (by decide +kernel) ?_
  refine z_callv (pc := 58) (as := [vr 50]) ml_BC_207 rfl ⟨rfl, by decide⟩ rfl rfl (Nat.le_of_ble_eq_true rfl) (dc := d - 1) (by omega) (by decide +kernel) (CI.z (CI.mono (fun x4 τ4 k => ?_) k))
  refine z_pop (pc := 61) (by decide +kernel) rfl ?_
  refine z_iload_n (pc := 62) (q := 1) (by decide +kernel) rfl ?_
  exact z_iret (pc := 63) (by decide +kernel) rfl k
theorem b_BC_sleeps_0 {E : EN} {d : Nat} {a1 : Int} {σ : Mem} {K : Int → Mem → Prop}  (hd : 1 ≤ d) (k : CI E y_Room_hasHand (d - 1) [vr 2, vi a1] σ (fun x1 τ1 => (x1 ≠ 0 → CV E y_Past_keep (d - 1) [vr 52, vr 50] τ1 (fun τ2 => K (ian (isr (ixo (τ2 50 2) (ish 1 a1)) a1) 1) (up τ2 50 2 (ixo (τ2 50 2) (ish 1 a1))))) ∧ (x1 = 0 → K (-2) τ1))) :
    Z E y_BC_sleeps d 0 [some (vr 0), some (vi a1)] [] σ (qi K) := by
  refine z_aload_n (pc := 0) (q := 0) (by decide +kernel) rfl ?_
  refine z_getR (pc := 1) 2 fl_BC_26 rfl rfl rfl (by decide +kernel) ?_
  refine z_iload_n (pc := 4) (q := 1) (by decide +kernel) rfl ?_
  refine z_callv (pc := 5) (as := [vi a1]) ml_BC_149 rfl ⟨rfl, by decide⟩ rfl rfl (Nat.le_of_ble_eq_true rfl) (dc := d - 1) (by omega) (by decide +kernel) (CI.z (CI.mono (fun x1 τ1 k => ?_) k))
  refine z_if_ne (pc := 8) (off := 6) 14 (by decide +kernel) (by decide) ⟨fun hc => ?_, fun hc => ?_⟩
  · have k := k.1 hc
    refine z_aload_n (pc := 14) (q := 0) (by decide +kernel) rfl ?_
    refine z_getR (pc := 15) 52 fl_BC_46 rfl rfl rfl (by decide +kernel) ?_
    refine z_aload_n (pc := 18) (q := 0) (by decide +kernel) rfl ?_
    refine z_getR (pc := 19) 50 fl_BC_36 rfl rfl rfl (by decide +kernel) ?_
    refine z_callv (pc := 22) (as := [vr 50]) ml_BC_193 rfl ⟨rfl, by decide⟩ rfl rfl (Nat.le_of_ble_eq_true rfl) (dc := d - 1) (by omega) (by decide +kernel) (CV.z (CV.mono (fun τ2 k => ?_) k))
    refine z_aload_n (pc := 25) (q := 0) (by decide +kernel) rfl ?_
    refine z_getR (pc := 26) 50 fl_BC_36 rfl rfl rfl (by decide +kernel) ?_
    refine z_dup (pc := 29) (by decide +kernel) rfl ?_
    refine z_getI (pc := 30) 2 fl_BC_159 rfl (by decide) rfl (by decide +kernel) ?_
    refine z_iconst (pc := 33) (n := 1) (by decide +kernel) ⟨by decide, by decide⟩ ?_
    refine z_iload_n (pc := 34) (q := 1) (by decide +kernel) rfl ?_
    refine z_ishl (pc := 35) (by decide +kernel) ?_
    refine z_ixor (pc := 36) (by decide +kernel) ?_
    refine z_putI (pc := 37) 2 fp_BC_159 rfl rfl rfl (by decide +kernel) ?_
    refine z_aload_n (pc := 40) (q := 0) (by decide +kernel) rfl ?_
    refine z_getR (pc := 41) 50 fl_BC_36 rfl rfl rfl (by decide +kernel) ?_
    refine z_getI (pc := 44) 2 fl_BC_159 rfl (by decide) rfl (by decide +kernel) ?_
    refine z_topI (up_same _ _ _ _) ?_
    refine z_iload_n (pc := 47) (q := 1) (by decide +kernel) rfl ?_
    refine z_ishr (pc := 48) (by decide +kernel) ?_
    refine z_iconst (pc := 49) (n := 1) (by decide +kernel) ⟨by decide, by decide⟩ ?_
    refine z_iand (pc := 50) (by decide +kernel) ?_
    exact z_iret (pc := 51) (by decide +kernel) rfl k
  · have k := k.2 hc
    refine z_bipush (pc := 11) (n := -2) (by decide +kernel) (by decide) ⟨by decide, by decide⟩ ?_
    exact z_iret (pc := 13) (by decide +kernel) rfl k
theorem b_BC_undo_0 {E : EN} {d : Nat} {a1 : Int} {σ : Mem} {K : Int → Mem → Prop}  (hd : 1 ≤ d) (k : (a1 < 1 → K (-3) σ) ∧ (1 ≤ a1 → (10 < a1 → K (-3) σ) ∧ (a1 ≤ 10 → (a1 ≤ σ 52 2 → CV E y_Past_bringBack (d - 1) [vr 52, vi a1, vr 50] σ (fun τ1 => K (τ1 52 2) τ1)) ∧ (σ 52 2 < a1 → K (-3) σ)))) :
    Z E y_BC_undo d 0 [some (vr 0), some (vi a1)] [] σ (qi K) := by
  refine z_iload_n (pc := 0) (q := 1) (by decide +kernel) rfl ?_
  refine z_iconst (pc := 1) (n := 1) (by decide +kernel) ⟨by decide, by decide⟩ ?_
  refine z_icmp_lt (pc := 2) (off := 20) 22 (by decide +kernel) (by decide) ⟨fun hc => ?_, fun hc => ?_⟩
  · have k := k.1 hc
    refine z_bipush (pc := 22) (n := -3) (by decide +kernel) (by decide) ⟨by decide, by decide⟩ ?_
    exact z_iret (pc := 24) (by decide +kernel) rfl k
  · have k := k.2 hc
    refine z_iload_n (pc := 5) (q := 1) (by decide +kernel) rfl ?_
    refine z_bipush (pc := 6) (n := 10) (by decide +kernel) (by decide) ⟨by decide, by decide⟩ ?_
    refine z_icmp_gt (pc := 8) (off := 14) 22 (by decide +kernel) (by decide) ⟨fun hc => ?_, fun hc => ?_⟩
    · have k := k.1 hc
      refine z_bipush (pc := 22) (n := -3) (by decide +kernel) (by decide) ⟨by decide, by decide⟩ ?_
      exact z_iret (pc := 24) (by decide +kernel) rfl k
    · have k := k.2 hc
      refine z_iload_n (pc := 11) (q := 1) (by decide +kernel) rfl ?_
      refine z_aload_n (pc := 12) (q := 0) (by decide +kernel) rfl ?_
      refine z_getR (pc := 13) 52 fl_BC_46 rfl rfl rfl (by decide +kernel) ?_
      refine z_getI (pc := 16) 2 fl_BC_221 rfl (by decide) rfl (by decide +kernel) ?_
      refine z_icmp_le (pc := 19) (off := 6) 25 (by decide +kernel) (by decide) ⟨fun hc => ?_, fun hc => ?_⟩
      · have k := k.1 hc
        refine z_aload_n (pc := 25) (q := 0) (by decide +kernel) rfl ?_
        refine z_getR (pc := 26) 52 fl_BC_46 rfl rfl rfl (by decide +kernel) ?_
        refine z_iload_n (pc := 29) (q := 1) (by decide +kernel) rfl ?_
        refine z_aload_n (pc := 30) (q := 0) (by decide +kernel) rfl ?_
        refine z_getR (pc := 31) 50 fl_BC_36 rfl rfl rfl (by decide +kernel) ?_
        refine z_callv (pc := 34) (as := [vi a1, vr 50]) ml_BC_224 rfl ⟨rfl, by decide⟩ rfl rfl (Nat.le_of_ble_eq_true rfl) (dc := d - 1) (by omega) (by decide +kernel) (CV.z (CV.mono (fun τ1 k => ?_) k))
        refine z_aload_n (pc := 37) (q := 0) (by decide +kernel) rfl ?_
        refine z_getR (pc := 38) 52 fl_BC_46 rfl rfl rfl (by decide +kernel) ?_
        refine z_getI (pc := 41) 2 fl_BC_221 rfl (by decide) rfl (by decide +kernel) ?_
        exact z_iret (pc := 44) (by decide +kernel) rfl k
      · have k := k.2 hc
        refine z_bipush (pc := 22) (n := -3) (by decide +kernel) (by decide) ⟨by decide, by decide⟩ ?_
        exact z_iret (pc := 24) (by decide +kernel) rfl k
theorem b_BC_judge_0 {E : EN} {d : Nat} {a1 : Int} {a2 : Int} {σ : Mem} {K : Int → Mem → Prop}  (hd : 1 ≤ d) (k : CI E y_BC_trayAndWhat (d - 1) [vr 0, vi a1, vi a2, vi 4] σ (fun x1 τ1 => (x1 = 0 → CV E y_Stg_become (d - 1) [vr 51, vr 50] τ1 (fun τ2 => (0 ≤ a1 ∧ a1 < 4) ∧ CI E y_Doer_doAll (d - 1) [vr 91, vr (102 + 2 * (a1).toNat), vr 51] τ2 (fun x3 τ3 => (a2 = 0 → K (τ3 91 2) τ3) ∧ (a2 = 1 → K (τ3 91 3) τ3) ∧ (a2 = 2 → K (τ3 51 0) τ3) ∧ (a2 < 0 ∨ 2 < a2 → K (τ3 51 3) τ3)))) ∧ (x1 ≠ 0 → K x1 τ1))) :
    Z E y_BC_judge d 0 [some (vr 0), some (vi a1), some (vi a2), none] [] σ (qi K) := by
  refine z_aload_n (pc := 0) (q := 0) (by decide +kernel) rfl ?_
  refine z_iload_n (pc := 1) (q := 1) (by decide +kernel) rfl ?_
  refine z_iload_n (pc := 2) (q := 2) (by decide +kernel) rfl ?_
  refine z_iconst (pc := 3) (n := 4) (by decide +kernel) ⟨by decide, by decide⟩ ?_
  refine z_callv (pc := 4) (as := [vi a1, vi a2, vi 4]) ml_BC_228 rfl ⟨rfl, by decide⟩ rfl rfl (Nat.le_of_ble_eq_true rfl) (dc := d - 1) (by omega) (by decide +kernel) (CI.z (CI.mono (fun x1 τ1 k => ?_) k))
  refine z_istore_n (pc := 7) (q := 3) [some (vr 0), some (vi a1), some (vi a2), some (vi x1)] (by decide +kernel) (Nat.le_of_ble_eq_true rfl) rfl ?_
  refine z_iload_n (pc := 8) (q := 3) (by decide +kernel) rfl ?_
  refine z_if_eq (pc := 9) (off := 5) 14 (by decide +kernel) (by decide) ⟨fun hc => ?_, fun hc => ?_⟩
  · have k := k.1 hc
    refine z_aload_n (pc := 14) (q := 0) (by decide +kernel) rfl ?_
    refine z_getR (pc := 15) 51 fl_BC_40 rfl rfl rfl (by decide +kernel) ?_
    refine z_aload_n (pc := 18) (q := 0) (by decide +kernel) rfl ?_
    refine z_getR (pc := 19) 50 fl_BC_36 rfl rfl rfl (by decide +kernel) ?_
    refine z_callv (pc := 22) (as := [vr 50]) ml_BC_232 rfl ⟨rfl, by decide⟩ rfl rfl (Nat.le_of_ble_eq_true rfl) (dc := d - 1) (by omega) (by decide +kernel) (CV.z (CV.mono (fun τ2 k => ?_) k))
    refine z_aload_n (pc := 25) (q := 0) (by decide +kernel) rfl ?_
    refine z_getR (pc := 26) 91 fl_BC_73 rfl rfl rfl (by decide +kernel) ?_
    refine z_aload_n (pc := 29) (q := 0) (by decide +kernel) rfl ?_
    refine z_getR (pc := 30) 101 fl_BC_93 rfl rfl rfl (by decide +kernel) ?_
    refine z_iload_n (pc := 33) (q := 1) (by decide +kernel) rfl ?_
    have hb1 := k.1
    have k := k.2
    refine z_aald (pc := 34) (102 + 2 * (a1).toNat) rfl (by decide) (rf_trays hb1) hb1 (by decide +kernel) ?_
    refine z_aload_n (pc := 35) (q := 0) (by decide +kernel) rfl ?_
    refine z_getR (pc := 36) 51 fl_BC_40 rfl rfl rfl (by decide +kernel) ?_
    refine z_callv (pc := 39) (as := [vr (102 + 2 * (a1).toNat), vr 51]) ml_BC_234 rfl ⟨rfl, by decide⟩ rfl rfl (Nat.le_of_ble_eq_true rfl) (dc := d - 1) (by omega) (by decide +kernel) (CI.z (CI.mono (fun x3 τ3 k => ?_) k))
    refine z_pop (pc := 42) (by decide +kernel) rfl ?_
    refine z_iload_n (pc := 43) (q := 2) (by decide +kernel) rfl ?_
    have hdg : decode y_BC_judge.2.1 44 = .ok (.tableswitch 52 0 2 #[28, 36, 44], 28) := by decide +kernel
    by_cases hl0 : a2 < 0
    · have k := k.2.2.2 (Or.inl hl0)
      refine z_tableOut (pc := 44) 96 hdg (Or.inl hl0) (by decide) ?_
      refine z_aload_n (pc := 96) (q := 0) (by decide +kernel) rfl ?_
      refine z_getR (pc := 97) 51 fl_BC_40 rfl rfl rfl (by decide +kernel) ?_
      refine z_getI (pc := 100) 3 fl_BC_241 rfl (by decide) rfl (by decide +kernel) ?_
      exact z_iret (pc := 103) (by decide +kernel) rfl k
    have hl : 0 ≤ a2 := Int.not_lt.mp hl0
    by_cases hc : a2 = 0
    · have k := k.1 hc
      refine z_tableIn2 (pc := 44) (off := 28) 72 hdg hc (by decide) (by decide +kernel) (by decide) ?_
      refine z_aload_n (pc := 72) (q := 0) (by decide +kernel) rfl ?_
      refine z_getR (pc := 73) 91 fl_BC_73 rfl rfl rfl (by decide +kernel) ?_
      refine z_getI (pc := 76) 2 fl_BC_238 rfl (by decide) rfl (by decide +kernel) ?_
      exact z_iret (pc := 79) (by decide +kernel) rfl k
    have k := k.2
    have hl := ne_up (w := 1) hl hc rfl; clear hc
    by_cases hc : a2 = 1
    · have k := k.1 hc
      refine z_tableIn2 (pc := 44) (off := 36) 80 hdg hc (by decide) (by decide +kernel) (by decide) ?_
      refine z_aload_n (pc := 80) (q := 0) (by decide +kernel) rfl ?_
      refine z_getR (pc := 81) 91 fl_BC_73 rfl rfl rfl (by decide +kernel) ?_
      refine z_getI (pc := 84) 3 fl_BC_204 rfl (by decide) rfl (by decide +kernel) ?_
      exact z_iret (pc := 87) (by decide +kernel) rfl k
    have k := k.2
    have hl := ne_up (w := 2) hl hc rfl; clear hc
    by_cases hc : a2 = 2
    · have k := k.1 hc
      refine z_tableIn2 (pc := 44) (off := 44) 88 hdg hc (by decide) (by decide +kernel) (by decide) ?_
      refine z_aload_n (pc := 88) (q := 0) (by decide +kernel) rfl ?_
      refine z_getR (pc := 89) 51 fl_BC_40 rfl rfl rfl (by decide +kernel) ?_
      refine z_getI (pc := 92) 0 fl_BC_144 rfl (by decide) rfl (by decide +kernel) ?_
      exact z_iret (pc := 95) (by decide +kernel) rfl k
    have k := k.2
    have hl := ne_up (w := 3) hl hc rfl; clear hc
    have hl := Int.lt_of_add_one_le (a := 2) hl
    have k := k (Or.inr hl)
    refine z_tableOut (pc := 44) 96 hdg (Or.inr hl) (by decide) ?_
    refine z_aload_n (pc := 96) (q := 0) (by decide +kernel) rfl ?_
    refine z_getR (pc := 97) 51 fl_BC_40 rfl rfl rfl (by decide +kernel) ?_
    refine z_getI (pc := 100) 3 fl_BC_241 rfl (by decide) rfl (by decide +kernel) ?_
    exact z_iret (pc := 103) (by decide +kernel) rfl k
  · have k := k.2 hc
    refine z_iload_n (pc := 12) (q := 3) (by decide +kernel) rfl ?_
    exact z_iret (pc := 13) (by decide +kernel) rfl k
theorem b_BC_perform_0 {E : EN} {d : Nat} {a1 : Int} {σ : Mem} {K : Int → Mem → Prop}  (hd : 1 ≤ d) (k : CI E y_BC_trayCode (d - 1) [vr 0, vi a1] σ (fun x1 τ1 => (x1 = 0 → CV E y_Stg_become (d - 1) [vr 51, vr 50] τ1 (fun τ2 => (0 ≤ a1 ∧ a1 < 4) ∧ CI E y_Doer_doAll (d - 1) [vr 91, vr (102 + 2 * (a1).toNat), vr 51] τ2 (fun x3 τ3 => (x3 ≤ 0 → K x3 τ3) ∧ (0 < x3 → CV E y_Past_keep (d - 1) [vr 52, vr 50] τ3 (fun τ4 => CV E y_Stg_become (d - 1) [vr 50, vr 51] τ4 (fun τ5 => K x3 τ5)))))) ∧ (x1 ≠ 0 → K x1 τ1))) :
    Z E y_BC_perform d 0 [some (vr 0), some (vi a1), none, none] [] σ (qi K) := by
  refine z_aload_n (pc := 0) (q := 0) (by decide +kernel) rfl ?_
  refine z_iload_n (pc := 1) (q := 1) (by decide +kernel) rfl ?_
  refine z_callv (pc := 2) (as := [vi a1]) ml_BC_197 rfl ⟨rfl, by decide⟩ rfl rfl (Nat.le_of_ble_eq_true rfl) (dc := d - 1) (by omega) (by decide +kernel) (CI.z (CI.mono (fun x1 τ1 k => ?_) k))
  refine z_istore_n (pc := 5) (q := 2) [some (vr 0), some (vi a1), some (vi x1), none] (by decide +kernel) (Nat.le_of_ble_eq_true rfl) rfl ?_
  refine z_iload_n (pc := 6) (q := 2) (by decide +kernel) rfl ?_
  refine z_if_eq (pc := 7) (off := 5) 12 (by decide +kernel) (by decide) ⟨fun hc => ?_, fun hc => ?_⟩
  · have k := k.1 hc
    refine z_aload_n (pc := 12) (q := 0) (by decide +kernel) rfl ?_
    refine z_getR (pc := 13) 51 fl_BC_40 rfl rfl rfl (by decide +kernel) ?_
    refine z_aload_n (pc := 16) (q := 0) (by decide +kernel) rfl ?_
    refine z_getR (pc := 17) 50 fl_BC_36 rfl rfl rfl (by decide +kernel) ?_
    refine z_callv (pc := 20) (as := [vr 50]) ml_BC_232 rfl ⟨rfl, by decide⟩ rfl rfl (Nat.le_of_ble_eq_true rfl) (dc := d - 1) (by omega) (by decide +kernel) (CV.z (CV.mono (fun τ2 k => ?_) k))
    refine z_aload_n (pc := 23) (q := 0) (by decide +kernel) rfl ?_
    refine z_getR (pc := 24) 91 fl_BC_73 rfl rfl rfl (by decide +kernel) ?_
    refine z_aload_n (pc := 27) (q := 0) (by decide +kernel) rfl ?_
    refine z_getR (pc := 28) 101 fl_BC_93 rfl rfl rfl (by decide +kernel) ?_
    refine z_iload_n (pc := 31) (q := 1) (by decide +kernel) rfl ?_
    have hb1 := k.1
    have k := k.2
    refine z_aald (pc := 32) (102 + 2 * (a1).toNat) rfl (by decide) (rf_trays hb1) hb1 (by decide +kernel) ?_
    refine z_aload_n (pc := 33) (q := 0) (by decide +kernel) rfl ?_
    refine z_getR (pc := 34) 51 fl_BC_40 rfl rfl rfl (by decide +kernel) ?_
    refine z_callv (pc := 37) (as := [vr (102 + 2 * (a1).toNat), vr 51]) ml_BC_234 rfl ⟨rfl, by decide⟩ rfl rfl (Nat.le_of_ble_eq_true rfl) (dc := d - 1) (by omega) (by decide +kernel) (CI.z (CI.mono (fun x3 τ3 k => ?_) k))
    refine z_istore_n (pc := 40) (q := 3) [some (vr 0), some (vi a1), some (vi x1), some (vi x3)] (by decide +kernel) (Nat.le_of_ble_eq_true rfl) rfl ?_
    refine z_iload_n (pc := 41) (q := 3) (by decide +kernel) rfl ?_
    refine z_if_le (pc := 42) (off := 25) 67 (by decide +kernel) (by decide) ⟨fun hc => ?_, fun hc => ?_⟩
    · have k := k.1 hc
      refine z_iload_n (pc := 67) (q := 3) (by decide +kernel) rfl ?_
      exact z_iret (pc := 68) (by decide +kernel) rfl k
    · have k := k.2 hc
      refine z_aload_n (pc := 45) (q := 0) (by decide +kernel) rfl ?_
      refine z_getR (pc := 46) 52 fl_BC_46 rfl rfl rfl (by decide +kernel) ?_
      refine z_aload_n (pc := 49) (q := 0) (by decide +kernel) rfl ?_
      refine z_getR (pc := 50) 50 fl_BC_36 rfl rfl rfl (by decide +kernel) ?_
      refine z_callv (pc := 53) (as := [vr 50]) ml_BC_193 rfl ⟨rfl, by decide⟩ rfl rfl (Nat.le_of_ble_eq_true rfl) (dc := d - 1) (by omega) (by decide +kernel) (CV.z (CV.mono (fun τ4 k => ?_) k))
      refine z_aload_n (pc := 56) (q := 0) (by decide +kernel) rfl ?_
      refine z_getR (pc := 57) 50 fl_BC_36 rfl rfl rfl (by decide +kernel) ?_
      refine z_aload_n (pc := 60) (q := 0) (by decide +kernel) rfl ?_
      refine z_getR (pc := 61) 51 fl_BC_40 rfl rfl rfl (by decide +kernel) ?_
      refine z_callv (pc := 64) (as := [vr 51]) ml_BC_232 rfl ⟨rfl, by decide⟩ rfl rfl (Nat.le_of_ble_eq_true rfl) (dc := d - 1) (by omega) (by decide +kernel) (CV.z (CV.mono (fun τ5 k => ?_) k))
      refine z_iload_n (pc := 67) (q := 3) (by decide +kernel) rfl ?_
      exact z_iret (pc := 68) (by decide +kernel) rfl k
  · have k := k.2 hc
    refine z_iload_n (pc := 10) (q := 2) (by decide +kernel) rfl ?_
    exact z_iret (pc := 11) (by decide +kernel) rfl k
theorem b_BC_mornings_0 {E : EN} {d : Nat} {a1 : Int} {a2 : Int} {σ : Mem} {K : Int → Mem → Prop}  (hd : 1 ≤ d) (k : (a2 < 1 → K (-3) σ) ∧ (1 ≤ a2 → (a2 ≤ 30 → (1 ≤ σ 2 1 → CV E y_Past_keep (d - 1) [vr 52, vr 50] σ (fun τ1 => Z E y_BC_mornings d 49 [some (vr 0), some (vi a1), some (vi a2), some (vi 0)] [] (up τ1 50 4 a1) (qi K))) ∧ (σ 2 1 < 1 → K (-5) σ)) ∧ (30 < a2 → K (-3) σ))) :
    Z E y_BC_mornings d 0 [some (vr 0), some (vi a1), some (vi a2), none] [] σ (qi K) := by
  refine z_iload_n (pc := 0) (q := 2) (by decide +kernel) rfl ?_
  refine z_iconst (pc := 1) (n := 1) (by decide +kernel) ⟨by decide, by decide⟩ ?_
  refine z_icmp_lt (pc := 2) (off := 9) 11 (by decide +kernel) (by decide) ⟨fun hc => ?_, fun hc => ?_⟩
  · have k := k.1 hc
    refine z_bipush (pc := 11) (n := -3) (by decide +kernel) (by decide) ⟨by decide, by decide⟩ ?_
    exact z_iret (pc := 13) (by decide +kernel) rfl k
  · have k := k.2 hc
    refine z_iload_n (pc := 5) (q := 2) (by decide +kernel) rfl ?_
    refine z_bipush (pc := 6) (n := 30) (by decide +kernel) (by decide) ⟨by decide, by decide⟩ ?_
    refine z_icmp_le (pc := 8) (off := 6) 14 (by decide +kernel) (by decide) ⟨fun hc => ?_, fun hc => ?_⟩
    · have k := k.1 hc
      refine z_aload_n (pc := 14) (q := 0) (by decide +kernel) rfl ?_
      refine z_getR (pc := 15) 2 fl_BC_26 rfl rfl rfl (by decide +kernel) ?_
      refine z_getI (pc := 18) 1 fl_BC_244 rfl (by decide) rfl (by decide +kernel) ?_
      refine z_iconst (pc := 21) (n := 1) (by decide +kernel) ⟨by decide, by decide⟩ ?_
      refine z_icmp_ge (pc := 22) (off := 6) 28 (by decide +kernel) (by decide) ⟨fun hc => ?_, fun hc => ?_⟩
      · have k := k.1 hc
        refine z_aload_n (pc := 28) (q := 0) (by decide +kernel) rfl ?_
        refine z_getR (pc := 29) 52 fl_BC_46 rfl rfl rfl (by decide +kernel) ?_
        refine z_aload_n (pc := 32) (q := 0) (by decide +kernel) rfl ?_
        refine z_getR (pc := 33) 50 fl_BC_36 rfl rfl rfl (by decide +kernel) ?_
        refine z_callv (pc := 36) (as := [vr 50]) ml_BC_193 rfl ⟨rfl, by decide⟩ rfl rfl (Nat.le_of_ble_eq_true rfl) (dc := d - 1) (by omega) (by decide +kernel) (CV.z (CV.mono (fun τ1 k => ?_) k))
        refine z_aload_n (pc := 39) (q := 0) (by decide +kernel) rfl ?_
        refine z_getR (pc := 40) 50 fl_BC_36 rfl rfl rfl (by decide +kernel) ?_
        refine z_iload_n (pc := 43) (q := 1) (by decide +kernel) rfl ?_
        refine z_putI (pc := 44) 4 fp_BC_190 rfl rfl rfl (by decide +kernel) ?_
        refine z_iconst (pc := 47) (n := 0) (by decide +kernel) ⟨by decide, by decide⟩ ?_
        refine z_istore_n (pc := 48) (q := 3) [some (vr 0), some (vi a1), some (vi a2), some (vi 0)] (by decide +kernel) (Nat.le_of_ble_eq_true rfl) rfl ?_
        exact k
      · have k := k.2 hc
        refine z_bipush (pc := 25) (n := -5) (by decide +kernel) (by decide) ⟨by decide, by decide⟩ ?_
        exact z_iret (pc := 27) (by decide +kernel) rfl k
    · have k := k.2 hc
      refine z_bipush (pc := 11) (n := -3) (by decide +kernel) (by decide) ⟨by decide, by decide⟩ ?_
      exact z_iret (pc := 13) (by decide +kernel) rfl k
theorem b_BC_mornings_49 {E : EN} {d : Nat} {a1 : Int} {a2 : Int} {o1 : Option AV} {a3 : Int} {σ : Mem} {K : Int → Mem → Prop}  (hd : 1 ≤ d) (k : (a2 ≤ a3 → K (σ 50 0) σ) ∧ (a3 < a2 → CV E y_Doer_drawnDeed (d - 1) [vr 91, vr 50] σ (fun τ1 => Z E y_BC_mornings d 49 [some (vr 0), o1, some (vi a2), some (vi (w32 (a3 + 1)))] [] τ1 (qi K)))) :
    Z E y_BC_mornings d 49 [some (vr 0), o1, some (vi a2), some (vi a3)] [] σ (qi K) := by
  refine z_iload_n (pc := 49) (q := 3) (by decide +kernel) rfl ?_
  refine z_iload_n (pc := 50) (q := 2) (by decide +kernel) rfl ?_
  refine z_icmp_ge (pc := 51) (off := 20) 71 (by decide +kernel) (by decide) ⟨fun hc => ?_, fun hc => ?_⟩
  · have k := k.1 hc
    refine z_aload_n (pc := 71) (q := 0) (by decide +kernel) rfl ?_
    refine z_getR (pc := 72) 50 fl_BC_36 rfl rfl rfl (by decide +kernel) ?_
    refine z_getI (pc := 75) 0 fl_BC_144 rfl (by decide) rfl (by decide +kernel) ?_
    exact z_iret (pc := 78) (by decide +kernel) rfl k
  · have k := k.2 hc
    refine z_aload_n (pc := 54) (q := 0) (by decide +kernel) rfl ?_
    refine z_getR (pc := 55) 91 fl_BC_73 rfl rfl rfl (by decide +kernel) ?_
    refine z_aload_n (pc := 58) (q := 0) (by decide +kernel) rfl ?_
    refine z_getR (pc := 59) 50 fl_BC_36 rfl rfl rfl (by decide +kernel) ?_
    refine z_callv (pc := 62) (as := [vr 50]) ml_BC_247 rfl ⟨rfl, by decide⟩ rfl rfl (Nat.le_of_ble_eq_true rfl) (dc := d - 1) (by omega) (by decide +kernel) (CV.z (CV.mono (fun τ1 k => ?_) k))
    refine z_iinc (pc := 65) (i := 3) (n := 1) [some (vr 0), o1, some (vi a2), some (vi (w32 (a3 + 1)))] (by decide +kernel) rfl rfl ?_
    refine z_goto (pc := 68) (off := -19) 49 (by decide +kernel) (by decide) ?_
    exact k
theorem b_BC_row_0 {E : EN} {d : Nat} {a1 : Int} {a2 : Int} {σ : Mem} {K : Int → Mem → Prop}  (hd : 1 ≤ d) (k : CI E y_BC_trayAndWhat (d - 1) [vr 0, vi a1, vi a2, vi 3] σ (fun x1 τ1 => (x1 = 0 → (0 ≤ a1 ∧ a1 < 4) ∧ CV E y_Doer_layRow (d - 1) [vr 91, vr (102 + 2 * (a1).toNat), vi 40, vr 50] τ1 (fun τ2 => (a2 ≠ 0 → (a2 ≠ 1 → CI E y_Row_end (d - 1) [vr 73] τ2 (fun x3 τ3 => K x3 τ3)) ∧ (a2 = 1 → K (τ2 91 3) τ2)) ∧ (a2 = 0 → K (τ2 91 2) τ2))) ∧ (x1 ≠ 0 → K x1 τ1))) :
    Z E y_BC_row d 0 [some (vr 0), some (vi a1), some (vi a2), none] [] σ (qi K) := by
  refine z_aload_n (pc := 0) (q := 0) (by decide +kernel) rfl ?_
  refine z_iload_n (pc := 1) (q := 1) (by decide +kernel) rfl ?_
  refine z_iload_n (pc := 2) (q := 2) (by decide +kernel) rfl ?_
  refine z_iconst (pc := 3) (n := 3) (by decide +kernel) ⟨by decide, by decide⟩ ?_
  refine z_callv (pc := 4) (as := [vi a1, vi a2, vi 3]) ml_BC_228 rfl ⟨rfl, by decide⟩ rfl rfl (Nat.le_of_ble_eq_true rfl) (dc := d - 1) (by omega) (by decide +kernel) (CI.z (CI.mono (fun x1 τ1 k => ?_) k))
  refine z_istore_n (pc := 7) (q := 3) [some (vr 0), some (vi a1), some (vi a2), some (vi x1)] (by decide +kernel) (Nat.le_of_ble_eq_true rfl) rfl ?_
  refine z_iload_n (pc := 8) (q := 3) (by decide +kernel) rfl ?_
  refine z_if_eq (pc := 9) (off := 5) 14 (by decide +kernel) (by decide) ⟨fun hc => ?_, fun hc => ?_⟩
  · have k := k.1 hc
    refine z_aload_n (pc := 14) (q := 0) (by decide +kernel) rfl ?_
    refine z_getR (pc := 15) 91 fl_BC_73 rfl rfl rfl (by decide +kernel) ?_
    refine z_aload_n (pc := 18) (q := 0) (by decide +kernel) rfl ?_
    refine z_getR (pc := 19) 101 fl_BC_93 rfl rfl rfl (by decide +kernel) ?_
    refine z_iload_n (pc := 22) (q := 1) (by decide +kernel) rfl ?_
    have hb1 := k.1
    have k := k.2
    refine z_aald (pc := 23) (102 + 2 * (a1).toNat) rfl (by decide) (rf_trays hb1) hb1 (by decide +kernel) ?_
    refine z_bipush (pc := 24) (n := 40) (by decide +kernel) (by decide) ⟨by decide, by decide⟩ ?_
    refine z_aload_n (pc := 26) (q := 0) (by decide +kernel) rfl ?_
    refine z_getR (pc := 27) 50 fl_BC_36 rfl rfl rfl (by decide +kernel) ?_
    refine z_callv (pc := 30) (as := [vr (102 + 2 * (a1).toNat), vi 40, vr 50]) ml_BC_200 rfl ⟨rfl, by decide⟩ rfl rfl (Nat.le_of_ble_eq_true rfl) (dc := d - 1) (by omega) (by decide +kernel) (CV.z (CV.mono (fun τ2 k => ?_) k))
    refine z_iload_n (pc := 33) (q := 2) (by decide +kernel) rfl ?_
    refine z_if_ne (pc := 34) (off := 11) 45 (by decide +kernel) (by decide) ⟨fun hc => ?_, fun hc => ?_⟩
    · have k := k.1 hc
      refine z_iload_n (pc := 45) (q := 2) (by decide +kernel) rfl ?_
      refine z_iconst (pc := 46) (n := 1) (by decide +kernel) ⟨by decide, by decide⟩ ?_
      refine z_icmp_ne (pc := 47) (off := 13) 60 (by decide +kernel) (by decide) ⟨fun hc => ?_, fun hc => ?_⟩
      · have k := k.1 hc
        refine z_aload_n (pc := 60) (q := 0) (by decide +kernel) rfl ?_
        refine z_getR (pc := 61) 73 fl_BC_64 rfl rfl rfl (by decide +kernel) ?_
        refine z_callv (pc := 64) (as := []) ml_BC_250 rfl ⟨rfl, by decide⟩ rfl rfl (Nat.le_of_ble_eq_true rfl) (dc := d - 1) (by omega) (by decide +kernel) (CI.z (CI.mono (fun x3 τ3 k => ?_) k))
        exact z_iret (pc := 67) (by decide +kernel) rfl k
      · have k := k.2 hc
        refine z_aload_n (pc := 50) (q := 0) (by decide +kernel) rfl ?_
        refine z_getR (pc := 51) 91 fl_BC_73 rfl rfl rfl (by decide +kernel) ?_
        refine z_getI (pc := 54) 3 fl_BC_204 rfl (by decide) rfl (by decide +kernel) ?_
        refine z_goto (pc := 57) (off := 10) 67 (by decide +kernel) (by decide) ?_
        exact z_iret (pc := 67) (by decide +kernel) rfl k
    · have k := k.2 hc
      refine z_aload_n (pc := 37) (q := 0) (by decide +kernel) rfl ?_
      refine z_getR (pc := 38) 91 fl_BC_73 rfl rfl rfl (by decide +kernel) ?_
      refine z_getI (pc := 41) 2 fl_BC_238 rfl (by decide) rfl (by decide +kernel) ?_
      exact z_iret (pc := 44) (by decide +kernel) rfl k
  · have k := k.2 hc
    refine z_iload_n (pc := 12) (q := 3) (by decide +kernel) rfl ?_
    exact z_iret (pc := 13) (by decide +kernel) rfl k
theorem b_BC_when_0 {E : EN} {d : Nat} {a1 : Int} {a2 : Int} {a3 : Int} {σ : Mem} {K : Int → Mem → Prop}  (hd : 1 ≤ d) (k : CI E y_BC_trayAndWhat (d - 1) [vr 0, vi a1, vi a3, vi 3] σ (fun x1 τ1 => (x1 = 0 → (a2 < 0 → K (-7) τ1) ∧ (0 ≤ a2 → (0 ≤ a1 ∧ a1 < 4) ∧ (a2 < τ1 (102 + 2 * (a1).toNat) 1 → CV E y_Doer_layRow (d - 1) [vr 91, vr (102 + 2 * (a1).toNat), vi (w32 (a2 + 1)), vr 50] τ1 (fun τ2 => (τ2 91 3 ≠ 0 → K (-1) τ2) ∧ (τ2 91 3 = 0 → (τ2 73 1 ≤ a2 → K (-1) τ2) ∧ (a2 < τ2 73 1 → (a2 < 6 → (a3 ≠ 0 → (a3 ≠ 1 → (0 ≤ a2 ∧ a2 < 6) ∧ K (τ2 78 a2) τ2) ∧ (a3 = 1 → (0 ≤ a2 ∧ a2 < 6) ∧ K (τ2 77 a2) τ2)) ∧ (a3 = 0 → (0 ≤ a2 ∧ a2 < 6) ∧ K (τ2 76 a2) τ2)) ∧ (6 ≤ a2 → K (-1) τ2))))) ∧ (τ1 (102 + 2 * (a1).toNat) 1 ≤ a2 → K (-7) τ1))) ∧ (x1 ≠ 0 → K x1 τ1))) :
    Z E y_BC_when d 0 [some (vr 0), some (vi a1), some (vi a2), some (vi a3), none] [] σ (qi K) := by
  refine z_aload_n (pc := 0) (q := 0) (by decide +kernel) rfl ?_
  refine z_iload_n (pc := 1) (q := 1) (by decide +kernel) rfl ?_
  refine z_iload_n (pc := 2) (q := 3) (by decide +kernel) rfl ?_
  refine z_iconst (pc := 3) (n := 3) (by decide +kernel) ⟨by decide, by decide⟩ ?_
  refine z_callv (pc := 4) (as := [vi a1, vi a3, vi 3]) ml_BC_228 rfl ⟨rfl, by decide⟩ rfl rfl (Nat.le_of_ble_eq_true rfl) (dc := d - 1) (by omega) (by decide +kernel) (CI.z (CI.mono (fun x1 τ1 k => ?_) k))
  refine z_istore (pc := 7) (i := 4) [some (vr 0), some (vi a1), some (vi a2), some (vi a3), some (vi x1)] (by decide +kernel) (Nat.le_of_ble_eq_true rfl) rfl ?_
  refine z_iload (pc := 9) (i := 4) (by decide +kernel) rfl ?_
  refine z_if_eq (pc := 11) (off := 6) 17 (by decide +kernel) (by decide) ⟨fun hc => ?_, fun hc => ?_⟩
  · have k := k.1 hc
    refine z_iload_n (pc := 17) (q := 2) (by decide +kernel) rfl ?_
    refine z_if_lt (pc := 18) (off := 16) 34 (by decide +kernel) (by decide) ⟨fun hc => ?_, fun hc => ?_⟩
    · have k := k.1 hc
      refine z_bipush (pc := 34) (n := -7) (by decide +kernel) (by decide) ⟨by decide, by decide⟩ ?_
      exact z_iret (pc := 36) (by decide +kernel) rfl k
    · have k := k.2 hc
      refine z_iload_n (pc := 21) (q := 2) (by decide +kernel) rfl ?_
      refine z_aload_n (pc := 22) (q := 0) (by decide +kernel) rfl ?_
      refine z_getR (pc := 23) 101 fl_BC_93 rfl rfl rfl (by decide +kernel) ?_
      refine z_iload_n (pc := 26) (q := 1) (by decide +kernel) rfl ?_
      have hb1 := k.1
      have k := k.2
      refine z_aald (pc := 27) (102 + 2 * (a1).toNat) rfl (by decide) (rf_trays hb1) hb1 (by decide +kernel) ?_
      refine z_getI (pc := 28) 1 fl_BC_253 (shTray (is_trays hb1)) (by decide) rfl (by decide +kernel) ?_
      refine z_icmp_lt (pc := 31) (off := 6) 37 (by decide +kernel) (by decide) ⟨fun hc => ?_, fun hc => ?_⟩
      · have k := k.1 hc
        refine z_aload_n (pc := 37) (q := 0) (by decide +kernel) rfl ?_
        refine z_getR (pc := 38) 91 fl_BC_73 rfl rfl rfl (by decide +kernel) ?_
        refine z_aload_n (pc := 41) (q := 0) (by decide +kernel) rfl ?_
        refine z_getR (pc := 42) 101 fl_BC_93 rfl rfl rfl (by decide +kernel) ?_
        refine z_iload_n (pc := 45) (q := 1) (by decide +kernel) rfl ?_
        refine z_aald (pc := 46) (102 + 2 * (a1).toNat) rfl (by decide) (rf_trays hb1) hb1 (by decide +kernel) ?_
        refine z_iload_n (pc := 47) (q := 2) (by decide +kernel) rfl ?_
        refine z_iconst (pc := 48) (n := 1) (by decide +kernel) ⟨by decide, by decide⟩ ?_
        refine z_iadd (pc := 49) (by decide +kernel) ?_
        refine z_aload_n (pc := 50) (q := 0) (by decide +kernel) rfl ?_
        refine z_getR (pc := 51) 50 fl_BC_36 rfl rfl rfl (by decide +kernel) ?_
        refine z_callv (pc := 54) (as := [vr (102 + 2 * (a1).toNat), vi (w32 (a2 + 1)), vr 50]) ml_BC_200 rfl ⟨rfl, by decide⟩ rfl rfl (Nat.le_of_ble_eq_true rfl) (dc := d - 1) (by omega) (by decide +kernel) (CV.z (CV.mono (fun τ2 k => ?_) k))
        refine z_aload_n (pc := 57) (q := 0) (by decide +kernel) rfl ?_
        refine z_getR (pc := 58) 91 fl_BC_73 rfl rfl rfl (by decide +kernel) ?_
        refine z_getI (pc := 61) 3 fl_BC_204 rfl (by decide) rfl (by decide +kernel) ?_
        refine z_if_ne (pc := 64) (off := 20) 84 (by decide +kernel) (by decide) ⟨fun hc => ?_, fun hc => ?_⟩
        · have k := k.1 hc
          refine z_iconst (pc := 84) (n := -1) (by decide +kernel) ⟨by decide, by decide⟩ ?_
          exact z_iret (pc := 85) (by decide +kernel) rfl k
        · have k := k.2 hc
          refine z_iload_n (pc := 67) (q := 2) (by decide +kernel) rfl ?_
          refine z_aload_n (pc := 68) (q := 0) (by decide +kernel) rfl ?_
          refine z_getR (pc := 69) 73 fl_BC_64 rfl rfl rfl (by decide +kernel) ?_
          refine z_getI (pc := 72) 1 fl_BC_254 rfl (by decide) rfl (by decide +kernel) ?_
          refine z_icmp_ge (pc := 75) (off := 9) 84 (by decide +kernel) (by decide) ⟨fun hc => ?_, fun hc => ?_⟩
          · have k := k.1 hc
            refine z_iconst (pc := 84) (n := -1) (by decide +kernel) ⟨by decide, by decide⟩ ?_
            exact z_iret (pc := 85) (by decide +kernel) rfl k
          · have k := k.2 hc
            refine z_iload_n (pc := 78) (q := 2) (by decide +kernel) rfl ?_
            refine z_bipush (pc := 79) (n := 6) (by decide +kernel) (by decide) ⟨by decide, by decide⟩ ?_
            refine z_icmp_lt (pc := 81) (off := 5) 86 (by decide +kernel) (by decide) ⟨fun hc => ?_, fun hc => ?_⟩
            · have k := k.1 hc
              refine z_iload_n (pc := 86) (q := 3) (by decide +kernel) rfl ?_
              refine z_if_ne (pc := 87) (off := 13) 100 (by decide +kernel) (by decide) ⟨fun hc => ?_, fun hc => ?_⟩
              · have k := k.1 hc
                refine z_iload_n (pc := 100) (q := 3) (by decide +kernel) rfl ?_
                refine z_iconst (pc := 101) (n := 1) (by decide +kernel) ⟨by decide, by decide⟩ ?_
                refine z_icmp_ne (pc := 102) (off := 15) 117 (by decide +kernel) (by decide) ⟨fun hc => ?_, fun hc => ?_⟩
                · have k := k.1 hc
                  refine z_aload_n (pc := 117) (q := 0) (by decide +kernel) rfl ?_
                  refine z_getR (pc := 118) 73 fl_BC_64 rfl rfl rfl (by decide +kernel) ?_
                  refine z_getR (pc := 121) 78 fl_BC_261 rfl rfl rfl (by decide +kernel) ?_
                  refine z_iload_n (pc := 124) (q := 2) (by decide +kernel) rfl ?_
                  have hb2 := k.1
                  have k := k.2
                  refine z_iald (pc := 125) rfl hb2 (by decide +kernel) ?_
                  exact z_iret (pc := 126) (by decide +kernel) rfl k
                · have k := k.2 hc
                  refine z_aload_n (pc := 105) (q := 0) (by decide +kernel) rfl ?_
                  refine z_getR (pc := 106) 73 fl_BC_64 rfl rfl rfl (by decide +kernel) ?_
                  refine z_getR (pc := 109) 77 fl_BC_258 rfl rfl rfl (by decide +kernel) ?_
                  refine z_iload_n (pc := 112) (q := 2) (by decide +kernel) rfl ?_
                  have hb3 := k.1
                  have k := k.2
                  refine z_iald (pc := 113) rfl hb3 (by decide +kernel) ?_
                  refine z_goto (pc := 114) (off := 12) 126 (by decide +kernel) (by decide) ?_
                  exact z_iret (pc := 126) (by decide +kernel) rfl k
              · have k := k.2 hc
                refine z_aload_n (pc := 90) (q := 0) (by decide +kernel) rfl ?_
                refine z_getR (pc := 91) 73 fl_BC_64 rfl rfl rfl (by decide +kernel) ?_
                refine z_getR (pc := 94) 76 fl_BC_255 rfl rfl rfl (by decide +kernel) ?_
                refine z_iload_n (pc := 97) (q := 2) (by decide +kernel) rfl ?_
                have hb4 := k.1
                have k := k.2
                refine z_iald (pc := 98) rfl hb4 (by decide +kernel) ?_
                exact z_iret (pc := 99) (by decide +kernel) rfl k
            · have k := k.2 hc
              refine z_iconst (pc := 84) (n := -1) (by decide +kernel) ⟨by decide, by decide⟩ ?_
              exact z_iret (pc := 85) (by decide +kernel) rfl k
      · have k := k.2 hc
        refine z_bipush (pc := 34) (n := -7) (by decide +kernel) (by decide) ⟨by decide, by decide⟩ ?_
        exact z_iret (pc := 36) (by decide +kernel) rfl k
  · have k := k.2 hc
    refine z_iload (pc := 14) (i := 4) (by decide +kernel) rfl ?_
    exact z_iret (pc := 16) (by decide +kernel) rfl k
theorem b_BC_best_0 {E : EN} {d : Nat} {a1 : Int} {σ : Mem} {K : Int → Mem → Prop}  (hd : 1 ≤ d) (k : CV E y_Plan_plan (d - 1) [vr 92, vi (σ 50 0), vi (σ 50 2)] σ (fun τ1 => (a1 = 0 → K (τ1 92 13) τ1) ∧ (a1 = 1 → K (τ1 92 14) τ1) ∧ (a1 = 2 → K (τ1 92 15) τ1) ∧ (a1 = 3 → K (τ1 92 16) τ1) ∧ (a1 < 0 ∨ 3 < a1 → K (-2) τ1))) :
    Z E y_BC_best d 0 [some (vr 0), some (vi a1)] [] σ (qi K) := by
  refine z_aload_n (pc := 0) (q := 0) (by decide +kernel) rfl ?_
  refine z_getR (pc := 1) 92 fl_BC_80 rfl rfl rfl (by decide +kernel) ?_
  refine z_aload_n (pc := 4) (q := 0) (by decide +kernel) rfl ?_
  refine z_getR (pc := 5) 50 fl_BC_36 rfl rfl rfl (by decide +kernel) ?_
  refine z_getI (pc := 8) 0 fl_BC_144 rfl (by decide) rfl (by decide +kernel) ?_
  refine z_aload_n (pc := 11) (q := 0) (by decide +kernel) rfl ?_
  refine z_getR (pc := 12) 50 fl_BC_36 rfl rfl rfl (by decide +kernel) ?_
  refine z_getI (pc := 15) 2 fl_BC_159 rfl (by decide) rfl (by decide +kernel) ?_
  refine z_callv (pc := 18) (as := [vi (σ 50 0), vi (σ 50 2)]) ml_BC_264 rfl ⟨rfl, by decide⟩ rfl rfl (Nat.le_of_ble_eq_true rfl) (dc := d - 1) (by omega) (by decide +kernel) (CV.z (CV.mono (fun τ1 k => ?_) k))
  refine z_iload_n (pc := 21) (q := 1) (by decide +kernel) rfl ?_
  have hdg : decode y_BC_best.2.1 22 = .ok (.tableswitch 62 0 3 #[30, 38, 46, 54], 30) := by decide +kernel
  by_cases hl0 : a1 < 0
  · have k := k.2.2.2.2 (Or.inl hl0)
    refine z_tableOut (pc := 22) 84 hdg (Or.inl hl0) (by decide) ?_
    refine z_bipush (pc := 84) (n := -2) (by decide +kernel) (by decide) ⟨by decide, by decide⟩ ?_
    exact z_iret (pc := 86) (by decide +kernel) rfl k
  have hl : 0 ≤ a1 := Int.not_lt.mp hl0
  by_cases hc : a1 = 0
  · have k := k.1 hc
    refine z_tableIn2 (pc := 22) (off := 30) 52 hdg hc (by decide) (by decide +kernel) (by decide) ?_
    refine z_aload_n (pc := 52) (q := 0) (by decide +kernel) rfl ?_
    refine z_getR (pc := 53) 92 fl_BC_80 rfl rfl rfl (by decide +kernel) ?_
    refine z_getI (pc := 56) 13 fl_BC_267 rfl (by decide) rfl (by decide +kernel) ?_
    exact z_iret (pc := 59) (by decide +kernel) rfl k
  have k := k.2
  have hl := ne_up (w := 1) hl hc rfl; clear hc
  by_cases hc : a1 = 1
  · have k := k.1 hc
    refine z_tableIn2 (pc := 22) (off := 38) 60 hdg hc (by decide) (by decide +kernel) (by decide) ?_
    refine z_aload_n (pc := 60) (q := 0) (by decide +kernel) rfl ?_
    refine z_getR (pc := 61) 92 fl_BC_80 rfl rfl rfl (by decide +kernel) ?_
    refine z_getI (pc := 64) 14 fl_BC_270 rfl (by decide) rfl (by decide +kernel) ?_
    exact z_iret (pc := 67) (by decide +kernel) rfl k
  have k := k.2
  have hl := ne_up (w := 2) hl hc rfl; clear hc
  by_cases hc : a1 = 2
  · have k := k.1 hc
    refine z_tableIn2 (pc := 22) (off := 46) 68 hdg hc (by decide) (by decide +kernel) (by decide) ?_
    refine z_aload_n (pc := 68) (q := 0) (by decide +kernel) rfl ?_
    refine z_getR (pc := 69) 92 fl_BC_80 rfl rfl rfl (by decide +kernel) ?_
    refine z_getI (pc := 72) 15 fl_BC_273 rfl (by decide) rfl (by decide +kernel) ?_
    exact z_iret (pc := 75) (by decide +kernel) rfl k
  have k := k.2
  have hl := ne_up (w := 3) hl hc rfl; clear hc
  by_cases hc : a1 = 3
  · have k := k.1 hc
    refine z_tableIn2 (pc := 22) (off := 54) 76 hdg hc (by decide) (by decide +kernel) (by decide) ?_
    refine z_aload_n (pc := 76) (q := 0) (by decide +kernel) rfl ?_
    refine z_getR (pc := 77) 92 fl_BC_80 rfl rfl rfl (by decide +kernel) ?_
    refine z_getI (pc := 80) 16 fl_BC_276 rfl (by decide) rfl (by decide +kernel) ?_
    exact z_iret (pc := 83) (by decide +kernel) rfl k
  have k := k.2
  have hl := ne_up (w := 4) hl hc rfl; clear hc
  have hl := Int.lt_of_add_one_le (a := 3) hl
  have k := k (Or.inr hl)
  refine z_tableOut (pc := 22) 84 hdg (Or.inr hl) (by decide) ?_
  refine z_bipush (pc := 84) (n := -2) (by decide +kernel) (by decide) ⟨by decide, by decide⟩ ?_
  exact z_iret (pc := 86) (by decide +kernel) rfl k
theorem b_BC_bestAt_0 {E : EN} {d : Nat} {a1 : Int} {σ : Mem} {K : Int → Mem → Prop}  (hd : 1 ≤ d) (k : (0 ≤ a1 → CV E y_Plan_plan (d - 1) [vr 92, vi (σ 50 0), vi (σ 50 2)] σ (fun τ1 => (τ1 92 14 ≤ a1 → K (-1) τ1) ∧ (a1 < τ1 92 14 → (6 ≤ a1 → K (-1) τ1) ∧ (a1 < 6 → (0 ≤ a1 ∧ a1 < 6) ∧ K (τ1 95 a1) τ1)))) ∧ (a1 < 0 → K (-3) σ)) :
    Z E y_BC_bestAt d 0 [some (vr 0), some (vi a1)] [] σ (qi K) := by
  refine z_iload_n (pc := 0) (q := 1) (by decide +kernel) rfl ?_
  refine z_if_ge (pc := 1) (off := 6) 7 (by decide +kernel) (by decide) ⟨fun hc => ?_, fun hc => ?_⟩
  · have k := k.1 hc
    refine z_aload_n (pc := 7) (q := 0) (by decide +kernel) rfl ?_
    refine z_getR (pc := 8) 92 fl_BC_80 rfl rfl rfl (by decide +kernel) ?_
    refine z_aload_n (pc := 11) (q := 0) (by decide +kernel) rfl ?_
    refine z_getR (pc := 12) 50 fl_BC_36 rfl rfl rfl (by decide +kernel) ?_
    refine z_getI (pc := 15) 0 fl_BC_144 rfl (by decide) rfl (by decide +kernel) ?_
    refine z_aload_n (pc := 18) (q := 0) (by decide +kernel) rfl ?_
    refine z_getR (pc := 19) 50 fl_BC_36 rfl rfl rfl (by decide +kernel) ?_
    refine z_getI (pc := 22) 2 fl_BC_159 rfl (by decide) rfl (by decide +kernel) ?_
    refine z_callv (pc := 25) (as := [vi (σ 50 0), vi (σ 50 2)]) ml_BC_264 rfl ⟨rfl, by decide⟩ rfl rfl (Nat.le_of_ble_eq_true rfl) (dc := d - 1) (by omega) (by decide +kernel) (CV.z (CV.mono (fun τ1 k => ?_) k))
    refine z_iload_n (pc := 28) (q := 1) (by decide +kernel) rfl ?_
    refine z_aload_n (pc := 29) (q := 0) (by decide +kernel) rfl ?_
    refine z_getR (pc := 30) 92 fl_BC_80 rfl rfl rfl (by decide +kernel) ?_
    refine z_getI (pc := 33) 14 fl_BC_270 rfl (by decide) rfl (by decide +kernel) ?_
    refine z_icmp_ge (pc := 36) (off := 21) 57 (by decide +kernel) (by decide) ⟨fun hc => ?_, fun hc => ?_⟩
    · have k := k.1 hc
      refine z_iconst (pc := 57) (n := -1) (by decide +kernel) ⟨by decide, by decide⟩ ?_
      exact z_iret (pc := 58) (by decide +kernel) rfl k
    · have k := k.2 hc
      refine z_iload_n (pc := 39) (q := 1) (by decide +kernel) rfl ?_
      refine z_bipush (pc := 40) (n := 6) (by decide +kernel) (by decide) ⟨by decide, by decide⟩ ?_
      refine z_icmp_ge (pc := 42) (off := 15) 57 (by decide +kernel) (by decide) ⟨fun hc => ?_, fun hc => ?_⟩
      · have k := k.1 hc
        refine z_iconst (pc := 57) (n := -1) (by decide +kernel) ⟨by decide, by decide⟩ ?_
        exact z_iret (pc := 58) (by decide +kernel) rfl k
      · have k := k.2 hc
        refine z_aload_n (pc := 45) (q := 0) (by decide +kernel) rfl ?_
        refine z_getR (pc := 46) 92 fl_BC_80 rfl rfl rfl (by decide +kernel) ?_
        refine z_getR (pc := 49) 95 fl_BC_279 rfl rfl rfl (by decide +kernel) ?_
        refine z_iload_n (pc := 52) (q := 1) (by decide +kernel) rfl ?_
        have hb1 := k.1
        have k := k.2
        refine z_iald (pc := 53) rfl hb1 (by decide +kernel) ?_
        refine z_goto (pc := 54) (off := 4) 58 (by decide +kernel) (by decide) ?_
        exact z_iret (pc := 58) (by decide +kernel) rfl k
  · have k := k.2 hc
    refine z_bipush (pc := 4) (n := -3) (by decide +kernel) (by decide) ⟨by decide, by decide⟩ ?_
    exact z_iret (pc := 6) (by decide +kernel) rfl k
theorem b_BC_bestBy_0 {E : EN} {d : Nat} {a1 : Int} {σ : Mem} {K : Int → Mem → Prop}  (hd : 1 ≤ d) (k : (a1 < 0 → K (-3) σ) ∧ (0 ≤ a1 → (a1 ≤ 999 → CV E y_Plan_useHands (d - 1) [vr 92, vi (σ 50 2)] σ (fun τ1 => CI E y_Room_allLetters (d - 1) [vr 2] τ1 (fun x2 τ2 => CI E y_Plan_mostWorth (d - 1) [vr 92, vi (ian x2 (ixo (τ2 50 0) (-1))), vi a1] τ2 (fun x3 τ3 => K x3 τ3)))) ∧ (999 < a1 → K (-3) σ))) :
    Z E y_BC_bestBy d 0 [some (vr 0), some (vi a1)] [] σ (qi K) := by
  refine z_iload_n (pc := 0) (q := 1) (by decide +kernel) rfl ?_
  refine z_if_lt (pc := 1) (off := 10) 11 (by decide +kernel) (by decide) ⟨fun hc => ?_, fun hc => ?_⟩
  · have k := k.1 hc
    refine z_bipush (pc := 11) (n := -3) (by decide +kernel) (by decide) ⟨by decide, by decide⟩ ?_
    exact z_iret (pc := 13) (by decide +kernel) rfl k
  · have k := k.2 hc
    refine z_iload_n (pc := 4) (q := 1) (by decide +kernel) rfl ?_
    refine z_sipush (pc := 5) (n := 999) (by decide +kernel) (by decide) ⟨by decide, by decide⟩ ?_
    refine z_icmp_le (pc := 8) (off := 6) 14 (by decide +kernel) (by decide) ⟨fun hc => ?_, fun hc => ?_⟩
    · have k := k.1 hc
      refine z_aload_n (pc := 14) (q := 0) (by decide +kernel) rfl ?_
      refine z_getR (pc := 15) 92 fl_BC_80 rfl rfl rfl (by decide +kernel) ?_
      refine z_aload_n (pc := 18) (q := 0) (by decide +kernel) rfl ?_
      refine z_getR (pc := 19) 50 fl_BC_36 rfl rfl rfl (by decide +kernel) ?_
      refine z_getI (pc := 22) 2 fl_BC_159 rfl (by decide) rfl (by decide +kernel) ?_
      refine z_callv (pc := 25) (as := [vi (σ 50 2)]) ml_BC_282 rfl ⟨rfl, by decide⟩ rfl rfl (Nat.le_of_ble_eq_true rfl) (dc := d - 1) (by omega) (by decide +kernel) (CV.z (CV.mono (fun τ1 k => ?_) k))
      refine z_aload_n (pc := 28) (q := 0) (by decide +kernel) rfl ?_
      refine z_getR (pc := 29) 92 fl_BC_80 rfl rfl rfl (by decide +kernel) ?_
      refine z_aload_n (pc := 32) (q := 0) (by decide +kernel) rfl ?_
      refine z_getR (pc := 33) 2 fl_BC_26 rfl rfl rfl (by decide +kernel) ?_
      refine z_callv (pc := 36) (as := []) ml_BC_211 rfl ⟨rfl, by decide⟩ rfl rfl (Nat.le_of_ble_eq_true rfl) (dc := d - 1) (by omega) (by decide +kernel) (CI.z (CI.mono (fun x2 τ2 k => ?_) k))
      refine z_aload_n (pc := 39) (q := 0) (by decide +kernel) rfl ?_
      refine z_getR (pc := 40) 50 fl_BC_36 rfl rfl rfl (by decide +kernel) ?_
      refine z_getI (pc := 43) 0 fl_BC_144 rfl (by decide) rfl (by decide +kernel) ?_
      refine z_iconst (pc := 46) (n := -1) (by decide +kernel) ⟨by decide, by decide⟩ ?_
      refine z_ixor (pc := 47) (by decide +kernel) ?_
      refine z_iand (pc := 48) (by decide +kernel) ?_
      refine z_iload_n (pc := 49) (q := 1) (by decide +kernel) rfl ?_
      refine z_callv (pc := 50) (as := [vi (ian x2 (ixo (τ2 50 0) (-1))), vi a1]) ml_BC_285 rfl ⟨rfl, by decide⟩ rfl rfl (Nat.le_of_ble_eq_true rfl) (dc := d - 1) (by omega) (by decide +kernel) (CI.z (CI.mono (fun x3 τ3 k => ?_) k))
      exact z_iret (pc := 53) (by decide +kernel) rfl k
    · have k := k.2 hc
      refine z_bipush (pc := 11) (n := -3) (by decide +kernel) (by decide) ⟨by decide, by decide⟩ ?_
      exact z_iret (pc := 13) (by decide +kernel) rfl k
theorem b_BC_noonFor_0 {E : EN} {d : Nat} {a1 : Int} {σ : Mem} {K : Int → Mem → Prop}  (hd : 1 ≤ d) (k : (0 ≤ a1 → CI E y_Room_allLetters (d - 1) [vr 2] σ (fun x1 τ1 => CV E y_Plan_useHands (d - 1) [vr 92, vi (τ1 50 2)] τ1 (fun τ2 => Z E y_BC_noonFor d 46 [some (vr 0), some (vi a1), some (vi (ian x1 (ixo (τ1 50 0) (-1)))), some (vi 1000), some (vi 0)] [] τ2 (qi K)))) ∧ (a1 < 0 → K (-3) σ)) :
    Z E y_BC_noonFor d 0 [some (vr 0), some (vi a1), none, none, none] [] σ (qi K) := by
  refine z_iload_n (pc := 0) (q := 1) (by decide +kernel) rfl ?_
  refine z_if_ge (pc := 1) (off := 6) 7 (by decide +kernel) (by decide) ⟨fun hc => ?_, fun hc => ?_⟩
  · have k := k.1 hc
    refine z_aload_n (pc := 7) (q := 0) (by decide +kernel) rfl ?_
    refine z_getR (pc := 8) 2 fl_BC_26 rfl rfl rfl (by decide +kernel) ?_
    refine z_callv (pc := 11) (as := []) ml_BC_211 rfl ⟨rfl, by decide⟩ rfl rfl (Nat.le_of_ble_eq_true rfl) (dc := d - 1) (by omega) (by decide +kernel) (CI.z (CI.mono (fun x1 τ1 k => ?_) k))
    refine z_aload_n (pc := 14) (q := 0) (by decide +kernel) rfl ?_
    refine z_getR (pc := 15) 50 fl_BC_36 rfl rfl rfl (by decide +kernel) ?_
    refine z_getI (pc := 18) 0 fl_BC_144 rfl (by decide) rfl (by decide +kernel) ?_
    refine z_iconst (pc := 21) (n := -1) (by decide +kernel) ⟨by decide, by decide⟩ ?_
    refine z_ixor (pc := 22) (by decide +kernel) ?_
    refine z_iand (pc := 23) (by decide +kernel) ?_
    refine z_istore_n (pc := 24) (q := 2) [some (vr 0), some (vi a1), some (vi (ian x1 (ixo (τ1 50 0) (-1)))), none, none] (by decide +kernel) (Nat.le_of_ble_eq_true rfl) rfl ?_
    refine z_sipush (pc := 25) (n := 1000) (by decide +kernel) (by decide) ⟨by decide, by decide⟩ ?_
    refine z_istore_n (pc := 28) (q := 3) [some (vr 0), some (vi a1), some (vi (ian x1 (ixo (τ1 50 0) (-1)))), some (vi 1000), none] (by decide +kernel) (Nat.le_of_ble_eq_true rfl) rfl ?_
    refine z_aload_n (pc := 29) (q := 0) (by decide +kernel) rfl ?_
    refine z_getR (pc := 30) 92 fl_BC_80 rfl rfl rfl (by decide +kernel) ?_
    refine z_aload_n (pc := 33) (q := 0) (by decide +kernel) rfl ?_
    refine z_getR (pc := 34) 50 fl_BC_36 rfl rfl rfl (by decide +kernel) ?_
    refine z_getI (pc := 37) 2 fl_BC_159 rfl (by decide) rfl (by decide +kernel) ?_
    refine z_callv (pc := 40) (as := [vi (τ1 50 2)]) ml_BC_282 rfl ⟨rfl, by decide⟩ rfl rfl (Nat.le_of_ble_eq_true rfl) (dc := d - 1) (by omega) (by decide +kernel) (CV.z (CV.mono (fun τ2 k => ?_) k))
    refine z_iconst (pc := 43) (n := 0) (by decide +kernel) ⟨by decide, by decide⟩ ?_
    refine z_istore (pc := 44) (i := 4) [some (vr 0), some (vi a1), some (vi (ian x1 (ixo (τ1 50 0) (-1)))), some (vi 1000), some (vi 0)] (by decide +kernel) (Nat.le_of_ble_eq_true rfl) rfl ?_
    exact k
  · have k := k.2 hc
    refine z_bipush (pc := 4) (n := -3) (by decide +kernel) (by decide) ⟨by decide, by decide⟩ ?_
    exact z_iret (pc := 6) (by decide +kernel) rfl k
theorem b_BC_noonFor_46 {E : EN} {d : Nat} {a1 : Int} {a2 : Int} {a3 : Int} {a4 : Int} {σ : Mem} {K : Int → Mem → Prop}  (hd : 1 ≤ d) (k : (64 ≤ a4 → (999 < a3 → K (-1) σ) ∧ (a3 ≤ 999 → K a3 σ)) ∧ (a4 < 64 → (ian a4 (ixo a2 (-1)) ≠ 0 → Z E y_BC_noonFor d 46 [some (vr 0), some (vi a1), some (vi a2), some (vi a3), some (vi (w32 (a4 + 1)))] [] σ (qi K)) ∧ (ian a4 (ixo a2 (-1)) = 0 → CI E y_Room_worthOf (d - 1) [vr 2, vi a4] σ (fun x1 τ1 => (x1 < a1 → Z E y_BC_noonFor d 46 [some (vr 0), some (vi a1), some (vi a2), some (vi a3), some (vi (w32 (a4 + 1)))] [] τ1 (qi K)) ∧ (a1 ≤ x1 → CI E y_Plan_soonest (d - 1) [vr 92, vi a4] τ1 (fun x2 τ2 => CI E y_Math_min_II (d - 1) [vi a3, vi x2] τ2 (fun x3 τ3 => Z E y_BC_noonFor d 46 [some (vr 0), some (vi a1), some (vi a2), some (vi x3), some (vi (w32 (a4 + 1)))] [] τ3 (qi K)))))))) :
    Z E y_BC_noonFor d 46 [some (vr 0), some (vi a1), some (vi a2), some (vi a3), some (vi a4)] [] σ (qi K) := by
  refine z_iload (pc := 46) (i := 4) (by decide +kernel) rfl ?_
  refine z_bipush (pc := 48) (n := 64) (by decide +kernel) (by decide) ⟨by decide, by decide⟩ ?_
  refine z_icmp_ge (pc := 50) (off := 45) 95 (by decide +kernel) (by decide) ⟨fun hc => ?_, fun hc => ?_⟩
  · have k := k.1 hc
    refine z_iload_n (pc := 95) (q := 3) (by decide +kernel) rfl ?_
    refine z_sipush (pc := 96) (n := 999) (by decide +kernel) (by decide) ⟨by decide, by decide⟩ ?_
    refine z_icmp_gt (pc := 99) (off := 7) 106 (by decide +kernel) (by decide) ⟨fun hc => ?_, fun hc => ?_⟩
    · have k := k.1 hc
      refine z_iconst (pc := 106) (n := -1) (by decide +kernel) ⟨by decide, by decide⟩ ?_
      exact z_iret (pc := 107) (by decide +kernel) rfl k
    · have k := k.2 hc
      refine z_iload_n (pc := 102) (q := 3) (by decide +kernel) rfl ?_
      refine z_goto (pc := 103) (off := 4) 107 (by decide +kernel) (by decide) ?_
      exact z_iret (pc := 107) (by decide +kernel) rfl k
  · have k := k.2 hc
    refine z_iload (pc := 53) (i := 4) (by decide +kernel) rfl ?_
    refine z_iload_n (pc := 55) (q := 2) (by decide +kernel) rfl ?_
    refine z_iconst (pc := 56) (n := -1) (by decide +kernel) ⟨by decide, by decide⟩ ?_
    refine z_ixor (pc := 57) (by decide +kernel) ?_
    refine z_iand (pc := 58) (by decide +kernel) ?_
    refine z_if_ne (pc := 59) (off := 30) 89 (by decide +kernel) (by decide) ⟨fun hc => ?_, fun hc => ?_⟩
    · have k := k.1 hc
      refine z_iinc (pc := 89) (i := 4) (n := 1) [some (vr 0), some (vi a1), some (vi a2), some (vi a3), some (vi (w32 (a4 + 1)))] (by decide +kernel) rfl rfl ?_
      refine z_goto (pc := 92) (off := -46) 46 (by decide +kernel) (by decide) ?_
      exact k
    · have k := k.2 hc
      refine z_aload_n (pc := 62) (q := 0) (by decide +kernel) rfl ?_
      refine z_getR (pc := 63) 2 fl_BC_26 rfl rfl rfl (by decide +kernel) ?_
      refine z_iload (pc := 66) (i := 4) (by decide +kernel) rfl ?_
      refine z_callv (pc := 68) (as := [vi a4]) ml_BC_288 rfl ⟨rfl, by decide⟩ rfl rfl (Nat.le_of_ble_eq_true rfl) (dc := d - 1) (by omega) (by decide +kernel) (CI.z (CI.mono (fun x1 τ1 k => ?_) k))
      refine z_iload_n (pc := 71) (q := 1) (by decide +kernel) rfl ?_
      refine z_icmp_lt (pc := 72) (off := 17) 89 (by decide +kernel) (by decide) ⟨fun hc => ?_, fun hc => ?_⟩
      · have k := k.1 hc
        refine z_iinc (pc := 89) (i := 4) (n := 1) [some (vr 0), some (vi a1), some (vi a2), some (vi a3), some (vi (w32 (a4 + 1)))] (by decide +kernel) rfl rfl ?_
        refine z_goto (pc := 92) (off := -46) 46 (by decide +kernel) (by decide) ?_
        exact k
      · have k := k.2 hc
        refine z_iload_n (pc := 75) (q := 3) (by decide +kernel) rfl ?_
        refine z_aload_n (pc := 76) (q := 0) (by decide +kernel) rfl ?_
        refine z_getR (pc := 77) 92 fl_BC_80 rfl rfl rfl (by decide +kernel) ?_
        refine z_iload (pc := 80) (i := 4) (by decide +kernel) rfl ?_
        refine z_callv (pc := 82) (as := [vi a4]) ml_BC_291 rfl ⟨rfl, by decide⟩ rfl rfl (Nat.le_of_ble_eq_true rfl) (dc := d - 1) (by omega) (by decide +kernel) (CI.z (CI.mono (fun x2 τ2 k => ?_) k))
        refine z_calls (pc := 85) (as := [vi a3, vi x2]) ml_BC_294 rfl rfl (Nat.le_of_ble_eq_true rfl) (dc := d - 1) (by omega) (by decide +kernel) (CI.z (CI.mono (fun x3 τ3 k => ?_) k))
        refine z_istore_n (pc := 88) (q := 3) [some (vr 0), some (vi a1), some (vi a2), some (vi x3), some (vi a4)] (by decide +kernel) (Nat.le_of_ble_eq_true rfl) rfl ?_
        refine z_iinc (pc := 89) (i := 4) (n := 1) [some (vr 0), some (vi a1), some (vi a2), some (vi x3), some (vi (w32 (a4 + 1)))] (by decide +kernel) rfl rfl ?_
        refine z_goto (pc := 92) (off := -46) 46 (by decide +kernel) (by decide) ?_
        exact k
theorem b_BC_without_0 {E : EN} {d : Nat} {a1 : Int} {σ : Mem} {K : Int → Mem → Prop}  (hd : 1 ≤ d) (k : CI E y_Room_hasHand (d - 1) [vr 2, vi a1] σ (fun x1 τ1 => (x1 ≠ 0 → CI E y_Room_allLetters (d - 1) [vr 2] τ1 (fun x2 τ2 => CV E y_Plan_useHands (d - 1) [vr 92, vi (τ2 50 2)] τ2 (fun τ3 => CI E y_Plan_mostWorth (d - 1) [vr 92, vi (ian x2 (ixo (τ2 50 0) (-1))), vi (τ3 2 0)] τ3 (fun x4 τ4 => CV E y_Plan_useHands (d - 1) [vr 92, vi (ian (τ4 50 2) (ixo (ish 1 a1) (-1)))] τ4 (fun τ5 => CI E y_Plan_mostWorth (d - 1) [vr 92, vi (ian x2 (ixo (τ2 50 0) (-1))), vi (τ5 2 0)] τ5 (fun x6 τ6 => K (w32 (x4 - x6)) τ6)))))) ∧ (x1 = 0 → K (-2) τ1))) :
    Z E y_BC_without d 0 [some (vr 0), some (vi a1), none, none] [] σ (qi K) := by
  refine z_aload_n (pc := 0) (q := 0) (by decide +kernel) rfl ?_
  refine z_getR (pc := 1) 2 fl_BC_26 rfl rfl rfl (by decide +kernel) ?_
  refine z_iload_n (pc := 4) (q := 1) (by decide +kernel) rfl ?_
  refine z_callv (pc := 5) (as := [vi a1]) ml_BC_149 rfl ⟨rfl, by decide⟩ rfl rfl (Nat.le_of_ble_eq_true rfl) (dc := d - 1) (by omega) (by decide +kernel) (CI.z (CI.mono (fun x1 τ1 k => ?_) k))
  refine z_if_ne (pc := 8) (off := 6) 14 (by decide +kernel) (by decide) ⟨fun hc => ?_, fun hc => ?_⟩
  · have k := k.1 hc
    refine z_aload_n (pc := 14) (q := 0) (by decide +kernel) rfl ?_
    refine z_getR (pc := 15) 2 fl_BC_26 rfl rfl rfl (by decide +kernel) ?_
    refine z_callv (pc := 18) (as := []) ml_BC_211 rfl ⟨rfl, by decide⟩ rfl rfl (Nat.le_of_ble_eq_true rfl) (dc := d - 1) (by omega) (by decide +kernel) (CI.z (CI.mono (fun x2 τ2 k => ?_) k))
    refine z_aload_n (pc := 21) (q := 0) (by decide +kernel) rfl ?_
    refine z_getR (pc := 22) 50 fl_BC_36 rfl rfl rfl (by decide +kernel) ?_
    refine z_getI (pc := 25) 0 fl_BC_144 rfl (by decide) rfl (by decide +kernel) ?_
    refine z_iconst (pc := 28) (n := -1) (by decide +kernel) ⟨by decide, by decide⟩ ?_
    refine z_ixor (pc := 29) (by decide +kernel) ?_
    refine z_iand (pc := 30) (by decide +kernel) ?_
    refine z_istore_n (pc := 31) (q := 2) [some (vr 0), some (vi a1), some (vi (ian x2 (ixo (τ2 50 0) (-1)))), none] (by decide +kernel) (Nat.le_of_ble_eq_true rfl) rfl ?_
    refine z_aload_n (pc := 32) (q := 0) (by decide +kernel) rfl ?_
    refine z_getR (pc := 33) 92 fl_BC_80 rfl rfl rfl (by decide +kernel) ?_
    refine z_aload_n (pc := 36) (q := 0) (by decide +kernel) rfl ?_
    refine z_getR (pc := 37) 50 fl_BC_36 rfl rfl rfl (by decide +kernel) ?_
    refine z_getI (pc := 40) 2 fl_BC_159 rfl (by decide) rfl (by decide +kernel) ?_
    refine z_callv (pc := 43) (as := [vi (τ2 50 2)]) ml_BC_282 rfl ⟨rfl, by decide⟩ rfl rfl (Nat.le_of_ble_eq_true rfl) (dc := d - 1) (by omega) (by decide +kernel) (CV.z (CV.mono (fun τ3 k => ?_) k))
    refine z_aload_n (pc := 46) (q := 0) (by decide +kernel) rfl ?_
    refine z_getR (pc := 47) 92 fl_BC_80 rfl rfl rfl (by decide +kernel) ?_
    refine z_iload_n (pc := 50) (q := 2) (by decide +kernel) rfl ?_
    refine z_aload_n (pc := 51) (q := 0) (by decide +kernel) rfl ?_
    refine z_getR (pc := 52) 2 fl_BC_26 rfl rfl rfl (by decide +kernel) ?_
    refine z_getI (pc := 55) 0 fl_BC_299 rfl (by decide) rfl (by decide +kernel) ?_
    refine z_callv (pc := 58) (as := [vi (ian x2 (ixo (τ2 50 0) (-1))), vi (τ3 2 0)]) ml_BC_285 rfl ⟨rfl, by decide⟩ rfl rfl (Nat.le_of_ble_eq_true rfl) (dc := d - 1) (by omega) (by decide +kernel) (CI.z (CI.mono (fun x4 τ4 k => ?_) k))
    refine z_istore_n (pc := 61) (q := 3) [some (vr 0), some (vi a1), some (vi (ian x2 (ixo (τ2 50 0) (-1)))), some (vi x4)] (by decide +kernel) (Nat.le_of_ble_eq_true rfl) rfl ?_
    refine z_aload_n (pc := 62) (q := 0) (by decide +kernel) rfl ?_
    refine z_getR (pc := 63) 92 fl_BC_80 rfl rfl rfl (by decide +kernel) ?_
    refine z_aload_n (pc := 66) (q := 0) (by decide +kernel) rfl ?_
    refine z_getR (pc := 67) 50 fl_BC_36 rfl rfl rfl (by decide +kernel) ?_
    refine z_getI (pc := 70) 2 fl_BC_159 rfl (by decide) rfl (by decide +kernel) ?_
    refine z_iconst (pc := 73) (n := 1) (by decide +kernel) ⟨by decide, by decide⟩ ?_
    refine z_iload_n (pc := 74) (q := 1) (by decide +kernel) rfl ?_
    refine z_ishl (pc := 75) (by decide +kernel) ?_
    refine z_iconst (pc := 76) (n := -1) (by decide +kernel) ⟨by decide, by decide⟩ ?_
    refine z_ixor (pc := 77) (by decide +kernel) ?_
    refine z_iand (pc := 78) (by decide +kernel) ?_
    refine z_callv (pc := 79) (as := [vi (ian (τ4 50 2) (ixo (ish 1 a1) (-1)))]) ml_BC_282 rfl ⟨rfl, by decide⟩ rfl rfl (Nat.le_of_ble_eq_true rfl) (dc := d - 1) (by omega) (by decide +kernel) (CV.z (CV.mono (fun τ5 k => ?_) k))
    refine z_iload_n (pc := 82) (q := 3) (by decide +kernel) rfl ?_
    refine z_aload_n (pc := 83) (q := 0) (by decide +kernel) rfl ?_
    refine z_getR (pc := 84) 92 fl_BC_80 rfl rfl rfl (by decide +kernel) ?_
    refine z_iload_n (pc := 87) (q := 2) (by decide +kernel) rfl ?_
    refine z_aload_n (pc := 88) (q := 0) (by decide +kernel) rfl ?_
    refine z_getR (pc := 89) 2 fl_BC_26 rfl rfl rfl (by decide +kernel) ?_
    refine z_getI (pc := 92) 0 fl_BC_299 rfl (by decide) rfl (by decide +kernel) ?_
    refine z_callv (pc := 95) (as := [vi (ian x2 (ixo (τ2 50 0) (-1))), vi (τ5 2 0)]) ml_BC_285 rfl ⟨rfl, by decide⟩ rfl rfl (Nat.le_of_ble_eq_true rfl) (dc := d - 1) (by omega) (by decide +kernel) (CI.z (CI.mono (fun x6 τ6 k => ?_) k))
    refine z_isub (pc := 98) (by decide +kernel) ?_
    exact z_iret (pc := 99) (by decide +kernel) rfl k
  · have k := k.2 hc
    refine z_bipush (pc := 11) (n := -2) (by decide +kernel) (by decide) ⟨by decide, by decide⟩ ?_
    exact z_iret (pc := 13) (by decide +kernel) rfl k
theorem b_BC_hindrance_0 {E : EN} {d : Nat}  {σ : Mem} {K : Int → Mem → Prop}  (hd : 1 ≤ d) (k : CV E y_Plan_useHands (d - 1) [vr 92, vi (σ 50 2)] σ (fun τ1 => CI E y_Room_allLetters (d - 1) [vr 2] τ1 (fun x2 τ2 => Z E y_BC_hindrance d 39 [some (vr 0), some (vi (ian x2 (ixo (τ2 50 0) (-1)))), some (vi (-1)), some (vi (-1)), some (vi 0), none] [] τ2 (qi K)))) :
    Z E y_BC_hindrance d 0 [some (vr 0), none, none, none, none, none] [] σ (qi K) := by
  refine z_aload_n (pc := 0) (q := 0) (by decide +kernel) rfl ?_
  refine z_getR (pc := 1) 92 fl_BC_80 rfl rfl rfl (by decide +kernel) ?_
  refine z_aload_n (pc := 4) (q := 0) (by decide +kernel) rfl ?_
  refine z_getR (pc := 5) 50 fl_BC_36 rfl rfl rfl (by decide +kernel) ?_
  refine z_getI (pc := 8) 2 fl_BC_159 rfl (by decide) rfl (by decide +kernel) ?_
  refine z_callv (pc := 11) (as := [vi (σ 50 2)]) ml_BC_282 rfl ⟨rfl, by decide⟩ rfl rfl (Nat.le_of_ble_eq_true rfl) (dc := d - 1) (by omega) (by decide +kernel) (CV.z (CV.mono (fun τ1 k => ?_) k))
  refine z_aload_n (pc := 14) (q := 0) (by decide +kernel) rfl ?_
  refine z_getR (pc := 15) 2 fl_BC_26 rfl rfl rfl (by decide +kernel) ?_
  refine z_callv (pc := 18) (as := []) ml_BC_211 rfl ⟨rfl, by decide⟩ rfl rfl (Nat.le_of_ble_eq_true rfl) (dc := d - 1) (by omega) (by decide +kernel) (CI.z (CI.mono (fun x2 τ2 k => ?_) k))
  refine z_aload_n (pc := 21) (q := 0) (by decide +kernel) rfl ?_
  refine z_getR (pc := 22) 50 fl_BC_36 rfl rfl rfl (by decide +kernel) ?_
  refine z_getI (pc := 25) 0 fl_BC_144 rfl (by decide) rfl (by decide +kernel) ?_
  refine z_iconst (pc := 28) (n := -1) (by decide +kernel) ⟨by decide, by decide⟩ ?_
  refine z_ixor (pc := 29) (by decide +kernel) ?_
  refine z_iand (pc := 30) (by decide +kernel) ?_
  refine z_istore_n (pc := 31) (q := 1) [some (vr 0), some (vi (ian x2 (ixo (τ2 50 0) (-1)))), none, none, none, none] (by decide +kernel) (Nat.le_of_ble_eq_true rfl) rfl ?_
  refine z_iconst (pc := 32) (n := -1) (by decide +kernel) ⟨by decide, by decide⟩ ?_
  refine z_istore_n (pc := 33) (q := 2) [some (vr 0), some (vi (ian x2 (ixo (τ2 50 0) (-1)))), some (vi (-1)), none, none, none] (by decide +kernel) (Nat.le_of_ble_eq_true rfl) rfl ?_
  refine z_iconst (pc := 34) (n := -1) (by decide +kernel) ⟨by decide, by decide⟩ ?_
  refine z_istore_n (pc := 35) (q := 3) [some (vr 0), some (vi (ian x2 (ixo (τ2 50 0) (-1)))), some (vi (-1)), some (vi (-1)), none, none] (by decide +kernel) (Nat.le_of_ble_eq_true rfl) rfl ?_
  refine z_iconst (pc := 36) (n := 0) (by decide +kernel) ⟨by decide, by decide⟩ ?_
  refine z_istore (pc := 37) (i := 4) [some (vr 0), some (vi (ian x2 (ixo (τ2 50 0) (-1)))), some (vi (-1)), some (vi (-1)), some (vi 0), none] (by decide +kernel) (Nat.le_of_ble_eq_true rfl) rfl ?_
  exact k
theorem b_BC_hindrance_39 {E : EN} {d : Nat} {a1 : Int} {a2 : Int} {a3 : Int} {a4 : Int} {o5 : Option AV} {σ : Mem} {K : Int → Mem → Prop}  (hd : 1 ≤ d) (k : (σ 2 3 ≤ a4 → K a2 σ) ∧ (a4 < σ 2 3 → (ian (isr a1 a4) 1 = 0 → Z E y_BC_hindrance d 39 [some (vr 0), some (vi a1), some (vi a2), some (vi a3), some (vi (w32 (a4 + 1))), o5] [] σ (qi K)) ∧ (ian (isr a1 a4) 1 ≠ 0 → CI E y_Plan_mostWorth (d - 1) [vr 92, vi (ian a1 (ixo (ish 1 a4) (-1))), vi (σ 2 0)] σ (fun x1 τ1 => (x1 ≤ a3 → Z E y_BC_hindrance d 39 [some (vr 0), some (vi a1), some (vi a2), some (vi a3), some (vi (w32 (a4 + 1))), some (vi x1)] [] τ1 (qi K)) ∧ (a3 < x1 → Z E y_BC_hindrance d 39 [some (vr 0), some (vi a1), some (vi a4), some (vi x1), some (vi (w32 (a4 + 1))), some (vi x1)] [] τ1 (qi K)))))) :
    Z E y_BC_hindrance d 39 [some (vr 0), some (vi a1), some (vi a2), some (vi a3), some (vi a4), o5] [] σ (qi K) := by
  refine z_iload (pc := 39) (i := 4) (by decide +kernel) rfl ?_
  refine z_aload_n (pc := 41) (q := 0) (by decide +kernel) rfl ?_
  refine z_getR (pc := 42) 2 fl_BC_26 rfl rfl rfl (by decide +kernel) ?_
  refine z_getI (pc := 45) 3 fl_BC_302 rfl (by decide) rfl (by decide +kernel) ?_
  refine z_icmp_ge (pc := 48) (off := 54) 102 (by decide +kernel) (by decide) ⟨fun hc => ?_, fun hc => ?_⟩
  · have k := k.1 hc
    refine z_iload_n (pc := 102) (q := 2) (by decide +kernel) rfl ?_
    exact z_iret (pc := 103) (by decide +kernel) rfl k
  · have k := k.2 hc
    refine z_iload_n (pc := 51) (q := 1) (by decide +kernel) rfl ?_
    refine z_iload (pc := 52) (i := 4) (by decide +kernel) rfl ?_
    refine z_ishr (pc := 54) (by decide +kernel) ?_
    refine z_iconst (pc := 55) (n := 1) (by decide +kernel) ⟨by decide, by decide⟩ ?_
    refine z_iand (pc := 56) (by decide +kernel) ?_
    refine z_if_eq (pc := 57) (off := 39) 96 (by decide +kernel) (by decide) ⟨fun hc => ?_, fun hc => ?_⟩
    · have k := k.1 hc
      refine z_iinc (pc := 96) (i := 4) (n := 1) [some (vr 0), some (vi a1), some (vi a2), some (vi a3), some (vi (w32 (a4 + 1))), o5] (by decide +kernel) rfl rfl ?_
      refine z_goto (pc := 99) (off := -60) 39 (by decide +kernel) (by decide) ?_
      exact k
    · have k := k.2 hc
      refine z_aload_n (pc := 60) (q := 0) (by decide +kernel) rfl ?_
      refine z_getR (pc := 61) 92 fl_BC_80 rfl rfl rfl (by decide +kernel) ?_
      refine z_iload_n (pc := 64) (q := 1) (by decide +kernel) rfl ?_
      refine z_iconst (pc := 65) (n := 1) (by decide +kernel) ⟨by decide, by decide⟩ ?_
      refine z_iload (pc := 66) (i := 4) (by decide +kernel) rfl ?_
      refine z_ishl (pc := 68) (by decide +kernel) ?_
      refine z_iconst (pc := 69) (n := -1) (by decide +kernel) ⟨by decide, by decide⟩ ?_
      refine z_ixor (pc := 70) (by decide +kernel) ?_
      refine z_iand (pc := 71) (by decide +kernel) ?_
      refine z_aload_n (pc := 72) (q := 0) (by decide +kernel) rfl ?_
      refine z_getR (pc := 73) 2 fl_BC_26 rfl rfl rfl (by decide +kernel) ?_
      refine z_getI (pc := 76) 0 fl_BC_299 rfl (by decide) rfl (by decide +kernel) ?_
      refine z_callv (pc := 79) (as := [vi (ian a1 (ixo (ish 1 a4) (-1))), vi (σ 2 0)]) ml_BC_285 rfl ⟨rfl, by decide⟩ rfl rfl (Nat.le_of_ble_eq_true rfl) (dc := d - 1) (by omega) (by decide +kernel) (CI.z (CI.mono (fun x1 τ1 k => ?_) k))
      refine z_istore (pc := 82) (i := 5) [some (vr 0), some (vi a1), some (vi a2), some (vi a3), some (vi a4), some (vi x1)] (by decide +kernel) (Nat.le_of_ble_eq_true rfl) rfl ?_
      refine z_iload (pc := 84) (i := 5) (by decide +kernel) rfl ?_
      refine z_iload_n (pc := 86) (q := 3) (by decide +kernel) rfl ?_
      refine z_icmp_le (pc := 87) (off := 9) 96 (by decide +kernel) (by decide) ⟨fun hc => ?_, fun hc => ?_⟩
      · have k := k.1 hc
        refine z_iinc (pc := 96) (i := 4) (n := 1) [some (vr 0), some (vi a1), some (vi a2), some (vi a3), some (vi (w32 (a4 + 1))), some (vi x1)] (by decide +kernel) rfl rfl ?_
        refine z_goto (pc := 99) (off := -60) 39 (by decide +kernel) (by decide) ?_
        exact k
      · have k := k.2 hc
        refine z_iload (pc := 90) (i := 5) (by decide +kernel) rfl ?_
        refine z_istore_n (pc := 92) (q := 3) [some (vr 0), some (vi a1), some (vi a2), some (vi x1), some (vi a4), some (vi x1)] (by decide +kernel) (Nat.le_of_ble_eq_true rfl) rfl ?_
        refine z_iload (pc := 93) (i := 4) (by decide +kernel) rfl ?_
        refine z_istore_n (pc := 95) (q := 2) [some (vr 0), some (vi a1), some (vi a4), some (vi x1), some (vi a4), some (vi x1)] (by decide +kernel) (Nat.le_of_ble_eq_true rfl) rfl ?_
        refine z_iinc (pc := 96) (i := 4) (n := 1) [some (vr 0), some (vi a1), some (vi a4), some (vi x1), some (vi (w32 (a4 + 1))), some (vi x1)] (by decide +kernel) rfl rfl ?_
        refine z_goto (pc := 99) (off := -60) 39 (by decide +kernel) (by decide) ?_
        exact k
theorem b_BC_hopeless_0 {E : EN} {d : Nat}  {σ : Mem} {K : Int → Mem → Prop}  (hd : 1 ≤ d) (k : CV E y_Plan_useHands (d - 1) [vr 92, vi (σ 50 2)] σ (fun τ1 => Z E y_BC_hopeless d 18 [some (vr 0), some (vi 0), some (vi 0), none] [] τ1 (qi K))) :
    Z E y_BC_hopeless d 0 [some (vr 0), none, none, none] [] σ (qi K) := by
  refine z_aload_n (pc := 0) (q := 0) (by decide +kernel) rfl ?_
  refine z_getR (pc := 1) 92 fl_BC_80 rfl rfl rfl (by decide +kernel) ?_
  refine z_aload_n (pc := 4) (q := 0) (by decide +kernel) rfl ?_
  refine z_getR (pc := 5) 50 fl_BC_36 rfl rfl rfl (by decide +kernel) ?_
  refine z_getI (pc := 8) 2 fl_BC_159 rfl (by decide) rfl (by decide +kernel) ?_
  refine z_callv (pc := 11) (as := [vi (σ 50 2)]) ml_BC_282 rfl ⟨rfl, by decide⟩ rfl rfl (Nat.le_of_ble_eq_true rfl) (dc := d - 1) (by omega) (by decide +kernel) (CV.z (CV.mono (fun τ1 k => ?_) k))
  refine z_iconst (pc := 14) (n := 0) (by decide +kernel) ⟨by decide, by decide⟩ ?_
  refine z_istore_n (pc := 15) (q := 1) [some (vr 0), some (vi 0), none, none] (by decide +kernel) (Nat.le_of_ble_eq_true rfl) rfl ?_
  refine z_iconst (pc := 16) (n := 0) (by decide +kernel) ⟨by decide, by decide⟩ ?_
  refine z_istore_n (pc := 17) (q := 2) [some (vr 0), some (vi 0), some (vi 0), none] (by decide +kernel) (Nat.le_of_ble_eq_true rfl) rfl ?_
  exact k
theorem b_BC_hopeless_18 {E : EN} {d : Nat} {a1 : Int} {a2 : Int} {o3 : Option AV} {σ : Mem} {K : Int → Mem → Prop}  (k : (σ 2 3 ≤ a2 → K a1 σ) ∧ (a2 < σ 2 3 → (ian (isr (σ 50 0) a2) 1 ≠ 0 → Z E y_BC_hopeless d 48 [some (vr 0), some (vi a1), some (vi a2), o3] [vi 0] σ (qi K)) ∧ (ian (isr (σ 50 0) a2) 1 = 0 → Z E y_BC_hopeless d 48 [some (vr 0), some (vi a1), some (vi a2), o3] [vi 1] σ (qi K)))) :
    Z E y_BC_hopeless d 18 [some (vr 0), some (vi a1), some (vi a2), o3] [] σ (qi K) := by
  refine z_iload_n (pc := 18) (q := 2) (by decide +kernel) rfl ?_
  refine z_aload_n (pc := 19) (q := 0) (by decide +kernel) rfl ?_
  refine z_getR (pc := 20) 2 fl_BC_26 rfl rfl rfl (by decide +kernel) ?_
  refine z_getI (pc := 23) 3 fl_BC_302 rfl (by decide) rfl (by decide +kernel) ?_
  refine z_icmp_ge (pc := 26) (off := 59) 85 (by decide +kernel) (by decide) ⟨fun hc => ?_, fun hc => ?_⟩
  · have k := k.1 hc
    refine z_iload_n (pc := 85) (q := 1) (by decide +kernel) rfl ?_
    exact z_iret (pc := 86) (by decide +kernel) rfl k
  · have k := k.2 hc
    refine z_aload_n (pc := 29) (q := 0) (by decide +kernel) rfl ?_
    refine z_getR (pc := 30) 50 fl_BC_36 rfl rfl rfl (by decide +kernel) ?_
    refine z_getI (pc := 33) 0 fl_BC_144 rfl (by decide) rfl (by decide +kernel) ?_
    refine z_iload_n (pc := 36) (q := 2) (by decide +kernel) rfl ?_
    refine z_ishr (pc := 37) (by decide +kernel) ?_
    refine z_iconst (pc := 38) (n := 1) (by decide +kernel) ⟨by decide, by decide⟩ ?_
    refine z_iand (pc := 39) (by decide +kernel) ?_
    refine z_if_ne (pc := 40) (off := 7) 47 (by decide +kernel) (by decide) ⟨fun hc => ?_, fun hc => ?_⟩
    · have k := k.1 hc
      refine z_iconst (pc := 47) (n := 0) (by decide +kernel) ⟨by decide, by decide⟩ ?_
      exact k
    · have k := k.2 hc
      refine z_iconst (pc := 43) (n := 1) (by decide +kernel) ⟨by decide, by decide⟩ ?_
      refine z_goto (pc := 44) (off := 4) 48 (by decide +kernel) (by decide) ?_
      exact k
theorem b_BC_hopeless_48 {E : EN} {d : Nat} {a1 : Int} {a2 : Int} {o3 : Option AV} {s0 : Int} {σ : Mem} {K : Int → Mem → Prop}  (hd : 1 ≤ d) (k : (s0 = 0 → Z E y_BC_hopeless d 18 [some (vr 0), some (vi a1), some (vi (w32 (a2 + 1))), some (vi s0)] [] σ (qi K)) ∧ (s0 ≠ 0 → CI E y_Plan_soonest (d - 1) [vr 92, vi (ish 1 a2)] σ (fun x1 τ1 => (x1 ≤ τ1 2 0 → Z E y_BC_hopeless d 18 [some (vr 0), some (vi a1), some (vi (w32 (a2 + 1))), some (vi s0)] [] τ1 (qi K)) ∧ (τ1 2 0 < x1 → Z E y_BC_hopeless d 18 [some (vr 0), some (vi (ior a1 (ish 1 a2))), some (vi (w32 (a2 + 1))), some (vi s0)] [] τ1 (qi K))))) :
    Z E y_BC_hopeless d 48 [some (vr 0), some (vi a1), some (vi a2), o3] [vi s0] σ (qi K) := by
  refine z_istore_n (pc := 48) (q := 3) [some (vr 0), some (vi a1), some (vi a2), some (vi s0)] (by decide +kernel) (Nat.le_of_ble_eq_true rfl) rfl ?_
  refine z_iload_n (pc := 49) (q := 3) (by decide +kernel) rfl ?_
  refine z_if_eq (pc := 50) (off := 29) 79 (by decide +kernel) (by decide) ⟨fun hc => ?_, fun hc => ?_⟩
  · have k := k.1 hc
    refine z_iinc (pc := 79) (i := 2) (n := 1) [some (vr 0), some (vi a1), some (vi (w32 (a2 + 1))), some (vi s0)] (by decide +kernel) rfl rfl ?_
    refine z_goto (pc := 82) (off := -64) 18 (by decide +kernel) (by decide) ?_
    exact k
  · have k := k.2 hc
    refine z_aload_n (pc := 53) (q := 0) (by decide +kernel) rfl ?_
    refine z_getR (pc := 54) 92 fl_BC_80 rfl rfl rfl (by decide +kernel) ?_
    refine z_iconst (pc := 57) (n := 1) (by decide +kernel) ⟨by decide, by decide⟩ ?_
    refine z_iload_n (pc := 58) (q := 2) (by decide +kernel) rfl ?_
    refine z_ishl (pc := 59) (by decide +kernel) ?_
    refine z_callv (pc := 60) (as := [vi (ish 1 a2)]) ml_BC_291 rfl ⟨rfl, by decide⟩ rfl rfl (Nat.le_of_ble_eq_true rfl) (dc := d - 1) (by omega) (by decide +kernel) (CI.z (CI.mono (fun x1 τ1 k => ?_) k))
    refine z_aload_n (pc := 63) (q := 0) (by decide +kernel) rfl ?_
    refine z_getR (pc := 64) 2 fl_BC_26 rfl rfl rfl (by decide +kernel) ?_
    refine z_getI (pc := 67) 0 fl_BC_299 rfl (by decide) rfl (by decide +kernel) ?_
    refine z_icmp_le (pc := 70) (off := 9) 79 (by decide +kernel) (by decide) ⟨fun hc => ?_, fun hc => ?_⟩
    · have k := k.1 hc
      refine z_iinc (pc := 79) (i := 2) (n := 1) [some (vr 0), some (vi a1), some (vi (w32 (a2 + 1))), some (vi s0)] (by decide +kernel) rfl rfl ?_
      refine z_goto (pc := 82) (off := -64) 18 (by decide +kernel) (by decide) ?_
      exact k
    · have k := k.2 hc
      refine z_iload_n (pc := 73) (q := 1) (by decide +kernel) rfl ?_
      refine z_iconst (pc := 74) (n := 1) (by decide +kernel) ⟨by decide, by decide⟩ ?_
      refine z_iload_n (pc := 75) (q := 2) (by decide +kernel) rfl ?_
      refine z_ishl (pc := 76) (by decide +kernel) ?_
      refine z_ior (pc := 77) (by decide +kernel) ?_
      refine z_istore_n (pc := 78) (q := 1) [some (vr 0), some (vi (ior a1 (ish 1 a2))), some (vi a2), some (vi s0)] (by decide +kernel) (Nat.le_of_ble_eq_true rfl) rfl ?_
      refine z_iinc (pc := 79) (i := 2) (n := 1) [some (vr 0), some (vi (ior a1 (ish 1 a2))), some (vi (w32 (a2 + 1))), some (vi s0)] (by decide +kernel) rfl rfl ?_
      refine z_goto (pc := 82) (off := -64) 18 (by decide +kernel) (by decide) ?_
      exact k
theorem b_BC_rule_0 {E : EN} {d : Nat} {a1 : Int} {σ : Mem} {K : Int → Mem → Prop}  (hd : 1 ≤ d) (k : CI E y_Room_allLetters (d - 1) [vr 2] σ (fun x1 τ1 => CV E y_Doer_ruleRow (d - 1) [vr 91, vi (ian x1 (ixo (τ1 50 0) (-1))), vi (τ1 50 2)] τ1 (fun τ2 => (a1 = 0 → K (τ2 73 2) τ2) ∧ (a1 = 1 → CI E y_Room_worthOf (d - 1) [vr 2, vi (τ2 73 2)] τ2 (fun x3 τ3 => K x3 τ3)) ∧ (a1 = 2 → CI E y_Row_end (d - 1) [vr 73] τ2 (fun x4 τ4 => K x4 τ4)) ∧ (a1 < 0 ∨ 2 < a1 → K (-2) τ2)))) :
    Z E y_BC_rule d 0 [some (vr 0), some (vi a1)] [] σ (qi K) := by
  refine z_aload_n (pc := 0) (q := 0) (by decide +kernel) rfl ?_
  refine z_getR (pc := 1) 91 fl_BC_73 rfl rfl rfl (by decide +kernel) ?_
  refine z_aload_n (pc := 4) (q := 0) (by decide +kernel) rfl ?_
  refine z_getR (pc := 5) 2 fl_BC_26 rfl rfl rfl (by decide +kernel) ?_
  refine z_callv (pc := 8) (as := []) ml_BC_211 rfl ⟨rfl, by decide⟩ rfl rfl (Nat.le_of_ble_eq_true rfl) (dc := d - 1) (by omega) (by decide +kernel) (CI.z (CI.mono (fun x1 τ1 k => ?_) k))
  refine z_aload_n (pc := 11) (q := 0) (by decide +kernel) rfl ?_
  refine z_getR (pc := 12) 50 fl_BC_36 rfl rfl rfl (by decide +kernel) ?_
  refine z_getI (pc := 15) 0 fl_BC_144 rfl (by decide) rfl (by decide +kernel) ?_
  refine z_iconst (pc := 18) (n := -1) (by decide +kernel) ⟨by decide, by decide⟩ ?_
  refine z_ixor (pc := 19) (by decide +kernel) ?_
  refine z_iand (pc := 20) (by decide +kernel) ?_
  refine z_aload_n (pc := 21) (q := 0) (by decide +kernel) rfl ?_
  refine z_getR (pc := 22) 50 fl_BC_36 rfl rfl rfl (by decide +kernel) ?_
  refine z_getI (pc := 25) 2 fl_BC_159 rfl (by decide) rfl (by decide +kernel) ?_
  refine z_callv (pc := 28) (as := [vi (ian x1 (ixo (τ1 50 0) (-1))), vi (τ1 50 2)]) ml_BC_214 rfl ⟨rfl, by decide⟩ rfl rfl (Nat.le_of_ble_eq_true rfl) (dc := d - 1) (by omega) (by decide +kernel) (CV.z (CV.mono (fun τ2 k => ?_) k))
  refine z_iload_n (pc := 31) (q := 1) (by decide +kernel) rfl ?_
  have hdg : decode y_BC_rule.2.1 32 = .ok (.tableswitch 59 0 2 #[28, 36, 51], 28) := by decide +kernel
  by_cases hl0 : a1 < 0
  · have k := k.2.2.2 (Or.inl hl0)
    refine z_tableOut (pc := 32) 91 hdg (Or.inl hl0) (by decide) ?_
    refine z_bipush (pc := 91) (n := -2) (by decide +kernel) (by decide) ⟨by decide, by decide⟩ ?_
    exact z_iret (pc := 93) (by decide +kernel) rfl k
  have hl : 0 ≤ a1 := Int.not_lt.mp hl0
  by_cases hc : a1 = 0
  · have k := k.1 hc
    refine z_tableIn2 (pc := 32) (off := 28) 60 hdg hc (by decide) (by decide +kernel) (by decide) ?_
    refine z_aload_n (pc := 60) (q := 0) (by decide +kernel) rfl ?_
    refine z_getR (pc := 61) 73 fl_BC_64 rfl rfl rfl (by decide +kernel) ?_
    refine z_getI (pc := 64) 2 fl_BC_218 rfl (by decide) rfl (by decide +kernel) ?_
    exact z_iret (pc := 67) (by decide +kernel) rfl k
  have k := k.2
  have hl := ne_up (w := 1) hl hc rfl; clear hc
  by_cases hc : a1 = 1
  · have k := k.1 hc
    refine z_tableIn2 (pc := 32) (off := 36) 68 hdg hc (by decide) (by decide +kernel) (by decide) ?_
    refine z_aload_n (pc := 68) (q := 0) (by decide +kernel) rfl ?_
    refine z_getR (pc := 69) 2 fl_BC_26 rfl rfl rfl (by decide +kernel) ?_
    refine z_aload_n (pc := 72) (q := 0) (by decide +kernel) rfl ?_
    refine z_getR (pc := 73) 73 fl_BC_64 rfl rfl rfl (by decide +kernel) ?_
    refine z_getI (pc := 76) 2 fl_BC_218 rfl (by decide) rfl (by decide +kernel) ?_
    refine z_callv (pc := 79) (as := [vi (τ2 73 2)]) ml_BC_288 rfl ⟨rfl, by decide⟩ rfl rfl (Nat.le_of_ble_eq_true rfl) (dc := d - 1) (by omega) (by decide +kernel) (CI.z (CI.mono (fun x3 τ3 k => ?_) k))
    exact z_iret (pc := 82) (by decide +kernel) rfl k
  have k := k.2
  have hl := ne_up (w := 2) hl hc rfl; clear hc
  by_cases hc : a1 = 2
  · have k := k.1 hc
    refine z_tableIn2 (pc := 32) (off := 51) 83 hdg hc (by decide) (by decide +kernel) (by decide) ?_
    refine z_aload_n (pc := 83) (q := 0) (by decide +kernel) rfl ?_
    refine z_getR (pc := 84) 73 fl_BC_64 rfl rfl rfl (by decide +kernel) ?_
    refine z_callv (pc := 87) (as := []) ml_BC_250 rfl ⟨rfl, by decide⟩ rfl rfl (Nat.le_of_ble_eq_true rfl) (dc := d - 1) (by omega) (by decide +kernel) (CI.z (CI.mono (fun x4 τ4 k => ?_) k))
    exact z_iret (pc := 90) (by decide +kernel) rfl k
  have k := k.2
  have hl := ne_up (w := 3) hl hc rfl; clear hc
  have hl := Int.lt_of_add_one_le (a := 2) hl
  have k := k (Or.inr hl)
  refine z_tableOut (pc := 32) 91 hdg (Or.inr hl) (by decide) ?_
  refine z_bipush (pc := 91) (n := -2) (by decide +kernel) (by decide) ⟨by decide, by decide⟩ ?_
  exact z_iret (pc := 93) (by decide +kernel) rfl k
theorem b_BC_ruleBy_0 {E : EN} {d : Nat} {a1 : Int} {σ : Mem} {K : Int → Mem → Prop}  (hd : 1 ≤ d) (k : CI E y_Room_hasLetter (d - 1) [vr 2, vi a1] σ (fun x1 τ1 => (x1 ≠ 0 → CI E y_Room_allLetters (d - 1) [vr 2] τ1 (fun x2 τ2 => CV E y_Doer_ruleRow (d - 1) [vr 91, vi (ian x2 (ixo (τ2 50 0) (-1))), vi (τ2 50 2)] τ2 (fun τ3 => Z E y_BC_ruleBy d 47 [some (vr 0), some (vi a1), some (vi 0)] [] τ3 (qi K)))) ∧ (x1 = 0 → K (-2) τ1))) :
    Z E y_BC_ruleBy d 0 [some (vr 0), some (vi a1), none] [] σ (qi K) := by
  refine z_aload_n (pc := 0) (q := 0) (by decide +kernel) rfl ?_
  refine z_getR (pc := 1) 2 fl_BC_26 rfl rfl rfl (by decide +kernel) ?_
  refine z_iload_n (pc := 4) (q := 1) (by decide +kernel) rfl ?_
  refine z_callv (pc := 5) (as := [vi a1]) ml_BC_136 rfl ⟨rfl, by decide⟩ rfl rfl (Nat.le_of_ble_eq_true rfl) (dc := d - 1) (by omega) (by decide +kernel) (CI.z (CI.mono (fun x1 τ1 k => ?_) k))
  refine z_if_ne (pc := 8) (off := 6) 14 (by decide +kernel) (by decide) ⟨fun hc => ?_, fun hc => ?_⟩
  · have k := k.1 hc
    refine z_aload_n (pc := 14) (q := 0) (by decide +kernel) rfl ?_
    refine z_getR (pc := 15) 91 fl_BC_73 rfl rfl rfl (by decide +kernel) ?_
    refine z_aload_n (pc := 18) (q := 0) (by decide +kernel) rfl ?_
    refine z_getR (pc := 19) 2 fl_BC_26 rfl rfl rfl (by decide +kernel) ?_
    refine z_callv (pc := 22) (as := []) ml_BC_211 rfl ⟨rfl, by decide⟩ rfl rfl (Nat.le_of_ble_eq_true rfl) (dc := d - 1) (by omega) (by decide +kernel) (CI.z (CI.mono (fun x2 τ2 k => ?_) k))
    refine z_aload_n (pc := 25) (q := 0) (by decide +kernel) rfl ?_
    refine z_getR (pc := 26) 50 fl_BC_36 rfl rfl rfl (by decide +kernel) ?_
    refine z_getI (pc := 29) 0 fl_BC_144 rfl (by decide) rfl (by decide +kernel) ?_
    refine z_iconst (pc := 32) (n := -1) (by decide +kernel) ⟨by decide, by decide⟩ ?_
    refine z_ixor (pc := 33) (by decide +kernel) ?_
    refine z_iand (pc := 34) (by decide +kernel) ?_
    refine z_aload_n (pc := 35) (q := 0) (by decide +kernel) rfl ?_
    refine z_getR (pc := 36) 50 fl_BC_36 rfl rfl rfl (by decide +kernel) ?_
    refine z_getI (pc := 39) 2 fl_BC_159 rfl (by decide) rfl (by decide +kernel) ?_
    refine z_callv (pc := 42) (as := [vi (ian x2 (ixo (τ2 50 0) (-1))), vi (τ2 50 2)]) ml_BC_214 rfl ⟨rfl, by decide⟩ rfl rfl (Nat.le_of_ble_eq_true rfl) (dc := d - 1) (by omega) (by decide +kernel) (CV.z (CV.mono (fun τ3 k => ?_) k))
    refine z_iconst (pc := 45) (n := 0) (by decide +kernel) ⟨by decide, by decide⟩ ?_
    refine z_istore_n (pc := 46) (q := 2) [some (vr 0), some (vi a1), some (vi 0)] (by decide +kernel) (Nat.le_of_ble_eq_true rfl) rfl ?_
    exact k
  · have k := k.2 hc
    refine z_bipush (pc := 11) (n := -2) (by decide +kernel) (by decide) ⟨by decide, by decide⟩ ?_
    exact z_iret (pc := 13) (by decide +kernel) rfl k
theorem b_BC_ruleBy_47 {E : EN} {d : Nat} {a1 : Int} {a2 : Int} {σ : Mem} {K : Int → Mem → Prop}  (k : (σ 73 1 ≤ a2 → K (-1) σ) ∧ (a2 < σ 73 1 → (6 ≤ a2 → K (-1) σ) ∧ (a2 < 6 → (0 ≤ a2 ∧ a2 < 6) ∧ (σ 74 a2 ≠ a1 → Z E y_BC_ruleBy d 47 [some (vr 0), some (vi a1), some (vi (w32 (a2 + 1)))] [] σ (qi K)) ∧ (σ 74 a2 = a1 → K (σ 75 a2) σ)))) :
    Z E y_BC_ruleBy d 47 [some (vr 0), some (vi a1), some (vi a2)] [] σ (qi K) := by
  refine z_iload_n (pc := 47) (q := 2) (by decide +kernel) rfl ?_
  refine z_aload_n (pc := 48) (q := 0) (by decide +kernel) rfl ?_
  refine z_getR (pc := 49) 73 fl_BC_64 rfl rfl rfl (by decide +kernel) ?_
  refine z_getI (pc := 52) 1 fl_BC_254 rfl (by decide) rfl (by decide +kernel) ?_
  refine z_icmp_ge (pc := 55) (off := 38) 93 (by decide +kernel) (by decide) ⟨fun hc => ?_, fun hc => ?_⟩
  · have k := k.1 hc
    refine z_iconst (pc := 93) (n := -1) (by decide +kernel) ⟨by decide, by decide⟩ ?_
    exact z_iret (pc := 94) (by decide +kernel) rfl k
  · have k := k.2 hc
    refine z_iload_n (pc := 58) (q := 2) (by decide +kernel) rfl ?_
    refine z_bipush (pc := 59) (n := 6) (by decide +kernel) (by decide) ⟨by decide, by decide⟩ ?_
    refine z_icmp_ge (pc := 61) (off := 32) 93 (by decide +kernel) (by decide) ⟨fun hc => ?_, fun hc => ?_⟩
    · have k := k.1 hc
      refine z_iconst (pc := 93) (n := -1) (by decide +kernel) ⟨by decide, by decide⟩ ?_
      exact z_iret (pc := 94) (by decide +kernel) rfl k
    · have k := k.2 hc
      refine z_aload_n (pc := 64) (q := 0) (by decide +kernel) rfl ?_
      refine z_getR (pc := 65) 73 fl_BC_64 rfl rfl rfl (by decide +kernel) ?_
      refine z_getR (pc := 68) 74 fl_BC_305 rfl rfl rfl (by decide +kernel) ?_
      refine z_iload_n (pc := 71) (q := 2) (by decide +kernel) rfl ?_
      have hb1 := k.1
      have k := k.2
      refine z_iald (pc := 72) rfl hb1 (by decide +kernel) ?_
      refine z_iload_n (pc := 73) (q := 1) (by decide +kernel) rfl ?_
      refine z_icmp_ne (pc := 74) (off := 13) 87 (by decide +kernel) (by decide) ⟨fun hc => ?_, fun hc => ?_⟩
      · have k := k.1 hc
        refine z_iinc (pc := 87) (i := 2) (n := 1) [some (vr 0), some (vi a1), some (vi (w32 (a2 + 1)))] (by decide +kernel) rfl rfl ?_
        refine z_goto (pc := 90) (off := -43) 47 (by decide +kernel) (by decide) ?_
        exact k
      · have k := k.2 hc
        refine z_aload_n (pc := 77) (q := 0) (by decide +kernel) rfl ?_
        refine z_getR (pc := 78) 73 fl_BC_64 rfl rfl rfl (by decide +kernel) ?_
        refine z_getR (pc := 81) 75 fl_BC_307 rfl rfl rfl (by decide +kernel) ?_
        refine z_iload_n (pc := 84) (q := 2) (by decide +kernel) rfl ?_
        refine z_iald (pc := 85) rfl hb1 (by decide +kernel) ?_
        exact z_iret (pc := 86) (by decide +kernel) rfl k
theorem b_BC_slept_0 {E : EN} {d : Nat} {a1 : Int} {σ : Mem} {K : Int → Mem → Prop}  (hd : 1 ≤ d) (k : CI E y_Room_hasSet (d - 1) [vr 2, vi a1] σ (fun x1 τ1 => (x1 ≠ 0 → Z E y_BC_slept d 18 [some (vr 0), some (vi a1), some (vi 0), some (vi 0)] [] τ1 (qi K)) ∧ (x1 = 0 → K (-3) τ1))) :
    Z E y_BC_slept d 0 [some (vr 0), some (vi a1), none, none] [] σ (qi K) := by
  refine z_aload_n (pc := 0) (q := 0) (by decide +kernel) rfl ?_
  refine z_getR (pc := 1) 2 fl_BC_26 rfl rfl rfl (by decide +kernel) ?_
  refine z_iload_n (pc := 4) (q := 1) (by decide +kernel) rfl ?_
  refine z_callv (pc := 5) (as := [vi a1]) ml_BC_310 rfl ⟨rfl, by decide⟩ rfl rfl (Nat.le_of_ble_eq_true rfl) (dc := d - 1) (by omega) (by decide +kernel) (CI.z (CI.mono (fun x1 τ1 k => ?_) k))
  refine z_if_ne (pc := 8) (off := 6) 14 (by decide +kernel) (by decide) ⟨fun hc => ?_, fun hc => ?_⟩
  · have k := k.1 hc
    refine z_iconst (pc := 14) (n := 0) (by decide +kernel) ⟨by decide, by decide⟩ ?_
    refine z_istore_n (pc := 15) (q := 2) [some (vr 0), some (vi a1), some (vi 0), none] (by decide +kernel) (Nat.le_of_ble_eq_true rfl) rfl ?_
    refine z_iconst (pc := 16) (n := 0) (by decide +kernel) ⟨by decide, by decide⟩ ?_
    refine z_istore_n (pc := 17) (q := 3) [some (vr 0), some (vi a1), some (vi 0), some (vi 0)] (by decide +kernel) (Nat.le_of_ble_eq_true rfl) rfl ?_
    exact k
  · have k := k.2 hc
    refine z_bipush (pc := 11) (n := -3) (by decide +kernel) (by decide) ⟨by decide, by decide⟩ ?_
    exact z_iret (pc := 13) (by decide +kernel) rfl k
theorem b_BC_slept_18 {E : EN} {d : Nat} {a1 : Int} {a2 : Int} {a3 : Int} {σ : Mem} {K : Int → Mem → Prop}  (hd : 1 ≤ d) (k : CI E y_Room_allHands (d - 1) [vr 2] σ (fun x1 τ1 => (x1 < a3 → K a2 τ1) ∧ (a3 ≤ x1 → CI E y_BC_readIfSlept (d - 1) [vr 0, vi a3] τ1 (fun x2 τ2 => (x2 ≠ a1 → Z E y_BC_slept d 18 [some (vr 0), some (vi a1), some (vi a2), some (vi (w32 (a3 + 1)))] [] τ2 (qi K)) ∧ (x2 = a1 → Z E y_BC_slept d 18 [some (vr 0), some (vi a1), some (vi (w32 (a2 + 1))), some (vi (w32 (a3 + 1)))] [] τ2 (qi K)))))) :
    Z E y_BC_slept d 18 [some (vr 0), some (vi a1), some (vi a2), some (vi a3)] [] σ (qi K) := by
  refine z_iload_n (pc := 18) (q := 3) (by decide +kernel) rfl ?_
  refine z_aload_n (pc := 19) (q := 0) (by decide +kernel) rfl ?_
  refine z_getR (pc := 20) 2 fl_BC_26 rfl rfl rfl (by decide +kernel) ?_
  refine z_callv (pc := 23) (as := []) ml_BC_122 rfl ⟨rfl, by decide⟩ rfl rfl (Nat.le_of_ble_eq_true rfl) (dc := d - 1) (by omega) (by decide +kernel) (CI.z (CI.mono (fun x1 τ1 k => ?_) k))
  refine z_icmp_gt (pc := 26) (off := 21) 47 (by decide +kernel) (by decide) ⟨fun hc => ?_, fun hc => ?_⟩
  · have k := k.1 hc
    refine z_iload_n (pc := 47) (q := 2) (by decide +kernel) rfl ?_
    exact z_iret (pc := 48) (by decide +kernel) rfl k
  · have k := k.2 hc
    refine z_aload_n (pc := 29) (q := 0) (by decide +kernel) rfl ?_
    refine z_iload_n (pc := 30) (q := 3) (by decide +kernel) rfl ?_
    refine z_callv (pc := 31) (as := [vi a3]) ml_BC_313 rfl ⟨rfl, by decide⟩ rfl rfl (Nat.le_of_ble_eq_true rfl) (dc := d - 1) (by omega) (by decide +kernel) (CI.z (CI.mono (fun x2 τ2 k => ?_) k))
    refine z_iload_n (pc := 34) (q := 1) (by decide +kernel) rfl ?_
    refine z_icmp_ne (pc := 35) (off := 6) 41 (by decide +kernel) (by decide) ⟨fun hc => ?_, fun hc => ?_⟩
    · have k := k.1 hc
      refine z_iinc (pc := 41) (i := 3) (n := 1) [some (vr 0), some (vi a1), some (vi a2), some (vi (w32 (a3 + 1)))] (by decide +kernel) rfl rfl ?_
      refine z_goto (pc := 44) (off := -26) 18 (by decide +kernel) (by decide) ?_
      exact k
    · have k := k.2 hc
      refine z_iinc (pc := 38) (i := 2) (n := 1) [some (vr 0), some (vi a1), some (vi (w32 (a2 + 1))), some (vi a3)] (by decide +kernel) rfl rfl ?_
      refine z_iinc (pc := 41) (i := 3) (n := 1) [some (vr 0), some (vi a1), some (vi (w32 (a2 + 1))), some (vi (w32 (a3 + 1)))] (by decide +kernel) rfl rfl ?_
      refine z_goto (pc := 44) (off := -26) 18 (by decide +kernel) (by decide) ?_
      exact k
theorem b_BC_sleeper_0 {E : EN} {d : Nat} {a1 : Int} {σ : Mem} {K : Int → Mem → Prop}  (hd : 1 ≤ d) (k : CI E y_Room_hasSet (d - 1) [vr 2, vi a1] σ (fun x1 τ1 => (x1 ≠ 0 → CI E y_Room_allHands (d - 1) [vr 2] τ1 (fun x2 τ2 => Z E y_BC_sleeper d 27 [some (vr 0), some (vi a1), some (vi x2), some (vi 0), some (vi 0)] [] τ2 (qi K))) ∧ (x1 = 0 → K (-3) τ1))) :
    Z E y_BC_sleeper d 0 [some (vr 0), some (vi a1), none, none, none] [] σ (qi K) := by
  refine z_aload_n (pc := 0) (q := 0) (by decide +kernel) rfl ?_
  refine z_getR (pc := 1) 2 fl_BC_26 rfl rfl rfl (by decide +kernel) ?_
  refine z_iload_n (pc := 4) (q := 1) (by decide +kernel) rfl ?_
  refine z_callv (pc := 5) (as := [vi a1]) ml_BC_310 rfl ⟨rfl, by decide⟩ rfl rfl (Nat.le_of_ble_eq_true rfl) (dc := d - 1) (by omega) (by decide +kernel) (CI.z (CI.mono (fun x1 τ1 k => ?_) k))
  refine z_if_ne (pc := 8) (off := 6) 14 (by decide +kernel) (by decide) ⟨fun hc => ?_, fun hc => ?_⟩
  · have k := k.1 hc
    refine z_aload_n (pc := 14) (q := 0) (by decide +kernel) rfl ?_
    refine z_getR (pc := 15) 2 fl_BC_26 rfl rfl rfl (by decide +kernel) ?_
    refine z_callv (pc := 18) (as := []) ml_BC_122 rfl ⟨rfl, by decide⟩ rfl rfl (Nat.le_of_ble_eq_true rfl) (dc := d - 1) (by omega) (by decide +kernel) (CI.z (CI.mono (fun x2 τ2 k => ?_) k))
    refine z_istore_n (pc := 21) (q := 2) [some (vr 0), some (vi a1), some (vi x2), none, none] (by decide +kernel) (Nat.le_of_ble_eq_true rfl) rfl ?_
    refine z_iconst (pc := 22) (n := 0) (by decide +kernel) ⟨by decide, by decide⟩ ?_
    refine z_istore_n (pc := 23) (q := 3) [some (vr 0), some (vi a1), some (vi x2), some (vi 0), none] (by decide +kernel) (Nat.le_of_ble_eq_true rfl) rfl ?_
    refine z_iconst (pc := 24) (n := 0) (by decide +kernel) ⟨by decide, by decide⟩ ?_
    refine z_istore (pc := 25) (i := 4) [some (vr 0), some (vi a1), some (vi x2), some (vi 0), some (vi 0)] (by decide +kernel) (Nat.le_of_ble_eq_true rfl) rfl ?_
    exact k
  · have k := k.2 hc
    refine z_bipush (pc := 11) (n := -3) (by decide +kernel) (by decide) ⟨by decide, by decide⟩ ?_
    exact z_iret (pc := 13) (by decide +kernel) rfl k
theorem b_BC_sleeper_27 {E : EN} {d : Nat} {a1 : Int} {a2 : Int} {a3 : Int} {a4 : Int} {σ : Mem} {K : Int → Mem → Prop}  (hd : 1 ≤ d) (k : CI E y_Room_allHands (d - 1) [vr 2] σ (fun x1 τ1 => (x1 < a4 → (a3 = 0 → K 0 τ1) ∧ (a3 ≠ 0 → K a2 τ1)) ∧ (a4 ≤ x1 → CI E y_BC_readIfSlept (d - 1) [vr 0, vi a4] τ1 (fun x2 τ2 => (x2 ≠ a1 → Z E y_BC_sleeper d 27 [some (vr 0), some (vi a1), some (vi a2), some (vi a3), some (vi (w32 (a4 + 1)))] [] τ2 (qi K)) ∧ (x2 = a1 → Z E y_BC_sleeper d 27 [some (vr 0), some (vi a1), some (vi (ian a2 a4)), some (vi 1), some (vi (w32 (a4 + 1)))] [] τ2 (qi K)))))) :
    Z E y_BC_sleeper d 27 [some (vr 0), some (vi a1), some (vi a2), some (vi a3), some (vi a4)] [] σ (qi K) := by
  refine z_iload (pc := 27) (i := 4) (by decide +kernel) rfl ?_
  refine z_aload_n (pc := 29) (q := 0) (by decide +kernel) rfl ?_
  refine z_getR (pc := 30) 2 fl_BC_26 rfl rfl rfl (by decide +kernel) ?_
  refine z_callv (pc := 33) (as := []) ml_BC_122 rfl ⟨rfl, by decide⟩ rfl rfl (Nat.le_of_ble_eq_true rfl) (dc := d - 1) (by omega) (by decide +kernel) (CI.z (CI.mono (fun x1 τ1 k => ?_) k))
  refine z_icmp_gt (pc := 36) (off := 26) 62 (by decide +kernel) (by decide) ⟨fun hc => ?_, fun hc => ?_⟩
  · have k := k.1 hc
    refine z_iload_n (pc := 62) (q := 3) (by decide +kernel) rfl ?_
    refine z_if_eq (pc := 63) (off := 7) 70 (by decide +kernel) (by decide) ⟨fun hc => ?_, fun hc => ?_⟩
    · have k := k.1 hc
      refine z_iconst (pc := 70) (n := 0) (by decide +kernel) ⟨by decide, by decide⟩ ?_
      exact z_iret (pc := 71) (by decide +kernel) rfl k
    · have k := k.2 hc
      refine z_iload_n (pc := 66) (q := 2) (by decide +kernel) rfl ?_
      refine z_goto (pc := 67) (off := 4) 71 (by decide +kernel) (by decide) ?_
      exact z_iret (pc := 71) (by decide +kernel) rfl k
  · have k := k.2 hc
    refine z_aload_n (pc := 39) (q := 0) (by decide +kernel) rfl ?_
    refine z_iload (pc := 40) (i := 4) (by decide +kernel) rfl ?_
    refine z_callv (pc := 42) (as := [vi a4]) ml_BC_313 rfl ⟨rfl, by decide⟩ rfl rfl (Nat.le_of_ble_eq_true rfl) (dc := d - 1) (by omega) (by decide +kernel) (CI.z (CI.mono (fun x2 τ2 k => ?_) k))
    refine z_iload_n (pc := 45) (q := 1) (by decide +kernel) rfl ?_
    refine z_icmp_ne (pc := 46) (off := 10) 56 (by decide +kernel) (by decide) ⟨fun hc => ?_, fun hc => ?_⟩
    · have k := k.1 hc
      refine z_iinc (pc := 56) (i := 4) (n := 1) [some (vr 0), some (vi a1), some (vi a2), some (vi a3), some (vi (w32 (a4 + 1)))] (by decide +kernel) rfl rfl ?_
      refine z_goto (pc := 59) (off := -32) 27 (by decide +kernel) (by decide) ?_
      exact k
    · have k := k.2 hc
      refine z_iload_n (pc := 49) (q := 2) (by decide +kernel) rfl ?_
      refine z_iload (pc := 50) (i := 4) (by decide +kernel) rfl ?_
      refine z_iand (pc := 52) (by decide +kernel) ?_
      refine z_istore_n (pc := 53) (q := 2) [some (vr 0), some (vi a1), some (vi (ian a2 a4)), some (vi a3), some (vi a4)] (by decide +kernel) (Nat.le_of_ble_eq_true rfl) rfl ?_
      refine z_iconst (pc := 54) (n := 1) (by decide +kernel) ⟨by decide, by decide⟩ ?_
      refine z_istore_n (pc := 55) (q := 3) [some (vr 0), some (vi a1), some (vi (ian a2 a4)), some (vi 1), some (vi a4)] (by decide +kernel) (Nat.le_of_ble_eq_true rfl) rfl ?_
      refine z_iinc (pc := 56) (i := 4) (n := 1) [some (vr 0), some (vi a1), some (vi (ian a2 a4)), some (vi 1), some (vi (w32 (a4 + 1)))] (by decide +kernel) rfl rfl ?_
      refine z_goto (pc := 59) (off := -32) 27 (by decide +kernel) (by decide) ?_
      exact k
theorem b_BC_readIfSlept_0 {E : EN} {d : Nat} {a1 : Int} {σ : Mem} {K : Int → Mem → Prop}  (hd : 1 ≤ d) (k : CI E y_Room_allLetters (d - 1) [vr 2] σ (fun x1 τ1 => CI E y_Room_allHands (d - 1) [vr 2] τ1 (fun x2 τ2 => CV E y_Doer_ruleRow (d - 1) [vr 91, vi x1, vi (ian x2 (ixo a1 (-1)))] τ2 (fun τ3 => K (τ3 73 2) τ3)))) :
    Z E y_BC_readIfSlept d 0 [some (vr 0), some (vi a1)] [] σ (qi K) := by
  refine z_aload_n (pc := 0) (q := 0) (by decide +kernel) rfl ?_
  refine z_getR (pc := 1) 91 fl_BC_73 rfl rfl rfl (by decide +kernel) ?_
  refine z_aload_n (pc := 4) (q := 0) (by decide +kernel) rfl ?_
  refine z_getR (pc := 5) 2 fl_BC_26 rfl rfl rfl (by decide +kernel) ?_
  refine z_callv (pc := 8) (as := []) ml_BC_211 rfl ⟨rfl, by decide⟩ rfl rfl (Nat.le_of_ble_eq_true rfl) (dc := d - 1) (by omega) (by decide +kernel) (CI.z (CI.mono (fun x1 τ1 k => ?_) k))
  refine z_aload_n (pc := 11) (q := 0) (by decide +kernel) rfl ?_
  refine z_getR (pc := 12) 2 fl_BC_26 rfl rfl rfl (by decide +kernel) ?_
  refine z_callv (pc := 15) (as := []) ml_BC_122 rfl ⟨rfl, by decide⟩ rfl rfl (Nat.le_of_ble_eq_true rfl) (dc := d - 1) (by omega) (by decide +kernel) (CI.z (CI.mono (fun x2 τ2 k => ?_) k))
  refine z_iload_n (pc := 18) (q := 1) (by decide +kernel) rfl ?_
  refine z_iconst (pc := 19) (n := -1) (by decide +kernel) ⟨by decide, by decide⟩ ?_
  refine z_ixor (pc := 20) (by decide +kernel) ?_
  refine z_iand (pc := 21) (by decide +kernel) ?_
  refine z_callv (pc := 22) (as := [vi x1, vi (ian x2 (ixo a1 (-1)))]) ml_BC_214 rfl ⟨rfl, by decide⟩ rfl rfl (Nat.le_of_ble_eq_true rfl) (dc := d - 1) (by omega) (by decide +kernel) (CV.z (CV.mono (fun τ3 k => ?_) k))
  refine z_aload_n (pc := 25) (q := 0) (by decide +kernel) rfl ?_
  refine z_getR (pc := 26) 73 fl_BC_64 rfl rfl rfl (by decide +kernel) ?_
  refine z_getI (pc := 29) 2 fl_BC_218 rfl (by decide) rfl (by decide +kernel) ?_
  exact z_iret (pc := 32) (by decide +kernel) rfl k
theorem b_BC_quiet_0 {E : EN} {d : Nat} {a1 : Int} {σ : Mem} {K : Int → Mem → Prop}  (hd : 1 ≤ d) (k : CI E y_Room_hasSet (d - 1) [vr 2, vi a1] σ (fun x1 τ1 => (x1 = 0 → K (-3) τ1) ∧ (x1 ≠ 0 → CI E y_Room_quietOf (d - 1) [vr 2, vi a1] τ1 (fun x2 τ2 => K x2 τ2)))) :
    Z E y_BC_quiet d 0 [some (vr 0), some (vi a1)] [] σ (qi K) := by
  refine z_aload_n (pc := 0) (q := 0) (by decide +kernel) rfl ?_
  refine z_getR (pc := 1) 2 fl_BC_26 rfl rfl rfl (by decide +kernel) ?_
  refine z_iload_n (pc := 4) (q := 1) (by decide +kernel) rfl ?_
  refine z_callv (pc := 5) (as := [vi a1]) ml_BC_310 rfl ⟨rfl, by decide⟩ rfl rfl (Nat.le_of_ble_eq_true rfl) (dc := d - 1) (by omega) (by decide +kernel) (CI.z (CI.mono (fun x1 τ1 k => ?_) k))
  refine z_if_eq (pc := 8) (off := 14) 22 (by decide +kernel) (by decide) ⟨fun hc => ?_, fun hc => ?_⟩
  · have k := k.1 hc
    refine z_bipush (pc := 22) (n := -3) (by decide +kernel) (by decide) ⟨by decide, by decide⟩ ?_
    exact z_iret (pc := 24) (by decide +kernel) rfl k
  · have k := k.2 hc
    refine z_aload_n (pc := 11) (q := 0) (by decide +kernel) rfl ?_
    refine z_getR (pc := 12) 2 fl_BC_26 rfl rfl rfl (by decide +kernel) ?_
    refine z_iload_n (pc := 15) (q := 1) (by decide +kernel) rfl ?_
    refine z_callv (pc := 16) (as := [vi a1]) ml_BC_316 rfl ⟨rfl, by decide⟩ rfl rfl (Nat.le_of_ble_eq_true rfl) (dc := d - 1) (by omega) (by decide +kernel) (CI.z (CI.mono (fun x2 τ2 k => ?_) k))
    refine z_goto (pc := 19) (off := 5) 24 (by decide +kernel) (by decide) ?_
    exact z_iret (pc := 24) (by decide +kernel) rfl k
theorem b_BC_safest_0 {E : EN} {d : Nat} {a1 : Int} {σ : Mem} {K : Int → Mem → Prop}  (hd : 1 ≤ d) (k : (a1 < 0 → K (-3) σ) ∧ (0 ≤ a1 → (a1 ≤ 6 → CI E y_Room_allLetters (d - 1) [vr 2] σ (fun x1 τ1 => Z E y_BC_safest d 39 [some (vr 0), some (vi a1), some (vi (ian x1 (ixo (τ1 50 0) (-1)))), some (vi (-1)), some (vi (-1)), some (vi 0)] [] τ1 (qi K))) ∧ (6 < a1 → K (-3) σ))) :
    Z E y_BC_safest d 0 [some (vr 0), some (vi a1), none, none, none, none] [] σ (qi K) := by
  refine z_iload_n (pc := 0) (q := 1) (by decide +kernel) rfl ?_
  refine z_if_lt (pc := 1) (off := 9) 10 (by decide +kernel) (by decide) ⟨fun hc => ?_, fun hc => ?_⟩
  · have k := k.1 hc
    refine z_bipush (pc := 10) (n := -3) (by decide +kernel) (by decide) ⟨by decide, by decide⟩ ?_
    exact z_iret (pc := 12) (by decide +kernel) rfl k
  · have k := k.2 hc
    refine z_iload_n (pc := 4) (q := 1) (by decide +kernel) rfl ?_
    refine z_bipush (pc := 5) (n := 6) (by decide +kernel) (by decide) ⟨by decide, by decide⟩ ?_
    refine z_icmp_le (pc := 7) (off := 6) 13 (by decide +kernel) (by decide) ⟨fun hc => ?_, fun hc => ?_⟩
    · have k := k.1 hc
      refine z_aload_n (pc := 13) (q := 0) (by decide +kernel) rfl ?_
      refine z_getR (pc := 14) 2 fl_BC_26 rfl rfl rfl (by decide +kernel) ?_
      refine z_callv (pc := 17) (as := []) ml_BC_211 rfl ⟨rfl, by decide⟩ rfl rfl (Nat.le_of_ble_eq_true rfl) (dc := d - 1) (by omega) (by decide +kernel) (CI.z (CI.mono (fun x1 τ1 k => ?_) k))
      refine z_aload_n (pc := 20) (q := 0) (by decide +kernel) rfl ?_
      refine z_getR (pc := 21) 50 fl_BC_36 rfl rfl rfl (by decide +kernel) ?_
      refine z_getI (pc := 24) 0 fl_BC_144 rfl (by decide) rfl (by decide +kernel) ?_
      refine z_iconst (pc := 27) (n := -1) (by decide +kernel) ⟨by decide, by decide⟩ ?_
      refine z_ixor (pc := 28) (by decide +kernel) ?_
      refine z_iand (pc := 29) (by decide +kernel) ?_
      refine z_istore_n (pc := 30) (q := 2) [some (vr 0), some (vi a1), some (vi (ian x1 (ixo (τ1 50 0) (-1)))), none, none, none] (by decide +kernel) (Nat.le_of_ble_eq_true rfl) rfl ?_
      refine z_iconst (pc := 31) (n := -1) (by decide +kernel) ⟨by decide, by decide⟩ ?_
      refine z_istore_n (pc := 32) (q := 3) [some (vr 0), some (vi a1), some (vi (ian x1 (ixo (τ1 50 0) (-1)))), some (vi (-1)), none, none] (by decide +kernel) (Nat.le_of_ble_eq_true rfl) rfl ?_
      refine z_iconst (pc := 33) (n := -1) (by decide +kernel) ⟨by decide, by decide⟩ ?_
      refine z_istore (pc := 34) (i := 4) [some (vr 0), some (vi a1), some (vi (ian x1 (ixo (τ1 50 0) (-1)))), some (vi (-1)), some (vi (-1)), none] (by decide +kernel) (Nat.le_of_ble_eq_true rfl) rfl ?_
      refine z_iconst (pc := 36) (n := 0) (by decide +kernel) ⟨by decide, by decide⟩ ?_
      refine z_istore (pc := 37) (i := 5) [some (vr 0), some (vi a1), some (vi (ian x1 (ixo (τ1 50 0) (-1)))), some (vi (-1)), some (vi (-1)), some (vi 0)] (by decide +kernel) (Nat.le_of_ble_eq_true rfl) rfl ?_
      exact k
    · have k := k.2 hc
      refine z_bipush (pc := 10) (n := -3) (by decide +kernel) (by decide) ⟨by decide, by decide⟩ ?_
      exact z_iret (pc := 12) (by decide +kernel) rfl k
theorem b_BC_safest_39 {E : EN} {d : Nat} {a1 : Int} {a2 : Int} {a3 : Int} {a4 : Int} {a5 : Int} {σ : Mem} {K : Int → Mem → Prop}  (hd : 1 ≤ d) (k : (64 ≤ a5 → K a3 σ) ∧ (a5 < 64 → (ian a5 (ixo a2 (-1)) ≠ 0 → Z E y_BC_safest d 39 [some (vr 0), some (vi a1), some (vi a2), some (vi a3), some (vi a4), some (vi (w32 (a5 + 1)))] [] σ (qi K)) ∧ (ian a5 (ixo a2 (-1)) = 0 → CI E y_Int_bitCount (d - 1) [vi a5] σ (fun x1 τ1 => (x1 ≠ a1 → Z E y_BC_safest d 39 [some (vr 0), some (vi a1), some (vi a2), some (vi a3), some (vi a4), some (vi (w32 (a5 + 1)))] [] τ1 (qi K)) ∧ (x1 = a1 → CI E y_Room_quietOf (d - 1) [vr 2, vi a5] τ1 (fun x2 τ2 => (x2 ≤ a4 → Z E y_BC_safest d 39 [some (vr 0), some (vi a1), some (vi a2), some (vi a3), some (vi a4), some (vi (w32 (a5 + 1)))] [] τ2 (qi K)) ∧ (a4 < x2 → CI E y_Room_quietOf (d - 1) [vr 2, vi a5] τ2 (fun x3 τ3 => Z E y_BC_safest d 39 [some (vr 0), some (vi a1), some (vi a2), some (vi a5), some (vi x3), some (vi (w32 (a5 + 1)))] [] τ3 (qi K))))))))) :
    Z E y_BC_safest d 39 [some (vr 0), some (vi a1), some (vi a2), some (vi a3), some (vi a4), some (vi a5)] [] σ (qi K) := by
  refine z_iload (pc := 39) (i := 5) (by decide +kernel) rfl ?_
  refine z_bipush (pc := 41) (n := 64) (by decide +kernel) (by decide) ⟨by decide, by decide⟩ ?_
  refine z_icmp_ge (pc := 43) (off := 55) 98 (by decide +kernel) (by decide) ⟨fun hc => ?_, fun hc => ?_⟩
  · have k := k.1 hc
    refine z_iload_n (pc := 98) (q := 3) (by decide +kernel) rfl ?_
    exact z_iret (pc := 99) (by decide +kernel) rfl k
  · have k := k.2 hc
    refine z_iload (pc := 46) (i := 5) (by decide +kernel) rfl ?_
    refine z_iload_n (pc := 48) (q := 2) (by decide +kernel) rfl ?_
    refine z_iconst (pc := 49) (n := -1) (by decide +kernel) ⟨by decide, by decide⟩ ?_
    refine z_ixor (pc := 50) (by decide +kernel) ?_
    refine z_iand (pc := 51) (by decide +kernel) ?_
    refine z_if_ne (pc := 52) (off := 40) 92 (by decide +kernel) (by decide) ⟨fun hc => ?_, fun hc => ?_⟩
    · have k := k.1 hc
      refine z_iinc (pc := 92) (i := 5) (n := 1) [some (vr 0), some (vi a1), some (vi a2), some (vi a3), some (vi a4), some (vi (w32 (a5 + 1)))] (by decide +kernel) rfl rfl ?_
      refine z_goto (pc := 95) (off := -56) 39 (by decide +kernel) (by decide) ?_
      exact k
    · have k := k.2 hc
      refine z_iload (pc := 55) (i := 5) (by decide +kernel) rfl ?_
      refine z_calls (pc := 57) (as := [vi a5]) ml_BC_319 rfl rfl (Nat.le_of_ble_eq_true rfl) (dc := d - 1) (by omega) (by decide +kernel) (CI.z (CI.mono (fun x1 τ1 k => ?_) k))
      refine z_iload_n (pc := 60) (q := 1) (by decide +kernel) rfl ?_
      refine z_icmp_ne (pc := 61) (off := 31) 92 (by decide +kernel) (by decide) ⟨fun hc => ?_, fun hc => ?_⟩
      · have k := k.1 hc
        refine z_iinc (pc := 92) (i := 5) (n := 1) [some (vr 0), some (vi a1), some (vi a2), some (vi a3), some (vi a4), some (vi (w32 (a5 + 1)))] (by decide +kernel) rfl rfl ?_
        refine z_goto (pc := 95) (off := -56) 39 (by decide +kernel) (by decide) ?_
        exact k
      · have k := k.2 hc
        refine z_aload_n (pc := 64) (q := 0) (by decide +kernel) rfl ?_
        refine z_getR (pc := 65) 2 fl_BC_26 rfl rfl rfl (by decide +kernel) ?_
        refine z_iload (pc := 68) (i := 5) (by decide +kernel) rfl ?_
        refine z_callv (pc := 70) (as := [vi a5]) ml_BC_316 rfl ⟨rfl, by decide⟩ rfl rfl (Nat.le_of_ble_eq_true rfl) (dc := d - 1) (by omega) (by decide +kernel) (CI.z (CI.mono (fun x2 τ2 k => ?_) k))
        refine z_iload (pc := 73) (i := 4) (by decide +kernel) rfl ?_
        refine z_icmp_le (pc := 75) (off := 17) 92 (by decide +kernel) (by decide) ⟨fun hc => ?_, fun hc => ?_⟩
        · have k := k.1 hc
          refine z_iinc (pc := 92) (i := 5) (n := 1) [some (vr 0), some (vi a1), some (vi a2), some (vi a3), some (vi a4), some (vi (w32 (a5 + 1)))] (by decide +kernel) rfl rfl ?_
          refine z_goto (pc := 95) (off := -56) 39 (by decide +kernel) (by decide) ?_
          exact k
        · have k := k.2 hc
          refine z_aload_n (pc := 78) (q := 0) (by decide +kernel) rfl ?_
          refine z_getR (pc := 79) 2 fl_BC_26 rfl rfl rfl (by decide +kernel) ?_
          refine z_iload (pc := 82) (i := 5) (by decide +kernel) rfl ?_
          refine z_callv (pc := 84) (as := [vi a5]) ml_BC_316 rfl ⟨rfl, by decide⟩ rfl rfl (Nat.le_of_ble_eq_true rfl) (dc := d - 1) (by omega) (by decide +kernel) (CI.z (CI.mono (fun x3 τ3 k => ?_) k))
          refine z_istore (pc := 87) (i := 4) [some (vr 0), some (vi a1), some (vi a2), some (vi a3), some (vi x3), some (vi a5)] (by decide +kernel) (Nat.le_of_ble_eq_true rfl) rfl ?_
          refine z_iload (pc := 89) (i := 5) (by decide +kernel) rfl ?_
          refine z_istore_n (pc := 91) (q := 3) [some (vr 0), some (vi a1), some (vi a2), some (vi a5), some (vi x3), some (vi a5)] (by decide +kernel) (Nat.le_of_ble_eq_true rfl) rfl ?_
          refine z_iinc (pc := 92) (i := 5) (n := 1) [some (vr 0), some (vi a1), some (vi a2), some (vi a5), some (vi x3), some (vi (w32 (a5 + 1)))] (by decide +kernel) rfl rfl ?_
          refine z_goto (pc := 95) (off := -56) 39 (by decide +kernel) (by decide) ?_
          exact k
theorem b_BC_bold_0 {E : EN} {d : Nat} {a1 : Int} {σ : Mem} {K : Int → Mem → Prop}  (hd : 1 ≤ d) (k : (a1 < 0 → K (-3) σ) ∧ (0 ≤ a1 → (a1 ≤ 10000 → CI E y_Room_allLetters (d - 1) [vr 2] σ (fun x1 τ1 => Z E y_BC_bold d 40 [some (vr 0), some (vi a1), some (vi (ian x1 (ixo (τ1 50 0) (-1)))), some (vi 0), some (vi (-1)), some (vi 0)] [] τ1 (qi K))) ∧ (10000 < a1 → K (-3) σ))) :
    Z E y_BC_bold d 0 [some (vr 0), some (vi a1), none, none, none, none] [] σ (qi K) := by
  refine z_iload_n (pc := 0) (q := 1) (by decide +kernel) rfl ?_
  refine z_if_lt (pc := 1) (off := 10) 11 (by decide +kernel) (by decide) ⟨fun hc => ?_, fun hc => ?_⟩
  · have k := k.1 hc
    refine z_bipush (pc := 11) (n := -3) (by decide +kernel) (by decide) ⟨by decide, by decide⟩ ?_
    exact z_iret (pc := 13) (by decide +kernel) rfl k
  · have k := k.2 hc
    refine z_iload_n (pc := 4) (q := 1) (by decide +kernel) rfl ?_
    refine z_sipush (pc := 5) (n := 10000) (by decide +kernel) (by decide) ⟨by decide, by decide⟩ ?_
    refine z_icmp_le (pc := 8) (off := 6) 14 (by decide +kernel) (by decide) ⟨fun hc => ?_, fun hc => ?_⟩
    · have k := k.1 hc
      refine z_aload_n (pc := 14) (q := 0) (by decide +kernel) rfl ?_
      refine z_getR (pc := 15) 2 fl_BC_26 rfl rfl rfl (by decide +kernel) ?_
      refine z_callv (pc := 18) (as := []) ml_BC_211 rfl ⟨rfl, by decide⟩ rfl rfl (Nat.le_of_ble_eq_true rfl) (dc := d - 1) (by omega) (by decide +kernel) (CI.z (CI.mono (fun x1 τ1 k => ?_) k))
      refine z_aload_n (pc := 21) (q := 0) (by decide +kernel) rfl ?_
      refine z_getR (pc := 22) 50 fl_BC_36 rfl rfl rfl (by decide +kernel) ?_
      refine z_getI (pc := 25) 0 fl_BC_144 rfl (by decide) rfl (by decide +kernel) ?_
      refine z_iconst (pc := 28) (n := -1) (by decide +kernel) ⟨by decide, by decide⟩ ?_
      refine z_ixor (pc := 29) (by decide +kernel) ?_
      refine z_iand (pc := 30) (by decide +kernel) ?_
      refine z_istore_n (pc := 31) (q := 2) [some (vr 0), some (vi a1), some (vi (ian x1 (ixo (τ1 50 0) (-1)))), none, none, none] (by decide +kernel) (Nat.le_of_ble_eq_true rfl) rfl ?_
      refine z_iconst (pc := 32) (n := 0) (by decide +kernel) ⟨by decide, by decide⟩ ?_
      refine z_istore_n (pc := 33) (q := 3) [some (vr 0), some (vi a1), some (vi (ian x1 (ixo (τ1 50 0) (-1)))), some (vi 0), none, none] (by decide +kernel) (Nat.le_of_ble_eq_true rfl) rfl ?_
      refine z_iconst (pc := 34) (n := -1) (by decide +kernel) ⟨by decide, by decide⟩ ?_
      refine z_istore (pc := 35) (i := 4) [some (vr 0), some (vi a1), some (vi (ian x1 (ixo (τ1 50 0) (-1)))), some (vi 0), some (vi (-1)), none] (by decide +kernel) (Nat.le_of_ble_eq_true rfl) rfl ?_
      refine z_iconst (pc := 37) (n := 0) (by decide +kernel) ⟨by decide, by decide⟩ ?_
      refine z_istore (pc := 38) (i := 5) [some (vr 0), some (vi a1), some (vi (ian x1 (ixo (τ1 50 0) (-1)))), some (vi 0), some (vi (-1)), some (vi 0)] (by decide +kernel) (Nat.le_of_ble_eq_true rfl) rfl ?_
      exact k
    · have k := k.2 hc
      refine z_bipush (pc := 11) (n := -3) (by decide +kernel) (by decide) ⟨by decide, by decide⟩ ?_
      exact z_iret (pc := 13) (by decide +kernel) rfl k
theorem b_BC_bold_40 {E : EN} {d : Nat} {a1 : Int} {a2 : Int} {a3 : Int} {a4 : Int} {a5 : Int} {σ : Mem} {K : Int → Mem → Prop}  (hd : 1 ≤ d) (k : (64 ≤ a5 → K a3 σ) ∧ (a5 < 64 → (ian a5 (ixo a2 (-1)) ≠ 0 → Z E y_BC_bold d 40 [some (vr 0), some (vi a1), some (vi a2), some (vi a3), some (vi a4), some (vi (w32 (a5 + 1)))] [] σ (qi K)) ∧ (ian a5 (ixo a2 (-1)) = 0 → CI E y_Room_quietOf (d - 1) [vr 2, vi a5] σ (fun x1 τ1 => (x1 < a1 → Z E y_BC_bold d 40 [some (vr 0), some (vi a1), some (vi a2), some (vi a3), some (vi a4), some (vi (w32 (a5 + 1)))] [] τ1 (qi K)) ∧ (a1 ≤ x1 → CI E y_Room_worthOf (d - 1) [vr 2, vi a5] τ1 (fun x2 τ2 => (x2 ≤ a4 → Z E y_BC_bold d 40 [some (vr 0), some (vi a1), some (vi a2), some (vi a3), some (vi a4), some (vi (w32 (a5 + 1)))] [] τ2 (qi K)) ∧ (a4 < x2 → CI E y_Room_worthOf (d - 1) [vr 2, vi a5] τ2 (fun x3 τ3 => Z E y_BC_bold d 40 [some (vr 0), some (vi a1), some (vi a2), some (vi a5), some (vi x3), some (vi (w32 (a5 + 1)))] [] τ3 (qi K))))))))) :
    Z E y_BC_bold d 40 [some (vr 0), some (vi a1), some (vi a2), some (vi a3), some (vi a4), some (vi a5)] [] σ (qi K) := by
  refine z_iload (pc := 40) (i := 5) (by decide +kernel) rfl ?_
  refine z_bipush (pc := 42) (n := 64) (by decide +kernel) (by decide) ⟨by decide, by decide⟩ ?_
  refine z_icmp_ge (pc := 44) (off := 59) 103 (by decide +kernel) (by decide) ⟨fun hc => ?_, fun hc => ?_⟩
  · have k := k.1 hc
    refine z_iload_n (pc := 103) (q := 3) (by decide +kernel) rfl ?_
    exact z_iret (pc := 104) (by decide +kernel) rfl k
  · have k := k.2 hc
    refine z_iload (pc := 47) (i := 5) (by decide +kernel) rfl ?_
    refine z_iload_n (pc := 49) (q := 2) (by decide +kernel) rfl ?_
    refine z_iconst (pc := 50) (n := -1) (by decide +kernel) ⟨by decide, by decide⟩ ?_
    refine z_ixor (pc := 51) (by decide +kernel) ?_
    refine z_iand (pc := 52) (by decide +kernel) ?_
    refine z_if_ne (pc := 53) (off := 44) 97 (by decide +kernel) (by decide) ⟨fun hc => ?_, fun hc => ?_⟩
    · have k := k.1 hc
      refine z_iinc (pc := 97) (i := 5) (n := 1) [some (vr 0), some (vi a1), some (vi a2), some (vi a3), some (vi a4), some (vi (w32 (a5 + 1)))] (by decide +kernel) rfl rfl ?_
      refine z_goto (pc := 100) (off := -60) 40 (by decide +kernel) (by decide) ?_
      exact k
    · have k := k.2 hc
      refine z_aload_n (pc := 56) (q := 0) (by decide +kernel) rfl ?_
      refine z_getR (pc := 57) 2 fl_BC_26 rfl rfl rfl (by decide +kernel) ?_
      refine z_iload (pc := 60) (i := 5) (by decide +kernel) rfl ?_
      refine z_callv (pc := 62) (as := [vi a5]) ml_BC_316 rfl ⟨rfl, by decide⟩ rfl rfl (Nat.le_of_ble_eq_true rfl) (dc := d - 1) (by omega) (by decide +kernel) (CI.z (CI.mono (fun x1 τ1 k => ?_) k))
      refine z_iload_n (pc := 65) (q := 1) (by decide +kernel) rfl ?_
      refine z_icmp_lt (pc := 66) (off := 31) 97 (by decide +kernel) (by decide) ⟨fun hc => ?_, fun hc => ?_⟩
      · have k := k.1 hc
        refine z_iinc (pc := 97) (i := 5) (n := 1) [some (vr 0), some (vi a1), some (vi a2), some (vi a3), some (vi a4), some (vi (w32 (a5 + 1)))] (by decide +kernel) rfl rfl ?_
        refine z_goto (pc := 100) (off := -60) 40 (by decide +kernel) (by decide) ?_
        exact k
      · have k := k.2 hc
        refine z_aload_n (pc := 69) (q := 0) (by decide +kernel) rfl ?_
        refine z_getR (pc := 70) 2 fl_BC_26 rfl rfl rfl (by decide +kernel) ?_
        refine z_iload (pc := 73) (i := 5) (by decide +kernel) rfl ?_
        refine z_callv (pc := 75) (as := [vi a5]) ml_BC_288 rfl ⟨rfl, by decide⟩ rfl rfl (Nat.le_of_ble_eq_true rfl) (dc := d - 1) (by omega) (by decide +kernel) (CI.z (CI.mono (fun x2 τ2 k => ?_) k))
        refine z_iload (pc := 78) (i := 4) (by decide +kernel) rfl ?_
        refine z_icmp_le (pc := 80) (off := 17) 97 (by decide +kernel) (by decide) ⟨fun hc => ?_, fun hc => ?_⟩
        · have k := k.1 hc
          refine z_iinc (pc := 97) (i := 5) (n := 1) [some (vr 0), some (vi a1), some (vi a2), some (vi a3), some (vi a4), some (vi (w32 (a5 + 1)))] (by decide +kernel) rfl rfl ?_
          refine z_goto (pc := 100) (off := -60) 40 (by decide +kernel) (by decide) ?_
          exact k
        · have k := k.2 hc
          refine z_aload_n (pc := 83) (q := 0) (by decide +kernel) rfl ?_
          refine z_getR (pc := 84) 2 fl_BC_26 rfl rfl rfl (by decide +kernel) ?_
          refine z_iload (pc := 87) (i := 5) (by decide +kernel) rfl ?_
          refine z_callv (pc := 89) (as := [vi a5]) ml_BC_288 rfl ⟨rfl, by decide⟩ rfl rfl (Nat.le_of_ble_eq_true rfl) (dc := d - 1) (by omega) (by decide +kernel) (CI.z (CI.mono (fun x3 τ3 k => ?_) k))
          refine z_istore (pc := 92) (i := 4) [some (vr 0), some (vi a1), some (vi a2), some (vi a3), some (vi x3), some (vi a5)] (by decide +kernel) (Nat.le_of_ble_eq_true rfl) rfl ?_
          refine z_iload (pc := 94) (i := 5) (by decide +kernel) rfl ?_
          refine z_istore_n (pc := 96) (q := 3) [some (vr 0), some (vi a1), some (vi a2), some (vi a5), some (vi x3), some (vi a5)] (by decide +kernel) (Nat.le_of_ble_eq_true rfl) rfl ?_
          refine z_iinc (pc := 97) (i := 5) (n := 1) [some (vr 0), some (vi a1), some (vi a2), some (vi a5), some (vi x3), some (vi (w32 (a5 + 1)))] (by decide +kernel) rfl rfl ?_
          refine z_goto (pc := 100) (off := -60) 40 (by decide +kernel) (by decide) ?_
          exact k
theorem b_BC_belief_0 {E : EN} {d : Nat} {a1 : Int} {a2 : Int} {σ : Mem} {K : Int → Mem → Prop}  (hd : 1 ≤ d) (k : (a2 < 0 → K (-2) σ) ∧ (0 ≤ a2 → (a2 ≤ 1 → CI E y_Room_hasSet (d - 1) [vr 2, vi a1] σ (fun x1 τ1 => (x1 ≠ 0 → CL E y_Room_chance (d - 1) [vr 2, vi a1, vi 1] τ1 (fun x2 τ2 => CL E y_Room_chance (d - 1) [vr 2, vi a1, vi 0] τ2 (fun x3 τ3 => CL E y_BC_commonDivisor (d - 1) [vl x2, vl (w64 (x2 + x3))] τ3 (fun x4 τ4 => (lcm x4 0 ≠ 0 → (a2 ≠ 0 → (x4 ≠ 0) ∧ K (w64 (Int.tdiv (w64 (x2 + x3)) x4)) τ4) ∧ (a2 = 0 → (x4 ≠ 0) ∧ K (w64 (Int.tdiv x2 x4)) τ4)) ∧ (lcm x4 0 = 0 → K 0 τ4))))) ∧ (x1 = 0 → K (-3) τ1))) ∧ (1 < a2 → K (-2) σ))) :
    Z E y_BC_belief d 0 [some (vr 0), some (vi a1), some (vi a2), none, none, none, none, none, none] [] σ (ql K) := by
  refine z_iload_n (pc := 0) (q := 2) (by decide +kernel) rfl ?_
  refine z_if_lt (pc := 1) (off := 8) 9 (by decide +kernel) (by decide) ⟨fun hc => ?_, fun hc => ?_⟩
  · have k := k.1 hc
    refine z_ldc2 (pc := 9) (index := 324) (-2) (mm5 180 rfl) ⟨by decide, by decide⟩ (by decide +kernel) ?_
    exact z_lret (pc := 12) (by decide +kernel) rfl k
  · have k := k.2 hc
    refine z_iload_n (pc := 4) (q := 2) (by decide +kernel) rfl ?_
    refine z_iconst (pc := 5) (n := 1) (by decide +kernel) ⟨by decide, by decide⟩ ?_
    refine z_icmp_le (pc := 6) (off := 7) 13 (by decide +kernel) (by decide) ⟨fun hc => ?_, fun hc => ?_⟩
    · have k := k.1 hc
      refine z_aload_n (pc := 13) (q := 0) (by decide +kernel) rfl ?_
      refine z_getR (pc := 14) 2 fl_BC_26 rfl rfl rfl (by decide +kernel) ?_
      refine z_iload_n (pc := 17) (q := 1) (by decide +kernel) rfl ?_
      refine z_callv (pc := 18) (as := [vi a1]) ml_BC_310 rfl ⟨rfl, by decide⟩ rfl rfl (Nat.le_of_ble_eq_true rfl) (dc := d - 1) (by omega) (by decide +kernel) (CI.z (CI.mono (fun x1 τ1 k => ?_) k))
      refine z_if_ne (pc := 21) (off := 7) 28 (by decide +kernel) (by decide) ⟨fun hc => ?_, fun hc => ?_⟩
      · have k := k.1 hc
        refine z_aload_n (pc := 28) (q := 0) (by decide +kernel) rfl ?_
        refine z_getR (pc := 29) 2 fl_BC_26 rfl rfl rfl (by decide +kernel) ?_
        refine z_iload_n (pc := 32) (q := 1) (by decide +kernel) rfl ?_
        refine z_iconst (pc := 33) (n := 1) (by decide +kernel) ⟨by decide, by decide⟩ ?_
        refine z_callv (pc := 34) (as := [vi a1, vi 1]) ml_BC_328 rfl ⟨rfl, by decide⟩ rfl rfl (Nat.le_of_ble_eq_true rfl) (dc := d - 1) (by omega) (by decide +kernel) (CL.z (CL.mono (fun x2 τ2 k => ?_) k))
        refine z_lstore_n (pc := 37) (q := 3) [some (vr 0), some (vi a1), some (vi a2), some (vl x2), none, none, none, none, none] (by decide +kernel) (Nat.le_of_ble_eq_true rfl) rfl ?_
        refine z_lload_n (pc := 38) (q := 3) (by decide +kernel) rfl ?_
        refine z_aload_n (pc := 39) (q := 0) (by decide +kernel) rfl ?_
        refine z_getR (pc := 40) 2 fl_BC_26 rfl rfl rfl (by decide +kernel) ?_
        refine z_iload_n (pc := 43) (q := 1) (by decide +kernel) rfl ?_
        refine z_iconst (pc := 44) (n := 0) (by decide +kernel) ⟨by decide, by decide⟩ ?_
        refine z_callv (pc := 45) (as := [vi a1, vi 0]) ml_BC_328 rfl ⟨rfl, by decide⟩ rfl rfl (Nat.le_of_ble_eq_true rfl) (dc := d - 1) (by omega) (by decide +kernel) (CL.z (CL.mono (fun x3 τ3 k => ?_) k))
        refine z_ladd (pc := 48) (by decide +kernel) ?_
        refine z_lstore (pc := 49) (i := 5) [some (vr 0), some (vi a1), some (vi a2), some (vl x2), none, some (vl (w64 (x2 + x3))), none, none, none] (by decide +kernel) (Nat.le_of_ble_eq_true rfl) rfl ?_
        refine z_lload_n (pc := 51) (q := 3) (by decide +kernel) rfl ?_
        refine z_lload (pc := 52) (i := 5) (by decide +kernel) rfl ?_
        refine z_calls (pc := 54) (as := [vl x2, vl (w64 (x2 + x3))]) ml_BC_332 rfl rfl (Nat.le_of_ble_eq_true rfl) (dc := d - 1) (by omega) (by decide +kernel) (CL.z (CL.mono (fun x4 τ4 k => ?_) k))
        refine z_lstore (pc := 57) (i := 7) [some (vr 0), some (vi a1), some (vi a2), some (vl x2), none, some (vl (w64 (x2 + x3))), none, some (vl x4), none] (by decide +kernel) (Nat.le_of_ble_eq_true rfl) rfl ?_
        refine z_lload (pc := 59) (i := 7) (by decide +kernel) rfl ?_
        refine z_lconst (pc := 61) (n := 0) 0 (by decide +kernel) (by decide) ⟨by decide, by decide⟩ ?_
        refine z_lcmp (pc := 62) (by decide +kernel) ?_
        refine z_if_ne (pc := 63) (off := 5) 68 (by decide +kernel) (by decide) ⟨fun hc => ?_, fun hc => ?_⟩
        · have k := k.1 hc
          refine z_iload_n (pc := 68) (q := 2) (by decide +kernel) rfl ?_
          refine z_if_ne (pc := 69) (off := 7) 76 (by decide +kernel) (by decide) ⟨fun hc => ?_, fun hc => ?_⟩
          · have k := k.1 hc
            refine z_lload (pc := 76) (i := 5) (by decide +kernel) rfl ?_
            refine z_lload (pc := 78) (i := 7) (by decide +kernel) rfl ?_
            have hb1 := k.1
            have k := k.2
            refine z_ldiv (pc := 80) (by decide +kernel) hb1 ?_
            exact z_lret (pc := 81) (by decide +kernel) rfl k
          · have k := k.2 hc
            refine z_lload_n (pc := 72) (q := 3) (by decide +kernel) rfl ?_
            refine z_goto (pc := 73) (off := 5) 78 (by decide +kernel) (by decide) ?_
            refine z_lload (pc := 78) (i := 7) (by decide +kernel) rfl ?_
            have hb2 := k.1
            have k := k.2
            refine z_ldiv (pc := 80) (by decide +kernel) hb2 ?_
            exact z_lret (pc := 81) (by decide +kernel) rfl k
        · have k := k.2 hc
          refine z_lconst (pc := 66) (n := 0) 0 (by decide +kernel) (by decide) ⟨by decide, by decide⟩ ?_
          exact z_lret (pc := 67) (by decide +kernel) rfl k
      · have k := k.2 hc
        refine z_ldc2 (pc := 24) (index := 326) (-3) (mm5 181 rfl) ⟨by decide, by decide⟩ (by decide +kernel) ?_
        exact z_lret (pc := 27) (by decide +kernel) rfl k
    · have k := k.2 hc
      refine z_ldc2 (pc := 9) (index := 324) (-2) (mm5 180 rfl) ⟨by decide, by decide⟩ (by decide +kernel) ?_
      exact z_lret (pc := 12) (by decide +kernel) rfl k
theorem b_BC_commonDivisor_0 {E : EN} {d : Nat} {b0 : Int} {b2 : Int} {σ : Mem} {K : Int → Mem → Prop}  (k : Z E y_BC_commonDivisor d 9 [some (vl b0), none, some (vl b2), none, some (vl b0), none, some (vl b2), none, some (vi 0), none, none] [] σ (ql K)) :
    Z E y_BC_commonDivisor d 0 [some (vl b0), none, some (vl b2), none, none, none, none, none, none, none, none] [] σ (ql K) := by
  refine z_lload_n (pc := 0) (q := 0) (by decide +kernel) rfl ?_
  refine z_lstore (pc := 1) (i := 4) [some (vl b0), none, some (vl b2), none, some (vl b0), none, none, none, none, none, none] (by decide +kernel) (Nat.le_of_ble_eq_true rfl) rfl ?_
  refine z_lload_n (pc := 3) (q := 2) (by decide +kernel) rfl ?_
  refine z_lstore (pc := 4) (i := 6) [some (vl b0), none, some (vl b2), none, some (vl b0), none, some (vl b2), none, none, none, none] (by decide +kernel) (Nat.le_of_ble_eq_true rfl) rfl ?_
  refine z_iconst (pc := 6) (n := 0) (by decide +kernel) ⟨by decide, by decide⟩ ?_
  refine z_istore (pc := 7) (i := 8) [some (vl b0), none, some (vl b2), none, some (vl b0), none, some (vl b2), none, some (vi 0), none, none] (by decide +kernel) (Nat.le_of_ble_eq_true rfl) rfl ?_
  exact k
theorem b_BC_commonDivisor_9 {E : EN} {d : Nat} {b0 : Int} {b2 : Int} {o0 : Option AV} {o1 : Option AV} {o2 : Option AV} {o3 : Option AV} {b4 : Int} {o5 : Option AV} {b6 : Int} {o7 : Option AV} {a8 : Int} {o9 : Option AV} {o10 : Option AV} {σ : Mem} {K : Int → Mem → Prop}  (k : (200 ≤ a8 → K b4 σ) ∧ (a8 < 200 → (lcm b6 0 = 0 → K b4 σ) ∧ (lcm b6 0 ≠ 0 → (b6 ≠ 0) ∧ Z E y_BC_commonDivisor d 9 [o0, o1, o2, none, some (vl b6), none, some (vl (Int.tmod b4 b6)), none, some (vi (w32 (a8 + 1))), some (vl (Int.tmod b4 b6)), none] [] σ (ql K)))) :
    Z E y_BC_commonDivisor d 9 [o0, o1, o2, o3, some (vl b4), o5, some (vl b6), o7, some (vi a8), o9, o10] [] σ (ql K) := by
  refine z_iload (pc := 9) (i := 8) (by decide +kernel) rfl ?_
  refine z_sipush (pc := 11) (n := 200) (by decide +kernel) (by decide) ⟨by decide, by decide⟩ ?_
  refine z_icmp_ge (pc := 14) (off := 31) 45 (by decide +kernel) (by decide) ⟨fun hc => ?_, fun hc => ?_⟩
  · have k := k.1 hc
    refine z_lload (pc := 45) (i := 4) (by decide +kernel) rfl ?_
    exact z_lret (pc := 47) (by decide +kernel) rfl k
  · have k := k.2 hc
    refine z_lload (pc := 17) (i := 6) (by decide +kernel) rfl ?_
    refine z_lconst (pc := 19) (n := 0) 0 (by decide +kernel) (by decide) ⟨by decide, by decide⟩ ?_
    refine z_lcmp (pc := 20) (by decide +kernel) ?_
    refine z_if_eq (pc := 21) (off := 24) 45 (by decide +kernel) (by decide) ⟨fun hc => ?_, fun hc => ?_⟩
    · have k := k.1 hc
      refine z_lload (pc := 45) (i := 4) (by decide +kernel) rfl ?_
      exact z_lret (pc := 47) (by decide +kernel) rfl k
    · have k := k.2 hc
      refine z_lload (pc := 24) (i := 4) (by decide +kernel) rfl ?_
      refine z_lload (pc := 26) (i := 6) (by decide +kernel) rfl ?_
      have hb1 := k.1
      have k := k.2
      refine z_lrem (pc := 28) (by decide +kernel) hb1 ?_
      refine z_lstore (pc := 29) (i := 9) [o0, o1, o2, o3, some (vl b4), o5, some (vl b6), o7, some (vi a8), some (vl (Int.tmod b4 b6)), none] (by decide +kernel) (Nat.le_of_ble_eq_true rfl) rfl ?_
      refine z_lload (pc := 31) (i := 6) (by decide +kernel) rfl ?_
      refine z_forget (pc := 33) 3 [o0, o1, o2, none, some (vl b4), o5, some (vl b6), o7, some (vi a8), some (vl (Int.tmod b4 b6)), none] rfl ?_
      refine z_lstore (pc := 33) (i := 4) [o0, o1, o2, none, some (vl b6), none, some (vl b6), o7, some (vi a8), some (vl (Int.tmod b4 b6)), none] (by decide +kernel) (Nat.le_of_ble_eq_true rfl) rfl ?_
      refine z_lload (pc := 35) (i := 9) (by decide +kernel) rfl ?_
      refine z_lstore (pc := 37) (i := 6) [o0, o1, o2, none, some (vl b6), none, some (vl (Int.tmod b4 b6)), none, some (vi a8), some (vl (Int.tmod b4 b6)), none] (by decide +kernel) (Nat.le_of_ble_eq_true rfl) rfl ?_
      refine z_iinc (pc := 39) (i := 8) (n := 1) [o0, o1, o2, none, some (vl b6), none, some (vl (Int.tmod b4 b6)), none, some (vi (w32 (a8 + 1))), some (vl (Int.tmod b4 b6)), none] (by decide +kernel) rfl rfl ?_
      refine z_goto (pc := 42) (off := -33) 9 (by decide +kernel) (by decide) ?_
      exact k
theorem b_BC_now_0 {E : EN} {d : Nat}  {σ : Mem} {K : Int → Mem → Prop}  (hd : 1 ≤ d) (k : CI E y_Room_believed (d - 1) [vr 2, vi (σ 50 0)] σ (fun x1 τ1 => K x1 τ1)) :
    Z E y_BC_now d 0 [some (vr 0)] [] σ (qi K) := by
  refine z_aload_n (pc := 0) (q := 0) (by decide +kernel) rfl ?_
  refine z_getR (pc := 1) 2 fl_BC_26 rfl rfl rfl (by decide +kernel) ?_
  refine z_aload_n (pc := 4) (q := 0) (by decide +kernel) rfl ?_
  refine z_getR (pc := 5) 50 fl_BC_36 rfl rfl rfl (by decide +kernel) ?_
  refine z_getI (pc := 8) 0 fl_BC_144 rfl (by decide) rfl (by decide +kernel) ?_
  refine z_callv (pc := 11) (as := [vi (σ 50 0)]) ml_BC_336 rfl ⟨rfl, by decide⟩ rfl rfl (Nat.le_of_ble_eq_true rfl) (dc := d - 1) (by omega) (by decide +kernel) (CI.z (CI.mono (fun x1 τ1 k => ?_) k))
  exact z_iret (pc := 14) (by decide +kernel) rfl k
theorem b_BC_tellsMost_0 {E : EN} {d : Nat}  {σ : Mem} {K : Int → Mem → Prop}  (hd : 1 ≤ d) (k : CI E y_Room_believed (d - 1) [vr 2, vi (σ 50 0)] σ (fun x1 τ1 => (x1 ≠ (-1) → Z E y_BC_tellsMost d 29 [some (vr 0), some (vi x1), some (vi (-1)), some (vi 0), some (vi 0), none, none] [] τ1 (qi K)) ∧ (x1 = (-1) → K (-1) τ1))) :
    Z E y_BC_tellsMost d 0 [some (vr 0), none, none, none, none, none, none] [] σ (qi K) := by
  refine z_aload_n (pc := 0) (q := 0) (by decide +kernel) rfl ?_
  refine z_getR (pc := 1) 2 fl_BC_26 rfl rfl rfl (by decide +kernel) ?_
  refine z_aload_n (pc := 4) (q := 0) (by decide +kernel) rfl ?_
  refine z_getR (pc := 5) 50 fl_BC_36 rfl rfl rfl (by decide +kernel) ?_
  refine z_getI (pc := 8) 0 fl_BC_144 rfl (by decide) rfl (by decide +kernel) ?_
  refine z_callv (pc := 11) (as := [vi (σ 50 0)]) ml_BC_336 rfl ⟨rfl, by decide⟩ rfl rfl (Nat.le_of_ble_eq_true rfl) (dc := d - 1) (by omega) (by decide +kernel) (CI.z (CI.mono (fun x1 τ1 k => ?_) k))
  refine z_istore_n (pc := 14) (q := 1) [some (vr 0), some (vi x1), none, none, none, none, none] (by decide +kernel) (Nat.le_of_ble_eq_true rfl) rfl ?_
  refine z_iload_n (pc := 15) (q := 1) (by decide +kernel) rfl ?_
  refine z_iconst (pc := 16) (n := -1) (by decide +kernel) ⟨by decide, by decide⟩ ?_
  refine z_icmp_ne (pc := 17) (off := 5) 22 (by decide +kernel) (by decide) ⟨fun hc => ?_, fun hc => ?_⟩
  · have k := k.1 hc
    refine z_iconst (pc := 22) (n := -1) (by decide +kernel) ⟨by decide, by decide⟩ ?_
    refine z_istore_n (pc := 23) (q := 2) [some (vr 0), some (vi x1), some (vi (-1)), none, none, none, none] (by decide +kernel) (Nat.le_of_ble_eq_true rfl) rfl ?_
    refine z_iconst (pc := 24) (n := 0) (by decide +kernel) ⟨by decide, by decide⟩ ?_
    refine z_istore_n (pc := 25) (q := 3) [some (vr 0), some (vi x1), some (vi (-1)), some (vi 0), none, none, none] (by decide +kernel) (Nat.le_of_ble_eq_true rfl) rfl ?_
    refine z_iconst (pc := 26) (n := 0) (by decide +kernel) ⟨by decide, by decide⟩ ?_
    refine z_istore (pc := 27) (i := 4) [some (vr 0), some (vi x1), some (vi (-1)), some (vi 0), some (vi 0), none, none] (by decide +kernel) (Nat.le_of_ble_eq_true rfl) rfl ?_
    exact k
  · have k := k.2 hc
    refine z_iconst (pc := 20) (n := -1) (by decide +kernel) ⟨by decide, by decide⟩ ?_
    exact z_iret (pc := 21) (by decide +kernel) rfl k
theorem b_BC_tellsMost_29 {E : EN} {d : Nat} {a1 : Int} {a2 : Int} {a3 : Int} {a4 : Int} {o5 : Option AV} {o6 : Option AV} {σ : Mem} {K : Int → Mem → Prop}  (hd : 1 ≤ d) (k : (σ 2 3 ≤ a4 → K a2 σ) ∧ (a4 < σ 2 3 → CI E y_Room_believed (d - 1) [vr 2, vi (ior (σ 50 0) (ish 1 a4))] σ (fun x1 τ1 => (ian (isr (τ1 50 0) a4) 1 ≠ 0 → Z E y_BC_tellsMost d 82 [some (vr 0), some (vi a1), some (vi a2), some (vi a3), some (vi a4), some (vi x1), o6] [vi 0] τ1 (qi K)) ∧ (ian (isr (τ1 50 0) a4) 1 = 0 → Z E y_BC_tellsMost d 82 [some (vr 0), some (vi a1), some (vi a2), some (vi a3), some (vi a4), some (vi x1), o6] [vi 1] τ1 (qi K))))) :
    Z E y_BC_tellsMost d 29 [some (vr 0), some (vi a1), some (vi a2), some (vi a3), some (vi a4), o5, o6] [] σ (qi K) := by
  refine z_iload (pc := 29) (i := 4) (by decide +kernel) rfl ?_
  refine z_aload_n (pc := 31) (q := 0) (by decide +kernel) rfl ?_
  refine z_getR (pc := 32) 2 fl_BC_26 rfl rfl rfl (by decide +kernel) ?_
  refine z_getI (pc := 35) 3 fl_BC_302 rfl (by decide) rfl (by decide +kernel) ?_
  refine z_icmp_ge (pc := 38) (off := 85) 123 (by decide +kernel) (by decide) ⟨fun hc => ?_, fun hc => ?_⟩
  · have k := k.1 hc
    refine z_iload_n (pc := 123) (q := 2) (by decide +kernel) rfl ?_
    exact z_iret (pc := 124) (by decide +kernel) rfl k
  · have k := k.2 hc
    refine z_aload_n (pc := 41) (q := 0) (by decide +kernel) rfl ?_
    refine z_getR (pc := 42) 2 fl_BC_26 rfl rfl rfl (by decide +kernel) ?_
    refine z_aload_n (pc := 45) (q := 0) (by decide +kernel) rfl ?_
    refine z_getR (pc := 46) 50 fl_BC_36 rfl rfl rfl (by decide +kernel) ?_
    refine z_getI (pc := 49) 0 fl_BC_144 rfl (by decide) rfl (by decide +kernel) ?_
    refine z_iconst (pc := 52) (n := 1) (by decide +kernel) ⟨by decide, by decide⟩ ?_
    refine z_iload (pc := 53) (i := 4) (by decide +kernel) rfl ?_
    refine z_ishl (pc := 55) (by decide +kernel) ?_
    refine z_ior (pc := 56) (by decide +kernel) ?_
    refine z_callv (pc := 57) (as := [vi (ior (σ 50 0) (ish 1 a4))]) ml_BC_336 rfl ⟨rfl, by decide⟩ rfl rfl (Nat.le_of_ble_eq_true rfl) (dc := d - 1) (by omega) (by decide +kernel) (CI.z (CI.mono (fun x1 τ1 k => ?_) k))
    refine z_istore (pc := 60) (i := 5) [some (vr 0), some (vi a1), some (vi a2), some (vi a3), some (vi a4), some (vi x1), o6] (by decide +kernel) (Nat.le_of_ble_eq_true rfl) rfl ?_
    refine z_aload_n (pc := 62) (q := 0) (by decide +kernel) rfl ?_
    refine z_getR (pc := 63) 50 fl_BC_36 rfl rfl rfl (by decide +kernel) ?_
    refine z_getI (pc := 66) 0 fl_BC_144 rfl (by decide) rfl (by decide +kernel) ?_
    refine z_iload (pc := 69) (i := 4) (by decide +kernel) rfl ?_
    refine z_ishr (pc := 71) (by decide +kernel) ?_
    refine z_iconst (pc := 72) (n := 1) (by decide +kernel) ⟨by decide, by decide⟩ ?_
    refine z_iand (pc := 73) (by decide +kernel) ?_
    refine z_if_ne (pc := 74) (off := 7) 81 (by decide +kernel) (by decide) ⟨fun hc => ?_, fun hc => ?_⟩
    · have k := k.1 hc
      refine z_iconst (pc := 81) (n := 0) (by decide +kernel) ⟨by decide, by decide⟩ ?_
      exact k
    · have k := k.2 hc
      refine z_iconst (pc := 77) (n := 1) (by decide +kernel) ⟨by decide, by decide⟩ ?_
      refine z_goto (pc := 78) (off := 4) 82 (by decide +kernel) (by decide) ?_
      exact k
theorem b_BC_tellsMost_82 {E : EN} {d : Nat} {a1 : Int} {a2 : Int} {a3 : Int} {a4 : Int} {a5 : Int} {o6 : Option AV} {s0 : Int} {σ : Mem} {K : Int → Mem → Prop}  (hd : 1 ≤ d) (k : (s0 = 0 → Z E y_BC_tellsMost d 29 [some (vr 0), some (vi a1), some (vi a2), some (vi a3), some (vi (w32 (a4 + 1))), some (vi a5), some (vi s0)] [] σ (qi K)) ∧ (s0 ≠ 0 → (a5 = (-1) → Z E y_BC_tellsMost d 29 [some (vr 0), some (vi a1), some (vi a2), some (vi a3), some (vi (w32 (a4 + 1))), some (vi a5), some (vi s0)] [] σ (qi K)) ∧ (a5 ≠ (-1) → CI E y_Math_abs (d - 1) [vi (w32 (a5 - a1))] σ (fun x1 τ1 => (x1 ≤ a3 → Z E y_BC_tellsMost d 29 [some (vr 0), some (vi a1), some (vi a2), some (vi a3), some (vi (w32 (a4 + 1))), some (vi a5), some (vi s0)] [] τ1 (qi K)) ∧ (a3 < x1 → CI E y_Math_abs (d - 1) [vi (w32 (a5 - a1))] τ1 (fun x2 τ2 => Z E y_BC_tellsMost d 29 [some (vr 0), some (vi a1), some (vi a4), some (vi x2), some (vi (w32 (a4 + 1))), some (vi a5), some (vi s0)] [] τ2 (qi K))))))) :
    Z E y_BC_tellsMost d 82 [some (vr 0), some (vi a1), some (vi a2), some (vi a3), some (vi a4), some (vi a5), o6] [vi s0] σ (qi K) := by
  refine z_istore (pc := 82) (i := 6) [some (vr 0), some (vi a1), some (vi a2), some (vi a3), some (vi a4), some (vi a5), some (vi s0)] (by decide +kernel) (Nat.le_of_ble_eq_true rfl) rfl ?_
  refine z_iload (pc := 84) (i := 6) (by decide +kernel) rfl ?_
  refine z_if_eq (pc := 86) (off := 31) 117 (by decide +kernel) (by decide) ⟨fun hc => ?_, fun hc => ?_⟩
  · have k := k.1 hc
    refine z_iinc (pc := 117) (i := 4) (n := 1) [some (vr 0), some (vi a1), some (vi a2), some (vi a3), some (vi (w32 (a4 + 1))), some (vi a5), some (vi s0)] (by decide +kernel) rfl rfl ?_
    refine z_goto (pc := 120) (off := -91) 29 (by decide +kernel) (by decide) ?_
    exact k
  · have k := k.2 hc
    refine z_iload (pc := 89) (i := 5) (by decide +kernel) rfl ?_
    refine z_iconst (pc := 91) (n := -1) (by decide +kernel) ⟨by decide, by decide⟩ ?_
    refine z_icmp_eq (pc := 92) (off := 25) 117 (by decide +kernel) (by decide) ⟨fun hc => ?_, fun hc => ?_⟩
    · have k := k.1 hc
      refine z_iinc (pc := 117) (i := 4) (n := 1) [some (vr 0), some (vi a1), some (vi a2), some (vi a3), some (vi (w32 (a4 + 1))), some (vi a5), some (vi s0)] (by decide +kernel) rfl rfl ?_
      refine z_goto (pc := 120) (off := -91) 29 (by decide +kernel) (by decide) ?_
      exact k
    · have k := k.2 hc
      refine z_iload (pc := 95) (i := 5) (by decide +kernel) rfl ?_
      refine z_iload_n (pc := 97) (q := 1) (by decide +kernel) rfl ?_
      refine z_isub (pc := 98) (by decide +kernel) ?_
      refine z_calls (pc := 99) (as := [vi (w32 (a5 - a1))]) ml_BC_339 rfl rfl (Nat.le_of_ble_eq_true rfl) (dc := d - 1) (by omega) (by decide +kernel) (CI.z (CI.mono (fun x1 τ1 k => ?_) k))
      refine z_iload_n (pc := 102) (q := 3) (by decide +kernel) rfl ?_
      refine z_icmp_le (pc := 103) (off := 14) 117 (by decide +kernel) (by decide) ⟨fun hc => ?_, fun hc => ?_⟩
      · have k := k.1 hc
        refine z_iinc (pc := 117) (i := 4) (n := 1) [some (vr 0), some (vi a1), some (vi a2), some (vi a3), some (vi (w32 (a4 + 1))), some (vi a5), some (vi s0)] (by decide +kernel) rfl rfl ?_
        refine z_goto (pc := 120) (off := -91) 29 (by decide +kernel) (by decide) ?_
        exact k
      · have k := k.2 hc
        refine z_iload (pc := 106) (i := 5) (by decide +kernel) rfl ?_
        refine z_iload_n (pc := 108) (q := 1) (by decide +kernel) rfl ?_
        refine z_isub (pc := 109) (by decide +kernel) ?_
        refine z_calls (pc := 110) (as := [vi (w32 (a5 - a1))]) ml_BC_339 rfl rfl (Nat.le_of_ble_eq_true rfl) (dc := d - 1) (by omega) (by decide +kernel) (CI.z (CI.mono (fun x2 τ2 k => ?_) k))
        refine z_istore_n (pc := 113) (q := 3) [some (vr 0), some (vi a1), some (vi a2), some (vi x2), some (vi a4), some (vi a5), some (vi s0)] (by decide +kernel) (Nat.le_of_ble_eq_true rfl) rfl ?_
        refine z_iload (pc := 114) (i := 4) (by decide +kernel) rfl ?_
        refine z_istore_n (pc := 116) (q := 2) [some (vr 0), some (vi a1), some (vi a4), some (vi x2), some (vi a4), some (vi a5), some (vi s0)] (by decide +kernel) (Nat.le_of_ble_eq_true rfl) rfl ?_
        refine z_iinc (pc := 117) (i := 4) (n := 1) [some (vr 0), some (vi a1), some (vi a4), some (vi x2), some (vi (w32 (a4 + 1))), some (vi a5), some (vi s0)] (by decide +kernel) rfl rfl ?_
        refine z_goto (pc := 120) (off := -91) 29 (by decide +kernel) (by decide) ?_
        exact k
theorem b_BC_keys_0 {E : EN} {d : Nat} {a1 : Int} {σ : Mem} {K : Int → Mem → Prop}  (hd : 1 ≤ d) (k : CI E y_BC_cipherCode (d - 1) [vr 0, vi a1] σ (fun x1 τ1 => (x1 = 0 → CV E y_Ciph_findKeys (d - 1) [vr 96] τ1 (fun τ2 => CI E y_Ciph_total (d - 1) [vr 96] τ2 (fun x3 τ3 => K x3 τ3))) ∧ (x1 ≠ 0 → K x1 τ1))) :
    Z E y_BC_keys d 0 [some (vr 0), some (vi a1), none] [] σ (qi K) := by
  refine z_aload_n (pc := 0) (q := 0) (by decide +kernel) rfl ?_
  refine z_iload_n (pc := 1) (q := 1) (by decide +kernel) rfl ?_
  refine z_callv (pc := 2) (as := [vi a1]) ml_BC_342 rfl ⟨rfl, by decide⟩ rfl rfl (Nat.le_of_ble_eq_true rfl) (dc := d - 1) (by omega) (by decide +kernel) (CI.z (CI.mono (fun x1 τ1 k => ?_) k))
  refine z_istore_n (pc := 5) (q := 2) [some (vr 0), some (vi a1), some (vi x1)] (by decide +kernel) (Nat.le_of_ble_eq_true rfl) rfl ?_
  refine z_iload_n (pc := 6) (q := 2) (by decide +kernel) rfl ?_
  refine z_if_eq (pc := 7) (off := 5) 12 (by decide +kernel) (by decide) ⟨fun hc => ?_, fun hc => ?_⟩
  · have k := k.1 hc
    refine z_aload_n (pc := 12) (q := 0) (by decide +kernel) rfl ?_
    refine z_getR (pc := 13) 96 fl_BC_87 rfl rfl rfl (by decide +kernel) ?_
    refine z_callv (pc := 16) (as := []) ml_BC_345 rfl ⟨rfl, by decide⟩ rfl rfl (Nat.le_of_ble_eq_true rfl) (dc := d - 1) (by omega) (by decide +kernel) (CV.z (CV.mono (fun τ2 k => ?_) k))
    refine z_aload_n (pc := 19) (q := 0) (by decide +kernel) rfl ?_
    refine z_getR (pc := 20) 96 fl_BC_87 rfl rfl rfl (by decide +kernel) ?_
    refine z_callv (pc := 23) (as := []) ml_BC_348 rfl ⟨rfl, by decide⟩ rfl rfl (Nat.le_of_ble_eq_true rfl) (dc := d - 1) (by omega) (by decide +kernel) (CI.z (CI.mono (fun x3 τ3 k => ?_) k))
    exact z_iret (pc := 26) (by decide +kernel) rfl k
  · have k := k.2 hc
    refine z_iload_n (pc := 10) (q := 2) (by decide +kernel) rfl ?_
    exact z_iret (pc := 11) (by decide +kernel) rfl k
theorem b_BC_keyAt_0 {E : EN} {d : Nat} {a1 : Int} {a2 : Int} {σ : Mem} {K : Int → Mem → Prop}  (hd : 1 ≤ d) (k : CI E y_BC_cipherCode (d - 1) [vr 0, vi a1] σ (fun x1 τ1 => (x1 = 0 → (0 ≤ a2 → CV E y_Ciph_findKeys (d - 1) [vr 96] τ1 (fun τ2 => CI E y_Ciph_nth (d - 1) [vr 96, vi a2] τ2 (fun x3 τ3 => K x3 τ3))) ∧ (a2 < 0 → K (-3) τ1)) ∧ (x1 ≠ 0 → K x1 τ1))) :
    Z E y_BC_keyAt d 0 [some (vr 0), some (vi a1), some (vi a2), none] [] σ (qi K) := by
  refine z_aload_n (pc := 0) (q := 0) (by decide +kernel) rfl ?_
  refine z_iload_n (pc := 1) (q := 1) (by decide +kernel) rfl ?_
  refine z_callv (pc := 2) (as := [vi a1]) ml_BC_342 rfl ⟨rfl, by decide⟩ rfl rfl (Nat.le_of_ble_eq_true rfl) (dc := d - 1) (by omega) (by decide +kernel) (CI.z (CI.mono (fun x1 τ1 k => ?_) k))
  refine z_istore_n (pc := 5) (q := 3) [some (vr 0), some (vi a1), some (vi a2), some (vi x1)] (by decide +kernel) (Nat.le_of_ble_eq_true rfl) rfl ?_
  refine z_iload_n (pc := 6) (q := 3) (by decide +kernel) rfl ?_
  refine z_if_eq (pc := 7) (off := 5) 12 (by decide +kernel) (by decide) ⟨fun hc => ?_, fun hc => ?_⟩
  · have k := k.1 hc
    refine z_iload_n (pc := 12) (q := 2) (by decide +kernel) rfl ?_
    refine z_if_ge (pc := 13) (off := 6) 19 (by decide +kernel) (by decide) ⟨fun hc => ?_, fun hc => ?_⟩
    · have k := k.1 hc
      refine z_aload_n (pc := 19) (q := 0) (by decide +kernel) rfl ?_
      refine z_getR (pc := 20) 96 fl_BC_87 rfl rfl rfl (by decide +kernel) ?_
      refine z_callv (pc := 23) (as := []) ml_BC_345 rfl ⟨rfl, by decide⟩ rfl rfl (Nat.le_of_ble_eq_true rfl) (dc := d - 1) (by omega) (by decide +kernel) (CV.z (CV.mono (fun τ2 k => ?_) k))
      refine z_aload_n (pc := 26) (q := 0) (by decide +kernel) rfl ?_
      refine z_getR (pc := 27) 96 fl_BC_87 rfl rfl rfl (by decide +kernel) ?_
      refine z_iload_n (pc := 30) (q := 2) (by decide +kernel) rfl ?_
      refine z_callv (pc := 31) (as := [vi a2]) ml_BC_351 rfl ⟨rfl, by decide⟩ rfl rfl (Nat.le_of_ble_eq_true rfl) (dc := d - 1) (by omega) (by decide +kernel) (CI.z (CI.mono (fun x3 τ3 k => ?_) k))
      exact z_iret (pc := 34) (by decide +kernel) rfl k
    · have k := k.2 hc
      refine z_bipush (pc := 16) (n := -3) (by decide +kernel) (by decide) ⟨by decide, by decide⟩ ?_
      exact z_iret (pc := 18) (by decide +kernel) rfl k
  · have k := k.2 hc
    refine z_iload_n (pc := 10) (q := 3) (by decide +kernel) rfl ?_
    exact z_iret (pc := 11) (by decide +kernel) rfl k
theorem b_BC_place_0 {E : EN} {d : Nat} {a1 : Int} {a2 : Int} {σ : Mem} {K : Int → Mem → Prop}  (hd : 1 ≤ d) (k : CI E y_BC_cipherCode (d - 1) [vr 0, vi a1] σ (fun x1 τ1 => (x1 = 0 → CI E y_Ciph_turn (d - 1) [vr 96, vi a2] τ1 (fun x2 τ2 => (x2 = 0 → K (-3) τ2) ∧ (x2 ≠ 0 → CI E y_Ciph_nameIn (d - 1) [vr 96] τ2 (fun x3 τ3 => K x3 τ3)))) ∧ (x1 ≠ 0 → K x1 τ1))) :
    Z E y_BC_place d 0 [some (vr 0), some (vi a1), some (vi a2), none] [] σ (qi K) := by
  refine z_aload_n (pc := 0) (q := 0) (by decide +kernel) rfl ?_
  refine z_iload_n (pc := 1) (q := 1) (by decide +kernel) rfl ?_
  refine z_callv (pc := 2) (as := [vi a1]) ml_BC_342 rfl ⟨rfl, by decide⟩ rfl rfl (Nat.le_of_ble_eq_true rfl) (dc := d - 1) (by omega) (by decide +kernel) (CI.z (CI.mono (fun x1 τ1 k => ?_) k))
  refine z_istore_n (pc := 5) (q := 3) [some (vr 0), some (vi a1), some (vi a2), some (vi x1)] (by decide +kernel) (Nat.le_of_ble_eq_true rfl) rfl ?_
  refine z_iload_n (pc := 6) (q := 3) (by decide +kernel) rfl ?_
  refine z_if_eq (pc := 7) (off := 5) 12 (by decide +kernel) (by decide) ⟨fun hc => ?_, fun hc => ?_⟩
  · have k := k.1 hc
    refine z_aload_n (pc := 12) (q := 0) (by decide +kernel) rfl ?_
    refine z_getR (pc := 13) 96 fl_BC_87 rfl rfl rfl (by decide +kernel) ?_
    refine z_iload_n (pc := 16) (q := 2) (by decide +kernel) rfl ?_
    refine z_callv (pc := 17) (as := [vi a2]) ml_BC_354 rfl ⟨rfl, by decide⟩ rfl rfl (Nat.le_of_ble_eq_true rfl) (dc := d - 1) (by omega) (by decide +kernel) (CI.z (CI.mono (fun x2 τ2 k => ?_) k))
    refine z_if_eq (pc := 20) (off := 13) 33 (by decide +kernel) (by decide) ⟨fun hc => ?_, fun hc => ?_⟩
    · have k := k.1 hc
      refine z_bipush (pc := 33) (n := -3) (by decide +kernel) (by decide) ⟨by decide, by decide⟩ ?_
      exact z_iret (pc := 35) (by decide +kernel) rfl k
    · have k := k.2 hc
      refine z_aload_n (pc := 23) (q := 0) (by decide +kernel) rfl ?_
      refine z_getR (pc := 24) 96 fl_BC_87 rfl rfl rfl (by decide +kernel) ?_
      refine z_callv (pc := 27) (as := []) ml_BC_357 rfl ⟨rfl, by decide⟩ rfl rfl (Nat.le_of_ble_eq_true rfl) (dc := d - 1) (by omega) (by decide +kernel) (CI.z (CI.mono (fun x3 τ3 k => ?_) k))
      refine z_goto (pc := 30) (off := 5) 35 (by decide +kernel) (by decide) ?_
      exact z_iret (pc := 35) (by decide +kernel) rfl k
  · have k := k.2 hc
    refine z_iload_n (pc := 10) (q := 3) (by decide +kernel) rfl ?_
    exact z_iret (pc := 11) (by decide +kernel) rfl k
theorem b_BC_plain_0 {E : EN} {d : Nat} {a1 : Int} {a2 : Int} {a3 : Int} {σ : Mem} {K : Int → Mem → Prop}  (hd : 1 ≤ d) (k : CI E y_BC_hasTray (d - 1) [vi a1] σ (fun x1 τ1 => (x1 = 0 → K (-2) τ1) ∧ (x1 ≠ 0 → CI E y_BC_hasTray (d - 1) [vi a3] τ1 (fun x2 τ2 => (x2 = 0 → K (-2) τ2) ∧ (x2 ≠ 0 → (a1 ≠ a3 → (0 ≤ a1 ∧ a1 < 4) ∧ (τ2 (102 + 2 * (a1).toNat) 1 < 0 → K (-6) τ2) ∧ (0 ≤ τ2 (102 + 2 * (a1).toNat) 1 → (0 ≤ a3 ∧ a3 < 4) ∧ (0 ≤ τ2 (102 + 2 * (a3).toNat) 1 → CI E y_BC_cipherCode (d - 1) [vr 0, vi a1] τ2 (fun x3 τ3 => (x3 = 0 → CI E y_Ciph_turn (d - 1) [vr 96, vi a2] τ3 (fun x4 τ4 => (x4 ≠ 0 → CI E y_Math_min_II (d - 1) [vi (τ4 96 2), vi (τ4 (102 + 2 * (a3).toNat) 1)] τ4 (fun x5 τ5 => Z E y_BC_plain d 102 [some (vr 0), some (vi a1), some (vi a2), some (vi a3), some (vi x3), some (vi x5), some (vi 0)] [] τ5 (qi K))) ∧ (x4 = 0 → K (-3) τ4))) ∧ (x3 ≠ 0 → K x3 τ3))) ∧ (τ2 (102 + 2 * (a3).toNat) 1 < 0 → K (-6) τ2))) ∧ (a1 = a3 → K (-2) τ2)))))) :
    Z E y_BC_plain d 0 [some (vr 0), some (vi a1), some (vi a2), some (vi a3), none, none, none] [] σ (qi K) := by
  refine z_iload_n (pc := 0) (q := 1) (by decide +kernel) rfl ?_
  refine z_calls (pc := 1) (as := [vi a1]) ml_BC_360 rfl rfl (Nat.le_of_ble_eq_true rfl) (dc := d - 1) (by omega) (by decide +kernel) (CI.z (CI.mono (fun x1 τ1 k => ?_) k))
  refine z_if_eq (pc := 4) (off := 15) 19 (by decide +kernel) (by decide) ⟨fun hc => ?_, fun hc => ?_⟩
  · have k := k.1 hc
    refine z_bipush (pc := 19) (n := -2) (by decide +kernel) (by decide) ⟨by decide, by decide⟩ ?_
    exact z_iret (pc := 21) (by decide +kernel) rfl k
  · have k := k.2 hc
    refine z_iload_n (pc := 7) (q := 3) (by decide +kernel) rfl ?_
    refine z_calls (pc := 8) (as := [vi a3]) ml_BC_360 rfl rfl (Nat.le_of_ble_eq_true rfl) (dc := d - 1) (by omega) (by decide +kernel) (CI.z (CI.mono (fun x2 τ2 k => ?_) k))
    refine z_if_eq (pc := 11) (off := 8) 19 (by decide +kernel) (by decide) ⟨fun hc => ?_, fun hc => ?_⟩
    · have k := k.1 hc
      refine z_bipush (pc := 19) (n := -2) (by decide +kernel) (by decide) ⟨by decide, by decide⟩ ?_
      exact z_iret (pc := 21) (by decide +kernel) rfl k
    · have k := k.2 hc
      refine z_iload_n (pc := 14) (q := 1) (by decide +kernel) rfl ?_
      refine z_iload_n (pc := 15) (q := 3) (by decide +kernel) rfl ?_
      refine z_icmp_ne (pc := 16) (off := 6) 22 (by decide +kernel) (by decide) ⟨fun hc => ?_, fun hc => ?_⟩
      · have k := k.1 hc
        refine z_aload_n (pc := 22) (q := 0) (by decide +kernel) rfl ?_
        refine z_getR (pc := 23) 101 fl_BC_93 rfl rfl rfl (by decide +kernel) ?_
        refine z_iload_n (pc := 26) (q := 1) (by decide +kernel) rfl ?_
        have hb1 := k.1
        have k := k.2
        refine z_aald (pc := 27) (102 + 2 * (a1).toNat) rfl (by decide) (rf_trays hb1) hb1 (by decide +kernel) ?_
        refine z_getI (pc := 28) 1 fl_BC_253 (shTray (is_trays hb1)) (by decide) rfl (by decide +kernel) ?_
        refine z_if_lt (pc := 31) (off := 15) 46 (by decide +kernel) (by decide) ⟨fun hc => ?_, fun hc => ?_⟩
        · have k := k.1 hc
          refine z_bipush (pc := 46) (n := -6) (by decide +kernel) (by decide) ⟨by decide, by decide⟩ ?_
          exact z_iret (pc := 48) (by decide +kernel) rfl k
        · have k := k.2 hc
          refine z_aload_n (pc := 34) (q := 0) (by decide +kernel) rfl ?_
          refine z_getR (pc := 35) 101 fl_BC_93 rfl rfl rfl (by decide +kernel) ?_
          refine z_iload_n (pc := 38) (q := 3) (by decide +kernel) rfl ?_
          have hb2 := k.1
          have k := k.2
          refine z_aald (pc := 39) (102 + 2 * (a3).toNat) rfl (by decide) (rf_trays hb2) hb2 (by decide +kernel) ?_
          refine z_getI (pc := 40) 1 fl_BC_253 (shTray (is_trays hb2)) (by decide) rfl (by decide +kernel) ?_
          refine z_if_ge (pc := 43) (off := 6) 49 (by decide +kernel) (by decide) ⟨fun hc => ?_, fun hc => ?_⟩
          · have k := k.1 hc
            refine z_aload_n (pc := 49) (q := 0) (by decide +kernel) rfl ?_
            refine z_iload_n (pc := 50) (q := 1) (by decide +kernel) rfl ?_
            refine z_callv (pc := 51) (as := [vi a1]) ml_BC_342 rfl ⟨rfl, by decide⟩ rfl rfl (Nat.le_of_ble_eq_true rfl) (dc := d - 1) (by omega) (by decide +kernel) (CI.z (CI.mono (fun x3 τ3 k => ?_) k))
            refine z_istore (pc := 54) (i := 4) [some (vr 0), some (vi a1), some (vi a2), some (vi a3), some (vi x3), none, none] (by decide +kernel) (Nat.le_of_ble_eq_true rfl) rfl ?_
            refine z_iload (pc := 56) (i := 4) (by decide +kernel) rfl ?_
            refine z_if_eq (pc := 58) (off := 6) 64 (by decide +kernel) (by decide) ⟨fun hc => ?_, fun hc => ?_⟩
            · have k := k.1 hc
              refine z_aload_n (pc := 64) (q := 0) (by decide +kernel) rfl ?_
              refine z_getR (pc := 65) 96 fl_BC_87 rfl rfl rfl (by decide +kernel) ?_
              refine z_iload_n (pc := 68) (q := 2) (by decide +kernel) rfl ?_
              refine z_callv (pc := 69) (as := [vi a2]) ml_BC_354 rfl ⟨rfl, by decide⟩ rfl rfl (Nat.le_of_ble_eq_true rfl) (dc := d - 1) (by omega) (by decide +kernel) (CI.z (CI.mono (fun x4 τ4 k => ?_) k))
              refine z_if_ne (pc := 72) (off := 6) 78 (by decide +kernel) (by decide) ⟨fun hc => ?_, fun hc => ?_⟩
              · have k := k.1 hc
                refine z_aload_n (pc := 78) (q := 0) (by decide +kernel) rfl ?_
                refine z_getR (pc := 79) 96 fl_BC_87 rfl rfl rfl (by decide +kernel) ?_
                refine z_getI (pc := 82) 2 fl_BC_363 rfl (by decide) rfl (by decide +kernel) ?_
                refine z_aload_n (pc := 85) (q := 0) (by decide +kernel) rfl ?_
                refine z_getR (pc := 86) 101 fl_BC_93 rfl rfl rfl (by decide +kernel) ?_
                refine z_iload_n (pc := 89) (q := 3) (by decide +kernel) rfl ?_
                refine z_aald (pc := 90) (102 + 2 * (a3).toNat) rfl (by decide) (rf_trays hb2) hb2 (by decide +kernel) ?_
                refine z_getI (pc := 91) 1 fl_BC_253 (shTray (is_trays hb2)) (by decide) rfl (by decide +kernel) ?_
                refine z_calls (pc := 94) (as := [vi (τ4 96 2), vi (τ4 (102 + 2 * (a3).toNat) 1)]) ml_BC_294 rfl rfl (Nat.le_of_ble_eq_true rfl) (dc := d - 1) (by omega) (by decide +kernel) (CI.z (CI.mono (fun x5 τ5 k => ?_) k))
                refine z_istore (pc := 97) (i := 5) [some (vr 0), some (vi a1), some (vi a2), some (vi a3), some (vi x3), some (vi x5), none] (by decide +kernel) (Nat.le_of_ble_eq_true rfl) rfl ?_
                refine z_iconst (pc := 99) (n := 0) (by decide +kernel) ⟨by decide, by decide⟩ ?_
                refine z_istore (pc := 100) (i := 6) [some (vr 0), some (vi a1), some (vi a2), some (vi a3), some (vi x3), some (vi x5), some (vi 0)] (by decide +kernel) (Nat.le_of_ble_eq_true rfl) rfl ?_
                exact k
              · have k := k.2 hc
                refine z_bipush (pc := 75) (n := -3) (by decide +kernel) (by decide) ⟨by decide, by decide⟩ ?_
                exact z_iret (pc := 77) (by decide +kernel) rfl k
            · have k := k.2 hc
              refine z_iload (pc := 61) (i := 4) (by decide +kernel) rfl ?_
              exact z_iret (pc := 63) (by decide +kernel) rfl k
          · have k := k.2 hc
            refine z_bipush (pc := 46) (n := -6) (by decide +kernel) (by decide) ⟨by decide, by decide⟩ ?_
            exact z_iret (pc := 48) (by decide +kernel) rfl k
      · have k := k.2 hc
        refine z_bipush (pc := 19) (n := -2) (by decide +kernel) (by decide) ⟨by decide, by decide⟩ ?_
        exact z_iret (pc := 21) (by decide +kernel) rfl k
theorem b_BC_plain_102 {E : EN} {d : Nat} {a1 : Int} {a2 : Int} {a3 : Int} {o1 : Option AV} {o2 : Option AV} {o4 : Option AV} {a5 : Int} {a6 : Int} {σ : Mem} {K : Int → Mem → Prop}  (hd : 1 ≤ d) (k : (a5 ≤ a6 → K a5 σ) ∧ (a6 < a5 → (0 ≤ a3 ∧ a3 < 4) ∧ CI E y_Ciph_plainAt (d - 1) [vr 96, vi a6] σ (fun x1 τ1 => CL E y_Tray_put (d - 1) [vr (102 + 2 * (a3).toNat), vi a6, vl x1] τ1 (fun x2 τ2 => Z E y_BC_plain d 102 [some (vr 0), o1, o2, some (vi a3), o4, some (vi a5), some (vi (w32 (a6 + 1)))] [] τ2 (qi K))))) :
    Z E y_BC_plain d 102 [some (vr 0), o1, o2, some (vi a3), o4, some (vi a5), some (vi a6)] [] σ (qi K) := by
  refine z_iload (pc := 102) (i := 6) (by decide +kernel) rfl ?_
  refine z_iload (pc := 104) (i := 5) (by decide +kernel) rfl ?_
  refine z_icmp_ge (pc := 106) (off := 31) 137 (by decide +kernel) (by decide) ⟨fun hc => ?_, fun hc => ?_⟩
  · have k := k.1 hc
    refine z_iload (pc := 137) (i := 5) (by decide +kernel) rfl ?_
    exact z_iret (pc := 139) (by decide +kernel) rfl k
  · have k := k.2 hc
    refine z_aload_n (pc := 109) (q := 0) (by decide +kernel) rfl ?_
    refine z_getR (pc := 110) 101 fl_BC_93 rfl rfl rfl (by decide +kernel) ?_
    refine z_iload_n (pc := 113) (q := 3) (by decide +kernel) rfl ?_
    have hb1 := k.1
    have k := k.2
    refine z_aald (pc := 114) (102 + 2 * (a3).toNat) rfl (by decide) (rf_trays hb1) hb1 (by decide +kernel) ?_
    refine z_iload (pc := 115) (i := 6) (by decide +kernel) rfl ?_
    refine z_aload_n (pc := 117) (q := 0) (by decide +kernel) rfl ?_
    refine z_getR (pc := 118) 96 fl_BC_87 rfl rfl rfl (by decide +kernel) ?_
    refine z_iload (pc := 121) (i := 6) (by decide +kernel) rfl ?_
    refine z_callv (pc := 123) (as := [vi a6]) ml_BC_366 rfl ⟨rfl, by decide⟩ rfl rfl (Nat.le_of_ble_eq_true rfl) (dc := d - 1) (by omega) (by decide +kernel) (CI.z (CI.mono (fun x1 τ1 k => ?_) k))
    refine z_i2l (pc := 126) (by decide +kernel) ?_
    refine z_callv (pc := 127) (as := [vi a6, vl x1]) ml_BC_369 (shTray (is_trays hb1)) ⟨rfl, by decide⟩ rfl rfl (Nat.le_of_ble_eq_true rfl) (dc := d - 1) (by omega) (by decide +kernel) (CL.z (CL.mono (fun x2 τ2 k => ?_) k))
    refine z_pop2 (pc := 130) (by decide +kernel) ?_
    refine z_iinc (pc := 131) (i := 6) (n := 1) [some (vr 0), o1, o2, some (vi a3), o4, some (vi a5), some (vi (w32 (a6 + 1)))] (by decide +kernel) rfl rfl ?_
    refine z_goto (pc := 134) (off := -32) 102 (by decide +kernel) (by decide) ?_
    exact k
theorem b_BC_look_0 {E : EN} {d : Nat} {a1 : Int} {σ : Mem} {K : Int → Mem → Prop}  (hd : 1 ≤ d) (k : CI E y_BC_cipherCode (d - 1) [vr 0, vi a1] σ (fun x1 τ1 => (x1 = 0 → CV E y_Ciph_findKeys (d - 1) [vr 96] τ1 (fun τ2 => CI E y_Ciph_mostUnlike (d - 1) [vr 96] τ2 (fun x3 τ3 => K x3 τ3))) ∧ (x1 ≠ 0 → K x1 τ1))) :
    Z E y_BC_look d 0 [some (vr 0), some (vi a1), none] [] σ (qi K) := by
  refine z_aload_n (pc := 0) (q := 0) (by decide +kernel) rfl ?_
  refine z_iload_n (pc := 1) (q := 1) (by decide +kernel) rfl ?_
  refine z_callv (pc := 2) (as := [vi a1]) ml_BC_342 rfl ⟨rfl, by decide⟩ rfl rfl (Nat.le_of_ble_eq_true rfl) (dc := d - 1) (by omega) (by decide +kernel) (CI.z (CI.mono (fun x1 τ1 k => ?_) k))
  refine z_istore_n (pc := 5) (q := 2) [some (vr 0), some (vi a1), some (vi x1)] (by decide +kernel) (Nat.le_of_ble_eq_true rfl) rfl ?_
  refine z_iload_n (pc := 6) (q := 2) (by decide +kernel) rfl ?_
  refine z_if_eq (pc := 7) (off := 5) 12 (by decide +kernel) (by decide) ⟨fun hc => ?_, fun hc => ?_⟩
  · have k := k.1 hc
    refine z_aload_n (pc := 12) (q := 0) (by decide +kernel) rfl ?_
    refine z_getR (pc := 13) 96 fl_BC_87 rfl rfl rfl (by decide +kernel) ?_
    refine z_callv (pc := 16) (as := []) ml_BC_345 rfl ⟨rfl, by decide⟩ rfl rfl (Nat.le_of_ble_eq_true rfl) (dc := d - 1) (by omega) (by decide +kernel) (CV.z (CV.mono (fun τ2 k => ?_) k))
    refine z_aload_n (pc := 19) (q := 0) (by decide +kernel) rfl ?_
    refine z_getR (pc := 20) 96 fl_BC_87 rfl rfl rfl (by decide +kernel) ?_
    refine z_callv (pc := 23) (as := []) ml_BC_373 rfl ⟨rfl, by decide⟩ rfl rfl (Nat.le_of_ble_eq_true rfl) (dc := d - 1) (by omega) (by decide +kernel) (CI.z (CI.mono (fun x3 τ3 k => ?_) k))
    exact z_iret (pc := 26) (by decide +kernel) rfl k
  · have k := k.2 hc
    refine z_iload_n (pc := 10) (q := 2) (by decide +kernel) rfl ?_
    exact z_iret (pc := 11) (by decide +kernel) rfl k
theorem b_BC_cipherCode_0 {E : EN} {d : Nat} {a1 : Int} {σ : Mem} {K : Int → Mem → Prop}  (hd : 1 ≤ d) (k : CI E y_BC_trayCode (d - 1) [vr 0, vi a1] σ (fun x1 τ1 => (x1 = 0 → (0 ≤ a1 ∧ a1 < 4) ∧ CI E y_Ciph_load (d - 1) [vr 96, vr (102 + 2 * (a1).toNat)] τ1 (fun x2 τ2 => K x2 τ2)) ∧ (x1 ≠ 0 → K x1 τ1))) :
    Z E y_BC_cipherCode d 0 [some (vr 0), some (vi a1), none] [] σ (qi K) := by
  refine z_aload_n (pc := 0) (q := 0) (by decide +kernel) rfl ?_
  refine z_iload_n (pc := 1) (q := 1) (by decide +kernel) rfl ?_
  refine z_callv (pc := 2) (as := [vi a1]) ml_BC_197 rfl ⟨rfl, by decide⟩ rfl rfl (Nat.le_of_ble_eq_true rfl) (dc := d - 1) (by omega) (by decide +kernel) (CI.z (CI.mono (fun x1 τ1 k => ?_) k))
  refine z_istore_n (pc := 5) (q := 2) [some (vr 0), some (vi a1), some (vi x1)] (by decide +kernel) (Nat.le_of_ble_eq_true rfl) rfl ?_
  refine z_iload_n (pc := 6) (q := 2) (by decide +kernel) rfl ?_
  refine z_if_eq (pc := 7) (off := 7) 14 (by decide +kernel) (by decide) ⟨fun hc => ?_, fun hc => ?_⟩
  · have k := k.1 hc
    refine z_aload_n (pc := 14) (q := 0) (by decide +kernel) rfl ?_
    refine z_getR (pc := 15) 96 fl_BC_87 rfl rfl rfl (by decide +kernel) ?_
    refine z_aload_n (pc := 18) (q := 0) (by decide +kernel) rfl ?_
    refine z_getR (pc := 19) 101 fl_BC_93 rfl rfl rfl (by decide +kernel) ?_
    refine z_iload_n (pc := 22) (q := 1) (by decide +kernel) rfl ?_
    have hb1 := k.1
    have k := k.2
    refine z_aald (pc := 23) (102 + 2 * (a1).toNat) rfl (by decide) (rf_trays hb1) hb1 (by decide +kernel) ?_
    refine z_callv (pc := 24) (as := [vr (102 + 2 * (a1).toNat)]) ml_BC_376 rfl ⟨rfl, by decide⟩ rfl rfl (Nat.le_of_ble_eq_true rfl) (dc := d - 1) (by omega) (by decide +kernel) (CI.z (CI.mono (fun x2 τ2 k => ?_) k))
    exact z_iret (pc := 27) (by decide +kernel) rfl k
  · have k := k.2 hc
    refine z_iload_n (pc := 10) (q := 2) (by decide +kernel) rfl ?_
    refine z_goto (pc := 11) (off := 16) 27 (by decide +kernel) (by decide) ?_
    exact z_iret (pc := 27) (by decide +kernel) rfl k
theorem b_BC_numbers_0 {E : EN} {d : Nat} {a1 : Int} {a2 : Int} {a3 : Int} {σ : Mem} {K : Int → Mem → Prop}  (hd : 1 ≤ d) (k : CI E y_BC_hasTray (d - 1) [vi a1] σ (fun x1 τ1 => (x1 = 0 → K (-2) τ1) ∧ (x1 ≠ 0 → (a2 < 0 → K (-2) τ1) ∧ (0 ≤ a2 → (a2 ≤ 3 → (a3 < 0 → K (-3) τ1) ∧ (0 ≤ a3 → (a3 ≤ 40 → (0 ≤ a1 ∧ a1 < 4) ∧ CV E y_Tray_begin (d - 1) [vr (102 + 2 * (a1).toNat), vi a2, vi a3] τ1 (fun τ2 => K 0 τ2)) ∧ (40 < a3 → K (-3) τ1))) ∧ (3 < a2 → K (-2) τ1))))) :
    Z E y_BC_numbers d 0 [some (vr 0), some (vi a1), some (vi a2), some (vi a3)] [] σ (qi K) := by
  refine z_iload_n (pc := 0) (q := 1) (by decide +kernel) rfl ?_
  refine z_calls (pc := 1) (as := [vi a1]) ml_BC_360 rfl rfl (Nat.le_of_ble_eq_true rfl) (dc := d - 1) (by omega) (by decide +kernel) (CI.z (CI.mono (fun x1 τ1 k => ?_) k))
  refine z_if_eq (pc := 4) (off := 12) 16 (by decide +kernel) (by decide) ⟨fun hc => ?_, fun hc => ?_⟩
  · have k := k.1 hc
    refine z_bipush (pc := 16) (n := -2) (by decide +kernel) (by decide) ⟨by decide, by decide⟩ ?_
    exact z_iret (pc := 18) (by decide +kernel) rfl k
  · have k := k.2 hc
    refine z_iload_n (pc := 7) (q := 2) (by decide +kernel) rfl ?_
    refine z_if_lt (pc := 8) (off := 8) 16 (by decide +kernel) (by decide) ⟨fun hc => ?_, fun hc => ?_⟩
    · have k := k.1 hc
      refine z_bipush (pc := 16) (n := -2) (by decide +kernel) (by decide) ⟨by decide, by decide⟩ ?_
      exact z_iret (pc := 18) (by decide +kernel) rfl k
    · have k := k.2 hc
      refine z_iload_n (pc := 11) (q := 2) (by decide +kernel) rfl ?_
      refine z_iconst (pc := 12) (n := 3) (by decide +kernel) ⟨by decide, by decide⟩ ?_
      refine z_icmp_le (pc := 13) (off := 6) 19 (by decide +kernel) (by decide) ⟨fun hc => ?_, fun hc => ?_⟩
      · have k := k.1 hc
        refine z_iload_n (pc := 19) (q := 3) (by decide +kernel) rfl ?_
        refine z_if_lt (pc := 20) (off := 9) 29 (by decide +kernel) (by decide) ⟨fun hc => ?_, fun hc => ?_⟩
        · have k := k.1 hc
          refine z_bipush (pc := 29) (n := -3) (by decide +kernel) (by decide) ⟨by decide, by decide⟩ ?_
          exact z_iret (pc := 31) (by decide +kernel) rfl k
        · have k := k.2 hc
          refine z_iload_n (pc := 23) (q := 3) (by decide +kernel) rfl ?_
          refine z_bipush (pc := 24) (n := 40) (by decide +kernel) (by decide) ⟨by decide, by decide⟩ ?_
          refine z_icmp_le (pc := 26) (off := 6) 32 (by decide +kernel) (by decide) ⟨fun hc => ?_, fun hc => ?_⟩
          · have k := k.1 hc
            refine z_aload_n (pc := 32) (q := 0) (by decide +kernel) rfl ?_
            refine z_getR (pc := 33) 101 fl_BC_93 rfl rfl rfl (by decide +kernel) ?_
            refine z_iload_n (pc := 36) (q := 1) (by decide +kernel) rfl ?_
            have hb1 := k.1
            have k := k.2
            refine z_aald (pc := 37) (102 + 2 * (a1).toNat) rfl (by decide) (rf_trays hb1) hb1 (by decide +kernel) ?_
            refine z_iload_n (pc := 38) (q := 2) (by decide +kernel) rfl ?_
            refine z_iload_n (pc := 39) (q := 3) (by decide +kernel) rfl ?_
            refine z_callv (pc := 40) (as := [vi a2, vi a3]) ml_BC_380 (shTray (is_trays hb1)) ⟨rfl, by decide⟩ rfl rfl (Nat.le_of_ble_eq_true rfl) (dc := d - 1) (by omega) (by decide +kernel) (CV.z (CV.mono (fun τ2 k => ?_) k))
            refine z_iconst (pc := 43) (n := 0) (by decide +kernel) ⟨by decide, by decide⟩ ?_
            exact z_iret (pc := 44) (by decide +kernel) rfl k
          · have k := k.2 hc
            refine z_bipush (pc := 29) (n := -3) (by decide +kernel) (by decide) ⟨by decide, by decide⟩ ?_
            exact z_iret (pc := 31) (by decide +kernel) rfl k
      · have k := k.2 hc
        refine z_bipush (pc := 16) (n := -2) (by decide +kernel) (by decide) ⟨by decide, by decide⟩ ?_
        exact z_iret (pc := 18) (by decide +kernel) rfl k
theorem b_BC_write_0 {E : EN} {d : Nat} {a1 : Int} {a2 : Int} {b3 : Int} {σ : Mem} {K : Int → Mem → Prop}  (hd : 1 ≤ d) (k : CI E y_BC_trayCode (d - 1) [vr 0, vi a1] σ (fun x1 τ1 => (x1 = 0 → (a2 < 0 → K (-7) τ1) ∧ (0 ≤ a2 → (0 ≤ a1 ∧ a1 < 4) ∧ (a2 < τ1 (102 + 2 * (a1).toNat) 1 → CL E y_Tray_put (d - 1) [vr (102 + 2 * (a1).toNat), vi a2, vl b3] τ1 (fun x2 τ2 => K x2 τ2)) ∧ (τ1 (102 + 2 * (a1).toNat) 1 ≤ a2 → K (-7) τ1))) ∧ (x1 ≠ 0 → K x1 τ1))) :
    Z E y_BC_write d 0 [some (vr 0), some (vi a1), some (vi a2), some (vl b3), none, none] [] σ (ql K) := by
  refine z_aload_n (pc := 0) (q := 0) (by decide +kernel) rfl ?_
  refine z_iload_n (pc := 1) (q := 1) (by decide +kernel) rfl ?_
  refine z_callv (pc := 2) (as := [vi a1]) ml_BC_197 rfl ⟨rfl, by decide⟩ rfl rfl (Nat.le_of_ble_eq_true rfl) (dc := d - 1) (by omega) (by decide +kernel) (CI.z (CI.mono (fun x1 τ1 k => ?_) k))
  refine z_istore (pc := 5) (i := 5) [some (vr 0), some (vi a1), some (vi a2), some (vl b3), none, some (vi x1)] (by decide +kernel) (Nat.le_of_ble_eq_true rfl) rfl ?_
  refine z_iload (pc := 7) (i := 5) (by decide +kernel) rfl ?_
  refine z_if_eq (pc := 9) (off := 7) 16 (by decide +kernel) (by decide) ⟨fun hc => ?_, fun hc => ?_⟩
  · have k := k.1 hc
    refine z_iload_n (pc := 16) (q := 2) (by decide +kernel) rfl ?_
    refine z_if_lt (pc := 17) (off := 16) 33 (by decide +kernel) (by decide) ⟨fun hc => ?_, fun hc => ?_⟩
    · have k := k.1 hc
      refine z_ldc2 (pc := 33) (index := 382) (-7) (mm6 91 rfl) ⟨by decide, by decide⟩ (by decide +kernel) ?_
      exact z_lret (pc := 36) (by decide +kernel) rfl k
    · have k := k.2 hc
      refine z_iload_n (pc := 20) (q := 2) (by decide +kernel) rfl ?_
      refine z_aload_n (pc := 21) (q := 0) (by decide +kernel) rfl ?_
      refine z_getR (pc := 22) 101 fl_BC_93 rfl rfl rfl (by decide +kernel) ?_
      refine z_iload_n (pc := 25) (q := 1) (by decide +kernel) rfl ?_
      have hb1 := k.1
      have k := k.2
      refine z_aald (pc := 26) (102 + 2 * (a1).toNat) rfl (by decide) (rf_trays hb1) hb1 (by decide +kernel) ?_
      refine z_getI (pc := 27) 1 fl_BC_253 (shTray (is_trays hb1)) (by decide) rfl (by decide +kernel) ?_
      refine z_icmp_lt (pc := 30) (off := 7) 37 (by decide +kernel) (by decide) ⟨fun hc => ?_, fun hc => ?_⟩
      · have k := k.1 hc
        refine z_aload_n (pc := 37) (q := 0) (by decide +kernel) rfl ?_
        refine z_getR (pc := 38) 101 fl_BC_93 rfl rfl rfl (by decide +kernel) ?_
        refine z_iload_n (pc := 41) (q := 1) (by decide +kernel) rfl ?_
        refine z_aald (pc := 42) (102 + 2 * (a1).toNat) rfl (by decide) (rf_trays hb1) hb1 (by decide +kernel) ?_
        refine z_iload_n (pc := 43) (q := 2) (by decide +kernel) rfl ?_
        refine z_lload_n (pc := 44) (q := 3) (by decide +kernel) rfl ?_
        refine z_callv (pc := 45) (as := [vi a2, vl b3]) ml_BC_369 (shTray (is_trays hb1)) ⟨rfl, by decide⟩ rfl rfl (Nat.le_of_ble_eq_true rfl) (dc := d - 1) (by omega) (by decide +kernel) (CL.z (CL.mono (fun x2 τ2 k => ?_) k))
        exact z_lret (pc := 48) (by decide +kernel) rfl k
      · have k := k.2 hc
        refine z_ldc2 (pc := 33) (index := 382) (-7) (mm6 91 rfl) ⟨by decide, by decide⟩ (by decide +kernel) ?_
        exact z_lret (pc := 36) (by decide +kernel) rfl k
  · have k := k.2 hc
    refine z_iload (pc := 12) (i := 5) (by decide +kernel) rfl ?_
    refine z_i2l (pc := 14) (by decide +kernel) ?_
    exact z_lret (pc := 15) (by decide +kernel) rfl k
theorem b_BC_lists_0 {E : EN} {d : Nat} {a1 : Int} {σ : Mem} {K : Int → Mem → Prop}  (hd : 1 ≤ d) (k : CI E y_BC_trayCode (d - 1) [vr 0, vi a1] σ (fun x1 τ1 => (x1 = 0 → CV E y_Plan_plan (d - 1) [vr 92, vi (τ1 50 0), vi (τ1 50 2)] τ1 (fun τ2 => (0 ≤ a1 ∧ a1 < 4) ∧ CI E y_Math_min_II (d - 1) [vi (τ2 92 14), vi (τ2 (102 + 2 * (a1).toNat) 1)] τ2 (fun x3 τ3 => Z E y_BC_lists d 56 [some (vr 0), some (vi a1), some (vi x1), some (vi x3), some (vi 0)] [] τ3 (qi K)))) ∧ (x1 ≠ 0 → K x1 τ1))) :
    Z E y_BC_lists d 0 [some (vr 0), some (vi a1), none, none, none] [] σ (qi K) := by
  refine z_aload_n (pc := 0) (q := 0) (by decide +kernel) rfl ?_
  refine z_iload_n (pc := 1) (q := 1) (by decide +kernel) rfl ?_
  refine z_callv (pc := 2) (as := [vi a1]) ml_BC_197 rfl ⟨rfl, by decide⟩ rfl rfl (Nat.le_of_ble_eq_true rfl) (dc := d - 1) (by omega) (by decide +kernel) (CI.z (CI.mono (fun x1 τ1 k => ?_) k))
  refine z_istore_n (pc := 5) (q := 2) [some (vr 0), some (vi a1), some (vi x1), none, none] (by decide +kernel) (Nat.le_of_ble_eq_true rfl) rfl ?_
  refine z_iload_n (pc := 6) (q := 2) (by decide +kernel) rfl ?_
  refine z_if_eq (pc := 7) (off := 5) 12 (by decide +kernel) (by decide) ⟨fun hc => ?_, fun hc => ?_⟩
  · have k := k.1 hc
    refine z_aload_n (pc := 12) (q := 0) (by decide +kernel) rfl ?_
    refine z_getR (pc := 13) 92 fl_BC_80 rfl rfl rfl (by decide +kernel) ?_
    refine z_aload_n (pc := 16) (q := 0) (by decide +kernel) rfl ?_
    refine z_getR (pc := 17) 50 fl_BC_36 rfl rfl rfl (by decide +kernel) ?_
    refine z_getI (pc := 20) 0 fl_BC_144 rfl (by decide) rfl (by decide +kernel) ?_
    refine z_aload_n (pc := 23) (q := 0) (by decide +kernel) rfl ?_
    refine z_getR (pc := 24) 50 fl_BC_36 rfl rfl rfl (by decide +kernel) ?_
    refine z_getI (pc := 27) 2 fl_BC_159 rfl (by decide) rfl (by decide +kernel) ?_
    refine z_callv (pc := 30) (as := [vi (τ1 50 0), vi (τ1 50 2)]) ml_BC_264 rfl ⟨rfl, by decide⟩ rfl rfl (Nat.le_of_ble_eq_true rfl) (dc := d - 1) (by omega) (by decide +kernel) (CV.z (CV.mono (fun τ2 k => ?_) k))
    refine z_aload_n (pc := 33) (q := 0) (by decide +kernel) rfl ?_
    refine z_getR (pc := 34) 92 fl_BC_80 rfl rfl rfl (by decide +kernel) ?_
    refine z_getI (pc := 37) 14 fl_BC_270 rfl (by decide) rfl (by decide +kernel) ?_
    refine z_aload_n (pc := 40) (q := 0) (by decide +kernel) rfl ?_
    refine z_getR (pc := 41) 101 fl_BC_93 rfl rfl rfl (by decide +kernel) ?_
    refine z_iload_n (pc := 44) (q := 1) (by decide +kernel) rfl ?_
    have hb1 := k.1
    have k := k.2
    refine z_aald (pc := 45) (102 + 2 * (a1).toNat) rfl (by decide) (rf_trays hb1) hb1 (by decide +kernel) ?_
    refine z_getI (pc := 46) 1 fl_BC_253 (shTray (is_trays hb1)) (by decide) rfl (by decide +kernel) ?_
    refine z_calls (pc := 49) (as := [vi (τ2 92 14), vi (τ2 (102 + 2 * (a1).toNat) 1)]) ml_BC_294 rfl rfl (Nat.le_of_ble_eq_true rfl) (dc := d - 1) (by omega) (by decide +kernel) (CI.z (CI.mono (fun x3 τ3 k => ?_) k))
    refine z_istore_n (pc := 52) (q := 3) [some (vr 0), some (vi a1), some (vi x1), some (vi x3), none] (by decide +kernel) (Nat.le_of_ble_eq_true rfl) rfl ?_
    refine z_iconst (pc := 53) (n := 0) (by decide +kernel) ⟨by decide, by decide⟩ ?_
    refine z_istore (pc := 54) (i := 4) [some (vr 0), some (vi a1), some (vi x1), some (vi x3), some (vi 0)] (by decide +kernel) (Nat.le_of_ble_eq_true rfl) rfl ?_
    exact k
  · have k := k.2 hc
    refine z_iload_n (pc := 10) (q := 2) (by decide +kernel) rfl ?_
    exact z_iret (pc := 11) (by decide +kernel) rfl k
theorem b_BC_lists_56 {E : EN} {d : Nat} {a1 : Int} {o2 : Option AV} {a3 : Int} {a4 : Int} {σ : Mem} {K : Int → Mem → Prop}  (hd : 1 ≤ d) (k : (a3 ≤ a4 → K a3 σ) ∧ (a4 < a3 → (6 ≤ a4 → K a3 σ) ∧ (a4 < 6 → (0 ≤ a1 ∧ a1 < 4) ∧ (0 ≤ a4 ∧ a4 < 6) ∧ CL E y_Tray_put (d - 1) [vr (102 + 2 * (a1).toNat), vi a4, vl (σ 95 a4)] σ (fun x1 τ1 => Z E y_BC_lists d 56 [some (vr 0), some (vi a1), o2, some (vi a3), some (vi (w32 (a4 + 1)))] [] τ1 (qi K))))) :
    Z E y_BC_lists d 56 [some (vr 0), some (vi a1), o2, some (vi a3), some (vi a4)] [] σ (qi K) := by
  refine z_iload (pc := 56) (i := 4) (by decide +kernel) rfl ?_
  refine z_iload_n (pc := 58) (q := 3) (by decide +kernel) rfl ?_
  refine z_icmp_ge (pc := 59) (off := 39) 98 (by decide +kernel) (by decide) ⟨fun hc => ?_, fun hc => ?_⟩
  · have k := k.1 hc
    refine z_iload_n (pc := 98) (q := 3) (by decide +kernel) rfl ?_
    exact z_iret (pc := 99) (by decide +kernel) rfl k
  · have k := k.2 hc
    refine z_iload (pc := 62) (i := 4) (by decide +kernel) rfl ?_
    refine z_bipush (pc := 64) (n := 6) (by decide +kernel) (by decide) ⟨by decide, by decide⟩ ?_
    refine z_icmp_ge (pc := 66) (off := 32) 98 (by decide +kernel) (by decide) ⟨fun hc => ?_, fun hc => ?_⟩
    · have k := k.1 hc
      refine z_iload_n (pc := 98) (q := 3) (by decide +kernel) rfl ?_
      exact z_iret (pc := 99) (by decide +kernel) rfl k
    · have k := k.2 hc
      refine z_aload_n (pc := 69) (q := 0) (by decide +kernel) rfl ?_
      refine z_getR (pc := 70) 101 fl_BC_93 rfl rfl rfl (by decide +kernel) ?_
      refine z_iload_n (pc := 73) (q := 1) (by decide +kernel) rfl ?_
      have hb1 := k.1
      have k := k.2
      refine z_aald (pc := 74) (102 + 2 * (a1).toNat) rfl (by decide) (rf_trays hb1) hb1 (by decide +kernel) ?_
      refine z_iload (pc := 75) (i := 4) (by decide +kernel) rfl ?_
      refine z_aload_n (pc := 77) (q := 0) (by decide +kernel) rfl ?_
      refine z_getR (pc := 78) 92 fl_BC_80 rfl rfl rfl (by decide +kernel) ?_
      refine z_getR (pc := 81) 95 fl_BC_279 rfl rfl rfl (by decide +kernel) ?_
      refine z_iload (pc := 84) (i := 4) (by decide +kernel) rfl ?_
      have hb2 := k.1
      have k := k.2
      refine z_iald (pc := 86) rfl hb2 (by decide +kernel) ?_
      refine z_i2l (pc := 87) (by decide +kernel) ?_
      refine z_callv (pc := 88) (as := [vi a4, vl (σ 95 a4)]) ml_BC_369 (shTray (is_trays hb1)) ⟨rfl, by decide⟩ rfl rfl (Nat.le_of_ble_eq_true rfl) (dc := d - 1) (by omega) (by decide +kernel) (CL.z (CL.mono (fun x1 τ1 k => ?_) k))
      refine z_pop2 (pc := 91) (by decide +kernel) ?_
      refine z_iinc (pc := 92) (i := 4) (n := 1) [some (vr 0), some (vi a1), o2, some (vi a3), some (vi (w32 (a4 + 1)))] (by decide +kernel) rfl rfl ?_
      refine z_goto (pc := 95) (off := -39) 56 (by decide +kernel) (by decide) ?_
      exact k
theorem b_BC_image_0 {E : EN} {d : Nat} {a1 : Int} {σ : Mem} {K : Int → Mem → Prop}  (hd : 1 ≤ d) (k : (a1 < 0 → K (-2) σ) ∧ (0 ≤ a1 → (a1 < 2 → (0 ≤ a1 ∧ a1 < 2) ∧ CV E y_Room_become (d - 1) [vr (26 + 12 * (a1).toNat), vr 2] σ (fun τ1 => CV E y_Stg_become (d - 1) [vr (113 + (a1).toNat), vr 50] τ1 (fun τ2 => K 0 (up τ2 112 a1 1)))) ∧ (2 ≤ a1 → K (-2) σ))) :
    Z E y_BC_image d 0 [some (vr 0), some (vi a1)] [] σ (qi K) := by
  refine z_iload_n (pc := 0) (q := 1) (by decide +kernel) rfl ?_
  refine z_if_lt (pc := 1) (off := 8) 9 (by decide +kernel) (by decide) ⟨fun hc => ?_, fun hc => ?_⟩
  · have k := k.1 hc
    refine z_bipush (pc := 9) (n := -2) (by decide +kernel) (by decide) ⟨by decide, by decide⟩ ?_
    exact z_iret (pc := 11) (by decide +kernel) rfl k
  · have k := k.2 hc
    refine z_iload_n (pc := 4) (q := 1) (by decide +kernel) rfl ?_
    refine z_iconst (pc := 5) (n := 2) (by decide +kernel) ⟨by decide, by decide⟩ ?_
    refine z_icmp_lt (pc := 6) (off := 6) 12 (by decide +kernel) (by decide) ⟨fun hc => ?_, fun hc => ?_⟩
    · have k := k.1 hc
      refine z_aload_n (pc := 12) (q := 0) (by decide +kernel) rfl ?_
      refine z_getR (pc := 13) 110 fl_BC_97 rfl rfl rfl (by decide +kernel) ?_
      refine z_iload_n (pc := 16) (q := 1) (by decide +kernel) rfl ?_
      have hb1 := k.1
      have k := k.2
      refine z_aald (pc := 17) (26 + 12 * (a1).toNat) rfl (by decide) (rf_imr hb1) hb1 (by decide +kernel) ?_
      refine z_aload_n (pc := 18) (q := 0) (by decide +kernel) rfl ?_
      refine z_getR (pc := 19) 2 fl_BC_26 rfl rfl rfl (by decide +kernel) ?_
      refine z_callv (pc := 22) (as := [vr 2]) ml_BC_119 (shRoom (is_imr hb1)) ⟨rfl, by decide⟩ rfl rfl (Nat.le_of_ble_eq_true rfl) (dc := d - 1) (by omega) (by decide +kernel) (CV.z (CV.mono (fun τ1 k => ?_) k))
      refine z_aload_n (pc := 25) (q := 0) (by decide +kernel) rfl ?_
      refine z_getR (pc := 26) 111 fl_BC_101 rfl rfl rfl (by decide +kernel) ?_
      refine z_iload_n (pc := 29) (q := 1) (by decide +kernel) rfl ?_
      refine z_aald (pc := 30) (113 + (a1).toNat) rfl (by decide) (rf_ims hb1) hb1 (by decide +kernel) ?_
      refine z_aload_n (pc := 31) (q := 0) (by decide +kernel) rfl ?_
      refine z_getR (pc := 32) 50 fl_BC_36 rfl rfl rfl (by decide +kernel) ?_
      refine z_callv (pc := 35) (as := [vr 50]) ml_BC_232 (shStg (is_ims hb1)) ⟨rfl, by decide⟩ rfl rfl (Nat.le_of_ble_eq_true rfl) (dc := d - 1) (by omega) (by decide +kernel) (CV.z (CV.mono (fun τ2 k => ?_) k))
      refine z_aload_n (pc := 38) (q := 0) (by decide +kernel) rfl ?_
      refine z_getR (pc := 39) 112 fl_BC_105 rfl rfl rfl (by decide +kernel) ?_
      refine z_iload_n (pc := 42) (q := 1) (by decide +kernel) rfl ?_
      refine z_iconst (pc := 43) (n := 1) (by decide +kernel) ⟨by decide, by decide⟩ ?_
      refine z_zast (pc := 44) rfl hb1 (by decide) (by decide +kernel) ?_
      refine z_iconst (pc := 45) (n := 0) (by decide +kernel) ⟨by decide, by decide⟩ ?_
      exact z_iret (pc := 46) (by decide +kernel) rfl k
    · have k := k.2 hc
      refine z_bipush (pc := 9) (n := -2) (by decide +kernel) (by decide) ⟨by decide, by decide⟩ ?_
      exact z_iret (pc := 11) (by decide +kernel) rfl k
theorem b_BC_restore_0 {E : EN} {d : Nat} {a1 : Int} {σ : Mem} {K : Int → Mem → Prop}  (hd : 1 ≤ d) (k : (a1 < 0 → K (-2) σ) ∧ (0 ≤ a1 → (a1 < 2 → (0 ≤ a1 ∧ a1 < 2) ∧ (σ 112 a1 ≠ 0 → CV E y_Room_become (d - 1) [vr 2, vr (26 + 12 * (a1).toNat)] σ (fun τ1 => CV E y_Stg_become (d - 1) [vr 50, vr (113 + (a1).toNat)] τ1 (fun τ2 => CV E y_Past_forget (d - 1) [vr 52] τ2 (fun τ3 => CV E y_Plan_forget (d - 1) [vr 92] τ3 (fun τ4 => K 0 τ4))))) ∧ (σ 112 a1 = 0 → K (-5) σ)) ∧ (2 ≤ a1 → K (-2) σ))) :
    Z E y_BC_restore d 0 [some (vr 0), some (vi a1)] [] σ (qi K) := by
  refine z_iload_n (pc := 0) (q := 1) (by decide +kernel) rfl ?_
  refine z_if_lt (pc := 1) (off := 8) 9 (by decide +kernel) (by decide) ⟨fun hc => ?_, fun hc => ?_⟩
  · have k := k.1 hc
    refine z_bipush (pc := 9) (n := -2) (by decide +kernel) (by decide) ⟨by decide, by decide⟩ ?_
    exact z_iret (pc := 11) (by decide +kernel) rfl k
  · have k := k.2 hc
    refine z_iload_n (pc := 4) (q := 1) (by decide +kernel) rfl ?_
    refine z_iconst (pc := 5) (n := 2) (by decide +kernel) ⟨by decide, by decide⟩ ?_
    refine z_icmp_lt (pc := 6) (off := 6) 12 (by decide +kernel) (by decide) ⟨fun hc => ?_, fun hc => ?_⟩
    · have k := k.1 hc
      refine z_aload_n (pc := 12) (q := 0) (by decide +kernel) rfl ?_
      refine z_getR (pc := 13) 112 fl_BC_105 rfl rfl rfl (by decide +kernel) ?_
      refine z_iload_n (pc := 16) (q := 1) (by decide +kernel) rfl ?_
      have hb1 := k.1
      have k := k.2
      refine z_zald (pc := 17) rfl hb1 (by decide +kernel) ?_
      refine z_if_ne (pc := 18) (off := 6) 24 (by decide +kernel) (by decide) ⟨fun hc => ?_, fun hc => ?_⟩
      · have k := k.1 hc
        refine z_aload_n (pc := 24) (q := 0) (by decide +kernel) rfl ?_
        refine z_getR (pc := 25) 2 fl_BC_26 rfl rfl rfl (by decide +kernel) ?_
        refine z_aload_n (pc := 28) (q := 0) (by decide +kernel) rfl ?_
        refine z_getR (pc := 29) 110 fl_BC_97 rfl rfl rfl (by decide +kernel) ?_
        refine z_iload_n (pc := 32) (q := 1) (by decide +kernel) rfl ?_
        refine z_aald (pc := 33) (26 + 12 * (a1).toNat) rfl (by decide) (rf_imr hb1) hb1 (by decide +kernel) ?_
        refine z_callv (pc := 34) (as := [vr (26 + 12 * (a1).toNat)]) ml_BC_119 rfl ⟨rfl, by decide⟩ rfl rfl (Nat.le_of_ble_eq_true rfl) (dc := d - 1) (by omega) (by decide +kernel) (CV.z (CV.mono (fun τ1 k => ?_) k))
        refine z_aload_n (pc := 37) (q := 0) (by decide +kernel) rfl ?_
        refine z_getR (pc := 38) 50 fl_BC_36 rfl rfl rfl (by decide +kernel) ?_
        refine z_aload_n (pc := 41) (q := 0) (by decide +kernel) rfl ?_
        refine z_getR (pc := 42) 111 fl_BC_101 rfl rfl rfl (by decide +kernel) ?_
        refine z_iload_n (pc := 45) (q := 1) (by decide +kernel) rfl ?_
        refine z_aald (pc := 46) (113 + (a1).toNat) rfl (by decide) (rf_ims hb1) hb1 (by decide +kernel) ?_
        refine z_callv (pc := 47) (as := [vr (113 + (a1).toNat)]) ml_BC_232 rfl ⟨rfl, by decide⟩ rfl rfl (Nat.le_of_ble_eq_true rfl) (dc := d - 1) (by omega) (by decide +kernel) (CV.z (CV.mono (fun τ2 k => ?_) k))
        refine z_aload_n (pc := 50) (q := 0) (by decide +kernel) rfl ?_
        refine z_getR (pc := 51) 52 fl_BC_46 rfl rfl rfl (by decide +kernel) ?_
        refine z_callv (pc := 54) (as := []) ml_BC_129 rfl ⟨rfl, by decide⟩ rfl rfl (Nat.le_of_ble_eq_true rfl) (dc := d - 1) (by omega) (by decide +kernel) (CV.z (CV.mono (fun τ3 k => ?_) k))
        refine z_aload_n (pc := 57) (q := 0) (by decide +kernel) rfl ?_
        refine z_getR (pc := 58) 92 fl_BC_80 rfl rfl rfl (by decide +kernel) ?_
        refine z_callv (pc := 61) (as := []) ml_BC_132 rfl ⟨rfl, by decide⟩ rfl rfl (Nat.le_of_ble_eq_true rfl) (dc := d - 1) (by omega) (by decide +kernel) (CV.z (CV.mono (fun τ4 k => ?_) k))
        refine z_iconst (pc := 64) (n := 0) (by decide +kernel) ⟨by decide, by decide⟩ ?_
        exact z_iret (pc := 65) (by decide +kernel) rfl k
      · have k := k.2 hc
        refine z_bipush (pc := 21) (n := -5) (by decide +kernel) (by decide) ⟨by decide, by decide⟩ ?_
        exact z_iret (pc := 23) (by decide +kernel) rfl k
    · have k := k.2 hc
      refine z_bipush (pc := 9) (n := -2) (by decide +kernel) (by decide) ⟨by decide, by decide⟩ ?_
      exact z_iret (pc := 11) (by decide +kernel) rfl k
theorem b_BC_count_0 {E : EN} {d : Nat} {a1 : Int} {σ : Mem} {K : Int → Mem → Prop}  (k : (a1 = 0 → K (σ 2 0) σ) ∧ (a1 = 1 → K (σ 2 1) σ) ∧ (a1 = 2 → K (σ 2 2) σ) ∧ (a1 = 3 → K (σ 2 3) σ) ∧ (a1 = 4 → K (σ 50 0) σ) ∧ (a1 = 5 → K (σ 50 1) σ) ∧ (a1 = 6 → K (σ 50 3) σ) ∧ (a1 = 7 → K (σ 50 2) σ) ∧ (a1 = 8 → K (σ 2 5) σ) ∧ (a1 = 9 → K (σ 52 2) σ) ∧ (a1 = 10 → K (σ 0 1) σ) ∧ (a1 = 11 → K (σ 2 4) σ) ∧ (a1 = 12 → K (σ 2 6) σ) ∧ (a1 < 0 ∨ 12 < a1 → K (-1) σ)) :
    Z E y_BC_count d 0 [some (vr 0), some (vi a1)] [] σ (qi K) := by
  refine z_iload_n (pc := 0) (q := 1) (by decide +kernel) rfl ?_
  have hdg : decode y_BC_count.2.1 1 = .ok (.tableswitch 168 0 12 #[67, 75, 83, 91, 99, 107, 115, 123, 131, 139, 147, 152, 160], 67) := by decide +kernel
  by_cases hl0 : a1 < 0
  · have k := k.2.2.2.2.2.2.2.2.2.2.2.2.2 (Or.inl hl0)
    refine z_tableOut (pc := 1) 169 hdg (Or.inl hl0) (by decide) ?_
    refine z_iconst (pc := 169) (n := -1) (by decide +kernel) ⟨by decide, by decide⟩ ?_
    exact z_iret (pc := 170) (by decide +kernel) rfl k
  have hl : 0 ≤ a1 := Int.not_lt.mp hl0
  by_cases hc : a1 = 0
  · have k := k.1 hc
    refine z_tableIn2 (pc := 1) (off := 67) 68 hdg hc (by decide) (by decide +kernel) (by decide) ?_
    refine z_aload_n (pc := 68) (q := 0) (by decide +kernel) rfl ?_
    refine z_getR (pc := 69) 2 fl_BC_26 rfl rfl rfl (by decide +kernel) ?_
    refine z_getI (pc := 72) 0 fl_BC_299 rfl (by decide) rfl (by decide +kernel) ?_
    exact z_iret (pc := 75) (by decide +kernel) rfl k
  have k := k.2
  have hl := ne_up (w := 1) hl hc rfl; clear hc
  by_cases hc : a1 = 1
  · have k := k.1 hc
    refine z_tableIn2 (pc := 1) (off := 75) 76 hdg hc (by decide) (by decide +kernel) (by decide) ?_
    refine z_aload_n (pc := 76) (q := 0) (by decide +kernel) rfl ?_
    refine z_getR (pc := 77) 2 fl_BC_26 rfl rfl rfl (by decide +kernel) ?_
    refine z_getI (pc := 80) 1 fl_BC_244 rfl (by decide) rfl (by decide +kernel) ?_
    exact z_iret (pc := 83) (by decide +kernel) rfl k
  have k := k.2
  have hl := ne_up (w := 2) hl hc rfl; clear hc
  by_cases hc : a1 = 2
  · have k := k.1 hc
    refine z_tableIn2 (pc := 1) (off := 83) 84 hdg hc (by decide) (by decide +kernel) (by decide) ?_
    refine z_aload_n (pc := 84) (q := 0) (by decide +kernel) rfl ?_
    refine z_getR (pc := 85) 2 fl_BC_26 rfl rfl rfl (by decide +kernel) ?_
    refine z_getI (pc := 88) 2 fl_BC_166 rfl (by decide) rfl (by decide +kernel) ?_
    exact z_iret (pc := 91) (by decide +kernel) rfl k
  have k := k.2
  have hl := ne_up (w := 3) hl hc rfl; clear hc
  by_cases hc : a1 = 3
  · have k := k.1 hc
    refine z_tableIn2 (pc := 1) (off := 91) 92 hdg hc (by decide) (by decide +kernel) (by decide) ?_
    refine z_aload_n (pc := 92) (q := 0) (by decide +kernel) rfl ?_
    refine z_getR (pc := 93) 2 fl_BC_26 rfl rfl rfl (by decide +kernel) ?_
    refine z_getI (pc := 96) 3 fl_BC_302 rfl (by decide) rfl (by decide +kernel) ?_
    exact z_iret (pc := 99) (by decide +kernel) rfl k
  have k := k.2
  have hl := ne_up (w := 4) hl hc rfl; clear hc
  by_cases hc : a1 = 4
  · have k := k.1 hc
    refine z_tableIn2 (pc := 1) (off := 99) 100 hdg hc (by decide) (by decide +kernel) (by decide) ?_
    refine z_aload_n (pc := 100) (q := 0) (by decide +kernel) rfl ?_
    refine z_getR (pc := 101) 50 fl_BC_36 rfl rfl rfl (by decide +kernel) ?_
    refine z_getI (pc := 104) 0 fl_BC_144 rfl (by decide) rfl (by decide +kernel) ?_
    exact z_iret (pc := 107) (by decide +kernel) rfl k
  have k := k.2
  have hl := ne_up (w := 5) hl hc rfl; clear hc
  by_cases hc : a1 = 5
  · have k := k.1 hc
    refine z_tableIn2 (pc := 1) (off := 107) 108 hdg hc (by decide) (by decide +kernel) (by decide) ?_
    refine z_aload_n (pc := 108) (q := 0) (by decide +kernel) rfl ?_
    refine z_getR (pc := 109) 50 fl_BC_36 rfl rfl rfl (by decide +kernel) ?_
    refine z_getI (pc := 112) 1 fl_BC_146 rfl (by decide) rfl (by decide +kernel) ?_
    exact z_iret (pc := 115) (by decide +kernel) rfl k
  have k := k.2
  have hl := ne_up (w := 6) hl hc rfl; clear hc
  by_cases hc : a1 = 6
  · have k := k.1 hc
    refine z_tableIn2 (pc := 1) (off := 115) 116 hdg hc (by decide) (by decide +kernel) (by decide) ?_
    refine z_aload_n (pc := 116) (q := 0) (by decide +kernel) rfl ?_
    refine z_getR (pc := 117) 50 fl_BC_36 rfl rfl rfl (by decide +kernel) ?_
    refine z_getI (pc := 120) 3 fl_BC_241 rfl (by decide) rfl (by decide +kernel) ?_
    exact z_iret (pc := 123) (by decide +kernel) rfl k
  have k := k.2
  have hl := ne_up (w := 7) hl hc rfl; clear hc
  by_cases hc : a1 = 7
  · have k := k.1 hc
    refine z_tableIn2 (pc := 1) (off := 123) 124 hdg hc (by decide) (by decide +kernel) (by decide) ?_
    refine z_aload_n (pc := 124) (q := 0) (by decide +kernel) rfl ?_
    refine z_getR (pc := 125) 50 fl_BC_36 rfl rfl rfl (by decide +kernel) ?_
    refine z_getI (pc := 128) 2 fl_BC_159 rfl (by decide) rfl (by decide +kernel) ?_
    exact z_iret (pc := 131) (by decide +kernel) rfl k
  have k := k.2
  have hl := ne_up (w := 8) hl hc rfl; clear hc
  by_cases hc : a1 = 8
  · have k := k.1 hc
    refine z_tableIn2 (pc := 1) (off := 131) 132 hdg hc (by decide) (by decide +kernel) (by decide) ?_
    refine z_aload_n (pc := 132) (q := 0) (by decide +kernel) rfl ?_
    refine z_getR (pc := 133) 2 fl_BC_26 rfl rfl rfl (by decide +kernel) ?_
    refine z_getI (pc := 136) 5 fl_BC_384 rfl (by decide) rfl (by decide +kernel) ?_
    exact z_iret (pc := 139) (by decide +kernel) rfl k
  have k := k.2
  have hl := ne_up (w := 9) hl hc rfl; clear hc
  by_cases hc : a1 = 9
  · have k := k.1 hc
    refine z_tableIn2 (pc := 1) (off := 139) 140 hdg hc (by decide) (by decide +kernel) (by decide) ?_
    refine z_aload_n (pc := 140) (q := 0) (by decide +kernel) rfl ?_
    refine z_getR (pc := 141) 52 fl_BC_46 rfl rfl rfl (by decide +kernel) ?_
    refine z_getI (pc := 144) 2 fl_BC_221 rfl (by decide) rfl (by decide +kernel) ?_
    exact z_iret (pc := 147) (by decide +kernel) rfl k
  have k := k.2
  have hl := ne_up (w := 10) hl hc rfl; clear hc
  by_cases hc : a1 = 10
  · have k := k.1 hc
    refine z_tableIn2 (pc := 1) (off := 147) 148 hdg hc (by decide) (by decide +kernel) (by decide) ?_
    refine z_aload_n (pc := 148) (q := 0) (by decide +kernel) rfl ?_
    refine z_getI (pc := 149) 1 fl_BC_13 rfl (by decide) rfl (by decide +kernel) ?_
    exact z_iret (pc := 152) (by decide +kernel) rfl k
  have k := k.2
  have hl := ne_up (w := 11) hl hc rfl; clear hc
  by_cases hc : a1 = 11
  · have k := k.1 hc
    refine z_tableIn2 (pc := 1) (off := 152) 153 hdg hc (by decide) (by decide +kernel) (by decide) ?_
    refine z_aload_n (pc := 153) (q := 0) (by decide +kernel) rfl ?_
    refine z_getR (pc := 154) 2 fl_BC_26 rfl rfl rfl (by decide +kernel) ?_
    refine z_getI (pc := 157) 4 fl_BC_133 rfl (by decide) rfl (by decide +kernel) ?_
    exact z_iret (pc := 160) (by decide +kernel) rfl k
  have k := k.2
  have hl := ne_up (w := 12) hl hc rfl; clear hc
  by_cases hc : a1 = 12
  · have k := k.1 hc
    refine z_tableIn2 (pc := 1) (off := 160) 161 hdg hc (by decide) (by decide +kernel) (by decide) ?_
    refine z_aload_n (pc := 161) (q := 0) (by decide +kernel) rfl ?_
    refine z_getR (pc := 162) 2 fl_BC_26 rfl rfl rfl (by decide +kernel) ?_
    refine z_getI (pc := 165) 6 fl_BC_184 rfl (by decide) rfl (by decide +kernel) ?_
    exact z_iret (pc := 168) (by decide +kernel) rfl k
  have k := k.2
  have hl := ne_up (w := 13) hl hc rfl; clear hc
  have hl := Int.lt_of_add_one_le (a := 12) hl
  have k := k (Or.inr hl)
  refine z_tableOut (pc := 1) 169 hdg (Or.inr hl) (by decide) ?_
  refine z_iconst (pc := 169) (n := -1) (by decide +kernel) ⟨by decide, by decide⟩ ?_
  exact z_iret (pc := 170) (by decide +kernel) rfl k
theorem b_BC_hasTray_0 {E : EN} {d : Nat} {a0 : Int} {σ : Mem} {K : Int → Mem → Prop}  (k : (a0 < 0 → K 0 σ) ∧ (0 ≤ a0 → (4 ≤ a0 → K 0 σ) ∧ (a0 < 4 → K 1 σ))) :
    Z E y_BC_hasTray d 0 [some (vi a0)] [] σ (qi K) := by
  refine z_iload_n (pc := 0) (q := 0) (by decide +kernel) rfl ?_
  refine z_if_lt (pc := 1) (off := 12) 13 (by decide +kernel) (by decide) ⟨fun hc => ?_, fun hc => ?_⟩
  · have k := k.1 hc
    refine z_iconst (pc := 13) (n := 0) (by decide +kernel) ⟨by decide, by decide⟩ ?_
    exact z_zret (pc := 14) (by decide +kernel) rfl ⟨by decide, k⟩
  · have k := k.2 hc
    refine z_iload_n (pc := 4) (q := 0) (by decide +kernel) rfl ?_
    refine z_iconst (pc := 5) (n := 4) (by decide +kernel) ⟨by decide, by decide⟩ ?_
    refine z_icmp_ge (pc := 6) (off := 7) 13 (by decide +kernel) (by decide) ⟨fun hc => ?_, fun hc => ?_⟩
    · have k := k.1 hc
      refine z_iconst (pc := 13) (n := 0) (by decide +kernel) ⟨by decide, by decide⟩ ?_
      exact z_zret (pc := 14) (by decide +kernel) rfl ⟨by decide, k⟩
    · have k := k.2 hc
      refine z_iconst (pc := 9) (n := 1) (by decide +kernel) ⟨by decide, by decide⟩ ?_
      refine z_goto (pc := 10) (off := 4) 14 (by decide +kernel) (by decide) ?_
      exact z_zret (pc := 14) (by decide +kernel) rfl ⟨by decide, k⟩
theorem b_BC_trayCode_0 {E : EN} {d : Nat} {a1 : Int} {σ : Mem} {K : Int → Mem → Prop}  (hd : 1 ≤ d) (k : CI E y_BC_hasTray (d - 1) [vi a1] σ (fun x1 τ1 => (x1 ≠ 0 → (0 ≤ a1 ∧ a1 < 4) ∧ (0 ≤ τ1 (102 + 2 * (a1).toNat) 1 → K 0 τ1) ∧ (τ1 (102 + 2 * (a1).toNat) 1 < 0 → K (-6) τ1)) ∧ (x1 = 0 → K (-2) τ1))) :
    Z E y_BC_trayCode d 0 [some (vr 0), some (vi a1)] [] σ (qi K) := by
  refine z_iload_n (pc := 0) (q := 1) (by decide +kernel) rfl ?_
  refine z_calls (pc := 1) (as := [vi a1]) ml_BC_360 rfl rfl (Nat.le_of_ble_eq_true rfl) (dc := d - 1) (by omega) (by decide +kernel) (CI.z (CI.mono (fun x1 τ1 k => ?_) k))
  refine z_if_ne (pc := 4) (off := 6) 10 (by decide +kernel) (by decide) ⟨fun hc => ?_, fun hc => ?_⟩
  · have k := k.1 hc
    refine z_aload_n (pc := 10) (q := 0) (by decide +kernel) rfl ?_
    refine z_getR (pc := 11) 101 fl_BC_93 rfl rfl rfl (by decide +kernel) ?_
    refine z_iload_n (pc := 14) (q := 1) (by decide +kernel) rfl ?_
    have hb1 := k.1
    have k := k.2
    refine z_aald (pc := 15) (102 + 2 * (a1).toNat) rfl (by decide) (rf_trays hb1) hb1 (by decide +kernel) ?_
    refine z_getI (pc := 16) 1 fl_BC_253 (shTray (is_trays hb1)) (by decide) rfl (by decide +kernel) ?_
    refine z_if_ge (pc := 19) (off := 8) 27 (by decide +kernel) (by decide) ⟨fun hc => ?_, fun hc => ?_⟩
    · have k := k.1 hc
      refine z_iconst (pc := 27) (n := 0) (by decide +kernel) ⟨by decide, by decide⟩ ?_
      exact z_iret (pc := 28) (by decide +kernel) rfl k
    · have k := k.2 hc
      refine z_bipush (pc := 22) (n := -6) (by decide +kernel) (by decide) ⟨by decide, by decide⟩ ?_
      refine z_goto (pc := 24) (off := 4) 28 (by decide +kernel) (by decide) ?_
      exact z_iret (pc := 28) (by decide +kernel) rfl k
  · have k := k.2 hc
    refine z_bipush (pc := 7) (n := -2) (by decide +kernel) (by decide) ⟨by decide, by decide⟩ ?_
    exact z_iret (pc := 9) (by decide +kernel) rfl k
theorem b_BC_trayAndWhat_0 {E : EN} {d : Nat} {a1 : Int} {a2 : Int} {a3 : Int} {σ : Mem} {K : Int → Mem → Prop}  (hd : 1 ≤ d) (k : CI E y_BC_hasTray (d - 1) [vi a1] σ (fun x1 τ1 => (x1 = 0 → K (-2) τ1) ∧ (x1 ≠ 0 → (a2 < 0 → K (-2) τ1) ∧ (0 ≤ a2 → (a2 < a3 → (0 ≤ a1 ∧ a1 < 4) ∧ (0 ≤ τ1 (102 + 2 * (a1).toNat) 1 → K 0 τ1) ∧ (τ1 (102 + 2 * (a1).toNat) 1 < 0 → K (-6) τ1)) ∧ (a3 ≤ a2 → K (-2) τ1))))) :
    Z E y_BC_trayAndWhat d 0 [some (vr 0), some (vi a1), some (vi a2), some (vi a3)] [] σ (qi K) := by
  refine z_iload_n (pc := 0) (q := 1) (by decide +kernel) rfl ?_
  refine z_calls (pc := 1) (as := [vi a1]) ml_BC_360 rfl rfl (Nat.le_of_ble_eq_true rfl) (dc := d - 1) (by omega) (by decide +kernel) (CI.z (CI.mono (fun x1 τ1 k => ?_) k))
  refine z_if_eq (pc := 4) (off := 12) 16 (by decide +kernel) (by decide) ⟨fun hc => ?_, fun hc => ?_⟩
  · have k := k.1 hc
    refine z_bipush (pc := 16) (n := -2) (by decide +kernel) (by decide) ⟨by decide, by decide⟩ ?_
    exact z_iret (pc := 18) (by decide +kernel) rfl k
  · have k := k.2 hc
    refine z_iload_n (pc := 7) (q := 2) (by decide +kernel) rfl ?_
    refine z_if_lt (pc := 8) (off := 8) 16 (by decide +kernel) (by decide) ⟨fun hc => ?_, fun hc => ?_⟩
    · have k := k.1 hc
      refine z_bipush (pc := 16) (n := -2) (by decide +kernel) (by decide) ⟨by decide, by decide⟩ ?_
      exact z_iret (pc := 18) (by decide +kernel) rfl k
    · have k := k.2 hc
      refine z_iload_n (pc := 11) (q := 2) (by decide +kernel) rfl ?_
      refine z_iload_n (pc := 12) (q := 3) (by decide +kernel) rfl ?_
      refine z_icmp_lt (pc := 13) (off := 6) 19 (by decide +kernel) (by decide) ⟨fun hc => ?_, fun hc => ?_⟩
      · have k := k.1 hc
        refine z_aload_n (pc := 19) (q := 0) (by decide +kernel) rfl ?_
        refine z_getR (pc := 20) 101 fl_BC_93 rfl rfl rfl (by decide +kernel) ?_
        refine z_iload_n (pc := 23) (q := 1) (by decide +kernel) rfl ?_
        have hb1 := k.1
        have k := k.2
        refine z_aald (pc := 24) (102 + 2 * (a1).toNat) rfl (by decide) (rf_trays hb1) hb1 (by decide +kernel) ?_
        refine z_getI (pc := 25) 1 fl_BC_253 (shTray (is_trays hb1)) (by decide) rfl (by decide +kernel) ?_
        refine z_if_ge (pc := 28) (off := 8) 36 (by decide +kernel) (by decide) ⟨fun hc => ?_, fun hc => ?_⟩
        · have k := k.1 hc
          refine z_iconst (pc := 36) (n := 0) (by decide +kernel) ⟨by decide, by decide⟩ ?_
          exact z_iret (pc := 37) (by decide +kernel) rfl k
        · have k := k.2 hc
          refine z_bipush (pc := 31) (n := -6) (by decide +kernel) (by decide) ⟨by decide, by decide⟩ ?_
          refine z_goto (pc := 33) (off := 4) 37 (by decide +kernel) (by decide) ?_
          exact z_iret (pc := 37) (by decide +kernel) rfl k
      · have k := k.2 hc
        refine z_bipush (pc := 16) (n := -2) (by decide +kernel) (by decide) ⟨by decide, by decide⟩ ?_
        exact z_iret (pc := 18) (by decide +kernel) rfl k
