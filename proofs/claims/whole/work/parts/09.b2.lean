theorem b_Row_clear_0 {E : EN} {d : Nat} {r0 : Nat} {σ : Mem} {K : Mem → Prop} (h0 : isRow r0) (hd : 1 ≤ d) (k : CV E y_Arr_fill_AII (d - 1) [vr (r0 + 8), vi 0] (up (up σ r0 1 0) r0 2 0) (fun τ1 => K τ1)) :
    Z E y_Row_clear d 0 [some (vr r0)] [] σ (qv K) := by
  refine z_aload_n (pc := 0) (q := 0) (by decide +kernel) rfl ?_
  refine z_iconst (pc := 1) (n := 0) (by decide +kernel) ⟨by decide, by decide⟩ ?_
  refine z_putI (pc := 2) 1 fp_Row_9 (shRow h0) rfl rfl (by decide +kernel) ?_
  refine z_aload_n (pc := 5) (q := 0) (by decide +kernel) rfl ?_
  refine z_iconst (pc := 6) (n := 0) (by decide +kernel) ⟨by decide, by decide⟩ ?_
  refine z_putI (pc := 7) 2 fp_Row_15 (shRow h0) rfl rfl (by decide +kernel) ?_
  refine z_aload_n (pc := 10) (q := 0) (by decide +kernel) rfl ?_
  refine z_getR (pc := 11) (r0 + 8) fl_Row_40 (shRow h0) rfl (rfRow_10 h0) (by decide +kernel) ?_
  refine z_iconst (pc := 14) (n := 0) (by decide +kernel) ⟨by decide, by decide⟩ ?_
  refine z_calls (pc := 15) (as := [vr (r0 + 8), vi 0]) ml_Row_47 rfl rfl (Nat.le_of_ble_eq_true rfl) (dc := d - 1) (by omega) (by decide +kernel) (CV.z (CV.mono (fun τ1 k => ?_) k))
  exact z_vret (pc := 18) (by decide +kernel) rfl k
theorem b_Row_lastOpened_0 {E : EN} {d : Nat} {r0 : Nat} {σ : Mem} {K : Int → Mem → Prop} (h0 : isRow r0) (k : (σ r0 1 ≤ 0 → K 0 σ) ∧ (0 < σ r0 1 → (6 < σ r0 1 → K 0 σ) ∧ (σ r0 1 ≤ 6 → (0 ≤ w32 ((σ r0 1) - 1) ∧ w32 ((σ r0 1) - 1) < 6) ∧ K (σ (r0 + 3) (w32 ((σ r0 1) - 1))) σ))) :
    Z E y_Row_lastOpened d 0 [some (vr r0)] [] σ (qi K) := by
  refine z_aload_n (pc := 0) (q := 0) (by decide +kernel) rfl ?_
  refine z_getI (pc := 1) 1 fl_Row_9 (shRow h0) (by decide) rfl (by decide +kernel) ?_
  refine z_if_le (pc := 4) (off := 26) 30 (by decide +kernel) (by decide) ⟨fun hc => ?_, fun hc => ?_⟩
  · have k := k.1 hc
    refine z_iconst (pc := 30) (n := 0) (by decide +kernel) ⟨by decide, by decide⟩ ?_
    exact z_iret (pc := 31) (by decide +kernel) rfl k
  · have k := k.2 hc
    refine z_aload_n (pc := 7) (q := 0) (by decide +kernel) rfl ?_
    refine z_getI (pc := 8) 1 fl_Row_9 (shRow h0) (by decide) rfl (by decide +kernel) ?_
    refine z_bipush (pc := 11) (n := 6) (by decide +kernel) (by decide) ⟨by decide, by decide⟩ ?_
    refine z_icmp_gt (pc := 13) (off := 17) 30 (by decide +kernel) (by decide) ⟨fun hc => ?_, fun hc => ?_⟩
    · have k := k.1 hc
      refine z_iconst (pc := 30) (n := 0) (by decide +kernel) ⟨by decide, by decide⟩ ?_
      exact z_iret (pc := 31) (by decide +kernel) rfl k
    · have k := k.2 hc
      refine z_aload_n (pc := 16) (q := 0) (by decide +kernel) rfl ?_
      refine z_getR (pc := 17) (r0 + 3) fl_Row_25 (shRow h0) rfl (rfRow_5 h0) (by decide +kernel) ?_
      refine z_aload_n (pc := 20) (q := 0) (by decide +kernel) rfl ?_
      refine z_getI (pc := 21) 1 fl_Row_9 (shRow h0) (by decide) rfl (by decide +kernel) ?_
      refine z_iconst (pc := 24) (n := 1) (by decide +kernel) ⟨by decide, by decide⟩ ?_
      refine z_isub (pc := 25) (by decide +kernel) ?_
      have hb1 := k.1
      have k := k.2
      refine z_iald (pc := 26) (shRow_3 h0) hb1 (by decide +kernel) ?_
      refine z_goto (pc := 27) (off := 4) 31 (by decide +kernel) (by decide) ?_
      exact z_iret (pc := 31) (by decide +kernel) rfl k
theorem b_Row_copiedIf_0 {E : EN} {d : Nat} {r0 : Nat} {a1 : Int} {a2 : Int} {σ : Mem} {K : Int → Mem → Prop} (h0 : isRow r0) (hd : 1 ≤ d) (k : CI E y_Room_hasLetter (d - 1) [vr 2, vi a1] σ (fun x1 τ1 => (x1 = 0 → K 0 τ1) ∧ (x1 ≠ 0 → CI E y_Room_hasHand (d - 1) [vr 2, vi a2] τ1 (fun x2 τ2 => (x2 ≠ 0 → CI E y_Row_lastOpened (d - 1) [vr r0] τ2 (fun x3 τ3 => (0 ≤ a1 ∧ a1 < 6) ∧ (0 ≤ a2 ∧ a2 < 3) ∧ CI E y_Math_max_II (d - 1) [vi (w32 (x3 + (τ3 8 a1))), vi (τ3 (r0 + 8) a2)] τ3 (fun x4 τ4 => (0 ≤ w32 ((w32 (a1 * 3)) + a2) ∧ w32 ((w32 (a1 * 3)) + a2) < 18) ∧ K (w32 (x4 + (τ4 11 (w32 ((w32 (a1 * 3)) + a2))))) τ4))) ∧ (x2 = 0 → K 0 τ2))))) :
    Z E y_Row_copiedIf d 0 [some (vr r0), some (vi a1), some (vi a2)] [] σ (qi K) := by
  refine z_aload_n (pc := 0) (q := 0) (by decide +kernel) rfl ?_
  refine z_getR (pc := 1) 2 fl_Row_43 (shRow h0) rfl (rfRow_0 h0) (by decide +kernel) ?_
  refine z_iload_n (pc := 4) (q := 1) (by decide +kernel) rfl ?_
  refine z_callv (pc := 5) (as := [vi a1]) ml_Row_53 rfl ⟨rfl, by decide⟩ rfl rfl (Nat.le_of_ble_eq_true rfl) (dc := d - 1) (by omega) (by decide +kernel) (CI.z (CI.mono (fun x1 τ1 k => ?_) k))
  refine z_if_eq (pc := 8) (off := 14) 22 (by decide +kernel) (by decide) ⟨fun hc => ?_, fun hc => ?_⟩
  · have k := k.1 hc
    refine z_iconst (pc := 22) (n := 0) (by decide +kernel) ⟨by decide, by decide⟩ ?_
    exact z_iret (pc := 23) (by decide +kernel) rfl k
  · have k := k.2 hc
    refine z_aload_n (pc := 11) (q := 0) (by decide +kernel) rfl ?_
    refine z_getR (pc := 12) 2 fl_Row_43 (shRow h0) rfl (rfRow_0 h0) (by decide +kernel) ?_
    refine z_iload_n (pc := 15) (q := 2) (by decide +kernel) rfl ?_
    refine z_callv (pc := 16) (as := [vi a2]) ml_Row_59 rfl ⟨rfl, by decide⟩ rfl rfl (Nat.le_of_ble_eq_true rfl) (dc := d - 1) (by omega) (by decide +kernel) (CI.z (CI.mono (fun x2 τ2 k => ?_) k))
    refine z_if_ne (pc := 19) (off := 5) 24 (by decide +kernel) (by decide) ⟨fun hc => ?_, fun hc => ?_⟩
    · have k := k.1 hc
      refine z_aload_n (pc := 24) (q := 0) (by decide +kernel) rfl ?_
      refine z_callv (pc := 25) (as := []) ml_Row_62 (shRow h0) ⟨rfl, by decide⟩ rfl rfl (Nat.le_of_ble_eq_true rfl) (dc := d - 1) (by omega) (by decide +kernel) (CI.z (CI.mono (fun x3 τ3 k => ?_) k))
      refine z_aload_n (pc := 28) (q := 0) (by decide +kernel) rfl ?_
      refine z_getR (pc := 29) 2 fl_Row_43 (shRow h0) rfl (rfRow_0 h0) (by decide +kernel) ?_
      refine z_getR (pc := 32) 8 fl_Row_66 rfl rfl rfl (by decide +kernel) ?_
      refine z_iload_n (pc := 35) (q := 1) (by decide +kernel) rfl ?_
      have hb1 := k.1
      have k := k.2
      refine z_iald (pc := 36) rfl hb1 (by decide +kernel) ?_
      refine z_iadd (pc := 37) (by decide +kernel) ?_
      refine z_aload_n (pc := 38) (q := 0) (by decide +kernel) rfl ?_
      refine z_getR (pc := 39) (r0 + 8) fl_Row_40 (shRow h0) rfl (rfRow_10 h0) (by decide +kernel) ?_
      refine z_iload_n (pc := 42) (q := 2) (by decide +kernel) rfl ?_
      have hb2 := k.1
      have k := k.2
      refine z_iald (pc := 43) (shRow_8 h0) hb2 (by decide +kernel) ?_
      refine z_calls (pc := 44) (as := [vi (w32 (x3 + (τ3 8 a1))), vi (τ3 (r0 + 8) a2)]) ml_Row_69 rfl rfl (Nat.le_of_ble_eq_true rfl) (dc := d - 1) (by omega) (by decide +kernel) (CI.z (CI.mono (fun x4 τ4 k => ?_) k))
      refine z_aload_n (pc := 47) (q := 0) (by decide +kernel) rfl ?_
      refine z_getR (pc := 48) 2 fl_Row_43 (shRow h0) rfl (rfRow_0 h0) (by decide +kernel) ?_
      refine z_getR (pc := 51) 11 fl_Row_75 rfl rfl rfl (by decide +kernel) ?_
      refine z_iload_n (pc := 54) (q := 1) (by decide +kernel) rfl ?_
      refine z_iconst (pc := 55) (n := 3) (by decide +kernel) ⟨by decide, by decide⟩ ?_
      refine z_imul (pc := 56) (by decide +kernel) ?_
      refine z_iload_n (pc := 57) (q := 2) (by decide +kernel) rfl ?_
      refine z_iadd (pc := 58) (by decide +kernel) ?_
      have hb3 := k.1
      have k := k.2
      refine z_iald (pc := 59) rfl hb3 (by decide +kernel) ?_
      refine z_iadd (pc := 60) (by decide +kernel) ?_
      exact z_iret (pc := 61) (by decide +kernel) rfl k
    · have k := k.2 hc
      refine z_iconst (pc := 22) (n := 0) (by decide +kernel) ⟨by decide, by decide⟩ ?_
      exact z_iret (pc := 23) (by decide +kernel) rfl k
theorem b_Row_add_0 {E : EN} {d : Nat} {r0 : Nat} {a1 : Int} {a2 : Int} {σ : Mem} {K : Mem → Prop} (h0 : isRow r0) (hd : 1 ≤ d) (k : (6 ≤ σ r0 1 → K σ) ∧ (σ r0 1 < 6 → CI E y_Room_hasLetter (d - 1) [vr 2, vi a1] σ (fun x1 τ1 => (x1 = 0 → K τ1) ∧ (x1 ≠ 0 → CI E y_Room_hasHand (d - 1) [vr 2, vi a2] τ1 (fun x2 τ2 => (x2 ≠ 0 → CI E y_Row_lastOpened (d - 1) [vr r0] τ2 (fun x3 τ3 => (0 ≤ a1 ∧ a1 < 6) ∧ (0 ≤ a2 ∧ a2 < 3) ∧ CI E y_Math_max_II (d - 1) [vi (w32 (x3 + (τ3 8 a1))), vi (τ3 (r0 + 8) a2)] τ3 (fun x4 τ4 => (0 ≤ w32 ((w32 (a1 * 3)) + a2) ∧ w32 ((w32 (a1 * 3)) + a2) < 18) ∧ (0 ≤ τ4 r0 1 ∧ τ4 r0 1 < 6) ∧ Z E y_Row_add d 155 [some (vr r0), some (vi a1), some (vi a2), some (vi (w32 (x3 + (τ3 8 a1)))), some (vi (w32 (x4 + (τ4 11 (w32 ((w32 (a1 * 3)) + a2)))))), some (vi (τ4 r0 1))] [] (up (up (up (up (up (up (up τ4 (r0 + 1) (τ4 r0 1) a1) (r0 + 2) (τ4 r0 1) a2) (r0 + 3) (τ4 r0 1) (w32 (x3 + (τ3 8 a1)))) (r0 + 4) (τ4 r0 1) (w32 (x4 + (τ4 11 (w32 ((w32 (a1 * 3)) + a2)))))) (r0 + 6) (τ4 r0 1) (τ4 (r0 + 8) a2)) (r0 + 8) a2 (w32 (x4 + (τ4 11 (w32 ((w32 (a1 * 3)) + a2)))))) r0 2 (ior (τ4 r0 2) (ish 1 a1))) (qv K)))) ∧ (x2 = 0 → K τ2)))))) :
    Z E y_Row_add d 0 [some (vr r0), some (vi a1), some (vi a2), none, none, none] [] σ (qv K) := by
  refine z_aload_n (pc := 0) (q := 0) (by decide +kernel) rfl ?_
  refine z_getI (pc := 1) 1 fl_Row_9 (shRow h0) (by decide) rfl (by decide +kernel) ?_
  refine z_bipush (pc := 4) (n := 6) (by decide +kernel) (by decide) ⟨by decide, by decide⟩ ?_
  refine z_icmp_ge (pc := 6) (off := 25) 31 (by decide +kernel) (by decide) ⟨fun hc => ?_, fun hc => ?_⟩
  · have k := k.1 hc
    exact z_vret (pc := 31) (by decide +kernel) rfl k
  · have k := k.2 hc
    refine z_aload_n (pc := 9) (q := 0) (by decide +kernel) rfl ?_
    refine z_getR (pc := 10) 2 fl_Row_43 (shRow h0) rfl (rfRow_0 h0) (by decide +kernel) ?_
    refine z_iload_n (pc := 13) (q := 1) (by decide +kernel) rfl ?_
    refine z_callv (pc := 14) (as := [vi a1]) ml_Row_53 rfl ⟨rfl, by decide⟩ rfl rfl (Nat.le_of_ble_eq_true rfl) (dc := d - 1) (by omega) (by decide +kernel) (CI.z (CI.mono (fun x1 τ1 k => ?_) k))
    refine z_if_eq (pc := 17) (off := 14) 31 (by decide +kernel) (by decide) ⟨fun hc => ?_, fun hc => ?_⟩
    · have k := k.1 hc
      exact z_vret (pc := 31) (by decide +kernel) rfl k
    · have k := k.2 hc
      refine z_aload_n (pc := 20) (q := 0) (by decide +kernel) rfl ?_
      refine z_getR (pc := 21) 2 fl_Row_43 (shRow h0) rfl (rfRow_0 h0) (by decide +kernel) ?_
      refine z_iload_n (pc := 24) (q := 2) (by decide +kernel) rfl ?_
      refine z_callv (pc := 25) (as := [vi a2]) ml_Row_59 rfl ⟨rfl, by decide⟩ rfl rfl (Nat.le_of_ble_eq_true rfl) (dc := d - 1) (by omega) (by decide +kernel) (CI.z (CI.mono (fun x2 τ2 k => ?_) k))
      refine z_if_ne (pc := 28) (off := 4) 32 (by decide +kernel) (by decide) ⟨fun hc => ?_, fun hc => ?_⟩
      · have k := k.1 hc
        refine z_aload_n (pc := 32) (q := 0) (by decide +kernel) rfl ?_
        refine z_callv (pc := 33) (as := []) ml_Row_62 (shRow h0) ⟨rfl, by decide⟩ rfl rfl (Nat.le_of_ble_eq_true rfl) (dc := d - 1) (by omega) (by decide +kernel) (CI.z (CI.mono (fun x3 τ3 k => ?_) k))
        refine z_aload_n (pc := 36) (q := 0) (by decide +kernel) rfl ?_
        refine z_getR (pc := 37) 2 fl_Row_43 (shRow h0) rfl (rfRow_0 h0) (by decide +kernel) ?_
        refine z_getR (pc := 40) 8 fl_Row_66 rfl rfl rfl (by decide +kernel) ?_
        refine z_iload_n (pc := 43) (q := 1) (by decide +kernel) rfl ?_
        have hb1 := k.1
        have k := k.2
        refine z_iald (pc := 44) rfl hb1 (by decide +kernel) ?_
        refine z_iadd (pc := 45) (by decide +kernel) ?_
        refine z_istore_n (pc := 46) (q := 3) [some (vr r0), some (vi a1), some (vi a2), some (vi (w32 (x3 + (τ3 8 a1)))), none, none] (by decide +kernel) (Nat.le_of_ble_eq_true rfl) rfl ?_
        refine z_iload_n (pc := 47) (q := 3) (by decide +kernel) rfl ?_
        refine z_aload_n (pc := 48) (q := 0) (by decide +kernel) rfl ?_
        refine z_getR (pc := 49) (r0 + 8) fl_Row_40 (shRow h0) rfl (rfRow_10 h0) (by decide +kernel) ?_
        refine z_iload_n (pc := 52) (q := 2) (by decide +kernel) rfl ?_
        have hb2 := k.1
        have k := k.2
        refine z_iald (pc := 53) (shRow_8 h0) hb2 (by decide +kernel) ?_
        refine z_calls (pc := 54) (as := [vi (w32 (x3 + (τ3 8 a1))), vi (τ3 (r0 + 8) a2)]) ml_Row_69 rfl rfl (Nat.le_of_ble_eq_true rfl) (dc := d - 1) (by omega) (by decide +kernel) (CI.z (CI.mono (fun x4 τ4 k => ?_) k))
        refine z_aload_n (pc := 57) (q := 0) (by decide +kernel) rfl ?_
        refine z_getR (pc := 58) 2 fl_Row_43 (shRow h0) rfl (rfRow_0 h0) (by decide +kernel) ?_
        refine z_getR (pc := 61) 11 fl_Row_75 rfl rfl rfl (by decide +kernel) ?_
        refine z_iload_n (pc := 64) (q := 1) (by decide +kernel) rfl ?_
        refine z_iconst (pc := 65) (n := 3) (by decide +kernel) ⟨by decide, by decide⟩ ?_
        refine z_imul (pc := 66) (by decide +kernel) ?_
        refine z_iload_n (pc := 67) (q := 2) (by decide +kernel) rfl ?_
        refine z_iadd (pc := 68) (by decide +kernel) ?_
        have hb3 := k.1
        have k := k.2
        refine z_iald (pc := 69) rfl hb3 (by decide +kernel) ?_
        refine z_iadd (pc := 70) (by decide +kernel) ?_
        refine z_istore (pc := 71) (i := 4) [some (vr r0), some (vi a1), some (vi a2), some (vi (w32 (x3 + (τ3 8 a1)))), some (vi (w32 (x4 + (τ4 11 (w32 ((w32 (a1 * 3)) + a2)))))), none] (by decide +kernel) (Nat.le_of_ble_eq_true rfl) rfl ?_
        refine z_aload_n (pc := 73) (q := 0) (by decide +kernel) rfl ?_
        refine z_getR (pc := 74) (r0 + 1) fl_Row_18 (shRow h0) rfl (rfRow_3 h0) (by decide +kernel) ?_
        refine z_aload_n (pc := 77) (q := 0) (by decide +kernel) rfl ?_
        refine z_getI (pc := 78) 1 fl_Row_9 (shRow h0) (by decide) rfl (by decide +kernel) ?_
        refine z_iload_n (pc := 81) (q := 1) (by decide +kernel) rfl ?_
        have hb4 := k.1
        have k := k.2
        refine z_iast (pc := 82) (shRow_1 h0) hb4 (by decide +kernel) ?_
        refine z_aload_n (pc := 83) (q := 0) (by decide +kernel) rfl ?_
        refine z_getR (pc := 84) (r0 + 2) fl_Row_22 (shRow h0) rfl (rfRow_4 h0) (by decide +kernel) ?_
        refine z_aload_n (pc := 87) (q := 0) (by decide +kernel) rfl ?_
        refine z_getI (pc := 88) 1 fl_Row_9 (shRow h0) (by decide) rfl (by decide +kernel) ?_
        refine z_topI (up_nc (by omega)) ?_
        refine z_iload_n (pc := 91) (q := 2) (by decide +kernel) rfl ?_
        refine z_iast (pc := 92) (shRow_2 h0) hb4 (by decide +kernel) ?_
        refine z_aload_n (pc := 93) (q := 0) (by decide +kernel) rfl ?_
        refine z_getR (pc := 94) (r0 + 3) fl_Row_25 (shRow h0) rfl (rfRow_5 h0) (by decide +kernel) ?_
        refine z_aload_n (pc := 97) (q := 0) (by decide +kernel) rfl ?_
        refine z_getI (pc := 98) 1 fl_Row_9 (shRow h0) (by decide) rfl (by decide +kernel) ?_
        refine z_topI ((up_nc (by omega)).trans (up_nc (by omega))) ?_
        refine z_iload_n (pc := 101) (q := 3) (by decide +kernel) rfl ?_
        refine z_iast (pc := 102) (shRow_3 h0) hb4 (by decide +kernel) ?_
        refine z_aload_n (pc := 103) (q := 0) (by decide +kernel) rfl ?_
        refine z_getR (pc := 104) (r0 + 4) fl_Row_28 (shRow h0) rfl (rfRow_6 h0) (by decide +kernel) ?_
        refine z_aload_n (pc := 107) (q := 0) (by decide +kernel) rfl ?_
        refine z_getI (pc := 108) 1 fl_Row_9 (shRow h0) (by decide) rfl (by decide +kernel) ?_
        refine z_topI ((up_nc (by omega)).trans ((up_nc (by omega)).trans (up_nc (by omega)))) ?_
        refine z_iload (pc := 111) (i := 4) (by decide +kernel) rfl ?_
        refine z_iast (pc := 113) (shRow_4 h0) hb4 (by decide +kernel) ?_
        refine z_aload_n (pc := 114) (q := 0) (by decide +kernel) rfl ?_
        refine z_getR (pc := 115) (r0 + 6) fl_Row_34 (shRow h0) rfl (rfRow_8 h0) (by decide +kernel) ?_
        refine z_aload_n (pc := 118) (q := 0) (by decide +kernel) rfl ?_
        refine z_getI (pc := 119) 1 fl_Row_9 (shRow h0) (by decide) rfl (by decide +kernel) ?_
        refine z_topI ((up_nc (by omega)).trans ((up_nc (by omega)).trans ((up_nc (by omega)).trans (up_nc (by omega))))) ?_
        refine z_aload_n (pc := 122) (q := 0) (by decide +kernel) rfl ?_
        refine z_getR (pc := 123) (r0 + 8) fl_Row_40 (shRow h0) rfl (rfRow_10 h0) (by decide +kernel) ?_
        refine z_iload_n (pc := 126) (q := 2) (by decide +kernel) rfl ?_
        refine z_iald (pc := 127) (shRow_8 h0) hb2 (by decide +kernel) ?_
        refine z_topI ((up_nc (by omega)).trans ((up_nc (by omega)).trans ((up_nc (by omega)).trans (up_nc (by omega))))) ?_
        refine z_iast (pc := 128) (shRow_6 h0) hb4 (by decide +kernel) ?_
        refine z_aload_n (pc := 129) (q := 0) (by decide +kernel) rfl ?_
        refine z_getR (pc := 130) (r0 + 8) fl_Row_40 (shRow h0) rfl (rfRow_10 h0) (by decide +kernel) ?_
        refine z_iload_n (pc := 133) (q := 2) (by decide +kernel) rfl ?_
        refine z_iload (pc := 134) (i := 4) (by decide +kernel) rfl ?_
        refine z_iast (pc := 136) (shRow_8 h0) hb2 (by decide +kernel) ?_
        refine z_aload_n (pc := 137) (q := 0) (by decide +kernel) rfl ?_
        refine z_dup (pc := 138) (by decide +kernel) rfl ?_
        refine z_getI (pc := 139) 2 fl_Row_15 (shRow h0) (by decide) rfl (by decide +kernel) ?_
        refine z_topI ((up_nc (by omega)).trans ((up_nc (by omega)).trans ((up_nc (by omega)).trans ((up_nc (by omega)).trans ((up_nc (by omega)).trans (up_nc (by omega))))))) ?_
        refine z_iconst (pc := 142) (n := 1) (by decide +kernel) ⟨by decide, by decide⟩ ?_
        refine z_iload_n (pc := 143) (q := 1) (by decide +kernel) rfl ?_
        refine z_ishl (pc := 144) (by decide +kernel) ?_
        refine z_ior (pc := 145) (by decide +kernel) ?_
        refine z_putI (pc := 146) 2 fp_Row_15 (shRow h0) rfl rfl (by decide +kernel) ?_
        refine z_aload_n (pc := 149) (q := 0) (by decide +kernel) rfl ?_
        refine z_getI (pc := 150) 1 fl_Row_9 (shRow h0) (by decide) rfl (by decide +kernel) ?_
        refine z_topI ((up_nk (by decide)).trans ((up_nc (by omega)).trans ((up_nc (by omega)).trans ((up_nc (by omega)).trans ((up_nc (by omega)).trans ((up_nc (by omega)).trans (up_nc (by omega)))))))) ?_
        refine z_istore (pc := 153) (i := 5) [some (vr r0), some (vi a1), some (vi a2), some (vi (w32 (x3 + (τ3 8 a1)))), some (vi (w32 (x4 + (τ4 11 (w32 ((w32 (a1 * 3)) + a2)))))), some (vi (τ4 r0 1))] (by decide +kernel) (Nat.le_of_ble_eq_true rfl) rfl ?_
        exact k
      · have k := k.2 hc
        exact z_vret (pc := 31) (by decide +kernel) rfl k
theorem b_Row_add_155 {E : EN} {d : Nat} {r0 : Nat} {a1 : Int} {a2 : Int} {o1 : Option AV} {o2 : Option AV} {o3 : Option AV} {a4 : Int} {a5 : Int} {σ : Mem} {K : Mem → Prop} (h0 : isRow r0) (k : (a5 ≤ 0 → (0 ≤ a5 ∧ a5 < 6) ∧ K (up (up σ (r0 + 7) a5 (σ r0 1)) r0 1 (w32 ((σ r0 1) + 1)))) ∧ (0 < a5 → (0 ≤ w32 (a5 - 1) ∧ w32 (a5 - 1) < 6) ∧ (0 ≤ σ (r0 + 7) (w32 (a5 - 1)) ∧ σ (r0 + 7) (w32 (a5 - 1)) < 6) ∧ (σ (r0 + 4) (σ (r0 + 7) (w32 (a5 - 1))) ≤ a4 → (0 ≤ a5 ∧ a5 < 6) ∧ K (up (up σ (r0 + 7) a5 (σ r0 1)) r0 1 (w32 ((σ r0 1) + 1)))) ∧ (a4 < σ (r0 + 4) (σ (r0 + 7) (w32 (a5 - 1))) → (0 ≤ a5 ∧ a5 < 6) ∧ Z E y_Row_add d 155 [some (vr r0), o1, o2, o3, some (vi a4), some (vi (w32 (a5 + (-1))))] [] (up σ (r0 + 7) a5 (σ (r0 + 7) (w32 (a5 - 1)))) (qv K)))) :
    Z E y_Row_add d 155 [some (vr r0), o1, o2, o3, some (vi a4), some (vi a5)] [] σ (qv K) := by
  refine z_iload (pc := 155) (i := 5) (by decide +kernel) rfl ?_
  refine z_if_le (pc := 157) (off := 44) 201 (by decide +kernel) (by decide) ⟨fun hc => ?_, fun hc => ?_⟩
  · have k := k.1 hc
    refine z_aload_n (pc := 201) (q := 0) (by decide +kernel) rfl ?_
    refine z_getR (pc := 202) (r0 + 7) fl_Row_37 (shRow h0) rfl (rfRow_9 h0) (by decide +kernel) ?_
    refine z_iload (pc := 205) (i := 5) (by decide +kernel) rfl ?_
    refine z_aload_n (pc := 207) (q := 0) (by decide +kernel) rfl ?_
    refine z_getI (pc := 208) 1 fl_Row_9 (shRow h0) (by decide) rfl (by decide +kernel) ?_
    have hb1 := k.1
    have k := k.2
    refine z_iast (pc := 211) (shRow_7 h0) hb1 (by decide +kernel) ?_
    refine z_aload_n (pc := 212) (q := 0) (by decide +kernel) rfl ?_
    refine z_dup (pc := 213) (by decide +kernel) rfl ?_
    refine z_getI (pc := 214) 1 fl_Row_9 (shRow h0) (by decide) rfl (by decide +kernel) ?_
    refine z_topI (up_nc (by omega)) ?_
    refine z_iconst (pc := 217) (n := 1) (by decide +kernel) ⟨by decide, by decide⟩ ?_
    refine z_iadd (pc := 218) (by decide +kernel) ?_
    refine z_putI (pc := 219) 1 fp_Row_9 (shRow h0) rfl rfl (by decide +kernel) ?_
    exact z_vret (pc := 222) (by decide +kernel) rfl k
  · have k := k.2 hc
    refine z_aload_n (pc := 160) (q := 0) (by decide +kernel) rfl ?_
    refine z_getR (pc := 161) (r0 + 4) fl_Row_28 (shRow h0) rfl (rfRow_6 h0) (by decide +kernel) ?_
    refine z_aload_n (pc := 164) (q := 0) (by decide +kernel) rfl ?_
    refine z_getR (pc := 165) (r0 + 7) fl_Row_37 (shRow h0) rfl (rfRow_9 h0) (by decide +kernel) ?_
    refine z_iload (pc := 168) (i := 5) (by decide +kernel) rfl ?_
    refine z_iconst (pc := 170) (n := 1) (by decide +kernel) ⟨by decide, by decide⟩ ?_
    refine z_isub (pc := 171) (by decide +kernel) ?_
    have hb2 := k.1
    have k := k.2
    refine z_iald (pc := 172) (shRow_7 h0) hb2 (by decide +kernel) ?_
    have hb3 := k.1
    have k := k.2
    refine z_iald (pc := 173) (shRow_4 h0) hb3 (by decide +kernel) ?_
    refine z_iload (pc := 174) (i := 4) (by decide +kernel) rfl ?_
    refine z_icmp_le (pc := 176) (off := 25) 201 (by decide +kernel) (by decide) ⟨fun hc => ?_, fun hc => ?_⟩
    · have k := k.1 hc
      refine z_aload_n (pc := 201) (q := 0) (by decide +kernel) rfl ?_
      refine z_getR (pc := 202) (r0 + 7) fl_Row_37 (shRow h0) rfl (rfRow_9 h0) (by decide +kernel) ?_
      refine z_iload (pc := 205) (i := 5) (by decide +kernel) rfl ?_
      refine z_aload_n (pc := 207) (q := 0) (by decide +kernel) rfl ?_
      refine z_getI (pc := 208) 1 fl_Row_9 (shRow h0) (by decide) rfl (by decide +kernel) ?_
      have hb4 := k.1
      have k := k.2
      refine z_iast (pc := 211) (shRow_7 h0) hb4 (by decide +kernel) ?_
      refine z_aload_n (pc := 212) (q := 0) (by decide +kernel) rfl ?_
      refine z_dup (pc := 213) (by decide +kernel) rfl ?_
      refine z_getI (pc := 214) 1 fl_Row_9 (shRow h0) (by decide) rfl (by decide +kernel) ?_
      refine z_topI (up_nc (by omega)) ?_
      refine z_iconst (pc := 217) (n := 1) (by decide +kernel) ⟨by decide, by decide⟩ ?_
      refine z_iadd (pc := 218) (by decide +kernel) ?_
      refine z_putI (pc := 219) 1 fp_Row_9 (shRow h0) rfl rfl (by decide +kernel) ?_
      exact z_vret (pc := 222) (by decide +kernel) rfl k
    · have k := k.2 hc
      refine z_aload_n (pc := 179) (q := 0) (by decide +kernel) rfl ?_
      refine z_getR (pc := 180) (r0 + 7) fl_Row_37 (shRow h0) rfl (rfRow_9 h0) (by decide +kernel) ?_
      refine z_iload (pc := 183) (i := 5) (by decide +kernel) rfl ?_
      refine z_aload_n (pc := 185) (q := 0) (by decide +kernel) rfl ?_
      refine z_getR (pc := 186) (r0 + 7) fl_Row_37 (shRow h0) rfl (rfRow_9 h0) (by decide +kernel) ?_
      refine z_iload (pc := 189) (i := 5) (by decide +kernel) rfl ?_
      refine z_iconst (pc := 191) (n := 1) (by decide +kernel) ⟨by decide, by decide⟩ ?_
      refine z_isub (pc := 192) (by decide +kernel) ?_
      refine z_iald (pc := 193) (shRow_7 h0) hb2 (by decide +kernel) ?_
      have hb5 := k.1
      have k := k.2
      refine z_iast (pc := 194) (shRow_7 h0) hb5 (by decide +kernel) ?_
      refine z_iinc (pc := 195) (i := 5) (n := -1) [some (vr r0), o1, o2, o3, some (vi a4), some (vi (w32 (a5 + (-1))))] (by decide +kernel) rfl rfl ?_
      refine z_goto (pc := 198) (off := -43) 155 (by decide +kernel) (by decide) ?_
      exact k
theorem b_Row_isBetterSwapped_0 {E : EN} {d : Nat} {r0 : Nat} {σ : Mem} {K : Int → Mem → Prop} (h0 : isRow r0) (k : (σ r0 1 < 2 → K 0 σ) ∧ (2 ≤ σ r0 1 → (σ r0 1 ≤ 6 → (w32 ((σ r0 1) - 2) ≤ 0 → Z E y_Row_isBetterSwapped d 49 [some (vr r0), some (vi (w32 ((σ r0 1) - 1))), some (vi (w32 ((σ r0 1) - 2))), none, none, none] [vi 0] σ (qi K)) ∧ (0 < w32 ((σ r0 1) - 2) → (0 ≤ w32 ((w32 ((σ r0 1) - 2)) - 1) ∧ w32 ((w32 ((σ r0 1) - 2)) - 1) < 6) ∧ Z E y_Row_isBetterSwapped d 49 [some (vr r0), some (vi (w32 ((σ r0 1) - 1))), some (vi (w32 ((σ r0 1) - 2))), none, none, none] [vi (σ (r0 + 3) (w32 ((w32 ((σ r0 1) - 2)) - 1)))] σ (qi K))) ∧ (6 < σ r0 1 → K 0 σ))) :
    Z E y_Row_isBetterSwapped d 0 [some (vr r0), none, none, none, none, none] [] σ (qi K) := by
  refine z_aload_n (pc := 0) (q := 0) (by decide +kernel) rfl ?_
  refine z_getI (pc := 1) 1 fl_Row_9 (shRow h0) (by decide) rfl (by decide +kernel) ?_
  refine z_iconst (pc := 4) (n := 2) (by decide +kernel) ⟨by decide, by decide⟩ ?_
  refine z_icmp_lt (pc := 5) (off := 12) 17 (by decide +kernel) (by decide) ⟨fun hc => ?_, fun hc => ?_⟩
  · have k := k.1 hc
    refine z_iconst (pc := 17) (n := 0) (by decide +kernel) ⟨by decide, by decide⟩ ?_
    exact z_zret (pc := 18) (by decide +kernel) rfl ⟨by decide, k⟩
  · have k := k.2 hc
    refine z_aload_n (pc := 8) (q := 0) (by decide +kernel) rfl ?_
    refine z_getI (pc := 9) 1 fl_Row_9 (shRow h0) (by decide) rfl (by decide +kernel) ?_
    refine z_bipush (pc := 12) (n := 6) (by decide +kernel) (by decide) ⟨by decide, by decide⟩ ?_
    refine z_icmp_le (pc := 14) (off := 5) 19 (by decide +kernel) (by decide) ⟨fun hc => ?_, fun hc => ?_⟩
    · have k := k.1 hc
      refine z_aload_n (pc := 19) (q := 0) (by decide +kernel) rfl ?_
      refine z_getI (pc := 20) 1 fl_Row_9 (shRow h0) (by decide) rfl (by decide +kernel) ?_
      refine z_iconst (pc := 23) (n := 1) (by decide +kernel) ⟨by decide, by decide⟩ ?_
      refine z_isub (pc := 24) (by decide +kernel) ?_
      refine z_istore_n (pc := 25) (q := 1) [some (vr r0), some (vi (w32 ((σ r0 1) - 1))), none, none, none, none] (by decide +kernel) (Nat.le_of_ble_eq_true rfl) rfl ?_
      refine z_aload_n (pc := 26) (q := 0) (by decide +kernel) rfl ?_
      refine z_getI (pc := 27) 1 fl_Row_9 (shRow h0) (by decide) rfl (by decide +kernel) ?_
      refine z_iconst (pc := 30) (n := 2) (by decide +kernel) ⟨by decide, by decide⟩ ?_
      refine z_isub (pc := 31) (by decide +kernel) ?_
      refine z_istore_n (pc := 32) (q := 2) [some (vr r0), some (vi (w32 ((σ r0 1) - 1))), some (vi (w32 ((σ r0 1) - 2))), none, none, none] (by decide +kernel) (Nat.le_of_ble_eq_true rfl) rfl ?_
      refine z_iload_n (pc := 33) (q := 2) (by decide +kernel) rfl ?_
      refine z_if_le (pc := 34) (off := 14) 48 (by decide +kernel) (by decide) ⟨fun hc => ?_, fun hc => ?_⟩
      · have k := k.1 hc
        refine z_iconst (pc := 48) (n := 0) (by decide +kernel) ⟨by decide, by decide⟩ ?_
        exact k
      · have k := k.2 hc
        refine z_aload_n (pc := 37) (q := 0) (by decide +kernel) rfl ?_
        refine z_getR (pc := 38) (r0 + 3) fl_Row_25 (shRow h0) rfl (rfRow_5 h0) (by decide +kernel) ?_
        refine z_iload_n (pc := 41) (q := 2) (by decide +kernel) rfl ?_
        refine z_iconst (pc := 42) (n := 1) (by decide +kernel) ⟨by decide, by decide⟩ ?_
        refine z_isub (pc := 43) (by decide +kernel) ?_
        have hb1 := k.1
        have k := k.2
        refine z_iald (pc := 44) (shRow_3 h0) hb1 (by decide +kernel) ?_
        refine z_goto (pc := 45) (off := 4) 49 (by decide +kernel) (by decide) ?_
        exact k
    · have k := k.2 hc
      refine z_iconst (pc := 17) (n := 0) (by decide +kernel) ⟨by decide, by decide⟩ ?_
      exact z_zret (pc := 18) (by decide +kernel) rfl ⟨by decide, k⟩
theorem b_Row_isBetterSwapped_49 {E : EN} {d : Nat} {r0 : Nat} {a1 : Int} {a2 : Int} {o3 : Option AV} {o4 : Option AV} {o5 : Option AV} {s0 : Int} {σ : Mem} {K : Int → Mem → Prop} (h0 : isRow r0) (k : (0 ≤ a2 ∧ a2 < 6) ∧ (0 ≤ a1 ∧ a1 < 6) ∧ (σ (r0 + 3) a1 ≤ σ (r0 + 6) a2 → Z E y_Row_isBetterSwapped d 85 [some (vr r0), some (vi a1), some (vi a2), some (vi s0), o4, o5] [vi 1] σ (qi K)) ∧ (σ (r0 + 6) a2 < σ (r0 + 3) a1 → (σ (r0 + 3) a2 ≠ σ (r0 + 3) a1 → Z E y_Row_isBetterSwapped d 85 [some (vr r0), some (vi a1), some (vi a2), some (vi s0), o4, o5] [vi 0] σ (qi K)) ∧ (σ (r0 + 3) a2 = σ (r0 + 3) a1 → Z E y_Row_isBetterSwapped d 85 [some (vr r0), some (vi a1), some (vi a2), some (vi s0), o4, o5] [vi 1] σ (qi K)))) :
    Z E y_Row_isBetterSwapped d 49 [some (vr r0), some (vi a1), some (vi a2), o3, o4, o5] [vi s0] σ (qi K) := by
  refine z_istore_n (pc := 49) (q := 3) [some (vr r0), some (vi a1), some (vi a2), some (vi s0), o4, o5] (by decide +kernel) (Nat.le_of_ble_eq_true rfl) rfl ?_
  refine z_aload_n (pc := 50) (q := 0) (by decide +kernel) rfl ?_
  refine z_getR (pc := 51) (r0 + 6) fl_Row_34 (shRow h0) rfl (rfRow_8 h0) (by decide +kernel) ?_
  refine z_iload_n (pc := 54) (q := 2) (by decide +kernel) rfl ?_
  have hb1 := k.1
  have k := k.2
  refine z_iald (pc := 55) (shRow_6 h0) hb1 (by decide +kernel) ?_
  refine z_aload_n (pc := 56) (q := 0) (by decide +kernel) rfl ?_
  refine z_getR (pc := 57) (r0 + 3) fl_Row_25 (shRow h0) rfl (rfRow_5 h0) (by decide +kernel) ?_
  refine z_iload_n (pc := 60) (q := 1) (by decide +kernel) rfl ?_
  have hb2 := k.1
  have k := k.2
  refine z_iald (pc := 61) (shRow_3 h0) hb2 (by decide +kernel) ?_
  refine z_icmp_ge (pc := 62) (off := 18) 80 (by decide +kernel) (by decide) ⟨fun hc => ?_, fun hc => ?_⟩
  · have k := k.1 hc
    refine z_iconst (pc := 80) (n := 1) (by decide +kernel) ⟨by decide, by decide⟩ ?_
    refine z_goto (pc := 81) (off := 4) 85 (by decide +kernel) (by decide) ?_
    exact k
  · have k := k.2 hc
    refine z_aload_n (pc := 65) (q := 0) (by decide +kernel) rfl ?_
    refine z_getR (pc := 66) (r0 + 3) fl_Row_25 (shRow h0) rfl (rfRow_5 h0) (by decide +kernel) ?_
    refine z_iload_n (pc := 69) (q := 2) (by decide +kernel) rfl ?_
    refine z_iald (pc := 70) (shRow_3 h0) hb1 (by decide +kernel) ?_
    refine z_aload_n (pc := 71) (q := 0) (by decide +kernel) rfl ?_
    refine z_getR (pc := 72) (r0 + 3) fl_Row_25 (shRow h0) rfl (rfRow_5 h0) (by decide +kernel) ?_
    refine z_iload_n (pc := 75) (q := 1) (by decide +kernel) rfl ?_
    refine z_iald (pc := 76) (shRow_3 h0) hb2 (by decide +kernel) ?_
    refine z_icmp_ne (pc := 77) (off := 7) 84 (by decide +kernel) (by decide) ⟨fun hc => ?_, fun hc => ?_⟩
    · have k := k.1 hc
      refine z_iconst (pc := 84) (n := 0) (by decide +kernel) ⟨by decide, by decide⟩ ?_
      exact k
    · have k := k.2 hc
      refine z_iconst (pc := 80) (n := 1) (by decide +kernel) ⟨by decide, by decide⟩ ?_
      refine z_goto (pc := 81) (off := 4) 85 (by decide +kernel) (by decide) ?_
      exact k
theorem b_Row_isBetterSwapped_85 {E : EN} {d : Nat} {r0 : Nat} {a1 : Int} {a2 : Int} {a3 : Int} {o4 : Option AV} {o5 : Option AV} {s0 : Int} {σ : Mem} {K : Int → Mem → Prop} (h0 : isRow r0) (k : (0 ≤ a1 ∧ a1 < 6) ∧ (σ (r0 + 3) a1 ≤ σ (r0 + 6) a1 → Z E y_Row_isBetterSwapped d 117 [some (vr r0), some (vi a1), some (vi a2), some (vi a3), some (vi s0), o5] [vi 1] σ (qi K)) ∧ (σ (r0 + 6) a1 < σ (r0 + 3) a1 → (0 ≤ a2 ∧ a2 < 6) ∧ (σ (r0 + 3) a2 ≠ a3 → Z E y_Row_isBetterSwapped d 117 [some (vr r0), some (vi a1), some (vi a2), some (vi a3), some (vi s0), o5] [vi 0] σ (qi K)) ∧ (σ (r0 + 3) a2 = a3 → Z E y_Row_isBetterSwapped d 117 [some (vr r0), some (vi a1), some (vi a2), some (vi a3), some (vi s0), o5] [vi 1] σ (qi K)))) :
    Z E y_Row_isBetterSwapped d 85 [some (vr r0), some (vi a1), some (vi a2), some (vi a3), o4, o5] [vi s0] σ (qi K) := by
  refine z_istore (pc := 85) (i := 4) [some (vr r0), some (vi a1), some (vi a2), some (vi a3), some (vi s0), o5] (by decide +kernel) (Nat.le_of_ble_eq_true rfl) rfl ?_
  refine z_aload_n (pc := 87) (q := 0) (by decide +kernel) rfl ?_
  refine z_getR (pc := 88) (r0 + 6) fl_Row_34 (shRow h0) rfl (rfRow_8 h0) (by decide +kernel) ?_
  refine z_iload_n (pc := 91) (q := 1) (by decide +kernel) rfl ?_
  have hb1 := k.1
  have k := k.2
  refine z_iald (pc := 92) (shRow_6 h0) hb1 (by decide +kernel) ?_
  refine z_aload_n (pc := 93) (q := 0) (by decide +kernel) rfl ?_
  refine z_getR (pc := 94) (r0 + 3) fl_Row_25 (shRow h0) rfl (rfRow_5 h0) (by decide +kernel) ?_
  refine z_iload_n (pc := 97) (q := 1) (by decide +kernel) rfl ?_
  refine z_iald (pc := 98) (shRow_3 h0) hb1 (by decide +kernel) ?_
  refine z_icmp_ge (pc := 99) (off := 13) 112 (by decide +kernel) (by decide) ⟨fun hc => ?_, fun hc => ?_⟩
  · have k := k.1 hc
    refine z_iconst (pc := 112) (n := 1) (by decide +kernel) ⟨by decide, by decide⟩ ?_
    refine z_goto (pc := 113) (off := 4) 117 (by decide +kernel) (by decide) ?_
    exact k
  · have k := k.2 hc
    refine z_aload_n (pc := 102) (q := 0) (by decide +kernel) rfl ?_
    refine z_getR (pc := 103) (r0 + 3) fl_Row_25 (shRow h0) rfl (rfRow_5 h0) (by decide +kernel) ?_
    refine z_iload_n (pc := 106) (q := 2) (by decide +kernel) rfl ?_
    have hb2 := k.1
    have k := k.2
    refine z_iald (pc := 107) (shRow_3 h0) hb2 (by decide +kernel) ?_
    refine z_iload_n (pc := 108) (q := 3) (by decide +kernel) rfl ?_
    refine z_icmp_ne (pc := 109) (off := 7) 116 (by decide +kernel) (by decide) ⟨fun hc => ?_, fun hc => ?_⟩
    · have k := k.1 hc
      refine z_iconst (pc := 116) (n := 0) (by decide +kernel) ⟨by decide, by decide⟩ ?_
      exact k
    · have k := k.2 hc
      refine z_iconst (pc := 112) (n := 1) (by decide +kernel) ⟨by decide, by decide⟩ ?_
      refine z_goto (pc := 113) (off := 4) 117 (by decide +kernel) (by decide) ?_
      exact k
theorem b_Row_isBetterSwapped_117 {E : EN} {d : Nat} {r0 : Nat} {a1 : Int} {a2 : Int} {o3 : Option AV} {a4 : Int} {o5 : Option AV} {s0 : Int} {σ : Mem} {K : Int → Mem → Prop} (h0 : isRow r0) (k : (0 ≤ a2 ∧ a2 < 6) ∧ (0 ≤ a1 ∧ a1 < 6) ∧ (σ (r0 + 2) a2 = σ (r0 + 2) a1 → K 0 σ) ∧ (σ (r0 + 2) a2 ≠ σ (r0 + 2) a1 → (a4 = 0 → K 0 σ) ∧ (a4 ≠ 0 → (s0 = 0 → K 1 σ) ∧ (s0 ≠ 0 → (σ (r0 + 2) a2 ≤ σ (r0 + 2) a1 → K 0 σ) ∧ (σ (r0 + 2) a1 < σ (r0 + 2) a2 → K 1 σ))))) :
    Z E y_Row_isBetterSwapped d 117 [some (vr r0), some (vi a1), some (vi a2), o3, some (vi a4), o5] [vi s0] σ (qi K) := by
  refine z_istore (pc := 117) (i := 5) [some (vr r0), some (vi a1), some (vi a2), o3, some (vi a4), some (vi s0)] (by decide +kernel) (Nat.le_of_ble_eq_true rfl) rfl ?_
  refine z_aload_n (pc := 119) (q := 0) (by decide +kernel) rfl ?_
  refine z_getR (pc := 120) (r0 + 2) fl_Row_22 (shRow h0) rfl (rfRow_4 h0) (by decide +kernel) ?_
  refine z_iload_n (pc := 123) (q := 2) (by decide +kernel) rfl ?_
  have hb1 := k.1
  have k := k.2
  refine z_iald (pc := 124) (shRow_2 h0) hb1 (by decide +kernel) ?_
  refine z_aload_n (pc := 125) (q := 0) (by decide +kernel) rfl ?_
  refine z_getR (pc := 126) (r0 + 2) fl_Row_22 (shRow h0) rfl (rfRow_4 h0) (by decide +kernel) ?_
  refine z_iload_n (pc := 129) (q := 1) (by decide +kernel) rfl ?_
  have hb2 := k.1
  have k := k.2
  refine z_iald (pc := 130) (shRow_2 h0) hb2 (by decide +kernel) ?_
  refine z_icmp_eq (pc := 131) (off := 32) 163 (by decide +kernel) (by decide) ⟨fun hc => ?_, fun hc => ?_⟩
  · have k := k.1 hc
    refine z_iconst (pc := 163) (n := 0) (by decide +kernel) ⟨by decide, by decide⟩ ?_
    exact z_zret (pc := 164) (by decide +kernel) rfl ⟨by decide, k⟩
  · have k := k.2 hc
    refine z_iload (pc := 134) (i := 4) (by decide +kernel) rfl ?_
    refine z_if_eq (pc := 136) (off := 27) 163 (by decide +kernel) (by decide) ⟨fun hc => ?_, fun hc => ?_⟩
    · have k := k.1 hc
      refine z_iconst (pc := 163) (n := 0) (by decide +kernel) ⟨by decide, by decide⟩ ?_
      exact z_zret (pc := 164) (by decide +kernel) rfl ⟨by decide, k⟩
    · have k := k.2 hc
      refine z_iload (pc := 139) (i := 5) (by decide +kernel) rfl ?_
      refine z_if_eq (pc := 141) (off := 18) 159 (by decide +kernel) (by decide) ⟨fun hc => ?_, fun hc => ?_⟩
      · have k := k.1 hc
        refine z_iconst (pc := 159) (n := 1) (by decide +kernel) ⟨by decide, by decide⟩ ?_
        refine z_goto (pc := 160) (off := 4) 164 (by decide +kernel) (by decide) ?_
        exact z_zret (pc := 164) (by decide +kernel) rfl ⟨by decide, k⟩
      · have k := k.2 hc
        refine z_aload_n (pc := 144) (q := 0) (by decide +kernel) rfl ?_
        refine z_getR (pc := 145) (r0 + 2) fl_Row_22 (shRow h0) rfl (rfRow_4 h0) (by decide +kernel) ?_
        refine z_iload_n (pc := 148) (q := 1) (by decide +kernel) rfl ?_
        refine z_iald (pc := 149) (shRow_2 h0) hb2 (by decide +kernel) ?_
        refine z_aload_n (pc := 150) (q := 0) (by decide +kernel) rfl ?_
        refine z_getR (pc := 151) (r0 + 2) fl_Row_22 (shRow h0) rfl (rfRow_4 h0) (by decide +kernel) ?_
        refine z_iload_n (pc := 154) (q := 2) (by decide +kernel) rfl ?_
        refine z_iald (pc := 155) (shRow_2 h0) hb1 (by decide +kernel) ?_
        refine z_icmp_ge (pc := 156) (off := 7) 163 (by decide +kernel) (by decide) ⟨fun hc => ?_, fun hc => ?_⟩
        · have k := k.1 hc
          refine z_iconst (pc := 163) (n := 0) (by decide +kernel) ⟨by decide, by decide⟩ ?_
          exact z_zret (pc := 164) (by decide +kernel) rfl ⟨by decide, k⟩
        · have k := k.2 hc
          refine z_iconst (pc := 159) (n := 1) (by decide +kernel) ⟨by decide, by decide⟩ ?_
          refine z_goto (pc := 160) (off := 4) 164 (by decide +kernel) (by decide) ?_
          exact z_zret (pc := 164) (by decide +kernel) rfl ⟨by decide, k⟩
theorem b_Row_drop_0 {E : EN} {d : Nat} {r0 : Nat} {σ : Mem} {K : Mem → Prop} (h0 : isRow r0) (k : (σ r0 1 < 1 → K σ) ∧ (1 ≤ σ r0 1 → (σ r0 1 ≤ 6 → (0 ≤ w32 ((σ r0 1) - 1) ∧ w32 ((σ r0 1) - 1) < 6) ∧ (0 ≤ σ (r0 + 2) (w32 ((σ r0 1) - 1)) ∧ σ (r0 + 2) (w32 ((σ r0 1) - 1)) < 3) ∧ Z E y_Row_drop d 77 [some (vr r0), some (vi 0), some (vi 0)] [] (up (up (up σ r0 1 (w32 ((σ r0 1) - 1))) (r0 + 8) (σ (r0 + 2) (w32 ((σ r0 1) - 1))) (σ (r0 + 6) (w32 ((σ r0 1) - 1)))) r0 2 (ian (σ r0 2) (ixo (ish 1 (σ (r0 + 1) (w32 ((σ r0 1) - 1)))) (-1)))) (qv K)) ∧ (6 < σ r0 1 → K σ))) :
    Z E y_Row_drop d 0 [some (vr r0), none, none] [] σ (qv K) := by
  refine z_aload_n (pc := 0) (q := 0) (by decide +kernel) rfl ?_
  refine z_getI (pc := 1) 1 fl_Row_9 (shRow h0) (by decide) rfl (by decide +kernel) ?_
  refine z_iconst (pc := 4) (n := 1) (by decide +kernel) ⟨by decide, by decide⟩ ?_
  refine z_icmp_lt (pc := 5) (off := 12) 17 (by decide +kernel) (by decide) ⟨fun hc => ?_, fun hc => ?_⟩
  · have k := k.1 hc
    exact z_vret (pc := 17) (by decide +kernel) rfl k
  · have k := k.2 hc
    refine z_aload_n (pc := 8) (q := 0) (by decide +kernel) rfl ?_
    refine z_getI (pc := 9) 1 fl_Row_9 (shRow h0) (by decide) rfl (by decide +kernel) ?_
    refine z_bipush (pc := 12) (n := 6) (by decide +kernel) (by decide) ⟨by decide, by decide⟩ ?_
    refine z_icmp_le (pc := 14) (off := 4) 18 (by decide +kernel) (by decide) ⟨fun hc => ?_, fun hc => ?_⟩
    · have k := k.1 hc
      refine z_aload_n (pc := 18) (q := 0) (by decide +kernel) rfl ?_
      refine z_dup (pc := 19) (by decide +kernel) rfl ?_
      refine z_getI (pc := 20) 1 fl_Row_9 (shRow h0) (by decide) rfl (by decide +kernel) ?_
      refine z_iconst (pc := 23) (n := 1) (by decide +kernel) ⟨by decide, by decide⟩ ?_
      refine z_isub (pc := 24) (by decide +kernel) ?_
      refine z_putI (pc := 25) 1 fp_Row_9 (shRow h0) rfl rfl (by decide +kernel) ?_
      refine z_aload_n (pc := 28) (q := 0) (by decide +kernel) rfl ?_
      refine z_getR (pc := 29) (r0 + 8) fl_Row_40 (shRow h0) rfl (rfRow_10 h0) (by decide +kernel) ?_
      refine z_aload_n (pc := 32) (q := 0) (by decide +kernel) rfl ?_
      refine z_getR (pc := 33) (r0 + 2) fl_Row_22 (shRow h0) rfl (rfRow_4 h0) (by decide +kernel) ?_
      refine z_aload_n (pc := 36) (q := 0) (by decide +kernel) rfl ?_
      refine z_getI (pc := 37) 1 fl_Row_9 (shRow h0) (by decide) rfl (by decide +kernel) ?_
      refine z_topI (up_same _ _ _ _) ?_
      have hb1 := k.1
      have k := k.2
      refine z_iald (pc := 40) (shRow_2 h0) hb1 (by decide +kernel) ?_
      refine z_topI (up_nc (by omega)) ?_
      refine z_aload_n (pc := 41) (q := 0) (by decide +kernel) rfl ?_
      refine z_getR (pc := 42) (r0 + 6) fl_Row_34 (shRow h0) rfl (rfRow_8 h0) (by decide +kernel) ?_
      refine z_aload_n (pc := 45) (q := 0) (by decide +kernel) rfl ?_
      refine z_getI (pc := 46) 1 fl_Row_9 (shRow h0) (by decide) rfl (by decide +kernel) ?_
      refine z_topI (up_same _ _ _ _) ?_
      refine z_iald (pc := 49) (shRow_6 h0) hb1 (by decide +kernel) ?_
      refine z_topI (up_nc (by omega)) ?_
      have hb2 := k.1
      have k := k.2
      refine z_iast (pc := 50) (shRow_8 h0) hb2 (by decide +kernel) ?_
      refine z_aload_n (pc := 51) (q := 0) (by decide +kernel) rfl ?_
      refine z_dup (pc := 52) (by decide +kernel) rfl ?_
      refine z_getI (pc := 53) 2 fl_Row_15 (shRow h0) (by decide) rfl (by decide +kernel) ?_
      refine z_topI ((up_nc (by omega)).trans (up_nk (by decide))) ?_
      refine z_iconst (pc := 56) (n := 1) (by decide +kernel) ⟨by decide, by decide⟩ ?_
      refine z_aload_n (pc := 57) (q := 0) (by decide +kernel) rfl ?_
      refine z_getR (pc := 58) (r0 + 1) fl_Row_18 (shRow h0) rfl (rfRow_3 h0) (by decide +kernel) ?_
      refine z_aload_n (pc := 61) (q := 0) (by decide +kernel) rfl ?_
      refine z_getI (pc := 62) 1 fl_Row_9 (shRow h0) (by decide) rfl (by decide +kernel) ?_
      refine z_topI ((up_nc (by omega)).trans (up_same _ _ _ _)) ?_
      refine z_iald (pc := 65) (shRow_1 h0) hb1 (by decide +kernel) ?_
      refine z_topI ((up_nc (by omega)).trans (up_nc (by omega))) ?_
      refine z_ishl (pc := 66) (by decide +kernel) ?_
      refine z_iconst (pc := 67) (n := -1) (by decide +kernel) ⟨by decide, by decide⟩ ?_
      refine z_ixor (pc := 68) (by decide +kernel) ?_
      refine z_iand (pc := 69) (by decide +kernel) ?_
      refine z_putI (pc := 70) 2 fp_Row_15 (shRow h0) rfl rfl (by decide +kernel) ?_
      refine z_iconst (pc := 73) (n := 0) (by decide +kernel) ⟨by decide, by decide⟩ ?_
      refine z_istore_n (pc := 74) (q := 1) [some (vr r0), some (vi 0), none] (by decide +kernel) (Nat.le_of_ble_eq_true rfl) rfl ?_
      refine z_iconst (pc := 75) (n := 0) (by decide +kernel) ⟨by decide, by decide⟩ ?_
      refine z_istore_n (pc := 76) (q := 2) [some (vr r0), some (vi 0), some (vi 0)] (by decide +kernel) (Nat.le_of_ble_eq_true rfl) rfl ?_
      exact k
    · have k := k.2 hc
      exact z_vret (pc := 17) (by decide +kernel) rfl k
theorem b_Row_drop_77 {E : EN} {d : Nat} {r0 : Nat} {a1 : Int} {a2 : Int} {σ : Mem} {K : Mem → Prop} (h0 : isRow r0) (k : (σ r0 1 < a2 → K σ) ∧ (a2 ≤ σ r0 1 → (0 ≤ a2 ∧ a2 < 6) ∧ (σ (r0 + 7) a2 = σ r0 1 → Z E y_Row_drop d 77 [some (vr r0), some (vi a1), some (vi (w32 (a2 + 1)))] [] σ (qv K)) ∧ (σ (r0 + 7) a2 ≠ σ r0 1 → (0 ≤ a1 ∧ a1 < 6) ∧ Z E y_Row_drop d 77 [some (vr r0), some (vi (w32 (a1 + 1))), some (vi (w32 (a2 + 1)))] [] (up σ (r0 + 7) a1 (σ (r0 + 7) a2)) (qv K)))) :
    Z E y_Row_drop d 77 [some (vr r0), some (vi a1), some (vi a2)] [] σ (qv K) := by
  refine z_iload_n (pc := 77) (q := 2) (by decide +kernel) rfl ?_
  refine z_aload_n (pc := 78) (q := 0) (by decide +kernel) rfl ?_
  refine z_getI (pc := 79) 1 fl_Row_9 (shRow h0) (by decide) rfl (by decide +kernel) ?_
  refine z_icmp_gt (pc := 82) (off := 37) 119 (by decide +kernel) (by decide) ⟨fun hc => ?_, fun hc => ?_⟩
  · have k := k.1 hc
    exact z_vret (pc := 119) (by decide +kernel) rfl k
  · have k := k.2 hc
    refine z_aload_n (pc := 85) (q := 0) (by decide +kernel) rfl ?_
    refine z_getR (pc := 86) (r0 + 7) fl_Row_37 (shRow h0) rfl (rfRow_9 h0) (by decide +kernel) ?_
    refine z_iload_n (pc := 89) (q := 2) (by decide +kernel) rfl ?_
    have hb1 := k.1
    have k := k.2
    refine z_iald (pc := 90) (shRow_7 h0) hb1 (by decide +kernel) ?_
    refine z_aload_n (pc := 91) (q := 0) (by decide +kernel) rfl ?_
    refine z_getI (pc := 92) 1 fl_Row_9 (shRow h0) (by decide) rfl (by decide +kernel) ?_
    refine z_icmp_eq (pc := 95) (off := 18) 113 (by decide +kernel) (by decide) ⟨fun hc => ?_, fun hc => ?_⟩
    · have k := k.1 hc
      refine z_iinc (pc := 113) (i := 2) (n := 1) [some (vr r0), some (vi a1), some (vi (w32 (a2 + 1)))] (by decide +kernel) rfl rfl ?_
      refine z_goto (pc := 116) (off := -39) 77 (by decide +kernel) (by decide) ?_
      exact k
    · have k := k.2 hc
      refine z_aload_n (pc := 98) (q := 0) (by decide +kernel) rfl ?_
      refine z_getR (pc := 99) (r0 + 7) fl_Row_37 (shRow h0) rfl (rfRow_9 h0) (by decide +kernel) ?_
      refine z_iload_n (pc := 102) (q := 1) (by decide +kernel) rfl ?_
      refine z_aload_n (pc := 103) (q := 0) (by decide +kernel) rfl ?_
      refine z_getR (pc := 104) (r0 + 7) fl_Row_37 (shRow h0) rfl (rfRow_9 h0) (by decide +kernel) ?_
      refine z_iload_n (pc := 107) (q := 2) (by decide +kernel) rfl ?_
      refine z_iald (pc := 108) (shRow_7 h0) hb1 (by decide +kernel) ?_
      have hb2 := k.1
      have k := k.2
      refine z_iast (pc := 109) (shRow_7 h0) hb2 (by decide +kernel) ?_
      refine z_iinc (pc := 110) (i := 1) (n := 1) [some (vr r0), some (vi (w32 (a1 + 1))), some (vi a2)] (by decide +kernel) rfl rfl ?_
      refine z_iinc (pc := 113) (i := 2) (n := 1) [some (vr r0), some (vi (w32 (a1 + 1))), some (vi (w32 (a2 + 1)))] (by decide +kernel) rfl rfl ?_
      refine z_goto (pc := 116) (off := -39) 77 (by decide +kernel) (by decide) ?_
      exact k
theorem b_Row_end_0 {E : EN} {d : Nat} {r0 : Nat} {σ : Mem} {K : Int → Mem → Prop} (h0 : isRow r0) (k : Z E y_Row_end d 4 [some (vr r0), some (vi 0), some (vi 0), none] [] σ (qi K)) :
    Z E y_Row_end d 0 [some (vr r0), none, none, none] [] σ (qi K) := by
  refine z_iconst (pc := 0) (n := 0) (by decide +kernel) ⟨by decide, by decide⟩ ?_
  refine z_istore_n (pc := 1) (q := 1) [some (vr r0), some (vi 0), none, none] (by decide +kernel) (Nat.le_of_ble_eq_true rfl) rfl ?_
  refine z_iconst (pc := 2) (n := 0) (by decide +kernel) ⟨by decide, by decide⟩ ?_
  refine z_istore_n (pc := 3) (q := 2) [some (vr r0), some (vi 0), some (vi 0), none] (by decide +kernel) (Nat.le_of_ble_eq_true rfl) rfl ?_
  exact k
theorem b_Row_end_4 {E : EN} {d : Nat} {r0 : Nat} {a1 : Int} {a2 : Int} {o3 : Option AV} {σ : Mem} {K : Int → Mem → Prop} (h0 : isRow r0) (hd : 1 ≤ d) (k : (σ r0 1 ≤ a2 → K a1 σ) ∧ (a2 < σ r0 1 → (6 ≤ a2 → K a1 σ) ∧ (a2 < 6 → (0 ≤ a2 ∧ a2 < 6) ∧ (0 ≤ σ (r0 + 7) a2 ∧ σ (r0 + 7) a2 < 6) ∧ CI E y_Math_max_II (d - 1) [vi a1, vi (σ (r0 + 4) (σ (r0 + 7) a2))] σ (fun x1 τ1 => (0 ≤ τ1 (r0 + 1) (σ (r0 + 7) a2) ∧ τ1 (r0 + 1) (σ (r0 + 7) a2) < 6) ∧ Z E y_Row_end d 4 [some (vr r0), some (vi (w32 (x1 + (τ1 9 (τ1 (r0 + 1) (σ (r0 + 7) a2)))))), some (vi (w32 (a2 + 1))), some (vi (σ (r0 + 7) a2))] [] (up τ1 (r0 + 5) (σ (r0 + 7) a2) (w32 (x1 + (τ1 9 (τ1 (r0 + 1) (σ (r0 + 7) a2)))))) (qi K))))) :
    Z E y_Row_end d 4 [some (vr r0), some (vi a1), some (vi a2), o3] [] σ (qi K) := by
  refine z_iload_n (pc := 4) (q := 2) (by decide +kernel) rfl ?_
  refine z_aload_n (pc := 5) (q := 0) (by decide +kernel) rfl ?_
  refine z_getI (pc := 6) 1 fl_Row_9 (shRow h0) (by decide) rfl (by decide +kernel) ?_
  refine z_icmp_ge (pc := 9) (off := 55) 64 (by decide +kernel) (by decide) ⟨fun hc => ?_, fun hc => ?_⟩
  · have k := k.1 hc
    refine z_iload_n (pc := 64) (q := 1) (by decide +kernel) rfl ?_
    exact z_iret (pc := 65) (by decide +kernel) rfl k
  · have k := k.2 hc
    refine z_iload_n (pc := 12) (q := 2) (by decide +kernel) rfl ?_
    refine z_bipush (pc := 13) (n := 6) (by decide +kernel) (by decide) ⟨by decide, by decide⟩ ?_
    refine z_icmp_ge (pc := 15) (off := 49) 64 (by decide +kernel) (by decide) ⟨fun hc => ?_, fun hc => ?_⟩
    · have k := k.1 hc
      refine z_iload_n (pc := 64) (q := 1) (by decide +kernel) rfl ?_
      exact z_iret (pc := 65) (by decide +kernel) rfl k
    · have k := k.2 hc
      refine z_aload_n (pc := 18) (q := 0) (by decide +kernel) rfl ?_
      refine z_getR (pc := 19) (r0 + 7) fl_Row_37 (shRow h0) rfl (rfRow_9 h0) (by decide +kernel) ?_
      refine z_iload_n (pc := 22) (q := 2) (by decide +kernel) rfl ?_
      have hb1 := k.1
      have k := k.2
      refine z_iald (pc := 23) (shRow_7 h0) hb1 (by decide +kernel) ?_
      refine z_istore_n (pc := 24) (q := 3) [some (vr r0), some (vi a1), some (vi a2), some (vi (σ (r0 + 7) a2))] (by decide +kernel) (Nat.le_of_ble_eq_true rfl) rfl ?_
      refine z_iload_n (pc := 25) (q := 1) (by decide +kernel) rfl ?_
      refine z_aload_n (pc := 26) (q := 0) (by decide +kernel) rfl ?_
      refine z_getR (pc := 27) (r0 + 4) fl_Row_28 (shRow h0) rfl (rfRow_6 h0) (by decide +kernel) ?_
      refine z_iload_n (pc := 30) (q := 3) (by decide +kernel) rfl ?_
      have hb2 := k.1
      have k := k.2
      refine z_iald (pc := 31) (shRow_4 h0) hb2 (by decide +kernel) ?_
      refine z_calls (pc := 32) (as := [vi a1, vi (σ (r0 + 4) (σ (r0 + 7) a2))]) ml_Row_69 rfl rfl (Nat.le_of_ble_eq_true rfl) (dc := d - 1) (by omega) (by decide +kernel) (CI.z (CI.mono (fun x1 τ1 k => ?_) k))
      refine z_aload_n (pc := 35) (q := 0) (by decide +kernel) rfl ?_
      refine z_getR (pc := 36) 2 fl_Row_43 (shRow h0) rfl (rfRow_0 h0) (by decide +kernel) ?_
      refine z_getR (pc := 39) 9 fl_Row_78 rfl rfl rfl (by decide +kernel) ?_
      refine z_aload_n (pc := 42) (q := 0) (by decide +kernel) rfl ?_
      refine z_getR (pc := 43) (r0 + 1) fl_Row_18 (shRow h0) rfl (rfRow_3 h0) (by decide +kernel) ?_
      refine z_iload_n (pc := 46) (q := 3) (by decide +kernel) rfl ?_
      refine z_iald (pc := 47) (shRow_1 h0) hb2 (by decide +kernel) ?_
      have hb3 := k.1
      have k := k.2
      refine z_iald (pc := 48) rfl hb3 (by decide +kernel) ?_
      refine z_iadd (pc := 49) (by decide +kernel) ?_
      refine z_istore_n (pc := 50) (q := 1) [some (vr r0), some (vi (w32 (x1 + (τ1 9 (τ1 (r0 + 1) (σ (r0 + 7) a2)))))), some (vi a2), some (vi (σ (r0 + 7) a2))] (by decide +kernel) (Nat.le_of_ble_eq_true rfl) rfl ?_
      refine z_aload_n (pc := 51) (q := 0) (by decide +kernel) rfl ?_
      refine z_getR (pc := 52) (r0 + 5) fl_Row_31 (shRow h0) rfl (rfRow_7 h0) (by decide +kernel) ?_
      refine z_iload_n (pc := 55) (q := 3) (by decide +kernel) rfl ?_
      refine z_iload_n (pc := 56) (q := 1) (by decide +kernel) rfl ?_
      refine z_iast (pc := 57) (shRow_5 h0) hb2 (by decide +kernel) ?_
      refine z_iinc (pc := 58) (i := 2) (n := 1) [some (vr r0), some (vi (w32 (x1 + (τ1 9 (τ1 (r0 + 1) (σ (r0 + 7) a2)))))), some (vi (w32 (a2 + 1))), some (vi (σ (r0 + 7) a2))] (by decide +kernel) rfl rfl ?_
      refine z_goto (pc := 61) (off := -57) 4 (by decide +kernel) (by decide) ?_
      exact k
theorem b_Row_endWith_0 {E : EN} {d : Nat} {r0 : Nat} {a1 : Int} {a2 : Int} {σ : Mem} {K : Int → Mem → Prop} (h0 : isRow r0) (k : Z E y_Row_endWith d 8 [some (vr r0), some (vi a1), some (vi a2), some (vi 0), some (vi 0), some (vi 0), none] [] σ (qi K)) :
    Z E y_Row_endWith d 0 [some (vr r0), some (vi a1), some (vi a2), none, none, none, none] [] σ (qi K) := by
  refine z_iconst (pc := 0) (n := 0) (by decide +kernel) ⟨by decide, by decide⟩ ?_
  refine z_istore_n (pc := 1) (q := 3) [some (vr r0), some (vi a1), some (vi a2), some (vi 0), none, none, none] (by decide +kernel) (Nat.le_of_ble_eq_true rfl) rfl ?_
  refine z_iconst (pc := 2) (n := 0) (by decide +kernel) ⟨by decide, by decide⟩ ?_
  refine z_istore (pc := 3) (i := 4) [some (vr r0), some (vi a1), some (vi a2), some (vi 0), some (vi 0), none, none] (by decide +kernel) (Nat.le_of_ble_eq_true rfl) rfl ?_
  refine z_iconst (pc := 5) (n := 0) (by decide +kernel) ⟨by decide, by decide⟩ ?_
  refine z_istore (pc := 6) (i := 5) [some (vr r0), some (vi a1), some (vi a2), some (vi 0), some (vi 0), some (vi 0), none] (by decide +kernel) (Nat.le_of_ble_eq_true rfl) rfl ?_
  exact k
theorem b_Row_endWith_8 {E : EN} {d : Nat} {r0 : Nat} {a1 : Int} {a2 : Int} {a3 : Int} {a4 : Int} {a5 : Int} {o6 : Option AV} {σ : Mem} {K : Int → Mem → Prop} (h0 : isRow r0) (hd : 1 ≤ d) (k : (σ r0 1 ≤ a5 → (a4 = 0 → CI E y_Math_max_II (d - 1) [vi a3, vi a1] σ (fun x1 τ1 => K (w32 (x1 + a2)) τ1)) ∧ (a4 ≠ 0 → K a3 σ)) ∧ (a5 < σ r0 1 → (6 ≤ a5 → (a4 = 0 → CI E y_Math_max_II (d - 1) [vi a3, vi a1] σ (fun x2 τ2 => K (w32 (x2 + a2)) τ2)) ∧ (a4 ≠ 0 → K a3 σ)) ∧ (a5 < 6 → (0 ≤ a5 ∧ a5 < 6) ∧ (a4 ≠ 0 → Z E y_Row_endWith d 60 [some (vr r0), some (vi a1), some (vi a2), some (vi a3), some (vi a4), some (vi a5), some (vi (σ (r0 + 7) a5))] [] σ (qi K)) ∧ (a4 = 0 → (0 ≤ σ (r0 + 7) a5 ∧ σ (r0 + 7) a5 < 6) ∧ (σ (r0 + 4) (σ (r0 + 7) a5) ≤ a1 → Z E y_Row_endWith d 60 [some (vr r0), some (vi a1), some (vi a2), some (vi a3), some (vi a4), some (vi a5), some (vi (σ (r0 + 7) a5))] [] σ (qi K)) ∧ (a1 < σ (r0 + 4) (σ (r0 + 7) a5) → CI E y_Math_max_II (d - 1) [vi a3, vi a1] σ (fun x3 τ3 => Z E y_Row_endWith d 60 [some (vr r0), some (vi a1), some (vi a2), some (vi (w32 (x3 + a2))), some (vi 1), some (vi a5), some (vi (σ (r0 + 7) a5))] [] τ3 (qi K))))))) :
    Z E y_Row_endWith d 8 [some (vr r0), some (vi a1), some (vi a2), some (vi a3), some (vi a4), some (vi a5), o6] [] σ (qi K) := by
  refine z_iload (pc := 8) (i := 5) (by decide +kernel) rfl ?_
  refine z_aload_n (pc := 10) (q := 0) (by decide +kernel) rfl ?_
  refine z_getI (pc := 11) 1 fl_Row_9 (shRow h0) (by decide) rfl (by decide +kernel) ?_
  refine z_icmp_ge (pc := 14) (off := 80) 94 (by decide +kernel) (by decide) ⟨fun hc => ?_, fun hc => ?_⟩
  · have k := k.1 hc
    refine z_iload (pc := 94) (i := 4) (by decide +kernel) rfl ?_
    refine z_if_eq (pc := 96) (off := 7) 103 (by decide +kernel) (by decide) ⟨fun hc => ?_, fun hc => ?_⟩
    · have k := k.1 hc
      refine z_iload_n (pc := 103) (q := 3) (by decide +kernel) rfl ?_
      refine z_iload_n (pc := 104) (q := 1) (by decide +kernel) rfl ?_
      refine z_calls (pc := 105) (as := [vi a3, vi a1]) ml_Row_69 rfl rfl (Nat.le_of_ble_eq_true rfl) (dc := d - 1) (by omega) (by decide +kernel) (CI.z (CI.mono (fun x1 τ1 k => ?_) k))
      refine z_iload_n (pc := 108) (q := 2) (by decide +kernel) rfl ?_
      refine z_iadd (pc := 109) (by decide +kernel) ?_
      exact z_iret (pc := 110) (by decide +kernel) rfl k
    · have k := k.2 hc
      refine z_iload_n (pc := 99) (q := 3) (by decide +kernel) rfl ?_
      refine z_goto (pc := 100) (off := 10) 110 (by decide +kernel) (by decide) ?_
      exact z_iret (pc := 110) (by decide +kernel) rfl k
  · have k := k.2 hc
    refine z_iload (pc := 17) (i := 5) (by decide +kernel) rfl ?_
    refine z_bipush (pc := 19) (n := 6) (by decide +kernel) (by decide) ⟨by decide, by decide⟩ ?_
    refine z_icmp_ge (pc := 21) (off := 73) 94 (by decide +kernel) (by decide) ⟨fun hc => ?_, fun hc => ?_⟩
    · have k := k.1 hc
      refine z_iload (pc := 94) (i := 4) (by decide +kernel) rfl ?_
      refine z_if_eq (pc := 96) (off := 7) 103 (by decide +kernel) (by decide) ⟨fun hc => ?_, fun hc => ?_⟩
      · have k := k.1 hc
        refine z_iload_n (pc := 103) (q := 3) (by decide +kernel) rfl ?_
        refine z_iload_n (pc := 104) (q := 1) (by decide +kernel) rfl ?_
        refine z_calls (pc := 105) (as := [vi a3, vi a1]) ml_Row_69 rfl rfl (Nat.le_of_ble_eq_true rfl) (dc := d - 1) (by omega) (by decide +kernel) (CI.z (CI.mono (fun x2 τ2 k => ?_) k))
        refine z_iload_n (pc := 108) (q := 2) (by decide +kernel) rfl ?_
        refine z_iadd (pc := 109) (by decide +kernel) ?_
        exact z_iret (pc := 110) (by decide +kernel) rfl k
      · have k := k.2 hc
        refine z_iload_n (pc := 99) (q := 3) (by decide +kernel) rfl ?_
        refine z_goto (pc := 100) (off := 10) 110 (by decide +kernel) (by decide) ?_
        exact z_iret (pc := 110) (by decide +kernel) rfl k
    · have k := k.2 hc
      refine z_aload_n (pc := 24) (q := 0) (by decide +kernel) rfl ?_
      refine z_getR (pc := 25) (r0 + 7) fl_Row_37 (shRow h0) rfl (rfRow_9 h0) (by decide +kernel) ?_
      refine z_iload (pc := 28) (i := 5) (by decide +kernel) rfl ?_
      have hb1 := k.1
      have k := k.2
      refine z_iald (pc := 30) (shRow_7 h0) hb1 (by decide +kernel) ?_
      refine z_istore (pc := 31) (i := 6) [some (vr r0), some (vi a1), some (vi a2), some (vi a3), some (vi a4), some (vi a5), some (vi (σ (r0 + 7) a5))] (by decide +kernel) (Nat.le_of_ble_eq_true rfl) rfl ?_
      refine z_iload (pc := 33) (i := 4) (by decide +kernel) rfl ?_
      refine z_if_ne (pc := 35) (off := 25) 60 (by decide +kernel) (by decide) ⟨fun hc => ?_, fun hc => ?_⟩
      · have k := k.1 hc
        exact k
      · have k := k.2 hc
        refine z_aload_n (pc := 38) (q := 0) (by decide +kernel) rfl ?_
        refine z_getR (pc := 39) (r0 + 4) fl_Row_28 (shRow h0) rfl (rfRow_6 h0) (by decide +kernel) ?_
        refine z_iload (pc := 42) (i := 6) (by decide +kernel) rfl ?_
        have hb2 := k.1
        have k := k.2
        refine z_iald (pc := 44) (shRow_4 h0) hb2 (by decide +kernel) ?_
        refine z_iload_n (pc := 45) (q := 1) (by decide +kernel) rfl ?_
        refine z_icmp_le (pc := 46) (off := 14) 60 (by decide +kernel) (by decide) ⟨fun hc => ?_, fun hc => ?_⟩
        · have k := k.1 hc
          exact k
        · have k := k.2 hc
          refine z_iload_n (pc := 49) (q := 3) (by decide +kernel) rfl ?_
          refine z_iload_n (pc := 50) (q := 1) (by decide +kernel) rfl ?_
          refine z_calls (pc := 51) (as := [vi a3, vi a1]) ml_Row_69 rfl rfl (Nat.le_of_ble_eq_true rfl) (dc := d - 1) (by omega) (by decide +kernel) (CI.z (CI.mono (fun x3 τ3 k => ?_) k))
          refine z_iload_n (pc := 54) (q := 2) (by decide +kernel) rfl ?_
          refine z_iadd (pc := 55) (by decide +kernel) ?_
          refine z_istore_n (pc := 56) (q := 3) [some (vr r0), some (vi a1), some (vi a2), some (vi (w32 (x3 + a2))), some (vi a4), some (vi a5), some (vi (σ (r0 + 7) a5))] (by decide +kernel) (Nat.le_of_ble_eq_true rfl) rfl ?_
          refine z_iconst (pc := 57) (n := 1) (by decide +kernel) ⟨by decide, by decide⟩ ?_
          refine z_istore (pc := 58) (i := 4) [some (vr r0), some (vi a1), some (vi a2), some (vi (w32 (x3 + a2))), some (vi 1), some (vi a5), some (vi (σ (r0 + 7) a5))] (by decide +kernel) (Nat.le_of_ble_eq_true rfl) rfl ?_
          exact k
theorem b_Row_endWith_60 {E : EN} {d : Nat} {r0 : Nat} {a1 : Int} {a2 : Int} {a3 : Int} {a4 : Int} {a5 : Int} {a6 : Int} {σ : Mem} {K : Int → Mem → Prop} (h0 : isRow r0) (hd : 1 ≤ d) (k : (0 ≤ a6 ∧ a6 < 6) ∧ CI E y_Math_max_II (d - 1) [vi a3, vi (σ (r0 + 4) a6)] σ (fun x1 τ1 => (0 ≤ τ1 (r0 + 1) a6 ∧ τ1 (r0 + 1) a6 < 6) ∧ Z E y_Row_endWith d 8 [some (vr r0), some (vi a1), some (vi a2), some (vi (w32 (x1 + (τ1 9 (τ1 (r0 + 1) a6))))), some (vi a4), some (vi (w32 (a5 + 1))), some (vi a6)] [] τ1 (qi K))) :
    Z E y_Row_endWith d 60 [some (vr r0), some (vi a1), some (vi a2), some (vi a3), some (vi a4), some (vi a5), some (vi a6)] [] σ (qi K) := by
  refine z_iload_n (pc := 60) (q := 3) (by decide +kernel) rfl ?_
  refine z_aload_n (pc := 61) (q := 0) (by decide +kernel) rfl ?_
  refine z_getR (pc := 62) (r0 + 4) fl_Row_28 (shRow h0) rfl (rfRow_6 h0) (by decide +kernel) ?_
  refine z_iload (pc := 65) (i := 6) (by decide +kernel) rfl ?_
  have hb1 := k.1
  have k := k.2
  refine z_iald (pc := 67) (shRow_4 h0) hb1 (by decide +kernel) ?_
  refine z_calls (pc := 68) (as := [vi a3, vi (σ (r0 + 4) a6)]) ml_Row_69 rfl rfl (Nat.le_of_ble_eq_true rfl) (dc := d - 1) (by omega) (by decide +kernel) (CI.z (CI.mono (fun x1 τ1 k => ?_) k))
  refine z_aload_n (pc := 71) (q := 0) (by decide +kernel) rfl ?_
  refine z_getR (pc := 72) 2 fl_Row_43 (shRow h0) rfl (rfRow_0 h0) (by decide +kernel) ?_
  refine z_getR (pc := 75) 9 fl_Row_78 rfl rfl rfl (by decide +kernel) ?_
  refine z_aload_n (pc := 78) (q := 0) (by decide +kernel) rfl ?_
  refine z_getR (pc := 79) (r0 + 1) fl_Row_18 (shRow h0) rfl (rfRow_3 h0) (by decide +kernel) ?_
  refine z_iload (pc := 82) (i := 6) (by decide +kernel) rfl ?_
  refine z_iald (pc := 84) (shRow_1 h0) hb1 (by decide +kernel) ?_
  have hb2 := k.1
  have k := k.2
  refine z_iald (pc := 85) rfl hb2 (by decide +kernel) ?_
  refine z_iadd (pc := 86) (by decide +kernel) ?_
  refine z_istore_n (pc := 87) (q := 3) [some (vr r0), some (vi a1), some (vi a2), some (vi (w32 (x1 + (τ1 9 (τ1 (r0 + 1) a6))))), some (vi a4), some (vi a5), some (vi a6)] (by decide +kernel) (Nat.le_of_ble_eq_true rfl) rfl ?_
  refine z_iinc (pc := 88) (i := 5) (n := 1) [some (vr r0), some (vi a1), some (vi a2), some (vi (w32 (x1 + (τ1 9 (τ1 (r0 + 1) a6))))), some (vi a4), some (vi (w32 (a5 + 1))), some (vi a6)] (by decide +kernel) rfl rfl ?_
  refine z_goto (pc := 91) (off := -83) 8 (by decide +kernel) (by decide) ?_
  exact k
theorem b_Doer_layRow_0 {E : EN} {d : Nat} {r1 : Nat} {a2 : Int} {r3 : Nat} {σ : Mem} {K : Mem → Prop} (h1 : isTray r1) (h3 : isStg r3) (hd : 1 ≤ d) (k : CV E y_Row_clear (d - 1) [vr 73] σ (fun τ1 => Z E y_Doer_layRow d 20 [some (vr 91), some (vr r1), some (vi a2), some (vr r3), some (vi 0)] [] (up (up τ1 91 2 (-1)) 91 3 0) (qv K))) :
    Z E y_Doer_layRow d 0 [some (vr 91), some (vr r1), some (vi a2), some (vr r3), none] [] σ (qv K) := by
  refine z_aload_n (pc := 0) (q := 0) (by decide +kernel) rfl ?_
  refine z_getR (pc := 1) 73 fl_Doer_22 rfl rfl rfl (by decide +kernel) ?_
  refine z_callv (pc := 4) (as := []) ml_Doer_26 rfl ⟨rfl, by decide⟩ rfl rfl (Nat.le_of_ble_eq_true rfl) (dc := d - 1) (by omega) (by decide +kernel) (CV.z (CV.mono (fun τ1 k => ?_) k))
  refine z_aload_n (pc := 7) (q := 0) (by decide +kernel) rfl ?_
  refine z_iconst (pc := 8) (n := -1) (by decide +kernel) ⟨by decide, by decide⟩ ?_
  refine z_putI (pc := 9) 2 fp_Doer_9 rfl rfl rfl (by decide +kernel) ?_
  refine z_aload_n (pc := 12) (q := 0) (by decide +kernel) rfl ?_
  refine z_iconst (pc := 13) (n := 0) (by decide +kernel) ⟨by decide, by decide⟩ ?_
  refine z_putI (pc := 14) 3 fp_Doer_15 rfl rfl rfl (by decide +kernel) ?_
  refine z_iconst (pc := 17) (n := 0) (by decide +kernel) ⟨by decide, by decide⟩ ?_
  refine z_istore (pc := 18) (i := 4) [some (vr 91), some (vr r1), some (vi a2), some (vr r3), some (vi 0)] (by decide +kernel) (Nat.le_of_ble_eq_true rfl) rfl ?_
  exact k
theorem b_Doer_layRow_20 {E : EN} {d : Nat} {r1 : Nat} {a2 : Int} {r3 : Nat} {a4 : Int} {σ : Mem} {K : Mem → Prop} (h1 : isTray r1) (h3 : isStg r3) (hd : 1 ≤ d) (k : (σ r1 1 ≤ a4 → K σ) ∧ (a4 < σ r1 1 → (a2 ≤ a4 → K σ) ∧ (a4 < a2 → (σ 91 3 ≠ 0 → K σ) ∧ (σ 91 3 = 0 → CL E y_Tray_at (d - 1) [vr r1, vi a4] σ (fun x1 τ1 => CI E y_Doer_take (d - 1) [vr 91, vl x1, vr r3] τ1 (fun x2 τ2 => (x2 ≠ 0 → Z E y_Doer_layRow d 20 [some (vr 91), some (vr r1), some (vi a2), some (vr r3), some (vi (w32 (a4 + 1)))] [] (up (up τ2 91 3 x2) 91 2 a4) (qv K)) ∧ (x2 = 0 → Z E y_Doer_layRow d 20 [some (vr 91), some (vr r1), some (vi a2), some (vr r3), some (vi (w32 (a4 + 1)))] [] (up (up τ2 91 3 x2) 91 2 (-1)) (qv K)))))))) :
    Z E y_Doer_layRow d 20 [some (vr 91), some (vr r1), some (vi a2), some (vr r3), some (vi a4)] [] σ (qv K) := by
  refine z_iload (pc := 20) (i := 4) (by decide +kernel) rfl ?_
  refine z_aload_n (pc := 22) (q := 1) (by decide +kernel) rfl ?_
  refine z_getI (pc := 23) 1 fl_Doer_31 (shTray h1) (by decide) rfl (by decide +kernel) ?_
  refine z_icmp_ge (pc := 26) (off := 54) 80 (by decide +kernel) (by decide) ⟨fun hc => ?_, fun hc => ?_⟩
  · have k := k.1 hc
    exact z_vret (pc := 80) (by decide +kernel) rfl k
  · have k := k.2 hc
    refine z_iload (pc := 29) (i := 4) (by decide +kernel) rfl ?_
    refine z_iload_n (pc := 31) (q := 2) (by decide +kernel) rfl ?_
    refine z_icmp_ge (pc := 32) (off := 48) 80 (by decide +kernel) (by decide) ⟨fun hc => ?_, fun hc => ?_⟩
    · have k := k.1 hc
      exact z_vret (pc := 80) (by decide +kernel) rfl k
    · have k := k.2 hc
      refine z_aload_n (pc := 35) (q := 0) (by decide +kernel) rfl ?_
      refine z_getI (pc := 36) 3 fl_Doer_15 rfl (by decide) rfl (by decide +kernel) ?_
      refine z_if_ne (pc := 39) (off := 41) 80 (by decide +kernel) (by decide) ⟨fun hc => ?_, fun hc => ?_⟩
      · have k := k.1 hc
        exact z_vret (pc := 80) (by decide +kernel) rfl k
      · have k := k.2 hc
        refine z_aload_n (pc := 42) (q := 0) (by decide +kernel) rfl ?_
        refine z_aload_n (pc := 43) (q := 0) (by decide +kernel) rfl ?_
        refine z_aload_n (pc := 44) (q := 1) (by decide +kernel) rfl ?_
        refine z_iload (pc := 45) (i := 4) (by decide +kernel) rfl ?_
        refine z_callv (pc := 47) (as := [vi a4]) ml_Doer_36 (shTray h1) ⟨rfl, by decide⟩ rfl rfl (Nat.le_of_ble_eq_true rfl) (dc := d - 1) (by omega) (by decide +kernel) (CL.z (CL.mono (fun x1 τ1 k => ?_) k))
        refine z_aload_n (pc := 50) (q := 3) (by decide +kernel) rfl ?_
        refine z_callv (pc := 51) (as := [vl x1, vr r3]) ml_Doer_40 rfl ⟨rfl, by decide⟩ rfl rfl (Nat.le_of_ble_eq_true rfl) (dc := d - 1) (by omega) (by decide +kernel) (CI.z (CI.mono (fun x2 τ2 k => ?_) k))
        refine z_putI (pc := 54) 3 fp_Doer_15 rfl rfl rfl (by decide +kernel) ?_
        refine z_aload_n (pc := 57) (q := 0) (by decide +kernel) rfl ?_
        refine z_aload_n (pc := 58) (q := 0) (by decide +kernel) rfl ?_
        refine z_getI (pc := 59) 3 fl_Doer_15 rfl (by decide) rfl (by decide +kernel) ?_
        refine z_topI (up_same _ _ _ _) ?_
        refine z_if_ne (pc := 62) (off := 7) 69 (by decide +kernel) (by decide) ⟨fun hc => ?_, fun hc => ?_⟩
        · have k := k.1 hc
          refine z_iload (pc := 69) (i := 4) (by decide +kernel) rfl ?_
          refine z_putI (pc := 71) 2 fp_Doer_9 rfl rfl rfl (by decide +kernel) ?_
          refine z_iinc (pc := 74) (i := 4) (n := 1) [some (vr 91), some (vr r1), some (vi a2), some (vr r3), some (vi (w32 (a4 + 1)))] (by decide +kernel) rfl rfl ?_
          refine z_goto (pc := 77) (off := -57) 20 (by decide +kernel) (by decide) ?_
          exact k
        · have k := k.2 hc
          refine z_iconst (pc := 65) (n := -1) (by decide +kernel) ⟨by decide, by decide⟩ ?_
          refine z_goto (pc := 66) (off := 5) 71 (by decide +kernel) (by decide) ?_
          refine z_putI (pc := 71) 2 fp_Doer_9 rfl rfl rfl (by decide +kernel) ?_
          refine z_iinc (pc := 74) (i := 4) (n := 1) [some (vr 91), some (vr r1), some (vi a2), some (vr r3), some (vi (w32 (a4 + 1)))] (by decide +kernel) rfl rfl ?_
          refine z_goto (pc := 77) (off := -57) 20 (by decide +kernel) (by decide) ?_
          exact k
theorem b_Doer_doAll_0 {E : EN} {d : Nat} {r1 : Nat} {r2 : Nat} {σ : Mem} {K : Int → Mem → Prop} (h1 : isTray r1) (h2 : isStg r2) (hd : 1 ≤ d) (k : CV E y_Row_clear (d - 1) [vr 73] σ (fun τ1 => Z E y_Doer_doAll d 19 [some (vr 91), some (vr r1), some (vr r2), some (vi 0)] [] (up (up τ1 91 2 (-1)) 91 3 0) (qi K))) :
    Z E y_Doer_doAll d 0 [some (vr 91), some (vr r1), some (vr r2), none] [] σ (qi K) := by
  refine z_aload_n (pc := 0) (q := 0) (by decide +kernel) rfl ?_
  refine z_getR (pc := 1) 73 fl_Doer_22 rfl rfl rfl (by decide +kernel) ?_
  refine z_callv (pc := 4) (as := []) ml_Doer_26 rfl ⟨rfl, by decide⟩ rfl rfl (Nat.le_of_ble_eq_true rfl) (dc := d - 1) (by omega) (by decide +kernel) (CV.z (CV.mono (fun τ1 k => ?_) k))
  refine z_aload_n (pc := 7) (q := 0) (by decide +kernel) rfl ?_
  refine z_iconst (pc := 8) (n := -1) (by decide +kernel) ⟨by decide, by decide⟩ ?_
  refine z_putI (pc := 9) 2 fp_Doer_9 rfl rfl rfl (by decide +kernel) ?_
  refine z_aload_n (pc := 12) (q := 0) (by decide +kernel) rfl ?_
  refine z_iconst (pc := 13) (n := 0) (by decide +kernel) ⟨by decide, by decide⟩ ?_
  refine z_putI (pc := 14) 3 fp_Doer_15 rfl rfl rfl (by decide +kernel) ?_
  refine z_iconst (pc := 17) (n := 0) (by decide +kernel) ⟨by decide, by decide⟩ ?_
  refine z_istore_n (pc := 18) (q := 3) [some (vr 91), some (vr r1), some (vr r2), some (vi 0)] (by decide +kernel) (Nat.le_of_ble_eq_true rfl) rfl ?_
  exact k
theorem b_Doer_doAll_19 {E : EN} {d : Nat} {r1 : Nat} {r2 : Nat} {a3 : Int} {σ : Mem} {K : Int → Mem → Prop} (h1 : isTray r1) (h2 : isStg r2) (hd : 1 ≤ d) (k : (σ r1 1 ≤ a3 → CI E y_Math_max_II (d - 1) [vi (σ r1 1), vi 0] σ (fun x1 τ1 => K x1 τ1)) ∧ (a3 < σ r1 1 → CL E y_Tray_at (d - 1) [vr r1, vi a3] σ (fun x2 τ2 => CI E y_Doer_deed (d - 1) [vr 91, vl x2, vr r2] τ2 (fun x3 τ3 => (x3 = 0 → Z E y_Doer_doAll d 19 [some (vr 91), some (vr r1), some (vr r2), some (vi (w32 (a3 + 1)))] [] (up τ3 91 3 x3) (qi K)) ∧ (x3 ≠ 0 → K a3 (up (up τ3 91 3 x3) 91 2 a3)))))) :
    Z E y_Doer_doAll d 19 [some (vr 91), some (vr r1), some (vr r2), some (vi a3)] [] σ (qi K) := by
  refine z_iload_n (pc := 19) (q := 3) (by decide +kernel) rfl ?_
  refine z_aload_n (pc := 20) (q := 1) (by decide +kernel) rfl ?_
  refine z_getI (pc := 21) 1 fl_Doer_31 (shTray h1) (by decide) rfl (by decide +kernel) ?_
  refine z_icmp_ge (pc := 24) (off := 37) 61 (by decide +kernel) (by decide) ⟨fun hc => ?_, fun hc => ?_⟩
  · have k := k.1 hc
    refine z_aload_n (pc := 61) (q := 1) (by decide +kernel) rfl ?_
    refine z_getI (pc := 62) 1 fl_Doer_31 (shTray h1) (by decide) rfl (by decide +kernel) ?_
    refine z_iconst (pc := 65) (n := 0) (by decide +kernel) ⟨by decide, by decide⟩ ?_
    refine z_calls (pc := 66) (as := [vi (σ r1 1), vi 0]) ml_Doer_47 rfl rfl (Nat.le_of_ble_eq_true rfl) (dc := d - 1) (by omega) (by decide +kernel) (CI.z (CI.mono (fun x1 τ1 k => ?_) k))
    exact z_iret (pc := 69) (by decide +kernel) rfl k
  · have k := k.2 hc
    refine z_aload_n (pc := 27) (q := 0) (by decide +kernel) rfl ?_
    refine z_aload_n (pc := 28) (q := 0) (by decide +kernel) rfl ?_
    refine z_aload_n (pc := 29) (q := 1) (by decide +kernel) rfl ?_
    refine z_iload_n (pc := 30) (q := 3) (by decide +kernel) rfl ?_
    refine z_callv (pc := 31) (as := [vi a3]) ml_Doer_36 (shTray h1) ⟨rfl, by decide⟩ rfl rfl (Nat.le_of_ble_eq_true rfl) (dc := d - 1) (by omega) (by decide +kernel) (CL.z (CL.mono (fun x2 τ2 k => ?_) k))
    refine z_aload_n (pc := 34) (q := 2) (by decide +kernel) rfl ?_
    refine z_callv (pc := 35) (as := [vl x2, vr r2]) ml_Doer_44 rfl ⟨rfl, by decide⟩ rfl rfl (Nat.le_of_ble_eq_true rfl) (dc := d - 1) (by omega) (by decide +kernel) (CI.z (CI.mono (fun x3 τ3 k => ?_) k))
    refine z_putI (pc := 38) 3 fp_Doer_15 rfl rfl rfl (by decide +kernel) ?_
    refine z_aload_n (pc := 41) (q := 0) (by decide +kernel) rfl ?_
    refine z_getI (pc := 42) 3 fl_Doer_15 rfl (by decide) rfl (by decide +kernel) ?_
    refine z_topI (up_same _ _ _ _) ?_
    refine z_if_eq (pc := 45) (off := 10) 55 (by decide +kernel) (by decide) ⟨fun hc => ?_, fun hc => ?_⟩
    · have k := k.1 hc
      refine z_iinc (pc := 55) (i := 3) (n := 1) [some (vr 91), some (vr r1), some (vr r2), some (vi (w32 (a3 + 1)))] (by decide +kernel) rfl rfl ?_
      refine z_goto (pc := 58) (off := -39) 19 (by decide +kernel) (by decide) ?_
      exact k
    · have k := k.2 hc
      refine z_aload_n (pc := 48) (q := 0) (by decide +kernel) rfl ?_
      refine z_iload_n (pc := 49) (q := 3) (by decide +kernel) rfl ?_
      refine z_putI (pc := 50) 2 fp_Doer_9 rfl rfl rfl (by decide +kernel) ?_
      refine z_iload_n (pc := 53) (q := 3) (by decide +kernel) rfl ?_
      exact z_iret (pc := 54) (by decide +kernel) rfl k
theorem b_Doer_drawnDeed_0 {E : EN} {d : Nat} {r1 : Nat} {σ : Mem} {K : Mem → Prop} (h1 : isStg r1) (hd : 1 ≤ d) (k : CI E y_Stg_draw (d - 1) [vr r1] σ (fun x1 τ1 => (Int.tmod x1 3 ≠ 0 → (τ1 2 1 ≤ 0 → K τ1) ∧ (0 < τ1 2 1 → CI E y_Stg_draw (d - 1) [vr r1] τ1 (fun x2 τ2 => (τ2 2 1 ≠ 0) ∧ CI E y_Doer_deed (d - 1) [vr 91, vl (w32 (300 + (Int.tmod x2 (τ2 2 1)))), vr r1] τ2 (fun x3 τ3 => K τ3)))) ∧ (Int.tmod x1 3 = 0 → CI E y_Doer_deed (d - 1) [vr 91, vl 200, vr r1] τ1 (fun x4 τ4 => K τ4)))) :
    Z E y_Doer_drawnDeed d 0 [some (vr 91), some (vr r1)] [] σ (qv K) := by
  refine z_aload_n (pc := 0) (q := 1) (by decide +kernel) rfl ?_
  refine z_callv (pc := 1) (as := []) ml_Doer_53 (shStg h1) ⟨rfl, by decide⟩ rfl rfl (Nat.le_of_ble_eq_true rfl) (dc := d - 1) (by omega) (by decide +kernel) (CI.z (CI.mono (fun x1 τ1 k => ?_) k))
  refine z_iconst (pc := 4) (n := 3) (by decide +kernel) ⟨by decide, by decide⟩ ?_
  refine z_irem (pc := 5) (by decide +kernel) (by decide) ?_
  refine z_if_ne (pc := 6) (off := 15) 21 (by decide +kernel) (by decide) ⟨fun hc => ?_, fun hc => ?_⟩
  · have k := k.1 hc
    refine z_aload_n (pc := 21) (q := 0) (by decide +kernel) rfl ?_
    refine z_getR (pc := 22) 2 fl_Doer_18 rfl rfl rfl (by decide +kernel) ?_
    refine z_getI (pc := 25) 1 fl_Doer_61 rfl (by decide) rfl (by decide +kernel) ?_
    refine z_if_le (pc := 28) (off := 26) 54 (by decide +kernel) (by decide) ⟨fun hc => ?_, fun hc => ?_⟩
    · have k := k.1 hc
      exact z_vret (pc := 54) (by decide +kernel) rfl k
    · have k := k.2 hc
      refine z_aload_n (pc := 31) (q := 0) (by decide +kernel) rfl ?_
      refine z_sipush (pc := 32) (n := 300) (by decide +kernel) (by decide) ⟨by decide, by decide⟩ ?_
      refine z_aload_n (pc := 35) (q := 1) (by decide +kernel) rfl ?_
      refine z_callv (pc := 36) (as := []) ml_Doer_53 (shStg h1) ⟨rfl, by decide⟩ rfl rfl (Nat.le_of_ble_eq_true rfl) (dc := d - 1) (by omega) (by decide +kernel) (CI.z (CI.mono (fun x2 τ2 k => ?_) k))
      refine z_aload_n (pc := 39) (q := 0) (by decide +kernel) rfl ?_
      refine z_getR (pc := 40) 2 fl_Doer_18 rfl rfl rfl (by decide +kernel) ?_
      refine z_getI (pc := 43) 1 fl_Doer_61 rfl (by decide) rfl (by decide +kernel) ?_
      have hb1 := k.1
      have k := k.2
      refine z_irem (pc := 46) (by decide +kernel) hb1 ?_
      refine z_iadd (pc := 47) (by decide +kernel) ?_
      refine z_i2l (pc := 48) (by decide +kernel) ?_
      refine z_aload_n (pc := 49) (q := 1) (by decide +kernel) rfl ?_
      refine z_callv (pc := 50) (as := [vl (w32 (300 + (Int.tmod x2 (τ2 2 1)))), vr r1]) ml_Doer_44 rfl ⟨rfl, by decide⟩ rfl rfl (Nat.le_of_ble_eq_true rfl) (dc := d - 1) (by omega) (by decide +kernel) (CI.z (CI.mono (fun x3 τ3 k => ?_) k))
      refine z_pop (pc := 53) (by decide +kernel) rfl ?_
      exact z_vret (pc := 54) (by decide +kernel) rfl k
  · have k := k.2 hc
    refine z_aload_n (pc := 9) (q := 0) (by decide +kernel) rfl ?_
    refine z_ldc2 (pc := 10) (index := 59) 200 (mm4 237 rfl) ⟨by decide, by decide⟩ (by decide +kernel) ?_
    refine z_aload_n (pc := 13) (q := 1) (by decide +kernel) rfl ?_
    refine z_callv (pc := 14) (as := [vl 200, vr r1]) ml_Doer_44 rfl ⟨rfl, by decide⟩ rfl rfl (Nat.le_of_ble_eq_true rfl) (dc := d - 1) (by omega) (by decide +kernel) (CI.z (CI.mono (fun x4 τ4 k => ?_) k))
    refine z_pop (pc := 17) (by decide +kernel) rfl ?_
    refine z_goto (pc := 18) (off := 36) 54 (by decide +kernel) (by decide) ?_
    exact z_vret (pc := 54) (by decide +kernel) rfl k
theorem b_Doer_deed_0 {E : EN} {d : Nat} {b1 : Int} {r3 : Nat} {σ : Mem} {K : Int → Mem → Prop} (h3 : isStg r3) (hd : 1 ≤ d) (k : (lcm b1 100 ≠ 0 → (lcm b1 200 ≠ 0 → (lcm b1 300 < 0 → CI E y_Doer_take (d - 1) [vr 91, vl b1, vr r3] σ (fun x1 τ1 => K x1 τ1)) ∧ (0 ≤ lcm b1 300 → (0 ≤ lcm b1 (w32 (300 + (σ 2 1))) → CI E y_Doer_take (d - 1) [vr 91, vl b1, vr r3] σ (fun x2 τ2 => K x2 τ2)) ∧ (lcm b1 (w32 (300 + (σ 2 1))) < 0 → K 0 (up σ r3 2 (ixo (σ r3 2) (ish 1 (w32 (w64 (b1 - 300))))))))) ∧ (lcm b1 200 = 0 → CI E y_Room_allLetters (d - 1) [vr 2] σ (fun x3 τ3 => CV E y_Doer_ruleRow (d - 1) [vr 91, vi (ian x3 (ixo (τ3 r3 0) (-1))), vi (τ3 r3 2)] τ3 (fun τ4 => CI E y_Doer_readRow (d - 1) [vr 91, vr r3] τ4 (fun x5 τ5 => K 0 τ5))))) ∧ (lcm b1 100 = 0 → CI E y_Doer_readRow (d - 1) [vr 91, vr r3] σ (fun x6 τ6 => K 0 τ6))) :
    Z E y_Doer_deed d 0 [some (vr 91), some (vl b1), none, some (vr r3)] [] σ (qi K) := by
  refine z_lload_n (pc := 0) (q := 1) (by decide +kernel) rfl ?_
  refine z_ldc2 (pc := 1) (index := 66) 100 (mm4 235 rfl) ⟨by decide, by decide⟩ (by decide +kernel) ?_
  refine z_lcmp (pc := 4) (by decide +kernel) ?_
  refine z_if_ne (pc := 5) (off := 11) 16 (by decide +kernel) (by decide) ⟨fun hc => ?_, fun hc => ?_⟩
  · have k := k.1 hc
    refine z_lload_n (pc := 16) (q := 1) (by decide +kernel) rfl ?_
    refine z_ldc2 (pc := 17) (index := 59) 200 (mm4 237 rfl) ⟨by decide, by decide⟩ (by decide +kernel) ?_
    refine z_lcmp (pc := 20) (by decide +kernel) ?_
    refine z_if_ne (pc := 21) (off := 33) 54 (by decide +kernel) (by decide) ⟨fun hc => ?_, fun hc => ?_⟩
    · have k := k.1 hc
      refine z_lload_n (pc := 54) (q := 1) (by decide +kernel) rfl ?_
      refine z_ldc2 (pc := 55) (index := 85) 300 (mm5 0 rfl) ⟨by decide, by decide⟩ (by decide +kernel) ?_
      refine z_lcmp (pc := 58) (by decide +kernel) ?_
      refine z_if_lt (pc := 59) (off := 39) 98 (by decide +kernel) (by decide) ⟨fun hc => ?_, fun hc => ?_⟩
      · have k := k.1 hc
        refine z_aload_n (pc := 98) (q := 0) (by decide +kernel) rfl ?_
        refine z_lload_n (pc := 99) (q := 1) (by decide +kernel) rfl ?_
        refine z_aload_n (pc := 100) (q := 3) (by decide +kernel) rfl ?_
        refine z_callv (pc := 101) (as := [vl b1, vr r3]) ml_Doer_40 rfl ⟨rfl, by decide⟩ rfl rfl (Nat.le_of_ble_eq_true rfl) (dc := d - 1) (by omega) (by decide +kernel) (CI.z (CI.mono (fun x1 τ1 k => ?_) k))
        exact z_iret (pc := 104) (by decide +kernel) rfl k
      · have k := k.2 hc
        refine z_lload_n (pc := 62) (q := 1) (by decide +kernel) rfl ?_
        refine z_sipush (pc := 63) (n := 300) (by decide +kernel) (by decide) ⟨by decide, by decide⟩ ?_
        refine z_aload_n (pc := 66) (q := 0) (by decide +kernel) rfl ?_
        refine z_getR (pc := 67) 2 fl_Doer_18 rfl rfl rfl (by decide +kernel) ?_
        refine z_getI (pc := 70) 1 fl_Doer_61 rfl (by decide) rfl (by decide +kernel) ?_
        refine z_iadd (pc := 73) (by decide +kernel) ?_
        refine z_i2l (pc := 74) (by decide +kernel) ?_
        refine z_lcmp (pc := 75) (by decide +kernel) ?_
        refine z_if_ge (pc := 76) (off := 22) 98 (by decide +kernel) (by decide) ⟨fun hc => ?_, fun hc => ?_⟩
        · have k := k.1 hc
          refine z_aload_n (pc := 98) (q := 0) (by decide +kernel) rfl ?_
          refine z_lload_n (pc := 99) (q := 1) (by decide +kernel) rfl ?_
          refine z_aload_n (pc := 100) (q := 3) (by decide +kernel) rfl ?_
          refine z_callv (pc := 101) (as := [vl b1, vr r3]) ml_Doer_40 rfl ⟨rfl, by decide⟩ rfl rfl (Nat.le_of_ble_eq_true rfl) (dc := d - 1) (by omega) (by decide +kernel) (CI.z (CI.mono (fun x2 τ2 k => ?_) k))
          exact z_iret (pc := 104) (by decide +kernel) rfl k
        · have k := k.2 hc
          refine z_aload_n (pc := 79) (q := 3) (by decide +kernel) rfl ?_
          refine z_dup (pc := 80) (by decide +kernel) rfl ?_
          refine z_getI (pc := 81) 2 fl_Doer_78 (shStg h3) (by decide) rfl (by decide +kernel) ?_
          refine z_iconst (pc := 84) (n := 1) (by decide +kernel) ⟨by decide, by decide⟩ ?_
          refine z_lload_n (pc := 85) (q := 1) (by decide +kernel) rfl ?_
          refine z_ldc2 (pc := 86) (index := 85) 300 (mm5 0 rfl) ⟨by decide, by decide⟩ (by decide +kernel) ?_
          refine z_lsub (pc := 89) (by decide +kernel) ?_
          refine z_l2i (pc := 90) (by decide +kernel) ?_
          refine z_ishl (pc := 91) (by decide +kernel) ?_
          refine z_ixor (pc := 92) (by decide +kernel) ?_
          refine z_putI (pc := 93) 2 fp_Doer_78 (shStg h3) rfl rfl (by decide +kernel) ?_
          refine z_iconst (pc := 96) (n := 0) (by decide +kernel) ⟨by decide, by decide⟩ ?_
          exact z_iret (pc := 97) (by decide +kernel) rfl k
    · have k := k.2 hc
      refine z_aload_n (pc := 24) (q := 0) (by decide +kernel) rfl ?_
      refine z_aload_n (pc := 25) (q := 0) (by decide +kernel) rfl ?_
      refine z_getR (pc := 26) 2 fl_Doer_18 rfl rfl rfl (by decide +kernel) ?_
      refine z_callv (pc := 29) (as := []) ml_Doer_72 rfl ⟨rfl, by decide⟩ rfl rfl (Nat.le_of_ble_eq_true rfl) (dc := d - 1) (by omega) (by decide +kernel) (CI.z (CI.mono (fun x3 τ3 k => ?_) k))
      refine z_aload_n (pc := 32) (q := 3) (by decide +kernel) rfl ?_
      refine z_getI (pc := 33) 0 fl_Doer_75 (shStg h3) (by decide) rfl (by decide +kernel) ?_
      refine z_iconst (pc := 36) (n := -1) (by decide +kernel) ⟨by decide, by decide⟩ ?_
      refine z_ixor (pc := 37) (by decide +kernel) ?_
      refine z_iand (pc := 38) (by decide +kernel) ?_
      refine z_aload_n (pc := 39) (q := 3) (by decide +kernel) rfl ?_
      refine z_getI (pc := 40) 2 fl_Doer_78 (shStg h3) (by decide) rfl (by decide +kernel) ?_
      refine z_callv (pc := 43) (as := [vi (ian x3 (ixo (τ3 r3 0) (-1))), vi (τ3 r3 2)]) ml_Doer_81 rfl ⟨rfl, by decide⟩ rfl rfl (Nat.le_of_ble_eq_true rfl) (dc := d - 1) (by omega) (by decide +kernel) (CV.z (CV.mono (fun τ4 k => ?_) k))
      refine z_aload_n (pc := 46) (q := 0) (by decide +kernel) rfl ?_
      refine z_aload_n (pc := 47) (q := 3) (by decide +kernel) rfl ?_
      refine z_callv (pc := 48) (as := [vr r3]) ml_Doer_68 rfl ⟨rfl, by decide⟩ rfl rfl (Nat.le_of_ble_eq_true rfl) (dc := d - 1) (by omega) (by decide +kernel) (CI.z (CI.mono (fun x5 τ5 k => ?_) k))
      refine z_pop (pc := 51) (by decide +kernel) rfl ?_
      refine z_iconst (pc := 52) (n := 0) (by decide +kernel) ⟨by decide, by decide⟩ ?_
      exact z_iret (pc := 53) (by decide +kernel) rfl k
  · have k := k.2 hc
    refine z_aload_n (pc := 8) (q := 0) (by decide +kernel) rfl ?_
    refine z_aload_n (pc := 9) (q := 3) (by decide +kernel) rfl ?_
    refine z_callv (pc := 10) (as := [vr r3]) ml_Doer_68 rfl ⟨rfl, by decide⟩ rfl rfl (Nat.le_of_ble_eq_true rfl) (dc := d - 1) (by omega) (by decide +kernel) (CI.z (CI.mono (fun x6 τ6 k => ?_) k))
    refine z_pop (pc := 13) (by decide +kernel) rfl ?_
    refine z_iconst (pc := 14) (n := 0) (by decide +kernel) ⟨by decide, by decide⟩ ?_
    exact z_iret (pc := 15) (by decide +kernel) rfl k
theorem b_Doer_take_0 {E : EN} {d : Nat} {b1 : Int} {r3 : Nat} {σ : Mem} {K : Int → Mem → Prop} (h3 : isStg r3) (hd : 1 ≤ d) (k : (lcm b1 0 < 0 → K 1 σ) ∧ (0 ≤ lcm b1 0 → (lcm b1 30 < 0 → CI E y_Room_hasLetter (d - 1) [vr 2, vi (Int.tmod (w32 b1) 10)] σ (fun x1 τ1 => (x1 = 0 → K 1 τ1) ∧ (x1 ≠ 0 → CI E y_Room_hasHand (d - 1) [vr 2, vi (w32 (Int.tdiv (w32 b1) 10))] τ1 (fun x2 τ2 => (x2 ≠ 0 → (ian (isr (ior (τ2 r3 0) (τ2 73 2)) (Int.tmod (w32 b1) 10)) 1 = 0 → Z E y_Doer_take d 81 [some (vr 91), some (vl b1), none, some (vr r3), some (vi (Int.tmod (w32 b1) 10)), some (vi (w32 (Int.tdiv (w32 b1) 10))), none] [vi 0] τ2 (qi K)) ∧ (ian (isr (ior (τ2 r3 0) (τ2 73 2)) (Int.tmod (w32 b1) 10)) 1 ≠ 0 → Z E y_Doer_take d 81 [some (vr 91), some (vl b1), none, some (vr r3), some (vi (Int.tmod (w32 b1) 10)), some (vi (w32 (Int.tdiv (w32 b1) 10))), none] [vi 1] τ2 (qi K))) ∧ (x2 = 0 → K 1 τ2))))) ∧ (0 ≤ lcm b1 30 → K 1 σ))) :
    Z E y_Doer_take d 0 [some (vr 91), some (vl b1), none, some (vr r3), none, none, none] [] σ (qi K) := by
  refine z_lload_n (pc := 0) (q := 1) (by decide +kernel) rfl ?_
  refine z_lconst (pc := 1) (n := 0) 0 (by decide +kernel) (by decide) ⟨by decide, by decide⟩ ?_
  refine z_lcmp (pc := 2) (by decide +kernel) ?_
  refine z_if_lt (pc := 3) (off := 11) 14 (by decide +kernel) (by decide) ⟨fun hc => ?_, fun hc => ?_⟩
  · have k := k.1 hc
    refine z_iconst (pc := 14) (n := 1) (by decide +kernel) ⟨by decide, by decide⟩ ?_
    exact z_iret (pc := 15) (by decide +kernel) rfl k
  · have k := k.2 hc
    refine z_lload_n (pc := 6) (q := 1) (by decide +kernel) rfl ?_
    refine z_ldc2 (pc := 7) (index := 87) 30 (mm4 152 rfl) ⟨by decide, by decide⟩ (by decide +kernel) ?_
    refine z_lcmp (pc := 10) (by decide +kernel) ?_
    refine z_if_lt (pc := 11) (off := 5) 16 (by decide +kernel) (by decide) ⟨fun hc => ?_, fun hc => ?_⟩
    · have k := k.1 hc
      refine z_lload_n (pc := 16) (q := 1) (by decide +kernel) rfl ?_
      refine z_l2i (pc := 17) (by decide +kernel) ?_
      refine z_bipush (pc := 18) (n := 10) (by decide +kernel) (by decide) ⟨by decide, by decide⟩ ?_
      refine z_irem (pc := 20) (by decide +kernel) (by decide) ?_
      refine z_istore (pc := 21) (i := 4) [some (vr 91), some (vl b1), none, some (vr r3), some (vi (Int.tmod (w32 b1) 10)), none, none] (by decide +kernel) (Nat.le_of_ble_eq_true rfl) rfl ?_
      refine z_lload_n (pc := 23) (q := 1) (by decide +kernel) rfl ?_
      refine z_l2i (pc := 24) (by decide +kernel) ?_
      refine z_bipush (pc := 25) (n := 10) (by decide +kernel) (by decide) ⟨by decide, by decide⟩ ?_
      refine z_idiv (pc := 27) (by decide +kernel) (by decide) ?_
      refine z_istore (pc := 28) (i := 5) [some (vr 91), some (vl b1), none, some (vr r3), some (vi (Int.tmod (w32 b1) 10)), some (vi (w32 (Int.tdiv (w32 b1) 10))), none] (by decide +kernel) (Nat.le_of_ble_eq_true rfl) rfl ?_
      refine z_aload_n (pc := 30) (q := 0) (by decide +kernel) rfl ?_
      refine z_getR (pc := 31) 2 fl_Doer_18 rfl rfl rfl (by decide +kernel) ?_
      refine z_iload (pc := 34) (i := 4) (by decide +kernel) rfl ?_
      refine z_callv (pc := 36) (as := [vi (Int.tmod (w32 b1) 10)]) ml_Doer_89 rfl ⟨rfl, by decide⟩ rfl rfl (Nat.le_of_ble_eq_true rfl) (dc := d - 1) (by omega) (by decide +kernel) (CI.z (CI.mono (fun x1 τ1 k => ?_) k))
      refine z_if_eq (pc := 39) (off := 15) 54 (by decide +kernel) (by decide) ⟨fun hc => ?_, fun hc => ?_⟩
      · have k := k.1 hc
        refine z_iconst (pc := 54) (n := 1) (by decide +kernel) ⟨by decide, by decide⟩ ?_
        exact z_iret (pc := 55) (by decide +kernel) rfl k
      · have k := k.2 hc
        refine z_aload_n (pc := 42) (q := 0) (by decide +kernel) rfl ?_
        refine z_getR (pc := 43) 2 fl_Doer_18 rfl rfl rfl (by decide +kernel) ?_
        refine z_iload (pc := 46) (i := 5) (by decide +kernel) rfl ?_
        refine z_callv (pc := 48) (as := [vi (w32 (Int.tdiv (w32 b1) 10))]) ml_Doer_93 rfl ⟨rfl, by decide⟩ rfl rfl (Nat.le_of_ble_eq_true rfl) (dc := d - 1) (by omega) (by decide +kernel) (CI.z (CI.mono (fun x2 τ2 k => ?_) k))
        refine z_if_ne (pc := 51) (off := 5) 56 (by decide +kernel) (by decide) ⟨fun hc => ?_, fun hc => ?_⟩
        · have k := k.1 hc
          refine z_aload_n (pc := 56) (q := 3) (by decide +kernel) rfl ?_
          refine z_getI (pc := 57) 0 fl_Doer_75 (shStg h3) (by decide) rfl (by decide +kernel) ?_
          refine z_aload_n (pc := 60) (q := 0) (by decide +kernel) rfl ?_
          refine z_getR (pc := 61) 73 fl_Doer_22 rfl rfl rfl (by decide +kernel) ?_
          refine z_getI (pc := 64) 2 fl_Doer_96 rfl (by decide) rfl (by decide +kernel) ?_
          refine z_ior (pc := 67) (by decide +kernel) ?_
          refine z_iload (pc := 68) (i := 4) (by decide +kernel) rfl ?_
          refine z_ishr (pc := 70) (by decide +kernel) ?_
          refine z_iconst (pc := 71) (n := 1) (by decide +kernel) ⟨by decide, by decide⟩ ?_
          refine z_iand (pc := 72) (by decide +kernel) ?_
          refine z_if_eq (pc := 73) (off := 7) 80 (by decide +kernel) (by decide) ⟨fun hc => ?_, fun hc => ?_⟩
          · have k := k.1 hc
            refine z_iconst (pc := 80) (n := 0) (by decide +kernel) ⟨by decide, by decide⟩ ?_
            exact k
          · have k := k.2 hc
            refine z_iconst (pc := 76) (n := 1) (by decide +kernel) ⟨by decide, by decide⟩ ?_
            refine z_goto (pc := 77) (off := 4) 81 (by decide +kernel) (by decide) ?_
            exact k
        · have k := k.2 hc
          refine z_iconst (pc := 54) (n := 1) (by decide +kernel) ⟨by decide, by decide⟩ ?_
          exact z_iret (pc := 55) (by decide +kernel) rfl k
    · have k := k.2 hc
      refine z_iconst (pc := 14) (n := 1) (by decide +kernel) ⟨by decide, by decide⟩ ?_
      exact z_iret (pc := 15) (by decide +kernel) rfl k
theorem b_Doer_take_81 {E : EN} {d : Nat} {b1 : Int} {r3 : Nat} {o1 : Option AV} {o2 : Option AV} {a4 : Int} {a5 : Int} {o6 : Option AV} {s0 : Int} {σ : Mem} {K : Int → Mem → Prop} (h3 : isStg r3) (hd : 1 ≤ d) (k : (s0 ≠ 0 → K 2 σ) ∧ (s0 = 0 → CI E y_Room_readersOf (d - 1) [vr 2, vi a4, vi (ian (σ r3 2) (ish 1 a5))] σ (fun x1 τ1 => (x1 ≠ 0 → CV E y_Row_add (d - 1) [vr 73, vi a4, vi a5] τ1 (fun τ2 => CI E y_Row_end (d - 1) [vr 73] τ2 (fun x3 τ3 => (x3 ≤ τ3 2 0 → K 0 τ3) ∧ (τ3 2 0 < x3 → CV E y_Row_drop (d - 1) [vr 73] τ3 (fun τ4 => K 3 τ4))))) ∧ (x1 = 0 → K 2 τ1)))) :
    Z E y_Doer_take d 81 [some (vr 91), o1, o2, some (vr r3), some (vi a4), some (vi a5), o6] [vi s0] σ (qi K) := by
  refine z_istore (pc := 81) (i := 6) [some (vr 91), o1, o2, some (vr r3), some (vi a4), some (vi a5), some (vi s0)] (by decide +kernel) (Nat.le_of_ble_eq_true rfl) rfl ?_
  refine z_iload (pc := 83) (i := 6) (by decide +kernel) rfl ?_
  refine z_if_ne (pc := 85) (off := 24) 109 (by decide +kernel) (by decide) ⟨fun hc => ?_, fun hc => ?_⟩
  · have k := k.1 hc
    refine z_iconst (pc := 109) (n := 2) (by decide +kernel) ⟨by decide, by decide⟩ ?_
    exact z_iret (pc := 110) (by decide +kernel) rfl k
  · have k := k.2 hc
    refine z_aload_n (pc := 88) (q := 0) (by decide +kernel) rfl ?_
    refine z_getR (pc := 89) 2 fl_Doer_18 rfl rfl rfl (by decide +kernel) ?_
    refine z_iload (pc := 92) (i := 4) (by decide +kernel) rfl ?_
    refine z_aload_n (pc := 94) (q := 3) (by decide +kernel) rfl ?_
    refine z_getI (pc := 95) 2 fl_Doer_78 (shStg h3) (by decide) rfl (by decide +kernel) ?_
    refine z_iconst (pc := 98) (n := 1) (by decide +kernel) ⟨by decide, by decide⟩ ?_
    refine z_iload (pc := 99) (i := 5) (by decide +kernel) rfl ?_
    refine z_ishl (pc := 101) (by decide +kernel) ?_
    refine z_iand (pc := 102) (by decide +kernel) ?_
    refine z_callv (pc := 103) (as := [vi a4, vi (ian (σ r3 2) (ish 1 a5))]) ml_Doer_99 rfl ⟨rfl, by decide⟩ rfl rfl (Nat.le_of_ble_eq_true rfl) (dc := d - 1) (by omega) (by decide +kernel) (CI.z (CI.mono (fun x1 τ1 k => ?_) k))
    refine z_if_ne (pc := 106) (off := 5) 111 (by decide +kernel) (by decide) ⟨fun hc => ?_, fun hc => ?_⟩
    · have k := k.1 hc
      refine z_aload_n (pc := 111) (q := 0) (by decide +kernel) rfl ?_
      refine z_getR (pc := 112) 73 fl_Doer_22 rfl rfl rfl (by decide +kernel) ?_
      refine z_iload (pc := 115) (i := 4) (by decide +kernel) rfl ?_
      refine z_iload (pc := 117) (i := 5) (by decide +kernel) rfl ?_
      refine z_callv (pc := 119) (as := [vi a4, vi a5]) ml_Doer_102 rfl ⟨rfl, by decide⟩ rfl rfl (Nat.le_of_ble_eq_true rfl) (dc := d - 1) (by omega) (by decide +kernel) (CV.z (CV.mono (fun τ2 k => ?_) k))
      refine z_aload_n (pc := 122) (q := 0) (by decide +kernel) rfl ?_
      refine z_getR (pc := 123) 73 fl_Doer_22 rfl rfl rfl (by decide +kernel) ?_
      refine z_callv (pc := 126) (as := []) ml_Doer_105 rfl ⟨rfl, by decide⟩ rfl rfl (Nat.le_of_ble_eq_true rfl) (dc := d - 1) (by omega) (by decide +kernel) (CI.z (CI.mono (fun x3 τ3 k => ?_) k))
      refine z_aload_n (pc := 129) (q := 0) (by decide +kernel) rfl ?_
      refine z_getR (pc := 130) 2 fl_Doer_18 rfl rfl rfl (by decide +kernel) ?_
      refine z_getI (pc := 133) 0 fl_Doer_108 rfl (by decide) rfl (by decide +kernel) ?_
      refine z_icmp_le (pc := 136) (off := 12) 148 (by decide +kernel) (by decide) ⟨fun hc => ?_, fun hc => ?_⟩
      · have k := k.1 hc
        refine z_iconst (pc := 148) (n := 0) (by decide +kernel) ⟨by decide, by decide⟩ ?_
        exact z_iret (pc := 149) (by decide +kernel) rfl k
      · have k := k.2 hc
        refine z_aload_n (pc := 139) (q := 0) (by decide +kernel) rfl ?_
        refine z_getR (pc := 140) 73 fl_Doer_22 rfl rfl rfl (by decide +kernel) ?_
        refine z_callv (pc := 143) (as := []) ml_Doer_111 rfl ⟨rfl, by decide⟩ rfl rfl (Nat.le_of_ble_eq_true rfl) (dc := d - 1) (by omega) (by decide +kernel) (CV.z (CV.mono (fun τ4 k => ?_) k))
        refine z_iconst (pc := 146) (n := 3) (by decide +kernel) ⟨by decide, by decide⟩ ?_
        exact z_iret (pc := 147) (by decide +kernel) rfl k
    · have k := k.2 hc
      refine z_iconst (pc := 109) (n := 2) (by decide +kernel) ⟨by decide, by decide⟩ ?_
      exact z_iret (pc := 110) (by decide +kernel) rfl k
theorem b_Doer_ruleRow_0 {E : EN} {d : Nat} {a1 : Int} {a2 : Int} {σ : Mem} {K : Mem → Prop}  (hd : 1 ≤ d) (k : CV E y_Row_clear (d - 1) [vr 73] σ (fun τ1 => Z E y_Doer_ruleRow d 9 [some (vr 91), some (vi a1), some (vi a2), some (vi 0), none] [] τ1 (qv K))) :
    Z E y_Doer_ruleRow d 0 [some (vr 91), some (vi a1), some (vi a2), none, none] [] σ (qv K) := by
  refine z_aload_n (pc := 0) (q := 0) (by decide +kernel) rfl ?_
  refine z_getR (pc := 1) 73 fl_Doer_22 rfl rfl rfl (by decide +kernel) ?_
  refine z_callv (pc := 4) (as := []) ml_Doer_26 rfl ⟨rfl, by decide⟩ rfl rfl (Nat.le_of_ble_eq_true rfl) (dc := d - 1) (by omega) (by decide +kernel) (CV.z (CV.mono (fun τ1 k => ?_) k))
  refine z_iconst (pc := 7) (n := 0) (by decide +kernel) ⟨by decide, by decide⟩ ?_
  refine z_istore_n (pc := 8) (q := 3) [some (vr 91), some (vi a1), some (vi a2), some (vi 0), none] (by decide +kernel) (Nat.le_of_ble_eq_true rfl) rfl ?_
  exact k
theorem b_Doer_ruleRow_9 {E : EN} {d : Nat} {a1 : Int} {a2 : Int} {a3 : Int} {o4 : Option AV} {σ : Mem} {K : Mem → Prop}  (hd : 1 ≤ d) (k : (σ 2 3 ≤ a3 → K σ) ∧ (a3 < σ 2 3 → (ian (isr a1 a3) 1 = 0 → Z E y_Doer_ruleRow d 38 [some (vr 91), some (vi a1), some (vi a2), some (vi a3), o4] [vi (-1)] σ (qv K)) ∧ (ian (isr a1 a3) 1 ≠ 0 → CI E y_Doer_soonestHand (d - 1) [vr 91, vi a3, vi a2] σ (fun x1 τ1 => Z E y_Doer_ruleRow d 38 [some (vr 91), some (vi a1), some (vi a2), some (vi a3), o4] [vi x1] τ1 (qv K))))) :
    Z E y_Doer_ruleRow d 9 [some (vr 91), some (vi a1), some (vi a2), some (vi a3), o4] [] σ (qv K) := by
  refine z_iload_n (pc := 9) (q := 3) (by decide +kernel) rfl ?_
  refine z_aload_n (pc := 10) (q := 0) (by decide +kernel) rfl ?_
  refine z_getR (pc := 11) 2 fl_Doer_18 rfl rfl rfl (by decide +kernel) ?_
  refine z_getI (pc := 14) 3 fl_Doer_114 rfl (by decide) rfl (by decide +kernel) ?_
  refine z_icmp_ge (pc := 17) (off := 69) 86 (by decide +kernel) (by decide) ⟨fun hc => ?_, fun hc => ?_⟩
  · have k := k.1 hc
    exact z_vret (pc := 86) (by decide +kernel) rfl k
  · have k := k.2 hc
    refine z_iload_n (pc := 20) (q := 1) (by decide +kernel) rfl ?_
    refine z_iload_n (pc := 21) (q := 3) (by decide +kernel) rfl ?_
    refine z_ishr (pc := 22) (by decide +kernel) ?_
    refine z_iconst (pc := 23) (n := 1) (by decide +kernel) ⟨by decide, by decide⟩ ?_
    refine z_iand (pc := 24) (by decide +kernel) ?_
    refine z_if_eq (pc := 25) (off := 12) 37 (by decide +kernel) (by decide) ⟨fun hc => ?_, fun hc => ?_⟩
    · have k := k.1 hc
      refine z_iconst (pc := 37) (n := -1) (by decide +kernel) ⟨by decide, by decide⟩ ?_
      exact k
    · have k := k.2 hc
      refine z_aload_n (pc := 28) (q := 0) (by decide +kernel) rfl ?_
      refine z_iload_n (pc := 29) (q := 3) (by decide +kernel) rfl ?_
      refine z_iload_n (pc := 30) (q := 2) (by decide +kernel) rfl ?_
      refine z_callv (pc := 31) (as := [vi a3, vi a2]) ml_Doer_117 rfl ⟨rfl, by decide⟩ rfl rfl (Nat.le_of_ble_eq_true rfl) (dc := d - 1) (by omega) (by decide +kernel) (CI.z (CI.mono (fun x1 τ1 k => ?_) k))
      refine z_goto (pc := 34) (off := 4) 38 (by decide +kernel) (by decide) ?_
      exact k
theorem b_Doer_ruleRow_38 {E : EN} {d : Nat} {a1 : Int} {a2 : Int} {a3 : Int} {o4 : Option AV} {s0 : Int} {σ : Mem} {K : Mem → Prop}  (hd : 1 ≤ d) (k : (s0 = (-1) → Z E y_Doer_ruleRow d 9 [some (vr 91), some (vi a1), some (vi a2), some (vi (w32 (a3 + 1))), some (vi s0)] [] σ (qv K)) ∧ (s0 ≠ (-1) → CV E y_Row_add (d - 1) [vr 73, vi a3, vi s0] σ (fun τ1 => CI E y_Row_end (d - 1) [vr 73] τ1 (fun x2 τ2 => (x2 ≤ τ2 2 0 → Z E y_Doer_ruleRow d 9 [some (vr 91), some (vi a1), some (vi a2), some (vi (w32 (a3 + 1))), some (vi s0)] [] τ2 (qv K)) ∧ (τ2 2 0 < x2 → CV E y_Row_drop (d - 1) [vr 73] τ2 (fun τ3 => Z E y_Doer_ruleRow d 9 [some (vr 91), some (vi a1), some (vi a2), some (vi (w32 (a3 + 1))), some (vi s0)] [] τ3 (qv K))))))) :
    Z E y_Doer_ruleRow d 38 [some (vr 91), some (vi a1), some (vi a2), some (vi a3), o4] [vi s0] σ (qv K) := by
  refine z_istore (pc := 38) (i := 4) [some (vr 91), some (vi a1), some (vi a2), some (vi a3), some (vi s0)] (by decide +kernel) (Nat.le_of_ble_eq_true rfl) rfl ?_
  refine z_iload (pc := 40) (i := 4) (by decide +kernel) rfl ?_
  refine z_iconst (pc := 42) (n := -1) (by decide +kernel) ⟨by decide, by decide⟩ ?_
  refine z_icmp_eq (pc := 43) (off := 37) 80 (by decide +kernel) (by decide) ⟨fun hc => ?_, fun hc => ?_⟩
  · have k := k.1 hc
    refine z_iinc (pc := 80) (i := 3) (n := 1) [some (vr 91), some (vi a1), some (vi a2), some (vi (w32 (a3 + 1))), some (vi s0)] (by decide +kernel) rfl rfl ?_
    refine z_goto (pc := 83) (off := -74) 9 (by decide +kernel) (by decide) ?_
    exact k
  · have k := k.2 hc
    refine z_aload_n (pc := 46) (q := 0) (by decide +kernel) rfl ?_
    refine z_getR (pc := 47) 73 fl_Doer_22 rfl rfl rfl (by decide +kernel) ?_
    refine z_iload_n (pc := 50) (q := 3) (by decide +kernel) rfl ?_
    refine z_iload (pc := 51) (i := 4) (by decide +kernel) rfl ?_
    refine z_callv (pc := 53) (as := [vi a3, vi s0]) ml_Doer_102 rfl ⟨rfl, by decide⟩ rfl rfl (Nat.le_of_ble_eq_true rfl) (dc := d - 1) (by omega) (by decide +kernel) (CV.z (CV.mono (fun τ1 k => ?_) k))
    refine z_aload_n (pc := 56) (q := 0) (by decide +kernel) rfl ?_
    refine z_getR (pc := 57) 73 fl_Doer_22 rfl rfl rfl (by decide +kernel) ?_
    refine z_callv (pc := 60) (as := []) ml_Doer_105 rfl ⟨rfl, by decide⟩ rfl rfl (Nat.le_of_ble_eq_true rfl) (dc := d - 1) (by omega) (by decide +kernel) (CI.z (CI.mono (fun x2 τ2 k => ?_) k))
    refine z_aload_n (pc := 63) (q := 0) (by decide +kernel) rfl ?_
    refine z_getR (pc := 64) 2 fl_Doer_18 rfl rfl rfl (by decide +kernel) ?_
    refine z_getI (pc := 67) 0 fl_Doer_108 rfl (by decide) rfl (by decide +kernel) ?_
    refine z_icmp_le (pc := 70) (off := 10) 80 (by decide +kernel) (by decide) ⟨fun hc => ?_, fun hc => ?_⟩
    · have k := k.1 hc
      refine z_iinc (pc := 80) (i := 3) (n := 1) [some (vr 91), some (vi a1), some (vi a2), some (vi (w32 (a3 + 1))), some (vi s0)] (by decide +kernel) rfl rfl ?_
      refine z_goto (pc := 83) (off := -74) 9 (by decide +kernel) (by decide) ?_
      exact k
    · have k := k.2 hc
      refine z_aload_n (pc := 73) (q := 0) (by decide +kernel) rfl ?_
      refine z_getR (pc := 74) 73 fl_Doer_22 rfl rfl rfl (by decide +kernel) ?_
      refine z_callv (pc := 77) (as := []) ml_Doer_111 rfl ⟨rfl, by decide⟩ rfl rfl (Nat.le_of_ble_eq_true rfl) (dc := d - 1) (by omega) (by decide +kernel) (CV.z (CV.mono (fun τ3 k => ?_) k))
      refine z_iinc (pc := 80) (i := 3) (n := 1) [some (vr 91), some (vi a1), some (vi a2), some (vi (w32 (a3 + 1))), some (vi s0)] (by decide +kernel) rfl rfl ?_
      refine z_goto (pc := 83) (off := -74) 9 (by decide +kernel) (by decide) ?_
      exact k
theorem b_Doer_soonestHand_0 {E : EN} {d : Nat} {a1 : Int} {a2 : Int} {σ : Mem} {K : Int → Mem → Prop}  (hd : 1 ≤ d) (k : CI E y_Room_readersOf (d - 1) [vr 2, vi a1, vi a2] σ (fun x1 τ1 => Z E y_Doer_soonestHand d 19 [some (vr 91), some (vi a1), some (vi a2), some (vi x1), some (vi (-1)), some (vi 0), some (vi 0), none] [] τ1 (qi K))) :
    Z E y_Doer_soonestHand d 0 [some (vr 91), some (vi a1), some (vi a2), none, none, none, none, none] [] σ (qi K) := by
  refine z_aload_n (pc := 0) (q := 0) (by decide +kernel) rfl ?_
  refine z_getR (pc := 1) 2 fl_Doer_18 rfl rfl rfl (by decide +kernel) ?_
  refine z_iload_n (pc := 4) (q := 1) (by decide +kernel) rfl ?_
  refine z_iload_n (pc := 5) (q := 2) (by decide +kernel) rfl ?_
  refine z_callv (pc := 6) (as := [vi a1, vi a2]) ml_Doer_99 rfl ⟨rfl, by decide⟩ rfl rfl (Nat.le_of_ble_eq_true rfl) (dc := d - 1) (by omega) (by decide +kernel) (CI.z (CI.mono (fun x1 τ1 k => ?_) k))
  refine z_istore_n (pc := 9) (q := 3) [some (vr 91), some (vi a1), some (vi a2), some (vi x1), none, none, none, none] (by decide +kernel) (Nat.le_of_ble_eq_true rfl) rfl ?_
  refine z_iconst (pc := 10) (n := -1) (by decide +kernel) ⟨by decide, by decide⟩ ?_
  refine z_istore (pc := 11) (i := 4) [some (vr 91), some (vi a1), some (vi a2), some (vi x1), some (vi (-1)), none, none, none] (by decide +kernel) (Nat.le_of_ble_eq_true rfl) rfl ?_
  refine z_iconst (pc := 13) (n := 0) (by decide +kernel) ⟨by decide, by decide⟩ ?_
  refine z_istore (pc := 14) (i := 5) [some (vr 91), some (vi a1), some (vi a2), some (vi x1), some (vi (-1)), some (vi 0), none, none] (by decide +kernel) (Nat.le_of_ble_eq_true rfl) rfl ?_
  refine z_iconst (pc := 16) (n := 0) (by decide +kernel) ⟨by decide, by decide⟩ ?_
  refine z_istore (pc := 17) (i := 6) [some (vr 91), some (vi a1), some (vi a2), some (vi x1), some (vi (-1)), some (vi 0), some (vi 0), none] (by decide +kernel) (Nat.le_of_ble_eq_true rfl) rfl ?_
  exact k
theorem b_Doer_soonestHand_19 {E : EN} {d : Nat} {a1 : Int} {a2 : Int} {o2 : Option AV} {a3 : Int} {a4 : Int} {a5 : Int} {a6 : Int} {o7 : Option AV} {σ : Mem} {K : Int → Mem → Prop}  (hd : 1 ≤ d) (k : (σ 2 1 ≤ a6 → K a4 σ) ∧ (a6 < σ 2 1 → CI E y_Row_copiedIf (d - 1) [vr 73, vi a1, vi a6] σ (fun x1 τ1 => (ian (isr a3 a6) 1 = 0 → Z E y_Doer_soonestHand d 19 [some (vr 91), some (vi a1), o2, some (vi a3), some (vi a4), some (vi a5), some (vi (w32 (a6 + 1))), some (vi x1)] [] τ1 (qi K)) ∧ (ian (isr a3 a6) 1 ≠ 0 → (a4 = (-1) → Z E y_Doer_soonestHand d 19 [some (vr 91), some (vi a1), o2, some (vi a3), some (vi a6), some (vi x1), some (vi (w32 (a6 + 1))), some (vi x1)] [] τ1 (qi K)) ∧ (a4 ≠ (-1) → (a5 ≤ x1 → Z E y_Doer_soonestHand d 19 [some (vr 91), some (vi a1), o2, some (vi a3), some (vi a4), some (vi a5), some (vi (w32 (a6 + 1))), some (vi x1)] [] τ1 (qi K)) ∧ (x1 < a5 → Z E y_Doer_soonestHand d 19 [some (vr 91), some (vi a1), o2, some (vi a3), some (vi a6), some (vi x1), some (vi (w32 (a6 + 1))), some (vi x1)] [] τ1 (qi K))))))) :
    Z E y_Doer_soonestHand d 19 [some (vr 91), some (vi a1), o2, some (vi a3), some (vi a4), some (vi a5), some (vi a6), o7] [] σ (qi K) := by
  refine z_iload (pc := 19) (i := 6) (by decide +kernel) rfl ?_
  refine z_aload_n (pc := 21) (q := 0) (by decide +kernel) rfl ?_
  refine z_getR (pc := 22) 2 fl_Doer_18 rfl rfl rfl (by decide +kernel) ?_
  refine z_getI (pc := 25) 1 fl_Doer_61 rfl (by decide) rfl (by decide +kernel) ?_
  refine z_icmp_ge (pc := 28) (off := 51) 79 (by decide +kernel) (by decide) ⟨fun hc => ?_, fun hc => ?_⟩
  · have k := k.1 hc
    refine z_iload (pc := 79) (i := 4) (by decide +kernel) rfl ?_
    exact z_iret (pc := 81) (by decide +kernel) rfl k
  · have k := k.2 hc
    refine z_aload_n (pc := 31) (q := 0) (by decide +kernel) rfl ?_
    refine z_getR (pc := 32) 73 fl_Doer_22 rfl rfl rfl (by decide +kernel) ?_
    refine z_iload_n (pc := 35) (q := 1) (by decide +kernel) rfl ?_
    refine z_iload (pc := 36) (i := 6) (by decide +kernel) rfl ?_
    refine z_callv (pc := 38) (as := [vi a1, vi a6]) ml_Doer_120 rfl ⟨rfl, by decide⟩ rfl rfl (Nat.le_of_ble_eq_true rfl) (dc := d - 1) (by omega) (by decide +kernel) (CI.z (CI.mono (fun x1 τ1 k => ?_) k))
    refine z_istore (pc := 41) (i := 7) [some (vr 91), some (vi a1), o2, some (vi a3), some (vi a4), some (vi a5), some (vi a6), some (vi x1)] (by decide +kernel) (Nat.le_of_ble_eq_true rfl) rfl ?_
    refine z_iload_n (pc := 43) (q := 3) (by decide +kernel) rfl ?_
    refine z_iload (pc := 44) (i := 6) (by decide +kernel) rfl ?_
    refine z_ishr (pc := 46) (by decide +kernel) ?_
    refine z_iconst (pc := 47) (n := 1) (by decide +kernel) ⟨by decide, by decide⟩ ?_
    refine z_iand (pc := 48) (by decide +kernel) ?_
    refine z_if_eq (pc := 49) (off := 24) 73 (by decide +kernel) (by decide) ⟨fun hc => ?_, fun hc => ?_⟩
    · have k := k.1 hc
      refine z_iinc (pc := 73) (i := 6) (n := 1) [some (vr 91), some (vi a1), o2, some (vi a3), some (vi a4), some (vi a5), some (vi (w32 (a6 + 1))), some (vi x1)] (by decide +kernel) rfl rfl ?_
      refine z_goto (pc := 76) (off := -57) 19 (by decide +kernel) (by decide) ?_
      exact k
    · have k := k.2 hc
      refine z_iload (pc := 52) (i := 4) (by decide +kernel) rfl ?_
      refine z_iconst (pc := 54) (n := -1) (by decide +kernel) ⟨by decide, by decide⟩ ?_
      refine z_icmp_eq (pc := 55) (off := 10) 65 (by decide +kernel) (by decide) ⟨fun hc => ?_, fun hc => ?_⟩
      · have k := k.1 hc
        refine z_iload (pc := 65) (i := 7) (by decide +kernel) rfl ?_
        refine z_istore (pc := 67) (i := 5) [some (vr 91), some (vi a1), o2, some (vi a3), some (vi a4), some (vi x1), some (vi a6), some (vi x1)] (by decide +kernel) (Nat.le_of_ble_eq_true rfl) rfl ?_
        refine z_iload (pc := 69) (i := 6) (by decide +kernel) rfl ?_
        refine z_istore (pc := 71) (i := 4) [some (vr 91), some (vi a1), o2, some (vi a3), some (vi a6), some (vi x1), some (vi a6), some (vi x1)] (by decide +kernel) (Nat.le_of_ble_eq_true rfl) rfl ?_
        refine z_iinc (pc := 73) (i := 6) (n := 1) [some (vr 91), some (vi a1), o2, some (vi a3), some (vi a6), some (vi x1), some (vi (w32 (a6 + 1))), some (vi x1)] (by decide +kernel) rfl rfl ?_
        refine z_goto (pc := 76) (off := -57) 19 (by decide +kernel) (by decide) ?_
        exact k
      · have k := k.2 hc
        refine z_iload (pc := 58) (i := 7) (by decide +kernel) rfl ?_
        refine z_iload (pc := 60) (i := 5) (by decide +kernel) rfl ?_
        refine z_icmp_ge (pc := 62) (off := 11) 73 (by decide +kernel) (by decide) ⟨fun hc => ?_, fun hc => ?_⟩
        · have k := k.1 hc
          refine z_iinc (pc := 73) (i := 6) (n := 1) [some (vr 91), some (vi a1), o2, some (vi a3), some (vi a4), some (vi a5), some (vi (w32 (a6 + 1))), some (vi x1)] (by decide +kernel) rfl rfl ?_
          refine z_goto (pc := 76) (off := -57) 19 (by decide +kernel) (by decide) ?_
          exact k
        · have k := k.2 hc
          refine z_iload (pc := 65) (i := 7) (by decide +kernel) rfl ?_
          refine z_istore (pc := 67) (i := 5) [some (vr 91), some (vi a1), o2, some (vi a3), some (vi a4), some (vi x1), some (vi a6), some (vi x1)] (by decide +kernel) (Nat.le_of_ble_eq_true rfl) rfl ?_
          refine z_iload (pc := 69) (i := 6) (by decide +kernel) rfl ?_
          refine z_istore (pc := 71) (i := 4) [some (vr 91), some (vi a1), o2, some (vi a3), some (vi a6), some (vi x1), some (vi a6), some (vi x1)] (by decide +kernel) (Nat.le_of_ble_eq_true rfl) rfl ?_
          refine z_iinc (pc := 73) (i := 6) (n := 1) [some (vr 91), some (vi a1), o2, some (vi a3), some (vi a6), some (vi x1), some (vi (w32 (a6 + 1))), some (vi x1)] (by decide +kernel) rfl rfl ?_
          refine z_goto (pc := 76) (off := -57) 19 (by decide +kernel) (by decide) ?_
          exact k
theorem b_Doer_readRow_0 {E : EN} {d : Nat} {r1 : Nat} {σ : Mem} {K : Int → Mem → Prop} (h1 : isStg r1) (k : Z E y_Doer_readRow d 4 [some (vr 91), some (vr r1), some (vi 0), some (vi 0), none] [] σ (qi K)) :
    Z E y_Doer_readRow d 0 [some (vr 91), some (vr r1), none, none, none] [] σ (qi K) := by
  refine z_iconst (pc := 0) (n := 0) (by decide +kernel) ⟨by decide, by decide⟩ ?_
  refine z_istore_n (pc := 1) (q := 2) [some (vr 91), some (vr r1), some (vi 0), none, none] (by decide +kernel) (Nat.le_of_ble_eq_true rfl) rfl ?_
  refine z_iconst (pc := 2) (n := 0) (by decide +kernel) ⟨by decide, by decide⟩ ?_
  refine z_istore_n (pc := 3) (q := 3) [some (vr 91), some (vr r1), some (vi 0), some (vi 0), none] (by decide +kernel) (Nat.le_of_ble_eq_true rfl) rfl ?_
  exact k
theorem b_Doer_readRow_4 {E : EN} {d : Nat} {r1 : Nat} {a2 : Int} {a3 : Int} {o4 : Option AV} {σ : Mem} {K : Int → Mem → Prop} (h1 : isStg r1) (hd : 1 ≤ d) (k : (σ 73 1 ≤ a3 → CV E y_Row_clear (d - 1) [vr 73] (up σ r1 3 (w32 ((σ r1 3) + 1))) (fun τ1 => K a2 τ1)) ∧ (a3 < σ 73 1 → (6 ≤ a3 → CV E y_Row_clear (d - 1) [vr 73] (up σ r1 3 (w32 ((σ r1 3) + 1))) (fun τ2 => K a2 τ2)) ∧ (a3 < 6 → (0 ≤ a3 ∧ a3 < 6) ∧ CI E y_Stg_draw (d - 1) [vr r1] (up σ r1 0 (ior (σ r1 0) (ish 1 (σ 74 a3)))) (fun x3 τ3 => (0 ≤ σ 74 a3 ∧ σ 74 a3 < 6) ∧ (τ3 10 (σ 74 a3) ≤ Int.tmod x3 100 → Z E y_Doer_readRow d 4 [some (vr 91), some (vr r1), some (vi a2), some (vi (w32 (a3 + 1))), some (vi (σ 74 a3))] [] τ3 (qi K)) ∧ (Int.tmod x3 100 < τ3 10 (σ 74 a3) → Z E y_Doer_readRow d 4 [some (vr 91), some (vr r1), some (vi (w32 (a2 + 1))), some (vi (w32 (a3 + 1))), some (vi (σ 74 a3))] [] (up τ3 r1 1 (ior (τ3 r1 1) (ish 1 (σ 74 a3)))) (qi K)))))) :
    Z E y_Doer_readRow d 4 [some (vr 91), some (vr r1), some (vi a2), some (vi a3), o4] [] σ (qi K) := by
  refine z_iload_n (pc := 4) (q := 3) (by decide +kernel) rfl ?_
  refine z_aload_n (pc := 5) (q := 0) (by decide +kernel) rfl ?_
  refine z_getR (pc := 6) 73 fl_Doer_22 rfl rfl rfl (by decide +kernel) ?_
  refine z_getI (pc := 9) 1 fl_Doer_123 rfl (by decide) rfl (by decide +kernel) ?_
  refine z_icmp_ge (pc := 12) (off := 75) 87 (by decide +kernel) (by decide) ⟨fun hc => ?_, fun hc => ?_⟩
  · have k := k.1 hc
    refine z_aload_n (pc := 87) (q := 1) (by decide +kernel) rfl ?_
    refine z_dup (pc := 88) (by decide +kernel) rfl ?_
    refine z_getI (pc := 89) 3 fl_Doer_133 (shStg h1) (by decide) rfl (by decide +kernel) ?_
    refine z_iconst (pc := 92) (n := 1) (by decide +kernel) ⟨by decide, by decide⟩ ?_
    refine z_iadd (pc := 93) (by decide +kernel) ?_
    refine z_putI (pc := 94) 3 fp_Doer_133 (shStg h1) rfl rfl (by decide +kernel) ?_
    refine z_aload_n (pc := 97) (q := 0) (by decide +kernel) rfl ?_
    refine z_getR (pc := 98) 73 fl_Doer_22 rfl rfl rfl (by decide +kernel) ?_
    refine z_callv (pc := 101) (as := []) ml_Doer_26 rfl ⟨rfl, by decide⟩ rfl rfl (Nat.le_of_ble_eq_true rfl) (dc := d - 1) (by omega) (by decide +kernel) (CV.z (CV.mono (fun τ1 k => ?_) k))
    refine z_iload_n (pc := 104) (q := 2) (by decide +kernel) rfl ?_
    exact z_iret (pc := 105) (by decide +kernel) rfl k
  · have k := k.2 hc
    refine z_iload_n (pc := 15) (q := 3) (by decide +kernel) rfl ?_
    refine z_bipush (pc := 16) (n := 6) (by decide +kernel) (by decide) ⟨by decide, by decide⟩ ?_
    refine z_icmp_ge (pc := 18) (off := 69) 87 (by decide +kernel) (by decide) ⟨fun hc => ?_, fun hc => ?_⟩
    · have k := k.1 hc
      refine z_aload_n (pc := 87) (q := 1) (by decide +kernel) rfl ?_
      refine z_dup (pc := 88) (by decide +kernel) rfl ?_
      refine z_getI (pc := 89) 3 fl_Doer_133 (shStg h1) (by decide) rfl (by decide +kernel) ?_
      refine z_iconst (pc := 92) (n := 1) (by decide +kernel) ⟨by decide, by decide⟩ ?_
      refine z_iadd (pc := 93) (by decide +kernel) ?_
      refine z_putI (pc := 94) 3 fp_Doer_133 (shStg h1) rfl rfl (by decide +kernel) ?_
      refine z_aload_n (pc := 97) (q := 0) (by decide +kernel) rfl ?_
      refine z_getR (pc := 98) 73 fl_Doer_22 rfl rfl rfl (by decide +kernel) ?_
      refine z_callv (pc := 101) (as := []) ml_Doer_26 rfl ⟨rfl, by decide⟩ rfl rfl (Nat.le_of_ble_eq_true rfl) (dc := d - 1) (by omega) (by decide +kernel) (CV.z (CV.mono (fun τ2 k => ?_) k))
      refine z_iload_n (pc := 104) (q := 2) (by decide +kernel) rfl ?_
      exact z_iret (pc := 105) (by decide +kernel) rfl k
    · have k := k.2 hc
      refine z_aload_n (pc := 21) (q := 0) (by decide +kernel) rfl ?_
      refine z_getR (pc := 22) 73 fl_Doer_22 rfl rfl rfl (by decide +kernel) ?_
      refine z_getR (pc := 25) 74 fl_Doer_124 rfl rfl rfl (by decide +kernel) ?_
      refine z_iload_n (pc := 28) (q := 3) (by decide +kernel) rfl ?_
      have hb1 := k.1
      have k := k.2
      refine z_iald (pc := 29) rfl hb1 (by decide +kernel) ?_
      refine z_istore (pc := 30) (i := 4) [some (vr 91), some (vr r1), some (vi a2), some (vi a3), some (vi (σ 74 a3))] (by decide +kernel) (Nat.le_of_ble_eq_true rfl) rfl ?_
      refine z_aload_n (pc := 32) (q := 1) (by decide +kernel) rfl ?_
      refine z_dup (pc := 33) (by decide +kernel) rfl ?_
      refine z_getI (pc := 34) 0 fl_Doer_75 (shStg h1) (by decide) rfl (by decide +kernel) ?_
      refine z_iconst (pc := 37) (n := 1) (by decide +kernel) ⟨by decide, by decide⟩ ?_
      refine z_iload (pc := 38) (i := 4) (by decide +kernel) rfl ?_
      refine z_ishl (pc := 40) (by decide +kernel) ?_
      refine z_ior (pc := 41) (by decide +kernel) ?_
      refine z_putI (pc := 42) 0 fp_Doer_75 (shStg h1) rfl rfl (by decide +kernel) ?_
      refine z_aload_n (pc := 45) (q := 1) (by decide +kernel) rfl ?_
      refine z_callv (pc := 46) (as := []) ml_Doer_53 (shStg h1) ⟨rfl, by decide⟩ rfl rfl (Nat.le_of_ble_eq_true rfl) (dc := d - 1) (by omega) (by decide +kernel) (CI.z (CI.mono (fun x3 τ3 k => ?_) k))
      refine z_bipush (pc := 49) (n := 100) (by decide +kernel) (by decide) ⟨by decide, by decide⟩ ?_
      refine z_irem (pc := 51) (by decide +kernel) (by decide) ?_
      refine z_aload_n (pc := 52) (q := 0) (by decide +kernel) rfl ?_
      refine z_getR (pc := 53) 2 fl_Doer_18 rfl rfl rfl (by decide +kernel) ?_
      refine z_getR (pc := 56) 10 fl_Doer_127 rfl rfl rfl (by decide +kernel) ?_
      refine z_iload (pc := 59) (i := 4) (by decide +kernel) rfl ?_
      have hb2 := k.1
      have k := k.2
      refine z_iald (pc := 61) rfl hb2 (by decide +kernel) ?_
      refine z_icmp_ge (pc := 62) (off := 19) 81 (by decide +kernel) (by decide) ⟨fun hc => ?_, fun hc => ?_⟩
      · have k := k.1 hc
        refine z_iinc (pc := 81) (i := 3) (n := 1) [some (vr 91), some (vr r1), some (vi a2), some (vi (w32 (a3 + 1))), some (vi (σ 74 a3))] (by decide +kernel) rfl rfl ?_
        refine z_goto (pc := 84) (off := -80) 4 (by decide +kernel) (by decide) ?_
        exact k
      · have k := k.2 hc
        refine z_aload_n (pc := 65) (q := 1) (by decide +kernel) rfl ?_
        refine z_dup (pc := 66) (by decide +kernel) rfl ?_
        refine z_getI (pc := 67) 1 fl_Doer_130 (shStg h1) (by decide) rfl (by decide +kernel) ?_
        refine z_iconst (pc := 70) (n := 1) (by decide +kernel) ⟨by decide, by decide⟩ ?_
        refine z_iload (pc := 71) (i := 4) (by decide +kernel) rfl ?_
        refine z_ishl (pc := 73) (by decide +kernel) ?_
        refine z_ior (pc := 74) (by decide +kernel) ?_
        refine z_putI (pc := 75) 1 fp_Doer_130 (shStg h1) rfl rfl (by decide +kernel) ?_
        refine z_iinc (pc := 78) (i := 2) (n := 1) [some (vr 91), some (vr r1), some (vi (w32 (a2 + 1))), some (vi a3), some (vi (σ 74 a3))] (by decide +kernel) rfl rfl ?_
        refine z_iinc (pc := 81) (i := 3) (n := 1) [some (vr 91), some (vr r1), some (vi (w32 (a2 + 1))), some (vi (w32 (a3 + 1))), some (vi (σ 74 a3))] (by decide +kernel) rfl rfl ?_
        refine z_goto (pc := 84) (off := -80) 4 (by decide +kernel) (by decide) ?_
        exact k
theorem b_Laws_clear_0 {E : EN} {d : Nat}  {σ : Mem} {K : Mem → Prop}  (hd : 1 ≤ d) (k : CV E y_Arr_fill_AII (d - 1) [vr 70, vi 0] (up σ 68 1 0) (fun τ1 => CV E y_Arr_fill_AII (d - 1) [vr 71, vi 0] τ1 (fun τ2 => K τ2))) :
    Z E y_Laws_clear d 0 [some (vr 68)] [] σ (qv K) := by
  refine z_aload_n (pc := 0) (q := 0) (by decide +kernel) rfl ?_
  refine z_iconst (pc := 1) (n := 0) (by decide +kernel) ⟨by decide, by decide⟩ ?_
  refine z_putI (pc := 2) 1 fp_Laws_15 rfl rfl rfl (by decide +kernel) ?_
  refine z_aload_n (pc := 5) (q := 0) (by decide +kernel) rfl ?_
  refine z_getR (pc := 6) 70 fl_Laws_19 rfl rfl rfl (by decide +kernel) ?_
  refine z_iconst (pc := 9) (n := 0) (by decide +kernel) ⟨by decide, by decide⟩ ?_
  refine z_calls (pc := 10) (as := [vr 70, vi 0]) ml_Laws_29 rfl rfl (Nat.le_of_ble_eq_true rfl) (dc := d - 1) (by omega) (by decide +kernel) (CV.z (CV.mono (fun τ1 k => ?_) k))
  refine z_aload_n (pc := 13) (q := 0) (by decide +kernel) rfl ?_
  refine z_getR (pc := 14) 71 fl_Laws_22 rfl rfl rfl (by decide +kernel) ?_
  refine z_iconst (pc := 17) (n := 0) (by decide +kernel) ⟨by decide, by decide⟩ ?_
  refine z_calls (pc := 18) (as := [vr 71, vi 0]) ml_Laws_29 rfl rfl (Nat.le_of_ble_eq_true rfl) (dc := d - 1) (by omega) (by decide +kernel) (CV.z (CV.mono (fun τ2 k => ?_) k))
  exact z_vret (pc := 21) (by decide +kernel) rfl k
theorem b_Laws_begin_0 {E : EN} {d : Nat} {a1 : Int} {σ : Mem} {K : Mem → Prop}  (k : (a1 < 0 → K σ) ∧ (0 ≤ a1 → (4 ≤ a1 → K σ) ∧ (a1 < 4 → (0 ≤ a1 ∧ a1 < 4) ∧ K (up σ 70 a1 (σ 68 1))))) :
    Z E y_Laws_begin d 0 [some (vr 68), some (vi a1)] [] σ (qv K) := by
  refine z_iload_n (pc := 0) (q := 1) (by decide +kernel) rfl ?_
  refine z_if_lt (pc := 1) (off := 18) 19 (by decide +kernel) (by decide) ⟨fun hc => ?_, fun hc => ?_⟩
  · have k := k.1 hc
    exact z_vret (pc := 19) (by decide +kernel) rfl k
  · have k := k.2 hc
    refine z_iload_n (pc := 4) (q := 1) (by decide +kernel) rfl ?_
    refine z_iconst (pc := 5) (n := 4) (by decide +kernel) ⟨by decide, by decide⟩ ?_
    refine z_icmp_ge (pc := 6) (off := 13) 19 (by decide +kernel) (by decide) ⟨fun hc => ?_, fun hc => ?_⟩
    · have k := k.1 hc
      exact z_vret (pc := 19) (by decide +kernel) rfl k
    · have k := k.2 hc
      refine z_aload_n (pc := 9) (q := 0) (by decide +kernel) rfl ?_
      refine z_getR (pc := 10) 70 fl_Laws_19 rfl rfl rfl (by decide +kernel) ?_
      refine z_iload_n (pc := 13) (q := 1) (by decide +kernel) rfl ?_
      refine z_aload_n (pc := 14) (q := 0) (by decide +kernel) rfl ?_
      refine z_getI (pc := 15) 1 fl_Laws_15 rfl (by decide) rfl (by decide +kernel) ?_
      have hb1 := k.1
      have k := k.2
      refine z_iast (pc := 18) rfl hb1 (by decide +kernel) ?_
      exact z_vret (pc := 19) (by decide +kernel) rfl k
theorem b_Laws_finish_0 {E : EN} {d : Nat} {a1 : Int} {σ : Mem} {K : Mem → Prop}  (k : (a1 < 0 → K σ) ∧ (0 ≤ a1 → (4 ≤ a1 → K σ) ∧ (a1 < 4 → (0 ≤ a1 ∧ a1 < 4) ∧ K (up σ 71 a1 (σ 68 1))))) :
    Z E y_Laws_finish d 0 [some (vr 68), some (vi a1)] [] σ (qv K) := by
  refine z_iload_n (pc := 0) (q := 1) (by decide +kernel) rfl ?_
  refine z_if_lt (pc := 1) (off := 18) 19 (by decide +kernel) (by decide) ⟨fun hc => ?_, fun hc => ?_⟩
  · have k := k.1 hc
    exact z_vret (pc := 19) (by decide +kernel) rfl k
  · have k := k.2 hc
    refine z_iload_n (pc := 4) (q := 1) (by decide +kernel) rfl ?_
    refine z_iconst (pc := 5) (n := 4) (by decide +kernel) ⟨by decide, by decide⟩ ?_
    refine z_icmp_ge (pc := 6) (off := 13) 19 (by decide +kernel) (by decide) ⟨fun hc => ?_, fun hc => ?_⟩
    · have k := k.1 hc
      exact z_vret (pc := 19) (by decide +kernel) rfl k
    · have k := k.2 hc
      refine z_aload_n (pc := 9) (q := 0) (by decide +kernel) rfl ?_
      refine z_getR (pc := 10) 71 fl_Laws_22 rfl rfl rfl (by decide +kernel) ?_
      refine z_iload_n (pc := 13) (q := 1) (by decide +kernel) rfl ?_
      refine z_aload_n (pc := 14) (q := 0) (by decide +kernel) rfl ?_
      refine z_getI (pc := 15) 1 fl_Laws_15 rfl (by decide) rfl (by decide +kernel) ?_
      have hb1 := k.1
      have k := k.2
      refine z_iast (pc := 18) rfl hb1 (by decide +kernel) ?_
      exact z_vret (pc := 19) (by decide +kernel) rfl k
theorem b_Laws_add_0 {E : EN} {d : Nat} {a1 : Int} {σ : Mem} {K : Mem → Prop}  (k : (900 ≤ σ 68 1 → K σ) ∧ (σ 68 1 < 900 → (0 ≤ σ 68 1 ∧ σ 68 1 < 900) ∧ K (up (up σ 69 (σ 68 1) a1) 68 1 (w32 ((σ 68 1) + 1))))) :
    Z E y_Laws_add d 0 [some (vr 68), some (vi a1)] [] σ (qv K) := by
  refine z_aload_n (pc := 0) (q := 0) (by decide +kernel) rfl ?_
  refine z_getI (pc := 1) 1 fl_Laws_15 rfl (by decide) rfl (by decide +kernel) ?_
  refine z_sipush (pc := 4) (n := 900) (by decide +kernel) (by decide) ⟨by decide, by decide⟩ ?_
  refine z_icmp_ge (pc := 7) (off := 23) 30 (by decide +kernel) (by decide) ⟨fun hc => ?_, fun hc => ?_⟩
  · have k := k.1 hc
    exact z_vret (pc := 30) (by decide +kernel) rfl k
  · have k := k.2 hc
    refine z_aload_n (pc := 10) (q := 0) (by decide +kernel) rfl ?_
    refine z_getR (pc := 11) 69 fl_Laws_9 rfl rfl rfl (by decide +kernel) ?_
    refine z_aload_n (pc := 14) (q := 0) (by decide +kernel) rfl ?_
    refine z_getI (pc := 15) 1 fl_Laws_15 rfl (by decide) rfl (by decide +kernel) ?_
    refine z_iload_n (pc := 18) (q := 1) (by decide +kernel) rfl ?_
    have hb1 := k.1
    have k := k.2
    refine z_iast (pc := 19) rfl hb1 (by decide +kernel) ?_
    refine z_aload_n (pc := 20) (q := 0) (by decide +kernel) rfl ?_
    refine z_dup (pc := 21) (by decide +kernel) rfl ?_
    refine z_getI (pc := 22) 1 fl_Laws_15 rfl (by decide) rfl (by decide +kernel) ?_
    refine z_topI (up_nc (by decide)) ?_
    refine z_iconst (pc := 25) (n := 1) (by decide +kernel) ⟨by decide, by decide⟩ ?_
    refine z_iadd (pc := 26) (by decide +kernel) ?_
    refine z_putI (pc := 27) 1 fp_Laws_15 rfl rfl rfl (by decide +kernel) ?_
    exact z_vret (pc := 30) (by decide +kernel) rfl k
theorem b_Laws_workOut_0 {E : EN} {d : Nat} {r1 : Nat} {σ : Mem} {K : Mem → Prop} (h1 : isRoom r1) (k : Z E y_Laws_workOut d 2 [some (vr 68), some (vr r1), some (vi 0), none, none] [] σ (qv K)) :
    Z E y_Laws_workOut d 0 [some (vr 68), some (vr r1), none, none, none] [] σ (qv K) := by
  refine z_iconst (pc := 0) (n := 0) (by decide +kernel) ⟨by decide, by decide⟩ ?_
  refine z_istore_n (pc := 1) (q := 2) [some (vr 68), some (vr r1), some (vi 0), none, none] (by decide +kernel) (Nat.le_of_ble_eq_true rfl) rfl ?_
  exact k
theorem b_Laws_workOut_2 {E : EN} {d : Nat} {r1 : Nat} {a2 : Int} {o3 : Option AV} {o4 : Option AV} {σ : Mem} {K : Mem → Prop} (h1 : isRoom r1) (hd : 1 ≤ d) (k : (σ r1 3 ≤ a2 → K σ) ∧ (a2 < σ r1 3 → (6 ≤ a2 → K σ) ∧ (a2 < 6 → CI E y_Laws_told (d - 1) [vr 68, vi 0] σ (fun x1 τ1 => (x1 = 0 → Z E y_Laws_workOut d 48 [some (vr 68), some (vr r1), some (vi a2), o3, o4] [vi 2, vi a2, vr (r1 + 6)] τ1 (qv K)) ∧ (x1 ≠ 0 → CL E y_Laws_result (d - 1) [vr 68, vi 0, vr r1, vi a2, vi 0] τ1 (fun x2 τ2 => CI E y_Laws_within (d - 1) [vl x2, vi 0, vi 999] τ2 (fun x3 τ3 => Z E y_Laws_workOut d 48 [some (vr 68), some (vr r1), some (vi a2), o3, o4] [vi x3, vi a2, vr (r1 + 6)] τ3 (qv K)))))))) :
    Z E y_Laws_workOut d 2 [some (vr 68), some (vr r1), some (vi a2), o3, o4] [] σ (qv K) := by
  refine z_iload_n (pc := 2) (q := 2) (by decide +kernel) rfl ?_
  refine z_aload_n (pc := 3) (q := 1) (by decide +kernel) rfl ?_
  refine z_getI (pc := 4) 3 fl_Laws_35 (shRoom h1) (by decide) rfl (by decide +kernel) ?_
  refine z_icmp_ge (pc := 7) (off := 239) 246 (by decide +kernel) (by decide) ⟨fun hc => ?_, fun hc => ?_⟩
  · have k := k.1 hc
    exact z_vret (pc := 246) (by decide +kernel) rfl k
  · have k := k.2 hc
    refine z_iload_n (pc := 10) (q := 2) (by decide +kernel) rfl ?_
    refine z_bipush (pc := 11) (n := 6) (by decide +kernel) (by decide) ⟨by decide, by decide⟩ ?_
    refine z_icmp_ge (pc := 13) (off := 233) 246 (by decide +kernel) (by decide) ⟨fun hc => ?_, fun hc => ?_⟩
    · have k := k.1 hc
      exact z_vret (pc := 246) (by decide +kernel) rfl k
    · have k := k.2 hc
      refine z_aload_n (pc := 16) (q := 1) (by decide +kernel) rfl ?_
      refine z_getR (pc := 17) (r1 + 6) fl_Laws_40 (shRoom h1) rfl (rfRoom_12 h1) (by decide +kernel) ?_
      refine z_iload_n (pc := 20) (q := 2) (by decide +kernel) rfl ?_
      refine z_aload_n (pc := 21) (q := 0) (by decide +kernel) rfl ?_
      refine z_iconst (pc := 22) (n := 0) (by decide +kernel) ⟨by decide, by decide⟩ ?_
      refine z_callv (pc := 23) (as := [vi 0]) ml_Laws_43 rfl ⟨rfl, by decide⟩ rfl rfl (Nat.le_of_ble_eq_true rfl) (dc := d - 1) (by omega) (by decide +kernel) (CI.z (CI.mono (fun x1 τ1 k => ?_) k))
      refine z_if_eq (pc := 26) (off := 21) 47 (by decide +kernel) (by decide) ⟨fun hc => ?_, fun hc => ?_⟩
      · have k := k.1 hc
        refine z_iconst (pc := 47) (n := 2) (by decide +kernel) ⟨by decide, by decide⟩ ?_
        exact k
      · have k := k.2 hc
        refine z_aload_n (pc := 29) (q := 0) (by decide +kernel) rfl ?_
        refine z_iconst (pc := 30) (n := 0) (by decide +kernel) ⟨by decide, by decide⟩ ?_
        refine z_aload_n (pc := 31) (q := 1) (by decide +kernel) rfl ?_
        refine z_iload_n (pc := 32) (q := 2) (by decide +kernel) rfl ?_
        refine z_iconst (pc := 33) (n := 0) (by decide +kernel) ⟨by decide, by decide⟩ ?_
        refine z_callv (pc := 34) (as := [vi 0, vr r1, vi a2, vi 0]) ml_Laws_47 rfl ⟨rfl, by decide⟩ rfl rfl (Nat.le_of_ble_eq_true rfl) (dc := d - 1) (by omega) (by decide +kernel) (CL.z (CL.mono (fun x2 τ2 k => ?_) k))
        refine z_iconst (pc := 37) (n := 0) (by decide +kernel) ⟨by decide, by decide⟩ ?_
        refine z_sipush (pc := 38) (n := 999) (by decide +kernel) (by decide) ⟨by decide, by decide⟩ ?_
        refine z_calls (pc := 41) (as := [vl x2, vi 0, vi 999]) ml_Laws_51 rfl rfl (Nat.le_of_ble_eq_true rfl) (dc := d - 1) (by omega) (by decide +kernel) (CI.z (CI.mono (fun x3 τ3 k => ?_) k))
        refine z_goto (pc := 44) (off := 4) 48 (by decide +kernel) (by decide) ?_
        exact k
theorem b_Laws_workOut_48 {E : EN} {d : Nat} {r1 : Nat} {a2 : Int} {o3 : Option AV} {o4 : Option AV} {s0 : Int} {s1 : Int} {σ : Mem} {K : Mem → Prop} (h1 : isRoom r1) (hd : 1 ≤ d) (k : (0 ≤ s1 ∧ s1 < 6) ∧ CI E y_Laws_told (d - 1) [vr 68, vi 2] (up σ (r1 + 6) s1 s0) (fun x1 τ1 => (x1 = 0 → CI E y_Room_fact (d - 1) [vr r1, vi a2, vi 4] τ1 (fun x2 τ2 => Z E y_Laws_workOut d 88 [some (vr 68), some (vr r1), some (vi a2), o3, o4] [vi (w32 (x2 + 3)), vi a2, vr (r1 + 7)] τ2 (qv K))) ∧ (x1 ≠ 0 → CL E y_Laws_result (d - 1) [vr 68, vi 2, vr r1, vi a2, vi 0] τ1 (fun x3 τ3 => CI E y_Laws_within (d - 1) [vl x3, vi 0, vi 999] τ3 (fun x4 τ4 => Z E y_Laws_workOut d 88 [some (vr 68), some (vr r1), some (vi a2), o3, o4] [vi x4, vi a2, vr (r1 + 7)] τ4 (qv K)))))) :
    Z E y_Laws_workOut d 48 [some (vr 68), some (vr r1), some (vi a2), o3, o4] [vi s0, vi s1, vr (r1 + 6)] σ (qv K) := by
  have hb1 := k.1
  have k := k.2
  refine z_iast (pc := 48) (shRoom_6 h1) hb1 (by decide +kernel) ?_
  refine z_aload_n (pc := 49) (q := 1) (by decide +kernel) rfl ?_
  refine z_getR (pc := 50) (r1 + 7) fl_Laws_55 (shRoom h1) rfl (rfRoom_13 h1) (by decide +kernel) ?_
  refine z_iload_n (pc := 53) (q := 2) (by decide +kernel) rfl ?_
  refine z_aload_n (pc := 54) (q := 0) (by decide +kernel) rfl ?_
  refine z_iconst (pc := 55) (n := 2) (by decide +kernel) ⟨by decide, by decide⟩ ?_
  refine z_callv (pc := 56) (as := [vi 2]) ml_Laws_43 rfl ⟨rfl, by decide⟩ rfl rfl (Nat.le_of_ble_eq_true rfl) (dc := d - 1) (by omega) (by decide +kernel) (CI.z (CI.mono (fun x1 τ1 k => ?_) k))
  refine z_if_eq (pc := 59) (off := 21) 80 (by decide +kernel) (by decide) ⟨fun hc => ?_, fun hc => ?_⟩
  · have k := k.1 hc
    refine z_aload_n (pc := 80) (q := 1) (by decide +kernel) rfl ?_
    refine z_iload_n (pc := 81) (q := 2) (by decide +kernel) rfl ?_
    refine z_iconst (pc := 82) (n := 4) (by decide +kernel) ⟨by decide, by decide⟩ ?_
    refine z_callv (pc := 83) (as := [vi a2, vi 4]) ml_Laws_58 (shRoom h1) ⟨rfl, by decide⟩ rfl rfl (Nat.le_of_ble_eq_true rfl) (dc := d - 1) (by omega) (by decide +kernel) (CI.z (CI.mono (fun x2 τ2 k => ?_) k))
    refine z_iconst (pc := 86) (n := 3) (by decide +kernel) ⟨by decide, by decide⟩ ?_
    refine z_iadd (pc := 87) (by decide +kernel) ?_
    exact k
  · have k := k.2 hc
    refine z_aload_n (pc := 62) (q := 0) (by decide +kernel) rfl ?_
    refine z_iconst (pc := 63) (n := 2) (by decide +kernel) ⟨by decide, by decide⟩ ?_
    refine z_aload_n (pc := 64) (q := 1) (by decide +kernel) rfl ?_
    refine z_iload_n (pc := 65) (q := 2) (by decide +kernel) rfl ?_
    refine z_iconst (pc := 66) (n := 0) (by decide +kernel) ⟨by decide, by decide⟩ ?_
    refine z_callv (pc := 67) (as := [vi 2, vr r1, vi a2, vi 0]) ml_Laws_47 rfl ⟨rfl, by decide⟩ rfl rfl (Nat.le_of_ble_eq_true rfl) (dc := d - 1) (by omega) (by decide +kernel) (CL.z (CL.mono (fun x3 τ3 k => ?_) k))
    refine z_iconst (pc := 70) (n := 0) (by decide +kernel) ⟨by decide, by decide⟩ ?_
    refine z_sipush (pc := 71) (n := 999) (by decide +kernel) (by decide) ⟨by decide, by decide⟩ ?_
    refine z_calls (pc := 74) (as := [vl x3, vi 0, vi 999]) ml_Laws_51 rfl rfl (Nat.le_of_ble_eq_true rfl) (dc := d - 1) (by omega) (by decide +kernel) (CI.z (CI.mono (fun x4 τ4 k => ?_) k))
    refine z_goto (pc := 77) (off := 11) 88 (by decide +kernel) (by decide) ?_
    exact k
theorem b_Laws_workOut_88 {E : EN} {d : Nat} {r1 : Nat} {a2 : Int} {o3 : Option AV} {o4 : Option AV} {s0 : Int} {s1 : Int} {σ : Mem} {K : Mem → Prop} (h1 : isRoom r1) (hd : 1 ≤ d) (k : (0 ≤ s1 ∧ s1 < 6) ∧ CI E y_Laws_told (d - 1) [vr 68, vi 3] (up σ (r1 + 7) s1 s0) (fun x1 τ1 => (x1 = 0 → (0 ≤ a2 ∧ a2 < 6) ∧ Z E y_Laws_workOut d 131 [some (vr 68), some (vr r1), some (vi a2), some (vi 0), o4] [] (up (up τ1 (r1 + 8) a2 10) (r1 + 10) a2 0) (qv K)) ∧ (x1 ≠ 0 → CL E y_Laws_result (d - 1) [vr 68, vi 3, vr r1, vi a2, vi 0] τ1 (fun x2 τ2 => CI E y_Laws_within (d - 1) [vl x2, vi 0, vi 100] τ2 (fun x3 τ3 => (0 ≤ a2 ∧ a2 < 6) ∧ Z E y_Laws_workOut d 131 [some (vr 68), some (vr r1), some (vi a2), some (vi 0), o4] [] (up (up τ3 (r1 + 8) a2 x3) (r1 + 10) a2 0) (qv K)))))) :
    Z E y_Laws_workOut d 88 [some (vr 68), some (vr r1), some (vi a2), o3, o4] [vi s0, vi s1, vr (r1 + 7)] σ (qv K) := by
  have hb1 := k.1
  have k := k.2
  refine z_iast (pc := 88) (shRoom_7 h1) hb1 (by decide +kernel) ?_
  refine z_aload_n (pc := 89) (q := 1) (by decide +kernel) rfl ?_
  refine z_getR (pc := 90) (r1 + 8) fl_Laws_62 (shRoom h1) rfl (rfRoom_14 h1) (by decide +kernel) ?_
  refine z_iload_n (pc := 93) (q := 2) (by decide +kernel) rfl ?_
  refine z_aload_n (pc := 94) (q := 0) (by decide +kernel) rfl ?_
  refine z_iconst (pc := 95) (n := 3) (by decide +kernel) ⟨by decide, by decide⟩ ?_
  refine z_callv (pc := 96) (as := [vi 3]) ml_Laws_43 rfl ⟨rfl, by decide⟩ rfl rfl (Nat.le_of_ble_eq_true rfl) (dc := d - 1) (by omega) (by decide +kernel) (CI.z (CI.mono (fun x1 τ1 k => ?_) k))
  refine z_if_eq (pc := 99) (off := 20) 119 (by decide +kernel) (by decide) ⟨fun hc => ?_, fun hc => ?_⟩
  · have k := k.1 hc
    refine z_bipush (pc := 119) (n := 10) (by decide +kernel) (by decide) ⟨by decide, by decide⟩ ?_
    have hb2 := k.1
    have k := k.2
    refine z_iast (pc := 121) (shRoom_8 h1) hb2 (by decide +kernel) ?_
    refine z_aload_n (pc := 122) (q := 1) (by decide +kernel) rfl ?_
    refine z_getR (pc := 123) (r1 + 10) fl_Laws_65 (shRoom h1) rfl (rfRoom_16 h1) (by decide +kernel) ?_
    refine z_iload_n (pc := 126) (q := 2) (by decide +kernel) rfl ?_
    refine z_iconst (pc := 127) (n := 0) (by decide +kernel) ⟨by decide, by decide⟩ ?_
    refine z_iast (pc := 128) (shRoom_10 h1) hb2 (by decide +kernel) ?_
    refine z_iconst (pc := 129) (n := 0) (by decide +kernel) ⟨by decide, by decide⟩ ?_
    refine z_istore_n (pc := 130) (q := 3) [some (vr 68), some (vr r1), some (vi a2), some (vi 0), o4] (by decide +kernel) (Nat.le_of_ble_eq_true rfl) rfl ?_
    exact k
  · have k := k.2 hc
    refine z_aload_n (pc := 102) (q := 0) (by decide +kernel) rfl ?_
    refine z_iconst (pc := 103) (n := 3) (by decide +kernel) ⟨by decide, by decide⟩ ?_
    refine z_aload_n (pc := 104) (q := 1) (by decide +kernel) rfl ?_
    refine z_iload_n (pc := 105) (q := 2) (by decide +kernel) rfl ?_
    refine z_iconst (pc := 106) (n := 0) (by decide +kernel) ⟨by decide, by decide⟩ ?_
    refine z_callv (pc := 107) (as := [vi 3, vr r1, vi a2, vi 0]) ml_Laws_47 rfl ⟨rfl, by decide⟩ rfl rfl (Nat.le_of_ble_eq_true rfl) (dc := d - 1) (by omega) (by decide +kernel) (CL.z (CL.mono (fun x2 τ2 k => ?_) k))
    refine z_iconst (pc := 110) (n := 0) (by decide +kernel) ⟨by decide, by decide⟩ ?_
    refine z_bipush (pc := 111) (n := 100) (by decide +kernel) (by decide) ⟨by decide, by decide⟩ ?_
    refine z_calls (pc := 113) (as := [vl x2, vi 0, vi 100]) ml_Laws_51 rfl rfl (Nat.le_of_ble_eq_true rfl) (dc := d - 1) (by omega) (by decide +kernel) (CI.z (CI.mono (fun x3 τ3 k => ?_) k))
    refine z_goto (pc := 116) (off := 5) 121 (by decide +kernel) (by decide) ?_
    have hb3 := k.1
    have k := k.2
    refine z_iast (pc := 121) (shRoom_8 h1) hb3 (by decide +kernel) ?_
    refine z_aload_n (pc := 122) (q := 1) (by decide +kernel) rfl ?_
    refine z_getR (pc := 123) (r1 + 10) fl_Laws_65 (shRoom h1) rfl (rfRoom_16 h1) (by decide +kernel) ?_
    refine z_iload_n (pc := 126) (q := 2) (by decide +kernel) rfl ?_
    refine z_iconst (pc := 127) (n := 0) (by decide +kernel) ⟨by decide, by decide⟩ ?_
    refine z_iast (pc := 128) (shRoom_10 h1) hb3 (by decide +kernel) ?_
    refine z_iconst (pc := 129) (n := 0) (by decide +kernel) ⟨by decide, by decide⟩ ?_
    refine z_istore_n (pc := 130) (q := 3) [some (vr 68), some (vr r1), some (vi a2), some (vi 0), o4] (by decide +kernel) (Nat.le_of_ble_eq_true rfl) rfl ?_
    exact k
theorem b_Laws_workOut_131 {E : EN} {d : Nat} {r1 : Nat} {a2 : Int} {a3 : Int} {o4 : Option AV} {σ : Mem} {K : Mem → Prop} (h1 : isRoom r1) (hd : 1 ≤ d) (k : (σ r1 1 ≤ a3 → Z E y_Laws_workOut d 2 [some (vr 68), some (vr r1), some (vi (w32 (a2 + 1))), some (vi a3), o4] [] σ (qv K)) ∧ (a3 < σ r1 1 → (3 ≤ a3 → Z E y_Laws_workOut d 2 [some (vr 68), some (vr r1), some (vi (w32 (a2 + 1))), some (vi a3), o4] [] σ (qv K)) ∧ (a3 < 3 → (0 ≤ a3 ∧ a3 < 3) ∧ CI E y_Laws_told (d - 1) [vr 68, vi 1] σ (fun x1 τ1 => (x1 = 0 → CI E y_Room_fact (d - 1) [vr r1, vi a2, vi 2] τ1 (fun x2 τ2 => CI E y_Laws_within (d - 1) [vl (w32 ((w32 (x2 * 5)) - (σ (r1 + 2) a3))), vi 1, vi 999] τ2 (fun x3 τ3 => Z E y_Laws_workOut d 207 [some (vr 68), some (vr r1), some (vi a2), some (vi a3), some (vi (σ (r1 + 2) a3))] [vi x3, vi (w32 ((w32 (a2 * 3)) + a3)), vr (r1 + 9)] τ3 (qv K)))) ∧ (x1 ≠ 0 → CL E y_Laws_result (d - 1) [vr 68, vi 1, vr r1, vi a2, vi (σ (r1 + 2) a3)] τ1 (fun x4 τ4 => CI E y_Laws_within (d - 1) [vl x4, vi 0, vi 999] τ4 (fun x5 τ5 => Z E y_Laws_workOut d 207 [some (vr 68), some (vr r1), some (vi a2), some (vi a3), some (vi (σ (r1 + 2) a3))] [vi x5, vi (w32 ((w32 (a2 * 3)) + a3)), vr (r1 + 9)] τ5 (qv K)))))))) :
    Z E y_Laws_workOut d 131 [some (vr 68), some (vr r1), some (vi a2), some (vi a3), o4] [] σ (qv K) := by
  refine z_iload_n (pc := 131) (q := 3) (by decide +kernel) rfl ?_
  refine z_aload_n (pc := 132) (q := 1) (by decide +kernel) rfl ?_
  refine z_getI (pc := 133) 1 fl_Laws_68 (shRoom h1) (by decide) rfl (by decide +kernel) ?_
  refine z_icmp_ge (pc := 136) (off := 104) 240 (by decide +kernel) (by decide) ⟨fun hc => ?_, fun hc => ?_⟩
  · have k := k.1 hc
    refine z_iinc (pc := 240) (i := 2) (n := 1) [some (vr 68), some (vr r1), some (vi (w32 (a2 + 1))), some (vi a3), o4] (by decide +kernel) rfl rfl ?_
    refine z_goto (pc := 243) (off := -241) 2 (by decide +kernel) (by decide) ?_
    exact k
  · have k := k.2 hc
    refine z_iload_n (pc := 139) (q := 3) (by decide +kernel) rfl ?_
    refine z_iconst (pc := 140) (n := 3) (by decide +kernel) ⟨by decide, by decide⟩ ?_
    refine z_icmp_ge (pc := 141) (off := 99) 240 (by decide +kernel) (by decide) ⟨fun hc => ?_, fun hc => ?_⟩
    · have k := k.1 hc
      refine z_iinc (pc := 240) (i := 2) (n := 1) [some (vr 68), some (vr r1), some (vi (w32 (a2 + 1))), some (vi a3), o4] (by decide +kernel) rfl rfl ?_
      refine z_goto (pc := 243) (off := -241) 2 (by decide +kernel) (by decide) ?_
      exact k
    · have k := k.2 hc
      refine z_aload_n (pc := 144) (q := 1) (by decide +kernel) rfl ?_
      refine z_getR (pc := 145) (r1 + 2) fl_Laws_71 (shRoom h1) rfl (rfRoom_8 h1) (by decide +kernel) ?_
      refine z_iload_n (pc := 148) (q := 3) (by decide +kernel) rfl ?_
      have hb1 := k.1
      have k := k.2
      refine z_iald (pc := 149) (shRoom_2 h1) hb1 (by decide +kernel) ?_
      refine z_istore (pc := 150) (i := 4) [some (vr 68), some (vr r1), some (vi a2), some (vi a3), some (vi (σ (r1 + 2) a3))] (by decide +kernel) (Nat.le_of_ble_eq_true rfl) rfl ?_
      refine z_aload_n (pc := 152) (q := 1) (by decide +kernel) rfl ?_
      refine z_getR (pc := 153) (r1 + 9) fl_Laws_74 (shRoom h1) rfl (rfRoom_15 h1) (by decide +kernel) ?_
      refine z_iload_n (pc := 156) (q := 2) (by decide +kernel) rfl ?_
      refine z_iconst (pc := 157) (n := 3) (by decide +kernel) ⟨by decide, by decide⟩ ?_
      refine z_imul (pc := 158) (by decide +kernel) ?_
      refine z_iload_n (pc := 159) (q := 3) (by decide +kernel) rfl ?_
      refine z_iadd (pc := 160) (by decide +kernel) ?_
      refine z_aload_n (pc := 161) (q := 0) (by decide +kernel) rfl ?_
      refine z_iconst (pc := 162) (n := 1) (by decide +kernel) ⟨by decide, by decide⟩ ?_
      refine z_callv (pc := 163) (as := [vi 1]) ml_Laws_43 rfl ⟨rfl, by decide⟩ rfl rfl (Nat.le_of_ble_eq_true rfl) (dc := d - 1) (by omega) (by decide +kernel) (CI.z (CI.mono (fun x1 τ1 k => ?_) k))
      refine z_if_eq (pc := 166) (off := 22) 188 (by decide +kernel) (by decide) ⟨fun hc => ?_, fun hc => ?_⟩
      · have k := k.1 hc
        refine z_aload_n (pc := 188) (q := 1) (by decide +kernel) rfl ?_
        refine z_iload_n (pc := 189) (q := 2) (by decide +kernel) rfl ?_
        refine z_iconst (pc := 190) (n := 2) (by decide +kernel) ⟨by decide, by decide⟩ ?_
        refine z_callv (pc := 191) (as := [vi a2, vi 2]) ml_Laws_58 (shRoom h1) ⟨rfl, by decide⟩ rfl rfl (Nat.le_of_ble_eq_true rfl) (dc := d - 1) (by omega) (by decide +kernel) (CI.z (CI.mono (fun x2 τ2 k => ?_) k))
        refine z_iconst (pc := 194) (n := 5) (by decide +kernel) ⟨by decide, by decide⟩ ?_
        refine z_imul (pc := 195) (by decide +kernel) ?_
        refine z_iload (pc := 196) (i := 4) (by decide +kernel) rfl ?_
        refine z_isub (pc := 198) (by decide +kernel) ?_
        refine z_i2l (pc := 199) (by decide +kernel) ?_
        refine z_iconst (pc := 200) (n := 1) (by decide +kernel) ⟨by decide, by decide⟩ ?_
        refine z_sipush (pc := 201) (n := 999) (by decide +kernel) (by decide) ⟨by decide, by decide⟩ ?_
        refine z_calls (pc := 204) (as := [vl (w32 ((w32 (x2 * 5)) - (σ (r1 + 2) a3))), vi 1, vi 999]) ml_Laws_51 rfl rfl (Nat.le_of_ble_eq_true rfl) (dc := d - 1) (by omega) (by decide +kernel) (CI.z (CI.mono (fun x3 τ3 k => ?_) k))
        exact k
      · have k := k.2 hc
        refine z_aload_n (pc := 169) (q := 0) (by decide +kernel) rfl ?_
        refine z_iconst (pc := 170) (n := 1) (by decide +kernel) ⟨by decide, by decide⟩ ?_
        refine z_aload_n (pc := 171) (q := 1) (by decide +kernel) rfl ?_
        refine z_iload_n (pc := 172) (q := 2) (by decide +kernel) rfl ?_
        refine z_iload (pc := 173) (i := 4) (by decide +kernel) rfl ?_
        refine z_callv (pc := 175) (as := [vi 1, vr r1, vi a2, vi (σ (r1 + 2) a3)]) ml_Laws_47 rfl ⟨rfl, by decide⟩ rfl rfl (Nat.le_of_ble_eq_true rfl) (dc := d - 1) (by omega) (by decide +kernel) (CL.z (CL.mono (fun x4 τ4 k => ?_) k))
        refine z_iconst (pc := 178) (n := 0) (by decide +kernel) ⟨by decide, by decide⟩ ?_
        refine z_sipush (pc := 179) (n := 999) (by decide +kernel) (by decide) ⟨by decide, by decide⟩ ?_
        refine z_calls (pc := 182) (as := [vl x4, vi 0, vi 999]) ml_Laws_51 rfl rfl (Nat.le_of_ble_eq_true rfl) (dc := d - 1) (by omega) (by decide +kernel) (CI.z (CI.mono (fun x5 τ5 k => ?_) k))
        refine z_goto (pc := 185) (off := 22) 207 (by decide +kernel) (by decide) ?_
        exact k
theorem b_Laws_workOut_207 {E : EN} {d : Nat} {r1 : Nat} {a2 : Int} {a3 : Int} {o4 : Option AV} {s0 : Int} {s1 : Int} {σ : Mem} {K : Mem → Prop} (h1 : isRoom r1) (hd : 1 ≤ d) (k : (0 ≤ s1 ∧ s1 < 18) ∧ (0 ≤ a2 ∧ a2 < 6) ∧ (0 ≤ a3 ∧ a3 < 3) ∧ CI E y_Room_fact (d - 1) [vr r1, vi a2, vi 1] (up σ (r1 + 9) s1 s0) (fun x1 τ1 => Z E y_Laws_workOut d 131 [some (vr 68), some (vr r1), some (vi a2), some (vi (w32 (a3 + 1))), o4] [] (up τ1 (r1 + 10) a2 (ior (σ (r1 + 10) a2) (ish (ian (isr (σ (r1 + 1) a3) x1) 1) a3))) (qv K))) :
    Z E y_Laws_workOut d 207 [some (vr 68), some (vr r1), some (vi a2), some (vi a3), o4] [vi s0, vi s1, vr (r1 + 9)] σ (qv K) := by
  have hb1 := k.1
  have k := k.2
  refine z_iast (pc := 207) (shRoom_9 h1) hb1 (by decide +kernel) ?_
  refine z_aload_n (pc := 208) (q := 1) (by decide +kernel) rfl ?_
  refine z_getR (pc := 209) (r1 + 10) fl_Laws_65 (shRoom h1) rfl (rfRoom_16 h1) (by decide +kernel) ?_
  refine z_iload_n (pc := 212) (q := 2) (by decide +kernel) rfl ?_
  refine z_dup2 (pc := 213) (by decide +kernel) rfl rfl ?_
  have hb2 := k.1
  have k := k.2
  refine z_iald (pc := 214) (shRoom_10 h1) hb2 (by decide +kernel) ?_
  refine z_topI (up_nc (by omega)) ?_
  refine z_aload_n (pc := 215) (q := 1) (by decide +kernel) rfl ?_
  refine z_getR (pc := 216) (r1 + 1) fl_Laws_77 (shRoom h1) rfl (rfRoom_7 h1) (by decide +kernel) ?_
  refine z_iload_n (pc := 219) (q := 3) (by decide +kernel) rfl ?_
  have hb3 := k.1
  have k := k.2
  refine z_iald (pc := 220) (shRoom_1 h1) hb3 (by decide +kernel) ?_
  refine z_topI (up_nc (by omega)) ?_
  refine z_aload_n (pc := 221) (q := 1) (by decide +kernel) rfl ?_
  refine z_iload_n (pc := 222) (q := 2) (by decide +kernel) rfl ?_
  refine z_iconst (pc := 223) (n := 1) (by decide +kernel) ⟨by decide, by decide⟩ ?_
  refine z_callv (pc := 224) (as := [vi a2, vi 1]) ml_Laws_58 (shRoom h1) ⟨rfl, by decide⟩ rfl rfl (Nat.le_of_ble_eq_true rfl) (dc := d - 1) (by omega) (by decide +kernel) (CI.z (CI.mono (fun x1 τ1 k => ?_) k))
  refine z_ishr (pc := 227) (by decide +kernel) ?_
  refine z_iconst (pc := 228) (n := 1) (by decide +kernel) ⟨by decide, by decide⟩ ?_
  refine z_iand (pc := 229) (by decide +kernel) ?_
  refine z_iload_n (pc := 230) (q := 3) (by decide +kernel) rfl ?_
  refine z_ishl (pc := 231) (by decide +kernel) ?_
  refine z_ior (pc := 232) (by decide +kernel) ?_
  refine z_iast (pc := 233) (shRoom_10 h1) hb2 (by decide +kernel) ?_
  refine z_iinc (pc := 234) (i := 3) (n := 1) [some (vr 68), some (vr r1), some (vi a2), some (vi (w32 (a3 + 1))), o4] (by decide +kernel) rfl rfl ?_
  refine z_goto (pc := 237) (off := -106) 131 (by decide +kernel) (by decide) ?_
  exact k
theorem b_Laws_told_0 {E : EN} {d : Nat} {a1 : Int} {σ : Mem} {K : Int → Mem → Prop}  (k : (a1 < 0 → K 0 σ) ∧ (0 ≤ a1 → (4 ≤ a1 → K 0 σ) ∧ (a1 < 4 → (0 ≤ a1 ∧ a1 < 4) ∧ (σ 71 a1 ≤ σ 70 a1 → K 0 σ) ∧ (σ 70 a1 < σ 71 a1 → K 1 σ)))) :
    Z E y_Laws_told d 0 [some (vr 68), some (vi a1)] [] σ (qi K) := by
  refine z_iload_n (pc := 0) (q := 1) (by decide +kernel) rfl ?_
  refine z_if_lt (pc := 1) (off := 27) 28 (by decide +kernel) (by decide) ⟨fun hc => ?_, fun hc => ?_⟩
  · have k := k.1 hc
    refine z_iconst (pc := 28) (n := 0) (by decide +kernel) ⟨by decide, by decide⟩ ?_
    exact z_zret (pc := 29) (by decide +kernel) rfl ⟨by decide, k⟩
  · have k := k.2 hc
    refine z_iload_n (pc := 4) (q := 1) (by decide +kernel) rfl ?_
    refine z_iconst (pc := 5) (n := 4) (by decide +kernel) ⟨by decide, by decide⟩ ?_
    refine z_icmp_ge (pc := 6) (off := 22) 28 (by decide +kernel) (by decide) ⟨fun hc => ?_, fun hc => ?_⟩
    · have k := k.1 hc
      refine z_iconst (pc := 28) (n := 0) (by decide +kernel) ⟨by decide, by decide⟩ ?_
      exact z_zret (pc := 29) (by decide +kernel) rfl ⟨by decide, k⟩
    · have k := k.2 hc
      refine z_aload_n (pc := 9) (q := 0) (by decide +kernel) rfl ?_
      refine z_getR (pc := 10) 71 fl_Laws_22 rfl rfl rfl (by decide +kernel) ?_
      refine z_iload_n (pc := 13) (q := 1) (by decide +kernel) rfl ?_
      have hb1 := k.1
      have k := k.2
      refine z_iald (pc := 14) rfl hb1 (by decide +kernel) ?_
      refine z_aload_n (pc := 15) (q := 0) (by decide +kernel) rfl ?_
      refine z_getR (pc := 16) 70 fl_Laws_19 rfl rfl rfl (by decide +kernel) ?_
      refine z_iload_n (pc := 19) (q := 1) (by decide +kernel) rfl ?_
      refine z_iald (pc := 20) rfl hb1 (by decide +kernel) ?_
      refine z_icmp_le (pc := 21) (off := 7) 28 (by decide +kernel) (by decide) ⟨fun hc => ?_, fun hc => ?_⟩
      · have k := k.1 hc
        refine z_iconst (pc := 28) (n := 0) (by decide +kernel) ⟨by decide, by decide⟩ ?_
        exact z_zret (pc := 29) (by decide +kernel) rfl ⟨by decide, k⟩
      · have k := k.2 hc
        refine z_iconst (pc := 24) (n := 1) (by decide +kernel) ⟨by decide, by decide⟩ ?_
        refine z_goto (pc := 25) (off := 4) 29 (by decide +kernel) (by decide) ?_
        exact z_zret (pc := 29) (by decide +kernel) rfl ⟨by decide, k⟩
theorem b_Laws_within_0 {E : EN} {d : Nat} {b0 : Int} {a2 : Int} {a3 : Int} {σ : Mem} {K : Int → Mem → Prop}  (hd : 1 ≤ d) (k : CL E y_Math_min_JJ (d - 1) [vl a3, vl b0] σ (fun x1 τ1 => CL E y_Math_max_JJ (d - 1) [vl a2, vl x1] τ1 (fun x2 τ2 => K (w32 x2) τ2))) :
    Z E y_Laws_within d 0 [some (vl b0), none, some (vi a2), some (vi a3)] [] σ (qi K) := by
  refine z_iload_n (pc := 0) (q := 2) (by decide +kernel) rfl ?_
  refine z_i2l (pc := 1) (by decide +kernel) ?_
  refine z_iload_n (pc := 2) (q := 3) (by decide +kernel) rfl ?_
  refine z_i2l (pc := 3) (by decide +kernel) ?_
  refine z_lload_n (pc := 4) (q := 0) (by decide +kernel) rfl ?_
  refine z_calls (pc := 5) (as := [vl a3, vl b0]) ml_Laws_80 rfl rfl (Nat.le_of_ble_eq_true rfl) (dc := d - 1) (by omega) (by decide +kernel) (CL.z (CL.mono (fun x1 τ1 k => ?_) k))
  refine z_calls (pc := 8) (as := [vl a2, vl x1]) ml_Laws_86 rfl rfl (Nat.le_of_ble_eq_true rfl) (dc := d - 1) (by omega) (by decide +kernel) (CL.z (CL.mono (fun x2 τ2 k => ?_) k))
  refine z_l2i (pc := 11) (by decide +kernel) ?_
  exact z_iret (pc := 12) (by decide +kernel) rfl k
theorem b_Laws_result_0 {E : EN} {d : Nat} {a1 : Int} {r2 : Nat} {a3 : Int} {a4 : Int} {σ : Mem} {K : Int → Mem → Prop} (h2 : isRoom r2) (hd : 1 ≤ d) (k : CI E y_Laws_told (d - 1) [vr 68, vi a1] σ (fun x1 τ1 => (x1 ≠ 0 → (0 ≤ a1 ∧ a1 < 4) ∧ Z E y_Laws_result d 21 [some (vr 68), some (vi a1), some (vr r2), some (vi a3), some (vi a4), some (vi 0), some (vi (τ1 70 a1)), none] [] τ1 (ql K)) ∧ (x1 = 0 → K 0 τ1))) :
    Z E y_Laws_result d 0 [some (vr 68), some (vi a1), some (vr r2), some (vi a3), some (vi a4), none, none, none] [] σ (ql K) := by
  refine z_aload_n (pc := 0) (q := 0) (by decide +kernel) rfl ?_
  refine z_iload_n (pc := 1) (q := 1) (by decide +kernel) rfl ?_
  refine z_callv (pc := 2) (as := [vi a1]) ml_Laws_43 rfl ⟨rfl, by decide⟩ rfl rfl (Nat.le_of_ble_eq_true rfl) (dc := d - 1) (by omega) (by decide +kernel) (CI.z (CI.mono (fun x1 τ1 k => ?_) k))
  refine z_if_ne (pc := 5) (off := 5) 10 (by decide +kernel) (by decide) ⟨fun hc => ?_, fun hc => ?_⟩
  · have k := k.1 hc
    refine z_iconst (pc := 10) (n := 0) (by decide +kernel) ⟨by decide, by decide⟩ ?_
    refine z_istore (pc := 11) (i := 5) [some (vr 68), some (vi a1), some (vr r2), some (vi a3), some (vi a4), some (vi 0), none, none] (by decide +kernel) (Nat.le_of_ble_eq_true rfl) rfl ?_
    refine z_aload_n (pc := 13) (q := 0) (by decide +kernel) rfl ?_
    refine z_getR (pc := 14) 70 fl_Laws_19 rfl rfl rfl (by decide +kernel) ?_
    refine z_iload_n (pc := 17) (q := 1) (by decide +kernel) rfl ?_
    have hb1 := k.1
    have k := k.2
    refine z_iald (pc := 18) rfl hb1 (by decide +kernel) ?_
    refine z_istore (pc := 19) (i := 6) [some (vr 68), some (vi a1), some (vr r2), some (vi a3), some (vi a4), some (vi 0), some (vi (τ1 70 a1)), none] (by decide +kernel) (Nat.le_of_ble_eq_true rfl) rfl ?_
    exact k
  · have k := k.2 hc
    refine z_lconst (pc := 8) (n := 0) 0 (by decide +kernel) (by decide) ⟨by decide, by decide⟩ ?_
    exact z_lret (pc := 9) (by decide +kernel) rfl k
theorem b_Laws_result_21 {E : EN} {d : Nat} {a1 : Int} {r2 : Nat} {a3 : Int} {a4 : Int} {a5 : Int} {a6 : Int} {o7 : Option AV} {σ : Mem} {K : Int → Mem → Prop} (h2 : isRoom r2) (hd : 1 ≤ d) (k : (0 ≤ a1 ∧ a1 < 4) ∧ (σ 71 a1 ≤ a6 → (a5 ≤ 0 → K 0 σ) ∧ (0 < a5 → K (σ 72 0) σ)) ∧ (a6 < σ 71 a1 → (900 ≤ a6 → (a5 ≤ 0 → K 0 σ) ∧ (0 < a5 → K (σ 72 0) σ)) ∧ (a6 < 900 → (0 ≤ a6 ∧ a6 < 900) ∧ (σ 69 a6 < 1200 → Z E y_Laws_result d 101 [some (vr 68), some (vi a1), some (vr r2), some (vi a3), some (vi a4), some (vi a5), some (vi a6), some (vi (σ 69 a6))] [] σ (ql K)) ∧ (1200 ≤ σ 69 a6 → (a5 < 2 → Z E y_Laws_result d 101 [some (vr 68), some (vi a1), some (vr r2), some (vi a3), some (vi a4), some (vi a5), some (vi a6), some (vi (σ 69 a6))] [] σ (ql K)) ∧ (2 ≤ a5 → (0 ≤ w32 (a5 - 2) ∧ w32 (a5 - 2) < 24) ∧ (0 ≤ w32 (a5 - 1) ∧ w32 (a5 - 1) < 24) ∧ CL E y_Laws_joined (d - 1) [vi (σ 69 a6), vl (σ 72 (w32 (a5 - 2))), vl (σ 72 (w32 (a5 - 1)))] σ (fun x1 τ1 => Z E y_Laws_result d 21 [some (vr 68), some (vi a1), some (vr r2), some (vi a3), some (vi a4), some (vi (w32 (a5 + (-1)))), some (vi (w32 (a6 + 1))), some (vi (σ 69 a6))] [] (up τ1 72 (w32 (a5 - 2)) x1) (ql K))))))) :
    Z E y_Laws_result d 21 [some (vr 68), some (vi a1), some (vr r2), some (vi a3), some (vi a4), some (vi a5), some (vi a6), o7] [] σ (ql K) := by
  refine z_iload (pc := 21) (i := 6) (by decide +kernel) rfl ?_
  refine z_aload_n (pc := 23) (q := 0) (by decide +kernel) rfl ?_
  refine z_getR (pc := 24) 71 fl_Laws_22 rfl rfl rfl (by decide +kernel) ?_
  refine z_iload_n (pc := 27) (q := 1) (by decide +kernel) rfl ?_
  have hb1 := k.1
  have k := k.2
  refine z_iald (pc := 28) rfl hb1 (by decide +kernel) ?_
  refine z_icmp_ge (pc := 29) (off := 143) 172 (by decide +kernel) (by decide) ⟨fun hc => ?_, fun hc => ?_⟩
  · have k := k.1 hc
    refine z_iload (pc := 172) (i := 5) (by decide +kernel) rfl ?_
    refine z_if_le (pc := 174) (off := 12) 186 (by decide +kernel) (by decide) ⟨fun hc => ?_, fun hc => ?_⟩
    · have k := k.1 hc
      refine z_lconst (pc := 186) (n := 0) 0 (by decide +kernel) (by decide) ⟨by decide, by decide⟩ ?_
      exact z_lret (pc := 187) (by decide +kernel) rfl k
    · have k := k.2 hc
      refine z_aload_n (pc := 177) (q := 0) (by decide +kernel) rfl ?_
      refine z_getR (pc := 178) 72 fl_Laws_25 rfl rfl rfl (by decide +kernel) ?_
      refine z_iconst (pc := 181) (n := 0) (by decide +kernel) ⟨by decide, by decide⟩ ?_
      refine z_lald (pc := 182) rfl ⟨by decide, by decide⟩ (by decide +kernel) ?_
      refine z_goto (pc := 183) (off := 4) 187 (by decide +kernel) (by decide) ?_
      exact z_lret (pc := 187) (by decide +kernel) rfl k
  · have k := k.2 hc
    refine z_iload (pc := 32) (i := 6) (by decide +kernel) rfl ?_
    refine z_sipush (pc := 34) (n := 900) (by decide +kernel) (by decide) ⟨by decide, by decide⟩ ?_
    refine z_icmp_ge (pc := 37) (off := 135) 172 (by decide +kernel) (by decide) ⟨fun hc => ?_, fun hc => ?_⟩
    · have k := k.1 hc
      refine z_iload (pc := 172) (i := 5) (by decide +kernel) rfl ?_
      refine z_if_le (pc := 174) (off := 12) 186 (by decide +kernel) (by decide) ⟨fun hc => ?_, fun hc => ?_⟩
      · have k := k.1 hc
        refine z_lconst (pc := 186) (n := 0) 0 (by decide +kernel) (by decide) ⟨by decide, by decide⟩ ?_
        exact z_lret (pc := 187) (by decide +kernel) rfl k
      · have k := k.2 hc
        refine z_aload_n (pc := 177) (q := 0) (by decide +kernel) rfl ?_
        refine z_getR (pc := 178) 72 fl_Laws_25 rfl rfl rfl (by decide +kernel) ?_
        refine z_iconst (pc := 181) (n := 0) (by decide +kernel) ⟨by decide, by decide⟩ ?_
        refine z_lald (pc := 182) rfl ⟨by decide, by decide⟩ (by decide +kernel) ?_
        refine z_goto (pc := 183) (off := 4) 187 (by decide +kernel) (by decide) ?_
        exact z_lret (pc := 187) (by decide +kernel) rfl k
    · have k := k.2 hc
      refine z_aload_n (pc := 40) (q := 0) (by decide +kernel) rfl ?_
      refine z_getR (pc := 41) 69 fl_Laws_9 rfl rfl rfl (by decide +kernel) ?_
      refine z_iload (pc := 44) (i := 6) (by decide +kernel) rfl ?_
      have hb2 := k.1
      have k := k.2
      refine z_iald (pc := 46) rfl hb2 (by decide +kernel) ?_
      refine z_istore (pc := 47) (i := 7) [some (vr 68), some (vi a1), some (vr r2), some (vi a3), some (vi a4), some (vi a5), some (vi a6), some (vi (σ 69 a6))] (by decide +kernel) (Nat.le_of_ble_eq_true rfl) rfl ?_
      refine z_iload (pc := 49) (i := 7) (by decide +kernel) rfl ?_
      refine z_sipush (pc := 51) (n := 1200) (by decide +kernel) (by decide) ⟨by decide, by decide⟩ ?_
      refine z_icmp_lt (pc := 54) (off := 47) 101 (by decide +kernel) (by decide) ⟨fun hc => ?_, fun hc => ?_⟩
      · have k := k.1 hc
        exact k
      · have k := k.2 hc
        refine z_iload (pc := 57) (i := 5) (by decide +kernel) rfl ?_
        refine z_iconst (pc := 59) (n := 2) (by decide +kernel) ⟨by decide, by decide⟩ ?_
        refine z_icmp_lt (pc := 60) (off := 41) 101 (by decide +kernel) (by decide) ⟨fun hc => ?_, fun hc => ?_⟩
        · have k := k.1 hc
          exact k
        · have k := k.2 hc
          refine z_aload_n (pc := 63) (q := 0) (by decide +kernel) rfl ?_
          refine z_getR (pc := 64) 72 fl_Laws_25 rfl rfl rfl (by decide +kernel) ?_
          refine z_iload (pc := 67) (i := 5) (by decide +kernel) rfl ?_
          refine z_iconst (pc := 69) (n := 2) (by decide +kernel) ⟨by decide, by decide⟩ ?_
          refine z_isub (pc := 70) (by decide +kernel) ?_
          refine z_iload (pc := 71) (i := 7) (by decide +kernel) rfl ?_
          refine z_aload_n (pc := 73) (q := 0) (by decide +kernel) rfl ?_
          refine z_getR (pc := 74) 72 fl_Laws_25 rfl rfl rfl (by decide +kernel) ?_
          refine z_iload (pc := 77) (i := 5) (by decide +kernel) rfl ?_
          refine z_iconst (pc := 79) (n := 2) (by decide +kernel) ⟨by decide, by decide⟩ ?_
          refine z_isub (pc := 80) (by decide +kernel) ?_
          have hb3 := k.1
          have k := k.2
          refine z_lald (pc := 81) rfl hb3 (by decide +kernel) ?_
          refine z_aload_n (pc := 82) (q := 0) (by decide +kernel) rfl ?_
          refine z_getR (pc := 83) 72 fl_Laws_25 rfl rfl rfl (by decide +kernel) ?_
          refine z_iload (pc := 86) (i := 5) (by decide +kernel) rfl ?_
          refine z_iconst (pc := 88) (n := 1) (by decide +kernel) ⟨by decide, by decide⟩ ?_
          refine z_isub (pc := 89) (by decide +kernel) ?_
          have hb4 := k.1
          have k := k.2
          refine z_lald (pc := 90) rfl hb4 (by decide +kernel) ?_
          refine z_calls (pc := 91) (as := [vi (σ 69 a6), vl (σ 72 (w32 (a5 - 2))), vl (σ 72 (w32 (a5 - 1)))]) ml_Laws_89 rfl rfl (Nat.le_of_ble_eq_true rfl) (dc := d - 1) (by omega) (by decide +kernel) (CL.z (CL.mono (fun x1 τ1 k => ?_) k))
          refine z_last (pc := 94) rfl hb3 (by decide +kernel) ?_
          refine z_iinc (pc := 95) (i := 5) (n := -1) [some (vr 68), some (vi a1), some (vr r2), some (vi a3), some (vi a4), some (vi (w32 (a5 + (-1)))), some (vi a6), some (vi (σ 69 a6))] (by decide +kernel) rfl rfl ?_
          refine z_goto (pc := 98) (off := 68) 166 (by decide +kernel) (by decide) ?_
          refine z_iinc (pc := 166) (i := 6) (n := 1) [some (vr 68), some (vi a1), some (vr r2), some (vi a3), some (vi a4), some (vi (w32 (a5 + (-1)))), some (vi (w32 (a6 + 1))), some (vi (σ 69 a6))] (by decide +kernel) rfl rfl ?_
          refine z_goto (pc := 169) (off := -148) 21 (by decide +kernel) (by decide) ?_
          exact k
theorem b_Laws_result_101 {E : EN} {d : Nat} {a1 : Int} {r2 : Nat} {a3 : Int} {a4 : Int} {a5 : Int} {a6 : Int} {a7 : Int} {σ : Mem} {K : Int → Mem → Prop} (h2 : isRoom r2) (hd : 1 ≤ d) (k : (1200 ≤ a7 → Z E y_Laws_result d 21 [some (vr 68), some (vi a1), some (vr r2), some (vi a3), some (vi a4), some (vi a5), some (vi (w32 (a6 + 1))), some (vi a7)] [] σ (ql K)) ∧ (a7 < 1200 → (24 ≤ a5 → Z E y_Laws_result d 21 [some (vr 68), some (vi a1), some (vr r2), some (vi a3), some (vi a4), some (vi a5), some (vi (w32 (a6 + 1))), some (vi a7)] [] σ (ql K)) ∧ (a5 < 24 → (a7 ≠ 1100 → (a7 < 1000 → (0 ≤ a5 ∧ a5 < 24) ∧ Z E y_Laws_result d 21 [some (vr 68), some (vi a1), some (vr r2), some (vi a3), some (vi a4), some (vi (w32 (a5 + 1))), some (vi (w32 (a6 + 1))), some (vi a7)] [] (up σ 72 a5 a7) (ql K)) ∧ (1000 ≤ a7 → CI E y_Room_fact (d - 1) [vr r2, vi a3, vi (w32 (a7 - 1000))] σ (fun x1 τ1 => (0 ≤ a5 ∧ a5 < 24) ∧ Z E y_Laws_result d 21 [some (vr 68), some (vi a1), some (vr r2), some (vi a3), some (vi a4), some (vi (w32 (a5 + 1))), some (vi (w32 (a6 + 1))), some (vi a7)] [] (up τ1 72 a5 x1) (ql K)))) ∧ (a7 = 1100 → (0 ≤ a5 ∧ a5 < 24) ∧ Z E y_Laws_result d 21 [some (vr 68), some (vi a1), some (vr r2), some (vi a3), some (vi a4), some (vi (w32 (a5 + 1))), some (vi (w32 (a6 + 1))), some (vi a7)] [] (up σ 72 a5 a4) (ql K))))) :
    Z E y_Laws_result d 101 [some (vr 68), some (vi a1), some (vr r2), some (vi a3), some (vi a4), some (vi a5), some (vi a6), some (vi a7)] [] σ (ql K) := by
  refine z_iload (pc := 101) (i := 7) (by decide +kernel) rfl ?_
  refine z_sipush (pc := 103) (n := 1200) (by decide +kernel) (by decide) ⟨by decide, by decide⟩ ?_
  refine z_icmp_ge (pc := 106) (off := 60) 166 (by decide +kernel) (by decide) ⟨fun hc => ?_, fun hc => ?_⟩
  · have k := k.1 hc
    refine z_iinc (pc := 166) (i := 6) (n := 1) [some (vr 68), some (vi a1), some (vr r2), some (vi a3), some (vi a4), some (vi a5), some (vi (w32 (a6 + 1))), some (vi a7)] (by decide +kernel) rfl rfl ?_
    refine z_goto (pc := 169) (off := -148) 21 (by decide +kernel) (by decide) ?_
    exact k
  · have k := k.2 hc
    refine z_iload (pc := 109) (i := 5) (by decide +kernel) rfl ?_
    refine z_bipush (pc := 111) (n := 24) (by decide +kernel) (by decide) ⟨by decide, by decide⟩ ?_
    refine z_icmp_ge (pc := 113) (off := 53) 166 (by decide +kernel) (by decide) ⟨fun hc => ?_, fun hc => ?_⟩
    · have k := k.1 hc
      refine z_iinc (pc := 166) (i := 6) (n := 1) [some (vr 68), some (vi a1), some (vr r2), some (vi a3), some (vi a4), some (vi a5), some (vi (w32 (a6 + 1))), some (vi a7)] (by decide +kernel) rfl rfl ?_
      refine z_goto (pc := 169) (off := -148) 21 (by decide +kernel) (by decide) ?_
      exact k
    · have k := k.2 hc
      refine z_aload_n (pc := 116) (q := 0) (by decide +kernel) rfl ?_
      refine z_getR (pc := 117) 72 fl_Laws_25 rfl rfl rfl (by decide +kernel) ?_
      refine z_iload (pc := 120) (i := 5) (by decide +kernel) rfl ?_
      refine z_iload (pc := 122) (i := 7) (by decide +kernel) rfl ?_
      refine z_sipush (pc := 124) (n := 1100) (by decide +kernel) (by decide) ⟨by decide, by decide⟩ ?_
      refine z_icmp_ne (pc := 127) (off := 9) 136 (by decide +kernel) (by decide) ⟨fun hc => ?_, fun hc => ?_⟩
      · have k := k.1 hc
        refine z_iload (pc := 136) (i := 7) (by decide +kernel) rfl ?_
        refine z_sipush (pc := 138) (n := 1000) (by decide +kernel) (by decide) ⟨by decide, by decide⟩ ?_
        refine z_icmp_lt (pc := 141) (off := 18) 159 (by decide +kernel) (by decide) ⟨fun hc => ?_, fun hc => ?_⟩
        · have k := k.1 hc
          refine z_iload (pc := 159) (i := 7) (by decide +kernel) rfl ?_
          refine z_i2l (pc := 161) (by decide +kernel) ?_
          have hb1 := k.1
          have k := k.2
          refine z_last (pc := 162) rfl hb1 (by decide +kernel) ?_
          refine z_iinc (pc := 163) (i := 5) (n := 1) [some (vr 68), some (vi a1), some (vr r2), some (vi a3), some (vi a4), some (vi (w32 (a5 + 1))), some (vi a6), some (vi a7)] (by decide +kernel) rfl rfl ?_
          refine z_iinc (pc := 166) (i := 6) (n := 1) [some (vr 68), some (vi a1), some (vr r2), some (vi a3), some (vi a4), some (vi (w32 (a5 + 1))), some (vi (w32 (a6 + 1))), some (vi a7)] (by decide +kernel) rfl rfl ?_
          refine z_goto (pc := 169) (off := -148) 21 (by decide +kernel) (by decide) ?_
          exact k
        · have k := k.2 hc
          refine z_aload_n (pc := 144) (q := 2) (by decide +kernel) rfl ?_
          refine z_iload_n (pc := 145) (q := 3) (by decide +kernel) rfl ?_
          refine z_iload (pc := 146) (i := 7) (by decide +kernel) rfl ?_
          refine z_sipush (pc := 148) (n := 1000) (by decide +kernel) (by decide) ⟨by decide, by decide⟩ ?_
          refine z_isub (pc := 151) (by decide +kernel) ?_
          refine z_callv (pc := 152) (as := [vi a3, vi (w32 (a7 - 1000))]) ml_Laws_58 (shRoom h2) ⟨rfl, by decide⟩ rfl rfl (Nat.le_of_ble_eq_true rfl) (dc := d - 1) (by omega) (by decide +kernel) (CI.z (CI.mono (fun x1 τ1 k => ?_) k))
          refine z_i2l (pc := 155) (by decide +kernel) ?_
          refine z_goto (pc := 156) (off := 6) 162 (by decide +kernel) (by decide) ?_
          have hb2 := k.1
          have k := k.2
          refine z_last (pc := 162) rfl hb2 (by decide +kernel) ?_
          refine z_iinc (pc := 163) (i := 5) (n := 1) [some (vr 68), some (vi a1), some (vr r2), some (vi a3), some (vi a4), some (vi (w32 (a5 + 1))), some (vi a6), some (vi a7)] (by decide +kernel) rfl rfl ?_
          refine z_iinc (pc := 166) (i := 6) (n := 1) [some (vr 68), some (vi a1), some (vr r2), some (vi a3), some (vi a4), some (vi (w32 (a5 + 1))), some (vi (w32 (a6 + 1))), some (vi a7)] (by decide +kernel) rfl rfl ?_
          refine z_goto (pc := 169) (off := -148) 21 (by decide +kernel) (by decide) ?_
          exact k
      · have k := k.2 hc
        refine z_iload (pc := 130) (i := 4) (by decide +kernel) rfl ?_
        refine z_i2l (pc := 132) (by decide +kernel) ?_
        refine z_goto (pc := 133) (off := 29) 162 (by decide +kernel) (by decide) ?_
        have hb3 := k.1
        have k := k.2
        refine z_last (pc := 162) rfl hb3 (by decide +kernel) ?_
        refine z_iinc (pc := 163) (i := 5) (n := 1) [some (vr 68), some (vi a1), some (vr r2), some (vi a3), some (vi a4), some (vi (w32 (a5 + 1))), some (vi a6), some (vi a7)] (by decide +kernel) rfl rfl ?_
        refine z_iinc (pc := 166) (i := 6) (n := 1) [some (vr 68), some (vi a1), some (vr r2), some (vi a3), some (vi a4), some (vi (w32 (a5 + 1))), some (vi (w32 (a6 + 1))), some (vi a7)] (by decide +kernel) rfl rfl ?_
        refine z_goto (pc := 169) (off := -148) 21 (by decide +kernel) (by decide) ?_
        exact k
theorem b_Laws_joined_0 {E : EN} {d : Nat} {a0 : Int} {b1 : Int} {b3 : Int} {σ : Mem} {K : Int → Mem → Prop}  (hd : 1 ≤ d) (k : (a0 ≠ 1200 → (a0 ≠ 1201 → CI E y_Laws_within (d - 1) [vl (w64 (b1 * b3)), vi (-1000000), vi 1000000] σ (fun x1 τ1 => K x1 τ1)) ∧ (a0 = 1201 → CI E y_Laws_within (d - 1) [vl (w64 (b1 - b3)), vi (-1000000), vi 1000000] σ (fun x2 τ2 => K x2 τ2))) ∧ (a0 = 1200 → CI E y_Laws_within (d - 1) [vl (w64 (b1 + b3)), vi (-1000000), vi 1000000] σ (fun x3 τ3 => K x3 τ3))) :
    Z E y_Laws_joined d 0 [some (vi a0), some (vl b1), none, some (vl b3), none, none, none] [] σ (ql K) := by
  refine z_iload_n (pc := 0) (q := 0) (by decide +kernel) rfl ?_
  refine z_sipush (pc := 1) (n := 1200) (by decide +kernel) (by decide) ⟨by decide, by decide⟩ ?_
  refine z_icmp_ne (pc := 4) (off := 9) 13 (by decide +kernel) (by decide) ⟨fun hc => ?_, fun hc => ?_⟩
  · have k := k.1 hc
    refine z_iload_n (pc := 13) (q := 0) (by decide +kernel) rfl ?_
    refine z_sipush (pc := 14) (n := 1201) (by decide +kernel) (by decide) ⟨by decide, by decide⟩ ?_
    refine z_icmp_ne (pc := 17) (off := 9) 26 (by decide +kernel) (by decide) ⟨fun hc => ?_, fun hc => ?_⟩
    · have k := k.1 hc
      refine z_lload_n (pc := 26) (q := 1) (by decide +kernel) rfl ?_
      refine z_lload_n (pc := 27) (q := 3) (by decide +kernel) rfl ?_
      refine z_lmul (pc := 28) (by decide +kernel) ?_
      refine z_lstore (pc := 29) (i := 5) [some (vi a0), some (vl b1), none, some (vl b3), none, some (vl (w64 (b1 * b3))), none] (by decide +kernel) (Nat.le_of_ble_eq_true rfl) rfl ?_
      refine z_lload (pc := 31) (i := 5) (by decide +kernel) rfl ?_
      refine z_ldc (pc := 33) (index := 93) (-1000000) (mm4 23 rfl) ⟨by decide, by decide⟩ (by decide +kernel) ?_
      refine z_ldc (pc := 35) (index := 94) 1000000 (mm4 24 rfl) ⟨by decide, by decide⟩ (by decide +kernel) ?_
      refine z_calls (pc := 37) (as := [vl (w64 (b1 * b3)), vi (-1000000), vi 1000000]) ml_Laws_51 rfl rfl (Nat.le_of_ble_eq_true rfl) (dc := d - 1) (by omega) (by decide +kernel) (CI.z (CI.mono (fun x1 τ1 k => ?_) k))
      refine z_i2l (pc := 40) (by decide +kernel) ?_
      exact z_lret (pc := 41) (by decide +kernel) rfl k
    · have k := k.2 hc
      refine z_lload_n (pc := 20) (q := 1) (by decide +kernel) rfl ?_
      refine z_lload_n (pc := 21) (q := 3) (by decide +kernel) rfl ?_
      refine z_lsub (pc := 22) (by decide +kernel) ?_
      refine z_goto (pc := 23) (off := 6) 29 (by decide +kernel) (by decide) ?_
      refine z_lstore (pc := 29) (i := 5) [some (vi a0), some (vl b1), none, some (vl b3), none, some (vl (w64 (b1 - b3))), none] (by decide +kernel) (Nat.le_of_ble_eq_true rfl) rfl ?_
      refine z_lload (pc := 31) (i := 5) (by decide +kernel) rfl ?_
      refine z_ldc (pc := 33) (index := 93) (-1000000) (mm4 23 rfl) ⟨by decide, by decide⟩ (by decide +kernel) ?_
      refine z_ldc (pc := 35) (index := 94) 1000000 (mm4 24 rfl) ⟨by decide, by decide⟩ (by decide +kernel) ?_
      refine z_calls (pc := 37) (as := [vl (w64 (b1 - b3)), vi (-1000000), vi 1000000]) ml_Laws_51 rfl rfl (Nat.le_of_ble_eq_true rfl) (dc := d - 1) (by omega) (by decide +kernel) (CI.z (CI.mono (fun x2 τ2 k => ?_) k))
      refine z_i2l (pc := 40) (by decide +kernel) ?_
      exact z_lret (pc := 41) (by decide +kernel) rfl k
  · have k := k.2 hc
    refine z_lload_n (pc := 7) (q := 1) (by decide +kernel) rfl ?_
    refine z_lload_n (pc := 8) (q := 3) (by decide +kernel) rfl ?_
    refine z_ladd (pc := 9) (by decide +kernel) ?_
    refine z_goto (pc := 10) (off := 19) 29 (by decide +kernel) (by decide) ?_
    refine z_lstore (pc := 29) (i := 5) [some (vi a0), some (vl b1), none, some (vl b3), none, some (vl (w64 (b1 + b3))), none] (by decide +kernel) (Nat.le_of_ble_eq_true rfl) rfl ?_
    refine z_lload (pc := 31) (i := 5) (by decide +kernel) rfl ?_
    refine z_ldc (pc := 33) (index := 93) (-1000000) (mm4 23 rfl) ⟨by decide, by decide⟩ (by decide +kernel) ?_
    refine z_ldc (pc := 35) (index := 94) 1000000 (mm4 24 rfl) ⟨by decide, by decide⟩ (by decide +kernel) ?_
    refine z_calls (pc := 37) (as := [vl (w64 (b1 + b3)), vi (-1000000), vi 1000000]) ml_Laws_51 rfl rfl (Nat.le_of_ble_eq_true rfl) (dc := d - 1) (by omega) (by decide +kernel) (CI.z (CI.mono (fun x3 τ3 k => ?_) k))
    refine z_i2l (pc := 40) (by decide +kernel) ?_
    exact z_lret (pc := 41) (by decide +kernel) rfl k
theorem b_Ciph_load_0 {E : EN} {d : Nat} {r1 : Nat} {σ : Mem} {K : Int → Mem → Prop} (h1 : isTray r1) (k : (σ r1 1 < 1 → K (-4) σ) ∧ (1 ≤ σ r1 1 → (σ r1 1 ≤ 40 → Z E y_Ciph_load d 22 [some (vr 96), some (vr r1), some (vi 0)] [] σ (qi K)) ∧ (40 < σ r1 1 → K (-4) σ))) :
    Z E y_Ciph_load d 0 [some (vr 96), some (vr r1), none] [] σ (qi K) := by
  refine z_aload_n (pc := 0) (q := 1) (by decide +kernel) rfl ?_
  refine z_getI (pc := 1) 1 fl_Ciph_35 (shTray h1) (by decide) rfl (by decide +kernel) ?_
  refine z_iconst (pc := 4) (n := 1) (by decide +kernel) ⟨by decide, by decide⟩ ?_
  refine z_icmp_lt (pc := 5) (off := 12) 17 (by decide +kernel) (by decide) ⟨fun hc => ?_, fun hc => ?_⟩
  · have k := k.1 hc
    refine z_bipush (pc := 17) (n := -4) (by decide +kernel) (by decide) ⟨by decide, by decide⟩ ?_
    exact z_iret (pc := 19) (by decide +kernel) rfl k
  · have k := k.2 hc
    refine z_aload_n (pc := 8) (q := 1) (by decide +kernel) rfl ?_
    refine z_getI (pc := 9) 1 fl_Ciph_35 (shTray h1) (by decide) rfl (by decide +kernel) ?_
    refine z_bipush (pc := 12) (n := 40) (by decide +kernel) (by decide) ⟨by decide, by decide⟩ ?_
    refine z_icmp_le (pc := 14) (off := 6) 20 (by decide +kernel) (by decide) ⟨fun hc => ?_, fun hc => ?_⟩
    · have k := k.1 hc
      refine z_iconst (pc := 20) (n := 0) (by decide +kernel) ⟨by decide, by decide⟩ ?_
      refine z_istore_n (pc := 21) (q := 2) [some (vr 96), some (vr r1), some (vi 0)] (by decide +kernel) (Nat.le_of_ble_eq_true rfl) rfl ?_
      exact k
    · have k := k.2 hc
      refine z_bipush (pc := 17) (n := -4) (by decide +kernel) (by decide) ⟨by decide, by decide⟩ ?_
      exact z_iret (pc := 19) (by decide +kernel) rfl k
theorem b_Ciph_load_22 {E : EN} {d : Nat} {r1 : Nat} {a2 : Int} {σ : Mem} {K : Int → Mem → Prop} (h1 : isTray r1) (hd : 1 ≤ d) (k : (σ r1 1 ≤ a2 → K 0 (up σ 96 2 (σ r1 1))) ∧ (a2 < σ r1 1 → (40 ≤ a2 → K 0 (up σ 96 2 (σ r1 1))) ∧ (a2 < 40 → CL E y_Tray_at (d - 1) [vr r1, vi a2] σ (fun x1 τ1 => (lcm x1 0 < 0 → K (-3) τ1) ∧ (0 ≤ lcm x1 0 → CL E y_Tray_at (d - 1) [vr r1, vi a2] τ1 (fun x2 τ2 => (lcm x2 26 < 0 → CL E y_Tray_at (d - 1) [vr r1, vi a2] τ2 (fun x3 τ3 => (0 ≤ a2 ∧ a2 < 40) ∧ Z E y_Ciph_load d 22 [some (vr 96), some (vr r1), some (vi (w32 (a2 + 1)))] [] (up τ3 97 a2 (w32 x3)) (qi K))) ∧ (0 ≤ lcm x2 26 → K (-3) τ2))))))) :
    Z E y_Ciph_load d 22 [some (vr 96), some (vr r1), some (vi a2)] [] σ (qi K) := by
  refine z_iload_n (pc := 22) (q := 2) (by decide +kernel) rfl ?_
  refine z_aload_n (pc := 23) (q := 1) (by decide +kernel) rfl ?_
  refine z_getI (pc := 24) 1 fl_Ciph_35 (shTray h1) (by decide) rfl (by decide +kernel) ?_
  refine z_icmp_ge (pc := 27) (off := 52) 79 (by decide +kernel) (by decide) ⟨fun hc => ?_, fun hc => ?_⟩
  · have k := k.1 hc
    refine z_aload_n (pc := 79) (q := 0) (by decide +kernel) rfl ?_
    refine z_aload_n (pc := 80) (q := 1) (by decide +kernel) rfl ?_
    refine z_getI (pc := 81) 1 fl_Ciph_35 (shTray h1) (by decide) rfl (by decide +kernel) ?_
    refine z_putI (pc := 84) 2 fp_Ciph_15 rfl rfl rfl (by decide +kernel) ?_
    refine z_iconst (pc := 87) (n := 0) (by decide +kernel) ⟨by decide, by decide⟩ ?_
    exact z_iret (pc := 88) (by decide +kernel) rfl k
  · have k := k.2 hc
    refine z_iload_n (pc := 30) (q := 2) (by decide +kernel) rfl ?_
    refine z_bipush (pc := 31) (n := 40) (by decide +kernel) (by decide) ⟨by decide, by decide⟩ ?_
    refine z_icmp_ge (pc := 33) (off := 46) 79 (by decide +kernel) (by decide) ⟨fun hc => ?_, fun hc => ?_⟩
    · have k := k.1 hc
      refine z_aload_n (pc := 79) (q := 0) (by decide +kernel) rfl ?_
      refine z_aload_n (pc := 80) (q := 1) (by decide +kernel) rfl ?_
      refine z_getI (pc := 81) 1 fl_Ciph_35 (shTray h1) (by decide) rfl (by decide +kernel) ?_
      refine z_putI (pc := 84) 2 fp_Ciph_15 rfl rfl rfl (by decide +kernel) ?_
      refine z_iconst (pc := 87) (n := 0) (by decide +kernel) ⟨by decide, by decide⟩ ?_
      exact z_iret (pc := 88) (by decide +kernel) rfl k
    · have k := k.2 hc
      refine z_aload_n (pc := 36) (q := 1) (by decide +kernel) rfl ?_
      refine z_iload_n (pc := 37) (q := 2) (by decide +kernel) rfl ?_
      refine z_callv (pc := 38) (as := [vi a2]) ml_Ciph_40 (shTray h1) ⟨rfl, by decide⟩ rfl rfl (Nat.le_of_ble_eq_true rfl) (dc := d - 1) (by omega) (by decide +kernel) (CL.z (CL.mono (fun x1 τ1 k => ?_) k))
      refine z_lconst (pc := 41) (n := 0) 0 (by decide +kernel) (by decide) ⟨by decide, by decide⟩ ?_
      refine z_lcmp (pc := 42) (by decide +kernel) ?_
      refine z_if_lt (pc := 43) (off := 15) 58 (by decide +kernel) (by decide) ⟨fun hc => ?_, fun hc => ?_⟩
      · have k := k.1 hc
        refine z_bipush (pc := 58) (n := -3) (by decide +kernel) (by decide) ⟨by decide, by decide⟩ ?_
        exact z_iret (pc := 60) (by decide +kernel) rfl k
      · have k := k.2 hc
        refine z_aload_n (pc := 46) (q := 1) (by decide +kernel) rfl ?_
        refine z_iload_n (pc := 47) (q := 2) (by decide +kernel) rfl ?_
        refine z_callv (pc := 48) (as := [vi a2]) ml_Ciph_40 (shTray h1) ⟨rfl, by decide⟩ rfl rfl (Nat.le_of_ble_eq_true rfl) (dc := d - 1) (by omega) (by decide +kernel) (CL.z (CL.mono (fun x2 τ2 k => ?_) k))
        refine z_ldc2 (pc := 51) (index := 44) 26 (mm5 219 rfl) ⟨by decide, by decide⟩ (by decide +kernel) ?_
        refine z_lcmp (pc := 54) (by decide +kernel) ?_
        refine z_if_lt (pc := 55) (off := 6) 61 (by decide +kernel) (by decide) ⟨fun hc => ?_, fun hc => ?_⟩
        · have k := k.1 hc
          refine z_aload_n (pc := 61) (q := 0) (by decide +kernel) rfl ?_
          refine z_getR (pc := 62) 97 fl_Ciph_11 rfl rfl rfl (by decide +kernel) ?_
          refine z_iload_n (pc := 65) (q := 2) (by decide +kernel) rfl ?_
          refine z_aload_n (pc := 66) (q := 1) (by decide +kernel) rfl ?_
          refine z_iload_n (pc := 67) (q := 2) (by decide +kernel) rfl ?_
          refine z_callv (pc := 68) (as := [vi a2]) ml_Ciph_40 (shTray h1) ⟨rfl, by decide⟩ rfl rfl (Nat.le_of_ble_eq_true rfl) (dc := d - 1) (by omega) (by decide +kernel) (CL.z (CL.mono (fun x3 τ3 k => ?_) k))
          refine z_l2i (pc := 71) (by decide +kernel) ?_
          have hb1 := k.1
          have k := k.2
          refine z_iast (pc := 72) rfl hb1 (by decide +kernel) ?_
          refine z_iinc (pc := 73) (i := 2) (n := 1) [some (vr 96), some (vr r1), some (vi (w32 (a2 + 1)))] (by decide +kernel) rfl rfl ?_
          refine z_goto (pc := 76) (off := -54) 22 (by decide +kernel) (by decide) ?_
          exact k
        · have k := k.2 hc
          refine z_bipush (pc := 58) (n := -3) (by decide +kernel) (by decide) ⟨by decide, by decide⟩ ?_
          exact z_iret (pc := 60) (by decide +kernel) rfl k
theorem b_Ciph_findKeys_0 {E : EN} {d : Nat}  {σ : Mem} {K : Mem → Prop}  (hd : 1 ≤ d) (k : CV E y_Arr_fill_AII (d - 1) [vr 98, vi 0] σ (fun τ1 => (1 ≤ τ1 2 6 → Z E y_Ciph_findKeys d 22 [some (vr 96), some (vi 1), none] [] τ1 (qv K)) ∧ (τ1 2 6 < 1 → K τ1))) :
    Z E y_Ciph_findKeys d 0 [some (vr 96), none, none] [] σ (qv K) := by
  refine z_aload_n (pc := 0) (q := 0) (by decide +kernel) rfl ?_
  refine z_getR (pc := 1) 98 fl_Ciph_19 rfl rfl rfl (by decide +kernel) ?_
  refine z_iconst (pc := 4) (n := 0) (by decide +kernel) ⟨by decide, by decide⟩ ?_
  refine z_calls (pc := 5) (as := [vr 98, vi 0]) ml_Ciph_46 rfl rfl (Nat.le_of_ble_eq_true rfl) (dc := d - 1) (by omega) (by decide +kernel) (CV.z (CV.mono (fun τ1 k => ?_) k))
  refine z_aload_n (pc := 8) (q := 0) (by decide +kernel) rfl ?_
  refine z_getR (pc := 9) 2 fl_Ciph_31 rfl rfl rfl (by decide +kernel) ?_
  refine z_getI (pc := 12) 6 fl_Ciph_52 rfl (by decide) rfl (by decide +kernel) ?_
  refine z_iconst (pc := 15) (n := 1) (by decide +kernel) ⟨by decide, by decide⟩ ?_
  refine z_icmp_ge (pc := 16) (off := 4) 20 (by decide +kernel) (by decide) ⟨fun hc => ?_, fun hc => ?_⟩
  · have k := k.1 hc
    refine z_iconst (pc := 20) (n := 1) (by decide +kernel) ⟨by decide, by decide⟩ ?_
    refine z_istore_n (pc := 21) (q := 1) [some (vr 96), some (vi 1), none] (by decide +kernel) (Nat.le_of_ble_eq_true rfl) rfl ?_
    exact k
  · have k := k.2 hc
    exact z_vret (pc := 19) (by decide +kernel) rfl k
theorem b_Ciph_findKeys_22 {E : EN} {d : Nat} {a1 : Int} {o2 : Option AV} {σ : Mem} {K : Mem → Prop}  (k : (3 < a1 → K σ) ∧ (a1 ≤ 3 → Z E y_Ciph_findKeys d 34 [some (vr 96), some (vi a1), some (vi 0)] [] (up σ 96 5 a1) (qv K))) :
    Z E y_Ciph_findKeys d 22 [some (vr 96), some (vi a1), o2] [] σ (qv K) := by
  refine z_iload_n (pc := 22) (q := 1) (by decide +kernel) rfl ?_
  refine z_iconst (pc := 23) (n := 3) (by decide +kernel) ⟨by decide, by decide⟩ ?_
  refine z_icmp_gt (pc := 24) (off := 50) 74 (by decide +kernel) (by decide) ⟨fun hc => ?_, fun hc => ?_⟩
  · have k := k.1 hc
    exact z_vret (pc := 74) (by decide +kernel) rfl k
  · have k := k.2 hc
    refine z_aload_n (pc := 27) (q := 0) (by decide +kernel) rfl ?_
    refine z_iload_n (pc := 28) (q := 1) (by decide +kernel) rfl ?_
    refine z_putI (pc := 29) 5 fp_Ciph_25 rfl rfl rfl (by decide +kernel) ?_
    refine z_iconst (pc := 32) (n := 0) (by decide +kernel) ⟨by decide, by decide⟩ ?_
    refine z_istore_n (pc := 33) (q := 2) [some (vr 96), some (vi a1), some (vi 0)] (by decide +kernel) (Nat.le_of_ble_eq_true rfl) rfl ?_
    exact k
theorem b_Ciph_findKeys_34 {E : EN} {d : Nat} {a1 : Int} {a2 : Int} {σ : Mem} {K : Mem → Prop}  (hd : 1 ≤ d) (k : (σ 96 2 < w32 (a2 + (σ 2 6)) → Z E y_Ciph_findKeys d 22 [some (vr 96), some (vi (w32 (a1 + 1))), some (vi a2)] [] σ (qv K)) ∧ (w32 (a2 + (σ 2 6)) ≤ σ 96 2 → CI E y_Ciph_shiftsFor (d - 1) [vr 96, vi a2] σ (fun x1 τ1 => (x1 = 0 → Z E y_Ciph_findKeys d 34 [some (vr 96), some (vi a1), some (vi (w32 (a2 + 1)))] [] τ1 (qv K)) ∧ (x1 ≠ 0 → CV E y_Ciph_markKeys (d - 1) [vr 96] τ1 (fun τ2 => Z E y_Ciph_findKeys d 34 [some (vr 96), some (vi a1), some (vi (w32 (a2 + 1)))] [] τ2 (qv K)))))) :
    Z E y_Ciph_findKeys d 34 [some (vr 96), some (vi a1), some (vi a2)] [] σ (qv K) := by
  refine z_iload_n (pc := 34) (q := 2) (by decide +kernel) rfl ?_
  refine z_aload_n (pc := 35) (q := 0) (by decide +kernel) rfl ?_
  refine z_getR (pc := 36) 2 fl_Ciph_31 rfl rfl rfl (by decide +kernel) ?_
  refine z_getI (pc := 39) 6 fl_Ciph_52 rfl (by decide) rfl (by decide +kernel) ?_
  refine z_iadd (pc := 42) (by decide +kernel) ?_
  refine z_aload_n (pc := 43) (q := 0) (by decide +kernel) rfl ?_
  refine z_getI (pc := 44) 2 fl_Ciph_15 rfl (by decide) rfl (by decide +kernel) ?_
  refine z_icmp_gt (pc := 47) (off := 21) 68 (by decide +kernel) (by decide) ⟨fun hc => ?_, fun hc => ?_⟩
  · have k := k.1 hc
    refine z_iinc (pc := 68) (i := 1) (n := 1) [some (vr 96), some (vi (w32 (a1 + 1))), some (vi a2)] (by decide +kernel) rfl rfl ?_
    refine z_goto (pc := 71) (off := -49) 22 (by decide +kernel) (by decide) ?_
    exact k
  · have k := k.2 hc
    refine z_aload_n (pc := 50) (q := 0) (by decide +kernel) rfl ?_
    refine z_iload_n (pc := 51) (q := 2) (by decide +kernel) rfl ?_
    refine z_callv (pc := 52) (as := [vi a2]) ml_Ciph_57 rfl ⟨rfl, by decide⟩ rfl rfl (Nat.le_of_ble_eq_true rfl) (dc := d - 1) (by omega) (by decide +kernel) (CI.z (CI.mono (fun x1 τ1 k => ?_) k))
    refine z_if_eq (pc := 55) (off := 7) 62 (by decide +kernel) (by decide) ⟨fun hc => ?_, fun hc => ?_⟩
    · have k := k.1 hc
      refine z_iinc (pc := 62) (i := 2) (n := 1) [some (vr 96), some (vi a1), some (vi (w32 (a2 + 1)))] (by decide +kernel) rfl rfl ?_
      refine z_goto (pc := 65) (off := -31) 34 (by decide +kernel) (by decide) ?_
      exact k
    · have k := k.2 hc
      refine z_aload_n (pc := 58) (q := 0) (by decide +kernel) rfl ?_
      refine z_callv (pc := 59) (as := []) ml_Ciph_61 rfl ⟨rfl, by decide⟩ rfl rfl (Nat.le_of_ble_eq_true rfl) (dc := d - 1) (by omega) (by decide +kernel) (CV.z (CV.mono (fun τ2 k => ?_) k))
      refine z_iinc (pc := 62) (i := 2) (n := 1) [some (vr 96), some (vi a1), some (vi (w32 (a2 + 1)))] (by decide +kernel) rfl rfl ?_
      refine z_goto (pc := 65) (off := -31) 34 (by decide +kernel) (by decide) ?_
      exact k
theorem b_Ciph_shiftsFor_0 {E : EN} {d : Nat} {a1 : Int} {σ : Mem} {K : Int → Mem → Prop}  (k : Z E y_Ciph_shiftsFor d 2 [some (vr 96), some (vi a1), some (vi 0), none, none] [] σ (qi K)) :
    Z E y_Ciph_shiftsFor d 0 [some (vr 96), some (vi a1), none, none, none] [] σ (qi K) := by
  refine z_iconst (pc := 0) (n := 0) (by decide +kernel) ⟨by decide, by decide⟩ ?_
  refine z_istore_n (pc := 1) (q := 2) [some (vr 96), some (vi a1), some (vi 0), none, none] (by decide +kernel) (Nat.le_of_ble_eq_true rfl) rfl ?_
  exact k
theorem b_Ciph_shiftsFor_2 {E : EN} {d : Nat} {a1 : Int} {a2 : Int} {o3 : Option AV} {o4 : Option AV} {σ : Mem} {K : Int → Mem → Prop}  (k : (3 ≤ a2 → Z E y_Ciph_shiftsFor d 34 [some (vr 96), some (vi a1), some (vi 0), o3, o4] [] σ (qi K)) ∧ (a2 < 3 → (σ 96 5 ≤ a2 → (0 ≤ a2 ∧ a2 < 3) ∧ Z E y_Ciph_shiftsFor d 2 [some (vr 96), some (vi a1), some (vi (w32 (a2 + 1))), o3, o4] [] (up σ 99 a2 0) (qi K)) ∧ (a2 < σ 96 5 → (0 ≤ a2 ∧ a2 < 3) ∧ Z E y_Ciph_shiftsFor d 2 [some (vr 96), some (vi a1), some (vi (w32 (a2 + 1))), o3, o4] [] (up σ 99 a2 (-1)) (qi K)))) :
    Z E y_Ciph_shiftsFor d 2 [some (vr 96), some (vi a1), some (vi a2), o3, o4] [] σ (qi K) := by
  refine z_iload_n (pc := 2) (q := 2) (by decide +kernel) rfl ?_
  refine z_iconst (pc := 3) (n := 3) (by decide +kernel) ⟨by decide, by decide⟩ ?_
  refine z_icmp_ge (pc := 4) (off := 28) 32 (by decide +kernel) (by decide) ⟨fun hc => ?_, fun hc => ?_⟩
  · have k := k.1 hc
    refine z_iconst (pc := 32) (n := 0) (by decide +kernel) ⟨by decide, by decide⟩ ?_
    refine z_istore_n (pc := 33) (q := 2) [some (vr 96), some (vi a1), some (vi 0), o3, o4] (by decide +kernel) (Nat.le_of_ble_eq_true rfl) rfl ?_
    exact k
  · have k := k.2 hc
    refine z_aload_n (pc := 7) (q := 0) (by decide +kernel) rfl ?_
    refine z_getR (pc := 8) 99 fl_Ciph_22 rfl rfl rfl (by decide +kernel) ?_
    refine z_iload_n (pc := 11) (q := 2) (by decide +kernel) rfl ?_
    refine z_iload_n (pc := 12) (q := 2) (by decide +kernel) rfl ?_
    refine z_aload_n (pc := 13) (q := 0) (by decide +kernel) rfl ?_
    refine z_getI (pc := 14) 5 fl_Ciph_25 rfl (by decide) rfl (by decide +kernel) ?_
    refine z_icmp_ge (pc := 17) (off := 7) 24 (by decide +kernel) (by decide) ⟨fun hc => ?_, fun hc => ?_⟩
    · have k := k.1 hc
      refine z_iconst (pc := 24) (n := 0) (by decide +kernel) ⟨by decide, by decide⟩ ?_
      have hb1 := k.1
      have k := k.2
      refine z_iast (pc := 25) rfl hb1 (by decide +kernel) ?_
      refine z_iinc (pc := 26) (i := 2) (n := 1) [some (vr 96), some (vi a1), some (vi (w32 (a2 + 1))), o3, o4] (by decide +kernel) rfl rfl ?_
      refine z_goto (pc := 29) (off := -27) 2 (by decide +kernel) (by decide) ?_
      exact k
    · have k := k.2 hc
      refine z_iconst (pc := 20) (n := -1) (by decide +kernel) ⟨by decide, by decide⟩ ?_
      refine z_goto (pc := 21) (off := 4) 25 (by decide +kernel) (by decide) ?_
      have hb2 := k.1
      have k := k.2
      refine z_iast (pc := 25) rfl hb2 (by decide +kernel) ?_
      refine z_iinc (pc := 26) (i := 2) (n := 1) [some (vr 96), some (vi a1), some (vi (w32 (a2 + 1))), o3, o4] (by decide +kernel) rfl rfl ?_
      refine z_goto (pc := 29) (off := -27) 2 (by decide +kernel) (by decide) ?_
      exact k
theorem b_Ciph_shiftsFor_34 {E : EN} {d : Nat} {a1 : Int} {a2 : Int} {o3 : Option AV} {o4 : Option AV} {σ : Mem} {K : Int → Mem → Prop}  (hd : 1 ≤ d) (k : (σ 2 6 ≤ a2 → K 1 σ) ∧ (a2 < σ 2 6 → (8 ≤ a2 → K 1 σ) ∧ (a2 < 8 → (0 ≤ w32 (a1 + a2) ∧ w32 (a1 + a2) < 40) ∧ (0 ≤ a2 ∧ a2 < 8) ∧ CI E y_Math_floorMod (d - 1) [vi (w32 ((σ 97 (w32 (a1 + a2))) - (σ 7 a2))), vi 26] σ (fun x1 τ1 => CI E y_Ciph_turnAt (d - 1) [vr 96, vi (w32 (a1 + a2))] τ1 (fun x2 τ2 => (0 ≤ x2 ∧ x2 < 3) ∧ (τ2 99 x2 = (-1) → Z E y_Ciph_shiftsFor d 34 [some (vr 96), some (vi a1), some (vi (w32 (a2 + 1))), some (vi x1), some (vi x2)] [] (up τ2 99 x2 x1) (qi K)) ∧ (τ2 99 x2 ≠ (-1) → (τ2 99 x2 = x1 → Z E y_Ciph_shiftsFor d 34 [some (vr 96), some (vi a1), some (vi (w32 (a2 + 1))), some (vi x1), some (vi x2)] [] (up τ2 99 x2 x1) (qi K)) ∧ (τ2 99 x2 ≠ x1 → K 0 τ2))))))) :
    Z E y_Ciph_shiftsFor d 34 [some (vr 96), some (vi a1), some (vi a2), o3, o4] [] σ (qi K) := by
  refine z_iload_n (pc := 34) (q := 2) (by decide +kernel) rfl ?_
  refine z_aload_n (pc := 35) (q := 0) (by decide +kernel) rfl ?_
  refine z_getR (pc := 36) 2 fl_Ciph_31 rfl rfl rfl (by decide +kernel) ?_
  refine z_getI (pc := 39) 6 fl_Ciph_52 rfl (by decide) rfl (by decide +kernel) ?_
  refine z_icmp_ge (pc := 42) (off := 80) 122 (by decide +kernel) (by decide) ⟨fun hc => ?_, fun hc => ?_⟩
  · have k := k.1 hc
    refine z_iconst (pc := 122) (n := 1) (by decide +kernel) ⟨by decide, by decide⟩ ?_
    exact z_zret (pc := 123) (by decide +kernel) rfl ⟨by decide, k⟩
  · have k := k.2 hc
    refine z_iload_n (pc := 45) (q := 2) (by decide +kernel) rfl ?_
    refine z_bipush (pc := 46) (n := 8) (by decide +kernel) (by decide) ⟨by decide, by decide⟩ ?_
    refine z_icmp_ge (pc := 48) (off := 74) 122 (by decide +kernel) (by decide) ⟨fun hc => ?_, fun hc => ?_⟩
    · have k := k.1 hc
      refine z_iconst (pc := 122) (n := 1) (by decide +kernel) ⟨by decide, by decide⟩ ?_
      exact z_zret (pc := 123) (by decide +kernel) rfl ⟨by decide, k⟩
    · have k := k.2 hc
      refine z_aload_n (pc := 51) (q := 0) (by decide +kernel) rfl ?_
      refine z_getR (pc := 52) 97 fl_Ciph_11 rfl rfl rfl (by decide +kernel) ?_
      refine z_iload_n (pc := 55) (q := 1) (by decide +kernel) rfl ?_
      refine z_iload_n (pc := 56) (q := 2) (by decide +kernel) rfl ?_
      refine z_iadd (pc := 57) (by decide +kernel) ?_
      have hb1 := k.1
      have k := k.2
      refine z_iald (pc := 58) rfl hb1 (by decide +kernel) ?_
      refine z_aload_n (pc := 59) (q := 0) (by decide +kernel) rfl ?_
      refine z_getR (pc := 60) 2 fl_Ciph_31 rfl rfl rfl (by decide +kernel) ?_
      refine z_getR (pc := 63) 7 fl_Ciph_64 rfl rfl rfl (by decide +kernel) ?_
      refine z_iload_n (pc := 66) (q := 2) (by decide +kernel) rfl ?_
      have hb2 := k.1
      have k := k.2
      refine z_iald (pc := 67) rfl hb2 (by decide +kernel) ?_
      refine z_isub (pc := 68) (by decide +kernel) ?_
      refine z_bipush (pc := 69) (n := 26) (by decide +kernel) (by decide) ⟨by decide, by decide⟩ ?_
      refine z_calls (pc := 71) (as := [vi (w32 ((σ 97 (w32 (a1 + a2))) - (σ 7 a2))), vi 26]) ml_Ciph_67 rfl rfl (Nat.le_of_ble_eq_true rfl) (dc := d - 1) (by omega) (by decide +kernel) (CI.z (CI.mono (fun x1 τ1 k => ?_) k))
      refine z_istore_n (pc := 74) (q := 3) [some (vr 96), some (vi a1), some (vi a2), some (vi x1), o4] (by decide +kernel) (Nat.le_of_ble_eq_true rfl) rfl ?_
      refine z_aload_n (pc := 75) (q := 0) (by decide +kernel) rfl ?_
      refine z_iload_n (pc := 76) (q := 1) (by decide +kernel) rfl ?_
      refine z_iload_n (pc := 77) (q := 2) (by decide +kernel) rfl ?_
      refine z_iadd (pc := 78) (by decide +kernel) ?_
      refine z_callv (pc := 79) (as := [vi (w32 (a1 + a2))]) ml_Ciph_73 rfl ⟨rfl, by decide⟩ rfl rfl (Nat.le_of_ble_eq_true rfl) (dc := d - 1) (by omega) (by decide +kernel) (CI.z (CI.mono (fun x2 τ2 k => ?_) k))
      refine z_istore (pc := 82) (i := 4) [some (vr 96), some (vi a1), some (vi a2), some (vi x1), some (vi x2)] (by decide +kernel) (Nat.le_of_ble_eq_true rfl) rfl ?_
      refine z_aload_n (pc := 84) (q := 0) (by decide +kernel) rfl ?_
      refine z_getR (pc := 85) 99 fl_Ciph_22 rfl rfl rfl (by decide +kernel) ?_
      refine z_iload (pc := 88) (i := 4) (by decide +kernel) rfl ?_
      have hb3 := k.1
      have k := k.2
      refine z_iald (pc := 90) rfl hb3 (by decide +kernel) ?_
      refine z_iconst (pc := 91) (n := -1) (by decide +kernel) ⟨by decide, by decide⟩ ?_
      refine z_icmp_eq (pc := 92) (off := 16) 108 (by decide +kernel) (by decide) ⟨fun hc => ?_, fun hc => ?_⟩
      · have k := k.1 hc
        refine z_aload_n (pc := 108) (q := 0) (by decide +kernel) rfl ?_
        refine z_getR (pc := 109) 99 fl_Ciph_22 rfl rfl rfl (by decide +kernel) ?_
        refine z_iload (pc := 112) (i := 4) (by decide +kernel) rfl ?_
        refine z_iload_n (pc := 114) (q := 3) (by decide +kernel) rfl ?_
        refine z_iast (pc := 115) rfl hb3 (by decide +kernel) ?_
        refine z_iinc (pc := 116) (i := 2) (n := 1) [some (vr 96), some (vi a1), some (vi (w32 (a2 + 1))), some (vi x1), some (vi x2)] (by decide +kernel) rfl rfl ?_
        refine z_goto (pc := 119) (off := -85) 34 (by decide +kernel) (by decide) ?_
        exact k
      · have k := k.2 hc
        refine z_aload_n (pc := 95) (q := 0) (by decide +kernel) rfl ?_
        refine z_getR (pc := 96) 99 fl_Ciph_22 rfl rfl rfl (by decide +kernel) ?_
        refine z_iload (pc := 99) (i := 4) (by decide +kernel) rfl ?_
        refine z_iald (pc := 101) rfl hb3 (by decide +kernel) ?_
        refine z_iload_n (pc := 102) (q := 3) (by decide +kernel) rfl ?_
        refine z_icmp_eq (pc := 103) (off := 5) 108 (by decide +kernel) (by decide) ⟨fun hc => ?_, fun hc => ?_⟩
        · have k := k.1 hc
          refine z_aload_n (pc := 108) (q := 0) (by decide +kernel) rfl ?_
          refine z_getR (pc := 109) 99 fl_Ciph_22 rfl rfl rfl (by decide +kernel) ?_
          refine z_iload (pc := 112) (i := 4) (by decide +kernel) rfl ?_
          refine z_iload_n (pc := 114) (q := 3) (by decide +kernel) rfl ?_
          refine z_iast (pc := 115) rfl hb3 (by decide +kernel) ?_
          refine z_iinc (pc := 116) (i := 2) (n := 1) [some (vr 96), some (vi a1), some (vi (w32 (a2 + 1))), some (vi x1), some (vi x2)] (by decide +kernel) rfl rfl ?_
          refine z_goto (pc := 119) (off := -85) 34 (by decide +kernel) (by decide) ?_
          exact k
        · have k := k.2 hc
          refine z_iconst (pc := 106) (n := 0) (by decide +kernel) ⟨by decide, by decide⟩ ?_
          exact z_zret (pc := 107) (by decide +kernel) rfl ⟨by decide, k⟩
theorem b_Ciph_turnAt_0 {E : EN} {d : Nat} {a1 : Int} {σ : Mem} {K : Int → Mem → Prop}  (k : (σ 96 5 < 1 → K 0 σ) ∧ (1 ≤ σ 96 5 → (3 < σ 96 5 → K 0 σ) ∧ (σ 96 5 ≤ 3 → (σ 96 5 ≠ 0) ∧ K (Int.tmod a1 (σ 96 5)) σ))) :
    Z E y_Ciph_turnAt d 0 [some (vr 96), some (vi a1)] [] σ (qi K) := by
  refine z_aload_n (pc := 0) (q := 0) (by decide +kernel) rfl ?_
  refine z_getI (pc := 1) 5 fl_Ciph_25 rfl (by decide) rfl (by decide +kernel) ?_
  refine z_iconst (pc := 4) (n := 1) (by decide +kernel) ⟨by decide, by decide⟩ ?_
  refine z_icmp_lt (pc := 5) (off := 20) 25 (by decide +kernel) (by decide) ⟨fun hc => ?_, fun hc => ?_⟩
  · have k := k.1 hc
    refine z_iconst (pc := 25) (n := 0) (by decide +kernel) ⟨by decide, by decide⟩ ?_
    exact z_iret (pc := 26) (by decide +kernel) rfl k
  · have k := k.2 hc
    refine z_aload_n (pc := 8) (q := 0) (by decide +kernel) rfl ?_
    refine z_getI (pc := 9) 5 fl_Ciph_25 rfl (by decide) rfl (by decide +kernel) ?_
    refine z_iconst (pc := 12) (n := 3) (by decide +kernel) ⟨by decide, by decide⟩ ?_
    refine z_icmp_gt (pc := 13) (off := 12) 25 (by decide +kernel) (by decide) ⟨fun hc => ?_, fun hc => ?_⟩
    · have k := k.1 hc
      refine z_iconst (pc := 25) (n := 0) (by decide +kernel) ⟨by decide, by decide⟩ ?_
      exact z_iret (pc := 26) (by decide +kernel) rfl k
    · have k := k.2 hc
      refine z_iload_n (pc := 16) (q := 1) (by decide +kernel) rfl ?_
      refine z_aload_n (pc := 17) (q := 0) (by decide +kernel) rfl ?_
      refine z_getI (pc := 18) 5 fl_Ciph_25 rfl (by decide) rfl (by decide +kernel) ?_
      have hb1 := k.1
      have k := k.2
      refine z_irem (pc := 21) (by decide +kernel) hb1 ?_
      refine z_goto (pc := 22) (off := 4) 26 (by decide +kernel) (by decide) ?_
      exact z_iret (pc := 26) (by decide +kernel) rfl k
theorem b_Ciph_markKeys_0 {E : EN} {d : Nat}  {σ : Mem} {K : Mem → Prop}  (hd : 1 ≤ d) (k : CI E y_Ciph_least (d - 1) [vr 96, vi 0] σ (fun x1 τ1 => Z E y_Ciph_markKeys d 6 [some (vr 96), some (vi x1), none, none, none] [] τ1 (qv K))) :
    Z E y_Ciph_markKeys d 0 [some (vr 96), none, none, none, none] [] σ (qv K) := by
  refine z_aload_n (pc := 0) (q := 0) (by decide +kernel) rfl ?_
  refine z_iconst (pc := 1) (n := 0) (by decide +kernel) ⟨by decide, by decide⟩ ?_
  refine z_callv (pc := 2) (as := [vi 0]) ml_Ciph_77 rfl ⟨rfl, by decide⟩ rfl rfl (Nat.le_of_ble_eq_true rfl) (dc := d - 1) (by omega) (by decide +kernel) (CI.z (CI.mono (fun x1 τ1 k => ?_) k))
  refine z_istore_n (pc := 5) (q := 1) [some (vr 96), some (vi x1), none, none, none] (by decide +kernel) (Nat.le_of_ble_eq_true rfl) rfl ?_
  exact k
theorem b_Ciph_markKeys_6 {E : EN} {d : Nat} {a1 : Int} {o2 : Option AV} {o3 : Option AV} {o4 : Option AV} {σ : Mem} {K : Mem → Prop}  (hd : 1 ≤ d) (k : CI E y_Ciph_most (d - 1) [vr 96, vi 0] σ (fun x1 τ1 => (x1 < a1 → K τ1) ∧ (a1 ≤ x1 → CI E y_Ciph_least (d - 1) [vr 96, vi 1] τ1 (fun x2 τ2 => Z E y_Ciph_markKeys d 21 [some (vr 96), some (vi a1), some (vi x2), o3, o4] [] τ2 (qv K))))) :
    Z E y_Ciph_markKeys d 6 [some (vr 96), some (vi a1), o2, o3, o4] [] σ (qv K) := by
  refine z_iload_n (pc := 6) (q := 1) (by decide +kernel) rfl ?_
  refine z_aload_n (pc := 7) (q := 0) (by decide +kernel) rfl ?_
  refine z_iconst (pc := 8) (n := 0) (by decide +kernel) ⟨by decide, by decide⟩ ?_
  refine z_callv (pc := 9) (as := [vi 0]) ml_Ciph_80 rfl ⟨rfl, by decide⟩ rfl rfl (Nat.le_of_ble_eq_true rfl) (dc := d - 1) (by omega) (by decide +kernel) (CI.z (CI.mono (fun x1 τ1 k => ?_) k))
  refine z_icmp_gt (pc := 12) (off := 120) 132 (by decide +kernel) (by decide) ⟨fun hc => ?_, fun hc => ?_⟩
  · have k := k.1 hc
    exact z_vret (pc := 132) (by decide +kernel) rfl k
  · have k := k.2 hc
    refine z_aload_n (pc := 15) (q := 0) (by decide +kernel) rfl ?_
    refine z_iconst (pc := 16) (n := 1) (by decide +kernel) ⟨by decide, by decide⟩ ?_
    refine z_callv (pc := 17) (as := [vi 1]) ml_Ciph_77 rfl ⟨rfl, by decide⟩ rfl rfl (Nat.le_of_ble_eq_true rfl) (dc := d - 1) (by omega) (by decide +kernel) (CI.z (CI.mono (fun x2 τ2 k => ?_) k))
    refine z_istore_n (pc := 20) (q := 2) [some (vr 96), some (vi a1), some (vi x2), o3, o4] (by decide +kernel) (Nat.le_of_ble_eq_true rfl) rfl ?_
    exact k
theorem b_Ciph_markKeys_21 {E : EN} {d : Nat} {a1 : Int} {a2 : Int} {o3 : Option AV} {o4 : Option AV} {σ : Mem} {K : Mem → Prop}  (hd : 1 ≤ d) (k : CI E y_Ciph_most (d - 1) [vr 96, vi 1] σ (fun x1 τ1 => (x1 < a2 → Z E y_Ciph_markKeys d 6 [some (vr 96), some (vi (w32 (a1 + 1))), some (vi a2), o3, o4] [] τ1 (qv K)) ∧ (a2 ≤ x1 → CI E y_Ciph_least (d - 1) [vr 96, vi 2] τ1 (fun x2 τ2 => Z E y_Ciph_markKeys d 36 [some (vr 96), some (vi a1), some (vi a2), some (vi x2), o4] [] τ2 (qv K))))) :
    Z E y_Ciph_markKeys d 21 [some (vr 96), some (vi a1), some (vi a2), o3, o4] [] σ (qv K) := by
  refine z_iload_n (pc := 21) (q := 2) (by decide +kernel) rfl ?_
  refine z_aload_n (pc := 22) (q := 0) (by decide +kernel) rfl ?_
  refine z_iconst (pc := 23) (n := 1) (by decide +kernel) ⟨by decide, by decide⟩ ?_
  refine z_callv (pc := 24) (as := [vi 1]) ml_Ciph_80 rfl ⟨rfl, by decide⟩ rfl rfl (Nat.le_of_ble_eq_true rfl) (dc := d - 1) (by omega) (by decide +kernel) (CI.z (CI.mono (fun x1 τ1 k => ?_) k))
  refine z_icmp_gt (pc := 27) (off := 99) 126 (by decide +kernel) (by decide) ⟨fun hc => ?_, fun hc => ?_⟩
  · have k := k.1 hc
    refine z_iinc (pc := 126) (i := 1) (n := 1) [some (vr 96), some (vi (w32 (a1 + 1))), some (vi a2), o3, o4] (by decide +kernel) rfl rfl ?_
    refine z_goto (pc := 129) (off := -123) 6 (by decide +kernel) (by decide) ?_
    exact k
  · have k := k.2 hc
    refine z_aload_n (pc := 30) (q := 0) (by decide +kernel) rfl ?_
    refine z_iconst (pc := 31) (n := 2) (by decide +kernel) ⟨by decide, by decide⟩ ?_
    refine z_callv (pc := 32) (as := [vi 2]) ml_Ciph_77 rfl ⟨rfl, by decide⟩ rfl rfl (Nat.le_of_ble_eq_true rfl) (dc := d - 1) (by omega) (by decide +kernel) (CI.z (CI.mono (fun x2 τ2 k => ?_) k))
    refine z_istore_n (pc := 35) (q := 3) [some (vr 96), some (vi a1), some (vi a2), some (vi x2), o4] (by decide +kernel) (Nat.le_of_ble_eq_true rfl) rfl ?_
    exact k
theorem b_Ciph_markKeys_36 {E : EN} {d : Nat} {a1 : Int} {a2 : Int} {a3 : Int} {o4 : Option AV} {σ : Mem} {K : Mem → Prop}  (hd : 1 ≤ d) (k : CI E y_Ciph_most (d - 1) [vr 96, vi 2] σ (fun x1 τ1 => (x1 < a3 → Z E y_Ciph_markKeys d 21 [some (vr 96), some (vi a1), some (vi (w32 (a2 + 1))), some (vi a3), o4] [] τ1 (qv K)) ∧ (a3 ≤ x1 → (τ1 96 5 ≠ 1 → (τ1 96 5 ≠ 2 → Z E y_Ciph_markKeys d 93 [some (vr 96), some (vi a1), some (vi a2), some (vi a3), o4] [vi (w32 ((w32 ((w32 (702 + (w32 (676 * a1)))) + (w32 (26 * a2)))) + a3))] τ1 (qv K)) ∧ (τ1 96 5 = 2 → Z E y_Ciph_markKeys d 93 [some (vr 96), some (vi a1), some (vi a2), some (vi a3), o4] [vi (w32 ((w32 (26 + (w32 (26 * a1)))) + a2))] τ1 (qv K))) ∧ (τ1 96 5 = 1 → Z E y_Ciph_markKeys d 93 [some (vr 96), some (vi a1), some (vi a2), some (vi a3), o4] [vi a1] τ1 (qv K))))) :
    Z E y_Ciph_markKeys d 36 [some (vr 96), some (vi a1), some (vi a2), some (vi a3), o4] [] σ (qv K) := by
  refine z_iload_n (pc := 36) (q := 3) (by decide +kernel) rfl ?_
  refine z_aload_n (pc := 37) (q := 0) (by decide +kernel) rfl ?_
  refine z_iconst (pc := 38) (n := 2) (by decide +kernel) ⟨by decide, by decide⟩ ?_
  refine z_callv (pc := 39) (as := [vi 2]) ml_Ciph_80 rfl ⟨rfl, by decide⟩ rfl rfl (Nat.le_of_ble_eq_true rfl) (dc := d - 1) (by omega) (by decide +kernel) (CI.z (CI.mono (fun x1 τ1 k => ?_) k))
  refine z_icmp_gt (pc := 42) (off := 78) 120 (by decide +kernel) (by decide) ⟨fun hc => ?_, fun hc => ?_⟩
  · have k := k.1 hc
    refine z_iinc (pc := 120) (i := 2) (n := 1) [some (vr 96), some (vi a1), some (vi (w32 (a2 + 1))), some (vi a3), o4] (by decide +kernel) rfl rfl ?_
    refine z_goto (pc := 123) (off := -102) 21 (by decide +kernel) (by decide) ?_
    exact k
  · have k := k.2 hc
    refine z_aload_n (pc := 45) (q := 0) (by decide +kernel) rfl ?_
    refine z_getI (pc := 46) 5 fl_Ciph_25 rfl (by decide) rfl (by decide +kernel) ?_
    refine z_iconst (pc := 49) (n := 1) (by decide +kernel) ⟨by decide, by decide⟩ ?_
    refine z_icmp_ne (pc := 50) (off := 7) 57 (by decide +kernel) (by decide) ⟨fun hc => ?_, fun hc => ?_⟩
    · have k := k.1 hc
      refine z_aload_n (pc := 57) (q := 0) (by decide +kernel) rfl ?_
      refine z_getI (pc := 58) 5 fl_Ciph_25 rfl (by decide) rfl (by decide +kernel) ?_
      refine z_iconst (pc := 61) (n := 2) (by decide +kernel) ⟨by decide, by decide⟩ ?_
      refine z_icmp_ne (pc := 62) (off := 15) 77 (by decide +kernel) (by decide) ⟨fun hc => ?_, fun hc => ?_⟩
      · have k := k.1 hc
        refine z_sipush (pc := 77) (n := 702) (by decide +kernel) (by decide) ⟨by decide, by decide⟩ ?_
        refine z_sipush (pc := 80) (n := 676) (by decide +kernel) (by decide) ⟨by decide, by decide⟩ ?_
        refine z_iload_n (pc := 83) (q := 1) (by decide +kernel) rfl ?_
        refine z_imul (pc := 84) (by decide +kernel) ?_
        refine z_iadd (pc := 85) (by decide +kernel) ?_
        refine z_bipush (pc := 86) (n := 26) (by decide +kernel) (by decide) ⟨by decide, by decide⟩ ?_
        refine z_iload_n (pc := 88) (q := 2) (by decide +kernel) rfl ?_
        refine z_imul (pc := 89) (by decide +kernel) ?_
        refine z_iadd (pc := 90) (by decide +kernel) ?_
        refine z_iload_n (pc := 91) (q := 3) (by decide +kernel) rfl ?_
        refine z_iadd (pc := 92) (by decide +kernel) ?_
        exact k
      · have k := k.2 hc
        refine z_bipush (pc := 65) (n := 26) (by decide +kernel) (by decide) ⟨by decide, by decide⟩ ?_
        refine z_bipush (pc := 67) (n := 26) (by decide +kernel) (by decide) ⟨by decide, by decide⟩ ?_
        refine z_iload_n (pc := 69) (q := 1) (by decide +kernel) rfl ?_
        refine z_imul (pc := 70) (by decide +kernel) ?_
        refine z_iadd (pc := 71) (by decide +kernel) ?_
        refine z_iload_n (pc := 72) (q := 2) (by decide +kernel) rfl ?_
        refine z_iadd (pc := 73) (by decide +kernel) ?_
        refine z_goto (pc := 74) (off := 19) 93 (by decide +kernel) (by decide) ?_
        exact k
    · have k := k.2 hc
      refine z_iload_n (pc := 53) (q := 1) (by decide +kernel) rfl ?_
      refine z_goto (pc := 54) (off := 39) 93 (by decide +kernel) (by decide) ?_
      exact k
theorem b_Ciph_markKeys_93 {E : EN} {d : Nat} {a1 : Int} {a2 : Int} {a3 : Int} {o4 : Option AV} {s0 : Int} {σ : Mem} {K : Mem → Prop}  (k : (0 ≤ isr s0 5 ∧ isr s0 5 < 572) ∧ Z E y_Ciph_markKeys d 36 [some (vr 96), some (vi a1), some (vi a2), some (vi (w32 (a3 + 1))), some (vi s0)] [] (up σ 98 (isr s0 5) (ior (σ 98 (isr s0 5)) (ish 1 (ian s0 31)))) (qv K)) :
    Z E y_Ciph_markKeys d 93 [some (vr 96), some (vi a1), some (vi a2), some (vi a3), o4] [vi s0] σ (qv K) := by
  refine z_istore (pc := 93) (i := 4) [some (vr 96), some (vi a1), some (vi a2), some (vi a3), some (vi s0)] (by decide +kernel) (Nat.le_of_ble_eq_true rfl) rfl ?_
  refine z_aload_n (pc := 95) (q := 0) (by decide +kernel) rfl ?_
  refine z_getR (pc := 96) 98 fl_Ciph_19 rfl rfl rfl (by decide +kernel) ?_
  refine z_iload (pc := 99) (i := 4) (by decide +kernel) rfl ?_
  refine z_iconst (pc := 101) (n := 5) (by decide +kernel) ⟨by decide, by decide⟩ ?_
  refine z_ishr (pc := 102) (by decide +kernel) ?_
  refine z_dup2 (pc := 103) (by decide +kernel) rfl rfl ?_
  have hb1 := k.1
  have k := k.2
  refine z_iald (pc := 104) rfl hb1 (by decide +kernel) ?_
  refine z_iconst (pc := 105) (n := 1) (by decide +kernel) ⟨by decide, by decide⟩ ?_
  refine z_iload (pc := 106) (i := 4) (by decide +kernel) rfl ?_
  refine z_bipush (pc := 108) (n := 31) (by decide +kernel) (by decide) ⟨by decide, by decide⟩ ?_
  refine z_iand (pc := 110) (by decide +kernel) ?_
  refine z_ishl (pc := 111) (by decide +kernel) ?_
  refine z_ior (pc := 112) (by decide +kernel) ?_
  refine z_iast (pc := 113) rfl hb1 (by decide +kernel) ?_
  refine z_iinc (pc := 114) (i := 3) (n := 1) [some (vr 96), some (vi a1), some (vi a2), some (vi (w32 (a3 + 1))), some (vi s0)] (by decide +kernel) rfl rfl ?_
  refine z_goto (pc := 117) (off := -81) 36 (by decide +kernel) (by decide) ?_
  exact k
theorem b_Ciph_least_0 {E : EN} {d : Nat} {a1 : Int} {σ : Mem} {K : Int → Mem → Prop}  (k : (0 ≤ a1 ∧ a1 < 3) ∧ (σ 99 a1 ≠ (-1) → K (σ 99 a1) σ) ∧ (σ 99 a1 = (-1) → K 0 σ)) :
    Z E y_Ciph_least d 0 [some (vr 96), some (vi a1)] [] σ (qi K) := by
  refine z_aload_n (pc := 0) (q := 0) (by decide +kernel) rfl ?_
  refine z_getR (pc := 1) 99 fl_Ciph_22 rfl rfl rfl (by decide +kernel) ?_
  refine z_iload_n (pc := 4) (q := 1) (by decide +kernel) rfl ?_
  have hb1 := k.1
  have k := k.2
  refine z_iald (pc := 5) rfl hb1 (by decide +kernel) ?_
  refine z_iconst (pc := 6) (n := -1) (by decide +kernel) ⟨by decide, by decide⟩ ?_
  refine z_icmp_ne (pc := 7) (off := 7) 14 (by decide +kernel) (by decide) ⟨fun hc => ?_, fun hc => ?_⟩
  · have k := k.1 hc
    refine z_aload_n (pc := 14) (q := 0) (by decide +kernel) rfl ?_
    refine z_getR (pc := 15) 99 fl_Ciph_22 rfl rfl rfl (by decide +kernel) ?_
    refine z_iload_n (pc := 18) (q := 1) (by decide +kernel) rfl ?_
    refine z_iald (pc := 19) rfl hb1 (by decide +kernel) ?_
    exact z_iret (pc := 20) (by decide +kernel) rfl k
  · have k := k.2 hc
    refine z_iconst (pc := 10) (n := 0) (by decide +kernel) ⟨by decide, by decide⟩ ?_
    refine z_goto (pc := 11) (off := 9) 20 (by decide +kernel) (by decide) ?_
    exact z_iret (pc := 20) (by decide +kernel) rfl k
theorem b_Ciph_most_0 {E : EN} {d : Nat} {a1 : Int} {σ : Mem} {K : Int → Mem → Prop}  (k : (0 ≤ a1 ∧ a1 < 3) ∧ (σ 99 a1 ≠ (-1) → K (σ 99 a1) σ) ∧ (σ 99 a1 = (-1) → K 25 σ)) :
    Z E y_Ciph_most d 0 [some (vr 96), some (vi a1)] [] σ (qi K) := by
  refine z_aload_n (pc := 0) (q := 0) (by decide +kernel) rfl ?_
  refine z_getR (pc := 1) 99 fl_Ciph_22 rfl rfl rfl (by decide +kernel) ?_
  refine z_iload_n (pc := 4) (q := 1) (by decide +kernel) rfl ?_
  have hb1 := k.1
  have k := k.2
  refine z_iald (pc := 5) rfl hb1 (by decide +kernel) ?_
  refine z_iconst (pc := 6) (n := -1) (by decide +kernel) ⟨by decide, by decide⟩ ?_
  refine z_icmp_ne (pc := 7) (off := 8) 15 (by decide +kernel) (by decide) ⟨fun hc => ?_, fun hc => ?_⟩
  · have k := k.1 hc
    refine z_aload_n (pc := 15) (q := 0) (by decide +kernel) rfl ?_
    refine z_getR (pc := 16) 99 fl_Ciph_22 rfl rfl rfl (by decide +kernel) ?_
    refine z_iload_n (pc := 19) (q := 1) (by decide +kernel) rfl ?_
    refine z_iald (pc := 20) rfl hb1 (by decide +kernel) ?_
    exact z_iret (pc := 21) (by decide +kernel) rfl k
  · have k := k.2 hc
    refine z_bipush (pc := 10) (n := 25) (by decide +kernel) (by decide) ⟨by decide, by decide⟩ ?_
    refine z_goto (pc := 12) (off := 9) 21 (by decide +kernel) (by decide) ?_
    exact z_iret (pc := 21) (by decide +kernel) rfl k
theorem b_Ciph_total_0 {E : EN} {d : Nat}  {σ : Mem} {K : Int → Mem → Prop}  (k : Z E y_Ciph_total d 4 [some (vr 96), some (vi 0), some (vi 0)] [] σ (qi K)) :
    Z E y_Ciph_total d 0 [some (vr 96), none, none] [] σ (qi K) := by
  refine z_iconst (pc := 0) (n := 0) (by decide +kernel) ⟨by decide, by decide⟩ ?_
  refine z_istore_n (pc := 1) (q := 1) [some (vr 96), some (vi 0), none] (by decide +kernel) (Nat.le_of_ble_eq_true rfl) rfl ?_
  refine z_iconst (pc := 2) (n := 0) (by decide +kernel) ⟨by decide, by decide⟩ ?_
  refine z_istore_n (pc := 3) (q := 2) [some (vr 96), some (vi 0), some (vi 0)] (by decide +kernel) (Nat.le_of_ble_eq_true rfl) rfl ?_
  exact k
theorem b_Ciph_total_4 {E : EN} {d : Nat} {a1 : Int} {a2 : Int} {σ : Mem} {K : Int → Mem → Prop}  (hd : 1 ≤ d) (k : (572 ≤ a2 → K a1 σ) ∧ (a2 < 572 → (0 ≤ a2 ∧ a2 < 572) ∧ CI E y_Int_bitCount (d - 1) [vi (σ 98 a2)] σ (fun x1 τ1 => Z E y_Ciph_total d 4 [some (vr 96), some (vi (w32 (a1 + x1))), some (vi (w32 (a2 + 1)))] [] τ1 (qi K)))) :
    Z E y_Ciph_total d 4 [some (vr 96), some (vi a1), some (vi a2)] [] σ (qi K) := by
  refine z_iload_n (pc := 4) (q := 2) (by decide +kernel) rfl ?_
  refine z_aload_n (pc := 5) (q := 0) (by decide +kernel) rfl ?_
  refine z_getR (pc := 6) 98 fl_Ciph_19 rfl rfl rfl (by decide +kernel) ?_
  refine z_alen (pc := 9) 572 rfl (by decide) (by decide) rfl ⟨by decide, by decide⟩ (by decide +kernel) ?_
  refine z_icmp_ge (pc := 10) (off := 21) 31 (by decide +kernel) (by decide) ⟨fun hc => ?_, fun hc => ?_⟩
  · have k := k.1 hc
    refine z_iload_n (pc := 31) (q := 1) (by decide +kernel) rfl ?_
    exact z_iret (pc := 32) (by decide +kernel) rfl k
  · have k := k.2 hc
    refine z_iload_n (pc := 13) (q := 1) (by decide +kernel) rfl ?_
    refine z_aload_n (pc := 14) (q := 0) (by decide +kernel) rfl ?_
    refine z_getR (pc := 15) 98 fl_Ciph_19 rfl rfl rfl (by decide +kernel) ?_
    refine z_iload_n (pc := 18) (q := 2) (by decide +kernel) rfl ?_
    have hb1 := k.1
    have k := k.2
    refine z_iald (pc := 19) rfl hb1 (by decide +kernel) ?_
    refine z_calls (pc := 20) (as := [vi (σ 98 a2)]) ml_Ciph_83 rfl rfl (Nat.le_of_ble_eq_true rfl) (dc := d - 1) (by omega) (by decide +kernel) (CI.z (CI.mono (fun x1 τ1 k => ?_) k))
    refine z_iadd (pc := 23) (by decide +kernel) ?_
    refine z_istore_n (pc := 24) (q := 1) [some (vr 96), some (vi (w32 (a1 + x1))), some (vi a2)] (by decide +kernel) (Nat.le_of_ble_eq_true rfl) rfl ?_
    refine z_iinc (pc := 25) (i := 2) (n := 1) [some (vr 96), some (vi (w32 (a1 + x1))), some (vi (w32 (a2 + 1)))] (by decide +kernel) rfl rfl ?_
    refine z_goto (pc := 28) (off := -24) 4 (by decide +kernel) (by decide) ?_
    exact k
theorem b_Ciph_nth_0 {E : EN} {d : Nat} {a1 : Int} {σ : Mem} {K : Int → Mem → Prop}  (k : Z E y_Ciph_nth d 4 [some (vr 96), some (vi a1), some (vi a1), some (vi 0), none] [] σ (qi K)) :
    Z E y_Ciph_nth d 0 [some (vr 96), some (vi a1), none, none, none] [] σ (qi K) := by
  refine z_iload_n (pc := 0) (q := 1) (by decide +kernel) rfl ?_
  refine z_istore_n (pc := 1) (q := 2) [some (vr 96), some (vi a1), some (vi a1), none, none] (by decide +kernel) (Nat.le_of_ble_eq_true rfl) rfl ?_
  refine z_iconst (pc := 2) (n := 0) (by decide +kernel) ⟨by decide, by decide⟩ ?_
  refine z_istore_n (pc := 3) (q := 3) [some (vr 96), some (vi a1), some (vi a1), some (vi 0), none] (by decide +kernel) (Nat.le_of_ble_eq_true rfl) rfl ?_
  exact k
theorem b_Ciph_nth_4 {E : EN} {d : Nat} {a1 : Int} {o1 : Option AV} {a2 : Int} {a3 : Int} {o4 : Option AV} {σ : Mem} {K : Int → Mem → Prop}  (hd : 1 ≤ d) (k : (572 ≤ a3 → K (-1) σ) ∧ (a3 < 572 → (0 ≤ a3 ∧ a3 < 572) ∧ CI E y_Int_bitCount (d - 1) [vi (σ 98 a3)] σ (fun x1 τ1 => (x1 ≤ a2 → Z E y_Ciph_nth d 4 [some (vr 96), none, some (vi (w32 (a2 - x1))), some (vi (w32 (a3 + 1))), some (vi x1)] [] τ1 (qi K)) ∧ (a2 < x1 → CI E y_Ciph_nthBit (d - 1) [vi (τ1 98 a3), vi a2] τ1 (fun x2 τ2 => CI E y_Ciph_numberOf (d - 1) [vi (w32 ((w32 (32 * a3)) + x2))] τ2 (fun x3 τ3 => K x3 τ3)))))) :
    Z E y_Ciph_nth d 4 [some (vr 96), o1, some (vi a2), some (vi a3), o4] [] σ (qi K) := by
  refine z_iload_n (pc := 4) (q := 3) (by decide +kernel) rfl ?_
  refine z_aload_n (pc := 5) (q := 0) (by decide +kernel) rfl ?_
  refine z_getR (pc := 6) 98 fl_Ciph_19 rfl rfl rfl (by decide +kernel) ?_
  refine z_alen (pc := 9) 572 rfl (by decide) (by decide) rfl ⟨by decide, by decide⟩ (by decide +kernel) ?_
  refine z_icmp_ge (pc := 10) (off := 50) 60 (by decide +kernel) (by decide) ⟨fun hc => ?_, fun hc => ?_⟩
  · have k := k.1 hc
    refine z_iconst (pc := 60) (n := -1) (by decide +kernel) ⟨by decide, by decide⟩ ?_
    exact z_iret (pc := 61) (by decide +kernel) rfl k
  · have k := k.2 hc
    refine z_aload_n (pc := 13) (q := 0) (by decide +kernel) rfl ?_
    refine z_getR (pc := 14) 98 fl_Ciph_19 rfl rfl rfl (by decide +kernel) ?_
    refine z_iload_n (pc := 17) (q := 3) (by decide +kernel) rfl ?_
    have hb1 := k.1
    have k := k.2
    refine z_iald (pc := 18) rfl hb1 (by decide +kernel) ?_
    refine z_calls (pc := 19) (as := [vi (σ 98 a3)]) ml_Ciph_83 rfl rfl (Nat.le_of_ble_eq_true rfl) (dc := d - 1) (by omega) (by decide +kernel) (CI.z (CI.mono (fun x1 τ1 k => ?_) k))
    refine z_istore (pc := 22) (i := 4) [some (vr 96), o1, some (vi a2), some (vi a3), some (vi x1)] (by decide +kernel) (Nat.le_of_ble_eq_true rfl) rfl ?_
    refine z_iload_n (pc := 24) (q := 2) (by decide +kernel) rfl ?_
    refine z_iload (pc := 25) (i := 4) (by decide +kernel) rfl ?_
    refine z_icmp_ge (pc := 27) (off := 22) 49 (by decide +kernel) (by decide) ⟨fun hc => ?_, fun hc => ?_⟩
    · have k := k.1 hc
      refine z_iload_n (pc := 49) (q := 2) (by decide +kernel) rfl ?_
      refine z_iload (pc := 50) (i := 4) (by decide +kernel) rfl ?_
      refine z_isub (pc := 52) (by decide +kernel) ?_
      refine z_forget (pc := 53) 1 [some (vr 96), none, some (vi a2), some (vi a3), some (vi x1)] rfl ?_
      refine z_istore_n (pc := 53) (q := 2) [some (vr 96), none, some (vi (w32 (a2 - x1))), some (vi a3), some (vi x1)] (by decide +kernel) (Nat.le_of_ble_eq_true rfl) rfl ?_
      refine z_iinc (pc := 54) (i := 3) (n := 1) [some (vr 96), none, some (vi (w32 (a2 - x1))), some (vi (w32 (a3 + 1))), some (vi x1)] (by decide +kernel) rfl rfl ?_
      refine z_goto (pc := 57) (off := -53) 4 (by decide +kernel) (by decide) ?_
      exact k
    · have k := k.2 hc
      refine z_bipush (pc := 30) (n := 32) (by decide +kernel) (by decide) ⟨by decide, by decide⟩ ?_
      refine z_iload_n (pc := 32) (q := 3) (by decide +kernel) rfl ?_
      refine z_imul (pc := 33) (by decide +kernel) ?_
      refine z_aload_n (pc := 34) (q := 0) (by decide +kernel) rfl ?_
      refine z_getR (pc := 35) 98 fl_Ciph_19 rfl rfl rfl (by decide +kernel) ?_
      refine z_iload_n (pc := 38) (q := 3) (by decide +kernel) rfl ?_
      refine z_iald (pc := 39) rfl hb1 (by decide +kernel) ?_
      refine z_iload_n (pc := 40) (q := 2) (by decide +kernel) rfl ?_
      refine z_calls (pc := 41) (as := [vi (τ1 98 a3), vi a2]) ml_Ciph_88 rfl rfl (Nat.le_of_ble_eq_true rfl) (dc := d - 1) (by omega) (by decide +kernel) (CI.z (CI.mono (fun x2 τ2 k => ?_) k))
      refine z_iadd (pc := 44) (by decide +kernel) ?_
      refine z_calls (pc := 45) (as := [vi (w32 ((w32 (32 * a3)) + x2))]) ml_Ciph_91 rfl rfl (Nat.le_of_ble_eq_true rfl) (dc := d - 1) (by omega) (by decide +kernel) (CI.z (CI.mono (fun x3 τ3 k => ?_) k))
      exact z_iret (pc := 48) (by decide +kernel) rfl k
theorem b_Ciph_nthBit_0 {E : EN} {d : Nat} {a0 : Int} {a1 : Int} {σ : Mem} {K : Int → Mem → Prop}  (k : Z E y_Ciph_nthBit d 4 [some (vi a0), some (vi a1), some (vi a1), some (vi 0)] [] σ (qi K)) :
    Z E y_Ciph_nthBit d 0 [some (vi a0), some (vi a1), none, none] [] σ (qi K) := by
  refine z_iload_n (pc := 0) (q := 1) (by decide +kernel) rfl ?_
  refine z_istore_n (pc := 1) (q := 2) [some (vi a0), some (vi a1), some (vi a1), none] (by decide +kernel) (Nat.le_of_ble_eq_true rfl) rfl ?_
  refine z_iconst (pc := 2) (n := 0) (by decide +kernel) ⟨by decide, by decide⟩ ?_
  refine z_istore_n (pc := 3) (q := 3) [some (vi a0), some (vi a1), some (vi a1), some (vi 0)] (by decide +kernel) (Nat.le_of_ble_eq_true rfl) rfl ?_
  exact k
theorem b_Ciph_nthBit_4 {E : EN} {d : Nat} {a0 : Int} {a1 : Int} {o1 : Option AV} {a2 : Int} {a3 : Int} {σ : Mem} {K : Int → Mem → Prop}  (k : (32 ≤ a3 → K 0 σ) ∧ (a3 < 32 → (ian (isr a0 a3) 1 = 0 → Z E y_Ciph_nthBit d 4 [some (vi a0), o1, some (vi a2), some (vi (w32 (a3 + 1)))] [] σ (qi K)) ∧ (ian (isr a0 a3) 1 ≠ 0 → (a2 ≠ 0 → Z E y_Ciph_nthBit d 4 [some (vi a0), none, some (vi (w32 (a2 + (-1)))), some (vi (w32 (a3 + 1)))] [] σ (qi K)) ∧ (a2 = 0 → K a3 σ)))) :
    Z E y_Ciph_nthBit d 4 [some (vi a0), o1, some (vi a2), some (vi a3)] [] σ (qi K) := by
  refine z_iload_n (pc := 4) (q := 3) (by decide +kernel) rfl ?_
  refine z_bipush (pc := 5) (n := 32) (by decide +kernel) (by decide) ⟨by decide, by decide⟩ ?_
  refine z_icmp_ge (pc := 7) (off := 26) 33 (by decide +kernel) (by decide) ⟨fun hc => ?_, fun hc => ?_⟩
  · have k := k.1 hc
    refine z_iconst (pc := 33) (n := 0) (by decide +kernel) ⟨by decide, by decide⟩ ?_
    exact z_iret (pc := 34) (by decide +kernel) rfl k
  · have k := k.2 hc
    refine z_iload_n (pc := 10) (q := 0) (by decide +kernel) rfl ?_
    refine z_iload_n (pc := 11) (q := 3) (by decide +kernel) rfl ?_
    refine z_ishr (pc := 12) (by decide +kernel) ?_
    refine z_iconst (pc := 13) (n := 1) (by decide +kernel) ⟨by decide, by decide⟩ ?_
    refine z_iand (pc := 14) (by decide +kernel) ?_
    refine z_if_eq (pc := 15) (off := 12) 27 (by decide +kernel) (by decide) ⟨fun hc => ?_, fun hc => ?_⟩
    · have k := k.1 hc
      refine z_iinc (pc := 27) (i := 3) (n := 1) [some (vi a0), o1, some (vi a2), some (vi (w32 (a3 + 1)))] (by decide +kernel) rfl rfl ?_
      refine z_goto (pc := 30) (off := -26) 4 (by decide +kernel) (by decide) ?_
      exact k
    · have k := k.2 hc
      refine z_iload_n (pc := 18) (q := 2) (by decide +kernel) rfl ?_
      refine z_if_ne (pc := 19) (off := 5) 24 (by decide +kernel) (by decide) ⟨fun hc => ?_, fun hc => ?_⟩
      · have k := k.1 hc
        refine z_forget (pc := 24) 1 [some (vi a0), none, some (vi a2), some (vi a3)] rfl ?_
        refine z_iinc (pc := 24) (i := 2) (n := -1) [some (vi a0), none, some (vi (w32 (a2 + (-1)))), some (vi a3)] (by decide +kernel) rfl rfl ?_
        refine z_iinc (pc := 27) (i := 3) (n := 1) [some (vi a0), none, some (vi (w32 (a2 + (-1)))), some (vi (w32 (a3 + 1)))] (by decide +kernel) rfl rfl ?_
        refine z_goto (pc := 30) (off := -26) 4 (by decide +kernel) (by decide) ?_
        exact k
      · have k := k.2 hc
        refine z_iload_n (pc := 22) (q := 3) (by decide +kernel) rfl ?_
        exact z_iret (pc := 23) (by decide +kernel) rfl k
theorem b_Ciph_numberOf_0 {E : EN} {d : Nat} {a0 : Int} {σ : Mem} {K : Int → Mem → Prop}  (k : (26 ≤ a0 → (702 ≤ a0 → K (w32 ((w32 (1000 + a0)) - 702)) σ) ∧ (a0 < 702 → K (w32 ((w32 (100 + a0)) - 26)) σ)) ∧ (a0 < 26 → K a0 σ)) :
    Z E y_Ciph_numberOf d 0 [some (vi a0)] [] σ (qi K) := by
  refine z_iload_n (pc := 0) (q := 0) (by decide +kernel) rfl ?_
  refine z_bipush (pc := 1) (n := 26) (by decide +kernel) (by decide) ⟨by decide, by decide⟩ ?_
  refine z_icmp_ge (pc := 3) (off := 5) 8 (by decide +kernel) (by decide) ⟨fun hc => ?_, fun hc => ?_⟩
  · have k := k.1 hc
    refine z_iload_n (pc := 8) (q := 0) (by decide +kernel) rfl ?_
    refine z_sipush (pc := 9) (n := 702) (by decide +kernel) (by decide) ⟨by decide, by decide⟩ ?_
    refine z_icmp_ge (pc := 12) (off := 13) 25 (by decide +kernel) (by decide) ⟨fun hc => ?_, fun hc => ?_⟩
    · have k := k.1 hc
      refine z_sipush (pc := 25) (n := 1000) (by decide +kernel) (by decide) ⟨by decide, by decide⟩ ?_
      refine z_iload_n (pc := 28) (q := 0) (by decide +kernel) rfl ?_
      refine z_iadd (pc := 29) (by decide +kernel) ?_
      refine z_sipush (pc := 30) (n := 702) (by decide +kernel) (by decide) ⟨by decide, by decide⟩ ?_
      refine z_isub (pc := 33) (by decide +kernel) ?_
      exact z_iret (pc := 34) (by decide +kernel) rfl k
    · have k := k.2 hc
      refine z_bipush (pc := 15) (n := 100) (by decide +kernel) (by decide) ⟨by decide, by decide⟩ ?_
      refine z_iload_n (pc := 17) (q := 0) (by decide +kernel) rfl ?_
      refine z_iadd (pc := 18) (by decide +kernel) ?_
      refine z_bipush (pc := 19) (n := 26) (by decide +kernel) (by decide) ⟨by decide, by decide⟩ ?_
      refine z_isub (pc := 21) (by decide +kernel) ?_
      refine z_goto (pc := 22) (off := 12) 34 (by decide +kernel) (by decide) ?_
      exact z_iret (pc := 34) (by decide +kernel) rfl k
  · have k := k.2 hc
    refine z_iload_n (pc := 6) (q := 0) (by decide +kernel) rfl ?_
    exact z_iret (pc := 7) (by decide +kernel) rfl k
theorem b_Ciph_turn_0 {E : EN} {d : Nat} {a1 : Int} {σ : Mem} {K : Int → Mem → Prop}  (hd : 1 ≤ d) (k : (a1 < 0 → Z E y_Ciph_turn d 17 [some (vr 96), some (vi a1)] [] σ (qi K)) ∧ (0 ≤ a1 → (26 ≤ a1 → Z E y_Ciph_turn d 17 [some (vr 96), some (vi a1)] [] σ (qi K)) ∧ (a1 < 26 → CV E y_Ciph_setShifts (d - 1) [vr 96, vi a1] σ (fun τ1 => K 1 τ1)))) :
    Z E y_Ciph_turn d 0 [some (vr 96), some (vi a1)] [] σ (qi K) := by
  refine z_iload_n (pc := 0) (q := 1) (by decide +kernel) rfl ?_
  refine z_if_lt (pc := 1) (off := 16) 17 (by decide +kernel) (by decide) ⟨fun hc => ?_, fun hc => ?_⟩
  · have k := k.1 hc
    exact k
  · have k := k.2 hc
    refine z_iload_n (pc := 4) (q := 1) (by decide +kernel) rfl ?_
    refine z_bipush (pc := 5) (n := 26) (by decide +kernel) (by decide) ⟨by decide, by decide⟩ ?_
    refine z_icmp_ge (pc := 7) (off := 10) 17 (by decide +kernel) (by decide) ⟨fun hc => ?_, fun hc => ?_⟩
    · have k := k.1 hc
      exact k
    · have k := k.2 hc
      refine z_aload_n (pc := 10) (q := 0) (by decide +kernel) rfl ?_
      refine z_iload_n (pc := 11) (q := 1) (by decide +kernel) rfl ?_
      refine z_callv (pc := 12) (as := [vi a1]) ml_Ciph_94 rfl ⟨rfl, by decide⟩ rfl rfl (Nat.le_of_ble_eq_true rfl) (dc := d - 1) (by omega) (by decide +kernel) (CV.z (CV.mono (fun τ1 k => ?_) k))
      refine z_iconst (pc := 15) (n := 1) (by decide +kernel) ⟨by decide, by decide⟩ ?_
      exact z_zret (pc := 16) (by decide +kernel) rfl ⟨by decide, k⟩
theorem b_Ciph_turn_17 {E : EN} {d : Nat} {a1 : Int} {σ : Mem} {K : Int → Mem → Prop}  (hd : 1 ≤ d) (k : (a1 < 100 → Z E y_Ciph_turn d 43 [some (vr 96), some (vi a1)] [] σ (qi K)) ∧ (100 ≤ a1 → (776 ≤ a1 → Z E y_Ciph_turn d 43 [some (vr 96), some (vi a1)] [] σ (qi K)) ∧ (a1 < 776 → CV E y_Ciph_setShifts (d - 1) [vr 96, vi (w32 ((w32 (26 + a1)) - 100))] σ (fun τ1 => K 1 τ1)))) :
    Z E y_Ciph_turn d 17 [some (vr 96), some (vi a1)] [] σ (qi K) := by
  refine z_iload_n (pc := 17) (q := 1) (by decide +kernel) rfl ?_
  refine z_bipush (pc := 18) (n := 100) (by decide +kernel) (by decide) ⟨by decide, by decide⟩ ?_
  refine z_icmp_lt (pc := 20) (off := 23) 43 (by decide +kernel) (by decide) ⟨fun hc => ?_, fun hc => ?_⟩
  · have k := k.1 hc
    exact k
  · have k := k.2 hc
    refine z_iload_n (pc := 23) (q := 1) (by decide +kernel) rfl ?_
    refine z_sipush (pc := 24) (n := 776) (by decide +kernel) (by decide) ⟨by decide, by decide⟩ ?_
    refine z_icmp_ge (pc := 27) (off := 16) 43 (by decide +kernel) (by decide) ⟨fun hc => ?_, fun hc => ?_⟩
    · have k := k.1 hc
      exact k
    · have k := k.2 hc
      refine z_aload_n (pc := 30) (q := 0) (by decide +kernel) rfl ?_
      refine z_bipush (pc := 31) (n := 26) (by decide +kernel) (by decide) ⟨by decide, by decide⟩ ?_
      refine z_iload_n (pc := 33) (q := 1) (by decide +kernel) rfl ?_
      refine z_iadd (pc := 34) (by decide +kernel) ?_
      refine z_bipush (pc := 35) (n := 100) (by decide +kernel) (by decide) ⟨by decide, by decide⟩ ?_
      refine z_isub (pc := 37) (by decide +kernel) ?_
      refine z_callv (pc := 38) (as := [vi (w32 ((w32 (26 + a1)) - 100))]) ml_Ciph_94 rfl ⟨rfl, by decide⟩ rfl rfl (Nat.le_of_ble_eq_true rfl) (dc := d - 1) (by omega) (by decide +kernel) (CV.z (CV.mono (fun τ1 k => ?_) k))
      refine z_iconst (pc := 41) (n := 1) (by decide +kernel) ⟨by decide, by decide⟩ ?_
      exact z_zret (pc := 42) (by decide +kernel) rfl ⟨by decide, k⟩
theorem b_Ciph_turn_43 {E : EN} {d : Nat} {a1 : Int} {σ : Mem} {K : Int → Mem → Prop}  (hd : 1 ≤ d) (k : (a1 < 1000 → K 0 σ) ∧ (1000 ≤ a1 → (18576 ≤ a1 → K 0 σ) ∧ (a1 < 18576 → CV E y_Ciph_setShifts (d - 1) [vr 96, vi (w32 ((w32 (702 + a1)) - 1000))] σ (fun τ1 => K 1 τ1)))) :
    Z E y_Ciph_turn d 43 [some (vr 96), some (vi a1)] [] σ (qi K) := by
  refine z_iload_n (pc := 43) (q := 1) (by decide +kernel) rfl ?_
  refine z_sipush (pc := 44) (n := 1000) (by decide +kernel) (by decide) ⟨by decide, by decide⟩ ?_
  refine z_icmp_lt (pc := 47) (off := 25) 72 (by decide +kernel) (by decide) ⟨fun hc => ?_, fun hc => ?_⟩
  · have k := k.1 hc
    refine z_iconst (pc := 72) (n := 0) (by decide +kernel) ⟨by decide, by decide⟩ ?_
    exact z_zret (pc := 73) (by decide +kernel) rfl ⟨by decide, k⟩
  · have k := k.2 hc
    refine z_iload_n (pc := 50) (q := 1) (by decide +kernel) rfl ?_
    refine z_sipush (pc := 51) (n := 18576) (by decide +kernel) (by decide) ⟨by decide, by decide⟩ ?_
    refine z_icmp_ge (pc := 54) (off := 18) 72 (by decide +kernel) (by decide) ⟨fun hc => ?_, fun hc => ?_⟩
    · have k := k.1 hc
      refine z_iconst (pc := 72) (n := 0) (by decide +kernel) ⟨by decide, by decide⟩ ?_
      exact z_zret (pc := 73) (by decide +kernel) rfl ⟨by decide, k⟩
    · have k := k.2 hc
      refine z_aload_n (pc := 57) (q := 0) (by decide +kernel) rfl ?_
      refine z_sipush (pc := 58) (n := 702) (by decide +kernel) (by decide) ⟨by decide, by decide⟩ ?_
      refine z_iload_n (pc := 61) (q := 1) (by decide +kernel) rfl ?_
      refine z_iadd (pc := 62) (by decide +kernel) ?_
      refine z_sipush (pc := 63) (n := 1000) (by decide +kernel) (by decide) ⟨by decide, by decide⟩ ?_
      refine z_isub (pc := 66) (by decide +kernel) ?_
      refine z_callv (pc := 67) (as := [vi (w32 ((w32 (702 + a1)) - 1000))]) ml_Ciph_94 rfl ⟨rfl, by decide⟩ rfl rfl (Nat.le_of_ble_eq_true rfl) (dc := d - 1) (by omega) (by decide +kernel) (CV.z (CV.mono (fun τ1 k => ?_) k))
      refine z_iconst (pc := 70) (n := 1) (by decide +kernel) ⟨by decide, by decide⟩ ?_
      exact z_zret (pc := 71) (by decide +kernel) rfl ⟨by decide, k⟩
theorem b_Ciph_setShifts_0 {E : EN} {d : Nat} {a1 : Int} {σ : Mem} {K : Mem → Prop}  (k : (26 ≤ a1 → (702 ≤ a1 → K (up (up (up (up σ 96 5 3) 99 0 (w32 (Int.tdiv (w32 (a1 - 702)) 676))) 99 1 (Int.tmod (w32 (Int.tdiv (w32 (a1 - 702)) 26)) 26)) 99 2 (Int.tmod (w32 (a1 - 702)) 26))) ∧ (a1 < 702 → K (up (up (up σ 96 5 2) 99 0 (w32 (Int.tdiv (w32 (a1 - 26)) 26))) 99 1 (Int.tmod (w32 (a1 - 26)) 26)))) ∧ (a1 < 26 → K (up (up σ 96 5 1) 99 0 a1))) :
    Z E y_Ciph_setShifts d 0 [some (vr 96), some (vi a1)] [] σ (qv K) := by
  refine z_iload_n (pc := 0) (q := 1) (by decide +kernel) rfl ?_
  refine z_bipush (pc := 1) (n := 26) (by decide +kernel) (by decide) ⟨by decide, by decide⟩ ?_
  refine z_icmp_ge (pc := 3) (off := 18) 21 (by decide +kernel) (by decide) ⟨fun hc => ?_, fun hc => ?_⟩
  · have k := k.1 hc
    refine z_iload_n (pc := 21) (q := 1) (by decide +kernel) rfl ?_
    refine z_sipush (pc := 22) (n := 702) (by decide +kernel) (by decide) ⟨by decide, by decide⟩ ?_
    refine z_icmp_ge (pc := 25) (off := 37) 62 (by decide +kernel) (by decide) ⟨fun hc => ?_, fun hc => ?_⟩
    · have k := k.1 hc
      refine z_aload_n (pc := 62) (q := 0) (by decide +kernel) rfl ?_
      refine z_iconst (pc := 63) (n := 3) (by decide +kernel) ⟨by decide, by decide⟩ ?_
      refine z_putI (pc := 64) 5 fp_Ciph_25 rfl rfl rfl (by decide +kernel) ?_
      refine z_aload_n (pc := 67) (q := 0) (by decide +kernel) rfl ?_
      refine z_getR (pc := 68) 99 fl_Ciph_22 rfl rfl rfl (by decide +kernel) ?_
      refine z_iconst (pc := 71) (n := 0) (by decide +kernel) ⟨by decide, by decide⟩ ?_
      refine z_iload_n (pc := 72) (q := 1) (by decide +kernel) rfl ?_
      refine z_sipush (pc := 73) (n := 702) (by decide +kernel) (by decide) ⟨by decide, by decide⟩ ?_
      refine z_isub (pc := 76) (by decide +kernel) ?_
      refine z_sipush (pc := 77) (n := 676) (by decide +kernel) (by decide) ⟨by decide, by decide⟩ ?_
      refine z_idiv (pc := 80) (by decide +kernel) (by decide) ?_
      refine z_iast (pc := 81) rfl ⟨by decide, by decide⟩ (by decide +kernel) ?_
      refine z_aload_n (pc := 82) (q := 0) (by decide +kernel) rfl ?_
      refine z_getR (pc := 83) 99 fl_Ciph_22 rfl rfl rfl (by decide +kernel) ?_
      refine z_iconst (pc := 86) (n := 1) (by decide +kernel) ⟨by decide, by decide⟩ ?_
      refine z_iload_n (pc := 87) (q := 1) (by decide +kernel) rfl ?_
      refine z_sipush (pc := 88) (n := 702) (by decide +kernel) (by decide) ⟨by decide, by decide⟩ ?_
      refine z_isub (pc := 91) (by decide +kernel) ?_
      refine z_bipush (pc := 92) (n := 26) (by decide +kernel) (by decide) ⟨by decide, by decide⟩ ?_
      refine z_idiv (pc := 94) (by decide +kernel) (by decide) ?_
      refine z_bipush (pc := 95) (n := 26) (by decide +kernel) (by decide) ⟨by decide, by decide⟩ ?_
      refine z_irem (pc := 97) (by decide +kernel) (by decide) ?_
      refine z_iast (pc := 98) rfl ⟨by decide, by decide⟩ (by decide +kernel) ?_
      refine z_aload_n (pc := 99) (q := 0) (by decide +kernel) rfl ?_
      refine z_getR (pc := 100) 99 fl_Ciph_22 rfl rfl rfl (by decide +kernel) ?_
      refine z_iconst (pc := 103) (n := 2) (by decide +kernel) ⟨by decide, by decide⟩ ?_
      refine z_iload_n (pc := 104) (q := 1) (by decide +kernel) rfl ?_
      refine z_sipush (pc := 105) (n := 702) (by decide +kernel) (by decide) ⟨by decide, by decide⟩ ?_
      refine z_isub (pc := 108) (by decide +kernel) ?_
      refine z_bipush (pc := 109) (n := 26) (by decide +kernel) (by decide) ⟨by decide, by decide⟩ ?_
      refine z_irem (pc := 111) (by decide +kernel) (by decide) ?_
      refine z_iast (pc := 112) rfl ⟨by decide, by decide⟩ (by decide +kernel) ?_
      exact z_vret (pc := 113) (by decide +kernel) rfl k
    · have k := k.2 hc
      refine z_aload_n (pc := 28) (q := 0) (by decide +kernel) rfl ?_
      refine z_iconst (pc := 29) (n := 2) (by decide +kernel) ⟨by decide, by decide⟩ ?_
      refine z_putI (pc := 30) 5 fp_Ciph_25 rfl rfl rfl (by decide +kernel) ?_
      refine z_aload_n (pc := 33) (q := 0) (by decide +kernel) rfl ?_
      refine z_getR (pc := 34) 99 fl_Ciph_22 rfl rfl rfl (by decide +kernel) ?_
      refine z_iconst (pc := 37) (n := 0) (by decide +kernel) ⟨by decide, by decide⟩ ?_
      refine z_iload_n (pc := 38) (q := 1) (by decide +kernel) rfl ?_
      refine z_bipush (pc := 39) (n := 26) (by decide +kernel) (by decide) ⟨by decide, by decide⟩ ?_
      refine z_isub (pc := 41) (by decide +kernel) ?_
      refine z_bipush (pc := 42) (n := 26) (by decide +kernel) (by decide) ⟨by decide, by decide⟩ ?_
      refine z_idiv (pc := 44) (by decide +kernel) (by decide) ?_
      refine z_iast (pc := 45) rfl ⟨by decide, by decide⟩ (by decide +kernel) ?_
      refine z_aload_n (pc := 46) (q := 0) (by decide +kernel) rfl ?_
      refine z_getR (pc := 47) 99 fl_Ciph_22 rfl rfl rfl (by decide +kernel) ?_
      refine z_iconst (pc := 50) (n := 1) (by decide +kernel) ⟨by decide, by decide⟩ ?_
      refine z_iload_n (pc := 51) (q := 1) (by decide +kernel) rfl ?_
      refine z_bipush (pc := 52) (n := 26) (by decide +kernel) (by decide) ⟨by decide, by decide⟩ ?_
      refine z_isub (pc := 54) (by decide +kernel) ?_
      refine z_bipush (pc := 55) (n := 26) (by decide +kernel) (by decide) ⟨by decide, by decide⟩ ?_
      refine z_irem (pc := 57) (by decide +kernel) (by decide) ?_
      refine z_iast (pc := 58) rfl ⟨by decide, by decide⟩ (by decide +kernel) ?_
      refine z_goto (pc := 59) (off := 54) 113 (by decide +kernel) (by decide) ?_
      exact z_vret (pc := 113) (by decide +kernel) rfl k
  · have k := k.2 hc
    refine z_aload_n (pc := 6) (q := 0) (by decide +kernel) rfl ?_
    refine z_iconst (pc := 7) (n := 1) (by decide +kernel) ⟨by decide, by decide⟩ ?_
    refine z_putI (pc := 8) 5 fp_Ciph_25 rfl rfl rfl (by decide +kernel) ?_
    refine z_aload_n (pc := 11) (q := 0) (by decide +kernel) rfl ?_
    refine z_getR (pc := 12) 99 fl_Ciph_22 rfl rfl rfl (by decide +kernel) ?_
    refine z_iconst (pc := 15) (n := 0) (by decide +kernel) ⟨by decide, by decide⟩ ?_
    refine z_iload_n (pc := 16) (q := 1) (by decide +kernel) rfl ?_
    refine z_iast (pc := 17) rfl ⟨by decide, by decide⟩ (by decide +kernel) ?_
    refine z_goto (pc := 18) (off := 95) 113 (by decide +kernel) (by decide) ?_
    exact z_vret (pc := 113) (by decide +kernel) rfl k
theorem b_Ciph_plainAt_0 {E : EN} {d : Nat} {a1 : Int} {σ : Mem} {K : Int → Mem → Prop}  (hd : 1 ≤ d) (k : (a1 < 0 → K 0 σ) ∧ (0 ≤ a1 → (σ 96 2 ≤ a1 → K 0 σ) ∧ (a1 < σ 96 2 → (40 ≤ a1 → K 0 σ) ∧ (a1 < 40 → (0 ≤ a1 ∧ a1 < 40) ∧ CI E y_Ciph_turnAt (d - 1) [vr 96, vi a1] σ (fun x1 τ1 => (0 ≤ x1 ∧ x1 < 3) ∧ CI E y_Math_floorMod (d - 1) [vi (w32 ((σ 97 a1) - (τ1 99 x1))), vi 26] τ1 (fun x2 τ2 => K x2 τ2)))))) :
    Z E y_Ciph_plainAt d 0 [some (vr 96), some (vi a1)] [] σ (qi K) := by
  refine z_iload_n (pc := 0) (q := 1) (by decide +kernel) rfl ?_
  refine z_if_lt (pc := 1) (off := 42) 43 (by decide +kernel) (by decide) ⟨fun hc => ?_, fun hc => ?_⟩
  · have k := k.1 hc
    refine z_iconst (pc := 43) (n := 0) (by decide +kernel) ⟨by decide, by decide⟩ ?_
    exact z_iret (pc := 44) (by decide +kernel) rfl k
  · have k := k.2 hc
    refine z_iload_n (pc := 4) (q := 1) (by decide +kernel) rfl ?_
    refine z_aload_n (pc := 5) (q := 0) (by decide +kernel) rfl ?_
    refine z_getI (pc := 6) 2 fl_Ciph_15 rfl (by decide) rfl (by decide +kernel) ?_
    refine z_icmp_ge (pc := 9) (off := 34) 43 (by decide +kernel) (by decide) ⟨fun hc => ?_, fun hc => ?_⟩
    · have k := k.1 hc
      refine z_iconst (pc := 43) (n := 0) (by decide +kernel) ⟨by decide, by decide⟩ ?_
      exact z_iret (pc := 44) (by decide +kernel) rfl k
    · have k := k.2 hc
      refine z_iload_n (pc := 12) (q := 1) (by decide +kernel) rfl ?_
      refine z_bipush (pc := 13) (n := 40) (by decide +kernel) (by decide) ⟨by decide, by decide⟩ ?_
      refine z_icmp_ge (pc := 15) (off := 28) 43 (by decide +kernel) (by decide) ⟨fun hc => ?_, fun hc => ?_⟩
      · have k := k.1 hc
        refine z_iconst (pc := 43) (n := 0) (by decide +kernel) ⟨by decide, by decide⟩ ?_
        exact z_iret (pc := 44) (by decide +kernel) rfl k
      · have k := k.2 hc
        refine z_aload_n (pc := 18) (q := 0) (by decide +kernel) rfl ?_
        refine z_getR (pc := 19) 97 fl_Ciph_11 rfl rfl rfl (by decide +kernel) ?_
        refine z_iload_n (pc := 22) (q := 1) (by decide +kernel) rfl ?_
        have hb1 := k.1
        have k := k.2
        refine z_iald (pc := 23) rfl hb1 (by decide +kernel) ?_
        refine z_aload_n (pc := 24) (q := 0) (by decide +kernel) rfl ?_
        refine z_getR (pc := 25) 99 fl_Ciph_22 rfl rfl rfl (by decide +kernel) ?_
        refine z_aload_n (pc := 28) (q := 0) (by decide +kernel) rfl ?_
        refine z_iload_n (pc := 29) (q := 1) (by decide +kernel) rfl ?_
        refine z_callv (pc := 30) (as := [vi a1]) ml_Ciph_73 rfl ⟨rfl, by decide⟩ rfl rfl (Nat.le_of_ble_eq_true rfl) (dc := d - 1) (by omega) (by decide +kernel) (CI.z (CI.mono (fun x1 τ1 k => ?_) k))
        have hb2 := k.1
        have k := k.2
        refine z_iald (pc := 33) rfl hb2 (by decide +kernel) ?_
        refine z_isub (pc := 34) (by decide +kernel) ?_
        refine z_bipush (pc := 35) (n := 26) (by decide +kernel) (by decide) ⟨by decide, by decide⟩ ?_
        refine z_calls (pc := 37) (as := [vi (w32 ((σ 97 a1) - (τ1 99 x1))), vi 26]) ml_Ciph_67 rfl rfl (Nat.le_of_ble_eq_true rfl) (dc := d - 1) (by omega) (by decide +kernel) (CI.z (CI.mono (fun x2 τ2 k => ?_) k))
        refine z_goto (pc := 40) (off := 4) 44 (by decide +kernel) (by decide) ?_
        exact z_iret (pc := 44) (by decide +kernel) rfl k
theorem b_Ciph_nameIn_0 {E : EN} {d : Nat}  {σ : Mem} {K : Int → Mem → Prop}  (k : (1 ≤ σ 2 6 → Z E y_Ciph_nameIn d 15 [some (vr 96), some (vi 0)] [] σ (qi K)) ∧ (σ 2 6 < 1 → K (-1) σ)) :
    Z E y_Ciph_nameIn d 0 [some (vr 96), none] [] σ (qi K) := by
  refine z_aload_n (pc := 0) (q := 0) (by decide +kernel) rfl ?_
  refine z_getR (pc := 1) 2 fl_Ciph_31 rfl rfl rfl (by decide +kernel) ?_
  refine z_getI (pc := 4) 6 fl_Ciph_52 rfl (by decide) rfl (by decide +kernel) ?_
  refine z_iconst (pc := 7) (n := 1) (by decide +kernel) ⟨by decide, by decide⟩ ?_
  refine z_icmp_ge (pc := 8) (off := 5) 13 (by decide +kernel) (by decide) ⟨fun hc => ?_, fun hc => ?_⟩
  · have k := k.1 hc
    refine z_iconst (pc := 13) (n := 0) (by decide +kernel) ⟨by decide, by decide⟩ ?_
    refine z_istore_n (pc := 14) (q := 1) [some (vr 96), some (vi 0)] (by decide +kernel) (Nat.le_of_ble_eq_true rfl) rfl ?_
    exact k
  · have k := k.2 hc
    refine z_iconst (pc := 11) (n := -1) (by decide +kernel) ⟨by decide, by decide⟩ ?_
    exact z_iret (pc := 12) (by decide +kernel) rfl k
theorem b_Ciph_nameIn_15 {E : EN} {d : Nat} {a1 : Int} {σ : Mem} {K : Int → Mem → Prop}  (hd : 1 ≤ d) (k : (σ 96 2 < w32 (a1 + (σ 2 6)) → K (-1) σ) ∧ (w32 (a1 + (σ 2 6)) ≤ σ 96 2 → CI E y_Ciph_nameIsAt (d - 1) [vr 96, vi a1] σ (fun x1 τ1 => (x1 = 0 → Z E y_Ciph_nameIn d 15 [some (vr 96), some (vi (w32 (a1 + 1)))] [] τ1 (qi K)) ∧ (x1 ≠ 0 → K a1 τ1)))) :
    Z E y_Ciph_nameIn d 15 [some (vr 96), some (vi a1)] [] σ (qi K) := by
  refine z_iload_n (pc := 15) (q := 1) (by decide +kernel) rfl ?_
  refine z_aload_n (pc := 16) (q := 0) (by decide +kernel) rfl ?_
  refine z_getR (pc := 17) 2 fl_Ciph_31 rfl rfl rfl (by decide +kernel) ?_
  refine z_getI (pc := 20) 6 fl_Ciph_52 rfl (by decide) rfl (by decide +kernel) ?_
  refine z_iadd (pc := 23) (by decide +kernel) ?_
  refine z_aload_n (pc := 24) (q := 0) (by decide +kernel) rfl ?_
  refine z_getI (pc := 25) 2 fl_Ciph_15 rfl (by decide) rfl (by decide +kernel) ?_
  refine z_icmp_gt (pc := 28) (off := 19) 47 (by decide +kernel) (by decide) ⟨fun hc => ?_, fun hc => ?_⟩
  · have k := k.1 hc
    refine z_iconst (pc := 47) (n := -1) (by decide +kernel) ⟨by decide, by decide⟩ ?_
    exact z_iret (pc := 48) (by decide +kernel) rfl k
  · have k := k.2 hc
    refine z_aload_n (pc := 31) (q := 0) (by decide +kernel) rfl ?_
    refine z_iload_n (pc := 32) (q := 1) (by decide +kernel) rfl ?_
    refine z_callv (pc := 33) (as := [vi a1]) ml_Ciph_98 rfl ⟨rfl, by decide⟩ rfl rfl (Nat.le_of_ble_eq_true rfl) (dc := d - 1) (by omega) (by decide +kernel) (CI.z (CI.mono (fun x1 τ1 k => ?_) k))
    refine z_if_eq (pc := 36) (off := 5) 41 (by decide +kernel) (by decide) ⟨fun hc => ?_, fun hc => ?_⟩
    · have k := k.1 hc
      refine z_iinc (pc := 41) (i := 1) (n := 1) [some (vr 96), some (vi (w32 (a1 + 1)))] (by decide +kernel) rfl rfl ?_
      refine z_goto (pc := 44) (off := -29) 15 (by decide +kernel) (by decide) ?_
      exact k
    · have k := k.2 hc
      refine z_iload_n (pc := 39) (q := 1) (by decide +kernel) rfl ?_
      exact z_iret (pc := 40) (by decide +kernel) rfl k
theorem b_Ciph_nameIsAt_0 {E : EN} {d : Nat} {a1 : Int} {σ : Mem} {K : Int → Mem → Prop}  (k : Z E y_Ciph_nameIsAt d 2 [some (vr 96), some (vi a1), some (vi 0)] [] σ (qi K)) :
    Z E y_Ciph_nameIsAt d 0 [some (vr 96), some (vi a1), none] [] σ (qi K) := by
  refine z_iconst (pc := 0) (n := 0) (by decide +kernel) ⟨by decide, by decide⟩ ?_
  refine z_istore_n (pc := 1) (q := 2) [some (vr 96), some (vi a1), some (vi 0)] (by decide +kernel) (Nat.le_of_ble_eq_true rfl) rfl ?_
  exact k
theorem b_Ciph_nameIsAt_2 {E : EN} {d : Nat} {a1 : Int} {a2 : Int} {σ : Mem} {K : Int → Mem → Prop}  (hd : 1 ≤ d) (k : (σ 2 6 ≤ a2 → K 1 σ) ∧ (a2 < σ 2 6 → (8 ≤ a2 → K 1 σ) ∧ (a2 < 8 → CI E y_Ciph_plainAt (d - 1) [vr 96, vi (w32 (a1 + a2))] σ (fun x1 τ1 => (0 ≤ a2 ∧ a2 < 8) ∧ (x1 = τ1 7 a2 → Z E y_Ciph_nameIsAt d 2 [some (vr 96), some (vi a1), some (vi (w32 (a2 + 1)))] [] τ1 (qi K)) ∧ (x1 ≠ τ1 7 a2 → K 0 τ1))))) :
    Z E y_Ciph_nameIsAt d 2 [some (vr 96), some (vi a1), some (vi a2)] [] σ (qi K) := by
  refine z_iload_n (pc := 2) (q := 2) (by decide +kernel) rfl ?_
  refine z_aload_n (pc := 3) (q := 0) (by decide +kernel) rfl ?_
  refine z_getR (pc := 4) 2 fl_Ciph_31 rfl rfl rfl (by decide +kernel) ?_
  refine z_getI (pc := 7) 6 fl_Ciph_52 rfl (by decide) rfl (by decide +kernel) ?_
  refine z_icmp_ge (pc := 10) (off := 36) 46 (by decide +kernel) (by decide) ⟨fun hc => ?_, fun hc => ?_⟩
  · have k := k.1 hc
    refine z_iconst (pc := 46) (n := 1) (by decide +kernel) ⟨by decide, by decide⟩ ?_
    exact z_zret (pc := 47) (by decide +kernel) rfl ⟨by decide, k⟩
  · have k := k.2 hc
    refine z_iload_n (pc := 13) (q := 2) (by decide +kernel) rfl ?_
    refine z_bipush (pc := 14) (n := 8) (by decide +kernel) (by decide) ⟨by decide, by decide⟩ ?_
    refine z_icmp_ge (pc := 16) (off := 30) 46 (by decide +kernel) (by decide) ⟨fun hc => ?_, fun hc => ?_⟩
    · have k := k.1 hc
      refine z_iconst (pc := 46) (n := 1) (by decide +kernel) ⟨by decide, by decide⟩ ?_
      exact z_zret (pc := 47) (by decide +kernel) rfl ⟨by decide, k⟩
    · have k := k.2 hc
      refine z_aload_n (pc := 19) (q := 0) (by decide +kernel) rfl ?_
      refine z_iload_n (pc := 20) (q := 1) (by decide +kernel) rfl ?_
      refine z_iload_n (pc := 21) (q := 2) (by decide +kernel) rfl ?_
      refine z_iadd (pc := 22) (by decide +kernel) ?_
      refine z_callv (pc := 23) (as := [vi (w32 (a1 + a2))]) ml_Ciph_101 rfl ⟨rfl, by decide⟩ rfl rfl (Nat.le_of_ble_eq_true rfl) (dc := d - 1) (by omega) (by decide +kernel) (CI.z (CI.mono (fun x1 τ1 k => ?_) k))
      refine z_aload_n (pc := 26) (q := 0) (by decide +kernel) rfl ?_
      refine z_getR (pc := 27) 2 fl_Ciph_31 rfl rfl rfl (by decide +kernel) ?_
      refine z_getR (pc := 30) 7 fl_Ciph_64 rfl rfl rfl (by decide +kernel) ?_
      refine z_iload_n (pc := 33) (q := 2) (by decide +kernel) rfl ?_
      have hb1 := k.1
      have k := k.2
      refine z_iald (pc := 34) rfl hb1 (by decide +kernel) ?_
      refine z_icmp_eq (pc := 35) (off := 5) 40 (by decide +kernel) (by decide) ⟨fun hc => ?_, fun hc => ?_⟩
      · have k := k.1 hc
        refine z_iinc (pc := 40) (i := 2) (n := 1) [some (vr 96), some (vi a1), some (vi (w32 (a2 + 1)))] (by decide +kernel) rfl rfl ?_
        refine z_goto (pc := 43) (off := -41) 2 (by decide +kernel) (by decide) ?_
        exact k
      · have k := k.2 hc
        refine z_iconst (pc := 38) (n := 0) (by decide +kernel) ⟨by decide, by decide⟩ ?_
        exact z_zret (pc := 39) (by decide +kernel) rfl ⟨by decide, k⟩
theorem b_Ciph_mostUnlike_0 {E : EN} {d : Nat}  {σ : Mem} {K : Int → Mem → Prop}  (hd : 1 ≤ d) (k : CV E y_Ciph_findShifts (d - 1) [vr 96] σ (fun τ1 => Z E y_Ciph_mostUnlike d 10 [some (vr 96), some (vi (-1)), some (vi 0), some (vi 0), none] [] τ1 (qi K))) :
    Z E y_Ciph_mostUnlike d 0 [some (vr 96), none, none, none, none] [] σ (qi K) := by
  refine z_aload_n (pc := 0) (q := 0) (by decide +kernel) rfl ?_
  refine z_callv (pc := 1) (as := []) ml_Ciph_104 rfl ⟨rfl, by decide⟩ rfl rfl (Nat.le_of_ble_eq_true rfl) (dc := d - 1) (by omega) (by decide +kernel) (CV.z (CV.mono (fun τ1 k => ?_) k))
  refine z_iconst (pc := 4) (n := -1) (by decide +kernel) ⟨by decide, by decide⟩ ?_
  refine z_istore_n (pc := 5) (q := 1) [some (vr 96), some (vi (-1)), none, none, none] (by decide +kernel) (Nat.le_of_ble_eq_true rfl) rfl ?_
  refine z_iconst (pc := 6) (n := 0) (by decide +kernel) ⟨by decide, by decide⟩ ?_
  refine z_istore_n (pc := 7) (q := 2) [some (vr 96), some (vi (-1)), some (vi 0), none, none] (by decide +kernel) (Nat.le_of_ble_eq_true rfl) rfl ?_
  refine z_iconst (pc := 8) (n := 0) (by decide +kernel) ⟨by decide, by decide⟩ ?_
  refine z_istore_n (pc := 9) (q := 3) [some (vr 96), some (vi (-1)), some (vi 0), some (vi 0), none] (by decide +kernel) (Nat.le_of_ble_eq_true rfl) rfl ?_
  exact k
theorem b_Ciph_mostUnlike_10 {E : EN} {d : Nat} {a1 : Int} {a2 : Int} {a3 : Int} {o4 : Option AV} {σ : Mem} {K : Int → Mem → Prop}  (hd : 1 ≤ d) (k : (σ 96 2 ≤ a3 → K a1 σ) ∧ (a3 < σ 96 2 → (0 ≤ w32 (1 + (Int.tmod a3 2)) ∧ w32 (1 + (Int.tmod a3 2)) < 6) ∧ (0 ≤ w32 (3 + (Int.tmod a3 3)) ∧ w32 (3 + (Int.tmod a3 3)) < 6) ∧ CI E y_Int_bitCount (d - 1) [vi (ior (ior (σ 100 0) (σ 100 (w32 (1 + (Int.tmod a3 2))))) (σ 100 (w32 (3 + (Int.tmod a3 3)))))] σ (fun x1 τ1 => (x1 ≤ a2 → Z E y_Ciph_mostUnlike d 10 [some (vr 96), some (vi a1), some (vi a2), some (vi (w32 (a3 + 1))), some (vi x1)] [] τ1 (qi K)) ∧ (a2 < x1 → Z E y_Ciph_mostUnlike d 10 [some (vr 96), some (vi a3), some (vi x1), some (vi (w32 (a3 + 1))), some (vi x1)] [] τ1 (qi K))))) :
    Z E y_Ciph_mostUnlike d 10 [some (vr 96), some (vi a1), some (vi a2), some (vi a3), o4] [] σ (qi K) := by
  refine z_iload_n (pc := 10) (q := 3) (by decide +kernel) rfl ?_
  refine z_aload_n (pc := 11) (q := 0) (by decide +kernel) rfl ?_
  refine z_getI (pc := 12) 2 fl_Ciph_15 rfl (by decide) rfl (by decide +kernel) ?_
  refine z_icmp_ge (pc := 15) (off := 53) 68 (by decide +kernel) (by decide) ⟨fun hc => ?_, fun hc => ?_⟩
  · have k := k.1 hc
    refine z_iload_n (pc := 68) (q := 1) (by decide +kernel) rfl ?_
    exact z_iret (pc := 69) (by decide +kernel) rfl k
  · have k := k.2 hc
    refine z_aload_n (pc := 18) (q := 0) (by decide +kernel) rfl ?_
    refine z_getR (pc := 19) 100 fl_Ciph_28 rfl rfl rfl (by decide +kernel) ?_
    refine z_iconst (pc := 22) (n := 0) (by decide +kernel) ⟨by decide, by decide⟩ ?_
    refine z_iald (pc := 23) rfl ⟨by decide, by decide⟩ (by decide +kernel) ?_
    refine z_aload_n (pc := 24) (q := 0) (by decide +kernel) rfl ?_
    refine z_getR (pc := 25) 100 fl_Ciph_28 rfl rfl rfl (by decide +kernel) ?_
    refine z_iconst (pc := 28) (n := 1) (by decide +kernel) ⟨by decide, by decide⟩ ?_
    refine z_iload_n (pc := 29) (q := 3) (by decide +kernel) rfl ?_
    refine z_iconst (pc := 30) (n := 2) (by decide +kernel) ⟨by decide, by decide⟩ ?_
    refine z_irem (pc := 31) (by decide +kernel) (by decide) ?_
    refine z_iadd (pc := 32) (by decide +kernel) ?_
    have hb1 := k.1
    have k := k.2
    refine z_iald (pc := 33) rfl hb1 (by decide +kernel) ?_
    refine z_ior (pc := 34) (by decide +kernel) ?_
    refine z_aload_n (pc := 35) (q := 0) (by decide +kernel) rfl ?_
    refine z_getR (pc := 36) 100 fl_Ciph_28 rfl rfl rfl (by decide +kernel) ?_
    refine z_iconst (pc := 39) (n := 3) (by decide +kernel) ⟨by decide, by decide⟩ ?_
    refine z_iload_n (pc := 40) (q := 3) (by decide +kernel) rfl ?_
    refine z_iconst (pc := 41) (n := 3) (by decide +kernel) ⟨by decide, by decide⟩ ?_
    refine z_irem (pc := 42) (by decide +kernel) (by decide) ?_
    refine z_iadd (pc := 43) (by decide +kernel) ?_
    have hb2 := k.1
    have k := k.2
    refine z_iald (pc := 44) rfl hb2 (by decide +kernel) ?_
    refine z_ior (pc := 45) (by decide +kernel) ?_
    refine z_calls (pc := 46) (as := [vi (ior (ior (σ 100 0) (σ 100 (w32 (1 + (Int.tmod a3 2))))) (σ 100 (w32 (3 + (Int.tmod a3 3)))))]) ml_Ciph_83 rfl rfl (Nat.le_of_ble_eq_true rfl) (dc := d - 1) (by omega) (by decide +kernel) (CI.z (CI.mono (fun x1 τ1 k => ?_) k))
    refine z_istore (pc := 49) (i := 4) [some (vr 96), some (vi a1), some (vi a2), some (vi a3), some (vi x1)] (by decide +kernel) (Nat.le_of_ble_eq_true rfl) rfl ?_
    refine z_iload (pc := 51) (i := 4) (by decide +kernel) rfl ?_
    refine z_iload_n (pc := 53) (q := 2) (by decide +kernel) rfl ?_
    refine z_icmp_le (pc := 54) (off := 8) 62 (by decide +kernel) (by decide) ⟨fun hc => ?_, fun hc => ?_⟩
    · have k := k.1 hc
      refine z_iinc (pc := 62) (i := 3) (n := 1) [some (vr 96), some (vi a1), some (vi a2), some (vi (w32 (a3 + 1))), some (vi x1)] (by decide +kernel) rfl rfl ?_
      refine z_goto (pc := 65) (off := -55) 10 (by decide +kernel) (by decide) ?_
      exact k
    · have k := k.2 hc
      refine z_iload (pc := 57) (i := 4) (by decide +kernel) rfl ?_
      refine z_istore_n (pc := 59) (q := 2) [some (vr 96), some (vi a1), some (vi x1), some (vi a3), some (vi x1)] (by decide +kernel) (Nat.le_of_ble_eq_true rfl) rfl ?_
      refine z_iload_n (pc := 60) (q := 3) (by decide +kernel) rfl ?_
      refine z_istore_n (pc := 61) (q := 1) [some (vr 96), some (vi a3), some (vi x1), some (vi a3), some (vi x1)] (by decide +kernel) (Nat.le_of_ble_eq_true rfl) rfl ?_
      refine z_iinc (pc := 62) (i := 3) (n := 1) [some (vr 96), some (vi a3), some (vi x1), some (vi (w32 (a3 + 1))), some (vi x1)] (by decide +kernel) rfl rfl ?_
      refine z_goto (pc := 65) (off := -55) 10 (by decide +kernel) (by decide) ?_
      exact k
theorem b_Ciph_findShifts_0 {E : EN} {d : Nat}  {σ : Mem} {K : Mem → Prop}  (hd : 1 ≤ d) (k : CV E y_Arr_fill_AII (d - 1) [vr 100, vi 0] σ (fun τ1 => Z E y_Ciph_findShifts d 10 [some (vr 96), some (vi 0), none, none] [] τ1 (qv K))) :
    Z E y_Ciph_findShifts d 0 [some (vr 96), none, none, none] [] σ (qv K) := by
  refine z_aload_n (pc := 0) (q := 0) (by decide +kernel) rfl ?_
  refine z_getR (pc := 1) 100 fl_Ciph_28 rfl rfl rfl (by decide +kernel) ?_
  refine z_iconst (pc := 4) (n := 0) (by decide +kernel) ⟨by decide, by decide⟩ ?_
  refine z_calls (pc := 5) (as := [vr 100, vi 0]) ml_Ciph_46 rfl rfl (Nat.le_of_ble_eq_true rfl) (dc := d - 1) (by omega) (by decide +kernel) (CV.z (CV.mono (fun τ1 k => ?_) k))
  refine z_iconst (pc := 8) (n := 0) (by decide +kernel) ⟨by decide, by decide⟩ ?_
  refine z_istore_n (pc := 9) (q := 1) [some (vr 96), some (vi 0), none, none] (by decide +kernel) (Nat.le_of_ble_eq_true rfl) rfl ?_
  exact k
theorem b_Ciph_findShifts_10 {E : EN} {d : Nat} {a1 : Int} {o2 : Option AV} {o3 : Option AV} {σ : Mem} {K : Mem → Prop}  (hd : 1 ≤ d) (k : (18278 ≤ a1 → K σ) ∧ (a1 < 18278 → (0 ≤ isr a1 5 ∧ isr a1 5 < 572) ∧ (ian (isr (σ 98 (isr a1 5)) (ian a1 31)) 1 = 0 → Z E y_Ciph_findShifts d 10 [some (vr 96), some (vi (w32 (a1 + 1))), o2, o3] [] σ (qv K)) ∧ (ian (isr (σ 98 (isr a1 5)) (ian a1 31)) 1 ≠ 0 → CV E y_Ciph_setShifts (d - 1) [vr 96, vi a1] σ (fun τ1 => (τ1 96 5 ≠ 1 → (τ1 96 5 ≠ 2 → Z E y_Ciph_findShifts d 68 [some (vr 96), some (vi a1), some (vi 3), some (vi 0)] [] τ1 (qv K)) ∧ (τ1 96 5 = 2 → Z E y_Ciph_findShifts d 68 [some (vr 96), some (vi a1), some (vi 1), some (vi 0)] [] τ1 (qv K))) ∧ (τ1 96 5 = 1 → Z E y_Ciph_findShifts d 68 [some (vr 96), some (vi a1), some (vi 0), some (vi 0)] [] τ1 (qv K)))))) :
    Z E y_Ciph_findShifts d 10 [some (vr 96), some (vi a1), o2, o3] [] σ (qv K) := by
  refine z_iload_n (pc := 10) (q := 1) (by decide +kernel) rfl ?_
  refine z_sipush (pc := 11) (n := 18278) (by decide +kernel) (by decide) ⟨by decide, by decide⟩ ?_
  refine z_icmp_ge (pc := 14) (off := 98) 112 (by decide +kernel) (by decide) ⟨fun hc => ?_, fun hc => ?_⟩
  · have k := k.1 hc
    exact z_vret (pc := 112) (by decide +kernel) rfl k
  · have k := k.2 hc
    refine z_aload_n (pc := 17) (q := 0) (by decide +kernel) rfl ?_
    refine z_getR (pc := 18) 98 fl_Ciph_19 rfl rfl rfl (by decide +kernel) ?_
    refine z_iload_n (pc := 21) (q := 1) (by decide +kernel) rfl ?_
    refine z_iconst (pc := 22) (n := 5) (by decide +kernel) ⟨by decide, by decide⟩ ?_
    refine z_ishr (pc := 23) (by decide +kernel) ?_
    have hb1 := k.1
    have k := k.2
    refine z_iald (pc := 24) rfl hb1 (by decide +kernel) ?_
    refine z_iload_n (pc := 25) (q := 1) (by decide +kernel) rfl ?_
    refine z_bipush (pc := 26) (n := 31) (by decide +kernel) (by decide) ⟨by decide, by decide⟩ ?_
    refine z_iand (pc := 28) (by decide +kernel) ?_
    refine z_ishr (pc := 29) (by decide +kernel) ?_
    refine z_iconst (pc := 30) (n := 1) (by decide +kernel) ⟨by decide, by decide⟩ ?_
    refine z_iand (pc := 31) (by decide +kernel) ?_
    refine z_if_eq (pc := 32) (off := 74) 106 (by decide +kernel) (by decide) ⟨fun hc => ?_, fun hc => ?_⟩
    · have k := k.1 hc
      refine z_iinc (pc := 106) (i := 1) (n := 1) [some (vr 96), some (vi (w32 (a1 + 1))), o2, o3] (by decide +kernel) rfl rfl ?_
      refine z_goto (pc := 109) (off := -99) 10 (by decide +kernel) (by decide) ?_
      exact k
    · have k := k.2 hc
      refine z_aload_n (pc := 35) (q := 0) (by decide +kernel) rfl ?_
      refine z_iload_n (pc := 36) (q := 1) (by decide +kernel) rfl ?_
      refine z_callv (pc := 37) (as := [vi a1]) ml_Ciph_94 rfl ⟨rfl, by decide⟩ rfl rfl (Nat.le_of_ble_eq_true rfl) (dc := d - 1) (by omega) (by decide +kernel) (CV.z (CV.mono (fun τ1 k => ?_) k))
      refine z_aload_n (pc := 40) (q := 0) (by decide +kernel) rfl ?_
      refine z_getI (pc := 41) 5 fl_Ciph_25 rfl (by decide) rfl (by decide +kernel) ?_
      refine z_iconst (pc := 44) (n := 1) (by decide +kernel) ⟨by decide, by decide⟩ ?_
      refine z_icmp_ne (pc := 45) (off := 7) 52 (by decide +kernel) (by decide) ⟨fun hc => ?_, fun hc => ?_⟩
      · have k := k.1 hc
        refine z_aload_n (pc := 52) (q := 0) (by decide +kernel) rfl ?_
        refine z_getI (pc := 53) 5 fl_Ciph_25 rfl (by decide) rfl (by decide +kernel) ?_
        refine z_iconst (pc := 56) (n := 2) (by decide +kernel) ⟨by decide, by decide⟩ ?_
        refine z_icmp_ne (pc := 57) (off := 7) 64 (by decide +kernel) (by decide) ⟨fun hc => ?_, fun hc => ?_⟩
        · have k := k.1 hc
          refine z_iconst (pc := 64) (n := 3) (by decide +kernel) ⟨by decide, by decide⟩ ?_
          refine z_istore_n (pc := 65) (q := 2) [some (vr 96), some (vi a1), some (vi 3), o3] (by decide +kernel) (Nat.le_of_ble_eq_true rfl) rfl ?_
          refine z_iconst (pc := 66) (n := 0) (by decide +kernel) ⟨by decide, by decide⟩ ?_
          refine z_istore_n (pc := 67) (q := 3) [some (vr 96), some (vi a1), some (vi 3), some (vi 0)] (by decide +kernel) (Nat.le_of_ble_eq_true rfl) rfl ?_
          exact k
        · have k := k.2 hc
          refine z_iconst (pc := 60) (n := 1) (by decide +kernel) ⟨by decide, by decide⟩ ?_
          refine z_goto (pc := 61) (off := 4) 65 (by decide +kernel) (by decide) ?_
          refine z_istore_n (pc := 65) (q := 2) [some (vr 96), some (vi a1), some (vi 1), o3] (by decide +kernel) (Nat.le_of_ble_eq_true rfl) rfl ?_
          refine z_iconst (pc := 66) (n := 0) (by decide +kernel) ⟨by decide, by decide⟩ ?_
          refine z_istore_n (pc := 67) (q := 3) [some (vr 96), some (vi a1), some (vi 1), some (vi 0)] (by decide +kernel) (Nat.le_of_ble_eq_true rfl) rfl ?_
          exact k
      · have k := k.2 hc
        refine z_iconst (pc := 48) (n := 0) (by decide +kernel) ⟨by decide, by decide⟩ ?_
        refine z_goto (pc := 49) (off := 16) 65 (by decide +kernel) (by decide) ?_
        refine z_istore_n (pc := 65) (q := 2) [some (vr 96), some (vi a1), some (vi 0), o3] (by decide +kernel) (Nat.le_of_ble_eq_true rfl) rfl ?_
        refine z_iconst (pc := 66) (n := 0) (by decide +kernel) ⟨by decide, by decide⟩ ?_
        refine z_istore_n (pc := 67) (q := 3) [some (vr 96), some (vi a1), some (vi 0), some (vi 0)] (by decide +kernel) (Nat.le_of_ble_eq_true rfl) rfl ?_
        exact k
theorem b_Ciph_findShifts_68 {E : EN} {d : Nat} {a1 : Int} {a2 : Int} {a3 : Int} {σ : Mem} {K : Mem → Prop}  (k : (σ 96 5 ≤ a3 → Z E y_Ciph_findShifts d 10 [some (vr 96), some (vi (w32 (a1 + 1))), some (vi a2), some (vi a3)] [] σ (qv K)) ∧ (a3 < σ 96 5 → (3 ≤ a3 → Z E y_Ciph_findShifts d 10 [some (vr 96), some (vi (w32 (a1 + 1))), some (vi a2), some (vi a3)] [] σ (qv K)) ∧ (a3 < 3 → (0 ≤ w32 (a2 + a3) ∧ w32 (a2 + a3) < 6) ∧ (0 ≤ a3 ∧ a3 < 3) ∧ Z E y_Ciph_findShifts d 68 [some (vr 96), some (vi a1), some (vi a2), some (vi (w32 (a3 + 1)))] [] (up σ 100 (w32 (a2 + a3)) (ior (σ 100 (w32 (a2 + a3))) (ish 1 (σ 99 a3)))) (qv K)))) :
    Z E y_Ciph_findShifts d 68 [some (vr 96), some (vi a1), some (vi a2), some (vi a3)] [] σ (qv K) := by
  refine z_iload_n (pc := 68) (q := 3) (by decide +kernel) rfl ?_
  refine z_aload_n (pc := 69) (q := 0) (by decide +kernel) rfl ?_
  refine z_getI (pc := 70) 5 fl_Ciph_25 rfl (by decide) rfl (by decide +kernel) ?_
  refine z_icmp_ge (pc := 73) (off := 33) 106 (by decide +kernel) (by decide) ⟨fun hc => ?_, fun hc => ?_⟩
  · have k := k.1 hc
    refine z_iinc (pc := 106) (i := 1) (n := 1) [some (vr 96), some (vi (w32 (a1 + 1))), some (vi a2), some (vi a3)] (by decide +kernel) rfl rfl ?_
    refine z_goto (pc := 109) (off := -99) 10 (by decide +kernel) (by decide) ?_
    exact k
  · have k := k.2 hc
    refine z_iload_n (pc := 76) (q := 3) (by decide +kernel) rfl ?_
    refine z_iconst (pc := 77) (n := 3) (by decide +kernel) ⟨by decide, by decide⟩ ?_
    refine z_icmp_ge (pc := 78) (off := 28) 106 (by decide +kernel) (by decide) ⟨fun hc => ?_, fun hc => ?_⟩
    · have k := k.1 hc
      refine z_iinc (pc := 106) (i := 1) (n := 1) [some (vr 96), some (vi (w32 (a1 + 1))), some (vi a2), some (vi a3)] (by decide +kernel) rfl rfl ?_
      refine z_goto (pc := 109) (off := -99) 10 (by decide +kernel) (by decide) ?_
      exact k
    · have k := k.2 hc
      refine z_aload_n (pc := 81) (q := 0) (by decide +kernel) rfl ?_
      refine z_getR (pc := 82) 100 fl_Ciph_28 rfl rfl rfl (by decide +kernel) ?_
      refine z_iload_n (pc := 85) (q := 2) (by decide +kernel) rfl ?_
      refine z_iload_n (pc := 86) (q := 3) (by decide +kernel) rfl ?_
      refine z_iadd (pc := 87) (by decide +kernel) ?_
      refine z_dup2 (pc := 88) (by decide +kernel) rfl rfl ?_
      have hb1 := k.1
      have k := k.2
      refine z_iald (pc := 89) rfl hb1 (by decide +kernel) ?_
      refine z_iconst (pc := 90) (n := 1) (by decide +kernel) ⟨by decide, by decide⟩ ?_
      refine z_aload_n (pc := 91) (q := 0) (by decide +kernel) rfl ?_
      refine z_getR (pc := 92) 99 fl_Ciph_22 rfl rfl rfl (by decide +kernel) ?_
      refine z_iload_n (pc := 95) (q := 3) (by decide +kernel) rfl ?_
      have hb2 := k.1
      have k := k.2
      refine z_iald (pc := 96) rfl hb2 (by decide +kernel) ?_
      refine z_ishl (pc := 97) (by decide +kernel) ?_
      refine z_ior (pc := 98) (by decide +kernel) ?_
      refine z_iast (pc := 99) rfl hb1 (by decide +kernel) ?_
      refine z_iinc (pc := 100) (i := 3) (n := 1) [some (vr 96), some (vi a1), some (vi a2), some (vi (w32 (a3 + 1)))] (by decide +kernel) rfl rfl ?_
      refine z_goto (pc := 103) (off := -35) 68 (by decide +kernel) (by decide) ?_
      exact k
