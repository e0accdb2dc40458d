theorem b_Plan_forget_0 {E : EN} {d : Nat}  {σ : Mem} {K : Mem → Prop}  (k : K (up σ 92 10 0)) :
    Z E y_Plan_forget d 0 [some (vr 92)] [] σ (qv K) := by
  refine z_aload_n (pc := 0) (q := 0) (by decide +kernel) rfl ?_
  refine z_iconst (pc := 1) (n := 0) (by decide +kernel) ⟨by decide, by decide⟩ ?_
  refine z_putZ (pc := 2) 10 fp_Plan_37 rfl rfl rfl (by decide) (by decide +kernel) ?_
  exact z_vret (pc := 5) (by decide +kernel) rfl k
theorem b_Plan_mostWorth_0 {E : EN} {d : Nat} {a1 : Int} {a2 : Int} {σ : Mem} {K : Int → Mem → Prop}  (k : Z E y_Plan_mostWorth d 5 [some (vr 92), some (vi a1), some (vi a2), some (vi 0), some (vi 0)] [] σ (qi K)) :
    Z E y_Plan_mostWorth d 0 [some (vr 92), some (vi a1), some (vi a2), none, none] [] σ (qi K) := by
  refine z_iconst (pc := 0) (n := 0) (by decide +kernel) ⟨by decide, by decide⟩ ?_
  refine z_istore_n (pc := 1) (q := 3) [some (vr 92), some (vi a1), some (vi a2), some (vi 0), none] (by decide +kernel) (Nat.le_of_ble_eq_true rfl) rfl ?_
  refine z_iconst (pc := 2) (n := 0) (by decide +kernel) ⟨by decide, by decide⟩ ?_
  refine z_istore (pc := 3) (i := 4) [some (vr 92), some (vi a1), some (vi a2), some (vi 0), some (vi 0)] (by decide +kernel) (Nat.le_of_ble_eq_true rfl) rfl ?_
  exact k
theorem b_Plan_mostWorth_5 {E : EN} {d : Nat} {a1 : Int} {a2 : Int} {a3 : Int} {a4 : Int} {σ : Mem} {K : Int → Mem → Prop}  (hd : 1 ≤ d) (k : (64 ≤ a4 → K a3 σ) ∧ (a4 < 64 → (ian a4 (ixo a1 (-1)) ≠ 0 → Z E y_Plan_mostWorth d 5 [some (vr 92), some (vi a1), some (vi a2), some (vi a3), some (vi (w32 (a4 + 1)))] [] σ (qi K)) ∧ (ian a4 (ixo a1 (-1)) = 0 → CI E y_Plan_soonest (d - 1) [vr 92, vi a4] σ (fun x1 τ1 => (a2 < x1 → Z E y_Plan_mostWorth d 5 [some (vr 92), some (vi a1), some (vi a2), some (vi a3), some (vi (w32 (a4 + 1)))] [] τ1 (qi K)) ∧ (x1 ≤ a2 → CI E y_Room_worthOf (d - 1) [vr 2, vi a4] τ1 (fun x2 τ2 => CI E y_Math_max_II (d - 1) [vi a3, vi x2] τ2 (fun x3 τ3 => Z E y_Plan_mostWorth d 5 [some (vr 92), some (vi a1), some (vi a2), some (vi x3), some (vi (w32 (a4 + 1)))] [] τ3 (qi K)))))))) :
    Z E y_Plan_mostWorth d 5 [some (vr 92), some (vi a1), some (vi a2), some (vi a3), some (vi a4)] [] σ (qi K) := by
  refine z_iload (pc := 5) (i := 4) (by decide +kernel) rfl ?_
  refine z_bipush (pc := 7) (n := 64) (by decide +kernel) (by decide) ⟨by decide, by decide⟩ ?_
  refine z_icmp_ge (pc := 9) (off := 42) 51 (by decide +kernel) (by decide) ⟨fun hc => ?_, fun hc => ?_⟩
  · have k := k.1 hc
    refine z_iload_n (pc := 51) (q := 3) (by decide +kernel) rfl ?_
    exact z_iret (pc := 52) (by decide +kernel) rfl k
  · have k := k.2 hc
    refine z_iload (pc := 12) (i := 4) (by decide +kernel) rfl ?_
    refine z_iload_n (pc := 14) (q := 1) (by decide +kernel) rfl ?_
    refine z_iconst (pc := 15) (n := -1) (by decide +kernel) ⟨by decide, by decide⟩ ?_
    refine z_ixor (pc := 16) (by decide +kernel) ?_
    refine z_iand (pc := 17) (by decide +kernel) ?_
    refine z_if_ne (pc := 18) (off := 27) 45 (by decide +kernel) (by decide) ⟨fun hc => ?_, fun hc => ?_⟩
    · have k := k.1 hc
      refine z_iinc (pc := 45) (i := 4) (n := 1) [some (vr 92), some (vi a1), some (vi a2), some (vi a3), some (vi (w32 (a4 + 1)))] (by decide +kernel) rfl rfl ?_
      refine z_goto (pc := 48) (off := -43) 5 (by decide +kernel) (by decide) ?_
      exact k
    · have k := k.2 hc
      refine z_aload_n (pc := 21) (q := 0) (by decide +kernel) rfl ?_
      refine z_iload (pc := 22) (i := 4) (by decide +kernel) rfl ?_
      refine z_callv (pc := 24) (as := [vi a4]) ml_Plan_75 rfl ⟨rfl, by decide⟩ rfl rfl (Nat.le_of_ble_eq_true rfl) (dc := d - 1) (by omega) (by decide +kernel) (CI.z (CI.mono (fun x1 τ1 k => ?_) k))
      refine z_iload_n (pc := 27) (q := 2) (by decide +kernel) rfl ?_
      refine z_icmp_gt (pc := 28) (off := 17) 45 (by decide +kernel) (by decide) ⟨fun hc => ?_, fun hc => ?_⟩
      · have k := k.1 hc
        refine z_iinc (pc := 45) (i := 4) (n := 1) [some (vr 92), some (vi a1), some (vi a2), some (vi a3), some (vi (w32 (a4 + 1)))] (by decide +kernel) rfl rfl ?_
        refine z_goto (pc := 48) (off := -43) 5 (by decide +kernel) (by decide) ?_
        exact k
      · have k := k.2 hc
        refine z_iload_n (pc := 31) (q := 3) (by decide +kernel) rfl ?_
        refine z_aload_n (pc := 32) (q := 0) (by decide +kernel) rfl ?_
        refine z_getR (pc := 33) 2 fl_Plan_62 rfl rfl rfl (by decide +kernel) ?_
        refine z_iload (pc := 36) (i := 4) (by decide +kernel) rfl ?_
        refine z_callv (pc := 38) (as := [vi a4]) ml_Plan_79 rfl ⟨rfl, by decide⟩ rfl rfl (Nat.le_of_ble_eq_true rfl) (dc := d - 1) (by omega) (by decide +kernel) (CI.z (CI.mono (fun x2 τ2 k => ?_) k))
        refine z_calls (pc := 41) (as := [vi a3, vi x2]) ml_Plan_84 rfl rfl (Nat.le_of_ble_eq_true rfl) (dc := d - 1) (by omega) (by decide +kernel) (CI.z (CI.mono (fun x3 τ3 k => ?_) k))
        refine z_istore_n (pc := 44) (q := 3) [some (vr 92), some (vi a1), some (vi a2), some (vi x3), some (vi a4)] (by decide +kernel) (Nat.le_of_ble_eq_true rfl) rfl ?_
        refine z_iinc (pc := 45) (i := 4) (n := 1) [some (vr 92), some (vi a1), some (vi a2), some (vi x3), some (vi (w32 (a4 + 1)))] (by decide +kernel) rfl rfl ?_
        refine z_goto (pc := 48) (off := -43) 5 (by decide +kernel) (by decide) ?_
        exact k
theorem b_Plan_soonest_0 {E : EN} {d : Nat} {a1 : Int} {σ : Mem} {K : Int → Mem → Prop}  (k : (a1 < 0 → K 1000 σ) ∧ (0 ≤ a1 → (64 ≤ a1 → K 1000 σ) ∧ (a1 < 64 → (0 ≤ w32 ((σ 92 4) + a1) ∧ w32 ((σ 92 4) + a1) < 512) ∧ K (σ 13 (w32 ((σ 92 4) + a1))) σ))) :
    Z E y_Plan_soonest d 0 [some (vr 92), some (vi a1)] [] σ (qi K) := by
  refine z_iload_n (pc := 0) (q := 1) (by decide +kernel) rfl ?_
  refine z_if_lt (pc := 1) (off := 26) 27 (by decide +kernel) (by decide) ⟨fun hc => ?_, fun hc => ?_⟩
  · have k := k.1 hc
    refine z_sipush (pc := 27) (n := 1000) (by decide +kernel) (by decide) ⟨by decide, by decide⟩ ?_
    exact z_iret (pc := 30) (by decide +kernel) rfl k
  · have k := k.2 hc
    refine z_iload_n (pc := 4) (q := 1) (by decide +kernel) rfl ?_
    refine z_bipush (pc := 5) (n := 64) (by decide +kernel) (by decide) ⟨by decide, by decide⟩ ?_
    refine z_icmp_ge (pc := 7) (off := 20) 27 (by decide +kernel) (by decide) ⟨fun hc => ?_, fun hc => ?_⟩
    · have k := k.1 hc
      refine z_sipush (pc := 27) (n := 1000) (by decide +kernel) (by decide) ⟨by decide, by decide⟩ ?_
      exact z_iret (pc := 30) (by decide +kernel) rfl k
    · have k := k.2 hc
      refine z_aload_n (pc := 10) (q := 0) (by decide +kernel) rfl ?_
      refine z_getR (pc := 11) 2 fl_Plan_62 rfl rfl rfl (by decide +kernel) ?_
      refine z_getR (pc := 14) 13 fl_Plan_90 rfl rfl rfl (by decide +kernel) ?_
      refine z_aload_n (pc := 17) (q := 0) (by decide +kernel) rfl ?_
      refine z_getI (pc := 18) 4 fl_Plan_18 rfl (by decide) rfl (by decide +kernel) ?_
      refine z_iload_n (pc := 21) (q := 1) (by decide +kernel) rfl ?_
      refine z_iadd (pc := 22) (by decide +kernel) ?_
      have hb1 := k.1
      have k := k.2
      refine z_iald (pc := 23) rfl hb1 (by decide +kernel) ?_
      refine z_goto (pc := 24) (off := 6) 30 (by decide +kernel) (by decide) ?_
      exact z_iret (pc := 30) (by decide +kernel) rfl k
theorem b_Plan_useHands_0 {E : EN} {d : Nat} {a1 : Int} {σ : Mem} {K : Mem → Prop}  (k : Z E y_Plan_useHands d 15 [some (vr 92), some (vi a1), some (vi (ian a1 7)), some (vi 0), none] [] (up σ 92 4 (w32 ((ian a1 7) * 64))) (qv K)) :
    Z E y_Plan_useHands d 0 [some (vr 92), some (vi a1), none, none, none] [] σ (qv K) := by
  refine z_iload_n (pc := 0) (q := 1) (by decide +kernel) rfl ?_
  refine z_bipush (pc := 1) (n := 7) (by decide +kernel) (by decide) ⟨by decide, by decide⟩ ?_
  refine z_iand (pc := 3) (by decide +kernel) ?_
  refine z_istore_n (pc := 4) (q := 2) [some (vr 92), some (vi a1), some (vi (ian a1 7)), none, none] (by decide +kernel) (Nat.le_of_ble_eq_true rfl) rfl ?_
  refine z_aload_n (pc := 5) (q := 0) (by decide +kernel) rfl ?_
  refine z_iload_n (pc := 6) (q := 2) (by decide +kernel) rfl ?_
  refine z_bipush (pc := 7) (n := 64) (by decide +kernel) (by decide) ⟨by decide, by decide⟩ ?_
  refine z_imul (pc := 9) (by decide +kernel) ?_
  refine z_putI (pc := 10) 4 fp_Plan_18 rfl rfl rfl (by decide +kernel) ?_
  refine z_iconst (pc := 13) (n := 0) (by decide +kernel) ⟨by decide, by decide⟩ ?_
  refine z_istore_n (pc := 14) (q := 3) [some (vr 92), some (vi a1), some (vi (ian a1 7)), some (vi 0), none] (by decide +kernel) (Nat.le_of_ble_eq_true rfl) rfl ?_
  exact k
theorem b_Plan_useHands_15 {E : EN} {d : Nat} {a1 : Int} {o1 : Option AV} {a2 : Int} {a3 : Int} {o4 : Option AV} {σ : Mem} {K : Mem → Prop}  (hd : 1 ≤ d) (k : (σ 2 3 ≤ a3 → Z E y_Plan_useHands d 122 [some (vr 92), o1, some (vi a2), some (vi a3), o4] [] σ (qv K)) ∧ (a3 < σ 2 3 → (6 ≤ a3 → Z E y_Plan_useHands d 122 [some (vr 92), o1, some (vi a2), some (vi a3), o4] [] σ (qv K)) ∧ (a3 < 6 → CI E y_Room_readersOf (d - 1) [vr 2, vi a3, vi a2] σ (fun x1 τ1 => (0 ≤ a3 ∧ a3 < 6) ∧ Z E y_Plan_useHands d 59 [some (vr 92), o1, some (vi a2), some (vi a3), some (vi 0)] [] (up (up τ1 93 a3 x1) 94 a3 1000) (qv K))))) :
    Z E y_Plan_useHands d 15 [some (vr 92), o1, some (vi a2), some (vi a3), o4] [] σ (qv K) := by
  refine z_iload_n (pc := 15) (q := 3) (by decide +kernel) rfl ?_
  refine z_aload_n (pc := 16) (q := 0) (by decide +kernel) rfl ?_
  refine z_getR (pc := 17) 2 fl_Plan_62 rfl rfl rfl (by decide +kernel) ?_
  refine z_getI (pc := 20) 3 fl_Plan_92 rfl (by decide) rfl (by decide +kernel) ?_
  refine z_icmp_ge (pc := 23) (off := 99) 122 (by decide +kernel) (by decide) ⟨fun hc => ?_, fun hc => ?_⟩
  · have k := k.1 hc
    exact k
  · have k := k.2 hc
    refine z_iload_n (pc := 26) (q := 3) (by decide +kernel) rfl ?_
    refine z_bipush (pc := 27) (n := 6) (by decide +kernel) (by decide) ⟨by decide, by decide⟩ ?_
    refine z_icmp_ge (pc := 29) (off := 93) 122 (by decide +kernel) (by decide) ⟨fun hc => ?_, fun hc => ?_⟩
    · have k := k.1 hc
      exact k
    · have k := k.2 hc
      refine z_aload_n (pc := 32) (q := 0) (by decide +kernel) rfl ?_
      refine z_getR (pc := 33) 93 fl_Plan_9 rfl rfl rfl (by decide +kernel) ?_
      refine z_iload_n (pc := 36) (q := 3) (by decide +kernel) rfl ?_
      refine z_aload_n (pc := 37) (q := 0) (by decide +kernel) rfl ?_
      refine z_getR (pc := 38) 2 fl_Plan_62 rfl rfl rfl (by decide +kernel) ?_
      refine z_iload_n (pc := 41) (q := 3) (by decide +kernel) rfl ?_
      refine z_iload_n (pc := 42) (q := 2) (by decide +kernel) rfl ?_
      refine z_callv (pc := 43) (as := [vi a3, vi a2]) ml_Plan_95 rfl ⟨rfl, by decide⟩ rfl rfl (Nat.le_of_ble_eq_true rfl) (dc := d - 1) (by omega) (by decide +kernel) (CI.z (CI.mono (fun x1 τ1 k => ?_) k))
      have hb1 := k.1
      have k := k.2
      refine z_iast (pc := 46) rfl hb1 (by decide +kernel) ?_
      refine z_aload_n (pc := 47) (q := 0) (by decide +kernel) rfl ?_
      refine z_getR (pc := 48) 94 fl_Plan_15 rfl rfl rfl (by decide +kernel) ?_
      refine z_iload_n (pc := 51) (q := 3) (by decide +kernel) rfl ?_
      refine z_sipush (pc := 52) (n := 1000) (by decide +kernel) (by decide) ⟨by decide, by decide⟩ ?_
      refine z_iast (pc := 55) rfl hb1 (by decide +kernel) ?_
      refine z_iconst (pc := 56) (n := 0) (by decide +kernel) ⟨by decide, by decide⟩ ?_
      refine z_istore (pc := 57) (i := 4) [some (vr 92), o1, some (vi a2), some (vi a3), some (vi 0)] (by decide +kernel) (Nat.le_of_ble_eq_true rfl) rfl ?_
      exact k
theorem b_Plan_useHands_122 {E : EN} {d : Nat} {a1 : Int} {o1 : Option AV} {a2 : Int} {o3 : Option AV} {o4 : Option AV} {σ : Mem} {K : Mem → Prop}  (hd : 1 ≤ d) (k : (ian (isr (σ 2 18) a2) 1 ≠ 0 → K σ) ∧ (ian (isr (σ 2 18) a2) 1 = 0 → CV E y_Plan_fillSoonest (d - 1) [vr 92] σ (fun τ1 => K (up τ1 2 18 (ior (τ1 2 18) (ish 1 a2)))))) :
    Z E y_Plan_useHands d 122 [some (vr 92), o1, some (vi a2), o3, o4] [] σ (qv K) := by
  refine z_aload_n (pc := 122) (q := 0) (by decide +kernel) rfl ?_
  refine z_getR (pc := 123) 2 fl_Plan_62 rfl rfl rfl (by decide +kernel) ?_
  refine z_getI (pc := 126) 18 fl_Plan_107 rfl (by decide) rfl (by decide +kernel) ?_
  refine z_iload_n (pc := 129) (q := 2) (by decide +kernel) rfl ?_
  refine z_ishr (pc := 130) (by decide +kernel) ?_
  refine z_iconst (pc := 131) (n := 1) (by decide +kernel) ⟨by decide, by decide⟩ ?_
  refine z_iand (pc := 132) (by decide +kernel) ?_
  refine z_if_ne (pc := 133) (off := 22) 155 (by decide +kernel) (by decide) ⟨fun hc => ?_, fun hc => ?_⟩
  · have k := k.1 hc
    exact z_vret (pc := 155) (by decide +kernel) rfl k
  · have k := k.2 hc
    refine z_aload_n (pc := 136) (q := 0) (by decide +kernel) rfl ?_
    refine z_callv (pc := 137) (as := []) ml_Plan_110 rfl ⟨rfl, by decide⟩ rfl rfl (Nat.le_of_ble_eq_true rfl) (dc := d - 1) (by omega) (by decide +kernel) (CV.z (CV.mono (fun τ1 k => ?_) k))
    refine z_aload_n (pc := 140) (q := 0) (by decide +kernel) rfl ?_
    refine z_getR (pc := 141) 2 fl_Plan_62 rfl rfl rfl (by decide +kernel) ?_
    refine z_dup (pc := 144) (by decide +kernel) rfl ?_
    refine z_getI (pc := 145) 18 fl_Plan_107 rfl (by decide) rfl (by decide +kernel) ?_
    refine z_iconst (pc := 148) (n := 1) (by decide +kernel) ⟨by decide, by decide⟩ ?_
    refine z_iload_n (pc := 149) (q := 2) (by decide +kernel) rfl ?_
    refine z_ishl (pc := 150) (by decide +kernel) ?_
    refine z_ior (pc := 151) (by decide +kernel) ?_
    refine z_putI (pc := 152) 18 fp_Plan_107 rfl rfl rfl (by decide +kernel) ?_
    exact z_vret (pc := 155) (by decide +kernel) rfl k
theorem b_Plan_useHands_59 {E : EN} {d : Nat} {a1 : Int} {o1 : Option AV} {a2 : Int} {a3 : Int} {a4 : Int} {σ : Mem} {K : Mem → Prop}  (hd : 1 ≤ d) (k : (σ 2 1 ≤ a4 → Z E y_Plan_useHands d 15 [some (vr 92), o1, some (vi a2), some (vi (w32 (a3 + 1))), some (vi a4)] [] σ (qv K)) ∧ (a4 < σ 2 1 → (0 ≤ a3 ∧ a3 < 6) ∧ (ian (isr (σ 93 a3) a4) 1 = 0 → Z E y_Plan_useHands d 59 [some (vr 92), o1, some (vi a2), some (vi a3), some (vi (w32 (a4 + 1)))] [] σ (qv K)) ∧ (ian (isr (σ 93 a3) a4) 1 ≠ 0 → CI E y_Room_copyTime (d - 1) [vr 2, vi a3, vi a4] σ (fun x1 τ1 => CI E y_Math_min_II (d - 1) [vi (σ 94 a3), vi x1] τ1 (fun x2 τ2 => Z E y_Plan_useHands d 59 [some (vr 92), o1, some (vi a2), some (vi a3), some (vi (w32 (a4 + 1)))] [] (up τ2 94 a3 x2) (qv K)))))) :
    Z E y_Plan_useHands d 59 [some (vr 92), o1, some (vi a2), some (vi a3), some (vi a4)] [] σ (qv K) := by
  refine z_iload (pc := 59) (i := 4) (by decide +kernel) rfl ?_
  refine z_aload_n (pc := 61) (q := 0) (by decide +kernel) rfl ?_
  refine z_getR (pc := 62) 2 fl_Plan_62 rfl rfl rfl (by decide +kernel) ?_
  refine z_getI (pc := 65) 1 fl_Plan_98 rfl (by decide) rfl (by decide +kernel) ?_
  refine z_icmp_ge (pc := 68) (off := 48) 116 (by decide +kernel) (by decide) ⟨fun hc => ?_, fun hc => ?_⟩
  · have k := k.1 hc
    refine z_iinc (pc := 116) (i := 3) (n := 1) [some (vr 92), o1, some (vi a2), some (vi (w32 (a3 + 1))), some (vi a4)] (by decide +kernel) rfl rfl ?_
    refine z_goto (pc := 119) (off := -104) 15 (by decide +kernel) (by decide) ?_
    exact k
  · have k := k.2 hc
    refine z_aload_n (pc := 71) (q := 0) (by decide +kernel) rfl ?_
    refine z_getR (pc := 72) 93 fl_Plan_9 rfl rfl rfl (by decide +kernel) ?_
    refine z_iload_n (pc := 75) (q := 3) (by decide +kernel) rfl ?_
    have hb1 := k.1
    have k := k.2
    refine z_iald (pc := 76) rfl hb1 (by decide +kernel) ?_
    refine z_iload (pc := 77) (i := 4) (by decide +kernel) rfl ?_
    refine z_ishr (pc := 79) (by decide +kernel) ?_
    refine z_iconst (pc := 80) (n := 1) (by decide +kernel) ⟨by decide, by decide⟩ ?_
    refine z_iand (pc := 81) (by decide +kernel) ?_
    refine z_if_eq (pc := 82) (off := 28) 110 (by decide +kernel) (by decide) ⟨fun hc => ?_, fun hc => ?_⟩
    · have k := k.1 hc
      refine z_iinc (pc := 110) (i := 4) (n := 1) [some (vr 92), o1, some (vi a2), some (vi a3), some (vi (w32 (a4 + 1)))] (by decide +kernel) rfl rfl ?_
      refine z_goto (pc := 113) (off := -54) 59 (by decide +kernel) (by decide) ?_
      exact k
    · have k := k.2 hc
      refine z_aload_n (pc := 85) (q := 0) (by decide +kernel) rfl ?_
      refine z_getR (pc := 86) 94 fl_Plan_15 rfl rfl rfl (by decide +kernel) ?_
      refine z_iload_n (pc := 89) (q := 3) (by decide +kernel) rfl ?_
      refine z_aload_n (pc := 90) (q := 0) (by decide +kernel) rfl ?_
      refine z_getR (pc := 91) 94 fl_Plan_15 rfl rfl rfl (by decide +kernel) ?_
      refine z_iload_n (pc := 94) (q := 3) (by decide +kernel) rfl ?_
      refine z_iald (pc := 95) rfl hb1 (by decide +kernel) ?_
      refine z_aload_n (pc := 96) (q := 0) (by decide +kernel) rfl ?_
      refine z_getR (pc := 97) 2 fl_Plan_62 rfl rfl rfl (by decide +kernel) ?_
      refine z_iload_n (pc := 100) (q := 3) (by decide +kernel) rfl ?_
      refine z_iload (pc := 101) (i := 4) (by decide +kernel) rfl ?_
      refine z_callv (pc := 103) (as := [vi a3, vi a4]) ml_Plan_101 rfl ⟨rfl, by decide⟩ rfl rfl (Nat.le_of_ble_eq_true rfl) (dc := d - 1) (by omega) (by decide +kernel) (CI.z (CI.mono (fun x1 τ1 k => ?_) k))
      refine z_calls (pc := 106) (as := [vi (σ 94 a3), vi x1]) ml_Plan_104 rfl rfl (Nat.le_of_ble_eq_true rfl) (dc := d - 1) (by omega) (by decide +kernel) (CI.z (CI.mono (fun x2 τ2 k => ?_) k))
      refine z_iast (pc := 109) rfl hb1 (by decide +kernel) ?_
      refine z_iinc (pc := 110) (i := 4) (n := 1) [some (vr 92), o1, some (vi a2), some (vi a3), some (vi (w32 (a4 + 1)))] (by decide +kernel) rfl rfl ?_
      refine z_goto (pc := 113) (off := -54) 59 (by decide +kernel) (by decide) ?_
      exact k
theorem b_Plan_fillSoonest_0 {E : EN} {d : Nat}  {σ : Mem} {K : Mem → Prop}  (k : (0 ≤ σ 92 4 ∧ σ 92 4 < 512) ∧ Z E y_Plan_fillSoonest d 15 [some (vr 92), some (vi 1)] [] (up σ 13 (σ 92 4) 0) (qv K)) :
    Z E y_Plan_fillSoonest d 0 [some (vr 92), none] [] σ (qv K) := by
  refine z_aload_n (pc := 0) (q := 0) (by decide +kernel) rfl ?_
  refine z_getR (pc := 1) 2 fl_Plan_62 rfl rfl rfl (by decide +kernel) ?_
  refine z_getR (pc := 4) 13 fl_Plan_90 rfl rfl rfl (by decide +kernel) ?_
  refine z_aload_n (pc := 7) (q := 0) (by decide +kernel) rfl ?_
  refine z_getI (pc := 8) 4 fl_Plan_18 rfl (by decide) rfl (by decide +kernel) ?_
  refine z_iconst (pc := 11) (n := 0) (by decide +kernel) ⟨by decide, by decide⟩ ?_
  have hb1 := k.1
  have k := k.2
  refine z_iast (pc := 12) rfl hb1 (by decide +kernel) ?_
  refine z_iconst (pc := 13) (n := 1) (by decide +kernel) ⟨by decide, by decide⟩ ?_
  refine z_istore_n (pc := 14) (q := 1) [some (vr 92), some (vi 1)] (by decide +kernel) (Nat.le_of_ble_eq_true rfl) rfl ?_
  exact k
theorem b_Plan_fillSoonest_15 {E : EN} {d : Nat} {a1 : Int} {σ : Mem} {K : Mem → Prop}  (hd : 1 ≤ d) (k : (64 ≤ a1 → K σ) ∧ (a1 < 64 → CI E y_Room_allLetters (d - 1) [vr 2] σ (fun x1 τ1 => (ian a1 (ixo x1 (-1)) ≠ 0 → Z E y_Plan_fillSoonest d 47 [some (vr 92), some (vi a1)] [vi 1000, vr 92] τ1 (qv K)) ∧ (ian a1 (ixo x1 (-1)) = 0 → CI E y_Plan_floorOf (d - 1) [vr 92, vi a1] τ1 (fun x2 τ2 => Z E y_Plan_fillSoonest d 47 [some (vr 92), some (vi a1)] [vi x2, vr 92] τ2 (qv K)))))) :
    Z E y_Plan_fillSoonest d 15 [some (vr 92), some (vi a1)] [] σ (qv K) := by
  refine z_iload_n (pc := 15) (q := 1) (by decide +kernel) rfl ?_
  refine z_bipush (pc := 16) (n := 64) (by decide +kernel) (by decide) ⟨by decide, by decide⟩ ?_
  refine z_icmp_ge (pc := 18) (off := 86) 104 (by decide +kernel) (by decide) ⟨fun hc => ?_, fun hc => ?_⟩
  · have k := k.1 hc
    exact z_vret (pc := 104) (by decide +kernel) rfl k
  · have k := k.2 hc
    refine z_aload_n (pc := 21) (q := 0) (by decide +kernel) rfl ?_
    refine z_iload_n (pc := 22) (q := 1) (by decide +kernel) rfl ?_
    refine z_aload_n (pc := 23) (q := 0) (by decide +kernel) rfl ?_
    refine z_getR (pc := 24) 2 fl_Plan_62 rfl rfl rfl (by decide +kernel) ?_
    refine z_callv (pc := 27) (as := []) ml_Plan_113 rfl ⟨rfl, by decide⟩ rfl rfl (Nat.le_of_ble_eq_true rfl) (dc := d - 1) (by omega) (by decide +kernel) (CI.z (CI.mono (fun x1 τ1 k => ?_) k))
    refine z_iconst (pc := 30) (n := -1) (by decide +kernel) ⟨by decide, by decide⟩ ?_
    refine z_ixor (pc := 31) (by decide +kernel) ?_
    refine z_iand (pc := 32) (by decide +kernel) ?_
    refine z_if_ne (pc := 33) (off := 11) 44 (by decide +kernel) (by decide) ⟨fun hc => ?_, fun hc => ?_⟩
    · have k := k.1 hc
      refine z_sipush (pc := 44) (n := 1000) (by decide +kernel) (by decide) ⟨by decide, by decide⟩ ?_
      exact k
    · have k := k.2 hc
      refine z_aload_n (pc := 36) (q := 0) (by decide +kernel) rfl ?_
      refine z_iload_n (pc := 37) (q := 1) (by decide +kernel) rfl ?_
      refine z_callv (pc := 38) (as := [vi a1]) ml_Plan_117 rfl ⟨rfl, by decide⟩ rfl rfl (Nat.le_of_ble_eq_true rfl) (dc := d - 1) (by omega) (by decide +kernel) (CI.z (CI.mono (fun x2 τ2 k => ?_) k))
      refine z_goto (pc := 41) (off := 6) 47 (by decide +kernel) (by decide) ?_
      exact k
theorem b_Plan_fillSoonest_47 {E : EN} {d : Nat} {a1 : Int} {s0 : Int} {σ : Mem} {K : Mem → Prop}  (hd : 1 ≤ d) (k : (1000 ≤ s0 → (0 ≤ w32 ((σ 92 4) + a1) ∧ w32 ((σ 92 4) + a1) < 512) ∧ Z E y_Plan_fillSoonest d 15 [some (vr 92), some (vi (w32 (a1 + 1)))] [] (up (up (up σ 92 6 s0) 92 5 1000) 13 (w32 ((σ 92 4) + a1)) 1000) (qv K)) ∧ (s0 < 1000 → CV E y_Row_clear (d - 1) [vr 82] (up (up σ 92 6 s0) 92 5 1000) (fun τ1 => CV E y_Plan_search (d - 1) [vr 92, vi a1, vi 0] τ1 (fun τ2 => (0 ≤ w32 ((τ2 92 4) + a1) ∧ w32 ((τ2 92 4) + a1) < 512) ∧ Z E y_Plan_fillSoonest d 15 [some (vr 92), some (vi (w32 (a1 + 1)))] [] (up τ2 13 (w32 ((τ2 92 4) + a1)) (τ2 92 5)) (qv K))))) :
    Z E y_Plan_fillSoonest d 47 [some (vr 92), some (vi a1)] [vi s0, vr 92] σ (qv K) := by
  refine z_putI (pc := 47) 6 fp_Plan_25 rfl rfl rfl (by decide +kernel) ?_
  refine z_aload_n (pc := 50) (q := 0) (by decide +kernel) rfl ?_
  refine z_sipush (pc := 51) (n := 1000) (by decide +kernel) (by decide) ⟨by decide, by decide⟩ ?_
  refine z_putI (pc := 54) 5 fp_Plan_22 rfl rfl rfl (by decide +kernel) ?_
  refine z_aload_n (pc := 57) (q := 0) (by decide +kernel) rfl ?_
  refine z_getI (pc := 58) 6 fl_Plan_25 rfl (by decide) rfl (by decide +kernel) ?_
  refine z_topI ((up_nk (by decide)).trans (up_same _ _ _ _)) ?_
  refine z_sipush (pc := 61) (n := 1000) (by decide +kernel) (by decide) ⟨by decide, by decide⟩ ?_
  refine z_icmp_ge (pc := 64) (off := 16) 80 (by decide +kernel) (by decide) ⟨fun hc => ?_, fun hc => ?_⟩
  · have k := k.1 hc
    refine z_aload_n (pc := 80) (q := 0) (by decide +kernel) rfl ?_
    refine z_getR (pc := 81) 2 fl_Plan_62 rfl rfl rfl (by decide +kernel) ?_
    refine z_getR (pc := 84) 13 fl_Plan_90 rfl rfl rfl (by decide +kernel) ?_
    refine z_aload_n (pc := 87) (q := 0) (by decide +kernel) rfl ?_
    refine z_getI (pc := 88) 4 fl_Plan_18 rfl (by decide) rfl (by decide +kernel) ?_
    refine z_topI ((up_nk (by decide)).trans (up_nk (by decide))) ?_
    refine z_iload_n (pc := 91) (q := 1) (by decide +kernel) rfl ?_
    refine z_iadd (pc := 92) (by decide +kernel) ?_
    refine z_aload_n (pc := 93) (q := 0) (by decide +kernel) rfl ?_
    refine z_getI (pc := 94) 5 fl_Plan_22 rfl (by decide) rfl (by decide +kernel) ?_
    refine z_topI (up_same _ _ _ _) ?_
    have hb1 := k.1
    have k := k.2
    refine z_iast (pc := 97) rfl hb1 (by decide +kernel) ?_
    refine z_iinc (pc := 98) (i := 1) (n := 1) [some (vr 92), some (vi (w32 (a1 + 1)))] (by decide +kernel) rfl rfl ?_
    refine z_goto (pc := 101) (off := -86) 15 (by decide +kernel) (by decide) ?_
    exact k
  · have k := k.2 hc
    refine z_aload_n (pc := 67) (q := 0) (by decide +kernel) rfl ?_
    refine z_getR (pc := 68) 82 fl_Plan_71 rfl rfl rfl (by decide +kernel) ?_
    refine z_callv (pc := 71) (as := []) ml_Plan_120 rfl ⟨rfl, by decide⟩ rfl rfl (Nat.le_of_ble_eq_true rfl) (dc := d - 1) (by omega) (by decide +kernel) (CV.z (CV.mono (fun τ1 k => ?_) k))
    refine z_aload_n (pc := 74) (q := 0) (by decide +kernel) rfl ?_
    refine z_iload_n (pc := 75) (q := 1) (by decide +kernel) rfl ?_
    refine z_iconst (pc := 76) (n := 0) (by decide +kernel) ⟨by decide, by decide⟩ ?_
    refine z_callv (pc := 77) (as := [vi a1, vi 0]) ml_Plan_123 rfl ⟨rfl, by decide⟩ rfl rfl (Nat.le_of_ble_eq_true rfl) (dc := d - 1) (by omega) (by decide +kernel) (CV.z (CV.mono (fun τ2 k => ?_) k))
    refine z_aload_n (pc := 80) (q := 0) (by decide +kernel) rfl ?_
    refine z_getR (pc := 81) 2 fl_Plan_62 rfl rfl rfl (by decide +kernel) ?_
    refine z_getR (pc := 84) 13 fl_Plan_90 rfl rfl rfl (by decide +kernel) ?_
    refine z_aload_n (pc := 87) (q := 0) (by decide +kernel) rfl ?_
    refine z_getI (pc := 88) 4 fl_Plan_18 rfl (by decide) rfl (by decide +kernel) ?_
    refine z_iload_n (pc := 91) (q := 1) (by decide +kernel) rfl ?_
    refine z_iadd (pc := 92) (by decide +kernel) ?_
    refine z_aload_n (pc := 93) (q := 0) (by decide +kernel) rfl ?_
    refine z_getI (pc := 94) 5 fl_Plan_22 rfl (by decide) rfl (by decide +kernel) ?_
    have hb2 := k.1
    have k := k.2
    refine z_iast (pc := 97) rfl hb2 (by decide +kernel) ?_
    refine z_iinc (pc := 98) (i := 1) (n := 1) [some (vr 92), some (vi (w32 (a1 + 1)))] (by decide +kernel) rfl rfl ?_
    refine z_goto (pc := 101) (off := -86) 15 (by decide +kernel) (by decide) ?_
    exact k
theorem b_Plan_floorOf_0 {E : EN} {d : Nat} {a1 : Int} {σ : Mem} {K : Int → Mem → Prop}  (k : Z E y_Plan_floorOf d 4 [some (vr 92), some (vi a1), some (vi 0), some (vi 0)] [] σ (qi K)) :
    Z E y_Plan_floorOf d 0 [some (vr 92), some (vi a1), none, none] [] σ (qi K) := by
  refine z_iconst (pc := 0) (n := 0) (by decide +kernel) ⟨by decide, by decide⟩ ?_
  refine z_istore_n (pc := 1) (q := 2) [some (vr 92), some (vi a1), some (vi 0), none] (by decide +kernel) (Nat.le_of_ble_eq_true rfl) rfl ?_
  refine z_iconst (pc := 2) (n := 0) (by decide +kernel) ⟨by decide, by decide⟩ ?_
  refine z_istore_n (pc := 3) (q := 3) [some (vr 92), some (vi a1), some (vi 0), some (vi 0)] (by decide +kernel) (Nat.le_of_ble_eq_true rfl) rfl ?_
  exact k
theorem b_Plan_floorOf_4 {E : EN} {d : Nat} {a1 : Int} {a2 : Int} {a3 : Int} {σ : Mem} {K : Int → Mem → Prop}  (hd : 1 ≤ d) (k : (σ 2 3 ≤ a3 → K a2 σ) ∧ (a3 < σ 2 3 → (ian (isr a1 a3) 1 = 0 → Z E y_Plan_floorOf d 4 [some (vr 92), some (vi a1), some (vi a2), some (vi (w32 (a3 + 1)))] [] σ (qi K)) ∧ (ian (isr a1 a3) 1 ≠ 0 → CI E y_Plan_soonest (d - 1) [vr 92, vi (ian a1 (ixo (ish 1 a3) (-1)))] σ (fun x1 τ1 => CI E y_Math_max_II (d - 1) [vi a2, vi x1] τ1 (fun x2 τ2 => Z E y_Plan_floorOf d 4 [some (vr 92), some (vi a1), some (vi x2), some (vi (w32 (a3 + 1)))] [] τ2 (qi K)))))) :
    Z E y_Plan_floorOf d 4 [some (vr 92), some (vi a1), some (vi a2), some (vi a3)] [] σ (qi K) := by
  refine z_iload_n (pc := 4) (q := 3) (by decide +kernel) rfl ?_
  refine z_aload_n (pc := 5) (q := 0) (by decide +kernel) rfl ?_
  refine z_getR (pc := 6) 2 fl_Plan_62 rfl rfl rfl (by decide +kernel) ?_
  refine z_getI (pc := 9) 3 fl_Plan_92 rfl (by decide) rfl (by decide +kernel) ?_
  refine z_icmp_ge (pc := 12) (off := 33) 45 (by decide +kernel) (by decide) ⟨fun hc => ?_, fun hc => ?_⟩
  · have k := k.1 hc
    refine z_iload_n (pc := 45) (q := 2) (by decide +kernel) rfl ?_
    exact z_iret (pc := 46) (by decide +kernel) rfl k
  · have k := k.2 hc
    refine z_iload_n (pc := 15) (q := 1) (by decide +kernel) rfl ?_
    refine z_iload_n (pc := 16) (q := 3) (by decide +kernel) rfl ?_
    refine z_ishr (pc := 17) (by decide +kernel) ?_
    refine z_iconst (pc := 18) (n := 1) (by decide +kernel) ⟨by decide, by decide⟩ ?_
    refine z_iand (pc := 19) (by decide +kernel) ?_
    refine z_if_eq (pc := 20) (off := 19) 39 (by decide +kernel) (by decide) ⟨fun hc => ?_, fun hc => ?_⟩
    · have k := k.1 hc
      refine z_iinc (pc := 39) (i := 3) (n := 1) [some (vr 92), some (vi a1), some (vi a2), some (vi (w32 (a3 + 1)))] (by decide +kernel) rfl rfl ?_
      refine z_goto (pc := 42) (off := -38) 4 (by decide +kernel) (by decide) ?_
      exact k
    · have k := k.2 hc
      refine z_iload_n (pc := 23) (q := 2) (by decide +kernel) rfl ?_
      refine z_aload_n (pc := 24) (q := 0) (by decide +kernel) rfl ?_
      refine z_iload_n (pc := 25) (q := 1) (by decide +kernel) rfl ?_
      refine z_iconst (pc := 26) (n := 1) (by decide +kernel) ⟨by decide, by decide⟩ ?_
      refine z_iload_n (pc := 27) (q := 3) (by decide +kernel) rfl ?_
      refine z_ishl (pc := 28) (by decide +kernel) ?_
      refine z_iconst (pc := 29) (n := -1) (by decide +kernel) ⟨by decide, by decide⟩ ?_
      refine z_ixor (pc := 30) (by decide +kernel) ?_
      refine z_iand (pc := 31) (by decide +kernel) ?_
      refine z_callv (pc := 32) (as := [vi (ian a1 (ixo (ish 1 a3) (-1)))]) ml_Plan_75 rfl ⟨rfl, by decide⟩ rfl rfl (Nat.le_of_ble_eq_true rfl) (dc := d - 1) (by omega) (by decide +kernel) (CI.z (CI.mono (fun x1 τ1 k => ?_) k))
      refine z_calls (pc := 35) (as := [vi a2, vi x1]) ml_Plan_84 rfl rfl (Nat.le_of_ble_eq_true rfl) (dc := d - 1) (by omega) (by decide +kernel) (CI.z (CI.mono (fun x2 τ2 k => ?_) k))
      refine z_istore_n (pc := 38) (q := 2) [some (vr 92), some (vi a1), some (vi x2), some (vi a3)] (by decide +kernel) (Nat.le_of_ble_eq_true rfl) rfl ?_
      refine z_iinc (pc := 39) (i := 3) (n := 1) [some (vr 92), some (vi a1), some (vi x2), some (vi (w32 (a3 + 1)))] (by decide +kernel) rfl rfl ?_
      refine z_goto (pc := 42) (off := -38) 4 (by decide +kernel) (by decide) ?_
      exact k
theorem b_Plan_search_0 {E : EN} {d : Nat} {a1 : Int} {a2 : Int} {σ : Mem} {K : Mem → Prop}  (hd : 1 ≤ d) (k : (a1 = 0 → CI E y_Row_end (d - 1) [vr 82] σ (fun x1 τ1 => CI E y_Math_min_II (d - 1) [vi (σ 92 5), vi x1] τ1 (fun x2 τ2 => K (up τ2 92 5 x2)))) ∧ (a1 ≠ 0 → (a2 < 6 → Z E y_Plan_search d 31 [some (vr 92), some (vi a1), some (vi a2), some (vi 0), none, none, none] [] σ (qv K)) ∧ (6 ≤ a2 → CI E y_Row_end (d - 1) [vr 82] σ (fun x3 τ3 => CI E y_Math_min_II (d - 1) [vi (σ 92 5), vi x3] τ3 (fun x4 τ4 => K (up τ4 92 5 x4)))))) :
    Z E y_Plan_search d 0 [some (vr 92), some (vi a1), some (vi a2), none, none, none, none] [] σ (qv K) := by
  refine z_iload_n (pc := 0) (q := 1) (by decide +kernel) rfl ?_
  refine z_if_eq (pc := 1) (off := 9) 10 (by decide +kernel) (by decide) ⟨fun hc => ?_, fun hc => ?_⟩
  · have k := k.1 hc
    refine z_aload_n (pc := 10) (q := 0) (by decide +kernel) rfl ?_
    refine z_aload_n (pc := 11) (q := 0) (by decide +kernel) rfl ?_
    refine z_getI (pc := 12) 5 fl_Plan_22 rfl (by decide) rfl (by decide +kernel) ?_
    refine z_aload_n (pc := 15) (q := 0) (by decide +kernel) rfl ?_
    refine z_getR (pc := 16) 82 fl_Plan_71 rfl rfl rfl (by decide +kernel) ?_
    refine z_callv (pc := 19) (as := []) ml_Plan_127 rfl ⟨rfl, by decide⟩ rfl rfl (Nat.le_of_ble_eq_true rfl) (dc := d - 1) (by omega) (by decide +kernel) (CI.z (CI.mono (fun x1 τ1 k => ?_) k))
    refine z_calls (pc := 22) (as := [vi (σ 92 5), vi x1]) ml_Plan_104 rfl rfl (Nat.le_of_ble_eq_true rfl) (dc := d - 1) (by omega) (by decide +kernel) (CI.z (CI.mono (fun x2 τ2 k => ?_) k))
    refine z_putI (pc := 25) 5 fp_Plan_22 rfl rfl rfl (by decide +kernel) ?_
    exact z_vret (pc := 28) (by decide +kernel) rfl k
  · have k := k.2 hc
    refine z_iload_n (pc := 4) (q := 2) (by decide +kernel) rfl ?_
    refine z_bipush (pc := 5) (n := 6) (by decide +kernel) (by decide) ⟨by decide, by decide⟩ ?_
    refine z_icmp_lt (pc := 7) (off := 22) 29 (by decide +kernel) (by decide) ⟨fun hc => ?_, fun hc => ?_⟩
    · have k := k.1 hc
      refine z_iconst (pc := 29) (n := 0) (by decide +kernel) ⟨by decide, by decide⟩ ?_
      refine z_istore_n (pc := 30) (q := 3) [some (vr 92), some (vi a1), some (vi a2), some (vi 0), none, none, none] (by decide +kernel) (Nat.le_of_ble_eq_true rfl) rfl ?_
      exact k
    · have k := k.2 hc
      refine z_aload_n (pc := 10) (q := 0) (by decide +kernel) rfl ?_
      refine z_aload_n (pc := 11) (q := 0) (by decide +kernel) rfl ?_
      refine z_getI (pc := 12) 5 fl_Plan_22 rfl (by decide) rfl (by decide +kernel) ?_
      refine z_aload_n (pc := 15) (q := 0) (by decide +kernel) rfl ?_
      refine z_getR (pc := 16) 82 fl_Plan_71 rfl rfl rfl (by decide +kernel) ?_
      refine z_callv (pc := 19) (as := []) ml_Plan_127 rfl ⟨rfl, by decide⟩ rfl rfl (Nat.le_of_ble_eq_true rfl) (dc := d - 1) (by omega) (by decide +kernel) (CI.z (CI.mono (fun x3 τ3 k => ?_) k))
      refine z_calls (pc := 22) (as := [vi (σ 92 5), vi x3]) ml_Plan_104 rfl rfl (Nat.le_of_ble_eq_true rfl) (dc := d - 1) (by omega) (by decide +kernel) (CI.z (CI.mono (fun x4 τ4 k => ?_) k))
      refine z_putI (pc := 25) 5 fp_Plan_22 rfl rfl rfl (by decide +kernel) ?_
      exact z_vret (pc := 28) (by decide +kernel) rfl k
theorem b_Plan_search_31 {E : EN} {d : Nat} {a1 : Int} {a2 : Int} {a3 : Int} {o4 : Option AV} {o5 : Option AV} {o6 : Option AV} {σ : Mem} {K : Mem → Prop}  (k : (σ 2 3 ≤ a3 → K σ) ∧ (a3 < σ 2 3 → (6 ≤ a3 → K σ) ∧ (a3 < 6 → (ian (isr a1 a3) 1 = 0 → Z E y_Plan_search d 80 [some (vr 92), some (vi a1), some (vi a2), some (vi a3), some (vi 0), some (vi (ian a1 (ixo (ish 1 a3) (-1)))), some (vi 0)] [] σ (qv K)) ∧ (ian (isr a1 a3) 1 ≠ 0 → (0 ≤ a3 ∧ a3 < 6) ∧ Z E y_Plan_search d 80 [some (vr 92), some (vi a1), some (vi a2), some (vi a3), some (vi (σ 93 a3)), some (vi (ian a1 (ixo (ish 1 a3) (-1)))), some (vi 0)] [] σ (qv K))))) :
    Z E y_Plan_search d 31 [some (vr 92), some (vi a1), some (vi a2), some (vi a3), o4, o5, o6] [] σ (qv K) := by
  refine z_iload_n (pc := 31) (q := 3) (by decide +kernel) rfl ?_
  refine z_aload_n (pc := 32) (q := 0) (by decide +kernel) rfl ?_
  refine z_getR (pc := 33) 2 fl_Plan_62 rfl rfl rfl (by decide +kernel) ?_
  refine z_getI (pc := 36) 3 fl_Plan_92 rfl (by decide) rfl (by decide +kernel) ?_
  refine z_icmp_ge (pc := 39) (off := 135) 174 (by decide +kernel) (by decide) ⟨fun hc => ?_, fun hc => ?_⟩
  · have k := k.1 hc
    exact z_vret (pc := 174) (by decide +kernel) rfl k
  · have k := k.2 hc
    refine z_iload_n (pc := 42) (q := 3) (by decide +kernel) rfl ?_
    refine z_bipush (pc := 43) (n := 6) (by decide +kernel) (by decide) ⟨by decide, by decide⟩ ?_
    refine z_icmp_ge (pc := 45) (off := 129) 174 (by decide +kernel) (by decide) ⟨fun hc => ?_, fun hc => ?_⟩
    · have k := k.1 hc
      exact z_vret (pc := 174) (by decide +kernel) rfl k
    · have k := k.2 hc
      refine z_iload_n (pc := 48) (q := 1) (by decide +kernel) rfl ?_
      refine z_iload_n (pc := 49) (q := 3) (by decide +kernel) rfl ?_
      refine z_ishr (pc := 50) (by decide +kernel) ?_
      refine z_iconst (pc := 51) (n := 1) (by decide +kernel) ⟨by decide, by decide⟩ ?_
      refine z_iand (pc := 52) (by decide +kernel) ?_
      refine z_if_eq (pc := 53) (off := 12) 65 (by decide +kernel) (by decide) ⟨fun hc => ?_, fun hc => ?_⟩
      · have k := k.1 hc
        refine z_iconst (pc := 65) (n := 0) (by decide +kernel) ⟨by decide, by decide⟩ ?_
        refine z_istore (pc := 66) (i := 4) [some (vr 92), some (vi a1), some (vi a2), some (vi a3), some (vi 0), o5, o6] (by decide +kernel) (Nat.le_of_ble_eq_true rfl) rfl ?_
        refine z_iload_n (pc := 68) (q := 1) (by decide +kernel) rfl ?_
        refine z_iconst (pc := 69) (n := 1) (by decide +kernel) ⟨by decide, by decide⟩ ?_
        refine z_iload_n (pc := 70) (q := 3) (by decide +kernel) rfl ?_
        refine z_ishl (pc := 71) (by decide +kernel) ?_
        refine z_iconst (pc := 72) (n := -1) (by decide +kernel) ⟨by decide, by decide⟩ ?_
        refine z_ixor (pc := 73) (by decide +kernel) ?_
        refine z_iand (pc := 74) (by decide +kernel) ?_
        refine z_istore (pc := 75) (i := 5) [some (vr 92), some (vi a1), some (vi a2), some (vi a3), some (vi 0), some (vi (ian a1 (ixo (ish 1 a3) (-1)))), o6] (by decide +kernel) (Nat.le_of_ble_eq_true rfl) rfl ?_
        refine z_iconst (pc := 77) (n := 0) (by decide +kernel) ⟨by decide, by decide⟩ ?_
        refine z_istore (pc := 78) (i := 6) [some (vr 92), some (vi a1), some (vi a2), some (vi a3), some (vi 0), some (vi (ian a1 (ixo (ish 1 a3) (-1)))), some (vi 0)] (by decide +kernel) (Nat.le_of_ble_eq_true rfl) rfl ?_
        exact k
      · have k := k.2 hc
        refine z_aload_n (pc := 56) (q := 0) (by decide +kernel) rfl ?_
        refine z_getR (pc := 57) 93 fl_Plan_9 rfl rfl rfl (by decide +kernel) ?_
        refine z_iload_n (pc := 60) (q := 3) (by decide +kernel) rfl ?_
        have hb1 := k.1
        have k := k.2
        refine z_iald (pc := 61) rfl hb1 (by decide +kernel) ?_
        refine z_goto (pc := 62) (off := 4) 66 (by decide +kernel) (by decide) ?_
        refine z_istore (pc := 66) (i := 4) [some (vr 92), some (vi a1), some (vi a2), some (vi a3), some (vi (σ 93 a3)), o5, o6] (by decide +kernel) (Nat.le_of_ble_eq_true rfl) rfl ?_
        refine z_iload_n (pc := 68) (q := 1) (by decide +kernel) rfl ?_
        refine z_iconst (pc := 69) (n := 1) (by decide +kernel) ⟨by decide, by decide⟩ ?_
        refine z_iload_n (pc := 70) (q := 3) (by decide +kernel) rfl ?_
        refine z_ishl (pc := 71) (by decide +kernel) ?_
        refine z_iconst (pc := 72) (n := -1) (by decide +kernel) ⟨by decide, by decide⟩ ?_
        refine z_ixor (pc := 73) (by decide +kernel) ?_
        refine z_iand (pc := 74) (by decide +kernel) ?_
        refine z_istore (pc := 75) (i := 5) [some (vr 92), some (vi a1), some (vi a2), some (vi a3), some (vi (σ 93 a3)), some (vi (ian a1 (ixo (ish 1 a3) (-1)))), o6] (by decide +kernel) (Nat.le_of_ble_eq_true rfl) rfl ?_
        refine z_iconst (pc := 77) (n := 0) (by decide +kernel) ⟨by decide, by decide⟩ ?_
        refine z_istore (pc := 78) (i := 6) [some (vr 92), some (vi a1), some (vi a2), some (vi a3), some (vi (σ 93 a3)), some (vi (ian a1 (ixo (ish 1 a3) (-1)))), some (vi 0)] (by decide +kernel) (Nat.le_of_ble_eq_true rfl) rfl ?_
        exact k
theorem b_Plan_search_80 {E : EN} {d : Nat} {a1 : Int} {a2 : Int} {a3 : Int} {a4 : Int} {a5 : Int} {a6 : Int} {σ : Mem} {K : Mem → Prop}  (hd : 1 ≤ d) (k : (σ 2 1 ≤ a6 → Z E y_Plan_search d 31 [some (vr 92), some (vi a1), some (vi a2), some (vi (w32 (a3 + 1))), some (vi a4), some (vi a5), some (vi a6)] [] σ (qv K)) ∧ (a6 < σ 2 1 → (σ 92 5 ≤ σ 92 6 → Z E y_Plan_search d 31 [some (vr 92), some (vi a1), some (vi a2), some (vi (w32 (a3 + 1))), some (vi a4), some (vi a5), some (vi a6)] [] σ (qv K)) ∧ (σ 92 6 < σ 92 5 → (ian (isr a4 a6) 1 = 0 → Z E y_Plan_search d 80 [some (vr 92), some (vi a1), some (vi a2), some (vi a3), some (vi a4), some (vi a5), some (vi (w32 (a6 + 1)))] [] σ (qv K)) ∧ (ian (isr a4 a6) 1 ≠ 0 → CV E y_Row_add (d - 1) [vr 82, vi a3, vi a6] σ (fun τ1 => CI E y_Row_isBetterSwapped (d - 1) [vr 82] τ1 (fun x2 τ2 => (x2 ≠ 0 → CV E y_Row_drop (d - 1) [vr 82] τ2 (fun τ3 => Z E y_Plan_search d 80 [some (vr 92), some (vi a1), some (vi a2), some (vi a3), some (vi a4), some (vi a5), some (vi (w32 (a6 + 1)))] [] τ3 (qv K))) ∧ (x2 = 0 → CI E y_Plan_leastEnd (d - 1) [vr 92, vi a5] τ2 (fun x4 τ4 => (τ4 92 5 ≤ x4 → CV E y_Row_drop (d - 1) [vr 82] τ4 (fun τ5 => Z E y_Plan_search d 80 [some (vr 92), some (vi a1), some (vi a2), some (vi a3), some (vi a4), some (vi a5), some (vi (w32 (a6 + 1)))] [] τ5 (qv K))) ∧ (x4 < τ4 92 5 → CV E y_Plan_search (d - 1) [vr 92, vi a5, vi (w32 (a2 + 1))] τ4 (fun τ6 => CV E y_Row_drop (d - 1) [vr 82] τ6 (fun τ7 => Z E y_Plan_search d 80 [some (vr 92), some (vi a1), some (vi a2), some (vi a3), some (vi a4), some (vi a5), some (vi (w32 (a6 + 1)))] [] τ7 (qv K)))))))))))) :
    Z E y_Plan_search d 80 [some (vr 92), some (vi a1), some (vi a2), some (vi a3), some (vi a4), some (vi a5), some (vi a6)] [] σ (qv K) := by
  refine z_iload (pc := 80) (i := 6) (by decide +kernel) rfl ?_
  refine z_aload_n (pc := 82) (q := 0) (by decide +kernel) rfl ?_
  refine z_getR (pc := 83) 2 fl_Plan_62 rfl rfl rfl (by decide +kernel) ?_
  refine z_getI (pc := 86) 1 fl_Plan_98 rfl (by decide) rfl (by decide +kernel) ?_
  refine z_icmp_ge (pc := 89) (off := 79) 168 (by decide +kernel) (by decide) ⟨fun hc => ?_, fun hc => ?_⟩
  · have k := k.1 hc
    refine z_iinc (pc := 168) (i := 3) (n := 1) [some (vr 92), some (vi a1), some (vi a2), some (vi (w32 (a3 + 1))), some (vi a4), some (vi a5), some (vi a6)] (by decide +kernel) rfl rfl ?_
    refine z_goto (pc := 171) (off := -140) 31 (by decide +kernel) (by decide) ?_
    exact k
  · have k := k.2 hc
    refine z_aload_n (pc := 92) (q := 0) (by decide +kernel) rfl ?_
    refine z_getI (pc := 93) 5 fl_Plan_22 rfl (by decide) rfl (by decide +kernel) ?_
    refine z_aload_n (pc := 96) (q := 0) (by decide +kernel) rfl ?_
    refine z_getI (pc := 97) 6 fl_Plan_25 rfl (by decide) rfl (by decide +kernel) ?_
    refine z_icmp_le (pc := 100) (off := 68) 168 (by decide +kernel) (by decide) ⟨fun hc => ?_, fun hc => ?_⟩
    · have k := k.1 hc
      refine z_iinc (pc := 168) (i := 3) (n := 1) [some (vr 92), some (vi a1), some (vi a2), some (vi (w32 (a3 + 1))), some (vi a4), some (vi a5), some (vi a6)] (by decide +kernel) rfl rfl ?_
      refine z_goto (pc := 171) (off := -140) 31 (by decide +kernel) (by decide) ?_
      exact k
    · have k := k.2 hc
      refine z_iload (pc := 103) (i := 4) (by decide +kernel) rfl ?_
      refine z_iload (pc := 105) (i := 6) (by decide +kernel) rfl ?_
      refine z_ishr (pc := 107) (by decide +kernel) ?_
      refine z_iconst (pc := 108) (n := 1) (by decide +kernel) ⟨by decide, by decide⟩ ?_
      refine z_iand (pc := 109) (by decide +kernel) ?_
      refine z_if_eq (pc := 110) (off := 52) 162 (by decide +kernel) (by decide) ⟨fun hc => ?_, fun hc => ?_⟩
      · have k := k.1 hc
        refine z_iinc (pc := 162) (i := 6) (n := 1) [some (vr 92), some (vi a1), some (vi a2), some (vi a3), some (vi a4), some (vi a5), some (vi (w32 (a6 + 1)))] (by decide +kernel) rfl rfl ?_
        refine z_goto (pc := 165) (off := -85) 80 (by decide +kernel) (by decide) ?_
        exact k
      · have k := k.2 hc
        refine z_aload_n (pc := 113) (q := 0) (by decide +kernel) rfl ?_
        refine z_getR (pc := 114) 82 fl_Plan_71 rfl rfl rfl (by decide +kernel) ?_
        refine z_iload_n (pc := 117) (q := 3) (by decide +kernel) rfl ?_
        refine z_iload (pc := 118) (i := 6) (by decide +kernel) rfl ?_
        refine z_callv (pc := 120) (as := [vi a3, vi a6]) ml_Plan_130 rfl ⟨rfl, by decide⟩ rfl rfl (Nat.le_of_ble_eq_true rfl) (dc := d - 1) (by omega) (by decide +kernel) (CV.z (CV.mono (fun τ1 k => ?_) k))
        refine z_aload_n (pc := 123) (q := 0) (by decide +kernel) rfl ?_
        refine z_getR (pc := 124) 82 fl_Plan_71 rfl rfl rfl (by decide +kernel) ?_
        refine z_callv (pc := 127) (as := []) ml_Plan_133 rfl ⟨rfl, by decide⟩ rfl rfl (Nat.le_of_ble_eq_true rfl) (dc := d - 1) (by omega) (by decide +kernel) (CI.z (CI.mono (fun x2 τ2 k => ?_) k))
        refine z_if_ne (pc := 130) (off := 25) 155 (by decide +kernel) (by decide) ⟨fun hc => ?_, fun hc => ?_⟩
        · have k := k.1 hc
          refine z_aload_n (pc := 155) (q := 0) (by decide +kernel) rfl ?_
          refine z_getR (pc := 156) 82 fl_Plan_71 rfl rfl rfl (by decide +kernel) ?_
          refine z_callv (pc := 159) (as := []) ml_Plan_140 rfl ⟨rfl, by decide⟩ rfl rfl (Nat.le_of_ble_eq_true rfl) (dc := d - 1) (by omega) (by decide +kernel) (CV.z (CV.mono (fun τ3 k => ?_) k))
          refine z_iinc (pc := 162) (i := 6) (n := 1) [some (vr 92), some (vi a1), some (vi a2), some (vi a3), some (vi a4), some (vi a5), some (vi (w32 (a6 + 1)))] (by decide +kernel) rfl rfl ?_
          refine z_goto (pc := 165) (off := -85) 80 (by decide +kernel) (by decide) ?_
          exact k
        · have k := k.2 hc
          refine z_aload_n (pc := 133) (q := 0) (by decide +kernel) rfl ?_
          refine z_iload (pc := 134) (i := 5) (by decide +kernel) rfl ?_
          refine z_callv (pc := 136) (as := [vi a5]) ml_Plan_137 rfl ⟨rfl, by decide⟩ rfl rfl (Nat.le_of_ble_eq_true rfl) (dc := d - 1) (by omega) (by decide +kernel) (CI.z (CI.mono (fun x4 τ4 k => ?_) k))
          refine z_aload_n (pc := 139) (q := 0) (by decide +kernel) rfl ?_
          refine z_getI (pc := 140) 5 fl_Plan_22 rfl (by decide) rfl (by decide +kernel) ?_
          refine z_icmp_ge (pc := 143) (off := 12) 155 (by decide +kernel) (by decide) ⟨fun hc => ?_, fun hc => ?_⟩
          · have k := k.1 hc
            refine z_aload_n (pc := 155) (q := 0) (by decide +kernel) rfl ?_
            refine z_getR (pc := 156) 82 fl_Plan_71 rfl rfl rfl (by decide +kernel) ?_
            refine z_callv (pc := 159) (as := []) ml_Plan_140 rfl ⟨rfl, by decide⟩ rfl rfl (Nat.le_of_ble_eq_true rfl) (dc := d - 1) (by omega) (by decide +kernel) (CV.z (CV.mono (fun τ5 k => ?_) k))
            refine z_iinc (pc := 162) (i := 6) (n := 1) [some (vr 92), some (vi a1), some (vi a2), some (vi a3), some (vi a4), some (vi a5), some (vi (w32 (a6 + 1)))] (by decide +kernel) rfl rfl ?_
            refine z_goto (pc := 165) (off := -85) 80 (by decide +kernel) (by decide) ?_
            exact k
          · have k := k.2 hc
            refine z_aload_n (pc := 146) (q := 0) (by decide +kernel) rfl ?_
            refine z_iload (pc := 147) (i := 5) (by decide +kernel) rfl ?_
            refine z_iload_n (pc := 149) (q := 2) (by decide +kernel) rfl ?_
            refine z_iconst (pc := 150) (n := 1) (by decide +kernel) ⟨by decide, by decide⟩ ?_
            refine z_iadd (pc := 151) (by decide +kernel) ?_
            refine z_callv (pc := 152) (as := [vi a5, vi (w32 (a2 + 1))]) ml_Plan_123 rfl ⟨rfl, by decide⟩ rfl rfl (Nat.le_of_ble_eq_true rfl) (dc := d - 1) (by omega) (by decide +kernel) (CV.z (CV.mono (fun τ6 k => ?_) k))
            refine z_aload_n (pc := 155) (q := 0) (by decide +kernel) rfl ?_
            refine z_getR (pc := 156) 82 fl_Plan_71 rfl rfl rfl (by decide +kernel) ?_
            refine z_callv (pc := 159) (as := []) ml_Plan_140 rfl ⟨rfl, by decide⟩ rfl rfl (Nat.le_of_ble_eq_true rfl) (dc := d - 1) (by omega) (by decide +kernel) (CV.z (CV.mono (fun τ7 k => ?_) k))
            refine z_iinc (pc := 162) (i := 6) (n := 1) [some (vr 92), some (vi a1), some (vi a2), some (vi a3), some (vi a4), some (vi a5), some (vi (w32 (a6 + 1)))] (by decide +kernel) rfl rfl ?_
            refine z_goto (pc := 165) (off := -85) 80 (by decide +kernel) (by decide) ?_
            exact k
theorem b_Plan_leastEnd_0 {E : EN} {d : Nat} {a1 : Int} {σ : Mem} {K : Int → Mem → Prop}  (hd : 1 ≤ d) (k : (a1 ≠ 0 → CI E y_Row_lastOpened (d - 1) [vr 82] σ (fun x1 τ1 => CI E y_Plan_soonest (d - 1) [vr 92, vi a1] τ1 (fun x2 τ2 => Z E y_Plan_leastEnd d 45 [some (vr 92), some (vi a1), some (vi x1), some (vi (w32 (x1 + x2))), some (vi x1), some (vi 1000000), some (vi 1000000), some (vi 0), some (vi 0)] [] τ2 (qi K)))) ∧ (a1 = 0 → CI E y_Row_end (d - 1) [vr 82] σ (fun x3 τ3 => K x3 τ3))) :
    Z E y_Plan_leastEnd d 0 [some (vr 92), some (vi a1), none, none, none, none, none, none, none] [] σ (qi K) := by
  refine z_iload_n (pc := 0) (q := 1) (by decide +kernel) rfl ?_
  refine z_if_ne (pc := 1) (off := 11) 12 (by decide +kernel) (by decide) ⟨fun hc => ?_, fun hc => ?_⟩
  · have k := k.1 hc
    refine z_aload_n (pc := 12) (q := 0) (by decide +kernel) rfl ?_
    refine z_getR (pc := 13) 82 fl_Plan_71 rfl rfl rfl (by decide +kernel) ?_
    refine z_callv (pc := 16) (as := []) ml_Plan_143 rfl ⟨rfl, by decide⟩ rfl rfl (Nat.le_of_ble_eq_true rfl) (dc := d - 1) (by omega) (by decide +kernel) (CI.z (CI.mono (fun x1 τ1 k => ?_) k))
    refine z_istore_n (pc := 19) (q := 2) [some (vr 92), some (vi a1), some (vi x1), none, none, none, none, none, none] (by decide +kernel) (Nat.le_of_ble_eq_true rfl) rfl ?_
    refine z_iload_n (pc := 20) (q := 2) (by decide +kernel) rfl ?_
    refine z_aload_n (pc := 21) (q := 0) (by decide +kernel) rfl ?_
    refine z_iload_n (pc := 22) (q := 1) (by decide +kernel) rfl ?_
    refine z_callv (pc := 23) (as := [vi a1]) ml_Plan_75 rfl ⟨rfl, by decide⟩ rfl rfl (Nat.le_of_ble_eq_true rfl) (dc := d - 1) (by omega) (by decide +kernel) (CI.z (CI.mono (fun x2 τ2 k => ?_) k))
    refine z_iadd (pc := 26) (by decide +kernel) ?_
    refine z_istore_n (pc := 27) (q := 3) [some (vr 92), some (vi a1), some (vi x1), some (vi (w32 (x1 + x2))), none, none, none, none, none] (by decide +kernel) (Nat.le_of_ble_eq_true rfl) rfl ?_
    refine z_iload_n (pc := 28) (q := 2) (by decide +kernel) rfl ?_
    refine z_istore (pc := 29) (i := 4) [some (vr 92), some (vi a1), some (vi x1), some (vi (w32 (x1 + x2))), some (vi x1), none, none, none, none] (by decide +kernel) (Nat.le_of_ble_eq_true rfl) rfl ?_
    refine z_ldc (pc := 31) (index := 146) 1000000 (mm5 68 rfl) ⟨by decide, by decide⟩ (by decide +kernel) ?_
    refine z_istore (pc := 33) (i := 5) [some (vr 92), some (vi a1), some (vi x1), some (vi (w32 (x1 + x2))), some (vi x1), some (vi 1000000), none, none, none] (by decide +kernel) (Nat.le_of_ble_eq_true rfl) rfl ?_
    refine z_ldc (pc := 35) (index := 146) 1000000 (mm5 68 rfl) ⟨by decide, by decide⟩ (by decide +kernel) ?_
    refine z_istore (pc := 37) (i := 6) [some (vr 92), some (vi a1), some (vi x1), some (vi (w32 (x1 + x2))), some (vi x1), some (vi 1000000), some (vi 1000000), none, none] (by decide +kernel) (Nat.le_of_ble_eq_true rfl) rfl ?_
    refine z_iconst (pc := 39) (n := 0) (by decide +kernel) ⟨by decide, by decide⟩ ?_
    refine z_istore (pc := 40) (i := 7) [some (vr 92), some (vi a1), some (vi x1), some (vi (w32 (x1 + x2))), some (vi x1), some (vi 1000000), some (vi 1000000), some (vi 0), none] (by decide +kernel) (Nat.le_of_ble_eq_true rfl) rfl ?_
    refine z_iconst (pc := 42) (n := 0) (by decide +kernel) ⟨by decide, by decide⟩ ?_
    refine z_istore (pc := 43) (i := 8) [some (vr 92), some (vi a1), some (vi x1), some (vi (w32 (x1 + x2))), some (vi x1), some (vi 1000000), some (vi 1000000), some (vi 0), some (vi 0)] (by decide +kernel) (Nat.le_of_ble_eq_true rfl) rfl ?_
    exact k
  · have k := k.2 hc
    refine z_aload_n (pc := 4) (q := 0) (by decide +kernel) rfl ?_
    refine z_getR (pc := 5) 82 fl_Plan_71 rfl rfl rfl (by decide +kernel) ?_
    refine z_callv (pc := 8) (as := []) ml_Plan_127 rfl ⟨rfl, by decide⟩ rfl rfl (Nat.le_of_ble_eq_true rfl) (dc := d - 1) (by omega) (by decide +kernel) (CI.z (CI.mono (fun x3 τ3 k => ?_) k))
    exact z_iret (pc := 11) (by decide +kernel) rfl k
theorem b_Plan_leastEnd_45 {E : EN} {d : Nat} {a1 : Int} {a2 : Int} {a3 : Int} {a4 : Int} {a5 : Int} {a6 : Int} {a7 : Int} {a8 : Int} {σ : Mem} {K : Int → Mem → Prop}  (hd : 1 ≤ d) (k : (σ 2 3 ≤ a8 → CI E y_Row_endWith (d - 1) [vr 82, vi a5, vi a7] σ (fun x1 τ1 => CI E y_Math_max_II (d - 1) [vi (w32 (a4 + a6)), vi x1] τ1 (fun x2 τ2 => CI E y_Math_max_II (d - 1) [vi a3, vi x2] τ2 (fun x3 τ3 => K x3 τ3)))) ∧ (a8 < σ 2 3 → (6 ≤ a8 → CI E y_Row_endWith (d - 1) [vr 82, vi a5, vi a7] σ (fun x4 τ4 => CI E y_Math_max_II (d - 1) [vi (w32 (a4 + a6)), vi x4] τ4 (fun x5 τ5 => CI E y_Math_max_II (d - 1) [vi a3, vi x5] τ5 (fun x6 τ6 => K x6 τ6)))) ∧ (a8 < 6 → (ian (isr a1 a8) 1 = 0 → Z E y_Plan_leastEnd d 45 [some (vr 92), some (vi a1), some (vi a2), some (vi a3), some (vi a4), some (vi a5), some (vi a6), some (vi a7), some (vi (w32 (a8 + 1)))] [] σ (qi K)) ∧ (ian (isr a1 a8) 1 ≠ 0 → (0 ≤ a8 ∧ a8 < 6) ∧ CI E y_Math_min_II (d - 1) [vi a5, vi (w32 ((w32 (a2 + (σ 8 a8))) + (σ 94 a8)))] σ (fun x7 τ7 => CI E y_Math_min_II (d - 1) [vi a6, vi (w32 ((τ7 94 a8) + (τ7 9 a8)))] τ7 (fun x8 τ8 => Z E y_Plan_leastEnd d 45 [some (vr 92), some (vi a1), some (vi a2), some (vi a3), some (vi (w32 (a4 + (σ 8 a8)))), some (vi x7), some (vi x8), some (vi (w32 (a7 + (σ 9 a8)))), some (vi (w32 (a8 + 1)))] [] τ8 (qi K))))))) :
    Z E y_Plan_leastEnd d 45 [some (vr 92), some (vi a1), some (vi a2), some (vi a3), some (vi a4), some (vi a5), some (vi a6), some (vi a7), some (vi a8)] [] σ (qi K) := by
  refine z_iload (pc := 45) (i := 8) (by decide +kernel) rfl ?_
  refine z_aload_n (pc := 47) (q := 0) (by decide +kernel) rfl ?_
  refine z_getR (pc := 48) 2 fl_Plan_62 rfl rfl rfl (by decide +kernel) ?_
  refine z_getI (pc := 51) 3 fl_Plan_92 rfl (by decide) rfl (by decide +kernel) ?_
  refine z_icmp_ge (pc := 54) (off := 107) 161 (by decide +kernel) (by decide) ⟨fun hc => ?_, fun hc => ?_⟩
  · have k := k.1 hc
    refine z_iload_n (pc := 161) (q := 3) (by decide +kernel) rfl ?_
    refine z_iload (pc := 162) (i := 4) (by decide +kernel) rfl ?_
    refine z_iload (pc := 164) (i := 6) (by decide +kernel) rfl ?_
    refine z_iadd (pc := 166) (by decide +kernel) ?_
    refine z_aload_n (pc := 167) (q := 0) (by decide +kernel) rfl ?_
    refine z_getR (pc := 168) 82 fl_Plan_71 rfl rfl rfl (by decide +kernel) ?_
    refine z_iload (pc := 171) (i := 5) (by decide +kernel) rfl ?_
    refine z_iload (pc := 173) (i := 7) (by decide +kernel) rfl ?_
    refine z_callv (pc := 175) (as := [vi a5, vi a7]) ml_Plan_153 rfl ⟨rfl, by decide⟩ rfl rfl (Nat.le_of_ble_eq_true rfl) (dc := d - 1) (by omega) (by decide +kernel) (CI.z (CI.mono (fun x1 τ1 k => ?_) k))
    refine z_calls (pc := 178) (as := [vi (w32 (a4 + a6)), vi x1]) ml_Plan_84 rfl rfl (Nat.le_of_ble_eq_true rfl) (dc := d - 1) (by omega) (by decide +kernel) (CI.z (CI.mono (fun x2 τ2 k => ?_) k))
    refine z_calls (pc := 181) (as := [vi a3, vi x2]) ml_Plan_84 rfl rfl (Nat.le_of_ble_eq_true rfl) (dc := d - 1) (by omega) (by decide +kernel) (CI.z (CI.mono (fun x3 τ3 k => ?_) k))
    exact z_iret (pc := 184) (by decide +kernel) rfl k
  · have k := k.2 hc
    refine z_iload (pc := 57) (i := 8) (by decide +kernel) rfl ?_
    refine z_bipush (pc := 59) (n := 6) (by decide +kernel) (by decide) ⟨by decide, by decide⟩ ?_
    refine z_icmp_ge (pc := 61) (off := 100) 161 (by decide +kernel) (by decide) ⟨fun hc => ?_, fun hc => ?_⟩
    · have k := k.1 hc
      refine z_iload_n (pc := 161) (q := 3) (by decide +kernel) rfl ?_
      refine z_iload (pc := 162) (i := 4) (by decide +kernel) rfl ?_
      refine z_iload (pc := 164) (i := 6) (by decide +kernel) rfl ?_
      refine z_iadd (pc := 166) (by decide +kernel) ?_
      refine z_aload_n (pc := 167) (q := 0) (by decide +kernel) rfl ?_
      refine z_getR (pc := 168) 82 fl_Plan_71 rfl rfl rfl (by decide +kernel) ?_
      refine z_iload (pc := 171) (i := 5) (by decide +kernel) rfl ?_
      refine z_iload (pc := 173) (i := 7) (by decide +kernel) rfl ?_
      refine z_callv (pc := 175) (as := [vi a5, vi a7]) ml_Plan_153 rfl ⟨rfl, by decide⟩ rfl rfl (Nat.le_of_ble_eq_true rfl) (dc := d - 1) (by omega) (by decide +kernel) (CI.z (CI.mono (fun x4 τ4 k => ?_) k))
      refine z_calls (pc := 178) (as := [vi (w32 (a4 + a6)), vi x4]) ml_Plan_84 rfl rfl (Nat.le_of_ble_eq_true rfl) (dc := d - 1) (by omega) (by decide +kernel) (CI.z (CI.mono (fun x5 τ5 k => ?_) k))
      refine z_calls (pc := 181) (as := [vi a3, vi x5]) ml_Plan_84 rfl rfl (Nat.le_of_ble_eq_true rfl) (dc := d - 1) (by omega) (by decide +kernel) (CI.z (CI.mono (fun x6 τ6 k => ?_) k))
      exact z_iret (pc := 184) (by decide +kernel) rfl k
    · have k := k.2 hc
      refine z_iload_n (pc := 64) (q := 1) (by decide +kernel) rfl ?_
      refine z_iload (pc := 65) (i := 8) (by decide +kernel) rfl ?_
      refine z_ishr (pc := 67) (by decide +kernel) ?_
      refine z_iconst (pc := 68) (n := 1) (by decide +kernel) ⟨by decide, by decide⟩ ?_
      refine z_iand (pc := 69) (by decide +kernel) ?_
      refine z_if_eq (pc := 70) (off := 85) 155 (by decide +kernel) (by decide) ⟨fun hc => ?_, fun hc => ?_⟩
      · have k := k.1 hc
        refine z_iinc (pc := 155) (i := 8) (n := 1) [some (vr 92), some (vi a1), some (vi a2), some (vi a3), some (vi a4), some (vi a5), some (vi a6), some (vi a7), some (vi (w32 (a8 + 1)))] (by decide +kernel) rfl rfl ?_
        refine z_goto (pc := 158) (off := -113) 45 (by decide +kernel) (by decide) ?_
        exact k
      · have k := k.2 hc
        refine z_iload (pc := 73) (i := 4) (by decide +kernel) rfl ?_
        refine z_aload_n (pc := 75) (q := 0) (by decide +kernel) rfl ?_
        refine z_getR (pc := 76) 2 fl_Plan_62 rfl rfl rfl (by decide +kernel) ?_
        refine z_getR (pc := 79) 8 fl_Plan_147 rfl rfl rfl (by decide +kernel) ?_
        refine z_iload (pc := 82) (i := 8) (by decide +kernel) rfl ?_
        have hb1 := k.1
        have k := k.2
        refine z_iald (pc := 84) rfl hb1 (by decide +kernel) ?_
        refine z_iadd (pc := 85) (by decide +kernel) ?_
        refine z_istore (pc := 86) (i := 4) [some (vr 92), some (vi a1), some (vi a2), some (vi a3), some (vi (w32 (a4 + (σ 8 a8)))), some (vi a5), some (vi a6), some (vi a7), some (vi a8)] (by decide +kernel) (Nat.le_of_ble_eq_true rfl) rfl ?_
        refine z_iload (pc := 88) (i := 7) (by decide +kernel) rfl ?_
        refine z_aload_n (pc := 90) (q := 0) (by decide +kernel) rfl ?_
        refine z_getR (pc := 91) 2 fl_Plan_62 rfl rfl rfl (by decide +kernel) ?_
        refine z_getR (pc := 94) 9 fl_Plan_150 rfl rfl rfl (by decide +kernel) ?_
        refine z_iload (pc := 97) (i := 8) (by decide +kernel) rfl ?_
        refine z_iald (pc := 99) rfl hb1 (by decide +kernel) ?_
        refine z_iadd (pc := 100) (by decide +kernel) ?_
        refine z_istore (pc := 101) (i := 7) [some (vr 92), some (vi a1), some (vi a2), some (vi a3), some (vi (w32 (a4 + (σ 8 a8)))), some (vi a5), some (vi a6), some (vi (w32 (a7 + (σ 9 a8)))), some (vi a8)] (by decide +kernel) (Nat.le_of_ble_eq_true rfl) rfl ?_
        refine z_iload (pc := 103) (i := 5) (by decide +kernel) rfl ?_
        refine z_iload_n (pc := 105) (q := 2) (by decide +kernel) rfl ?_
        refine z_aload_n (pc := 106) (q := 0) (by decide +kernel) rfl ?_
        refine z_getR (pc := 107) 2 fl_Plan_62 rfl rfl rfl (by decide +kernel) ?_
        refine z_getR (pc := 110) 8 fl_Plan_147 rfl rfl rfl (by decide +kernel) ?_
        refine z_iload (pc := 113) (i := 8) (by decide +kernel) rfl ?_
        refine z_iald (pc := 115) rfl hb1 (by decide +kernel) ?_
        refine z_iadd (pc := 116) (by decide +kernel) ?_
        refine z_aload_n (pc := 117) (q := 0) (by decide +kernel) rfl ?_
        refine z_getR (pc := 118) 94 fl_Plan_15 rfl rfl rfl (by decide +kernel) ?_
        refine z_iload (pc := 121) (i := 8) (by decide +kernel) rfl ?_
        refine z_iald (pc := 123) rfl hb1 (by decide +kernel) ?_
        refine z_iadd (pc := 124) (by decide +kernel) ?_
        refine z_calls (pc := 125) (as := [vi a5, vi (w32 ((w32 (a2 + (σ 8 a8))) + (σ 94 a8)))]) ml_Plan_104 rfl rfl (Nat.le_of_ble_eq_true rfl) (dc := d - 1) (by omega) (by decide +kernel) (CI.z (CI.mono (fun x7 τ7 k => ?_) k))
        refine z_istore (pc := 128) (i := 5) [some (vr 92), some (vi a1), some (vi a2), some (vi a3), some (vi (w32 (a4 + (σ 8 a8)))), some (vi x7), some (vi a6), some (vi (w32 (a7 + (σ 9 a8)))), some (vi a8)] (by decide +kernel) (Nat.le_of_ble_eq_true rfl) rfl ?_
        refine z_iload (pc := 130) (i := 6) (by decide +kernel) rfl ?_
        refine z_aload_n (pc := 132) (q := 0) (by decide +kernel) rfl ?_
        refine z_getR (pc := 133) 94 fl_Plan_15 rfl rfl rfl (by decide +kernel) ?_
        refine z_iload (pc := 136) (i := 8) (by decide +kernel) rfl ?_
        refine z_iald (pc := 138) rfl hb1 (by decide +kernel) ?_
        refine z_aload_n (pc := 139) (q := 0) (by decide +kernel) rfl ?_
        refine z_getR (pc := 140) 2 fl_Plan_62 rfl rfl rfl (by decide +kernel) ?_
        refine z_getR (pc := 143) 9 fl_Plan_150 rfl rfl rfl (by decide +kernel) ?_
        refine z_iload (pc := 146) (i := 8) (by decide +kernel) rfl ?_
        refine z_iald (pc := 148) rfl hb1 (by decide +kernel) ?_
        refine z_iadd (pc := 149) (by decide +kernel) ?_
        refine z_calls (pc := 150) (as := [vi a6, vi (w32 ((τ7 94 a8) + (τ7 9 a8)))]) ml_Plan_104 rfl rfl (Nat.le_of_ble_eq_true rfl) (dc := d - 1) (by omega) (by decide +kernel) (CI.z (CI.mono (fun x8 τ8 k => ?_) k))
        refine z_istore (pc := 153) (i := 6) [some (vr 92), some (vi a1), some (vi a2), some (vi a3), some (vi (w32 (a4 + (σ 8 a8)))), some (vi x7), some (vi x8), some (vi (w32 (a7 + (σ 9 a8)))), some (vi a8)] (by decide +kernel) (Nat.le_of_ble_eq_true rfl) rfl ?_
        refine z_iinc (pc := 155) (i := 8) (n := 1) [some (vr 92), some (vi a1), some (vi a2), some (vi a3), some (vi (w32 (a4 + (σ 8 a8)))), some (vi x7), some (vi x8), some (vi (w32 (a7 + (σ 9 a8)))), some (vi (w32 (a8 + 1)))] (by decide +kernel) rfl rfl ?_
        refine z_goto (pc := 158) (off := -113) 45 (by decide +kernel) (by decide) ?_
        exact k
theorem b_Plan_plan_0 {E : EN} {d : Nat} {a1 : Int} {a2 : Int} {σ : Mem} {K : Mem → Prop}  (k : (σ 92 10 = 0 → Z E y_Plan_plan d 24 [some (vr 92), some (vi a1), some (vi a2), none] [] σ (qv K)) ∧ (σ 92 10 ≠ 0 → (σ 92 11 ≠ a1 → Z E y_Plan_plan d 24 [some (vr 92), some (vi a1), some (vi a2), none] [] σ (qv K)) ∧ (σ 92 11 = a1 → (σ 92 12 ≠ a2 → Z E y_Plan_plan d 24 [some (vr 92), some (vi a1), some (vi a2), none] [] σ (qv K)) ∧ (σ 92 12 = a2 → K σ)))) :
    Z E y_Plan_plan d 0 [some (vr 92), some (vi a1), some (vi a2), none] [] σ (qv K) := by
  refine z_aload_n (pc := 0) (q := 0) (by decide +kernel) rfl ?_
  refine z_getI (pc := 1) 10 fl_Plan_37 rfl (by decide) rfl (by decide +kernel) ?_
  refine z_if_eq (pc := 4) (off := 20) 24 (by decide +kernel) (by decide) ⟨fun hc => ?_, fun hc => ?_⟩
  · have k := k.1 hc
    exact k
  · have k := k.2 hc
    refine z_aload_n (pc := 7) (q := 0) (by decide +kernel) rfl ?_
    refine z_getI (pc := 8) 11 fl_Plan_41 rfl (by decide) rfl (by decide +kernel) ?_
    refine z_iload_n (pc := 11) (q := 1) (by decide +kernel) rfl ?_
    refine z_icmp_ne (pc := 12) (off := 12) 24 (by decide +kernel) (by decide) ⟨fun hc => ?_, fun hc => ?_⟩
    · have k := k.1 hc
      exact k
    · have k := k.2 hc
      refine z_aload_n (pc := 15) (q := 0) (by decide +kernel) rfl ?_
      refine z_getI (pc := 16) 12 fl_Plan_44 rfl (by decide) rfl (by decide +kernel) ?_
      refine z_iload_n (pc := 19) (q := 2) (by decide +kernel) rfl ?_
      refine z_icmp_ne (pc := 20) (off := 4) 24 (by decide +kernel) (by decide) ⟨fun hc => ?_, fun hc => ?_⟩
      · have k := k.1 hc
        exact k
      · have k := k.2 hc
        exact z_vret (pc := 23) (by decide +kernel) rfl k
theorem b_Plan_plan_24 {E : EN} {d : Nat} {a1 : Int} {a2 : Int} {o3 : Option AV} {σ : Mem} {K : Mem → Prop}  (hd : 1 ≤ d) (k : CI E y_Room_allLetters (d - 1) [vr 2] (up (up (up σ 92 10 1) 92 11 a1) 92 12 a2) (fun x1 τ1 => CV E y_Plan_useHands (d - 1) [vr 92, vi a2] (up τ1 92 7 (ian x1 (ixo a1 (-1)))) (fun τ2 => CI E y_Plan_mostWorth (d - 1) [vr 92, vi (τ2 92 7), vi (τ2 2 0)] τ2 (fun x3 τ3 => Z E y_Plan_plan d 86 [some (vr 92), some (vi a1), some (vi a2), some (vi 0)] [] (up (up τ3 92 8 x3) 92 9 6) (qv K))))) :
    Z E y_Plan_plan d 24 [some (vr 92), some (vi a1), some (vi a2), o3] [] σ (qv K) := by
  refine z_aload_n (pc := 24) (q := 0) (by decide +kernel) rfl ?_
  refine z_iconst (pc := 25) (n := 1) (by decide +kernel) ⟨by decide, by decide⟩ ?_
  refine z_putZ (pc := 26) 10 fp_Plan_37 rfl rfl rfl (by decide) (by decide +kernel) ?_
  refine z_aload_n (pc := 29) (q := 0) (by decide +kernel) rfl ?_
  refine z_iload_n (pc := 30) (q := 1) (by decide +kernel) rfl ?_
  refine z_putI (pc := 31) 11 fp_Plan_41 rfl rfl rfl (by decide +kernel) ?_
  refine z_aload_n (pc := 34) (q := 0) (by decide +kernel) rfl ?_
  refine z_iload_n (pc := 35) (q := 2) (by decide +kernel) rfl ?_
  refine z_putI (pc := 36) 12 fp_Plan_44 rfl rfl rfl (by decide +kernel) ?_
  refine z_aload_n (pc := 39) (q := 0) (by decide +kernel) rfl ?_
  refine z_aload_n (pc := 40) (q := 0) (by decide +kernel) rfl ?_
  refine z_getR (pc := 41) 2 fl_Plan_62 rfl rfl rfl (by decide +kernel) ?_
  refine z_callv (pc := 44) (as := []) ml_Plan_113 rfl ⟨rfl, by decide⟩ rfl rfl (Nat.le_of_ble_eq_true rfl) (dc := d - 1) (by omega) (by decide +kernel) (CI.z (CI.mono (fun x1 τ1 k => ?_) k))
  refine z_iload_n (pc := 47) (q := 1) (by decide +kernel) rfl ?_
  refine z_iconst (pc := 48) (n := -1) (by decide +kernel) ⟨by decide, by decide⟩ ?_
  refine z_ixor (pc := 49) (by decide +kernel) ?_
  refine z_iand (pc := 50) (by decide +kernel) ?_
  refine z_putI (pc := 51) 7 fp_Plan_28 rfl rfl rfl (by decide +kernel) ?_
  refine z_aload_n (pc := 54) (q := 0) (by decide +kernel) rfl ?_
  refine z_iload_n (pc := 55) (q := 2) (by decide +kernel) rfl ?_
  refine z_callv (pc := 56) (as := [vi a2]) ml_Plan_156 rfl ⟨rfl, by decide⟩ rfl rfl (Nat.le_of_ble_eq_true rfl) (dc := d - 1) (by omega) (by decide +kernel) (CV.z (CV.mono (fun τ2 k => ?_) k))
  refine z_aload_n (pc := 59) (q := 0) (by decide +kernel) rfl ?_
  refine z_aload_n (pc := 60) (q := 0) (by decide +kernel) rfl ?_
  refine z_aload_n (pc := 61) (q := 0) (by decide +kernel) rfl ?_
  refine z_getI (pc := 62) 7 fl_Plan_28 rfl (by decide) rfl (by decide +kernel) ?_
  refine z_aload_n (pc := 65) (q := 0) (by decide +kernel) rfl ?_
  refine z_getR (pc := 66) 2 fl_Plan_62 rfl rfl rfl (by decide +kernel) ?_
  refine z_getI (pc := 69) 0 fl_Plan_160 rfl (by decide) rfl (by decide +kernel) ?_
  refine z_callv (pc := 72) (as := [vi (τ2 92 7), vi (τ2 2 0)]) ml_Plan_163 rfl ⟨rfl, by decide⟩ rfl rfl (Nat.le_of_ble_eq_true rfl) (dc := d - 1) (by omega) (by decide +kernel) (CI.z (CI.mono (fun x3 τ3 k => ?_) k))
  refine z_putI (pc := 75) 8 fp_Plan_31 rfl rfl rfl (by decide +kernel) ?_
  refine z_aload_n (pc := 78) (q := 0) (by decide +kernel) rfl ?_
  refine z_bipush (pc := 79) (n := 6) (by decide +kernel) (by decide) ⟨by decide, by decide⟩ ?_
  refine z_putI (pc := 81) 9 fp_Plan_34 rfl rfl rfl (by decide +kernel) ?_
  refine z_iconst (pc := 84) (n := 0) (by decide +kernel) ⟨by decide, by decide⟩ ?_
  refine z_istore_n (pc := 85) (q := 3) [some (vr 92), some (vi a1), some (vi a2), some (vi 0)] (by decide +kernel) (Nat.le_of_ble_eq_true rfl) rfl ?_
  exact k
theorem b_Plan_plan_86 {E : EN} {d : Nat} {a1 : Int} {a2 : Int} {o1 : Option AV} {o2 : Option AV} {a3 : Int} {σ : Mem} {K : Mem → Prop}  (hd : 1 ≤ d) (k : (64 ≤ a3 → CV E y_Row_clear (d - 1) [vr 82] σ (fun τ1 => CI E y_Plan_spell (d - 1) [vr 92, vi 0] τ1 (fun x2 τ2 => CV E y_Plan_keepPlan (d - 1) [vr 92] τ2 (fun τ3 => K τ3)))) ∧ (a3 < 64 → CI E y_Plan_hasWantedWorth (d - 1) [vr 92, vi a3] σ (fun x4 τ4 => (x4 = 0 → Z E y_Plan_plan d 86 [some (vr 92), o1, none, some (vi (w32 (a3 + 1)))] [] τ4 (qv K)) ∧ (x4 ≠ 0 → CI E y_Int_bitCount (d - 1) [vi a3] τ4 (fun x5 τ5 => CI E y_Math_min_II (d - 1) [vi (τ4 92 9), vi x5] τ5 (fun x6 τ6 => Z E y_Plan_plan d 86 [some (vr 92), o1, none, some (vi (w32 (a3 + 1)))] [] (up τ6 92 9 x6) (qv K))))))) :
    Z E y_Plan_plan d 86 [some (vr 92), o1, o2, some (vi a3)] [] σ (qv K) := by
  refine z_iload_n (pc := 86) (q := 3) (by decide +kernel) rfl ?_
  refine z_bipush (pc := 87) (n := 64) (by decide +kernel) (by decide) ⟨by decide, by decide⟩ ?_
  refine z_icmp_ge (pc := 89) (off := 32) 121 (by decide +kernel) (by decide) ⟨fun hc => ?_, fun hc => ?_⟩
  · have k := k.1 hc
    refine z_aload_n (pc := 121) (q := 0) (by decide +kernel) rfl ?_
    refine z_getR (pc := 122) 82 fl_Plan_71 rfl rfl rfl (by decide +kernel) ?_
    refine z_callv (pc := 125) (as := []) ml_Plan_120 rfl ⟨rfl, by decide⟩ rfl rfl (Nat.le_of_ble_eq_true rfl) (dc := d - 1) (by omega) (by decide +kernel) (CV.z (CV.mono (fun τ1 k => ?_) k))
    refine z_aload_n (pc := 128) (q := 0) (by decide +kernel) rfl ?_
    refine z_iconst (pc := 129) (n := 0) (by decide +kernel) ⟨by decide, by decide⟩ ?_
    refine z_callv (pc := 130) (as := [vi 0]) ml_Plan_175 rfl ⟨rfl, by decide⟩ rfl rfl (Nat.le_of_ble_eq_true rfl) (dc := d - 1) (by omega) (by decide +kernel) (CI.z (CI.mono (fun x2 τ2 k => ?_) k))
    refine z_pop (pc := 133) (by decide +kernel) rfl ?_
    refine z_aload_n (pc := 134) (q := 0) (by decide +kernel) rfl ?_
    refine z_callv (pc := 135) (as := []) ml_Plan_178 rfl ⟨rfl, by decide⟩ rfl rfl (Nat.le_of_ble_eq_true rfl) (dc := d - 1) (by omega) (by decide +kernel) (CV.z (CV.mono (fun τ3 k => ?_) k))
    exact z_vret (pc := 138) (by decide +kernel) rfl k
  · have k := k.2 hc
    refine z_aload_n (pc := 92) (q := 0) (by decide +kernel) rfl ?_
    refine z_iload_n (pc := 93) (q := 3) (by decide +kernel) rfl ?_
    refine z_callv (pc := 94) (as := [vi a3]) ml_Plan_166 rfl ⟨rfl, by decide⟩ rfl rfl (Nat.le_of_ble_eq_true rfl) (dc := d - 1) (by omega) (by decide +kernel) (CI.z (CI.mono (fun x4 τ4 k => ?_) k))
    refine z_if_eq (pc := 97) (off := 18) 115 (by decide +kernel) (by decide) ⟨fun hc => ?_, fun hc => ?_⟩
    · have k := k.1 hc
      refine z_forget (pc := 115) 2 [some (vr 92), o1, none, some (vi a3)] rfl ?_
      refine z_iinc (pc := 115) (i := 3) (n := 1) [some (vr 92), o1, none, some (vi (w32 (a3 + 1)))] (by decide +kernel) rfl rfl ?_
      refine z_goto (pc := 118) (off := -32) 86 (by decide +kernel) (by decide) ?_
      exact k
    · have k := k.2 hc
      refine z_aload_n (pc := 100) (q := 0) (by decide +kernel) rfl ?_
      refine z_aload_n (pc := 101) (q := 0) (by decide +kernel) rfl ?_
      refine z_getI (pc := 102) 9 fl_Plan_34 rfl (by decide) rfl (by decide +kernel) ?_
      refine z_iload_n (pc := 105) (q := 3) (by decide +kernel) rfl ?_
      refine z_calls (pc := 106) (as := [vi a3]) ml_Plan_170 rfl rfl (Nat.le_of_ble_eq_true rfl) (dc := d - 1) (by omega) (by decide +kernel) (CI.z (CI.mono (fun x5 τ5 k => ?_) k))
      refine z_calls (pc := 109) (as := [vi (τ4 92 9), vi x5]) ml_Plan_104 rfl rfl (Nat.le_of_ble_eq_true rfl) (dc := d - 1) (by omega) (by decide +kernel) (CI.z (CI.mono (fun x6 τ6 k => ?_) k))
      refine z_putI (pc := 112) 9 fp_Plan_34 rfl rfl rfl (by decide +kernel) ?_
      refine z_forget (pc := 115) 2 [some (vr 92), o1, none, some (vi a3)] rfl ?_
      refine z_iinc (pc := 115) (i := 3) (n := 1) [some (vr 92), o1, none, some (vi (w32 (a3 + 1)))] (by decide +kernel) rfl rfl ?_
      refine z_goto (pc := 118) (off := -32) 86 (by decide +kernel) (by decide) ?_
      exact k
theorem b_Plan_hasWantedWorth_0 {E : EN} {d : Nat} {a1 : Int} {σ : Mem} {K : Int → Mem → Prop}  (hd : 1 ≤ d) (k : (ian a1 (ixo (σ 92 7) (-1)) ≠ 0 → K 0 σ) ∧ (ian a1 (ixo (σ 92 7) (-1)) = 0 → CI E y_Plan_soonest (d - 1) [vr 92, vi a1] σ (fun x1 τ1 => (τ1 2 0 < x1 → K 0 τ1) ∧ (x1 ≤ τ1 2 0 → CI E y_Room_worthOf (d - 1) [vr 2, vi a1] τ1 (fun x2 τ2 => (x2 ≠ τ2 92 8 → K 0 τ2) ∧ (x2 = τ2 92 8 → K 1 τ2)))))) :
    Z E y_Plan_hasWantedWorth d 0 [some (vr 92), some (vi a1)] [] σ (qi K) := by
  refine z_iload_n (pc := 0) (q := 1) (by decide +kernel) rfl ?_
  refine z_aload_n (pc := 1) (q := 0) (by decide +kernel) rfl ?_
  refine z_getI (pc := 2) 7 fl_Plan_28 rfl (by decide) rfl (by decide +kernel) ?_
  refine z_iconst (pc := 5) (n := -1) (by decide +kernel) ⟨by decide, by decide⟩ ?_
  refine z_ixor (pc := 6) (by decide +kernel) ?_
  refine z_iand (pc := 7) (by decide +kernel) ?_
  refine z_if_ne (pc := 8) (off := 37) 45 (by decide +kernel) (by decide) ⟨fun hc => ?_, fun hc => ?_⟩
  · have k := k.1 hc
    refine z_iconst (pc := 45) (n := 0) (by decide +kernel) ⟨by decide, by decide⟩ ?_
    exact z_zret (pc := 46) (by decide +kernel) rfl ⟨by decide, k⟩
  · have k := k.2 hc
    refine z_aload_n (pc := 11) (q := 0) (by decide +kernel) rfl ?_
    refine z_iload_n (pc := 12) (q := 1) (by decide +kernel) rfl ?_
    refine z_callv (pc := 13) (as := [vi a1]) ml_Plan_75 rfl ⟨rfl, by decide⟩ rfl rfl (Nat.le_of_ble_eq_true rfl) (dc := d - 1) (by omega) (by decide +kernel) (CI.z (CI.mono (fun x1 τ1 k => ?_) k))
    refine z_aload_n (pc := 16) (q := 0) (by decide +kernel) rfl ?_
    refine z_getR (pc := 17) 2 fl_Plan_62 rfl rfl rfl (by decide +kernel) ?_
    refine z_getI (pc := 20) 0 fl_Plan_160 rfl (by decide) rfl (by decide +kernel) ?_
    refine z_icmp_gt (pc := 23) (off := 22) 45 (by decide +kernel) (by decide) ⟨fun hc => ?_, fun hc => ?_⟩
    · have k := k.1 hc
      refine z_iconst (pc := 45) (n := 0) (by decide +kernel) ⟨by decide, by decide⟩ ?_
      exact z_zret (pc := 46) (by decide +kernel) rfl ⟨by decide, k⟩
    · have k := k.2 hc
      refine z_aload_n (pc := 26) (q := 0) (by decide +kernel) rfl ?_
      refine z_getR (pc := 27) 2 fl_Plan_62 rfl rfl rfl (by decide +kernel) ?_
      refine z_iload_n (pc := 30) (q := 1) (by decide +kernel) rfl ?_
      refine z_callv (pc := 31) (as := [vi a1]) ml_Plan_79 rfl ⟨rfl, by decide⟩ rfl rfl (Nat.le_of_ble_eq_true rfl) (dc := d - 1) (by omega) (by decide +kernel) (CI.z (CI.mono (fun x2 τ2 k => ?_) k))
      refine z_aload_n (pc := 34) (q := 0) (by decide +kernel) rfl ?_
      refine z_getI (pc := 35) 8 fl_Plan_31 rfl (by decide) rfl (by decide +kernel) ?_
      refine z_icmp_ne (pc := 38) (off := 7) 45 (by decide +kernel) (by decide) ⟨fun hc => ?_, fun hc => ?_⟩
      · have k := k.1 hc
        refine z_iconst (pc := 45) (n := 0) (by decide +kernel) ⟨by decide, by decide⟩ ?_
        exact z_zret (pc := 46) (by decide +kernel) rfl ⟨by decide, k⟩
      · have k := k.2 hc
        refine z_iconst (pc := 41) (n := 1) (by decide +kernel) ⟨by decide, by decide⟩ ?_
        refine z_goto (pc := 42) (off := 4) 46 (by decide +kernel) (by decide) ?_
        exact z_zret (pc := 46) (by decide +kernel) rfl ⟨by decide, k⟩
theorem b_Plan_keepPlan_0 {E : EN} {d : Nat}  {σ : Mem} {K : Mem → Prop}  (hd : 1 ≤ d) (k : CI E y_Room_worthOf (d - 1) [vr 2, vi (σ 82 2)] σ (fun x1 τ1 => CI E y_Row_end (d - 1) [vr 82] (up (up (up τ1 92 13 x1) 92 14 (τ1 82 1)) 92 15 (τ1 82 2)) (fun x2 τ2 => Z E y_Plan_keepPlan d 53 [some (vr 92), some (vi 0)] [] (up τ2 92 16 x2) (qv K)))) :
    Z E y_Plan_keepPlan d 0 [some (vr 92), none] [] σ (qv K) := by
  refine z_aload_n (pc := 0) (q := 0) (by decide +kernel) rfl ?_
  refine z_aload_n (pc := 1) (q := 0) (by decide +kernel) rfl ?_
  refine z_getR (pc := 2) 2 fl_Plan_62 rfl rfl rfl (by decide +kernel) ?_
  refine z_aload_n (pc := 5) (q := 0) (by decide +kernel) rfl ?_
  refine z_getR (pc := 6) 82 fl_Plan_71 rfl rfl rfl (by decide +kernel) ?_
  refine z_getI (pc := 9) 2 fl_Plan_181 rfl (by decide) rfl (by decide +kernel) ?_
  refine z_callv (pc := 12) (as := [vi (σ 82 2)]) ml_Plan_79 rfl ⟨rfl, by decide⟩ rfl rfl (Nat.le_of_ble_eq_true rfl) (dc := d - 1) (by omega) (by decide +kernel) (CI.z (CI.mono (fun x1 τ1 k => ?_) k))
  refine z_putI (pc := 15) 13 fp_Plan_47 rfl rfl rfl (by decide +kernel) ?_
  refine z_aload_n (pc := 18) (q := 0) (by decide +kernel) rfl ?_
  refine z_aload_n (pc := 19) (q := 0) (by decide +kernel) rfl ?_
  refine z_getR (pc := 20) 82 fl_Plan_71 rfl rfl rfl (by decide +kernel) ?_
  refine z_getI (pc := 23) 1 fl_Plan_184 rfl (by decide) rfl (by decide +kernel) ?_
  refine z_topI (up_nc (by decide)) ?_
  refine z_putI (pc := 26) 14 fp_Plan_50 rfl rfl rfl (by decide +kernel) ?_
  refine z_aload_n (pc := 29) (q := 0) (by decide +kernel) rfl ?_
  refine z_aload_n (pc := 30) (q := 0) (by decide +kernel) rfl ?_
  refine z_getR (pc := 31) 82 fl_Plan_71 rfl rfl rfl (by decide +kernel) ?_
  refine z_getI (pc := 34) 2 fl_Plan_181 rfl (by decide) rfl (by decide +kernel) ?_
  refine z_topI ((up_nc (by decide)).trans (up_nc (by decide))) ?_
  refine z_putI (pc := 37) 15 fp_Plan_53 rfl rfl rfl (by decide +kernel) ?_
  refine z_aload_n (pc := 40) (q := 0) (by decide +kernel) rfl ?_
  refine z_aload_n (pc := 41) (q := 0) (by decide +kernel) rfl ?_
  refine z_getR (pc := 42) 82 fl_Plan_71 rfl rfl rfl (by decide +kernel) ?_
  refine z_callv (pc := 45) (as := []) ml_Plan_127 rfl ⟨rfl, by decide⟩ rfl rfl (Nat.le_of_ble_eq_true rfl) (dc := d - 1) (by omega) (by decide +kernel) (CI.z (CI.mono (fun x2 τ2 k => ?_) k))
  refine z_putI (pc := 48) 16 fp_Plan_56 rfl rfl rfl (by decide +kernel) ?_
  refine z_iconst (pc := 51) (n := 0) (by decide +kernel) ⟨by decide, by decide⟩ ?_
  refine z_istore_n (pc := 52) (q := 1) [some (vr 92), some (vi 0)] (by decide +kernel) (Nat.le_of_ble_eq_true rfl) rfl ?_
  exact k
theorem b_Plan_keepPlan_53 {E : EN} {d : Nat} {a1 : Int} {σ : Mem} {K : Mem → Prop}  (k : (σ 82 1 ≤ a1 → K σ) ∧ (a1 < σ 82 1 → (6 ≤ a1 → K σ) ∧ (a1 < 6 → (0 ≤ a1 ∧ a1 < 6) ∧ Z E y_Plan_keepPlan d 53 [some (vr 92), some (vi (w32 (a1 + 1)))] [] (up σ 95 a1 (w32 ((w32 (10 * (σ 84 a1))) + (σ 83 a1)))) (qv K)))) :
    Z E y_Plan_keepPlan d 53 [some (vr 92), some (vi a1)] [] σ (qv K) := by
  refine z_iload_n (pc := 53) (q := 1) (by decide +kernel) rfl ?_
  refine z_aload_n (pc := 54) (q := 0) (by decide +kernel) rfl ?_
  refine z_getR (pc := 55) 82 fl_Plan_71 rfl rfl rfl (by decide +kernel) ?_
  refine z_getI (pc := 58) 1 fl_Plan_184 rfl (by decide) rfl (by decide +kernel) ?_
  refine z_icmp_ge (pc := 61) (off := 43) 104 (by decide +kernel) (by decide) ⟨fun hc => ?_, fun hc => ?_⟩
  · have k := k.1 hc
    exact z_vret (pc := 104) (by decide +kernel) rfl k
  · have k := k.2 hc
    refine z_iload_n (pc := 64) (q := 1) (by decide +kernel) rfl ?_
    refine z_bipush (pc := 65) (n := 6) (by decide +kernel) (by decide) ⟨by decide, by decide⟩ ?_
    refine z_icmp_ge (pc := 67) (off := 37) 104 (by decide +kernel) (by decide) ⟨fun hc => ?_, fun hc => ?_⟩
    · have k := k.1 hc
      exact z_vret (pc := 104) (by decide +kernel) rfl k
    · have k := k.2 hc
      refine z_aload_n (pc := 70) (q := 0) (by decide +kernel) rfl ?_
      refine z_getR (pc := 71) 95 fl_Plan_59 rfl rfl rfl (by decide +kernel) ?_
      refine z_iload_n (pc := 74) (q := 1) (by decide +kernel) rfl ?_
      refine z_bipush (pc := 75) (n := 10) (by decide +kernel) (by decide) ⟨by decide, by decide⟩ ?_
      refine z_aload_n (pc := 77) (q := 0) (by decide +kernel) rfl ?_
      refine z_getR (pc := 78) 82 fl_Plan_71 rfl rfl rfl (by decide +kernel) ?_
      refine z_getR (pc := 81) 84 fl_Plan_187 rfl rfl rfl (by decide +kernel) ?_
      refine z_iload_n (pc := 84) (q := 1) (by decide +kernel) rfl ?_
      have hb1 := k.1
      have k := k.2
      refine z_iald (pc := 85) rfl hb1 (by decide +kernel) ?_
      refine z_imul (pc := 86) (by decide +kernel) ?_
      refine z_aload_n (pc := 87) (q := 0) (by decide +kernel) rfl ?_
      refine z_getR (pc := 88) 82 fl_Plan_71 rfl rfl rfl (by decide +kernel) ?_
      refine z_getR (pc := 91) 83 fl_Plan_190 rfl rfl rfl (by decide +kernel) ?_
      refine z_iload_n (pc := 94) (q := 1) (by decide +kernel) rfl ?_
      refine z_iald (pc := 95) rfl hb1 (by decide +kernel) ?_
      refine z_iadd (pc := 96) (by decide +kernel) ?_
      refine z_iast (pc := 97) rfl hb1 (by decide +kernel) ?_
      refine z_iinc (pc := 98) (i := 1) (n := 1) [some (vr 92), some (vi (w32 (a1 + 1)))] (by decide +kernel) rfl rfl ?_
      refine z_goto (pc := 101) (off := -48) 53 (by decide +kernel) (by decide) ?_
      exact k
theorem b_Plan_spell_0 {E : EN} {d : Nat} {a1 : Int} {σ : Mem} {K : Int → Mem → Prop}  (k : (σ 92 9 ≤ σ 82 1 → (σ 82 1 ≠ σ 92 9 → K 0 σ) ∧ (σ 82 1 = σ 92 9 → K 1 σ)) ∧ (σ 82 1 < σ 92 9 → (a1 < 6 → Z E y_Plan_spell d 42 [some (vr 92), some (vi a1), some (vi 0), none, none] [] σ (qi K)) ∧ (6 ≤ a1 → (σ 82 1 ≠ σ 92 9 → K 0 σ) ∧ (σ 82 1 = σ 92 9 → K 1 σ)))) :
    Z E y_Plan_spell d 0 [some (vr 92), some (vi a1), none, none, none] [] σ (qi K) := by
  refine z_aload_n (pc := 0) (q := 0) (by decide +kernel) rfl ?_
  refine z_getR (pc := 1) 82 fl_Plan_71 rfl rfl rfl (by decide +kernel) ?_
  refine z_getI (pc := 4) 1 fl_Plan_184 rfl (by decide) rfl (by decide +kernel) ?_
  refine z_aload_n (pc := 7) (q := 0) (by decide +kernel) rfl ?_
  refine z_getI (pc := 8) 9 fl_Plan_34 rfl (by decide) rfl (by decide +kernel) ?_
  refine z_icmp_ge (pc := 11) (off := 9) 20 (by decide +kernel) (by decide) ⟨fun hc => ?_, fun hc => ?_⟩
  · have k := k.1 hc
    refine z_aload_n (pc := 20) (q := 0) (by decide +kernel) rfl ?_
    refine z_getR (pc := 21) 82 fl_Plan_71 rfl rfl rfl (by decide +kernel) ?_
    refine z_getI (pc := 24) 1 fl_Plan_184 rfl (by decide) rfl (by decide +kernel) ?_
    refine z_aload_n (pc := 27) (q := 0) (by decide +kernel) rfl ?_
    refine z_getI (pc := 28) 9 fl_Plan_34 rfl (by decide) rfl (by decide +kernel) ?_
    refine z_icmp_ne (pc := 31) (off := 7) 38 (by decide +kernel) (by decide) ⟨fun hc => ?_, fun hc => ?_⟩
    · have k := k.1 hc
      refine z_iconst (pc := 38) (n := 0) (by decide +kernel) ⟨by decide, by decide⟩ ?_
      exact z_zret (pc := 39) (by decide +kernel) rfl ⟨by decide, k⟩
    · have k := k.2 hc
      refine z_iconst (pc := 34) (n := 1) (by decide +kernel) ⟨by decide, by decide⟩ ?_
      refine z_goto (pc := 35) (off := 4) 39 (by decide +kernel) (by decide) ?_
      exact z_zret (pc := 39) (by decide +kernel) rfl ⟨by decide, k⟩
  · have k := k.2 hc
    refine z_iload_n (pc := 14) (q := 1) (by decide +kernel) rfl ?_
    refine z_bipush (pc := 15) (n := 6) (by decide +kernel) (by decide) ⟨by decide, by decide⟩ ?_
    refine z_icmp_lt (pc := 17) (off := 23) 40 (by decide +kernel) (by decide) ⟨fun hc => ?_, fun hc => ?_⟩
    · have k := k.1 hc
      refine z_iconst (pc := 40) (n := 0) (by decide +kernel) ⟨by decide, by decide⟩ ?_
      refine z_istore_n (pc := 41) (q := 2) [some (vr 92), some (vi a1), some (vi 0), none, none] (by decide +kernel) (Nat.le_of_ble_eq_true rfl) rfl ?_
      exact k
    · have k := k.2 hc
      refine z_aload_n (pc := 20) (q := 0) (by decide +kernel) rfl ?_
      refine z_getR (pc := 21) 82 fl_Plan_71 rfl rfl rfl (by decide +kernel) ?_
      refine z_getI (pc := 24) 1 fl_Plan_184 rfl (by decide) rfl (by decide +kernel) ?_
      refine z_aload_n (pc := 27) (q := 0) (by decide +kernel) rfl ?_
      refine z_getI (pc := 28) 9 fl_Plan_34 rfl (by decide) rfl (by decide +kernel) ?_
      refine z_icmp_ne (pc := 31) (off := 7) 38 (by decide +kernel) (by decide) ⟨fun hc => ?_, fun hc => ?_⟩
      · have k := k.1 hc
        refine z_iconst (pc := 38) (n := 0) (by decide +kernel) ⟨by decide, by decide⟩ ?_
        exact z_zret (pc := 39) (by decide +kernel) rfl ⟨by decide, k⟩
      · have k := k.2 hc
        refine z_iconst (pc := 34) (n := 1) (by decide +kernel) ⟨by decide, by decide⟩ ?_
        refine z_goto (pc := 35) (off := 4) 39 (by decide +kernel) (by decide) ?_
        exact z_zret (pc := 39) (by decide +kernel) rfl ⟨by decide, k⟩
theorem b_Plan_spell_42 {E : EN} {d : Nat} {a1 : Int} {a2 : Int} {o3 : Option AV} {o4 : Option AV} {σ : Mem} {K : Int → Mem → Prop}  (k : (σ 2 1 ≤ a2 → K 0 σ) ∧ (a2 < σ 2 1 → Z E y_Plan_spell d 55 [some (vr 92), some (vi a1), some (vi a2), some (vi 0), o4] [] σ (qi K))) :
    Z E y_Plan_spell d 42 [some (vr 92), some (vi a1), some (vi a2), o3, o4] [] σ (qi K) := by
  refine z_iload_n (pc := 42) (q := 2) (by decide +kernel) rfl ?_
  refine z_aload_n (pc := 43) (q := 0) (by decide +kernel) rfl ?_
  refine z_getR (pc := 44) 2 fl_Plan_62 rfl rfl rfl (by decide +kernel) ?_
  refine z_getI (pc := 47) 1 fl_Plan_98 rfl (by decide) rfl (by decide +kernel) ?_
  refine z_icmp_ge (pc := 50) (off := 115) 165 (by decide +kernel) (by decide) ⟨fun hc => ?_, fun hc => ?_⟩
  · have k := k.1 hc
    refine z_iconst (pc := 165) (n := 0) (by decide +kernel) ⟨by decide, by decide⟩ ?_
    exact z_zret (pc := 166) (by decide +kernel) rfl ⟨by decide, k⟩
  · have k := k.2 hc
    refine z_iconst (pc := 53) (n := 0) (by decide +kernel) ⟨by decide, by decide⟩ ?_
    refine z_istore_n (pc := 54) (q := 3) [some (vr 92), some (vi a1), some (vi a2), some (vi 0), o4] (by decide +kernel) (Nat.le_of_ble_eq_true rfl) rfl ?_
    exact k
theorem b_Plan_spell_55 {E : EN} {d : Nat} {a1 : Int} {a2 : Int} {a3 : Int} {o4 : Option AV} {σ : Mem} {K : Int → Mem → Prop}  (k : (σ 2 3 ≤ a3 → Z E y_Plan_spell d 42 [some (vr 92), some (vi a1), some (vi (w32 (a2 + 1))), some (vi a3), o4] [] σ (qi K)) ∧ (a3 < σ 2 3 → (6 ≤ a3 → Z E y_Plan_spell d 42 [some (vr 92), some (vi a1), some (vi (w32 (a2 + 1))), some (vi a3), o4] [] σ (qi K)) ∧ (a3 < 6 → (ian (isr (ian (σ 92 7) (ixo (σ 82 2) (-1))) a3) 1 = 0 → Z E y_Plan_spell d 98 [some (vr 92), some (vi a1), some (vi a2), some (vi a3), o4] [vi 0] σ (qi K)) ∧ (ian (isr (ian (σ 92 7) (ixo (σ 82 2) (-1))) a3) 1 ≠ 0 → Z E y_Plan_spell d 98 [some (vr 92), some (vi a1), some (vi a2), some (vi a3), o4] [vi 1] σ (qi K))))) :
    Z E y_Plan_spell d 55 [some (vr 92), some (vi a1), some (vi a2), some (vi a3), o4] [] σ (qi K) := by
  refine z_iload_n (pc := 55) (q := 3) (by decide +kernel) rfl ?_
  refine z_aload_n (pc := 56) (q := 0) (by decide +kernel) rfl ?_
  refine z_getR (pc := 57) 2 fl_Plan_62 rfl rfl rfl (by decide +kernel) ?_
  refine z_getI (pc := 60) 3 fl_Plan_92 rfl (by decide) rfl (by decide +kernel) ?_
  refine z_icmp_ge (pc := 63) (off := 96) 159 (by decide +kernel) (by decide) ⟨fun hc => ?_, fun hc => ?_⟩
  · have k := k.1 hc
    refine z_iinc (pc := 159) (i := 2) (n := 1) [some (vr 92), some (vi a1), some (vi (w32 (a2 + 1))), some (vi a3), o4] (by decide +kernel) rfl rfl ?_
    refine z_goto (pc := 162) (off := -120) 42 (by decide +kernel) (by decide) ?_
    exact k
  · have k := k.2 hc
    refine z_iload_n (pc := 66) (q := 3) (by decide +kernel) rfl ?_
    refine z_bipush (pc := 67) (n := 6) (by decide +kernel) (by decide) ⟨by decide, by decide⟩ ?_
    refine z_icmp_ge (pc := 69) (off := 90) 159 (by decide +kernel) (by decide) ⟨fun hc => ?_, fun hc => ?_⟩
    · have k := k.1 hc
      refine z_iinc (pc := 159) (i := 2) (n := 1) [some (vr 92), some (vi a1), some (vi (w32 (a2 + 1))), some (vi a3), o4] (by decide +kernel) rfl rfl ?_
      refine z_goto (pc := 162) (off := -120) 42 (by decide +kernel) (by decide) ?_
      exact k
    · have k := k.2 hc
      refine z_aload_n (pc := 72) (q := 0) (by decide +kernel) rfl ?_
      refine z_getI (pc := 73) 7 fl_Plan_28 rfl (by decide) rfl (by decide +kernel) ?_
      refine z_aload_n (pc := 76) (q := 0) (by decide +kernel) rfl ?_
      refine z_getR (pc := 77) 82 fl_Plan_71 rfl rfl rfl (by decide +kernel) ?_
      refine z_getI (pc := 80) 2 fl_Plan_181 rfl (by decide) rfl (by decide +kernel) ?_
      refine z_iconst (pc := 83) (n := -1) (by decide +kernel) ⟨by decide, by decide⟩ ?_
      refine z_ixor (pc := 84) (by decide +kernel) ?_
      refine z_iand (pc := 85) (by decide +kernel) ?_
      refine z_iload_n (pc := 86) (q := 3) (by decide +kernel) rfl ?_
      refine z_ishr (pc := 87) (by decide +kernel) ?_
      refine z_iconst (pc := 88) (n := 1) (by decide +kernel) ⟨by decide, by decide⟩ ?_
      refine z_iand (pc := 89) (by decide +kernel) ?_
      refine z_if_eq (pc := 90) (off := 7) 97 (by decide +kernel) (by decide) ⟨fun hc => ?_, fun hc => ?_⟩
      · have k := k.1 hc
        refine z_iconst (pc := 97) (n := 0) (by decide +kernel) ⟨by decide, by decide⟩ ?_
        exact k
      · have k := k.2 hc
        refine z_iconst (pc := 93) (n := 1) (by decide +kernel) ⟨by decide, by decide⟩ ?_
        refine z_goto (pc := 94) (off := 4) 98 (by decide +kernel) (by decide) ?_
        exact k
theorem b_Plan_spell_98 {E : EN} {d : Nat} {a1 : Int} {a2 : Int} {a3 : Int} {o4 : Option AV} {s0 : Int} {σ : Mem} {K : Int → Mem → Prop}  (hd : 1 ≤ d) (k : (s0 = 0 → Z E y_Plan_spell d 55 [some (vr 92), some (vi a1), some (vi a2), some (vi (w32 (a3 + 1))), some (vi s0)] [] σ (qi K)) ∧ (s0 ≠ 0 → (0 ≤ a3 ∧ a3 < 6) ∧ (ian (isr (σ 93 a3) a2) 1 = 0 → Z E y_Plan_spell d 55 [some (vr 92), some (vi a1), some (vi a2), some (vi (w32 (a3 + 1))), some (vi s0)] [] σ (qi K)) ∧ (ian (isr (σ 93 a3) a2) 1 ≠ 0 → CV E y_Row_add (d - 1) [vr 82, vi a3, vi a2] σ (fun τ1 => CI E y_Plan_canBeWanted (d - 1) [vr 92] τ1 (fun x2 τ2 => (x2 = 0 → CV E y_Row_drop (d - 1) [vr 82] τ2 (fun τ3 => Z E y_Plan_spell d 55 [some (vr 92), some (vi a1), some (vi a2), some (vi (w32 (a3 + 1))), some (vi s0)] [] τ3 (qi K))) ∧ (x2 ≠ 0 → CI E y_Plan_spell (d - 1) [vr 92, vi (w32 (a1 + 1))] τ2 (fun x4 τ4 => (x4 = 0 → CV E y_Row_drop (d - 1) [vr 82] τ4 (fun τ5 => Z E y_Plan_spell d 55 [some (vr 92), some (vi a1), some (vi a2), some (vi (w32 (a3 + 1))), some (vi s0)] [] τ5 (qi K))) ∧ (x4 ≠ 0 → K 1 τ4)))))))) :
    Z E y_Plan_spell d 98 [some (vr 92), some (vi a1), some (vi a2), some (vi a3), o4] [vi s0] σ (qi K) := by
  refine z_istore (pc := 98) (i := 4) [some (vr 92), some (vi a1), some (vi a2), some (vi a3), some (vi s0)] (by decide +kernel) (Nat.le_of_ble_eq_true rfl) rfl ?_
  refine z_iload (pc := 100) (i := 4) (by decide +kernel) rfl ?_
  refine z_if_eq (pc := 102) (off := 51) 153 (by decide +kernel) (by decide) ⟨fun hc => ?_, fun hc => ?_⟩
  · have k := k.1 hc
    refine z_iinc (pc := 153) (i := 3) (n := 1) [some (vr 92), some (vi a1), some (vi a2), some (vi (w32 (a3 + 1))), some (vi s0)] (by decide +kernel) rfl rfl ?_
    refine z_goto (pc := 156) (off := -101) 55 (by decide +kernel) (by decide) ?_
    exact k
  · have k := k.2 hc
    refine z_aload_n (pc := 105) (q := 0) (by decide +kernel) rfl ?_
    refine z_getR (pc := 106) 93 fl_Plan_9 rfl rfl rfl (by decide +kernel) ?_
    refine z_iload_n (pc := 109) (q := 3) (by decide +kernel) rfl ?_
    have hb1 := k.1
    have k := k.2
    refine z_iald (pc := 110) rfl hb1 (by decide +kernel) ?_
    refine z_iload_n (pc := 111) (q := 2) (by decide +kernel) rfl ?_
    refine z_ishr (pc := 112) (by decide +kernel) ?_
    refine z_iconst (pc := 113) (n := 1) (by decide +kernel) ⟨by decide, by decide⟩ ?_
    refine z_iand (pc := 114) (by decide +kernel) ?_
    refine z_if_eq (pc := 115) (off := 38) 153 (by decide +kernel) (by decide) ⟨fun hc => ?_, fun hc => ?_⟩
    · have k := k.1 hc
      refine z_iinc (pc := 153) (i := 3) (n := 1) [some (vr 92), some (vi a1), some (vi a2), some (vi (w32 (a3 + 1))), some (vi s0)] (by decide +kernel) rfl rfl ?_
      refine z_goto (pc := 156) (off := -101) 55 (by decide +kernel) (by decide) ?_
      exact k
    · have k := k.2 hc
      refine z_aload_n (pc := 118) (q := 0) (by decide +kernel) rfl ?_
      refine z_getR (pc := 119) 82 fl_Plan_71 rfl rfl rfl (by decide +kernel) ?_
      refine z_iload_n (pc := 122) (q := 3) (by decide +kernel) rfl ?_
      refine z_iload_n (pc := 123) (q := 2) (by decide +kernel) rfl ?_
      refine z_callv (pc := 124) (as := [vi a3, vi a2]) ml_Plan_130 rfl ⟨rfl, by decide⟩ rfl rfl (Nat.le_of_ble_eq_true rfl) (dc := d - 1) (by omega) (by decide +kernel) (CV.z (CV.mono (fun τ1 k => ?_) k))
      refine z_aload_n (pc := 127) (q := 0) (by decide +kernel) rfl ?_
      refine z_callv (pc := 128) (as := []) ml_Plan_192 rfl ⟨rfl, by decide⟩ rfl rfl (Nat.le_of_ble_eq_true rfl) (dc := d - 1) (by omega) (by decide +kernel) (CI.z (CI.mono (fun x2 τ2 k => ?_) k))
      refine z_if_eq (pc := 131) (off := 15) 146 (by decide +kernel) (by decide) ⟨fun hc => ?_, fun hc => ?_⟩
      · have k := k.1 hc
        refine z_aload_n (pc := 146) (q := 0) (by decide +kernel) rfl ?_
        refine z_getR (pc := 147) 82 fl_Plan_71 rfl rfl rfl (by decide +kernel) ?_
        refine z_callv (pc := 150) (as := []) ml_Plan_140 rfl ⟨rfl, by decide⟩ rfl rfl (Nat.le_of_ble_eq_true rfl) (dc := d - 1) (by omega) (by decide +kernel) (CV.z (CV.mono (fun τ3 k => ?_) k))
        refine z_iinc (pc := 153) (i := 3) (n := 1) [some (vr 92), some (vi a1), some (vi a2), some (vi (w32 (a3 + 1))), some (vi s0)] (by decide +kernel) rfl rfl ?_
        refine z_goto (pc := 156) (off := -101) 55 (by decide +kernel) (by decide) ?_
        exact k
      · have k := k.2 hc
        refine z_aload_n (pc := 134) (q := 0) (by decide +kernel) rfl ?_
        refine z_iload_n (pc := 135) (q := 1) (by decide +kernel) rfl ?_
        refine z_iconst (pc := 136) (n := 1) (by decide +kernel) ⟨by decide, by decide⟩ ?_
        refine z_iadd (pc := 137) (by decide +kernel) ?_
        refine z_callv (pc := 138) (as := [vi (w32 (a1 + 1))]) ml_Plan_175 rfl ⟨rfl, by decide⟩ rfl rfl (Nat.le_of_ble_eq_true rfl) (dc := d - 1) (by omega) (by decide +kernel) (CI.z (CI.mono (fun x4 τ4 k => ?_) k))
        refine z_if_eq (pc := 141) (off := 5) 146 (by decide +kernel) (by decide) ⟨fun hc => ?_, fun hc => ?_⟩
        · have k := k.1 hc
          refine z_aload_n (pc := 146) (q := 0) (by decide +kernel) rfl ?_
          refine z_getR (pc := 147) 82 fl_Plan_71 rfl rfl rfl (by decide +kernel) ?_
          refine z_callv (pc := 150) (as := []) ml_Plan_140 rfl ⟨rfl, by decide⟩ rfl rfl (Nat.le_of_ble_eq_true rfl) (dc := d - 1) (by omega) (by decide +kernel) (CV.z (CV.mono (fun τ5 k => ?_) k))
          refine z_iinc (pc := 153) (i := 3) (n := 1) [some (vr 92), some (vi a1), some (vi a2), some (vi (w32 (a3 + 1))), some (vi s0)] (by decide +kernel) rfl rfl ?_
          refine z_goto (pc := 156) (off := -101) 55 (by decide +kernel) (by decide) ?_
          exact k
        · have k := k.2 hc
          refine z_iconst (pc := 144) (n := 1) (by decide +kernel) ⟨by decide, by decide⟩ ?_
          exact z_zret (pc := 145) (by decide +kernel) rfl ⟨by decide, k⟩
theorem b_Plan_canBeWanted_0 {E : EN} {d : Nat}  {σ : Mem} {K : Int → Mem → Prop}  (k : Z E y_Plan_canBeWanted d 8 [some (vr 92), some (vi (σ 82 2)), none] [] σ (qi K)) :
    Z E y_Plan_canBeWanted d 0 [some (vr 92), none, none] [] σ (qi K) := by
  refine z_aload_n (pc := 0) (q := 0) (by decide +kernel) rfl ?_
  refine z_getR (pc := 1) 82 fl_Plan_71 rfl rfl rfl (by decide +kernel) ?_
  refine z_getI (pc := 4) 2 fl_Plan_181 rfl (by decide) rfl (by decide +kernel) ?_
  refine z_istore_n (pc := 7) (q := 1) [some (vr 92), some (vi (σ 82 2)), none] (by decide +kernel) (Nat.le_of_ble_eq_true rfl) rfl ?_
  exact k
theorem b_Plan_canBeWanted_8 {E : EN} {d : Nat} {a1 : Int} {o2 : Option AV} {σ : Mem} {K : Int → Mem → Prop}  (hd : 1 ≤ d) (k : (64 ≤ a1 → K 0 σ) ∧ (a1 < 64 → (ian (σ 82 2) (ixo a1 (-1)) ≠ 0 → Z E y_Plan_canBeWanted d 44 [some (vr 92), some (vi a1), o2] [vi 0] σ (qi K)) ∧ (ian (σ 82 2) (ixo a1 (-1)) = 0 → CI E y_Int_bitCount (d - 1) [vi a1] σ (fun x1 τ1 => (x1 ≠ τ1 92 9 → Z E y_Plan_canBeWanted d 44 [some (vr 92), some (vi a1), o2] [vi 0] τ1 (qi K)) ∧ (x1 = τ1 92 9 → Z E y_Plan_canBeWanted d 44 [some (vr 92), some (vi a1), o2] [vi 1] τ1 (qi K)))))) :
    Z E y_Plan_canBeWanted d 8 [some (vr 92), some (vi a1), o2] [] σ (qi K) := by
  refine z_iload_n (pc := 8) (q := 1) (by decide +kernel) rfl ?_
  refine z_bipush (pc := 9) (n := 64) (by decide +kernel) (by decide) ⟨by decide, by decide⟩ ?_
  refine z_icmp_ge (pc := 11) (off := 79) 90 (by decide +kernel) (by decide) ⟨fun hc => ?_, fun hc => ?_⟩
  · have k := k.1 hc
    refine z_iconst (pc := 90) (n := 0) (by decide +kernel) ⟨by decide, by decide⟩ ?_
    exact z_zret (pc := 91) (by decide +kernel) rfl ⟨by decide, k⟩
  · have k := k.2 hc
    refine z_aload_n (pc := 14) (q := 0) (by decide +kernel) rfl ?_
    refine z_getR (pc := 15) 82 fl_Plan_71 rfl rfl rfl (by decide +kernel) ?_
    refine z_getI (pc := 18) 2 fl_Plan_181 rfl (by decide) rfl (by decide +kernel) ?_
    refine z_iload_n (pc := 21) (q := 1) (by decide +kernel) rfl ?_
    refine z_iconst (pc := 22) (n := -1) (by decide +kernel) ⟨by decide, by decide⟩ ?_
    refine z_ixor (pc := 23) (by decide +kernel) ?_
    refine z_iand (pc := 24) (by decide +kernel) ?_
    refine z_if_ne (pc := 25) (off := 18) 43 (by decide +kernel) (by decide) ⟨fun hc => ?_, fun hc => ?_⟩
    · have k := k.1 hc
      refine z_iconst (pc := 43) (n := 0) (by decide +kernel) ⟨by decide, by decide⟩ ?_
      exact k
    · have k := k.2 hc
      refine z_iload_n (pc := 28) (q := 1) (by decide +kernel) rfl ?_
      refine z_calls (pc := 29) (as := [vi a1]) ml_Plan_170 rfl rfl (Nat.le_of_ble_eq_true rfl) (dc := d - 1) (by omega) (by decide +kernel) (CI.z (CI.mono (fun x1 τ1 k => ?_) k))
      refine z_aload_n (pc := 32) (q := 0) (by decide +kernel) rfl ?_
      refine z_getI (pc := 33) 9 fl_Plan_34 rfl (by decide) rfl (by decide +kernel) ?_
      refine z_icmp_ne (pc := 36) (off := 7) 43 (by decide +kernel) (by decide) ⟨fun hc => ?_, fun hc => ?_⟩
      · have k := k.1 hc
        refine z_iconst (pc := 43) (n := 0) (by decide +kernel) ⟨by decide, by decide⟩ ?_
        exact k
      · have k := k.2 hc
        refine z_iconst (pc := 39) (n := 1) (by decide +kernel) ⟨by decide, by decide⟩ ?_
        refine z_goto (pc := 40) (off := 4) 44 (by decide +kernel) (by decide) ?_
        exact k
theorem b_Plan_canBeWanted_44 {E : EN} {d : Nat} {a1 : Int} {o2 : Option AV} {s0 : Int} {σ : Mem} {K : Int → Mem → Prop}  (hd : 1 ≤ d) (k : (s0 = 0 → Z E y_Plan_canBeWanted d 8 [some (vr 92), some (vi (w32 (a1 + 1))), some (vi s0)] [] σ (qi K)) ∧ (s0 ≠ 0 → CI E y_Plan_hasWantedWorth (d - 1) [vr 92, vi a1] σ (fun x1 τ1 => (x1 = 0 → Z E y_Plan_canBeWanted d 8 [some (vr 92), some (vi (w32 (a1 + 1))), some (vi s0)] [] τ1 (qi K)) ∧ (x1 ≠ 0 → CI E y_Plan_leastEnd (d - 1) [vr 92, vi (ian a1 (ixo (τ1 82 2) (-1)))] τ1 (fun x2 τ2 => (τ2 2 0 < x2 → Z E y_Plan_canBeWanted d 8 [some (vr 92), some (vi (w32 (a1 + 1))), some (vi s0)] [] τ2 (qi K)) ∧ (x2 ≤ τ2 2 0 → K 1 τ2)))))) :
    Z E y_Plan_canBeWanted d 44 [some (vr 92), some (vi a1), o2] [vi s0] σ (qi K) := by
  refine z_istore_n (pc := 44) (q := 2) [some (vr 92), some (vi a1), some (vi s0)] (by decide +kernel) (Nat.le_of_ble_eq_true rfl) rfl ?_
  refine z_iload_n (pc := 45) (q := 2) (by decide +kernel) rfl ?_
  refine z_if_eq (pc := 46) (off := 38) 84 (by decide +kernel) (by decide) ⟨fun hc => ?_, fun hc => ?_⟩
  · have k := k.1 hc
    refine z_iinc (pc := 84) (i := 1) (n := 1) [some (vr 92), some (vi (w32 (a1 + 1))), some (vi s0)] (by decide +kernel) rfl rfl ?_
    refine z_goto (pc := 87) (off := -79) 8 (by decide +kernel) (by decide) ?_
    exact k
  · have k := k.2 hc
    refine z_aload_n (pc := 49) (q := 0) (by decide +kernel) rfl ?_
    refine z_iload_n (pc := 50) (q := 1) (by decide +kernel) rfl ?_
    refine z_callv (pc := 51) (as := [vi a1]) ml_Plan_166 rfl ⟨rfl, by decide⟩ rfl rfl (Nat.le_of_ble_eq_true rfl) (dc := d - 1) (by omega) (by decide +kernel) (CI.z (CI.mono (fun x1 τ1 k => ?_) k))
    refine z_if_eq (pc := 54) (off := 30) 84 (by decide +kernel) (by decide) ⟨fun hc => ?_, fun hc => ?_⟩
    · have k := k.1 hc
      refine z_iinc (pc := 84) (i := 1) (n := 1) [some (vr 92), some (vi (w32 (a1 + 1))), some (vi s0)] (by decide +kernel) rfl rfl ?_
      refine z_goto (pc := 87) (off := -79) 8 (by decide +kernel) (by decide) ?_
      exact k
    · have k := k.2 hc
      refine z_aload_n (pc := 57) (q := 0) (by decide +kernel) rfl ?_
      refine z_iload_n (pc := 58) (q := 1) (by decide +kernel) rfl ?_
      refine z_aload_n (pc := 59) (q := 0) (by decide +kernel) rfl ?_
      refine z_getR (pc := 60) 82 fl_Plan_71 rfl rfl rfl (by decide +kernel) ?_
      refine z_getI (pc := 63) 2 fl_Plan_181 rfl (by decide) rfl (by decide +kernel) ?_
      refine z_iconst (pc := 66) (n := -1) (by decide +kernel) ⟨by decide, by decide⟩ ?_
      refine z_ixor (pc := 67) (by decide +kernel) ?_
      refine z_iand (pc := 68) (by decide +kernel) ?_
      refine z_callv (pc := 69) (as := [vi (ian a1 (ixo (τ1 82 2) (-1)))]) ml_Plan_137 rfl ⟨rfl, by decide⟩ rfl rfl (Nat.le_of_ble_eq_true rfl) (dc := d - 1) (by omega) (by decide +kernel) (CI.z (CI.mono (fun x2 τ2 k => ?_) k))
      refine z_aload_n (pc := 72) (q := 0) (by decide +kernel) rfl ?_
      refine z_getR (pc := 73) 2 fl_Plan_62 rfl rfl rfl (by decide +kernel) ?_
      refine z_getI (pc := 76) 0 fl_Plan_160 rfl (by decide) rfl (by decide +kernel) ?_
      refine z_icmp_gt (pc := 79) (off := 5) 84 (by decide +kernel) (by decide) ⟨fun hc => ?_, fun hc => ?_⟩
      · have k := k.1 hc
        refine z_iinc (pc := 84) (i := 1) (n := 1) [some (vr 92), some (vi (w32 (a1 + 1))), some (vi s0)] (by decide +kernel) rfl rfl ?_
        refine z_goto (pc := 87) (off := -79) 8 (by decide +kernel) (by decide) ?_
        exact k
      · have k := k.2 hc
        refine z_iconst (pc := 82) (n := 1) (by decide +kernel) ⟨by decide, by decide⟩ ?_
        exact z_zret (pc := 83) (by decide +kernel) rfl ⟨by decide, k⟩
theorem b_Rdr_read_0 {E : EN} {d : Nat} {a1 : Int} {σ : Mem} {K : Mem → Prop}  (hd : 1 ≤ d) (k : CV E y_Room_clear (d - 1) [vr 14] σ (fun τ1 => CV E y_Laws_clear (d - 1) [vr 68] τ1 (fun τ2 => CI E y_Math_min_II (d - 1) [vi a1, vi 900] (up (up τ2 64 7 0) 64 8 (-1)) (fun x3 τ3 => CV E y_Rdr_scan (d - 1) [vr 64, vi x3] τ3 (fun τ4 => CI E y_Rdr_readNoon (d - 1) [vr 64] (up τ4 64 6 0) (fun x5 τ5 => (x5 = 0 → Z E y_Rdr_read d 64 [some (vr 64), some (vi a1), some (vi 0), some (vi 0)] [] τ5 (qv K)) ∧ (x5 ≠ 0 → CI E y_Rdr_endLine (d - 1) [vr 64] τ5 (fun x6 τ6 => (x6 = 0 → Z E y_Rdr_read d 64 [some (vr 64), some (vi a1), some (vi 0), some (vi 0)] [] τ6 (qv K)) ∧ (x6 ≠ 0 → Z E y_Rdr_read d 64 [some (vr 64), some (vi a1), some (vi 1), some (vi 0)] [] τ6 (qv K)))))))))) :
    Z E y_Rdr_read d 0 [some (vr 64), some (vi a1), none, none] [] σ (qv K) := by
  refine z_aload_n (pc := 0) (q := 0) (by decide +kernel) rfl ?_
  refine z_getR (pc := 1) 14 fl_Rdr_42 rfl rfl rfl (by decide +kernel) ?_
  refine z_callv (pc := 4) (as := []) ml_Rdr_46 rfl ⟨rfl, by decide⟩ rfl rfl (Nat.le_of_ble_eq_true rfl) (dc := d - 1) (by omega) (by decide +kernel) (CV.z (CV.mono (fun τ1 k => ?_) k))
  refine z_aload_n (pc := 7) (q := 0) (by decide +kernel) rfl ?_
  refine z_getR (pc := 8) 68 fl_Rdr_12 rfl rfl rfl (by decide +kernel) ?_
  refine z_callv (pc := 11) (as := []) ml_Rdr_51 rfl ⟨rfl, by decide⟩ rfl rfl (Nat.le_of_ble_eq_true rfl) (dc := d - 1) (by omega) (by decide +kernel) (CV.z (CV.mono (fun τ2 k => ?_) k))
  refine z_aload_n (pc := 14) (q := 0) (by decide +kernel) rfl ?_
  refine z_iconst (pc := 15) (n := 0) (by decide +kernel) ⟨by decide, by decide⟩ ?_
  refine z_putI (pc := 16) 7 fp_Rdr_32 rfl rfl rfl (by decide +kernel) ?_
  refine z_aload_n (pc := 19) (q := 0) (by decide +kernel) rfl ?_
  refine z_iconst (pc := 20) (n := -1) (by decide +kernel) ⟨by decide, by decide⟩ ?_
  refine z_putI (pc := 21) 8 fp_Rdr_35 rfl rfl rfl (by decide +kernel) ?_
  refine z_aload_n (pc := 24) (q := 0) (by decide +kernel) rfl ?_
  refine z_iload_n (pc := 25) (q := 1) (by decide +kernel) rfl ?_
  refine z_aload_n (pc := 26) (q := 0) (by decide +kernel) rfl ?_
  refine z_getR (pc := 27) 1 fl_Rdr_38 rfl rfl rfl (by decide +kernel) ?_
  refine z_alen (pc := 30) 900 rfl (by decide) (by decide) rfl ⟨by decide, by decide⟩ (by decide +kernel) ?_
  refine z_calls (pc := 31) (as := [vi a1, vi 900]) ml_Rdr_52 rfl rfl (Nat.le_of_ble_eq_true rfl) (dc := d - 1) (by omega) (by decide +kernel) (CI.z (CI.mono (fun x3 τ3 k => ?_) k))
  refine z_callv (pc := 34) (as := [vi x3]) ml_Rdr_58 rfl ⟨rfl, by decide⟩ rfl rfl (Nat.le_of_ble_eq_true rfl) (dc := d - 1) (by omega) (by decide +kernel) (CV.z (CV.mono (fun τ4 k => ?_) k))
  refine z_aload_n (pc := 37) (q := 0) (by decide +kernel) rfl ?_
  refine z_iconst (pc := 38) (n := 0) (by decide +kernel) ⟨by decide, by decide⟩ ?_
  refine z_putI (pc := 39) 6 fp_Rdr_28 rfl rfl rfl (by decide +kernel) ?_
  refine z_aload_n (pc := 42) (q := 0) (by decide +kernel) rfl ?_
  refine z_callv (pc := 43) (as := []) ml_Rdr_62 rfl ⟨rfl, by decide⟩ rfl rfl (Nat.le_of_ble_eq_true rfl) (dc := d - 1) (by omega) (by decide +kernel) (CI.z (CI.mono (fun x5 τ5 k => ?_) k))
  refine z_if_eq (pc := 46) (off := 14) 60 (by decide +kernel) (by decide) ⟨fun hc => ?_, fun hc => ?_⟩
  · have k := k.1 hc
    refine z_iconst (pc := 60) (n := 0) (by decide +kernel) ⟨by decide, by decide⟩ ?_
    refine z_istore_n (pc := 61) (q := 2) [some (vr 64), some (vi a1), some (vi 0), none] (by decide +kernel) (Nat.le_of_ble_eq_true rfl) rfl ?_
    refine z_iconst (pc := 62) (n := 0) (by decide +kernel) ⟨by decide, by decide⟩ ?_
    refine z_istore_n (pc := 63) (q := 3) [some (vr 64), some (vi a1), some (vi 0), some (vi 0)] (by decide +kernel) (Nat.le_of_ble_eq_true rfl) rfl ?_
    exact k
  · have k := k.2 hc
    refine z_aload_n (pc := 49) (q := 0) (by decide +kernel) rfl ?_
    refine z_callv (pc := 50) (as := []) ml_Rdr_66 rfl ⟨rfl, by decide⟩ rfl rfl (Nat.le_of_ble_eq_true rfl) (dc := d - 1) (by omega) (by decide +kernel) (CI.z (CI.mono (fun x6 τ6 k => ?_) k))
    refine z_if_eq (pc := 53) (off := 7) 60 (by decide +kernel) (by decide) ⟨fun hc => ?_, fun hc => ?_⟩
    · have k := k.1 hc
      refine z_iconst (pc := 60) (n := 0) (by decide +kernel) ⟨by decide, by decide⟩ ?_
      refine z_istore_n (pc := 61) (q := 2) [some (vr 64), some (vi a1), some (vi 0), none] (by decide +kernel) (Nat.le_of_ble_eq_true rfl) rfl ?_
      refine z_iconst (pc := 62) (n := 0) (by decide +kernel) ⟨by decide, by decide⟩ ?_
      refine z_istore_n (pc := 63) (q := 3) [some (vr 64), some (vi a1), some (vi 0), some (vi 0)] (by decide +kernel) (Nat.le_of_ble_eq_true rfl) rfl ?_
      exact k
    · have k := k.2 hc
      refine z_iconst (pc := 56) (n := 1) (by decide +kernel) ⟨by decide, by decide⟩ ?_
      refine z_goto (pc := 57) (off := 4) 61 (by decide +kernel) (by decide) ?_
      refine z_istore_n (pc := 61) (q := 2) [some (vr 64), some (vi a1), some (vi 1), none] (by decide +kernel) (Nat.le_of_ble_eq_true rfl) rfl ?_
      refine z_iconst (pc := 62) (n := 0) (by decide +kernel) ⟨by decide, by decide⟩ ?_
      refine z_istore_n (pc := 63) (q := 3) [some (vr 64), some (vi a1), some (vi 1), some (vi 0)] (by decide +kernel) (Nat.le_of_ble_eq_true rfl) rfl ?_
      exact k
theorem b_Rdr_read_64 {E : EN} {d : Nat} {a1 : Int} {o1 : Option AV} {a2 : Int} {a3 : Int} {σ : Mem} {K : Mem → Prop}  (hd : 1 ≤ d) (k : (900 ≤ a3 → (a2 = 0 → K σ) ∧ (a2 ≠ 0 → CV E y_Laws_workOut (d - 1) [vr 68, vr 14] σ (fun τ1 => K τ1))) ∧ (a3 < 900 → (a2 = 0 → (a2 = 0 → K σ) ∧ (a2 ≠ 0 → CV E y_Laws_workOut (d - 1) [vr 68, vr 14] σ (fun τ2 => K τ2))) ∧ (a2 ≠ 0 → (0 ≤ σ 64 6 ∧ σ 64 6 < 901) ∧ (σ 65 (σ 64 6) = 0 → (a2 = 0 → K σ) ∧ (a2 ≠ 0 → CV E y_Laws_workOut (d - 1) [vr 68, vr 14] σ (fun τ3 => K τ3))) ∧ (σ 65 (σ 64 6) ≠ 0 → CI E y_Rdr_readLine (d - 1) [vr 64] σ (fun x4 τ4 => (x4 = 0 → Z E y_Rdr_read d 64 [some (vr 64), none, some (vi 0), some (vi (w32 (a3 + 1)))] [] τ4 (qv K)) ∧ (x4 ≠ 0 → CI E y_Rdr_endLine (d - 1) [vr 64] τ4 (fun x5 τ5 => (x5 = 0 → Z E y_Rdr_read d 64 [some (vr 64), none, some (vi 0), some (vi (w32 (a3 + 1)))] [] τ5 (qv K)) ∧ (x5 ≠ 0 → Z E y_Rdr_read d 64 [some (vr 64), none, some (vi 1), some (vi (w32 (a3 + 1)))] [] τ5 (qv K))))))))) :
    Z E y_Rdr_read d 64 [some (vr 64), o1, some (vi a2), some (vi a3)] [] σ (qv K) := by
  refine z_iload_n (pc := 64) (q := 3) (by decide +kernel) rfl ?_
  refine z_sipush (pc := 65) (n := 900) (by decide +kernel) (by decide) ⟨by decide, by decide⟩ ?_
  refine z_icmp_ge (pc := 68) (off := 45) 113 (by decide +kernel) (by decide) ⟨fun hc => ?_, fun hc => ?_⟩
  · have k := k.1 hc
    refine z_iload_n (pc := 113) (q := 2) (by decide +kernel) rfl ?_
    refine z_if_eq (pc := 114) (off := 14) 128 (by decide +kernel) (by decide) ⟨fun hc => ?_, fun hc => ?_⟩
    · have k := k.1 hc
      exact z_vret (pc := 128) (by decide +kernel) rfl k
    · have k := k.2 hc
      refine z_aload_n (pc := 117) (q := 0) (by decide +kernel) rfl ?_
      refine z_getR (pc := 118) 68 fl_Rdr_12 rfl rfl rfl (by decide +kernel) ?_
      refine z_aload_n (pc := 121) (q := 0) (by decide +kernel) rfl ?_
      refine z_getR (pc := 122) 14 fl_Rdr_42 rfl rfl rfl (by decide +kernel) ?_
      refine z_callv (pc := 125) (as := [vr 14]) ml_Rdr_72 rfl ⟨rfl, by decide⟩ rfl rfl (Nat.le_of_ble_eq_true rfl) (dc := d - 1) (by omega) (by decide +kernel) (CV.z (CV.mono (fun τ1 k => ?_) k))
      exact z_vret (pc := 128) (by decide +kernel) rfl k
  · have k := k.2 hc
    refine z_iload_n (pc := 71) (q := 2) (by decide +kernel) rfl ?_
    refine z_if_eq (pc := 72) (off := 41) 113 (by decide +kernel) (by decide) ⟨fun hc => ?_, fun hc => ?_⟩
    · have k := k.1 hc
      refine z_iload_n (pc := 113) (q := 2) (by decide +kernel) rfl ?_
      refine z_if_eq (pc := 114) (off := 14) 128 (by decide +kernel) (by decide) ⟨fun hc => ?_, fun hc => ?_⟩
      · have k := k.1 hc
        exact z_vret (pc := 128) (by decide +kernel) rfl k
      · have k := k.2 hc
        refine z_aload_n (pc := 117) (q := 0) (by decide +kernel) rfl ?_
        refine z_getR (pc := 118) 68 fl_Rdr_12 rfl rfl rfl (by decide +kernel) ?_
        refine z_aload_n (pc := 121) (q := 0) (by decide +kernel) rfl ?_
        refine z_getR (pc := 122) 14 fl_Rdr_42 rfl rfl rfl (by decide +kernel) ?_
        refine z_callv (pc := 125) (as := [vr 14]) ml_Rdr_72 rfl ⟨rfl, by decide⟩ rfl rfl (Nat.le_of_ble_eq_true rfl) (dc := d - 1) (by omega) (by decide +kernel) (CV.z (CV.mono (fun τ2 k => ?_) k))
        exact z_vret (pc := 128) (by decide +kernel) rfl k
    · have k := k.2 hc
      refine z_aload_n (pc := 75) (q := 0) (by decide +kernel) rfl ?_
      refine z_getR (pc := 76) 65 fl_Rdr_18 rfl rfl rfl (by decide +kernel) ?_
      refine z_aload_n (pc := 79) (q := 0) (by decide +kernel) rfl ?_
      refine z_getI (pc := 80) 6 fl_Rdr_28 rfl (by decide) rfl (by decide +kernel) ?_
      have hb1 := k.1
      have k := k.2
      refine z_iald (pc := 83) rfl hb1 (by decide +kernel) ?_
      refine z_if_eq (pc := 84) (off := 29) 113 (by decide +kernel) (by decide) ⟨fun hc => ?_, fun hc => ?_⟩
      · have k := k.1 hc
        refine z_iload_n (pc := 113) (q := 2) (by decide +kernel) rfl ?_
        refine z_if_eq (pc := 114) (off := 14) 128 (by decide +kernel) (by decide) ⟨fun hc => ?_, fun hc => ?_⟩
        · have k := k.1 hc
          exact z_vret (pc := 128) (by decide +kernel) rfl k
        · have k := k.2 hc
          refine z_aload_n (pc := 117) (q := 0) (by decide +kernel) rfl ?_
          refine z_getR (pc := 118) 68 fl_Rdr_12 rfl rfl rfl (by decide +kernel) ?_
          refine z_aload_n (pc := 121) (q := 0) (by decide +kernel) rfl ?_
          refine z_getR (pc := 122) 14 fl_Rdr_42 rfl rfl rfl (by decide +kernel) ?_
          refine z_callv (pc := 125) (as := [vr 14]) ml_Rdr_72 rfl ⟨rfl, by decide⟩ rfl rfl (Nat.le_of_ble_eq_true rfl) (dc := d - 1) (by omega) (by decide +kernel) (CV.z (CV.mono (fun τ3 k => ?_) k))
          exact z_vret (pc := 128) (by decide +kernel) rfl k
      · have k := k.2 hc
        refine z_aload_n (pc := 87) (q := 0) (by decide +kernel) rfl ?_
        refine z_callv (pc := 88) (as := []) ml_Rdr_69 rfl ⟨rfl, by decide⟩ rfl rfl (Nat.le_of_ble_eq_true rfl) (dc := d - 1) (by omega) (by decide +kernel) (CI.z (CI.mono (fun x4 τ4 k => ?_) k))
        refine z_if_eq (pc := 91) (off := 14) 105 (by decide +kernel) (by decide) ⟨fun hc => ?_, fun hc => ?_⟩
        · have k := k.1 hc
          refine z_iconst (pc := 105) (n := 0) (by decide +kernel) ⟨by decide, by decide⟩ ?_
          refine z_forget (pc := 106) 1 [some (vr 64), none, some (vi a2), some (vi a3)] rfl ?_
          refine z_istore_n (pc := 106) (q := 2) [some (vr 64), none, some (vi 0), some (vi a3)] (by decide +kernel) (Nat.le_of_ble_eq_true rfl) rfl ?_
          refine z_iinc (pc := 107) (i := 3) (n := 1) [some (vr 64), none, some (vi 0), some (vi (w32 (a3 + 1)))] (by decide +kernel) rfl rfl ?_
          refine z_goto (pc := 110) (off := -46) 64 (by decide +kernel) (by decide) ?_
          exact k
        · have k := k.2 hc
          refine z_aload_n (pc := 94) (q := 0) (by decide +kernel) rfl ?_
          refine z_callv (pc := 95) (as := []) ml_Rdr_66 rfl ⟨rfl, by decide⟩ rfl rfl (Nat.le_of_ble_eq_true rfl) (dc := d - 1) (by omega) (by decide +kernel) (CI.z (CI.mono (fun x5 τ5 k => ?_) k))
          refine z_if_eq (pc := 98) (off := 7) 105 (by decide +kernel) (by decide) ⟨fun hc => ?_, fun hc => ?_⟩
          · have k := k.1 hc
            refine z_iconst (pc := 105) (n := 0) (by decide +kernel) ⟨by decide, by decide⟩ ?_
            refine z_forget (pc := 106) 1 [some (vr 64), none, some (vi a2), some (vi a3)] rfl ?_
            refine z_istore_n (pc := 106) (q := 2) [some (vr 64), none, some (vi 0), some (vi a3)] (by decide +kernel) (Nat.le_of_ble_eq_true rfl) rfl ?_
            refine z_iinc (pc := 107) (i := 3) (n := 1) [some (vr 64), none, some (vi 0), some (vi (w32 (a3 + 1)))] (by decide +kernel) rfl rfl ?_
            refine z_goto (pc := 110) (off := -46) 64 (by decide +kernel) (by decide) ?_
            exact k
          · have k := k.2 hc
            refine z_iconst (pc := 101) (n := 1) (by decide +kernel) ⟨by decide, by decide⟩ ?_
            refine z_goto (pc := 102) (off := 4) 106 (by decide +kernel) (by decide) ?_
            refine z_forget (pc := 106) 1 [some (vr 64), none, some (vi a2), some (vi a3)] rfl ?_
            refine z_istore_n (pc := 106) (q := 2) [some (vr 64), none, some (vi 1), some (vi a3)] (by decide +kernel) (Nat.le_of_ble_eq_true rfl) rfl ?_
            refine z_iinc (pc := 107) (i := 3) (n := 1) [some (vr 64), none, some (vi 1), some (vi (w32 (a3 + 1)))] (by decide +kernel) rfl rfl ?_
            refine z_goto (pc := 110) (off := -46) 64 (by decide +kernel) (by decide) ?_
            exact k
theorem b_Rdr_scan_0 {E : EN} {d : Nat} {a1 : Int} {σ : Mem} {K : Mem → Prop}  (k : Z E y_Rdr_scan d 7 [some (vr 64), some (vi a1), some (vi 0), some (vi 0), some (vi 0), none] [] σ (qv K)) :
    Z E y_Rdr_scan d 0 [some (vr 64), some (vi a1), none, none, none, none] [] σ (qv K) := by
  refine z_iconst (pc := 0) (n := 0) (by decide +kernel) ⟨by decide, by decide⟩ ?_
  refine z_istore_n (pc := 1) (q := 2) [some (vr 64), some (vi a1), some (vi 0), none, none, none] (by decide +kernel) (Nat.le_of_ble_eq_true rfl) rfl ?_
  refine z_iconst (pc := 2) (n := 0) (by decide +kernel) ⟨by decide, by decide⟩ ?_
  refine z_istore_n (pc := 3) (q := 3) [some (vr 64), some (vi a1), some (vi 0), some (vi 0), none, none] (by decide +kernel) (Nat.le_of_ble_eq_true rfl) rfl ?_
  refine z_iconst (pc := 4) (n := 0) (by decide +kernel) ⟨by decide, by decide⟩ ?_
  refine z_istore (pc := 5) (i := 4) [some (vr 64), some (vi a1), some (vi 0), some (vi 0), some (vi 0), none] (by decide +kernel) (Nat.le_of_ble_eq_true rfl) rfl ?_
  exact k
theorem b_Rdr_scan_7 {E : EN} {d : Nat} {a1 : Int} {a2 : Int} {a3 : Int} {a4 : Int} {o5 : Option AV} {σ : Mem} {K : Mem → Prop}  (hd : 1 ≤ d) (k : (900 ≤ a4 → (0 ≤ a2 ∧ a2 < 901) ∧ K (up (up σ 65 a2 0) 66 a2 a1)) ∧ (a4 < 900 → (a1 ≤ a3 → (0 ≤ a2 ∧ a2 < 901) ∧ K (up (up σ 65 a2 0) 66 a2 a1)) ∧ (a3 < a1 → (0 ≤ a3 ∧ a3 < 900) ∧ (σ 1 a3 = 10 → Z E y_Rdr_scan d 7 [some (vr 64), some (vi a1), some (vi a2), some (vi (w32 (a3 + 1))), some (vi (w32 (a4 + 1))), some (vi (w32 (a3 + 1)))] [] σ (qv K)) ∧ (σ 1 a3 ≠ 10 → (σ 1 a3 = 32 → Z E y_Rdr_scan d 7 [some (vr 64), some (vi a1), some (vi a2), some (vi (w32 (a3 + 1))), some (vi (w32 (a4 + 1))), some (vi (w32 (a3 + 1)))] [] σ (qv K)) ∧ (σ 1 a3 ≠ 32 → CI E y_Rdr_tokenEnd (d - 1) [vr 64, vi a3, vi a1] σ (fun x1 τ1 => (0 ≤ a2 ∧ a2 < 901) ∧ CV E y_Rdr_setToken (d - 1) [vr 64, vi a2, vi a3, vi x1] (up τ1 66 a2 a3) (fun τ2 => Z E y_Rdr_scan d 7 [some (vr 64), some (vi a1), some (vi (w32 (a2 + 1))), some (vi x1), some (vi (w32 (a4 + 1))), some (vi x1)] [] τ2 (qv K)))))))) :
    Z E y_Rdr_scan d 7 [some (vr 64), some (vi a1), some (vi a2), some (vi a3), some (vi a4), o5] [] σ (qv K) := by
  refine z_iload (pc := 7) (i := 4) (by decide +kernel) rfl ?_
  refine z_sipush (pc := 9) (n := 900) (by decide +kernel) (by decide) ⟨by decide, by decide⟩ ?_
  refine z_icmp_ge (pc := 12) (off := 70) 82 (by decide +kernel) (by decide) ⟨fun hc => ?_, fun hc => ?_⟩
  · have k := k.1 hc
    refine z_aload_n (pc := 82) (q := 0) (by decide +kernel) rfl ?_
    refine z_getR (pc := 83) 65 fl_Rdr_18 rfl rfl rfl (by decide +kernel) ?_
    refine z_iload_n (pc := 86) (q := 2) (by decide +kernel) rfl ?_
    refine z_iconst (pc := 87) (n := 0) (by decide +kernel) ⟨by decide, by decide⟩ ?_
    have hb1 := k.1
    have k := k.2
    refine z_iast (pc := 88) rfl hb1 (by decide +kernel) ?_
    refine z_aload_n (pc := 89) (q := 0) (by decide +kernel) rfl ?_
    refine z_getR (pc := 90) 66 fl_Rdr_22 rfl rfl rfl (by decide +kernel) ?_
    refine z_iload_n (pc := 93) (q := 2) (by decide +kernel) rfl ?_
    refine z_iload_n (pc := 94) (q := 1) (by decide +kernel) rfl ?_
    refine z_iast (pc := 95) rfl hb1 (by decide +kernel) ?_
    exact z_vret (pc := 96) (by decide +kernel) rfl k
  · have k := k.2 hc
    refine z_iload_n (pc := 15) (q := 3) (by decide +kernel) rfl ?_
    refine z_iload_n (pc := 16) (q := 1) (by decide +kernel) rfl ?_
    refine z_icmp_ge (pc := 17) (off := 65) 82 (by decide +kernel) (by decide) ⟨fun hc => ?_, fun hc => ?_⟩
    · have k := k.1 hc
      refine z_aload_n (pc := 82) (q := 0) (by decide +kernel) rfl ?_
      refine z_getR (pc := 83) 65 fl_Rdr_18 rfl rfl rfl (by decide +kernel) ?_
      refine z_iload_n (pc := 86) (q := 2) (by decide +kernel) rfl ?_
      refine z_iconst (pc := 87) (n := 0) (by decide +kernel) ⟨by decide, by decide⟩ ?_
      have hb2 := k.1
      have k := k.2
      refine z_iast (pc := 88) rfl hb2 (by decide +kernel) ?_
      refine z_aload_n (pc := 89) (q := 0) (by decide +kernel) rfl ?_
      refine z_getR (pc := 90) 66 fl_Rdr_22 rfl rfl rfl (by decide +kernel) ?_
      refine z_iload_n (pc := 93) (q := 2) (by decide +kernel) rfl ?_
      refine z_iload_n (pc := 94) (q := 1) (by decide +kernel) rfl ?_
      refine z_iast (pc := 95) rfl hb2 (by decide +kernel) ?_
      exact z_vret (pc := 96) (by decide +kernel) rfl k
    · have k := k.2 hc
      refine z_iload_n (pc := 20) (q := 3) (by decide +kernel) rfl ?_
      refine z_iconst (pc := 21) (n := 1) (by decide +kernel) ⟨by decide, by decide⟩ ?_
      refine z_iadd (pc := 22) (by decide +kernel) ?_
      refine z_istore (pc := 23) (i := 5) [some (vr 64), some (vi a1), some (vi a2), some (vi a3), some (vi a4), some (vi (w32 (a3 + 1)))] (by decide +kernel) (Nat.le_of_ble_eq_true rfl) rfl ?_
      refine z_aload_n (pc := 25) (q := 0) (by decide +kernel) rfl ?_
      refine z_getR (pc := 26) 1 fl_Rdr_38 rfl rfl rfl (by decide +kernel) ?_
      refine z_iload_n (pc := 29) (q := 3) (by decide +kernel) rfl ?_
      have hb3 := k.1
      have k := k.2
      refine z_bald (pc := 30) rfl hb3 (by decide +kernel) ?_
      refine z_bipush (pc := 31) (n := 10) (by decide +kernel) (by decide) ⟨by decide, by decide⟩ ?_
      refine z_icmp_eq (pc := 33) (off := 40) 73 (by decide +kernel) (by decide) ⟨fun hc => ?_, fun hc => ?_⟩
      · have k := k.1 hc
        refine z_iload (pc := 73) (i := 5) (by decide +kernel) rfl ?_
        refine z_istore_n (pc := 75) (q := 3) [some (vr 64), some (vi a1), some (vi a2), some (vi (w32 (a3 + 1))), some (vi a4), some (vi (w32 (a3 + 1)))] (by decide +kernel) (Nat.le_of_ble_eq_true rfl) rfl ?_
        refine z_iinc (pc := 76) (i := 4) (n := 1) [some (vr 64), some (vi a1), some (vi a2), some (vi (w32 (a3 + 1))), some (vi (w32 (a4 + 1))), some (vi (w32 (a3 + 1)))] (by decide +kernel) rfl rfl ?_
        refine z_goto (pc := 79) (off := -72) 7 (by decide +kernel) (by decide) ?_
        exact k
      · have k := k.2 hc
        refine z_aload_n (pc := 36) (q := 0) (by decide +kernel) rfl ?_
        refine z_getR (pc := 37) 1 fl_Rdr_38 rfl rfl rfl (by decide +kernel) ?_
        refine z_iload_n (pc := 40) (q := 3) (by decide +kernel) rfl ?_
        refine z_bald (pc := 41) rfl hb3 (by decide +kernel) ?_
        refine z_bipush (pc := 42) (n := 32) (by decide +kernel) (by decide) ⟨by decide, by decide⟩ ?_
        refine z_icmp_eq (pc := 44) (off := 29) 73 (by decide +kernel) (by decide) ⟨fun hc => ?_, fun hc => ?_⟩
        · have k := k.1 hc
          refine z_iload (pc := 73) (i := 5) (by decide +kernel) rfl ?_
          refine z_istore_n (pc := 75) (q := 3) [some (vr 64), some (vi a1), some (vi a2), some (vi (w32 (a3 + 1))), some (vi a4), some (vi (w32 (a3 + 1)))] (by decide +kernel) (Nat.le_of_ble_eq_true rfl) rfl ?_
          refine z_iinc (pc := 76) (i := 4) (n := 1) [some (vr 64), some (vi a1), some (vi a2), some (vi (w32 (a3 + 1))), some (vi (w32 (a4 + 1))), some (vi (w32 (a3 + 1)))] (by decide +kernel) rfl rfl ?_
          refine z_goto (pc := 79) (off := -72) 7 (by decide +kernel) (by decide) ?_
          exact k
        · have k := k.2 hc
          refine z_aload_n (pc := 47) (q := 0) (by decide +kernel) rfl ?_
          refine z_iload_n (pc := 48) (q := 3) (by decide +kernel) rfl ?_
          refine z_iload_n (pc := 49) (q := 1) (by decide +kernel) rfl ?_
          refine z_callv (pc := 50) (as := [vi a3, vi a1]) ml_Rdr_76 rfl ⟨rfl, by decide⟩ rfl rfl (Nat.le_of_ble_eq_true rfl) (dc := d - 1) (by omega) (by decide +kernel) (CI.z (CI.mono (fun x1 τ1 k => ?_) k))
          refine z_istore (pc := 53) (i := 5) [some (vr 64), some (vi a1), some (vi a2), some (vi a3), some (vi a4), some (vi x1)] (by decide +kernel) (Nat.le_of_ble_eq_true rfl) rfl ?_
          refine z_aload_n (pc := 55) (q := 0) (by decide +kernel) rfl ?_
          refine z_getR (pc := 56) 66 fl_Rdr_22 rfl rfl rfl (by decide +kernel) ?_
          refine z_iload_n (pc := 59) (q := 2) (by decide +kernel) rfl ?_
          refine z_iload_n (pc := 60) (q := 3) (by decide +kernel) rfl ?_
          have hb4 := k.1
          have k := k.2
          refine z_iast (pc := 61) rfl hb4 (by decide +kernel) ?_
          refine z_aload_n (pc := 62) (q := 0) (by decide +kernel) rfl ?_
          refine z_iload_n (pc := 63) (q := 2) (by decide +kernel) rfl ?_
          refine z_iload_n (pc := 64) (q := 3) (by decide +kernel) rfl ?_
          refine z_iload (pc := 65) (i := 5) (by decide +kernel) rfl ?_
          refine z_callv (pc := 67) (as := [vi a2, vi a3, vi x1]) ml_Rdr_79 rfl ⟨rfl, by decide⟩ rfl rfl (Nat.le_of_ble_eq_true rfl) (dc := d - 1) (by omega) (by decide +kernel) (CV.z (CV.mono (fun τ2 k => ?_) k))
          refine z_iinc (pc := 70) (i := 2) (n := 1) [some (vr 64), some (vi a1), some (vi (w32 (a2 + 1))), some (vi a3), some (vi a4), some (vi x1)] (by decide +kernel) rfl rfl ?_
          refine z_iload (pc := 73) (i := 5) (by decide +kernel) rfl ?_
          refine z_istore_n (pc := 75) (q := 3) [some (vr 64), some (vi a1), some (vi (w32 (a2 + 1))), some (vi x1), some (vi a4), some (vi x1)] (by decide +kernel) (Nat.le_of_ble_eq_true rfl) rfl ?_
          refine z_iinc (pc := 76) (i := 4) (n := 1) [some (vr 64), some (vi a1), some (vi (w32 (a2 + 1))), some (vi x1), some (vi (w32 (a4 + 1))), some (vi x1)] (by decide +kernel) rfl rfl ?_
          refine z_goto (pc := 79) (off := -72) 7 (by decide +kernel) (by decide) ?_
          exact k
theorem b_Rdr_tokenEnd_0 {E : EN} {d : Nat} {a1 : Int} {a2 : Int} {σ : Mem} {K : Int → Mem → Prop}  (hd : 1 ≤ d) (k : (0 ≤ a1 ∧ a1 < 900) ∧ CI E y_Rdr_isSmall (d - 1) [vi (σ 1 a1)] σ (fun x1 τ1 => (x1 = 0 → CI E y_Rdr_isDigit (d - 1) [vi (τ1 1 a1)] τ1 (fun x2 τ2 => (x2 = 0 → K (w32 (a1 + 1)) τ2) ∧ (x2 ≠ 0 → Z E y_Rdr_tokenEnd d 51 [some (vr 64), some (vi a1), some (vi a2), some (vi (w32 (a1 + 1)))] [] τ2 (qi K)))) ∧ (x1 ≠ 0 → Z E y_Rdr_tokenEnd d 16 [some (vr 64), some (vi a1), some (vi a2), some (vi (w32 (a1 + 1)))] [] τ1 (qi K)))) :
    Z E y_Rdr_tokenEnd d 0 [some (vr 64), some (vi a1), some (vi a2), none] [] σ (qi K) := by
  refine z_iload_n (pc := 0) (q := 1) (by decide +kernel) rfl ?_
  refine z_iconst (pc := 1) (n := 1) (by decide +kernel) ⟨by decide, by decide⟩ ?_
  refine z_iadd (pc := 2) (by decide +kernel) ?_
  refine z_istore_n (pc := 3) (q := 3) [some (vr 64), some (vi a1), some (vi a2), some (vi (w32 (a1 + 1)))] (by decide +kernel) (Nat.le_of_ble_eq_true rfl) rfl ?_
  refine z_aload_n (pc := 4) (q := 0) (by decide +kernel) rfl ?_
  refine z_getR (pc := 5) 1 fl_Rdr_38 rfl rfl rfl (by decide +kernel) ?_
  refine z_iload_n (pc := 8) (q := 1) (by decide +kernel) rfl ?_
  have hb1 := k.1
  have k := k.2
  refine z_bald (pc := 9) rfl hb1 (by decide +kernel) ?_
  refine z_calls (pc := 10) (as := [vi (σ 1 a1)]) ml_Rdr_83 rfl rfl (Nat.le_of_ble_eq_true rfl) (dc := d - 1) (by omega) (by decide +kernel) (CI.z (CI.mono (fun x1 τ1 k => ?_) k))
  refine z_if_eq (pc := 13) (off := 26) 39 (by decide +kernel) (by decide) ⟨fun hc => ?_, fun hc => ?_⟩
  · have k := k.1 hc
    refine z_aload_n (pc := 39) (q := 0) (by decide +kernel) rfl ?_
    refine z_getR (pc := 40) 1 fl_Rdr_38 rfl rfl rfl (by decide +kernel) ?_
    refine z_iload_n (pc := 43) (q := 1) (by decide +kernel) rfl ?_
    refine z_bald (pc := 44) rfl hb1 (by decide +kernel) ?_
    refine z_calls (pc := 45) (as := [vi (τ1 1 a1)]) ml_Rdr_87 rfl rfl (Nat.le_of_ble_eq_true rfl) (dc := d - 1) (by omega) (by decide +kernel) (CI.z (CI.mono (fun x2 τ2 k => ?_) k))
    refine z_if_eq (pc := 48) (off := 26) 74 (by decide +kernel) (by decide) ⟨fun hc => ?_, fun hc => ?_⟩
    · have k := k.1 hc
      refine z_iload_n (pc := 74) (q := 3) (by decide +kernel) rfl ?_
      exact z_iret (pc := 75) (by decide +kernel) rfl k
    · have k := k.2 hc
      exact k
  · have k := k.2 hc
    exact k
theorem b_Rdr_tokenEnd_51 {E : EN} {d : Nat} {a1 : Int} {a2 : Int} {o1 : Option AV} {a3 : Int} {σ : Mem} {K : Int → Mem → Prop}  (hd : 1 ≤ d) (k : (a2 ≤ a3 → K a3 σ) ∧ (a3 < a2 → (0 ≤ a3 ∧ a3 < 900) ∧ CI E y_Rdr_isDigit (d - 1) [vi (σ 1 a3)] σ (fun x1 τ1 => (x1 = 0 → K a3 τ1) ∧ (x1 ≠ 0 → Z E y_Rdr_tokenEnd d 51 [some (vr 64), o1, some (vi a2), some (vi (w32 (a3 + 1)))] [] τ1 (qi K))))) :
    Z E y_Rdr_tokenEnd d 51 [some (vr 64), o1, some (vi a2), some (vi a3)] [] σ (qi K) := by
  refine z_iload_n (pc := 51) (q := 3) (by decide +kernel) rfl ?_
  refine z_iload_n (pc := 52) (q := 2) (by decide +kernel) rfl ?_
  refine z_icmp_ge (pc := 53) (off := 21) 74 (by decide +kernel) (by decide) ⟨fun hc => ?_, fun hc => ?_⟩
  · have k := k.1 hc
    refine z_iload_n (pc := 74) (q := 3) (by decide +kernel) rfl ?_
    exact z_iret (pc := 75) (by decide +kernel) rfl k
  · have k := k.2 hc
    refine z_aload_n (pc := 56) (q := 0) (by decide +kernel) rfl ?_
    refine z_getR (pc := 57) 1 fl_Rdr_38 rfl rfl rfl (by decide +kernel) ?_
    refine z_iload_n (pc := 60) (q := 3) (by decide +kernel) rfl ?_
    have hb1 := k.1
    have k := k.2
    refine z_bald (pc := 61) rfl hb1 (by decide +kernel) ?_
    refine z_calls (pc := 62) (as := [vi (σ 1 a3)]) ml_Rdr_87 rfl rfl (Nat.le_of_ble_eq_true rfl) (dc := d - 1) (by omega) (by decide +kernel) (CI.z (CI.mono (fun x1 τ1 k => ?_) k))
    refine z_if_eq (pc := 65) (off := 9) 74 (by decide +kernel) (by decide) ⟨fun hc => ?_, fun hc => ?_⟩
    · have k := k.1 hc
      refine z_iload_n (pc := 74) (q := 3) (by decide +kernel) rfl ?_
      exact z_iret (pc := 75) (by decide +kernel) rfl k
    · have k := k.2 hc
      refine z_iinc (pc := 68) (i := 3) (n := 1) [some (vr 64), o1, some (vi a2), some (vi (w32 (a3 + 1)))] (by decide +kernel) rfl rfl ?_
      refine z_goto (pc := 71) (off := -20) 51 (by decide +kernel) (by decide) ?_
      exact k
theorem b_Rdr_tokenEnd_16 {E : EN} {d : Nat} {a1 : Int} {a2 : Int} {o1 : Option AV} {a3 : Int} {σ : Mem} {K : Int → Mem → Prop}  (hd : 1 ≤ d) (k : (a2 ≤ a3 → K a3 σ) ∧ (a3 < a2 → (0 ≤ a3 ∧ a3 < 900) ∧ CI E y_Rdr_isSmall (d - 1) [vi (σ 1 a3)] σ (fun x1 τ1 => (x1 = 0 → K a3 τ1) ∧ (x1 ≠ 0 → Z E y_Rdr_tokenEnd d 16 [some (vr 64), o1, some (vi a2), some (vi (w32 (a3 + 1)))] [] τ1 (qi K))))) :
    Z E y_Rdr_tokenEnd d 16 [some (vr 64), o1, some (vi a2), some (vi a3)] [] σ (qi K) := by
  refine z_iload_n (pc := 16) (q := 3) (by decide +kernel) rfl ?_
  refine z_iload_n (pc := 17) (q := 2) (by decide +kernel) rfl ?_
  refine z_icmp_ge (pc := 18) (off := 56) 74 (by decide +kernel) (by decide) ⟨fun hc => ?_, fun hc => ?_⟩
  · have k := k.1 hc
    refine z_iload_n (pc := 74) (q := 3) (by decide +kernel) rfl ?_
    exact z_iret (pc := 75) (by decide +kernel) rfl k
  · have k := k.2 hc
    refine z_aload_n (pc := 21) (q := 0) (by decide +kernel) rfl ?_
    refine z_getR (pc := 22) 1 fl_Rdr_38 rfl rfl rfl (by decide +kernel) ?_
    refine z_iload_n (pc := 25) (q := 3) (by decide +kernel) rfl ?_
    have hb1 := k.1
    have k := k.2
    refine z_bald (pc := 26) rfl hb1 (by decide +kernel) ?_
    refine z_calls (pc := 27) (as := [vi (σ 1 a3)]) ml_Rdr_83 rfl rfl (Nat.le_of_ble_eq_true rfl) (dc := d - 1) (by omega) (by decide +kernel) (CI.z (CI.mono (fun x1 τ1 k => ?_) k))
    refine z_if_eq (pc := 30) (off := 44) 74 (by decide +kernel) (by decide) ⟨fun hc => ?_, fun hc => ?_⟩
    · have k := k.1 hc
      refine z_iload_n (pc := 74) (q := 3) (by decide +kernel) rfl ?_
      exact z_iret (pc := 75) (by decide +kernel) rfl k
    · have k := k.2 hc
      refine z_iinc (pc := 33) (i := 3) (n := 1) [some (vr 64), o1, some (vi a2), some (vi (w32 (a3 + 1)))] (by decide +kernel) rfl rfl ?_
      refine z_goto (pc := 36) (off := -20) 16 (by decide +kernel) (by decide) ?_
      exact k
theorem b_Rdr_setToken_0 {E : EN} {d : Nat} {a1 : Int} {a2 : Int} {a3 : Int} {σ : Mem} {K : Mem → Prop}  (hd : 1 ≤ d) (k : (0 ≤ a2 ∧ a2 < 900) ∧ (0 ≤ a1 ∧ a1 < 901) ∧ CI E y_Rdr_isSmall (d - 1) [vi (σ 1 a2)] (up σ 67 a1 (w32 (a3 - a2))) (fun x1 τ1 => (x1 = 0 → CI E y_Rdr_isDigit (d - 1) [vi (σ 1 a2)] τ1 (fun x2 τ2 => (x2 = 0 → CI E y_Rdr_isSign (d - 1) [vi (σ 1 a2)] τ2 (fun x3 τ3 => (x3 = 0 → K (up τ3 65 a1 2)) ∧ (x3 ≠ 0 → K (up τ3 65 a1 (σ 1 a2))))) ∧ (x2 ≠ 0 → (w32 (a3 - a2) ≤ 3 → CI E y_Rdr_numberAt (d - 1) [vr 64, vi a2, vi a3] (up τ2 65 a1 1) (fun x4 τ4 => K (up τ4 67 a1 x4))) ∧ (3 < w32 (a3 - a2) → CI E y_Rdr_numberAt (d - 1) [vr 64, vi a2, vi a3] (up τ2 65 a1 2) (fun x5 τ5 => K (up τ5 67 a1 x5)))))) ∧ (x1 ≠ 0 → CI E y_Rdr_lineWord (d - 1) [vr 64, vi a2, vi a3] τ1 (fun x6 τ6 => (x6 = 200 → CI E y_Rdr_partWord (d - 1) [vr 64, vi a2, vi a3] τ6 (fun x7 τ7 => K (up τ7 65 a1 x7))) ∧ (x6 ≠ 200 → K (up τ6 65 a1 x6)))))) :
    Z E y_Rdr_setToken d 0 [some (vr 64), some (vi a1), some (vi a2), some (vi a3), none, none] [] σ (qv K) := by
  refine z_aload_n (pc := 0) (q := 0) (by decide +kernel) rfl ?_
  refine z_getR (pc := 1) 1 fl_Rdr_38 rfl rfl rfl (by decide +kernel) ?_
  refine z_iload_n (pc := 4) (q := 2) (by decide +kernel) rfl ?_
  have hb1 := k.1
  have k := k.2
  refine z_bald (pc := 5) rfl hb1 (by decide +kernel) ?_
  refine z_istore (pc := 6) (i := 4) [some (vr 64), some (vi a1), some (vi a2), some (vi a3), some (vi (σ 1 a2)), none] (by decide +kernel) (Nat.le_of_ble_eq_true rfl) rfl ?_
  refine z_aload_n (pc := 8) (q := 0) (by decide +kernel) rfl ?_
  refine z_getR (pc := 9) 67 fl_Rdr_25 rfl rfl rfl (by decide +kernel) ?_
  refine z_iload_n (pc := 12) (q := 1) (by decide +kernel) rfl ?_
  refine z_iload_n (pc := 13) (q := 3) (by decide +kernel) rfl ?_
  refine z_iload_n (pc := 14) (q := 2) (by decide +kernel) rfl ?_
  refine z_isub (pc := 15) (by decide +kernel) ?_
  have hb2 := k.1
  have k := k.2
  refine z_iast (pc := 16) rfl hb2 (by decide +kernel) ?_
  refine z_iload (pc := 17) (i := 4) (by decide +kernel) rfl ?_
  refine z_calls (pc := 19) (as := [vi (σ 1 a2)]) ml_Rdr_83 rfl rfl (Nat.le_of_ble_eq_true rfl) (dc := d - 1) (by omega) (by decide +kernel) (CI.z (CI.mono (fun x1 τ1 k => ?_) k))
  refine z_if_eq (pc := 22) (off := 39) 61 (by decide +kernel) (by decide) ⟨fun hc => ?_, fun hc => ?_⟩
  · have k := k.1 hc
    refine z_iload (pc := 61) (i := 4) (by decide +kernel) rfl ?_
    refine z_calls (pc := 63) (as := [vi (σ 1 a2)]) ml_Rdr_87 rfl rfl (Nat.le_of_ble_eq_true rfl) (dc := d - 1) (by omega) (by decide +kernel) (CI.z (CI.mono (fun x2 τ2 k => ?_) k))
    refine z_if_eq (pc := 66) (off := 36) 102 (by decide +kernel) (by decide) ⟨fun hc => ?_, fun hc => ?_⟩
    · have k := k.1 hc
      refine z_aload_n (pc := 102) (q := 0) (by decide +kernel) rfl ?_
      refine z_getR (pc := 103) 65 fl_Rdr_18 rfl rfl rfl (by decide +kernel) ?_
      refine z_iload_n (pc := 106) (q := 1) (by decide +kernel) rfl ?_
      refine z_iload (pc := 107) (i := 4) (by decide +kernel) rfl ?_
      refine z_calls (pc := 109) (as := [vi (σ 1 a2)]) ml_Rdr_99 rfl rfl (Nat.le_of_ble_eq_true rfl) (dc := d - 1) (by omega) (by decide +kernel) (CI.z (CI.mono (fun x3 τ3 k => ?_) k))
      refine z_if_eq (pc := 112) (off := 8) 120 (by decide +kernel) (by decide) ⟨fun hc => ?_, fun hc => ?_⟩
      · have k := k.1 hc
        refine z_iconst (pc := 120) (n := 2) (by decide +kernel) ⟨by decide, by decide⟩ ?_
        refine z_iast (pc := 121) rfl hb2 (by decide +kernel) ?_
        exact z_vret (pc := 122) (by decide +kernel) rfl k
      · have k := k.2 hc
        refine z_iload (pc := 115) (i := 4) (by decide +kernel) rfl ?_
        refine z_goto (pc := 117) (off := 4) 121 (by decide +kernel) (by decide) ?_
        refine z_iast (pc := 121) rfl hb2 (by decide +kernel) ?_
        exact z_vret (pc := 122) (by decide +kernel) rfl k
    · have k := k.2 hc
      refine z_aload_n (pc := 69) (q := 0) (by decide +kernel) rfl ?_
      refine z_getR (pc := 70) 65 fl_Rdr_18 rfl rfl rfl (by decide +kernel) ?_
      refine z_iload_n (pc := 73) (q := 1) (by decide +kernel) rfl ?_
      refine z_iload_n (pc := 74) (q := 3) (by decide +kernel) rfl ?_
      refine z_iload_n (pc := 75) (q := 2) (by decide +kernel) rfl ?_
      refine z_isub (pc := 76) (by decide +kernel) ?_
      refine z_iconst (pc := 77) (n := 3) (by decide +kernel) ⟨by decide, by decide⟩ ?_
      refine z_icmp_le (pc := 78) (off := 7) 85 (by decide +kernel) (by decide) ⟨fun hc => ?_, fun hc => ?_⟩
      · have k := k.1 hc
        refine z_iconst (pc := 85) (n := 1) (by decide +kernel) ⟨by decide, by decide⟩ ?_
        refine z_iast (pc := 86) rfl hb2 (by decide +kernel) ?_
        refine z_aload_n (pc := 87) (q := 0) (by decide +kernel) rfl ?_
        refine z_getR (pc := 88) 67 fl_Rdr_25 rfl rfl rfl (by decide +kernel) ?_
        refine z_iload_n (pc := 91) (q := 1) (by decide +kernel) rfl ?_
        refine z_aload_n (pc := 92) (q := 0) (by decide +kernel) rfl ?_
        refine z_iload_n (pc := 93) (q := 2) (by decide +kernel) rfl ?_
        refine z_iload_n (pc := 94) (q := 3) (by decide +kernel) rfl ?_
        refine z_callv (pc := 95) (as := [vi a2, vi a3]) ml_Rdr_96 rfl ⟨rfl, by decide⟩ rfl rfl (Nat.le_of_ble_eq_true rfl) (dc := d - 1) (by omega) (by decide +kernel) (CI.z (CI.mono (fun x4 τ4 k => ?_) k))
        refine z_iast (pc := 98) rfl hb2 (by decide +kernel) ?_
        refine z_goto (pc := 99) (off := 23) 122 (by decide +kernel) (by decide) ?_
        exact z_vret (pc := 122) (by decide +kernel) rfl k
      · have k := k.2 hc
        refine z_iconst (pc := 81) (n := 2) (by decide +kernel) ⟨by decide, by decide⟩ ?_
        refine z_goto (pc := 82) (off := 4) 86 (by decide +kernel) (by decide) ?_
        refine z_iast (pc := 86) rfl hb2 (by decide +kernel) ?_
        refine z_aload_n (pc := 87) (q := 0) (by decide +kernel) rfl ?_
        refine z_getR (pc := 88) 67 fl_Rdr_25 rfl rfl rfl (by decide +kernel) ?_
        refine z_iload_n (pc := 91) (q := 1) (by decide +kernel) rfl ?_
        refine z_aload_n (pc := 92) (q := 0) (by decide +kernel) rfl ?_
        refine z_iload_n (pc := 93) (q := 2) (by decide +kernel) rfl ?_
        refine z_iload_n (pc := 94) (q := 3) (by decide +kernel) rfl ?_
        refine z_callv (pc := 95) (as := [vi a2, vi a3]) ml_Rdr_96 rfl ⟨rfl, by decide⟩ rfl rfl (Nat.le_of_ble_eq_true rfl) (dc := d - 1) (by omega) (by decide +kernel) (CI.z (CI.mono (fun x5 τ5 k => ?_) k))
        refine z_iast (pc := 98) rfl hb2 (by decide +kernel) ?_
        refine z_goto (pc := 99) (off := 23) 122 (by decide +kernel) (by decide) ?_
        exact z_vret (pc := 122) (by decide +kernel) rfl k
  · have k := k.2 hc
    refine z_aload_n (pc := 25) (q := 0) (by decide +kernel) rfl ?_
    refine z_iload_n (pc := 26) (q := 2) (by decide +kernel) rfl ?_
    refine z_iload_n (pc := 27) (q := 3) (by decide +kernel) rfl ?_
    refine z_callv (pc := 28) (as := [vi a2, vi a3]) ml_Rdr_90 rfl ⟨rfl, by decide⟩ rfl rfl (Nat.le_of_ble_eq_true rfl) (dc := d - 1) (by omega) (by decide +kernel) (CI.z (CI.mono (fun x6 τ6 k => ?_) k))
    refine z_istore (pc := 31) (i := 5) [some (vr 64), some (vi a1), some (vi a2), some (vi a3), some (vi (σ 1 a2)), some (vi x6)] (by decide +kernel) (Nat.le_of_ble_eq_true rfl) rfl ?_
    refine z_aload_n (pc := 33) (q := 0) (by decide +kernel) rfl ?_
    refine z_getR (pc := 34) 65 fl_Rdr_18 rfl rfl rfl (by decide +kernel) ?_
    refine z_iload_n (pc := 37) (q := 1) (by decide +kernel) rfl ?_
    refine z_iload (pc := 38) (i := 5) (by decide +kernel) rfl ?_
    refine z_sipush (pc := 40) (n := 200) (by decide +kernel) (by decide) ⟨by decide, by decide⟩ ?_
    refine z_icmp_eq (pc := 43) (off := 8) 51 (by decide +kernel) (by decide) ⟨fun hc => ?_, fun hc => ?_⟩
    · have k := k.1 hc
      refine z_aload_n (pc := 51) (q := 0) (by decide +kernel) rfl ?_
      refine z_iload_n (pc := 52) (q := 2) (by decide +kernel) rfl ?_
      refine z_iload_n (pc := 53) (q := 3) (by decide +kernel) rfl ?_
      refine z_callv (pc := 54) (as := [vi a2, vi a3]) ml_Rdr_93 rfl ⟨rfl, by decide⟩ rfl rfl (Nat.le_of_ble_eq_true rfl) (dc := d - 1) (by omega) (by decide +kernel) (CI.z (CI.mono (fun x7 τ7 k => ?_) k))
      refine z_iast (pc := 57) rfl hb2 (by decide +kernel) ?_
      refine z_goto (pc := 58) (off := 64) 122 (by decide +kernel) (by decide) ?_
      exact z_vret (pc := 122) (by decide +kernel) rfl k
    · have k := k.2 hc
      refine z_iload (pc := 46) (i := 5) (by decide +kernel) rfl ?_
      refine z_goto (pc := 48) (off := 9) 57 (by decide +kernel) (by decide) ?_
      refine z_iast (pc := 57) rfl hb2 (by decide +kernel) ?_
      refine z_goto (pc := 58) (off := 64) 122 (by decide +kernel) (by decide) ?_
      exact z_vret (pc := 122) (by decide +kernel) rfl k
theorem b_Rdr_numberAt_0 {E : EN} {d : Nat} {a1 : Int} {a2 : Int} {σ : Mem} {K : Int → Mem → Prop}  (k : Z E y_Rdr_numberAt d 5 [some (vr 64), some (vi a1), some (vi a2), some (vi 0), some (vi a1)] [] σ (qi K)) :
    Z E y_Rdr_numberAt d 0 [some (vr 64), some (vi a1), some (vi a2), none, none] [] σ (qi K) := by
  refine z_iconst (pc := 0) (n := 0) (by decide +kernel) ⟨by decide, by decide⟩ ?_
  refine z_istore_n (pc := 1) (q := 3) [some (vr 64), some (vi a1), some (vi a2), some (vi 0), none] (by decide +kernel) (Nat.le_of_ble_eq_true rfl) rfl ?_
  refine z_iload_n (pc := 2) (q := 1) (by decide +kernel) rfl ?_
  refine z_istore (pc := 3) (i := 4) [some (vr 64), some (vi a1), some (vi a2), some (vi 0), some (vi a1)] (by decide +kernel) (Nat.le_of_ble_eq_true rfl) rfl ?_
  exact k
theorem b_Rdr_numberAt_5 {E : EN} {d : Nat} {a1 : Int} {a2 : Int} {a3 : Int} {a4 : Int} {σ : Mem} {K : Int → Mem → Prop}  (k : (a2 ≤ a4 → K a3 σ) ∧ (a4 < a2 → (w32 (a1 + 3) ≤ a4 → K a3 σ) ∧ (a4 < w32 (a1 + 3) → (0 ≤ a4 ∧ a4 < 900) ∧ Z E y_Rdr_numberAt d 5 [some (vr 64), some (vi a1), some (vi a2), some (vi (w32 ((w32 (a3 * 10)) + (w32 ((σ 1 a4) - 48))))), some (vi (w32 (a4 + 1)))] [] σ (qi K)))) :
    Z E y_Rdr_numberAt d 5 [some (vr 64), some (vi a1), some (vi a2), some (vi a3), some (vi a4)] [] σ (qi K) := by
  refine z_iload (pc := 5) (i := 4) (by decide +kernel) rfl ?_
  refine z_iload_n (pc := 7) (q := 2) (by decide +kernel) rfl ?_
  refine z_icmp_ge (pc := 8) (off := 33) 41 (by decide +kernel) (by decide) ⟨fun hc => ?_, fun hc => ?_⟩
  · have k := k.1 hc
    refine z_iload_n (pc := 41) (q := 3) (by decide +kernel) rfl ?_
    exact z_iret (pc := 42) (by decide +kernel) rfl k
  · have k := k.2 hc
    refine z_iload (pc := 11) (i := 4) (by decide +kernel) rfl ?_
    refine z_iload_n (pc := 13) (q := 1) (by decide +kernel) rfl ?_
    refine z_iconst (pc := 14) (n := 3) (by decide +kernel) ⟨by decide, by decide⟩ ?_
    refine z_iadd (pc := 15) (by decide +kernel) ?_
    refine z_icmp_ge (pc := 16) (off := 25) 41 (by decide +kernel) (by decide) ⟨fun hc => ?_, fun hc => ?_⟩
    · have k := k.1 hc
      refine z_iload_n (pc := 41) (q := 3) (by decide +kernel) rfl ?_
      exact z_iret (pc := 42) (by decide +kernel) rfl k
    · have k := k.2 hc
      refine z_iload_n (pc := 19) (q := 3) (by decide +kernel) rfl ?_
      refine z_bipush (pc := 20) (n := 10) (by decide +kernel) (by decide) ⟨by decide, by decide⟩ ?_
      refine z_imul (pc := 22) (by decide +kernel) ?_
      refine z_aload_n (pc := 23) (q := 0) (by decide +kernel) rfl ?_
      refine z_getR (pc := 24) 1 fl_Rdr_38 rfl rfl rfl (by decide +kernel) ?_
      refine z_iload (pc := 27) (i := 4) (by decide +kernel) rfl ?_
      have hb1 := k.1
      have k := k.2
      refine z_bald (pc := 29) rfl hb1 (by decide +kernel) ?_
      refine z_bipush (pc := 30) (n := 48) (by decide +kernel) (by decide) ⟨by decide, by decide⟩ ?_
      refine z_isub (pc := 32) (by decide +kernel) ?_
      refine z_iadd (pc := 33) (by decide +kernel) ?_
      refine z_istore_n (pc := 34) (q := 3) [some (vr 64), some (vi a1), some (vi a2), some (vi (w32 ((w32 (a3 * 10)) + (w32 ((σ 1 a4) - 48))))), some (vi a4)] (by decide +kernel) (Nat.le_of_ble_eq_true rfl) rfl ?_
      refine z_iinc (pc := 35) (i := 4) (n := 1) [some (vr 64), some (vi a1), some (vi a2), some (vi (w32 ((w32 (a3 * 10)) + (w32 ((σ 1 a4) - 48))))), some (vi (w32 (a4 + 1)))] (by decide +kernel) rfl rfl ?_
      refine z_goto (pc := 38) (off := -33) 5 (by decide +kernel) (by decide) ?_
      exact k
theorem b_Rdr_isSmall_0 {E : EN} {d : Nat} {a0 : Int} {σ : Mem} {K : Int → Mem → Prop}  (k : (a0 < 97 → K 0 σ) ∧ (97 ≤ a0 → (122 < a0 → K 0 σ) ∧ (a0 ≤ 122 → K 1 σ))) :
    Z E y_Rdr_isSmall d 0 [some (vi a0)] [] σ (qi K) := by
  refine z_iload_n (pc := 0) (q := 0) (by decide +kernel) rfl ?_
  refine z_bipush (pc := 1) (n := 97) (by decide +kernel) (by decide) ⟨by decide, by decide⟩ ?_
  refine z_icmp_lt (pc := 3) (off := 13) 16 (by decide +kernel) (by decide) ⟨fun hc => ?_, fun hc => ?_⟩
  · have k := k.1 hc
    refine z_iconst (pc := 16) (n := 0) (by decide +kernel) ⟨by decide, by decide⟩ ?_
    exact z_zret (pc := 17) (by decide +kernel) rfl ⟨by decide, k⟩
  · have k := k.2 hc
    refine z_iload_n (pc := 6) (q := 0) (by decide +kernel) rfl ?_
    refine z_bipush (pc := 7) (n := 122) (by decide +kernel) (by decide) ⟨by decide, by decide⟩ ?_
    refine z_icmp_gt (pc := 9) (off := 7) 16 (by decide +kernel) (by decide) ⟨fun hc => ?_, fun hc => ?_⟩
    · have k := k.1 hc
      refine z_iconst (pc := 16) (n := 0) (by decide +kernel) ⟨by decide, by decide⟩ ?_
      exact z_zret (pc := 17) (by decide +kernel) rfl ⟨by decide, k⟩
    · have k := k.2 hc
      refine z_iconst (pc := 12) (n := 1) (by decide +kernel) ⟨by decide, by decide⟩ ?_
      refine z_goto (pc := 13) (off := 4) 17 (by decide +kernel) (by decide) ?_
      exact z_zret (pc := 17) (by decide +kernel) rfl ⟨by decide, k⟩
theorem b_Rdr_isDigit_0 {E : EN} {d : Nat} {a0 : Int} {σ : Mem} {K : Int → Mem → Prop}  (k : (a0 < 48 → K 0 σ) ∧ (48 ≤ a0 → (57 < a0 → K 0 σ) ∧ (a0 ≤ 57 → K 1 σ))) :
    Z E y_Rdr_isDigit d 0 [some (vi a0)] [] σ (qi K) := by
  refine z_iload_n (pc := 0) (q := 0) (by decide +kernel) rfl ?_
  refine z_bipush (pc := 1) (n := 48) (by decide +kernel) (by decide) ⟨by decide, by decide⟩ ?_
  refine z_icmp_lt (pc := 3) (off := 13) 16 (by decide +kernel) (by decide) ⟨fun hc => ?_, fun hc => ?_⟩
  · have k := k.1 hc
    refine z_iconst (pc := 16) (n := 0) (by decide +kernel) ⟨by decide, by decide⟩ ?_
    exact z_zret (pc := 17) (by decide +kernel) rfl ⟨by decide, k⟩
  · have k := k.2 hc
    refine z_iload_n (pc := 6) (q := 0) (by decide +kernel) rfl ?_
    refine z_bipush (pc := 7) (n := 57) (by decide +kernel) (by decide) ⟨by decide, by decide⟩ ?_
    refine z_icmp_gt (pc := 9) (off := 7) 16 (by decide +kernel) (by decide) ⟨fun hc => ?_, fun hc => ?_⟩
    · have k := k.1 hc
      refine z_iconst (pc := 16) (n := 0) (by decide +kernel) ⟨by decide, by decide⟩ ?_
      exact z_zret (pc := 17) (by decide +kernel) rfl ⟨by decide, k⟩
    · have k := k.2 hc
      refine z_iconst (pc := 12) (n := 1) (by decide +kernel) ⟨by decide, by decide⟩ ?_
      refine z_goto (pc := 13) (off := 4) 17 (by decide +kernel) (by decide) ?_
      exact z_zret (pc := 17) (by decide +kernel) rfl ⟨by decide, k⟩
theorem b_Rdr_isSign_0 {E : EN} {d : Nat} {a0 : Int} {σ : Mem} {K : Int → Mem → Prop}  (k : (a0 = 59 → K 1 σ) ∧ (a0 ≠ 59 → (a0 = 58 → K 1 σ) ∧ (a0 ≠ 58 → (a0 = 43 → K 1 σ) ∧ (a0 ≠ 43 → (a0 = 45 → K 1 σ) ∧ (a0 ≠ 45 → (a0 = 42 → K 1 σ) ∧ (a0 ≠ 42 → (a0 = 40 → K 1 σ) ∧ (a0 ≠ 40 → (a0 ≠ 41 → K 0 σ) ∧ (a0 = 41 → K 1 σ)))))))) :
    Z E y_Rdr_isSign d 0 [some (vi a0)] [] σ (qi K) := by
  refine z_iload_n (pc := 0) (q := 0) (by decide +kernel) rfl ?_
  refine z_bipush (pc := 1) (n := 59) (by decide +kernel) (by decide) ⟨by decide, by decide⟩ ?_
  refine z_icmp_eq (pc := 3) (off := 39) 42 (by decide +kernel) (by decide) ⟨fun hc => ?_, fun hc => ?_⟩
  · have k := k.1 hc
    refine z_iconst (pc := 42) (n := 1) (by decide +kernel) ⟨by decide, by decide⟩ ?_
    refine z_goto (pc := 43) (off := 4) 47 (by decide +kernel) (by decide) ?_
    exact z_zret (pc := 47) (by decide +kernel) rfl ⟨by decide, k⟩
  · have k := k.2 hc
    refine z_iload_n (pc := 6) (q := 0) (by decide +kernel) rfl ?_
    refine z_bipush (pc := 7) (n := 58) (by decide +kernel) (by decide) ⟨by decide, by decide⟩ ?_
    refine z_icmp_eq (pc := 9) (off := 33) 42 (by decide +kernel) (by decide) ⟨fun hc => ?_, fun hc => ?_⟩
    · have k := k.1 hc
      refine z_iconst (pc := 42) (n := 1) (by decide +kernel) ⟨by decide, by decide⟩ ?_
      refine z_goto (pc := 43) (off := 4) 47 (by decide +kernel) (by decide) ?_
      exact z_zret (pc := 47) (by decide +kernel) rfl ⟨by decide, k⟩
    · have k := k.2 hc
      refine z_iload_n (pc := 12) (q := 0) (by decide +kernel) rfl ?_
      refine z_bipush (pc := 13) (n := 43) (by decide +kernel) (by decide) ⟨by decide, by decide⟩ ?_
      refine z_icmp_eq (pc := 15) (off := 27) 42 (by decide +kernel) (by decide) ⟨fun hc => ?_, fun hc => ?_⟩
      · have k := k.1 hc
        refine z_iconst (pc := 42) (n := 1) (by decide +kernel) ⟨by decide, by decide⟩ ?_
        refine z_goto (pc := 43) (off := 4) 47 (by decide +kernel) (by decide) ?_
        exact z_zret (pc := 47) (by decide +kernel) rfl ⟨by decide, k⟩
      · have k := k.2 hc
        refine z_iload_n (pc := 18) (q := 0) (by decide +kernel) rfl ?_
        refine z_bipush (pc := 19) (n := 45) (by decide +kernel) (by decide) ⟨by decide, by decide⟩ ?_
        refine z_icmp_eq (pc := 21) (off := 21) 42 (by decide +kernel) (by decide) ⟨fun hc => ?_, fun hc => ?_⟩
        · have k := k.1 hc
          refine z_iconst (pc := 42) (n := 1) (by decide +kernel) ⟨by decide, by decide⟩ ?_
          refine z_goto (pc := 43) (off := 4) 47 (by decide +kernel) (by decide) ?_
          exact z_zret (pc := 47) (by decide +kernel) rfl ⟨by decide, k⟩
        · have k := k.2 hc
          refine z_iload_n (pc := 24) (q := 0) (by decide +kernel) rfl ?_
          refine z_bipush (pc := 25) (n := 42) (by decide +kernel) (by decide) ⟨by decide, by decide⟩ ?_
          refine z_icmp_eq (pc := 27) (off := 15) 42 (by decide +kernel) (by decide) ⟨fun hc => ?_, fun hc => ?_⟩
          · have k := k.1 hc
            refine z_iconst (pc := 42) (n := 1) (by decide +kernel) ⟨by decide, by decide⟩ ?_
            refine z_goto (pc := 43) (off := 4) 47 (by decide +kernel) (by decide) ?_
            exact z_zret (pc := 47) (by decide +kernel) rfl ⟨by decide, k⟩
          · have k := k.2 hc
            refine z_iload_n (pc := 30) (q := 0) (by decide +kernel) rfl ?_
            refine z_bipush (pc := 31) (n := 40) (by decide +kernel) (by decide) ⟨by decide, by decide⟩ ?_
            refine z_icmp_eq (pc := 33) (off := 9) 42 (by decide +kernel) (by decide) ⟨fun hc => ?_, fun hc => ?_⟩
            · have k := k.1 hc
              refine z_iconst (pc := 42) (n := 1) (by decide +kernel) ⟨by decide, by decide⟩ ?_
              refine z_goto (pc := 43) (off := 4) 47 (by decide +kernel) (by decide) ?_
              exact z_zret (pc := 47) (by decide +kernel) rfl ⟨by decide, k⟩
            · have k := k.2 hc
              refine z_iload_n (pc := 36) (q := 0) (by decide +kernel) rfl ?_
              refine z_bipush (pc := 37) (n := 41) (by decide +kernel) (by decide) ⟨by decide, by decide⟩ ?_
              refine z_icmp_ne (pc := 39) (off := 7) 46 (by decide +kernel) (by decide) ⟨fun hc => ?_, fun hc => ?_⟩
              · have k := k.1 hc
                refine z_iconst (pc := 46) (n := 0) (by decide +kernel) ⟨by decide, by decide⟩ ?_
                exact z_zret (pc := 47) (by decide +kernel) rfl ⟨by decide, k⟩
              · have k := k.2 hc
                refine z_iconst (pc := 42) (n := 1) (by decide +kernel) ⟨by decide, by decide⟩ ?_
                refine z_goto (pc := 43) (off := 4) 47 (by decide +kernel) (by decide) ?_
                exact z_zret (pc := 47) (by decide +kernel) rfl ⟨by decide, k⟩
theorem b_Rdr_lineWord_0 {E : EN} {d : Nat} {a1 : Int} {a2 : Int} {σ : Mem} {K : Int → Mem → Prop}  (hd : 1 ≤ d) (k : CI E y_Rdr_same (d - 1) [vr 64, vi a1, vi a2, vr (nC + 2 * 0)] σ (fun x1 τ1 => (x1 = 0 → CI E y_Rdr_same (d - 1) [vr 64, vi a1, vi a2, vr (nC + 2 * 1)] τ1 (fun x2 τ2 => (x2 = 0 → CI E y_Rdr_same (d - 1) [vr 64, vi a1, vi a2, vr (nC + 2 * 2)] τ2 (fun x3 τ3 => (x3 = 0 → CI E y_Rdr_same (d - 1) [vr 64, vi a1, vi a2, vr (nC + 2 * 3)] τ3 (fun x4 τ4 => (x4 = 0 → CI E y_Rdr_same (d - 1) [vr 64, vi a1, vi a2, vr (nC + 2 * 4)] τ4 (fun x5 τ5 => (x5 = 0 → CI E y_Rdr_same (d - 1) [vr 64, vi a1, vi a2, vr (nC + 2 * 5)] τ5 (fun x6 τ6 => (x6 = 0 → CI E y_Rdr_same (d - 1) [vr 64, vi a1, vi a2, vr (nC + 2 * 6)] τ6 (fun x7 τ7 => (x7 = 0 → CI E y_Rdr_same (d - 1) [vr 64, vi a1, vi a2, vr (nC + 2 * 7)] τ7 (fun x8 τ8 => (x8 = 0 → CI E y_Rdr_same (d - 1) [vr 64, vi a1, vi a2, vr (nC + 2 * 8)] τ8 (fun x9 τ9 => (x9 = 0 → CI E y_Rdr_same (d - 1) [vr 64, vi a1, vi a2, vr (nC + 2 * 9)] τ9 (fun x10 τ10 => (x10 = 0 → K 200 τ10) ∧ (x10 ≠ 0 → K 219 τ10))) ∧ (x9 ≠ 0 → K 218 τ9))) ∧ (x8 ≠ 0 → K 217 τ8))) ∧ (x7 ≠ 0 → K 216 τ7))) ∧ (x6 ≠ 0 → K 215 τ6))) ∧ (x5 ≠ 0 → K 214 τ5))) ∧ (x4 ≠ 0 → K 205 τ4))) ∧ (x3 ≠ 0 → K 204 τ3))) ∧ (x2 ≠ 0 → K 202 τ2))) ∧ (x1 ≠ 0 → K 201 τ1))) :
    Z E y_Rdr_lineWord d 0 [some (vr 64), some (vi a1), some (vi a2)] [] σ (qi K) := by
  refine z_aload_n (pc := 0) (q := 0) (by decide +kernel) rfl ?_
  refine z_iload_n (pc := 1) (q := 1) (by decide +kernel) rfl ?_
  refine z_iload_n (pc := 2) (q := 2) (by decide +kernel) rfl ?_
  refine z_ldcs (pc := 3) (index := 102) 0 rfl (by decide +kernel) ?_
  refine z_callv (pc := 5) (as := [vi a1, vi a2, vr (nC + 2 * 0)]) ml_Rdr_104 rfl ⟨rfl, by decide⟩ rfl rfl (Nat.le_of_ble_eq_true rfl) (dc := d - 1) (by omega) (by decide +kernel) (CI.z (CI.mono (fun x1 τ1 k => ?_) k))
  refine z_if_eq (pc := 8) (off := 9) 17 (by decide +kernel) (by decide) ⟨fun hc => ?_, fun hc => ?_⟩
  · have k := k.1 hc
    refine z_aload_n (pc := 17) (q := 0) (by decide +kernel) rfl ?_
    refine z_iload_n (pc := 18) (q := 1) (by decide +kernel) rfl ?_
    refine z_iload_n (pc := 19) (q := 2) (by decide +kernel) rfl ?_
    refine z_ldcs (pc := 20) (index := 108) 1 rfl (by decide +kernel) ?_
    refine z_callv (pc := 22) (as := [vi a1, vi a2, vr (nC + 2 * 1)]) ml_Rdr_104 rfl ⟨rfl, by decide⟩ rfl rfl (Nat.le_of_ble_eq_true rfl) (dc := d - 1) (by omega) (by decide +kernel) (CI.z (CI.mono (fun x2 τ2 k => ?_) k))
    refine z_if_eq (pc := 25) (off := 9) 34 (by decide +kernel) (by decide) ⟨fun hc => ?_, fun hc => ?_⟩
    · have k := k.1 hc
      refine z_aload_n (pc := 34) (q := 0) (by decide +kernel) rfl ?_
      refine z_iload_n (pc := 35) (q := 1) (by decide +kernel) rfl ?_
      refine z_iload_n (pc := 36) (q := 2) (by decide +kernel) rfl ?_
      refine z_ldcs (pc := 37) (index := 110) 2 rfl (by decide +kernel) ?_
      refine z_callv (pc := 39) (as := [vi a1, vi a2, vr (nC + 2 * 2)]) ml_Rdr_104 rfl ⟨rfl, by decide⟩ rfl rfl (Nat.le_of_ble_eq_true rfl) (dc := d - 1) (by omega) (by decide +kernel) (CI.z (CI.mono (fun x3 τ3 k => ?_) k))
      refine z_if_eq (pc := 42) (off := 9) 51 (by decide +kernel) (by decide) ⟨fun hc => ?_, fun hc => ?_⟩
      · have k := k.1 hc
        refine z_aload_n (pc := 51) (q := 0) (by decide +kernel) rfl ?_
        refine z_iload_n (pc := 52) (q := 1) (by decide +kernel) rfl ?_
        refine z_iload_n (pc := 53) (q := 2) (by decide +kernel) rfl ?_
        refine z_ldcs (pc := 54) (index := 112) 3 rfl (by decide +kernel) ?_
        refine z_callv (pc := 56) (as := [vi a1, vi a2, vr (nC + 2 * 3)]) ml_Rdr_104 rfl ⟨rfl, by decide⟩ rfl rfl (Nat.le_of_ble_eq_true rfl) (dc := d - 1) (by omega) (by decide +kernel) (CI.z (CI.mono (fun x4 τ4 k => ?_) k))
        refine z_if_eq (pc := 59) (off := 9) 68 (by decide +kernel) (by decide) ⟨fun hc => ?_, fun hc => ?_⟩
        · have k := k.1 hc
          refine z_aload_n (pc := 68) (q := 0) (by decide +kernel) rfl ?_
          refine z_iload_n (pc := 69) (q := 1) (by decide +kernel) rfl ?_
          refine z_iload_n (pc := 70) (q := 2) (by decide +kernel) rfl ?_
          refine z_ldcs (pc := 71) (index := 114) 4 rfl (by decide +kernel) ?_
          refine z_callv (pc := 73) (as := [vi a1, vi a2, vr (nC + 2 * 4)]) ml_Rdr_104 rfl ⟨rfl, by decide⟩ rfl rfl (Nat.le_of_ble_eq_true rfl) (dc := d - 1) (by omega) (by decide +kernel) (CI.z (CI.mono (fun x5 τ5 k => ?_) k))
          refine z_if_eq (pc := 76) (off := 9) 85 (by decide +kernel) (by decide) ⟨fun hc => ?_, fun hc => ?_⟩
          · have k := k.1 hc
            refine z_aload_n (pc := 85) (q := 0) (by decide +kernel) rfl ?_
            refine z_iload_n (pc := 86) (q := 1) (by decide +kernel) rfl ?_
            refine z_iload_n (pc := 87) (q := 2) (by decide +kernel) rfl ?_
            refine z_ldcs (pc := 88) (index := 116) 5 rfl (by decide +kernel) ?_
            refine z_callv (pc := 90) (as := [vi a1, vi a2, vr (nC + 2 * 5)]) ml_Rdr_104 rfl ⟨rfl, by decide⟩ rfl rfl (Nat.le_of_ble_eq_true rfl) (dc := d - 1) (by omega) (by decide +kernel) (CI.z (CI.mono (fun x6 τ6 k => ?_) k))
            refine z_if_eq (pc := 93) (off := 9) 102 (by decide +kernel) (by decide) ⟨fun hc => ?_, fun hc => ?_⟩
            · have k := k.1 hc
              refine z_aload_n (pc := 102) (q := 0) (by decide +kernel) rfl ?_
              refine z_iload_n (pc := 103) (q := 1) (by decide +kernel) rfl ?_
              refine z_iload_n (pc := 104) (q := 2) (by decide +kernel) rfl ?_
              refine z_ldcs (pc := 105) (index := 118) 6 rfl (by decide +kernel) ?_
              refine z_callv (pc := 107) (as := [vi a1, vi a2, vr (nC + 2 * 6)]) ml_Rdr_104 rfl ⟨rfl, by decide⟩ rfl rfl (Nat.le_of_ble_eq_true rfl) (dc := d - 1) (by omega) (by decide +kernel) (CI.z (CI.mono (fun x7 τ7 k => ?_) k))
              refine z_if_eq (pc := 110) (off := 9) 119 (by decide +kernel) (by decide) ⟨fun hc => ?_, fun hc => ?_⟩
              · have k := k.1 hc
                refine z_aload_n (pc := 119) (q := 0) (by decide +kernel) rfl ?_
                refine z_iload_n (pc := 120) (q := 1) (by decide +kernel) rfl ?_
                refine z_iload_n (pc := 121) (q := 2) (by decide +kernel) rfl ?_
                refine z_ldcs (pc := 122) (index := 120) 7 rfl (by decide +kernel) ?_
                refine z_callv (pc := 124) (as := [vi a1, vi a2, vr (nC + 2 * 7)]) ml_Rdr_104 rfl ⟨rfl, by decide⟩ rfl rfl (Nat.le_of_ble_eq_true rfl) (dc := d - 1) (by omega) (by decide +kernel) (CI.z (CI.mono (fun x8 τ8 k => ?_) k))
                refine z_if_eq (pc := 127) (off := 9) 136 (by decide +kernel) (by decide) ⟨fun hc => ?_, fun hc => ?_⟩
                · have k := k.1 hc
                  refine z_aload_n (pc := 136) (q := 0) (by decide +kernel) rfl ?_
                  refine z_iload_n (pc := 137) (q := 1) (by decide +kernel) rfl ?_
                  refine z_iload_n (pc := 138) (q := 2) (by decide +kernel) rfl ?_
                  refine z_ldcs (pc := 139) (index := 122) 8 rfl (by decide +kernel) ?_
                  refine z_callv (pc := 141) (as := [vi a1, vi a2, vr (nC + 2 * 8)]) ml_Rdr_104 rfl ⟨rfl, by decide⟩ rfl rfl (Nat.le_of_ble_eq_true rfl) (dc := d - 1) (by omega) (by decide +kernel) (CI.z (CI.mono (fun x9 τ9 k => ?_) k))
                  refine z_if_eq (pc := 144) (off := 9) 153 (by decide +kernel) (by decide) ⟨fun hc => ?_, fun hc => ?_⟩
                  · have k := k.1 hc
                    refine z_aload_n (pc := 153) (q := 0) (by decide +kernel) rfl ?_
                    refine z_iload_n (pc := 154) (q := 1) (by decide +kernel) rfl ?_
                    refine z_iload_n (pc := 155) (q := 2) (by decide +kernel) rfl ?_
                    refine z_ldcs (pc := 156) (index := 124) 9 rfl (by decide +kernel) ?_
                    refine z_callv (pc := 158) (as := [vi a1, vi a2, vr (nC + 2 * 9)]) ml_Rdr_104 rfl ⟨rfl, by decide⟩ rfl rfl (Nat.le_of_ble_eq_true rfl) (dc := d - 1) (by omega) (by decide +kernel) (CI.z (CI.mono (fun x10 τ10 k => ?_) k))
                    refine z_if_eq (pc := 161) (off := 9) 170 (by decide +kernel) (by decide) ⟨fun hc => ?_, fun hc => ?_⟩
                    · have k := k.1 hc
                      refine z_sipush (pc := 170) (n := 200) (by decide +kernel) (by decide) ⟨by decide, by decide⟩ ?_
                      exact z_iret (pc := 173) (by decide +kernel) rfl k
                    · have k := k.2 hc
                      refine z_sipush (pc := 164) (n := 219) (by decide +kernel) (by decide) ⟨by decide, by decide⟩ ?_
                      refine z_goto (pc := 167) (off := 6) 173 (by decide +kernel) (by decide) ?_
                      exact z_iret (pc := 173) (by decide +kernel) rfl k
                  · have k := k.2 hc
                    refine z_sipush (pc := 147) (n := 218) (by decide +kernel) (by decide) ⟨by decide, by decide⟩ ?_
                    refine z_goto (pc := 150) (off := 23) 173 (by decide +kernel) (by decide) ?_
                    exact z_iret (pc := 173) (by decide +kernel) rfl k
                · have k := k.2 hc
                  refine z_sipush (pc := 130) (n := 217) (by decide +kernel) (by decide) ⟨by decide, by decide⟩ ?_
                  refine z_goto (pc := 133) (off := 40) 173 (by decide +kernel) (by decide) ?_
                  exact z_iret (pc := 173) (by decide +kernel) rfl k
              · have k := k.2 hc
                refine z_sipush (pc := 113) (n := 216) (by decide +kernel) (by decide) ⟨by decide, by decide⟩ ?_
                refine z_goto (pc := 116) (off := 57) 173 (by decide +kernel) (by decide) ?_
                exact z_iret (pc := 173) (by decide +kernel) rfl k
            · have k := k.2 hc
              refine z_sipush (pc := 96) (n := 215) (by decide +kernel) (by decide) ⟨by decide, by decide⟩ ?_
              refine z_goto (pc := 99) (off := 74) 173 (by decide +kernel) (by decide) ?_
              exact z_iret (pc := 173) (by decide +kernel) rfl k
          · have k := k.2 hc
            refine z_sipush (pc := 79) (n := 214) (by decide +kernel) (by decide) ⟨by decide, by decide⟩ ?_
            refine z_goto (pc := 82) (off := 91) 173 (by decide +kernel) (by decide) ?_
            exact z_iret (pc := 173) (by decide +kernel) rfl k
        · have k := k.2 hc
          refine z_sipush (pc := 62) (n := 205) (by decide +kernel) (by decide) ⟨by decide, by decide⟩ ?_
          refine z_goto (pc := 65) (off := 108) 173 (by decide +kernel) (by decide) ?_
          exact z_iret (pc := 173) (by decide +kernel) rfl k
      · have k := k.2 hc
        refine z_sipush (pc := 45) (n := 204) (by decide +kernel) (by decide) ⟨by decide, by decide⟩ ?_
        refine z_goto (pc := 48) (off := 125) 173 (by decide +kernel) (by decide) ?_
        exact z_iret (pc := 173) (by decide +kernel) rfl k
    · have k := k.2 hc
      refine z_sipush (pc := 28) (n := 202) (by decide +kernel) (by decide) ⟨by decide, by decide⟩ ?_
      refine z_goto (pc := 31) (off := 142) 173 (by decide +kernel) (by decide) ?_
      exact z_iret (pc := 173) (by decide +kernel) rfl k
  · have k := k.2 hc
    refine z_sipush (pc := 11) (n := 201) (by decide +kernel) (by decide) ⟨by decide, by decide⟩ ?_
    refine z_goto (pc := 14) (off := 159) 173 (by decide +kernel) (by decide) ?_
    exact z_iret (pc := 173) (by decide +kernel) rfl k
theorem b_Rdr_partWord_0 {E : EN} {d : Nat} {a1 : Int} {a2 : Int} {σ : Mem} {K : Int → Mem → Prop}  (hd : 1 ≤ d) (k : CI E y_Rdr_same (d - 1) [vr 64, vi a1, vi a2, vr (nC + 2 * 10)] σ (fun x1 τ1 => (x1 = 0 → CI E y_Rdr_same (d - 1) [vr 64, vi a1, vi a2, vr (nC + 2 * 11)] τ1 (fun x2 τ2 => (x2 = 0 → CI E y_Rdr_same (d - 1) [vr 64, vi a1, vi a2, vr (nC + 2 * 12)] τ2 (fun x3 τ3 => (x3 = 0 → CI E y_Rdr_same (d - 1) [vr 64, vi a1, vi a2, vr (nC + 2 * 13)] τ3 (fun x4 τ4 => (x4 = 0 → CI E y_Rdr_same (d - 1) [vr 64, vi a1, vi a2, vr (nC + 2 * 14)] τ4 (fun x5 τ5 => (x5 = 0 → CI E y_Rdr_same (d - 1) [vr 64, vi a1, vi a2, vr (nC + 2 * 15)] τ5 (fun x6 τ6 => (x6 = 0 → CI E y_Rdr_same (d - 1) [vr 64, vi a1, vi a2, vr (nC + 2 * 16)] τ6 (fun x7 τ7 => (x7 = 0 → CI E y_Rdr_same (d - 1) [vr 64, vi a1, vi a2, vr (nC + 2 * 17)] τ7 (fun x8 τ8 => (x8 = 0 → CI E y_Rdr_same (d - 1) [vr 64, vi a1, vi a2, vr (nC + 2 * 18)] τ8 (fun x9 τ9 => (x9 = 0 → K 200 τ9) ∧ (x9 ≠ 0 → K 213 τ9))) ∧ (x8 ≠ 0 → K 212 τ8))) ∧ (x7 ≠ 0 → K 211 τ7))) ∧ (x6 ≠ 0 → K 210 τ6))) ∧ (x5 ≠ 0 → K 209 τ5))) ∧ (x4 ≠ 0 → K 208 τ4))) ∧ (x3 ≠ 0 → K 207 τ3))) ∧ (x2 ≠ 0 → K 206 τ2))) ∧ (x1 ≠ 0 → K 203 τ1))) :
    Z E y_Rdr_partWord d 0 [some (vr 64), some (vi a1), some (vi a2)] [] σ (qi K) := by
  refine z_aload_n (pc := 0) (q := 0) (by decide +kernel) rfl ?_
  refine z_iload_n (pc := 1) (q := 1) (by decide +kernel) rfl ?_
  refine z_iload_n (pc := 2) (q := 2) (by decide +kernel) rfl ?_
  refine z_ldcs (pc := 3) (index := 126) 10 rfl (by decide +kernel) ?_
  refine z_callv (pc := 5) (as := [vi a1, vi a2, vr (nC + 2 * 10)]) ml_Rdr_104 rfl ⟨rfl, by decide⟩ rfl rfl (Nat.le_of_ble_eq_true rfl) (dc := d - 1) (by omega) (by decide +kernel) (CI.z (CI.mono (fun x1 τ1 k => ?_) k))
  refine z_if_eq (pc := 8) (off := 9) 17 (by decide +kernel) (by decide) ⟨fun hc => ?_, fun hc => ?_⟩
  · have k := k.1 hc
    refine z_aload_n (pc := 17) (q := 0) (by decide +kernel) rfl ?_
    refine z_iload_n (pc := 18) (q := 1) (by decide +kernel) rfl ?_
    refine z_iload_n (pc := 19) (q := 2) (by decide +kernel) rfl ?_
    refine z_ldcs (pc := 20) (index := 128) 11 rfl (by decide +kernel) ?_
    refine z_callv (pc := 22) (as := [vi a1, vi a2, vr (nC + 2 * 11)]) ml_Rdr_104 rfl ⟨rfl, by decide⟩ rfl rfl (Nat.le_of_ble_eq_true rfl) (dc := d - 1) (by omega) (by decide +kernel) (CI.z (CI.mono (fun x2 τ2 k => ?_) k))
    refine z_if_eq (pc := 25) (off := 9) 34 (by decide +kernel) (by decide) ⟨fun hc => ?_, fun hc => ?_⟩
    · have k := k.1 hc
      refine z_aload_n (pc := 34) (q := 0) (by decide +kernel) rfl ?_
      refine z_iload_n (pc := 35) (q := 1) (by decide +kernel) rfl ?_
      refine z_iload_n (pc := 36) (q := 2) (by decide +kernel) rfl ?_
      refine z_ldcs (pc := 37) (index := 130) 12 rfl (by decide +kernel) ?_
      refine z_callv (pc := 39) (as := [vi a1, vi a2, vr (nC + 2 * 12)]) ml_Rdr_104 rfl ⟨rfl, by decide⟩ rfl rfl (Nat.le_of_ble_eq_true rfl) (dc := d - 1) (by omega) (by decide +kernel) (CI.z (CI.mono (fun x3 τ3 k => ?_) k))
      refine z_if_eq (pc := 42) (off := 9) 51 (by decide +kernel) (by decide) ⟨fun hc => ?_, fun hc => ?_⟩
      · have k := k.1 hc
        refine z_aload_n (pc := 51) (q := 0) (by decide +kernel) rfl ?_
        refine z_iload_n (pc := 52) (q := 1) (by decide +kernel) rfl ?_
        refine z_iload_n (pc := 53) (q := 2) (by decide +kernel) rfl ?_
        refine z_ldcs (pc := 54) (index := 132) 13 rfl (by decide +kernel) ?_
        refine z_callv (pc := 56) (as := [vi a1, vi a2, vr (nC + 2 * 13)]) ml_Rdr_104 rfl ⟨rfl, by decide⟩ rfl rfl (Nat.le_of_ble_eq_true rfl) (dc := d - 1) (by omega) (by decide +kernel) (CI.z (CI.mono (fun x4 τ4 k => ?_) k))
        refine z_if_eq (pc := 59) (off := 9) 68 (by decide +kernel) (by decide) ⟨fun hc => ?_, fun hc => ?_⟩
        · have k := k.1 hc
          refine z_aload_n (pc := 68) (q := 0) (by decide +kernel) rfl ?_
          refine z_iload_n (pc := 69) (q := 1) (by decide +kernel) rfl ?_
          refine z_iload_n (pc := 70) (q := 2) (by decide +kernel) rfl ?_
          refine z_ldcs (pc := 71) (index := 134) 14 rfl (by decide +kernel) ?_
          refine z_callv (pc := 73) (as := [vi a1, vi a2, vr (nC + 2 * 14)]) ml_Rdr_104 rfl ⟨rfl, by decide⟩ rfl rfl (Nat.le_of_ble_eq_true rfl) (dc := d - 1) (by omega) (by decide +kernel) (CI.z (CI.mono (fun x5 τ5 k => ?_) k))
          refine z_if_eq (pc := 76) (off := 9) 85 (by decide +kernel) (by decide) ⟨fun hc => ?_, fun hc => ?_⟩
          · have k := k.1 hc
            refine z_aload_n (pc := 85) (q := 0) (by decide +kernel) rfl ?_
            refine z_iload_n (pc := 86) (q := 1) (by decide +kernel) rfl ?_
            refine z_iload_n (pc := 87) (q := 2) (by decide +kernel) rfl ?_
            refine z_ldcs (pc := 88) (index := 136) 15 rfl (by decide +kernel) ?_
            refine z_callv (pc := 90) (as := [vi a1, vi a2, vr (nC + 2 * 15)]) ml_Rdr_104 rfl ⟨rfl, by decide⟩ rfl rfl (Nat.le_of_ble_eq_true rfl) (dc := d - 1) (by omega) (by decide +kernel) (CI.z (CI.mono (fun x6 τ6 k => ?_) k))
            refine z_if_eq (pc := 93) (off := 9) 102 (by decide +kernel) (by decide) ⟨fun hc => ?_, fun hc => ?_⟩
            · have k := k.1 hc
              refine z_aload_n (pc := 102) (q := 0) (by decide +kernel) rfl ?_
              refine z_iload_n (pc := 103) (q := 1) (by decide +kernel) rfl ?_
              refine z_iload_n (pc := 104) (q := 2) (by decide +kernel) rfl ?_
              refine z_ldcs (pc := 105) (index := 138) 16 rfl (by decide +kernel) ?_
              refine z_callv (pc := 107) (as := [vi a1, vi a2, vr (nC + 2 * 16)]) ml_Rdr_104 rfl ⟨rfl, by decide⟩ rfl rfl (Nat.le_of_ble_eq_true rfl) (dc := d - 1) (by omega) (by decide +kernel) (CI.z (CI.mono (fun x7 τ7 k => ?_) k))
              refine z_if_eq (pc := 110) (off := 9) 119 (by decide +kernel) (by decide) ⟨fun hc => ?_, fun hc => ?_⟩
              · have k := k.1 hc
                refine z_aload_n (pc := 119) (q := 0) (by decide +kernel) rfl ?_
                refine z_iload_n (pc := 120) (q := 1) (by decide +kernel) rfl ?_
                refine z_iload_n (pc := 121) (q := 2) (by decide +kernel) rfl ?_
                refine z_ldcs (pc := 122) (index := 140) 17 rfl (by decide +kernel) ?_
                refine z_callv (pc := 124) (as := [vi a1, vi a2, vr (nC + 2 * 17)]) ml_Rdr_104 rfl ⟨rfl, by decide⟩ rfl rfl (Nat.le_of_ble_eq_true rfl) (dc := d - 1) (by omega) (by decide +kernel) (CI.z (CI.mono (fun x8 τ8 k => ?_) k))
                refine z_if_eq (pc := 127) (off := 9) 136 (by decide +kernel) (by decide) ⟨fun hc => ?_, fun hc => ?_⟩
                · have k := k.1 hc
                  refine z_aload_n (pc := 136) (q := 0) (by decide +kernel) rfl ?_
                  refine z_iload_n (pc := 137) (q := 1) (by decide +kernel) rfl ?_
                  refine z_iload_n (pc := 138) (q := 2) (by decide +kernel) rfl ?_
                  refine z_ldcs (pc := 139) (index := 142) 18 rfl (by decide +kernel) ?_
                  refine z_callv (pc := 141) (as := [vi a1, vi a2, vr (nC + 2 * 18)]) ml_Rdr_104 rfl ⟨rfl, by decide⟩ rfl rfl (Nat.le_of_ble_eq_true rfl) (dc := d - 1) (by omega) (by decide +kernel) (CI.z (CI.mono (fun x9 τ9 k => ?_) k))
                  refine z_if_eq (pc := 144) (off := 9) 153 (by decide +kernel) (by decide) ⟨fun hc => ?_, fun hc => ?_⟩
                  · have k := k.1 hc
                    refine z_sipush (pc := 153) (n := 200) (by decide +kernel) (by decide) ⟨by decide, by decide⟩ ?_
                    exact z_iret (pc := 156) (by decide +kernel) rfl k
                  · have k := k.2 hc
                    refine z_sipush (pc := 147) (n := 213) (by decide +kernel) (by decide) ⟨by decide, by decide⟩ ?_
                    refine z_goto (pc := 150) (off := 6) 156 (by decide +kernel) (by decide) ?_
                    exact z_iret (pc := 156) (by decide +kernel) rfl k
                · have k := k.2 hc
                  refine z_sipush (pc := 130) (n := 212) (by decide +kernel) (by decide) ⟨by decide, by decide⟩ ?_
                  refine z_goto (pc := 133) (off := 23) 156 (by decide +kernel) (by decide) ?_
                  exact z_iret (pc := 156) (by decide +kernel) rfl k
              · have k := k.2 hc
                refine z_sipush (pc := 113) (n := 211) (by decide +kernel) (by decide) ⟨by decide, by decide⟩ ?_
                refine z_goto (pc := 116) (off := 40) 156 (by decide +kernel) (by decide) ?_
                exact z_iret (pc := 156) (by decide +kernel) rfl k
            · have k := k.2 hc
              refine z_sipush (pc := 96) (n := 210) (by decide +kernel) (by decide) ⟨by decide, by decide⟩ ?_
              refine z_goto (pc := 99) (off := 57) 156 (by decide +kernel) (by decide) ?_
              exact z_iret (pc := 156) (by decide +kernel) rfl k
          · have k := k.2 hc
            refine z_sipush (pc := 79) (n := 209) (by decide +kernel) (by decide) ⟨by decide, by decide⟩ ?_
            refine z_goto (pc := 82) (off := 74) 156 (by decide +kernel) (by decide) ?_
            exact z_iret (pc := 156) (by decide +kernel) rfl k
        · have k := k.2 hc
          refine z_sipush (pc := 62) (n := 208) (by decide +kernel) (by decide) ⟨by decide, by decide⟩ ?_
          refine z_goto (pc := 65) (off := 91) 156 (by decide +kernel) (by decide) ?_
          exact z_iret (pc := 156) (by decide +kernel) rfl k
      · have k := k.2 hc
        refine z_sipush (pc := 45) (n := 207) (by decide +kernel) (by decide) ⟨by decide, by decide⟩ ?_
        refine z_goto (pc := 48) (off := 108) 156 (by decide +kernel) (by decide) ?_
        exact z_iret (pc := 156) (by decide +kernel) rfl k
    · have k := k.2 hc
      refine z_sipush (pc := 28) (n := 206) (by decide +kernel) (by decide) ⟨by decide, by decide⟩ ?_
      refine z_goto (pc := 31) (off := 125) 156 (by decide +kernel) (by decide) ?_
      exact z_iret (pc := 156) (by decide +kernel) rfl k
  · have k := k.2 hc
    refine z_sipush (pc := 11) (n := 203) (by decide +kernel) (by decide) ⟨by decide, by decide⟩ ?_
    refine z_goto (pc := 14) (off := 142) 156 (by decide +kernel) (by decide) ?_
    exact z_iret (pc := 156) (by decide +kernel) rfl k
theorem b_Rdr_same_0 {E : EN} {d : Nat} {a1 : Int} {a2 : Int} {i3 : Nat} {σ : Mem} {K : Int → Mem → Prop} (h3 : i3 < nS) (hd : 1 ≤ d) (k : CI E y_Str_length (d - 1) [vr (nC + 2 * i3)] σ (fun x1 τ1 => (w32 (a2 - a1) = x1 → Z E y_Rdr_same d 15 [some (vr 64), some (vi a1), some (vi a2), some (vr (nC + 2 * i3)), some (vi 0)] [] τ1 (qi K)) ∧ (w32 (a2 - a1) ≠ x1 → K 0 τ1))) :
    Z E y_Rdr_same d 0 [some (vr 64), some (vi a1), some (vi a2), some (vr (nC + 2 * i3)), none] [] σ (qi K) := by
  refine z_iload_n (pc := 0) (q := 2) (by decide +kernel) rfl ?_
  refine z_iload_n (pc := 1) (q := 1) (by decide +kernel) rfl ?_
  refine z_isub (pc := 2) (by decide +kernel) ?_
  refine z_aload_n (pc := 3) (q := 3) (by decide +kernel) rfl ?_
  refine z_callstr (pc := 4) (as := []) ml_Rdr_144 h3 rfl rfl rfl (Nat.le_of_ble_eq_true rfl) (dc := d - 1) (by omega) (by decide +kernel) (CI.z (CI.mono (fun x1 τ1 k => ?_) k))
  refine z_icmp_eq (pc := 7) (off := 5) 12 (by decide +kernel) (by decide) ⟨fun hc => ?_, fun hc => ?_⟩
  · have k := k.1 hc
    refine z_iconst (pc := 12) (n := 0) (by decide +kernel) ⟨by decide, by decide⟩ ?_
    refine z_istore (pc := 13) (i := 4) [some (vr 64), some (vi a1), some (vi a2), some (vr (nC + 2 * i3)), some (vi 0)] (by decide +kernel) (Nat.le_of_ble_eq_true rfl) rfl ?_
    exact k
  · have k := k.2 hc
    refine z_iconst (pc := 10) (n := 0) (by decide +kernel) ⟨by decide, by decide⟩ ?_
    exact z_zret (pc := 11) (by decide +kernel) rfl ⟨by decide, k⟩
theorem b_Rdr_same_15 {E : EN} {d : Nat} {a1 : Int} {a2 : Int} {i3 : Nat} {o2 : Option AV} {a4 : Int} {σ : Mem} {K : Int → Mem → Prop} (h3 : i3 < nS) (hd : 1 ≤ d) (k : CI E y_Str_length (d - 1) [vr (nC + 2 * i3)] σ (fun x1 τ1 => (x1 ≤ a4 → K 1 τ1) ∧ (a4 < x1 → (0 ≤ w32 (a1 + a4) ∧ w32 (a1 + a4) < 900) ∧ CI E y_Str_charAt (d - 1) [vr (nC + 2 * i3), vi a4] τ1 (fun x2 τ2 => (τ1 1 (w32 (a1 + a4)) = x2 → Z E y_Rdr_same d 15 [some (vr 64), some (vi a1), o2, some (vr (nC + 2 * i3)), some (vi (w32 (a4 + 1)))] [] τ2 (qi K)) ∧ (τ1 1 (w32 (a1 + a4)) ≠ x2 → K 0 τ2))))) :
    Z E y_Rdr_same d 15 [some (vr 64), some (vi a1), o2, some (vr (nC + 2 * i3)), some (vi a4)] [] σ (qi K) := by
  refine z_iload (pc := 15) (i := 4) (by decide +kernel) rfl ?_
  refine z_aload_n (pc := 17) (q := 3) (by decide +kernel) rfl ?_
  refine z_callstr (pc := 18) (as := []) ml_Rdr_144 h3 rfl rfl rfl (Nat.le_of_ble_eq_true rfl) (dc := d - 1) (by omega) (by decide +kernel) (CI.z (CI.mono (fun x1 τ1 k => ?_) k))
  refine z_icmp_ge (pc := 21) (off := 29) 50 (by decide +kernel) (by decide) ⟨fun hc => ?_, fun hc => ?_⟩
  · have k := k.1 hc
    refine z_iconst (pc := 50) (n := 1) (by decide +kernel) ⟨by decide, by decide⟩ ?_
    exact z_zret (pc := 51) (by decide +kernel) rfl ⟨by decide, k⟩
  · have k := k.2 hc
    refine z_aload_n (pc := 24) (q := 0) (by decide +kernel) rfl ?_
    refine z_getR (pc := 25) 1 fl_Rdr_38 rfl rfl rfl (by decide +kernel) ?_
    refine z_iload_n (pc := 28) (q := 1) (by decide +kernel) rfl ?_
    refine z_iload (pc := 29) (i := 4) (by decide +kernel) rfl ?_
    refine z_iadd (pc := 31) (by decide +kernel) ?_
    have hb1 := k.1
    have k := k.2
    refine z_bald (pc := 32) rfl hb1 (by decide +kernel) ?_
    refine z_aload_n (pc := 33) (q := 3) (by decide +kernel) rfl ?_
    refine z_iload (pc := 34) (i := 4) (by decide +kernel) rfl ?_
    refine z_callstr (pc := 36) (as := [vi a4]) ml_Rdr_150 h3 rfl rfl rfl (Nat.le_of_ble_eq_true rfl) (dc := d - 1) (by omega) (by decide +kernel) (CI.z (CI.mono (fun x2 τ2 k => ?_) k))
    refine z_icmp_eq (pc := 39) (off := 5) 44 (by decide +kernel) (by decide) ⟨fun hc => ?_, fun hc => ?_⟩
    · have k := k.1 hc
      refine z_iinc (pc := 44) (i := 4) (n := 1) [some (vr 64), some (vi a1), o2, some (vr (nC + 2 * i3)), some (vi (w32 (a4 + 1)))] (by decide +kernel) rfl rfl ?_
      refine z_goto (pc := 47) (off := -32) 15 (by decide +kernel) (by decide) ?_
      exact k
    · have k := k.2 hc
      refine z_iconst (pc := 42) (n := 0) (by decide +kernel) ⟨by decide, by decide⟩ ?_
      exact z_zret (pc := 43) (by decide +kernel) rfl ⟨by decide, k⟩
theorem b_Rdr_readNoon_0 {E : EN} {d : Nat}  {σ : Mem} {K : Int → Mem → Prop}  (hd : 1 ≤ d) (k : CI E y_Rdr_takeToken (d - 1) [vr 64, vi 201] σ (fun x1 τ1 => (x1 ≠ 0 → CI E y_Rdr_takeNumber (d - 1) [vr 64, vi 1, vi 300] τ1 (fun x2 τ2 => (τ2 64 7 ≠ 0 → K 0 (up τ2 14 0 x2)) ∧ (τ2 64 7 = 0 → K 1 (up τ2 14 0 x2)))) ∧ (x1 = 0 → K 0 τ1))) :
    Z E y_Rdr_readNoon d 0 [some (vr 64)] [] σ (qi K) := by
  refine z_aload_n (pc := 0) (q := 0) (by decide +kernel) rfl ?_
  refine z_sipush (pc := 1) (n := 201) (by decide +kernel) (by decide) ⟨by decide, by decide⟩ ?_
  refine z_callv (pc := 4) (as := [vi 201]) ml_Rdr_154 rfl ⟨rfl, by decide⟩ rfl rfl (Nat.le_of_ble_eq_true rfl) (dc := d - 1) (by omega) (by decide +kernel) (CI.z (CI.mono (fun x1 τ1 k => ?_) k))
  refine z_if_ne (pc := 7) (off := 5) 12 (by decide +kernel) (by decide) ⟨fun hc => ?_, fun hc => ?_⟩
  · have k := k.1 hc
    refine z_aload_n (pc := 12) (q := 0) (by decide +kernel) rfl ?_
    refine z_getR (pc := 13) 14 fl_Rdr_42 rfl rfl rfl (by decide +kernel) ?_
    refine z_aload_n (pc := 16) (q := 0) (by decide +kernel) rfl ?_
    refine z_iconst (pc := 17) (n := 1) (by decide +kernel) ⟨by decide, by decide⟩ ?_
    refine z_sipush (pc := 18) (n := 300) (by decide +kernel) (by decide) ⟨by decide, by decide⟩ ?_
    refine z_callv (pc := 21) (as := [vi 1, vi 300]) ml_Rdr_157 rfl ⟨rfl, by decide⟩ rfl rfl (Nat.le_of_ble_eq_true rfl) (dc := d - 1) (by omega) (by decide +kernel) (CI.z (CI.mono (fun x2 τ2 k => ?_) k))
    refine z_putI (pc := 24) 0 fp_Rdr_160 rfl rfl rfl (by decide +kernel) ?_
    refine z_aload_n (pc := 27) (q := 0) (by decide +kernel) rfl ?_
    refine z_getI (pc := 28) 7 fl_Rdr_32 rfl (by decide) rfl (by decide +kernel) ?_
    refine z_topI (up_nc (by decide)) ?_
    refine z_if_ne (pc := 31) (off := 7) 38 (by decide +kernel) (by decide) ⟨fun hc => ?_, fun hc => ?_⟩
    · have k := k.1 hc
      refine z_iconst (pc := 38) (n := 0) (by decide +kernel) ⟨by decide, by decide⟩ ?_
      exact z_zret (pc := 39) (by decide +kernel) rfl ⟨by decide, k⟩
    · have k := k.2 hc
      refine z_iconst (pc := 34) (n := 1) (by decide +kernel) ⟨by decide, by decide⟩ ?_
      refine z_goto (pc := 35) (off := 4) 39 (by decide +kernel) (by decide) ?_
      exact z_zret (pc := 39) (by decide +kernel) rfl ⟨by decide, k⟩
  · have k := k.2 hc
    refine z_iconst (pc := 10) (n := 0) (by decide +kernel) ⟨by decide, by decide⟩ ?_
    exact z_zret (pc := 11) (by decide +kernel) rfl ⟨by decide, k⟩
theorem b_Rdr_endLine_0 {E : EN} {d : Nat}  {σ : Mem} {K : Int → Mem → Prop}  (hd : 1 ≤ d) (k : CI E y_Rdr_takeToken (d - 1) [vr 64, vi 59] (up σ 14 4 (w32 ((σ 14 4) + 1))) (fun x1 τ1 => (x1 = 0 ∨ x1 = 1) ∧ K x1 τ1)) :
    Z E y_Rdr_endLine d 0 [some (vr 64)] [] σ (qi K) := by
  refine z_aload_n (pc := 0) (q := 0) (by decide +kernel) rfl ?_
  refine z_getR (pc := 1) 14 fl_Rdr_42 rfl rfl rfl (by decide +kernel) ?_
  refine z_dup (pc := 4) (by decide +kernel) rfl ?_
  refine z_getI (pc := 5) 4 fl_Rdr_162 rfl (by decide) rfl (by decide +kernel) ?_
  refine z_iconst (pc := 8) (n := 1) (by decide +kernel) ⟨by decide, by decide⟩ ?_
  refine z_iadd (pc := 9) (by decide +kernel) ?_
  refine z_putI (pc := 10) 4 fp_Rdr_162 rfl rfl rfl (by decide +kernel) ?_
  refine z_aload_n (pc := 13) (q := 0) (by decide +kernel) rfl ?_
  refine z_bipush (pc := 14) (n := 59) (by decide +kernel) (by decide) ⟨by decide, by decide⟩ ?_
  refine z_callv (pc := 16) (as := [vi 59]) ml_Rdr_154 rfl ⟨rfl, by decide⟩ rfl rfl (Nat.le_of_ble_eq_true rfl) (dc := d - 1) (by omega) (by decide +kernel) (CI.z (CI.mono (fun x1 τ1 k => ?_) k))
  exact z_zret (pc := 19) (by decide +kernel) rfl k
theorem b_Rdr_readLine_0 {E : EN} {d : Nat}  {σ : Mem} {K : Int → Mem → Prop}  (hd : 1 ≤ d) (k : (0 ≤ σ 64 6 ∧ σ 64 6 < 901) ∧ (σ 65 (σ 64 6) = 202 → CI E y_Rdr_readHand (d - 1) [vr 64] σ (fun x2 τ2 => (x2 = 0 ∨ x2 = 1) ∧ K x2 τ2)) ∧ (σ 65 (σ 64 6) = 203 → CI E y_Rdr_fail (d - 1) [vr 64, vi 2] σ (fun x3 τ3 => (x3 = 0 ∨ x3 = 1) ∧ K x3 τ3)) ∧ (σ 65 (σ 64 6) = 204 → CI E y_Rdr_readCourt (d - 1) [vr 64] σ (fun x4 τ4 => (x4 = 0 ∨ x4 = 1) ∧ K x4 τ4)) ∧ (σ 65 (σ 64 6) = 205 → CI E y_Rdr_readLetter (d - 1) [vr 64] σ (fun x5 τ5 => (x5 = 0 ∨ x5 = 1) ∧ K x5 τ5)) ∧ (σ 65 (σ 64 6) = 206 → CI E y_Rdr_fail (d - 1) [vr 64, vi 2] σ (fun x6 τ6 => (x6 = 0 ∨ x6 = 1) ∧ K x6 τ6)) ∧ (σ 65 (σ 64 6) = 207 → CI E y_Rdr_fail (d - 1) [vr 64, vi 2] σ (fun x7 τ7 => (x7 = 0 ∨ x7 = 1) ∧ K x7 τ7)) ∧ (σ 65 (σ 64 6) = 208 → CI E y_Rdr_fail (d - 1) [vr 64, vi 2] σ (fun x8 τ8 => (x8 = 0 ∨ x8 = 1) ∧ K x8 τ8)) ∧ (σ 65 (σ 64 6) = 209 → CI E y_Rdr_fail (d - 1) [vr 64, vi 2] σ (fun x9 τ9 => (x9 = 0 ∨ x9 = 1) ∧ K x9 τ9)) ∧ (σ 65 (σ 64 6) = 210 → CI E y_Rdr_fail (d - 1) [vr 64, vi 2] σ (fun x10 τ10 => (x10 = 0 ∨ x10 = 1) ∧ K x10 τ10)) ∧ (σ 65 (σ 64 6) = 211 → CI E y_Rdr_fail (d - 1) [vr 64, vi 2] σ (fun x11 τ11 => (x11 = 0 ∨ x11 = 1) ∧ K x11 τ11)) ∧ (σ 65 (σ 64 6) = 212 → CI E y_Rdr_fail (d - 1) [vr 64, vi 2] σ (fun x12 τ12 => (x12 = 0 ∨ x12 = 1) ∧ K x12 τ12)) ∧ (σ 65 (σ 64 6) = 213 → CI E y_Rdr_fail (d - 1) [vr 64, vi 2] σ (fun x13 τ13 => (x13 = 0 ∨ x13 = 1) ∧ K x13 τ13)) ∧ (σ 65 (σ 64 6) = 214 → CI E y_Rdr_readLaw (d - 1) [vr 64, vi 0] σ (fun x14 τ14 => (x14 = 0 ∨ x14 = 1) ∧ K x14 τ14)) ∧ (σ 65 (σ 64 6) = 215 → CI E y_Rdr_readLaw (d - 1) [vr 64, vi 1] σ (fun x15 τ15 => (x15 = 0 ∨ x15 = 1) ∧ K x15 τ15)) ∧ (σ 65 (σ 64 6) = 216 → CI E y_Rdr_readLaw (d - 1) [vr 64, vi 2] σ (fun x16 τ16 => (x16 = 0 ∨ x16 = 1) ∧ K x16 τ16)) ∧ (σ 65 (σ 64 6) = 217 → CI E y_Rdr_readLaw (d - 1) [vr 64, vi 3] σ (fun x17 τ17 => (x17 = 0 ∨ x17 = 1) ∧ K x17 τ17)) ∧ (σ 65 (σ 64 6) = 218 → CI E y_Rdr_readPrior (d - 1) [vr 64] σ (fun x18 τ18 => (x18 = 0 ∨ x18 = 1) ∧ K x18 τ18)) ∧ (σ 65 (σ 64 6) = 219 → CI E y_Rdr_readName (d - 1) [vr 64] σ (fun x19 τ19 => (x19 = 0 ∨ x19 = 1) ∧ K x19 τ19)) ∧ (σ 65 (σ 64 6) < 202 ∨ 219 < σ 65 (σ 64 6) → CI E y_Rdr_fail (d - 1) [vr 64, vi 2] σ (fun x1 τ1 => (x1 = 0 ∨ x1 = 1) ∧ K x1 τ1))) :
    Z E y_Rdr_readLine d 0 [some (vr 64)] [] σ (qi K) := by
  refine z_aload_n (pc := 0) (q := 0) (by decide +kernel) rfl ?_
  refine z_getR (pc := 1) 65 fl_Rdr_18 rfl rfl rfl (by decide +kernel) ?_
  refine z_aload_n (pc := 4) (q := 0) (by decide +kernel) rfl ?_
  refine z_getI (pc := 5) 6 fl_Rdr_28 rfl (by decide) rfl (by decide +kernel) ?_
  have hb1 := k.1
  have k := k.2
  refine z_iald (pc := 8) rfl hb1 (by decide +kernel) ?_
  have hdg : decode y_Rdr_readLine.2.1 9 = .ok (.tableswitch 136 202 219 #[87, 136, 92, 97, 136, 136, 136, 136, 136, 136, 136, 136, 102, 108, 114, 120, 126, 131], 87) := by decide +kernel
  by_cases hl0 : σ 65 (σ 64 6) < 202
  · have k := k.2.2.2.2.2.2.2.2.2.2.2.2.2.2.2.2.2.2 (Or.inl hl0)
    refine z_tableOut (pc := 9) 145 hdg (Or.inl hl0) (by decide) ?_
    refine z_aload_n (pc := 145) (q := 0) (by decide +kernel) rfl ?_
    refine z_iconst (pc := 146) (n := 2) (by decide +kernel) ⟨by decide, by decide⟩ ?_
    refine z_callv (pc := 147) (as := [vi 2]) ml_Rdr_183 rfl ⟨rfl, by decide⟩ rfl rfl (Nat.le_of_ble_eq_true rfl) (dc := d - 1) (by omega) (by decide +kernel) (CI.z (CI.mono (fun x1 τ1 k => ?_) k))
    exact z_zret (pc := 150) (by decide +kernel) rfl k
  have hl : 202 ≤ σ 65 (σ 64 6) := Int.not_lt.mp hl0
  by_cases hc : σ 65 (σ 64 6) = 202
  · have k := k.1 hc
    refine z_tableIn2 (pc := 9) (off := 87) 96 hdg hc (by decide) (by decide +kernel) (by decide) ?_
    refine z_aload_n (pc := 96) (q := 0) (by decide +kernel) rfl ?_
    refine z_callv (pc := 97) (as := []) ml_Rdr_165 rfl ⟨rfl, by decide⟩ rfl rfl (Nat.le_of_ble_eq_true rfl) (dc := d - 1) (by omega) (by decide +kernel) (CI.z (CI.mono (fun x2 τ2 k => ?_) k))
    exact z_zret (pc := 100) (by decide +kernel) rfl k
  have k := k.2
  have hl := ne_up (w := 203) hl hc rfl; clear hc
  by_cases hc : σ 65 (σ 64 6) = 203
  · have k := k.1 hc
    refine z_tableIn2 (pc := 9) (off := 136) 145 hdg hc (by decide) (by decide +kernel) (by decide) ?_
    refine z_aload_n (pc := 145) (q := 0) (by decide +kernel) rfl ?_
    refine z_iconst (pc := 146) (n := 2) (by decide +kernel) ⟨by decide, by decide⟩ ?_
    refine z_callv (pc := 147) (as := [vi 2]) ml_Rdr_183 rfl ⟨rfl, by decide⟩ rfl rfl (Nat.le_of_ble_eq_true rfl) (dc := d - 1) (by omega) (by decide +kernel) (CI.z (CI.mono (fun x3 τ3 k => ?_) k))
    exact z_zret (pc := 150) (by decide +kernel) rfl k
  have k := k.2
  have hl := ne_up (w := 204) hl hc rfl; clear hc
  by_cases hc : σ 65 (σ 64 6) = 204
  · have k := k.1 hc
    refine z_tableIn2 (pc := 9) (off := 92) 101 hdg hc (by decide) (by decide +kernel) (by decide) ?_
    refine z_aload_n (pc := 101) (q := 0) (by decide +kernel) rfl ?_
    refine z_callv (pc := 102) (as := []) ml_Rdr_168 rfl ⟨rfl, by decide⟩ rfl rfl (Nat.le_of_ble_eq_true rfl) (dc := d - 1) (by omega) (by decide +kernel) (CI.z (CI.mono (fun x4 τ4 k => ?_) k))
    exact z_zret (pc := 105) (by decide +kernel) rfl k
  have k := k.2
  have hl := ne_up (w := 205) hl hc rfl; clear hc
  by_cases hc : σ 65 (σ 64 6) = 205
  · have k := k.1 hc
    refine z_tableIn2 (pc := 9) (off := 97) 106 hdg hc (by decide) (by decide +kernel) (by decide) ?_
    refine z_aload_n (pc := 106) (q := 0) (by decide +kernel) rfl ?_
    refine z_callv (pc := 107) (as := []) ml_Rdr_171 rfl ⟨rfl, by decide⟩ rfl rfl (Nat.le_of_ble_eq_true rfl) (dc := d - 1) (by omega) (by decide +kernel) (CI.z (CI.mono (fun x5 τ5 k => ?_) k))
    exact z_zret (pc := 110) (by decide +kernel) rfl k
  have k := k.2
  have hl := ne_up (w := 206) hl hc rfl; clear hc
  by_cases hc : σ 65 (σ 64 6) = 206
  · have k := k.1 hc
    refine z_tableIn2 (pc := 9) (off := 136) 145 hdg hc (by decide) (by decide +kernel) (by decide) ?_
    refine z_aload_n (pc := 145) (q := 0) (by decide +kernel) rfl ?_
    refine z_iconst (pc := 146) (n := 2) (by decide +kernel) ⟨by decide, by decide⟩ ?_
    refine z_callv (pc := 147) (as := [vi 2]) ml_Rdr_183 rfl ⟨rfl, by decide⟩ rfl rfl (Nat.le_of_ble_eq_true rfl) (dc := d - 1) (by omega) (by decide +kernel) (CI.z (CI.mono (fun x6 τ6 k => ?_) k))
    exact z_zret (pc := 150) (by decide +kernel) rfl k
  have k := k.2
  have hl := ne_up (w := 207) hl hc rfl; clear hc
  by_cases hc : σ 65 (σ 64 6) = 207
  · have k := k.1 hc
    refine z_tableIn2 (pc := 9) (off := 136) 145 hdg hc (by decide) (by decide +kernel) (by decide) ?_
    refine z_aload_n (pc := 145) (q := 0) (by decide +kernel) rfl ?_
    refine z_iconst (pc := 146) (n := 2) (by decide +kernel) ⟨by decide, by decide⟩ ?_
    refine z_callv (pc := 147) (as := [vi 2]) ml_Rdr_183 rfl ⟨rfl, by decide⟩ rfl rfl (Nat.le_of_ble_eq_true rfl) (dc := d - 1) (by omega) (by decide +kernel) (CI.z (CI.mono (fun x7 τ7 k => ?_) k))
    exact z_zret (pc := 150) (by decide +kernel) rfl k
  have k := k.2
  have hl := ne_up (w := 208) hl hc rfl; clear hc
  by_cases hc : σ 65 (σ 64 6) = 208
  · have k := k.1 hc
    refine z_tableIn2 (pc := 9) (off := 136) 145 hdg hc (by decide) (by decide +kernel) (by decide) ?_
    refine z_aload_n (pc := 145) (q := 0) (by decide +kernel) rfl ?_
    refine z_iconst (pc := 146) (n := 2) (by decide +kernel) ⟨by decide, by decide⟩ ?_
    refine z_callv (pc := 147) (as := [vi 2]) ml_Rdr_183 rfl ⟨rfl, by decide⟩ rfl rfl (Nat.le_of_ble_eq_true rfl) (dc := d - 1) (by omega) (by decide +kernel) (CI.z (CI.mono (fun x8 τ8 k => ?_) k))
    exact z_zret (pc := 150) (by decide +kernel) rfl k
  have k := k.2
  have hl := ne_up (w := 209) hl hc rfl; clear hc
  by_cases hc : σ 65 (σ 64 6) = 209
  · have k := k.1 hc
    refine z_tableIn2 (pc := 9) (off := 136) 145 hdg hc (by decide) (by decide +kernel) (by decide) ?_
    refine z_aload_n (pc := 145) (q := 0) (by decide +kernel) rfl ?_
    refine z_iconst (pc := 146) (n := 2) (by decide +kernel) ⟨by decide, by decide⟩ ?_
    refine z_callv (pc := 147) (as := [vi 2]) ml_Rdr_183 rfl ⟨rfl, by decide⟩ rfl rfl (Nat.le_of_ble_eq_true rfl) (dc := d - 1) (by omega) (by decide +kernel) (CI.z (CI.mono (fun x9 τ9 k => ?_) k))
    exact z_zret (pc := 150) (by decide +kernel) rfl k
  have k := k.2
  have hl := ne_up (w := 210) hl hc rfl; clear hc
  by_cases hc : σ 65 (σ 64 6) = 210
  · have k := k.1 hc
    refine z_tableIn2 (pc := 9) (off := 136) 145 hdg hc (by decide) (by decide +kernel) (by decide) ?_
    refine z_aload_n (pc := 145) (q := 0) (by decide +kernel) rfl ?_
    refine z_iconst (pc := 146) (n := 2) (by decide +kernel) ⟨by decide, by decide⟩ ?_
    refine z_callv (pc := 147) (as := [vi 2]) ml_Rdr_183 rfl ⟨rfl, by decide⟩ rfl rfl (Nat.le_of_ble_eq_true rfl) (dc := d - 1) (by omega) (by decide +kernel) (CI.z (CI.mono (fun x10 τ10 k => ?_) k))
    exact z_zret (pc := 150) (by decide +kernel) rfl k
  have k := k.2
  have hl := ne_up (w := 211) hl hc rfl; clear hc
  by_cases hc : σ 65 (σ 64 6) = 211
  · have k := k.1 hc
    refine z_tableIn2 (pc := 9) (off := 136) 145 hdg hc (by decide) (by decide +kernel) (by decide) ?_
    refine z_aload_n (pc := 145) (q := 0) (by decide +kernel) rfl ?_
    refine z_iconst (pc := 146) (n := 2) (by decide +kernel) ⟨by decide, by decide⟩ ?_
    refine z_callv (pc := 147) (as := [vi 2]) ml_Rdr_183 rfl ⟨rfl, by decide⟩ rfl rfl (Nat.le_of_ble_eq_true rfl) (dc := d - 1) (by omega) (by decide +kernel) (CI.z (CI.mono (fun x11 τ11 k => ?_) k))
    exact z_zret (pc := 150) (by decide +kernel) rfl k
  have k := k.2
  have hl := ne_up (w := 212) hl hc rfl; clear hc
  by_cases hc : σ 65 (σ 64 6) = 212
  · have k := k.1 hc
    refine z_tableIn2 (pc := 9) (off := 136) 145 hdg hc (by decide) (by decide +kernel) (by decide) ?_
    refine z_aload_n (pc := 145) (q := 0) (by decide +kernel) rfl ?_
    refine z_iconst (pc := 146) (n := 2) (by decide +kernel) ⟨by decide, by decide⟩ ?_
    refine z_callv (pc := 147) (as := [vi 2]) ml_Rdr_183 rfl ⟨rfl, by decide⟩ rfl rfl (Nat.le_of_ble_eq_true rfl) (dc := d - 1) (by omega) (by decide +kernel) (CI.z (CI.mono (fun x12 τ12 k => ?_) k))
    exact z_zret (pc := 150) (by decide +kernel) rfl k
  have k := k.2
  have hl := ne_up (w := 213) hl hc rfl; clear hc
  by_cases hc : σ 65 (σ 64 6) = 213
  · have k := k.1 hc
    refine z_tableIn2 (pc := 9) (off := 136) 145 hdg hc (by decide) (by decide +kernel) (by decide) ?_
    refine z_aload_n (pc := 145) (q := 0) (by decide +kernel) rfl ?_
    refine z_iconst (pc := 146) (n := 2) (by decide +kernel) ⟨by decide, by decide⟩ ?_
    refine z_callv (pc := 147) (as := [vi 2]) ml_Rdr_183 rfl ⟨rfl, by decide⟩ rfl rfl (Nat.le_of_ble_eq_true rfl) (dc := d - 1) (by omega) (by decide +kernel) (CI.z (CI.mono (fun x13 τ13 k => ?_) k))
    exact z_zret (pc := 150) (by decide +kernel) rfl k
  have k := k.2
  have hl := ne_up (w := 214) hl hc rfl; clear hc
  by_cases hc : σ 65 (σ 64 6) = 214
  · have k := k.1 hc
    refine z_tableIn2 (pc := 9) (off := 102) 111 hdg hc (by decide) (by decide +kernel) (by decide) ?_
    refine z_aload_n (pc := 111) (q := 0) (by decide +kernel) rfl ?_
    refine z_iconst (pc := 112) (n := 0) (by decide +kernel) ⟨by decide, by decide⟩ ?_
    refine z_callv (pc := 113) (as := [vi 0]) ml_Rdr_174 rfl ⟨rfl, by decide⟩ rfl rfl (Nat.le_of_ble_eq_true rfl) (dc := d - 1) (by omega) (by decide +kernel) (CI.z (CI.mono (fun x14 τ14 k => ?_) k))
    exact z_zret (pc := 116) (by decide +kernel) rfl k
  have k := k.2
  have hl := ne_up (w := 215) hl hc rfl; clear hc
  by_cases hc : σ 65 (σ 64 6) = 215
  · have k := k.1 hc
    refine z_tableIn2 (pc := 9) (off := 108) 117 hdg hc (by decide) (by decide +kernel) (by decide) ?_
    refine z_aload_n (pc := 117) (q := 0) (by decide +kernel) rfl ?_
    refine z_iconst (pc := 118) (n := 1) (by decide +kernel) ⟨by decide, by decide⟩ ?_
    refine z_callv (pc := 119) (as := [vi 1]) ml_Rdr_174 rfl ⟨rfl, by decide⟩ rfl rfl (Nat.le_of_ble_eq_true rfl) (dc := d - 1) (by omega) (by decide +kernel) (CI.z (CI.mono (fun x15 τ15 k => ?_) k))
    exact z_zret (pc := 122) (by decide +kernel) rfl k
  have k := k.2
  have hl := ne_up (w := 216) hl hc rfl; clear hc
  by_cases hc : σ 65 (σ 64 6) = 216
  · have k := k.1 hc
    refine z_tableIn2 (pc := 9) (off := 114) 123 hdg hc (by decide) (by decide +kernel) (by decide) ?_
    refine z_aload_n (pc := 123) (q := 0) (by decide +kernel) rfl ?_
    refine z_iconst (pc := 124) (n := 2) (by decide +kernel) ⟨by decide, by decide⟩ ?_
    refine z_callv (pc := 125) (as := [vi 2]) ml_Rdr_174 rfl ⟨rfl, by decide⟩ rfl rfl (Nat.le_of_ble_eq_true rfl) (dc := d - 1) (by omega) (by decide +kernel) (CI.z (CI.mono (fun x16 τ16 k => ?_) k))
    exact z_zret (pc := 128) (by decide +kernel) rfl k
  have k := k.2
  have hl := ne_up (w := 217) hl hc rfl; clear hc
  by_cases hc : σ 65 (σ 64 6) = 217
  · have k := k.1 hc
    refine z_tableIn2 (pc := 9) (off := 120) 129 hdg hc (by decide) (by decide +kernel) (by decide) ?_
    refine z_aload_n (pc := 129) (q := 0) (by decide +kernel) rfl ?_
    refine z_iconst (pc := 130) (n := 3) (by decide +kernel) ⟨by decide, by decide⟩ ?_
    refine z_callv (pc := 131) (as := [vi 3]) ml_Rdr_174 rfl ⟨rfl, by decide⟩ rfl rfl (Nat.le_of_ble_eq_true rfl) (dc := d - 1) (by omega) (by decide +kernel) (CI.z (CI.mono (fun x17 τ17 k => ?_) k))
    exact z_zret (pc := 134) (by decide +kernel) rfl k
  have k := k.2
  have hl := ne_up (w := 218) hl hc rfl; clear hc
  by_cases hc : σ 65 (σ 64 6) = 218
  · have k := k.1 hc
    refine z_tableIn2 (pc := 9) (off := 126) 135 hdg hc (by decide) (by decide +kernel) (by decide) ?_
    refine z_aload_n (pc := 135) (q := 0) (by decide +kernel) rfl ?_
    refine z_callv (pc := 136) (as := []) ml_Rdr_177 rfl ⟨rfl, by decide⟩ rfl rfl (Nat.le_of_ble_eq_true rfl) (dc := d - 1) (by omega) (by decide +kernel) (CI.z (CI.mono (fun x18 τ18 k => ?_) k))
    exact z_zret (pc := 139) (by decide +kernel) rfl k
  have k := k.2
  have hl := ne_up (w := 219) hl hc rfl; clear hc
  by_cases hc : σ 65 (σ 64 6) = 219
  · have k := k.1 hc
    refine z_tableIn2 (pc := 9) (off := 131) 140 hdg hc (by decide) (by decide +kernel) (by decide) ?_
    refine z_aload_n (pc := 140) (q := 0) (by decide +kernel) rfl ?_
    refine z_callv (pc := 141) (as := []) ml_Rdr_180 rfl ⟨rfl, by decide⟩ rfl rfl (Nat.le_of_ble_eq_true rfl) (dc := d - 1) (by omega) (by decide +kernel) (CI.z (CI.mono (fun x19 τ19 k => ?_) k))
    exact z_zret (pc := 144) (by decide +kernel) rfl k
  have k := k.2
  have hl := ne_up (w := 220) hl hc rfl; clear hc
  have hl := Int.lt_of_add_one_le (a := 219) hl
  have k := k (Or.inr hl)
  refine z_tableOut (pc := 9) 145 hdg (Or.inr hl) (by decide) ?_
  refine z_aload_n (pc := 145) (q := 0) (by decide +kernel) rfl ?_
  refine z_iconst (pc := 146) (n := 2) (by decide +kernel) ⟨by decide, by decide⟩ ?_
  refine z_callv (pc := 147) (as := [vi 2]) ml_Rdr_183 rfl ⟨rfl, by decide⟩ rfl rfl (Nat.le_of_ble_eq_true rfl) (dc := d - 1) (by omega) (by decide +kernel) (CI.z (CI.mono (fun x1 τ1 k => ?_) k))
  exact z_zret (pc := 150) (by decide +kernel) rfl k
theorem b_Rdr_readHand_0 {E : EN} {d : Nat}  {σ : Mem} {K : Int → Mem → Prop}  (hd : 1 ≤ d) (k : (σ 14 1 < 3 → CI E y_Rdr_takeNumber (d - 1) [vr 64, vi 0, vi 3] (up σ 64 6 (w32 ((σ 64 6) + 1))) (fun x1 τ1 => (0 ≤ σ 14 1 ∧ σ 14 1 < 3) ∧ Z E y_Rdr_readHand d 48 [some (vr 64), some (vi (σ 14 1)), some (vi 0)] [] (up τ1 15 (σ 14 1) (ish 1 x1)) (qi K))) ∧ (3 ≤ σ 14 1 → CI E y_Rdr_fail (d - 1) [vr 64, vi 4] σ (fun x2 τ2 => (x2 = 0 ∨ x2 = 1) ∧ K x2 τ2))) :
    Z E y_Rdr_readHand d 0 [some (vr 64), none, none] [] σ (qi K) := by
  refine z_aload_n (pc := 0) (q := 0) (by decide +kernel) rfl ?_
  refine z_getR (pc := 1) 14 fl_Rdr_42 rfl rfl rfl (by decide +kernel) ?_
  refine z_getI (pc := 4) 1 fl_Rdr_186 rfl (by decide) rfl (by decide +kernel) ?_
  refine z_istore_n (pc := 7) (q := 1) [some (vr 64), some (vi (σ 14 1)), none] (by decide +kernel) (Nat.le_of_ble_eq_true rfl) rfl ?_
  refine z_iload_n (pc := 8) (q := 1) (by decide +kernel) rfl ?_
  refine z_iconst (pc := 9) (n := 3) (by decide +kernel) ⟨by decide, by decide⟩ ?_
  refine z_icmp_lt (pc := 10) (off := 9) 19 (by decide +kernel) (by decide) ⟨fun hc => ?_, fun hc => ?_⟩
  · have k := k.1 hc
    refine z_aload_n (pc := 19) (q := 0) (by decide +kernel) rfl ?_
    refine z_dup (pc := 20) (by decide +kernel) rfl ?_
    refine z_getI (pc := 21) 6 fl_Rdr_28 rfl (by decide) rfl (by decide +kernel) ?_
    refine z_iconst (pc := 24) (n := 1) (by decide +kernel) ⟨by decide, by decide⟩ ?_
    refine z_iadd (pc := 25) (by decide +kernel) ?_
    refine z_putI (pc := 26) 6 fp_Rdr_28 rfl rfl rfl (by decide +kernel) ?_
    refine z_aload_n (pc := 29) (q := 0) (by decide +kernel) rfl ?_
    refine z_getR (pc := 30) 14 fl_Rdr_42 rfl rfl rfl (by decide +kernel) ?_
    refine z_getR (pc := 33) 15 fl_Rdr_189 rfl rfl rfl (by decide +kernel) ?_
    refine z_iload_n (pc := 36) (q := 1) (by decide +kernel) rfl ?_
    refine z_iconst (pc := 37) (n := 1) (by decide +kernel) ⟨by decide, by decide⟩ ?_
    refine z_aload_n (pc := 38) (q := 0) (by decide +kernel) rfl ?_
    refine z_iconst (pc := 39) (n := 0) (by decide +kernel) ⟨by decide, by decide⟩ ?_
    refine z_iconst (pc := 40) (n := 3) (by decide +kernel) ⟨by decide, by decide⟩ ?_
    refine z_callv (pc := 41) (as := [vi 0, vi 3]) ml_Rdr_157 rfl ⟨rfl, by decide⟩ rfl rfl (Nat.le_of_ble_eq_true rfl) (dc := d - 1) (by omega) (by decide +kernel) (CI.z (CI.mono (fun x1 τ1 k => ?_) k))
    refine z_ishl (pc := 44) (by decide +kernel) ?_
    have hb1 := k.1
    have k := k.2
    refine z_iast (pc := 45) rfl hb1 (by decide +kernel) ?_
    refine z_iconst (pc := 46) (n := 0) (by decide +kernel) ⟨by decide, by decide⟩ ?_
    refine z_istore_n (pc := 47) (q := 2) [some (vr 64), some (vi (σ 14 1)), some (vi 0)] (by decide +kernel) (Nat.le_of_ble_eq_true rfl) rfl ?_
    exact k
  · have k := k.2 hc
    refine z_aload_n (pc := 13) (q := 0) (by decide +kernel) rfl ?_
    refine z_iconst (pc := 14) (n := 4) (by decide +kernel) ⟨by decide, by decide⟩ ?_
    refine z_callv (pc := 15) (as := [vi 4]) ml_Rdr_183 rfl ⟨rfl, by decide⟩ rfl rfl (Nat.le_of_ble_eq_true rfl) (dc := d - 1) (by omega) (by decide +kernel) (CI.z (CI.mono (fun x2 τ2 k => ?_) k))
    exact z_zret (pc := 18) (by decide +kernel) rfl k
theorem b_Rdr_readHand_48 {E : EN} {d : Nat} {a1 : Int} {a2 : Int} {σ : Mem} {K : Int → Mem → Prop}  (hd : 1 ≤ d) (k : (900 ≤ a2 → Z E y_Rdr_readHand d 101 [some (vr 64), some (vi a1), some (vi a2)] [] σ (qi K)) ∧ (a2 < 900 → (σ 64 7 ≠ 0 → Z E y_Rdr_readHand d 101 [some (vr 64), some (vi a1), some (vi a2)] [] σ (qi K)) ∧ (σ 64 7 = 0 → (0 ≤ σ 64 6 ∧ σ 64 6 < 901) ∧ (σ 65 (σ 64 6) ≠ 1 → Z E y_Rdr_readHand d 101 [some (vr 64), some (vi a1), some (vi a2)] [] σ (qi K)) ∧ (σ 65 (σ 64 6) = 1 → (0 ≤ a1 ∧ a1 < 3) ∧ CI E y_Rdr_takeNumber (d - 1) [vr 64, vi 0, vi 3] σ (fun x1 τ1 => Z E y_Rdr_readHand d 48 [some (vr 64), some (vi a1), some (vi (w32 (a2 + 1)))] [] (up τ1 15 a1 (ior (σ 15 a1) (ish 1 x1))) (qi K)))))) :
    Z E y_Rdr_readHand d 48 [some (vr 64), some (vi a1), some (vi a2)] [] σ (qi K) := by
  refine z_iload_n (pc := 48) (q := 2) (by decide +kernel) rfl ?_
  refine z_sipush (pc := 49) (n := 900) (by decide +kernel) (by decide) ⟨by decide, by decide⟩ ?_
  refine z_icmp_ge (pc := 52) (off := 49) 101 (by decide +kernel) (by decide) ⟨fun hc => ?_, fun hc => ?_⟩
  · have k := k.1 hc
    exact k
  · have k := k.2 hc
    refine z_aload_n (pc := 55) (q := 0) (by decide +kernel) rfl ?_
    refine z_getI (pc := 56) 7 fl_Rdr_32 rfl (by decide) rfl (by decide +kernel) ?_
    refine z_if_ne (pc := 59) (off := 42) 101 (by decide +kernel) (by decide) ⟨fun hc => ?_, fun hc => ?_⟩
    · have k := k.1 hc
      exact k
    · have k := k.2 hc
      refine z_aload_n (pc := 62) (q := 0) (by decide +kernel) rfl ?_
      refine z_getR (pc := 63) 65 fl_Rdr_18 rfl rfl rfl (by decide +kernel) ?_
      refine z_aload_n (pc := 66) (q := 0) (by decide +kernel) rfl ?_
      refine z_getI (pc := 67) 6 fl_Rdr_28 rfl (by decide) rfl (by decide +kernel) ?_
      have hb1 := k.1
      have k := k.2
      refine z_iald (pc := 70) rfl hb1 (by decide +kernel) ?_
      refine z_iconst (pc := 71) (n := 1) (by decide +kernel) ⟨by decide, by decide⟩ ?_
      refine z_icmp_ne (pc := 72) (off := 29) 101 (by decide +kernel) (by decide) ⟨fun hc => ?_, fun hc => ?_⟩
      · have k := k.1 hc
        exact k
      · have k := k.2 hc
        refine z_aload_n (pc := 75) (q := 0) (by decide +kernel) rfl ?_
        refine z_getR (pc := 76) 14 fl_Rdr_42 rfl rfl rfl (by decide +kernel) ?_
        refine z_getR (pc := 79) 15 fl_Rdr_189 rfl rfl rfl (by decide +kernel) ?_
        refine z_iload_n (pc := 82) (q := 1) (by decide +kernel) rfl ?_
        refine z_dup2 (pc := 83) (by decide +kernel) rfl rfl ?_
        have hb2 := k.1
        have k := k.2
        refine z_iald (pc := 84) rfl hb2 (by decide +kernel) ?_
        refine z_iconst (pc := 85) (n := 1) (by decide +kernel) ⟨by decide, by decide⟩ ?_
        refine z_aload_n (pc := 86) (q := 0) (by decide +kernel) rfl ?_
        refine z_iconst (pc := 87) (n := 0) (by decide +kernel) ⟨by decide, by decide⟩ ?_
        refine z_iconst (pc := 88) (n := 3) (by decide +kernel) ⟨by decide, by decide⟩ ?_
        refine z_callv (pc := 89) (as := [vi 0, vi 3]) ml_Rdr_157 rfl ⟨rfl, by decide⟩ rfl rfl (Nat.le_of_ble_eq_true rfl) (dc := d - 1) (by omega) (by decide +kernel) (CI.z (CI.mono (fun x1 τ1 k => ?_) k))
        refine z_ishl (pc := 92) (by decide +kernel) ?_
        refine z_ior (pc := 93) (by decide +kernel) ?_
        refine z_iast (pc := 94) rfl hb2 (by decide +kernel) ?_
        refine z_iinc (pc := 95) (i := 2) (n := 1) [some (vr 64), some (vi a1), some (vi (w32 (a2 + 1)))] (by decide +kernel) rfl rfl ?_
        refine z_goto (pc := 98) (off := -50) 48 (by decide +kernel) (by decide) ?_
        exact k
theorem b_Rdr_readHand_101 {E : EN} {d : Nat} {a1 : Int} {o2 : Option AV} {σ : Mem} {K : Int → Mem → Prop}  (hd : 1 ≤ d) (k : (σ 64 7 ≠ 0 → Z E y_Rdr_readHand d 149 [some (vr 64), some (vi a1), o2] [] σ (qi K)) ∧ (σ 64 7 = 0 → (0 ≤ σ 64 6 ∧ σ 64 6 < 901) ∧ (σ 65 (σ 64 6) ≠ 203 → Z E y_Rdr_readHand d 149 [some (vr 64), some (vi a1), o2] [] σ (qi K)) ∧ (σ 65 (σ 64 6) = 203 → CI E y_Rdr_takeNumber (d - 1) [vr 64, vi 0, vi 9] (up σ 64 6 (w32 ((σ 64 6) + 1))) (fun x1 τ1 => (0 ≤ a1 ∧ a1 < 3) ∧ Z E y_Rdr_readHand d 149 [some (vr 64), some (vi a1), o2] [] (up τ1 16 a1 x1) (qi K))))) :
    Z E y_Rdr_readHand d 101 [some (vr 64), some (vi a1), o2] [] σ (qi K) := by
  refine z_aload_n (pc := 101) (q := 0) (by decide +kernel) rfl ?_
  refine z_getI (pc := 102) 7 fl_Rdr_32 rfl (by decide) rfl (by decide +kernel) ?_
  refine z_if_ne (pc := 105) (off := 44) 149 (by decide +kernel) (by decide) ⟨fun hc => ?_, fun hc => ?_⟩
  · have k := k.1 hc
    exact k
  · have k := k.2 hc
    refine z_aload_n (pc := 108) (q := 0) (by decide +kernel) rfl ?_
    refine z_getR (pc := 109) 65 fl_Rdr_18 rfl rfl rfl (by decide +kernel) ?_
    refine z_aload_n (pc := 112) (q := 0) (by decide +kernel) rfl ?_
    refine z_getI (pc := 113) 6 fl_Rdr_28 rfl (by decide) rfl (by decide +kernel) ?_
    have hb1 := k.1
    have k := k.2
    refine z_iald (pc := 116) rfl hb1 (by decide +kernel) ?_
    refine z_sipush (pc := 117) (n := 203) (by decide +kernel) (by decide) ⟨by decide, by decide⟩ ?_
    refine z_icmp_ne (pc := 120) (off := 29) 149 (by decide +kernel) (by decide) ⟨fun hc => ?_, fun hc => ?_⟩
    · have k := k.1 hc
      exact k
    · have k := k.2 hc
      refine z_aload_n (pc := 123) (q := 0) (by decide +kernel) rfl ?_
      refine z_dup (pc := 124) (by decide +kernel) rfl ?_
      refine z_getI (pc := 125) 6 fl_Rdr_28 rfl (by decide) rfl (by decide +kernel) ?_
      refine z_iconst (pc := 128) (n := 1) (by decide +kernel) ⟨by decide, by decide⟩ ?_
      refine z_iadd (pc := 129) (by decide +kernel) ?_
      refine z_putI (pc := 130) 6 fp_Rdr_28 rfl rfl rfl (by decide +kernel) ?_
      refine z_aload_n (pc := 133) (q := 0) (by decide +kernel) rfl ?_
      refine z_getR (pc := 134) 14 fl_Rdr_42 rfl rfl rfl (by decide +kernel) ?_
      refine z_getR (pc := 137) 16 fl_Rdr_192 rfl rfl rfl (by decide +kernel) ?_
      refine z_iload_n (pc := 140) (q := 1) (by decide +kernel) rfl ?_
      refine z_aload_n (pc := 141) (q := 0) (by decide +kernel) rfl ?_
      refine z_iconst (pc := 142) (n := 0) (by decide +kernel) ⟨by decide, by decide⟩ ?_
      refine z_bipush (pc := 143) (n := 9) (by decide +kernel) (by decide) ⟨by decide, by decide⟩ ?_
      refine z_callv (pc := 145) (as := [vi 0, vi 9]) ml_Rdr_157 rfl ⟨rfl, by decide⟩ rfl rfl (Nat.le_of_ble_eq_true rfl) (dc := d - 1) (by omega) (by decide +kernel) (CI.z (CI.mono (fun x1 τ1 k => ?_) k))
      have hb2 := k.1
      have k := k.2
      refine z_iast (pc := 148) rfl hb2 (by decide +kernel) ?_
      exact k
theorem b_Rdr_readHand_149 {E : EN} {d : Nat} {o1 : Option AV} {o2 : Option AV} {σ : Mem} {K : Int → Mem → Prop}  (k : (σ 64 7 ≠ 0 → K 0 (up σ 14 1 (w32 ((σ 14 1) + 1)))) ∧ (σ 64 7 = 0 → K 1 (up σ 14 1 (w32 ((σ 14 1) + 1))))) :
    Z E y_Rdr_readHand d 149 [some (vr 64), o1, o2] [] σ (qi K) := by
  refine z_aload_n (pc := 149) (q := 0) (by decide +kernel) rfl ?_
  refine z_getR (pc := 150) 14 fl_Rdr_42 rfl rfl rfl (by decide +kernel) ?_
  refine z_dup (pc := 153) (by decide +kernel) rfl ?_
  refine z_getI (pc := 154) 1 fl_Rdr_186 rfl (by decide) rfl (by decide +kernel) ?_
  refine z_iconst (pc := 157) (n := 1) (by decide +kernel) ⟨by decide, by decide⟩ ?_
  refine z_iadd (pc := 158) (by decide +kernel) ?_
  refine z_putI (pc := 159) 1 fp_Rdr_186 rfl rfl rfl (by decide +kernel) ?_
  refine z_aload_n (pc := 162) (q := 0) (by decide +kernel) rfl ?_
  refine z_getI (pc := 163) 7 fl_Rdr_32 rfl (by decide) rfl (by decide +kernel) ?_
  refine z_topI (up_nc (by decide)) ?_
  refine z_if_ne (pc := 166) (off := 7) 173 (by decide +kernel) (by decide) ⟨fun hc => ?_, fun hc => ?_⟩
  · have k := k.1 hc
    refine z_iconst (pc := 173) (n := 0) (by decide +kernel) ⟨by decide, by decide⟩ ?_
    exact z_zret (pc := 174) (by decide +kernel) rfl ⟨by decide, k⟩
  · have k := k.2 hc
    refine z_iconst (pc := 169) (n := 1) (by decide +kernel) ⟨by decide, by decide⟩ ?_
    refine z_goto (pc := 170) (off := 4) 174 (by decide +kernel) (by decide) ?_
    exact z_zret (pc := 174) (by decide +kernel) rfl ⟨by decide, k⟩
theorem b_Rdr_readCourt_0 {E : EN} {d : Nat}  {σ : Mem} {K : Int → Mem → Prop}  (hd : 1 ≤ d) (k : (σ 14 2 < 4 → CI E y_Rdr_takeNumber (d - 1) [vr 64, vi 0, vi 100] (up σ 64 6 (w32 ((σ 64 6) + 1))) (fun x1 τ1 => (0 ≤ σ 14 2 ∧ σ 14 2 < 4) ∧ (τ1 64 7 ≠ 0 → K 0 (up (up τ1 17 (σ 14 2) x1) 14 2 (w32 ((τ1 14 2) + 1)))) ∧ (τ1 64 7 = 0 → K 1 (up (up τ1 17 (σ 14 2) x1) 14 2 (w32 ((τ1 14 2) + 1)))))) ∧ (4 ≤ σ 14 2 → CI E y_Rdr_fail (d - 1) [vr 64, vi 4] σ (fun x2 τ2 => (x2 = 0 ∨ x2 = 1) ∧ K x2 τ2))) :
    Z E y_Rdr_readCourt d 0 [some (vr 64), none] [] σ (qi K) := by
  refine z_aload_n (pc := 0) (q := 0) (by decide +kernel) rfl ?_
  refine z_getR (pc := 1) 14 fl_Rdr_42 rfl rfl rfl (by decide +kernel) ?_
  refine z_getI (pc := 4) 2 fl_Rdr_195 rfl (by decide) rfl (by decide +kernel) ?_
  refine z_istore_n (pc := 7) (q := 1) [some (vr 64), some (vi (σ 14 2))] (by decide +kernel) (Nat.le_of_ble_eq_true rfl) rfl ?_
  refine z_iload_n (pc := 8) (q := 1) (by decide +kernel) rfl ?_
  refine z_iconst (pc := 9) (n := 4) (by decide +kernel) ⟨by decide, by decide⟩ ?_
  refine z_icmp_lt (pc := 10) (off := 9) 19 (by decide +kernel) (by decide) ⟨fun hc => ?_, fun hc => ?_⟩
  · have k := k.1 hc
    refine z_aload_n (pc := 19) (q := 0) (by decide +kernel) rfl ?_
    refine z_dup (pc := 20) (by decide +kernel) rfl ?_
    refine z_getI (pc := 21) 6 fl_Rdr_28 rfl (by decide) rfl (by decide +kernel) ?_
    refine z_iconst (pc := 24) (n := 1) (by decide +kernel) ⟨by decide, by decide⟩ ?_
    refine z_iadd (pc := 25) (by decide +kernel) ?_
    refine z_putI (pc := 26) 6 fp_Rdr_28 rfl rfl rfl (by decide +kernel) ?_
    refine z_aload_n (pc := 29) (q := 0) (by decide +kernel) rfl ?_
    refine z_getR (pc := 30) 14 fl_Rdr_42 rfl rfl rfl (by decide +kernel) ?_
    refine z_getR (pc := 33) 17 fl_Rdr_198 rfl rfl rfl (by decide +kernel) ?_
    refine z_iload_n (pc := 36) (q := 1) (by decide +kernel) rfl ?_
    refine z_aload_n (pc := 37) (q := 0) (by decide +kernel) rfl ?_
    refine z_iconst (pc := 38) (n := 0) (by decide +kernel) ⟨by decide, by decide⟩ ?_
    refine z_bipush (pc := 39) (n := 100) (by decide +kernel) (by decide) ⟨by decide, by decide⟩ ?_
    refine z_callv (pc := 41) (as := [vi 0, vi 100]) ml_Rdr_157 rfl ⟨rfl, by decide⟩ rfl rfl (Nat.le_of_ble_eq_true rfl) (dc := d - 1) (by omega) (by decide +kernel) (CI.z (CI.mono (fun x1 τ1 k => ?_) k))
    have hb1 := k.1
    have k := k.2
    refine z_iast (pc := 44) rfl hb1 (by decide +kernel) ?_
    refine z_aload_n (pc := 45) (q := 0) (by decide +kernel) rfl ?_
    refine z_getR (pc := 46) 14 fl_Rdr_42 rfl rfl rfl (by decide +kernel) ?_
    refine z_dup (pc := 49) (by decide +kernel) rfl ?_
    refine z_getI (pc := 50) 2 fl_Rdr_195 rfl (by decide) rfl (by decide +kernel) ?_
    refine z_topI (up_nc (by decide)) ?_
    refine z_iconst (pc := 53) (n := 1) (by decide +kernel) ⟨by decide, by decide⟩ ?_
    refine z_iadd (pc := 54) (by decide +kernel) ?_
    refine z_putI (pc := 55) 2 fp_Rdr_195 rfl rfl rfl (by decide +kernel) ?_
    refine z_aload_n (pc := 58) (q := 0) (by decide +kernel) rfl ?_
    refine z_getI (pc := 59) 7 fl_Rdr_32 rfl (by decide) rfl (by decide +kernel) ?_
    refine z_topI ((up_nc (by decide)).trans (up_nc (by decide))) ?_
    refine z_if_ne (pc := 62) (off := 7) 69 (by decide +kernel) (by decide) ⟨fun hc => ?_, fun hc => ?_⟩
    · have k := k.1 hc
      refine z_iconst (pc := 69) (n := 0) (by decide +kernel) ⟨by decide, by decide⟩ ?_
      exact z_zret (pc := 70) (by decide +kernel) rfl ⟨by decide, k⟩
    · have k := k.2 hc
      refine z_iconst (pc := 65) (n := 1) (by decide +kernel) ⟨by decide, by decide⟩ ?_
      refine z_goto (pc := 66) (off := 4) 70 (by decide +kernel) (by decide) ?_
      exact z_zret (pc := 70) (by decide +kernel) rfl ⟨by decide, k⟩
  · have k := k.2 hc
    refine z_aload_n (pc := 13) (q := 0) (by decide +kernel) rfl ?_
    refine z_iconst (pc := 14) (n := 4) (by decide +kernel) ⟨by decide, by decide⟩ ?_
    refine z_callv (pc := 15) (as := [vi 4]) ml_Rdr_183 rfl ⟨rfl, by decide⟩ rfl rfl (Nat.le_of_ble_eq_true rfl) (dc := d - 1) (by omega) (by decide +kernel) (CI.z (CI.mono (fun x2 τ2 k => ?_) k))
    exact z_zret (pc := 18) (by decide +kernel) rfl k
theorem b_Rdr_readLetter_0 {E : EN} {d : Nat}  {σ : Mem} {K : Int → Mem → Prop}  (hd : 1 ≤ d) (k : (σ 14 3 < 6 → CI E y_Rdr_takeNumber (d - 1) [vr 64, vi 0, vi (w32 ((σ 14 2) - 1))] (up σ 64 6 (w32 ((σ 64 6) + 1))) (fun x1 τ1 => (0 ≤ w32 ((w32 ((σ 14 3) * 7)) + 0) ∧ w32 ((w32 ((σ 14 3) * 7)) + 0) < 42) ∧ (τ1 64 7 ≠ 0 → K 0 (up τ1 18 (w32 ((w32 ((σ 14 3) * 7)) + 0)) x1)) ∧ (τ1 64 7 = 0 → CI E y_Rdr_takeToken (d - 1) [vr 64, vi 206] (up τ1 18 (w32 ((w32 ((σ 14 3) * 7)) + 0)) x1) (fun x2 τ2 => (x2 ≠ 0 → CI E y_Rdr_takeNumber (d - 1) [vr 64, vi 0, vi 3] τ2 (fun x3 τ3 => (0 ≤ w32 ((w32 ((σ 14 3) * 7)) + 1) ∧ w32 ((w32 ((σ 14 3) * 7)) + 1) < 42) ∧ (0 ≤ w32 ((w32 ((σ 14 3) * 7)) + 2) ∧ w32 ((w32 ((σ 14 3) * 7)) + 2) < 42) ∧ (0 ≤ w32 ((w32 ((σ 14 3) * 7)) + 3) ∧ w32 ((w32 ((σ 14 3) * 7)) + 3) < 42) ∧ Z E y_Rdr_readLetter d 122 [some (vr 64), some (vi (σ 14 3)), some (vi (w32 ((σ 14 3) * 7))), some (vi 0)] [] (up (up (up τ3 18 (w32 ((w32 ((σ 14 3) * 7)) + 1)) x3) 18 (w32 ((w32 ((σ 14 3) * 7)) + 2)) 1) 18 (w32 ((w32 ((σ 14 3) * 7)) + 3)) 1) (qi K))) ∧ (x2 = 0 → K 0 τ2))))) ∧ (6 ≤ σ 14 3 → CI E y_Rdr_fail (d - 1) [vr 64, vi 4] σ (fun x4 τ4 => (x4 = 0 ∨ x4 = 1) ∧ K x4 τ4))) :
    Z E y_Rdr_readLetter d 0 [some (vr 64), none, none, none] [] σ (qi K) := by
  refine z_aload_n (pc := 0) (q := 0) (by decide +kernel) rfl ?_
  refine z_getR (pc := 1) 14 fl_Rdr_42 rfl rfl rfl (by decide +kernel) ?_
  refine z_getI (pc := 4) 3 fl_Rdr_201 rfl (by decide) rfl (by decide +kernel) ?_
  refine z_istore_n (pc := 7) (q := 1) [some (vr 64), some (vi (σ 14 3)), none, none] (by decide +kernel) (Nat.le_of_ble_eq_true rfl) rfl ?_
  refine z_iload_n (pc := 8) (q := 1) (by decide +kernel) rfl ?_
  refine z_bipush (pc := 9) (n := 6) (by decide +kernel) (by decide) ⟨by decide, by decide⟩ ?_
  refine z_icmp_lt (pc := 11) (off := 9) 20 (by decide +kernel) (by decide) ⟨fun hc => ?_, fun hc => ?_⟩
  · have k := k.1 hc
    refine z_aload_n (pc := 20) (q := 0) (by decide +kernel) rfl ?_
    refine z_dup (pc := 21) (by decide +kernel) rfl ?_
    refine z_getI (pc := 22) 6 fl_Rdr_28 rfl (by decide) rfl (by decide +kernel) ?_
    refine z_iconst (pc := 25) (n := 1) (by decide +kernel) ⟨by decide, by decide⟩ ?_
    refine z_iadd (pc := 26) (by decide +kernel) ?_
    refine z_putI (pc := 27) 6 fp_Rdr_28 rfl rfl rfl (by decide +kernel) ?_
    refine z_iload_n (pc := 30) (q := 1) (by decide +kernel) rfl ?_
    refine z_bipush (pc := 31) (n := 7) (by decide +kernel) (by decide) ⟨by decide, by decide⟩ ?_
    refine z_imul (pc := 33) (by decide +kernel) ?_
    refine z_istore_n (pc := 34) (q := 2) [some (vr 64), some (vi (σ 14 3)), some (vi (w32 ((σ 14 3) * 7))), none] (by decide +kernel) (Nat.le_of_ble_eq_true rfl) rfl ?_
    refine z_aload_n (pc := 35) (q := 0) (by decide +kernel) rfl ?_
    refine z_getR (pc := 36) 14 fl_Rdr_42 rfl rfl rfl (by decide +kernel) ?_
    refine z_getR (pc := 39) 18 fl_Rdr_204 rfl rfl rfl (by decide +kernel) ?_
    refine z_iload_n (pc := 42) (q := 2) (by decide +kernel) rfl ?_
    refine z_iconst (pc := 43) (n := 0) (by decide +kernel) ⟨by decide, by decide⟩ ?_
    refine z_iadd (pc := 44) (by decide +kernel) ?_
    refine z_aload_n (pc := 45) (q := 0) (by decide +kernel) rfl ?_
    refine z_iconst (pc := 46) (n := 0) (by decide +kernel) ⟨by decide, by decide⟩ ?_
    refine z_aload_n (pc := 47) (q := 0) (by decide +kernel) rfl ?_
    refine z_getR (pc := 48) 14 fl_Rdr_42 rfl rfl rfl (by decide +kernel) ?_
    refine z_getI (pc := 51) 2 fl_Rdr_195 rfl (by decide) rfl (by decide +kernel) ?_
    refine z_topI (up_nc (by decide)) ?_
    refine z_iconst (pc := 54) (n := 1) (by decide +kernel) ⟨by decide, by decide⟩ ?_
    refine z_isub (pc := 55) (by decide +kernel) ?_
    refine z_callv (pc := 56) (as := [vi 0, vi (w32 ((σ 14 2) - 1))]) ml_Rdr_157 rfl ⟨rfl, by decide⟩ rfl rfl (Nat.le_of_ble_eq_true rfl) (dc := d - 1) (by omega) (by decide +kernel) (CI.z (CI.mono (fun x1 τ1 k => ?_) k))
    have hb1 := k.1
    have k := k.2
    refine z_iast (pc := 59) rfl hb1 (by decide +kernel) ?_
    refine z_aload_n (pc := 60) (q := 0) (by decide +kernel) rfl ?_
    refine z_getI (pc := 61) 7 fl_Rdr_32 rfl (by decide) rfl (by decide +kernel) ?_
    refine z_topI (up_nc (by decide)) ?_
    refine z_if_ne (pc := 64) (off := 13) 77 (by decide +kernel) (by decide) ⟨fun hc => ?_, fun hc => ?_⟩
    · have k := k.1 hc
      refine z_iconst (pc := 77) (n := 0) (by decide +kernel) ⟨by decide, by decide⟩ ?_
      exact z_zret (pc := 78) (by decide +kernel) rfl ⟨by decide, k⟩
    · have k := k.2 hc
      refine z_aload_n (pc := 67) (q := 0) (by decide +kernel) rfl ?_
      refine z_sipush (pc := 68) (n := 206) (by decide +kernel) (by decide) ⟨by decide, by decide⟩ ?_
      refine z_callv (pc := 71) (as := [vi 206]) ml_Rdr_154 rfl ⟨rfl, by decide⟩ rfl rfl (Nat.le_of_ble_eq_true rfl) (dc := d - 1) (by omega) (by decide +kernel) (CI.z (CI.mono (fun x2 τ2 k => ?_) k))
      refine z_if_ne (pc := 74) (off := 5) 79 (by decide +kernel) (by decide) ⟨fun hc => ?_, fun hc => ?_⟩
      · have k := k.1 hc
        refine z_aload_n (pc := 79) (q := 0) (by decide +kernel) rfl ?_
        refine z_getR (pc := 80) 14 fl_Rdr_42 rfl rfl rfl (by decide +kernel) ?_
        refine z_getR (pc := 83) 18 fl_Rdr_204 rfl rfl rfl (by decide +kernel) ?_
        refine z_iload_n (pc := 86) (q := 2) (by decide +kernel) rfl ?_
        refine z_iconst (pc := 87) (n := 1) (by decide +kernel) ⟨by decide, by decide⟩ ?_
        refine z_iadd (pc := 88) (by decide +kernel) ?_
        refine z_aload_n (pc := 89) (q := 0) (by decide +kernel) rfl ?_
        refine z_iconst (pc := 90) (n := 0) (by decide +kernel) ⟨by decide, by decide⟩ ?_
        refine z_iconst (pc := 91) (n := 3) (by decide +kernel) ⟨by decide, by decide⟩ ?_
        refine z_callv (pc := 92) (as := [vi 0, vi 3]) ml_Rdr_157 rfl ⟨rfl, by decide⟩ rfl rfl (Nat.le_of_ble_eq_true rfl) (dc := d - 1) (by omega) (by decide +kernel) (CI.z (CI.mono (fun x3 τ3 k => ?_) k))
        have hb2 := k.1
        have k := k.2
        refine z_iast (pc := 95) rfl hb2 (by decide +kernel) ?_
        refine z_aload_n (pc := 96) (q := 0) (by decide +kernel) rfl ?_
        refine z_getR (pc := 97) 14 fl_Rdr_42 rfl rfl rfl (by decide +kernel) ?_
        refine z_getR (pc := 100) 18 fl_Rdr_204 rfl rfl rfl (by decide +kernel) ?_
        refine z_iload_n (pc := 103) (q := 2) (by decide +kernel) rfl ?_
        refine z_iconst (pc := 104) (n := 2) (by decide +kernel) ⟨by decide, by decide⟩ ?_
        refine z_iadd (pc := 105) (by decide +kernel) ?_
        refine z_iconst (pc := 106) (n := 1) (by decide +kernel) ⟨by decide, by decide⟩ ?_
        have hb3 := k.1
        have k := k.2
        refine z_iast (pc := 107) rfl hb3 (by decide +kernel) ?_
        refine z_aload_n (pc := 108) (q := 0) (by decide +kernel) rfl ?_
        refine z_getR (pc := 109) 14 fl_Rdr_42 rfl rfl rfl (by decide +kernel) ?_
        refine z_getR (pc := 112) 18 fl_Rdr_204 rfl rfl rfl (by decide +kernel) ?_
        refine z_iload_n (pc := 115) (q := 2) (by decide +kernel) rfl ?_
        refine z_iconst (pc := 116) (n := 3) (by decide +kernel) ⟨by decide, by decide⟩ ?_
        refine z_iadd (pc := 117) (by decide +kernel) ?_
        refine z_iconst (pc := 118) (n := 1) (by decide +kernel) ⟨by decide, by decide⟩ ?_
        have hb4 := k.1
        have k := k.2
        refine z_iast (pc := 119) rfl hb4 (by decide +kernel) ?_
        refine z_iconst (pc := 120) (n := 0) (by decide +kernel) ⟨by decide, by decide⟩ ?_
        refine z_istore_n (pc := 121) (q := 3) [some (vr 64), some (vi (σ 14 3)), some (vi (w32 ((σ 14 3) * 7))), some (vi 0)] (by decide +kernel) (Nat.le_of_ble_eq_true rfl) rfl ?_
        exact k
      · have k := k.2 hc
        refine z_iconst (pc := 77) (n := 0) (by decide +kernel) ⟨by decide, by decide⟩ ?_
        exact z_zret (pc := 78) (by decide +kernel) rfl ⟨by decide, k⟩
  · have k := k.2 hc
    refine z_aload_n (pc := 14) (q := 0) (by decide +kernel) rfl ?_
    refine z_iconst (pc := 15) (n := 4) (by decide +kernel) ⟨by decide, by decide⟩ ?_
    refine z_callv (pc := 16) (as := [vi 4]) ml_Rdr_183 rfl ⟨rfl, by decide⟩ rfl rfl (Nat.le_of_ble_eq_true rfl) (dc := d - 1) (by omega) (by decide +kernel) (CI.z (CI.mono (fun x4 τ4 k => ?_) k))
    exact z_zret (pc := 19) (by decide +kernel) rfl k
theorem b_Rdr_readLetter_122 {E : EN} {d : Nat} {o1 : Option AV} {a2 : Int} {a3 : Int} {σ : Mem} {K : Int → Mem → Prop}  (hd : 1 ≤ d) (k : (900 ≤ a3 → Z E y_Rdr_readLetter d 162 [some (vr 64), o1, some (vi a2), some (vi a3)] [] σ (qi K)) ∧ (a3 < 900 → (σ 64 7 ≠ 0 → Z E y_Rdr_readLetter d 162 [some (vr 64), o1, some (vi a2), some (vi a3)] [] σ (qi K)) ∧ (σ 64 7 = 0 → (0 ≤ σ 64 6 ∧ σ 64 6 < 901) ∧ (σ 65 (σ 64 6) < 200 → Z E y_Rdr_readLetter d 162 [some (vr 64), o1, some (vi a2), some (vi a3)] [] σ (qi K)) ∧ (200 ≤ σ 65 (σ 64 6) → CV E y_Rdr_readFlag (d - 1) [vr 64, vi a2] σ (fun τ1 => Z E y_Rdr_readLetter d 122 [some (vr 64), o1, some (vi a2), some (vi (w32 (a3 + 1)))] [] τ1 (qi K)))))) :
    Z E y_Rdr_readLetter d 122 [some (vr 64), o1, some (vi a2), some (vi a3)] [] σ (qi K) := by
  refine z_iload_n (pc := 122) (q := 3) (by decide +kernel) rfl ?_
  refine z_sipush (pc := 123) (n := 900) (by decide +kernel) (by decide) ⟨by decide, by decide⟩ ?_
  refine z_icmp_ge (pc := 126) (off := 36) 162 (by decide +kernel) (by decide) ⟨fun hc => ?_, fun hc => ?_⟩
  · have k := k.1 hc
    exact k
  · have k := k.2 hc
    refine z_aload_n (pc := 129) (q := 0) (by decide +kernel) rfl ?_
    refine z_getI (pc := 130) 7 fl_Rdr_32 rfl (by decide) rfl (by decide +kernel) ?_
    refine z_if_ne (pc := 133) (off := 29) 162 (by decide +kernel) (by decide) ⟨fun hc => ?_, fun hc => ?_⟩
    · have k := k.1 hc
      exact k
    · have k := k.2 hc
      refine z_aload_n (pc := 136) (q := 0) (by decide +kernel) rfl ?_
      refine z_getR (pc := 137) 65 fl_Rdr_18 rfl rfl rfl (by decide +kernel) ?_
      refine z_aload_n (pc := 140) (q := 0) (by decide +kernel) rfl ?_
      refine z_getI (pc := 141) 6 fl_Rdr_28 rfl (by decide) rfl (by decide +kernel) ?_
      have hb1 := k.1
      have k := k.2
      refine z_iald (pc := 144) rfl hb1 (by decide +kernel) ?_
      refine z_sipush (pc := 145) (n := 200) (by decide +kernel) (by decide) ⟨by decide, by decide⟩ ?_
      refine z_icmp_lt (pc := 148) (off := 14) 162 (by decide +kernel) (by decide) ⟨fun hc => ?_, fun hc => ?_⟩
      · have k := k.1 hc
        exact k
      · have k := k.2 hc
        refine z_aload_n (pc := 151) (q := 0) (by decide +kernel) rfl ?_
        refine z_iload_n (pc := 152) (q := 2) (by decide +kernel) rfl ?_
        refine z_callv (pc := 153) (as := [vi a2]) ml_Rdr_207 rfl ⟨rfl, by decide⟩ rfl rfl (Nat.le_of_ble_eq_true rfl) (dc := d - 1) (by omega) (by decide +kernel) (CV.z (CV.mono (fun τ1 k => ?_) k))
        refine z_iinc (pc := 156) (i := 3) (n := 1) [some (vr 64), o1, some (vi a2), some (vi (w32 (a3 + 1)))] (by decide +kernel) rfl rfl ?_
        refine z_goto (pc := 159) (off := -37) 122 (by decide +kernel) (by decide) ?_
        exact k
theorem b_Rdr_readLetter_162 {E : EN} {d : Nat} {o1 : Option AV} {o2 : Option AV} {o3 : Option AV} {σ : Mem} {K : Int → Mem → Prop}  (k : (σ 64 7 ≠ 0 → K 0 (up σ 14 3 (w32 ((σ 14 3) + 1)))) ∧ (σ 64 7 = 0 → K 1 (up σ 14 3 (w32 ((σ 14 3) + 1))))) :
    Z E y_Rdr_readLetter d 162 [some (vr 64), o1, o2, o3] [] σ (qi K) := by
  refine z_aload_n (pc := 162) (q := 0) (by decide +kernel) rfl ?_
  refine z_getR (pc := 163) 14 fl_Rdr_42 rfl rfl rfl (by decide +kernel) ?_
  refine z_dup (pc := 166) (by decide +kernel) rfl ?_
  refine z_getI (pc := 167) 3 fl_Rdr_201 rfl (by decide) rfl (by decide +kernel) ?_
  refine z_iconst (pc := 170) (n := 1) (by decide +kernel) ⟨by decide, by decide⟩ ?_
  refine z_iadd (pc := 171) (by decide +kernel) ?_
  refine z_putI (pc := 172) 3 fp_Rdr_201 rfl rfl rfl (by decide +kernel) ?_
  refine z_aload_n (pc := 175) (q := 0) (by decide +kernel) rfl ?_
  refine z_getI (pc := 176) 7 fl_Rdr_32 rfl (by decide) rfl (by decide +kernel) ?_
  refine z_topI (up_nc (by decide)) ?_
  refine z_if_ne (pc := 179) (off := 7) 186 (by decide +kernel) (by decide) ⟨fun hc => ?_, fun hc => ?_⟩
  · have k := k.1 hc
    refine z_iconst (pc := 186) (n := 0) (by decide +kernel) ⟨by decide, by decide⟩ ?_
    exact z_zret (pc := 187) (by decide +kernel) rfl ⟨by decide, k⟩
  · have k := k.2 hc
    refine z_iconst (pc := 182) (n := 1) (by decide +kernel) ⟨by decide, by decide⟩ ?_
    refine z_goto (pc := 183) (off := 4) 187 (by decide +kernel) (by decide) ?_
    exact z_zret (pc := 187) (by decide +kernel) rfl ⟨by decide, k⟩
theorem b_Rdr_readFlag_0 {E : EN} {d : Nat} {a1 : Int} {σ : Mem} {K : Mem → Prop}  (hd : 1 ≤ d) (k : CI E y_Rdr_flagFact (d - 1) [vr 64] σ (fun x1 τ1 => (x1 ≠ (-1) → (x1 ≠ 6 → (x1 = 2 → Z E y_Rdr_readFlag d 60 [some (vr 64), some (vi a1), some (vi x1), some (vi 0), none] [vi 99] (up τ1 64 6 (w32 ((τ1 64 6) + 1))) (qv K)) ∧ (x1 ≠ 2 → (x1 ≠ 3 → Z E y_Rdr_readFlag d 60 [some (vr 64), some (vi a1), some (vi x1), some (vi 0), none] [vi 9] (up τ1 64 6 (w32 ((τ1 64 6) + 1))) (qv K)) ∧ (x1 = 3 → Z E y_Rdr_readFlag d 60 [some (vr 64), some (vi a1), some (vi x1), some (vi 0), none] [vi 99] (up τ1 64 6 (w32 ((τ1 64 6) + 1))) (qv K)))) ∧ (x1 = 6 → CI E y_Rdr_takeSaying (d - 1) [vr 64] (up τ1 64 6 (w32 ((τ1 64 6) + 1))) (fun x2 τ2 => Z E y_Rdr_readFlag d 79 [some (vr 64), some (vi a1), some (vi x1), some (vi x2), none] [] τ2 (qv K)))) ∧ (x1 = (-1) → CI E y_Rdr_fail (d - 1) [vr 64, vi 2] τ1 (fun x3 τ3 => K τ3)))) :
    Z E y_Rdr_readFlag d 0 [some (vr 64), some (vi a1), none, none, none] [] σ (qv K) := by
  refine z_aload_n (pc := 0) (q := 0) (by decide +kernel) rfl ?_
  refine z_callv (pc := 1) (as := []) ml_Rdr_210 rfl ⟨rfl, by decide⟩ rfl rfl (Nat.le_of_ble_eq_true rfl) (dc := d - 1) (by omega) (by decide +kernel) (CI.z (CI.mono (fun x1 τ1 k => ?_) k))
  refine z_istore_n (pc := 4) (q := 2) [some (vr 64), some (vi a1), some (vi x1), none, none] (by decide +kernel) (Nat.le_of_ble_eq_true rfl) rfl ?_
  refine z_iload_n (pc := 5) (q := 2) (by decide +kernel) rfl ?_
  refine z_iconst (pc := 6) (n := -1) (by decide +kernel) ⟨by decide, by decide⟩ ?_
  refine z_icmp_ne (pc := 7) (off := 10) 17 (by decide +kernel) (by decide) ⟨fun hc => ?_, fun hc => ?_⟩
  · have k := k.1 hc
    refine z_aload_n (pc := 17) (q := 0) (by decide +kernel) rfl ?_
    refine z_dup (pc := 18) (by decide +kernel) rfl ?_
    refine z_getI (pc := 19) 6 fl_Rdr_28 rfl (by decide) rfl (by decide +kernel) ?_
    refine z_iconst (pc := 22) (n := 1) (by decide +kernel) ⟨by decide, by decide⟩ ?_
    refine z_iadd (pc := 23) (by decide +kernel) ?_
    refine z_putI (pc := 24) 6 fp_Rdr_28 rfl rfl rfl (by decide +kernel) ?_
    refine z_iconst (pc := 27) (n := 0) (by decide +kernel) ⟨by decide, by decide⟩ ?_
    refine z_istore_n (pc := 28) (q := 3) [some (vr 64), some (vi a1), some (vi x1), some (vi 0), none] (by decide +kernel) (Nat.le_of_ble_eq_true rfl) rfl ?_
    refine z_iload_n (pc := 29) (q := 2) (by decide +kernel) rfl ?_
    refine z_bipush (pc := 30) (n := 6) (by decide +kernel) (by decide) ⟨by decide, by decide⟩ ?_
    refine z_icmp_ne (pc := 32) (off := 11) 43 (by decide +kernel) (by decide) ⟨fun hc => ?_, fun hc => ?_⟩
    · have k := k.1 hc
      refine z_iload_n (pc := 43) (q := 2) (by decide +kernel) rfl ?_
      refine z_iconst (pc := 44) (n := 2) (by decide +kernel) ⟨by decide, by decide⟩ ?_
      refine z_icmp_eq (pc := 45) (off := 8) 53 (by decide +kernel) (by decide) ⟨fun hc => ?_, fun hc => ?_⟩
      · have k := k.1 hc
        refine z_bipush (pc := 53) (n := 99) (by decide +kernel) (by decide) ⟨by decide, by decide⟩ ?_
        refine z_goto (pc := 55) (off := 5) 60 (by decide +kernel) (by decide) ?_
        exact k
      · have k := k.2 hc
        refine z_iload_n (pc := 48) (q := 2) (by decide +kernel) rfl ?_
        refine z_iconst (pc := 49) (n := 3) (by decide +kernel) ⟨by decide, by decide⟩ ?_
        refine z_icmp_ne (pc := 50) (off := 8) 58 (by decide +kernel) (by decide) ⟨fun hc => ?_, fun hc => ?_⟩
        · have k := k.1 hc
          refine z_bipush (pc := 58) (n := 9) (by decide +kernel) (by decide) ⟨by decide, by decide⟩ ?_
          exact k
        · have k := k.2 hc
          refine z_bipush (pc := 53) (n := 99) (by decide +kernel) (by decide) ⟨by decide, by decide⟩ ?_
          refine z_goto (pc := 55) (off := 5) 60 (by decide +kernel) (by decide) ?_
          exact k
    · have k := k.2 hc
      refine z_aload_n (pc := 35) (q := 0) (by decide +kernel) rfl ?_
      refine z_callv (pc := 36) (as := []) ml_Rdr_213 rfl ⟨rfl, by decide⟩ rfl rfl (Nat.le_of_ble_eq_true rfl) (dc := d - 1) (by omega) (by decide +kernel) (CI.z (CI.mono (fun x2 τ2 k => ?_) k))
      refine z_istore_n (pc := 39) (q := 3) [some (vr 64), some (vi a1), some (vi x1), some (vi x2), none] (by decide +kernel) (Nat.le_of_ble_eq_true rfl) rfl ?_
      refine z_goto (pc := 40) (off := 39) 79 (by decide +kernel) (by decide) ?_
      exact k
  · have k := k.2 hc
    refine z_aload_n (pc := 10) (q := 0) (by decide +kernel) rfl ?_
    refine z_iconst (pc := 11) (n := 2) (by decide +kernel) ⟨by decide, by decide⟩ ?_
    refine z_callv (pc := 12) (as := [vi 2]) ml_Rdr_183 rfl ⟨rfl, by decide⟩ rfl rfl (Nat.le_of_ble_eq_true rfl) (dc := d - 1) (by omega) (by decide +kernel) (CI.z (CI.mono (fun x3 τ3 k => ?_) k))
    refine z_pop (pc := 15) (by decide +kernel) rfl ?_
    exact z_vret (pc := 16) (by decide +kernel) rfl k
theorem b_Rdr_readFlag_60 {E : EN} {d : Nat} {a1 : Int} {a2 : Int} {o3 : Option AV} {o4 : Option AV} {s0 : Int} {σ : Mem} {K : Mem → Prop}  (hd : 1 ≤ d) (k : (a2 ≠ 2 → CI E y_Rdr_takeNumber (d - 1) [vr 64, vi 0, vi s0] σ (fun x1 τ1 => Z E y_Rdr_readFlag d 79 [some (vr 64), some (vi a1), some (vi a2), some (vi x1), some (vi s0)] [] τ1 (qv K))) ∧ (a2 = 2 → CI E y_Rdr_takeNumber (d - 1) [vr 64, vi 1, vi s0] σ (fun x2 τ2 => Z E y_Rdr_readFlag d 79 [some (vr 64), some (vi a1), some (vi a2), some (vi x2), some (vi s0)] [] τ2 (qv K)))) :
    Z E y_Rdr_readFlag d 60 [some (vr 64), some (vi a1), some (vi a2), o3, o4] [vi s0] σ (qv K) := by
  refine z_forget (pc := 60) 3 [some (vr 64), some (vi a1), some (vi a2), none, o4] rfl ?_
  refine z_istore (pc := 60) (i := 4) [some (vr 64), some (vi a1), some (vi a2), none, some (vi s0)] (by decide +kernel) (Nat.le_of_ble_eq_true rfl) rfl ?_
  refine z_aload_n (pc := 62) (q := 0) (by decide +kernel) rfl ?_
  refine z_iload_n (pc := 63) (q := 2) (by decide +kernel) rfl ?_
  refine z_iconst (pc := 64) (n := 2) (by decide +kernel) ⟨by decide, by decide⟩ ?_
  refine z_icmp_ne (pc := 65) (off := 7) 72 (by decide +kernel) (by decide) ⟨fun hc => ?_, fun hc => ?_⟩
  · have k := k.1 hc
    refine z_iconst (pc := 72) (n := 0) (by decide +kernel) ⟨by decide, by decide⟩ ?_
    refine z_iload (pc := 73) (i := 4) (by decide +kernel) rfl ?_
    refine z_callv (pc := 75) (as := [vi 0, vi s0]) ml_Rdr_157 rfl ⟨rfl, by decide⟩ rfl rfl (Nat.le_of_ble_eq_true rfl) (dc := d - 1) (by omega) (by decide +kernel) (CI.z (CI.mono (fun x1 τ1 k => ?_) k))
    refine z_istore_n (pc := 78) (q := 3) [some (vr 64), some (vi a1), some (vi a2), some (vi x1), some (vi s0)] (by decide +kernel) (Nat.le_of_ble_eq_true rfl) rfl ?_
    exact k
  · have k := k.2 hc
    refine z_iconst (pc := 68) (n := 1) (by decide +kernel) ⟨by decide, by decide⟩ ?_
    refine z_goto (pc := 69) (off := 4) 73 (by decide +kernel) (by decide) ?_
    refine z_iload (pc := 73) (i := 4) (by decide +kernel) rfl ?_
    refine z_callv (pc := 75) (as := [vi 1, vi s0]) ml_Rdr_157 rfl ⟨rfl, by decide⟩ rfl rfl (Nat.le_of_ble_eq_true rfl) (dc := d - 1) (by omega) (by decide +kernel) (CI.z (CI.mono (fun x2 τ2 k => ?_) k))
    refine z_istore_n (pc := 78) (q := 3) [some (vr 64), some (vi a1), some (vi a2), some (vi x2), some (vi s0)] (by decide +kernel) (Nat.le_of_ble_eq_true rfl) rfl ?_
    exact k
theorem b_Rdr_readFlag_79 {E : EN} {d : Nat} {a1 : Int} {a2 : Int} {a3 : Int} {o4 : Option AV} {σ : Mem} {K : Mem → Prop}  (k : (a1 < 0 → K σ) ∧ (0 ≤ a1 → (42 < w32 (a1 + 7) → K σ) ∧ (w32 (a1 + 7) ≤ 42 → (0 ≤ w32 (a1 + a2) ∧ w32 (a1 + a2) < 42) ∧ K (up σ 18 (w32 (a1 + a2)) a3)))) :
    Z E y_Rdr_readFlag d 79 [some (vr 64), some (vi a1), some (vi a2), some (vi a3), o4] [] σ (qv K) := by
  refine z_iload_n (pc := 79) (q := 1) (by decide +kernel) rfl ?_
  refine z_if_lt (pc := 80) (off := 30) 110 (by decide +kernel) (by decide) ⟨fun hc => ?_, fun hc => ?_⟩
  · have k := k.1 hc
    exact z_vret (pc := 110) (by decide +kernel) rfl k
  · have k := k.2 hc
    refine z_iload_n (pc := 83) (q := 1) (by decide +kernel) rfl ?_
    refine z_bipush (pc := 84) (n := 7) (by decide +kernel) (by decide) ⟨by decide, by decide⟩ ?_
    refine z_iadd (pc := 86) (by decide +kernel) ?_
    refine z_aload_n (pc := 87) (q := 0) (by decide +kernel) rfl ?_
    refine z_getR (pc := 88) 14 fl_Rdr_42 rfl rfl rfl (by decide +kernel) ?_
    refine z_getR (pc := 91) 18 fl_Rdr_204 rfl rfl rfl (by decide +kernel) ?_
    refine z_alen (pc := 94) 42 rfl (by decide) (by decide) rfl ⟨by decide, by decide⟩ (by decide +kernel) ?_
    refine z_icmp_gt (pc := 95) (off := 15) 110 (by decide +kernel) (by decide) ⟨fun hc => ?_, fun hc => ?_⟩
    · have k := k.1 hc
      exact z_vret (pc := 110) (by decide +kernel) rfl k
    · have k := k.2 hc
      refine z_aload_n (pc := 98) (q := 0) (by decide +kernel) rfl ?_
      refine z_getR (pc := 99) 14 fl_Rdr_42 rfl rfl rfl (by decide +kernel) ?_
      refine z_getR (pc := 102) 18 fl_Rdr_204 rfl rfl rfl (by decide +kernel) ?_
      refine z_iload_n (pc := 105) (q := 1) (by decide +kernel) rfl ?_
      refine z_iload_n (pc := 106) (q := 2) (by decide +kernel) rfl ?_
      refine z_iadd (pc := 107) (by decide +kernel) ?_
      refine z_iload_n (pc := 108) (q := 3) (by decide +kernel) rfl ?_
      have hb1 := k.1
      have k := k.2
      refine z_iast (pc := 109) rfl hb1 (by decide +kernel) ?_
      exact z_vret (pc := 110) (by decide +kernel) rfl k
theorem b_Rdr_flagFact_0 {E : EN} {d : Nat}  {σ : Mem} {K : Int → Mem → Prop}  (k : (0 ≤ σ 64 6 ∧ σ 64 6 < 901) ∧ (σ 65 (σ 64 6) = 207 → K 2 σ) ∧ (σ 65 (σ 64 6) = 208 → K 3 σ) ∧ (σ 65 (σ 64 6) = 209 → K 4 σ) ∧ (σ 65 (σ 64 6) = 210 → K 5 σ) ∧ (σ 65 (σ 64 6) = 211 → K 6 σ) ∧ (σ 65 (σ 64 6) < 207 ∨ 211 < σ 65 (σ 64 6) → K (-1) σ)) :
    Z E y_Rdr_flagFact d 0 [some (vr 64)] [] σ (qi K) := by
  refine z_aload_n (pc := 0) (q := 0) (by decide +kernel) rfl ?_
  refine z_getR (pc := 1) 65 fl_Rdr_18 rfl rfl rfl (by decide +kernel) ?_
  refine z_aload_n (pc := 4) (q := 0) (by decide +kernel) rfl ?_
  refine z_getI (pc := 5) 6 fl_Rdr_28 rfl (by decide) rfl (by decide +kernel) ?_
  have hb1 := k.1
  have k := k.2
  refine z_iald (pc := 8) rfl hb1 (by decide +kernel) ?_
  have hdg : decode y_Rdr_flagFact.2.1 9 = .ok (.tableswitch 46 207 211 #[40, 35, 42, 44, 37], 35) := by decide +kernel
  by_cases hl0 : σ 65 (σ 64 6) < 207
  · have k := k.2.2.2.2.2 (Or.inl hl0)
    refine z_tableOut (pc := 9) 55 hdg (Or.inl hl0) (by decide) ?_
    refine z_iconst (pc := 55) (n := -1) (by decide +kernel) ⟨by decide, by decide⟩ ?_
    exact z_iret (pc := 56) (by decide +kernel) rfl k
  have hl : 207 ≤ σ 65 (σ 64 6) := Int.not_lt.mp hl0
  by_cases hc : σ 65 (σ 64 6) = 207
  · have k := k.1 hc
    refine z_tableIn2 (pc := 9) (off := 40) 49 hdg hc (by decide) (by decide +kernel) (by decide) ?_
    refine z_iconst (pc := 49) (n := 2) (by decide +kernel) ⟨by decide, by decide⟩ ?_
    exact z_iret (pc := 50) (by decide +kernel) rfl k
  have k := k.2
  have hl := ne_up (w := 208) hl hc rfl; clear hc
  by_cases hc : σ 65 (σ 64 6) = 208
  · have k := k.1 hc
    refine z_tableIn2 (pc := 9) (off := 35) 44 hdg hc (by decide) (by decide +kernel) (by decide) ?_
    refine z_iconst (pc := 44) (n := 3) (by decide +kernel) ⟨by decide, by decide⟩ ?_
    exact z_iret (pc := 45) (by decide +kernel) rfl k
  have k := k.2
  have hl := ne_up (w := 209) hl hc rfl; clear hc
  by_cases hc : σ 65 (σ 64 6) = 209
  · have k := k.1 hc
    refine z_tableIn2 (pc := 9) (off := 42) 51 hdg hc (by decide) (by decide +kernel) (by decide) ?_
    refine z_iconst (pc := 51) (n := 4) (by decide +kernel) ⟨by decide, by decide⟩ ?_
    exact z_iret (pc := 52) (by decide +kernel) rfl k
  have k := k.2
  have hl := ne_up (w := 210) hl hc rfl; clear hc
  by_cases hc : σ 65 (σ 64 6) = 210
  · have k := k.1 hc
    refine z_tableIn2 (pc := 9) (off := 44) 53 hdg hc (by decide) (by decide +kernel) (by decide) ?_
    refine z_iconst (pc := 53) (n := 5) (by decide +kernel) ⟨by decide, by decide⟩ ?_
    exact z_iret (pc := 54) (by decide +kernel) rfl k
  have k := k.2
  have hl := ne_up (w := 211) hl hc rfl; clear hc
  by_cases hc : σ 65 (σ 64 6) = 211
  · have k := k.1 hc
    refine z_tableIn2 (pc := 9) (off := 37) 46 hdg hc (by decide) (by decide +kernel) (by decide) ?_
    refine z_bipush (pc := 46) (n := 6) (by decide +kernel) (by decide) ⟨by decide, by decide⟩ ?_
    exact z_iret (pc := 48) (by decide +kernel) rfl k
  have k := k.2
  have hl := ne_up (w := 212) hl hc rfl; clear hc
  have hl := Int.lt_of_add_one_le (a := 211) hl
  have k := k (Or.inr hl)
  refine z_tableOut (pc := 9) 55 hdg (Or.inr hl) (by decide) ?_
  refine z_iconst (pc := 55) (n := -1) (by decide +kernel) ⟨by decide, by decide⟩ ?_
  exact z_iret (pc := 56) (by decide +kernel) rfl k
theorem b_Rdr_takeSaying_0 {E : EN} {d : Nat}  {σ : Mem} {K : Int → Mem → Prop}  (k : (0 ≤ σ 64 6 ∧ σ 64 6 < 901) ∧ (σ 65 (σ 64 6) ≠ 212 → (σ 65 (σ 64 6) ≠ 213 → Z E y_Rdr_takeSaying d 39 [some (vr 64), none] [vi 0] σ (qi K)) ∧ (σ 65 (σ 64 6) = 213 → Z E y_Rdr_takeSaying d 39 [some (vr 64), none] [vi 2] σ (qi K))) ∧ (σ 65 (σ 64 6) = 212 → Z E y_Rdr_takeSaying d 39 [some (vr 64), none] [vi 1] σ (qi K))) :
    Z E y_Rdr_takeSaying d 0 [some (vr 64), none] [] σ (qi K) := by
  refine z_aload_n (pc := 0) (q := 0) (by decide +kernel) rfl ?_
  refine z_getR (pc := 1) 65 fl_Rdr_18 rfl rfl rfl (by decide +kernel) ?_
  refine z_aload_n (pc := 4) (q := 0) (by decide +kernel) rfl ?_
  refine z_getI (pc := 5) 6 fl_Rdr_28 rfl (by decide) rfl (by decide +kernel) ?_
  have hb1 := k.1
  have k := k.2
  refine z_iald (pc := 8) rfl hb1 (by decide +kernel) ?_
  refine z_sipush (pc := 9) (n := 212) (by decide +kernel) (by decide) ⟨by decide, by decide⟩ ?_
  refine z_icmp_ne (pc := 12) (off := 7) 19 (by decide +kernel) (by decide) ⟨fun hc => ?_, fun hc => ?_⟩
  · have k := k.1 hc
    refine z_aload_n (pc := 19) (q := 0) (by decide +kernel) rfl ?_
    refine z_getR (pc := 20) 65 fl_Rdr_18 rfl rfl rfl (by decide +kernel) ?_
    refine z_aload_n (pc := 23) (q := 0) (by decide +kernel) rfl ?_
    refine z_getI (pc := 24) 6 fl_Rdr_28 rfl (by decide) rfl (by decide +kernel) ?_
    refine z_iald (pc := 27) rfl hb1 (by decide +kernel) ?_
    refine z_sipush (pc := 28) (n := 213) (by decide +kernel) (by decide) ⟨by decide, by decide⟩ ?_
    refine z_icmp_ne (pc := 31) (off := 7) 38 (by decide +kernel) (by decide) ⟨fun hc => ?_, fun hc => ?_⟩
    · have k := k.1 hc
      refine z_iconst (pc := 38) (n := 0) (by decide +kernel) ⟨by decide, by decide⟩ ?_
      exact k
    · have k := k.2 hc
      refine z_iconst (pc := 34) (n := 2) (by decide +kernel) ⟨by decide, by decide⟩ ?_
      refine z_goto (pc := 35) (off := 4) 39 (by decide +kernel) (by decide) ?_
      exact k
  · have k := k.2 hc
    refine z_iconst (pc := 15) (n := 1) (by decide +kernel) ⟨by decide, by decide⟩ ?_
    refine z_goto (pc := 16) (off := 23) 39 (by decide +kernel) (by decide) ?_
    exact k
theorem b_Rdr_takeSaying_39 {E : EN} {d : Nat} {o1 : Option AV} {s0 : Int} {σ : Mem} {K : Int → Mem → Prop}  (hd : 1 ≤ d) (k : (s0 ≠ 0 → K s0 (up σ 64 6 (w32 ((σ 64 6) + 1)))) ∧ (s0 = 0 → CI E y_Rdr_fail (d - 1) [vr 64, vi 2] σ (fun x1 τ1 => K s0 τ1))) :
    Z E y_Rdr_takeSaying d 39 [some (vr 64), o1] [vi s0] σ (qi K) := by
  refine z_istore_n (pc := 39) (q := 1) [some (vr 64), some (vi s0)] (by decide +kernel) (Nat.le_of_ble_eq_true rfl) rfl ?_
  refine z_iload_n (pc := 40) (q := 1) (by decide +kernel) rfl ?_
  refine z_if_ne (pc := 41) (off := 12) 53 (by decide +kernel) (by decide) ⟨fun hc => ?_, fun hc => ?_⟩
  · have k := k.1 hc
    refine z_aload_n (pc := 53) (q := 0) (by decide +kernel) rfl ?_
    refine z_dup (pc := 54) (by decide +kernel) rfl ?_
    refine z_getI (pc := 55) 6 fl_Rdr_28 rfl (by decide) rfl (by decide +kernel) ?_
    refine z_iconst (pc := 58) (n := 1) (by decide +kernel) ⟨by decide, by decide⟩ ?_
    refine z_iadd (pc := 59) (by decide +kernel) ?_
    refine z_putI (pc := 60) 6 fp_Rdr_28 rfl rfl rfl (by decide +kernel) ?_
    refine z_iload_n (pc := 63) (q := 1) (by decide +kernel) rfl ?_
    exact z_iret (pc := 64) (by decide +kernel) rfl k
  · have k := k.2 hc
    refine z_aload_n (pc := 44) (q := 0) (by decide +kernel) rfl ?_
    refine z_iconst (pc := 45) (n := 2) (by decide +kernel) ⟨by decide, by decide⟩ ?_
    refine z_callv (pc := 46) (as := [vi 2]) ml_Rdr_183 rfl ⟨rfl, by decide⟩ rfl rfl (Nat.le_of_ble_eq_true rfl) (dc := d - 1) (by omega) (by decide +kernel) (CI.z (CI.mono (fun x1 τ1 k => ?_) k))
    refine z_pop (pc := 49) (by decide +kernel) rfl ?_
    refine z_goto (pc := 50) (off := 13) 63 (by decide +kernel) (by decide) ?_
    refine z_iload_n (pc := 63) (q := 1) (by decide +kernel) rfl ?_
    exact z_iret (pc := 64) (by decide +kernel) rfl k
theorem b_Rdr_readPrior_0 {E : EN} {d : Nat}  {σ : Mem} {K : Int → Mem → Prop}  (hd : 1 ≤ d) (k : CI E y_Rdr_takeNumber (d - 1) [vr 64, vi 0, vi 100] (up σ 64 6 (w32 ((σ 64 6) + 1))) (fun x1 τ1 => (τ1 64 7 ≠ 0 → K 0 (up τ1 14 5 x1)) ∧ (τ1 64 7 = 0 → K 1 (up τ1 14 5 x1)))) :
    Z E y_Rdr_readPrior d 0 [some (vr 64)] [] σ (qi K) := by
  refine z_aload_n (pc := 0) (q := 0) (by decide +kernel) rfl ?_
  refine z_dup (pc := 1) (by decide +kernel) rfl ?_
  refine z_getI (pc := 2) 6 fl_Rdr_28 rfl (by decide) rfl (by decide +kernel) ?_
  refine z_iconst (pc := 5) (n := 1) (by decide +kernel) ⟨by decide, by decide⟩ ?_
  refine z_iadd (pc := 6) (by decide +kernel) ?_
  refine z_putI (pc := 7) 6 fp_Rdr_28 rfl rfl rfl (by decide +kernel) ?_
  refine z_aload_n (pc := 10) (q := 0) (by decide +kernel) rfl ?_
  refine z_getR (pc := 11) 14 fl_Rdr_42 rfl rfl rfl (by decide +kernel) ?_
  refine z_aload_n (pc := 14) (q := 0) (by decide +kernel) rfl ?_
  refine z_iconst (pc := 15) (n := 0) (by decide +kernel) ⟨by decide, by decide⟩ ?_
  refine z_bipush (pc := 16) (n := 100) (by decide +kernel) (by decide) ⟨by decide, by decide⟩ ?_
  refine z_callv (pc := 18) (as := [vi 0, vi 100]) ml_Rdr_157 rfl ⟨rfl, by decide⟩ rfl rfl (Nat.le_of_ble_eq_true rfl) (dc := d - 1) (by omega) (by decide +kernel) (CI.z (CI.mono (fun x1 τ1 k => ?_) k))
  refine z_putI (pc := 21) 5 fp_Rdr_216 rfl rfl rfl (by decide +kernel) ?_
  refine z_aload_n (pc := 24) (q := 0) (by decide +kernel) rfl ?_
  refine z_getI (pc := 25) 7 fl_Rdr_32 rfl (by decide) rfl (by decide +kernel) ?_
  refine z_topI (up_nc (by decide)) ?_
  refine z_if_ne (pc := 28) (off := 7) 35 (by decide +kernel) (by decide) ⟨fun hc => ?_, fun hc => ?_⟩
  · have k := k.1 hc
    refine z_iconst (pc := 35) (n := 0) (by decide +kernel) ⟨by decide, by decide⟩ ?_
    exact z_zret (pc := 36) (by decide +kernel) rfl ⟨by decide, k⟩
  · have k := k.2 hc
    refine z_iconst (pc := 31) (n := 1) (by decide +kernel) ⟨by decide, by decide⟩ ?_
    refine z_goto (pc := 32) (off := 4) 36 (by decide +kernel) (by decide) ?_
    exact z_zret (pc := 36) (by decide +kernel) rfl ⟨by decide, k⟩
theorem b_Rdr_readName_0 {E : EN} {d : Nat}  {σ : Mem} {K : Int → Mem → Prop}  (hd : 1 ≤ d) (k : (0 ≤ w32 ((σ 64 6) + 1) ∧ w32 ((σ 64 6) + 1) < 901) ∧ (σ 65 (w32 ((σ 64 6) + 1)) < 200 → CI E y_Rdr_fail (d - 1) [vr 64, vi 2] (up σ 64 6 (w32 ((σ 64 6) + 1))) (fun x1 τ1 => (x1 = 0 ∨ x1 = 1) ∧ K x1 τ1)) ∧ (200 ≤ σ 65 (w32 ((σ 64 6) + 1)) → (σ 67 (w32 ((σ 64 6) + 1)) ≤ 8 → Z E y_Rdr_readName d 57 [some (vr 64), some (vi (σ 67 (w32 ((σ 64 6) + 1)))), some (vi 0)] [] (up (up σ 64 6 (w32 ((σ 64 6) + 1))) 14 6 (σ 67 (w32 ((σ 64 6) + 1)))) (qi K)) ∧ (8 < σ 67 (w32 ((σ 64 6) + 1)) → CI E y_Rdr_fail (d - 1) [vr 64, vi 2] (up σ 64 6 (w32 ((σ 64 6) + 1))) (fun x2 τ2 => (x2 = 0 ∨ x2 = 1) ∧ K x2 τ2)))) :
    Z E y_Rdr_readName d 0 [some (vr 64), none, none] [] σ (qi K) := by
  refine z_aload_n (pc := 0) (q := 0) (by decide +kernel) rfl ?_
  refine z_dup (pc := 1) (by decide +kernel) rfl ?_
  refine z_getI (pc := 2) 6 fl_Rdr_28 rfl (by decide) rfl (by decide +kernel) ?_
  refine z_iconst (pc := 5) (n := 1) (by decide +kernel) ⟨by decide, by decide⟩ ?_
  refine z_iadd (pc := 6) (by decide +kernel) ?_
  refine z_putI (pc := 7) 6 fp_Rdr_28 rfl rfl rfl (by decide +kernel) ?_
  refine z_aload_n (pc := 10) (q := 0) (by decide +kernel) rfl ?_
  refine z_getR (pc := 11) 67 fl_Rdr_25 rfl rfl rfl (by decide +kernel) ?_
  refine z_aload_n (pc := 14) (q := 0) (by decide +kernel) rfl ?_
  refine z_getI (pc := 15) 6 fl_Rdr_28 rfl (by decide) rfl (by decide +kernel) ?_
  refine z_topI (up_same _ _ _ _) ?_
  have hb1 := k.1
  have k := k.2
  refine z_iald (pc := 18) rfl hb1 (by decide +kernel) ?_
  refine z_topI (up_nc (by decide)) ?_
  refine z_istore_n (pc := 19) (q := 1) [some (vr 64), some (vi (σ 67 (w32 ((σ 64 6) + 1)))), none] (by decide +kernel) (Nat.le_of_ble_eq_true rfl) rfl ?_
  refine z_aload_n (pc := 20) (q := 0) (by decide +kernel) rfl ?_
  refine z_getR (pc := 21) 65 fl_Rdr_18 rfl rfl rfl (by decide +kernel) ?_
  refine z_aload_n (pc := 24) (q := 0) (by decide +kernel) rfl ?_
  refine z_getI (pc := 25) 6 fl_Rdr_28 rfl (by decide) rfl (by decide +kernel) ?_
  refine z_topI (up_same _ _ _ _) ?_
  refine z_iald (pc := 28) rfl hb1 (by decide +kernel) ?_
  refine z_topI (up_nc (by decide)) ?_
  refine z_sipush (pc := 29) (n := 200) (by decide +kernel) (by decide) ⟨by decide, by decide⟩ ?_
  refine z_icmp_lt (pc := 32) (off := 9) 41 (by decide +kernel) (by decide) ⟨fun hc => ?_, fun hc => ?_⟩
  · have k := k.1 hc
    refine z_aload_n (pc := 41) (q := 0) (by decide +kernel) rfl ?_
    refine z_iconst (pc := 42) (n := 2) (by decide +kernel) ⟨by decide, by decide⟩ ?_
    refine z_callv (pc := 43) (as := [vi 2]) ml_Rdr_183 rfl ⟨rfl, by decide⟩ rfl rfl (Nat.le_of_ble_eq_true rfl) (dc := d - 1) (by omega) (by decide +kernel) (CI.z (CI.mono (fun x1 τ1 k => ?_) k))
    exact z_zret (pc := 46) (by decide +kernel) rfl k
  · have k := k.2 hc
    refine z_iload_n (pc := 35) (q := 1) (by decide +kernel) rfl ?_
    refine z_bipush (pc := 36) (n := 8) (by decide +kernel) (by decide) ⟨by decide, by decide⟩ ?_
    refine z_icmp_le (pc := 38) (off := 9) 47 (by decide +kernel) (by decide) ⟨fun hc => ?_, fun hc => ?_⟩
    · have k := k.1 hc
      refine z_aload_n (pc := 47) (q := 0) (by decide +kernel) rfl ?_
      refine z_getR (pc := 48) 14 fl_Rdr_42 rfl rfl rfl (by decide +kernel) ?_
      refine z_iload_n (pc := 51) (q := 1) (by decide +kernel) rfl ?_
      refine z_putI (pc := 52) 6 fp_Rdr_218 rfl rfl rfl (by decide +kernel) ?_
      refine z_iconst (pc := 55) (n := 0) (by decide +kernel) ⟨by decide, by decide⟩ ?_
      refine z_istore_n (pc := 56) (q := 2) [some (vr 64), some (vi (σ 67 (w32 ((σ 64 6) + 1)))), some (vi 0)] (by decide +kernel) (Nat.le_of_ble_eq_true rfl) rfl ?_
      exact k
    · have k := k.2 hc
      refine z_aload_n (pc := 41) (q := 0) (by decide +kernel) rfl ?_
      refine z_iconst (pc := 42) (n := 2) (by decide +kernel) ⟨by decide, by decide⟩ ?_
      refine z_callv (pc := 43) (as := [vi 2]) ml_Rdr_183 rfl ⟨rfl, by decide⟩ rfl rfl (Nat.le_of_ble_eq_true rfl) (dc := d - 1) (by omega) (by decide +kernel) (CI.z (CI.mono (fun x2 τ2 k => ?_) k))
      exact z_zret (pc := 46) (by decide +kernel) rfl k
theorem b_Rdr_readName_57 {E : EN} {d : Nat} {a1 : Int} {a2 : Int} {σ : Mem} {K : Int → Mem → Prop}  (k : (a1 ≤ a2 → K 1 (up σ 64 6 (w32 ((σ 64 6) + 1)))) ∧ (a2 < a1 → (0 ≤ σ 64 6 ∧ σ 64 6 < 901) ∧ (0 ≤ w32 ((σ 66 (σ 64 6)) + a2) ∧ w32 ((σ 66 (σ 64 6)) + a2) < 900) ∧ (0 ≤ a2 ∧ a2 < 8) ∧ Z E y_Rdr_readName d 57 [some (vr 64), some (vi a1), some (vi (w32 (a2 + 1)))] [] (up σ 19 a2 (w32 ((σ 1 (w32 ((σ 66 (σ 64 6)) + a2))) - 97))) (qi K))) :
    Z E y_Rdr_readName d 57 [some (vr 64), some (vi a1), some (vi a2)] [] σ (qi K) := by
  refine z_iload_n (pc := 57) (q := 2) (by decide +kernel) rfl ?_
  refine z_iload_n (pc := 58) (q := 1) (by decide +kernel) rfl ?_
  refine z_icmp_ge (pc := 59) (off := 37) 96 (by decide +kernel) (by decide) ⟨fun hc => ?_, fun hc => ?_⟩
  · have k := k.1 hc
    refine z_aload_n (pc := 96) (q := 0) (by decide +kernel) rfl ?_
    refine z_dup (pc := 97) (by decide +kernel) rfl ?_
    refine z_getI (pc := 98) 6 fl_Rdr_28 rfl (by decide) rfl (by decide +kernel) ?_
    refine z_iconst (pc := 101) (n := 1) (by decide +kernel) ⟨by decide, by decide⟩ ?_
    refine z_iadd (pc := 102) (by decide +kernel) ?_
    refine z_putI (pc := 103) 6 fp_Rdr_28 rfl rfl rfl (by decide +kernel) ?_
    refine z_iconst (pc := 106) (n := 1) (by decide +kernel) ⟨by decide, by decide⟩ ?_
    exact z_zret (pc := 107) (by decide +kernel) rfl ⟨by decide, k⟩
  · have k := k.2 hc
    refine z_aload_n (pc := 62) (q := 0) (by decide +kernel) rfl ?_
    refine z_getR (pc := 63) 14 fl_Rdr_42 rfl rfl rfl (by decide +kernel) ?_
    refine z_getR (pc := 66) 19 fl_Rdr_221 rfl rfl rfl (by decide +kernel) ?_
    refine z_iload_n (pc := 69) (q := 2) (by decide +kernel) rfl ?_
    refine z_aload_n (pc := 70) (q := 0) (by decide +kernel) rfl ?_
    refine z_getR (pc := 71) 1 fl_Rdr_38 rfl rfl rfl (by decide +kernel) ?_
    refine z_aload_n (pc := 74) (q := 0) (by decide +kernel) rfl ?_
    refine z_getR (pc := 75) 66 fl_Rdr_22 rfl rfl rfl (by decide +kernel) ?_
    refine z_aload_n (pc := 78) (q := 0) (by decide +kernel) rfl ?_
    refine z_getI (pc := 79) 6 fl_Rdr_28 rfl (by decide) rfl (by decide +kernel) ?_
    have hb1 := k.1
    have k := k.2
    refine z_iald (pc := 82) rfl hb1 (by decide +kernel) ?_
    refine z_iload_n (pc := 83) (q := 2) (by decide +kernel) rfl ?_
    refine z_iadd (pc := 84) (by decide +kernel) ?_
    have hb2 := k.1
    have k := k.2
    refine z_bald (pc := 85) rfl hb2 (by decide +kernel) ?_
    refine z_bipush (pc := 86) (n := 97) (by decide +kernel) (by decide) ⟨by decide, by decide⟩ ?_
    refine z_isub (pc := 88) (by decide +kernel) ?_
    have hb3 := k.1
    have k := k.2
    refine z_iast (pc := 89) rfl hb3 (by decide +kernel) ?_
    refine z_iinc (pc := 90) (i := 2) (n := 1) [some (vr 64), some (vi a1), some (vi (w32 (a2 + 1)))] (by decide +kernel) rfl rfl ?_
    refine z_goto (pc := 93) (off := -36) 57 (by decide +kernel) (by decide) ?_
    exact k
theorem b_Rdr_readLaw_0 {E : EN} {d : Nat} {a1 : Int} {σ : Mem} {K : Int → Mem → Prop}  (hd : 1 ≤ d) (k : CI E y_Rdr_takeToken (d - 1) [vr 64, vi 58] (up σ 64 6 (w32 ((σ 64 6) + 1))) (fun x1 τ1 => (x1 ≠ 0 → CV E y_Laws_begin (d - 1) [vr 68, vi a1] τ1 (fun τ2 => CI E y_Rdr_readSum (d - 1) [vr 64, vi a1, vi 0] τ2 (fun x3 τ3 => CV E y_Laws_finish (d - 1) [vr 68, vi a1] τ3 (fun τ4 => (x3 = 0 ∨ x3 = 1) ∧ K x3 τ4)))) ∧ (x1 = 0 → K 0 τ1))) :
    Z E y_Rdr_readLaw d 0 [some (vr 64), some (vi a1), none] [] σ (qi K) := by
  refine z_aload_n (pc := 0) (q := 0) (by decide +kernel) rfl ?_
  refine z_dup (pc := 1) (by decide +kernel) rfl ?_
  refine z_getI (pc := 2) 6 fl_Rdr_28 rfl (by decide) rfl (by decide +kernel) ?_
  refine z_iconst (pc := 5) (n := 1) (by decide +kernel) ⟨by decide, by decide⟩ ?_
  refine z_iadd (pc := 6) (by decide +kernel) ?_
  refine z_putI (pc := 7) 6 fp_Rdr_28 rfl rfl rfl (by decide +kernel) ?_
  refine z_aload_n (pc := 10) (q := 0) (by decide +kernel) rfl ?_
  refine z_bipush (pc := 11) (n := 58) (by decide +kernel) (by decide) ⟨by decide, by decide⟩ ?_
  refine z_callv (pc := 13) (as := [vi 58]) ml_Rdr_154 rfl ⟨rfl, by decide⟩ rfl rfl (Nat.le_of_ble_eq_true rfl) (dc := d - 1) (by omega) (by decide +kernel) (CI.z (CI.mono (fun x1 τ1 k => ?_) k))
  refine z_if_ne (pc := 16) (off := 5) 21 (by decide +kernel) (by decide) ⟨fun hc => ?_, fun hc => ?_⟩
  · have k := k.1 hc
    refine z_aload_n (pc := 21) (q := 0) (by decide +kernel) rfl ?_
    refine z_getR (pc := 22) 68 fl_Rdr_12 rfl rfl rfl (by decide +kernel) ?_
    refine z_iload_n (pc := 25) (q := 1) (by decide +kernel) rfl ?_
    refine z_callv (pc := 26) (as := [vi a1]) ml_Rdr_224 rfl ⟨rfl, by decide⟩ rfl rfl (Nat.le_of_ble_eq_true rfl) (dc := d - 1) (by omega) (by decide +kernel) (CV.z (CV.mono (fun τ2 k => ?_) k))
    refine z_aload_n (pc := 29) (q := 0) (by decide +kernel) rfl ?_
    refine z_iload_n (pc := 30) (q := 1) (by decide +kernel) rfl ?_
    refine z_iconst (pc := 31) (n := 0) (by decide +kernel) ⟨by decide, by decide⟩ ?_
    refine z_callv (pc := 32) (as := [vi a1, vi 0]) ml_Rdr_227 rfl ⟨rfl, by decide⟩ rfl rfl (Nat.le_of_ble_eq_true rfl) (dc := d - 1) (by omega) (by decide +kernel) (CI.z (CI.mono (fun x3 τ3 k => ?_) k))
    refine z_istore_n (pc := 35) (q := 2) [some (vr 64), some (vi a1), some (vi x3)] (by decide +kernel) (Nat.le_of_ble_eq_true rfl) rfl ?_
    refine z_aload_n (pc := 36) (q := 0) (by decide +kernel) rfl ?_
    refine z_getR (pc := 37) 68 fl_Rdr_12 rfl rfl rfl (by decide +kernel) ?_
    refine z_iload_n (pc := 40) (q := 1) (by decide +kernel) rfl ?_
    refine z_callv (pc := 41) (as := [vi a1]) ml_Rdr_231 rfl ⟨rfl, by decide⟩ rfl rfl (Nat.le_of_ble_eq_true rfl) (dc := d - 1) (by omega) (by decide +kernel) (CV.z (CV.mono (fun τ4 k => ?_) k))
    refine z_iload_n (pc := 44) (q := 2) (by decide +kernel) rfl ?_
    exact z_zret (pc := 45) (by decide +kernel) rfl k
  · have k := k.2 hc
    refine z_iconst (pc := 19) (n := 0) (by decide +kernel) ⟨by decide, by decide⟩ ?_
    exact z_zret (pc := 20) (by decide +kernel) rfl ⟨by decide, k⟩
theorem b_Rdr_readSum_0 {E : EN} {d : Nat} {a1 : Int} {a2 : Int} {σ : Mem} {K : Int → Mem → Prop}  (hd : 1 ≤ d) (k : CI E y_Rdr_readTerm (d - 1) [vr 64, vi a1, vi a2] σ (fun x1 τ1 => Z E y_Rdr_readSum d 10 [some (vr 64), some (vi a1), some (vi a2), some (vi x1), some (vi 0), none] [] τ1 (qi K))) :
    Z E y_Rdr_readSum d 0 [some (vr 64), some (vi a1), some (vi a2), none, none, none] [] σ (qi K) := by
  refine z_aload_n (pc := 0) (q := 0) (by decide +kernel) rfl ?_
  refine z_iload_n (pc := 1) (q := 1) (by decide +kernel) rfl ?_
  refine z_iload_n (pc := 2) (q := 2) (by decide +kernel) rfl ?_
  refine z_callv (pc := 3) (as := [vi a1, vi a2]) ml_Rdr_234 rfl ⟨rfl, by decide⟩ rfl rfl (Nat.le_of_ble_eq_true rfl) (dc := d - 1) (by omega) (by decide +kernel) (CI.z (CI.mono (fun x1 τ1 k => ?_) k))
  refine z_istore_n (pc := 6) (q := 3) [some (vr 64), some (vi a1), some (vi a2), some (vi x1), none, none] (by decide +kernel) (Nat.le_of_ble_eq_true rfl) rfl ?_
  refine z_iconst (pc := 7) (n := 0) (by decide +kernel) ⟨by decide, by decide⟩ ?_
  refine z_istore (pc := 8) (i := 4) [some (vr 64), some (vi a1), some (vi a2), some (vi x1), some (vi 0), none] (by decide +kernel) (Nat.le_of_ble_eq_true rfl) rfl ?_
  exact k
theorem b_Rdr_readSum_10 {E : EN} {d : Nat} {a1 : Int} {a2 : Int} {a3 : Int} {a4 : Int} {o5 : Option AV} {σ : Mem} {K : Int → Mem → Prop}  (k : (900 ≤ a4 → (a3 = 0 ∨ a3 = 1) ∧ K a3 σ) ∧ (a4 < 900 → (a3 = 0 → (a3 = 0 ∨ a3 = 1) ∧ K a3 σ) ∧ (a3 ≠ 0 → (0 ≤ σ 64 6 ∧ σ 64 6 < 901) ∧ (σ 65 (σ 64 6) = 43 → (σ 65 (σ 64 6) ≠ 43 → Z E y_Rdr_readSum d 73 [some (vr 64), some (vi a1), some (vi a2), some (vi a3), some (vi a4), o5] [vi 1201] σ (qi K)) ∧ (σ 65 (σ 64 6) = 43 → Z E y_Rdr_readSum d 73 [some (vr 64), some (vi a1), some (vi a2), some (vi a3), some (vi a4), o5] [vi 1200] σ (qi K))) ∧ (σ 65 (σ 64 6) ≠ 43 → (σ 65 (σ 64 6) ≠ 45 → (a3 = 0 ∨ a3 = 1) ∧ K a3 σ) ∧ (σ 65 (σ 64 6) = 45 → (σ 65 (σ 64 6) ≠ 43 → Z E y_Rdr_readSum d 73 [some (vr 64), some (vi a1), some (vi a2), some (vi a3), some (vi a4), o5] [vi 1201] σ (qi K)) ∧ (σ 65 (σ 64 6) = 43 → Z E y_Rdr_readSum d 73 [some (vr 64), some (vi a1), some (vi a2), some (vi a3), some (vi a4), o5] [vi 1200] σ (qi K))))))) :
    Z E y_Rdr_readSum d 10 [some (vr 64), some (vi a1), some (vi a2), some (vi a3), some (vi a4), o5] [] σ (qi K) := by
  refine z_iload (pc := 10) (i := 4) (by decide +kernel) rfl ?_
  refine z_sipush (pc := 12) (n := 900) (by decide +kernel) (by decide) ⟨by decide, by decide⟩ ?_
  refine z_icmp_ge (pc := 15) (off := 92) 107 (by decide +kernel) (by decide) ⟨fun hc => ?_, fun hc => ?_⟩
  · have k := k.1 hc
    refine z_iload_n (pc := 107) (q := 3) (by decide +kernel) rfl ?_
    exact z_zret (pc := 108) (by decide +kernel) rfl k
  · have k := k.2 hc
    refine z_iload_n (pc := 18) (q := 3) (by decide +kernel) rfl ?_
    refine z_if_eq (pc := 19) (off := 88) 107 (by decide +kernel) (by decide) ⟨fun hc => ?_, fun hc => ?_⟩
    · have k := k.1 hc
      refine z_iload_n (pc := 107) (q := 3) (by decide +kernel) rfl ?_
      exact z_zret (pc := 108) (by decide +kernel) rfl k
    · have k := k.2 hc
      refine z_aload_n (pc := 22) (q := 0) (by decide +kernel) rfl ?_
      refine z_getR (pc := 23) 65 fl_Rdr_18 rfl rfl rfl (by decide +kernel) ?_
      refine z_aload_n (pc := 26) (q := 0) (by decide +kernel) rfl ?_
      refine z_getI (pc := 27) 6 fl_Rdr_28 rfl (by decide) rfl (by decide +kernel) ?_
      have hb1 := k.1
      have k := k.2
      refine z_iald (pc := 30) rfl hb1 (by decide +kernel) ?_
      refine z_bipush (pc := 31) (n := 43) (by decide +kernel) (by decide) ⟨by decide, by decide⟩ ?_
      refine z_icmp_eq (pc := 33) (off := 17) 50 (by decide +kernel) (by decide) ⟨fun hc => ?_, fun hc => ?_⟩
      · have k := k.1 hc
        refine z_aload_n (pc := 50) (q := 0) (by decide +kernel) rfl ?_
        refine z_getR (pc := 51) 65 fl_Rdr_18 rfl rfl rfl (by decide +kernel) ?_
        refine z_aload_n (pc := 54) (q := 0) (by decide +kernel) rfl ?_
        refine z_getI (pc := 55) 6 fl_Rdr_28 rfl (by decide) rfl (by decide +kernel) ?_
        refine z_iald (pc := 58) rfl hb1 (by decide +kernel) ?_
        refine z_bipush (pc := 59) (n := 43) (by decide +kernel) (by decide) ⟨by decide, by decide⟩ ?_
        refine z_icmp_ne (pc := 61) (off := 9) 70 (by decide +kernel) (by decide) ⟨fun hc => ?_, fun hc => ?_⟩
        · have k := k.1 hc
          refine z_sipush (pc := 70) (n := 1201) (by decide +kernel) (by decide) ⟨by decide, by decide⟩ ?_
          exact k
        · have k := k.2 hc
          refine z_sipush (pc := 64) (n := 1200) (by decide +kernel) (by decide) ⟨by decide, by decide⟩ ?_
          refine z_goto (pc := 67) (off := 6) 73 (by decide +kernel) (by decide) ?_
          exact k
      · have k := k.2 hc
        refine z_aload_n (pc := 36) (q := 0) (by decide +kernel) rfl ?_
        refine z_getR (pc := 37) 65 fl_Rdr_18 rfl rfl rfl (by decide +kernel) ?_
        refine z_aload_n (pc := 40) (q := 0) (by decide +kernel) rfl ?_
        refine z_getI (pc := 41) 6 fl_Rdr_28 rfl (by decide) rfl (by decide +kernel) ?_
        refine z_iald (pc := 44) rfl hb1 (by decide +kernel) ?_
        refine z_bipush (pc := 45) (n := 45) (by decide +kernel) (by decide) ⟨by decide, by decide⟩ ?_
        refine z_icmp_ne (pc := 47) (off := 60) 107 (by decide +kernel) (by decide) ⟨fun hc => ?_, fun hc => ?_⟩
        · have k := k.1 hc
          refine z_iload_n (pc := 107) (q := 3) (by decide +kernel) rfl ?_
          exact z_zret (pc := 108) (by decide +kernel) rfl k
        · have k := k.2 hc
          refine z_aload_n (pc := 50) (q := 0) (by decide +kernel) rfl ?_
          refine z_getR (pc := 51) 65 fl_Rdr_18 rfl rfl rfl (by decide +kernel) ?_
          refine z_aload_n (pc := 54) (q := 0) (by decide +kernel) rfl ?_
          refine z_getI (pc := 55) 6 fl_Rdr_28 rfl (by decide) rfl (by decide +kernel) ?_
          refine z_iald (pc := 58) rfl hb1 (by decide +kernel) ?_
          refine z_bipush (pc := 59) (n := 43) (by decide +kernel) (by decide) ⟨by decide, by decide⟩ ?_
          refine z_icmp_ne (pc := 61) (off := 9) 70 (by decide +kernel) (by decide) ⟨fun hc => ?_, fun hc => ?_⟩
          · have k := k.1 hc
            refine z_sipush (pc := 70) (n := 1201) (by decide +kernel) (by decide) ⟨by decide, by decide⟩ ?_
            exact k
          · have k := k.2 hc
            refine z_sipush (pc := 64) (n := 1200) (by decide +kernel) (by decide) ⟨by decide, by decide⟩ ?_
            refine z_goto (pc := 67) (off := 6) 73 (by decide +kernel) (by decide) ?_
            exact k
theorem b_Rdr_readSum_73 {E : EN} {d : Nat} {a1 : Int} {a2 : Int} {o3 : Option AV} {a4 : Int} {o5 : Option AV} {s0 : Int} {σ : Mem} {K : Int → Mem → Prop}  (hd : 1 ≤ d) (k : CI E y_Rdr_readTerm (d - 1) [vr 64, vi a1, vi a2] (up σ 64 6 (w32 ((σ 64 6) + 1))) (fun x1 τ1 => CV E y_Laws_add (d - 1) [vr 68, vi s0] τ1 (fun τ2 => Z E y_Rdr_readSum d 10 [some (vr 64), some (vi a1), some (vi a2), some (vi x1), some (vi (w32 (a4 + 1))), some (vi s0)] [] τ2 (qi K)))) :
    Z E y_Rdr_readSum d 73 [some (vr 64), some (vi a1), some (vi a2), o3, some (vi a4), o5] [vi s0] σ (qi K) := by
  refine z_istore (pc := 73) (i := 5) [some (vr 64), some (vi a1), some (vi a2), o3, some (vi a4), some (vi s0)] (by decide +kernel) (Nat.le_of_ble_eq_true rfl) rfl ?_
  refine z_aload_n (pc := 75) (q := 0) (by decide +kernel) rfl ?_
  refine z_dup (pc := 76) (by decide +kernel) rfl ?_
  refine z_getI (pc := 77) 6 fl_Rdr_28 rfl (by decide) rfl (by decide +kernel) ?_
  refine z_iconst (pc := 80) (n := 1) (by decide +kernel) ⟨by decide, by decide⟩ ?_
  refine z_iadd (pc := 81) (by decide +kernel) ?_
  refine z_putI (pc := 82) 6 fp_Rdr_28 rfl rfl rfl (by decide +kernel) ?_
  refine z_aload_n (pc := 85) (q := 0) (by decide +kernel) rfl ?_
  refine z_iload_n (pc := 86) (q := 1) (by decide +kernel) rfl ?_
  refine z_iload_n (pc := 87) (q := 2) (by decide +kernel) rfl ?_
  refine z_callv (pc := 88) (as := [vi a1, vi a2]) ml_Rdr_234 rfl ⟨rfl, by decide⟩ rfl rfl (Nat.le_of_ble_eq_true rfl) (dc := d - 1) (by omega) (by decide +kernel) (CI.z (CI.mono (fun x1 τ1 k => ?_) k))
  refine z_istore_n (pc := 91) (q := 3) [some (vr 64), some (vi a1), some (vi a2), some (vi x1), some (vi a4), some (vi s0)] (by decide +kernel) (Nat.le_of_ble_eq_true rfl) rfl ?_
  refine z_aload_n (pc := 92) (q := 0) (by decide +kernel) rfl ?_
  refine z_getR (pc := 93) 68 fl_Rdr_12 rfl rfl rfl (by decide +kernel) ?_
  refine z_iload (pc := 96) (i := 5) (by decide +kernel) rfl ?_
  refine z_callv (pc := 98) (as := [vi s0]) ml_Rdr_237 rfl ⟨rfl, by decide⟩ rfl rfl (Nat.le_of_ble_eq_true rfl) (dc := d - 1) (by omega) (by decide +kernel) (CV.z (CV.mono (fun τ2 k => ?_) k))
  refine z_iinc (pc := 101) (i := 4) (n := 1) [some (vr 64), some (vi a1), some (vi a2), some (vi x1), some (vi (w32 (a4 + 1))), some (vi s0)] (by decide +kernel) rfl rfl ?_
  refine z_goto (pc := 104) (off := -94) 10 (by decide +kernel) (by decide) ?_
  exact k
theorem b_Rdr_readTerm_0 {E : EN} {d : Nat} {a1 : Int} {a2 : Int} {σ : Mem} {K : Int → Mem → Prop}  (hd : 1 ≤ d) (k : CI E y_Rdr_readAtom (d - 1) [vr 64, vi a1, vi a2] σ (fun x1 τ1 => Z E y_Rdr_readTerm d 10 [some (vr 64), some (vi a1), some (vi a2), some (vi x1), some (vi 0)] [] τ1 (qi K))) :
    Z E y_Rdr_readTerm d 0 [some (vr 64), some (vi a1), some (vi a2), none, none] [] σ (qi K) := by
  refine z_aload_n (pc := 0) (q := 0) (by decide +kernel) rfl ?_
  refine z_iload_n (pc := 1) (q := 1) (by decide +kernel) rfl ?_
  refine z_iload_n (pc := 2) (q := 2) (by decide +kernel) rfl ?_
  refine z_callv (pc := 3) (as := [vi a1, vi a2]) ml_Rdr_240 rfl ⟨rfl, by decide⟩ rfl rfl (Nat.le_of_ble_eq_true rfl) (dc := d - 1) (by omega) (by decide +kernel) (CI.z (CI.mono (fun x1 τ1 k => ?_) k))
  refine z_istore_n (pc := 6) (q := 3) [some (vr 64), some (vi a1), some (vi a2), some (vi x1), none] (by decide +kernel) (Nat.le_of_ble_eq_true rfl) rfl ?_
  refine z_iconst (pc := 7) (n := 0) (by decide +kernel) ⟨by decide, by decide⟩ ?_
  refine z_istore (pc := 8) (i := 4) [some (vr 64), some (vi a1), some (vi a2), some (vi x1), some (vi 0)] (by decide +kernel) (Nat.le_of_ble_eq_true rfl) rfl ?_
  exact k
theorem b_Rdr_readTerm_10 {E : EN} {d : Nat} {a1 : Int} {a2 : Int} {a3 : Int} {a4 : Int} {σ : Mem} {K : Int → Mem → Prop}  (hd : 1 ≤ d) (k : (900 ≤ a4 → (a3 = 0 ∨ a3 = 1) ∧ K a3 σ) ∧ (a4 < 900 → (a3 = 0 → (a3 = 0 ∨ a3 = 1) ∧ K a3 σ) ∧ (a3 ≠ 0 → (0 ≤ σ 64 6 ∧ σ 64 6 < 901) ∧ (σ 65 (σ 64 6) ≠ 42 → (a3 = 0 ∨ a3 = 1) ∧ K a3 σ) ∧ (σ 65 (σ 64 6) = 42 → CI E y_Rdr_readAtom (d - 1) [vr 64, vi a1, vi a2] (up σ 64 6 (w32 ((σ 64 6) + 1))) (fun x1 τ1 => CV E y_Laws_add (d - 1) [vr 68, vi 1202] τ1 (fun τ2 => Z E y_Rdr_readTerm d 10 [some (vr 64), some (vi a1), some (vi a2), some (vi x1), some (vi (w32 (a4 + 1)))] [] τ2 (qi K))))))) :
    Z E y_Rdr_readTerm d 10 [some (vr 64), some (vi a1), some (vi a2), some (vi a3), some (vi a4)] [] σ (qi K) := by
  refine z_iload (pc := 10) (i := 4) (by decide +kernel) rfl ?_
  refine z_sipush (pc := 12) (n := 900) (by decide +kernel) (by decide) ⟨by decide, by decide⟩ ?_
  refine z_icmp_ge (pc := 15) (off := 54) 69 (by decide +kernel) (by decide) ⟨fun hc => ?_, fun hc => ?_⟩
  · have k := k.1 hc
    refine z_iload_n (pc := 69) (q := 3) (by decide +kernel) rfl ?_
    exact z_zret (pc := 70) (by decide +kernel) rfl k
  · have k := k.2 hc
    refine z_iload_n (pc := 18) (q := 3) (by decide +kernel) rfl ?_
    refine z_if_eq (pc := 19) (off := 50) 69 (by decide +kernel) (by decide) ⟨fun hc => ?_, fun hc => ?_⟩
    · have k := k.1 hc
      refine z_iload_n (pc := 69) (q := 3) (by decide +kernel) rfl ?_
      exact z_zret (pc := 70) (by decide +kernel) rfl k
    · have k := k.2 hc
      refine z_aload_n (pc := 22) (q := 0) (by decide +kernel) rfl ?_
      refine z_getR (pc := 23) 65 fl_Rdr_18 rfl rfl rfl (by decide +kernel) ?_
      refine z_aload_n (pc := 26) (q := 0) (by decide +kernel) rfl ?_
      refine z_getI (pc := 27) 6 fl_Rdr_28 rfl (by decide) rfl (by decide +kernel) ?_
      have hb1 := k.1
      have k := k.2
      refine z_iald (pc := 30) rfl hb1 (by decide +kernel) ?_
      refine z_bipush (pc := 31) (n := 42) (by decide +kernel) (by decide) ⟨by decide, by decide⟩ ?_
      refine z_icmp_ne (pc := 33) (off := 36) 69 (by decide +kernel) (by decide) ⟨fun hc => ?_, fun hc => ?_⟩
      · have k := k.1 hc
        refine z_iload_n (pc := 69) (q := 3) (by decide +kernel) rfl ?_
        exact z_zret (pc := 70) (by decide +kernel) rfl k
      · have k := k.2 hc
        refine z_aload_n (pc := 36) (q := 0) (by decide +kernel) rfl ?_
        refine z_dup (pc := 37) (by decide +kernel) rfl ?_
        refine z_getI (pc := 38) 6 fl_Rdr_28 rfl (by decide) rfl (by decide +kernel) ?_
        refine z_iconst (pc := 41) (n := 1) (by decide +kernel) ⟨by decide, by decide⟩ ?_
        refine z_iadd (pc := 42) (by decide +kernel) ?_
        refine z_putI (pc := 43) 6 fp_Rdr_28 rfl rfl rfl (by decide +kernel) ?_
        refine z_aload_n (pc := 46) (q := 0) (by decide +kernel) rfl ?_
        refine z_iload_n (pc := 47) (q := 1) (by decide +kernel) rfl ?_
        refine z_iload_n (pc := 48) (q := 2) (by decide +kernel) rfl ?_
        refine z_callv (pc := 49) (as := [vi a1, vi a2]) ml_Rdr_240 rfl ⟨rfl, by decide⟩ rfl rfl (Nat.le_of_ble_eq_true rfl) (dc := d - 1) (by omega) (by decide +kernel) (CI.z (CI.mono (fun x1 τ1 k => ?_) k))
        refine z_istore_n (pc := 52) (q := 3) [some (vr 64), some (vi a1), some (vi a2), some (vi x1), some (vi a4)] (by decide +kernel) (Nat.le_of_ble_eq_true rfl) rfl ?_
        refine z_aload_n (pc := 53) (q := 0) (by decide +kernel) rfl ?_
        refine z_getR (pc := 54) 68 fl_Rdr_12 rfl rfl rfl (by decide +kernel) ?_
        refine z_sipush (pc := 57) (n := 1202) (by decide +kernel) (by decide) ⟨by decide, by decide⟩ ?_
        refine z_callv (pc := 60) (as := [vi 1202]) ml_Rdr_237 rfl ⟨rfl, by decide⟩ rfl rfl (Nat.le_of_ble_eq_true rfl) (dc := d - 1) (by omega) (by decide +kernel) (CV.z (CV.mono (fun τ2 k => ?_) k))
        refine z_iinc (pc := 63) (i := 4) (n := 1) [some (vr 64), some (vi a1), some (vi a2), some (vi x1), some (vi (w32 (a4 + 1)))] (by decide +kernel) rfl rfl ?_
        refine z_goto (pc := 66) (off := -56) 10 (by decide +kernel) (by decide) ?_
        exact k
theorem b_Rdr_readAtom_0 {E : EN} {d : Nat} {a1 : Int} {a2 : Int} {σ : Mem} {K : Int → Mem → Prop}  (hd : 1 ≤ d) (k : (0 ≤ σ 64 6 ∧ σ 64 6 < 901) ∧ (σ 65 (σ 64 6) ≠ 40 → CI E y_Rdr_atomOp (d - 1) [vr 64, vi a1] σ (fun x1 τ1 => (x1 ≠ (-1) → CV E y_Laws_add (d - 1) [vr 68, vi x1] τ1 (fun τ2 => K 1 (up τ2 64 6 (w32 ((τ2 64 6) + 1))))) ∧ (x1 = (-1) → CI E y_Rdr_fail (d - 1) [vr 64, vi 2] τ1 (fun x3 τ3 => (x3 = 0 ∨ x3 = 1) ∧ K x3 τ3)))) ∧ (σ 65 (σ 64 6) = 40 → (a2 < 6 → CI E y_Rdr_readSum (d - 1) [vr 64, vi a1, vi (w32 (a2 + 1))] (up σ 64 6 (w32 ((σ 64 6) + 1))) (fun x4 τ4 => (x4 ≠ 0 → (0 ≤ τ4 64 6 ∧ τ4 64 6 < 901) ∧ (τ4 65 (τ4 64 6) = 41 → K 1 (up τ4 64 6 (w32 ((τ4 64 6) + 1)))) ∧ (τ4 65 (τ4 64 6) ≠ 41 → CI E y_Rdr_fail (d - 1) [vr 64, vi 2] τ4 (fun x5 τ5 => (x5 = 0 ∨ x5 = 1) ∧ K x5 τ5))) ∧ (x4 = 0 → K 0 τ4))) ∧ (6 ≤ a2 → CI E y_Rdr_fail (d - 1) [vr 64, vi 4] σ (fun x6 τ6 => (x6 = 0 ∨ x6 = 1) ∧ K x6 τ6)))) :
    Z E y_Rdr_readAtom d 0 [some (vr 64), some (vi a1), some (vi a2), none] [] σ (qi K) := by
  refine z_aload_n (pc := 0) (q := 0) (by decide +kernel) rfl ?_
  refine z_getR (pc := 1) 65 fl_Rdr_18 rfl rfl rfl (by decide +kernel) ?_
  refine z_aload_n (pc := 4) (q := 0) (by decide +kernel) rfl ?_
  refine z_getI (pc := 5) 6 fl_Rdr_28 rfl (by decide) rfl (by decide +kernel) ?_
  have hb1 := k.1
  have k := k.2
  refine z_iald (pc := 8) rfl hb1 (by decide +kernel) ?_
  refine z_bipush (pc := 9) (n := 40) (by decide +kernel) (by decide) ⟨by decide, by decide⟩ ?_
  refine z_icmp_ne (pc := 11) (off := 70) 81 (by decide +kernel) (by decide) ⟨fun hc => ?_, fun hc => ?_⟩
  · have k := k.1 hc
    refine z_aload_n (pc := 81) (q := 0) (by decide +kernel) rfl ?_
    refine z_iload_n (pc := 82) (q := 1) (by decide +kernel) rfl ?_
    refine z_callv (pc := 83) (as := [vi a1]) ml_Rdr_243 rfl ⟨rfl, by decide⟩ rfl rfl (Nat.le_of_ble_eq_true rfl) (dc := d - 1) (by omega) (by decide +kernel) (CI.z (CI.mono (fun x1 τ1 k => ?_) k))
    refine z_istore_n (pc := 86) (q := 3) [some (vr 64), some (vi a1), some (vi a2), some (vi x1)] (by decide +kernel) (Nat.le_of_ble_eq_true rfl) rfl ?_
    refine z_iload_n (pc := 87) (q := 3) (by decide +kernel) rfl ?_
    refine z_iconst (pc := 88) (n := -1) (by decide +kernel) ⟨by decide, by decide⟩ ?_
    refine z_icmp_ne (pc := 89) (off := 9) 98 (by decide +kernel) (by decide) ⟨fun hc => ?_, fun hc => ?_⟩
    · have k := k.1 hc
      refine z_aload_n (pc := 98) (q := 0) (by decide +kernel) rfl ?_
      refine z_getR (pc := 99) 68 fl_Rdr_12 rfl rfl rfl (by decide +kernel) ?_
      refine z_iload_n (pc := 102) (q := 3) (by decide +kernel) rfl ?_
      refine z_callv (pc := 103) (as := [vi x1]) ml_Rdr_237 rfl ⟨rfl, by decide⟩ rfl rfl (Nat.le_of_ble_eq_true rfl) (dc := d - 1) (by omega) (by decide +kernel) (CV.z (CV.mono (fun τ2 k => ?_) k))
      refine z_aload_n (pc := 106) (q := 0) (by decide +kernel) rfl ?_
      refine z_dup (pc := 107) (by decide +kernel) rfl ?_
      refine z_getI (pc := 108) 6 fl_Rdr_28 rfl (by decide) rfl (by decide +kernel) ?_
      refine z_iconst (pc := 111) (n := 1) (by decide +kernel) ⟨by decide, by decide⟩ ?_
      refine z_iadd (pc := 112) (by decide +kernel) ?_
      refine z_putI (pc := 113) 6 fp_Rdr_28 rfl rfl rfl (by decide +kernel) ?_
      refine z_iconst (pc := 116) (n := 1) (by decide +kernel) ⟨by decide, by decide⟩ ?_
      exact z_zret (pc := 117) (by decide +kernel) rfl ⟨by decide, k⟩
    · have k := k.2 hc
      refine z_aload_n (pc := 92) (q := 0) (by decide +kernel) rfl ?_
      refine z_iconst (pc := 93) (n := 2) (by decide +kernel) ⟨by decide, by decide⟩ ?_
      refine z_callv (pc := 94) (as := [vi 2]) ml_Rdr_183 rfl ⟨rfl, by decide⟩ rfl rfl (Nat.le_of_ble_eq_true rfl) (dc := d - 1) (by omega) (by decide +kernel) (CI.z (CI.mono (fun x3 τ3 k => ?_) k))
      exact z_zret (pc := 97) (by decide +kernel) rfl k
  · have k := k.2 hc
    refine z_iload_n (pc := 14) (q := 2) (by decide +kernel) rfl ?_
    refine z_bipush (pc := 15) (n := 6) (by decide +kernel) (by decide) ⟨by decide, by decide⟩ ?_
    refine z_icmp_lt (pc := 17) (off := 9) 26 (by decide +kernel) (by decide) ⟨fun hc => ?_, fun hc => ?_⟩
    · have k := k.1 hc
      refine z_aload_n (pc := 26) (q := 0) (by decide +kernel) rfl ?_
      refine z_dup (pc := 27) (by decide +kernel) rfl ?_
      refine z_getI (pc := 28) 6 fl_Rdr_28 rfl (by decide) rfl (by decide +kernel) ?_
      refine z_iconst (pc := 31) (n := 1) (by decide +kernel) ⟨by decide, by decide⟩ ?_
      refine z_iadd (pc := 32) (by decide +kernel) ?_
      refine z_putI (pc := 33) 6 fp_Rdr_28 rfl rfl rfl (by decide +kernel) ?_
      refine z_aload_n (pc := 36) (q := 0) (by decide +kernel) rfl ?_
      refine z_iload_n (pc := 37) (q := 1) (by decide +kernel) rfl ?_
      refine z_iload_n (pc := 38) (q := 2) (by decide +kernel) rfl ?_
      refine z_iconst (pc := 39) (n := 1) (by decide +kernel) ⟨by decide, by decide⟩ ?_
      refine z_iadd (pc := 40) (by decide +kernel) ?_
      refine z_callv (pc := 41) (as := [vi a1, vi (w32 (a2 + 1))]) ml_Rdr_227 rfl ⟨rfl, by decide⟩ rfl rfl (Nat.le_of_ble_eq_true rfl) (dc := d - 1) (by omega) (by decide +kernel) (CI.z (CI.mono (fun x4 τ4 k => ?_) k))
      refine z_if_ne (pc := 44) (off := 5) 49 (by decide +kernel) (by decide) ⟨fun hc => ?_, fun hc => ?_⟩
      · have k := k.1 hc
        refine z_aload_n (pc := 49) (q := 0) (by decide +kernel) rfl ?_
        refine z_getR (pc := 50) 65 fl_Rdr_18 rfl rfl rfl (by decide +kernel) ?_
        refine z_aload_n (pc := 53) (q := 0) (by decide +kernel) rfl ?_
        refine z_getI (pc := 54) 6 fl_Rdr_28 rfl (by decide) rfl (by decide +kernel) ?_
        have hb2 := k.1
        have k := k.2
        refine z_iald (pc := 57) rfl hb2 (by decide +kernel) ?_
        refine z_bipush (pc := 58) (n := 41) (by decide +kernel) (by decide) ⟨by decide, by decide⟩ ?_
        refine z_icmp_eq (pc := 60) (off := 9) 69 (by decide +kernel) (by decide) ⟨fun hc => ?_, fun hc => ?_⟩
        · have k := k.1 hc
          refine z_aload_n (pc := 69) (q := 0) (by decide +kernel) rfl ?_
          refine z_dup (pc := 70) (by decide +kernel) rfl ?_
          refine z_getI (pc := 71) 6 fl_Rdr_28 rfl (by decide) rfl (by decide +kernel) ?_
          refine z_iconst (pc := 74) (n := 1) (by decide +kernel) ⟨by decide, by decide⟩ ?_
          refine z_iadd (pc := 75) (by decide +kernel) ?_
          refine z_putI (pc := 76) 6 fp_Rdr_28 rfl rfl rfl (by decide +kernel) ?_
          refine z_iconst (pc := 79) (n := 1) (by decide +kernel) ⟨by decide, by decide⟩ ?_
          exact z_zret (pc := 80) (by decide +kernel) rfl ⟨by decide, k⟩
        · have k := k.2 hc
          refine z_aload_n (pc := 63) (q := 0) (by decide +kernel) rfl ?_
          refine z_iconst (pc := 64) (n := 2) (by decide +kernel) ⟨by decide, by decide⟩ ?_
          refine z_callv (pc := 65) (as := [vi 2]) ml_Rdr_183 rfl ⟨rfl, by decide⟩ rfl rfl (Nat.le_of_ble_eq_true rfl) (dc := d - 1) (by omega) (by decide +kernel) (CI.z (CI.mono (fun x5 τ5 k => ?_) k))
          exact z_zret (pc := 68) (by decide +kernel) rfl k
      · have k := k.2 hc
        refine z_iconst (pc := 47) (n := 0) (by decide +kernel) ⟨by decide, by decide⟩ ?_
        exact z_zret (pc := 48) (by decide +kernel) rfl ⟨by decide, k⟩
    · have k := k.2 hc
      refine z_aload_n (pc := 20) (q := 0) (by decide +kernel) rfl ?_
      refine z_iconst (pc := 21) (n := 4) (by decide +kernel) ⟨by decide, by decide⟩ ?_
      refine z_callv (pc := 22) (as := [vi 4]) ml_Rdr_183 rfl ⟨rfl, by decide⟩ rfl rfl (Nat.le_of_ble_eq_true rfl) (dc := d - 1) (by omega) (by decide +kernel) (CI.z (CI.mono (fun x6 τ6 k => ?_) k))
      exact z_zret (pc := 25) (by decide +kernel) rfl k
theorem b_Rdr_atomOp_0 {E : EN} {d : Nat} {a1 : Int} {σ : Mem} {K : Int → Mem → Prop}  (k : (0 ≤ σ 64 6 ∧ σ 64 6 < 901) ∧ (σ 65 (σ 64 6) = 1 → K (σ 67 (σ 64 6)) σ) ∧ (σ 65 (σ 64 6) = 203 → (a1 ≠ 1 → K (-1) σ) ∧ (a1 = 1 → K 1100 σ)) ∧ (σ 65 (σ 64 6) = 206 → K 1001 σ) ∧ (σ 65 (σ 64 6) = 207 → K 1002 σ) ∧ (σ 65 (σ 64 6) = 209 → K 1004 σ) ∧ (σ 65 (σ 64 6) = 210 → K 1005 σ) ∧ (¬ σ 65 (σ 64 6) = 1 ∧ ¬ σ 65 (σ 64 6) = 203 ∧ ¬ σ 65 (σ 64 6) = 206 ∧ ¬ σ 65 (σ 64 6) = 207 ∧ ¬ σ 65 (σ 64 6) = 209 ∧ ¬ σ 65 (σ 64 6) = 210 → K (-1) σ)) :
    Z E y_Rdr_atomOp d 0 [some (vr 64), some (vi a1)] [] σ (qi K) := by
  refine z_aload_n (pc := 0) (q := 0) (by decide +kernel) rfl ?_
  refine z_getR (pc := 1) 65 fl_Rdr_18 rfl rfl rfl (by decide +kernel) ?_
  refine z_aload_n (pc := 4) (q := 0) (by decide +kernel) rfl ?_
  refine z_getI (pc := 5) 6 fl_Rdr_28 rfl (by decide) rfl (by decide +kernel) ?_
  have hb1 := k.1
  have k := k.2
  refine z_iald (pc := 8) rfl hb1 (by decide +kernel) ?_
  have hdg : decode y_Rdr_atomOp.2.1 9 = .ok (.lookupswitch 98 #[(1, 59), (203, 85), (206, 81), (207, 69), (209, 73), (210, 77)], 59) := by decide +kernel
  by_cases hc : σ 65 (σ 64 6) = 1
  · have k := k.1 hc
    refine z_lookup2 (pc := 9) (off := 59) 68 hdg (by decide) hc (by decide +kernel) (by decide) ?_
    refine z_aload_n (pc := 68) (q := 0) (by decide +kernel) rfl ?_
    refine z_getR (pc := 69) 67 fl_Rdr_25 rfl rfl rfl (by decide +kernel) ?_
    refine z_aload_n (pc := 72) (q := 0) (by decide +kernel) rfl ?_
    refine z_getI (pc := 73) 6 fl_Rdr_28 rfl (by decide) rfl (by decide +kernel) ?_
    refine z_iald (pc := 76) rfl hb1 (by decide +kernel) ?_
    exact z_iret (pc := 77) (by decide +kernel) rfl k
  have k := k.2
  have hc1 := hc; clear hc
  by_cases hc : σ 65 (σ 64 6) = 203
  · have k := k.1 hc
    refine z_lookup2 (pc := 9) (off := 85) 94 hdg (by decide) hc (by decide +kernel) (by decide) ?_
    refine z_iload_n (pc := 94) (q := 1) (by decide +kernel) rfl ?_
    refine z_iconst (pc := 95) (n := 1) (by decide +kernel) ⟨by decide, by decide⟩ ?_
    refine z_icmp_ne (pc := 96) (off := 9) 105 (by decide +kernel) (by decide) ⟨fun hc => ?_, fun hc => ?_⟩
    · have k := k.1 hc
      refine z_iconst (pc := 105) (n := -1) (by decide +kernel) ⟨by decide, by decide⟩ ?_
      exact z_iret (pc := 106) (by decide +kernel) rfl k
    · have k := k.2 hc
      refine z_sipush (pc := 99) (n := 1100) (by decide +kernel) (by decide) ⟨by decide, by decide⟩ ?_
      refine z_goto (pc := 102) (off := 4) 106 (by decide +kernel) (by decide) ?_
      exact z_iret (pc := 106) (by decide +kernel) rfl k
  have k := k.2
  have hc203 := hc; clear hc
  by_cases hc : σ 65 (σ 64 6) = 206
  · have k := k.1 hc
    refine z_lookup2 (pc := 9) (off := 81) 90 hdg (by decide) hc (by decide +kernel) (by decide) ?_
    refine z_sipush (pc := 90) (n := 1001) (by decide +kernel) (by decide) ⟨by decide, by decide⟩ ?_
    exact z_iret (pc := 93) (by decide +kernel) rfl k
  have k := k.2
  have hc206 := hc; clear hc
  by_cases hc : σ 65 (σ 64 6) = 207
  · have k := k.1 hc
    refine z_lookup2 (pc := 9) (off := 69) 78 hdg (by decide) hc (by decide +kernel) (by decide) ?_
    refine z_sipush (pc := 78) (n := 1002) (by decide +kernel) (by decide) ⟨by decide, by decide⟩ ?_
    exact z_iret (pc := 81) (by decide +kernel) rfl k
  have k := k.2
  have hc207 := hc; clear hc
  by_cases hc : σ 65 (σ 64 6) = 209
  · have k := k.1 hc
    refine z_lookup2 (pc := 9) (off := 73) 82 hdg (by decide) hc (by decide +kernel) (by decide) ?_
    refine z_sipush (pc := 82) (n := 1004) (by decide +kernel) (by decide) ⟨by decide, by decide⟩ ?_
    exact z_iret (pc := 85) (by decide +kernel) rfl k
  have k := k.2
  have hc209 := hc; clear hc
  by_cases hc : σ 65 (σ 64 6) = 210
  · have k := k.1 hc
    refine z_lookup2 (pc := 9) (off := 77) 86 hdg (by decide) hc (by decide +kernel) (by decide) ?_
    refine z_sipush (pc := 86) (n := 1005) (by decide +kernel) (by decide) ⟨by decide, by decide⟩ ?_
    exact z_iret (pc := 89) (by decide +kernel) rfl k
  have k := k.2
  have hc210 := hc; clear hc
  have k := k ⟨hc1, hc203, hc206, hc207, hc209, hc210⟩
  refine z_lookup (pc := 9) (off := 98) 107 hdg (by decide) (by simp [Op.lookupswitch.offset, Ne.symm hc1, Ne.symm hc203, Ne.symm hc206, Ne.symm hc207, Ne.symm hc209, Ne.symm hc210]) (by decide) ?_
  refine z_iconst (pc := 107) (n := -1) (by decide +kernel) ⟨by decide, by decide⟩ ?_
  exact z_iret (pc := 108) (by decide +kernel) rfl k
theorem b_Rdr_takeToken_0 {E : EN} {d : Nat} {a1 : Int} {σ : Mem} {K : Int → Mem → Prop}  (hd : 1 ≤ d) (k : (0 ≤ σ 64 6 ∧ σ 64 6 < 901) ∧ (σ 65 (σ 64 6) = a1 → K 1 (up σ 64 6 (w32 ((σ 64 6) + 1)))) ∧ (σ 65 (σ 64 6) ≠ a1 → CI E y_Rdr_fail (d - 1) [vr 64, vi 2] σ (fun x1 τ1 => (x1 = 0 ∨ x1 = 1) ∧ K x1 τ1))) :
    Z E y_Rdr_takeToken d 0 [some (vr 64), some (vi a1)] [] σ (qi K) := by
  refine z_aload_n (pc := 0) (q := 0) (by decide +kernel) rfl ?_
  refine z_getR (pc := 1) 65 fl_Rdr_18 rfl rfl rfl (by decide +kernel) ?_
  refine z_aload_n (pc := 4) (q := 0) (by decide +kernel) rfl ?_
  refine z_getI (pc := 5) 6 fl_Rdr_28 rfl (by decide) rfl (by decide +kernel) ?_
  have hb1 := k.1
  have k := k.2
  refine z_iald (pc := 8) rfl hb1 (by decide +kernel) ?_
  refine z_iload_n (pc := 9) (q := 1) (by decide +kernel) rfl ?_
  refine z_icmp_eq (pc := 10) (off := 9) 19 (by decide +kernel) (by decide) ⟨fun hc => ?_, fun hc => ?_⟩
  · have k := k.1 hc
    refine z_aload_n (pc := 19) (q := 0) (by decide +kernel) rfl ?_
    refine z_dup (pc := 20) (by decide +kernel) rfl ?_
    refine z_getI (pc := 21) 6 fl_Rdr_28 rfl (by decide) rfl (by decide +kernel) ?_
    refine z_iconst (pc := 24) (n := 1) (by decide +kernel) ⟨by decide, by decide⟩ ?_
    refine z_iadd (pc := 25) (by decide +kernel) ?_
    refine z_putI (pc := 26) 6 fp_Rdr_28 rfl rfl rfl (by decide +kernel) ?_
    refine z_iconst (pc := 29) (n := 1) (by decide +kernel) ⟨by decide, by decide⟩ ?_
    exact z_zret (pc := 30) (by decide +kernel) rfl ⟨by decide, k⟩
  · have k := k.2 hc
    refine z_aload_n (pc := 13) (q := 0) (by decide +kernel) rfl ?_
    refine z_iconst (pc := 14) (n := 2) (by decide +kernel) ⟨by decide, by decide⟩ ?_
    refine z_callv (pc := 15) (as := [vi 2]) ml_Rdr_183 rfl ⟨rfl, by decide⟩ rfl rfl (Nat.le_of_ble_eq_true rfl) (dc := d - 1) (by omega) (by decide +kernel) (CI.z (CI.mono (fun x1 τ1 k => ?_) k))
    exact z_zret (pc := 18) (by decide +kernel) rfl k
theorem b_Rdr_takeNumber_0 {E : EN} {d : Nat} {a1 : Int} {a2 : Int} {σ : Mem} {K : Int → Mem → Prop}  (hd : 1 ≤ d) (k : (0 ≤ σ 64 6 ∧ σ 64 6 < 901) ∧ (σ 65 (σ 64 6) = 1 → (σ 67 (σ 64 6) < a1 → CI E y_Rdr_fail (d - 1) [vr 64, vi 3] σ (fun x1 τ1 => K 0 τ1)) ∧ (a1 ≤ σ 67 (σ 64 6) → (σ 67 (σ 64 6) ≤ a2 → K (σ 67 (σ 64 6)) (up σ 64 6 (w32 ((σ 64 6) + 1)))) ∧ (a2 < σ 67 (σ 64 6) → CI E y_Rdr_fail (d - 1) [vr 64, vi 3] σ (fun x2 τ2 => K 0 τ2)))) ∧ (σ 65 (σ 64 6) ≠ 1 → CI E y_Rdr_fail (d - 1) [vr 64, vi 2] σ (fun x3 τ3 => K 0 τ3))) :
    Z E y_Rdr_takeNumber d 0 [some (vr 64), some (vi a1), some (vi a2), none] [] σ (qi K) := by
  refine z_aload_n (pc := 0) (q := 0) (by decide +kernel) rfl ?_
  refine z_getR (pc := 1) 67 fl_Rdr_25 rfl rfl rfl (by decide +kernel) ?_
  refine z_aload_n (pc := 4) (q := 0) (by decide +kernel) rfl ?_
  refine z_getI (pc := 5) 6 fl_Rdr_28 rfl (by decide) rfl (by decide +kernel) ?_
  have hb1 := k.1
  have k := k.2
  refine z_iald (pc := 8) rfl hb1 (by decide +kernel) ?_
  refine z_istore_n (pc := 9) (q := 3) [some (vr 64), some (vi a1), some (vi a2), some (vi (σ 67 (σ 64 6)))] (by decide +kernel) (Nat.le_of_ble_eq_true rfl) rfl ?_
  refine z_aload_n (pc := 10) (q := 0) (by decide +kernel) rfl ?_
  refine z_getR (pc := 11) 65 fl_Rdr_18 rfl rfl rfl (by decide +kernel) ?_
  refine z_aload_n (pc := 14) (q := 0) (by decide +kernel) rfl ?_
  refine z_getI (pc := 15) 6 fl_Rdr_28 rfl (by decide) rfl (by decide +kernel) ?_
  refine z_iald (pc := 18) rfl hb1 (by decide +kernel) ?_
  refine z_iconst (pc := 19) (n := 1) (by decide +kernel) ⟨by decide, by decide⟩ ?_
  refine z_icmp_eq (pc := 20) (off := 11) 31 (by decide +kernel) (by decide) ⟨fun hc => ?_, fun hc => ?_⟩
  · have k := k.1 hc
    refine z_iload_n (pc := 31) (q := 3) (by decide +kernel) rfl ?_
    refine z_iload_n (pc := 32) (q := 1) (by decide +kernel) rfl ?_
    refine z_icmp_lt (pc := 33) (off := 8) 41 (by decide +kernel) (by decide) ⟨fun hc => ?_, fun hc => ?_⟩
    · have k := k.1 hc
      refine z_aload_n (pc := 41) (q := 0) (by decide +kernel) rfl ?_
      refine z_iconst (pc := 42) (n := 3) (by decide +kernel) ⟨by decide, by decide⟩ ?_
      refine z_callv (pc := 43) (as := [vi 3]) ml_Rdr_183 rfl ⟨rfl, by decide⟩ rfl rfl (Nat.le_of_ble_eq_true rfl) (dc := d - 1) (by omega) (by decide +kernel) (CI.z (CI.mono (fun x1 τ1 k => ?_) k))
      refine z_pop (pc := 46) (by decide +kernel) rfl ?_
      refine z_iconst (pc := 47) (n := 0) (by decide +kernel) ⟨by decide, by decide⟩ ?_
      exact z_iret (pc := 48) (by decide +kernel) rfl k
    · have k := k.2 hc
      refine z_iload_n (pc := 36) (q := 3) (by decide +kernel) rfl ?_
      refine z_iload_n (pc := 37) (q := 2) (by decide +kernel) rfl ?_
      refine z_icmp_le (pc := 38) (off := 11) 49 (by decide +kernel) (by decide) ⟨fun hc => ?_, fun hc => ?_⟩
      · have k := k.1 hc
        refine z_aload_n (pc := 49) (q := 0) (by decide +kernel) rfl ?_
        refine z_dup (pc := 50) (by decide +kernel) rfl ?_
        refine z_getI (pc := 51) 6 fl_Rdr_28 rfl (by decide) rfl (by decide +kernel) ?_
        refine z_iconst (pc := 54) (n := 1) (by decide +kernel) ⟨by decide, by decide⟩ ?_
        refine z_iadd (pc := 55) (by decide +kernel) ?_
        refine z_putI (pc := 56) 6 fp_Rdr_28 rfl rfl rfl (by decide +kernel) ?_
        refine z_iload_n (pc := 59) (q := 3) (by decide +kernel) rfl ?_
        exact z_iret (pc := 60) (by decide +kernel) rfl k
      · have k := k.2 hc
        refine z_aload_n (pc := 41) (q := 0) (by decide +kernel) rfl ?_
        refine z_iconst (pc := 42) (n := 3) (by decide +kernel) ⟨by decide, by decide⟩ ?_
        refine z_callv (pc := 43) (as := [vi 3]) ml_Rdr_183 rfl ⟨rfl, by decide⟩ rfl rfl (Nat.le_of_ble_eq_true rfl) (dc := d - 1) (by omega) (by decide +kernel) (CI.z (CI.mono (fun x2 τ2 k => ?_) k))
        refine z_pop (pc := 46) (by decide +kernel) rfl ?_
        refine z_iconst (pc := 47) (n := 0) (by decide +kernel) ⟨by decide, by decide⟩ ?_
        exact z_iret (pc := 48) (by decide +kernel) rfl k
  · have k := k.2 hc
    refine z_aload_n (pc := 23) (q := 0) (by decide +kernel) rfl ?_
    refine z_iconst (pc := 24) (n := 2) (by decide +kernel) ⟨by decide, by decide⟩ ?_
    refine z_callv (pc := 25) (as := [vi 2]) ml_Rdr_183 rfl ⟨rfl, by decide⟩ rfl rfl (Nat.le_of_ble_eq_true rfl) (dc := d - 1) (by omega) (by decide +kernel) (CI.z (CI.mono (fun x3 τ3 k => ?_) k))
    refine z_pop (pc := 28) (by decide +kernel) rfl ?_
    refine z_iconst (pc := 29) (n := 0) (by decide +kernel) ⟨by decide, by decide⟩ ?_
    exact z_iret (pc := 30) (by decide +kernel) rfl k
theorem b_Rdr_fail_0 {E : EN} {d : Nat} {a1 : Int} {σ : Mem} {K : Int → Mem → Prop}  (k : (0 ≤ σ 64 6 ∧ σ 64 6 < 901) ∧ (σ 65 (σ 64 6) ≠ 2 → K 0 (up (up σ 64 7 a1) 64 8 (σ 66 (σ 64 6)))) ∧ (σ 65 (σ 64 6) = 2 → K 0 (up (up σ 64 7 1) 64 8 (σ 66 (σ 64 6))))) :
    Z E y_Rdr_fail d 0 [some (vr 64), some (vi a1)] [] σ (qi K) := by
  refine z_aload_n (pc := 0) (q := 0) (by decide +kernel) rfl ?_
  refine z_aload_n (pc := 1) (q := 0) (by decide +kernel) rfl ?_
  refine z_getR (pc := 2) 65 fl_Rdr_18 rfl rfl rfl (by decide +kernel) ?_
  refine z_aload_n (pc := 5) (q := 0) (by decide +kernel) rfl ?_
  refine z_getI (pc := 6) 6 fl_Rdr_28 rfl (by decide) rfl (by decide +kernel) ?_
  have hb1 := k.1
  have k := k.2
  refine z_iald (pc := 9) rfl hb1 (by decide +kernel) ?_
  refine z_iconst (pc := 10) (n := 2) (by decide +kernel) ⟨by decide, by decide⟩ ?_
  refine z_icmp_ne (pc := 11) (off := 7) 18 (by decide +kernel) (by decide) ⟨fun hc => ?_, fun hc => ?_⟩
  · have k := k.1 hc
    refine z_iload_n (pc := 18) (q := 1) (by decide +kernel) rfl ?_
    refine z_putI (pc := 19) 7 fp_Rdr_32 rfl rfl rfl (by decide +kernel) ?_
    refine z_aload_n (pc := 22) (q := 0) (by decide +kernel) rfl ?_
    refine z_aload_n (pc := 23) (q := 0) (by decide +kernel) rfl ?_
    refine z_getR (pc := 24) 66 fl_Rdr_22 rfl rfl rfl (by decide +kernel) ?_
    refine z_aload_n (pc := 27) (q := 0) (by decide +kernel) rfl ?_
    refine z_getI (pc := 28) 6 fl_Rdr_28 rfl (by decide) rfl (by decide +kernel) ?_
    refine z_topI (up_nk (by decide)) ?_
    refine z_iald (pc := 31) rfl hb1 (by decide +kernel) ?_
    refine z_topI (up_nc (by decide)) ?_
    refine z_putI (pc := 32) 8 fp_Rdr_35 rfl rfl rfl (by decide +kernel) ?_
    refine z_iconst (pc := 35) (n := 0) (by decide +kernel) ⟨by decide, by decide⟩ ?_
    exact z_zret (pc := 36) (by decide +kernel) rfl ⟨by decide, k⟩
  · have k := k.2 hc
    refine z_iconst (pc := 14) (n := 1) (by decide +kernel) ⟨by decide, by decide⟩ ?_
    refine z_goto (pc := 15) (off := 4) 19 (by decide +kernel) (by decide) ?_
    refine z_putI (pc := 19) 7 fp_Rdr_32 rfl rfl rfl (by decide +kernel) ?_
    refine z_aload_n (pc := 22) (q := 0) (by decide +kernel) rfl ?_
    refine z_aload_n (pc := 23) (q := 0) (by decide +kernel) rfl ?_
    refine z_getR (pc := 24) 66 fl_Rdr_22 rfl rfl rfl (by decide +kernel) ?_
    refine z_aload_n (pc := 27) (q := 0) (by decide +kernel) rfl ?_
    refine z_getI (pc := 28) 6 fl_Rdr_28 rfl (by decide) rfl (by decide +kernel) ?_
    refine z_topI (up_nk (by decide)) ?_
    refine z_iald (pc := 31) rfl hb1 (by decide +kernel) ?_
    refine z_topI (up_nc (by decide)) ?_
    refine z_putI (pc := 32) 8 fp_Rdr_35 rfl rfl rfl (by decide +kernel) ?_
    refine z_iconst (pc := 35) (n := 0) (by decide +kernel) ⟨by decide, by decide⟩ ?_
    exact z_zret (pc := 36) (by decide +kernel) rfl ⟨by decide, k⟩
