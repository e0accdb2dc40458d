theorem eadK {l : Launch} {D : va_G} {a a2 adK adV : Nat → Nat} {b sz : Nat} {cA cA2 : Nat → ClassId} {i : Nat} (h : i < nS) : ead (EE l D a a2 adK adV b sz cA cA2) (nC + 2 * i) = adK i := by
  show eadS a a2 adK adV b (133 + 2 * i) = adK i
  have h : i < 21 := h
  unfold eadS
  rw [if_neg (by omega), if_neg (by omega), if_neg (by omega), if_pos (by omega)]
  congr 1; omega
theorem eadV {l : Launch} {D : va_G} {a a2 adK adV : Nat → Nat} {b sz : Nat} {cA cA2 : Nat → ClassId} {i : Nat} (h : i < nS) : ead (EE l D a a2 adK adV b sz cA cA2) (nC + 2 * i + 1) = adV i := by
  show eadS a a2 adK adV b (133 + 2 * i + 1) = adV i
  have h : i < 21 := h
  unfold eadS
  rw [if_neg (by omega), if_neg (by omega), if_neg (by omega), if_neg (by omega)]
  congr 1; omega
theorem stO_at : ∀ i, i < nS → ∃ w, stO[i]? = some w ∧ Cond.stringRef w.1 w.2.1 w.2.2 ∈ tables_1 ∧ tmS i = .string w.1 w.2.1 := by
  intro i hi
  match i, hi with
  | 0, _ => exact ⟨_, rfl, mu3 78 rfl, rfl⟩
  | 1, _ => exact ⟨_, rfl, mu3 131 rfl, rfl⟩
  | 2, _ => exact ⟨_, rfl, mu3 132 rfl, rfl⟩
  | 3, _ => exact ⟨_, rfl, mu3 133 rfl, rfl⟩
  | 4, _ => exact ⟨_, rfl, mu3 134 rfl, rfl⟩
  | 5, _ => exact ⟨_, rfl, mu3 135 rfl, rfl⟩
  | 6, _ => exact ⟨_, rfl, mu3 136 rfl, rfl⟩
  | 7, _ => exact ⟨_, rfl, mu3 137 rfl, rfl⟩
  | 8, _ => exact ⟨_, rfl, mu3 138 rfl, rfl⟩
  | 9, _ => exact ⟨_, rfl, mu3 139 rfl, rfl⟩
  | 10, _ => exact ⟨_, rfl, mu3 144 rfl, rfl⟩
  | 11, _ => exact ⟨_, rfl, mu3 145 rfl, rfl⟩
  | 12, _ => exact ⟨_, rfl, mu3 146 rfl, rfl⟩
  | 13, _ => exact ⟨_, rfl, mu3 147 rfl, rfl⟩
  | 14, _ => exact ⟨_, rfl, mu3 148 rfl, rfl⟩
  | 15, _ => exact ⟨_, rfl, mu3 149 rfl, rfl⟩
  | 16, _ => exact ⟨_, rfl, mu3 150 rfl, rfl⟩
  | 17, _ => exact ⟨_, rfl, mu3 151 rfl, rfl⟩
  | 18, _ => exact ⟨_, rfl, mu3 152 rfl, rfl⟩
  | 19, _ => exact ⟨_, rfl, mu7 36 rfl, rfl⟩
  | 20, _ => exact ⟨_, rfl, mu7 42 rfl, rfl⟩
  | n + 21, h => exact absurd h (by unfold nS; omega)
def lw_At (p : Program) (s : State) (m : MethodId) (meth : Method) (c : Code) (b L : Nat) (xs : Nat → Int32) : Prop :=
  p.tables.exec = Jvm.exec ∧ c.code = code ∧ meth.sig.returnType = ret ∧ c.maxLocals = 4 ∧ s.vm.findClass R_law = some m.cls ∧ (∀ w ∈ lw_tbl, w.before #[Value.ref b] s = true) ∧ va_X b L xs s s.heap ∧ b < s.heap.size ∧ meth.locks = false ∧ (Jvm.Cond.and given_1 narrow_1).before #[Value.ref b] s = true
set_option maxHeartbeats 8000000 in
set_option maxRecDepth 100000 in
theorem whole_start0 {I : Mem → Prop} (hI : SPall I) (hI0 : I σ0) {p : Program} {e : Env} {s : State} {m : MethodId} {below : List Frame} {meth : Method} {c : Code} (l : Launch) {b L : Nat} {xs : Nat → Int32} (hL : L ≤ 3072) (C0 : lw_At p s m meth c b L xs) : W p l e room_1 s m #[Value.ref b] below meth c s.heap [] 0 0 (lw_Z below #[Value.ref b] s) (entryFrame m ([Value.ref b] : List Value).toArray 4) := by
  obtain ⟨hx, hb, hr, hml, hown, hts0, hX, hbl, hlocks, hgv⟩ := C0
  have hts : ∀ w ∈ gw, w.before #[Value.ref b] s = true := fun w hw => hts0 w (List.mem_filter.mp hw).1
  have hA : ∀ q : Nat, s.heap.size ≤ q → (fun q : Nat => s.heap.size ≤ q) q := fun _ h => h
  have hN : NX s := ⟨va_Nw.of rfl (hts0 _ (mem_lw (mu1 31 rfl))), va_Nw.of rfl (hts0 _ (mem_lw (mu1 148 rfl))), va_Nw.of rfl (hts0 _ (mem_lw (mu1 185 rfl))), va_Nw.of rfl (hts0 _ (mem_lw (mu1 205 rfl))), va_Nw.of rfl (hts0 _ (mem_lw (mu2 192 rfl))), va_AO.of (hts0 _ (mem_lw (mu1 184 rfl))), va_AO.of (hts0 _ (mem_lw (mu2 189 rfl))), va_AO.of (hts0 _ (mem_lw (mu2 190 rfl)))⟩
  obtain ⟨c0, iS0, hKn0⟩ := u_known (C := RZ0) (T := TZ0) (N := 18) (n := 18) hts iZ0 (hts _ (mm1 22 rfl))
  obtain ⟨c1, iS1, hKn1⟩ := u_known (C := RZ1) (T := TZ1) (N := 19) (n := 19) hts iZ1 (hts _ (mm1 30 rfl))
  obtain ⟨c2, iS2, hKn2⟩ := u_known (C := RZ2) (T := TZ2) (N := 5) (n := 5) hts iZ2 (hts _ (mm1 147 rfl))
  obtain ⟨c3, iS3, hKn3⟩ := u_known (C := RZ3) (T := TZ3) (N := 3) (n := 3) hts iZ3 (hts _ (mm1 178 rfl))
  obtain ⟨c4, iS4, hKn4⟩ := u_known (C := RZ4) (T := TZ4) (N := 9) (n := 9) hts iZ4 (hts _ (mm1 198 rfl))
  obtain ⟨c5, iS5, hKn5⟩ := u_known (C := RZ5) (T := TZ5) (N := 5) (n := 5) hts iZ5 (hts _ (mm1 204 rfl))
  obtain ⟨c6, iS6, hKn6⟩ := u_known (C := RZ6) (T := TZ6) (N := 11) (n := 11) hts iZ6 (hts _ (mm2 17 rfl))
  obtain ⟨c7, iS7, hKn7⟩ := u_known (C := RZ7) (T := TZ7) (N := 4) (n := 4) hts iZ7 (hts _ (mm2 71 rfl))
  obtain ⟨c8, iS8, hKn8⟩ := u_known (C := RZ8) (T := TZ8) (N := 18) (n := 18) hts iZ8 (hts _ (mm2 92 rfl))
  obtain ⟨c9, iS9, hKn9⟩ := u_known (C := RZ9) (T := TZ9) (N := 7) (n := 7) hts iZ9 (hts _ (mm2 160 rfl))
  obtain ⟨c10, iS10, hKn10⟩ := u_known (C := RZ10) (T := TZ10) (N := 3) (n := 3) hts iZ10 (hts _ (mm2 191 rfl))
  obtain ⟨c11, iS11, hKn11⟩ := u_known (C := RZ11) (T := TZ11) (N := 44) (n := 44) hts iZ11 (hts _ (mm6 109 rfl))
  obtain ⟨dC, dI, hKc⟩ : ∃ (dC : Nat → ClassId) (dI : Nat → Nat → Nat), ∀ (k : Nat) (q : vw_C), cls[k]? = some q → u_Kn s q.1 q.2.1 q.2.2 (dC k) (dI k) := by
    refine ⟨fun k => [c0, c1, c2, c3, c4, c5, c6, c7, c8, c9, c10, c11].getD k 0, fun k => [iS0, iS1, iS2, iS3, iS4, iS5, iS6, iS7, iS8, iS9, iS10, iS11].getD k (fun _ => 0), ?_⟩
    intro k q hq
    match k, hq with
    | 0, hq => cases hq; exact hKn0
    | 1, hq => cases hq; exact hKn1
    | 2, hq => cases hq; exact hKn2
    | 3, hq => cases hq; exact hKn3
    | 4, hq => cases hq; exact hKn4
    | 5, hq => cases hq; exact hKn5
    | 6, hq => cases hq; exact hKn6
    | 7, hq => cases hq; exact hKn7
    | 8, hq => cases hq; exact hKn8
    | 9, hq => cases hq; exact hKn9
    | 10, hq => cases hq; exact hKn10
    | 11, hq => cases hq; exact hKn11
    | k + 12, hq => exact absurd hq (by simp [cls])
  have hS : va_S (fun q : Nat => s.heap.size ≤ q) s.heap s.heap [] := va_S.rf
  have hK : va_K (dC, dI) cls [] s := ⟨hKc, fun k q h => by simp at h⟩
  have hP : va_P (dC, dI) cls [] s.heap := fun k q h => by simp at h
  have hD : va_D (fun q : Nat => s.heap.size ≤ q) [] := ⟨fun i j p q h => by simp at h, fun k q h => by simp at h⟩
  have hl := lv_entry ([.ref b]) (n := 4) (Nat.le_of_ble_eq_true rfl)
  rw [lg_entry_eq]
  generalize (lg_sl ([.ref b]) ++ List.replicate (4 - (lg_sl ([.ref b])).length) Slot.unset).toArray = ls at hl ⊢
  have hl : lv_has ls 4 [(0, .ref b)] := hl
  refine va_new (ci := 0) (fs := [.null, .int 0, .int 0, .int 0, .null, .null, .null, .null, .null, .null, .null, .null, .null, .null, .null, .null, .null, .null]) (C := RZ0) (T := TZ0) (N := 18) (Ts := gw) hx hb hts iZ0 YZ0 tZ0 hown (hts _ (mm1 21 rfl)) (hts _ (mm1 22 rfl)) (hts _ (mm1 1 rfl)) hK hP hD hS hA rfl (by intro j hj; rcases (show j = 0 ∨ j = 1 ∨ j = 2 ∨ j = 3 ∨ j = 4 ∨ j = 5 ∨ j = 6 ∨ j = 7 ∨ j = 8 ∨ j = 9 ∨ j = 10 ∨ j = 11 ∨ j = 12 ∨ j = 13 ∨ j = 14 ∨ j = 15 ∨ j = 16 ∨ j = 17 by omega) with rfl | rfl | rfl | rfl | rfl | rfl | rfl | rfl | rfl | rfl | rfl | rfl | rfl | rfl | rfl | rfl | rfl | rfl <;> rfl) (Nat.le_of_ble_eq_true rfl) (Nat.le_of_ble_eq_true rfl) (by decide +kernel) (fun qx H hP hD hS => ?_)
  have hP : va_P (dC, dI) cls [(qx, .inr (0, [.null, .int 0, .int 0, .int 0, .null, .null, .null, .null, .null, .null, .null, .null, .null, .null, .null, .null, .null, .null]))] H := hP
  have hD : va_D (fun q : Nat => s.heap.size ≤ q) [(qx, .inr (0, [.null, .int 0, .int 0, .int 0, .null, .null, .null, .null, .null, .null, .null, .null, .null, .null, .null, .null, .null, .null]))] := hD
  refine lv_dup hx hb (by decide +kernel) rfl ?_
  have hPc := hP.sub (ws' := [(qx, .inr (0, [.null, .int 0, .int 0, .int 0, .null, .null, .null, .null, .null, .null, .null, .null, .null, .null, .null, .null, .null, .null]))]) [0] rfl
  have hDc := hD.sub (ws' := [(qx, .inr (0, [.null, .int 0, .int 0, .int 0, .null, .null, .null, .null, .null, .null, .null, .null, .null, .null, .null, .null, .null, .null]))]) [0] (by decide) rfl
  have hKc2 := hK.sub (tys' := []) [] rfl
  have hFc := va_free (wc := [(qx, .inr (0, [.null, .int 0, .int 0, .int 0, .null, .null, .null, .null, .null, .null, .null, .null, .null, .null, .null, .null, .null, .null]))]) hD hS hA [0] rfl
  refine va_callv (va_runI (As := []) (rest := [.ref qx]) (bytes := y_BC_init.2.1) (maxL := y_BC_init.2.2.1) ⟨hx, hb, hml, hown, hts⟩ (i_BC l (dC, dI) qx H.size) ⟨callB_of 0 hts (gw_good cw_BC_init) rfl rfl rfl (hts _ (mm1 1 rfl)) (hts _ (mm1 23 rfl)) (by decide +kernel) ⟨Nat.le_of_ble_eq_true rfl, Nat.le_of_ble_eq_true rfl⟩, rfl, hts _ (mm1 24 rfl)⟩ ⟨fun a U g mk q => by obtain ⟨q0, q1, qP, qK, qD, qN⟩ := q; exact ⟨q0, q1, qP, va_K.moved (u := U) (U := U.calling g mk a) (Vm.Alike.refl U.vm) qK, qD, qN.same rfl⟩, fun U hU hW => ⟨rfl, by rw [hU], by rw [hU]; exact hPc, va_K.moved hW.alike hKc2, hDc.weaken (fun _ _ _ _ => trivial), hN.warm hW⟩⟩ rfl rfl hl.1 rfl (lv_room (Nat.le_of_ble_eq_true rfl)) (by show decode code 4 = .ok (.invokespecial 9, 3); decide +kernel) ⟨Nat.le_of_ble_eq_true rfl, Nat.le_of_ble_eq_true rfl⟩) hS (fun q _ h => hFc q h) hFc (fun u t H1 locs ht hvm hw hB hz1 hk1 hS => ?_)
  obtain ⟨a, cA, ha0, hP1, hK1, hD1⟩ := hB
  rw [ht] at hP1
  have hK1 := va_K.moved hvm.symm hK1
  obtain ⟨hP, hD⟩ := va_join (wr := []) (w1 := lBC a cA) hP hD [0] [] rfl rfl (by decide) (by decide) hk1 hFc hP1 hD1
  have hK : va_K (dC, dI) cls (tBC cA) s := hK1
  generalize H1 = H at hP hS ⊢
  have hP : va_P (dC, dI) cls (lBC a cA) H := hP
  have hD : va_D (fun q : Nat => s.heap.size ≤ q) (lBC a cA) := hD
  refine lv_astore_n (k := 1) (lv' := [(1, .ref qx), (0, .ref b)]) hx hb (by decide +kernel) rfl hl (by decide) rfl (fun ls hl => ?_)
  refine va_new (ci := 11) (fs := [.int 0, .null, .null, .null, .null, .int 0, .int 0, .int 0, .int 0, .int 0, .int 0, .int 0, .int 0, .int 0, .int 0, .int 0, .null, .null, .null, .null, .null, .null, .int 0, .int 0, .null, .int 0, .null, .int 0, .int 0, .int 0, .int 0, .int 0, .int 0, .int 0, .int 0, .int 0, .long 0, .long 0, .null, .int 0, .null, .null, .null, .null]) (C := RZ11) (T := TZ11) (N := 44) (Ts := gw) hx hb hts iZ11 YZ11 tZ11 hown (hts _ (mm6 108 rfl)) (hts _ (mm6 109 rfl)) (hts _ (mm1 12 rfl)) hK hP hD hS hA rfl (by intro j hj; rcases (show j = 0 ∨ j = 1 ∨ j = 2 ∨ j = 3 ∨ j = 4 ∨ j = 5 ∨ j = 6 ∨ j = 7 ∨ j = 8 ∨ j = 9 ∨ j = 10 ∨ j = 11 ∨ j = 12 ∨ j = 13 ∨ j = 14 ∨ j = 15 ∨ j = 16 ∨ j = 17 ∨ j = 18 ∨ j = 19 ∨ j = 20 ∨ j = 21 ∨ j = 22 ∨ j = 23 ∨ j = 24 ∨ j = 25 ∨ j = 26 ∨ j = 27 ∨ j = 28 ∨ j = 29 ∨ j = 30 ∨ j = 31 ∨ j = 32 ∨ j = 33 ∨ j = 34 ∨ j = 35 ∨ j = 36 ∨ j = 37 ∨ j = 38 ∨ j = 39 ∨ j = 40 ∨ j = 41 ∨ j = 42 ∨ j = 43 by omega) with rfl | rfl | rfl | rfl | rfl | rfl | rfl | rfl | rfl | rfl | rfl | rfl | rfl | rfl | rfl | rfl | rfl | rfl | rfl | rfl | rfl | rfl | rfl | rfl | rfl | rfl | rfl | rfl | rfl | rfl | rfl | rfl | rfl | rfl | rfl | rfl | rfl | rfl | rfl | rfl | rfl | rfl | rfl | rfl <;> rfl) (Nat.le_of_ble_eq_true rfl) (Nat.le_of_ble_eq_true rfl) (by decide +kernel) (fun qm H hP hD hS => ?_)
  have hP : va_P (dC, dI) cls (lBC a cA ++ [(qm, .inr (11, [.int 0, .null, .null, .null, .null, .int 0, .int 0, .int 0, .int 0, .int 0, .int 0, .int 0, .int 0, .int 0, .int 0, .int 0, .null, .null, .null, .null, .null, .null, .int 0, .int 0, .null, .int 0, .null, .int 0, .int 0, .int 0, .int 0, .int 0, .int 0, .int 0, .int 0, .int 0, .long 0, .long 0, .null, .int 0, .null, .null, .null, .null]))]) H := hP
  have hD : va_D (fun q : Nat => s.heap.size ≤ q) (lBC a cA ++ [(qm, .inr (11, [.int 0, .null, .null, .null, .null, .int 0, .int 0, .int 0, .int 0, .int 0, .int 0, .int 0, .int 0, .int 0, .int 0, .int 0, .null, .null, .null, .null, .null, .null, .int 0, .int 0, .null, .int 0, .null, .int 0, .int 0, .int 0, .int 0, .int 0, .int 0, .int 0, .int 0, .int 0, .long 0, .long 0, .null, .int 0, .null, .null, .null, .null]))]) := hD
  refine lv_dup hx hb (by decide +kernel) rfl ?_
  have hPc := hP.sub (ws' := [(qm, .inr (11, [.int 0, .null, .null, .null, .null, .int 0, .int 0, .int 0, .int 0, .int 0, .int 0, .int 0, .int 0, .int 0, .int 0, .int 0, .null, .null, .null, .null, .null, .null, .int 0, .int 0, .null, .int 0, .null, .int 0, .int 0, .int 0, .int 0, .int 0, .int 0, .int 0, .int 0, .int 0, .long 0, .long 0, .null, .int 0, .null, .null, .null, .null]))]) [115] rfl
  have hDc := hD.sub (ws' := [(qm, .inr (11, [.int 0, .null, .null, .null, .null, .int 0, .int 0, .int 0, .int 0, .int 0, .int 0, .int 0, .int 0, .int 0, .int 0, .int 0, .null, .null, .null, .null, .null, .null, .int 0, .int 0, .null, .int 0, .null, .int 0, .int 0, .int 0, .int 0, .int 0, .int 0, .int 0, .int 0, .int 0, .long 0, .long 0, .null, .int 0, .null, .null, .null, .null]))]) [115] (by decide) rfl
  have hKc2 := hK.sub (tys' := []) [] rfl
  have hFc := va_free (wc := [(qm, .inr (11, [.int 0, .null, .null, .null, .null, .int 0, .int 0, .int 0, .int 0, .int 0, .int 0, .int 0, .int 0, .int 0, .int 0, .int 0, .null, .null, .null, .null, .null, .null, .int 0, .int 0, .null, .int 0, .null, .int 0, .int 0, .int 0, .int 0, .int 0, .int 0, .int 0, .int 0, .int 0, .long 0, .long 0, .null, .int 0, .null, .null, .null, .null]))]) hD hS hA [115] rfl
  refine va_callv (va_runI (As := []) (rest := [.ref qm]) (bytes := y_Mod_init.2.1) (maxL := y_Mod_init.2.2.1) ⟨hx, hb, hml, hown, hts⟩ (i_Mod l (dC, dI) qm H.size) ⟨callB_of 0 hts (gw_good cw_Mod_init) rfl rfl rfl (hts _ (mm1 12 rfl)) (hts _ (mm6 110 rfl)) (by decide +kernel) ⟨Nat.le_of_ble_eq_true rfl, Nat.le_of_ble_eq_true rfl⟩, rfl, hts _ (mm6 111 rfl)⟩ ⟨fun a U g mk q => by obtain ⟨q0, q1, qP, qK, qD, qN⟩ := q; exact ⟨q0, q1, qP, va_K.moved (u := U) (U := U.calling g mk a) (Vm.Alike.refl U.vm) qK, qD, qN.same rfl⟩, fun U hU hW => ⟨rfl, by rw [hU], by rw [hU]; exact hPc, va_K.moved hW.alike hKc2, hDc.weaken (fun _ _ _ _ => trivial), hN.warm hW⟩⟩ rfl rfl hl.1 rfl (lv_room (Nat.le_of_ble_eq_true rfl)) (by show decode code 12 = .ok (.invokespecial 12, 3); decide +kernel) ⟨Nat.le_of_ble_eq_true rfl, Nat.le_of_ble_eq_true rfl⟩) hS (fun q _ h => hFc q h) hFc (fun u t H1 locs ht hvm hw hB hz1 hk1 hS => ?_)
  obtain ⟨a2, cA2, ha2, hP1, hK1, hD1⟩ := hB
  rw [ht] at hP1
  have hK1 := va_K.moved hvm.symm hK1
  obtain ⟨hP, hD⟩ := va_join (wr := lBC a cA) (w1 := lMod a2 cA2) hP hD [115] [0, 1, 2, 3, 4, 5, 6, 7, 8, 9, 10, 11, 12, 13, 14, 15, 16, 17, 18, 19, 20, 21, 22, 23, 24, 25, 26, 27, 28, 29, 30, 31, 32, 33, 34, 35, 36, 37, 38, 39, 40, 41, 42, 43, 44, 45, 46, 47, 48, 49, 50, 51, 52, 53, 54, 55, 56, 57, 58, 59, 60, 61, 62, 63, 64, 65, 66, 67, 68, 69, 70, 71, 72, 73, 74, 75, 76, 77, 78, 79, 80, 81, 82, 83, 84, 85, 86, 87, 88, 89, 90, 91, 92, 93, 94, 95, 96, 97, 98, 99, 100, 101, 102, 103, 104, 105, 106, 107, 108, 109, 110, 111, 112, 113, 114] rfl rfl (by decide) (by decide) hk1 hFc hP1 hD1
  have hK : va_K (dC, dI) cls (tBC cA ++ tMod cA2) s := hK.app hK1
  generalize H1 = H at hP hS ⊢
  refine lv_astore_n (k := 2) (lv' := [(2, .ref qm), (1, .ref qx), (0, .ref b)]) hx hb (by decide +kernel) rfl hl (by decide) rfl (fun ls hl => ?_)
  refine lv_iconst (n := 0) (v := 0) hx hb (by decide +kernel) (by decide) ?_
  refine lv_istore_n (k := 3) (lv' := [(3, .int 0), (2, .ref qm), (1, .ref qx), (0, .ref b)]) hx hb (by decide +kernel) rfl hl (by decide) rfl (fun ls hl => ?_)
  obtain ⟨adK, adV, hVS, hTm⟩ := vk_Sof (tm := tmS) (A := fun q : Nat => s.heap.size ≤ q) ns1 (ns2 hgv) (ns3 hgv) (ns4 hgv) (ns5 hgv) (ns6 hgv) (fun i j hi hj hne => ns7 hgv i hi j hj hne) (fun a h q => absurd q (by omega))
  obtain ⟨v, hv1, hv2⟩ := Cond.isRef_spec (ns9 hgv)
  have hZ1 := va_Zof (A := fun q : Nat => s.heap.size ≤ q) (hts0 _ (mem_lw (mu3 92 rfl))) (hts _ (mm1 15 rfl)) (va_eqt (ns8 hgv)) (fun a h q => absurd q (by omega))
  have hZ2 := va_Zof (A := fun q : Nat => s.heap.size ≤ q) (hts0 _ (mem_lw (mu3 108 rfl))) (hts _ (mm1 17 rfl)) hv1 (fun a h q => absurd q (by omega))
  have F : LX (EE l (dC, dI) a a2 adK adV b s.heap.size cA cA2) p s m meth c b L xs := ⟨hx, hb, hr, hml, hown, hts, hX, hbl, hlocks, ⟨hK, ⟨fun i hi => by simp only [eadK hi, eadV hi]; exact hVS.1 i hi, fun i j hi hj e => hVS.2 i j hi hj (by simp only [eadK hi, eadK hj] at e; exact e)⟩, hZ1, ⟨fun i q hq => ?_, v, by cases v <;> simp [Value.isRef] at hv2 <;> rfl, hZ2⟩, arT⟩, adD hD, fun q h => h, rfl, hL⟩
  · have e0 : ead (EE l (dC, dI) a a2 adK adV b s.heap.size cA cA2) 0 = qx := ha0
    have e1 : ead (EE l (dC, dI) a a2 adK adV b s.heap.size cA cA2) 115 = qm := ha2
    exact law_loop hI F ⟨Nat.le_of_ble_eq_true rfl, Nat.le_of_ble_eq_true rfl⟩ (L + 1) 0 σ0 (by omega) (by omega) (by omega) hI0 _ _ ls (wsv0 hP) hS rng0 trivial (by unfold lwL; rw [e0, e1]; exact hl)
  · have hi : i < nS := by have := (List.getElem?_eq_some_iff.mp hq).1; exact this
    obtain ⟨w, h1, h2, h3⟩ := stO_at i hi
    have e1 : w = q := Option.some.inj (h1.symm.trans hq)
    subst e1
    rw [eadK hi]
    exact vk_R.of (hts0 _ (mem_lw h2)) (by rw [← h3]; exact hTm i hi)
