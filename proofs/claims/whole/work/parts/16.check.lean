/-! String.checkIndex, Preconditions.checkIndex: inside their bounds they do nothing -/
def y_Pre_check : MI := (⟨"jdk/internal/util/Preconditions", "checkIndex", "(IILjava/util/function/BiFunction;)I"⟩, prog_21_method_11_code, 3, some .int)
theorem cw_Pre_check : wcode y_Pre_check ∈ gw := mm3 111 rfl
variable {E : EN} {d : Nat} {σ : Mem}
theorem s_Pre_check (v : Value) (hv : v.category = 1) {i n : Int} (h : 0 ≤ i ∧ i < n) : Met (eL E) y_Pre_check.1 (wcode y_Pre_check :: gw) (rmd d) (fun a U => a = [.int (Int32.ofInt i), .int (Int32.ofInt n), v].toArray ∧ va_P (eD E) cls (wsv E σ) U.heap ∧ Rng σ ∧ i32 i ∧ i32 n) (QC E (qi (fun _ τ => τ = σ))) 0 0 (eA E) := by
  refine Met.ofW (cc := y_Pre_check.2.1) (maxL := 3) (ret := some .int) (by decide) rfl ?_
  intro p e s m args below meth c s₁ B hml hq
  obtain ⟨rfl, hP, hR, hi, hn⟩ := hq
  have hx := B.exec
  have hb := B.bytes
  have hl := lv_entry ([.int (Int32.ofInt i), .int (Int32.ofInt n), v]) (n := 3) (by rw [lg_cons, lg_cons, lg_cons, if_neg (by simp [Value.category]), if_neg (by simp [Value.category]), if_neg (by rw [hv]; decide)]; exact Nat.le_refl _)
  rw [lg_entry_eq]
  generalize (lg_sl ([.int (Int32.ofInt i), .int (Int32.ofInt n), v]) ++ List.replicate (3 - (lg_sl ([.int (Int32.ofInt i), .int (Int32.ofInt n), v])).length) Slot.unset).toArray = ls at hl ⊢
  have hl : lv_has ls 3 [(0, .int (Int32.ofInt i)), (1, .int (Int32.ofInt n)), (2, v)] := hl
  refine lv_iload_n (k := 0) hx hb (by decide +kernel) rfl (lv_at hl 0 rfl) ?_
  refine lv_if_lt (off := 8) (tgt := 9) hx hb (by decide +kernel) (by decide) (fun q => absurd ((lt32 hi i32_0).mp q) (by omega)) (fun _ => ?_)
  refine lv_iload_n (k := 0) hx hb (by decide +kernel) rfl (lv_at hl 0 rfl) ?_
  refine lv_iload_n (k := 1) hx hb (by decide +kernel) rfl (lv_at hl 1 rfl) ?_
  refine lv_icmp_lt (off := 10) (tgt := 16) hx hb (by decide +kernel) (by decide) (fun _ => ?_) (fun q => absurd ((lt32 hi hn).mpr h.2) q)
  refine lv_iload_n (k := 0) hx hb (by decide +kernel) rfl (lv_at hl 0 rfl) ?_
  exact W.iret hx hb B.returns (fun t ht hW => ⟨some (vi i), σ, rfl, ⟨i, rfl, rfl⟩, by rw [ht]; exact hP, hR, hi, (va_S.rf (A := eA E)).F ht⟩) (fun _ h => by cases h) (by decide +kernel) B.notSynchronized
theorem s_Str_checkIndex {K : Mem → Prop} {i n : Int} (hd : 1 ≤ d) (h : 0 ≤ i ∧ i < n) (k : K σ) : CV E y_Str_checkIndex d [vi i, vi n] σ K := by
  refine Met.ofW (cc := y_Str_checkIndex.2.1) (maxL := 2) (ret := none) (by decide) rfl ?_
  intro p e s m args below meth c s₁ B hml hq
  obtain ⟨rfl, hP, hK, hR, ho, hAD⟩ := hq
  have hx := B.exec
  have hb := B.bytes
  have hts0 := atoms_spec (ws := wcode y_Str_checkIndex :: gw) B.pre
  have hts := fun w (hw : w ∈ gw) => hts0 w (List.mem_cons_of_mem _ hw)
  have hown : s.vm.findClass "java/lang/String" = some m.cls := findClass_of_methodNamed B.named
  have hS : va_S (eA E) s.heap s.heap [] := va_S.rf
  obtain ⟨v, hv, hZ⟩ := hK.2.2.2.1.2
  have hl := lv_entry ([.int (Int32.ofInt i), .int (Int32.ofInt n)]) (n := 2) (Nat.le_of_ble_eq_true rfl)
  show W p (eL E) e (rmd d) s m _ below meth c s.heap [] 0 0 _ (entryFrame m ([.int (Int32.ofInt i), .int (Int32.ofInt n)] : List Value).toArray 2)
  rw [lg_entry_eq]
  generalize (lg_sl ([.int (Int32.ofInt i), .int (Int32.ofInt n)]) ++ List.replicate (2 - (lg_sl ([.int (Int32.ofInt i), .int (Int32.ofInt n)])).length) Slot.unset).toArray = ls at hl ⊢
  have hl : lv_has ls 2 [(0, .int (Int32.ofInt i)), (1, .int (Int32.ofInt n))] := hl
  refine lv_iload_n (k := 0) hx hb (by decide +kernel) rfl (lv_at hl 0 rfl) ?_
  refine lv_iload_n (k := 1) hx hb (by decide +kernel) rfl (lv_at hl 1 rfl) ?_
  refine va_gets (index := 1053) hx hb hZ hS hown (hts _ (mm3 107 rfl)) (fun _ h => h) (by decide +kernel) ?_
  refine z_cont (E := E) (d := d) (Q1 := qi (fun _ τ => τ = σ)) (rest := []) (va_runS (As := [.int (Int32.ofInt i), .int (Int32.ofInt n), v]) (rest := []) (bytes := y_Pre_check.2.1) (maxL := y_Pre_check.2.2.1) (n := 3) (index := 1059) ⟨hx, hb, hml, hown, hts⟩ (s_Pre_check (d := 0) v hv h) ⟨callB_of 3 hts (gw_good cw_Pre_check) rfl rfl rfl (hts _ (mm1 17 rfl)) (hts _ (mm3 109 rfl)) (by decide +kernel) ⟨hd, by show 8 + (3 + 11) + 60 * 0 ≤ 60 * d; omega⟩, hts _ (mm3 110 rfl)⟩ ⟨fun a U g mk q => q, fun U hU hW => ⟨rfl, by rw [hU]; exact hP, hR, ho.1, ho.2.1⟩⟩ rfl rfl hl.1 rfl (lv_room (Nat.le_of_ble_eq_true rfl)) (by show decode y_Str_checkIndex.2.1 5 = .ok (.invokestatic 1059, 3); decide +kernel) ⟨Nat.zero_le _, Nat.zero_le _⟩) hS ?_
  rintro r τ H1 locs1 ⟨x, rfl, rfl⟩ ho1 hR1 hP1 hS1
  refine lv_pop hx hb (by decide +kernel) rfl ?_
  exact W.vret hx hb B.returns (fun t ht hW => ⟨none, τ, rfl, ⟨rfl, k⟩, by rw [ht]; exact hP1, hR1, trivial, hS1.F ht⟩) hS1.2.2 (by decide +kernel) B.notSynchronized
