/-! THE LAW'S OWN FRAME: locals b (the script), x, m, i -/
def R_law : String := "BlackCabinetLaw"
def lw_P (b : Addr) (xs : List Int32) (args : Array Value) (s : State) : Prop := args = #[.ref b] ∧ s.IntsAt b xs ∧ xs.length ≤ 3072 ∧ (Jvm.Cond.and given_1 narrow_1).before args s = true
def lw_Q (_ : Array Value) (s : State) (o : Outcome) (t : State) : Prop := o = .returned (some (.int 1)) ∧ Framed s o t [] 600000 7302250
def lw_Z (below : List Frame) (a : Array Value) (s : State) : State → Prop := fun t => ∃ o, t.status = .running ∧ Ended t below o ∧ lw_Q a s o t
theorem lw_ret {p : Program} {l : Launch} {e : Env} {s : State} {m : MethodId} {below : List Frame} {meth : Method} {c : Code} {b : Nat} (hx : p.tables.exec = Jvm.exec) (hb : c.code = code) (hr : meth.sig.returnType = ret) (hlocks : meth.locks = false) {pc : Nat} {H : Heap} {ls : Array Slot} (hdg : decode code pc = .ok (.ireturn, 1)) : W p l e room_1 s m #[Value.ref b] below meth c H [] 600000 7302250 (lw_Z below #[Value.ref b] s) (F0 m pc ls [.int 1]) := by
  intro T hT X
  obtain ⟨fs, hret, hrun, hended, hW, hframe⟩ := X.leave (v := some (.int 1)) (hlocks := hlocks) (fun h => by rw [hr] at h; cases h)
  have hmeth' : T.vm.method? m = some meth := X.method'
  refine ⟨T.setFrames fs, ?_, .returned (some (.int 1)), hrun, hended, rfl, ⟨_, rfl⟩, hW, hframe⟩
  jvm_step X.here [X.here.top, hx, hb, hdg, hmeth', hr, ret, narrow_b1]
  (try refine ⟨rfl, ?_⟩); (try refine ⟨rfl, ?_⟩)
  first | (intro acts; rw [hret _ acts rfl rfl rfl]) | rw [hret _ _ rfl rfl rfl]
  exact Steps.refl _
def LX (E : EN) (p : Program) (s : State) (m : MethodId) (meth : Method) (c : Code) (b Ls : Nat) (xs : Nat → Int32) : Prop :=
  p.tables.exec = Jvm.exec ∧ c.code = code ∧ meth.sig.returnType = ret ∧ c.maxLocals = 4 ∧ s.vm.findClass R_law = some m.cls ∧ (∀ w ∈ gw, w.before #[Value.ref b] s = true) ∧ va_X b Ls xs s s.heap ∧ b < s.heap.size ∧ meth.locks = false ∧ KK E s ∧ AD E ∧ (∀ q, eA E q → s.heap.size ≤ q) ∧ ead E 200 = b ∧ Ls ≤ 3072
def lwL (E : EN) (b : Nat) (i : Int) : List (Nat × Value) := [(3, .int (Int32.ofInt i)), (2, .ref (ead E 115)), (1, .ref (ead E 0)), (0, .ref b)]
def ZL (E : EN) (p : Program) (e : Env) (s : State) (m : MethodId) (below : List Frame) (meth : Method) (c : Code) (b kc ks : Nat) (pc : Nat) (i : Int) (st : List AV) (σ : Mem) : Prop :=
  ∀ (H : Heap) (locs : List Loc) (ls : Array Slot), va_P (eD E) cls (wsv E σ) H → va_S (eA E) s.heap H locs → Rng σ → oks st → lv_has ls 4 (lwL E b i) → W p (eL E) e room_1 s m #[Value.ref b] below meth c H locs kc ks (lw_Z below #[Value.ref b] s) (F0 m pc ls (st.map (cv E)))
section ZLS
variable {E : EN} {p : Program} {e : Env} {s : State} {m : MethodId} {below : List Frame} {meth : Method} {c : Code} {b Ls kc ks : Nat} {xs : Nat → Int32} {pc : Nat} {i : Int} {st : List AV} {σ : Mem}
theorem zl_pure {pc2 : Nat} {st2 : List AV} (k : ZL E p e s m below meth c b kc ks pc2 i st2 σ) (hok : oks st → oks st2)
    (hstep : ∀ {H : Heap} {locs : List Loc} {ls : Array Slot}, va_S (eA E) s.heap H locs → oks st → lv_has ls 4 (lwL E b i) → W p (eL E) e room_1 s m #[Value.ref b] below meth c H locs kc ks (lw_Z below #[Value.ref b] s) (F0 m pc2 ls (st2.map (cv E))) → W p (eL E) e room_1 s m #[Value.ref b] below meth c H locs kc ks (lw_Z below #[Value.ref b] s) (F0 m pc ls (st.map (cv E)))) : ZL E p e s m below meth c b kc ks pc i st σ := by
  intro H locs ls hP hS hR hs hl
  exact hstep hS hs hl (k H locs ls hP hS hR (hok hs) hl)
theorem zl_a0 (F : LX E p s m meth c b Ls xs) (hdg : decode code pc = .ok (.aload_n 0, 1)) (k : ZL E p e s m below meth c b kc ks (pc + 1) i (vr 200 :: st) σ) : ZL E p e s m below meth c b kc ks pc i st σ :=
  zl_pure k (fun h => ⟨trivial, h⟩) (fun hS hs hl w => lv_aload_n (x := ead E 200) F.1 F.2.1 hdg rfl (by rw [F.2.2.2.2.2.2.2.2.2.2.2.2.1]; exact lv_at hl 3 rfl) w)
theorem zl_a1 (F : LX E p s m meth c b Ls xs) (hdg : decode code pc = .ok (.aload_n 1, 1)) (k : ZL E p e s m below meth c b kc ks (pc + 1) i (vr 0 :: st) σ) : ZL E p e s m below meth c b kc ks pc i st σ :=
  zl_pure k (fun h => ⟨trivial, h⟩) (fun hS hs hl w => lv_aload_n F.1 F.2.1 hdg rfl (lv_at hl 2 rfl) w)
theorem zl_a2 (F : LX E p s m meth c b Ls xs) (hdg : decode code pc = .ok (.aload_n 2, 1)) (k : ZL E p e s m below meth c b kc ks (pc + 1) i (vr 115 :: st) σ) : ZL E p e s m below meth c b kc ks pc i st σ :=
  zl_pure k (fun h => ⟨trivial, h⟩) (fun hS hs hl w => lv_aload_n F.1 F.2.1 hdg rfl (lv_at hl 1 rfl) w)
theorem zl_i3 (F : LX E p s m meth c b Ls xs) (hi : i32 i) (hdg : decode code pc = .ok (.iload_n 3, 1)) (k : ZL E p e s m below meth c b kc ks (pc + 1) i (vi i :: st) σ) : ZL E p e s m below meth c b kc ks pc i st σ :=
  zl_pure k (fun h => ⟨hi, h⟩) (fun hS hs hl w => lv_iload_n F.1 F.2.1 hdg rfl (lv_at hl 0 rfl) w)
theorem zl_iconst {n : Int} (F : LX E p s m meth c b Ls xs) (hdg : decode code pc = .ok (.iconst n, 1)) (hn : i32 n) (k : ZL E p e s m below meth c b kc ks (pc + 1) i (vi n :: st) σ) : ZL E p e s m below meth c b kc ks pc i st σ :=
  zl_pure k (fun h => ⟨hn, h⟩) (fun hS hs hl w => lv_iconst F.1 F.2.1 hdg rfl w)
theorem zl_bipush {n : Int} (F : LX E p s m meth c b Ls xs) (hdg : decode code pc = .ok (.bipush n, 2)) (hv : (Int8.ofInt n).toInt32 = Int32.ofInt n) (hn : i32 n) (k : ZL E p e s m below meth c b kc ks (pc + 2) i (vi n :: st) σ) : ZL E p e s m below meth c b kc ks pc i st σ :=
  zl_pure k (fun h => ⟨hn, h⟩) (fun hS hs hl w => lv_bipush F.1 F.2.1 hdg hv w)
theorem zl_iadd {x y : Int} (F : LX E p s m meth c b Ls xs) (hdg : decode code pc = .ok (.iadd, 1)) (v : Int) (hv : x + y = v) (hi : i32 v) (k : ZL E p e s m below meth c b kc ks (pc + 1) i (vi v :: st) σ) : ZL E p e s m below meth c b kc ks pc i (vi y :: vi x :: st) σ :=
  zl_pure k (fun h => ⟨hi, h.2.2⟩) (fun hS hs hl w => lv_iadd F.1 F.2.1 hdg (by rw [← Int32.ofInt_add, hv]; exact w))
theorem zl_isub {x y : Int} (F : LX E p s m meth c b Ls xs) (hdg : decode code pc = .ok (.isub, 1)) (v : Int) (hv : x - y = v) (hi : i32 v) (k : ZL E p e s m below meth c b kc ks (pc + 1) i (vi v :: st) σ) : ZL E p e s m below meth c b kc ks pc i (vi y :: vi x :: st) σ :=
  zl_pure k (fun h => ⟨hi, h.2.2⟩) (fun hS hs hl w => lv_isub F.1 F.2.1 hdg (by rw [← Int32.ofInt_sub, hv]; exact w))
theorem zl_iand {x y : Int} (F : LX E p s m meth c b Ls xs) (hdg : decode code pc = .ok (.iand, 1)) (k : ZL E p e s m below meth c b kc ks (pc + 1) i (vi (ian x y) :: st) σ) : ZL E p e s m below meth c b kc ks pc i (vi y :: vi x :: st) σ :=
  zl_pure k (fun h => ⟨ok32 _, h.2.2⟩) (fun hS hs hl w => lv_iand F.1 F.2.1 hdg (by rw [← oft32 (Int32.ofInt x &&& Int32.ofInt y)]; exact w))
/-- the script's ints -/
def scr (xs : Nat → Int32) (j : Int) : Int := (xs j.toNat).toInt
theorem zl_sld {j : Int} (F : LX E p s m meth c b Ls xs) (h : 0 ≤ j ∧ j < Ls) (hdg : decode code pc = .ok (.iaload, 1)) (k : ZL E p e s m below meth c b kc ks (pc + 1) i (vi (scr xs j) :: st) σ) : ZL E p e s m below meth c b kc ks pc i (vi j :: vr 200 :: st) σ := by
  refine zl_pure k (fun h => ⟨ok32 _, h.2.2⟩) (fun hS hs hl w => ?_)
  obtain ⟨hx, hb, -, -, -, -, hX, hbl, -, -, -, hA, h200, -⟩ := F
  have h2 : W p (eL E) e room_1 s m #[Value.ref b] below meth c _ _ kc ks (lw_Z below #[Value.ref b] s) (F0 m pc _ (.int (Int32.ofInt j) :: .ref b :: st.map (cv E))) := va_sld hx hb hX hbl (fun q => absurd (hA b q) (by omega)) hS (inb hs.1 h) hdg (by
    have e : (Int32.ofInt j).toNatClampNeg = j.toNat := by have := clamp hs.1 h.1; omega
    rw [e, ← oft32 (xs j.toNat)]; exact w)
  rw [← h200] at h2
  rw [h200] at h2
  show W p (eL E) e room_1 s m #[Value.ref b] below meth c _ _ kc ks (lw_Z below #[Value.ref b] s) (F0 m pc _ (.int (Int32.ofInt j) :: .ref (ead E 200) :: st.map (cv E)))
  rw [h200]; exact h2
theorem zl_slen (F : LX E p s m meth c b Ls xs) (hdg : decode code pc = .ok (.arraylength, 1)) (k : ZL E p e s m below meth c b kc ks (pc + 1) i (vi (Ls : Nat) :: st) σ) : ZL E p e s m below meth c b kc ks pc i (vr 200 :: st) σ := by
  refine zl_pure k (fun h => ⟨by have := F.2.2.2.2.2.2.2.2.2.2.2.2.2; simp only [ok1, i32]; omega, h.2⟩) (fun hS hs hl w => ?_)
  obtain ⟨hx, hb, -, -, -, -, hX, hbl, -, -, -, hA, h200, -⟩ := F
  show W p (eL E) e room_1 s m #[Value.ref b] below meth c _ _ kc ks (lw_Z below #[Value.ref b] s) (F0 m pc _ (.ref (ead E 200) :: st.map (cv E)))
  rw [h200]
  exact va_slen hx hb hX hbl (fun q => absurd (hA b q) (by omega)) hS hdg w
theorem zl_i2l {x : Int} (F : LX E p s m meth c b Ls xs) (hdg : decode code pc = .ok (.i2l, 1)) (k : ZL E p e s m below meth c b kc ks (pc + 1) i (vl x :: st) σ) : ZL E p e s m below meth c b kc ks pc i (vi x :: st) σ :=
  zl_pure k (fun h => ⟨by have := h.1; simp only [ok1, i32, i64] at *; omega, h.2⟩) (fun hS hs hl w => lv_i2l F.1 F.2.1 hdg (by apply eq64; rw [Int32.toInt_toInt64, of32 hs.1, of64 (by have := hs.1; simp only [ok1, i32, i64] at *; omega)]) w)
theorem zl_lshl {x y : Int} (F : LX E p s m meth c b Ls xs) (hdg : decode code pc = .ok (.lshl, 1)) (k : ZL E p e s m below meth c b kc ks (pc + 1) i (vl (lsh x y) :: st) σ) : ZL E p e s m below meth c b kc ks pc i (vi y :: vl x :: st) σ :=
  zl_pure k (fun h => ⟨ok64 _, h.2.2⟩) (fun hS hs hl w => lv_lshl F.1 F.2.1 hdg rfl (by have := cvl_t E (Int64.ofInt x <<< ((Int32.ofInt y).toInt64 &&& 63)); rw [← this]; exact w))
theorem zl_ldc2 {index : Nat} (n : Int) (F : LX E p s m meth c b Ls xs) (hw : Cond.constantLong R_law index (Int64.ofInt n) ∈ gw) (hn : i64 n) (hdg : decode code pc = .ok (.ldc2_w index, 3)) (k : ZL E p e s m below meth c b kc ks (pc + 3) i (vl n :: st) σ) : ZL E p e s m below meth c b kc ks pc i st σ :=
  zl_pure k (fun h => ⟨hn, h⟩) (fun hS hs hl w => lv_ldc2 F.1 F.2.1 F.2.2.2.2.1 (F.2.2.2.2.2.1 _ hw) hdg w)
theorem zl_land {x y : Int} (F : LX E p s m meth c b Ls xs) (hdg : decode code pc = .ok (.land, 1)) (k : ZL E p e s m below meth c b kc ks (pc + 1) i (vl (lan x y) :: st) σ) : ZL E p e s m below meth c b kc ks pc i (vl y :: vl x :: st) σ :=
  zl_pure k (fun h => ⟨ok64 _, h.2.2⟩) (fun hS hs hl w => lv_land F.1 F.2.1 hdg (by rw [← oft64 (Int64.ofInt x &&& Int64.ofInt y)]; exact w))
theorem zl_lor {x y : Int} (F : LX E p s m meth c b Ls xs) (hdg : decode code pc = .ok (.lor, 1)) (k : ZL E p e s m below meth c b kc ks (pc + 1) i (vl (lor x y) :: st) σ) : ZL E p e s m below meth c b kc ks pc i (vl y :: vl x :: st) σ :=
  zl_pure k (fun h => ⟨ok64 _, h.2.2⟩) (fun hS hs hl w => lv_lor F.1 F.2.1 hdg (by rw [← oft64 (Int64.ofInt x ||| Int64.ofInt y)]; exact w))
theorem zl_goto {off : Int} (tgt : Nat) (F : LX E p s m meth c b Ls xs) (hdg : decode code pc = .ok (.goto off, 3)) (ht : (pc : Int) + off = (tgt : Int)) (k : ZL E p e s m below meth c b kc ks tgt i st σ) : ZL E p e s m below meth c b kc ks pc i st σ :=
  zl_pure k (fun h => h) (fun hS hs hl w => lv_goto F.1 F.2.1 hdg ht w)
/-- both sides answer alike -/
theorem zl_eq {x : Int} {off : Int} (tgt : Nat) (F : LX E p s m meth c b Ls xs) (hdg : decode code pc = .ok (.if_icmp .eq off, 3)) (ht : (pc : Int) + off = (tgt : Int)) (k : ZL E p e s m below meth c b kc ks tgt i st σ) : ZL E p e s m below meth c b kc ks pc i (vi x :: vi x :: st) σ :=
  zl_pure k (fun h => h.2.2) (fun hS hs hl w => lv_icmp_eq F.1 F.2.1 hdg ht (fun _ => w) (fun q => absurd rfl q))
theorem zl_leq {x : Int} {off : Int} (tgt : Nat) (F : LX E p s m meth c b Ls xs) (hdg1 : decode code pc = .ok (.lcmp, 1)) (hdg : decode code (pc + 1) = .ok (.ifCond .eq off, 3)) (ht : ((pc + 1 : Nat) : Int) + off = (tgt : Int)) (k : ZL E p e s m below meth c b kc ks tgt i st σ) : ZL E p e s m below meth c b kc ks pc i (vl x :: vl x :: st) σ :=
  zl_pure k (fun h => h.2.2) (fun hS hs hl w => W.lcmp F.1 F.2.1 hdg1 (by rw [lcmp_ok hs.1 hs.1]; exact lv_if_eq F.1 F.2.1 hdg ht (fun _ => w) (fun q => absurd (by simp [lcm]) q)))
theorem zl_gt {x y off : Int} (tgt : Nat) (F : LX E p s m meth c b Ls xs) (hdg : decode code pc = .ok (.if_icmp .gt off, 3)) (ht : (pc : Int) + off = (tgt : Int)) (k1 : y < x → ZL E p e s m below meth c b kc ks tgt i st σ) (k2 : x ≤ y → ZL E p e s m below meth c b kc ks (pc + 3) i st σ) : ZL E p e s m below meth c b kc ks pc i (vi y :: vi x :: st) σ := by
  intro H locs ls hP hS hR hs hl
  refine lv_icmp_gt F.1 F.2.1 hdg ht (fun q => k1 ((lt32 hs.1 hs.2.1).mp q) H locs ls hP hS hR hs.2.2 hl) (fun q => k2 (Int.not_lt.mp (fun z => q ((lt32 hs.1 hs.2.1).mpr z))) H locs ls hP hS hR hs.2.2 hl)
theorem zl_tabOut {a dflt lo hi : Int} {offs : Array Int} {len : Nat} (tgt : Nat) (F : LX E p s m meth c b Ls xs) (hdg : decode code pc = .ok (.tableswitch dflt lo hi offs, len)) (h : a < lo ∨ hi < a) (ht : (pc : Int) + dflt = (tgt : Int)) (k : ZL E p e s m below meth c b kc ks tgt i st σ) : ZL E p e s m below meth c b kc ks pc i (vi a :: st) σ :=
  zl_pure k (fun h => h.2) (fun hS hs hl w => lv_tableOut F.1 F.2.1 hdg (by rw [of32 hs.1]; exact h) ht w)
theorem zl_tabIn {a v dflt lo hi : Int} {offs : Array Int} {len : Nat} {off : Int} (tgt : Nat) (F : LX E p s m meth c b Ls xs) (hdg : decode code pc = .ok (.tableswitch dflt lo hi offs, len)) (hc : a = v) (h : lo ≤ v ∧ v ≤ hi) (ho : offs[(v - lo).toNat]? = some off) (ht : (pc : Int) + off = (tgt : Int)) (k : ZL E p e s m below meth c b kc ks tgt i st σ) : ZL E p e s m below meth c b kc ks pc i (vi a :: st) σ := by
  subst hc
  exact zl_pure k (fun h => h.2) (fun hS hs hl w => lv_tableIn F.1 F.2.1 hdg (by rw [of32 hs.1]; omega) (by rw [of32 hs.1]; omega) (by rw [of32 hs.1]; exact ho) ht w)
theorem zl_iinc (F : LX E p s m meth c b Ls xs) (hi : i32 (i + 6)) (hdg : decode code pc = .ok (.iinc 3 6, 3)) (k : ZL E p e s m below meth c b kc ks (pc + 3) (i + 6) st σ) : ZL E p e s m below meth c b kc ks pc i st σ := by
  intro H locs ls hP hS hR hs hl
  exact lv_iinc (v := Int32.ofInt (i + 6)) (lv' := lwL E b (i + 6)) F.1 F.2.1 hdg hl (k := 0) rfl (by rw [Int32.ofInt_add]) (by decide) rfl (fun ls hl => k H locs ls hP hS hR hs hl)
theorem zl_call {dc index n cc ci N : Nat} {Yc : MI} {as stk : List AV} (F : LX E p s m meth c b Ls xs) (hm : MLV R_law index Yc n) (hs : sh cc = (ci, N)) (hC : (cls.getD ci (RZ0, TZ0, 99)).1 = Yc.1.cls ∧ ci < 12) (hn : as.length = n) (hst : stk = as.reverse ++ vr cc :: st) (hw : (st.map cat).sum ≤ 8) (hd : dc ≤ 1300) (hkc : kc ≤ 600000 ∧ ks ≤ 7302250) (hdg : decode code pc = .ok (.invokevirtual index, 3)) (k : Cc E Yc dc (vr cc :: as) σ (fun r τ => ZL E p e s m below meth c b kc ks (pc + 3) i (r.toList ++ st) τ)) : ZL E p e s m below meth c b kc ks pc i stk σ := by
  subst hst
  intro H locs ls hP hS hR ho hl
  obtain ⟨hx, hb, hr, hml, hown, hts, hX, hbl, hlk, hK, hAD, hA, h200, hLs⟩ := F
  obtain ⟨o1, o2⟩ := oks_app.mp ho
  have hc := sh_lt hs (by omega)
  have hq : cls[ci]? = some (cls.getD ci (RZ0, TZ0, 99)) := by
    rw [List.getD_eq_getElem?_getD]
    have : ci < cls.length := hC.2
    rw [List.getElem?_eq_getElem this]; rfl
  have hrun := va_runV (p := p) (e := e) (R := room_1) (below := below) (meth := meth) (locs := locs) (cells := kc) (slots := ks) (g := F0 m pc ls ((as.reverse ++ vr cc :: st).map (cv E))) (As := as.map (cv E)) (rest := st.map (cv E)) (n := n) (C := Yc.1.cls) ⟨hx, hb, hml, hown, hts⟩ k ⟨callB_of (R := room_1) n hts (gw_good hm.1.2.2.1) rfl rfl rfl (hts _ hm.1.2.1) (hts _ hm.1.1) hm.1.2.2.2.1 ⟨by show dc + 1 ≤ 2048; omega, by show 8 + (Yc.2.2.1 + 11) + 60 * dc ≤ 84000; have := hm.1.2.2.2.2; omega⟩, hts _ hm.2.1, hts _ hm.2.2⟩ ⟨PC.blind, by rw [← hC.1]; exact va_recv hK.1 hP hq (q0 := cc) (fs := (List.range N).map (fv E σ cc ci)) (by rw [wsv_at hc, ce_obj hs (by omega)]), fun U hU hW => ⟨rfl, by rw [hU]; exact hP, hK.warm hW (fun a h1 h2 => by rw [hU]; exact hS.2.1 a h1 h2), hR, ⟨trivial, oks_rev o1⟩, hAD⟩⟩ rfl (by rw [List.length_map]; exact hn) hl.1 (by rw [List.map_append, List.map_reverse]; rfl) (lv_room (by rw [cat_sum]; exact hw)) hdg hkc
  intro T hT X
  obtain ⟨v, st₀, t, T', L, h0, X', hL, e1, e2, ⟨r, τ, hv, hq2, hP1, hR1, ho1, hz, hk⟩, stp⟩ := hrun T hT X
  cases hv
  rw [h0] at hz hk
  have h3 := hq2 T'.heap (locs ++ L) ls (by rw [e1]; exact hP1)
    ⟨Nat.le_trans hS.1 (by rw [e1]; exact hz), fun q h1 h2 => by rw [e1, hk q (Nat.lt_of_lt_of_le h1 hS.1) h2]; exact hS.2.1 q h1 h2, fun q hq => by
      rcases List.mem_append.mp hq with h | h
      · exact hS.2.2 q h
      · exact hL q h⟩ hR1 (oks_app.mpr ⟨by cases r with | none => exact trivial | some v => exact ⟨ho1, trivial⟩, o2.2⟩) hl
  rw [List.map_append] at h3
  obtain ⟨t2, a1, b1⟩ := h3 T' rfl X'
  rw [show (r.map (cv E)).toList = r.toList.map (cv E) by cases r <;> rfl] at stp
  exact ⟨t2, stp t2 a1, b1⟩
/-- the end -/
theorem zl_end (F : LX E p s m meth c b Ls xs) (hkc : kc ≤ 600000 ∧ ks ≤ 7302250) (hdg : decode code pc = .ok (.iconst 1, 1)) (hdg2 : decode code (pc + 1) = .ok (.ireturn, 1)) : ZL E p e s m below meth c b kc ks pc i [] σ := by
  intro H locs ls hP hS hR hs hl
  refine lv_iconst (v := 1) F.1 F.2.1 hdg (by decide) ?_
  refine va_forget (fun q hq => F.2.2.2.2.2.2.2.2.2.2.2.1 _ (hS.2.2 q hq)) ?_
  refine W.widen (k := 600000) (n := 7302250) hkc.1 hkc.2 ?_
  exact lw_ret F.1 F.2.1 F.2.2.1 F.2.2.2.2.2.2.2.2.1 hdg2
end ZLS
theorem ml_law_13 : MLV R_law 13 y_BC_feed 5 := ⟨⟨mm3 25 rfl, mm1 1 rfl, cw_BC_feed, ⟨by decide, by decide, by decide +kernel⟩, by decide⟩, mm3 26 rfl, mm3 27 rfl⟩
theorem ml_law_17 : MLV R_law 17 y_Mod_feed 5 := ⟨⟨mm7 10 rfl, mm1 12 rfl, cw_Mod_feed, ⟨by decide, by decide, by decide +kernel⟩, by decide⟩, mm7 11 rfl, mm7 12 rfl⟩
theorem ml_law_18 : MLV R_law 18 y_BC_room 1 := ⟨⟨mm3 33 rfl, mm1 1 rfl, cw_BC_room, ⟨by decide, by decide, by decide +kernel⟩, by decide⟩, mm3 34 rfl, mm3 35 rfl⟩
theorem ml_law_22 : MLV R_law 22 y_Mod_room 1 := ⟨⟨mm7 14 rfl, mm1 12 rfl, cw_Mod_room, ⟨by decide, by decide, by decide +kernel⟩, by decide⟩, mm7 15 rfl, mm7 16 rfl⟩
theorem ml_law_23 : MLV R_law 23 y_BC_fault 1 := ⟨⟨mm4 65 rfl, mm1 1 rfl, cw_BC_fault, ⟨by decide, by decide, by decide +kernel⟩, by decide⟩, mm4 66 rfl, mm4 67 rfl⟩
theorem ml_law_26 : MLV R_law 26 y_Mod_fault 1 := ⟨⟨mm7 117 rfl, mm1 12 rfl, cw_Mod_fault, ⟨by decide, by decide, by decide +kernel⟩, by decide⟩, mm7 118 rfl, mm7 119 rfl⟩
theorem ml_law_27 : MLV R_law 27 y_BC_letter 2 := ⟨⟨mm4 69 rfl, mm1 1 rfl, cw_BC_letter, ⟨by decide, by decide, by decide +kernel⟩, by decide⟩, mm4 70 rfl, mm4 71 rfl⟩
theorem ml_law_31 : MLV R_law 31 y_Mod_letter 2 := ⟨⟨mm7 121 rfl, mm1 12 rfl, cw_Mod_letter, ⟨by decide, by decide, by decide +kernel⟩, by decide⟩, mm7 122 rfl, mm7 123 rfl⟩
theorem ml_law_32 : MLV R_law 32 y_BC_hand 2 := ⟨⟨mm4 75 rfl, mm1 1 rfl, cw_BC_hand, ⟨by decide, by decide, by decide +kernel⟩, by decide⟩, mm4 76 rfl, mm4 77 rfl⟩
theorem ml_law_35 : MLV R_law 35 y_Mod_hand 2 := ⟨⟨mm7 133 rfl, mm1 12 rfl, cw_Mod_hand, ⟨by decide, by decide, by decide +kernel⟩, by decide⟩, mm7 134 rfl, mm7 135 rfl⟩
theorem ml_law_36 : MLV R_law 36 y_BC_court 1 := ⟨⟨mm4 91 rfl, mm1 1 rfl, cw_BC_court, ⟨by decide, by decide, by decide +kernel⟩, by decide⟩, mm4 92 rfl, mm4 93 rfl⟩
theorem ml_law_39 : MLV R_law 39 y_Mod_court 1 := ⟨⟨mm7 149 rfl, mm1 12 rfl, cw_Mod_court, ⟨by decide, by decide, by decide +kernel⟩, by decide⟩, mm7 150 rfl, mm7 151 rfl⟩
theorem ml_law_40 : MLV R_law 40 y_BC_takes 2 := ⟨⟨mm4 95 rfl, mm1 1 rfl, cw_BC_takes, ⟨by decide, by decide, by decide +kernel⟩, by decide⟩, mm4 96 rfl, mm4 97 rfl⟩
theorem ml_law_43 : MLV R_law 43 y_Mod_takes 2 := ⟨⟨mm7 153 rfl, mm1 12 rfl, cw_Mod_takes, ⟨by decide, by decide, by decide +kernel⟩, by decide⟩, mm7 154 rfl, mm7 155 rfl⟩
theorem ml_law_44 : MLV R_law 44 y_BC_copies 2 := ⟨⟨mm4 99 rfl, mm1 1 rfl, cw_BC_copies, ⟨by decide, by decide, by decide +kernel⟩, by decide⟩, mm4 100 rfl, mm4 101 rfl⟩
theorem ml_law_47 : MLV R_law 47 y_Mod_copies 2 := ⟨⟨mm7 183 rfl, mm1 12 rfl, cw_Mod_copies, ⟨by decide, by decide, by decide +kernel⟩, by decide⟩, mm7 184 rfl, mm7 185 rfl⟩
theorem ml_law_48 : MLV R_law 48 y_BC_name 1 := ⟨⟨mm4 108 rfl, mm1 1 rfl, cw_BC_name, ⟨by decide, by decide, by decide +kernel⟩, by decide⟩, mm4 109 rfl, mm4 110 rfl⟩
theorem ml_law_51 : MLV R_law 51 y_Mod_name 1 := ⟨⟨mm7 191 rfl, mm1 12 rfl, cw_Mod_name, ⟨by decide, by decide, by decide +kernel⟩, by decide⟩, mm7 192 rfl, mm7 193 rfl⟩
theorem ml_law_52 : MLV R_law 52 y_BC_seed 1 := ⟨⟨mm4 112 rfl, mm1 1 rfl, cw_BC_seed, ⟨by decide, by decide, by decide +kernel⟩, by decide⟩, mm4 113 rfl, mm4 114 rfl⟩
theorem ml_law_55 : MLV R_law 55 y_Mod_seed 1 := ⟨⟨mm7 195 rfl, mm1 12 rfl, cw_Mod_seed, ⟨by decide, by decide, by decide +kernel⟩, by decide⟩, mm7 196 rfl, mm7 197 rfl⟩
theorem ml_law_56 : MLV R_law 56 y_BC_morning 1 := ⟨⟨mm4 124 rfl, mm1 1 rfl, cw_BC_morning, ⟨by decide, by decide, by decide +kernel⟩, by decide⟩, mm4 125 rfl, mm4 126 rfl⟩
theorem ml_law_59 : MLV R_law 59 y_Mod_morning 1 := ⟨⟨mm7 207 rfl, mm1 12 rfl, cw_Mod_morning, ⟨by decide, by decide, by decide +kernel⟩, by decide⟩, mm7 208 rfl, mm7 209 rfl⟩
theorem ml_law_60 : MLV R_law 60 y_BC_byRule 0 := ⟨⟨mm4 186 rfl, mm1 1 rfl, cw_BC_byRule, ⟨by decide, by decide, by decide +kernel⟩, by decide⟩, mm4 187 rfl, mm4 188 rfl⟩
theorem ml_law_64 : MLV R_law 64 y_Mod_byRule 0 := ⟨⟨mm8 19 rfl, mm1 12 rfl, cw_Mod_byRule, ⟨by decide, by decide, by decide +kernel⟩, by decide⟩, mm8 20 rfl, mm8 21 rfl⟩
theorem ml_law_65 : MLV R_law 65 y_BC_sleeps 1 := ⟨⟨mm4 206 rfl, mm1 1 rfl, cw_BC_sleeps, ⟨by decide, by decide, by decide +kernel⟩, by decide⟩, mm4 207 rfl, mm4 208 rfl⟩
theorem ml_law_68 : MLV R_law 68 y_Mod_sleeps 1 := ⟨⟨mm8 31 rfl, mm1 12 rfl, cw_Mod_sleeps, ⟨by decide, by decide, by decide +kernel⟩, by decide⟩, mm8 32 rfl, mm8 33 rfl⟩
theorem ml_law_69 : MLV R_law 69 y_BC_undo 1 := ⟨⟨mm4 210 rfl, mm1 1 rfl, cw_BC_undo, ⟨by decide, by decide, by decide +kernel⟩, by decide⟩, mm4 211 rfl, mm4 212 rfl⟩
theorem ml_law_72 : MLV R_law 72 y_Mod_undo 1 := ⟨⟨mm8 35 rfl, mm1 12 rfl, cw_Mod_undo, ⟨by decide, by decide, by decide +kernel⟩, by decide⟩, mm8 36 rfl, mm8 37 rfl⟩
theorem ml_law_73 : MLV R_law 73 y_BC_judge 2 := ⟨⟨mm4 218 rfl, mm1 1 rfl, cw_BC_judge, ⟨by decide, by decide, by decide +kernel⟩, by decide⟩, mm4 219 rfl, mm4 220 rfl⟩
theorem ml_law_76 : MLV R_law 76 y_Mod_judge 2 := ⟨⟨mm8 39 rfl, mm1 12 rfl, cw_Mod_judge, ⟨by decide, by decide, by decide +kernel⟩, by decide⟩, mm8 40 rfl, mm8 41 rfl⟩
theorem ml_law_77 : MLV R_law 77 y_BC_perform 1 := ⟨⟨mm5 2 rfl, mm1 1 rfl, cw_BC_perform, ⟨by decide, by decide, by decide +kernel⟩, by decide⟩, mm5 3 rfl, mm5 4 rfl⟩
theorem ml_law_80 : MLV R_law 80 y_Mod_perform 1 := ⟨⟨mm8 59 rfl, mm1 12 rfl, cw_Mod_perform, ⟨by decide, by decide, by decide +kernel⟩, by decide⟩, mm8 60 rfl, mm8 61 rfl⟩
theorem ml_law_81 : MLV R_law 81 y_BC_mornings 2 := ⟨⟨mm5 6 rfl, mm1 1 rfl, cw_BC_mornings, ⟨by decide, by decide, by decide +kernel⟩, by decide⟩, mm5 7 rfl, mm5 8 rfl⟩
theorem ml_law_84 : MLV R_law 84 y_Mod_mornings 2 := ⟨⟨mm8 63 rfl, mm1 12 rfl, cw_Mod_mornings, ⟨by decide, by decide, by decide +kernel⟩, by decide⟩, mm8 64 rfl, mm8 65 rfl⟩
theorem ml_law_85 : MLV R_law 85 y_BC_row 2 := ⟨⟨mm5 14 rfl, mm1 1 rfl, cw_BC_row, ⟨by decide, by decide, by decide +kernel⟩, by decide⟩, mm5 15 rfl, mm5 16 rfl⟩
theorem ml_law_88 : MLV R_law 88 y_Mod_row 2 := ⟨⟨mm8 68 rfl, mm1 12 rfl, cw_Mod_row, ⟨by decide, by decide, by decide +kernel⟩, by decide⟩, mm8 69 rfl, mm8 70 rfl⟩
theorem ml_law_89 : MLV R_law 89 y_BC_when 3 := ⟨⟨mm5 19 rfl, mm1 1 rfl, cw_BC_when, ⟨by decide, by decide, by decide +kernel⟩, by decide⟩, mm5 20 rfl, mm5 21 rfl⟩
theorem ml_law_93 : MLV R_law 93 y_Mod_when 3 := ⟨⟨mm8 72 rfl, mm1 12 rfl, cw_Mod_when, ⟨by decide, by decide, by decide +kernel⟩, by decide⟩, mm8 73 rfl, mm8 74 rfl⟩
theorem ml_law_94 : MLV R_law 94 y_BC_best 1 := ⟨⟨mm5 23 rfl, mm1 1 rfl, cw_BC_best, ⟨by decide, by decide, by decide +kernel⟩, by decide⟩, mm5 24 rfl, mm5 25 rfl⟩
theorem ml_law_97 : MLV R_law 97 y_Mod_best 1 := ⟨⟨mm8 76 rfl, mm1 12 rfl, cw_Mod_best, ⟨by decide, by decide, by decide +kernel⟩, by decide⟩, mm8 77 rfl, mm8 78 rfl⟩
theorem ml_law_98 : MLV R_law 98 y_BC_bestAt 1 := ⟨⟨mm5 105 rfl, mm1 1 rfl, cw_BC_bestAt, ⟨by decide, by decide, by decide +kernel⟩, by decide⟩, mm5 106 rfl, mm5 107 rfl⟩
theorem ml_law_101 : MLV R_law 101 y_Mod_bestAt 1 := ⟨⟨mm8 92 rfl, mm1 12 rfl, cw_Mod_bestAt, ⟨by decide, by decide, by decide +kernel⟩, by decide⟩, mm8 93 rfl, mm8 94 rfl⟩
theorem ml_law_102 : MLV R_law 102 y_BC_bestBy 1 := ⟨⟨mm5 109 rfl, mm1 1 rfl, cw_BC_bestBy, ⟨by decide, by decide, by decide +kernel⟩, by decide⟩, mm5 110 rfl, mm5 111 rfl⟩
theorem ml_law_105 : MLV R_law 105 y_Mod_bestBy 1 := ⟨⟨mm8 96 rfl, mm1 12 rfl, cw_Mod_bestBy, ⟨by decide, by decide, by decide +kernel⟩, by decide⟩, mm8 97 rfl, mm8 98 rfl⟩
theorem ml_law_106 : MLV R_law 106 y_BC_noonFor 1 := ⟨⟨mm5 115 rfl, mm1 1 rfl, cw_BC_noonFor, ⟨by decide, by decide, by decide +kernel⟩, by decide⟩, mm5 116 rfl, mm5 117 rfl⟩
theorem ml_law_109 : MLV R_law 109 y_Mod_noonFor 1 := ⟨⟨mm8 101 rfl, mm1 12 rfl, cw_Mod_noonFor, ⟨by decide, by decide, by decide +kernel⟩, by decide⟩, mm8 102 rfl, mm8 103 rfl⟩
theorem ml_law_110 : MLV R_law 110 y_BC_without 1 := ⟨⟨mm5 122 rfl, mm1 1 rfl, cw_BC_without, ⟨by decide, by decide, by decide +kernel⟩, by decide⟩, mm5 123 rfl, mm5 124 rfl⟩
theorem ml_law_113 : MLV R_law 113 y_Mod_without 1 := ⟨⟨mm8 105 rfl, mm1 12 rfl, cw_Mod_without, ⟨by decide, by decide, by decide +kernel⟩, by decide⟩, mm8 106 rfl, mm8 107 rfl⟩
theorem ml_law_114 : MLV R_law 114 y_BC_hindrance 0 := ⟨⟨mm5 126 rfl, mm1 1 rfl, cw_BC_hindrance, ⟨by decide, by decide, by decide +kernel⟩, by decide⟩, mm5 127 rfl, mm5 128 rfl⟩
theorem ml_law_117 : MLV R_law 117 y_Mod_hindrance 0 := ⟨⟨mm8 109 rfl, mm1 12 rfl, cw_Mod_hindrance, ⟨by decide, by decide, by decide +kernel⟩, by decide⟩, mm8 110 rfl, mm8 111 rfl⟩
theorem ml_law_118 : MLV R_law 118 y_BC_hopeless 0 := ⟨⟨mm5 130 rfl, mm1 1 rfl, cw_BC_hopeless, ⟨by decide, by decide, by decide +kernel⟩, by decide⟩, mm5 131 rfl, mm5 132 rfl⟩
theorem ml_law_121 : MLV R_law 121 y_Mod_hopeless 0 := ⟨⟨mm8 113 rfl, mm1 12 rfl, cw_Mod_hopeless, ⟨by decide, by decide, by decide +kernel⟩, by decide⟩, mm8 114 rfl, mm8 115 rfl⟩
theorem ml_law_122 : MLV R_law 122 y_BC_rule 1 := ⟨⟨mm5 134 rfl, mm1 1 rfl, cw_BC_rule, ⟨by decide, by decide, by decide +kernel⟩, by decide⟩, mm5 135 rfl, mm5 136 rfl⟩
theorem ml_law_125 : MLV R_law 125 y_Mod_rule 1 := ⟨⟨mm8 121 rfl, mm1 12 rfl, cw_Mod_rule, ⟨by decide, by decide, by decide +kernel⟩, by decide⟩, mm8 122 rfl, mm8 123 rfl⟩
theorem ml_law_126 : MLV R_law 126 y_BC_ruleBy 1 := ⟨⟨mm5 138 rfl, mm1 1 rfl, cw_BC_ruleBy, ⟨by decide, by decide, by decide +kernel⟩, by decide⟩, mm5 139 rfl, mm5 140 rfl⟩
theorem ml_law_129 : MLV R_law 129 y_Mod_ruleBy 1 := ⟨⟨mm8 129 rfl, mm1 12 rfl, cw_Mod_ruleBy, ⟨by decide, by decide, by decide +kernel⟩, by decide⟩, mm8 130 rfl, mm8 131 rfl⟩
theorem ml_law_130 : MLV R_law 130 y_BC_slept 1 := ⟨⟨mm5 142 rfl, mm1 1 rfl, cw_BC_slept, ⟨by decide, by decide, by decide +kernel⟩, by decide⟩, mm5 143 rfl, mm5 144 rfl⟩
theorem ml_law_133 : MLV R_law 133 y_Mod_slept 1 := ⟨⟨mm8 133 rfl, mm1 12 rfl, cw_Mod_slept, ⟨by decide, by decide, by decide +kernel⟩, by decide⟩, mm8 134 rfl, mm8 135 rfl⟩
theorem ml_law_134 : MLV R_law 134 y_BC_sleeper 1 := ⟨⟨mm5 155 rfl, mm1 1 rfl, cw_BC_sleeper, ⟨by decide, by decide, by decide +kernel⟩, by decide⟩, mm5 156 rfl, mm5 157 rfl⟩
theorem ml_law_137 : MLV R_law 137 y_Mod_sleeper 1 := ⟨⟨mm8 145 rfl, mm1 12 rfl, cw_Mod_sleeper, ⟨by decide, by decide, by decide +kernel⟩, by decide⟩, mm8 146 rfl, mm8 147 rfl⟩
theorem ml_law_138 : MLV R_law 138 y_BC_quiet 1 := ⟨⟨mm5 159 rfl, mm1 1 rfl, cw_BC_quiet, ⟨by decide, by decide, by decide +kernel⟩, by decide⟩, mm5 160 rfl, mm5 161 rfl⟩
theorem ml_law_141 : MLV R_law 141 y_Mod_quiet 1 := ⟨⟨mm8 149 rfl, mm1 12 rfl, cw_Mod_quiet, ⟨by decide, by decide, by decide +kernel⟩, by decide⟩, mm8 150 rfl, mm8 151 rfl⟩
theorem ml_law_142 : MLV R_law 142 y_BC_safest 1 := ⟨⟨mm5 167 rfl, mm1 1 rfl, cw_BC_safest, ⟨by decide, by decide, by decide +kernel⟩, by decide⟩, mm5 168 rfl, mm5 169 rfl⟩
theorem ml_law_145 : MLV R_law 145 y_Mod_safest 1 := ⟨⟨mm8 157 rfl, mm1 12 rfl, cw_Mod_safest, ⟨by decide, by decide, by decide +kernel⟩, by decide⟩, mm8 158 rfl, mm8 159 rfl⟩
theorem ml_law_146 : MLV R_law 146 y_BC_bold 1 := ⟨⟨mm5 172 rfl, mm1 1 rfl, cw_BC_bold, ⟨by decide, by decide, by decide +kernel⟩, by decide⟩, mm5 173 rfl, mm5 174 rfl⟩
theorem ml_law_149 : MLV R_law 149 y_Mod_bold 1 := ⟨⟨mm8 164 rfl, mm1 12 rfl, cw_Mod_bold, ⟨by decide, by decide, by decide +kernel⟩, by decide⟩, mm8 165 rfl, mm8 166 rfl⟩
theorem ml_law_150 : MLV R_law 150 y_BC_belief 2 := ⟨⟨mm5 176 rfl, mm1 1 rfl, cw_BC_belief, ⟨by decide, by decide, by decide +kernel⟩, by decide⟩, mm5 177 rfl, mm5 178 rfl⟩
theorem ml_law_154 : MLV R_law 154 y_Mod_belief 2 := ⟨⟨mm8 169 rfl, mm1 12 rfl, cw_Mod_belief, ⟨by decide, by decide, by decide +kernel⟩, by decide⟩, mm8 170 rfl, mm8 171 rfl⟩
theorem ml_law_155 : MLV R_law 155 y_BC_now 0 := ⟨⟨mm5 189 rfl, mm1 1 rfl, cw_BC_now, ⟨by decide, by decide, by decide +kernel⟩, by decide⟩, mm5 190 rfl, mm5 191 rfl⟩
theorem ml_law_158 : MLV R_law 158 y_Mod_now 0 := ⟨⟨mm8 182 rfl, mm1 12 rfl, cw_Mod_now, ⟨by decide, by decide, by decide +kernel⟩, by decide⟩, mm8 183 rfl, mm8 184 rfl⟩
theorem ml_law_159 : MLV R_law 159 y_BC_tellsMost 0 := ⟨⟨mm5 199 rfl, mm1 1 rfl, cw_BC_tellsMost, ⟨by decide, by decide, by decide +kernel⟩, by decide⟩, mm5 200 rfl, mm5 201 rfl⟩
theorem ml_law_162 : MLV R_law 162 y_Mod_tellsMost 0 := ⟨⟨mm8 190 rfl, mm1 12 rfl, cw_Mod_tellsMost, ⟨by decide, by decide, by decide +kernel⟩, by decide⟩, mm8 191 rfl, mm8 192 rfl⟩
theorem ml_law_163 : MLV R_law 163 y_BC_keys 1 := ⟨⟨mm5 206 rfl, mm1 1 rfl, cw_BC_keys, ⟨by decide, by decide, by decide +kernel⟩, by decide⟩, mm5 207 rfl, mm5 208 rfl⟩
theorem ml_law_166 : MLV R_law 166 y_Mod_keys 1 := ⟨⟨mm8 194 rfl, mm1 12 rfl, cw_Mod_keys, ⟨by decide, by decide, by decide +kernel⟩, by decide⟩, mm8 195 rfl, mm8 196 rfl⟩
theorem ml_law_167 : MLV R_law 167 y_BC_keyAt 2 := ⟨⟨mm6 13 rfl, mm1 1 rfl, cw_BC_keyAt, ⟨by decide, by decide, by decide +kernel⟩, by decide⟩, mm6 14 rfl, mm6 15 rfl⟩
theorem ml_law_170 : MLV R_law 170 y_Mod_keyAt 2 := ⟨⟨mm8 216 rfl, mm1 12 rfl, cw_Mod_keyAt, ⟨by decide, by decide, by decide +kernel⟩, by decide⟩, mm8 217 rfl, mm8 218 rfl⟩
theorem ml_law_171 : MLV R_law 171 y_BC_place 2 := ⟨⟨mm6 27 rfl, mm1 1 rfl, cw_BC_place, ⟨by decide, by decide, by decide +kernel⟩, by decide⟩, mm6 28 rfl, mm6 29 rfl⟩
theorem ml_law_174 : MLV R_law 174 y_Mod_place 2 := ⟨⟨mm8 220 rfl, mm1 12 rfl, cw_Mod_place, ⟨by decide, by decide, by decide +kernel⟩, by decide⟩, mm8 221 rfl, mm8 222 rfl⟩
theorem ml_law_175 : MLV R_law 175 y_BC_plain 3 := ⟨⟨mm6 51 rfl, mm1 1 rfl, cw_BC_plain, ⟨by decide, by decide, by decide +kernel⟩, by decide⟩, mm6 52 rfl, mm6 53 rfl⟩
theorem ml_law_178 : MLV R_law 178 y_Mod_plain 3 := ⟨⟨mm8 229 rfl, mm1 12 rfl, cw_Mod_plain, ⟨by decide, by decide, by decide +kernel⟩, by decide⟩, mm8 230 rfl, mm8 231 rfl⟩
theorem ml_law_179 : MLV R_law 179 y_BC_look 1 := ⟨⟨mm6 64 rfl, mm1 1 rfl, cw_BC_look, ⟨by decide, by decide, by decide +kernel⟩, by decide⟩, mm6 65 rfl, mm6 66 rfl⟩
theorem ml_law_182 : MLV R_law 182 y_Mod_look 1 := ⟨⟨mm8 233 rfl, mm1 12 rfl, cw_Mod_look, ⟨by decide, by decide, by decide +kernel⟩, by decide⟩, mm8 234 rfl, mm8 235 rfl⟩
theorem ml_law_183 : MLV R_law 183 y_BC_numbers 3 := ⟨⟨mm6 76 rfl, mm1 1 rfl, cw_BC_numbers, ⟨by decide, by decide, by decide +kernel⟩, by decide⟩, mm6 77 rfl, mm6 78 rfl⟩
theorem ml_law_186 : MLV R_law 186 y_Mod_numbers 3 := ⟨⟨mm8 237 rfl, mm1 12 rfl, cw_Mod_numbers, ⟨by decide, by decide, by decide +kernel⟩, by decide⟩, mm8 238 rfl, mm8 239 rfl⟩
theorem ml_law_189 : MLV R_law 189 y_BC_write 3 := ⟨⟨mm6 87 rfl, mm1 1 rfl, cw_BC_write, ⟨by decide, by decide, by decide +kernel⟩, by decide⟩, mm6 88 rfl, mm6 89 rfl⟩
theorem ml_law_193 : MLV R_law 193 y_Mod_write 3 := ⟨⟨mm9 1 rfl, mm1 12 rfl, cw_Mod_write, ⟨by decide, by decide, by decide +kernel⟩, by decide⟩, mm9 2 rfl, mm9 3 rfl⟩
theorem ml_law_194 : MLV R_law 194 y_BC_lists 1 := ⟨⟨mm6 92 rfl, mm1 1 rfl, cw_BC_lists, ⟨by decide, by decide, by decide +kernel⟩, by decide⟩, mm6 93 rfl, mm6 94 rfl⟩
theorem ml_law_197 : MLV R_law 197 y_Mod_lists 1 := ⟨⟨mm9 9 rfl, mm1 12 rfl, cw_Mod_lists, ⟨by decide, by decide, by decide +kernel⟩, by decide⟩, mm9 10 rfl, mm9 11 rfl⟩
theorem ml_law_198 : MLV R_law 198 y_BC_image 1 := ⟨⟨mm6 96 rfl, mm1 1 rfl, cw_BC_image, ⟨by decide, by decide, by decide +kernel⟩, by decide⟩, mm6 97 rfl, mm6 98 rfl⟩
theorem ml_law_201 : MLV R_law 201 y_Mod_image 1 := ⟨⟨mm9 13 rfl, mm1 12 rfl, cw_Mod_image, ⟨by decide, by decide, by decide +kernel⟩, by decide⟩, mm9 14 rfl, mm9 15 rfl⟩
theorem ml_law_202 : MLV R_law 202 y_BC_restore 1 := ⟨⟨mm6 100 rfl, mm1 1 rfl, cw_BC_restore, ⟨by decide, by decide, by decide +kernel⟩, by decide⟩, mm6 101 rfl, mm6 102 rfl⟩
theorem ml_law_205 : MLV R_law 205 y_Mod_restore 1 := ⟨⟨mm9 17 rfl, mm1 12 rfl, cw_Mod_restore, ⟨by decide, by decide, by decide +kernel⟩, by decide⟩, mm9 18 rfl, mm9 19 rfl⟩
theorem ml_law_206 : MLV R_law 206 y_BC_count 1 := ⟨⟨mm6 104 rfl, mm1 1 rfl, cw_BC_count, ⟨by decide, by decide, by decide +kernel⟩, by decide⟩, mm6 105 rfl, mm6 106 rfl⟩
theorem ml_law_209 : MLV R_law 209 y_Mod_count 1 := ⟨⟨mm9 21 rfl, mm1 12 rfl, cw_Mod_count, ⟨by decide, by decide, by decide +kernel⟩, by decide⟩, mm9 22 rfl, mm9 23 rfl⟩
section ZLC
variable {E : EN} {p : Program} {e : Env} {s : State} {m : MethodId} {below : List Frame} {meth : Method} {c : Code} {b kc ks : Nat} {pc : Nat} {i : Int} {st : List AV} {σ : Mem}
theorem CI.zl {Yc : MI} {as : List AV} {dc : Nat} (k : CI E Yc dc as σ (fun x τ => ZL E p e s m below meth c b kc ks pc i (vi x :: st) τ)) : Cc E Yc dc as σ (fun r τ => ZL E p e s m below meth c b kc ks pc i (r.toList ++ st) τ) := Cc.mono (fun r τ h => by obtain ⟨x, rfl, h⟩ := h; exact h) k
theorem CL.zl {Yc : MI} {as : List AV} {dc : Nat} (k : CL E Yc dc as σ (fun x τ => ZL E p e s m below meth c b kc ks pc i (vl x :: st) τ)) : Cc E Yc dc as σ (fun r τ => ZL E p e s m below meth c b kc ks pc i (r.toList ++ st) τ) := Cc.mono (fun r τ h => by obtain ⟨x, rfl, h⟩ := h; exact h) k
end ZLC
theorem zrn {E : EN} {p : Program} {e : Env} {s : State} {m : MethodId} {below : List Frame} {meth : Method} {c : Code} {b kc ks : Nat} {pc : Nat} {i : Int} {st : List AV} {σ : Mem} {P : Prop} (_ : P) (k : Rng σ → ZL E p e s m below meth c b kc ks pc i st σ) : ZL E p e s m below meth c b kc ks pc i st σ := fun H locs ls hP hS hR hs hl => k hR H locs ls hP hS hR hs hl
theorem lc_0 {E : EN} {p : Program} {e : Env} {s : State} {m : MethodId} {below : List Frame} {meth : Method} {c : Code} {b Ls kc ks : Nat} {xs : Nat → Int32} {i : Int} {σ : Mem} (F : LX E p s m meth c b Ls xs) (hi : 0 ≤ i ∧ i + 6 ≤ Ls) (hkc : kc ≤ 600000 ∧ ks ≤ 7302250) (k : CI E y_BC_feed 400 [vr 0, vi (scr xs (i + 1)), vi (scr xs (i + 2)), vi (scr xs (i + 3)), vi (scr xs (i + 4)), vi (scr xs (i + 5))] σ (fun x τ => CI E y_Mod_feed 400 [vr 115, vi (scr xs (i + 1)), vi (scr xs (i + 2)), vi (scr xs (i + 3)), vi (scr xs (i + 4)), vi (scr xs (i + 5))] τ (fun y υ => x = y ∧ ZL E p e s m below meth c b kc ks 1519 i [] υ))) : ZL E p e s m below meth c b kc ks 236 i [] σ := by
  have hL := F.2.2.2.2.2.2.2.2.2.2.2.2.2
  have hi3 : i32 i := ⟨by omega, by omega⟩
  refine zl_a1 (pc := 236) F (by decide +kernel) ?_
  refine zl_a0 (pc := 237) F (by decide +kernel) ?_
  refine zl_i3 (pc := 238) F hi3 (by decide +kernel) ?_
  refine zl_iconst (pc := 239) (n := 1) F (by decide +kernel) ⟨by decide, by decide⟩ ?_
  refine zl_iadd (pc := 240) F (by decide +kernel) (i + 1) rfl ⟨by omega, by omega⟩ ?_
  refine zl_sld (pc := 241) F ⟨by omega, by omega⟩ (by decide +kernel) ?_
  refine zl_a0 (pc := 242) F (by decide +kernel) ?_
  refine zl_i3 (pc := 243) F hi3 (by decide +kernel) ?_
  refine zl_iconst (pc := 244) (n := 2) F (by decide +kernel) ⟨by decide, by decide⟩ ?_
  refine zl_iadd (pc := 245) F (by decide +kernel) (i + 2) rfl ⟨by omega, by omega⟩ ?_
  refine zl_sld (pc := 246) F ⟨by omega, by omega⟩ (by decide +kernel) ?_
  refine zl_a0 (pc := 247) F (by decide +kernel) ?_
  refine zl_i3 (pc := 248) F hi3 (by decide +kernel) ?_
  refine zl_iconst (pc := 249) (n := 3) F (by decide +kernel) ⟨by decide, by decide⟩ ?_
  refine zl_iadd (pc := 250) F (by decide +kernel) (i + 3) rfl ⟨by omega, by omega⟩ ?_
  refine zl_sld (pc := 251) F ⟨by omega, by omega⟩ (by decide +kernel) ?_
  refine zl_a0 (pc := 252) F (by decide +kernel) ?_
  refine zl_i3 (pc := 253) F hi3 (by decide +kernel) ?_
  refine zl_iconst (pc := 254) (n := 4) F (by decide +kernel) ⟨by decide, by decide⟩ ?_
  refine zl_iadd (pc := 255) F (by decide +kernel) (i + 4) rfl ⟨by omega, by omega⟩ ?_
  refine zl_sld (pc := 256) F ⟨by omega, by omega⟩ (by decide +kernel) ?_
  refine zl_a0 (pc := 257) F (by decide +kernel) ?_
  refine zl_i3 (pc := 258) F hi3 (by decide +kernel) ?_
  refine zl_iconst (pc := 259) (n := 5) F (by decide +kernel) ⟨by decide, by decide⟩ ?_
  refine zl_iadd (pc := 260) F (by decide +kernel) (i + 5) rfl ⟨by omega, by omega⟩ ?_
  refine zl_sld (pc := 261) F ⟨by omega, by omega⟩ (by decide +kernel) ?_
  refine zl_call (pc := 262) (as := [vi (scr xs (i + 1)), vi (scr xs (i + 2)), vi (scr xs (i + 3)), vi (scr xs (i + 4)), vi (scr xs (i + 5))]) F ml_law_13 rfl ⟨rfl, by decide⟩ rfl rfl (Nat.le_of_ble_eq_true rfl) (dc := 400) (by decide) hkc (by decide +kernel) (CI.zl (CI.mono (fun x τ k => ?_) k))
  refine zl_a2 (pc := 265) F (by decide +kernel) ?_
  refine zl_a0 (pc := 266) F (by decide +kernel) ?_
  refine zl_i3 (pc := 267) F hi3 (by decide +kernel) ?_
  refine zl_iconst (pc := 268) (n := 1) F (by decide +kernel) ⟨by decide, by decide⟩ ?_
  refine zl_iadd (pc := 269) F (by decide +kernel) (i + 1) rfl ⟨by omega, by omega⟩ ?_
  refine zl_sld (pc := 270) F ⟨by omega, by omega⟩ (by decide +kernel) ?_
  refine zl_a0 (pc := 271) F (by decide +kernel) ?_
  refine zl_i3 (pc := 272) F hi3 (by decide +kernel) ?_
  refine zl_iconst (pc := 273) (n := 2) F (by decide +kernel) ⟨by decide, by decide⟩ ?_
  refine zl_iadd (pc := 274) F (by decide +kernel) (i + 2) rfl ⟨by omega, by omega⟩ ?_
  refine zl_sld (pc := 275) F ⟨by omega, by omega⟩ (by decide +kernel) ?_
  refine zl_a0 (pc := 276) F (by decide +kernel) ?_
  refine zl_i3 (pc := 277) F hi3 (by decide +kernel) ?_
  refine zl_iconst (pc := 278) (n := 3) F (by decide +kernel) ⟨by decide, by decide⟩ ?_
  refine zl_iadd (pc := 279) F (by decide +kernel) (i + 3) rfl ⟨by omega, by omega⟩ ?_
  refine zl_sld (pc := 280) F ⟨by omega, by omega⟩ (by decide +kernel) ?_
  refine zl_a0 (pc := 281) F (by decide +kernel) ?_
  refine zl_i3 (pc := 282) F hi3 (by decide +kernel) ?_
  refine zl_iconst (pc := 283) (n := 4) F (by decide +kernel) ⟨by decide, by decide⟩ ?_
  refine zl_iadd (pc := 284) F (by decide +kernel) (i + 4) rfl ⟨by omega, by omega⟩ ?_
  refine zl_sld (pc := 285) F ⟨by omega, by omega⟩ (by decide +kernel) ?_
  refine zl_a0 (pc := 286) F (by decide +kernel) ?_
  refine zl_i3 (pc := 287) F hi3 (by decide +kernel) ?_
  refine zl_iconst (pc := 288) (n := 5) F (by decide +kernel) ⟨by decide, by decide⟩ ?_
  refine zl_iadd (pc := 289) F (by decide +kernel) (i + 5) rfl ⟨by omega, by omega⟩ ?_
  refine zl_sld (pc := 290) F ⟨by omega, by omega⟩ (by decide +kernel) ?_
  refine zl_call (pc := 291) (as := [vi (scr xs (i + 1)), vi (scr xs (i + 2)), vi (scr xs (i + 3)), vi (scr xs (i + 4)), vi (scr xs (i + 5))]) F ml_law_17 rfl ⟨rfl, by decide⟩ rfl rfl (Nat.le_of_ble_eq_true rfl) (dc := 400) (by decide) hkc (by decide +kernel) (CI.zl (CI.mono (fun y υ k => ?_) k))
  obtain ⟨rfl, k⟩ := k
  exact zl_eq (pc := 294) (off := 1225) 1519 F (by decide +kernel) (by decide) k
theorem lc_1 {E : EN} {p : Program} {e : Env} {s : State} {m : MethodId} {below : List Frame} {meth : Method} {c : Code} {b Ls kc ks : Nat} {xs : Nat → Int32} {i : Int} {σ : Mem} (F : LX E p s m meth c b Ls xs) (hi : 0 ≤ i ∧ i + 6 ≤ Ls) (hkc : kc ≤ 600000 ∧ ks ≤ 7302250) (k : CI E y_BC_room 400 [vr 0, vi (scr xs (i + 1))] σ (fun x τ => CI E y_Mod_room 400 [vr 115, vi (scr xs (i + 1))] τ (fun y υ => x = y ∧ ZL E p e s m below meth c b kc ks 1519 i [] υ))) : ZL E p e s m below meth c b kc ks 299 i [] σ := by
  have hL := F.2.2.2.2.2.2.2.2.2.2.2.2.2
  have hi3 : i32 i := ⟨by omega, by omega⟩
  refine zl_a1 (pc := 299) F (by decide +kernel) ?_
  refine zl_a0 (pc := 300) F (by decide +kernel) ?_
  refine zl_i3 (pc := 301) F hi3 (by decide +kernel) ?_
  refine zl_iconst (pc := 302) (n := 1) F (by decide +kernel) ⟨by decide, by decide⟩ ?_
  refine zl_iadd (pc := 303) F (by decide +kernel) (i + 1) rfl ⟨by omega, by omega⟩ ?_
  refine zl_sld (pc := 304) F ⟨by omega, by omega⟩ (by decide +kernel) ?_
  refine zl_call (pc := 305) (as := [vi (scr xs (i + 1))]) F ml_law_18 rfl ⟨rfl, by decide⟩ rfl rfl (Nat.le_of_ble_eq_true rfl) (dc := 400) (by decide) hkc (by decide +kernel) (CI.zl (CI.mono (fun x τ k => ?_) k))
  refine zl_a2 (pc := 308) F (by decide +kernel) ?_
  refine zl_a0 (pc := 309) F (by decide +kernel) ?_
  refine zl_i3 (pc := 310) F hi3 (by decide +kernel) ?_
  refine zl_iconst (pc := 311) (n := 1) F (by decide +kernel) ⟨by decide, by decide⟩ ?_
  refine zl_iadd (pc := 312) F (by decide +kernel) (i + 1) rfl ⟨by omega, by omega⟩ ?_
  refine zl_sld (pc := 313) F ⟨by omega, by omega⟩ (by decide +kernel) ?_
  refine zl_call (pc := 314) (as := [vi (scr xs (i + 1))]) F ml_law_22 rfl ⟨rfl, by decide⟩ rfl rfl (Nat.le_of_ble_eq_true rfl) (dc := 400) (by decide) hkc (by decide +kernel) (CI.zl (CI.mono (fun y υ k => ?_) k))
  obtain ⟨rfl, k⟩ := k
  exact zl_eq (pc := 317) (off := 1202) 1519 F (by decide +kernel) (by decide) k
theorem lc_2 {E : EN} {p : Program} {e : Env} {s : State} {m : MethodId} {below : List Frame} {meth : Method} {c : Code} {b Ls kc ks : Nat} {xs : Nat → Int32} {i : Int} {σ : Mem} (F : LX E p s m meth c b Ls xs) (hi : 0 ≤ i ∧ i + 6 ≤ Ls) (hkc : kc ≤ 600000 ∧ ks ≤ 7302250) (k : CI E y_BC_fault 400 [vr 0, vi (scr xs (i + 1))] σ (fun x τ => CI E y_Mod_fault 400 [vr 115, vi (scr xs (i + 1))] τ (fun y υ => x = y ∧ ZL E p e s m below meth c b kc ks 1519 i [] υ))) : ZL E p e s m below meth c b kc ks 322 i [] σ := by
  have hL := F.2.2.2.2.2.2.2.2.2.2.2.2.2
  have hi3 : i32 i := ⟨by omega, by omega⟩
  refine zl_a1 (pc := 322) F (by decide +kernel) ?_
  refine zl_a0 (pc := 323) F (by decide +kernel) ?_
  refine zl_i3 (pc := 324) F hi3 (by decide +kernel) ?_
  refine zl_iconst (pc := 325) (n := 1) F (by decide +kernel) ⟨by decide, by decide⟩ ?_
  refine zl_iadd (pc := 326) F (by decide +kernel) (i + 1) rfl ⟨by omega, by omega⟩ ?_
  refine zl_sld (pc := 327) F ⟨by omega, by omega⟩ (by decide +kernel) ?_
  refine zl_call (pc := 328) (as := [vi (scr xs (i + 1))]) F ml_law_23 rfl ⟨rfl, by decide⟩ rfl rfl (Nat.le_of_ble_eq_true rfl) (dc := 400) (by decide) hkc (by decide +kernel) (CI.zl (CI.mono (fun x τ k => ?_) k))
  refine zl_a2 (pc := 331) F (by decide +kernel) ?_
  refine zl_a0 (pc := 332) F (by decide +kernel) ?_
  refine zl_i3 (pc := 333) F hi3 (by decide +kernel) ?_
  refine zl_iconst (pc := 334) (n := 1) F (by decide +kernel) ⟨by decide, by decide⟩ ?_
  refine zl_iadd (pc := 335) F (by decide +kernel) (i + 1) rfl ⟨by omega, by omega⟩ ?_
  refine zl_sld (pc := 336) F ⟨by omega, by omega⟩ (by decide +kernel) ?_
  refine zl_call (pc := 337) (as := [vi (scr xs (i + 1))]) F ml_law_26 rfl ⟨rfl, by decide⟩ rfl rfl (Nat.le_of_ble_eq_true rfl) (dc := 400) (by decide) hkc (by decide +kernel) (CI.zl (CI.mono (fun y υ k => ?_) k))
  obtain ⟨rfl, k⟩ := k
  exact zl_eq (pc := 340) (off := 1179) 1519 F (by decide +kernel) (by decide) k
theorem lc_3 {E : EN} {p : Program} {e : Env} {s : State} {m : MethodId} {below : List Frame} {meth : Method} {c : Code} {b Ls kc ks : Nat} {xs : Nat → Int32} {i : Int} {σ : Mem} (F : LX E p s m meth c b Ls xs) (hi : 0 ≤ i ∧ i + 6 ≤ Ls) (hkc : kc ≤ 600000 ∧ ks ≤ 7302250) (k : CI E y_BC_letter 400 [vr 0, vi (scr xs (i + 1)), vi (scr xs (i + 2))] σ (fun x τ => CI E y_Mod_letter 400 [vr 115, vi (scr xs (i + 1)), vi (scr xs (i + 2))] τ (fun y υ => x = y ∧ ZL E p e s m below meth c b kc ks 1519 i [] υ))) : ZL E p e s m below meth c b kc ks 345 i [] σ := by
  have hL := F.2.2.2.2.2.2.2.2.2.2.2.2.2
  have hi3 : i32 i := ⟨by omega, by omega⟩
  refine zl_a1 (pc := 345) F (by decide +kernel) ?_
  refine zl_a0 (pc := 346) F (by decide +kernel) ?_
  refine zl_i3 (pc := 347) F hi3 (by decide +kernel) ?_
  refine zl_iconst (pc := 348) (n := 1) F (by decide +kernel) ⟨by decide, by decide⟩ ?_
  refine zl_iadd (pc := 349) F (by decide +kernel) (i + 1) rfl ⟨by omega, by omega⟩ ?_
  refine zl_sld (pc := 350) F ⟨by omega, by omega⟩ (by decide +kernel) ?_
  refine zl_a0 (pc := 351) F (by decide +kernel) ?_
  refine zl_i3 (pc := 352) F hi3 (by decide +kernel) ?_
  refine zl_iconst (pc := 353) (n := 2) F (by decide +kernel) ⟨by decide, by decide⟩ ?_
  refine zl_iadd (pc := 354) F (by decide +kernel) (i + 2) rfl ⟨by omega, by omega⟩ ?_
  refine zl_sld (pc := 355) F ⟨by omega, by omega⟩ (by decide +kernel) ?_
  refine zl_call (pc := 356) (as := [vi (scr xs (i + 1)), vi (scr xs (i + 2))]) F ml_law_27 rfl ⟨rfl, by decide⟩ rfl rfl (Nat.le_of_ble_eq_true rfl) (dc := 400) (by decide) hkc (by decide +kernel) (CI.zl (CI.mono (fun x τ k => ?_) k))
  refine zl_a2 (pc := 359) F (by decide +kernel) ?_
  refine zl_a0 (pc := 360) F (by decide +kernel) ?_
  refine zl_i3 (pc := 361) F hi3 (by decide +kernel) ?_
  refine zl_iconst (pc := 362) (n := 1) F (by decide +kernel) ⟨by decide, by decide⟩ ?_
  refine zl_iadd (pc := 363) F (by decide +kernel) (i + 1) rfl ⟨by omega, by omega⟩ ?_
  refine zl_sld (pc := 364) F ⟨by omega, by omega⟩ (by decide +kernel) ?_
  refine zl_a0 (pc := 365) F (by decide +kernel) ?_
  refine zl_i3 (pc := 366) F hi3 (by decide +kernel) ?_
  refine zl_iconst (pc := 367) (n := 2) F (by decide +kernel) ⟨by decide, by decide⟩ ?_
  refine zl_iadd (pc := 368) F (by decide +kernel) (i + 2) rfl ⟨by omega, by omega⟩ ?_
  refine zl_sld (pc := 369) F ⟨by omega, by omega⟩ (by decide +kernel) ?_
  refine zl_call (pc := 370) (as := [vi (scr xs (i + 1)), vi (scr xs (i + 2))]) F ml_law_31 rfl ⟨rfl, by decide⟩ rfl rfl (Nat.le_of_ble_eq_true rfl) (dc := 400) (by decide) hkc (by decide +kernel) (CI.zl (CI.mono (fun y υ k => ?_) k))
  obtain ⟨rfl, k⟩ := k
  exact zl_eq (pc := 373) (off := 1146) 1519 F (by decide +kernel) (by decide) k
theorem lc_4 {E : EN} {p : Program} {e : Env} {s : State} {m : MethodId} {below : List Frame} {meth : Method} {c : Code} {b Ls kc ks : Nat} {xs : Nat → Int32} {i : Int} {σ : Mem} (F : LX E p s m meth c b Ls xs) (hi : 0 ≤ i ∧ i + 6 ≤ Ls) (hkc : kc ≤ 600000 ∧ ks ≤ 7302250) (k : CI E y_BC_hand 400 [vr 0, vi (scr xs (i + 1)), vi (scr xs (i + 2))] σ (fun x τ => CI E y_Mod_hand 400 [vr 115, vi (scr xs (i + 1)), vi (scr xs (i + 2))] τ (fun y υ => x = y ∧ ZL E p e s m below meth c b kc ks 1519 i [] υ))) : ZL E p e s m below meth c b kc ks 378 i [] σ := by
  have hL := F.2.2.2.2.2.2.2.2.2.2.2.2.2
  have hi3 : i32 i := ⟨by omega, by omega⟩
  refine zl_a1 (pc := 378) F (by decide +kernel) ?_
  refine zl_a0 (pc := 379) F (by decide +kernel) ?_
  refine zl_i3 (pc := 380) F hi3 (by decide +kernel) ?_
  refine zl_iconst (pc := 381) (n := 1) F (by decide +kernel) ⟨by decide, by decide⟩ ?_
  refine zl_iadd (pc := 382) F (by decide +kernel) (i + 1) rfl ⟨by omega, by omega⟩ ?_
  refine zl_sld (pc := 383) F ⟨by omega, by omega⟩ (by decide +kernel) ?_
  refine zl_a0 (pc := 384) F (by decide +kernel) ?_
  refine zl_i3 (pc := 385) F hi3 (by decide +kernel) ?_
  refine zl_iconst (pc := 386) (n := 2) F (by decide +kernel) ⟨by decide, by decide⟩ ?_
  refine zl_iadd (pc := 387) F (by decide +kernel) (i + 2) rfl ⟨by omega, by omega⟩ ?_
  refine zl_sld (pc := 388) F ⟨by omega, by omega⟩ (by decide +kernel) ?_
  refine zl_call (pc := 389) (as := [vi (scr xs (i + 1)), vi (scr xs (i + 2))]) F ml_law_32 rfl ⟨rfl, by decide⟩ rfl rfl (Nat.le_of_ble_eq_true rfl) (dc := 400) (by decide) hkc (by decide +kernel) (CI.zl (CI.mono (fun x τ k => ?_) k))
  refine zl_a2 (pc := 392) F (by decide +kernel) ?_
  refine zl_a0 (pc := 393) F (by decide +kernel) ?_
  refine zl_i3 (pc := 394) F hi3 (by decide +kernel) ?_
  refine zl_iconst (pc := 395) (n := 1) F (by decide +kernel) ⟨by decide, by decide⟩ ?_
  refine zl_iadd (pc := 396) F (by decide +kernel) (i + 1) rfl ⟨by omega, by omega⟩ ?_
  refine zl_sld (pc := 397) F ⟨by omega, by omega⟩ (by decide +kernel) ?_
  refine zl_a0 (pc := 398) F (by decide +kernel) ?_
  refine zl_i3 (pc := 399) F hi3 (by decide +kernel) ?_
  refine zl_iconst (pc := 400) (n := 2) F (by decide +kernel) ⟨by decide, by decide⟩ ?_
  refine zl_iadd (pc := 401) F (by decide +kernel) (i + 2) rfl ⟨by omega, by omega⟩ ?_
  refine zl_sld (pc := 402) F ⟨by omega, by omega⟩ (by decide +kernel) ?_
  refine zl_call (pc := 403) (as := [vi (scr xs (i + 1)), vi (scr xs (i + 2))]) F ml_law_35 rfl ⟨rfl, by decide⟩ rfl rfl (Nat.le_of_ble_eq_true rfl) (dc := 400) (by decide) hkc (by decide +kernel) (CI.zl (CI.mono (fun y υ k => ?_) k))
  obtain ⟨rfl, k⟩ := k
  exact zl_eq (pc := 406) (off := 1113) 1519 F (by decide +kernel) (by decide) k
theorem lc_5 {E : EN} {p : Program} {e : Env} {s : State} {m : MethodId} {below : List Frame} {meth : Method} {c : Code} {b Ls kc ks : Nat} {xs : Nat → Int32} {i : Int} {σ : Mem} (F : LX E p s m meth c b Ls xs) (hi : 0 ≤ i ∧ i + 6 ≤ Ls) (hkc : kc ≤ 600000 ∧ ks ≤ 7302250) (k : CI E y_BC_court 400 [vr 0, vi (scr xs (i + 1))] σ (fun x τ => CI E y_Mod_court 400 [vr 115, vi (scr xs (i + 1))] τ (fun y υ => x = y ∧ ZL E p e s m below meth c b kc ks 1519 i [] υ))) : ZL E p e s m below meth c b kc ks 411 i [] σ := by
  have hL := F.2.2.2.2.2.2.2.2.2.2.2.2.2
  have hi3 : i32 i := ⟨by omega, by omega⟩
  refine zl_a1 (pc := 411) F (by decide +kernel) ?_
  refine zl_a0 (pc := 412) F (by decide +kernel) ?_
  refine zl_i3 (pc := 413) F hi3 (by decide +kernel) ?_
  refine zl_iconst (pc := 414) (n := 1) F (by decide +kernel) ⟨by decide, by decide⟩ ?_
  refine zl_iadd (pc := 415) F (by decide +kernel) (i + 1) rfl ⟨by omega, by omega⟩ ?_
  refine zl_sld (pc := 416) F ⟨by omega, by omega⟩ (by decide +kernel) ?_
  refine zl_call (pc := 417) (as := [vi (scr xs (i + 1))]) F ml_law_36 rfl ⟨rfl, by decide⟩ rfl rfl (Nat.le_of_ble_eq_true rfl) (dc := 400) (by decide) hkc (by decide +kernel) (CI.zl (CI.mono (fun x τ k => ?_) k))
  refine zl_a2 (pc := 420) F (by decide +kernel) ?_
  refine zl_a0 (pc := 421) F (by decide +kernel) ?_
  refine zl_i3 (pc := 422) F hi3 (by decide +kernel) ?_
  refine zl_iconst (pc := 423) (n := 1) F (by decide +kernel) ⟨by decide, by decide⟩ ?_
  refine zl_iadd (pc := 424) F (by decide +kernel) (i + 1) rfl ⟨by omega, by omega⟩ ?_
  refine zl_sld (pc := 425) F ⟨by omega, by omega⟩ (by decide +kernel) ?_
  refine zl_call (pc := 426) (as := [vi (scr xs (i + 1))]) F ml_law_39 rfl ⟨rfl, by decide⟩ rfl rfl (Nat.le_of_ble_eq_true rfl) (dc := 400) (by decide) hkc (by decide +kernel) (CI.zl (CI.mono (fun y υ k => ?_) k))
  obtain ⟨rfl, k⟩ := k
  exact zl_eq (pc := 429) (off := 1090) 1519 F (by decide +kernel) (by decide) k
theorem lc_6 {E : EN} {p : Program} {e : Env} {s : State} {m : MethodId} {below : List Frame} {meth : Method} {c : Code} {b Ls kc ks : Nat} {xs : Nat → Int32} {i : Int} {σ : Mem} (F : LX E p s m meth c b Ls xs) (hi : 0 ≤ i ∧ i + 6 ≤ Ls) (hkc : kc ≤ 600000 ∧ ks ≤ 7302250) (k : CI E y_BC_takes 400 [vr 0, vi (scr xs (i + 1)), vi (scr xs (i + 2))] σ (fun x τ => CI E y_Mod_takes 400 [vr 115, vi (scr xs (i + 1)), vi (scr xs (i + 2))] τ (fun y υ => x = y ∧ ZL E p e s m below meth c b kc ks 1519 i [] υ))) : ZL E p e s m below meth c b kc ks 434 i [] σ := by
  have hL := F.2.2.2.2.2.2.2.2.2.2.2.2.2
  have hi3 : i32 i := ⟨by omega, by omega⟩
  refine zl_a1 (pc := 434) F (by decide +kernel) ?_
  refine zl_a0 (pc := 435) F (by decide +kernel) ?_
  refine zl_i3 (pc := 436) F hi3 (by decide +kernel) ?_
  refine zl_iconst (pc := 437) (n := 1) F (by decide +kernel) ⟨by decide, by decide⟩ ?_
  refine zl_iadd (pc := 438) F (by decide +kernel) (i + 1) rfl ⟨by omega, by omega⟩ ?_
  refine zl_sld (pc := 439) F ⟨by omega, by omega⟩ (by decide +kernel) ?_
  refine zl_a0 (pc := 440) F (by decide +kernel) ?_
  refine zl_i3 (pc := 441) F hi3 (by decide +kernel) ?_
  refine zl_iconst (pc := 442) (n := 2) F (by decide +kernel) ⟨by decide, by decide⟩ ?_
  refine zl_iadd (pc := 443) F (by decide +kernel) (i + 2) rfl ⟨by omega, by omega⟩ ?_
  refine zl_sld (pc := 444) F ⟨by omega, by omega⟩ (by decide +kernel) ?_
  refine zl_call (pc := 445) (as := [vi (scr xs (i + 1)), vi (scr xs (i + 2))]) F ml_law_40 rfl ⟨rfl, by decide⟩ rfl rfl (Nat.le_of_ble_eq_true rfl) (dc := 400) (by decide) hkc (by decide +kernel) (CI.zl (CI.mono (fun x τ k => ?_) k))
  refine zl_a2 (pc := 448) F (by decide +kernel) ?_
  refine zl_a0 (pc := 449) F (by decide +kernel) ?_
  refine zl_i3 (pc := 450) F hi3 (by decide +kernel) ?_
  refine zl_iconst (pc := 451) (n := 1) F (by decide +kernel) ⟨by decide, by decide⟩ ?_
  refine zl_iadd (pc := 452) F (by decide +kernel) (i + 1) rfl ⟨by omega, by omega⟩ ?_
  refine zl_sld (pc := 453) F ⟨by omega, by omega⟩ (by decide +kernel) ?_
  refine zl_a0 (pc := 454) F (by decide +kernel) ?_
  refine zl_i3 (pc := 455) F hi3 (by decide +kernel) ?_
  refine zl_iconst (pc := 456) (n := 2) F (by decide +kernel) ⟨by decide, by decide⟩ ?_
  refine zl_iadd (pc := 457) F (by decide +kernel) (i + 2) rfl ⟨by omega, by omega⟩ ?_
  refine zl_sld (pc := 458) F ⟨by omega, by omega⟩ (by decide +kernel) ?_
  refine zl_call (pc := 459) (as := [vi (scr xs (i + 1)), vi (scr xs (i + 2))]) F ml_law_43 rfl ⟨rfl, by decide⟩ rfl rfl (Nat.le_of_ble_eq_true rfl) (dc := 400) (by decide) hkc (by decide +kernel) (CI.zl (CI.mono (fun y υ k => ?_) k))
  obtain ⟨rfl, k⟩ := k
  exact zl_eq (pc := 462) (off := 1057) 1519 F (by decide +kernel) (by decide) k
theorem lc_7 {E : EN} {p : Program} {e : Env} {s : State} {m : MethodId} {below : List Frame} {meth : Method} {c : Code} {b Ls kc ks : Nat} {xs : Nat → Int32} {i : Int} {σ : Mem} (F : LX E p s m meth c b Ls xs) (hi : 0 ≤ i ∧ i + 6 ≤ Ls) (hkc : kc ≤ 600000 ∧ ks ≤ 7302250) (k : CI E y_BC_copies 400 [vr 0, vi (scr xs (i + 1)), vi (scr xs (i + 2))] σ (fun x τ => CI E y_Mod_copies 400 [vr 115, vi (scr xs (i + 1)), vi (scr xs (i + 2))] τ (fun y υ => x = y ∧ ZL E p e s m below meth c b kc ks 1519 i [] υ))) : ZL E p e s m below meth c b kc ks 467 i [] σ := by
  have hL := F.2.2.2.2.2.2.2.2.2.2.2.2.2
  have hi3 : i32 i := ⟨by omega, by omega⟩
  refine zl_a1 (pc := 467) F (by decide +kernel) ?_
  refine zl_a0 (pc := 468) F (by decide +kernel) ?_
  refine zl_i3 (pc := 469) F hi3 (by decide +kernel) ?_
  refine zl_iconst (pc := 470) (n := 1) F (by decide +kernel) ⟨by decide, by decide⟩ ?_
  refine zl_iadd (pc := 471) F (by decide +kernel) (i + 1) rfl ⟨by omega, by omega⟩ ?_
  refine zl_sld (pc := 472) F ⟨by omega, by omega⟩ (by decide +kernel) ?_
  refine zl_a0 (pc := 473) F (by decide +kernel) ?_
  refine zl_i3 (pc := 474) F hi3 (by decide +kernel) ?_
  refine zl_iconst (pc := 475) (n := 2) F (by decide +kernel) ⟨by decide, by decide⟩ ?_
  refine zl_iadd (pc := 476) F (by decide +kernel) (i + 2) rfl ⟨by omega, by omega⟩ ?_
  refine zl_sld (pc := 477) F ⟨by omega, by omega⟩ (by decide +kernel) ?_
  refine zl_call (pc := 478) (as := [vi (scr xs (i + 1)), vi (scr xs (i + 2))]) F ml_law_44 rfl ⟨rfl, by decide⟩ rfl rfl (Nat.le_of_ble_eq_true rfl) (dc := 400) (by decide) hkc (by decide +kernel) (CI.zl (CI.mono (fun x τ k => ?_) k))
  refine zl_a2 (pc := 481) F (by decide +kernel) ?_
  refine zl_a0 (pc := 482) F (by decide +kernel) ?_
  refine zl_i3 (pc := 483) F hi3 (by decide +kernel) ?_
  refine zl_iconst (pc := 484) (n := 1) F (by decide +kernel) ⟨by decide, by decide⟩ ?_
  refine zl_iadd (pc := 485) F (by decide +kernel) (i + 1) rfl ⟨by omega, by omega⟩ ?_
  refine zl_sld (pc := 486) F ⟨by omega, by omega⟩ (by decide +kernel) ?_
  refine zl_a0 (pc := 487) F (by decide +kernel) ?_
  refine zl_i3 (pc := 488) F hi3 (by decide +kernel) ?_
  refine zl_iconst (pc := 489) (n := 2) F (by decide +kernel) ⟨by decide, by decide⟩ ?_
  refine zl_iadd (pc := 490) F (by decide +kernel) (i + 2) rfl ⟨by omega, by omega⟩ ?_
  refine zl_sld (pc := 491) F ⟨by omega, by omega⟩ (by decide +kernel) ?_
  refine zl_call (pc := 492) (as := [vi (scr xs (i + 1)), vi (scr xs (i + 2))]) F ml_law_47 rfl ⟨rfl, by decide⟩ rfl rfl (Nat.le_of_ble_eq_true rfl) (dc := 400) (by decide) hkc (by decide +kernel) (CI.zl (CI.mono (fun y υ k => ?_) k))
  obtain ⟨rfl, k⟩ := k
  exact zl_eq (pc := 495) (off := 1024) 1519 F (by decide +kernel) (by decide) k
theorem lc_8 {E : EN} {p : Program} {e : Env} {s : State} {m : MethodId} {below : List Frame} {meth : Method} {c : Code} {b Ls kc ks : Nat} {xs : Nat → Int32} {i : Int} {σ : Mem} (F : LX E p s m meth c b Ls xs) (hi : 0 ≤ i ∧ i + 6 ≤ Ls) (hkc : kc ≤ 600000 ∧ ks ≤ 7302250) (k : CI E y_BC_name 400 [vr 0, vi (scr xs (i + 1))] σ (fun x τ => CI E y_Mod_name 400 [vr 115, vi (scr xs (i + 1))] τ (fun y υ => x = y ∧ ZL E p e s m below meth c b kc ks 1519 i [] υ))) : ZL E p e s m below meth c b kc ks 500 i [] σ := by
  have hL := F.2.2.2.2.2.2.2.2.2.2.2.2.2
  have hi3 : i32 i := ⟨by omega, by omega⟩
  refine zl_a1 (pc := 500) F (by decide +kernel) ?_
  refine zl_a0 (pc := 501) F (by decide +kernel) ?_
  refine zl_i3 (pc := 502) F hi3 (by decide +kernel) ?_
  refine zl_iconst (pc := 503) (n := 1) F (by decide +kernel) ⟨by decide, by decide⟩ ?_
  refine zl_iadd (pc := 504) F (by decide +kernel) (i + 1) rfl ⟨by omega, by omega⟩ ?_
  refine zl_sld (pc := 505) F ⟨by omega, by omega⟩ (by decide +kernel) ?_
  refine zl_call (pc := 506) (as := [vi (scr xs (i + 1))]) F ml_law_48 rfl ⟨rfl, by decide⟩ rfl rfl (Nat.le_of_ble_eq_true rfl) (dc := 400) (by decide) hkc (by decide +kernel) (CI.zl (CI.mono (fun x τ k => ?_) k))
  refine zl_a2 (pc := 509) F (by decide +kernel) ?_
  refine zl_a0 (pc := 510) F (by decide +kernel) ?_
  refine zl_i3 (pc := 511) F hi3 (by decide +kernel) ?_
  refine zl_iconst (pc := 512) (n := 1) F (by decide +kernel) ⟨by decide, by decide⟩ ?_
  refine zl_iadd (pc := 513) F (by decide +kernel) (i + 1) rfl ⟨by omega, by omega⟩ ?_
  refine zl_sld (pc := 514) F ⟨by omega, by omega⟩ (by decide +kernel) ?_
  refine zl_call (pc := 515) (as := [vi (scr xs (i + 1))]) F ml_law_51 rfl ⟨rfl, by decide⟩ rfl rfl (Nat.le_of_ble_eq_true rfl) (dc := 400) (by decide) hkc (by decide +kernel) (CI.zl (CI.mono (fun y υ k => ?_) k))
  obtain ⟨rfl, k⟩ := k
  exact zl_eq (pc := 518) (off := 1001) 1519 F (by decide +kernel) (by decide) k
theorem lc_9 {E : EN} {p : Program} {e : Env} {s : State} {m : MethodId} {below : List Frame} {meth : Method} {c : Code} {b Ls kc ks : Nat} {xs : Nat → Int32} {i : Int} {σ : Mem} (F : LX E p s m meth c b Ls xs) (hi : 0 ≤ i ∧ i + 6 ≤ Ls) (hkc : kc ≤ 600000 ∧ ks ≤ 7302250) (k : CI E y_BC_seed 400 [vr 0, vi (scr xs (i + 1))] σ (fun x τ => CI E y_Mod_seed 400 [vr 115, vi (scr xs (i + 1))] τ (fun y υ => x = y ∧ ZL E p e s m below meth c b kc ks 1519 i [] υ))) : ZL E p e s m below meth c b kc ks 523 i [] σ := by
  have hL := F.2.2.2.2.2.2.2.2.2.2.2.2.2
  have hi3 : i32 i := ⟨by omega, by omega⟩
  refine zl_a1 (pc := 523) F (by decide +kernel) ?_
  refine zl_a0 (pc := 524) F (by decide +kernel) ?_
  refine zl_i3 (pc := 525) F hi3 (by decide +kernel) ?_
  refine zl_iconst (pc := 526) (n := 1) F (by decide +kernel) ⟨by decide, by decide⟩ ?_
  refine zl_iadd (pc := 527) F (by decide +kernel) (i + 1) rfl ⟨by omega, by omega⟩ ?_
  refine zl_sld (pc := 528) F ⟨by omega, by omega⟩ (by decide +kernel) ?_
  refine zl_call (pc := 529) (as := [vi (scr xs (i + 1))]) F ml_law_52 rfl ⟨rfl, by decide⟩ rfl rfl (Nat.le_of_ble_eq_true rfl) (dc := 400) (by decide) hkc (by decide +kernel) (CI.zl (CI.mono (fun x τ k => ?_) k))
  refine zl_a2 (pc := 532) F (by decide +kernel) ?_
  refine zl_a0 (pc := 533) F (by decide +kernel) ?_
  refine zl_i3 (pc := 534) F hi3 (by decide +kernel) ?_
  refine zl_iconst (pc := 535) (n := 1) F (by decide +kernel) ⟨by decide, by decide⟩ ?_
  refine zl_iadd (pc := 536) F (by decide +kernel) (i + 1) rfl ⟨by omega, by omega⟩ ?_
  refine zl_sld (pc := 537) F ⟨by omega, by omega⟩ (by decide +kernel) ?_
  refine zl_call (pc := 538) (as := [vi (scr xs (i + 1))]) F ml_law_55 rfl ⟨rfl, by decide⟩ rfl rfl (Nat.le_of_ble_eq_true rfl) (dc := 400) (by decide) hkc (by decide +kernel) (CI.zl (CI.mono (fun y υ k => ?_) k))
  obtain ⟨rfl, k⟩ := k
  exact zl_eq (pc := 541) (off := 978) 1519 F (by decide +kernel) (by decide) k
theorem lc_10 {E : EN} {p : Program} {e : Env} {s : State} {m : MethodId} {below : List Frame} {meth : Method} {c : Code} {b Ls kc ks : Nat} {xs : Nat → Int32} {i : Int} {σ : Mem} (F : LX E p s m meth c b Ls xs) (hi : 0 ≤ i ∧ i + 6 ≤ Ls) (hkc : kc ≤ 600000 ∧ ks ≤ 7302250) (k : CI E y_BC_morning 400 [vr 0, vi (scr xs (i + 1))] σ (fun x τ => CI E y_Mod_morning 400 [vr 115, vi (scr xs (i + 1))] τ (fun y υ => x = y ∧ ZL E p e s m below meth c b kc ks 1519 i [] υ))) : ZL E p e s m below meth c b kc ks 546 i [] σ := by
  have hL := F.2.2.2.2.2.2.2.2.2.2.2.2.2
  have hi3 : i32 i := ⟨by omega, by omega⟩
  refine zl_a1 (pc := 546) F (by decide +kernel) ?_
  refine zl_a0 (pc := 547) F (by decide +kernel) ?_
  refine zl_i3 (pc := 548) F hi3 (by decide +kernel) ?_
  refine zl_iconst (pc := 549) (n := 1) F (by decide +kernel) ⟨by decide, by decide⟩ ?_
  refine zl_iadd (pc := 550) F (by decide +kernel) (i + 1) rfl ⟨by omega, by omega⟩ ?_
  refine zl_sld (pc := 551) F ⟨by omega, by omega⟩ (by decide +kernel) ?_
  refine zl_call (pc := 552) (as := [vi (scr xs (i + 1))]) F ml_law_56 rfl ⟨rfl, by decide⟩ rfl rfl (Nat.le_of_ble_eq_true rfl) (dc := 400) (by decide) hkc (by decide +kernel) (CI.zl (CI.mono (fun x τ k => ?_) k))
  refine zl_a2 (pc := 555) F (by decide +kernel) ?_
  refine zl_a0 (pc := 556) F (by decide +kernel) ?_
  refine zl_i3 (pc := 557) F hi3 (by decide +kernel) ?_
  refine zl_iconst (pc := 558) (n := 1) F (by decide +kernel) ⟨by decide, by decide⟩ ?_
  refine zl_iadd (pc := 559) F (by decide +kernel) (i + 1) rfl ⟨by omega, by omega⟩ ?_
  refine zl_sld (pc := 560) F ⟨by omega, by omega⟩ (by decide +kernel) ?_
  refine zl_call (pc := 561) (as := [vi (scr xs (i + 1))]) F ml_law_59 rfl ⟨rfl, by decide⟩ rfl rfl (Nat.le_of_ble_eq_true rfl) (dc := 400) (by decide) hkc (by decide +kernel) (CI.zl (CI.mono (fun y υ k => ?_) k))
  obtain ⟨rfl, k⟩ := k
  exact zl_eq (pc := 564) (off := 955) 1519 F (by decide +kernel) (by decide) k
theorem lc_11 {E : EN} {p : Program} {e : Env} {s : State} {m : MethodId} {below : List Frame} {meth : Method} {c : Code} {b Ls kc ks : Nat} {xs : Nat → Int32} {i : Int} {σ : Mem} (F : LX E p s m meth c b Ls xs) (hi : 0 ≤ i ∧ i + 6 ≤ Ls) (hkc : kc ≤ 600000 ∧ ks ≤ 7302250) (k : CI E y_BC_byRule 400 [vr 0] σ (fun x τ => CI E y_Mod_byRule 400 [vr 115] τ (fun y υ => x = y ∧ ZL E p e s m below meth c b kc ks 1519 i [] υ))) : ZL E p e s m below meth c b kc ks 569 i [] σ := by
  have hL := F.2.2.2.2.2.2.2.2.2.2.2.2.2
  have hi3 : i32 i := ⟨by omega, by omega⟩
  refine zl_a1 (pc := 569) F (by decide +kernel) ?_
  refine zl_call (pc := 570) (as := []) F ml_law_60 rfl ⟨rfl, by decide⟩ rfl rfl (Nat.le_of_ble_eq_true rfl) (dc := 400) (by decide) hkc (by decide +kernel) (CI.zl (CI.mono (fun x τ k => ?_) k))
  refine zl_a2 (pc := 573) F (by decide +kernel) ?_
  refine zl_call (pc := 574) (as := []) F ml_law_64 rfl ⟨rfl, by decide⟩ rfl rfl (Nat.le_of_ble_eq_true rfl) (dc := 400) (by decide) hkc (by decide +kernel) (CI.zl (CI.mono (fun y υ k => ?_) k))
  obtain ⟨rfl, k⟩ := k
  exact zl_eq (pc := 577) (off := 942) 1519 F (by decide +kernel) (by decide) k
theorem lc_12 {E : EN} {p : Program} {e : Env} {s : State} {m : MethodId} {below : List Frame} {meth : Method} {c : Code} {b Ls kc ks : Nat} {xs : Nat → Int32} {i : Int} {σ : Mem} (F : LX E p s m meth c b Ls xs) (hi : 0 ≤ i ∧ i + 6 ≤ Ls) (hkc : kc ≤ 600000 ∧ ks ≤ 7302250) (k : CI E y_BC_sleeps 400 [vr 0, vi (scr xs (i + 1))] σ (fun x τ => CI E y_Mod_sleeps 400 [vr 115, vi (scr xs (i + 1))] τ (fun y υ => x = y ∧ ZL E p e s m below meth c b kc ks 1519 i [] υ))) : ZL E p e s m below meth c b kc ks 582 i [] σ := by
  have hL := F.2.2.2.2.2.2.2.2.2.2.2.2.2
  have hi3 : i32 i := ⟨by omega, by omega⟩
  refine zl_a1 (pc := 582) F (by decide +kernel) ?_
  refine zl_a0 (pc := 583) F (by decide +kernel) ?_
  refine zl_i3 (pc := 584) F hi3 (by decide +kernel) ?_
  refine zl_iconst (pc := 585) (n := 1) F (by decide +kernel) ⟨by decide, by decide⟩ ?_
  refine zl_iadd (pc := 586) F (by decide +kernel) (i + 1) rfl ⟨by omega, by omega⟩ ?_
  refine zl_sld (pc := 587) F ⟨by omega, by omega⟩ (by decide +kernel) ?_
  refine zl_call (pc := 588) (as := [vi (scr xs (i + 1))]) F ml_law_65 rfl ⟨rfl, by decide⟩ rfl rfl (Nat.le_of_ble_eq_true rfl) (dc := 400) (by decide) hkc (by decide +kernel) (CI.zl (CI.mono (fun x τ k => ?_) k))
  refine zl_a2 (pc := 591) F (by decide +kernel) ?_
  refine zl_a0 (pc := 592) F (by decide +kernel) ?_
  refine zl_i3 (pc := 593) F hi3 (by decide +kernel) ?_
  refine zl_iconst (pc := 594) (n := 1) F (by decide +kernel) ⟨by decide, by decide⟩ ?_
  refine zl_iadd (pc := 595) F (by decide +kernel) (i + 1) rfl ⟨by omega, by omega⟩ ?_
  refine zl_sld (pc := 596) F ⟨by omega, by omega⟩ (by decide +kernel) ?_
  refine zl_call (pc := 597) (as := [vi (scr xs (i + 1))]) F ml_law_68 rfl ⟨rfl, by decide⟩ rfl rfl (Nat.le_of_ble_eq_true rfl) (dc := 400) (by decide) hkc (by decide +kernel) (CI.zl (CI.mono (fun y υ k => ?_) k))
  obtain ⟨rfl, k⟩ := k
  exact zl_eq (pc := 600) (off := 919) 1519 F (by decide +kernel) (by decide) k
theorem lc_13 {E : EN} {p : Program} {e : Env} {s : State} {m : MethodId} {below : List Frame} {meth : Method} {c : Code} {b Ls kc ks : Nat} {xs : Nat → Int32} {i : Int} {σ : Mem} (F : LX E p s m meth c b Ls xs) (hi : 0 ≤ i ∧ i + 6 ≤ Ls) (hkc : kc ≤ 600000 ∧ ks ≤ 7302250) (k : CI E y_BC_undo 400 [vr 0, vi (scr xs (i + 1))] σ (fun x τ => CI E y_Mod_undo 400 [vr 115, vi (scr xs (i + 1))] τ (fun y υ => x = y ∧ ZL E p e s m below meth c b kc ks 1519 i [] υ))) : ZL E p e s m below meth c b kc ks 605 i [] σ := by
  have hL := F.2.2.2.2.2.2.2.2.2.2.2.2.2
  have hi3 : i32 i := ⟨by omega, by omega⟩
  refine zl_a1 (pc := 605) F (by decide +kernel) ?_
  refine zl_a0 (pc := 606) F (by decide +kernel) ?_
  refine zl_i3 (pc := 607) F hi3 (by decide +kernel) ?_
  refine zl_iconst (pc := 608) (n := 1) F (by decide +kernel) ⟨by decide, by decide⟩ ?_
  refine zl_iadd (pc := 609) F (by decide +kernel) (i + 1) rfl ⟨by omega, by omega⟩ ?_
  refine zl_sld (pc := 610) F ⟨by omega, by omega⟩ (by decide +kernel) ?_
  refine zl_call (pc := 611) (as := [vi (scr xs (i + 1))]) F ml_law_69 rfl ⟨rfl, by decide⟩ rfl rfl (Nat.le_of_ble_eq_true rfl) (dc := 400) (by decide) hkc (by decide +kernel) (CI.zl (CI.mono (fun x τ k => ?_) k))
  refine zl_a2 (pc := 614) F (by decide +kernel) ?_
  refine zl_a0 (pc := 615) F (by decide +kernel) ?_
  refine zl_i3 (pc := 616) F hi3 (by decide +kernel) ?_
  refine zl_iconst (pc := 617) (n := 1) F (by decide +kernel) ⟨by decide, by decide⟩ ?_
  refine zl_iadd (pc := 618) F (by decide +kernel) (i + 1) rfl ⟨by omega, by omega⟩ ?_
  refine zl_sld (pc := 619) F ⟨by omega, by omega⟩ (by decide +kernel) ?_
  refine zl_call (pc := 620) (as := [vi (scr xs (i + 1))]) F ml_law_72 rfl ⟨rfl, by decide⟩ rfl rfl (Nat.le_of_ble_eq_true rfl) (dc := 400) (by decide) hkc (by decide +kernel) (CI.zl (CI.mono (fun y υ k => ?_) k))
  obtain ⟨rfl, k⟩ := k
  exact zl_eq (pc := 623) (off := 896) 1519 F (by decide +kernel) (by decide) k
theorem lc_14 {E : EN} {p : Program} {e : Env} {s : State} {m : MethodId} {below : List Frame} {meth : Method} {c : Code} {b Ls kc ks : Nat} {xs : Nat → Int32} {i : Int} {σ : Mem} (F : LX E p s m meth c b Ls xs) (hi : 0 ≤ i ∧ i + 6 ≤ Ls) (hkc : kc ≤ 600000 ∧ ks ≤ 7302250) (k : CI E y_BC_judge 400 [vr 0, vi (scr xs (i + 1)), vi (scr xs (i + 2))] σ (fun x τ => CI E y_Mod_judge 400 [vr 115, vi (scr xs (i + 1)), vi (scr xs (i + 2))] τ (fun y υ => x = y ∧ ZL E p e s m below meth c b kc ks 1519 i [] υ))) : ZL E p e s m below meth c b kc ks 628 i [] σ := by
  have hL := F.2.2.2.2.2.2.2.2.2.2.2.2.2
  have hi3 : i32 i := ⟨by omega, by omega⟩
  refine zl_a1 (pc := 628) F (by decide +kernel) ?_
  refine zl_a0 (pc := 629) F (by decide +kernel) ?_
  refine zl_i3 (pc := 630) F hi3 (by decide +kernel) ?_
  refine zl_iconst (pc := 631) (n := 1) F (by decide +kernel) ⟨by decide, by decide⟩ ?_
  refine zl_iadd (pc := 632) F (by decide +kernel) (i + 1) rfl ⟨by omega, by omega⟩ ?_
  refine zl_sld (pc := 633) F ⟨by omega, by omega⟩ (by decide +kernel) ?_
  refine zl_a0 (pc := 634) F (by decide +kernel) ?_
  refine zl_i3 (pc := 635) F hi3 (by decide +kernel) ?_
  refine zl_iconst (pc := 636) (n := 2) F (by decide +kernel) ⟨by decide, by decide⟩ ?_
  refine zl_iadd (pc := 637) F (by decide +kernel) (i + 2) rfl ⟨by omega, by omega⟩ ?_
  refine zl_sld (pc := 638) F ⟨by omega, by omega⟩ (by decide +kernel) ?_
  refine zl_call (pc := 639) (as := [vi (scr xs (i + 1)), vi (scr xs (i + 2))]) F ml_law_73 rfl ⟨rfl, by decide⟩ rfl rfl (Nat.le_of_ble_eq_true rfl) (dc := 400) (by decide) hkc (by decide +kernel) (CI.zl (CI.mono (fun x τ k => ?_) k))
  refine zl_a2 (pc := 642) F (by decide +kernel) ?_
  refine zl_a0 (pc := 643) F (by decide +kernel) ?_
  refine zl_i3 (pc := 644) F hi3 (by decide +kernel) ?_
  refine zl_iconst (pc := 645) (n := 1) F (by decide +kernel) ⟨by decide, by decide⟩ ?_
  refine zl_iadd (pc := 646) F (by decide +kernel) (i + 1) rfl ⟨by omega, by omega⟩ ?_
  refine zl_sld (pc := 647) F ⟨by omega, by omega⟩ (by decide +kernel) ?_
  refine zl_a0 (pc := 648) F (by decide +kernel) ?_
  refine zl_i3 (pc := 649) F hi3 (by decide +kernel) ?_
  refine zl_iconst (pc := 650) (n := 2) F (by decide +kernel) ⟨by decide, by decide⟩ ?_
  refine zl_iadd (pc := 651) F (by decide +kernel) (i + 2) rfl ⟨by omega, by omega⟩ ?_
  refine zl_sld (pc := 652) F ⟨by omega, by omega⟩ (by decide +kernel) ?_
  refine zl_call (pc := 653) (as := [vi (scr xs (i + 1)), vi (scr xs (i + 2))]) F ml_law_76 rfl ⟨rfl, by decide⟩ rfl rfl (Nat.le_of_ble_eq_true rfl) (dc := 400) (by decide) hkc (by decide +kernel) (CI.zl (CI.mono (fun y υ k => ?_) k))
  obtain ⟨rfl, k⟩ := k
  exact zl_eq (pc := 656) (off := 863) 1519 F (by decide +kernel) (by decide) k
theorem lc_15 {E : EN} {p : Program} {e : Env} {s : State} {m : MethodId} {below : List Frame} {meth : Method} {c : Code} {b Ls kc ks : Nat} {xs : Nat → Int32} {i : Int} {σ : Mem} (F : LX E p s m meth c b Ls xs) (hi : 0 ≤ i ∧ i + 6 ≤ Ls) (hkc : kc ≤ 600000 ∧ ks ≤ 7302250) (k : CI E y_BC_perform 400 [vr 0, vi (scr xs (i + 1))] σ (fun x τ => CI E y_Mod_perform 400 [vr 115, vi (scr xs (i + 1))] τ (fun y υ => x = y ∧ ZL E p e s m below meth c b kc ks 1519 i [] υ))) : ZL E p e s m below meth c b kc ks 661 i [] σ := by
  have hL := F.2.2.2.2.2.2.2.2.2.2.2.2.2
  have hi3 : i32 i := ⟨by omega, by omega⟩
  refine zl_a1 (pc := 661) F (by decide +kernel) ?_
  refine zl_a0 (pc := 662) F (by decide +kernel) ?_
  refine zl_i3 (pc := 663) F hi3 (by decide +kernel) ?_
  refine zl_iconst (pc := 664) (n := 1) F (by decide +kernel) ⟨by decide, by decide⟩ ?_
  refine zl_iadd (pc := 665) F (by decide +kernel) (i + 1) rfl ⟨by omega, by omega⟩ ?_
  refine zl_sld (pc := 666) F ⟨by omega, by omega⟩ (by decide +kernel) ?_
  refine zl_call (pc := 667) (as := [vi (scr xs (i + 1))]) F ml_law_77 rfl ⟨rfl, by decide⟩ rfl rfl (Nat.le_of_ble_eq_true rfl) (dc := 400) (by decide) hkc (by decide +kernel) (CI.zl (CI.mono (fun x τ k => ?_) k))
  refine zl_a2 (pc := 670) F (by decide +kernel) ?_
  refine zl_a0 (pc := 671) F (by decide +kernel) ?_
  refine zl_i3 (pc := 672) F hi3 (by decide +kernel) ?_
  refine zl_iconst (pc := 673) (n := 1) F (by decide +kernel) ⟨by decide, by decide⟩ ?_
  refine zl_iadd (pc := 674) F (by decide +kernel) (i + 1) rfl ⟨by omega, by omega⟩ ?_
  refine zl_sld (pc := 675) F ⟨by omega, by omega⟩ (by decide +kernel) ?_
  refine zl_call (pc := 676) (as := [vi (scr xs (i + 1))]) F ml_law_80 rfl ⟨rfl, by decide⟩ rfl rfl (Nat.le_of_ble_eq_true rfl) (dc := 400) (by decide) hkc (by decide +kernel) (CI.zl (CI.mono (fun y υ k => ?_) k))
  obtain ⟨rfl, k⟩ := k
  exact zl_eq (pc := 679) (off := 840) 1519 F (by decide +kernel) (by decide) k
theorem lc_16 {E : EN} {p : Program} {e : Env} {s : State} {m : MethodId} {below : List Frame} {meth : Method} {c : Code} {b Ls kc ks : Nat} {xs : Nat → Int32} {i : Int} {σ : Mem} (F : LX E p s m meth c b Ls xs) (hi : 0 ≤ i ∧ i + 6 ≤ Ls) (hkc : kc ≤ 600000 ∧ ks ≤ 7302250) (k : CI E y_BC_mornings 400 [vr 0, vi (scr xs (i + 1)), vi (scr xs (i + 2))] σ (fun x τ => CI E y_Mod_mornings 400 [vr 115, vi (scr xs (i + 1)), vi (scr xs (i + 2))] τ (fun y υ => x = y ∧ ZL E p e s m below meth c b kc ks 1519 i [] υ))) : ZL E p e s m below meth c b kc ks 684 i [] σ := by
  have hL := F.2.2.2.2.2.2.2.2.2.2.2.2.2
  have hi3 : i32 i := ⟨by omega, by omega⟩
  refine zl_a1 (pc := 684) F (by decide +kernel) ?_
  refine zl_a0 (pc := 685) F (by decide +kernel) ?_
  refine zl_i3 (pc := 686) F hi3 (by decide +kernel) ?_
  refine zl_iconst (pc := 687) (n := 1) F (by decide +kernel) ⟨by decide, by decide⟩ ?_
  refine zl_iadd (pc := 688) F (by decide +kernel) (i + 1) rfl ⟨by omega, by omega⟩ ?_
  refine zl_sld (pc := 689) F ⟨by omega, by omega⟩ (by decide +kernel) ?_
  refine zl_a0 (pc := 690) F (by decide +kernel) ?_
  refine zl_i3 (pc := 691) F hi3 (by decide +kernel) ?_
  refine zl_iconst (pc := 692) (n := 2) F (by decide +kernel) ⟨by decide, by decide⟩ ?_
  refine zl_iadd (pc := 693) F (by decide +kernel) (i + 2) rfl ⟨by omega, by omega⟩ ?_
  refine zl_sld (pc := 694) F ⟨by omega, by omega⟩ (by decide +kernel) ?_
  refine zl_call (pc := 695) (as := [vi (scr xs (i + 1)), vi (scr xs (i + 2))]) F ml_law_81 rfl ⟨rfl, by decide⟩ rfl rfl (Nat.le_of_ble_eq_true rfl) (dc := 400) (by decide) hkc (by decide +kernel) (CI.zl (CI.mono (fun x τ k => ?_) k))
  refine zl_a2 (pc := 698) F (by decide +kernel) ?_
  refine zl_a0 (pc := 699) F (by decide +kernel) ?_
  refine zl_i3 (pc := 700) F hi3 (by decide +kernel) ?_
  refine zl_iconst (pc := 701) (n := 1) F (by decide +kernel) ⟨by decide, by decide⟩ ?_
  refine zl_iadd (pc := 702) F (by decide +kernel) (i + 1) rfl ⟨by omega, by omega⟩ ?_
  refine zl_sld (pc := 703) F ⟨by omega, by omega⟩ (by decide +kernel) ?_
  refine zl_a0 (pc := 704) F (by decide +kernel) ?_
  refine zl_i3 (pc := 705) F hi3 (by decide +kernel) ?_
  refine zl_iconst (pc := 706) (n := 2) F (by decide +kernel) ⟨by decide, by decide⟩ ?_
  refine zl_iadd (pc := 707) F (by decide +kernel) (i + 2) rfl ⟨by omega, by omega⟩ ?_
  refine zl_sld (pc := 708) F ⟨by omega, by omega⟩ (by decide +kernel) ?_
  refine zl_call (pc := 709) (as := [vi (scr xs (i + 1)), vi (scr xs (i + 2))]) F ml_law_84 rfl ⟨rfl, by decide⟩ rfl rfl (Nat.le_of_ble_eq_true rfl) (dc := 400) (by decide) hkc (by decide +kernel) (CI.zl (CI.mono (fun y υ k => ?_) k))
  obtain ⟨rfl, k⟩ := k
  exact zl_eq (pc := 712) (off := 807) 1519 F (by decide +kernel) (by decide) k
theorem lc_17 {E : EN} {p : Program} {e : Env} {s : State} {m : MethodId} {below : List Frame} {meth : Method} {c : Code} {b Ls kc ks : Nat} {xs : Nat → Int32} {i : Int} {σ : Mem} (F : LX E p s m meth c b Ls xs) (hi : 0 ≤ i ∧ i + 6 ≤ Ls) (hkc : kc ≤ 600000 ∧ ks ≤ 7302250) (k : CI E y_BC_row 400 [vr 0, vi (scr xs (i + 1)), vi (scr xs (i + 2))] σ (fun x τ => CI E y_Mod_row 400 [vr 115, vi (scr xs (i + 1)), vi (scr xs (i + 2))] τ (fun y υ => x = y ∧ ZL E p e s m below meth c b kc ks 1519 i [] υ))) : ZL E p e s m below meth c b kc ks 717 i [] σ := by
  have hL := F.2.2.2.2.2.2.2.2.2.2.2.2.2
  have hi3 : i32 i := ⟨by omega, by omega⟩
  refine zl_a1 (pc := 717) F (by decide +kernel) ?_
  refine zl_a0 (pc := 718) F (by decide +kernel) ?_
  refine zl_i3 (pc := 719) F hi3 (by decide +kernel) ?_
  refine zl_iconst (pc := 720) (n := 1) F (by decide +kernel) ⟨by decide, by decide⟩ ?_
  refine zl_iadd (pc := 721) F (by decide +kernel) (i + 1) rfl ⟨by omega, by omega⟩ ?_
  refine zl_sld (pc := 722) F ⟨by omega, by omega⟩ (by decide +kernel) ?_
  refine zl_a0 (pc := 723) F (by decide +kernel) ?_
  refine zl_i3 (pc := 724) F hi3 (by decide +kernel) ?_
  refine zl_iconst (pc := 725) (n := 2) F (by decide +kernel) ⟨by decide, by decide⟩ ?_
  refine zl_iadd (pc := 726) F (by decide +kernel) (i + 2) rfl ⟨by omega, by omega⟩ ?_
  refine zl_sld (pc := 727) F ⟨by omega, by omega⟩ (by decide +kernel) ?_
  refine zl_call (pc := 728) (as := [vi (scr xs (i + 1)), vi (scr xs (i + 2))]) F ml_law_85 rfl ⟨rfl, by decide⟩ rfl rfl (Nat.le_of_ble_eq_true rfl) (dc := 400) (by decide) hkc (by decide +kernel) (CI.zl (CI.mono (fun x τ k => ?_) k))
  refine zl_a2 (pc := 731) F (by decide +kernel) ?_
  refine zl_a0 (pc := 732) F (by decide +kernel) ?_
  refine zl_i3 (pc := 733) F hi3 (by decide +kernel) ?_
  refine zl_iconst (pc := 734) (n := 1) F (by decide +kernel) ⟨by decide, by decide⟩ ?_
  refine zl_iadd (pc := 735) F (by decide +kernel) (i + 1) rfl ⟨by omega, by omega⟩ ?_
  refine zl_sld (pc := 736) F ⟨by omega, by omega⟩ (by decide +kernel) ?_
  refine zl_a0 (pc := 737) F (by decide +kernel) ?_
  refine zl_i3 (pc := 738) F hi3 (by decide +kernel) ?_
  refine zl_iconst (pc := 739) (n := 2) F (by decide +kernel) ⟨by decide, by decide⟩ ?_
  refine zl_iadd (pc := 740) F (by decide +kernel) (i + 2) rfl ⟨by omega, by omega⟩ ?_
  refine zl_sld (pc := 741) F ⟨by omega, by omega⟩ (by decide +kernel) ?_
  refine zl_call (pc := 742) (as := [vi (scr xs (i + 1)), vi (scr xs (i + 2))]) F ml_law_88 rfl ⟨rfl, by decide⟩ rfl rfl (Nat.le_of_ble_eq_true rfl) (dc := 400) (by decide) hkc (by decide +kernel) (CI.zl (CI.mono (fun y υ k => ?_) k))
  obtain ⟨rfl, k⟩ := k
  exact zl_eq (pc := 745) (off := 774) 1519 F (by decide +kernel) (by decide) k
theorem lc_18 {E : EN} {p : Program} {e : Env} {s : State} {m : MethodId} {below : List Frame} {meth : Method} {c : Code} {b Ls kc ks : Nat} {xs : Nat → Int32} {i : Int} {σ : Mem} (F : LX E p s m meth c b Ls xs) (hi : 0 ≤ i ∧ i + 6 ≤ Ls) (hkc : kc ≤ 600000 ∧ ks ≤ 7302250) (k : CI E y_BC_when 400 [vr 0, vi (scr xs (i + 1)), vi (scr xs (i + 2)), vi (scr xs (i + 3))] σ (fun x τ => CI E y_Mod_when 400 [vr 115, vi (scr xs (i + 1)), vi (scr xs (i + 2)), vi (scr xs (i + 3))] τ (fun y υ => x = y ∧ ZL E p e s m below meth c b kc ks 1519 i [] υ))) : ZL E p e s m below meth c b kc ks 750 i [] σ := by
  have hL := F.2.2.2.2.2.2.2.2.2.2.2.2.2
  have hi3 : i32 i := ⟨by omega, by omega⟩
  refine zl_a1 (pc := 750) F (by decide +kernel) ?_
  refine zl_a0 (pc := 751) F (by decide +kernel) ?_
  refine zl_i3 (pc := 752) F hi3 (by decide +kernel) ?_
  refine zl_iconst (pc := 753) (n := 1) F (by decide +kernel) ⟨by decide, by decide⟩ ?_
  refine zl_iadd (pc := 754) F (by decide +kernel) (i + 1) rfl ⟨by omega, by omega⟩ ?_
  refine zl_sld (pc := 755) F ⟨by omega, by omega⟩ (by decide +kernel) ?_
  refine zl_a0 (pc := 756) F (by decide +kernel) ?_
  refine zl_i3 (pc := 757) F hi3 (by decide +kernel) ?_
  refine zl_iconst (pc := 758) (n := 2) F (by decide +kernel) ⟨by decide, by decide⟩ ?_
  refine zl_iadd (pc := 759) F (by decide +kernel) (i + 2) rfl ⟨by omega, by omega⟩ ?_
  refine zl_sld (pc := 760) F ⟨by omega, by omega⟩ (by decide +kernel) ?_
  refine zl_a0 (pc := 761) F (by decide +kernel) ?_
  refine zl_i3 (pc := 762) F hi3 (by decide +kernel) ?_
  refine zl_iconst (pc := 763) (n := 3) F (by decide +kernel) ⟨by decide, by decide⟩ ?_
  refine zl_iadd (pc := 764) F (by decide +kernel) (i + 3) rfl ⟨by omega, by omega⟩ ?_
  refine zl_sld (pc := 765) F ⟨by omega, by omega⟩ (by decide +kernel) ?_
  refine zl_call (pc := 766) (as := [vi (scr xs (i + 1)), vi (scr xs (i + 2)), vi (scr xs (i + 3))]) F ml_law_89 rfl ⟨rfl, by decide⟩ rfl rfl (Nat.le_of_ble_eq_true rfl) (dc := 400) (by decide) hkc (by decide +kernel) (CI.zl (CI.mono (fun x τ k => ?_) k))
  refine zl_a2 (pc := 769) F (by decide +kernel) ?_
  refine zl_a0 (pc := 770) F (by decide +kernel) ?_
  refine zl_i3 (pc := 771) F hi3 (by decide +kernel) ?_
  refine zl_iconst (pc := 772) (n := 1) F (by decide +kernel) ⟨by decide, by decide⟩ ?_
  refine zl_iadd (pc := 773) F (by decide +kernel) (i + 1) rfl ⟨by omega, by omega⟩ ?_
  refine zl_sld (pc := 774) F ⟨by omega, by omega⟩ (by decide +kernel) ?_
  refine zl_a0 (pc := 775) F (by decide +kernel) ?_
  refine zl_i3 (pc := 776) F hi3 (by decide +kernel) ?_
  refine zl_iconst (pc := 777) (n := 2) F (by decide +kernel) ⟨by decide, by decide⟩ ?_
  refine zl_iadd (pc := 778) F (by decide +kernel) (i + 2) rfl ⟨by omega, by omega⟩ ?_
  refine zl_sld (pc := 779) F ⟨by omega, by omega⟩ (by decide +kernel) ?_
  refine zl_a0 (pc := 780) F (by decide +kernel) ?_
  refine zl_i3 (pc := 781) F hi3 (by decide +kernel) ?_
  refine zl_iconst (pc := 782) (n := 3) F (by decide +kernel) ⟨by decide, by decide⟩ ?_
  refine zl_iadd (pc := 783) F (by decide +kernel) (i + 3) rfl ⟨by omega, by omega⟩ ?_
  refine zl_sld (pc := 784) F ⟨by omega, by omega⟩ (by decide +kernel) ?_
  refine zl_call (pc := 785) (as := [vi (scr xs (i + 1)), vi (scr xs (i + 2)), vi (scr xs (i + 3))]) F ml_law_93 rfl ⟨rfl, by decide⟩ rfl rfl (Nat.le_of_ble_eq_true rfl) (dc := 400) (by decide) hkc (by decide +kernel) (CI.zl (CI.mono (fun y υ k => ?_) k))
  obtain ⟨rfl, k⟩ := k
  exact zl_eq (pc := 788) (off := 731) 1519 F (by decide +kernel) (by decide) k
theorem lc_19 {E : EN} {p : Program} {e : Env} {s : State} {m : MethodId} {below : List Frame} {meth : Method} {c : Code} {b Ls kc ks : Nat} {xs : Nat → Int32} {i : Int} {σ : Mem} (F : LX E p s m meth c b Ls xs) (hi : 0 ≤ i ∧ i + 6 ≤ Ls) (hkc : kc ≤ 600000 ∧ ks ≤ 7302250) (k : CI E y_BC_best 400 [vr 0, vi (scr xs (i + 1))] σ (fun x τ => CI E y_Mod_best 400 [vr 115, vi (scr xs (i + 1))] τ (fun y υ => x = y ∧ ZL E p e s m below meth c b kc ks 1519 i [] υ))) : ZL E p e s m below meth c b kc ks 793 i [] σ := by
  have hL := F.2.2.2.2.2.2.2.2.2.2.2.2.2
  have hi3 : i32 i := ⟨by omega, by omega⟩
  refine zl_a1 (pc := 793) F (by decide +kernel) ?_
  refine zl_a0 (pc := 794) F (by decide +kernel) ?_
  refine zl_i3 (pc := 795) F hi3 (by decide +kernel) ?_
  refine zl_iconst (pc := 796) (n := 1) F (by decide +kernel) ⟨by decide, by decide⟩ ?_
  refine zl_iadd (pc := 797) F (by decide +kernel) (i + 1) rfl ⟨by omega, by omega⟩ ?_
  refine zl_sld (pc := 798) F ⟨by omega, by omega⟩ (by decide +kernel) ?_
  refine zl_call (pc := 799) (as := [vi (scr xs (i + 1))]) F ml_law_94 rfl ⟨rfl, by decide⟩ rfl rfl (Nat.le_of_ble_eq_true rfl) (dc := 400) (by decide) hkc (by decide +kernel) (CI.zl (CI.mono (fun x τ k => ?_) k))
  refine zl_a2 (pc := 802) F (by decide +kernel) ?_
  refine zl_a0 (pc := 803) F (by decide +kernel) ?_
  refine zl_i3 (pc := 804) F hi3 (by decide +kernel) ?_
  refine zl_iconst (pc := 805) (n := 1) F (by decide +kernel) ⟨by decide, by decide⟩ ?_
  refine zl_iadd (pc := 806) F (by decide +kernel) (i + 1) rfl ⟨by omega, by omega⟩ ?_
  refine zl_sld (pc := 807) F ⟨by omega, by omega⟩ (by decide +kernel) ?_
  refine zl_call (pc := 808) (as := [vi (scr xs (i + 1))]) F ml_law_97 rfl ⟨rfl, by decide⟩ rfl rfl (Nat.le_of_ble_eq_true rfl) (dc := 400) (by decide) hkc (by decide +kernel) (CI.zl (CI.mono (fun y υ k => ?_) k))
  obtain ⟨rfl, k⟩ := k
  exact zl_eq (pc := 811) (off := 708) 1519 F (by decide +kernel) (by decide) k
theorem lc_20 {E : EN} {p : Program} {e : Env} {s : State} {m : MethodId} {below : List Frame} {meth : Method} {c : Code} {b Ls kc ks : Nat} {xs : Nat → Int32} {i : Int} {σ : Mem} (F : LX E p s m meth c b Ls xs) (hi : 0 ≤ i ∧ i + 6 ≤ Ls) (hkc : kc ≤ 600000 ∧ ks ≤ 7302250) (k : CI E y_BC_bestAt 400 [vr 0, vi (scr xs (i + 1))] σ (fun x τ => CI E y_Mod_bestAt 400 [vr 115, vi (scr xs (i + 1))] τ (fun y υ => x = y ∧ ZL E p e s m below meth c b kc ks 1519 i [] υ))) : ZL E p e s m below meth c b kc ks 816 i [] σ := by
  have hL := F.2.2.2.2.2.2.2.2.2.2.2.2.2
  have hi3 : i32 i := ⟨by omega, by omega⟩
  refine zl_a1 (pc := 816) F (by decide +kernel) ?_
  refine zl_a0 (pc := 817) F (by decide +kernel) ?_
  refine zl_i3 (pc := 818) F hi3 (by decide +kernel) ?_
  refine zl_iconst (pc := 819) (n := 1) F (by decide +kernel) ⟨by decide, by decide⟩ ?_
  refine zl_iadd (pc := 820) F (by decide +kernel) (i + 1) rfl ⟨by omega, by omega⟩ ?_
  refine zl_sld (pc := 821) F ⟨by omega, by omega⟩ (by decide +kernel) ?_
  refine zl_call (pc := 822) (as := [vi (scr xs (i + 1))]) F ml_law_98 rfl ⟨rfl, by decide⟩ rfl rfl (Nat.le_of_ble_eq_true rfl) (dc := 400) (by decide) hkc (by decide +kernel) (CI.zl (CI.mono (fun x τ k => ?_) k))
  refine zl_a2 (pc := 825) F (by decide +kernel) ?_
  refine zl_a0 (pc := 826) F (by decide +kernel) ?_
  refine zl_i3 (pc := 827) F hi3 (by decide +kernel) ?_
  refine zl_iconst (pc := 828) (n := 1) F (by decide +kernel) ⟨by decide, by decide⟩ ?_
  refine zl_iadd (pc := 829) F (by decide +kernel) (i + 1) rfl ⟨by omega, by omega⟩ ?_
  refine zl_sld (pc := 830) F ⟨by omega, by omega⟩ (by decide +kernel) ?_
  refine zl_call (pc := 831) (as := [vi (scr xs (i + 1))]) F ml_law_101 rfl ⟨rfl, by decide⟩ rfl rfl (Nat.le_of_ble_eq_true rfl) (dc := 400) (by decide) hkc (by decide +kernel) (CI.zl (CI.mono (fun y υ k => ?_) k))
  obtain ⟨rfl, k⟩ := k
  exact zl_eq (pc := 834) (off := 685) 1519 F (by decide +kernel) (by decide) k
theorem lc_21 {E : EN} {p : Program} {e : Env} {s : State} {m : MethodId} {below : List Frame} {meth : Method} {c : Code} {b Ls kc ks : Nat} {xs : Nat → Int32} {i : Int} {σ : Mem} (F : LX E p s m meth c b Ls xs) (hi : 0 ≤ i ∧ i + 6 ≤ Ls) (hkc : kc ≤ 600000 ∧ ks ≤ 7302250) (k : CI E y_BC_bestBy 400 [vr 0, vi (scr xs (i + 1))] σ (fun x τ => CI E y_Mod_bestBy 400 [vr 115, vi (scr xs (i + 1))] τ (fun y υ => x = y ∧ ZL E p e s m below meth c b kc ks 1519 i [] υ))) : ZL E p e s m below meth c b kc ks 839 i [] σ := by
  have hL := F.2.2.2.2.2.2.2.2.2.2.2.2.2
  have hi3 : i32 i := ⟨by omega, by omega⟩
  refine zl_a1 (pc := 839) F (by decide +kernel) ?_
  refine zl_a0 (pc := 840) F (by decide +kernel) ?_
  refine zl_i3 (pc := 841) F hi3 (by decide +kernel) ?_
  refine zl_iconst (pc := 842) (n := 1) F (by decide +kernel) ⟨by decide, by decide⟩ ?_
  refine zl_iadd (pc := 843) F (by decide +kernel) (i + 1) rfl ⟨by omega, by omega⟩ ?_
  refine zl_sld (pc := 844) F ⟨by omega, by omega⟩ (by decide +kernel) ?_
  refine zl_call (pc := 845) (as := [vi (scr xs (i + 1))]) F ml_law_102 rfl ⟨rfl, by decide⟩ rfl rfl (Nat.le_of_ble_eq_true rfl) (dc := 400) (by decide) hkc (by decide +kernel) (CI.zl (CI.mono (fun x τ k => ?_) k))
  refine zl_a2 (pc := 848) F (by decide +kernel) ?_
  refine zl_a0 (pc := 849) F (by decide +kernel) ?_
  refine zl_i3 (pc := 850) F hi3 (by decide +kernel) ?_
  refine zl_iconst (pc := 851) (n := 1) F (by decide +kernel) ⟨by decide, by decide⟩ ?_
  refine zl_iadd (pc := 852) F (by decide +kernel) (i + 1) rfl ⟨by omega, by omega⟩ ?_
  refine zl_sld (pc := 853) F ⟨by omega, by omega⟩ (by decide +kernel) ?_
  refine zl_call (pc := 854) (as := [vi (scr xs (i + 1))]) F ml_law_105 rfl ⟨rfl, by decide⟩ rfl rfl (Nat.le_of_ble_eq_true rfl) (dc := 400) (by decide) hkc (by decide +kernel) (CI.zl (CI.mono (fun y υ k => ?_) k))
  obtain ⟨rfl, k⟩ := k
  exact zl_eq (pc := 857) (off := 662) 1519 F (by decide +kernel) (by decide) k
theorem lc_22 {E : EN} {p : Program} {e : Env} {s : State} {m : MethodId} {below : List Frame} {meth : Method} {c : Code} {b Ls kc ks : Nat} {xs : Nat → Int32} {i : Int} {σ : Mem} (F : LX E p s m meth c b Ls xs) (hi : 0 ≤ i ∧ i + 6 ≤ Ls) (hkc : kc ≤ 600000 ∧ ks ≤ 7302250) (k : CI E y_BC_noonFor 400 [vr 0, vi (scr xs (i + 1))] σ (fun x τ => CI E y_Mod_noonFor 400 [vr 115, vi (scr xs (i + 1))] τ (fun y υ => x = y ∧ ZL E p e s m below meth c b kc ks 1519 i [] υ))) : ZL E p e s m below meth c b kc ks 862 i [] σ := by
  have hL := F.2.2.2.2.2.2.2.2.2.2.2.2.2
  have hi3 : i32 i := ⟨by omega, by omega⟩
  refine zl_a1 (pc := 862) F (by decide +kernel) ?_
  refine zl_a0 (pc := 863) F (by decide +kernel) ?_
  refine zl_i3 (pc := 864) F hi3 (by decide +kernel) ?_
  refine zl_iconst (pc := 865) (n := 1) F (by decide +kernel) ⟨by decide, by decide⟩ ?_
  refine zl_iadd (pc := 866) F (by decide +kernel) (i + 1) rfl ⟨by omega, by omega⟩ ?_
  refine zl_sld (pc := 867) F ⟨by omega, by omega⟩ (by decide +kernel) ?_
  refine zl_call (pc := 868) (as := [vi (scr xs (i + 1))]) F ml_law_106 rfl ⟨rfl, by decide⟩ rfl rfl (Nat.le_of_ble_eq_true rfl) (dc := 400) (by decide) hkc (by decide +kernel) (CI.zl (CI.mono (fun x τ k => ?_) k))
  refine zl_a2 (pc := 871) F (by decide +kernel) ?_
  refine zl_a0 (pc := 872) F (by decide +kernel) ?_
  refine zl_i3 (pc := 873) F hi3 (by decide +kernel) ?_
  refine zl_iconst (pc := 874) (n := 1) F (by decide +kernel) ⟨by decide, by decide⟩ ?_
  refine zl_iadd (pc := 875) F (by decide +kernel) (i + 1) rfl ⟨by omega, by omega⟩ ?_
  refine zl_sld (pc := 876) F ⟨by omega, by omega⟩ (by decide +kernel) ?_
  refine zl_call (pc := 877) (as := [vi (scr xs (i + 1))]) F ml_law_109 rfl ⟨rfl, by decide⟩ rfl rfl (Nat.le_of_ble_eq_true rfl) (dc := 400) (by decide) hkc (by decide +kernel) (CI.zl (CI.mono (fun y υ k => ?_) k))
  obtain ⟨rfl, k⟩ := k
  exact zl_eq (pc := 880) (off := 639) 1519 F (by decide +kernel) (by decide) k
theorem lc_23 {E : EN} {p : Program} {e : Env} {s : State} {m : MethodId} {below : List Frame} {meth : Method} {c : Code} {b Ls kc ks : Nat} {xs : Nat → Int32} {i : Int} {σ : Mem} (F : LX E p s m meth c b Ls xs) (hi : 0 ≤ i ∧ i + 6 ≤ Ls) (hkc : kc ≤ 600000 ∧ ks ≤ 7302250) (k : CI E y_BC_without 400 [vr 0, vi (scr xs (i + 1))] σ (fun x τ => CI E y_Mod_without 400 [vr 115, vi (scr xs (i + 1))] τ (fun y υ => x = y ∧ ZL E p e s m below meth c b kc ks 1519 i [] υ))) : ZL E p e s m below meth c b kc ks 885 i [] σ := by
  have hL := F.2.2.2.2.2.2.2.2.2.2.2.2.2
  have hi3 : i32 i := ⟨by omega, by omega⟩
  refine zl_a1 (pc := 885) F (by decide +kernel) ?_
  refine zl_a0 (pc := 886) F (by decide +kernel) ?_
  refine zl_i3 (pc := 887) F hi3 (by decide +kernel) ?_
  refine zl_iconst (pc := 888) (n := 1) F (by decide +kernel) ⟨by decide, by decide⟩ ?_
  refine zl_iadd (pc := 889) F (by decide +kernel) (i + 1) rfl ⟨by omega, by omega⟩ ?_
  refine zl_sld (pc := 890) F ⟨by omega, by omega⟩ (by decide +kernel) ?_
  refine zl_call (pc := 891) (as := [vi (scr xs (i + 1))]) F ml_law_110 rfl ⟨rfl, by decide⟩ rfl rfl (Nat.le_of_ble_eq_true rfl) (dc := 400) (by decide) hkc (by decide +kernel) (CI.zl (CI.mono (fun x τ k => ?_) k))
  refine zl_a2 (pc := 894) F (by decide +kernel) ?_
  refine zl_a0 (pc := 895) F (by decide +kernel) ?_
  refine zl_i3 (pc := 896) F hi3 (by decide +kernel) ?_
  refine zl_iconst (pc := 897) (n := 1) F (by decide +kernel) ⟨by decide, by decide⟩ ?_
  refine zl_iadd (pc := 898) F (by decide +kernel) (i + 1) rfl ⟨by omega, by omega⟩ ?_
  refine zl_sld (pc := 899) F ⟨by omega, by omega⟩ (by decide +kernel) ?_
  refine zl_call (pc := 900) (as := [vi (scr xs (i + 1))]) F ml_law_113 rfl ⟨rfl, by decide⟩ rfl rfl (Nat.le_of_ble_eq_true rfl) (dc := 400) (by decide) hkc (by decide +kernel) (CI.zl (CI.mono (fun y υ k => ?_) k))
  obtain ⟨rfl, k⟩ := k
  exact zl_eq (pc := 903) (off := 616) 1519 F (by decide +kernel) (by decide) k
theorem lc_24 {E : EN} {p : Program} {e : Env} {s : State} {m : MethodId} {below : List Frame} {meth : Method} {c : Code} {b Ls kc ks : Nat} {xs : Nat → Int32} {i : Int} {σ : Mem} (F : LX E p s m meth c b Ls xs) (hi : 0 ≤ i ∧ i + 6 ≤ Ls) (hkc : kc ≤ 600000 ∧ ks ≤ 7302250) (k : CI E y_BC_hindrance 400 [vr 0] σ (fun x τ => CI E y_Mod_hindrance 400 [vr 115] τ (fun y υ => x = y ∧ ZL E p e s m below meth c b kc ks 1519 i [] υ))) : ZL E p e s m below meth c b kc ks 908 i [] σ := by
  have hL := F.2.2.2.2.2.2.2.2.2.2.2.2.2
  have hi3 : i32 i := ⟨by omega, by omega⟩
  refine zl_a1 (pc := 908) F (by decide +kernel) ?_
  refine zl_call (pc := 909) (as := []) F ml_law_114 rfl ⟨rfl, by decide⟩ rfl rfl (Nat.le_of_ble_eq_true rfl) (dc := 400) (by decide) hkc (by decide +kernel) (CI.zl (CI.mono (fun x τ k => ?_) k))
  refine zl_a2 (pc := 912) F (by decide +kernel) ?_
  refine zl_call (pc := 913) (as := []) F ml_law_117 rfl ⟨rfl, by decide⟩ rfl rfl (Nat.le_of_ble_eq_true rfl) (dc := 400) (by decide) hkc (by decide +kernel) (CI.zl (CI.mono (fun y υ k => ?_) k))
  obtain ⟨rfl, k⟩ := k
  exact zl_eq (pc := 916) (off := 603) 1519 F (by decide +kernel) (by decide) k
theorem lc_25 {E : EN} {p : Program} {e : Env} {s : State} {m : MethodId} {below : List Frame} {meth : Method} {c : Code} {b Ls kc ks : Nat} {xs : Nat → Int32} {i : Int} {σ : Mem} (F : LX E p s m meth c b Ls xs) (hi : 0 ≤ i ∧ i + 6 ≤ Ls) (hkc : kc ≤ 600000 ∧ ks ≤ 7302250) (k : CI E y_BC_hopeless 400 [vr 0] σ (fun x τ => CI E y_Mod_hopeless 400 [vr 115] τ (fun y υ => x = y ∧ ZL E p e s m below meth c b kc ks 1519 i [] υ))) : ZL E p e s m below meth c b kc ks 921 i [] σ := by
  have hL := F.2.2.2.2.2.2.2.2.2.2.2.2.2
  have hi3 : i32 i := ⟨by omega, by omega⟩
  refine zl_a1 (pc := 921) F (by decide +kernel) ?_
  refine zl_call (pc := 922) (as := []) F ml_law_118 rfl ⟨rfl, by decide⟩ rfl rfl (Nat.le_of_ble_eq_true rfl) (dc := 400) (by decide) hkc (by decide +kernel) (CI.zl (CI.mono (fun x τ k => ?_) k))
  refine zl_a2 (pc := 925) F (by decide +kernel) ?_
  refine zl_call (pc := 926) (as := []) F ml_law_121 rfl ⟨rfl, by decide⟩ rfl rfl (Nat.le_of_ble_eq_true rfl) (dc := 400) (by decide) hkc (by decide +kernel) (CI.zl (CI.mono (fun y υ k => ?_) k))
  obtain ⟨rfl, k⟩ := k
  exact zl_eq (pc := 929) (off := 590) 1519 F (by decide +kernel) (by decide) k
theorem lc_26 {E : EN} {p : Program} {e : Env} {s : State} {m : MethodId} {below : List Frame} {meth : Method} {c : Code} {b Ls kc ks : Nat} {xs : Nat → Int32} {i : Int} {σ : Mem} (F : LX E p s m meth c b Ls xs) (hi : 0 ≤ i ∧ i + 6 ≤ Ls) (hkc : kc ≤ 600000 ∧ ks ≤ 7302250) (k : CI E y_BC_rule 400 [vr 0, vi (scr xs (i + 1))] σ (fun x τ => CI E y_Mod_rule 400 [vr 115, vi (scr xs (i + 1))] τ (fun y υ => x = y ∧ ZL E p e s m below meth c b kc ks 1519 i [] υ))) : ZL E p e s m below meth c b kc ks 934 i [] σ := by
  have hL := F.2.2.2.2.2.2.2.2.2.2.2.2.2
  have hi3 : i32 i := ⟨by omega, by omega⟩
  refine zl_a1 (pc := 934) F (by decide +kernel) ?_
  refine zl_a0 (pc := 935) F (by decide +kernel) ?_
  refine zl_i3 (pc := 936) F hi3 (by decide +kernel) ?_
  refine zl_iconst (pc := 937) (n := 1) F (by decide +kernel) ⟨by decide, by decide⟩ ?_
  refine zl_iadd (pc := 938) F (by decide +kernel) (i + 1) rfl ⟨by omega, by omega⟩ ?_
  refine zl_sld (pc := 939) F ⟨by omega, by omega⟩ (by decide +kernel) ?_
  refine zl_call (pc := 940) (as := [vi (scr xs (i + 1))]) F ml_law_122 rfl ⟨rfl, by decide⟩ rfl rfl (Nat.le_of_ble_eq_true rfl) (dc := 400) (by decide) hkc (by decide +kernel) (CI.zl (CI.mono (fun x τ k => ?_) k))
  refine zl_a2 (pc := 943) F (by decide +kernel) ?_
  refine zl_a0 (pc := 944) F (by decide +kernel) ?_
  refine zl_i3 (pc := 945) F hi3 (by decide +kernel) ?_
  refine zl_iconst (pc := 946) (n := 1) F (by decide +kernel) ⟨by decide, by decide⟩ ?_
  refine zl_iadd (pc := 947) F (by decide +kernel) (i + 1) rfl ⟨by omega, by omega⟩ ?_
  refine zl_sld (pc := 948) F ⟨by omega, by omega⟩ (by decide +kernel) ?_
  refine zl_call (pc := 949) (as := [vi (scr xs (i + 1))]) F ml_law_125 rfl ⟨rfl, by decide⟩ rfl rfl (Nat.le_of_ble_eq_true rfl) (dc := 400) (by decide) hkc (by decide +kernel) (CI.zl (CI.mono (fun y υ k => ?_) k))
  obtain ⟨rfl, k⟩ := k
  exact zl_eq (pc := 952) (off := 567) 1519 F (by decide +kernel) (by decide) k
theorem lc_27 {E : EN} {p : Program} {e : Env} {s : State} {m : MethodId} {below : List Frame} {meth : Method} {c : Code} {b Ls kc ks : Nat} {xs : Nat → Int32} {i : Int} {σ : Mem} (F : LX E p s m meth c b Ls xs) (hi : 0 ≤ i ∧ i + 6 ≤ Ls) (hkc : kc ≤ 600000 ∧ ks ≤ 7302250) (k : CI E y_BC_ruleBy 400 [vr 0, vi (scr xs (i + 1))] σ (fun x τ => CI E y_Mod_ruleBy 400 [vr 115, vi (scr xs (i + 1))] τ (fun y υ => x = y ∧ ZL E p e s m below meth c b kc ks 1519 i [] υ))) : ZL E p e s m below meth c b kc ks 957 i [] σ := by
  have hL := F.2.2.2.2.2.2.2.2.2.2.2.2.2
  have hi3 : i32 i := ⟨by omega, by omega⟩
  refine zl_a1 (pc := 957) F (by decide +kernel) ?_
  refine zl_a0 (pc := 958) F (by decide +kernel) ?_
  refine zl_i3 (pc := 959) F hi3 (by decide +kernel) ?_
  refine zl_iconst (pc := 960) (n := 1) F (by decide +kernel) ⟨by decide, by decide⟩ ?_
  refine zl_iadd (pc := 961) F (by decide +kernel) (i + 1) rfl ⟨by omega, by omega⟩ ?_
  refine zl_sld (pc := 962) F ⟨by omega, by omega⟩ (by decide +kernel) ?_
  refine zl_call (pc := 963) (as := [vi (scr xs (i + 1))]) F ml_law_126 rfl ⟨rfl, by decide⟩ rfl rfl (Nat.le_of_ble_eq_true rfl) (dc := 400) (by decide) hkc (by decide +kernel) (CI.zl (CI.mono (fun x τ k => ?_) k))
  refine zl_a2 (pc := 966) F (by decide +kernel) ?_
  refine zl_a0 (pc := 967) F (by decide +kernel) ?_
  refine zl_i3 (pc := 968) F hi3 (by decide +kernel) ?_
  refine zl_iconst (pc := 969) (n := 1) F (by decide +kernel) ⟨by decide, by decide⟩ ?_
  refine zl_iadd (pc := 970) F (by decide +kernel) (i + 1) rfl ⟨by omega, by omega⟩ ?_
  refine zl_sld (pc := 971) F ⟨by omega, by omega⟩ (by decide +kernel) ?_
  refine zl_call (pc := 972) (as := [vi (scr xs (i + 1))]) F ml_law_129 rfl ⟨rfl, by decide⟩ rfl rfl (Nat.le_of_ble_eq_true rfl) (dc := 400) (by decide) hkc (by decide +kernel) (CI.zl (CI.mono (fun y υ k => ?_) k))
  obtain ⟨rfl, k⟩ := k
  exact zl_eq (pc := 975) (off := 544) 1519 F (by decide +kernel) (by decide) k
theorem lc_28 {E : EN} {p : Program} {e : Env} {s : State} {m : MethodId} {below : List Frame} {meth : Method} {c : Code} {b Ls kc ks : Nat} {xs : Nat → Int32} {i : Int} {σ : Mem} (F : LX E p s m meth c b Ls xs) (hi : 0 ≤ i ∧ i + 6 ≤ Ls) (hkc : kc ≤ 600000 ∧ ks ≤ 7302250) (k : CI E y_BC_slept 400 [vr 0, vi (scr xs (i + 1))] σ (fun x τ => CI E y_Mod_slept 400 [vr 115, vi (scr xs (i + 1))] τ (fun y υ => x = y ∧ ZL E p e s m below meth c b kc ks 1519 i [] υ))) : ZL E p e s m below meth c b kc ks 980 i [] σ := by
  have hL := F.2.2.2.2.2.2.2.2.2.2.2.2.2
  have hi3 : i32 i := ⟨by omega, by omega⟩
  refine zl_a1 (pc := 980) F (by decide +kernel) ?_
  refine zl_a0 (pc := 981) F (by decide +kernel) ?_
  refine zl_i3 (pc := 982) F hi3 (by decide +kernel) ?_
  refine zl_iconst (pc := 983) (n := 1) F (by decide +kernel) ⟨by decide, by decide⟩ ?_
  refine zl_iadd (pc := 984) F (by decide +kernel) (i + 1) rfl ⟨by omega, by omega⟩ ?_
  refine zl_sld (pc := 985) F ⟨by omega, by omega⟩ (by decide +kernel) ?_
  refine zl_call (pc := 986) (as := [vi (scr xs (i + 1))]) F ml_law_130 rfl ⟨rfl, by decide⟩ rfl rfl (Nat.le_of_ble_eq_true rfl) (dc := 400) (by decide) hkc (by decide +kernel) (CI.zl (CI.mono (fun x τ k => ?_) k))
  refine zl_a2 (pc := 989) F (by decide +kernel) ?_
  refine zl_a0 (pc := 990) F (by decide +kernel) ?_
  refine zl_i3 (pc := 991) F hi3 (by decide +kernel) ?_
  refine zl_iconst (pc := 992) (n := 1) F (by decide +kernel) ⟨by decide, by decide⟩ ?_
  refine zl_iadd (pc := 993) F (by decide +kernel) (i + 1) rfl ⟨by omega, by omega⟩ ?_
  refine zl_sld (pc := 994) F ⟨by omega, by omega⟩ (by decide +kernel) ?_
  refine zl_call (pc := 995) (as := [vi (scr xs (i + 1))]) F ml_law_133 rfl ⟨rfl, by decide⟩ rfl rfl (Nat.le_of_ble_eq_true rfl) (dc := 400) (by decide) hkc (by decide +kernel) (CI.zl (CI.mono (fun y υ k => ?_) k))
  obtain ⟨rfl, k⟩ := k
  exact zl_eq (pc := 998) (off := 521) 1519 F (by decide +kernel) (by decide) k
theorem lc_29 {E : EN} {p : Program} {e : Env} {s : State} {m : MethodId} {below : List Frame} {meth : Method} {c : Code} {b Ls kc ks : Nat} {xs : Nat → Int32} {i : Int} {σ : Mem} (F : LX E p s m meth c b Ls xs) (hi : 0 ≤ i ∧ i + 6 ≤ Ls) (hkc : kc ≤ 600000 ∧ ks ≤ 7302250) (k : CI E y_BC_sleeper 400 [vr 0, vi (scr xs (i + 1))] σ (fun x τ => CI E y_Mod_sleeper 400 [vr 115, vi (scr xs (i + 1))] τ (fun y υ => x = y ∧ ZL E p e s m below meth c b kc ks 1519 i [] υ))) : ZL E p e s m below meth c b kc ks 1003 i [] σ := by
  have hL := F.2.2.2.2.2.2.2.2.2.2.2.2.2
  have hi3 : i32 i := ⟨by omega, by omega⟩
  refine zl_a1 (pc := 1003) F (by decide +kernel) ?_
  refine zl_a0 (pc := 1004) F (by decide +kernel) ?_
  refine zl_i3 (pc := 1005) F hi3 (by decide +kernel) ?_
  refine zl_iconst (pc := 1006) (n := 1) F (by decide +kernel) ⟨by decide, by decide⟩ ?_
  refine zl_iadd (pc := 1007) F (by decide +kernel) (i + 1) rfl ⟨by omega, by omega⟩ ?_
  refine zl_sld (pc := 1008) F ⟨by omega, by omega⟩ (by decide +kernel) ?_
  refine zl_call (pc := 1009) (as := [vi (scr xs (i + 1))]) F ml_law_134 rfl ⟨rfl, by decide⟩ rfl rfl (Nat.le_of_ble_eq_true rfl) (dc := 400) (by decide) hkc (by decide +kernel) (CI.zl (CI.mono (fun x τ k => ?_) k))
  refine zl_a2 (pc := 1012) F (by decide +kernel) ?_
  refine zl_a0 (pc := 1013) F (by decide +kernel) ?_
  refine zl_i3 (pc := 1014) F hi3 (by decide +kernel) ?_
  refine zl_iconst (pc := 1015) (n := 1) F (by decide +kernel) ⟨by decide, by decide⟩ ?_
  refine zl_iadd (pc := 1016) F (by decide +kernel) (i + 1) rfl ⟨by omega, by omega⟩ ?_
  refine zl_sld (pc := 1017) F ⟨by omega, by omega⟩ (by decide +kernel) ?_
  refine zl_call (pc := 1018) (as := [vi (scr xs (i + 1))]) F ml_law_137 rfl ⟨rfl, by decide⟩ rfl rfl (Nat.le_of_ble_eq_true rfl) (dc := 400) (by decide) hkc (by decide +kernel) (CI.zl (CI.mono (fun y υ k => ?_) k))
  obtain ⟨rfl, k⟩ := k
  exact zl_eq (pc := 1021) (off := 498) 1519 F (by decide +kernel) (by decide) k
theorem lc_30 {E : EN} {p : Program} {e : Env} {s : State} {m : MethodId} {below : List Frame} {meth : Method} {c : Code} {b Ls kc ks : Nat} {xs : Nat → Int32} {i : Int} {σ : Mem} (F : LX E p s m meth c b Ls xs) (hi : 0 ≤ i ∧ i + 6 ≤ Ls) (hkc : kc ≤ 600000 ∧ ks ≤ 7302250) (k : CI E y_BC_quiet 400 [vr 0, vi (scr xs (i + 1))] σ (fun x τ => CI E y_Mod_quiet 400 [vr 115, vi (scr xs (i + 1))] τ (fun y υ => x = y ∧ ZL E p e s m below meth c b kc ks 1519 i [] υ))) : ZL E p e s m below meth c b kc ks 1026 i [] σ := by
  have hL := F.2.2.2.2.2.2.2.2.2.2.2.2.2
  have hi3 : i32 i := ⟨by omega, by omega⟩
  refine zl_a1 (pc := 1026) F (by decide +kernel) ?_
  refine zl_a0 (pc := 1027) F (by decide +kernel) ?_
  refine zl_i3 (pc := 1028) F hi3 (by decide +kernel) ?_
  refine zl_iconst (pc := 1029) (n := 1) F (by decide +kernel) ⟨by decide, by decide⟩ ?_
  refine zl_iadd (pc := 1030) F (by decide +kernel) (i + 1) rfl ⟨by omega, by omega⟩ ?_
  refine zl_sld (pc := 1031) F ⟨by omega, by omega⟩ (by decide +kernel) ?_
  refine zl_call (pc := 1032) (as := [vi (scr xs (i + 1))]) F ml_law_138 rfl ⟨rfl, by decide⟩ rfl rfl (Nat.le_of_ble_eq_true rfl) (dc := 400) (by decide) hkc (by decide +kernel) (CI.zl (CI.mono (fun x τ k => ?_) k))
  refine zl_a2 (pc := 1035) F (by decide +kernel) ?_
  refine zl_a0 (pc := 1036) F (by decide +kernel) ?_
  refine zl_i3 (pc := 1037) F hi3 (by decide +kernel) ?_
  refine zl_iconst (pc := 1038) (n := 1) F (by decide +kernel) ⟨by decide, by decide⟩ ?_
  refine zl_iadd (pc := 1039) F (by decide +kernel) (i + 1) rfl ⟨by omega, by omega⟩ ?_
  refine zl_sld (pc := 1040) F ⟨by omega, by omega⟩ (by decide +kernel) ?_
  refine zl_call (pc := 1041) (as := [vi (scr xs (i + 1))]) F ml_law_141 rfl ⟨rfl, by decide⟩ rfl rfl (Nat.le_of_ble_eq_true rfl) (dc := 400) (by decide) hkc (by decide +kernel) (CI.zl (CI.mono (fun y υ k => ?_) k))
  obtain ⟨rfl, k⟩ := k
  exact zl_eq (pc := 1044) (off := 475) 1519 F (by decide +kernel) (by decide) k
theorem lc_31 {E : EN} {p : Program} {e : Env} {s : State} {m : MethodId} {below : List Frame} {meth : Method} {c : Code} {b Ls kc ks : Nat} {xs : Nat → Int32} {i : Int} {σ : Mem} (F : LX E p s m meth c b Ls xs) (hi : 0 ≤ i ∧ i + 6 ≤ Ls) (hkc : kc ≤ 600000 ∧ ks ≤ 7302250) (k : CI E y_BC_safest 400 [vr 0, vi (scr xs (i + 1))] σ (fun x τ => CI E y_Mod_safest 400 [vr 115, vi (scr xs (i + 1))] τ (fun y υ => x = y ∧ ZL E p e s m below meth c b kc ks 1519 i [] υ))) : ZL E p e s m below meth c b kc ks 1049 i [] σ := by
  have hL := F.2.2.2.2.2.2.2.2.2.2.2.2.2
  have hi3 : i32 i := ⟨by omega, by omega⟩
  refine zl_a1 (pc := 1049) F (by decide +kernel) ?_
  refine zl_a0 (pc := 1050) F (by decide +kernel) ?_
  refine zl_i3 (pc := 1051) F hi3 (by decide +kernel) ?_
  refine zl_iconst (pc := 1052) (n := 1) F (by decide +kernel) ⟨by decide, by decide⟩ ?_
  refine zl_iadd (pc := 1053) F (by decide +kernel) (i + 1) rfl ⟨by omega, by omega⟩ ?_
  refine zl_sld (pc := 1054) F ⟨by omega, by omega⟩ (by decide +kernel) ?_
  refine zl_call (pc := 1055) (as := [vi (scr xs (i + 1))]) F ml_law_142 rfl ⟨rfl, by decide⟩ rfl rfl (Nat.le_of_ble_eq_true rfl) (dc := 400) (by decide) hkc (by decide +kernel) (CI.zl (CI.mono (fun x τ k => ?_) k))
  refine zl_a2 (pc := 1058) F (by decide +kernel) ?_
  refine zl_a0 (pc := 1059) F (by decide +kernel) ?_
  refine zl_i3 (pc := 1060) F hi3 (by decide +kernel) ?_
  refine zl_iconst (pc := 1061) (n := 1) F (by decide +kernel) ⟨by decide, by decide⟩ ?_
  refine zl_iadd (pc := 1062) F (by decide +kernel) (i + 1) rfl ⟨by omega, by omega⟩ ?_
  refine zl_sld (pc := 1063) F ⟨by omega, by omega⟩ (by decide +kernel) ?_
  refine zl_call (pc := 1064) (as := [vi (scr xs (i + 1))]) F ml_law_145 rfl ⟨rfl, by decide⟩ rfl rfl (Nat.le_of_ble_eq_true rfl) (dc := 400) (by decide) hkc (by decide +kernel) (CI.zl (CI.mono (fun y υ k => ?_) k))
  obtain ⟨rfl, k⟩ := k
  exact zl_eq (pc := 1067) (off := 452) 1519 F (by decide +kernel) (by decide) k
theorem lc_32 {E : EN} {p : Program} {e : Env} {s : State} {m : MethodId} {below : List Frame} {meth : Method} {c : Code} {b Ls kc ks : Nat} {xs : Nat → Int32} {i : Int} {σ : Mem} (F : LX E p s m meth c b Ls xs) (hi : 0 ≤ i ∧ i + 6 ≤ Ls) (hkc : kc ≤ 600000 ∧ ks ≤ 7302250) (k : CI E y_BC_bold 400 [vr 0, vi (scr xs (i + 1))] σ (fun x τ => CI E y_Mod_bold 400 [vr 115, vi (scr xs (i + 1))] τ (fun y υ => x = y ∧ ZL E p e s m below meth c b kc ks 1519 i [] υ))) : ZL E p e s m below meth c b kc ks 1072 i [] σ := by
  have hL := F.2.2.2.2.2.2.2.2.2.2.2.2.2
  have hi3 : i32 i := ⟨by omega, by omega⟩
  refine zl_a1 (pc := 1072) F (by decide +kernel) ?_
  refine zl_a0 (pc := 1073) F (by decide +kernel) ?_
  refine zl_i3 (pc := 1074) F hi3 (by decide +kernel) ?_
  refine zl_iconst (pc := 1075) (n := 1) F (by decide +kernel) ⟨by decide, by decide⟩ ?_
  refine zl_iadd (pc := 1076) F (by decide +kernel) (i + 1) rfl ⟨by omega, by omega⟩ ?_
  refine zl_sld (pc := 1077) F ⟨by omega, by omega⟩ (by decide +kernel) ?_
  refine zl_call (pc := 1078) (as := [vi (scr xs (i + 1))]) F ml_law_146 rfl ⟨rfl, by decide⟩ rfl rfl (Nat.le_of_ble_eq_true rfl) (dc := 400) (by decide) hkc (by decide +kernel) (CI.zl (CI.mono (fun x τ k => ?_) k))
  refine zl_a2 (pc := 1081) F (by decide +kernel) ?_
  refine zl_a0 (pc := 1082) F (by decide +kernel) ?_
  refine zl_i3 (pc := 1083) F hi3 (by decide +kernel) ?_
  refine zl_iconst (pc := 1084) (n := 1) F (by decide +kernel) ⟨by decide, by decide⟩ ?_
  refine zl_iadd (pc := 1085) F (by decide +kernel) (i + 1) rfl ⟨by omega, by omega⟩ ?_
  refine zl_sld (pc := 1086) F ⟨by omega, by omega⟩ (by decide +kernel) ?_
  refine zl_call (pc := 1087) (as := [vi (scr xs (i + 1))]) F ml_law_149 rfl ⟨rfl, by decide⟩ rfl rfl (Nat.le_of_ble_eq_true rfl) (dc := 400) (by decide) hkc (by decide +kernel) (CI.zl (CI.mono (fun y υ k => ?_) k))
  obtain ⟨rfl, k⟩ := k
  exact zl_eq (pc := 1090) (off := 429) 1519 F (by decide +kernel) (by decide) k
theorem lc_33 {E : EN} {p : Program} {e : Env} {s : State} {m : MethodId} {below : List Frame} {meth : Method} {c : Code} {b Ls kc ks : Nat} {xs : Nat → Int32} {i : Int} {σ : Mem} (F : LX E p s m meth c b Ls xs) (hi : 0 ≤ i ∧ i + 6 ≤ Ls) (hkc : kc ≤ 600000 ∧ ks ≤ 7302250) (k : CL E y_BC_belief 400 [vr 0, vi (scr xs (i + 1)), vi (scr xs (i + 2))] σ (fun x τ => CL E y_Mod_belief 400 [vr 115, vi (scr xs (i + 1)), vi (scr xs (i + 2))] τ (fun y υ => x = y ∧ ZL E p e s m below meth c b kc ks 1519 i [] υ))) : ZL E p e s m below meth c b kc ks 1095 i [] σ := by
  have hL := F.2.2.2.2.2.2.2.2.2.2.2.2.2
  have hi3 : i32 i := ⟨by omega, by omega⟩
  refine zl_a1 (pc := 1095) F (by decide +kernel) ?_
  refine zl_a0 (pc := 1096) F (by decide +kernel) ?_
  refine zl_i3 (pc := 1097) F hi3 (by decide +kernel) ?_
  refine zl_iconst (pc := 1098) (n := 1) F (by decide +kernel) ⟨by decide, by decide⟩ ?_
  refine zl_iadd (pc := 1099) F (by decide +kernel) (i + 1) rfl ⟨by omega, by omega⟩ ?_
  refine zl_sld (pc := 1100) F ⟨by omega, by omega⟩ (by decide +kernel) ?_
  refine zl_a0 (pc := 1101) F (by decide +kernel) ?_
  refine zl_i3 (pc := 1102) F hi3 (by decide +kernel) ?_
  refine zl_iconst (pc := 1103) (n := 2) F (by decide +kernel) ⟨by decide, by decide⟩ ?_
  refine zl_iadd (pc := 1104) F (by decide +kernel) (i + 2) rfl ⟨by omega, by omega⟩ ?_
  refine zl_sld (pc := 1105) F ⟨by omega, by omega⟩ (by decide +kernel) ?_
  refine zl_call (pc := 1106) (as := [vi (scr xs (i + 1)), vi (scr xs (i + 2))]) F ml_law_150 rfl ⟨rfl, by decide⟩ rfl rfl (Nat.le_of_ble_eq_true rfl) (dc := 400) (by decide) hkc (by decide +kernel) (CL.zl (CL.mono (fun x τ k => ?_) k))
  refine zl_a2 (pc := 1109) F (by decide +kernel) ?_
  refine zl_a0 (pc := 1110) F (by decide +kernel) ?_
  refine zl_i3 (pc := 1111) F hi3 (by decide +kernel) ?_
  refine zl_iconst (pc := 1112) (n := 1) F (by decide +kernel) ⟨by decide, by decide⟩ ?_
  refine zl_iadd (pc := 1113) F (by decide +kernel) (i + 1) rfl ⟨by omega, by omega⟩ ?_
  refine zl_sld (pc := 1114) F ⟨by omega, by omega⟩ (by decide +kernel) ?_
  refine zl_a0 (pc := 1115) F (by decide +kernel) ?_
  refine zl_i3 (pc := 1116) F hi3 (by decide +kernel) ?_
  refine zl_iconst (pc := 1117) (n := 2) F (by decide +kernel) ⟨by decide, by decide⟩ ?_
  refine zl_iadd (pc := 1118) F (by decide +kernel) (i + 2) rfl ⟨by omega, by omega⟩ ?_
  refine zl_sld (pc := 1119) F ⟨by omega, by omega⟩ (by decide +kernel) ?_
  refine zl_call (pc := 1120) (as := [vi (scr xs (i + 1)), vi (scr xs (i + 2))]) F ml_law_154 rfl ⟨rfl, by decide⟩ rfl rfl (Nat.le_of_ble_eq_true rfl) (dc := 400) (by decide) hkc (by decide +kernel) (CL.zl (CL.mono (fun y υ k => ?_) k))
  obtain ⟨rfl, k⟩ := k
  exact zl_leq (pc := 1123) (off := 395) 1519 F (by decide +kernel) (by decide +kernel) (by decide) k
theorem lc_34 {E : EN} {p : Program} {e : Env} {s : State} {m : MethodId} {below : List Frame} {meth : Method} {c : Code} {b Ls kc ks : Nat} {xs : Nat → Int32} {i : Int} {σ : Mem} (F : LX E p s m meth c b Ls xs) (hi : 0 ≤ i ∧ i + 6 ≤ Ls) (hkc : kc ≤ 600000 ∧ ks ≤ 7302250) (k : CI E y_BC_now 400 [vr 0] σ (fun x τ => CI E y_Mod_now 400 [vr 115] τ (fun y υ => x = y ∧ ZL E p e s m below meth c b kc ks 1519 i [] υ))) : ZL E p e s m below meth c b kc ks 1129 i [] σ := by
  have hL := F.2.2.2.2.2.2.2.2.2.2.2.2.2
  have hi3 : i32 i := ⟨by omega, by omega⟩
  refine zl_a1 (pc := 1129) F (by decide +kernel) ?_
  refine zl_call (pc := 1130) (as := []) F ml_law_155 rfl ⟨rfl, by decide⟩ rfl rfl (Nat.le_of_ble_eq_true rfl) (dc := 400) (by decide) hkc (by decide +kernel) (CI.zl (CI.mono (fun x τ k => ?_) k))
  refine zl_a2 (pc := 1133) F (by decide +kernel) ?_
  refine zl_call (pc := 1134) (as := []) F ml_law_158 rfl ⟨rfl, by decide⟩ rfl rfl (Nat.le_of_ble_eq_true rfl) (dc := 400) (by decide) hkc (by decide +kernel) (CI.zl (CI.mono (fun y υ k => ?_) k))
  obtain ⟨rfl, k⟩ := k
  exact zl_eq (pc := 1137) (off := 382) 1519 F (by decide +kernel) (by decide) k
theorem lc_35 {E : EN} {p : Program} {e : Env} {s : State} {m : MethodId} {below : List Frame} {meth : Method} {c : Code} {b Ls kc ks : Nat} {xs : Nat → Int32} {i : Int} {σ : Mem} (F : LX E p s m meth c b Ls xs) (hi : 0 ≤ i ∧ i + 6 ≤ Ls) (hkc : kc ≤ 600000 ∧ ks ≤ 7302250) (k : CI E y_BC_tellsMost 400 [vr 0] σ (fun x τ => CI E y_Mod_tellsMost 400 [vr 115] τ (fun y υ => x = y ∧ ZL E p e s m below meth c b kc ks 1519 i [] υ))) : ZL E p e s m below meth c b kc ks 1142 i [] σ := by
  have hL := F.2.2.2.2.2.2.2.2.2.2.2.2.2
  have hi3 : i32 i := ⟨by omega, by omega⟩
  refine zl_a1 (pc := 1142) F (by decide +kernel) ?_
  refine zl_call (pc := 1143) (as := []) F ml_law_159 rfl ⟨rfl, by decide⟩ rfl rfl (Nat.le_of_ble_eq_true rfl) (dc := 400) (by decide) hkc (by decide +kernel) (CI.zl (CI.mono (fun x τ k => ?_) k))
  refine zl_a2 (pc := 1146) F (by decide +kernel) ?_
  refine zl_call (pc := 1147) (as := []) F ml_law_162 rfl ⟨rfl, by decide⟩ rfl rfl (Nat.le_of_ble_eq_true rfl) (dc := 400) (by decide) hkc (by decide +kernel) (CI.zl (CI.mono (fun y υ k => ?_) k))
  obtain ⟨rfl, k⟩ := k
  exact zl_eq (pc := 1150) (off := 369) 1519 F (by decide +kernel) (by decide) k
theorem lc_36 {E : EN} {p : Program} {e : Env} {s : State} {m : MethodId} {below : List Frame} {meth : Method} {c : Code} {b Ls kc ks : Nat} {xs : Nat → Int32} {i : Int} {σ : Mem} (F : LX E p s m meth c b Ls xs) (hi : 0 ≤ i ∧ i + 6 ≤ Ls) (hkc : kc ≤ 600000 ∧ ks ≤ 7302250) (k : CI E y_BC_keys 400 [vr 0, vi (scr xs (i + 1))] σ (fun x τ => CI E y_Mod_keys 400 [vr 115, vi (scr xs (i + 1))] τ (fun y υ => x = y ∧ ZL E p e s m below meth c b kc ks 1519 i [] υ))) : ZL E p e s m below meth c b kc ks 1155 i [] σ := by
  have hL := F.2.2.2.2.2.2.2.2.2.2.2.2.2
  have hi3 : i32 i := ⟨by omega, by omega⟩
  refine zl_a1 (pc := 1155) F (by decide +kernel) ?_
  refine zl_a0 (pc := 1156) F (by decide +kernel) ?_
  refine zl_i3 (pc := 1157) F hi3 (by decide +kernel) ?_
  refine zl_iconst (pc := 1158) (n := 1) F (by decide +kernel) ⟨by decide, by decide⟩ ?_
  refine zl_iadd (pc := 1159) F (by decide +kernel) (i + 1) rfl ⟨by omega, by omega⟩ ?_
  refine zl_sld (pc := 1160) F ⟨by omega, by omega⟩ (by decide +kernel) ?_
  refine zl_call (pc := 1161) (as := [vi (scr xs (i + 1))]) F ml_law_163 rfl ⟨rfl, by decide⟩ rfl rfl (Nat.le_of_ble_eq_true rfl) (dc := 400) (by decide) hkc (by decide +kernel) (CI.zl (CI.mono (fun x τ k => ?_) k))
  refine zl_a2 (pc := 1164) F (by decide +kernel) ?_
  refine zl_a0 (pc := 1165) F (by decide +kernel) ?_
  refine zl_i3 (pc := 1166) F hi3 (by decide +kernel) ?_
  refine zl_iconst (pc := 1167) (n := 1) F (by decide +kernel) ⟨by decide, by decide⟩ ?_
  refine zl_iadd (pc := 1168) F (by decide +kernel) (i + 1) rfl ⟨by omega, by omega⟩ ?_
  refine zl_sld (pc := 1169) F ⟨by omega, by omega⟩ (by decide +kernel) ?_
  refine zl_call (pc := 1170) (as := [vi (scr xs (i + 1))]) F ml_law_166 rfl ⟨rfl, by decide⟩ rfl rfl (Nat.le_of_ble_eq_true rfl) (dc := 400) (by decide) hkc (by decide +kernel) (CI.zl (CI.mono (fun y υ k => ?_) k))
  obtain ⟨rfl, k⟩ := k
  exact zl_eq (pc := 1173) (off := 346) 1519 F (by decide +kernel) (by decide) k
theorem lc_37 {E : EN} {p : Program} {e : Env} {s : State} {m : MethodId} {below : List Frame} {meth : Method} {c : Code} {b Ls kc ks : Nat} {xs : Nat → Int32} {i : Int} {σ : Mem} (F : LX E p s m meth c b Ls xs) (hi : 0 ≤ i ∧ i + 6 ≤ Ls) (hkc : kc ≤ 600000 ∧ ks ≤ 7302250) (k : CI E y_BC_keyAt 400 [vr 0, vi (scr xs (i + 1)), vi (scr xs (i + 2))] σ (fun x τ => CI E y_Mod_keyAt 400 [vr 115, vi (scr xs (i + 1)), vi (scr xs (i + 2))] τ (fun y υ => x = y ∧ ZL E p e s m below meth c b kc ks 1519 i [] υ))) : ZL E p e s m below meth c b kc ks 1178 i [] σ := by
  have hL := F.2.2.2.2.2.2.2.2.2.2.2.2.2
  have hi3 : i32 i := ⟨by omega, by omega⟩
  refine zl_a1 (pc := 1178) F (by decide +kernel) ?_
  refine zl_a0 (pc := 1179) F (by decide +kernel) ?_
  refine zl_i3 (pc := 1180) F hi3 (by decide +kernel) ?_
  refine zl_iconst (pc := 1181) (n := 1) F (by decide +kernel) ⟨by decide, by decide⟩ ?_
  refine zl_iadd (pc := 1182) F (by decide +kernel) (i + 1) rfl ⟨by omega, by omega⟩ ?_
  refine zl_sld (pc := 1183) F ⟨by omega, by omega⟩ (by decide +kernel) ?_
  refine zl_a0 (pc := 1184) F (by decide +kernel) ?_
  refine zl_i3 (pc := 1185) F hi3 (by decide +kernel) ?_
  refine zl_iconst (pc := 1186) (n := 2) F (by decide +kernel) ⟨by decide, by decide⟩ ?_
  refine zl_iadd (pc := 1187) F (by decide +kernel) (i + 2) rfl ⟨by omega, by omega⟩ ?_
  refine zl_sld (pc := 1188) F ⟨by omega, by omega⟩ (by decide +kernel) ?_
  refine zl_call (pc := 1189) (as := [vi (scr xs (i + 1)), vi (scr xs (i + 2))]) F ml_law_167 rfl ⟨rfl, by decide⟩ rfl rfl (Nat.le_of_ble_eq_true rfl) (dc := 400) (by decide) hkc (by decide +kernel) (CI.zl (CI.mono (fun x τ k => ?_) k))
  refine zl_a2 (pc := 1192) F (by decide +kernel) ?_
  refine zl_a0 (pc := 1193) F (by decide +kernel) ?_
  refine zl_i3 (pc := 1194) F hi3 (by decide +kernel) ?_
  refine zl_iconst (pc := 1195) (n := 1) F (by decide +kernel) ⟨by decide, by decide⟩ ?_
  refine zl_iadd (pc := 1196) F (by decide +kernel) (i + 1) rfl ⟨by omega, by omega⟩ ?_
  refine zl_sld (pc := 1197) F ⟨by omega, by omega⟩ (by decide +kernel) ?_
  refine zl_a0 (pc := 1198) F (by decide +kernel) ?_
  refine zl_i3 (pc := 1199) F hi3 (by decide +kernel) ?_
  refine zl_iconst (pc := 1200) (n := 2) F (by decide +kernel) ⟨by decide, by decide⟩ ?_
  refine zl_iadd (pc := 1201) F (by decide +kernel) (i + 2) rfl ⟨by omega, by omega⟩ ?_
  refine zl_sld (pc := 1202) F ⟨by omega, by omega⟩ (by decide +kernel) ?_
  refine zl_call (pc := 1203) (as := [vi (scr xs (i + 1)), vi (scr xs (i + 2))]) F ml_law_170 rfl ⟨rfl, by decide⟩ rfl rfl (Nat.le_of_ble_eq_true rfl) (dc := 400) (by decide) hkc (by decide +kernel) (CI.zl (CI.mono (fun y υ k => ?_) k))
  obtain ⟨rfl, k⟩ := k
  exact zl_eq (pc := 1206) (off := 313) 1519 F (by decide +kernel) (by decide) k
theorem lc_38 {E : EN} {p : Program} {e : Env} {s : State} {m : MethodId} {below : List Frame} {meth : Method} {c : Code} {b Ls kc ks : Nat} {xs : Nat → Int32} {i : Int} {σ : Mem} (F : LX E p s m meth c b Ls xs) (hi : 0 ≤ i ∧ i + 6 ≤ Ls) (hkc : kc ≤ 600000 ∧ ks ≤ 7302250) (k : CI E y_BC_place 400 [vr 0, vi (scr xs (i + 1)), vi (scr xs (i + 2))] σ (fun x τ => CI E y_Mod_place 400 [vr 115, vi (scr xs (i + 1)), vi (scr xs (i + 2))] τ (fun y υ => x = y ∧ ZL E p e s m below meth c b kc ks 1519 i [] υ))) : ZL E p e s m below meth c b kc ks 1211 i [] σ := by
  have hL := F.2.2.2.2.2.2.2.2.2.2.2.2.2
  have hi3 : i32 i := ⟨by omega, by omega⟩
  refine zl_a1 (pc := 1211) F (by decide +kernel) ?_
  refine zl_a0 (pc := 1212) F (by decide +kernel) ?_
  refine zl_i3 (pc := 1213) F hi3 (by decide +kernel) ?_
  refine zl_iconst (pc := 1214) (n := 1) F (by decide +kernel) ⟨by decide, by decide⟩ ?_
  refine zl_iadd (pc := 1215) F (by decide +kernel) (i + 1) rfl ⟨by omega, by omega⟩ ?_
  refine zl_sld (pc := 1216) F ⟨by omega, by omega⟩ (by decide +kernel) ?_
  refine zl_a0 (pc := 1217) F (by decide +kernel) ?_
  refine zl_i3 (pc := 1218) F hi3 (by decide +kernel) ?_
  refine zl_iconst (pc := 1219) (n := 2) F (by decide +kernel) ⟨by decide, by decide⟩ ?_
  refine zl_iadd (pc := 1220) F (by decide +kernel) (i + 2) rfl ⟨by omega, by omega⟩ ?_
  refine zl_sld (pc := 1221) F ⟨by omega, by omega⟩ (by decide +kernel) ?_
  refine zl_call (pc := 1222) (as := [vi (scr xs (i + 1)), vi (scr xs (i + 2))]) F ml_law_171 rfl ⟨rfl, by decide⟩ rfl rfl (Nat.le_of_ble_eq_true rfl) (dc := 400) (by decide) hkc (by decide +kernel) (CI.zl (CI.mono (fun x τ k => ?_) k))
  refine zl_a2 (pc := 1225) F (by decide +kernel) ?_
  refine zl_a0 (pc := 1226) F (by decide +kernel) ?_
  refine zl_i3 (pc := 1227) F hi3 (by decide +kernel) ?_
  refine zl_iconst (pc := 1228) (n := 1) F (by decide +kernel) ⟨by decide, by decide⟩ ?_
  refine zl_iadd (pc := 1229) F (by decide +kernel) (i + 1) rfl ⟨by omega, by omega⟩ ?_
  refine zl_sld (pc := 1230) F ⟨by omega, by omega⟩ (by decide +kernel) ?_
  refine zl_a0 (pc := 1231) F (by decide +kernel) ?_
  refine zl_i3 (pc := 1232) F hi3 (by decide +kernel) ?_
  refine zl_iconst (pc := 1233) (n := 2) F (by decide +kernel) ⟨by decide, by decide⟩ ?_
  refine zl_iadd (pc := 1234) F (by decide +kernel) (i + 2) rfl ⟨by omega, by omega⟩ ?_
  refine zl_sld (pc := 1235) F ⟨by omega, by omega⟩ (by decide +kernel) ?_
  refine zl_call (pc := 1236) (as := [vi (scr xs (i + 1)), vi (scr xs (i + 2))]) F ml_law_174 rfl ⟨rfl, by decide⟩ rfl rfl (Nat.le_of_ble_eq_true rfl) (dc := 400) (by decide) hkc (by decide +kernel) (CI.zl (CI.mono (fun y υ k => ?_) k))
  obtain ⟨rfl, k⟩ := k
  exact zl_eq (pc := 1239) (off := 280) 1519 F (by decide +kernel) (by decide) k
theorem lc_39 {E : EN} {p : Program} {e : Env} {s : State} {m : MethodId} {below : List Frame} {meth : Method} {c : Code} {b Ls kc ks : Nat} {xs : Nat → Int32} {i : Int} {σ : Mem} (F : LX E p s m meth c b Ls xs) (hi : 0 ≤ i ∧ i + 6 ≤ Ls) (hkc : kc ≤ 600000 ∧ ks ≤ 7302250) (k : CI E y_BC_plain 400 [vr 0, vi (scr xs (i + 1)), vi (scr xs (i + 2)), vi (scr xs (i + 3))] σ (fun x τ => CI E y_Mod_plain 400 [vr 115, vi (scr xs (i + 1)), vi (scr xs (i + 2)), vi (scr xs (i + 3))] τ (fun y υ => x = y ∧ ZL E p e s m below meth c b kc ks 1519 i [] υ))) : ZL E p e s m below meth c b kc ks 1244 i [] σ := by
  have hL := F.2.2.2.2.2.2.2.2.2.2.2.2.2
  have hi3 : i32 i := ⟨by omega, by omega⟩
  refine zl_a1 (pc := 1244) F (by decide +kernel) ?_
  refine zl_a0 (pc := 1245) F (by decide +kernel) ?_
  refine zl_i3 (pc := 1246) F hi3 (by decide +kernel) ?_
  refine zl_iconst (pc := 1247) (n := 1) F (by decide +kernel) ⟨by decide, by decide⟩ ?_
  refine zl_iadd (pc := 1248) F (by decide +kernel) (i + 1) rfl ⟨by omega, by omega⟩ ?_
  refine zl_sld (pc := 1249) F ⟨by omega, by omega⟩ (by decide +kernel) ?_
  refine zl_a0 (pc := 1250) F (by decide +kernel) ?_
  refine zl_i3 (pc := 1251) F hi3 (by decide +kernel) ?_
  refine zl_iconst (pc := 1252) (n := 2) F (by decide +kernel) ⟨by decide, by decide⟩ ?_
  refine zl_iadd (pc := 1253) F (by decide +kernel) (i + 2) rfl ⟨by omega, by omega⟩ ?_
  refine zl_sld (pc := 1254) F ⟨by omega, by omega⟩ (by decide +kernel) ?_
  refine zl_a0 (pc := 1255) F (by decide +kernel) ?_
  refine zl_i3 (pc := 1256) F hi3 (by decide +kernel) ?_
  refine zl_iconst (pc := 1257) (n := 3) F (by decide +kernel) ⟨by decide, by decide⟩ ?_
  refine zl_iadd (pc := 1258) F (by decide +kernel) (i + 3) rfl ⟨by omega, by omega⟩ ?_
  refine zl_sld (pc := 1259) F ⟨by omega, by omega⟩ (by decide +kernel) ?_
  refine zl_call (pc := 1260) (as := [vi (scr xs (i + 1)), vi (scr xs (i + 2)), vi (scr xs (i + 3))]) F ml_law_175 rfl ⟨rfl, by decide⟩ rfl rfl (Nat.le_of_ble_eq_true rfl) (dc := 400) (by decide) hkc (by decide +kernel) (CI.zl (CI.mono (fun x τ k => ?_) k))
  refine zl_a2 (pc := 1263) F (by decide +kernel) ?_
  refine zl_a0 (pc := 1264) F (by decide +kernel) ?_
  refine zl_i3 (pc := 1265) F hi3 (by decide +kernel) ?_
  refine zl_iconst (pc := 1266) (n := 1) F (by decide +kernel) ⟨by decide, by decide⟩ ?_
  refine zl_iadd (pc := 1267) F (by decide +kernel) (i + 1) rfl ⟨by omega, by omega⟩ ?_
  refine zl_sld (pc := 1268) F ⟨by omega, by omega⟩ (by decide +kernel) ?_
  refine zl_a0 (pc := 1269) F (by decide +kernel) ?_
  refine zl_i3 (pc := 1270) F hi3 (by decide +kernel) ?_
  refine zl_iconst (pc := 1271) (n := 2) F (by decide +kernel) ⟨by decide, by decide⟩ ?_
  refine zl_iadd (pc := 1272) F (by decide +kernel) (i + 2) rfl ⟨by omega, by omega⟩ ?_
  refine zl_sld (pc := 1273) F ⟨by omega, by omega⟩ (by decide +kernel) ?_
  refine zl_a0 (pc := 1274) F (by decide +kernel) ?_
  refine zl_i3 (pc := 1275) F hi3 (by decide +kernel) ?_
  refine zl_iconst (pc := 1276) (n := 3) F (by decide +kernel) ⟨by decide, by decide⟩ ?_
  refine zl_iadd (pc := 1277) F (by decide +kernel) (i + 3) rfl ⟨by omega, by omega⟩ ?_
  refine zl_sld (pc := 1278) F ⟨by omega, by omega⟩ (by decide +kernel) ?_
  refine zl_call (pc := 1279) (as := [vi (scr xs (i + 1)), vi (scr xs (i + 2)), vi (scr xs (i + 3))]) F ml_law_178 rfl ⟨rfl, by decide⟩ rfl rfl (Nat.le_of_ble_eq_true rfl) (dc := 400) (by decide) hkc (by decide +kernel) (CI.zl (CI.mono (fun y υ k => ?_) k))
  obtain ⟨rfl, k⟩ := k
  exact zl_eq (pc := 1282) (off := 237) 1519 F (by decide +kernel) (by decide) k
theorem lc_40 {E : EN} {p : Program} {e : Env} {s : State} {m : MethodId} {below : List Frame} {meth : Method} {c : Code} {b Ls kc ks : Nat} {xs : Nat → Int32} {i : Int} {σ : Mem} (F : LX E p s m meth c b Ls xs) (hi : 0 ≤ i ∧ i + 6 ≤ Ls) (hkc : kc ≤ 600000 ∧ ks ≤ 7302250) (k : CI E y_BC_look 400 [vr 0, vi (scr xs (i + 1))] σ (fun x τ => CI E y_Mod_look 400 [vr 115, vi (scr xs (i + 1))] τ (fun y υ => x = y ∧ ZL E p e s m below meth c b kc ks 1519 i [] υ))) : ZL E p e s m below meth c b kc ks 1287 i [] σ := by
  have hL := F.2.2.2.2.2.2.2.2.2.2.2.2.2
  have hi3 : i32 i := ⟨by omega, by omega⟩
  refine zl_a1 (pc := 1287) F (by decide +kernel) ?_
  refine zl_a0 (pc := 1288) F (by decide +kernel) ?_
  refine zl_i3 (pc := 1289) F hi3 (by decide +kernel) ?_
  refine zl_iconst (pc := 1290) (n := 1) F (by decide +kernel) ⟨by decide, by decide⟩ ?_
  refine zl_iadd (pc := 1291) F (by decide +kernel) (i + 1) rfl ⟨by omega, by omega⟩ ?_
  refine zl_sld (pc := 1292) F ⟨by omega, by omega⟩ (by decide +kernel) ?_
  refine zl_call (pc := 1293) (as := [vi (scr xs (i + 1))]) F ml_law_179 rfl ⟨rfl, by decide⟩ rfl rfl (Nat.le_of_ble_eq_true rfl) (dc := 400) (by decide) hkc (by decide +kernel) (CI.zl (CI.mono (fun x τ k => ?_) k))
  refine zl_a2 (pc := 1296) F (by decide +kernel) ?_
  refine zl_a0 (pc := 1297) F (by decide +kernel) ?_
  refine zl_i3 (pc := 1298) F hi3 (by decide +kernel) ?_
  refine zl_iconst (pc := 1299) (n := 1) F (by decide +kernel) ⟨by decide, by decide⟩ ?_
  refine zl_iadd (pc := 1300) F (by decide +kernel) (i + 1) rfl ⟨by omega, by omega⟩ ?_
  refine zl_sld (pc := 1301) F ⟨by omega, by omega⟩ (by decide +kernel) ?_
  refine zl_call (pc := 1302) (as := [vi (scr xs (i + 1))]) F ml_law_182 rfl ⟨rfl, by decide⟩ rfl rfl (Nat.le_of_ble_eq_true rfl) (dc := 400) (by decide) hkc (by decide +kernel) (CI.zl (CI.mono (fun y υ k => ?_) k))
  obtain ⟨rfl, k⟩ := k
  exact zl_eq (pc := 1305) (off := 214) 1519 F (by decide +kernel) (by decide) k
theorem lc_41 {E : EN} {p : Program} {e : Env} {s : State} {m : MethodId} {below : List Frame} {meth : Method} {c : Code} {b Ls kc ks : Nat} {xs : Nat → Int32} {i : Int} {σ : Mem} (F : LX E p s m meth c b Ls xs) (hi : 0 ≤ i ∧ i + 6 ≤ Ls) (hkc : kc ≤ 600000 ∧ ks ≤ 7302250) (k : CI E y_BC_numbers 400 [vr 0, vi (scr xs (i + 1)), vi (scr xs (i + 2)), vi (scr xs (i + 3))] σ (fun x τ => CI E y_Mod_numbers 400 [vr 115, vi (scr xs (i + 1)), vi (scr xs (i + 2)), vi (scr xs (i + 3))] τ (fun y υ => x = y ∧ ZL E p e s m below meth c b kc ks 1519 i [] υ))) : ZL E p e s m below meth c b kc ks 1310 i [] σ := by
  have hL := F.2.2.2.2.2.2.2.2.2.2.2.2.2
  have hi3 : i32 i := ⟨by omega, by omega⟩
  refine zl_a1 (pc := 1310) F (by decide +kernel) ?_
  refine zl_a0 (pc := 1311) F (by decide +kernel) ?_
  refine zl_i3 (pc := 1312) F hi3 (by decide +kernel) ?_
  refine zl_iconst (pc := 1313) (n := 1) F (by decide +kernel) ⟨by decide, by decide⟩ ?_
  refine zl_iadd (pc := 1314) F (by decide +kernel) (i + 1) rfl ⟨by omega, by omega⟩ ?_
  refine zl_sld (pc := 1315) F ⟨by omega, by omega⟩ (by decide +kernel) ?_
  refine zl_a0 (pc := 1316) F (by decide +kernel) ?_
  refine zl_i3 (pc := 1317) F hi3 (by decide +kernel) ?_
  refine zl_iconst (pc := 1318) (n := 2) F (by decide +kernel) ⟨by decide, by decide⟩ ?_
  refine zl_iadd (pc := 1319) F (by decide +kernel) (i + 2) rfl ⟨by omega, by omega⟩ ?_
  refine zl_sld (pc := 1320) F ⟨by omega, by omega⟩ (by decide +kernel) ?_
  refine zl_a0 (pc := 1321) F (by decide +kernel) ?_
  refine zl_i3 (pc := 1322) F hi3 (by decide +kernel) ?_
  refine zl_iconst (pc := 1323) (n := 3) F (by decide +kernel) ⟨by decide, by decide⟩ ?_
  refine zl_iadd (pc := 1324) F (by decide +kernel) (i + 3) rfl ⟨by omega, by omega⟩ ?_
  refine zl_sld (pc := 1325) F ⟨by omega, by omega⟩ (by decide +kernel) ?_
  refine zl_call (pc := 1326) (as := [vi (scr xs (i + 1)), vi (scr xs (i + 2)), vi (scr xs (i + 3))]) F ml_law_183 rfl ⟨rfl, by decide⟩ rfl rfl (Nat.le_of_ble_eq_true rfl) (dc := 400) (by decide) hkc (by decide +kernel) (CI.zl (CI.mono (fun x τ k => ?_) k))
  refine zl_a2 (pc := 1329) F (by decide +kernel) ?_
  refine zl_a0 (pc := 1330) F (by decide +kernel) ?_
  refine zl_i3 (pc := 1331) F hi3 (by decide +kernel) ?_
  refine zl_iconst (pc := 1332) (n := 1) F (by decide +kernel) ⟨by decide, by decide⟩ ?_
  refine zl_iadd (pc := 1333) F (by decide +kernel) (i + 1) rfl ⟨by omega, by omega⟩ ?_
  refine zl_sld (pc := 1334) F ⟨by omega, by omega⟩ (by decide +kernel) ?_
  refine zl_a0 (pc := 1335) F (by decide +kernel) ?_
  refine zl_i3 (pc := 1336) F hi3 (by decide +kernel) ?_
  refine zl_iconst (pc := 1337) (n := 2) F (by decide +kernel) ⟨by decide, by decide⟩ ?_
  refine zl_iadd (pc := 1338) F (by decide +kernel) (i + 2) rfl ⟨by omega, by omega⟩ ?_
  refine zl_sld (pc := 1339) F ⟨by omega, by omega⟩ (by decide +kernel) ?_
  refine zl_a0 (pc := 1340) F (by decide +kernel) ?_
  refine zl_i3 (pc := 1341) F hi3 (by decide +kernel) ?_
  refine zl_iconst (pc := 1342) (n := 3) F (by decide +kernel) ⟨by decide, by decide⟩ ?_
  refine zl_iadd (pc := 1343) F (by decide +kernel) (i + 3) rfl ⟨by omega, by omega⟩ ?_
  refine zl_sld (pc := 1344) F ⟨by omega, by omega⟩ (by decide +kernel) ?_
  refine zl_call (pc := 1345) (as := [vi (scr xs (i + 1)), vi (scr xs (i + 2)), vi (scr xs (i + 3))]) F ml_law_186 rfl ⟨rfl, by decide⟩ rfl rfl (Nat.le_of_ble_eq_true rfl) (dc := 400) (by decide) hkc (by decide +kernel) (CI.zl (CI.mono (fun y υ k => ?_) k))
  obtain ⟨rfl, k⟩ := k
  exact zl_eq (pc := 1348) (off := 171) 1519 F (by decide +kernel) (by decide) k
theorem lc_42 {E : EN} {p : Program} {e : Env} {s : State} {m : MethodId} {below : List Frame} {meth : Method} {c : Code} {b Ls kc ks : Nat} {xs : Nat → Int32} {i : Int} {σ : Mem} (F : LX E p s m meth c b Ls xs) (hi : 0 ≤ i ∧ i + 6 ≤ Ls) (hkc : kc ≤ 600000 ∧ ks ≤ 7302250) (k : CL E y_BC_write 400 [vr 0, vi (scr xs (i + 1)), vi (scr xs (i + 2)), vl (lor (lsh (scr xs (i + 3)) 32) (lan (scr xs (i + 4)) 4294967295))] σ (fun x τ => CL E y_Mod_write 400 [vr 115, vi (scr xs (i + 1)), vi (scr xs (i + 2)), vl (lor (lsh (scr xs (i + 3)) 32) (lan (scr xs (i + 4)) 4294967295))] τ (fun y υ => x = y ∧ ZL E p e s m below meth c b kc ks 1519 i [] υ))) : ZL E p e s m below meth c b kc ks 1353 i [] σ := by
  have hL := F.2.2.2.2.2.2.2.2.2.2.2.2.2
  have hi3 : i32 i := ⟨by omega, by omega⟩
  refine zl_a1 (pc := 1353) F (by decide +kernel) ?_
  refine zl_a0 (pc := 1354) F (by decide +kernel) ?_
  refine zl_i3 (pc := 1355) F hi3 (by decide +kernel) ?_
  refine zl_iconst (pc := 1356) (n := 1) F (by decide +kernel) ⟨by decide, by decide⟩ ?_
  refine zl_iadd (pc := 1357) F (by decide +kernel) (i + 1) rfl ⟨by omega, by omega⟩ ?_
  refine zl_sld (pc := 1358) F ⟨by omega, by omega⟩ (by decide +kernel) ?_
  refine zl_a0 (pc := 1359) F (by decide +kernel) ?_
  refine zl_i3 (pc := 1360) F hi3 (by decide +kernel) ?_
  refine zl_iconst (pc := 1361) (n := 2) F (by decide +kernel) ⟨by decide, by decide⟩ ?_
  refine zl_iadd (pc := 1362) F (by decide +kernel) (i + 2) rfl ⟨by omega, by omega⟩ ?_
  refine zl_sld (pc := 1363) F ⟨by omega, by omega⟩ (by decide +kernel) ?_
  refine zl_a0 (pc := 1364) F (by decide +kernel) ?_
  refine zl_i3 (pc := 1365) F hi3 (by decide +kernel) ?_
  refine zl_iconst (pc := 1366) (n := 3) F (by decide +kernel) ⟨by decide, by decide⟩ ?_
  refine zl_iadd (pc := 1367) F (by decide +kernel) (i + 3) rfl ⟨by omega, by omega⟩ ?_
  refine zl_sld (pc := 1368) F ⟨by omega, by omega⟩ (by decide +kernel) ?_
  refine zl_i2l (pc := 1369) F (by decide +kernel) ?_
  refine zl_bipush (pc := 1370) (n := 32) F (by decide +kernel) (by decide) ⟨by decide, by decide⟩ ?_
  refine zl_lshl (pc := 1372) F (by decide +kernel) ?_
  refine zl_a0 (pc := 1373) F (by decide +kernel) ?_
  refine zl_i3 (pc := 1374) F hi3 (by decide +kernel) ?_
  refine zl_iconst (pc := 1375) (n := 4) F (by decide +kernel) ⟨by decide, by decide⟩ ?_
  refine zl_iadd (pc := 1376) F (by decide +kernel) (i + 4) rfl ⟨by omega, by omega⟩ ?_
  refine zl_sld (pc := 1377) F ⟨by omega, by omega⟩ (by decide +kernel) ?_
  refine zl_i2l (pc := 1378) F (by decide +kernel) ?_
  refine zl_ldc2 (pc := 1379) (index := 187) 4294967295 F (mm9 25 rfl) ⟨by decide, by decide⟩ (by decide +kernel) ?_
  refine zl_land (pc := 1382) F (by decide +kernel) ?_
  refine zl_lor (pc := 1383) F (by decide +kernel) ?_
  refine zl_call (pc := 1384) (as := [vi (scr xs (i + 1)), vi (scr xs (i + 2)), vl (lor (lsh (scr xs (i + 3)) 32) (lan (scr xs (i + 4)) 4294967295))]) F ml_law_189 rfl ⟨rfl, by decide⟩ rfl rfl (Nat.le_of_ble_eq_true rfl) (dc := 400) (by decide) hkc (by decide +kernel) (CL.zl (CL.mono (fun x τ k => ?_) k))
  refine zl_a2 (pc := 1387) F (by decide +kernel) ?_
  refine zl_a0 (pc := 1388) F (by decide +kernel) ?_
  refine zl_i3 (pc := 1389) F hi3 (by decide +kernel) ?_
  refine zl_iconst (pc := 1390) (n := 1) F (by decide +kernel) ⟨by decide, by decide⟩ ?_
  refine zl_iadd (pc := 1391) F (by decide +kernel) (i + 1) rfl ⟨by omega, by omega⟩ ?_
  refine zl_sld (pc := 1392) F ⟨by omega, by omega⟩ (by decide +kernel) ?_
  refine zl_a0 (pc := 1393) F (by decide +kernel) ?_
  refine zl_i3 (pc := 1394) F hi3 (by decide +kernel) ?_
  refine zl_iconst (pc := 1395) (n := 2) F (by decide +kernel) ⟨by decide, by decide⟩ ?_
  refine zl_iadd (pc := 1396) F (by decide +kernel) (i + 2) rfl ⟨by omega, by omega⟩ ?_
  refine zl_sld (pc := 1397) F ⟨by omega, by omega⟩ (by decide +kernel) ?_
  refine zl_a0 (pc := 1398) F (by decide +kernel) ?_
  refine zl_i3 (pc := 1399) F hi3 (by decide +kernel) ?_
  refine zl_iconst (pc := 1400) (n := 3) F (by decide +kernel) ⟨by decide, by decide⟩ ?_
  refine zl_iadd (pc := 1401) F (by decide +kernel) (i + 3) rfl ⟨by omega, by omega⟩ ?_
  refine zl_sld (pc := 1402) F ⟨by omega, by omega⟩ (by decide +kernel) ?_
  refine zl_i2l (pc := 1403) F (by decide +kernel) ?_
  refine zl_bipush (pc := 1404) (n := 32) F (by decide +kernel) (by decide) ⟨by decide, by decide⟩ ?_
  refine zl_lshl (pc := 1406) F (by decide +kernel) ?_
  refine zl_a0 (pc := 1407) F (by decide +kernel) ?_
  refine zl_i3 (pc := 1408) F hi3 (by decide +kernel) ?_
  refine zl_iconst (pc := 1409) (n := 4) F (by decide +kernel) ⟨by decide, by decide⟩ ?_
  refine zl_iadd (pc := 1410) F (by decide +kernel) (i + 4) rfl ⟨by omega, by omega⟩ ?_
  refine zl_sld (pc := 1411) F ⟨by omega, by omega⟩ (by decide +kernel) ?_
  refine zl_i2l (pc := 1412) F (by decide +kernel) ?_
  refine zl_ldc2 (pc := 1413) (index := 187) 4294967295 F (mm9 25 rfl) ⟨by decide, by decide⟩ (by decide +kernel) ?_
  refine zl_land (pc := 1416) F (by decide +kernel) ?_
  refine zl_lor (pc := 1417) F (by decide +kernel) ?_
  refine zl_call (pc := 1418) (as := [vi (scr xs (i + 1)), vi (scr xs (i + 2)), vl (lor (lsh (scr xs (i + 3)) 32) (lan (scr xs (i + 4)) 4294967295))]) F ml_law_193 rfl ⟨rfl, by decide⟩ rfl rfl (Nat.le_of_ble_eq_true rfl) (dc := 400) (by decide) hkc (by decide +kernel) (CL.zl (CL.mono (fun y υ k => ?_) k))
  obtain ⟨rfl, k⟩ := k
  exact zl_leq (pc := 1421) (off := 97) 1519 F (by decide +kernel) (by decide +kernel) (by decide) k
theorem lc_43 {E : EN} {p : Program} {e : Env} {s : State} {m : MethodId} {below : List Frame} {meth : Method} {c : Code} {b Ls kc ks : Nat} {xs : Nat → Int32} {i : Int} {σ : Mem} (F : LX E p s m meth c b Ls xs) (hi : 0 ≤ i ∧ i + 6 ≤ Ls) (hkc : kc ≤ 600000 ∧ ks ≤ 7302250) (k : CI E y_BC_lists 400 [vr 0, vi (scr xs (i + 1))] σ (fun x τ => CI E y_Mod_lists 400 [vr 115, vi (scr xs (i + 1))] τ (fun y υ => x = y ∧ ZL E p e s m below meth c b kc ks 1519 i [] υ))) : ZL E p e s m below meth c b kc ks 1427 i [] σ := by
  have hL := F.2.2.2.2.2.2.2.2.2.2.2.2.2
  have hi3 : i32 i := ⟨by omega, by omega⟩
  refine zl_a1 (pc := 1427) F (by decide +kernel) ?_
  refine zl_a0 (pc := 1428) F (by decide +kernel) ?_
  refine zl_i3 (pc := 1429) F hi3 (by decide +kernel) ?_
  refine zl_iconst (pc := 1430) (n := 1) F (by decide +kernel) ⟨by decide, by decide⟩ ?_
  refine zl_iadd (pc := 1431) F (by decide +kernel) (i + 1) rfl ⟨by omega, by omega⟩ ?_
  refine zl_sld (pc := 1432) F ⟨by omega, by omega⟩ (by decide +kernel) ?_
  refine zl_call (pc := 1433) (as := [vi (scr xs (i + 1))]) F ml_law_194 rfl ⟨rfl, by decide⟩ rfl rfl (Nat.le_of_ble_eq_true rfl) (dc := 400) (by decide) hkc (by decide +kernel) (CI.zl (CI.mono (fun x τ k => ?_) k))
  refine zl_a2 (pc := 1436) F (by decide +kernel) ?_
  refine zl_a0 (pc := 1437) F (by decide +kernel) ?_
  refine zl_i3 (pc := 1438) F hi3 (by decide +kernel) ?_
  refine zl_iconst (pc := 1439) (n := 1) F (by decide +kernel) ⟨by decide, by decide⟩ ?_
  refine zl_iadd (pc := 1440) F (by decide +kernel) (i + 1) rfl ⟨by omega, by omega⟩ ?_
  refine zl_sld (pc := 1441) F ⟨by omega, by omega⟩ (by decide +kernel) ?_
  refine zl_call (pc := 1442) (as := [vi (scr xs (i + 1))]) F ml_law_197 rfl ⟨rfl, by decide⟩ rfl rfl (Nat.le_of_ble_eq_true rfl) (dc := 400) (by decide) hkc (by decide +kernel) (CI.zl (CI.mono (fun y υ k => ?_) k))
  obtain ⟨rfl, k⟩ := k
  exact zl_eq (pc := 1445) (off := 74) 1519 F (by decide +kernel) (by decide) k
theorem lc_44 {E : EN} {p : Program} {e : Env} {s : State} {m : MethodId} {below : List Frame} {meth : Method} {c : Code} {b Ls kc ks : Nat} {xs : Nat → Int32} {i : Int} {σ : Mem} (F : LX E p s m meth c b Ls xs) (hi : 0 ≤ i ∧ i + 6 ≤ Ls) (hkc : kc ≤ 600000 ∧ ks ≤ 7302250) (k : CI E y_BC_image 400 [vr 0, vi (scr xs (i + 1))] σ (fun x τ => CI E y_Mod_image 400 [vr 115, vi (scr xs (i + 1))] τ (fun y υ => x = y ∧ ZL E p e s m below meth c b kc ks 1519 i [] υ))) : ZL E p e s m below meth c b kc ks 1450 i [] σ := by
  have hL := F.2.2.2.2.2.2.2.2.2.2.2.2.2
  have hi3 : i32 i := ⟨by omega, by omega⟩
  refine zl_a1 (pc := 1450) F (by decide +kernel) ?_
  refine zl_a0 (pc := 1451) F (by decide +kernel) ?_
  refine zl_i3 (pc := 1452) F hi3 (by decide +kernel) ?_
  refine zl_iconst (pc := 1453) (n := 1) F (by decide +kernel) ⟨by decide, by decide⟩ ?_
  refine zl_iadd (pc := 1454) F (by decide +kernel) (i + 1) rfl ⟨by omega, by omega⟩ ?_
  refine zl_sld (pc := 1455) F ⟨by omega, by omega⟩ (by decide +kernel) ?_
  refine zl_call (pc := 1456) (as := [vi (scr xs (i + 1))]) F ml_law_198 rfl ⟨rfl, by decide⟩ rfl rfl (Nat.le_of_ble_eq_true rfl) (dc := 400) (by decide) hkc (by decide +kernel) (CI.zl (CI.mono (fun x τ k => ?_) k))
  refine zl_a2 (pc := 1459) F (by decide +kernel) ?_
  refine zl_a0 (pc := 1460) F (by decide +kernel) ?_
  refine zl_i3 (pc := 1461) F hi3 (by decide +kernel) ?_
  refine zl_iconst (pc := 1462) (n := 1) F (by decide +kernel) ⟨by decide, by decide⟩ ?_
  refine zl_iadd (pc := 1463) F (by decide +kernel) (i + 1) rfl ⟨by omega, by omega⟩ ?_
  refine zl_sld (pc := 1464) F ⟨by omega, by omega⟩ (by decide +kernel) ?_
  refine zl_call (pc := 1465) (as := [vi (scr xs (i + 1))]) F ml_law_201 rfl ⟨rfl, by decide⟩ rfl rfl (Nat.le_of_ble_eq_true rfl) (dc := 400) (by decide) hkc (by decide +kernel) (CI.zl (CI.mono (fun y υ k => ?_) k))
  obtain ⟨rfl, k⟩ := k
  exact zl_eq (pc := 1468) (off := 51) 1519 F (by decide +kernel) (by decide) k
theorem lc_45 {E : EN} {p : Program} {e : Env} {s : State} {m : MethodId} {below : List Frame} {meth : Method} {c : Code} {b Ls kc ks : Nat} {xs : Nat → Int32} {i : Int} {σ : Mem} (F : LX E p s m meth c b Ls xs) (hi : 0 ≤ i ∧ i + 6 ≤ Ls) (hkc : kc ≤ 600000 ∧ ks ≤ 7302250) (k : CI E y_BC_restore 400 [vr 0, vi (scr xs (i + 1))] σ (fun x τ => CI E y_Mod_restore 400 [vr 115, vi (scr xs (i + 1))] τ (fun y υ => x = y ∧ ZL E p e s m below meth c b kc ks 1519 i [] υ))) : ZL E p e s m below meth c b kc ks 1473 i [] σ := by
  have hL := F.2.2.2.2.2.2.2.2.2.2.2.2.2
  have hi3 : i32 i := ⟨by omega, by omega⟩
  refine zl_a1 (pc := 1473) F (by decide +kernel) ?_
  refine zl_a0 (pc := 1474) F (by decide +kernel) ?_
  refine zl_i3 (pc := 1475) F hi3 (by decide +kernel) ?_
  refine zl_iconst (pc := 1476) (n := 1) F (by decide +kernel) ⟨by decide, by decide⟩ ?_
  refine zl_iadd (pc := 1477) F (by decide +kernel) (i + 1) rfl ⟨by omega, by omega⟩ ?_
  refine zl_sld (pc := 1478) F ⟨by omega, by omega⟩ (by decide +kernel) ?_
  refine zl_call (pc := 1479) (as := [vi (scr xs (i + 1))]) F ml_law_202 rfl ⟨rfl, by decide⟩ rfl rfl (Nat.le_of_ble_eq_true rfl) (dc := 400) (by decide) hkc (by decide +kernel) (CI.zl (CI.mono (fun x τ k => ?_) k))
  refine zl_a2 (pc := 1482) F (by decide +kernel) ?_
  refine zl_a0 (pc := 1483) F (by decide +kernel) ?_
  refine zl_i3 (pc := 1484) F hi3 (by decide +kernel) ?_
  refine zl_iconst (pc := 1485) (n := 1) F (by decide +kernel) ⟨by decide, by decide⟩ ?_
  refine zl_iadd (pc := 1486) F (by decide +kernel) (i + 1) rfl ⟨by omega, by omega⟩ ?_
  refine zl_sld (pc := 1487) F ⟨by omega, by omega⟩ (by decide +kernel) ?_
  refine zl_call (pc := 1488) (as := [vi (scr xs (i + 1))]) F ml_law_205 rfl ⟨rfl, by decide⟩ rfl rfl (Nat.le_of_ble_eq_true rfl) (dc := 400) (by decide) hkc (by decide +kernel) (CI.zl (CI.mono (fun y υ k => ?_) k))
  obtain ⟨rfl, k⟩ := k
  exact zl_eq (pc := 1491) (off := 28) 1519 F (by decide +kernel) (by decide) k
theorem lc_46 {E : EN} {p : Program} {e : Env} {s : State} {m : MethodId} {below : List Frame} {meth : Method} {c : Code} {b Ls kc ks : Nat} {xs : Nat → Int32} {i : Int} {σ : Mem} (F : LX E p s m meth c b Ls xs) (hi : 0 ≤ i ∧ i + 6 ≤ Ls) (hkc : kc ≤ 600000 ∧ ks ≤ 7302250) (k : CI E y_BC_count 400 [vr 0, vi (scr xs (i + 1))] σ (fun x τ => CI E y_Mod_count 400 [vr 115, vi (scr xs (i + 1))] τ (fun y υ => x = y ∧ ZL E p e s m below meth c b kc ks 1519 i [] υ))) : ZL E p e s m below meth c b kc ks 1496 i [] σ := by
  have hL := F.2.2.2.2.2.2.2.2.2.2.2.2.2
  have hi3 : i32 i := ⟨by omega, by omega⟩
  refine zl_a1 (pc := 1496) F (by decide +kernel) ?_
  refine zl_a0 (pc := 1497) F (by decide +kernel) ?_
  refine zl_i3 (pc := 1498) F hi3 (by decide +kernel) ?_
  refine zl_iconst (pc := 1499) (n := 1) F (by decide +kernel) ⟨by decide, by decide⟩ ?_
  refine zl_iadd (pc := 1500) F (by decide +kernel) (i + 1) rfl ⟨by omega, by omega⟩ ?_
  refine zl_sld (pc := 1501) F ⟨by omega, by omega⟩ (by decide +kernel) ?_
  refine zl_call (pc := 1502) (as := [vi (scr xs (i + 1))]) F ml_law_206 rfl ⟨rfl, by decide⟩ rfl rfl (Nat.le_of_ble_eq_true rfl) (dc := 400) (by decide) hkc (by decide +kernel) (CI.zl (CI.mono (fun x τ k => ?_) k))
  refine zl_a2 (pc := 1505) F (by decide +kernel) ?_
  refine zl_a0 (pc := 1506) F (by decide +kernel) ?_
  refine zl_i3 (pc := 1507) F hi3 (by decide +kernel) ?_
  refine zl_iconst (pc := 1508) (n := 1) F (by decide +kernel) ⟨by decide, by decide⟩ ?_
  refine zl_iadd (pc := 1509) F (by decide +kernel) (i + 1) rfl ⟨by omega, by omega⟩ ?_
  refine zl_sld (pc := 1510) F ⟨by omega, by omega⟩ (by decide +kernel) ?_
  refine zl_call (pc := 1511) (as := [vi (scr xs (i + 1))]) F ml_law_209 rfl ⟨rfl, by decide⟩ rfl rfl (Nat.le_of_ble_eq_true rfl) (dc := 400) (by decide) hkc (by decide +kernel) (CI.zl (CI.mono (fun y υ k => ?_) k))
  obtain ⟨rfl, k⟩ := k
  exact zl_eq (pc := 1514) (off := 5) 1519 F (by decide +kernel) (by decide) k
/-- what is to be shown of an invariant I of the memory: both sides answer alike, and it holds again -/
def SP0 (I : Mem → Prop) : Prop := (∀ (E : EN) (σ : Mem) (v1 v2 v3 v4 v5 : Int), I σ → Rng σ → i32 v1 → i32 v2 → i32 v3 → i32 v4 → i32 v5 → CI E y_BC_feed 400 [vr 0, vi v1, vi v2, vi v3, vi v4, vi v5] σ (fun x τ => CI E y_Mod_feed 400 [vr 115, vi v1, vi v2, vi v3, vi v4, vi v5] τ (fun y υ => x = y ∧ I υ)))
def SP1 (I : Mem → Prop) : Prop := (∀ (E : EN) (σ : Mem) (v1 : Int), I σ → Rng σ → i32 v1 → CI E y_BC_room 400 [vr 0, vi v1] σ (fun x τ => CI E y_Mod_room 400 [vr 115, vi v1] τ (fun y υ => x = y ∧ I υ)))
def SP2 (I : Mem → Prop) : Prop := (∀ (E : EN) (σ : Mem) (v1 : Int), I σ → Rng σ → i32 v1 → CI E y_BC_fault 400 [vr 0, vi v1] σ (fun x τ => CI E y_Mod_fault 400 [vr 115, vi v1] τ (fun y υ => x = y ∧ I υ)))
def SP3 (I : Mem → Prop) : Prop := (∀ (E : EN) (σ : Mem) (v1 v2 : Int), I σ → Rng σ → i32 v1 → i32 v2 → CI E y_BC_letter 400 [vr 0, vi v1, vi v2] σ (fun x τ => CI E y_Mod_letter 400 [vr 115, vi v1, vi v2] τ (fun y υ => x = y ∧ I υ)))
def SP4 (I : Mem → Prop) : Prop := (∀ (E : EN) (σ : Mem) (v1 v2 : Int), I σ → Rng σ → i32 v1 → i32 v2 → CI E y_BC_hand 400 [vr 0, vi v1, vi v2] σ (fun x τ => CI E y_Mod_hand 400 [vr 115, vi v1, vi v2] τ (fun y υ => x = y ∧ I υ)))
def SP5 (I : Mem → Prop) : Prop := (∀ (E : EN) (σ : Mem) (v1 : Int), I σ → Rng σ → i32 v1 → CI E y_BC_court 400 [vr 0, vi v1] σ (fun x τ => CI E y_Mod_court 400 [vr 115, vi v1] τ (fun y υ => x = y ∧ I υ)))
def SP6 (I : Mem → Prop) : Prop := (∀ (E : EN) (σ : Mem) (v1 v2 : Int), I σ → Rng σ → i32 v1 → i32 v2 → CI E y_BC_takes 400 [vr 0, vi v1, vi v2] σ (fun x τ => CI E y_Mod_takes 400 [vr 115, vi v1, vi v2] τ (fun y υ => x = y ∧ I υ)))
def SP7 (I : Mem → Prop) : Prop := (∀ (E : EN) (σ : Mem) (v1 v2 : Int), I σ → Rng σ → i32 v1 → i32 v2 → CI E y_BC_copies 400 [vr 0, vi v1, vi v2] σ (fun x τ => CI E y_Mod_copies 400 [vr 115, vi v1, vi v2] τ (fun y υ => x = y ∧ I υ)))
def SP8 (I : Mem → Prop) : Prop := (∀ (E : EN) (σ : Mem) (v1 : Int), I σ → Rng σ → i32 v1 → CI E y_BC_name 400 [vr 0, vi v1] σ (fun x τ => CI E y_Mod_name 400 [vr 115, vi v1] τ (fun y υ => x = y ∧ I υ)))
def SP9 (I : Mem → Prop) : Prop := (∀ (E : EN) (σ : Mem) (v1 : Int), I σ → Rng σ → i32 v1 → CI E y_BC_seed 400 [vr 0, vi v1] σ (fun x τ => CI E y_Mod_seed 400 [vr 115, vi v1] τ (fun y υ => x = y ∧ I υ)))
def SP10 (I : Mem → Prop) : Prop := (∀ (E : EN) (σ : Mem) (v1 : Int), I σ → Rng σ → i32 v1 → CI E y_BC_morning 400 [vr 0, vi v1] σ (fun x τ => CI E y_Mod_morning 400 [vr 115, vi v1] τ (fun y υ => x = y ∧ I υ)))
def SP11 (I : Mem → Prop) : Prop := (∀ (E : EN) (σ : Mem), I σ → Rng σ → CI E y_BC_byRule 400 [vr 0] σ (fun x τ => CI E y_Mod_byRule 400 [vr 115] τ (fun y υ => x = y ∧ I υ)))
def SP12 (I : Mem → Prop) : Prop := (∀ (E : EN) (σ : Mem) (v1 : Int), I σ → Rng σ → i32 v1 → CI E y_BC_sleeps 400 [vr 0, vi v1] σ (fun x τ => CI E y_Mod_sleeps 400 [vr 115, vi v1] τ (fun y υ => x = y ∧ I υ)))
def SP13 (I : Mem → Prop) : Prop := (∀ (E : EN) (σ : Mem) (v1 : Int), I σ → Rng σ → i32 v1 → CI E y_BC_undo 400 [vr 0, vi v1] σ (fun x τ => CI E y_Mod_undo 400 [vr 115, vi v1] τ (fun y υ => x = y ∧ I υ)))
def SP14 (I : Mem → Prop) : Prop := (∀ (E : EN) (σ : Mem) (v1 v2 : Int), I σ → Rng σ → i32 v1 → i32 v2 → CI E y_BC_judge 400 [vr 0, vi v1, vi v2] σ (fun x τ => CI E y_Mod_judge 400 [vr 115, vi v1, vi v2] τ (fun y υ => x = y ∧ I υ)))
def SP15 (I : Mem → Prop) : Prop := (∀ (E : EN) (σ : Mem) (v1 : Int), I σ → Rng σ → i32 v1 → CI E y_BC_perform 400 [vr 0, vi v1] σ (fun x τ => CI E y_Mod_perform 400 [vr 115, vi v1] τ (fun y υ => x = y ∧ I υ)))
def SP16 (I : Mem → Prop) : Prop := (∀ (E : EN) (σ : Mem) (v1 v2 : Int), I σ → Rng σ → i32 v1 → i32 v2 → CI E y_BC_mornings 400 [vr 0, vi v1, vi v2] σ (fun x τ => CI E y_Mod_mornings 400 [vr 115, vi v1, vi v2] τ (fun y υ => x = y ∧ I υ)))
def SP17 (I : Mem → Prop) : Prop := (∀ (E : EN) (σ : Mem) (v1 v2 : Int), I σ → Rng σ → i32 v1 → i32 v2 → CI E y_BC_row 400 [vr 0, vi v1, vi v2] σ (fun x τ => CI E y_Mod_row 400 [vr 115, vi v1, vi v2] τ (fun y υ => x = y ∧ I υ)))
def SP18 (I : Mem → Prop) : Prop := (∀ (E : EN) (σ : Mem) (v1 v2 v3 : Int), I σ → Rng σ → i32 v1 → i32 v2 → i32 v3 → CI E y_BC_when 400 [vr 0, vi v1, vi v2, vi v3] σ (fun x τ => CI E y_Mod_when 400 [vr 115, vi v1, vi v2, vi v3] τ (fun y υ => x = y ∧ I υ)))
def SP19 (I : Mem → Prop) : Prop := (∀ (E : EN) (σ : Mem) (v1 : Int), I σ → Rng σ → i32 v1 → CI E y_BC_best 400 [vr 0, vi v1] σ (fun x τ => CI E y_Mod_best 400 [vr 115, vi v1] τ (fun y υ => x = y ∧ I υ)))
def SP20 (I : Mem → Prop) : Prop := (∀ (E : EN) (σ : Mem) (v1 : Int), I σ → Rng σ → i32 v1 → CI E y_BC_bestAt 400 [vr 0, vi v1] σ (fun x τ => CI E y_Mod_bestAt 400 [vr 115, vi v1] τ (fun y υ => x = y ∧ I υ)))
def SP21 (I : Mem → Prop) : Prop := (∀ (E : EN) (σ : Mem) (v1 : Int), I σ → Rng σ → i32 v1 → CI E y_BC_bestBy 400 [vr 0, vi v1] σ (fun x τ => CI E y_Mod_bestBy 400 [vr 115, vi v1] τ (fun y υ => x = y ∧ I υ)))
def SP22 (I : Mem → Prop) : Prop := (∀ (E : EN) (σ : Mem) (v1 : Int), I σ → Rng σ → i32 v1 → CI E y_BC_noonFor 400 [vr 0, vi v1] σ (fun x τ => CI E y_Mod_noonFor 400 [vr 115, vi v1] τ (fun y υ => x = y ∧ I υ)))
def SP23 (I : Mem → Prop) : Prop := (∀ (E : EN) (σ : Mem) (v1 : Int), I σ → Rng σ → i32 v1 → CI E y_BC_without 400 [vr 0, vi v1] σ (fun x τ => CI E y_Mod_without 400 [vr 115, vi v1] τ (fun y υ => x = y ∧ I υ)))
def SP24 (I : Mem → Prop) : Prop := (∀ (E : EN) (σ : Mem), I σ → Rng σ → CI E y_BC_hindrance 400 [vr 0] σ (fun x τ => CI E y_Mod_hindrance 400 [vr 115] τ (fun y υ => x = y ∧ I υ)))
def SP25 (I : Mem → Prop) : Prop := (∀ (E : EN) (σ : Mem), I σ → Rng σ → CI E y_BC_hopeless 400 [vr 0] σ (fun x τ => CI E y_Mod_hopeless 400 [vr 115] τ (fun y υ => x = y ∧ I υ)))
def SP26 (I : Mem → Prop) : Prop := (∀ (E : EN) (σ : Mem) (v1 : Int), I σ → Rng σ → i32 v1 → CI E y_BC_rule 400 [vr 0, vi v1] σ (fun x τ => CI E y_Mod_rule 400 [vr 115, vi v1] τ (fun y υ => x = y ∧ I υ)))
def SP27 (I : Mem → Prop) : Prop := (∀ (E : EN) (σ : Mem) (v1 : Int), I σ → Rng σ → i32 v1 → CI E y_BC_ruleBy 400 [vr 0, vi v1] σ (fun x τ => CI E y_Mod_ruleBy 400 [vr 115, vi v1] τ (fun y υ => x = y ∧ I υ)))
def SP28 (I : Mem → Prop) : Prop := (∀ (E : EN) (σ : Mem) (v1 : Int), I σ → Rng σ → i32 v1 → CI E y_BC_slept 400 [vr 0, vi v1] σ (fun x τ => CI E y_Mod_slept 400 [vr 115, vi v1] τ (fun y υ => x = y ∧ I υ)))
def SP29 (I : Mem → Prop) : Prop := (∀ (E : EN) (σ : Mem) (v1 : Int), I σ → Rng σ → i32 v1 → CI E y_BC_sleeper 400 [vr 0, vi v1] σ (fun x τ => CI E y_Mod_sleeper 400 [vr 115, vi v1] τ (fun y υ => x = y ∧ I υ)))
def SP30 (I : Mem → Prop) : Prop := (∀ (E : EN) (σ : Mem) (v1 : Int), I σ → Rng σ → i32 v1 → CI E y_BC_quiet 400 [vr 0, vi v1] σ (fun x τ => CI E y_Mod_quiet 400 [vr 115, vi v1] τ (fun y υ => x = y ∧ I υ)))
def SP31 (I : Mem → Prop) : Prop := (∀ (E : EN) (σ : Mem) (v1 : Int), I σ → Rng σ → i32 v1 → CI E y_BC_safest 400 [vr 0, vi v1] σ (fun x τ => CI E y_Mod_safest 400 [vr 115, vi v1] τ (fun y υ => x = y ∧ I υ)))
def SP32 (I : Mem → Prop) : Prop := (∀ (E : EN) (σ : Mem) (v1 : Int), I σ → Rng σ → i32 v1 → CI E y_BC_bold 400 [vr 0, vi v1] σ (fun x τ => CI E y_Mod_bold 400 [vr 115, vi v1] τ (fun y υ => x = y ∧ I υ)))
def SP33 (I : Mem → Prop) : Prop := (∀ (E : EN) (σ : Mem) (v1 v2 : Int), I σ → Rng σ → i32 v1 → i32 v2 → CL E y_BC_belief 400 [vr 0, vi v1, vi v2] σ (fun x τ => CL E y_Mod_belief 400 [vr 115, vi v1, vi v2] τ (fun y υ => x = y ∧ I υ)))
def SP34 (I : Mem → Prop) : Prop := (∀ (E : EN) (σ : Mem), I σ → Rng σ → CI E y_BC_now 400 [vr 0] σ (fun x τ => CI E y_Mod_now 400 [vr 115] τ (fun y υ => x = y ∧ I υ)))
def SP35 (I : Mem → Prop) : Prop := (∀ (E : EN) (σ : Mem), I σ → Rng σ → CI E y_BC_tellsMost 400 [vr 0] σ (fun x τ => CI E y_Mod_tellsMost 400 [vr 115] τ (fun y υ => x = y ∧ I υ)))
def SP36 (I : Mem → Prop) : Prop := (∀ (E : EN) (σ : Mem) (v1 : Int), I σ → Rng σ → i32 v1 → CI E y_BC_keys 400 [vr 0, vi v1] σ (fun x τ => CI E y_Mod_keys 400 [vr 115, vi v1] τ (fun y υ => x = y ∧ I υ)))
def SP37 (I : Mem → Prop) : Prop := (∀ (E : EN) (σ : Mem) (v1 v2 : Int), I σ → Rng σ → i32 v1 → i32 v2 → CI E y_BC_keyAt 400 [vr 0, vi v1, vi v2] σ (fun x τ => CI E y_Mod_keyAt 400 [vr 115, vi v1, vi v2] τ (fun y υ => x = y ∧ I υ)))
def SP38 (I : Mem → Prop) : Prop := (∀ (E : EN) (σ : Mem) (v1 v2 : Int), I σ → Rng σ → i32 v1 → i32 v2 → CI E y_BC_place 400 [vr 0, vi v1, vi v2] σ (fun x τ => CI E y_Mod_place 400 [vr 115, vi v1, vi v2] τ (fun y υ => x = y ∧ I υ)))
def SP39 (I : Mem → Prop) : Prop := (∀ (E : EN) (σ : Mem) (v1 v2 v3 : Int), I σ → Rng σ → i32 v1 → i32 v2 → i32 v3 → CI E y_BC_plain 400 [vr 0, vi v1, vi v2, vi v3] σ (fun x τ => CI E y_Mod_plain 400 [vr 115, vi v1, vi v2, vi v3] τ (fun y υ => x = y ∧ I υ)))
def SP40 (I : Mem → Prop) : Prop := (∀ (E : EN) (σ : Mem) (v1 : Int), I σ → Rng σ → i32 v1 → CI E y_BC_look 400 [vr 0, vi v1] σ (fun x τ => CI E y_Mod_look 400 [vr 115, vi v1] τ (fun y υ => x = y ∧ I υ)))
def SP41 (I : Mem → Prop) : Prop := (∀ (E : EN) (σ : Mem) (v1 v2 v3 : Int), I σ → Rng σ → i32 v1 → i32 v2 → i32 v3 → CI E y_BC_numbers 400 [vr 0, vi v1, vi v2, vi v3] σ (fun x τ => CI E y_Mod_numbers 400 [vr 115, vi v1, vi v2, vi v3] τ (fun y υ => x = y ∧ I υ)))
def SP42 (I : Mem → Prop) : Prop := (∀ (E : EN) (σ : Mem) (v1 v2 v3 : Int), I σ → Rng σ → i32 v1 → i32 v2 → i64 v3 → CL E y_BC_write 400 [vr 0, vi v1, vi v2, vl v3] σ (fun x τ => CL E y_Mod_write 400 [vr 115, vi v1, vi v2, vl v3] τ (fun y υ => x = y ∧ I υ)))
def SP43 (I : Mem → Prop) : Prop := (∀ (E : EN) (σ : Mem) (v1 : Int), I σ → Rng σ → i32 v1 → CI E y_BC_lists 400 [vr 0, vi v1] σ (fun x τ => CI E y_Mod_lists 400 [vr 115, vi v1] τ (fun y υ => x = y ∧ I υ)))
def SP44 (I : Mem → Prop) : Prop := (∀ (E : EN) (σ : Mem) (v1 : Int), I σ → Rng σ → i32 v1 → CI E y_BC_image 400 [vr 0, vi v1] σ (fun x τ => CI E y_Mod_image 400 [vr 115, vi v1] τ (fun y υ => x = y ∧ I υ)))
def SP45 (I : Mem → Prop) : Prop := (∀ (E : EN) (σ : Mem) (v1 : Int), I σ → Rng σ → i32 v1 → CI E y_BC_restore 400 [vr 0, vi v1] σ (fun x τ => CI E y_Mod_restore 400 [vr 115, vi v1] τ (fun y υ => x = y ∧ I υ)))
def SP46 (I : Mem → Prop) : Prop := (∀ (E : EN) (σ : Mem) (v1 : Int), I σ → Rng σ → i32 v1 → CI E y_BC_count 400 [vr 0, vi v1] σ (fun x τ => CI E y_Mod_count 400 [vr 115, vi v1] τ (fun y υ => x = y ∧ I υ)))
def SPall (I : Mem → Prop) : Prop := SP0 I ∧ SP1 I ∧ SP2 I ∧ SP3 I ∧ SP4 I ∧ SP5 I ∧ SP6 I ∧ SP7 I ∧ SP8 I ∧ SP9 I ∧ SP10 I ∧ SP11 I ∧ SP12 I ∧ SP13 I ∧ SP14 I ∧ SP15 I ∧ SP16 I ∧ SP17 I ∧ SP18 I ∧ SP19 I ∧ SP20 I ∧ SP21 I ∧ SP22 I ∧ SP23 I ∧ SP24 I ∧ SP25 I ∧ SP26 I ∧ SP27 I ∧ SP28 I ∧ SP29 I ∧ SP30 I ∧ SP31 I ∧ SP32 I ∧ SP33 I ∧ SP34 I ∧ SP35 I ∧ SP36 I ∧ SP37 I ∧ SP38 I ∧ SP39 I ∧ SP40 I ∧ SP41 I ∧ SP42 I ∧ SP43 I ∧ SP44 I ∧ SP45 I ∧ SP46 I
set_option maxHeartbeats 4000000 in
theorem law_loop {I : Mem → Prop} (hI : SPall I) {E : EN} {p : Program} {e : Env} {s : State} {m : MethodId} {below : List Frame} {meth : Method} {c : Code} {b Ls kc ks : Nat} {xs : Nat → Int32} (F : LX E p s m meth c b Ls xs) (hkc : kc ≤ 600000 ∧ ks ≤ 7302250) : ∀ (n : Nat) (i : Int) (σ : Mem), 0 ≤ i → i ≤ Ls + 6 → Ls + 1 ≤ i + n → I σ → ZL E p e s m below meth c b kc ks 18 i [] σ := by
  have hL := F.2.2.2.2.2.2.2.2.2.2.2.2.2
  intro n
  induction n with
  | zero =>
    intro i σ h0 h1 h2 hσ
    have hi3 : i32 i := ⟨by omega, by omega⟩
    refine zl_i3 (pc := 18) F hi3 (by decide +kernel) ?_
    refine zl_a0 (pc := 19) F (by decide +kernel) ?_
    refine zl_slen (pc := 20) F (by decide +kernel) ?_
    refine zl_bipush (pc := 21) (n := 6) F (by decide +kernel) (by decide) ⟨by decide, by decide⟩ ?_
    refine zl_isub (pc := 23) F (by decide +kernel) (Ls - 6) rfl ⟨by omega, by omega⟩ ?_
    refine zl_gt (pc := 24) (off := 1501) 1525 F (by decide +kernel) (by decide) (fun _ => zl_end F hkc (by decide +kernel) (by decide +kernel)) (fun q => absurd q (by omega))
  | succ n ih =>
    intro i σ h0 h1 h2 hσ
    have hi3 : i32 i := ⟨by omega, by omega⟩
    refine zl_i3 (pc := 18) F hi3 (by decide +kernel) ?_
    refine zl_a0 (pc := 19) F (by decide +kernel) ?_
    refine zl_slen (pc := 20) F (by decide +kernel) ?_
    refine zl_bipush (pc := 21) (n := 6) F (by decide +kernel) (by decide) ⟨by decide, by decide⟩ ?_
    refine zl_isub (pc := 23) F (by decide +kernel) (Ls - 6) rfl ⟨by omega, by omega⟩ ?_
    refine zl_gt (pc := 24) (off := 1501) 1525 F (by decide +kernel) (by decide) (fun _ => zl_end F hkc (by decide +kernel) (by decide +kernel)) (fun q => ?_)
    have hi : 0 ≤ i ∧ i + 6 ≤ Ls := ⟨h0, by omega⟩
    have back : ∀ υ, I υ → ZL E p e s m below meth c b kc ks 1519 i [] υ := fun υ hυ => zl_iinc (pc := 1519) F ⟨by omega, by omega⟩ (by decide +kernel) (zl_goto (pc := 1522) (off := -1504) 18 F (by decide +kernel) (by decide) (ih (i + 6) υ (by omega) (by omega) (by omega) hυ))
    have rg : ∀ j, i32 (scr xs j) := fun j => ok32 _
    refine zl_a0 (pc := 27) F (by decide +kernel) ?_
    refine zl_i3 (pc := 28) F hi3 (by decide +kernel) ?_
    refine zl_sld (pc := 29) F ⟨by omega, by omega⟩ (by decide +kernel) ?_
    refine zl_bipush (pc := 30) (n := 63) F (by decide +kernel) (by decide) ⟨by decide, by decide⟩ ?_
    refine zl_iand (pc := 32) F (by decide +kernel) ?_
    generalize ian (scr xs i) 63 = q
    have hdg : decode code 33 = .ok (.tableswitch 1486 0 46 #[203, 266, 289, 312, 345, 378, 401, 434, 467, 490, 513, 536, 549, 572, 595, 628, 651, 684, 717, 760, 783, 806, 829, 852, 875, 888, 901, 924, 947, 970, 993, 1016, 1039, 1062, 1096, 1109, 1122, 1145, 1178, 1211, 1254, 1277, 1320, 1394, 1417, 1440, 1463], 203) := by decide +kernel
    by_cases hl0 : q < 0
    · exact zl_tabOut (pc := 33) 1519 F hdg (Or.inl hl0) (by decide) (back σ hσ)
    have hl : 0 ≤ q := Int.not_lt.mp hl0
    clear hl0
    refine zrn hσ (fun hR => ?_)
    by_cases hc : q = 0
    · refine zl_tabIn (pc := 33) (off := 203) 236 F hdg hc (by decide) (by decide +kernel) (by decide) (lc_0 F hi hkc ?_)
      exact CI.mono (fun x τ k => CI.mono (fun y υ k => ⟨k.1, back υ k.2⟩) k) (hI.1 E σ _ _ _ _ _ hσ hR (rg _) (rg _) (rg _) (rg _) (rg _))
    have hl := ne_up (w := 1) hl hc rfl; clear hc
    by_cases hc : q = 1
    · refine zl_tabIn (pc := 33) (off := 266) 299 F hdg hc (by decide) (by decide +kernel) (by decide) (lc_1 F hi hkc ?_)
      exact CI.mono (fun x τ k => CI.mono (fun y υ k => ⟨k.1, back υ k.2⟩) k) (hI.2.1 E σ _ hσ hR (rg _))
    have hl := ne_up (w := 2) hl hc rfl; clear hc
    by_cases hc : q = 2
    · refine zl_tabIn (pc := 33) (off := 289) 322 F hdg hc (by decide) (by decide +kernel) (by decide) (lc_2 F hi hkc ?_)
      exact CI.mono (fun x τ k => CI.mono (fun y υ k => ⟨k.1, back υ k.2⟩) k) (hI.2.2.1 E σ _ hσ hR (rg _))
    have hl := ne_up (w := 3) hl hc rfl; clear hc
    by_cases hc : q = 3
    · refine zl_tabIn (pc := 33) (off := 312) 345 F hdg hc (by decide) (by decide +kernel) (by decide) (lc_3 F hi hkc ?_)
      exact CI.mono (fun x τ k => CI.mono (fun y υ k => ⟨k.1, back υ k.2⟩) k) (hI.2.2.2.1 E σ _ _ hσ hR (rg _) (rg _))
    have hl := ne_up (w := 4) hl hc rfl; clear hc
    by_cases hc : q = 4
    · refine zl_tabIn (pc := 33) (off := 345) 378 F hdg hc (by decide) (by decide +kernel) (by decide) (lc_4 F hi hkc ?_)
      exact CI.mono (fun x τ k => CI.mono (fun y υ k => ⟨k.1, back υ k.2⟩) k) (hI.2.2.2.2.1 E σ _ _ hσ hR (rg _) (rg _))
    have hl := ne_up (w := 5) hl hc rfl; clear hc
    by_cases hc : q = 5
    · refine zl_tabIn (pc := 33) (off := 378) 411 F hdg hc (by decide) (by decide +kernel) (by decide) (lc_5 F hi hkc ?_)
      exact CI.mono (fun x τ k => CI.mono (fun y υ k => ⟨k.1, back υ k.2⟩) k) (hI.2.2.2.2.2.1 E σ _ hσ hR (rg _))
    have hl := ne_up (w := 6) hl hc rfl; clear hc
    by_cases hc : q = 6
    · refine zl_tabIn (pc := 33) (off := 401) 434 F hdg hc (by decide) (by decide +kernel) (by decide) (lc_6 F hi hkc ?_)
      exact CI.mono (fun x τ k => CI.mono (fun y υ k => ⟨k.1, back υ k.2⟩) k) (hI.2.2.2.2.2.2.1 E σ _ _ hσ hR (rg _) (rg _))
    have hl := ne_up (w := 7) hl hc rfl; clear hc
    by_cases hc : q = 7
    · refine zl_tabIn (pc := 33) (off := 434) 467 F hdg hc (by decide) (by decide +kernel) (by decide) (lc_7 F hi hkc ?_)
      exact CI.mono (fun x τ k => CI.mono (fun y υ k => ⟨k.1, back υ k.2⟩) k) (hI.2.2.2.2.2.2.2.1 E σ _ _ hσ hR (rg _) (rg _))
    have hl := ne_up (w := 8) hl hc rfl; clear hc
    by_cases hc : q = 8
    · refine zl_tabIn (pc := 33) (off := 467) 500 F hdg hc (by decide) (by decide +kernel) (by decide) (lc_8 F hi hkc ?_)
      exact CI.mono (fun x τ k => CI.mono (fun y υ k => ⟨k.1, back υ k.2⟩) k) (hI.2.2.2.2.2.2.2.2.1 E σ _ hσ hR (rg _))
    have hl := ne_up (w := 9) hl hc rfl; clear hc
    by_cases hc : q = 9
    · refine zl_tabIn (pc := 33) (off := 490) 523 F hdg hc (by decide) (by decide +kernel) (by decide) (lc_9 F hi hkc ?_)
      exact CI.mono (fun x τ k => CI.mono (fun y υ k => ⟨k.1, back υ k.2⟩) k) (hI.2.2.2.2.2.2.2.2.2.1 E σ _ hσ hR (rg _))
    have hl := ne_up (w := 10) hl hc rfl; clear hc
    by_cases hc : q = 10
    · refine zl_tabIn (pc := 33) (off := 513) 546 F hdg hc (by decide) (by decide +kernel) (by decide) (lc_10 F hi hkc ?_)
      exact CI.mono (fun x τ k => CI.mono (fun y υ k => ⟨k.1, back υ k.2⟩) k) (hI.2.2.2.2.2.2.2.2.2.2.1 E σ _ hσ hR (rg _))
    have hl := ne_up (w := 11) hl hc rfl; clear hc
    by_cases hc : q = 11
    · refine zl_tabIn (pc := 33) (off := 536) 569 F hdg hc (by decide) (by decide +kernel) (by decide) (lc_11 F hi hkc ?_)
      exact CI.mono (fun x τ k => CI.mono (fun y υ k => ⟨k.1, back υ k.2⟩) k) (hI.2.2.2.2.2.2.2.2.2.2.2.1 E σ  hσ hR )
    have hl := ne_up (w := 12) hl hc rfl; clear hc
    by_cases hc : q = 12
    · refine zl_tabIn (pc := 33) (off := 549) 582 F hdg hc (by decide) (by decide +kernel) (by decide) (lc_12 F hi hkc ?_)
      exact CI.mono (fun x τ k => CI.mono (fun y υ k => ⟨k.1, back υ k.2⟩) k) (hI.2.2.2.2.2.2.2.2.2.2.2.2.1 E σ _ hσ hR (rg _))
    have hl := ne_up (w := 13) hl hc rfl; clear hc
    by_cases hc : q = 13
    · refine zl_tabIn (pc := 33) (off := 572) 605 F hdg hc (by decide) (by decide +kernel) (by decide) (lc_13 F hi hkc ?_)
      exact CI.mono (fun x τ k => CI.mono (fun y υ k => ⟨k.1, back υ k.2⟩) k) (hI.2.2.2.2.2.2.2.2.2.2.2.2.2.1 E σ _ hσ hR (rg _))
    have hl := ne_up (w := 14) hl hc rfl; clear hc
    by_cases hc : q = 14
    · refine zl_tabIn (pc := 33) (off := 595) 628 F hdg hc (by decide) (by decide +kernel) (by decide) (lc_14 F hi hkc ?_)
      exact CI.mono (fun x τ k => CI.mono (fun y υ k => ⟨k.1, back υ k.2⟩) k) (hI.2.2.2.2.2.2.2.2.2.2.2.2.2.2.1 E σ _ _ hσ hR (rg _) (rg _))
    have hl := ne_up (w := 15) hl hc rfl; clear hc
    by_cases hc : q = 15
    · refine zl_tabIn (pc := 33) (off := 628) 661 F hdg hc (by decide) (by decide +kernel) (by decide) (lc_15 F hi hkc ?_)
      exact CI.mono (fun x τ k => CI.mono (fun y υ k => ⟨k.1, back υ k.2⟩) k) (hI.2.2.2.2.2.2.2.2.2.2.2.2.2.2.2.1 E σ _ hσ hR (rg _))
    have hl := ne_up (w := 16) hl hc rfl; clear hc
    by_cases hc : q = 16
    · refine zl_tabIn (pc := 33) (off := 651) 684 F hdg hc (by decide) (by decide +kernel) (by decide) (lc_16 F hi hkc ?_)
      exact CI.mono (fun x τ k => CI.mono (fun y υ k => ⟨k.1, back υ k.2⟩) k) (hI.2.2.2.2.2.2.2.2.2.2.2.2.2.2.2.2.1 E σ _ _ hσ hR (rg _) (rg _))
    have hl := ne_up (w := 17) hl hc rfl; clear hc
    by_cases hc : q = 17
    · refine zl_tabIn (pc := 33) (off := 684) 717 F hdg hc (by decide) (by decide +kernel) (by decide) (lc_17 F hi hkc ?_)
      exact CI.mono (fun x τ k => CI.mono (fun y υ k => ⟨k.1, back υ k.2⟩) k) (hI.2.2.2.2.2.2.2.2.2.2.2.2.2.2.2.2.2.1 E σ _ _ hσ hR (rg _) (rg _))
    have hl := ne_up (w := 18) hl hc rfl; clear hc
    by_cases hc : q = 18
    · refine zl_tabIn (pc := 33) (off := 717) 750 F hdg hc (by decide) (by decide +kernel) (by decide) (lc_18 F hi hkc ?_)
      exact CI.mono (fun x τ k => CI.mono (fun y υ k => ⟨k.1, back υ k.2⟩) k) (hI.2.2.2.2.2.2.2.2.2.2.2.2.2.2.2.2.2.2.1 E σ _ _ _ hσ hR (rg _) (rg _) (rg _))
    have hl := ne_up (w := 19) hl hc rfl; clear hc
    by_cases hc : q = 19
    · refine zl_tabIn (pc := 33) (off := 760) 793 F hdg hc (by decide) (by decide +kernel) (by decide) (lc_19 F hi hkc ?_)
      exact CI.mono (fun x τ k => CI.mono (fun y υ k => ⟨k.1, back υ k.2⟩) k) (hI.2.2.2.2.2.2.2.2.2.2.2.2.2.2.2.2.2.2.2.1 E σ _ hσ hR (rg _))
    have hl := ne_up (w := 20) hl hc rfl; clear hc
    by_cases hc : q = 20
    · refine zl_tabIn (pc := 33) (off := 783) 816 F hdg hc (by decide) (by decide +kernel) (by decide) (lc_20 F hi hkc ?_)
      exact CI.mono (fun x τ k => CI.mono (fun y υ k => ⟨k.1, back υ k.2⟩) k) (hI.2.2.2.2.2.2.2.2.2.2.2.2.2.2.2.2.2.2.2.2.1 E σ _ hσ hR (rg _))
    have hl := ne_up (w := 21) hl hc rfl; clear hc
    by_cases hc : q = 21
    · refine zl_tabIn (pc := 33) (off := 806) 839 F hdg hc (by decide) (by decide +kernel) (by decide) (lc_21 F hi hkc ?_)
      exact CI.mono (fun x τ k => CI.mono (fun y υ k => ⟨k.1, back υ k.2⟩) k) (hI.2.2.2.2.2.2.2.2.2.2.2.2.2.2.2.2.2.2.2.2.2.1 E σ _ hσ hR (rg _))
    have hl := ne_up (w := 22) hl hc rfl; clear hc
    by_cases hc : q = 22
    · refine zl_tabIn (pc := 33) (off := 829) 862 F hdg hc (by decide) (by decide +kernel) (by decide) (lc_22 F hi hkc ?_)
      exact CI.mono (fun x τ k => CI.mono (fun y υ k => ⟨k.1, back υ k.2⟩) k) (hI.2.2.2.2.2.2.2.2.2.2.2.2.2.2.2.2.2.2.2.2.2.2.1 E σ _ hσ hR (rg _))
    have hl := ne_up (w := 23) hl hc rfl; clear hc
    by_cases hc : q = 23
    · refine zl_tabIn (pc := 33) (off := 852) 885 F hdg hc (by decide) (by decide +kernel) (by decide) (lc_23 F hi hkc ?_)
      exact CI.mono (fun x τ k => CI.mono (fun y υ k => ⟨k.1, back υ k.2⟩) k) (hI.2.2.2.2.2.2.2.2.2.2.2.2.2.2.2.2.2.2.2.2.2.2.2.1 E σ _ hσ hR (rg _))
    have hl := ne_up (w := 24) hl hc rfl; clear hc
    by_cases hc : q = 24
    · refine zl_tabIn (pc := 33) (off := 875) 908 F hdg hc (by decide) (by decide +kernel) (by decide) (lc_24 F hi hkc ?_)
      exact CI.mono (fun x τ k => CI.mono (fun y υ k => ⟨k.1, back υ k.2⟩) k) (hI.2.2.2.2.2.2.2.2.2.2.2.2.2.2.2.2.2.2.2.2.2.2.2.2.1 E σ  hσ hR )
    have hl := ne_up (w := 25) hl hc rfl; clear hc
    by_cases hc : q = 25
    · refine zl_tabIn (pc := 33) (off := 888) 921 F hdg hc (by decide) (by decide +kernel) (by decide) (lc_25 F hi hkc ?_)
      exact CI.mono (fun x τ k => CI.mono (fun y υ k => ⟨k.1, back υ k.2⟩) k) (hI.2.2.2.2.2.2.2.2.2.2.2.2.2.2.2.2.2.2.2.2.2.2.2.2.2.1 E σ  hσ hR )
    have hl := ne_up (w := 26) hl hc rfl; clear hc
    by_cases hc : q = 26
    · refine zl_tabIn (pc := 33) (off := 901) 934 F hdg hc (by decide) (by decide +kernel) (by decide) (lc_26 F hi hkc ?_)
      exact CI.mono (fun x τ k => CI.mono (fun y υ k => ⟨k.1, back υ k.2⟩) k) (hI.2.2.2.2.2.2.2.2.2.2.2.2.2.2.2.2.2.2.2.2.2.2.2.2.2.2.1 E σ _ hσ hR (rg _))
    have hl := ne_up (w := 27) hl hc rfl; clear hc
    by_cases hc : q = 27
    · refine zl_tabIn (pc := 33) (off := 924) 957 F hdg hc (by decide) (by decide +kernel) (by decide) (lc_27 F hi hkc ?_)
      exact CI.mono (fun x τ k => CI.mono (fun y υ k => ⟨k.1, back υ k.2⟩) k) (hI.2.2.2.2.2.2.2.2.2.2.2.2.2.2.2.2.2.2.2.2.2.2.2.2.2.2.2.1 E σ _ hσ hR (rg _))
    have hl := ne_up (w := 28) hl hc rfl; clear hc
    by_cases hc : q = 28
    · refine zl_tabIn (pc := 33) (off := 947) 980 F hdg hc (by decide) (by decide +kernel) (by decide) (lc_28 F hi hkc ?_)
      exact CI.mono (fun x τ k => CI.mono (fun y υ k => ⟨k.1, back υ k.2⟩) k) (hI.2.2.2.2.2.2.2.2.2.2.2.2.2.2.2.2.2.2.2.2.2.2.2.2.2.2.2.2.1 E σ _ hσ hR (rg _))
    have hl := ne_up (w := 29) hl hc rfl; clear hc
    by_cases hc : q = 29
    · refine zl_tabIn (pc := 33) (off := 970) 1003 F hdg hc (by decide) (by decide +kernel) (by decide) (lc_29 F hi hkc ?_)
      exact CI.mono (fun x τ k => CI.mono (fun y υ k => ⟨k.1, back υ k.2⟩) k) (hI.2.2.2.2.2.2.2.2.2.2.2.2.2.2.2.2.2.2.2.2.2.2.2.2.2.2.2.2.2.1 E σ _ hσ hR (rg _))
    have hl := ne_up (w := 30) hl hc rfl; clear hc
    by_cases hc : q = 30
    · refine zl_tabIn (pc := 33) (off := 993) 1026 F hdg hc (by decide) (by decide +kernel) (by decide) (lc_30 F hi hkc ?_)
      exact CI.mono (fun x τ k => CI.mono (fun y υ k => ⟨k.1, back υ k.2⟩) k) (hI.2.2.2.2.2.2.2.2.2.2.2.2.2.2.2.2.2.2.2.2.2.2.2.2.2.2.2.2.2.2.1 E σ _ hσ hR (rg _))
    have hl := ne_up (w := 31) hl hc rfl; clear hc
    by_cases hc : q = 31
    · refine zl_tabIn (pc := 33) (off := 1016) 1049 F hdg hc (by decide) (by decide +kernel) (by decide) (lc_31 F hi hkc ?_)
      exact CI.mono (fun x τ k => CI.mono (fun y υ k => ⟨k.1, back υ k.2⟩) k) (hI.2.2.2.2.2.2.2.2.2.2.2.2.2.2.2.2.2.2.2.2.2.2.2.2.2.2.2.2.2.2.2.1 E σ _ hσ hR (rg _))
    have hl := ne_up (w := 32) hl hc rfl; clear hc
    by_cases hc : q = 32
    · refine zl_tabIn (pc := 33) (off := 1039) 1072 F hdg hc (by decide) (by decide +kernel) (by decide) (lc_32 F hi hkc ?_)
      exact CI.mono (fun x τ k => CI.mono (fun y υ k => ⟨k.1, back υ k.2⟩) k) (hI.2.2.2.2.2.2.2.2.2.2.2.2.2.2.2.2.2.2.2.2.2.2.2.2.2.2.2.2.2.2.2.2.1 E σ _ hσ hR (rg _))
    have hl := ne_up (w := 33) hl hc rfl; clear hc
    by_cases hc : q = 33
    · refine zl_tabIn (pc := 33) (off := 1062) 1095 F hdg hc (by decide) (by decide +kernel) (by decide) (lc_33 F hi hkc ?_)
      exact CL.mono (fun x τ k => CL.mono (fun y υ k => ⟨k.1, back υ k.2⟩) k) (hI.2.2.2.2.2.2.2.2.2.2.2.2.2.2.2.2.2.2.2.2.2.2.2.2.2.2.2.2.2.2.2.2.2.1 E σ _ _ hσ hR (rg _) (rg _))
    have hl := ne_up (w := 34) hl hc rfl; clear hc
    by_cases hc : q = 34
    · refine zl_tabIn (pc := 33) (off := 1096) 1129 F hdg hc (by decide) (by decide +kernel) (by decide) (lc_34 F hi hkc ?_)
      exact CI.mono (fun x τ k => CI.mono (fun y υ k => ⟨k.1, back υ k.2⟩) k) (hI.2.2.2.2.2.2.2.2.2.2.2.2.2.2.2.2.2.2.2.2.2.2.2.2.2.2.2.2.2.2.2.2.2.2.1 E σ  hσ hR )
    have hl := ne_up (w := 35) hl hc rfl; clear hc
    by_cases hc : q = 35
    · refine zl_tabIn (pc := 33) (off := 1109) 1142 F hdg hc (by decide) (by decide +kernel) (by decide) (lc_35 F hi hkc ?_)
      exact CI.mono (fun x τ k => CI.mono (fun y υ k => ⟨k.1, back υ k.2⟩) k) (hI.2.2.2.2.2.2.2.2.2.2.2.2.2.2.2.2.2.2.2.2.2.2.2.2.2.2.2.2.2.2.2.2.2.2.2.1 E σ  hσ hR )
    have hl := ne_up (w := 36) hl hc rfl; clear hc
    by_cases hc : q = 36
    · refine zl_tabIn (pc := 33) (off := 1122) 1155 F hdg hc (by decide) (by decide +kernel) (by decide) (lc_36 F hi hkc ?_)
      exact CI.mono (fun x τ k => CI.mono (fun y υ k => ⟨k.1, back υ k.2⟩) k) (hI.2.2.2.2.2.2.2.2.2.2.2.2.2.2.2.2.2.2.2.2.2.2.2.2.2.2.2.2.2.2.2.2.2.2.2.2.1 E σ _ hσ hR (rg _))
    have hl := ne_up (w := 37) hl hc rfl; clear hc
    by_cases hc : q = 37
    · refine zl_tabIn (pc := 33) (off := 1145) 1178 F hdg hc (by decide) (by decide +kernel) (by decide) (lc_37 F hi hkc ?_)
      exact CI.mono (fun x τ k => CI.mono (fun y υ k => ⟨k.1, back υ k.2⟩) k) (hI.2.2.2.2.2.2.2.2.2.2.2.2.2.2.2.2.2.2.2.2.2.2.2.2.2.2.2.2.2.2.2.2.2.2.2.2.2.1 E σ _ _ hσ hR (rg _) (rg _))
    have hl := ne_up (w := 38) hl hc rfl; clear hc
    by_cases hc : q = 38
    · refine zl_tabIn (pc := 33) (off := 1178) 1211 F hdg hc (by decide) (by decide +kernel) (by decide) (lc_38 F hi hkc ?_)
      exact CI.mono (fun x τ k => CI.mono (fun y υ k => ⟨k.1, back υ k.2⟩) k) (hI.2.2.2.2.2.2.2.2.2.2.2.2.2.2.2.2.2.2.2.2.2.2.2.2.2.2.2.2.2.2.2.2.2.2.2.2.2.2.1 E σ _ _ hσ hR (rg _) (rg _))
    have hl := ne_up (w := 39) hl hc rfl; clear hc
    by_cases hc : q = 39
    · refine zl_tabIn (pc := 33) (off := 1211) 1244 F hdg hc (by decide) (by decide +kernel) (by decide) (lc_39 F hi hkc ?_)
      exact CI.mono (fun x τ k => CI.mono (fun y υ k => ⟨k.1, back υ k.2⟩) k) (hI.2.2.2.2.2.2.2.2.2.2.2.2.2.2.2.2.2.2.2.2.2.2.2.2.2.2.2.2.2.2.2.2.2.2.2.2.2.2.2.1 E σ _ _ _ hσ hR (rg _) (rg _) (rg _))
    have hl := ne_up (w := 40) hl hc rfl; clear hc
    by_cases hc : q = 40
    · refine zl_tabIn (pc := 33) (off := 1254) 1287 F hdg hc (by decide) (by decide +kernel) (by decide) (lc_40 F hi hkc ?_)
      exact CI.mono (fun x τ k => CI.mono (fun y υ k => ⟨k.1, back υ k.2⟩) k) (hI.2.2.2.2.2.2.2.2.2.2.2.2.2.2.2.2.2.2.2.2.2.2.2.2.2.2.2.2.2.2.2.2.2.2.2.2.2.2.2.2.1 E σ _ hσ hR (rg _))
    have hl := ne_up (w := 41) hl hc rfl; clear hc
    by_cases hc : q = 41
    · refine zl_tabIn (pc := 33) (off := 1277) 1310 F hdg hc (by decide) (by decide +kernel) (by decide) (lc_41 F hi hkc ?_)
      exact CI.mono (fun x τ k => CI.mono (fun y υ k => ⟨k.1, back υ k.2⟩) k) (hI.2.2.2.2.2.2.2.2.2.2.2.2.2.2.2.2.2.2.2.2.2.2.2.2.2.2.2.2.2.2.2.2.2.2.2.2.2.2.2.2.2.1 E σ _ _ _ hσ hR (rg _) (rg _) (rg _))
    have hl := ne_up (w := 42) hl hc rfl; clear hc
    by_cases hc : q = 42
    · refine zl_tabIn (pc := 33) (off := 1320) 1353 F hdg hc (by decide) (by decide +kernel) (by decide) (lc_42 F hi hkc ?_)
      exact CL.mono (fun x τ k => CL.mono (fun y υ k => ⟨k.1, back υ k.2⟩) k) (hI.2.2.2.2.2.2.2.2.2.2.2.2.2.2.2.2.2.2.2.2.2.2.2.2.2.2.2.2.2.2.2.2.2.2.2.2.2.2.2.2.2.2.1 E σ _ _ _ hσ hR (rg _) (rg _) (ok64 _))
    have hl := ne_up (w := 43) hl hc rfl; clear hc
    by_cases hc : q = 43
    · refine zl_tabIn (pc := 33) (off := 1394) 1427 F hdg hc (by decide) (by decide +kernel) (by decide) (lc_43 F hi hkc ?_)
      exact CI.mono (fun x τ k => CI.mono (fun y υ k => ⟨k.1, back υ k.2⟩) k) (hI.2.2.2.2.2.2.2.2.2.2.2.2.2.2.2.2.2.2.2.2.2.2.2.2.2.2.2.2.2.2.2.2.2.2.2.2.2.2.2.2.2.2.2.1 E σ _ hσ hR (rg _))
    have hl := ne_up (w := 44) hl hc rfl; clear hc
    by_cases hc : q = 44
    · refine zl_tabIn (pc := 33) (off := 1417) 1450 F hdg hc (by decide) (by decide +kernel) (by decide) (lc_44 F hi hkc ?_)
      exact CI.mono (fun x τ k => CI.mono (fun y υ k => ⟨k.1, back υ k.2⟩) k) (hI.2.2.2.2.2.2.2.2.2.2.2.2.2.2.2.2.2.2.2.2.2.2.2.2.2.2.2.2.2.2.2.2.2.2.2.2.2.2.2.2.2.2.2.2.1 E σ _ hσ hR (rg _))
    have hl := ne_up (w := 45) hl hc rfl; clear hc
    by_cases hc : q = 45
    · refine zl_tabIn (pc := 33) (off := 1440) 1473 F hdg hc (by decide) (by decide +kernel) (by decide) (lc_45 F hi hkc ?_)
      exact CI.mono (fun x τ k => CI.mono (fun y υ k => ⟨k.1, back υ k.2⟩) k) (hI.2.2.2.2.2.2.2.2.2.2.2.2.2.2.2.2.2.2.2.2.2.2.2.2.2.2.2.2.2.2.2.2.2.2.2.2.2.2.2.2.2.2.2.2.2.1 E σ _ hσ hR (rg _))
    have hl := ne_up (w := 46) hl hc rfl; clear hc
    by_cases hc : q = 46
    · refine zl_tabIn (pc := 33) (off := 1463) 1496 F hdg hc (by decide) (by decide +kernel) (by decide) (lc_46 F hi hkc ?_)
      exact CI.mono (fun x τ k => CI.mono (fun y υ k => ⟨k.1, back υ k.2⟩) k) (hI.2.2.2.2.2.2.2.2.2.2.2.2.2.2.2.2.2.2.2.2.2.2.2.2.2.2.2.2.2.2.2.2.2.2.2.2.2.2.2.2.2.2.2.2.2.2 E σ _ hσ hR (rg _))
    have hl := ne_up (w := 47) hl hc rfl; clear hc
    exact zl_tabOut (pc := 33) 1519 F hdg (Or.inr (Int.lt_of_add_one_le hl)) (by decide) (back σ hσ)
