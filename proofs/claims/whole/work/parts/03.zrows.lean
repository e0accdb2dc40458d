/-! Z: a frame of a method, over the abstract memory; Cc: a call of a method -/
def rmd (d : Nat) : Room := { frames := d, cells := 0, slots := 0, locals := 60 * d }
def QC (E : EN) (Q : Option AV → Mem → Prop) : Array Value → State → Outcome → State → Prop := fun _ st oc t => ∃ (r : Option AV) (τ : Mem), oc = .returned (r.map (cv E)) ∧ Q r τ ∧ va_P (eD E) cls (wsv E τ) t.heap ∧ Rng τ ∧ oko r ∧ va_F (eA E) st t
def PC (E : EN) (as : List AV) (σ : Mem) : Array Value → State → Prop := fun v U => v = (as.map (cv E)).toArray ∧ va_P (eD E) cls (wsv E σ) U.heap ∧ KK E U ∧ Rng σ ∧ oks as ∧ AD E
def Cc (E : EN) (Y : MI) (d : Nat) (as : List AV) (σ : Mem) (Q : Option AV → Mem → Prop) : Prop := Met (eL E) Y.1 (wcode Y :: gw) (rmd d) (PC E as σ) (QC E Q) 0 0 (eA E)
def FX (E : EN) (Y : MI) (p : Program) (s : State) (m : MethodId) (args : Array Value) (meth : Method) (c : Code) : Prop :=
  p.tables.exec = Jvm.exec ∧ c.code = Y.2.1 ∧ meth.sig.returnType = Y.2.2.2 ∧ c.maxLocals = Y.2.2.1 ∧ s.vm.findClass Y.1.cls = some m.cls ∧ (∀ w ∈ gw, w.before args s = true) ∧ meth.locks = false ∧ KK E s ∧ AD E
def Z (E : EN) (Y : MI) (d pc : Nat) (L : List (Option AV)) (st : List AV) (σ : Mem) (Q : Option AV → Mem → Prop) : Prop :=
  ∀ (p : Program) (e : Env) (s : State) (m : MethodId) (args : Array Value) (below : List Frame) (meth : Method) (c : Code) (H : Heap) (locs : List Loc) (ls : Array Slot),
    FX E Y p s m args meth c → va_P (eD E) cls (wsv E σ) H → va_S (eA E) s.heap H locs → Rng σ → okl L → oks st → lvR E ls L → L.length = Y.2.2.1 →
    W p (eL E) e (rmd d) s m args below meth c H locs 0 0 (MQ below (QC E Q) args s 0 0 (eA E)) (F0 m pc ls (st.map (cv E)))
variable {E : EN} {Y : MI} {d pc : Nat} {L : List (Option AV)} {st : List AV} {σ : Mem} {Q : Option AV → Mem → Prop}
theorem Cc.of {as : List AV} (hp : plainName Y.1.cls = true) (hn : (enL as).length ≤ Y.2.2.1) (k : Z E Y d 0 (pad Y.2.2.1 (enL as)) [] σ Q) : Cc E Y d as σ Q := by
  refine Met.ofW (cc := Y.2.1) (maxL := Y.2.2.1) (ret := Y.2.2.2) hp rfl ?_
  intro p e s m args below meth c s₁ B hml hv
  obtain ⟨rfl, hP, hK, hR, ho, hAD⟩ := hv
  have hts := atoms_spec (ws := wcode Y :: gw) B.pre
  have hl := lv_entry (as.map (cv E)) (n := Y.2.2.1) (by rw [enL_len]; exact hn)
  rw [lg_entry_eq]
  generalize (lg_sl (as.map (cv E)) ++ List.replicate (Y.2.2.1 - (lg_sl (as.map (cv E))).length) Slot.unset).toArray = ls at hl ⊢
  have hlen : (pad Y.2.2.1 (enL as)).length = Y.2.2.1 := by simp [pad]; omega
  refine k p e s m _ below meth c s.heap [] ls ⟨B.exec, B.bytes, B.returns, hml, findClass_of_methodNamed B.named, fun w hw => hts w (List.mem_cons_of_mem _ hw), B.notSynchronized, hK, hAD⟩ hP va_S.rf hR (okl_app (enL_ok ho) (okl_rep _)) trivial ⟨by rw [hl.1, hlen], hl.2.1, fun i v hi => ?_⟩ hlen
  unfold pad at hi
  rw [List.getElem?_append] at hi
  split at hi
  · have h2 := enL_mem (E := E) as 0 i v hi
    rw [Nat.zero_add] at h2
    exact hl.2.2 _ h2
  · rw [List.getElem?_replicate] at hi
    split at hi <;> simp at hi
theorem Z.mono {Q2 : Option AV → Mem → Prop} (h : ∀ r τ, Q r τ → Q2 r τ) (k : Z E Y d pc L st σ Q) : Z E Y d pc L st σ Q2 := by
  intro p e s m args below meth c H locs ls F hP hS hR hL hs hl hn T hT X
  obtain ⟨t, a, o, b1, b2, ⟨r, τ, e1, e2, e3⟩, b4⟩ := k p e s m args below meth c H locs ls F hP hS hR hL hs hl hn T hT X
  exact ⟨t, a, o, b1, b2, ⟨r, τ, e1, h _ _ e2, e3⟩, b4⟩
theorem Cc.mono {as : List AV} {Q2 : Option AV → Mem → Prop} (h : ∀ r τ, Q r τ → Q2 r τ) (k : Cc E Y d as σ Q) : Cc E Y d as σ Q2 := by
  intro p e ha hc hk s m args below hf happ hpre hq
  obtain ⟨t, o, a, b1, b2, ⟨⟨r, τ, e1, e2, e3⟩, b4⟩⟩ := k p e ha hc hk s m args below hf happ hpre hq
  exact ⟨t, o, a, b1, b2, ⟨⟨r, τ, e1, h _ _ e2, e3⟩, b4⟩⟩
/-- what the numbers on the way fit -/
theorem Z.rng (k : Rng σ → okl L → oks st → Z E Y d pc L st σ Q) : Z E Y d pc L st σ Q := by
  intro p e s m args below meth c H locs ls F hP hS hR hL hs hl hn
  exact k hR hL hs p e s m args below meth c H locs ls F hP hS hR hL hs hl hn
/-- an instruction that changes the stack alone -/
theorem z_pure {pc2 : Nat} {st2 : List AV} (k : Z E Y d pc2 L st2 σ Q) (hok : oks st → oks st2)
    (hstep : ∀ {p : Program} {e : Env} {s : State} {m : MethodId} {args : Array Value} {below : List Frame} {meth : Method} {c : Code} {H : Heap} {locs : List Loc} {ls : Array Slot} {QQ : State → Prop}, FX E Y p s m args meth c → va_S (eA E) s.heap H locs → oks st → lvR E ls L → va_P (eD E) cls (wsv E σ) H →
      W p (eL E) e (rmd d) s m args below meth c H locs 0 0 QQ (F0 m pc2 ls (st2.map (cv E))) → W p (eL E) e (rmd d) s m args below meth c H locs 0 0 QQ (F0 m pc ls (st.map (cv E)))) : Z E Y d pc L st σ Q := by
  intro p e s m args below meth c H locs ls F hP hS hR hL hs hl hn
  exact hstep F hS hs hl hP (k p e s m args below meth c H locs ls F hP hS hR hL (hok hs) hl hn)
theorem cvi_w (E : EN) (x : Int) : cv E (vi (w32 x)) = .int (Int32.ofInt x) := by show Value.int _ = _; rw [ofw32]
theorem cvl_w (E : EN) (x : Int) : cv E (vl (w64 x)) = .long (Int64.ofInt x) := by show Value.long _ = _; rw [ofw64]
theorem cvi_t (E : EN) (x : Int32) : cv E (vi x.toInt) = .int x := by show Value.int _ = _; rw [oft32]
theorem cvl_t (E : EN) (x : Int64) : cv E (vl x.toInt) = .long x := by show Value.long _ = _; rw [oft64]
theorem z_iconst {n : Int} (hdg : decode Y.2.1 pc = .ok (.iconst n, 1)) (hn : i32 n) (k : Z E Y d (pc + 1) L (vi n :: st) σ Q) : Z E Y d pc L st σ Q :=
  z_pure k (fun h => ⟨hn, h⟩) (fun F hS hs hl hP w => lv_iconst F.1 F.2.1 hdg rfl w)
theorem z_bipush {n : Int} (hdg : decode Y.2.1 pc = .ok (.bipush n, 2)) (hv : (Int8.ofInt n).toInt32 = Int32.ofInt n) (hn : i32 n) (k : Z E Y d (pc + 2) L (vi n :: st) σ Q) : Z E Y d pc L st σ Q :=
  z_pure k (fun h => ⟨hn, h⟩) (fun F hS hs hl hP w => lv_bipush F.1 F.2.1 hdg hv w)
theorem z_sipush {n : Int} (hdg : decode Y.2.1 pc = .ok (.sipush n, 3)) (hv : (Int16.ofInt n).toInt32 = Int32.ofInt n) (hn : i32 n) (k : Z E Y d (pc + 3) L (vi n :: st) σ Q) : Z E Y d pc L st σ Q :=
  z_pure k (fun h => ⟨hn, h⟩) (fun F hS hs hl hP w => lv_sipush F.1 F.2.1 hdg hv w)
theorem z_lconst {n : Fin 2} (m : Int) (hdg : decode Y.2.1 pc = .ok (.lconst n, 1)) (hv : Int64.ofNat (n : Nat) = Int64.ofInt m) (hn : i64 m) (k : Z E Y d (pc + 1) L (vl m :: st) σ Q) : Z E Y d pc L st σ Q :=
  z_pure k (fun h => ⟨hn, h⟩) (fun F hS hs hl hP w => lv_lconst F.1 F.2.1 hdg hv w)
theorem z_ldc {index : Nat} (n : Int) (hw : Cond.constant Y.1.cls index (Int32.ofInt n) ∈ gw) (hn : i32 n) (hdg : decode Y.2.1 pc = .ok (.ldc index, 2)) (k : Z E Y d (pc + 2) L (vi n :: st) σ Q) : Z E Y d pc L st σ Q :=
  z_pure k (fun h => ⟨hn, h⟩) (fun F hS hs hl hP w => lv_ldc F.1 F.2.1 F.2.2.2.2.1 (F.2.2.2.2.2.1 _ hw) hdg w)
theorem z_ldcw {index : Nat} (n : Int) (hw : Cond.constant Y.1.cls index (Int32.ofInt n) ∈ gw) (hn : i32 n) (hdg : decode Y.2.1 pc = .ok (.ldc_w index, 3)) (k : Z E Y d (pc + 3) L (vi n :: st) σ Q) : Z E Y d pc L st σ Q :=
  z_pure k (fun h => ⟨hn, h⟩) (fun F hS hs hl hP w => lv_ldcw F.1 F.2.1 F.2.2.2.2.1 (F.2.2.2.2.2.1 _ hw) hdg w)
theorem z_ldc2 {index : Nat} (n : Int) (hw : Cond.constantLong Y.1.cls index (Int64.ofInt n) ∈ gw) (hn : i64 n) (hdg : decode Y.2.1 pc = .ok (.ldc2_w index, 3)) (k : Z E Y d (pc + 3) L (vl n :: st) σ Q) : Z E Y d pc L st σ Q :=
  z_pure k (fun h => ⟨hn, h⟩) (fun F hS hs hl hP w => lv_ldc2 F.1 F.2.1 F.2.2.2.2.1 (F.2.2.2.2.2.1 _ hw) hdg w)
theorem z_ldcs {index : Nat} {tx : String} (i : Nat) (hw : stO[i]? = some (Y.1.cls, index, tx)) (hdg : decode Y.2.1 pc = .ok (.ldc index, 2)) (k : Z E Y d (pc + 2) L (vr (nC + 2 * i) :: st) σ Q) : Z E Y d pc L st σ Q :=
  z_pure k (fun h => ⟨trivial, h⟩) (fun F hS hs hl hP w => va_ldcS F.1 F.2.1 F.2.2.2.2.1 (F.2.2.2.2.2.2.2.1.2.2.2.1.1 i _ hw) hdg w)
/-- loads -/
theorem z_load {pc2 : Nat} {i : Nat} {v : AV} (hL0 : L[i]? = some (some v)) (hstep : ∀ {p : Program} {e : Env} {s : State} {m : MethodId} {args : Array Value} {below : List Frame} {meth : Method} {c : Code} {H : Heap} {locs : List Loc} {ls : Array Slot} {QQ : State → Prop}, p.tables.exec = Jvm.exec → c.code = Y.2.1 → ls[i]? = some (.val (cv E v)) →
      W p (eL E) e (rmd d) s m args below meth c H locs 0 0 QQ (F0 m pc2 ls (cv E v :: st.map (cv E))) → W p (eL E) e (rmd d) s m args below meth c H locs 0 0 QQ (F0 m pc ls (st.map (cv E)))) (k : Z E Y d pc2 L (v :: st) σ Q) : Z E Y d pc L st σ Q := by
  intro p e s m args below meth c H locs ls F hP hS hR hL hs hl hn
  exact hstep F.1 F.2.1 (hl.2.2 i v hL0) (k p e s m args below meth c H locs ls F hP hS hR hL ⟨okl_at hL hL0, hs⟩ hl hn)
theorem z_iload_n {q : Fin 4} {a : Int} (hdg : decode Y.2.1 pc = .ok (.iload_n q, 1)) (hL0 : L[(q : Nat)]? = some (some (vi a))) (k : Z E Y d (pc + 1) L (vi a :: st) σ Q) : Z E Y d pc L st σ Q := z_load hL0 (fun hx hb h w => lv_iload_n hx hb hdg rfl h w) k
theorem z_iload {i : Nat} {a : Int} (hdg : decode Y.2.1 pc = .ok (.iload i, 2)) (hL0 : L[i]? = some (some (vi a))) (k : Z E Y d (pc + 2) L (vi a :: st) σ Q) : Z E Y d pc L st σ Q := z_load hL0 (fun hx hb h w => lv_iload hx hb hdg h w) k
theorem z_lload_n {q : Fin 4} {a : Int} (hdg : decode Y.2.1 pc = .ok (.lload_n q, 1)) (hL0 : L[(q : Nat)]? = some (some (vl a))) (k : Z E Y d (pc + 1) L (vl a :: st) σ Q) : Z E Y d pc L st σ Q := z_load hL0 (fun hx hb h w => lv_lload_n hx hb hdg rfl h w) k
theorem z_lload {i : Nat} {a : Int} (hdg : decode Y.2.1 pc = .ok (.lload i, 2)) (hL0 : L[i]? = some (some (vl a))) (k : Z E Y d (pc + 2) L (vl a :: st) σ Q) : Z E Y d pc L st σ Q := z_load hL0 (fun hx hb h w => lv_lload hx hb hdg h w) k
theorem z_aload_n {q : Fin 4} {a : Nat} (hdg : decode Y.2.1 pc = .ok (.aload_n q, 1)) (hL0 : L[(q : Nat)]? = some (some (vr a))) (k : Z E Y d (pc + 1) L (vr a :: st) σ Q) : Z E Y d pc L st σ Q := z_load hL0 (fun hx hb h w => lv_aload_n hx hb hdg rfl h w) k
theorem z_aload {i : Nat} {a : Nat} (hdg : decode Y.2.1 pc = .ok (.aload i, 2)) (hL0 : L[i]? = some (some (vr a))) (k : Z E Y d (pc + 2) L (vr a :: st) σ Q) : Z E Y d pc L st σ Q := z_load hL0 (fun hx hb h w => lv_aload hx hb hdg h w) k
/-- stores -/
theorem z_store1 {pc2 : Nat} {i : Nat} {v : AV} {st0 : List AV} {L2 : List (Option AV)} (hi : i < L.length) (hL2 : st1 L i v = L2) (ho : oks st → ok1 v ∧ oks st0) (hstep : ∀ {p : Program} {e : Env} {s : State} {m : MethodId} {args : Array Value} {below : List Frame} {meth : Method} {c : Code} {H : Heap} {locs : List Loc} {ls : Array Slot} {QQ : State → Prop}, p.tables.exec = Jvm.exec → c.code = Y.2.1 → lv_has ls L.length (laL E 0 L) →
      (∀ ls', lv_has ls' L.length ((i, cv E v) :: (laL E 0 L).filter (fun q => !(q.1 == i) && !(q.1 + 1 == i && q.2.category == 2))) → W p (eL E) e (rmd d) s m args below meth c H locs 0 0 QQ (F0 m pc2 ls' (st0.map (cv E)))) → W p (eL E) e (rmd d) s m args below meth c H locs 0 0 QQ (F0 m pc ls (st.map (cv E)))) (k : Z E Y d pc2 L2 st0 σ Q) : Z E Y d pc L st σ Q := by
  subst hL2
  intro p e s m args below meth c H locs ls F hP hS hR hL hs hl hn
  exact hstep F.1 F.2.1 hl.has (fun ls' h' => k p e s m args below meth c H locs ls' F hP hS hR (okl_set i (kl_ok i hL) (ho hs).1) (ho hs).2 (lvR.of1 hi h') (by simp [st1, kl_len, hn]))
theorem z_store2 {pc2 : Nat} {i : Nat} {v : AV} {st0 : List AV} {L2 : List (Option AV)} (hi : i + 1 < L.length) (hL2 : st2 L i v = L2) (ho : oks st → ok1 v ∧ oks st0) (hstep : ∀ {p : Program} {e : Env} {s : State} {m : MethodId} {args : Array Value} {below : List Frame} {meth : Method} {c : Code} {H : Heap} {locs : List Loc} {ls : Array Slot} {QQ : State → Prop}, p.tables.exec = Jvm.exec → c.code = Y.2.1 → lv_has ls L.length (laL E 0 L) →
      (∀ ls', lv_has ls' L.length ((i, cv E v) :: (laL E 0 L).filter (fun q => !(q.1 == i) && (!(q.1 == i + 1) && !(q.1 + 1 == i && q.2.category == 2)))) → W p (eL E) e (rmd d) s m args below meth c H locs 0 0 QQ (F0 m pc2 ls' (st0.map (cv E)))) → W p (eL E) e (rmd d) s m args below meth c H locs 0 0 QQ (F0 m pc ls (st.map (cv E)))) (k : Z E Y d pc2 L2 st0 σ Q) : Z E Y d pc L st σ Q := by
  subst hL2
  intro p e s m args below meth c H locs ls F hP hS hR hL hs hl hn
  exact hstep F.1 F.2.1 hl.has (fun ls' h' => k p e s m args below meth c H locs ls' F hP hS hR (okl_set i (okl_set (i + 1) (kl_ok i hL) trivial) (ho hs).1) (ho hs).2 (lvR.of2 hi h') (by simp [st2, kl_len, hn]))
theorem z_istore_n {q : Fin 4} {a : Int} (L2 : List (Option AV)) (hdg : decode Y.2.1 pc = .ok (.istore_n q, 1)) (hi : (q : Nat) < L.length) (hL2 : st1 L q (vi a) = L2) (k : Z E Y d (pc + 1) L2 st σ Q) : Z E Y d pc L (vi a :: st) σ Q := z_store1 hi hL2 (fun h => h) (fun hx hb h w => lv_istore_n hx hb hdg rfl h hi rfl w) k
theorem z_istore {i : Nat} {a : Int} (L2 : List (Option AV)) (hdg : decode Y.2.1 pc = .ok (.istore i, 2)) (hi : i < L.length) (hL2 : st1 L i (vi a) = L2) (k : Z E Y d (pc + 2) L2 st σ Q) : Z E Y d pc L (vi a :: st) σ Q := z_store1 hi hL2 (fun h => h) (fun hx hb h w => lv_istore hx hb hdg h hi rfl w) k
theorem z_astore_n {q : Fin 4} {a : Nat} (L2 : List (Option AV)) (hdg : decode Y.2.1 pc = .ok (.astore_n q, 1)) (hi : (q : Nat) < L.length) (hL2 : st1 L q (vr a) = L2) (k : Z E Y d (pc + 1) L2 st σ Q) : Z E Y d pc L (vr a :: st) σ Q := z_store1 hi hL2 (fun h => h) (fun hx hb h w => lv_astore_n hx hb hdg rfl h hi rfl w) k
theorem z_astore {i : Nat} {a : Nat} (L2 : List (Option AV)) (hdg : decode Y.2.1 pc = .ok (.astore i, 2)) (hi : i < L.length) (hL2 : st1 L i (vr a) = L2) (k : Z E Y d (pc + 2) L2 st σ Q) : Z E Y d pc L (vr a :: st) σ Q := z_store1 hi hL2 (fun h => h) (fun hx hb h w => lv_astore hx hb hdg h hi rfl w) k
theorem z_lstore_n {q : Fin 4} {a : Int} (L2 : List (Option AV)) (hdg : decode Y.2.1 pc = .ok (.lstore_n q, 1)) (hi : (q : Nat) + 1 < L.length) (hL2 : st2 L q (vl a) = L2) (k : Z E Y d (pc + 1) L2 st σ Q) : Z E Y d pc L (vl a :: st) σ Q := z_store2 hi hL2 (fun h => h) (fun hx hb h w => lv_lstore_n hx hb hdg rfl h hi rfl w) k
theorem z_lstore {i : Nat} {a : Int} (L2 : List (Option AV)) (hdg : decode Y.2.1 pc = .ok (.lstore i, 2)) (hi : i + 1 < L.length) (hL2 : st2 L i (vl a) = L2) (k : Z E Y d (pc + 2) L2 st σ Q) : Z E Y d pc L (vl a :: st) σ Q := z_store2 hi hL2 (fun h => h) (fun hx hb h w => lv_lstore hx hb hdg h hi rfl w) k

/-- arithmetic on ints -/
theorem z_i2 {v r a b : Int} (k : Z E Y d (pc + 1) L (vi v :: st) σ Q) (hv : i32 v) {x : Int32} (hx : x.toInt = v)
    (hstep : ∀ {p : Program} {e : Env} {s : State} {m : MethodId} {args : Array Value} {below : List Frame} {meth : Method} {c : Code} {H : Heap} {locs : List Loc} {ls : Array Slot} {QQ : State → Prop}, p.tables.exec = Jvm.exec → c.code = Y.2.1 →
      W p (eL E) e (rmd d) s m args below meth c H locs 0 0 QQ (F0 m (pc + 1) ls (.int x :: st.map (cv E))) → W p (eL E) e (rmd d) s m args below meth c H locs 0 0 QQ (F0 m pc ls (.int (Int32.ofInt b) :: .int (Int32.ofInt a) :: st.map (cv E)))) : Z E Y d pc L (vi b :: vi a :: st) σ Q :=
  z_pure k (fun h => ⟨hv, h.2.2⟩) (fun F hS hs hl hP w => hstep F.1 F.2.1 (by rw [← oft32 x, hx]; exact w))
theorem add32 (a b : Int) : (Int32.ofInt a + Int32.ofInt b).toInt = w32 (a + b) := by rw [← Int32.ofInt_add, w32_toInt]
theorem sub32 (a b : Int) : (Int32.ofInt a - Int32.ofInt b).toInt = w32 (a - b) := by rw [← Int32.ofInt_sub, w32_toInt]
theorem mul32 (a b : Int) : (Int32.ofInt a * Int32.ofInt b).toInt = w32 (a * b) := by rw [← Int32.ofInt_mul, w32_toInt]
theorem neg32 (a : Int) : (-Int32.ofInt a).toInt = w32 (-a) := by rw [← Int32.ofInt_neg, w32_toInt]
theorem add64 (a b : Int) : (Int64.ofInt a + Int64.ofInt b).toInt = w64 (a + b) := by rw [← Int64.ofInt_add, w64_toInt]
theorem sub64 (a b : Int) : (Int64.ofInt a - Int64.ofInt b).toInt = w64 (a - b) := by rw [← Int64.ofInt_sub, w64_toInt]
theorem mul64 (a b : Int) : (Int64.ofInt a * Int64.ofInt b).toInt = w64 (a * b) := by rw [← Int64.ofInt_mul, w64_toInt]
theorem div32 {a b : Int} (ha : i32 a) (hb : i32 b) : (Int32.ofInt a / Int32.ofInt b).toInt = w32 (a.tdiv b) := by
  rw [Int32.toInt_div, of32 ha, of32 hb, ← w32_toInt, Int32.toInt_ofInt]
theorem div64 {a b : Int} (ha : i64 a) (hb : i64 b) : (Int64.ofInt a / Int64.ofInt b).toInt = w64 (a.tdiv b) := by
  rw [Int64.toInt_div, of64 ha, of64 hb, ← w64_toInt, Int64.toInt_ofInt]
theorem tmod_i {a b : Int} (lo hi : Int) (hlo : lo ≤ 0) (hhi : 0 < hi) (h : lo ≤ a ∧ a < hi) : lo ≤ a.tmod b ∧ a.tmod b < hi := by
  rcases Int.le_total 0 a with h0 | h0
  · have h1 : 0 ≤ a.tmod b := Int.tmod_nonneg b h0
    have h2 : a.tmod b ≤ a := by
      have h3 : ((a.tmod b).natAbs : Nat) ≤ a.natAbs := by rw [Int.natAbs_tmod]; exact Nat.mod_le _ _
      omega
    omega
  · have h1 : a.tmod b ≤ 0 := by
      have h4 : 0 ≤ (-a).tmod b := Int.tmod_nonneg b (by omega)
      rw [Int.neg_tmod] at h4; omega
    have h3 : ((a.tmod b).natAbs : Nat) ≤ a.natAbs := by rw [Int.natAbs_tmod]; exact Nat.mod_le _ _
    omega
theorem rem32 {a b : Int} (ha : i32 a) (hb : i32 b) : (Int32.ofInt a - Int32.ofInt a / Int32.ofInt b * Int32.ofInt b).toInt = a.tmod b := by
  have e : Int32.ofInt a / Int32.ofInt b = Int32.ofInt (a.tdiv b) := by apply eq32; rw [div32 ha hb, w32_toInt]
  rw [e, ← Int32.ofInt_mul, ← Int32.ofInt_sub, w32_toInt]
  have e2 : a - a.tdiv b * b = a.tmod b := by rw [Int.tmod_def, Int.mul_comm]
  rw [e2]
  exact w32_id (tmod_i (-2147483648) 2147483648 (by omega) (by omega) ha)
theorem rem64 {a b : Int} (ha : i64 a) (hb : i64 b) : (Int64.ofInt a - Int64.ofInt a / Int64.ofInt b * Int64.ofInt b).toInt = a.tmod b := by
  have e : Int64.ofInt a / Int64.ofInt b = Int64.ofInt (a.tdiv b) := by apply eq64; rw [div64 ha hb, w64_toInt]
  rw [e, ← Int64.ofInt_mul, ← Int64.ofInt_sub, w64_toInt]
  have e2 : a - a.tdiv b * b = a.tmod b := by rw [Int.tmod_def, Int.mul_comm]
  rw [e2]
  exact w64_id (tmod_i (-9223372036854775808) 9223372036854775808 (by omega) (by omega) ha)
theorem z_iadd {a b : Int} (hdg : decode Y.2.1 pc = .ok (.iadd, 1)) (k : Z E Y d (pc + 1) L (vi (w32 (a + b)) :: st) σ Q) : Z E Y d pc L (vi b :: vi a :: st) σ Q := z_i2 k (w32_ok _) (add32 a b) (fun hx hb w => lv_iadd hx hb hdg w) (r := 0)
theorem z_isub {a b : Int} (hdg : decode Y.2.1 pc = .ok (.isub, 1)) (k : Z E Y d (pc + 1) L (vi (w32 (a - b)) :: st) σ Q) : Z E Y d pc L (vi b :: vi a :: st) σ Q := z_i2 k (w32_ok _) (sub32 a b) (fun hx hb w => lv_isub hx hb hdg w) (r := 0)
theorem z_imul {a b : Int} (hdg : decode Y.2.1 pc = .ok (.imul, 1)) (k : Z E Y d (pc + 1) L (vi (w32 (a * b)) :: st) σ Q) : Z E Y d pc L (vi b :: vi a :: st) σ Q := z_i2 k (w32_ok _) (mul32 a b) (fun hx hb w => lv_imul hx hb hdg w) (r := 0)
theorem z_iand {a b : Int} (hdg : decode Y.2.1 pc = .ok (.iand, 1)) (k : Z E Y d (pc + 1) L (vi (ian a b) :: st) σ Q) : Z E Y d pc L (vi b :: vi a :: st) σ Q := z_i2 k (ok32 _) rfl (fun hx hb w => lv_iand hx hb hdg w) (r := 0)
theorem z_ior {a b : Int} (hdg : decode Y.2.1 pc = .ok (.ior, 1)) (k : Z E Y d (pc + 1) L (vi (ior a b) :: st) σ Q) : Z E Y d pc L (vi b :: vi a :: st) σ Q := z_i2 k (ok32 _) rfl (fun hx hb w => lv_ior hx hb hdg w) (r := 0)
theorem z_ixor {a b : Int} (hdg : decode Y.2.1 pc = .ok (.ixor, 1)) (k : Z E Y d (pc + 1) L (vi (ixo a b) :: st) σ Q) : Z E Y d pc L (vi b :: vi a :: st) σ Q := z_i2 k (ok32 _) rfl (fun hx hb w => lv_ixor hx hb hdg w) (r := 0)
theorem z_ishl {a b : Int} (hdg : decode Y.2.1 pc = .ok (.ishl, 1)) (k : Z E Y d (pc + 1) L (vi (ish a b) :: st) σ Q) : Z E Y d pc L (vi b :: vi a :: st) σ Q := z_i2 k (ok32 _) rfl (fun hx hb w => lv_ishl hx hb hdg w) (r := 0)
theorem z_ishr {a b : Int} (hdg : decode Y.2.1 pc = .ok (.ishr, 1)) (k : Z E Y d (pc + 1) L (vi (isr a b) :: st) σ Q) : Z E Y d pc L (vi b :: vi a :: st) σ Q := z_i2 k (ok32 _) rfl (fun hx hb w => lv_ishr hx hb hdg w) (r := 0)
theorem z_iushr {a b : Int} (hdg : decode Y.2.1 pc = .ok (.iushr, 1)) (k : Z E Y d (pc + 1) L (vi (ius a b) :: st) σ Q) : Z E Y d pc L (vi b :: vi a :: st) σ Q := z_i2 k (ok32 _) rfl (fun hx hb w => lv_iushr hx hb hdg rfl w) (r := 0)
theorem ne0_32 {b : Int} (hb : i32 b) (h : b ≠ 0) : ¬ Int32.ofInt b = 0 := fun q => h (by have := congrArg Int32.toInt q; rwa [of32 hb] at this)
theorem ne0_64 {b : Int} (hb : i64 b) (h : b ≠ 0) : ¬ Int64.ofInt b = 0 := fun q => h (by have := congrArg Int64.toInt q; rwa [of64 hb] at this)
theorem z_idiv {a b : Int} (hdg : decode Y.2.1 pc = .ok (.idiv, 1)) (hne : b ≠ 0) (k : Z E Y d (pc + 1) L (vi (w32 (a.tdiv b)) :: st) σ Q) : Z E Y d pc L (vi b :: vi a :: st) σ Q :=
  Z.rng fun _ _ hs => z_i2 k (w32_ok _) (div32 hs.2.1 hs.1) (fun hx hb w => lv_idiv hx hb hdg (ne0_32 hs.1 hne) w) (r := 0)
theorem z_irem {a b : Int} (hdg : decode Y.2.1 pc = .ok (.irem, 1)) (hne : b ≠ 0) (k : Z E Y d (pc + 1) L (vi (a.tmod b) :: st) σ Q) : Z E Y d pc L (vi b :: vi a :: st) σ Q :=
  Z.rng fun _ _ hs => z_i2 k (tmod_i (-2147483648) 2147483648 (by omega) (by omega) hs.2.1) (rem32 hs.2.1 hs.1) (fun hx hb w => lv_irem hx hb hdg (ne0_32 hs.1 hne) w) (r := 0)
theorem z_ineg {a : Int} (hdg : decode Y.2.1 pc = .ok (.ineg, 1)) (k : Z E Y d (pc + 1) L (vi (w32 (-a)) :: st) σ Q) : Z E Y d pc L (vi a :: st) σ Q :=
  z_pure k (fun h => ⟨w32_ok _, h.2⟩) (fun F hS hs hl hP w => lv_ineg F.1 F.2.1 hdg (by rw [← oft32 (-Int32.ofInt a), neg32]; exact w))
theorem z_iinc {i : Nat} {n a : Int} (L2 : List (Option AV)) (hdg : decode Y.2.1 pc = .ok (.iinc i n, 3)) (hL0 : L[i]? = some (some (vi a))) (hL2 : st1 L i (vi (w32 (a + n))) = L2) (k : Z E Y d (pc + 3) L2 st σ Q) : Z E Y d pc L st σ Q := by
  have hi : i < L.length := (List.getElem?_eq_some_iff.mp hL0).1
  refine z_store1 (st0 := st) hi hL2 (fun h => ⟨w32_ok _, h⟩) (fun hx hb h w => ?_) k
  obtain ⟨q, hq⟩ := List.getElem?_of_mem (laL_mem.mpr ⟨i, vi a, (Nat.zero_add i).symm, hL0, rfl⟩ : (i, cv E (vi a)) ∈ laL E 0 L)
  exact lv_iinc (v := Int32.ofInt (w32 (a + n))) hx hb hdg h hq (by rw [ofw32, Int32.ofInt_add]) hi rfl w
/-- arithmetic on longs -/
theorem z_l2 {v a b : Int} (k : Z E Y d (pc + 1) L (vl v :: st) σ Q) (hv : i64 v) {x : Int64} (hx : x.toInt = v)
    (hstep : ∀ {p : Program} {e : Env} {s : State} {m : MethodId} {args : Array Value} {below : List Frame} {meth : Method} {c : Code} {H : Heap} {locs : List Loc} {ls : Array Slot} {QQ : State → Prop}, p.tables.exec = Jvm.exec → c.code = Y.2.1 →
      W p (eL E) e (rmd d) s m args below meth c H locs 0 0 QQ (F0 m (pc + 1) ls (.long x :: st.map (cv E))) → W p (eL E) e (rmd d) s m args below meth c H locs 0 0 QQ (F0 m pc ls (.long (Int64.ofInt b) :: .long (Int64.ofInt a) :: st.map (cv E)))) : Z E Y d pc L (vl b :: vl a :: st) σ Q :=
  z_pure k (fun h => ⟨hv, h.2.2⟩) (fun F hS hs hl hP w => hstep F.1 F.2.1 (by rw [← oft64 x, hx]; exact w))
theorem z_ladd {a b : Int} (hdg : decode Y.2.1 pc = .ok (.ladd, 1)) (k : Z E Y d (pc + 1) L (vl (w64 (a + b)) :: st) σ Q) : Z E Y d pc L (vl b :: vl a :: st) σ Q := z_l2 k (w64_ok _) (add64 a b) (fun hx hb w => lv_ladd hx hb hdg w)
theorem z_lsub {a b : Int} (hdg : decode Y.2.1 pc = .ok (.lsub, 1)) (k : Z E Y d (pc + 1) L (vl (w64 (a - b)) :: st) σ Q) : Z E Y d pc L (vl b :: vl a :: st) σ Q := z_l2 k (w64_ok _) (sub64 a b) (fun hx hb w => lv_lsub hx hb hdg w)
theorem z_lmul {a b : Int} (hdg : decode Y.2.1 pc = .ok (.lmul, 1)) (k : Z E Y d (pc + 1) L (vl (w64 (a * b)) :: st) σ Q) : Z E Y d pc L (vl b :: vl a :: st) σ Q := z_l2 k (w64_ok _) (mul64 a b) (fun hx hb w => lv_lmul hx hb hdg w)
theorem z_land {a b : Int} (hdg : decode Y.2.1 pc = .ok (.land, 1)) (k : Z E Y d (pc + 1) L (vl (lan a b) :: st) σ Q) : Z E Y d pc L (vl b :: vl a :: st) σ Q := z_l2 k (ok64 _) rfl (fun hx hb w => lv_land hx hb hdg w)
theorem z_lor {a b : Int} (hdg : decode Y.2.1 pc = .ok (.lor, 1)) (k : Z E Y d (pc + 1) L (vl (lor a b) :: st) σ Q) : Z E Y d pc L (vl b :: vl a :: st) σ Q := z_l2 k (ok64 _) rfl (fun hx hb w => lv_lor hx hb hdg w)
theorem z_ldiv {a b : Int} (hdg : decode Y.2.1 pc = .ok (.ldiv, 1)) (hne : b ≠ 0) (k : Z E Y d (pc + 1) L (vl (w64 (a.tdiv b)) :: st) σ Q) : Z E Y d pc L (vl b :: vl a :: st) σ Q :=
  Z.rng fun _ _ hs => z_l2 k (w64_ok _) (div64 hs.2.1 hs.1) (fun hx hb w => lv_ldiv hx hb hdg (ne0_64 hs.1 hne) w)
theorem z_lrem {a b : Int} (hdg : decode Y.2.1 pc = .ok (.lrem, 1)) (hne : b ≠ 0) (k : Z E Y d (pc + 1) L (vl (a.tmod b) :: st) σ Q) : Z E Y d pc L (vl b :: vl a :: st) σ Q :=
  Z.rng fun _ _ hs => z_l2 k (tmod_i (-9223372036854775808) 9223372036854775808 (by omega) (by omega) hs.2.1) (rem64 hs.2.1 hs.1) (fun hx hb w => lv_lrem hx hb hdg (ne0_64 hs.1 hne) w)
theorem z_lshl {a b : Int} (hdg : decode Y.2.1 pc = .ok (.lshl, 1)) (k : Z E Y d (pc + 1) L (vl (lsh a b) :: st) σ Q) : Z E Y d pc L (vi b :: vl a :: st) σ Q :=
  z_pure k (fun h => ⟨ok64 _, h.2.2⟩) (fun F hS hs hl hP w => lv_lshl F.1 F.2.1 hdg rfl (by have := cvl_t E (Int64.ofInt a <<< ((Int32.ofInt b).toInt64 &&& 63)); rw [← this]; exact w))
theorem z_lshr {a b : Int} (hdg : decode Y.2.1 pc = .ok (.lshr, 1)) (k : Z E Y d (pc + 1) L (vl (lsr a b) :: st) σ Q) : Z E Y d pc L (vi b :: vl a :: st) σ Q :=
  z_pure k (fun h => ⟨ok64 _, h.2.2⟩) (fun F hS hs hl hP w => lv_lshr F.1 F.2.1 hdg rfl (by have := cvl_t E (Int64.ofInt a >>> ((Int32.ofInt b).toInt64 &&& 63)); rw [← this]; exact w))
theorem lcmp_ok {a b : Int} (ha : i64 a) (hb : i64 b) : lg_cmp (Int64.ofInt a) (Int64.ofInt b) = Int32.ofInt (lcm a b) := by
  unfold lg_cmp lcm
  simp only [Int64.lt_iff_toInt_lt, ← Int64.toInt_inj, of64 ha, of64 hb]
  (repeat' split) <;> first | rfl | omega
theorem lcm_ok (a b : Int) : i32 (lcm a b) := by unfold lcm i32; (repeat' split) <;> omega
theorem z_lcmp {a b : Int} (hdg : decode Y.2.1 pc = .ok (.lcmp, 1)) (k : Z E Y d (pc + 1) L (vi (lcm a b) :: st) σ Q) : Z E Y d pc L (vl b :: vl a :: st) σ Q :=
  z_pure k (fun h => ⟨lcm_ok a b, h.2.2⟩) (fun F hS hs hl hP w => W.lcmp F.1 F.2.1 hdg (by rw [lcmp_ok hs.2.1 hs.1]; exact w))
theorem z_i2l {a : Int} (hdg : decode Y.2.1 pc = .ok (.i2l, 1)) (k : Z E Y d (pc + 1) L (vl a :: st) σ Q) : Z E Y d pc L (vi a :: st) σ Q :=
  z_pure k (fun h => ⟨by have := h.1; simp only [ok1, i32, i64] at *; omega, h.2⟩) (fun F hS hs hl hP w => lv_i2l F.1 F.2.1 hdg (by apply eq64; rw [Int32.toInt_toInt64, of32 hs.1, of64 (by have := hs.1; simp only [ok1, i32, i64] at *; omega)]) w)
theorem z_l2i {a : Int} (hdg : decode Y.2.1 pc = .ok (.l2i, 1)) (k : Z E Y d (pc + 1) L (vi (w32 a) :: st) σ Q) : Z E Y d pc L (vl a :: st) σ Q :=
  z_pure k (fun h => ⟨w32_ok a, h.2⟩) (fun F hS hs hl hP w => lv_l2i F.1 F.2.1 hdg (by apply eq32; rw [Int64.toInt_toInt32, of64 hs.1, w32_toInt, w32_id (w32_ok a), ← w32_toInt, Int32.toInt_ofInt]) w)
theorem z_i2b {a : Int} (hdg : decode Y.2.1 pc = .ok (.i2b, 1)) (k : Z E Y d (pc + 1) L (vi (w8 a) :: st) σ Q) : Z E Y d pc L (vi a :: st) σ Q :=
  z_pure k (fun h => ⟨by simp only [ok1, w8, i32]; omega, h.2⟩) (fun F hS hs hl hP w => lv_i2b F.1 F.2.1 hdg (by apply eq32; rw [Int8.toInt_toInt32, Int32.toInt_toInt8, of32 hs.1, of32 (by simp only [w8, i32]; omega)]; simp only [Int.bmod, w8]; split <;> omega) w)
theorem z_i2s {a : Int} (hdg : decode Y.2.1 pc = .ok (.i2s, 1)) (k : Z E Y d (pc + 1) L (vi (w16 a) :: st) σ Q) : Z E Y d pc L (vi a :: st) σ Q :=
  z_pure k (fun h => ⟨by simp only [ok1, w16, i32]; omega, h.2⟩) (fun F hS hs hl hP w => lv_i2s F.1 F.2.1 hdg (by apply eq32; rw [Int16.toInt_toInt32, Int32.toInt_toInt16, of32 hs.1, of32 (by simp only [w16, i32]; omega)]; simp only [Int.bmod, w16]; split <;> omega) w)
