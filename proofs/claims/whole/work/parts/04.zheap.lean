variable {E : EN} {Y : MI} {d pc : Nat} {L : List (Option AV)} {st : List AV} {σ : Mem} {Q : Option AV → Mem → Prop}
theorem z_dup {v : AV} (hdg : decode Y.2.1 pc = .ok (.dup, 1)) (hc : (cv E v).category = 1) (k : Z E Y d (pc + 1) L (v :: v :: st) σ Q) : Z E Y d pc L (v :: st) σ Q :=
  z_pure k (fun h => ⟨h.1, h⟩) (fun F hS hs hl hP w => lv_dup F.1 F.2.1 hdg hc w)
theorem z_pop {v : AV} (hdg : decode Y.2.1 pc = .ok (.pop, 1)) (hc : (cv E v).category = 1) (k : Z E Y d (pc + 1) L st σ Q) : Z E Y d pc L (v :: st) σ Q :=
  z_pure k (fun h => h.2) (fun F hS hs hl hP w => lv_pop F.1 F.2.1 hdg hc w)
theorem z_pop2 {a : Int} (hdg : decode Y.2.1 pc = .ok (.pop2, 1)) (k : Z E Y d (pc + 1) L st σ Q) : Z E Y d pc L (vl a :: st) σ Q :=
  z_pure k (fun h => h.2) (fun F hS hs hl hP w => lv_pop2_2 F.1 F.2.1 hdg rfl w)
theorem z_dup2 {u v : AV} (hdg : decode Y.2.1 pc = .ok (.dup2, 1)) (hu : (cv E u).category = 1) (hv : (cv E v).category = 1) (k : Z E Y d (pc + 1) L (v :: u :: v :: u :: st) σ Q) : Z E Y d pc L (v :: u :: st) σ Q :=
  z_pure k (fun h => ⟨h.1, h.2.1, h⟩) (fun F hS hs hl hP w => lv_dup2_11 F.1 F.2.1 hdg hv hu w)
theorem z_dup_x1 {u v : AV} (hdg : decode Y.2.1 pc = .ok (.dup_x1, 1)) (hu : (cv E u).category = 1) (hv : (cv E v).category = 1) (k : Z E Y d (pc + 1) L (v :: u :: v :: st) σ Q) : Z E Y d pc L (v :: u :: st) σ Q :=
  z_pure k (fun h => ⟨h.1, h.2.1, h.1, h.2.2⟩) (fun F hS hs hl hP w => lv_dup_x1 F.1 F.2.1 hdg hv hu w)
theorem z_goto {off : Int} (tgt : Nat) (hdg : decode Y.2.1 pc = .ok (.goto off, 3)) (ht : (pc : Int) + off = (tgt : Int)) (k : Z E Y d tgt L st σ Q) : Z E Y d pc L st σ Q :=
  z_pure k (fun h => h) (fun F hS hs hl hP w => lv_goto F.1 F.2.1 hdg ht w)
/-- branches -/
theorem z_br {A B : Prop} {st0 : List AV} {pc1 pc2 : Nat} (k : (A → Z E Y d pc1 L st0 σ Q) ∧ (B → Z E Y d pc2 L st0 σ Q)) (hok : oks st → oks st0)
    (hstep : ∀ {p : Program} {e : Env} {s : State} {m : MethodId} {args : Array Value} {below : List Frame} {meth : Method} {c : Code} {H : Heap} {locs : List Loc} {ls : Array Slot} {QQ : State → Prop}, p.tables.exec = Jvm.exec → c.code = Y.2.1 → oks st →
      (A → W p (eL E) e (rmd d) s m args below meth c H locs 0 0 QQ (F0 m pc1 ls (st0.map (cv E)))) → (B → W p (eL E) e (rmd d) s m args below meth c H locs 0 0 QQ (F0 m pc2 ls (st0.map (cv E)))) → W p (eL E) e (rmd d) s m args below meth c H locs 0 0 QQ (F0 m pc ls (st.map (cv E)))) : Z E Y d pc L st σ Q := by
  intro p e s m args below meth c H locs ls F hP hS hR hL hs hl hn
  exact hstep F.1 F.2.1 hs (fun h => k.1 h p e s m args below meth c H locs ls F hP hS hR hL (hok hs) hl hn) (fun h => k.2 h p e s m args below meth c H locs ls F hP hS hR hL (hok hs) hl hn)
theorem lt32 {a b : Int} (ha : i32 a) (hb : i32 b) : Int32.ofInt a < Int32.ofInt b ↔ a < b := by rw [Int32.lt_iff_toInt_lt, of32 ha, of32 hb]
theorem le32 {a b : Int} (ha : i32 a) (hb : i32 b) : Int32.ofInt a ≤ Int32.ofInt b ↔ a ≤ b := by rw [Int32.le_iff_toInt_le, of32 ha, of32 hb]
theorem eqi32 {a b : Int} (ha : i32 a) (hb : i32 b) : Int32.ofInt a = Int32.ofInt b ↔ a = b := by rw [← Int32.toInt_inj, of32 ha, of32 hb]
theorem zero32 : (0 : Int32) = Int32.ofInt 0 := rfl
theorem i32_0 : i32 0 := by unfold i32; omega
theorem z_if_eq {a : Int} {off : Int} (tgt : Nat) (hdg : decode Y.2.1 pc = .ok (.ifCond .eq off, 3)) (ht : (pc : Int) + off = (tgt : Int)) (k : (a = 0 → Z E Y d tgt L st σ Q) ∧ (a ≠ 0 → Z E Y d (pc + 3) L st σ Q)) : Z E Y d pc L (vi a :: st) σ Q :=
  z_br k (fun h => h.2) (fun hx hb hs kt kf => lv_if_eq hx hb hdg ht (fun q => kt ((eqi32 hs.1 i32_0).mp q)) (fun q => kf (fun z => q ((eqi32 hs.1 i32_0).mpr z))))
theorem z_icmp_eq {a b : Int} {off : Int} (tgt : Nat) (hdg : decode Y.2.1 pc = .ok (.if_icmp .eq off, 3)) (ht : (pc : Int) + off = (tgt : Int)) (k : (a = b → Z E Y d tgt L st σ Q) ∧ (a ≠ b → Z E Y d (pc + 3) L st σ Q)) : Z E Y d pc L (vi b :: vi a :: st) σ Q :=
  z_br k (fun h => h.2.2) (fun hx hb hs kt kf => lv_icmp_eq hx hb hdg ht (fun q => kt ((eqi32 hs.2.1 hs.1).mp q)) (fun q => kf (fun z => q ((eqi32 hs.2.1 hs.1).mpr z))))
theorem z_if_ne {a : Int} {off : Int} (tgt : Nat) (hdg : decode Y.2.1 pc = .ok (.ifCond .ne off, 3)) (ht : (pc : Int) + off = (tgt : Int)) (k : (a ≠ 0 → Z E Y d tgt L st σ Q) ∧ (a = 0 → Z E Y d (pc + 3) L st σ Q)) : Z E Y d pc L (vi a :: st) σ Q :=
  z_br k (fun h => h.2) (fun hx hb hs kt kf => lv_if_ne hx hb hdg ht (fun q => kt (fun z => q ((eqi32 hs.1 i32_0).mpr z))) (fun q => kf ((eqi32 hs.1 i32_0).mp q)))
theorem z_icmp_ne {a b : Int} {off : Int} (tgt : Nat) (hdg : decode Y.2.1 pc = .ok (.if_icmp .ne off, 3)) (ht : (pc : Int) + off = (tgt : Int)) (k : (a ≠ b → Z E Y d tgt L st σ Q) ∧ (a = b → Z E Y d (pc + 3) L st σ Q)) : Z E Y d pc L (vi b :: vi a :: st) σ Q :=
  z_br k (fun h => h.2.2) (fun hx hb hs kt kf => lv_icmp_ne hx hb hdg ht (fun q => kt (fun z => q ((eqi32 hs.2.1 hs.1).mpr z))) (fun q => kf ((eqi32 hs.2.1 hs.1).mp q)))
theorem z_if_lt {a : Int} {off : Int} (tgt : Nat) (hdg : decode Y.2.1 pc = .ok (.ifCond .lt off, 3)) (ht : (pc : Int) + off = (tgt : Int)) (k : (a < 0 → Z E Y d tgt L st σ Q) ∧ (0 ≤ a → Z E Y d (pc + 3) L st σ Q)) : Z E Y d pc L (vi a :: st) σ Q :=
  z_br k (fun h => h.2) (fun hx hb hs kt kf => lv_if_lt hx hb hdg ht (fun q => kt ((lt32 hs.1 i32_0).mp q)) (fun q => kf (Int.not_lt.mp (fun z => q ((lt32 hs.1 i32_0).mpr z)))))
theorem z_icmp_lt {a b : Int} {off : Int} (tgt : Nat) (hdg : decode Y.2.1 pc = .ok (.if_icmp .lt off, 3)) (ht : (pc : Int) + off = (tgt : Int)) (k : (a < b → Z E Y d tgt L st σ Q) ∧ (b ≤ a → Z E Y d (pc + 3) L st σ Q)) : Z E Y d pc L (vi b :: vi a :: st) σ Q :=
  z_br k (fun h => h.2.2) (fun hx hb hs kt kf => lv_icmp_lt hx hb hdg ht (fun q => kt ((lt32 hs.2.1 hs.1).mp q)) (fun q => kf (Int.not_lt.mp (fun z => q ((lt32 hs.2.1 hs.1).mpr z)))))
theorem z_if_ge {a : Int} {off : Int} (tgt : Nat) (hdg : decode Y.2.1 pc = .ok (.ifCond .ge off, 3)) (ht : (pc : Int) + off = (tgt : Int)) (k : (0 ≤ a → Z E Y d tgt L st σ Q) ∧ (a < 0 → Z E Y d (pc + 3) L st σ Q)) : Z E Y d pc L (vi a :: st) σ Q :=
  z_br k (fun h => h.2) (fun hx hb hs kt kf => lv_if_ge hx hb hdg ht (fun q => kt ((le32 i32_0 hs.1).mp q)) (fun q => kf (Int.not_le.mp (fun z => q ((le32 i32_0 hs.1).mpr z)))))
theorem z_icmp_ge {a b : Int} {off : Int} (tgt : Nat) (hdg : decode Y.2.1 pc = .ok (.if_icmp .ge off, 3)) (ht : (pc : Int) + off = (tgt : Int)) (k : (b ≤ a → Z E Y d tgt L st σ Q) ∧ (a < b → Z E Y d (pc + 3) L st σ Q)) : Z E Y d pc L (vi b :: vi a :: st) σ Q :=
  z_br k (fun h => h.2.2) (fun hx hb hs kt kf => lv_icmp_ge hx hb hdg ht (fun q => kt ((le32 hs.1 hs.2.1).mp q)) (fun q => kf (Int.not_le.mp (fun z => q ((le32 hs.1 hs.2.1).mpr z)))))
theorem z_if_gt {a : Int} {off : Int} (tgt : Nat) (hdg : decode Y.2.1 pc = .ok (.ifCond .gt off, 3)) (ht : (pc : Int) + off = (tgt : Int)) (k : (0 < a → Z E Y d tgt L st σ Q) ∧ (a ≤ 0 → Z E Y d (pc + 3) L st σ Q)) : Z E Y d pc L (vi a :: st) σ Q :=
  z_br k (fun h => h.2) (fun hx hb hs kt kf => lv_if_gt hx hb hdg ht (fun q => kt ((lt32 i32_0 hs.1).mp q)) (fun q => kf (Int.not_lt.mp (fun z => q ((lt32 i32_0 hs.1).mpr z)))))
theorem z_icmp_gt {a b : Int} {off : Int} (tgt : Nat) (hdg : decode Y.2.1 pc = .ok (.if_icmp .gt off, 3)) (ht : (pc : Int) + off = (tgt : Int)) (k : (b < a → Z E Y d tgt L st σ Q) ∧ (a ≤ b → Z E Y d (pc + 3) L st σ Q)) : Z E Y d pc L (vi b :: vi a :: st) σ Q :=
  z_br k (fun h => h.2.2) (fun hx hb hs kt kf => lv_icmp_gt hx hb hdg ht (fun q => kt ((lt32 hs.1 hs.2.1).mp q)) (fun q => kf (Int.not_lt.mp (fun z => q ((lt32 hs.1 hs.2.1).mpr z)))))
theorem z_if_le {a : Int} {off : Int} (tgt : Nat) (hdg : decode Y.2.1 pc = .ok (.ifCond .le off, 3)) (ht : (pc : Int) + off = (tgt : Int)) (k : (a ≤ 0 → Z E Y d tgt L st σ Q) ∧ (0 < a → Z E Y d (pc + 3) L st σ Q)) : Z E Y d pc L (vi a :: st) σ Q :=
  z_br k (fun h => h.2) (fun hx hb hs kt kf => lv_if_le hx hb hdg ht (fun q => kt ((le32 hs.1 i32_0).mp q)) (fun q => kf (Int.not_le.mp (fun z => q ((le32 hs.1 i32_0).mpr z)))))
theorem z_icmp_le {a b : Int} {off : Int} (tgt : Nat) (hdg : decode Y.2.1 pc = .ok (.if_icmp .le off, 3)) (ht : (pc : Int) + off = (tgt : Int)) (k : (a ≤ b → Z E Y d tgt L st σ Q) ∧ (b < a → Z E Y d (pc + 3) L st σ Q)) : Z E Y d pc L (vi b :: vi a :: st) σ Q :=
  z_br k (fun h => h.2.2) (fun hx hb hs kt kf => lv_icmp_le hx hb hdg ht (fun q => kt ((le32 hs.2.1 hs.1).mp q)) (fun q => kf (Int.not_le.mp (fun z => q ((le32 hs.2.1 hs.1).mpr z)))))

/-- returns -/
def qi (K : Int → Mem → Prop) : Option AV → Mem → Prop := fun r τ => ∃ x, r = some (vi x) ∧ K x τ
def ql (K : Int → Mem → Prop) : Option AV → Mem → Prop := fun r τ => ∃ x, r = some (vl x) ∧ K x τ
def qv (K : Mem → Prop) : Option AV → Mem → Prop := fun r τ => r = none ∧ K τ
theorem z_ret (r : Option AV) (hq : Q r σ) (hr : oks st → oko r)
    (hstep : ∀ {p : Program} {e : Env} {s : State} {m : MethodId} {args : Array Value} {below : List Frame} {meth : Method} {c : Code} {H : Heap} {locs : List Loc} {ls : Array Slot}, FX E Y p s m args meth c →
      (∀ t : State, t.heap = H → s.WarmedH t.vm → QC E Q args s (.returned (r.map (cv E))) t) → (∀ q ∈ locs, eA E q.base) → W p (eL E) e (rmd d) s m args below meth c H locs 0 0 (MQ below (QC E Q) args s 0 0 (eA E)) (F0 m pc ls (st.map (cv E)))) : Z E Y d pc L st σ Q := by
  intro p e s m args below meth c H locs ls F hP hS hR hL hs hl hn
  exact hstep F (fun t ht hW => ⟨r, σ, rfl, hq, by rw [ht]; exact hP, hR, hr hs, hS.F ht⟩) hS.2.2
theorem z_iret {a : Int} {K : Int → Mem → Prop} (hdg : decode Y.2.1 pc = .ok (.ireturn, 1)) (hy : Y.2.2.2 = some .int) (hq : K a σ) : Z E Y d pc L [vi a] σ (qi K) :=
  z_ret (some (vi a)) ⟨a, rfl, hq⟩ (fun h => h.1) (fun F h1 h2 => W.iret F.1 F.2.1 (F.2.2.1.trans hy) h1 h2 hdg F.2.2.2.2.2.2.1)
theorem nar_bool {a : Int} (h : a = 0 ∨ a = 1) : narrow .boolean (.int (Int32.ofInt a)) = .int (Int32.ofInt a) := by rcases h with rfl | rfl <;> rfl
theorem nar_byte {a : Int} (h : -128 ≤ a ∧ a ≤ 127) : narrow .byte (.int (Int32.ofInt a)) = .int (Int32.ofInt a) := by
  show Value.int _ = _
  congr 1; apply eq32
  rw [Int8.toInt_toInt32, Int32.toInt_toInt8, of32 (by unfold i32; omega)]; simp only [Int.bmod]; split <;> omega
theorem z_zret {a : Int} {K : Int → Mem → Prop} (hdg : decode Y.2.1 pc = .ok (.ireturn, 1)) (hy : Y.2.2.2 = some .boolean) (hq : (a = 0 ∨ a = 1) ∧ K a σ) : Z E Y d pc L [vi a] σ (qi K) :=
  z_ret (some (vi a)) ⟨a, rfl, hq.2⟩ (fun h => h.1) (fun F h1 h2 => W.zret F.1 F.2.1 (F.2.2.1.trans hy) (nar_bool hq.1) h1 h2 hdg F.2.2.2.2.2.2.1)
theorem z_bret {a : Int} {K : Int → Mem → Prop} (hdg : decode Y.2.1 pc = .ok (.ireturn, 1)) (hy : Y.2.2.2 = some .byte) (hq : (-128 ≤ a ∧ a ≤ 127) ∧ K a σ) : Z E Y d pc L [vi a] σ (qi K) :=
  z_ret (some (vi a)) ⟨a, rfl, hq.2⟩ (fun h => h.1) (fun F h1 h2 => W.zret F.1 F.2.1 (F.2.2.1.trans hy) (nar_byte hq.1) h1 h2 hdg F.2.2.2.2.2.2.1)
theorem z_cret {a : Int} {K : Int → Mem → Prop} (hdg : decode Y.2.1 pc = .ok (.ireturn, 1)) (hy : Y.2.2.2 = some .char) (hq : (0 ≤ a ∧ a < 65536) ∧ K a σ) : Z E Y d pc L [vi a] σ (qi K) :=
  z_ret (some (vi a)) ⟨a, rfl, hq.2⟩ (fun h => h.1) (fun F h1 h2 => W.zret F.1 F.2.1 (F.2.2.1.trans hy) (by
    have e : Int32.ofInt a = nI a.toNat := by apply eq32; rw [of32 (by unfold i32; omega), nI_toInt (by omega)]; omega
    rw [e]; exact (pk_charN (by omega)).1) h1 h2 hdg F.2.2.2.2.2.2.1)
theorem z_lret {a : Int} {K : Int → Mem → Prop} (hdg : decode Y.2.1 pc = .ok (.lreturn, 1)) (hy : Y.2.2.2 = some .long) (hq : K a σ) : Z E Y d pc L [vl a] σ (ql K) :=
  z_ret (some (vl a)) ⟨a, rfl, hq⟩ (fun h => h.1) (fun F h1 h2 => W.lret F.1 F.2.1 (F.2.2.1.trans hy) h1 h2 hdg (hlocks := F.2.2.2.2.2.2.1))
theorem z_vret {K : Mem → Prop} (hdg : decode Y.2.1 pc = .ok (.return_, 1)) (hy : Y.2.2.2 = none) (hq : K σ) : Z E Y d pc L [] σ (qv K) :=
  z_ret none ⟨rfl, hq⟩ (fun _ => trivial) (fun F h1 h2 => W.vret F.1 F.2.1 (F.2.2.1.trans hy) h1 h2 hdg F.2.2.2.2.2.2.1)
/-- fields -/
def FLK (own : String) (index ci k : Nat) : Prop := ∃ q : vw_C, cls[ci]? = some q ∧ k < q.2.2 ∧ Cond.fieldLink own index (q.2.1 k).1 (q.2.1 k).2.1 (q.2.1 k).2.2.1 ∈ gw
def FLP (own : String) (index ci k : Nat) (ty : FieldType) : Prop := ∃ q : vw_C, cls[ci]? = some q ∧ k < q.2.2 ∧ Cond.fieldLink own index (q.2.1 k).1 (q.2.1 k).2.1 (q.2.1 k).2.2.1 ∈ gw ∧ (q.2.1 k).2.2.2 = false ∧ (YZ.getD ci (fun _ => .int)) k = ty
theorem sh_N : ∀ c, c < nC → (sh c).1 < 20 → (cls[(sh c).1]?).map (fun q => q.2.2) = some (sh c).2 := by decide +kernel
theorem ce_obj {E : EN} {σ : Mem} {c ci N : Nat} (hs : sh c = (ci, N)) (h : ci < 20) : ce E σ c = .inr (ci, (List.range N).map (fv E σ c ci)) := by
  unfold ce; rw [hs]; exact if_pos h
theorem cls_lt {ci : Nat} {q : vw_C} (h : cls[ci]? = some q) : ci < 20 := by
  have h1 := (List.getElem?_eq_some_iff.mp h).1
  have h2 : cls.length = 12 := rfl
  omega
theorem cls_N {c ci N : Nat} {q : vw_C} (hs : sh c = (ci, N)) (h : cls[ci]? = some q) : q.2.2 = N ∧ c < nC := by
  have hlt := cls_lt h
  have hc := sh_lt hs (by omega)
  have h1 := sh_N c hc (by rw [hs]; exact hlt)
  rw [hs] at h1
  simp only [h, Option.map_some] at h1
  exact ⟨Option.some.inj h1, hc⟩
theorem z_get {c ci N kn index : Nat} {v : AV} (hf : FLK Y.1.cls index ci kn) (hs : sh c = (ci, N)) (hv : cv E v = fv E σ c ci kn) (hok : Rng σ → ok1 v) (hdg : decode Y.2.1 pc = .ok (.getfield index, 3)) (k : Z E Y d (pc + 3) L (v :: st) σ Q) : Z E Y d pc L (vr c :: st) σ Q := by
  obtain ⟨q, hq, hk, hw⟩ := hf
  obtain ⟨hN, hc⟩ := cls_N hs hq
  refine Z.rng fun hR _ _ => z_pure k (fun h => ⟨hok hR, h.2⟩) (fun F hS _ hl hP w => ?_)
  refine va_get (D := eD E) (ci := ci) (v := fv E σ c ci kn) (C := q.1) (T := q.2.1) (N := q.2.2) (Ts := gw) F.1 F.2.1 F.2.2.2.2.2.1 (cls_ok ci q hq).1 F.2.2.2.2.1 F.2.2.2.2.2.2.2.1.1 hP c (fs := (List.range N).map (fv E σ c ci)) (by rw [wsv_at hc, ce_obj hs (cls_lt hq)]) hq kn hk (F.2.2.2.2.2.1 _ hw) (fun _ h => h) (by rw [List.getElem?_map, List.getElem?_range (by omega)]; rfl) hdg ?_
  rw [← hv]
  exact w
theorem Rng.at {σ : Mem} (h : Rng σ) {c ci N : Nat} (hs : sh c = (ci, N)) (hci : ci < 20) (i : Int) : rg (fg ci i) (σ c i) := by
  have h1 := h c i
  unfold tyr at h1
  rw [hs] at h1
  rwa [if_pos hci] at h1
theorem rg_i32 {t : Nat} {v : Int} (h : rg t v) (ht : t ≠ 1) : i32 v := by
  unfold rg at h
  rw [if_neg ht] at h
  split at h
  · unfold i32; omega
  · split at h
    · unfold i32; omega
    · exact h
theorem z_getI {c ci N kn index : Nat} (kz : Int) (hf : FLK Y.1.cls index ci kn) (hs : sh c = (ci, N)) (hg : fg ci kn ≠ 1 ∧ fg ci kn ≠ 2) (hkz : (kn : Int) = kz) (hdg : decode Y.2.1 pc = .ok (.getfield index, 3)) (k : Z E Y d (pc + 3) L (vi (σ c kz) :: st) σ Q) : Z E Y d pc L (vr c :: st) σ Q := by
  subst hkz
  refine z_get hf hs ?_ (fun hR => ?_) hdg k
  · unfold fv; rw [if_neg hg.1, if_neg hg.2]; rfl
  · obtain ⟨q, hq, -⟩ := hf
    exact rg_i32 (hR.at hs (cls_lt hq) kn) hg.1
theorem z_getL {c ci N kn index : Nat} (kz : Int) (hf : FLK Y.1.cls index ci kn) (hs : sh c = (ci, N)) (hg : fg ci kn = 1) (hkz : (kn : Int) = kz) (hdg : decode Y.2.1 pc = .ok (.getfield index, 3)) (k : Z E Y d (pc + 3) L (vl (σ c kz) :: st) σ Q) : Z E Y d pc L (vr c :: st) σ Q := by
  subst hkz
  refine z_get hf hs ?_ (fun hR => ?_) hdg k
  · unfold fv; rw [if_pos hg]; rfl
  · obtain ⟨q, hq, -⟩ := hf
    have h1 := hR.at hs (cls_lt hq) kn
    rw [hg] at h1
    exact h1
theorem z_getR {c ci N kn index : Nat} (n : Nat) (hf : FLK Y.1.cls index ci kn) (hs : sh c = (ci, N)) (hg : fg ci kn = 2) (hn : rf c kn = n) (hdg : decode Y.2.1 pc = .ok (.getfield index, 3)) (k : Z E Y d (pc + 3) L (vr n :: st) σ Q) : Z E Y d pc L (vr c :: st) σ Q := by
  subst hn
  refine z_get (v := vr (rf c kn)) hf hs ?_ (fun hR => trivial) hdg k
  unfold fv; rw [if_neg (by rw [hg]; omega), if_pos hg]; rfl
/-- an instruction that changes the memory -/
theorem z_mem {c : Nat} {X : va_E} {τ : Mem} {pc2 : Nat} {st2 : List AV} (k : Z E Y d pc2 L st2 τ Q) (hc : c < nC) (h1 : ce E τ c = X) (h2 : ∀ c', c' ≠ c → ce E τ c' = ce E σ c') (hR2 : Rng σ → oks st → Rng τ) (hok : oks st → oks st2)
    (hstep : ∀ {p : Program} {e : Env} {s : State} {m : MethodId} {args : Array Value} {below : List Frame} {meth : Method} {cd : Code} {H : Heap} {locs : List Loc} {ls : Array Slot} {QQ : State → Prop}, FX E Y p s m args meth cd → va_S (eA E) s.heap H locs → oks st → Rng σ → va_P (eD E) cls (wsv E σ) H → va_D (eA E) (wsv E σ) → cd.maxLocals = ls.size →
      (∀ (H1 : Heap) (locs1 : List Loc), va_P (eD E) cls ((wsv E σ).set c (ead E c, X)) H1 → va_D (eA E) ((wsv E σ).set c (ead E c, X)) → va_S (eA E) s.heap H1 locs1 → W p (eL E) e (rmd d) s m args below meth cd H1 locs1 0 0 QQ (F0 m pc2 ls (st2.map (cv E)))) → W p (eL E) e (rmd d) s m args below meth cd H locs 0 0 QQ (F0 m pc ls (st.map (cv E)))) : Z E Y d pc L st σ Q := by
  intro p e s m args below meth cd H locs ls F hP hS hR hL hs hl hn
  refine hstep F hS hs hR hP (F.2.2.2.2.2.2.2.2.vd σ) (by rw [F.2.2.2.1, ← hn, hl.1]) (fun H1 locs1 hP1 hD1 hS1 => ?_)
  rw [wsv_set hc h1 h2] at hP1
  exact k p e s m args below meth cd H1 locs1 ls F hP1 hS1 (hR2 hR hs) hL (hok hs) hl hn
theorem fv_up {E : EN} {σ : Mem} {c ci N kn : Nat} {v : Int} {w : Value} (hk : kn < N) (hw : fv E (up σ c kn v) c ci kn = w) : (List.range N).map (fv E (up σ c kn v) c ci) = ((List.range N).map (fv E σ c ci)).set kn w := by
  apply List.ext_getElem?
  intro i
  rw [List.getElem?_set]
  by_cases e : kn = i
  · subst e
    rw [if_pos rfl, if_pos (by simpa using hk), List.getElem?_map, List.getElem?_range hk, ← hw]; rfl
  · rw [if_neg e]
    rw [List.getElem?_map, List.getElem?_map]
    by_cases hi : i < N
    · rw [List.getElem?_range hi]
      have h1 : ∀ x : Int, up σ c kn x c i = σ c i := fun x => up_nk (by omega)
      simp only [Option.map_some, fv, h1]
    · rw [List.getElem?_eq_none (by simp; omega)]; rfl
theorem z_put {c ci N kn index : Nat} {x : AV} {v : Int} {ty : FieldType} (hf : FLP Y.1.cls index ci kn ty) (hs : sh c = (ci, N)) (hfv : fv E (up σ c kn v) c ci kn = cv E x) (hnar : narrow ty (cv E x) = cv E x) (hfit : fits ty (cv E x) = true) (hrg : ok1 x → rg (fg ci kn) v) (hdg : decode Y.2.1 pc = .ok (.putfield index, 3)) (k : Z E Y d (pc + 3) L st (up σ c kn v) Q) : Z E Y d pc L (x :: vr c :: st) σ Q := by
  obtain ⟨q, hq, hk, hw, hfin, hty⟩ := hf
  obtain ⟨hN, hc⟩ := cls_N hs hq
  have hlt := cls_lt hq
  refine z_mem k hc (X := .inr (ci, ((List.range N).map (fv E σ c ci)).set kn (cv E x))) (by rw [ce_obj hs hlt, fv_up (by omega) hfv]) (fun c' h => ce_up_ne h) (fun hR hs2 => hR.up ?_) (fun h => h.2.2) (fun F hS _ _ hP hD _ w => ?_)
  · unfold tyr; rw [hs]; rw [if_pos hlt]; exact hrg hs2.1
  refine va_put (D := eD E) (ci := ci) (v := cv E x) (ty := ty) (C := q.1) (T := q.2.1) (N := q.2.2) (Ts := gw) F.1 F.2.1 F.2.2.2.2.2.1 (cls_ok ci q hq).1 (YZ.getD ci (fun _ => .int)) (cls_ok ci q hq).2.2 (cls_ok ci q hq).2.1 F.2.2.2.2.1 F.2.2.2.2.2.2.2.1.1 hP hD hS c (fs := (List.range N).map (fv E σ c ci)) (by rw [wsv_at hc, ce_obj hs hlt]) hq kn hk (F.2.2.2.2.2.1 _ hw) (fun _ h => h) hfin (by rw [← hty]; exact (cls_ok ci q hq).2.2 kn hk) hnar hfit (by simp; omega) hdg w
theorem z_putI {c ci N kn index : Nat} {v : Int} (kz : Int) (hf : FLP Y.1.cls index ci kn .int) (hs : sh c = (ci, N)) (hg : fg ci kn = 0) (hkz : (kn : Int) = kz) (hdg : decode Y.2.1 pc = .ok (.putfield index, 3)) (k : Z E Y d (pc + 3) L st (up σ c kz v) Q) : Z E Y d pc L (vi v :: vr c :: st) σ Q := by
  subst hkz
  refine z_put hf hs ?_ rfl rfl (fun h => ?_) hdg k
  · unfold fv; rw [if_neg (by rw [hg]; omega), if_neg (by rw [hg]; omega), up_same]; rfl
  · rw [hg]; exact h
theorem z_putZ {c ci N kn index : Nat} {v : Int} (kz : Int) (hf : FLP Y.1.cls index ci kn .boolean) (hs : sh c = (ci, N)) (hg : fg ci kn = 3) (hkz : (kn : Int) = kz) (hv : v = 0 ∨ v = 1) (hdg : decode Y.2.1 pc = .ok (.putfield index, 3)) (k : Z E Y d (pc + 3) L st (up σ c kz v) Q) : Z E Y d pc L (vi v :: vr c :: st) σ Q := by
  subst hkz
  refine z_put hf hs ?_ (nar_bool hv) (by rcases hv with rfl | rfl <;> rfl) (fun h => ?_) hdg k
  · unfold fv; rw [if_neg (by rw [hg]; omega), if_neg (by rw [hg]; omega), up_same]; rfl
  · rw [hg]; exact hv
theorem z_putL {c ci N kn index : Nat} {v : Int} (kz : Int) (hf : FLP Y.1.cls index ci kn .long) (hs : sh c = (ci, N)) (hg : fg ci kn = 1) (hkz : (kn : Int) = kz) (hdg : decode Y.2.1 pc = .ok (.putfield index, 3)) (k : Z E Y d (pc + 3) L st (up σ c kz v) Q) : Z E Y d pc L (vl v :: vr c :: st) σ Q := by
  subst hkz
  refine z_put hf hs ?_ rfl rfl (fun h => ?_) hdg k
  · unfold fv; rw [if_pos hg, up_same]; rfl
  · rw [hg]; exact h
