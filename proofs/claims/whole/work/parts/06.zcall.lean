variable {E : EN} {Y : MI} {d pc : Nat} {L : List (Option AV)} {st : List AV} {σ : Mem} {Q : Option AV → Mem → Prop}
/-- calls -/
def CI (E : EN) (Y : MI) (d : Nat) (as : List AV) (σ : Mem) (K : Int → Mem → Prop) : Prop := Cc E Y d as σ (qi K)
def CL (E : EN) (Y : MI) (d : Nat) (as : List AV) (σ : Mem) (K : Int → Mem → Prop) : Prop := Cc E Y d as σ (ql K)
def CV (E : EN) (Y : MI) (d : Nat) (as : List AV) (σ : Mem) (K : Mem → Prop) : Prop := Cc E Y d as σ (qv K)
def cat (v : AV) : Nat := match v with | .inr (.inl _) => 2 | _ => 1
theorem gw_good {Yc : MI} (h : wcode Yc ∈ gw) : GoodIn gw (wcode Yc :: gw) := by
  intro w hw
  have hm : w ∈ gw := by
    rcases List.mem_cons.mp hw with rfl | h1
    · exact h
    · exact h1
  exact ⟨hm, good_of_word (List.mem_filter.mp hm).2⟩
def MLB (own : String) (index : Nat) (Yc : MI) (n : Nat) : Prop := Cond.methodLink own index Yc.1 ∈ gw ∧ Cond.initialized Yc.1.cls ∈ gw ∧ wcode Yc ∈ gw ∧ (Yc.1.cls ≠ "java/lang/invoke/MethodHandle" ∧ Yc.1.cls ≠ "java/lang/invoke/VarHandle" ∧ (parseMethodDescriptor Yc.1.desc).map (fun d => d.parameters.length) = some n) ∧ Yc.2.2.1 ≤ 40
def MLV (own : String) (index : Nat) (Yc : MI) (n : Nat) : Prop := MLB own index Yc n ∧ Cond.instanceMethod Yc.1 ∈ gw ∧ Cond.selects Yc.1.cls Yc.1 Yc.1 ∈ gw
def MLS (own : String) (index : Nat) (Yc : MI) (n : Nat) : Prop := MLB own index Yc n ∧ Cond.static Yc.1 ∈ gw
theorem MLB.cb {own : String} {index n dc d : Nat} {Yc : MI} (h : MLB own index Yc n) {args : Array Value} {s : State} (hts : ∀ w ∈ gw, w.before args s = true) (hd : dc + 1 ≤ d) : CallB (rmd d) s args own index Yc.1 Yc.2.1 Yc.2.2.1 Yc.2.2.2 (wcode Yc :: gw) (rmd dc) 0 0 n :=
  callB_of n hts (gw_good h.2.2.1) rfl rfl rfl (hts _ h.2.1) (hts _ h.1) h.2.2.2.1 ⟨hd, by show 8 + (Yc.2.2.1 + 11) + 60 * dc ≤ 60 * d; have := h.2.2.2.2; omega⟩
theorem PC.blind {as : List AV} : FrameBlind (PC E as σ) := fun a U g mk h => ⟨h.1, h.2.1, h.2.2.1.calling g mk a, h.2.2.2⟩
theorem z_cont {p : Program} {e : Env} {s : State} {m : MethodId} {args : Array Value} {below : List Frame} {meth : Method} {c : Code} {H : Heap} {locs : List Loc} {ls : Array Slot} {QQ : State → Prop} {Q1 : Option AV → Mem → Prop} {st0 rest : List Value} {a : Array Value}
    (hr : va_Run p (eL E) e (rmd d) s m args below meth c H locs 0 0 0 0 (F0 m pc ls st0) rest (QC E Q1 a) (eA E)) (hS : va_S (eA E) s.heap H locs)
    (kk : ∀ (r : Option AV) (τ : Mem) (H1 : Heap) (locs1 : List Loc), Q1 r τ → oko r → Rng τ → va_P (eD E) cls (wsv E τ) H1 → va_S (eA E) s.heap H1 locs1 → W p (eL E) e (rmd d) s m args below meth c H1 locs1 0 0 QQ (F0 m (pc + 3) ls ((r.map (cv E)).toList ++ rest))) : W p (eL E) e (rmd d) s m args below meth c H locs 0 0 QQ (F0 m pc ls st0) := by
  intro T hT X
  obtain ⟨v, st₀, t, T', L, h0, X', hL, e1, e2, ⟨r, τ, hv, hq, hP1, hR1, ho1, hz, hk⟩, stp⟩ := hr T hT X
  cases hv
  rw [h0] at hz hk
  obtain ⟨t2, a1, b1⟩ := kk r τ T'.heap (locs ++ L) hq ho1 hR1 (by rw [e1]; exact hP1)
    ⟨Nat.le_trans hS.1 (by rw [e1]; exact hz), fun q h1 h2 => by rw [e1, hk q (Nat.lt_of_lt_of_le h1 hS.1) h2]; exact hS.2.1 q h1 h2, fun q hq => by
      rcases List.mem_append.mp hq with h | h
      · exact hS.2.2 q h
      · exact hL q h⟩ T' rfl X'
  exact ⟨t2, stp t2 a1, b1⟩
theorem oks_app : ∀ {a b : List AV}, oks (a ++ b) ↔ oks a ∧ oks b
  | [], b => by simp [oks]
  | v :: a, b => by simp only [List.cons_append, oks]; rw [oks_app]; exact ⟨fun h => ⟨⟨h.1, h.2.1⟩, h.2.2⟩, fun h => ⟨h.1.1, h.1.2, h.2⟩⟩
theorem oks_rev : ∀ {a : List AV}, oks a.reverse → oks a
  | [], _ => trivial
  | v :: a, h => by
    rw [List.reverse_cons] at h
    obtain ⟨h1, h2⟩ := oks_app.mp h
    exact ⟨h2.1, oks_rev h1⟩
theorem z_callv {dc index n c ci N : Nat} {Yc : MI} {as stk : List AV} (hm : MLV Y.1.cls index Yc n) (hs : sh c = (ci, N)) (hC : (cls.getD ci (RZ0, TZ0, 99)).1 = Yc.1.cls ∧ ci < 12) (hn : as.length = n) (hst : stk = as.reverse ++ vr c :: st) (hw : (st.map cat).sum ≤ 8) (hd : dc + 1 ≤ d) (hdg : decode Y.2.1 pc = .ok (.invokevirtual index, 3)) (k : Cc E Yc dc (vr c :: as) σ (fun r τ => Z E Y d (pc + 3) L (r.toList ++ st) τ Q)) : Z E Y d pc L stk σ Q := by
  subst hst
  intro p e s m args below meth cd H locs ls F hP hS hR hL ho hl hnl
  obtain ⟨o1, o2⟩ := oks_app.mp ho
  have hc := sh_lt hs (by omega)
  have hq : cls[ci]? = some (cls.getD ci (RZ0, TZ0, 99)) := by
    rw [List.getD_eq_getElem?_getD]
    have : ci < cls.length := hC.2
    rw [List.getElem?_eq_getElem this]; rfl
  refine z_cont (Q1 := fun r τ => Z E Y d (pc + 3) L (r.toList ++ st) τ Q) (va_runV (As := as.map (cv E)) (rest := st.map (cv E)) (n := n) (C := Yc.1.cls) ⟨F.1, F.2.1, F.2.2.2.1, F.2.2.2.2.1, F.2.2.2.2.2.1⟩ k ⟨hm.1.cb F.2.2.2.2.2.1 hd, F.2.2.2.2.2.1 _ hm.2.1, F.2.2.2.2.2.1 _ hm.2.2⟩ ⟨PC.blind, ?_, fun U hU hW => ⟨rfl, by rw [hU]; exact hP, F.2.2.2.2.2.2.2.1.warm hW (fun a h1 h2 => by rw [hU]; exact hS.2.1 a h1 h2), hR, ⟨trivial, oks_rev o1⟩, F.2.2.2.2.2.2.2.2⟩⟩ rfl (by rw [List.length_map]; exact hn) (by show ls.size = _; rw [hl.1, hnl]) (by rw [List.map_append, List.map_reverse]; rfl) (lv_room (by rw [cat_sum]; exact hw)) hdg ⟨Nat.zero_le _, Nat.zero_le _⟩) hS ?_
  · rw [← hC.1]
    exact va_recv F.2.2.2.2.2.2.2.1.1 hP hq (q0 := c) (fs := (List.range N).map (fv E σ c ci)) (by rw [wsv_at hc, ce_obj hs (by omega)])
  · intro r τ H1 locs1 hq1 ho1 hR1 hP1 hS1
    have := hq1 p e s m args below meth cd H1 locs1 ls F hP1 hS1 hR1 hL (oks_app.mpr ⟨by cases r with | none => exact trivial | some v => exact ⟨ho1, trivial⟩, o2.2⟩) hl hnl
    rw [List.map_append] at this
    rw [show (r.map (cv E)).toList = r.toList.map (cv E) by cases r <;> rfl]
    exact this
theorem z_calls {dc index n : Nat} {Yc : MI} {as stk : List AV} (hm : MLS Y.1.cls index Yc n) (hn : as.length = n) (hst : stk = as.reverse ++ st) (hw : (st.map cat).sum ≤ 8) (hd : dc + 1 ≤ d) (hdg : decode Y.2.1 pc = .ok (.invokestatic index, 3)) (k : Cc E Yc dc as σ (fun r τ => Z E Y d (pc + 3) L (r.toList ++ st) τ Q)) : Z E Y d pc L stk σ Q := by
  subst hst
  intro p e s m args below meth cd H locs ls F hP hS hR hL ho hl hnl
  obtain ⟨o1, o2⟩ := oks_app.mp ho
  refine z_cont (Q1 := fun r τ => Z E Y d (pc + 3) L (r.toList ++ st) τ Q) (va_runS (As := as.map (cv E)) (rest := st.map (cv E)) (n := n) ⟨F.1, F.2.1, F.2.2.2.1, F.2.2.2.2.1, F.2.2.2.2.2.1⟩ k ⟨hm.1.cb F.2.2.2.2.2.1 hd, F.2.2.2.2.2.1 _ hm.2⟩ ⟨PC.blind, fun U hU hW => ⟨rfl, by rw [hU]; exact hP, F.2.2.2.2.2.2.2.1.warm hW (fun a h1 h2 => by rw [hU]; exact hS.2.1 a h1 h2), hR, oks_rev o1, F.2.2.2.2.2.2.2.2⟩⟩ rfl (by rw [List.length_map]; exact hn) (by show ls.size = _; rw [hl.1, hnl]) (by rw [List.map_append, List.map_reverse]) (lv_room (by rw [cat_sum]; exact hw)) hdg ⟨Nat.zero_le _, Nat.zero_le _⟩) hS ?_
  · intro r τ H1 locs1 hq1 ho1 hR1 hP1 hS1
    have := hq1 p e s m args below meth cd H1 locs1 ls F hP1 hS1 hR1 hL (oks_app.mpr ⟨by cases r with | none => exact trivial | some v => exact ⟨ho1, trivial⟩, o2⟩) hl hnl
    rw [List.map_append] at this
    rw [show (r.map (cv E)).toList = r.toList.map (cv E) by cases r <;> rfl]
    exact this
theorem CI.z {Yc : MI} {as : List AV} {dc : Nat} (k : CI E Yc dc as σ (fun x τ => Z E Y d pc L (vi x :: st) τ Q)) : Cc E Yc dc as σ (fun r τ => Z E Y d pc L (r.toList ++ st) τ Q) := Cc.mono (fun r τ h => by obtain ⟨x, rfl, h⟩ := h; exact h) k
theorem CL.z {Yc : MI} {as : List AV} {dc : Nat} (k : CL E Yc dc as σ (fun x τ => Z E Y d pc L (vl x :: st) τ Q)) : Cc E Yc dc as σ (fun r τ => Z E Y d pc L (r.toList ++ st) τ Q) := Cc.mono (fun r τ h => by obtain ⟨x, rfl, h⟩ := h; exact h) k
theorem CV.z {Yc : MI} {as : List AV} {dc : Nat} (k : CV E Yc dc as σ (fun τ => Z E Y d pc L st τ Q)) : Cc E Yc dc as σ (fun r τ => Z E Y d pc L (r.toList ++ st) τ Q) := Cc.mono (fun r τ h => by obtain ⟨rfl, h⟩ := h; exact h) k
theorem CI.mono {Yc : MI} {as : List AV} {dc : Nat} {K K2 : Int → Mem → Prop} (h : ∀ x τ, K x τ → K2 x τ) (k : CI E Yc dc as σ K) : CI E Yc dc as σ K2 := Cc.mono (fun _ _ ⟨x, e, q⟩ => ⟨x, e, h _ _ q⟩) k
theorem CL.mono {Yc : MI} {as : List AV} {dc : Nat} {K K2 : Int → Mem → Prop} (h : ∀ x τ, K x τ → K2 x τ) (k : CL E Yc dc as σ K) : CL E Yc dc as σ K2 := Cc.mono (fun _ _ ⟨x, e, q⟩ => ⟨x, e, h _ _ q⟩) k
theorem CV.mono {Yc : MI} {as : List AV} {dc : Nat} {K K2 : Mem → Prop} (h : ∀ τ, K τ → K2 τ) (k : CV E Yc dc as σ K) : CV E Yc dc as σ K2 := Cc.mono (fun _ _ ⟨e, q⟩ => ⟨e, h _ q⟩) k
/-- switches -/
theorem z_tableOut {a dflt lo hi : Int} {offs : Array Int} {len : Nat} (tgt : Nat) (hdg : decode Y.2.1 pc = .ok (.tableswitch dflt lo hi offs, len)) (h : a < lo ∨ hi < a) (ht : (pc : Int) + dflt = (tgt : Int)) (k : Z E Y d tgt L st σ Q) : Z E Y d pc L (vi a :: st) σ Q :=
  z_pure k (fun h => h.2) (fun F hS hs hl hP w => lv_tableOut F.1 F.2.1 hdg (by rw [of32 hs.1]; exact h) ht w)
theorem z_tableIn {a dflt lo hi : Int} {offs : Array Int} {len : Nat} {off : Int} (tgt : Nat) (hdg : decode Y.2.1 pc = .ok (.tableswitch dflt lo hi offs, len)) (h : lo ≤ a ∧ a ≤ hi) (ho : offs[(a - lo).toNat]? = some off) (ht : (pc : Int) + off = (tgt : Int)) (k : Z E Y d tgt L st σ Q) : Z E Y d pc L (vi a :: st) σ Q :=
  z_pure k (fun h => h.2) (fun F hS hs hl hP w => lv_tableIn F.1 F.2.1 hdg (by rw [of32 hs.1]; omega) (by rw [of32 hs.1]; omega) (by rw [of32 hs.1]; exact ho) ht w)
theorem z_lookup {a dflt : Int} {ps : Array (Int × Int)} {len : Nat} {off : Int} (tgt : Nat) (hdg : decode Y.2.1 pc = .ok (.lookupswitch dflt ps, len)) (hp : (ps.toList.zip (ps.toList.drop 1)).all (fun (a, next) => a.1 < next.1) = true) (ho : Op.lookupswitch.offset ps.toList dflt a = off) (ht : (pc : Int) + off = (tgt : Int)) (k : Z E Y d tgt L st σ Q) : Z E Y d pc L (vi a :: st) σ Q :=
  z_pure k (fun h => h.2) (fun F hS hs hl hP w => lv_lookup F.1 F.2.1 hdg hp (by rw [of32 hs.1]; exact ho) ht w)
/-- String constants -/
theorem z_sval {i index : Nat} (hi : i < nS) (hw : Cond.fieldLink Y.1.cls index "java/lang/String" "value" "[B" ∈ gw) (hdg : decode Y.2.1 pc = .ok (.getfield index, 3)) (k : Z E Y d (pc + 3) L (vr (nC + 2 * i + 1) :: st) σ Q) : Z E Y d pc L (vr (nC + 2 * i) :: st) σ Q :=
  z_pure k (fun h => ⟨trivial, h.2⟩) (fun F hS hs hl hP w => vk_getf F.1 F.2.1 (F.2.2.2.2.2.2.2.1.2.1.1 i hi).2.2.1 hS F.2.2.2.2.1 (F.2.2.2.2.2.1 _ hw) (fun _ h => h) hdg w)
theorem z_scod {i index : Nat} (hi : i < nS) (hw : Cond.fieldLink Y.1.cls index "java/lang/String" "coder" "B" ∈ gw) (hdg : decode Y.2.1 pc = .ok (.getfield index, 3)) (k : Z E Y d (pc + 3) L (vi 0 :: st) σ Q) : Z E Y d pc L (vr (nC + 2 * i) :: st) σ Q :=
  z_pure k (fun h => ⟨i32_0, h.2⟩) (fun F hS hs hl hP w => vk_getf F.1 F.2.1 (F.2.2.2.2.2.2.2.1.2.1.1 i hi).2.1 hS F.2.2.2.2.1 (F.2.2.2.2.2.1 _ hw) (fun _ h => h) hdg w)
theorem z_scs {index : Nat} (hw : Cond.fieldLink Y.1.cls index "java/lang/String" "COMPACT_STRINGS" "Z" ∈ gw) (hdg : decode Y.2.1 pc = .ok (.getstatic index, 3)) (k : Z E Y d (pc + 3) L (vi 1 :: st) σ Q) : Z E Y d pc L st σ Q :=
  z_pure k (fun h => ⟨⟨by decide, by decide⟩, h⟩) (fun F hS hs hl hP w => va_gets F.1 F.2.1 F.2.2.2.2.2.2.2.1.2.2.1 hS F.2.2.2.2.1 (F.2.2.2.2.2.1 _ hw) (fun _ h => h) hdg w)
/-- the byte at a place of a String constant -/
def stB (i : Nat) (j : Int) : Int := ((stByt.getD i []).getD j.toNat 0).toInt
def stN (i : Nat) : Int := (stLen.getD i 0 : Nat)
theorem z_sbal {i : Nat} {j : Int} (hi : i < nS) (h : 0 ≤ j ∧ j < stN i) (hdg : decode Y.2.1 pc = .ok (.baload, 1)) (k : Z E Y d (pc + 1) L (vi (stB i j) :: st) σ Q) : Z E Y d pc L (vi j :: vr (nC + 2 * i + 1) :: st) σ Q :=
  z_pure k (fun h => ⟨ok32 _, h.2.2⟩) (fun F hS hs hl hP w => va_tb F.1 F.2.1 (F.2.2.2.2.2.2.2.1.2.1.1 i hi).2.2.2 hS (inb hs.1 h) (v := cv E (vi (stB i j))) (by
    have e : (Int32.ofInt j).toNatClampNeg = j.toNat := by have := clamp hs.1 h.1; omega
    rw [e]; exact (cvi_t E _).symm) hdg w)
theorem z_slen {i : Nat} (hi : i < nS) (hdg : decode Y.2.1 pc = .ok (.arraylength, 1)) (k : Z E Y d (pc + 1) L (vi (stN i) :: st) σ Q) : Z E Y d pc L (vr (nC + 2 * i + 1) :: st) σ Q :=
  z_pure k (fun h => ⟨by have h1 : ∀ i, i < nS → stLen.getD i 0 < 1000 := by decide
                         have := h1 i hi; simp only [ok1, stN, i32]; omega, h.2⟩) (fun F hS hs hl hP w => va_tlen F.1 F.2.1 (F.2.2.2.2.2.2.2.1.2.1.1 i hi).2.2.2 hS rfl hdg w)
theorem z_callstr {dc index n i : Nat} {Yc : MI} {as stk : List AV} (hm : MLV Y.1.cls index Yc n) (hi : i < nS) (hC : Yc.1.cls = "java/lang/String") (hn : as.length = n) (hst : stk = as.reverse ++ vr (nC + 2 * i) :: st) (hw : (st.map cat).sum ≤ 8) (hd : dc + 1 ≤ d) (hdg : decode Y.2.1 pc = .ok (.invokevirtual index, 3)) (k : Cc E Yc dc (vr (nC + 2 * i) :: as) σ (fun r τ => Z E Y d (pc + 3) L (r.toList ++ st) τ Q)) : Z E Y d pc L stk σ Q := by
  subst hst
  intro p e s m args below meth cd H locs ls F hP hS hR hL ho hl hnl
  obtain ⟨o1, o2⟩ := oks_app.mp ho
  refine z_cont (Q1 := fun r τ => Z E Y d (pc + 3) L (r.toList ++ st) τ Q) (va_runV (As := as.map (cv E)) (rest := st.map (cv E)) (n := n) (C := Yc.1.cls) ⟨F.1, F.2.1, F.2.2.2.1, F.2.2.2.2.1, F.2.2.2.2.2.1⟩ k ⟨hm.1.cb F.2.2.2.2.2.1 hd, F.2.2.2.2.2.1 _ hm.2.1, F.2.2.2.2.2.1 _ hm.2.2⟩ ⟨PC.blind, ?_, fun U hU hW => ⟨rfl, by rw [hU]; exact hP, F.2.2.2.2.2.2.2.1.warm hW (fun a h1 h2 => by rw [hU]; exact hS.2.1 a h1 h2), hR, ⟨trivial, oks_rev o1⟩, F.2.2.2.2.2.2.2.2⟩⟩ rfl (by rw [List.length_map]; exact hn) (by show ls.size = _; rw [hl.1, hnl]) (by rw [List.map_append, List.map_reverse]; rfl) (lv_room (by rw [cat_sum]; exact hw)) hdg ⟨Nat.zero_le _, Nat.zero_le _⟩) hS ?_
  · rw [hC]
    exact vk_recv (adK := fun i => ead E (nC + 2 * i)) (i := i) F.2.2.2.2.2.2.2.1.2.1 hi hS
  · intro r τ H1 locs1 hq1 ho1 hR1 hP1 hS1
    have := hq1 p e s m args below meth cd H1 locs1 ls F hP1 hS1 hR1 hL (oks_app.mpr ⟨by cases r with | none => exact trivial | some v => exact ⟨ho1, trivial⟩, o2.2⟩) hl hnl
    rw [List.map_append] at this
    rw [show (r.map (cv E)).toList = r.toList.map (cv E) by cases r <;> rfl]
    exact this
theorem z_i2c {a : Int} (hdg : decode Y.2.1 pc = .ok (.i2c, 1)) (k : Z E Y d (pc + 1) L (vi (u16 a) :: st) σ Q) : Z E Y d pc L (vi a :: st) σ Q :=
  z_pure k (fun h => ⟨by simp only [ok1, u16, i32]; omega, h.2⟩) (fun F hS hs hl hP w => lv_i2c F.1 F.2.1 hdg (by
    have e1 := pk_char (Int32.ofInt a)
    rw [e1]; apply eq32
    rw [nI_toInt (by omega), of32 (by simp only [u16, i32]; omega)]
    have h1 : ((Int32.ofInt a).toBitVec.toNat : Int) = a % 4294967296 := by
      have h2 := of32 hs.1
      have h3 : (Int32.ofInt a).toInt = (Int32.ofInt a).toBitVec.toInt := rfl
      rw [h2, BitVec.toInt_eq_toNat_cond] at h3
      have h4 := (Int32.ofInt a).toBitVec.isLt
      split at h3 <;> omega
    simp only [u16]; omega) w)
theorem z_forget (j : Nat) (L2 : List (Option AV)) (hL2 : L.set j none = L2) (k : Z E Y d pc L2 st σ Q) : Z E Y d pc L st σ Q := by
  subst hL2
  intro p e s m args below meth c H locs ls F hP hS hR hL hs hl hn
  refine k p e s m args below meth c H locs ls F hP hS hR (okl_set j hL trivial) hs ⟨by rw [hl.1]; simp, hl.2.1, fun i v h => hl.2.2 i v ?_⟩ (by simp [hn])
  rw [List.getElem?_set] at h
  split at h
  · split at h <;> simp at h
  · exact h
theorem ne_up {a v w : Int} (h : v ≤ a) (hc : ¬ a = v) (e : v + 1 = w) : w ≤ a := by omega
theorem z_tableIn2 {a v dflt lo hi : Int} {offs : Array Int} {len : Nat} {off : Int} (tgt : Nat) (hdg : decode Y.2.1 pc = .ok (.tableswitch dflt lo hi offs, len)) (hc : a = v) (h : lo ≤ v ∧ v ≤ hi) (ho : offs[(v - lo).toNat]? = some off) (ht : (pc : Int) + off = (tgt : Int)) (k : Z E Y d tgt L st σ Q) : Z E Y d pc L (vi a :: st) σ Q := by
  subst hc; exact z_tableIn tgt hdg h ho ht k
theorem z_lookup2 {a v dflt : Int} {ps : Array (Int × Int)} {len : Nat} {off : Int} (tgt : Nat) (hdg : decode Y.2.1 pc = .ok (.lookupswitch dflt ps, len)) (hp : (ps.toList.zip (ps.toList.drop 1)).all (fun (a, next) => a.1 < next.1) = true) (hc : a = v) (ho : Op.lookupswitch.offset ps.toList dflt v = off) (ht : (pc : Int) + off = (tgt : Int)) (k : Z E Y d tgt L st σ Q) : Z E Y d pc L (vi a :: st) σ Q := by
  subst hc; exact z_lookup tgt hdg hp ho ht k
theorem z_topI {a b : Int} (h : a = b) (k : Z E Y d pc L (vi b :: st) σ Q) : Z E Y d pc L (vi a :: st) σ Q := h ▸ k
theorem z_topL {a b : Int} (h : a = b) (k : Z E Y d pc L (vl b :: st) σ Q) : Z E Y d pc L (vl a :: st) σ Q := h ▸ k
