/-! sums: what is read, as a function of the tokens; the reader of the room under test -/
abbrev TB : Type := Int → Int
abbrev Rs : Type := Int × Int × TB
def upT (T : TB) (k v : Int) : TB := fun i => if i = k then v else T i
theorem upT_s {T : TB} {k v : Int} : upT T k v k = v := if_pos rfl
theorem upT_n {T : TB} {k v i : Int} (h : i ≠ k) : upT T k v i = T i := if_neg h
theorem up_fn {σ : Mem} {c : Nat} {k v : Int} : up σ c k v c = upT (σ c) k v := by
  funext i; unfold up upT; by_cases h : i = k <;> simp [h]
def seqR (r : Rs) (k : Int → TB → Rs) : Rs := if r.1 ≠ 0 then r else k r.2.1 r.2.2
def fP (kd : Int → Int) (f j : Int) (T : TB) : Rs := (if kd j = 2 then 1 else f, j, T)
def cdP (T : TB) (c : Int) : TB := upT (upT T (136 + T 135) c) 135 (T 135 + 1)
def wdP (l k : Int) : Int := if k = 207 then 0 else if k = 209 then 1 else if k = 210 then 2 else if k = 206 then 3 else if k = 203 ∧ l = 1 then 4 else -1
def bAt (kd vl : Int → Int) (l : Int) (sub : Int → TB → Rs) (j : Int) (T : TB) : Rs :=
  if kd j = 1 then (0, j + 1, cdP T (vl j)) else if wdP l (kd j) ≠ -1 then (0, j + 1, cdP T (1000 + wdP l (kd j))) else if kd j = 40 then sub j T else fP kd 2 j T
def pTl (kd : Int → Int) (at_ : Int → TB → Rs) : Nat → Int → TB → Rs
  | 0, j, T => (0, j, T)
  | F + 1, j, T => if kd j = 42 then seqR (at_ (j + 1) T) (fun i U => pTl kd at_ F i (cdP U 3002)) else (0, j, T)
def pTe (kd : Int → Int) (at_ : Int → TB → Rs) (j : Int) (T : TB) : Rs := seqR (at_ j T) (pTl kd at_ 1000)
def pSl (kd : Int → Int) (te : Int → TB → Rs) : Nat → Int → TB → Rs
  | 0, j, T => (0, j, T)
  | F + 1, j, T => if kd j = 43 ∨ kd j = 45 then seqR (te (j + 1) T) (fun i U => pSl kd te F i (cdP U (if kd j = 43 then 3000 else 3001))) else (0, j, T)
def pSu (kd : Int → Int) (at_ : Int → TB → Rs) (j : Int) (T : TB) : Rs := seqR (pTe kd at_ j T) (pSl kd (pTe kd at_) 1000)
def parP (kd : Int → Int) (su : Int → TB → Rs) (j : Int) (T : TB) : Rs := seqR (su (j + 1) T) (fun i U => if kd i = 41 then (0, i + 1, U) else fP kd 2 i U)
def pAt (kd vl : Int → Int) (l : Int) : Nat → Int → TB → Rs
  | 0 => bAt kd vl l (fun j T => fP kd 4 j T)
  | m + 1 => bAt kd vl l (parP kd (pSu kd (pAt kd vl l m)))
theorem seqR_0 {r : Rs} {k : Int → TB → Rs} (h : r.1 = 0) : seqR r k = k r.2.1 r.2.2 := if_neg (fun z => z h)
theorem seqR_n {r : Rs} {k : Int → TB → Rs} (h : r.1 ≠ 0) : seqR r k = r := if_pos h
theorem fP_n {kd : Int → Int} {f j : Int} {T : TB} (hf : f ≠ 0) : (fP kd f j T).1 ≠ 0 := by
  show (if kd j = 2 then (1 : Int) else f) ≠ 0; split
  · decide
  · exact hf
/-! codes that are behind one another -/
theorem cds_cg {T U : TB} {f : Int} : ∀ (a : Nat) (i : Int), (∀ x : Int, i ≤ x → x < i + a → U (136 + f + x) = T (136 + f + x)) → cds U f a i = cds T f a i
  | 0, _, _ => rfl
  | a + 1, i, h => by
    show U (136 + f + i) :: cds U f a (i + 1) = T (136 + f + i) :: cds T f a (i + 1)
    rw [h i (by omega) (by omega), cds_cg a (i + 1) (fun x x0 x1 => h x (by omega) (by omega))]
theorem cds_app {T : TB} {f : Int} : ∀ (a b : Nat) (i : Int), cds T f (a + b) i = cds T f a i ++ cds T f b (i + a)
  | 0, b, i => by rw [Nat.zero_add]; show cds T f b i = cds T f b (i + ((0 : Nat) : Int)); rw [show i + ((0 : Nat) : Int) = i by omega]
  | a + 1, b, i => by
    rw [show a + 1 + b = (a + b) + 1 by omega]
    show T (136 + f + i) :: cds T f (a + b) (i + 1) = T (136 + f + i) :: (cds T f a (i + 1) ++ cds T f b (i + ((a + 1 : Nat) : Int)))
    rw [cds_app a b (i + 1), show i + 1 + (a : Int) = i + ((a + 1 : Nat) : Int) by omega]
theorem cds_sh {T : TB} {f g : Int} : ∀ (a : Nat) (i : Int), cds T f a (i + g) = cds T (f + g) a i
  | 0, _ => rfl
  | a + 1, i => by
    show T (136 + f + (i + g)) :: cds T f a (i + g + 1) = T (136 + (f + g) + i) :: cds T (f + g) a (i + 1)
    rw [show i + g + 1 = i + 1 + g by omega, cds_sh a (i + 1), show 136 + f + (i + g) = 136 + (f + g) + i by omega]
/-- codes that lay one number upon n, with b places free -/
def Psh (b : Nat) (cs : List Int) : Prop := ∀ (n : Nat) (rest : List Int), n + b ≤ 24 → wfl rest (n + 1) → wfl (cs ++ rest) n
theorem Psh.mo {b c : Nat} {cs : List Int} (h : Psh b cs) (hb : b ≤ c) : Psh c cs := fun n rest hn hw => h n rest (by omega) hw
theorem Psh.one {c : Int} (hc : 0 ≤ c ∧ c ≤ 1004) : Psh 1 [c] := fun n rest hn hw => by
  show (if c < 3000 then (0 ≤ c ∧ c ≤ 1004 ∧ n < 24 ∧ wfl rest (n + 1)) else (c ≤ 3002 ∧ 2 ≤ n ∧ wfl rest (n - 1)))
  rw [if_pos (by omega)]; exact ⟨hc.1, hc.2, by omega, hw⟩
theorem Psh.op {a b : Nat} {cs ds : List Int} {c : Int} (h : Psh a cs) (g : Psh b ds) (hc : 3000 ≤ c ∧ c ≤ 3002) : Psh (max a (b + 1)) (cs ++ (ds ++ [c])) := fun n rest hn hw => by
  rw [List.append_assoc, List.append_assoc]
  refine h n _ (by omega) (g (n + 1) _ (by omega) ?_)
  show (if c < 3000 then (0 ≤ c ∧ c ≤ 1004 ∧ n + 1 + 1 < 24 ∧ wfl rest (n + 1 + 1 + 1)) else (c ≤ 3002 ∧ 2 ≤ n + 1 + 1 ∧ wfl rest (n + 1 + 1 - 1)))
  rw [if_neg (by omega)]
  exact ⟨hc.2, by omega, hw⟩
/-- from T to U codes came that lay one number more; from token j to token i -/
def XT (b : Nat) (j : Int) (T : TB) (i : Int) (U : TB) : Prop := (T 135 < U 135 ∧ U 135 - T 135 ≤ i - j) ∧ (∀ x : Int, x ≠ 135 → (x < 136 + T 135 ∨ 136 + U 135 ≤ x) → U x = T x) ∧ Psh b (cds U (T 135) (U 135 - T 135).toNat 0)
theorem XT.mo {b c : Nat} {j i : Int} {T U : TB} (h : XT b j T i U) (hb : b ≤ c) : XT c j T i U := ⟨h.1, h.2.1, h.2.2.mo hb⟩
theorem XT.mi {b : Nat} {j i i2 : Int} {T U : TB} (h : XT b j T i U) (hi : i ≤ i2) : XT b j T i2 U := ⟨⟨h.1.1, by have := h.1.2; omega⟩, h.2⟩
theorem XT.mj {b : Nat} {j j2 i : Int} {T U : TB} (h : XT b j T i U) (hi : j2 ≤ j) : XT b j2 T i U := ⟨⟨h.1.1, by have := h.1.2; omega⟩, h.2⟩
theorem cdP_c {T : TB} {c : Int} (h : 0 ≤ T 135) : cdP T c 135 = T 135 + 1 ∧ cdP T c (136 + T 135) = c ∧ ∀ x, x ≠ 135 → x ≠ 136 + T 135 → cdP T c x = T x :=
  ⟨upT_s, by unfold cdP; rw [upT_n (by omega), upT_s], fun x a b => by unfold cdP; rw [upT_n a, upT_n b]⟩
theorem XT.one {j c : Int} {T : TB} (h : 0 ≤ T 135) (hc : 0 ≤ c ∧ c ≤ 1004) : XT 1 j T (j + 1) (cdP T c) := by
  obtain ⟨a, b, e⟩ := cdP_c (c := c) h
  refine ⟨⟨by omega, by omega⟩, fun x x0 x1 => e x x0 (by omega), ?_⟩
  rw [a, show (T 135 + 1 - T 135).toNat = 1 by omega]
  show Psh 1 [cdP T c (136 + T 135 + 0)]
  rw [show 136 + T 135 + 0 = 136 + T 135 by omega, b]; exact Psh.one hc
theorem XT.op {a b : Nat} {j i k c : Int} {T U V : TB} (h0 : 0 ≤ T 135) (h : XT a j T i U) (g : XT b (i + 1) U k V) (hc : 3000 ≤ c ∧ c ≤ 3002) : XT (max a (b + 1)) j T k (cdP V c) := by
  obtain ⟨⟨h1, h2⟩, h3, h4⟩ := h
  obtain ⟨⟨g1, g2⟩, g3, g4⟩ := g
  obtain ⟨e1, e2, e3⟩ := cdP_c (T := V) (c := c) (by omega)
  refine ⟨⟨by omega, by omega⟩, fun x x0 x1 => ?_, ?_⟩
  · rw [e3 x x0 (by omega), g3 x x0 (by omega), h3 x x0 (by omega)]
  · have p := h4.op g4 hc
    have ec : cds (cdP V c) (T 135) (cdP V c 135 - T 135).toNat 0 = cds U (T 135) (U 135 - T 135).toNat 0 ++ (cds V (U 135) (V 135 - U 135).toNat 0 ++ [c]) := by
      rw [show (cdP V c 135 - T 135).toNat = (U 135 - T 135).toNat + ((V 135 - U 135).toNat + 1) by omega, cds_app, cds_app]
      have a1 : cds (cdP V c) (T 135) (U 135 - T 135).toNat 0 = cds U (T 135) (U 135 - T 135).toNat 0 := cds_cg _ _ (fun x x0 x1 => by rw [e3 _ (by omega) (by omega), g3 _ (by omega) (by omega)])
      have a2 : cds (cdP V c) (T 135) (V 135 - U 135).toNat (0 + ((U 135 - T 135).toNat : Nat)) = cds V (U 135) (V 135 - U 135).toNat 0 := by
        have := cds_sh (T := cdP V c) (f := T 135) (g := U 135 - T 135) (V 135 - U 135).toNat 0
        rw [show (0 : Int) + (U 135 - T 135) = 0 + ((U 135 - T 135).toNat : Nat) by omega] at this
        rw [this, show T 135 + (U 135 - T 135) = U 135 by omega]
        exact cds_cg _ _ (fun x x0 x1 => by rw [e3 _ (by omega) (by omega)])
      have a3 : cds (cdP V c) (T 135) 1 (0 + ((U 135 - T 135).toNat : Nat) + ((V 135 - U 135).toNat : Nat)) = [c] := by
        show [cdP V c (136 + T 135 + (0 + ((U 135 - T 135).toNat : Nat) + ((V 135 - U 135).toNat : Nat)))] = [c]
        rw [show 136 + T 135 + (0 + ((U 135 - T 135).toNat : Nat) + ((V 135 - U 135).toNat : Nat)) = 136 + V 135 by omega, e2]
      rw [a1, a2, a3]
    rw [ec]; exact p
/-- the codes as the room under test holds them -/
def trc (c : Int) : Int := if c < 1000 then c else if c = 1000 then 1002 else if c = 1001 then 1004 else if c = 1002 then 1005 else if c = 1003 then 1001 else if c = 1004 then 1100 else c - 1800
def DL (σ : Mem) (T : TB) : Prop := σ 68 1 = T 135 ∧ ∀ i : Int, 0 ≤ i → i < T 135 → σ 69 i = trc (T (136 + i))
theorem TK.num {t : Int → Int} {n s e k v : Int} (h : TK t n s e k v) (hk : k = 1) : 0 ≤ v ∧ v ≤ 999 := by
  obtain ⟨h0, hw, he, hs, hdg, ho⟩ := h
  by_cases a : sml (t s)
  · rcases (hs a).2 with ⟨m, m1, m2, m3⟩ | ⟨m1, m2⟩ <;> omega
  · by_cases b : dgt (t s)
    · have hv := (hdg b).2
      have := numF_b (t := t) (s := s) (min 3 (e - s).toNat) (by omega) (fun i i0 i1 => (he.2.2.1 b).1 (s + i) (by omega) (by omega))
      rw [hv]; exact ⟨this.1, this.2.1⟩
    · have := ho a b
      by_cases c : sgn (t s)
      · have := this.1 c; unfold sgn at c; omega
      · have := this.2 c; omega
section
variable {E : EN} {t : Int → Int} {n N : Int} {kd st vl en : Int → Int} {l : Int}
/-- the reader stands at token j and has codes of T -/
def CS (kd st vl : Int → Int) (N : Int) (σ : Mem) (j : Int) (T : TB) : Prop := σ 65 = kd ∧ σ 66 = st ∧ σ 67 = vl ∧ σ 64 6 = j ∧ σ 64 7 = 0 ∧ (0 ≤ j ∧ j ≤ N ∧ N ≤ 900 ∧ σ 64 8 = -1) ∧ DL σ T ∧ (0 ≤ T 135 ∧ T 135 ≤ j)
def cf (σ τ : Mem) : Prop := Fr [64, 68, 69] σ τ ∧ (∀ k, k ≠ 6 → k ≠ 7 → k ≠ 8 → τ 64 k = σ 64 k) ∧ (∀ k, k ≠ 1 → τ 68 k = σ 68 k) ∧ (0 ≤ σ 68 1 → 0 ≤ τ 68 1)
theorem cf.rf {σ : Mem} : cf σ σ := ⟨Fr.rf, fun _ _ _ _ => rfl, fun _ _ => rfl, fun h => h⟩
theorem cf.tr {σ τ υ : Mem} (h : cf σ τ) (g : cf τ υ) : cf σ υ := ⟨h.1.tr g.1, fun k a b c => (g.2.1 k a b c).trans (h.2.1 k a b c), fun k a => (g.2.2.1 k a).trans (h.2.2.1 k a), fun z => g.2.2.2 (h.2.2.2 z)⟩
theorem cf.u64 {σ τ : Mem} {k v : Int} (h : cf σ τ) (hk : k = 6 ∨ k = 7 ∨ k = 8) : cf σ (up τ 64 k v) := ⟨h.1.up (by decide), fun x a b c => by rw [up_nk (by omega)]; exact h.2.1 x a b c, fun x a => by rw [up_nc (by decide)]; exact h.2.2.1 x a, fun z => by rw [up_nc (by decide)]; exact h.2.2.2 z⟩
/-- how a method of the reader ends: r is what the tokens say -/
def CO (st : Int → Int) (N : Int) (b : Nat) (σ τ : Mem) (x j : Int) (T : TB) (r : Rs) : Prop := cf σ τ ∧ (r.1 = 0 → x = 1 ∧ τ 64 7 = 0 ∧ τ 64 6 = r.2.1 ∧ DL τ r.2.2 ∧ (j < r.2.1 ∧ r.2.1 ≤ N ∧ τ 64 8 = -1) ∧ XT b j T r.2.1 r.2.2) ∧ (r.1 ≠ 0 → x = 0 ∧ τ 64 7 = r.1 ∧ τ 64 8 = st r.2.1)
theorem CO.nx {b : Nat} {σ τ : Mem} {x j : Int} {T : TB} {r : Rs} (h : CO st N b σ τ x j T r) (hs : CS kd st vl N σ j T) (h0 : r.1 = 0) : CS kd st vl N τ r.2.1 r.2.2 := by
  obtain ⟨a, b, -⟩ := h
  obtain ⟨b1, b2, b3, b4, b5, b6⟩ := b h0
  obtain ⟨s1, s2, s3, s4, s5, s6, s7, s8⟩ := hs
  have := b6.1
  exact ⟨by rw [a.1 65 (by decide)]; exact s1, by rw [a.1 66 (by decide)]; exact s2, by rw [a.1 67 (by decide)]; exact s3, b3, b2, ⟨by omega, b5.2.1, s6.2.2.1, b5.2.2⟩, b4, ⟨by omega, by omega⟩⟩
theorem kd_lt (hT : TokOK t n N kd st vl en) {j : Int} (hj : 0 ≤ j ∧ j ≤ N) (hk : kd j ≠ 0) : j < N := by
  by_cases e : j = N
  · rw [e] at hk; exact absurd hT.2.2.2.1 hk
  · omega
theorem kd_v (hT : TokOK t n N kd st vl en) {j : Int} (hj : 0 ≤ j ∧ j ≤ N) : KDv (kd j) ∧ (kd j = 0 ↔ j = N) := by
  by_cases e : j = N
  · rw [e, hT.2.2.2.1]; exact ⟨Or.inl rfl, ⟨fun _ => rfl, fun _ => rfl⟩⟩
  · have := (hT.2.1 j hj.1 (by omega)).1.kd
    exact ⟨this.1, ⟨fun z => absurd z this.2, fun z => absurd z e⟩⟩
theorem s_Rdr_fail {d : Nat} {σ : Mem} {K : Int → Mem → Prop} {f j : Int} (h5 : σ 65 = kd) (h6 : σ 66 = st) (hj : σ 64 6 = j) (hb : 0 ≤ j ∧ j ≤ 900) (q : ∀ τ, τ = up (up σ 64 7 (if kd j = 2 then 1 else f)) 64 8 (st j) → K 0 τ) : CI E y_Rdr_fail d [vr 64, vi f] σ K := by
  refine c_Rdr_fail (b_Rdr_fail_0 ?_)
  rw [hj, h5, h6]
  refine ⟨by omega, fun z => q _ (by rw [if_neg z]), fun z => q _ (by rw [if_pos z])⟩
/-- a fault at token j -/
theorem s_Rdr_failC {d : Nat} {σ : Mem} {K : Int → Mem → Prop} {f j : Int} {T : TB} {b : Nat} {σ0 : Mem} {j0 : Int} {T0 : TB} (h5 : σ 65 = kd) (h6 : σ 66 = st) (hj : σ 64 6 = j) (hb : 0 ≤ j ∧ j ≤ 900) (hf : f ≠ 0) (hc : cf σ0 σ) (q : ∀ τ, CO st N b σ0 τ 0 j0 T0 (fP kd f j T) → K 0 τ) : CI E y_Rdr_fail d [vr 64, vi f] σ K := by
  refine s_Rdr_fail h5 h6 hj hb (fun τ e => q τ ⟨?_, fun z => absurd z (fP_n hf), fun _ => ⟨rfl, ?_, ?_⟩⟩)
  · rw [e]; exact (hc.u64 (by omega)).u64 (by omega)
  · rw [e, up_nk (by decide), up_same]; rfl
  · rw [e, up_same]; rfl
theorem s_Laws_add {d : Nat} {σ : Mem} {K : Mem → Prop} {T : TB} {c x : Int} (hD : DL σ T) (h0 : 0 ≤ T 135 ∧ T 135 < 900) (hx : x = trc c) (q : ∀ τ, cf σ τ → τ 64 = σ 64 → DL τ (cdP T c) → K τ) : CV E y_Laws_add d [vr 68, vi x] σ K := by
  refine c_Laws_add (b_Laws_add_0 ?_)
  rw [hD.1]
  refine ⟨fun z => absurd z (by omega), fun _ => ⟨h0, ?_⟩⟩
  rw [wid (x := T 135 + 1) (by omega) (by omega)]
  obtain ⟨e1, e2, e3⟩ := cdP_c (T := T) (c := c) h0.1
  refine q _ ⟨(Fr.rf.up (by decide)).up (by decide), fun k _ _ _ => by rw [up_nc (by decide), up_nc (by decide)], fun k hk => by rw [up_nk hk, up_nc (by decide)], fun _ => by rw [up_same]; omega⟩ (by rw [up_cell (by decide), up_cell (by decide)]) ⟨by rw [up_same, e1], fun i i0 i1 => ?_⟩
  rw [up_nc (by decide)]
  by_cases e : i = T 135
  · rw [e, up_same, e2, hx]
  · rw [up_nk e, e3 _ (by omega) (by omega)]; exact hD.2 i i0 (by omega)
theorem s_Laws_addA {d : Nat} {σ : Mem} {K : Mem → Prop} {x : Int} (h0 : 0 ≤ σ 68 1) (q : ∀ τ, cf σ τ → τ 64 = σ 64 → 0 ≤ τ 68 1 → K τ) : CV E y_Laws_add d [vr 68, vi x] σ K := by
  refine c_Laws_add (b_Laws_add_0 ⟨fun _ => q σ cf.rf rfl h0, fun lt => ⟨⟨h0, lt⟩, ?_⟩⟩)
  rw [wid (x := σ 68 1 + 1) (by omega) (by omega)]
  exact q _ ⟨(Fr.rf.up (by decide)).up (by decide), fun k _ _ _ => by rw [up_nc (by decide), up_nc (by decide)], fun k hk => by rw [up_nk hk, up_nc (by decide)], fun _ => by rw [up_same]; omega⟩ (by rw [up_cell (by decide), up_cell (by decide)]) (by rw [up_same]; omega)
end
