/-! sums over the letters of a set, and the bounds of leastEnd -/
def bs (F : Int → Int) (s : Int) : Nat → Int
  | 0 => 0
  | n + 1 => bs F s n + (if bt s n = 0 then 0 else F n)
theorem bs_0 {F : Int → Int} : ∀ n : Nat, bs F 0 n = 0
  | 0 => rfl
  | n + 1 => by
    have z : bt 0 (n : Int) = 0 := by simp [bt]
    show bs F 0 n + (if bt 0 (n : Int) = 0 then 0 else F n) = 0
    rw [bs_0 n, if_pos z]; rfl
theorem bs_or {F : Int → Int} {s k : Int} (hs : 0 ≤ s ∧ s < 64) (hk : 0 ≤ k ∧ k < 6) (hb : bt s k = 0) : ∀ n : Nat, n ≤ 6 → bs F (ior s (ish 1 k)) n = bs F s n + (if k < n then F k else 0)
  | 0, _ => by
    have e : ¬ k < ((0 : Nat) : Int) := by omega
    rw [if_neg e]; rfl
  | n + 1, hn => by
    have ih := bs_or (F := F) hs hk hb n (by omega)
    show bs F (ior s (ish 1 k)) n + (if bt (ior s (ish 1 k)) (n : Int) = 0 then 0 else F n) = bs F s n + (if bt s (n : Int) = 0 then 0 else F n) + (if k < ((n + 1 : Nat) : Int) then F k else 0)
    rw [ih, bor hs hk (j := (n : Int)) (by omega)]
    by_cases e : (n : Int) = k
    · subst e
      rw [if_pos rfl, hb, if_pos rfl, if_neg (by omega), if_neg (by decide), if_pos (by omega)]
    · rw [if_neg e]
      by_cases c : k < (n : Int)
      · rw [if_pos c, if_pos (show k < ((n + 1 : Nat) : Int) by omega)]; omega
      · rw [if_neg c, if_neg (show ¬ k < ((n + 1 : Nat) : Int) by omega)]; omega
theorem bs_row {T : Int → Int} (hT : MT T) {F : Int → Int} : ∀ {L : RL}, RV T L → bs F (tkn L) (T 4).toNat = L.foldr (fun x a => a + F x.1) 0
  | [], _ => bs_0 _
  | x :: L, h => by
    have t4 := hT.2.2.2.1
    have ih := bs_row hT (F := F) h.2.2
    have hx := h.1.1
    have k6 := (inM6 hT h.1).1
    show bs F (ior (tkn L) (ish 1 x.1)) (T 4).toNat = L.foldr (fun x a => a + F x.1) 0 + F x.1
    rw [bs_or (tkn_lt (fun y hy => ((in63.of hT h.2.2) y hy).1)) k6 h.2.1 _ (by omega), ih, if_pos (by omega)]
theorem opS_bs {T : Int → Int} (hT : MT T) {L : RL} (h : RV T L) : opS (gM T) L = bs (gM T).1 (tkn L) (T 4).toNat := by
  rw [bs_row hT h]
  have : ∀ L : RL, opS (gM T) L = L.foldr (fun x a => a + (gM T).1 x.1) 0 := fun L => by
    induction L with
    | nil => rfl
    | cons x L ih => show opS (gM T) L + _ = _; rw [ih]; rfl
  exact this L
theorem mdS_bs {T : Int → Int} (hT : MT T) {L : RL} (h : RV T L) : mdS (gM T) L = bs (gM T).2.1 (tkn L) (T 4).toNat := by
  rw [bs_row hT h]
  have : ∀ L : RL, mdS (gM T) L = L.foldr (fun x a => a + (gM T).2.1 x.1) 0 := fun L => by
    induction L with
    | nil => rfl
    | cons x L ih => show mdS (gM T) L + _ = _; rw [ih]; rfl
  exact this L
theorem RO.fro {T : Int → Int} (hT : MT T) {A : Int} {L R : RL} (h : RO T A (L ++ R)) : RO T A L := by
  have a := (RV_iff hT).mp h.1
  rw [List.map_append] at a
  exact ⟨(RV_iff hT).mpr ⟨fun x hx => a.1 x (List.mem_append_left _ hx), (List.nodup_append.mp a.2).1⟩, fun x hx => h.2 x (List.mem_append_left _ hx)⟩
/-- what useHands leaves: who reads a letter, and how soon it could be copied -/
def PQ (σ : Mem) (T : Int → Int) (A : Int) : Prop := ∀ k : Int, 0 ≤ k → k < T 4 → (0 ≤ σ 93 k ∧ σ 93 k < 8) ∧ (0 ≤ σ 94 k ∧ σ 94 k ≤ 1000) ∧ ∀ h : Int, 0 ≤ h → h < T 2 → (bt (σ 93 k) h = 1 ↔ bt A h = 1 ∧ bt (T (27 + h)) (T (43 + k)) = 1) ∧ (bt (σ 93 k) h = 1 → σ 94 k ≤ cpF T k h)
/-- bounds of a row with L behind R -/
theorem least_le {T : Int → Int} (hT : MT T) {σ : Mem} {A v f bh : Int} {L R : RL} (hq : PQ σ T A) (hn : L ≠ []) (h : RO T A (L ++ R)) (hv : IsSoon T A (tkn L) v) (f0 : 0 ≤ f) (hf : ∀ k : Int, 0 ≤ k → k < T 4 → bt (tkn L) k = 1 → f ≤ opn (gM T) R + opF T k + σ 94 k ∧ bh ≤ σ 94 k + mdF T k) :
    opn (gM T) R + v ≤ endV (gM T) (L ++ R) ∧ opn (gM T) R + bs (gM T).1 (tkn L) (T 4).toNat + bh ≤ endV (gM T) (L ++ R) ∧ EWb (copAt (gM T) R) (fun p => (gM T).2.1 (kAt R p)) (oF (gM T) R) R.length f (bs (gM T).2.1 (tkn L) (T 4).toNat) (endV (gM T) (L ++ R)) := by
  have hb := Rb_of hT h.1.mem
  have hL := h.fro hT
  have qk : ∀ x ∈ L, inM T x ∧ bt (tkn L) x.1 = 1 ∧ σ 94 x.1 ≤ cpF T x.1 x.2 := fun x hx => by
    have i := hL.1.mem x hx
    have a := hL.2 x hx
    have k6 := (inM6 hT i).1
    refine ⟨i, (tkn_bt (in63.of hT hL.1) k6).mpr ⟨x, hx, rfl⟩, ?_⟩
    have b := (hq x.1 i.1.1 i.1.2).2.2 x.2 i.2.1 i.2.2
    exact b.2 (b.1.mpr a)
  refine ⟨?_, ?_, ?_⟩
  · have a := hv.2.2 L hL rfl
    have b := alone hb hn
    omega
  · rw [← opS_bs hT hL.1]
    cases L with
    | nil => exact absurd rfl hn
    | cons x L =>
      have b := behind (g := gM T) (x := x) (R := L ++ R) hb
      have o := opn_app (g := gM T) (R := R) (L := x :: L)
      have c := qk x List.mem_cons_self
      have e := (hf x.1 c.1.1.1 c.1.1.2 c.2.1).2
      have e2 : (gM T).2.2 x.1 x.2 = cpF T x.1 x.2 := rfl
      have e3 : (gM T).2.1 x.1 = mdF T x.1 := rfl
      have e4 : opn (gM T) (x :: (L ++ R)) = opn (gM T) (x :: L ++ R) := rfl
      have e5 : endV (gM T) (x :: (L ++ R)) = endV (gM T) (x :: L ++ R) := rfl
      rw [e2, e3, e4, e5, o] at b
      omega
  · rw [← mdS_bs hT hL.1]
    refine ew_le hb hn f0 (fun L1 x L2 e => ?_)
    have hx : x ∈ L := by rw [e]; simp
    have c := qk x hx
    have a := (hf x.1 c.1.1.1 c.1.1.2 c.2.1).1
    have hb2 : Rb (gM T) L2 := by
      have s := hb.spl.1
      rw [e] at s
      exact s.spl.2.2
    have o := opn_app (g := gM T) (R := R) (L := L2)
    have o0 : 0 ≤ opS (gM T) L2 := by
      have := (opn_b hb2).1
      have z := opn_app (g := gM T) (R := []) (L := L2)
      rw [List.append_nil] at z
      have z0 : opn (gM T) [] = 0 := rfl
      omega
    show f ≤ max (opn (gM T) (L2 ++ R) + (gM T).1 x.1) (fre (gM T) (L2 ++ R) x.2) + (gM T).2.2 x.1 x.2
    have e2 : (gM T).2.2 x.1 x.2 = cpF T x.1 x.2 := rfl
    have e3 : (gM T).1 x.1 = opF T x.1 := rfl
    rw [e2, e3]
    omega
