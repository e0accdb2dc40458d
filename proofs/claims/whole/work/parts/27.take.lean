/-! a letter comes into the row, or why not: both sides -/
/-- the class's room holds what the reference's text tells -/
def HP (σ : Mem) (T : Int → Int) : Prop := σ 2 0 = T 1 ∧ σ 2 1 = T 2 ∧ σ 2 3 = T 4 ∧ HG σ (gM T) ∧ (∀ k : Int, 0 ≤ k → k < T 4 → σ 10 k = shF T k ∧ (0 ≤ σ 12 k ∧ σ 12 k < 8) ∧ ∀ h : Int, 0 ≤ h → h < T 2 → bt (σ 12 k) h = bt (T (27 + h)) (T (43 + k)))
theorem HP.fr {σ τ : Mem} {T : Int → Int} (h : HP σ T) (h2 : τ 2 = σ 2) (h8 : τ 8 = σ 8) (h9 : τ 9 = σ 9) (h10 : τ 10 = σ 10) (h11 : τ 11 = σ 11) (h12 : τ 12 = σ 12) : HP τ T := by
  obtain ⟨a, b, c, ⟨d1, d2⟩, e⟩ := h
  refine ⟨by rw [h2]; exact a, by rw [h2]; exact b, by rw [h2]; exact c, ⟨fun k k0 k1 => ?_, fun k x k0 k1 x0 x1 => ?_⟩, fun k k0 k1 => ?_⟩
  · rw [h8, h9]; exact d1 k k0 (by rw [h2] at k1; exact k1)
  · rw [h11]; exact d2 k x k0 (by rw [h2] at k1; exact k1) x0 (by rw [h2] at x1; exact x1)
  · rw [h10, h12]; exact e k k0 k1
theorem HP.rb {σ : Mem} {T : Int → Int} (h : HP σ T) (hT : MT T) (h2 : 0 ≤ σ 2 2 ∧ σ 2 2 ≤ 4) : RB σ 2 := by
  obtain ⟨a, b, c, -⟩ := h
  have := hT.2.1
  have := hT.2.2.2.1
  exact ⟨by omega, h2, by omega⟩
/-- a row of letters that are there, none twice -/
def RV (T : Int → Int) : RL → Prop
  | [] => True
  | x :: R => inM T x ∧ bt (tkn R) x.1 = 0 ∧ RV T R
theorem RV.mem {T : Int → Int} : ∀ {R : RL}, RV T R → ∀ x ∈ R, inM T x
  | [], _, x, h => by cases h
  | y :: R, hR, x, h => by
    rcases List.mem_cons.mp h with rfl | h
    · exact hR.1
    · exact RV.mem hR.2.2 x h
def cnt6 (s : Int) : Int := bt s 0 + bt s 1 + bt s 2 + bt s 3 + bt s 4 + bt s 5
theorem cnt6_or {s k : Int} (hs : 0 ≤ s ∧ s < 64) (hk : 0 ≤ k ∧ k < 6) (hb : bt s k = 0) : cnt6 (ior s (ish 1 k)) = cnt6 s + 1 := by
  unfold cnt6
  rw [bor hs hk (by omega), bor hs hk (by omega), bor hs hk (by omega), bor hs hk (by omega), bor hs hk (by omega), bor hs hk (by omega)]
  rcases (show k = 0 ∨ k = 1 ∨ k = 2 ∨ k = 3 ∨ k = 4 ∨ k = 5 by omega) with rfl | rfl | rfl | rfl | rfl | rfl <;> simp <;> omega
theorem inM6 {T : Int → Int} (hT : MT T) {x : Int × Int} (h : inM T x) : (0 ≤ x.1 ∧ x.1 < 6) ∧ (0 ≤ x.2 ∧ x.2 < 3) := by
  have := hT.2.1
  have := hT.2.2.2.1
  obtain ⟨a, b⟩ := h
  omega
theorem RV.cnt {T : Int → Int} (hT : MT T) : ∀ {R : RL}, RV T R → (0 ≤ tkn R ∧ tkn R < 64) ∧ cnt6 (tkn R) = R.length
  | [], _ => by simp [tkn, cnt6, bt]
  | x :: R, h => by
    have ih := RV.cnt hT h.2.2
    have hx := (inM6 hT h.1).1
    refine ⟨bor_lt ih.1 hx, ?_⟩
    show cnt6 (ior (tkn R) (ish 1 x.1)) = _
    rw [cnt6_or ih.1 hx h.2.1, ih.2, List.length_cons]; omega
theorem RV.lt {T : Int → Int} (hT : MT T) {R : RL} (h : RV T R) {k : Int} (hk : 0 ≤ k ∧ k < 6) (hb : bt (tkn R) k = 0) : R.length < 6 := by
  have h1 := (RV.cnt hT h).2
  have b0 := bt_01 (tkn R) 0
  have b1 := bt_01 (tkn R) 1
  have b2 := bt_01 (tkn R) 2
  have b3 := bt_01 (tkn R) 3
  have b4 := bt_01 (tkn R) 4
  have b5 := bt_01 (tkn R) 5
  unfold cnt6 at h1
  rcases (show k = 0 ∨ k = 1 ∨ k = 2 ∨ k = 3 ∨ k = 4 ∨ k = 5 by omega) with rfl | rfl | rfl | rfl | rfl | rfl <;> omega
/-- why a letter can't come into the row (0: it does), and the row then -/
noncomputable def takeF (T : Int → Int) (read awake : Int) (R : RL) (v : Int) : Int × RL :=
  if ¬ (0 ≤ v ∧ v < 30 ∧ v % 10 < T 4 ∧ v / 10 < T 2) then (1, R)
  else if bt read (v % 10) = 1 ∨ bt (tkn R) (v % 10) = 1 ∨ bt awake (v / 10) = 0 ∨ bt (T (27 + v / 10)) (T (43 + v % 10)) = 0 then (2, R)
  else if T 1 < endV (gM T) ((v % 10, v / 10) :: R) then (3, R) else (0, (v % 10, v / 10) :: R)
theorem takeF_RV {T : Int → Int} {read awake v : Int} {R : RL} (h : RV T R) : RV T (takeF T read awake R v).2 := by
  unfold takeF
  split
  · exact h
  · rename_i h1
    split
    · exact h
    · rename_i h2
      split
      · exact h
      · refine ⟨⟨⟨?_, ?_⟩, ⟨?_, ?_⟩⟩, ?_, h⟩
        · show 0 ≤ v % 10; omega
        · show v % 10 < T 4; omega
        · show 0 ≤ v / 10; omega
        · show v / 10 < T 2; omega
        · show bt (tkn R) (v % 10) = 0
          rcases bt_01 (tkn R) (v % 10) with e | e
          · exact e
          · exact absurd (Or.inr (Or.inl e)) h2
theorem bt_ior2 : ∀ (a b : Fin 64) (k : Fin 6), bt (ior (a.val : Int) (b.val : Int)) (k.val : Int) = if bt (a.val : Int) (k.val : Int) = 1 ∨ bt (b.val : Int) (k.val : Int) = 1 then 1 else 0 := by decide +kernel
theorem bior {a b k : Int} (ha : 0 ≤ a ∧ a < 64) (hb : 0 ≤ b ∧ b < 64) (hk : 0 ≤ k ∧ k < 6) : bt (ior a b) k = if bt a k = 1 ∨ bt b k = 1 then 1 else 0 := by
  have := bt_ior2 ⟨a.toNat, by omega⟩ ⟨b.toNat, by omega⟩ ⟨k.toNat, by omega⟩
  simp only [show ((a.toNat : Nat) : Int) = a by omega, show ((k.toNat : Nat) : Int) = k by omega, show ((b.toNat : Nat) : Int) = b by omega] at this
  exact this
theorem ior_i32 (a b : Int) : i32 (ior a b) := ok32 _
theorem rdr1 : ∀ (a b : Fin 8) (h : Fin 3), (ian (a.val : Int) (ian (b.val : Int) (ish 1 (h.val : Int))) = 0) ↔ (bt (a.val : Int) (h.val : Int) = 0 ∨ bt (b.val : Int) (h.val : Int) = 0) := by decide +kernel
theorem rdr {a b h : Int} (ha : 0 ≤ a ∧ a < 8) (hb : 0 ≤ b ∧ b < 8) (hh : 0 ≤ h ∧ h < 3) : (ian a (ian b (ish 1 h)) = 0) ↔ (bt a h = 0 ∨ bt b h = 0) := by
  have := rdr1 ⟨a.toNat, by omega⟩ ⟨b.toNat, by omega⟩ ⟨h.toNat, by omega⟩
  simp only [show ((a.toNat : Nat) : Int) = a by omega, show ((h.toNat : Nat) : Int) = h by omega, show ((b.toNat : Nat) : Int) = b by omega] at this
  exact this
theorem stgN {r : Nat} (h : isStg r) : r ∉ rowS 73 := by
  rcases h with rfl | rfl | rfl | rfl | rfl | rfl | rfl | rfl | rfl | rfl | rfl | rfl | rfl | rfl <;> decide
theorem rowN {c : Nat} (h : c < 73) : c ∉ rowS 73 := by simp [rowS]; omega
variable {E : EN} {d : Nat} {σ : Mem} {R : RL} {T : Int → Int}
theorem HP.row {σ τ : Mem} {T : Int → Int} (h : HP σ T) (hF : Fr (rowS 73) σ τ) : HP τ T := h.fr (hF 2 (rowN (by decide))) (hF 8 (rowN (by decide))) (hF 9 (rowN (by decide))) (hF 10 (rowN (by decide))) (hF 11 (rowN (by decide))) (hF 12 (rowN (by decide)))
theorem RV.in {σ : Mem} {T : Int → Int} (h : HP σ T) (hT : MT T) {R : RL} (hR : RV T R) : ∀ x ∈ R, inR σ x ∧ Gb (gM T) x := by
  intro x hx
  have h1 := hR.mem x hx
  obtain ⟨-, a, b, -⟩ := h
  refine ⟨⟨⟨h1.1.1, by rw [b]; exact h1.1.2⟩, ⟨h1.2.1, by rw [a]; exact h1.2.2⟩⟩, gM_b hT h1.1 h1.2⟩
theorem Fr5 {σ τ : Mem} (h : Fr [73 + 5] σ τ) : Fr (rowS 73) σ τ := h.wk (fun c hc => by simp at hc; subst hc; simp [rowS])
theorem RowC.md {σ τ : Mem} {g : GG} {R : RL} {w : Nat} (h : RowC σ w g R) (hF : Fr [w + 5] σ τ) : RowC τ w g R := by
  have e : ∀ c, c ≠ w + 5 → τ c = σ c := fun c hc => hF.one hc
  obtain ⟨h1, h2, h3, h4, h5, h6, h7⟩ := h
  refine ⟨by rw [e w (by omega)]; exact h1, h2, by rw [e w (by omega)]; exact h3, h4.congr (fun i _ _ => by rw [e _ (by omega), e _ (by omega), e _ (by omega), e _ (by omega)]; exact ⟨rfl, rfl, rfl, rfl⟩), fun x a b => by rw [e _ (by omega)]; exact h5 x a b, h6.congr (fun i _ _ => by rw [e _ (by omega)]), by rw [e _ (by omega)]; exact h7⟩
/-- the minutes at which the letters of the row are mended stand in cell 78 -/
def MdOK (τ : Mem) (g : GG) (R : RL) : Prop := ∀ i : Nat, (i : Int) < R.length → τ 78 (τ 80 i) = endT (copAt g R) (fun p => g.2.1 (kAt R p)) (τ 80) (i + 1)
theorem MdOK.of {σ τ : Mem} {g : GG} {R : RL} (hU : Fr [73 + 5] σ τ) (hv : ∀ i : Nat, (i : Int) < R.length → τ (73 + 5) (σ (73 + 7) i) = endT (copAt g R) (fun p => g.2.1 (kAt R p)) (σ (73 + 7)) (i + 1)) : MdOK τ g R := by
  have e : τ 80 = σ 80 := hU.one (by decide)
  intro i hi
  rw [e]
  exact hv i hi
theorem s_Doer_takeM {K : Int → Mem → Prop} {r : Nat} {v : Int} (hd : 3 ≤ d) (hr : isStg r) (hT : MT T) (hP : HP σ T) (hc2 : 0 ≤ σ 2 2 ∧ σ 2 2 ≤ 4) (hrd : 0 ≤ σ r 0 ∧ σ r 0 < 64) (haw : 0 ≤ σ r 2 ∧ σ r 2 < 8) (hRV : RV T R) (hR : RowC σ 73 (gM T) R) (q : ∀ τ : Mem, Fr (rowS 73) σ τ → RowC τ 73 (gM T) (takeF T (σ r 0) (σ r 2) R v).2 → ((takeF T (σ r 0) (σ r 2) R v).1 = 0 → MdOK τ (gM T) (takeF T (σ r 0) (σ r 2) R v).2) → K (takeF T (σ r 0) (σ r 2) R v).1 τ) : CI E y_Doer_take d [vr 91, vl v, vr r] σ K := by
  have hB := hP.rb hT hc2
  have h2r : isRoom 2 := Or.inl rfl
  have hw : isRow 73 := Or.inl rfl
  have T4 := hT.2.2.2.1
  have T2 := hT.2.1
  obtain ⟨p0, p1, p3, pG, pk⟩ := id hP
  have tk := (RV.cnt hT hRV).1
  have no1 : ¬ (0 ≤ v ∧ v < 30 ∧ v % 10 < T 4 ∧ v / 10 < T 2) → K 1 σ := by
    intro hn
    have e : takeF T (σ r 0) (σ r 2) R v = (1, R) := if_pos hn
    have := q σ Fr.rf; rw [e] at this; exact this hR (fun z => absurd (show (1 : Int) = 0 from z) (by decide))
  refine c_Doer_take (b_Doer_take_0 hr (by omega) ?_)
  rw [lcm_lt, lcm_ge, lcm_lt, lcm_ge]
  refine ⟨fun z => no1 (by omega), fun h0 => ⟨fun h30 => ?_, fun z => no1 (by omega)⟩⟩
  rw [wid (x := v) (by omega) (by omega), Int.tmod_eq_emod_of_nonneg h0, Int.tdiv_eq_ediv_of_nonneg h0, wid (x := v / 10) (by omega) (by omega)]
  refine s_Room_hasLetter h2r (by omega) (fun hk => ⟨fun z => absurd z (by decide), fun _ => s_Room_hasHand h2r (by omega) (fun hh => ⟨fun _ => ?_, fun z => absurd z (by decide)⟩) (fun z => ⟨fun z => absurd rfl z, fun _ => no1 (by omega)⟩)⟩) (fun z => ⟨fun _ => no1 (by omega), fun z => absurd rfl z⟩)
  rw [p3] at hk
  rw [p1] at hh
  have yes : (0 ≤ v ∧ v < 30 ∧ v % 10 < T 4 ∧ v / 10 < T 2) := ⟨h0, h30, hk.2, hh.2⟩
  rw [bit_eq (ior_i32 _ _) (by omega), hR.2.2.1, bior hrd tk (by omega)]
  have pkk := pk (v % 10) (by omega) hk.2
  have no2 : (bt (σ r 0) (v % 10) = 1 ∨ bt (tkn R) (v % 10) = 1 ∨ bt (σ r 2) (v / 10) = 0 ∨ bt (T (27 + v / 10)) (T (43 + v % 10)) = 0) → K 2 σ := by
    intro hc
    have e : takeF T (σ r 0) (σ r 2) R v = (2, R) := by unfold takeF; rw [if_neg (fun z => z yes), if_pos hc]
    have := q σ Fr.rf; rw [e] at this; exact this hR (fun z => absurd (show (2 : Int) = 0 from z) (by decide))
  have go : ∀ (s0 : Int) (o1 o2 o6 : Option AV), (s0 = 1 ∧ (bt (σ r 0) (v % 10) = 1 ∨ bt (tkn R) (v % 10) = 1)) ∨ (s0 = 0 ∧ ¬ (bt (σ r 0) (v % 10) = 1 ∨ bt (tkn R) (v % 10) = 1)) → Z E y_Doer_take d 81 [some (vr 91), o1, o2, some (vr r), some (vi (v % 10)), some (vi (v / 10)), o6] [vi s0] σ (qi K) := by
    intro s0 o1 o2 o6 hs0
    refine b_Doer_take_81 (b1 := 0) hr (by omega) ⟨fun z => no2 (by omega), fun z => ?_⟩
    have hnb : ¬ (bt (σ r 0) (v % 10) = 1 ∨ bt (tkn R) (v % 10) = 1) := by omega
    have hb0 : bt (tkn R) (v % 10) = 0 := by rcases bt_01 (tkn R) (v % 10) with e | e; exact e; exact absurd (Or.inr e) hnb
    refine s_Room_readersOf (by omega) h2r (by omega) (by omega) ?_
    have key := rdr pkk.2.1 haw (h := v / 10) (by omega)
    rw [pkk.2.2 (v / 10) (by omega) hh.2] at key
    refine ⟨fun hne => ?_, fun he => no2 (by have := key.mp he; omega)⟩
    have hn2 : ¬ (bt (σ r 0) (v % 10) = 1 ∨ bt (tkn R) (v % 10) = 1 ∨ bt (σ r 2) (v / 10) = 0 ∨ bt (T (27 + v / 10)) (T (43 + v % 10)) = 0) := by
      intro z
      have : ¬ (bt (T (27 + v / 10)) (T (43 + v % 10)) = 0 ∨ bt (σ r 2) (v / 10) = 0) := fun y => hne (key.mpr y)
      omega
    have hxM : inM T (v % 10, v / 10) := ⟨⟨by show 0 ≤ v % 10; omega, hk.2⟩, ⟨by show 0 ≤ v / 10; omega, hh.2⟩⟩
    have hxR : inR σ (v % 10, v / 10) := ⟨⟨by show 0 ≤ v % 10; omega, by show v % 10 < σ 2 3; omega⟩, ⟨by show 0 ≤ v / 10; omega, by show v / 10 < σ 2 1; omega⟩⟩
    have hRV2 : RV T ((v % 10, v / 10) :: R) := ⟨hxM, hb0, hRV⟩
    refine s_Row_add (x := (v % 10, v / 10)) hw (by omega) hB pG hxR (gM_b hT hxM.1 hxM.2) (Rb_of hT hRV.mem) hR (RV.lt hT hRV (by omega) hb0) (fun τ hF hRC => ?_)
    have hP2 := hP.row hF
    have e2 : τ 2 = σ 2 := hF 2 (rowN (by decide))
    refine s_Row_end hw (by omega) hP2.2.2.2.1 (hP2.rb hT (by rw [e2]; exact hc2)) (RV.in hP2 hT hRV2) (Rb_of hT hRV2.mem) hRC (fun υ hU hv => ?_)
    have hRC2 := hRC.md hU
    have e3 : υ 2 = σ 2 := by rw [hU.one (by decide), e2]
    rw [e3, p0]
    refine ⟨fun hle => ?_, fun hgt => ?_⟩
    · have e : takeF T (σ r 0) (σ r 2) R v = (0, (v % 10, v / 10) :: R) := by unfold takeF; rw [if_neg (fun z => z yes), if_neg hn2, if_neg (by omega)]
      have := q υ (hF.tr (Fr5 hU)); rw [e] at this; exact this hRC2 (fun _ => MdOK.of hU hv)
    · have e : takeF T (σ r 0) (σ r 2) R v = (3, R) := by unfold takeF; rw [if_neg (fun z => z yes), if_neg hn2, if_pos hgt]
      refine s_Row_drop (x := (v % 10, v / 10)) hw (by show 0 ≤ v / 10 ∧ v / 10 < 3; omega) hRC2 (bdrop tk (by show 0 ≤ v % 10 ∧ v % 10 < 6; omega) hb0) (fun ω hO hRO => ?_)
      have := q ω ((hF.tr (Fr5 hU)).tr hO); rw [e] at this; exact this hRO (fun z => absurd (show (3 : Int) = 0 from z) (by decide))
  by_cases hc : bt (σ r 0) (v % 10) = 1 ∨ bt (tkn R) (v % 10) = 1
  · rw [if_pos hc]
    exact ⟨fun z => absurd z (by decide), fun _ => go 1 _ _ _ (Or.inl ⟨rfl, hc⟩)⟩
  · rw [if_neg hc]
    exact ⟨fun _ => go 0 _ _ _ (Or.inr ⟨rfl, hc⟩), fun z => absurd rfl z⟩
theorem s_Doer_take {K : Int → Mem → Prop} {r : Nat} {v : Int} (hd : 3 ≤ d) (hr : isStg r) (hT : MT T) (hP : HP σ T) (hc2 : 0 ≤ σ 2 2 ∧ σ 2 2 ≤ 4) (hrd : 0 ≤ σ r 0 ∧ σ r 0 < 64) (haw : 0 ≤ σ r 2 ∧ σ r 2 < 8) (hRV : RV T R) (hR : RowC σ 73 (gM T) R) (q : ∀ τ : Mem, Fr (rowS 73) σ τ → RowC τ 73 (gM T) (takeF T (σ r 0) (σ r 2) R v).2 → K (takeF T (σ r 0) (σ r 2) R v).1 τ) : CI E y_Doer_take d [vr 91, vl v, vr r] σ K := by
  exact s_Doer_takeM hd hr hT hP hc2 hrd haw hRV hR (fun τ a b _ => q τ a b)
