/-! by rule: letters in turn, each by the hand that has it copied soonest -/
theorem tkn_bt : ∀ {R : RL}, in63 R → ∀ {j : Int}, 0 ≤ j ∧ j < 6 → (bt (tkn R) j = 1 ↔ ∃ x ∈ R, x.1 = j)
  | [], _, j, _ => by simp [tkn, bt]
  | x :: R, q, j, hj => by
    have ih := tkn_bt q.tl hj
    have hx := (q x List.mem_cons_self).1
    have tl := tkn_lt (R := R) (fun y hy => (q.tl y hy).1)
    show bt (ior (tkn R) (ish 1 x.1)) j = 1 ↔ _
    rw [bor tl hx hj]
    by_cases e : j = x.1
    · rw [if_pos e]; exact ⟨fun _ => ⟨x, List.mem_cons_self, e.symm⟩, fun _ => rfl⟩
    · rw [if_neg e, ih]
      refine ⟨fun ⟨y, a, b⟩ => ⟨y, List.mem_cons_of_mem _ a, b⟩, fun ⟨y, a, b⟩ => ?_⟩
      rcases List.mem_cons.mp a with rfl | a
      · exact absurd b.symm e
      · exact ⟨y, a, b⟩
theorem bt_ian1 : ∀ (a b : Fin 8) (h : Fin 3), bt (ian (a.val : Int) (b.val : Int)) (h.val : Int) = if bt (a.val : Int) (h.val : Int) = 1 ∧ bt (b.val : Int) (h.val : Int) = 1 then 1 else 0 := by decide +kernel
theorem bian {a b h : Int} (ha : 0 ≤ a ∧ a < 8) (hb : 0 ≤ b ∧ b < 8) (hh : 0 ≤ h ∧ h < 3) : bt (ian a b) h = if bt a h = 1 ∧ bt b h = 1 then 1 else 0 := by
  have := bt_ian1 ⟨a.toNat, by omega⟩ ⟨b.toNat, by omega⟩ ⟨h.toNat, by omega⟩
  simp only [show ((a.toNat : Nat) : Int) = a by omega, show ((h.toNat : Nat) : Int) = h by omega, show ((b.toNat : Nat) : Int) = b by omega] at this
  exact this
theorem bt_not {a k : Int} (h : ¬ bt a k = 0) : bt a k = 1 := by rcases bt_01 a k with e | e; exact absurd e h; exact e
theorem ian_i32 (a b : Int) : i32 (ian a b) := ok32 _
/-- the hand for letter k behind R, of the first n -/
def bestH (T : Int → Int) (aw k : Int) (R : RL) : Nat → Int
  | 0 => -1
  | n + 1 => if bt aw n = 1 ∧ bt (T (27 + (n : Int))) (T (43 + k)) = 1 ∧ (bestH T aw k R n = -1 ∨ cpd (gM T) (k, (n : Int)) R < cpd (gM T) (k, bestH T aw k R n) R) then (n : Int) else bestH T aw k R n
theorem bestH_r {T : Int → Int} {aw k : Int} {R : RL} : ∀ n : Nat, bestH T aw k R n = -1 ∨ (0 ≤ bestH T aw k R n ∧ bestH T aw k R n < n ∧ bt aw (bestH T aw k R n) = 1 ∧ bt (T (27 + bestH T aw k R n)) (T (43 + k)) = 1)
  | 0 => Or.inl rfl
  | n + 1 => by
    simp only [bestH]
    split
    · rename_i h; exact Or.inr ⟨by omega, by omega, h.1, h.2.1⟩
    · rcases bestH_r (T := T) (aw := aw) (k := k) (R := R) n with h | h
      · exact Or.inl h
      · exact Or.inr ⟨h.1, by omega, h.2.2⟩
/-- the row by rule, of the first n letters -/
noncomputable def ruleF (T : Int → Int) (rd aw : Int) : Nat → RL
  | 0 => []
  | n + 1 => if bt rd n = 1 ∨ bestH T aw n (ruleF T rd aw n) (T 2).toNat = -1 then ruleF T rd aw n
      else if T 1 < endV (gM T) (((n : Int), bestH T aw n (ruleF T rd aw n) (T 2).toNat) :: ruleF T rd aw n) then ruleF T rd aw n
      else ((n : Int), bestH T aw n (ruleF T rd aw n) (T 2).toNat) :: ruleF T rd aw n
theorem ruleF_s (T : Int → Int) (rd aw : Int) (n : Nat) : ruleF T rd aw (n + 1) = if bt rd n = 1 ∨ bestH T aw n (ruleF T rd aw n) (T 2).toNat = -1 then ruleF T rd aw n
      else if T 1 < endV (gM T) (((n : Int), bestH T aw n (ruleF T rd aw n) (T 2).toNat) :: ruleF T rd aw n) then ruleF T rd aw n
      else ((n : Int), bestH T aw n (ruleF T rd aw n) (T 2).toNat) :: ruleF T rd aw n := rfl
theorem ruleF_lt {T : Int → Int} {rd aw : Int} : ∀ n : Nat, ∀ x ∈ ruleF T rd aw n, x.1 < n
  | 0, x, h => by cases h
  | n + 1, x, h => by
    rw [ruleF_s] at h
    split at h
    · have := ruleF_lt n x h; omega
    · split at h
      · have := ruleF_lt n x h; omega
      · rcases List.mem_cons.mp h with rfl | h
        · show (n : Int) < ((n + 1 : Nat) : Int); omega
        · have := ruleF_lt n x h; omega
theorem ruleF_new {T : Int → Int} (hT : MT T) {rd aw : Int} {n : Nat} (hn : (n : Int) < T 4) (h : RV T (ruleF T rd aw n)) : bt (tkn (ruleF T rd aw n)) n = 0 := by
  have t4 := hT.2.2.2.1
  rcases bt_01 (tkn (ruleF T rd aw n)) n with e | e
  · exact e
  · obtain ⟨x, a, b⟩ := (tkn_bt (in63.of hT h) (j := n) (by omega)).mp e
    have := ruleF_lt n x a; omega
theorem ruleF_RV {T : Int → Int} (hT : MT T) {rd aw : Int} : ∀ n : Nat, (n : Int) ≤ T 4 → RV T (ruleF T rd aw n)
  | 0, _ => trivial
  | n + 1, hn => by
    have t2 := hT.2.1
    have ih := ruleF_RV hT (rd := rd) (aw := aw) n (by omega)
    rw [ruleF_s]
    split
    · exact ih
    · rename_i h
      split
      · exact ih
      · rcases bestH_r (T := T) (aw := aw) (k := n) (R := ruleF T rd aw n) (T 2).toNat with e | e
        · exact absurd (Or.inr e) h
        · exact ⟨⟨⟨by show 0 ≤ (n : Int); omega, by show (n : Int) < T 4; omega⟩, ⟨e.1, by have := e.2.1; show bestH T aw n (ruleF T rd aw n) (T 2).toNat < T 2; omega⟩⟩, ruleF_new hT (by omega) ih, ih⟩
/-- none of its letters is read -/
theorem ruleF_rd {T : Int → Int} {rd aw : Int} : ∀ n : Nat, ∀ x ∈ ruleF T rd aw n, bt rd x.1 = 0
  | 0, x, h => by cases h
  | n + 1, x, h => by
    rw [ruleF_s] at h
    split at h
    · exact ruleF_rd n x h
    · rename_i z
      split at h
      · exact ruleF_rd n x h
      · rcases List.mem_cons.mp h with rfl | h
        · rcases bt_01 rd (n : Int) with e | e
          · exact e
          · exact absurd (Or.inl e) z
        · exact ruleF_rd n x h
theorem TX.bh {T T2 : Int → Int} (x : TX T T2) (hT : MT T) {aw k : Int} {R : RL} (hk : 0 ≤ k ∧ k < 6) (q : in63 R) : ∀ n : Nat, n ≤ 3 → bestH T2 aw k R n = bestH T aw k R n
  | 0, _ => rfl
  | n + 1, hn => by
    have ih := TX.bh x hT (aw := aw) hk q n (by omega)
    have c : ∀ y : Int, 0 ≤ y ∧ y < 3 → cpd (gM T2) (k, y) R = cpd (gM T) (k, y) R := fun y hy => x.cp hT (fun z hz => by
      rcases List.mem_cons.mp hz with rfl | hz
      · exact ⟨hk, hy⟩
      · exact q z hz)
    simp only [bestH]
    rw [ih, x (27 + (n : Int)) (by omega) (by omega), x (43 + k) (by omega) (by omega), c n (by omega)]
    rcases bestH_r (T := T) (aw := aw) (k := k) (R := R) n with e | e
    · simp [e]
    · rw [c _ (by omega)]
theorem TX.rf2 {T T2 : Int → Int} (x : TX T T2) (hT : MT T) {rd aw : Int} : ∀ n : Nat, (n : Int) ≤ T 4 → ruleF T2 rd aw n = ruleF T rd aw n
  | 0, _ => rfl
  | n + 1, hn => by
    have t2 := hT.2.1
    have t4 := hT.2.2.2.1
    have ih := TX.rf2 x hT (rd := rd) (aw := aw) n (by omega)
    have q := in63.of hT (ruleF_RV hT (rd := rd) (aw := aw) n (by omega))
    rw [ruleF_s, ruleF_s, ih, x 2 (by omega) (by omega), x 1 (by omega) (by omega), x.bh hT (by omega) q _ (by omega)]
    rcases bestH_r (T := T) (aw := aw) (k := n) (R := ruleF T rd aw n) (T 2).toNat with e | e
    · rw [if_pos (Or.inr e), if_pos (Or.inr e)]
    · rw [x.ev hT (R := (((n : Int), bestH T aw n (ruleF T rd aw n) (T 2).toNat) :: ruleF T rd aw n)) (fun z hz => by
        rcases List.mem_cons.mp hz with rfl | hz
        · exact ⟨⟨by show 0 ≤ (n : Int); omega, by show (n : Int) < 6; omega⟩, ⟨e.1, by have := e.2.1; show bestH T aw n (ruleF T rd aw n) (T 2).toNat < 3; omega⟩⟩
        · exact q z hz)]
section
variable {E : EN} {d : Nat} {σ : Mem} {R : RL} {T : Int → Int}
theorem s_Doer_soonestHand {K : Int → Mem → Prop} {k aw : Int} (hd : 2 ≤ d) (hT : MT T) (hP : HP σ T) (hc2 : 0 ≤ σ 2 2 ∧ σ 2 2 ≤ 4) (hk : 0 ≤ k ∧ k < T 4) (haw : 0 ≤ aw ∧ aw < 8) (hRV : RV T R) (hR : RowC σ 73 (gM T) R) (q : K (bestH T aw k R (T 2).toNat) σ) : CI E y_Doer_soonestHand d [vr 91, vi k, vi aw] σ K := by
  have h2r : isRoom 2 := Or.inl rfl
  have hB := hP.rb hT hc2
  have t2 := hT.2.1
  have t4 := hT.2.2.2.1
  obtain ⟨p0, p1, p3, pG, pk⟩ := id hP
  have pkk := pk k hk.1 hk.2
  refine c_Doer_soonestHand (b_Doer_soonestHand_0 (by omega) (s_Room_readersOf (by omega) h2r (by omega) (by omega) ?_))
  have loop : ∀ (m i : Nat) (s : Int) (o2 o7 : Option AV), (i : Int) + m = T 2 → (bestH T aw k R i ≠ -1 → s = cpd (gM T) (k, bestH T aw k R i) R) → Z E y_Doer_soonestHand d 19 [some (vr 91), some (vi k), o2, some (vi (ian (σ 12 k) aw)), some (vi (bestH T aw k R i)), some (vi s), some (vi (i : Int)), o7] [] σ (qi K) := by
    intro m
    induction m with
    | zero =>
      intro i s o2 o7 hi hs
      refine b_Doer_soonestHand_19 (a2 := 0) (by omega) ⟨fun _ => ?_, fun z => absurd z (by omega)⟩
      have : i = (T 2).toNat := by omega
      rw [this]; exact q
    | succ m ih =>
      intro i s o2 o7 hi hs
      have hx : inR σ (k, (i : Int)) := ⟨⟨hk.1, by show k < σ 2 3; omega⟩, ⟨by show 0 ≤ (i : Int); omega, by show (i : Int) < σ 2 1; omega⟩⟩
      refine b_Doer_soonestHand_19 (a2 := 0) (by omega) ⟨fun z => absurd z (by omega), fun _ => s_Row_copiedIf (x := (k, (i : Int))) (Or.inl rfl) (by omega) hB pG hx (gM_b hT hk ⟨by show 0 ≤ (i : Int); omega, by show (i : Int) < T 2; omega⟩) (Rb_of hT hRV.mem) hR ?_⟩
      rw [bit_eq (ian_i32 _ _) (by omega), bian pkk.2.1 haw (by omega), pkk.2.2 i (by omega) (by omega), wid (x := (i : Int) + 1) (by omega) (by omega)]
      have nx := fun s o2 o7 => ih (i + 1) s o2 o7 (by omega)
      simp only [bestH] at nx
      by_cases hb : bt (T (27 + (i : Int))) (T (43 + k)) = 1 ∧ bt aw i = 1
      · rw [if_pos hb]
        refine ⟨fun z => absurd z (by decide), fun _ => ⟨fun e => ?_, fun e => ⟨fun e2 => ?_, fun e2 => ?_⟩⟩⟩
        · have c : bt aw i = 1 ∧ bt (T (27 + (i : Int))) (T (43 + k)) = 1 ∧ (bestH T aw k R i = -1 ∨ cpd (gM T) (k, (i : Int)) R < cpd (gM T) (k, bestH T aw k R i) R) := ⟨hb.2, hb.1, Or.inl e⟩
          have := nx (cpd (gM T) (k, (i : Int)) R) o2 (some (vi (cpd (gM T) (k, (i : Int)) R)))
          rw [if_pos c] at this; exact this (fun _ => rfl)
        · have c : ¬ (bt aw i = 1 ∧ bt (T (27 + (i : Int))) (T (43 + k)) = 1 ∧ (bestH T aw k R i = -1 ∨ cpd (gM T) (k, (i : Int)) R < cpd (gM T) (k, bestH T aw k R i) R)) := by
            rintro ⟨-, -, z | z⟩
            · exact e z
            · rw [hs e] at e2; omega
          have := nx s o2 (some (vi (cpd (gM T) (k, (i : Int)) R)))
          rw [if_neg c] at this; exact this hs
        · have c : bt aw i = 1 ∧ bt (T (27 + (i : Int))) (T (43 + k)) = 1 ∧ (bestH T aw k R i = -1 ∨ cpd (gM T) (k, (i : Int)) R < cpd (gM T) (k, bestH T aw k R i) R) := ⟨hb.2, hb.1, Or.inr (by rw [hs e] at e2; exact e2)⟩
          have := nx (cpd (gM T) (k, (i : Int)) R) o2 (some (vi (cpd (gM T) (k, (i : Int)) R)))
          rw [if_pos c] at this; exact this (fun _ => rfl)
      · rw [if_neg hb]
        refine ⟨fun _ => ?_, fun z => absurd rfl z⟩
        have c : ¬ (bt aw i = 1 ∧ bt (T (27 + (i : Int))) (T (43 + k)) = 1 ∧ (bestH T aw k R i = -1 ∨ cpd (gM T) (k, (i : Int)) R < cpd (gM T) (k, bestH T aw k R i) R)) := fun z => hb ⟨z.2.1, z.1⟩
        have := nx s o2 (some (vi (cpd (gM T) (k, (i : Int)) R)))
        rw [if_neg c] at this; exact this hs
  exact loop (T 2).toNat 0 0 _ _ (by omega) (fun z => absurd rfl z)
theorem s_Doer_ruleRow {K : Mem → Prop} {op rd aw : Int} (hd : 3 ≤ d) (hT : MT T) (hP : HP σ T) (hc2 : 0 ≤ σ 2 2 ∧ σ 2 2 ≤ 4) (haw : 0 ≤ aw ∧ aw < 8) (hi : i32 op) (hop : ∀ k : Int, 0 ≤ k → k < T 4 → (bt op k = 0 ↔ bt rd k = 1)) (q : ∀ τ : Mem, Fr (rowS 73) σ τ → RowC τ 73 (gM T) (ruleF T rd aw (T 4).toNat) → K τ) : CV E y_Doer_ruleRow d [vr 91, vi op, vi aw] σ K := by
  have hw : isRow 73 := Or.inl rfl
  have t2 := hT.2.1
  have t4 := hT.2.2.2.1
  have loop : ∀ (m i : Nat) (o4 : Option AV) (τ : Mem), (i : Int) + m = T 4 → Fr (rowS 73) σ τ → RowC τ 73 (gM T) (ruleF T rd aw i) → Z E y_Doer_ruleRow d 9 [some (vr 91), some (vi op), some (vi aw), some (vi (i : Int)), o4] [] τ (qv K) := by
    intro m
    induction m with
    | zero =>
      intro i o4 τ hm hF hR
      have e2 : τ 2 = σ 2 := hF 2 (rowN (by decide))
      refine b_Doer_ruleRow_9 (by omega) ⟨fun _ => ?_, fun z => absurd z (by rw [e2, hP.2.2.1]; omega)⟩
      have : i = (T 4).toNat := by omega
      rw [this] at hR; exact q τ hF hR
    | succ m ih =>
      intro i o4 τ hm hF hR
      have e2 : τ 2 = σ 2 := hF 2 (rowN (by decide))
      have hP2 := hP.row hF
      have hc3 : 0 ≤ τ 2 2 ∧ τ 2 2 ≤ 4 := by rw [e2]; exact hc2
      have hRV := ruleF_RV hT (rd := rd) (aw := aw) i (by omega)
      have hnew := ruleF_new hT (rd := rd) (aw := aw) (n := i) (by omega) hRV
      have nx := fun o4 τ => ih (i + 1) o4 τ (by omega)
      simp only [ruleF_s] at nx
      have wi : w32 ((i : Int) + 1) = (i : Int) + 1 := wid (by omega) (by omega)
      refine b_Doer_ruleRow_9 (by omega) ⟨fun z => absurd z (by rw [e2, hP.2.2.1]; omega), fun _ => ?_⟩
      rw [bit_eq hi (by omega)]
      have hopi := hop i (by omega) (by omega)
      refine ⟨fun e => ?_, fun e => s_Doer_soonestHand (by omega) hT hP2 hc3 (by omega) haw hRV hR ?_⟩
      · refine b_Doer_ruleRow_38 (by omega) ⟨fun _ => ?_, fun z => absurd rfl z⟩
        have := nx (some (vi (-1))) τ hF
        rw [if_pos (Or.inl (hopi.mp e))] at this
        rw [wi]; exact this hR
      · have e1 : ¬ bt rd i = 1 := fun z => e (hopi.mpr z)
        generalize hbb : bestH T aw i (ruleF T rd aw i) (T 2).toNat = b at nx ⊢
        refine b_Doer_ruleRow_38 (by omega) ⟨fun eb => ?_, fun eb => ?_⟩
        · have := nx (some (vi b)) τ hF
          rw [if_pos (Or.inr eb)] at this
          rw [wi]; exact this hR
        · have hbr : 0 ≤ b ∧ b < T 2 := by
            rcases bestH_r (T := T) (aw := aw) (k := i) (R := ruleF T rd aw i) (T 2).toNat with z | z
            · rw [hbb] at z; exact absurd z eb
            · rw [hbb] at z; omega
          have c : ¬ (bt rd i = 1 ∨ b = -1) := fun z => z.elim e1 eb
          have hxM : inM T ((i : Int), b) := ⟨⟨by show 0 ≤ (i : Int); omega, by show (i : Int) < T 4; omega⟩, hbr⟩
          have hxR : inR τ ((i : Int), b) := ⟨⟨by show 0 ≤ (i : Int); omega, by show (i : Int) < τ 2 3; rw [e2, hP.2.2.1]; omega⟩, ⟨hbr.1, by show b < τ 2 1; rw [e2, hP.2.1]; exact hbr.2⟩⟩
          have hRV2 : RV T (((i : Int), b) :: ruleF T rd aw i) := ⟨hxM, hnew, hRV⟩
          refine s_Row_add (x := ((i : Int), b)) hw (by omega) (hP2.rb hT hc3) hP2.2.2.2.1 hxR (gM_b hT hxM.1 hxM.2) (Rb_of hT hRV.mem) hR (RV.lt hT hRV (by omega) hnew) (fun τ1 hF1 hR1 => ?_)
          have hP3 := hP2.row hF1
          have e3 : τ1 2 = σ 2 := by rw [hF1 2 (rowN (by decide)), e2]
          refine s_Row_end hw (by omega) hP3.2.2.2.1 (hP3.rb hT (by rw [e3]; exact hc2)) (RV.in hP3 hT hRV2) (Rb_of hT hRV2.mem) hR1 (fun τ2 hF2 _ => ?_)
          have hR2 := hR1.md hF2
          have e4 : τ2 2 = σ 2 := by rw [hF2.one (by decide), e3]
          rw [e4, hP.1, wi]
          refine ⟨fun hle => ?_, fun hgt => ?_⟩
          · have := nx (some (vi b)) τ2 ((hF.tr hF1).tr (Fr5 hF2))
            rw [if_neg c, if_neg (by omega)] at this
            exact this hR2
          · refine s_Row_drop (x := ((i : Int), b)) hw (by show 0 ≤ b ∧ b < 3; omega) hR2 (bdrop (RV.cnt hT hRV).1 (by show 0 ≤ (i : Int) ∧ (i : Int) < 6; omega) hnew) (fun τ3 hF3 hR3 => ?_)
            have := nx (some (vi b)) τ3 (((hF.tr hF1).tr (Fr5 hF2)).tr hF3)
            rw [if_neg c, if_pos hgt] at this
            exact this hR3
  refine c_Doer_ruleRow (b_Doer_ruleRow_0 (by omega) (s_Row_clear (g := gM T) hw (by omega) (fun τ hF hR => ?_)))
  exact loop (T 4).toNat 0 _ τ (by omega) hF hR
end
