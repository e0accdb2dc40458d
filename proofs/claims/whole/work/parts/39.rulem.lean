section
variable {E : EN} {d : Nat} {σ : Mem} {R : RL}
theorem s_isNone {K : Mem → Prop} {g : GG} (q : ∀ τ : Mem, Fr [115] σ τ → keep [22, 23] σ τ → MRow τ g [] → K τ) : CV E y_Mod_isNone d [vr 115] σ K := by
  refine c_Mod_isNone (b_Mod_isNone_0 (q _ ((Fr.rf.up (by simp)).up (by simp)) (fun k hk => ?_) ⟨?_, by simp, ?_, trivial⟩))
  · have n : k ≠ 22 ∧ k ≠ 23 := by simpa using hk
    rw [up_nk n.2, up_nk n.1]
  · rw [up_nk (by decide), up_same]; rfl
  · rw [up_same]; rfl
theorem s_laysRule {K : Mem → Prop} {rd aw : Int} (hd : 5 ≤ d) (hT : MT (σ 116)) (hrd : i64 rd) (haw : 0 ≤ aw ∧ aw < 8) (q : ∀ τ : Mem, Fr whyS σ τ → keep [22, 23] σ τ → MRow τ (gM (σ 116)) (ruleF (σ 116) rd aw (σ 116 4).toNat) → K τ) : CV E y_Mod_laysRule d [vr 115, vi rd, vi aw] σ K := by
  have t2 := hT.2.1
  have t4 := hT.2.2.2.1
  have loop : ∀ (m i : Nat) (o4 o5 : Option AV) (τ : Mem), (i : Int) + m = σ 116 4 → Fr whyS σ τ → keep [22, 23] σ τ → MRow τ (gM (σ 116)) (ruleF (σ 116) rd aw i) → Z E y_Mod_laysRule d 6 [some (vr 115), some (vi rd), some (vi aw), some (vi (i : Int)), o4, o5] [] τ (qv K) := by
    intro m
    induction m with
    | zero =>
      intro i o4 o5 τ hm hF hK hR
      have e6 : τ 116 = σ 116 := hF 116 (by decide)
      refine b_Mod_laysRule_6 (by omega) ⟨fun _ => ?_, fun z => absurd z (by rw [e6]; omega)⟩
      have : i = (σ 116 4).toNat := by omega
      rw [this] at hR; exact q τ hF hK hR
    | succ m ih =>
      intro i o4 o5 τ hm hF hK hR
      have e6 : τ 116 = σ 116 := hF 116 (by decide)
      have hRV := ruleF_RV hT (rd := rd) (aw := aw) i (by omega)
      have hnew := ruleF_new hT (rd := rd) (aw := aw) (n := i) (by omega) hRV
      have nx := fun o4 o5 τ => ih (i + 1) o4 o5 τ (by omega)
      simp only [ruleF_s] at nx
      refine b_Mod_laysRule_6 (by omega) ⟨fun z => absurd z (by rw [e6]; omega), fun _ => s_isIn hrd (by omega) ⟨fun e => ?_, fun e => ?_⟩⟩
      · have e1 : ¬ bt rd i = 1 := by omega
        have inner : ∀ (m2 j : Nat) (τ : Mem), (j : Int) + m2 = σ 116 2 → Fr whyS σ τ → keep [22, 23] σ τ → MRow τ (gM (σ 116)) (ruleF (σ 116) rd aw i) → Z E y_Mod_laysRule d 34 [some (vr 115), some (vi rd), some (vi aw), some (vi (i : Int)), some (vi (bestH (σ 116) aw i (ruleF (σ 116) rd aw i) j)), some (vi (j : Int))] [] τ (qv K) := by
          intro m2
          induction m2 with
          | zero =>
            intro j τ hj hF hK hR
            have e6 : τ 116 = σ 116 := hF 116 (by decide)
            have : j = (σ 116 2).toNat := by omega
            rw [this]
            generalize hbb : bestH (σ 116) aw i (ruleF (σ 116) rd aw i) (σ 116 2).toNat = b at nx ⊢
            refine b_Mod_laysRule_34 (by omega) ⟨fun _ => ⟨fun eb => ?_, fun eb => ?_⟩, fun z => absurd z (by rw [e6]; omega)⟩
            · have hbr : 0 ≤ b ∧ b < σ 116 2 := by
                rcases bestH_r (T := σ 116) (aw := aw) (k := i) (R := ruleF (σ 116) rd aw i) (σ 116 2).toNat with z | z
                · rw [hbb] at z; exact absurd z eb
                · rw [hbb] at z; omega
              have c : ¬ (bt rd i = 1 ∨ b = -1) := fun z => z.elim e1 eb
              have hxM : inM (σ 116) ((i : Int), b) := ⟨⟨by show 0 ≤ (i : Int); omega, by show (i : Int) < σ 116 4; omega⟩, hbr⟩
              have hRV2 : RV (σ 116) (((i : Int), b) :: ruleF (σ 116) rd aw i) := ⟨hxM, hnew, hRV⟩
              refine s_comesLast (x := ((i : Int), b)) (R := ruleF (σ 116) rd aw i) (by omega) (by rw [e6]; exact hT) (by rw [e6]; exact hxM) (by rw [e6]; exact hRV.mem) (by rw [e6]; exact hR) (RV.lt hT hRV (by omega) hnew) (fun τ1 hF1 hK1 hM1 => ?_)
              rw [e6] at hM1
              have e7 : τ1 116 = σ 116 := by rw [hF1 116 (by decide), e6]
              refine s_mendedBy (R := ((i : Int), b) :: ruleF (σ 116) rd aw i) (by omega) (by rw [e7]; exact hT) (by rw [e7]; exact hRV2.mem) (by rw [e7]; exact hM1) (fun τ2 o hF2 _ _ => ?_)
              have e8 : τ2 116 = σ 116 := by rw [hF2 116 (by decide), e7]
              have u115 : τ2 115 = τ1 115 := hF2 115 (by decide)
              have hM2 := hM1.fr u115 (hF2 121 (by decide)) (hF2 122 (by decide)) (hF2 123 (by decide)) (hF2 124 (by decide))
              have hF3 : Fr whyS σ τ2 := (hF.tr (hF1.wk (by decide))).tr (hF2.wk (by decide))
              have hK3 : keep [22, 23] σ τ2 := (hK.tr hK1).tr (keep.of u115)
              rw [e8, e7, wid (x := (i : Int) + 1) (by omega) (by omega)]
              refine ⟨fun hle => ?_, fun hgt => ?_⟩
              · have := nx (some (vi b)) (some (vi ((σ 116 2).toNat : Int))) τ2 hF3 hK3
                rw [if_neg c, if_neg (by omega)] at this
                exact this hM2
              · refine s_goesLast (x := ((i : Int), b)) (by show 0 ≤ (i : Int) ∧ (i : Int) < 6; omega) (fun y hy => (inM6 hT (hRV.mem y hy)).1) hnew hM2 (fun τ3 hF4 hK4 hM4 => ?_)
                have := nx (some (vi b)) (some (vi ((σ 116 2).toNat : Int))) τ3 (hF3.tr (hF4.wk (by decide))) (hK3.tr hK4)
                rw [if_neg c, if_pos hgt] at this
                exact this hM4
            · have := nx (some (vi b)) (some (vi ((σ 116 2).toNat : Int))) τ hF hK
              rw [if_pos (Or.inr eb)] at this
              rw [wid (x := (i : Int) + 1) (by omega) (by omega)]; exact this hR
          | succ m2 ih2 =>
            intro j τ hj hF hK hR
            have e6 : τ 116 = σ 116 := hF 116 (by decide)
            have hT6 : MT (τ 116) := by rw [e6]; exact hT
            have t27 := (hT.2.2.2.2.2.2.2.1 j (by omega) (by omega)).1
            have t43 := (hT.2.2.2.2.2.2.2.2.2.1 i (by omega) (by omega)).2.1
            have n2 := fun τ => ih2 (j + 1) τ (by omega)
            simp only [bestH] at n2
            refine b_Mod_laysRule_34 (by omega) ⟨fun z => absurd z (by rw [e6]; omega), fun _ => s_isIn (by unfold i64; omega) (by omega) ⟨fun ea => ?_, fun ea => ?_⟩⟩
            · have := n2 τ hF hK hR
              rw [if_neg (fun z => absurd z.1 (by rw [ea]; decide))] at this
              rw [wid (x := (j : Int) + 1) (by omega) (by omega)]; exact this
            · have ea := bt_not ea
              refine s_reads1 (by omega) (by omega) (by omega) (by rw [e6]; unfold i32; omega) (by rw [e6]; exact t43) ?_
              rw [e6, wid (x := (j : Int) + 1) (by omega) (by omega)]
              refine ⟨fun er => ?_, fun er => ?_⟩
              · have := n2 τ hF hK hR
                rw [if_neg (fun z => absurd z.2.1 (by rw [er]; decide))] at this
                exact this
              · have er := bt_not er
                refine ⟨fun eb => ?_, fun eb => ?_⟩
                · have := n2 τ hF hK hR
                  rw [if_pos ⟨ea, er, Or.inl eb⟩] at this
                  exact this
                · have hbr : 0 ≤ bestH (σ 116) aw i (ruleF (σ 116) rd aw i) j ∧ bestH (σ 116) aw i (ruleF (σ 116) rd aw i) j < σ 116 2 := by
                    rcases bestH_r (T := σ 116) (aw := aw) (k := i) (R := ruleF (σ 116) rd aw i) j with z | z
                    · exact absurd z eb
                    · omega
                  have hx1 : inM (σ 116) ((i : Int), (j : Int)) := ⟨⟨by show 0 ≤ (i : Int); omega, by show (i : Int) < σ 116 4; omega⟩, ⟨by show 0 ≤ (j : Int); omega, by show (j : Int) < σ 116 2; omega⟩⟩
                  have hx2 : inM (σ 116) ((i : Int), bestH (σ 116) aw i (ruleF (σ 116) rd aw i) j) := ⟨⟨by show 0 ≤ (i : Int); omega, by show (i : Int) < σ 116 4; omega⟩, hbr⟩
                  refine s_copiedBy (x := ((i : Int), (j : Int))) (R := ruleF (σ 116) rd aw i) (by omega) hT6 (by rw [e6]; exact hx1) (by rw [e6]; exact hRV.mem) (by rw [e6]; exact hR) (fun τ1 hF1 => ?_)
                  have e7 : τ1 116 = σ 116 := by rw [hF1.one (by decide), e6]
                  have hR1 : MRow τ1 (gM (σ 116)) (ruleF (σ 116) rd aw i) := hR.fr (hF1.one (by decide)) (hF1.one (by decide)) (hF1.one (by decide)) (hF1.one (by decide)) (hF1.one (by decide))
                  refine s_copiedBy (x := ((i : Int), bestH (σ 116) aw i (ruleF (σ 116) rd aw i) j)) (R := ruleF (σ 116) rd aw i) (by omega) (by rw [e7]; exact hT) (by rw [e7]; exact hx2) (by rw [e7]; exact hRV.mem) (by rw [e7]; exact hR1) (fun τ2 hF2 => ?_)
                  have hR2 : MRow τ2 (gM (σ 116)) (ruleF (σ 116) rd aw i) := hR1.fr (hF2.one (by decide)) (hF2.one (by decide)) (hF2.one (by decide)) (hF2.one (by decide)) (hF2.one (by decide))
                  have hF3 : Fr whyS σ τ2 := (hF.tr (hF1.wk (by decide))).tr (hF2.wk (by decide))
                  have hK3 : keep [22, 23] σ τ2 := (hK.tr (keep.of (hF1.one (by decide)))).tr (keep.of (hF2.one (by decide)))
                  rw [e6, e7]
                  have := n2 τ2 hF3 hK3 hR2
                  refine ⟨fun hle => ?_, fun hlt => ?_⟩
                  · rw [if_neg (fun z => z.2.2.elim eb (fun y => absurd y (Int.not_lt.mpr hle)))] at this
                    exact this
                  · rw [if_pos ⟨ea, er, Or.inr hlt⟩] at this
                    exact this
        exact inner (σ 116 2).toNat 0 τ (by omega) hF hK hR
      · have e1 := bt_not e
        have := nx o4 o5 τ hF hK
        rw [if_pos (Or.inl e1)] at this
        rw [wid (x := (i : Int) + 1) (by omega) (by omega)]; exact this hR
  refine c_Mod_laysRule (b_Mod_laysRule_0 (by omega) (s_isNone (g := gM (σ 116)) (fun τ hF hK hR => ?_)))
  exact loop (σ 116 4).toNat 0 _ _ τ (by omega) (hF.wk (by decide)) hK hR
end
