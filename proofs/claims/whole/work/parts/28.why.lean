/-! the reference: a letter comes into the row, or why not -/
/-- the hands awake, as the reference reckons them -/
noncomputable def awM (T : Int → Int) : Int := ian (2 ^ (T 2).toNat - 1) (ixo (T 81) (-1))
def whyS : List Nat := [115, 120, 121, 122, 123, 124, 125]
theorem keep.rf {S : List Int} {σ : Mem} : keep S σ σ := fun _ _ => rfl
theorem keep.tr {S : List Int} {σ τ υ : Mem} (h : keep S σ τ) (g : keep S τ υ) : keep S σ υ := fun k hk => (g k hk).trans (h k hk)
theorem keep.of {S : List Int} {σ τ : Mem} (h : τ 115 = σ 115) : keep S σ τ := fun k _ => by rw [h]
theorem ior_i64 {a b : Int} (ha : 0 ≤ a ∧ a < 64) (hb : 0 ≤ b ∧ b < 64) : i64 (ior a b) := i32_64 (ior_i32 a b)
variable {E : EN} {d : Nat} {σ : Mem} {R : RL}
theorem s_whyLast {K : Int → Mem → Prop} {v : Int} (hd : 5 ≤ d) (hT : MT (σ 116)) (hrd : 0 ≤ σ 116 79 ∧ σ 116 79 < 64) (haw : i64 (awM (σ 116))) (hRV : RV (σ 116) R) (hR : MRow σ (gM (σ 116)) R)
    (q : ∀ τ : Mem, Fr whyS σ τ → keep [22, 23] σ τ → MRow τ (gM (σ 116)) (takeF (σ 116) (σ 116 79) (awM (σ 116)) R v).2 → K (takeF (σ 116) (σ 116 79) (awM (σ 116)) R v).1 τ) : CI E y_Mod_whyLast d [vr 115, vl v] σ K := by
  have T4 := hT.2.2.2.1
  have T2 := hT.2.1
  have tk := (RV.cnt hT hRV).1
  have no1 : ¬ (0 ≤ v ∧ v < 30 ∧ v % 10 < σ 116 4 ∧ v / 10 < σ 116 2) → K 1 σ := by
    intro hn
    have e : takeF (σ 116) (σ 116 79) (awM (σ 116)) R v = (1, R) := if_pos hn
    have := q σ Fr.rf keep.rf; rw [e] at this; exact this hR
  refine c_Mod_whyLast (b_Mod_whyLast_0 (by omega) (s_within (fun hv => ⟨fun z => absurd z (by decide), fun _ => ?_⟩) (fun hv => ⟨fun _ => no1 (by omega), fun z => absurd rfl z⟩)))
  have h0 : 0 ≤ v := hv.1
  rw [wid (x := v) (by omega) (by omega), Int.tmod_eq_emod_of_nonneg h0, Int.tdiv_eq_ediv_of_nonneg h0, wid64 (x := v / 10) (by omega) (by omega), wid (x := v / 10) (by omega) (by omega)]
  refine s_isLetter (by omega) T4 (fun hk => ⟨fun z => absurd z (by decide), fun _ => ?_⟩) (fun hk => ⟨fun _ => no1 (by omega), fun z => absurd rfl z⟩)
  refine s_isHand (by omega) T2 (fun hh => ⟨fun _ => ?_, fun z => absurd z (by decide)⟩) (fun hh => ⟨fun z => absurd rfl z, fun _ => no1 (by omega)⟩)
  have yes : (0 ≤ v ∧ v < 30 ∧ v % 10 < σ 116 4 ∧ v / 10 < σ 116 2) := ⟨h0, by omega, hk.2, hh.2⟩
  have no2 : (bt (σ 116 79) (v % 10) = 1 ∨ bt (tkn R) (v % 10) = 1 ∨ bt (awM (σ 116)) (v / 10) = 0 ∨ bt (σ 116 (27 + v / 10)) (σ 116 (43 + v % 10)) = 0) → K 2 σ := by
    intro hc
    have e : takeF (σ 116) (σ 116 79) (awM (σ 116)) R v = (2, R) := by unfold takeF; rw [if_neg (fun z => z yes), if_pos hc]
    have := q σ Fr.rf keep.rf; rw [e] at this; exact this hR
  rw [hR.2.2.1]
  refine s_isIn (ior_i64 hrd tk) (by omega) ?_
  rw [bior hrd tk (by omega)]
  by_cases hc : bt (σ 116 79) (v % 10) = 1 ∨ bt (tkn R) (v % 10) = 1
  · rw [if_pos hc]
    exact ⟨fun _ => no2 (by omega), fun z => absurd z (by decide)⟩
  rw [if_neg hc]
  refine ⟨fun z => absurd rfl z, fun _ => s_awake T2 (s_isIn haw (by omega) ⟨fun z => no2 (Or.inr (Or.inr (Or.inl z))), fun ha => ?_⟩)⟩
  have hkx : (0 ≤ v % 10 ∧ v % 10 < 6) := by omega
  have hhx : (0 ≤ v / 10 ∧ v / 10 < 3) := by omega
  have t27 := (hT.2.2.2.2.2.2.2.1 (v / 10) hhx.1 hhx.2).1
  have t43 := (hT.2.2.2.2.2.2.2.2.2.1 (v % 10) hk.1 hk.2).2.1
  refine s_reads1 (by omega) hhx hkx (by unfold i32; omega) t43 ⟨fun hr => ?_, fun z => no2 (Or.inr (Or.inr (Or.inr z)))⟩
  have hn2 : ¬ (bt (σ 116 79) (v % 10) = 1 ∨ bt (tkn R) (v % 10) = 1 ∨ bt (awM (σ 116)) (v / 10) = 0 ∨ bt (σ 116 (27 + v / 10)) (σ 116 (43 + v % 10)) = 0) := by
    intro z
    rcases z with z | z | z | z
    · exact hc (Or.inl z)
    · exact hc (Or.inr z)
    · exact ha z
    · exact hr z
  have hb0 : bt (tkn R) (v % 10) = 0 := by rcases bt_01 (tkn R) (v % 10) with e | e; exact e; exact absurd (Or.inr e) hc
  have hxM : inM (σ 116) (v % 10, v / 10) := ⟨⟨by show 0 ≤ v % 10; omega, hk.2⟩, ⟨by show 0 ≤ v / 10; omega, hh.2⟩⟩
  have hRV2 : RV (σ 116) ((v % 10, v / 10) :: R) := ⟨hxM, hb0, hRV⟩
  refine s_comesLast (x := (v % 10, v / 10)) (by omega) hT hxM hRV.mem hR (RV.lt hT hRV hkx hb0) (fun τ hF hK hM => ?_)
  have e6 : τ 116 = σ 116 := hF 116 (by decide)
  have hT2 : MT (τ 116) := by rw [e6]; exact hT
  refine s_mendedBy (R := (v % 10, v / 10) :: R) (by omega) hT2 (by rw [e6]; exact hRV2.mem) (by rw [e6]; exact hM) (fun υ o hU _ _ => ?_)
  have u6 : υ 116 = σ 116 := by rw [hU 116 (by decide), e6]
  have u115 : υ 115 = τ 115 := hU 115 (by decide)
  have hM2 : MRow υ (gM (σ 116)) ((v % 10, v / 10) :: R) := hM.fr u115 (hU 121 (by decide)) (hU 122 (by decide)) (hU 123 (by decide)) (hU 124 (by decide))
  have hK2 : keep [22, 23] σ υ := hK.tr (keep.of u115)
  have hF2 : Fr whyS σ υ := (hF.wk (by decide)).tr (hU.wk (by decide))
  rw [u6, e6]
  refine ⟨fun hgt => ?_, fun hle => ?_⟩
  · have e : takeF (σ 116) (σ 116 79) (awM (σ 116)) R v = (3, R) := by unfold takeF; rw [if_neg (fun z => z yes), if_neg hn2, if_pos hgt]
    refine s_goesLast (x := (v % 10, v / 10)) hkx (fun y hy => (inM6 hT (hRV.mem y hy)).1) hb0 hM2 (fun ω hO hK3 hM3 => ?_)
    have := q ω (hF2.tr (hO.wk (by decide))) (hK2.tr hK3); rw [e] at this; exact this hM3
  · have e : takeF (σ 116) (σ 116 79) (awM (σ 116)) R v = (0, (v % 10, v / 10) :: R) := by unfold takeF; rw [if_neg (fun z => z yes), if_neg hn2, if_neg (by omega)]
    have := q υ hF2 hK2; rw [e] at this; exact this hM2
