/-! when, byRule, rule, ruleBy, slept, sleeper -/
theorem RowA.op {σ τ : Mem} {a b c e a2 b2 c2 e2 : Nat} {g : GG} : ∀ {R : RL}, RowA σ a b c e g R → RowA τ a2 b2 c2 e2 g R → ∀ p : Int, 0 ≤ p → p < R.length → σ c p = τ c2 p
  | [], _, _, p, h0, h => absurd h (by simp only [List.length_nil]; omega)
  | x :: R, h1, h2, p, h0, h => by
    by_cases q : p = R.length
    · subst q; rw [h1.2.2.1, h2.2.2.1]
    · exact RowA.op h1.2.2.2.2 h2.2.2.2.2 p h0 (by simp only [List.length_cons] at h; omega)
theorem md_eq {g : GG} {R : RL} {o o2 u v : Int → Int} (h : OrdOK o (copAt g R) R.length) (h2 : OrdOK o2 (copAt g R) R.length) (hu : ∀ i : Nat, (i : Int) < R.length → u (o i) = endT (copAt g R) (fun p => g.2.1 (kAt R p)) o (i + 1)) (hv : ∀ i : Nat, (i : Int) < R.length → v (o2 i) = endT (copAt g R) (fun p => g.2.1 (kAt R p)) o2 (i + 1)) {p : Int} (hp : 0 ≤ p ∧ p < R.length) : u p = v p := by
  obtain ⟨i, i0, i1, i2⟩ := h.2.2 p hp.1 hp.2
  have e := OrdOK.uniq h h2 i.toNat i (by omega) i1
  have a := hu i.toNat (by omega)
  have b := hv i.toNat (by omega)
  rw [show ((i.toNat : Nat) : Int) = i by omega] at a b
  rw [i2] at a
  rw [← e, i2] at b
  rw [a, b]
  exact endT_congr (fun j j0 j1 => OrdOK.uniq h h2 j.toNat j (by omega) (by omega))
section
variable {E : EN} {d : Nat} {σ : Mem} {T : Int → Int}
theorem t_mendedBy {K : Int → Mem → Prop} {R : RL} (hd : 3 ≤ d) (hT : MT T) (hX : TX T (σ 116)) (hRV : RV T R) (hR : MRow σ (gM T) R) (q : ∀ (τ : Mem) (o : Int → Int), Fr [120, 125] σ τ → OrdOK o (copAt (gM T) R) R.length → (∀ i : Nat, (i : Int) < R.length → τ 125 (o i) = endT (copAt (gM T) R) (fun p => (gM T).2.1 (kAt R p)) o (i + 1)) → K (endV (gM T) R) τ) : CI E y_Mod_mendedBy d [vr 115] σ K := by
  have i6 := in63.of hT hRV
  have ec : copAt (gM (σ 116)) R = copAt (gM T) R := funext fun p => hX.ca hT i6 p
  have em : (fun p => mdF (σ 116) (kAt R p)) = (fun p => mdF T (kAt R p)) := funext fun p => (hX.F hT (x := 0) (kAt6 i6 p) (by omega)).2.2.1
  refine s_mendedBy (R := R) hd (hX.mt hT) (hX.rv hRV).mem (hX.MR hT i6 hR) (fun τ o hF ho hv => ?_)
  rw [ec] at ho hv
  rw [em] at hv
  rw [hX.ev hT i6]
  exact q τ o hF ho hv
/-- the last ones go, till m are left -/
theorem s_when67 {K : Int → Mem → Prop} {a2 a3 : Int} (hd : 4 ≤ d) (hT : MT T) (ha : 0 ≤ a2 ∧ a2 < 6) : ∀ (m : Nat) (R : RL) (τ : Mem) (o1 o4 : Option AV), (R.length : Int) = a2 + 1 + m → RV T R → MRow τ (gM T) R → TX T (τ 116) → (∀ (υ : Mem) (o : Int → Int), Fr [115, 120, 125] τ υ → keep [22, 23] τ υ → MRow υ (gM T) (suf R (a2.toNat + 1)) → OrdOK o (copAt (gM T) (suf R (a2.toNat + 1))) (suf R (a2.toNat + 1)).length → (∀ i : Nat, (i : Int) < (suf R (a2.toNat + 1)).length → υ 125 (o i) = endT (copAt (gM T) (suf R (a2.toNat + 1))) (fun p => (gM T).2.1 (kAt (suf R (a2.toNat + 1)) p)) o (i + 1)) → (a3 = 0 → K (υ 123 a2) υ) ∧ (a3 = 1 → K (υ 124 a2) υ) ∧ (a3 ≠ 0 → a3 ≠ 1 → K (υ 125 a2) υ)) → Z E y_Mod_when d 67 [some (vr 115), o1, some (vi a2), some (vi a3), o4] [] τ (qi K) := by
  intro m
  induction m with
  | zero =>
    intro R τ o1 o4 hl hRV hR hX q
    have es : suf R (a2.toNat + 1) = R := by rw [show a2.toNat + 1 = R.length by omega]; exact suf_all R
    rw [es] at q
    refine b_Mod_when_67 (a1 := 0) (by omega) ⟨fun _ => t_mendedBy (by omega) hT hX hRV hR (fun υ o hF ho hv => ?_), fun z => ?_⟩
    · have fin := q υ o (hF.wk (by decide)) (keep.of (hF 115 (by decide))) (hR.fr (hF 115 (by decide)) (hF 121 (by decide)) (hF 122 (by decide)) (hF 123 (by decide)) (hF 124 (by decide))) ho hv
      exact ⟨fun n0 => ⟨fun n1 => ⟨ha, fin.2.2 n0 n1⟩, fun n1 => ⟨ha, fin.2.1 n1⟩⟩, fun n0 => ⟨ha, fin.1 n0⟩⟩
    · rw [hR.1, wid (by omega) (by omega)] at z; omega
  | succ m ih =>
    intro R τ o1 o4 hl hRV hR hX q
    cases R with
    | nil => exact absurd hl (by simp only [List.length_nil]; omega)
    | cons x R =>
      simp only [List.length_cons] at hl
      rw [suf_cons (by omega)] at q
      refine b_Mod_when_67 (a1 := 0) (by omega) ⟨fun z => ?_, fun _ => s_goesLast (x := x) (inM6 hT hRV.1).1 (fun y hy => (inM6 hT (hRV.2.2.mem y hy)).1) hRV.2.1 hR (fun τ2 hF hK hR2 => ?_)⟩
      · rw [hR.1, wid (by omega) (by omega)] at z; simp only [List.length_cons] at z; omega
      · refine ih R τ2 o1 o4 (by omega) hRV.2.2 hR2 (by rw [hF 116 (by decide)]; exact hX) (fun υ o hF2 hK2 hR3 ho hv => ?_)
        exact q υ o ((hF.wk (by decide)).tr hF2) (hK.tr hK2) hR3 ho hv
end
theorem sp18 : SP18 II := by
  intro E σ t i w hI hR ht hi hw
  obtain ⟨T, f, e6, hT, hH, hP, hc2, hS, hM, hf, hTr, hPa⟩ := hI.ex
  have hTr' : TrayOK (up σ 115 0 0) := hI.thr.2.2.2.2.2.1
  have e0 : ∀ c, c ≠ 115 → up σ 115 0 0 c = σ c := fun c hc => up_cell hc
  refine c_BC_when (b_BC_when_0 (by omega) (s_trayAndWhat (by omega) hTr (fun h => ⟨fun z => absurd z (by decide), fun _ => ?_⟩) (fun h h2 hm => ⟨fun z => absurd z (by decide), fun _ => ?_⟩) (fun h h2 hm => ⟨fun _ => ?_, fun z => absurd rfl z⟩)))
  · exact c_Mod_when (b_Mod_when_0 (by omega) (s_within (fun z => ⟨fun _ => s_noTr (by omega) hTr' (fun _ => ⟨fun z => absurd z (by decide), fun _ => ⟨rfl, hI.thr⟩⟩) (fun z1 _ => by omega) (fun z1 _ => by omega), fun y => absurd y (by decide)⟩) (fun z => ⟨fun y => absurd rfl y, fun _ => ⟨rfl, hI.thr⟩⟩)))
  · exact c_Mod_when (b_Mod_when_0 (by omega) (s_within (fun z => ⟨fun _ => s_noTr (by omega) hTr' (fun z => absurd h z) (fun _ _ => ⟨fun z => absurd z (by decide), fun _ => ⟨rfl, hI.thr⟩⟩) (fun _ z => absurd hm (by rw [← e0 130 (by decide)]; exact z.ne)), fun y => absurd y (by decide)⟩) (fun z => by omega)))
  · have b := hm.2.2.2.1
    have M7 : ¬ (0 ≤ i ∧ i < σ (102 + 2 * t.toNat) 1) → CI E y_Mod_when 400 [vr 115, vi t, vi i, vi w] σ (fun y υ => -7 = y ∧ II υ) := by
      intro h0
      refine c_Mod_when (b_Mod_when_0 (by omega) (s_within (fun z => ⟨fun _ => s_noTr (by omega) hTr' (fun z => absurd h z) (fun _ z => absurd z (by rw [e0 130 (by decide)]; exact hm.ne)) (fun _ _ => ⟨fun _ => ⟨h, ?_⟩, fun z => absurd rfl z⟩), fun y => absurd y (by decide)⟩) (fun z => by omega)))
      rw [e0 131 (by decide), hm.2.2.1, wid (by omega) (by omega)]
      exact s_within (fun z => absurd z (by omega)) (fun z => ⟨fun y => absurd rfl y, fun _ => ⟨rfl, hI.thr⟩⟩)
    refine ⟨fun a => M7 (by omega), fun a => ⟨h, fun c => ?_, fun c => M7 (by omega)⟩⟩
    rw [wid (x := i + 1) (by omega) (by omega)]
    refine s_Doer_layRowM (n := i + 1) (by omega) stg50 hT hP hc2 hS h b (by omega) (by omega) (fun τ hF hRC h3 _ hMd => ?_)
    rw [hm.cg T (f 0) (awo T (f 2)) (by omega)] at hRC h3 hMd
    have hRV := layS_RV (T := T) (rd := f 0) (aw := awo T (f 2)) (num := fun i => σ 132 (40 * t + i)) (i + 1).toNat
    have ei : (i + 1).toNat = i.toNat + 1 := by omega
    rw [ei] at hRC h3 hRV hMd
    have M : ∀ (τ2 : Mem) (x : Int), Fr rowD σ τ2 → ((layS T (f 0) (awo T (f 2)) (fun i => σ 132 (40 * t + i)) (i.toNat + 1)).1 ≠ 0 → x = -1) → ((layS T (f 0) (awo T (f 2)) (fun i => σ 132 (40 * t + i)) (i.toNat + 1)).1 = 0 → i < 6 ∧ ∀ (υ : Mem) (o : Int → Int), MRow υ (gM T) (layS T (f 0) (awo T (f 2)) (fun i => σ 132 (40 * t + i)) (i.toNat + 1)).2 → OrdOK o (copAt (gM T) (layS T (f 0) (awo T (f 2)) (fun i => σ 132 (40 * t + i)) (i.toNat + 1)).2) (layS T (f 0) (awo T (f 2)) (fun i => σ 132 (40 * t + i)) (i.toNat + 1)).2.length → (∀ j : Nat, (j : Int) < (layS T (f 0) (awo T (f 2)) (fun i => σ 132 (40 * t + i)) (i.toNat + 1)).2.length → υ 125 (o j) = endT (copAt (gM T) (layS T (f 0) (awo T (f 2)) (fun i => σ 132 (40 * t + i)) (i.toNat + 1)).2) (fun p => (gM T).2.1 (kAt (layS T (f 0) (awo T (f 2)) (fun i => σ 132 (40 * t + i)) (i.toNat + 1)).2 p)) o (j + 1)) → (w = 0 → x = υ 123 i) ∧ (w = 1 → x = υ 124 i) ∧ (w ≠ 0 → w ≠ 1 → x = υ 125 i)) → CI E y_Mod_when 400 [vr 115, vi t, vi i, vi w] τ2 (fun y υ => x = y ∧ II υ) := by
      intro τ2 x hF2 x0 x1
      have g : ∀ c, c ∉ rowD → c ≠ 115 → up τ2 115 0 0 c = σ c := fun c a1 a2 => by rw [up_cell a2, hF2 c a1]
      refine c_Mod_when (b_Mod_when_0 (by omega) (s_within (fun z => ⟨fun _ => ?_, fun y => absurd y (by decide)⟩) (fun z => by omega)))
      refine s_noTray (by omega) (fun z => absurd h z) (fun _ z => absurd z (by rw [g 130 (by decide) (by decide)]; exact hm.ne)) (fun _ _ => ⟨fun _ => ⟨h, ?_⟩, fun z => absurd rfl z⟩)
      rw [g 131 (by decide) (by decide), hm.2.2.1, wid (by omega) (by omega)]
      refine s_within (fun z => ⟨fun _ => ?_, fun y => absurd y (by decide)⟩) (fun z => by omega)
      refine t_laysTold (n := σ (102 + 2 * t.toNat) 1) (by omega) hT (hM.fr (g 116 (by decide) (by decide))) hf h (by rw [g 131 (by decide) (by decide)]; exact hm.2.2.1.symm) b (fun τ3 hF3 hK3 hR3 h25 => ?_)
      rw [g 132 (by decide) (by decide)] at hR3
      rw [g 132 (by decide) (by decide)]
      have hF4 : Fr scrt σ τ3 := ((hF2.wk (by decide)).tr (Fr.rf.up (by decide))).tr (hF3.wk (by decide))
      have k2 : keep [0, 22, 23, 25, 35] σ τ3 := fun k hk => by
        have hk' : k ≠ 0 ∧ k ∉ [22, 23, 25] := by simp at hk ⊢; omega
        rw [hK3 k hk'.2, up_nk hk'.1, hF2 115 (by decide)]
      have fin : II τ3 := hI.m2 hF4 k2
      have ec : (if (layS T (f 0) (awo T (f 2)) (fun i => σ 132 (40 * t + i)) (σ (102 + 2 * t.toNat) 1).toNat).1 = 0 then σ (102 + 2 * t.toNat) 1 else stpG (fun j => (layS T (f 0) (awo T (f 2)) (fun i => σ 132 (40 * t + i)) j).1) (σ (102 + 2 * t.toNat) 1).toNat) = cnL T (f 0) (awo T (f 2)) (fun i => σ 132 (40 * t + i)) (σ (102 + 2 * t.toNat) 1).toNat := by
        unfold cnL; rw [show (((σ (102 + 2 * t.toNat) 1).toNat : Nat) : Int) = σ (102 + 2 * t.toNat) 1 by omega]
      rw [ec]
      have key := cnL_lt (T := T) (rd := f 0) (aw := awo T (f 2)) (num := fun i => σ 132 (40 * t + i)) (n := (σ (102 + 2 * t.toNat) 1).toNat) (i := i.toNat) (by omega)
      rw [show ((i.toNat : Nat) : Int) = i by omega] at key
      obtain ⟨c1, c2, c3⟩ := cnL_ok (T := T) (rd := f 0) (aw := awo T (f 2)) (num := fun i => σ 132 (40 * t + i)) (n := (σ (102 + 2 * t.toNat) 1).toNat)
      refine ⟨fun hlt => ?_, fun hge => ⟨x0 (fun z => by have := key.mpr z; omega), fin⟩⟩
      have hz := key.mp hlt
      obtain ⟨i6, x2⟩ := x1 hz
      have hsuf := (layS_suf (m := i.toNat + 1) _ (by omega) c3).1
      have hlen := layS_len _ c3
      rw [c2] at hR3
      refine s_when67 (T := T) (by omega) hT (by omega) (cnL T (f 0) (awo T (f 2)) (fun i => σ 132 (40 * t + i)) (σ (102 + 2 * t.toNat) 1).toNat - (i + 1)).toNat _ τ3 _ _ (by rw [hlen]; omega) (layS_RV _) hR3 (by rw [hF3 116 (by decide), g 116 (by decide) (by decide), e6]; exact TX.rf) (fun υ o hFu hKu hRu ho hv => ?_)
      rw [hsuf] at hRu ho hv
      have x3 := x2 υ o hRu ho hv
      have fin2 : II υ := fin.same (hFu.wk (by decide)) (fun k hk => hKu k (k115 hk).2)
      exact ⟨fun n0 => ⟨x3.1 n0, fin2⟩, fun n1 => ⟨x3.2.1 n1, fin2⟩, fun n0 n1 => ⟨x3.2.2 n0 n1, fin2⟩⟩
    rw [h3]
    refine ⟨fun hne => M τ _ hF (fun _ => rfl) (fun z => absurd z hne), fun he => ?_⟩
    have hl := layS_len _ he
    have hl6 := hRC.2.1
    rw [hRC.1, hl]
    refine ⟨fun z => absurd z (by omega), fun _ => ⟨fun i6 => ?_, fun z => absurd z (by omega)⟩⟩
    have hv := hMd he
    refine ⟨fun n0 => ⟨fun n1 => ⟨by omega, M τ _ hF (fun z => absurd he z) (fun _ => ⟨i6, fun υ o hRu ho hu => ⟨fun z => absurd z n0, fun z => absurd z n1, fun _ _ => ?_⟩⟩)⟩, fun n1 => ⟨by omega, M τ _ hF (fun z => absurd he z) (fun _ => ⟨i6, fun υ o hRu ho hu => ⟨fun z => absurd z n0, fun _ => ?_, fun _ z => absurd n1 z⟩⟩)⟩⟩, fun n0 => ⟨by omega, M τ _ hF (fun z => absurd he z) (fun _ => ⟨i6, fun υ o hRu ho hu => ⟨fun _ => ?_, fun z => by omega, fun z => absurd n0 z⟩⟩)⟩⟩
    · exact md_eq (u := τ 78) (v := υ 125) hRC.2.2.2.2.2.2 ho hv hu (by rw [hl]; omega)
    · have p1 := (hRC.2.2.2.1.at i (by omega) (by rw [hl]; omega)).2.2
      have p2 := (hRu.2.2.2.at i (by omega) (by rw [hl]; omega)).2.2
      rw [p2]; exact p1
    · exact RowA.op hRC.2.2.2.1 hRu.2.2.2 i (by omega) (by rw [hl]; omega)
