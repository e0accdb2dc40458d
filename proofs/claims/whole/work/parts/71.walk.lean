/-! the reference's walk over all rows -/
/-- R is no better than B -/
def noB (T : Int → Int) (B R : RL) : Prop := wor T R < wor T B ∨ wor T R = wor T B ∧ (B.length < R.length ∨ B.length = R.length ∧ (R = B ∨ lexR B R))
/-- the best of the rows V that were seen -/
def BSt (τ : Mem) (T : Int → Int) (V : RL → Prop) : Prop := (∃ B, V B ∧ in63 B ∧ τ 115 28 = wor T B ∧ τ 115 27 = B.length ∧ τ 115 29 = endV (gM T) B ∧ (∀ i : Int, 0 ≤ i → i < B.length → τ 127 i = 10 * hAt B i + kAt B i) ∧ ∀ R, V R → noB T B R) ∨ ((∀ R, ¬ V R) ∧ τ 115 28 = -1)
def LSt (τ : Mem) (T : Int → Int) (wf : Int) (V : RL → Prop) : Prop := τ 115 34 ≤ 1000 ∧ (τ 115 34 = 1000 ∨ ∃ R, V R ∧ wf ≤ wor T R ∧ endV (gM T) R = τ 115 34) ∧ ∀ R, V R → wf ≤ wor T R → τ 115 34 ≤ endV (gM T) R
def GBp (τ : Mem) (rd A noon wf : Int) : Prop := τ 115 30 = rd ∧ τ 115 31 = A ∧ τ 115 32 = noon ∧ τ 115 33 = wf
theorem BSt.cg {τ τ2 : Mem} {T : Int → Int} {V V2 : RL → Prop} (h : BSt τ T V) (e28 : τ2 115 28 = τ 115 28) (e27 : τ2 115 27 = τ 115 27) (e29 : τ2 115 29 = τ 115 29) (e127 : τ2 127 = τ 127) (hV : ∀ R, V2 R ↔ V R) : BSt τ2 T V2 := by
  rcases h with ⟨B, b1, b2, b3, b4, b5, b6, b7⟩ | ⟨b1, b2⟩
  · exact Or.inl ⟨B, (hV B).mpr b1, b2, by rw [e28]; exact b3, by rw [e27]; exact b4, by rw [e29]; exact b5, by rw [e127]; exact b6, fun R hR => b7 R ((hV R).mp hR)⟩
  · exact Or.inr ⟨fun R hR => b1 R ((hV R).mp hR), by rw [e28]; exact b2⟩
theorem LSt.cg {τ τ2 : Mem} {T : Int → Int} {wf : Int} {V V2 : RL → Prop} (h : LSt τ T wf V) (e : τ2 115 34 = τ 115 34) (hV : ∀ R, V2 R ↔ V R) : LSt τ2 T wf V2 := by
  refine ⟨by rw [e]; exact h.1, ?_, fun R hR hw => by rw [e]; exact h.2.2 R ((hV R).mp hR) hw⟩
  rcases h.2.1 with z | ⟨R, a, b, c⟩
  · exact Or.inl (by rw [e]; exact z)
  · exact Or.inr ⟨R, (hV R).mpr a, b, by rw [e]; exact c⟩
theorem wor_b {T : Int → Int} (hT : MT T) : ∀ {R : RL}, RV T R → 0 ≤ wor T R ∧ wor T R ≤ 99 * R.length
  | [], _ => by simp [wor]
  | x :: R, h => by
    have ih := wor_b hT h.2.2
    have := (hT.2.2.2.2.2.2.2.2.2.1 x.1 h.1.1.1 h.1.1.2).2.2.2.1
    simp only [wor, List.length_cons]
    omega
theorem RO.tl {T : Int → Int} {A : Int} {x : Int × Int} {R : RL} (h : RO T A (x :: R)) : RO T A R := ⟨h.1.2.2, fun y hy => h.2 y (List.mem_cons_of_mem _ hy)⟩
theorem RO.spl {T : Int → Int} {A : Int} {R : RL} : ∀ {L : RL}, RO T A (L ++ R) → RO T A R
  | [], h => h
  | _ :: _, h => RO.spl h.tl
theorem CanB.spl {T : Int → Int} (hT : MT T) {rd A noon : Int} {L R : RL} (h : CanB T rd A noon (L ++ R)) : CanB T rd A noon R :=
  ⟨h.1.spl, fun x hx => h.2.1 x (List.mem_append_right _ hx), Int.le_trans (endV_app (Rb_of hT h.1.1.mem)) h.2.2⟩
theorem suf_app {L R : RL} : suf (L ++ R) R.length = R := by
  unfold suf
  rw [List.length_append, show L.length + R.length - R.length = L.length by omega, List.drop_left]
theorem at_app {x : Int × Int} {R : RL} : ∀ {L : RL}, kAt (L ++ x :: R) R.length = x.1 ∧ hAt (L ++ x :: R) R.length = x.2
  | [] => ⟨by show (if (R.length : Int) = R.length then _ else _) = _; rw [if_pos rfl], by show (if (R.length : Int) = R.length then _ else _) = _; rw [if_pos rfl]⟩
  | y :: L => by
    have ih := at_app (x := x) (R := R) (L := L)
    have hl : ¬ (R.length : Int) = ((L ++ x :: R).length : Nat) := by rw [List.length_append, List.length_cons]; omega
    refine ⟨?_, ?_⟩
    · show (if (R.length : Int) = ((L ++ x :: R).length : Nat) then _ else _) = _; rw [if_neg hl]; exact ih.1
    · show (if (R.length : Int) = ((L ++ x :: R).length : Nat) then _ else _) = _; rw [if_neg hl]; exact ih.2
theorem lex_br {x y : Int × Int} {R L1 L2 : RL} (h : 10 * y.2 + y.1 < 10 * x.2 + x.1) : lexR (L1 ++ y :: R) (L2 ++ x :: R) := by
  refine ⟨R.length, by rw [List.length_append, List.length_cons]; omega, by rw [List.length_append, List.length_cons]; omega, ?_, ?_⟩
  · have e1 : L1 ++ y :: R = (L1 ++ [y]) ++ R := by simp
    have e2 : L2 ++ x :: R = (L2 ++ [x]) ++ R := by simp
    rw [e1, e2, suf_app, suf_app]
  · rw [(at_app (L := L1)).1, (at_app (L := L1)).2, (at_app (L := L2)).1, (at_app (L := L2)).2]; exact h
def gbC : List Nat := [115, 120, 121, 122, 123, 124, 125, 127]
def gbK : List Int := [22, 23, 27, 28, 29, 34]
section
variable {E : EN} {T : Int → Int} {rd A noon wf : Int}
set_option maxHeartbeats 2000000 in
theorem t_goesBest (hT : MT T) (hrd : 0 ≤ rd ∧ rd < 64) (hA : 0 ≤ A ∧ A < 8) : ∀ (m : Nat) {d : Nat} {σ : Mem} {R : RL} {V : RL → Prop} {K : Mem → Prop}, R.length + m = 6 → 6 + m ≤ d → σ 116 = T → GBp σ rd A noon wf → RO T A R → (∀ x ∈ R, bt rd x.1 = 0) → MRow σ (gM T) R → BSt σ T V → LSt σ T wf V → (∀ R1, V R1 → ∀ L : RL, (L ++ R).length = R1.length → lexR R1 (L ++ R)) → (∀ τ, Fr gbC σ τ → keep gbK σ τ → MRow τ (gM T) R → BSt τ T (fun Q => V Q ∨ ∃ L, Q = L ++ R ∧ CanB T rd A noon Q) → LSt τ T wf (fun Q => V Q ∨ ∃ L, Q = L ++ R ∧ CanB T rd A noon Q) → K τ) → CV E y_Mod_goesBest d [vr 115, vi (wor T R)] σ K := by
  intro m
  induction m using Nat.strongRecOn with
  | ind m IH =>
    intro d σ R V K hm hd e6 hG hRO hun hR hB hL hord q
    have t2 := hT.2.1
    have t4 := hT.2.2.2.1
    have wb := wor_b hT hRO.1
    have hX : TX T (σ 116) := by rw [e6]; exact TX.rf
    refine c_Mod_goesBest (b_Mod_goesBest_0 (by omega) (t_mendedBy (by omega) hT hX hRO.1 hR (fun τ1 o hF1 _ _ => ?_)))
    have u115 : τ1 115 = σ 115 := hF1 115 (by decide)
    have hR1 : MRow τ1 (gM T) R := hR.fr u115 (hF1 121 (by decide)) (hF1 122 (by decide)) (hF1 123 (by decide)) (hF1 124 (by decide))
    have hG1 : GBp τ1 rd A noon wf := by unfold GBp at hG ⊢; rw [u115]; exact hG
    have hB1 : BSt τ1 T V := hB.cg (by rw [u115]) (by rw [u115]) (by rw [u115]) (hF1 127 (by decide)) (fun _ => Iff.rfl)
    have hL1 : LSt τ1 T wf V := hL.cg (by rw [u115]) (fun _ => Iff.rfl)
    have f1 : Fr gbC σ τ1 := hF1.wk (by decide)
    have k1 : keep gbK σ τ1 := keep.of u115
    rw [hG1.2.2.1]
    refine ⟨fun hle => ?_, fun hgt => ?_⟩
    · have hCB : CanB T rd A noon R := ⟨hRO, hun, hle⟩
      -- the children, one after the other
      have kids : ∀ (n : Nat) (c : Int) (h : Int) (k : Int) (τ : Mem) (o2 : Option AV), 0 ≤ h → h < T 2 → 0 ≤ k → k ≤ T 4 → n = ((T 2 - h) * 7 - k).toNat → Fr gbC σ τ → keep gbK σ τ → MRow τ (gM T) R → BSt τ T (fun Q => (V Q ∨ Q = R) ∨ ∃ L y, Q = L ++ y :: R ∧ CanB T rd A noon Q ∧ (y.2 < h ∨ y.2 = h ∧ y.1 < k)) → LSt τ T wf (fun Q => (V Q ∨ Q = R) ∨ ∃ L y, Q = L ++ y :: R ∧ CanB T rd A noon Q ∧ (y.2 < h ∨ y.2 = h ∧ y.1 < k)) → Z E y_Mod_goesBest d 133 [some (vr 115), some (vi (wor T R)), o2, some (vi h), some (vi k)] [] τ (qv K) := by
        intro n
        induction n using Nat.strongRecOn with
        | ind n ihn =>
          intro c h k τ o2 h0 h1 k0 k1' hn hF hK hM hBB hLL
          have t6 : τ 116 = T := by rw [hF 116 (by decide), e6]
          have g115 : ∀ j, j ∉ gbK → τ 115 j = σ 115 j := hK
          refine b_Mod_goesBest_133 (by omega) ⟨fun hge => ?_, fun hlt => ?_⟩
          · rw [t6] at hge
            rw [wid (x := h + 1) (by omega) (by omega)]
            have conv : ∀ Q : RL, ((V Q ∨ Q = R) ∨ ∃ L y, Q = L ++ y :: R ∧ CanB T rd A noon Q ∧ (y.2 < h + 1 ∨ y.2 = h + 1 ∧ y.1 < 0)) ↔ ((V Q ∨ Q = R) ∨ ∃ L y, Q = L ++ y :: R ∧ CanB T rd A noon Q ∧ (y.2 < h ∨ y.2 = h ∧ y.1 < k)) := by
              intro Q
              refine or_congr Iff.rfl ⟨fun ⟨L, y, a, b, c⟩ => ⟨L, y, a, b, ?_⟩, fun ⟨L, y, a, b, c⟩ => ⟨L, y, a, b, by omega⟩⟩
              have hy : inM T y := by rw [a] at b; exact (b.1.spl (L := L)).1.1
              have := hy.1
              omega
            refine b_Mod_goesBest_120 ⟨fun hdone => ?_, fun hmore => ?_⟩
            · rw [t6] at hdone
              have all : ∀ Q : RL, (V Q ∨ ∃ L, Q = L ++ R ∧ CanB T rd A noon Q) ↔ ((V Q ∨ Q = R) ∨ ∃ L y, Q = L ++ y :: R ∧ CanB T rd A noon Q ∧ (y.2 < h ∨ y.2 = h ∧ y.1 < k)) := by
                intro Q
                constructor
                · rintro (z | ⟨L, a, b⟩)
                  · exact Or.inl (Or.inl z)
                  · rcases List.eq_nil_or_concat L with e | ⟨L2, y, e⟩
                    · subst e; exact Or.inl (Or.inr a)
                    · subst e
                      have a2 : Q = L2 ++ y :: R := by rw [a]; simp
                      refine Or.inr ⟨L2, y, a2, b, ?_⟩
                      have hy : inM T y := by rw [a2] at b; exact (b.1.spl (L := L2)).1.1
                      have hy1 := hy.1
                      have hy2 := hy.2
                      omega
                · rintro ((z | z) | ⟨L, y, a, b, _⟩)
                  · exact Or.inl z
                  · subst z; exact Or.inr ⟨[], rfl, hCB⟩
                  · exact Or.inr ⟨L ++ [y], by rw [a]; simp, b⟩
              exact q τ hF hK hM (hBB.cg rfl rfl rfl rfl all) (hLL.cg rfl all)
            · rw [t6] at hmore
              exact ihn (((T 2 - (h + 1)) * 7 - 0).toNat) (by omega) 0 (h + 1) 0 τ _ (by omega) hmore (by omega) (by omega) rfl hF hK hM (hBB.cg rfl rfl rfl rfl conv) (hLL.cg rfl conv)
          · rw [t6] at hlt
            have nx : ∀ (τ2 : Mem) (o2 : Option AV), Fr gbC σ τ2 → keep gbK σ τ2 → MRow τ2 (gM T) R → BSt τ2 T (fun Q => (V Q ∨ Q = R) ∨ ∃ L y, Q = L ++ y :: R ∧ CanB T rd A noon Q ∧ (y.2 < h ∨ y.2 = h ∧ y.1 < k + 1)) → LSt τ2 T wf (fun Q => (V Q ∨ Q = R) ∨ ∃ L y, Q = L ++ y :: R ∧ CanB T rd A noon Q ∧ (y.2 < h ∨ y.2 = h ∧ y.1 < k + 1)) → Z E y_Mod_goesBest d 133 [some (vr 115), some (vi (wor T R)), o2, some (vi h), some (vi (k + 1))] [] τ2 (qv K) := fun τ2 o2 a b c e f => ihn (((T 2 - h) * 7 - (k + 1)).toNat) (by omega) 0 h (k + 1) τ2 o2 h0 h1 (by omega) (by omega) rfl a b c e f
            have skip : (∀ L, ¬ CanB T rd A noon (L ++ (k, h) :: R)) → ∀ o2, Z E y_Mod_goesBest d 133 [some (vr 115), some (vi (wor T R)), o2, some (vi h), some (vi (w32 (k + 1)))] [] τ (qv K) := by
              intro hno o2
              have conv : ∀ Q : RL, ((V Q ∨ Q = R) ∨ ∃ L y, Q = L ++ y :: R ∧ CanB T rd A noon Q ∧ (y.2 < h ∨ y.2 = h ∧ y.1 < k + 1)) ↔ ((V Q ∨ Q = R) ∨ ∃ L y, Q = L ++ y :: R ∧ CanB T rd A noon Q ∧ (y.2 < h ∨ y.2 = h ∧ y.1 < k)) := by
                intro Q
                refine or_congr Iff.rfl ⟨fun ⟨L, y, a, b, c⟩ => ⟨L, y, a, b, ?_⟩, fun ⟨L, y, a, b, c⟩ => ⟨L, y, a, b, by omega⟩⟩
                by_cases e : y.2 = h ∧ y.1 = k
                · exfalso
                  have ey : y = (k, h) := by rw [← e.1, ← e.2]
                  rw [a, ey] at b; exact hno L b
                · omega
              rw [wid (x := k + 1) (by omega) (by omega)]
              exact nx τ o2 hF hK hM (hBB.cg rfl rfl rfl rfl conv) (hLL.cg rfl conv)
            have e31 : τ 115 31 = A := by rw [g115 31 (by decide)]; exact hG.2.1
            have e30 : τ 115 30 = rd := by rw [g115 30 (by decide)]; exact hG.1
            rw [e31]
            have tk := (RV.cnt hT hRO.1).1
            have t27 := (hT.2.2.2.2.2.2.2.1 h h0 (by omega)).1
            have t43 := (hT.2.2.2.2.2.2.2.2.2.1 k k0 hlt).2.1
            refine s_isIn (by unfold i64; omega) (by omega) ⟨fun ea => skip (fun L b => ?_) _, fun ea => ?_⟩
            · have := ((b.1.spl (L := L)).2 (k, h) List.mem_cons_self).1
              rw [show ((k, h) : Int × Int).2 = h from rfl, ea] at this; exact absurd this (by decide)
            · rw [e30, hM.2.2.1]
              refine s_isIn (ior_i64 hrd tk) (by omega) ?_
              rw [bior hrd tk (by omega)]
              by_cases hc : bt rd k = 1 ∨ bt (tkn R) k = 1
              · rw [if_pos hc]
                refine ⟨fun _ => skip (fun L b => ?_) _, fun z => absurd z (by decide)⟩
                rcases hc with hc | hc
                · have := b.2.1 (k, h) (List.mem_append_right _ List.mem_cons_self)
                  rw [show ((k, h) : Int × Int).1 = k from rfl, hc] at this; exact absurd this (by decide)
                · have := (b.1.spl (L := L)).1.2.1
                  rw [show ((k, h) : Int × Int).1 = k from rfl, hc] at this; exact absurd this (by decide)
              · rw [if_neg hc]
                refine ⟨fun z => absurd rfl z, fun _ => s_reads1 (by omega) (by omega) (by omega) (by rw [t6]; unfold i32; omega) (by rw [t6]; exact t43) ?_⟩
                rw [t6]
                refine ⟨fun er => ?_, fun er => skip (fun L b => ?_) _⟩
                · have hb0 : bt (tkn R) k = 0 := by rcases bt_01 (tkn R) k with e | e; exact e; exact absurd (Or.inr e) hc
                  have hr0 : bt rd k = 0 := by rcases bt_01 rd k with e | e; exact e; exact absurd (Or.inl e) hc
                  have hxM : inM T (k, h) := ⟨⟨k0, hlt⟩, ⟨h0, h1⟩⟩
                  have hRV2 : RV T ((k, h) :: R) := ⟨hxM, hb0, hRO.1⟩
                  have hRO2 : RO T A ((k, h) :: R) := ⟨hRV2, fun y hy => by
                    rcases List.mem_cons.mp hy with rfl | hy
                    · exact ⟨bt_not ea, bt_not er⟩
                    · exact hRO.2 y hy⟩
                  have hl := RV.lt hT hRO.1 (k := k) (by omega) hb0
                  refine s_comesLast (x := (k, h)) (R := R) (by omega) (by rw [t6]; exact hT) (by rw [t6]; exact hxM) (by rw [t6]; exact hRO.1.mem) (by rw [t6]; exact hM) hl (fun τ4 hF4 hK4 hM4 => ?_)
                  rw [t6] at hM4
                  have t7 : τ4 116 = T := by rw [hF4 116 (by decide), t6]
                  have tw := (hT.2.2.2.2.2.2.2.2.2.1 k k0 hlt).2.2.2.1
                  rw [t7, wid (x := 55 + k) (by omega) (by omega), wid (x := wor T R + T (55 + k)) (by omega) (by omega)]
                  refine ⟨by omega, ?_⟩
                  have hFd : Fr gbC σ τ4 := hF.tr (hF4.wk (by decide))
                  have hKd : keep gbK σ τ4 := hK.tr (hK4.wk (by decide))
                  have hG4 : GBp τ4 rd A noon wf := by
                    unfold GBp at hG ⊢
                    rw [hKd 30 (by decide), hKd 31 (by decide), hKd 32 (by decide), hKd 33 (by decide)]; exact hG
                  have hB4 := hBB.cg (τ2 := τ4) (hK4 28 (by decide)) (hK4 27 (by decide)) (hK4 29 (by decide)) (hF4 127 (by decide)) (fun _ => Iff.rfl)
                  have hL4 := hLL.cg (τ2 := τ4) (hK4 34 (by decide)) (fun _ => Iff.rfl)
                  refine IH (m - 1) (by omega) (R := (k, h) :: R) (by simp only [List.length_cons]; omega) (by omega) t7 hG4 hRO2 (fun y hy => by
                    rcases List.mem_cons.mp hy with rfl | hy
                    · exact hr0
                    · exact hun y hy) hM4 hB4 hL4 (fun R1 hR1' L hlen => ?_) (fun τ5 hF5 hK5 hM5 hB5 hL5 => ?_)
                  · rcases hR1' with (z | z) | ⟨L1, y, a, b, c⟩
                    · have e : L ++ (k, h) :: R = (L ++ [(k, h)]) ++ R := by simp
                      rw [e] at hlen ⊢; exact hord R1 z _ hlen
                    · subst z; rw [List.length_append, List.length_cons] at hlen; omega
                    · rw [a]
                      refine lex_br ?_
                      have hy : inM T y := by rw [a] at b; exact (b.1.spl (L := L1)).1.1
                      have := inM6 hT hy
                      show 10 * y.2 + y.1 < 10 * h + k
                      omega
                  · refine s_goesLast (x := (k, h)) (by show 0 ≤ k ∧ k < 6; omega) (fun y hy => (inM6 hT (hRO.1.mem y hy)).1) hb0 hM5 (fun τ6 hF6 hK6 hM6 => ?_)
                    have conv : ∀ Q : RL, ((V Q ∨ Q = R) ∨ ∃ L y, Q = L ++ y :: R ∧ CanB T rd A noon Q ∧ (y.2 < h ∨ y.2 = h ∧ y.1 < k + 1)) ↔ (((V Q ∨ Q = R) ∨ ∃ L y, Q = L ++ y :: R ∧ CanB T rd A noon Q ∧ (y.2 < h ∨ y.2 = h ∧ y.1 < k)) ∨ ∃ L, Q = L ++ (k, h) :: R ∧ CanB T rd A noon Q) := by
                      intro Q
                      constructor
                      · rintro (z | ⟨L, y, a, b, c⟩)
                        · exact Or.inl (Or.inl z)
                        · by_cases e : y.2 = h ∧ y.1 = k
                          · have ey : y = (k, h) := by rw [← e.1, ← e.2]
                            rw [ey] at a; exact Or.inr ⟨L, a, b⟩
                          · exact Or.inl (Or.inr ⟨L, y, a, b, by omega⟩)
                      · rintro ((z | ⟨L, y, a, b, c⟩) | ⟨L, a, b⟩)
                        · exact Or.inl z
                        · exact Or.inr ⟨L, y, a, b, by omega⟩
                        · exact Or.inr ⟨L, (k, h), a, b, Or.inr ⟨rfl, by show k < k + 1; omega⟩⟩
                    rw [wid (x := k + 1) (by omega) (by omega)]
                    exact nx τ6 _ ((hFd.tr hF5).tr (hF6.wk (by decide))) ((hKd.tr hK5).tr (hK6.wk (by decide))) hM6 (hB5.cg (hK6 28 (by decide)) (hK6 27 (by decide)) (hK6 29 (by decide)) (hF6 127 (by decide)) conv) (hL5.cg (hK6 34 (by decide)) conv)
                · have := ((b.1.spl (L := L)).2 (k, h) List.mem_cons_self).2
                  rw [show bt (T (27 + ((k, h) : Int × Int).2)) (T (43 + ((k, h) : Int × Int).1)) = bt (T (27 + h)) (T (43 + k)) from rfl, er] at this; exact absurd this (by decide)
      have none0 : ∀ Q : RL, ((V Q ∨ Q = R) ∨ ∃ L y, Q = L ++ y :: R ∧ CanB T rd A noon Q ∧ (y.2 < 0 ∨ y.2 = 0 ∧ y.1 < 0)) ↔ (V Q ∨ Q = R) := by
        intro Q
        refine ⟨fun z => z.elim id (fun ⟨L, y, a, b, c⟩ => ?_), fun z => Or.inl z⟩
        have hy : inM T y := by rw [a] at b; exact (b.1.spl (L := L)).1.1
        have := hy.1
        have := hy.2
        omega
      have s120 : ∀ (τ : Mem) (o2 o4 : Option AV), Fr gbC σ τ → keep gbK σ τ → MRow τ (gM T) R → BSt τ T (fun Q => V Q ∨ Q = R) → LSt τ T wf (fun Q => V Q ∨ Q = R) → Z E y_Mod_goesBest d 120 [some (vr 115), some (vi (wor T R)), o2, some (vi 0), o4] [] τ (qv K) := by
        intro τ o2 o4 hF hK hM hBB hLL
        have t6 : τ 116 = T := by rw [hF 116 (by decide), e6]
        refine b_Mod_goesBest_120 ⟨fun hdone => ?_, fun hmore => ?_⟩
        · rw [t6] at hdone
          have all : ∀ Q : RL, (V Q ∨ ∃ L, Q = L ++ R ∧ CanB T rd A noon Q) ↔ (V Q ∨ Q = R) := by
            intro Q
            refine or_congr Iff.rfl ⟨fun ⟨L, a, b⟩ => ?_, fun z => ⟨[], z, by rw [z]; exact hCB⟩⟩
            cases L with
            | nil => exact a
            | cons y L =>
              rw [a] at b
              have hy : inM T y := b.1.1.1
              have := hy.2
              omega
          exact q τ hF hK hM (hBB.cg rfl rfl rfl rfl all) (hLL.cg rfl all)
        · rw [t6] at hmore
          exact kids _ 0 0 0 τ _ (by omega) hmore (by omega) (by omega) rfl hF hK hM (hBB.cg rfl rfl rfl rfl none0) (hLL.cg rfl none0)
      have s97 : ∀ (τ : Mem) (o3 o4 : Option AV), Fr gbC σ τ → keep gbK σ τ → MRow τ (gM T) R → BSt τ T (fun Q => V Q ∨ Q = R) → LSt τ T wf V → Z E y_Mod_goesBest d 97 [some (vr 115), some (vi (wor T R)), some (vi (endV (gM T) R)), o3, o4] [] τ (qv K) := by
        intro τ o3 o4 hF hK hM hBB hLL
        have e33 : τ 115 33 = wf := by rw [hK 33 (by decide)]; exact hG.2.2.2
        have u34 : ∀ v, MRow (up τ 115 34 v) (gM T) R := fun v => by
          obtain ⟨h1, h2, h3, h4⟩ := hM
          exact ⟨by rw [up_nk (by decide)]; exact h1, h2, by rw [up_nk (by decide)]; exact h3, h4.congr (fun i _ _ => by rw [up_cell (by decide), up_cell (by decide), up_cell (by decide), up_cell (by decide)]; exact ⟨rfl, rfl, rfl, rfl⟩)⟩
        refine b_Mod_goesBest_97 ?_
        rw [e33]
        refine ⟨fun a => s120 τ _ _ hF hK hM hBB ⟨hLL.1, ?_, fun Q hQ hw => ?_⟩, fun a => ⟨fun b => s120 τ _ _ hF hK hM hBB ⟨hLL.1, ?_, fun Q hQ hw => ?_⟩, fun b => s120 _ _ _ (hF.up (by decide)) (hK.up (by decide)) (u34 _) (hBB.cg (by rw [up_nk (by decide)]) (by rw [up_nk (by decide)]) (by rw [up_nk (by decide)]) (up_cell (by decide)) (fun _ => Iff.rfl)) ⟨?_, ?_, fun Q hQ hw => ?_⟩⟩⟩
        · rcases hLL.2.1 with z | ⟨Q, z⟩
          · exact Or.inl z
          · exact Or.inr ⟨Q, Or.inl z.1, z.2⟩
        · rcases hQ with z | z
          · exact hLL.2.2 Q z hw
          · subst z; omega
        · rcases hLL.2.1 with z | ⟨Q, z⟩
          · exact Or.inl z
          · exact Or.inr ⟨Q, Or.inl z.1, z.2⟩
        · rcases hQ with z | z
          · exact hLL.2.2 Q z hw
          · subst z; exact b
        · rw [up_same]; have := hLL.1; omega
        · rw [up_same]; exact Or.inr ⟨R, Or.inr rfl, a, rfl⟩
        · rw [up_same]
          rcases hQ with z | z
          · have := hLL.2.2 Q z hw; omega
          · subst z; exact Int.le_refl _
      have hlen := hR1.2.1
      -- R is the new best: its numbers are kept
      have s61 : (∀ Q, V Q → noB T R Q) → ∀ o3, Z E y_Mod_goesBest d 61 [some (vr 115), some (vi (wor T R)), some (vi (endV (gM T) R)), some (vi 0), o3] [] (up (up (up τ1 115 28 (wor T R)) 115 27 (τ1 115 22)) 115 29 (endV (gM T) R)) (qv K) := by
        intro hbest o3
        generalize hM0 : up (up (up τ1 115 28 (wor T R)) 115 27 (τ1 115 22)) 115 29 (endV (gM T) R) = M
        have mF : Fr [115] τ1 M := by rw [← hM0]; exact ((Fr.rf.up (by simp)).up (by simp)).up (by simp)
        have mK : keep gbK τ1 M := by rw [← hM0]; exact ((keep.rf.up (by decide)).up (by decide)).up (by decide)
        have m22 : M 115 22 = R.length := by rw [← hM0, up_nk (by decide), up_nk (by decide), up_nk (by decide)]; exact hR1.1
        have m23 : M 115 23 = tkn R := by rw [← hM0, up_nk (by decide), up_nk (by decide), up_nk (by decide)]; exact hR1.2.2.1
        have m28 : M 115 28 = wor T R := by rw [← hM0, up_nk (by decide), up_nk (by decide), up_same]
        have m27 : M 115 27 = R.length := by rw [← hM0, up_nk (by decide), up_same]; exact hR1.1
        have m29 : M 115 29 = endV (gM T) R := by rw [← hM0, up_same]
        have m34 : M 115 34 = τ1 115 34 := by rw [← hM0, up_nk (by decide), up_nk (by decide), up_nk (by decide)]
        have mM : MRow M (gM T) R := ⟨m22, hlen, m23, hR1.2.2.2.congr (fun i _ _ => by rw [mF.one (by decide), mF.one (by decide), mF.one (by decide), mF.one (by decide)]; exact ⟨rfl, rfl, rfl, rfl⟩)⟩
        have loop : ∀ (n : Nat) (i : Int) (τ : Mem) (o4 : Option AV), 0 ≤ i → i + n = R.length → Fr [127] M τ → (∀ p : Int, 0 ≤ p → p < i → τ 127 p = 10 * hAt R p + kAt R p) → Z E y_Mod_goesBest d 61 [some (vr 115), some (vi (wor T R)), some (vi (endV (gM T) R)), some (vi i), o4] [] τ (qv K) := by
          intro n
          induction n with
          | zero =>
            intro i τ o4 i0 hi hF hv
            have e115 : τ 115 = M 115 := hF.one (by decide)
            refine b_Mod_goesBest_61 ⟨fun _ => s97 τ _ _ ((f1.tr (mF.wk (by decide))).tr (hF.wk (by decide))) ((k1.tr mK).tr (keep.of e115)) (mM.fr e115 (hF.one (by decide)) (hF.one (by decide)) (hF.one (by decide)) (hF.one (by decide))) (Or.inl ⟨R, Or.inr rfl, in63.of hT hRO.1, by rw [e115]; exact m28, by rw [e115]; exact m27, by rw [e115]; exact m29, fun p p0 p1 => hv p p0 (by omega), fun Q hQ => ?_⟩) (hL1.cg (by rw [e115]; exact m34) (fun _ => Iff.rfl)), fun z => absurd z (by rw [e115, m22]; omega)⟩
            rcases hQ with z | z
            · exact hbest Q z
            · exact Or.inr ⟨by rw [z], Or.inr ⟨by rw [z], Or.inl z⟩⟩
          | succ n ih =>
            intro i τ o4 i0 hi hF hv
            have e115 : τ 115 = M 115 := hF.one (by decide)
            have ra := mM.2.2.2.at i i0 (by omega)
            obtain ⟨y, hy, ky, hyy⟩ := kAt_mem hRO.1.mem i i0 (by omega)
            have y6 := inM6 hT hy
            refine b_Mod_goesBest_61 ⟨fun z => absurd z (by rw [e115, m22]; omega), fun _ => ⟨by omega, ?_⟩⟩
            rw [hF.one (c' := 122) (by decide), hF.one (c' := 121) (by decide), ra.1, ra.2.1, wid (x := 10 * hAt R i) (by omega) (by omega), wid (x := 10 * hAt R i + kAt R i) (by omega) (by omega), wid (x := i + 1) (by omega) (by omega)]
            refine ih (i + 1) _ _ (by omega) (by omega) (hF.up (by simp)) (fun p p0 p1 => ?_)
            by_cases e : p = i
            · subst e; rw [up_same]
            · rw [up_nk e]; exact hv p p0 (by omega)
        exact loop R.length 0 M _ (by omega) (by omega) Fr.rf (fun p a b => absurd b (by omega))
      have ordR : ∀ Q, V Q → Q.length = R.length → lexR Q R := fun Q hQ e => hord Q hQ [] (by show R.length = Q.length; omega)
      refine ⟨fun hlt => ?_, fun hge => ⟨fun hne => ?_, fun heq => ⟨fun hmany => ?_, fun hfew => ?_⟩⟩⟩
      · refine s61 (fun Q hQ => ?_) _
        rcases hB1 with ⟨B, b1, b2, b3, b4, b5, b6, b7⟩ | ⟨b1, b2⟩
        · rw [b3] at hlt
          rcases b7 Q hQ with z | z
          · exact Or.inl (by omega)
          · exact Or.inl (by omega)
        · exact absurd hQ (b1 Q)
      · rcases hB1 with ⟨B, b1, b2, b3, b4, b5, b6, b7⟩ | ⟨b1, b2⟩
        · refine s97 τ1 _ _ f1 k1 hR1 (Or.inl ⟨B, Or.inl b1, b2, b3, b4, b5, b6, fun Q hQ => ?_⟩) hL1
          rcases hQ with z | z
          · exact b7 Q z
          · subst z; rw [b3] at hge hne; exact Or.inl (by omega)
        · rw [b2] at hge; omega
      · rcases hB1 with ⟨B, b1, b2, b3, b4, b5, b6, b7⟩ | ⟨b1, b2⟩
        · refine s97 τ1 _ _ f1 k1 hR1 (Or.inl ⟨B, Or.inl b1, b2, b3, b4, b5, b6, fun Q hQ => ?_⟩) hL1
          rcases hQ with z | z
          · exact b7 Q z
          · subst z
            rw [b3] at heq
            rw [b4, hR1.1] at hmany
            refine Or.inr ⟨heq, ?_⟩
            by_cases e : B.length = Q.length
            · exact Or.inr ⟨e, Or.inr (ordR B b1 e)⟩
            · exact Or.inl (by omega)
        · rw [b2] at heq; omega
      · refine s61 (fun Q hQ => ?_) _
        rcases hB1 with ⟨B, b1, b2, b3, b4, b5, b6, b7⟩ | ⟨b1, b2⟩
        · rw [b3] at heq
          rw [b4, hR1.1] at hfew
          rcases b7 Q hQ with z | ⟨z, w⟩
          · exact Or.inl (by omega)
          · exact Or.inr ⟨by omega, by omega⟩
        · exact absurd hQ (b1 Q)
    · refine q τ1 f1 k1 hR1 (hB1.cg rfl rfl rfl rfl (fun Q => ?_)) (hL1.cg rfl (fun Q => ?_)) <;>
      · refine ⟨fun z => z.elim id (fun ⟨L, a, b⟩ => ?_), fun z => Or.inl z⟩
        rw [a] at b
        have := (b.spl hT).2.2
        omega
end
