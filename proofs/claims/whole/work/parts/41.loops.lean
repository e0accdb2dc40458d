/-! rows and deeds that a tray tells -/
/-- the first place that can't be -/
def stpG (w : Nat → Int) : Nat → Int
  | 0 => -1
  | n + 1 => if w n ≠ 0 then stpG w n else if w (n + 1) ≠ 0 then (n : Int) else -1
theorem stpG_at {w : Nat → Int} {m : Nat} (h0 : w m = 0) (h1 : w (m + 1) ≠ 0) (hs : ∀ n, w n ≠ 0 → w (n + 1) = w n) : ∀ n, m + 1 ≤ n → stpG w n = m ∧ w n = w (m + 1)
  | 0, h => absurd h (by omega)
  | n + 1, h => by
    rcases Nat.lt_or_ge m n with q | q
    · have ih := stpG_at h0 h1 hs n (by omega)
      have hn : w n ≠ 0 := by rw [ih.2]; exact h1
      simp only [stpG]
      rw [if_pos hn, hs n hn]
      exact ih
    · have e : n = m := by omega
      subst e
      simp only [stpG]
      rw [if_neg (fun z => z h0), if_pos h1]
      exact ⟨rfl, trivial⟩
theorem stpG_0 {w : Nat → Int} (hs : ∀ n, w n ≠ 0 → w (n + 1) = w n) : ∀ n, w n = 0 → stpG w n = -1
  | 0, _ => rfl
  | n + 1, h => by
    simp only [stpG]
    rw [if_neg (fun z => z (by rw [hs n z] at h; exact h)), if_neg (fun z => z h)]
/-- a row as told -/
noncomputable def layS (T : Int → Int) (rd aw : Int) (num : Int → Int) : Nat → Int × RL
  | 0 => (0, [])
  | n + 1 => if (layS T rd aw num n).1 ≠ 0 then layS T rd aw num n else takeF T rd aw (layS T rd aw num n).2 (num n)
theorem layS_s (T : Int → Int) (rd aw : Int) (num : Int → Int) (n : Nat) : layS T rd aw num (n + 1) = if (layS T rd aw num n).1 ≠ 0 then layS T rd aw num n else takeF T rd aw (layS T rd aw num n).2 (num n) := rfl
theorem layS_w {T : Int → Int} {rd aw : Int} {num : Int → Int} : ∀ n, (layS T rd aw num n).1 ≠ 0 → (layS T rd aw num (n + 1)).1 = (layS T rd aw num n).1 := fun n h => by rw [layS_s, if_pos h]
theorem layS_st {T : Int → Int} {rd aw : Int} {num : Int → Int} {m : Nat} (h : (layS T rd aw num m).1 ≠ 0) : ∀ n, m ≤ n → layS T rd aw num n = layS T rd aw num m
  | 0, q => by rw [show m = 0 by omega]
  | n + 1, q => by
    rcases Nat.lt_or_ge n m with z | z
    · rw [show m = n + 1 by omega]
    · have ih := layS_st h n z
      rw [layS_s, if_pos (by rw [ih]; exact h), ih]
theorem layS_RV {T : Int → Int} {rd aw : Int} {num : Int → Int} : ∀ n, RV T (layS T rd aw num n).2
  | 0 => trivial
  | n + 1 => by
    rw [layS_s]; split
    · exact layS_RV n
    · exact takeF_RV (layS_RV n)
theorem layS_cg {T : Int → Int} {rd aw : Int} {num num2 : Int → Int} : ∀ n : Nat, (∀ i : Int, 0 ≤ i → i < n → num2 i = num i) → layS T rd aw num2 n = layS T rd aw num n
  | 0, _ => rfl
  | n + 1, h => by rw [layS_s, layS_s, layS_cg n (fun i a b => h i a (by omega)), h n (by omega) (by omega)]
theorem takeF_0 {T : Int → Int} {rd aw v : Int} {R : RL} (h : (takeF T rd aw R v).1 = 0) : (takeF T rd aw R v).2 = (v % 10, v / 10) :: R := by
  unfold takeF at h ⊢
  split at h
  · exact absurd h (by simp)
  · rename_i z1
    split at h
    · exact absurd h (by simp)
    · rename_i z2
      split at h
      · exact absurd h (by simp)
      · rename_i z3; rw [if_neg z1, if_neg z2, if_neg z3]
theorem layS_len {T : Int → Int} {rd aw : Int} {num : Int → Int} : ∀ n : Nat, (layS T rd aw num n).1 = 0 → (layS T rd aw num n).2.length = n
  | 0, _ => rfl
  | n + 1, h => by
    rw [layS_s] at h ⊢
    by_cases e : (layS T rd aw num n).1 ≠ 0
    · rw [if_pos e] at h; exact absurd h e
    · rw [if_neg e] at h ⊢
      rw [takeF_0 h, List.length_cons, layS_len n (Classical.not_not.mp e)]
theorem layS_suf {T : Int → Int} {rd aw : Int} {num : Int → Int} {m : Nat} : ∀ n : Nat, m ≤ n → (layS T rd aw num n).1 = 0 → suf (layS T rd aw num n).2 m = (layS T rd aw num m).2 ∧ (layS T rd aw num m).1 = 0
  | 0, q, h => by rw [show m = 0 by omega]; exact ⟨rfl, rfl⟩
  | n + 1, q, h => by
    rcases Nat.lt_or_ge n m with z | z
    · have e : m = n + 1 := by omega
      have l := layS_len (n + 1) h
      subst e
      refine ⟨?_, h⟩
      have := suf_all (layS T rd aw num (n + 1)).2
      rw [l] at this; exact this
    · rw [layS_s] at h ⊢
      by_cases e : (layS T rd aw num n).1 ≠ 0
      · rw [if_pos e] at h; exact absurd h e
      · rw [if_neg e] at h ⊢
        have e := Classical.not_not.mp e
        have ih := layS_suf n z e
        rw [takeF_0 h, suf_cons (by rw [layS_len n e]; exact z)]
        exact ih
/-- deeds as told -/
noncomputable def doS (T : Int → Int) (f : Int → Int) (num : Int → Int) : Nat → Int × (Int → Int) × RL
  | 0 => (0, f, [])
  | n + 1 => if (doS T f num n).1 ≠ 0 then doS T f num n else dpF T (doS T f num n).2.1 (doS T f num n).2.2 (num n)
theorem doS_s (T f : Int → Int) (num : Int → Int) (n : Nat) : doS T f num (n + 1) = if (doS T f num n).1 ≠ 0 then doS T f num n else dpF T (doS T f num n).2.1 (doS T f num n).2.2 (num n) := rfl
theorem doS_w {T f num : Int → Int} : ∀ n, (doS T f num n).1 ≠ 0 → (doS T f num (n + 1)).1 = (doS T f num n).1 := fun n h => by rw [doS_s, if_pos h]
theorem doS_st {T f num : Int → Int} {m : Nat} (h : (doS T f num m).1 ≠ 0) : ∀ n, m ≤ n → doS T f num n = doS T f num m
  | 0, q => by rw [show m = 0 by omega]
  | n + 1, q => by
    rcases Nat.lt_or_ge n m with z | z
    · rw [show m = n + 1 by omega]
    · have ih := doS_st h n z
      rw [doS_s, if_pos (by rw [ih]; exact h), ih]
theorem doS_ok {T : Int → Int} (hT : MT T) {f num : Int → Int} (hf : fB f) : ∀ n, fB (doS T f num n).2.1 ∧ RV T (doS T f num n).2.2
  | 0 => ⟨hf, trivial⟩
  | n + 1 => by
    have ih := doS_ok hT hf (num := num) n
    rw [doS_s]; split
    · exact ih
    · exact dpF_ok hT ih.1 ih.2
theorem doS_cg {T f : Int → Int} {num num2 : Int → Int} : ∀ n : Nat, (∀ i : Int, 0 ≤ i → i < n → num2 i = num i) → doS T f num2 n = doS T f num n
  | 0, _ => rfl
  | n + 1, h => by rw [doS_s, doS_s, doS_cg n (fun i a b => h i a (by omega)), h n (by omega) (by omega)]
def rowD : List Nat := 91 :: rowS 73
section
variable {E : EN} {d : Nat} {σ : Mem} {R : RL} {T : Int → Int} {f : Int → Int}
theorem s_Tray_at {K : Int → Mem → Prop} {t i : Int} (ht : 0 ≤ t ∧ t < 4) (hb : σ (102 + 2 * t.toNat) 1 ≤ 40) (hi : 0 ≤ i ∧ i < σ (102 + 2 * t.toNat) 1) (q : K (σ (103 + 2 * t.toNat) i) σ) : CL E y_Tray_at d [vr (102 + 2 * t.toNat), vi i] σ K := by
  refine c_Tray_at (b_Tray_at_0 (trN (by omega)) ⟨fun z => absurd z (by omega), fun _ => ⟨fun z => absurd z (by omega), fun _ => ⟨fun z => absurd z (by omega), fun _ => ⟨by omega, ?_⟩⟩⟩⟩)
  rw [show 102 + 2 * t.toNat + 1 = 103 + 2 * t.toNat by omega]; exact q
theorem rowC_91 {τ : Mem} {g : GG} {R : RL} {k v : Int} (h : RowC τ 73 g R) : RowC (up τ 91 k v) 73 g R := by
  obtain ⟨h1, h2, h3, h4, h5, h6, h7⟩ := h
  have u : ∀ c, c ≤ 81 → up τ 91 k v c = τ c := fun c a => up_cell (by omega)
  exact ⟨by rw [u 73 (by decide)]; exact h1, h2, by rw [u 73 (by decide)]; exact h3, h4.congr (fun i _ _ => by rw [u _ (by decide), u _ (by decide), u _ (by decide), u _ (by decide)]; exact ⟨rfl, rfl, rfl, rfl⟩), fun x a b => by rw [u _ (by decide)]; exact h5 x a b, h6.congr (fun i _ _ => by rw [u _ (by decide)]), by rw [u _ (by decide)]; exact h7⟩
theorem HP.d91 {σ τ : Mem} {T : Int → Int} (h : HP σ T) {S : List Nat} (hF : Fr S σ τ) (hS : ∀ c, c < 50 → c ∉ S) : HP τ T :=
  h.fr (hF 2 (hS 2 (by decide))) (hF 8 (hS 8 (by decide))) (hF 9 (hS 9 (by decide))) (hF 10 (hS 10 (by decide))) (hF 11 (hS 11 (by decide))) (hF 12 (hS 12 (by decide)))
theorem rowD_lt {c : Nat} (h : c < 50) : c ∉ rowD := by simp [rowD, rowS]; omega
theorem rowD_tr {c : Nat} (h : 102 ≤ c) : c ∉ rowD := by simp [rowD, rowS]; omega
theorem rowD_st {s : Nat} (hs : isStg s) : s ∉ rowD := by have := stg2 hs; simp [rowD, rowS]; omega
theorem md_91 {τ : Mem} {g : GG} {R : RL} {k v : Int} (h : MdOK τ g R) : MdOK (up τ 91 k v) g R := by
  have a : up τ 91 k v 78 = τ 78 := up_cell (by decide)
  have b : up τ 91 k v 80 = τ 80 := up_cell (by decide)
  intro i hi
  rw [a, b]
  exact h i hi
/-- the class lays a row as a tray tells it, of at most `most` of its numbers -/
theorem s_Doer_layRowM {K : Mem → Prop} {s : Nat} {t most n : Int} (hd : 4 ≤ d) (hs : isStg s) (hT : MT T) (hP : HP σ T) (hc2 : 0 ≤ σ 2 2 ∧ σ 2 2 ≤ 4) (hS : ST σ s (T 2) f) (ht : 0 ≤ t ∧ t < 4) (hb : 0 ≤ σ (102 + 2 * t.toNat) 1 ∧ σ (102 + 2 * t.toNat) 1 ≤ 40) (hn : n = min (σ (102 + 2 * t.toNat) 1) most) (hm : 0 ≤ most) (q : ∀ τ : Mem, Fr rowD σ τ → RowC τ 73 (gM T) (layS T (f 0) (awo T (f 2)) (σ (103 + 2 * t.toNat)) n.toNat).2 → τ 91 3 = (layS T (f 0) (awo T (f 2)) (σ (103 + 2 * t.toNat)) n.toNat).1 → τ 91 2 = stpG (fun j => (layS T (f 0) (awo T (f 2)) (σ (103 + 2 * t.toNat)) j).1) n.toNat → ((layS T (f 0) (awo T (f 2)) (σ (103 + 2 * t.toNat)) n.toNat).1 = 0 → MdOK τ (gM T) (layS T (f 0) (awo T (f 2)) (σ (103 + 2 * t.toNat)) n.toNat).2) → K τ) : CV E y_Doer_layRow d [vr 91, vr (102 + 2 * t.toNat), vi most, vr s] σ K := by
  have htr := trN (n := t.toNat) (by omega)
  refine c_Doer_layRow (b_Doer_layRow_0 htr hs (by omega) (s_Row_clear (g := gM T) (Or.inl rfl) (by omega) (fun τ0 hF0 hR0 => ?_)))
  have loop : ∀ (m i : Nat) (τ : Mem), (i : Int) + m = n → Fr rowD σ τ → RowC τ 73 (gM T) (layS T (f 0) (awo T (f 2)) (σ (103 + 2 * t.toNat)) i).2 → τ 91 3 = (layS T (f 0) (awo T (f 2)) (σ (103 + 2 * t.toNat)) i).1 → τ 91 2 = stpG (fun j => (layS T (f 0) (awo T (f 2)) (σ (103 + 2 * t.toNat)) j).1) i → ((layS T (f 0) (awo T (f 2)) (σ (103 + 2 * t.toNat)) i).1 = 0 → MdOK τ (gM T) (layS T (f 0) (awo T (f 2)) (σ (103 + 2 * t.toNat)) i).2) → Z E y_Doer_layRow d 20 [some (vr 91), some (vr (102 + 2 * t.toNat)), some (vi most), some (vr s), some (vi (i : Int))] [] τ (qv K) := by
    intro m
    induction m with
    | zero =>
      intro i τ hi hF hR h3 h2 hMd
      have ei : i = n.toNat := by omega
      have e1 : τ (102 + 2 * t.toNat) = σ (102 + 2 * t.toNat) := hF _ (rowD_tr (by omega))
      rw [ei] at hR h3 h2 hMd
      have fin := q τ hF hR h3 h2 hMd
      refine b_Doer_layRow_20 htr hs (by omega) ⟨fun _ => fin, fun a => ⟨fun _ => fin, fun b => ?_⟩⟩
      rw [e1] at a; omega
    | succ m ih =>
      intro i τ hi hF hR h3 h2 hMd
      have e1 : τ (102 + 2 * t.toNat) = σ (102 + 2 * t.toNat) := hF _ (rowD_tr (by omega))
      have e2 : τ (103 + 2 * t.toNat) = σ (103 + 2 * t.toNat) := hF _ (rowD_tr (by omega))
      refine b_Doer_layRow_20 htr hs (by omega) ⟨fun a => ?_, fun a => ⟨fun b => ?_, fun b => ⟨fun c => ?_, fun c => ?_⟩⟩⟩
      · rw [e1] at a; omega
      · omega
      · rw [h3] at c
        have st := layS_st c n.toNat (by omega)
        refine q τ hF (by rw [st]; exact hR) (by rw [st]; exact h3) ?_ (by rw [st]; exact hMd)
        rw [h2]
        have key : ∀ j, i ≤ j → stpG (fun j => (layS T (f 0) (awo T (f 2)) (σ (103 + 2 * t.toNat)) j).1) j = stpG (fun j => (layS T (f 0) (awo T (f 2)) (σ (103 + 2 * t.toNat)) j).1) i := by
          intro j hj
          induction j with
          | zero => rw [show i = 0 by omega]
          | succ j ihj =>
            rcases Nat.lt_or_ge j i with z | z
            · rw [show i = j + 1 by omega]
            · have : (layS T (f 0) (awo T (f 2)) (σ (103 + 2 * t.toNat)) j).1 ≠ 0 := by rw [layS_st c j z]; exact c
              simp only [stpG]; rw [if_pos this]; exact ihj z
        exact (key n.toNat (by omega)).symm
      · refine s_Tray_at ht (by rw [e1]; exact hb.2) (by rw [e1]; rw [e1] at a; omega) ?_
        rw [e2]
        rw [h3] at c
        have hRV := layS_RV (T := T) (rd := f 0) (aw := awo T (f 2)) (num := σ (103 + 2 * t.toNat)) i
        have hP2 := hP.d91 hF (fun c hc => rowD_lt hc)
        have hS2 : ST τ s (T 2) f := hS.fr (fun k _ _ => by rw [hF s (rowD_st hs)]) (fun _ _ _ => rfl)
        refine u_takeM (by omega) hs hT hP2 (by rw [hF 2 (rowD_lt (by decide))]; exact hc2) hS2 hRV hR (fun τ1 hF1 hR1 hM1 => ?_)
        have hF2 : Fr rowD σ τ1 := hF.tr (hF1.wk (fun c hc => List.mem_cons_of_mem _ hc))
        have nx := fun τ => ih (i + 1) τ (by omega)
        have es : layS T (f 0) (awo T (f 2)) (σ (103 + 2 * t.toNat)) (i + 1) = takeF T (f 0) (awo T (f 2)) (layS T (f 0) (awo T (f 2)) (σ (103 + 2 * t.toNat)) i).2 (σ (103 + 2 * t.toNat) i) := by rw [layS_s, if_neg (fun z => z c)]
        simp only [stpG] at nx
        simp only [es] at nx
        rw [if_neg (fun z => z c)] at nx
        rw [wid (x := (i : Int) + 1) (by omega) (by omega)]
        refine ⟨fun hne => ?_, fun he => ?_⟩
        · refine nx _ ((hF2.up (by simp [rowD])).up (by simp [rowD])) (rowC_91 (rowC_91 hR1)) (by rw [up_nk (by decide), up_same]) ?_ (fun z => md_91 (md_91 (hM1 z)))
          rw [up_same, if_pos hne]
        · refine nx _ ((hF2.up (by simp [rowD])).up (by simp [rowD])) (rowC_91 (rowC_91 hR1)) (by rw [up_nk (by decide), up_same]) ?_ (fun z => md_91 (md_91 (hM1 z)))
          rw [up_same, if_neg (fun z => z he)]
  exact loop n.toNat 0 _ (by omega) (((hF0.wk (fun c hc => List.mem_cons_of_mem _ hc)).up (by simp [rowD])).up (by simp [rowD])) (rowC_91 (rowC_91 hR0)) (by rw [up_same]; rfl) (by rw [up_nk (by decide), up_same]; rfl) (fun _ j hj => absurd hj (by show ¬ ((j : Int) < (0 : Nat)); omega))
theorem s_Doer_layRow {K : Mem → Prop} {s : Nat} {t most n : Int} (hd : 4 ≤ d) (hs : isStg s) (hT : MT T) (hP : HP σ T) (hc2 : 0 ≤ σ 2 2 ∧ σ 2 2 ≤ 4) (hS : ST σ s (T 2) f) (ht : 0 ≤ t ∧ t < 4) (hb : 0 ≤ σ (102 + 2 * t.toNat) 1 ∧ σ (102 + 2 * t.toNat) 1 ≤ 40) (hn : n = min (σ (102 + 2 * t.toNat) 1) most) (hm : 0 ≤ most) (q : ∀ τ : Mem, Fr rowD σ τ → RowC τ 73 (gM T) (layS T (f 0) (awo T (f 2)) (σ (103 + 2 * t.toNat)) n.toNat).2 → τ 91 3 = (layS T (f 0) (awo T (f 2)) (σ (103 + 2 * t.toNat)) n.toNat).1 → τ 91 2 = stpG (fun j => (layS T (f 0) (awo T (f 2)) (σ (103 + 2 * t.toNat)) j).1) n.toNat → K τ) : CV E y_Doer_layRow d [vr 91, vr (102 + 2 * t.toNat), vi most, vr s] σ K := by
  exact s_Doer_layRowM hd hs hT hP hc2 hS ht hb hn hm (fun τ a b c e _ => q τ a b c e)
/-- the class does all that a tray tells -/
theorem s_Doer_doAll {K : Int → Mem → Prop} {s : Nat} {t n : Int} (hd : 5 ≤ d) (hs : isStg s) (hT : MT T) (hRg : ∀ i, i64 (σ (103 + 2 * t.toNat) i)) (hP : HP σ T) (hc2 : 0 ≤ σ 2 2 ∧ σ 2 2 ≤ 4) (hS : ST σ s (T 2) f) (ht : 0 ≤ t ∧ t < 4) (hb : 0 ≤ σ (102 + 2 * t.toNat) 1 ∧ σ (102 + 2 * t.toNat) 1 ≤ 40) (hn : n = σ (102 + 2 * t.toNat) 1) (q : ∀ τ : Mem, Fr (s :: rowD) σ τ → ST τ s (T 2) (doS T f (σ (103 + 2 * t.toNat)) n.toNat).2.1 → τ 91 3 = (doS T f (σ (103 + 2 * t.toNat)) n.toNat).1 → τ 91 2 = stpG (fun j => (doS T f (σ (103 + 2 * t.toNat)) j).1) n.toNat → K (if (doS T f (σ (103 + 2 * t.toNat)) n.toNat).1 = 0 then n else stpG (fun j => (doS T f (σ (103 + 2 * t.toNat)) j).1) n.toNat) τ) : CI E y_Doer_doAll d [vr 91, vr (102 + 2 * t.toNat), vr s] σ K := by
  have htr := trN (n := t.toNat) (by omega)
  have sN : ∀ c, c < 50 → c ∉ s :: rowD := fun c hc => by
    simp only [List.mem_cons, not_or]
    refine ⟨fun e => ?_, rowD_lt hc⟩
    subst e; rcases hs with e | e | e | e | e | e | e | e | e | e | e | e | e | e <;> omega
  have sT : ∀ c, 102 ≤ c → c ≤ 109 → c ∉ s :: rowD := fun c hc hc2 => by
    simp only [List.mem_cons, not_or]
    exact ⟨fun e => by have := (stg2 hs).2.2.1; omega, rowD_tr hc⟩
  refine c_Doer_doAll (b_Doer_doAll_0 htr hs (by omega) (s_Row_clear (g := gM T) (Or.inl rfl) (by omega) (fun τ0 hF0 hR0 => ?_)))
  have loop : ∀ (m i : Nat) (τ : Mem), (i : Int) + m = n → Fr (s :: rowD) σ τ → RowC τ 73 (gM T) (doS T f (σ (103 + 2 * t.toNat)) i).2.2 → ST τ s (T 2) (doS T f (σ (103 + 2 * t.toNat)) i).2.1 → (doS T f (σ (103 + 2 * t.toNat)) i).1 = 0 → τ 91 3 = 0 → τ 91 2 = -1 → Z E y_Doer_doAll d 19 [some (vr 91), some (vr (102 + 2 * t.toNat)), some (vr s), some (vi (i : Int))] [] τ (qi K) := by
    intro m
    induction m with
    | zero =>
      intro i τ hi hF hR hS1 h0 h3 h2
      have ei : i = n.toNat := by omega
      have e1 : τ (102 + 2 * t.toNat) = σ (102 + 2 * t.toNat) := hF _ (sT _ (by omega) (by omega))
      rw [ei] at hR h0 hS1
      have fin := q τ hF hS1 (by rw [h0]; exact h3) (by rw [stpG_0 doS_w _ h0]; exact h2)
      rw [if_pos h0] at fin
      refine b_Doer_doAll_19 htr hs (by omega) ⟨fun _ => s_Math_max ?_, fun a => ?_⟩
      · rw [e1, ← hn, Int.max_eq_left (by omega)]; exact fin
      · rw [e1] at a; omega
    | succ m ih =>
      intro i τ hi hF hR hS1 h0 h3 h2
      have e1 : τ (102 + 2 * t.toNat) = σ (102 + 2 * t.toNat) := hF _ (sT _ (by omega) (by omega))
      have e2 : τ (103 + 2 * t.toNat) = σ (103 + 2 * t.toNat) := hF _ (sT _ (by omega) (by omega))
      refine b_Doer_doAll_19 htr hs (by omega) ⟨fun a => ?_, fun a => ?_⟩
      · rw [e1] at a; omega
      · refine s_Tray_at ht (by rw [e1]; exact hb.2) (by rw [e1]; rw [e1] at a; omega) ?_
        rw [e2]
        have ok := doS_ok hT hS.b (num := σ (103 + 2 * t.toNat)) i
        have hP2 := hP.d91 hF sN
        refine u_deed (by omega) hs hT hP2 (by rw [hF 2 (sN 2 (by decide))]; exact hc2) (hRg _) hS1 ok.2 hR (fun τ1 hF1 hR1 hS2 => ?_)
        have hF2 : Fr (s :: rowD) σ τ1 := hF.tr (hF1.wk (fun c hc => by
          rcases List.mem_cons.mp hc with rfl | hc
          · exact List.mem_cons_self
          · exact List.mem_cons_of_mem _ (List.mem_cons_of_mem _ hc)))
        have es : doS T f (σ (103 + 2 * t.toNat)) (i + 1) = dpF T (doS T f (σ (103 + 2 * t.toNat)) i).2.1 (doS T f (σ (103 + 2 * t.toNat)) i).2.2 (σ (103 + 2 * t.toNat) i) := by rw [doS_s, if_neg (fun z => z h0)]
        rw [← es] at hR1 hS2
        rw [← es, wid (x := (i : Int) + 1) (by omega) (by omega)]
        have s91 : ∀ {τ : Mem} {k v : Int} {f : Int → Int}, ST τ s (T 2) f → ST (up τ 91 k v) s (T 2) f := fun h => h.fr (fun k _ _ => by rw [up_nc (stg2 hs).2.1]) (fun _ _ _ => rfl)
        have t91 : τ1 91 2 = -1 := by rw [hF1 91 (by have := stg2 hs; simp [rowS]; omega)]; exact h2
        refine ⟨fun he => ?_, fun hne => ?_⟩
        · exact ih (i + 1) _ (by omega) (hF2.up (by simp [rowD])) (rowC_91 hR1) (s91 hS2) he (by rw [up_same]; exact he) (by rw [up_nk (by decide)]; exact t91)
        · have st := doS_st hne n.toNat (by omega)
          have sp := stpG_at (w := fun j => (doS T f (σ (103 + 2 * t.toNat)) j).1) h0 hne doS_w n.toNat (by omega)
          have fin := q (up (up τ1 91 3 (doS T f (σ (103 + 2 * t.toNat)) (i + 1)).1) 91 2 i) ((hF2.up (by simp [rowD])).up (by simp [rowD])) (by rw [st]; exact s91 (s91 hS2)) (by rw [st, up_nk (by decide), up_same]) (by rw [up_same, sp.1])
          rw [st, if_neg hne, sp.1] at fin
          exact fin
  exact loop n.toNat 0 _ (by omega) (((hF0.wk (fun c hc => List.mem_cons_of_mem _ (List.mem_cons_of_mem _ hc))).up (by simp [rowD])).up (by simp [rowD])) (rowC_91 (rowC_91 hR0)) (hS.fr (fun k _ _ => by rw [up_nc (stg2 hs).2.1, up_nc (stg2 hs).2.1, hF0 s (stgN hs)]) (fun _ _ _ => rfl)) rfl (by rw [up_same]) (by rw [up_nk (by decide), up_same])
end
section
variable {E : EN} {d : Nat} {σ : Mem} {R : RL} {T : Int → Int} {f : Int → Int}
theorem keep.wk {S S2 : List Int} {σ τ : Mem} (h : keep S σ τ) (hs : ∀ c, c ∈ S → c ∈ S2) : keep S2 σ τ := fun k hk => h k (fun z => hk (hs k z))
theorem keep.up {S : List Int} {σ τ : Mem} {k v : Int} (h : keep S σ τ) (hk : k ∈ S) : keep S σ (up τ 115 k v) := fun j hj => by
  have hjk : j ≠ k := fun e => hj (by rw [e]; exact hk)
  rw [up_nk hjk]; exact h j hj
theorem MRow.u25 {τ : Mem} {g : GG} {R : RL} {v : Int} (h : MRow τ g R) : MRow (up τ 115 25 v) g R := by
  obtain ⟨h1, h2, h3, h4⟩ := h
  exact ⟨by rw [up_nk (by decide)]; exact h1, h2, by rw [up_nk (by decide)]; exact h3, h4.congr (fun i _ _ => by rw [up_cell (by decide), up_cell (by decide), up_cell (by decide), up_cell (by decide)]; exact ⟨rfl, rfl, rfl, rfl⟩)⟩
/-- the reference lays a row as a tray tells it -/
theorem t_laysTold {K : Int → Mem → Prop} {t n : Int} (hd : 6 ≤ d) (hT : MT T) (hS : MS σ T f) (hf : fB f) (ht : 0 ≤ t ∧ t < 4) (hn : n = σ 131 t) (hb : 0 ≤ n ∧ n ≤ 40) (q : ∀ τ : Mem, Fr whyS σ τ → keep [22, 23, 25] σ τ → MRow τ (gM T) (layS T (f 0) (awo T (f 2)) (fun i => σ 132 (40 * t + i)) n.toNat).2 → τ 115 25 = (layS T (f 0) (awo T (f 2)) (fun i => σ 132 (40 * t + i)) n.toNat).1 → K (if (layS T (f 0) (awo T (f 2)) (fun i => σ 132 (40 * t + i)) n.toNat).1 = 0 then n else stpG (fun j => (layS T (f 0) (awo T (f 2)) (fun i => σ 132 (40 * t + i)) j).1) n.toNat) τ) : CI E y_Mod_laysTold d [vr 115, vi t] σ K := by
  refine c_Mod_laysTold (b_Mod_laysTold_0 (by omega) (s_isNone (g := gM T) (fun τ0 hF0 hK0 hR0 => ?_)))
  have loop : ∀ (m i : Nat) (τ : Mem), (i : Int) + m = n → Fr whyS σ τ → keep [22, 23, 25] σ τ → MRow τ (gM T) (layS T (f 0) (awo T (f 2)) (fun i => σ 132 (40 * t + i)) i).2 → (layS T (f 0) (awo T (f 2)) (fun i => σ 132 (40 * t + i)) i).1 = 0 → τ 115 25 = 0 → Z E y_Mod_laysTold d 11 [some (vr 115), some (vi t), some (vi (i : Int))] [] τ (qi K) := by
    intro m
    induction m with
    | zero =>
      intro i τ hi hF hK hR h0 h25
      have ei : i = n.toNat := by omega
      have e1 : τ 131 = σ 131 := hF 131 (by decide)
      rw [ei] at hR h0
      have fin := q τ hF hK hR (by rw [h0]; exact h25)
      rw [if_pos h0] at fin
      refine b_Mod_laysTold_11 (by omega) ⟨ht, fun _ => ?_, fun a => ?_⟩
      · rw [e1, ← hn]; exact fin
      · rw [e1] at a; omega
    | succ m ih =>
      intro i τ hi hF hK hR h0 h25
      have e1 : τ 131 = σ 131 := hF 131 (by decide)
      have e2 : τ 132 = σ 132 := hF 132 (by decide)
      have e6 : τ 116 = σ 116 := hF 116 (by decide)
      refine b_Mod_laysTold_11 (by omega) ⟨ht, fun a => ?_, fun a => ?_⟩
      · rw [e1] at a; omega
      · rw [wid (x := 40 * t) (by omega) (by omega), wid (x := 40 * t + i) (by omega) (by omega), e2]
        refine ⟨by omega, ?_⟩
        have hRV := layS_RV (T := T) (rd := f 0) (aw := awo T (f 2)) (num := fun i => σ 132 (40 * t + i)) i
        refine t_whyLast (by omega) hT (hS.fr e6) hf hRV hR (fun τ1 hF1 hK1 hR1 => ?_)
        have es : layS T (f 0) (awo T (f 2)) (fun i => σ 132 (40 * t + i)) (i + 1) = takeF T (f 0) (awo T (f 2)) (layS T (f 0) (awo T (f 2)) (fun i => σ 132 (40 * t + i)) i).2 (σ 132 (40 * t + i)) := by rw [layS_s, if_neg (fun z => z h0)]
        rw [← es] at hR1
        rw [← es, wid (x := (i : Int) + 1) (by omega) (by omega)]
        have hF2 : Fr whyS σ τ1 := hF.tr hF1
        have hK2 : keep [22, 23, 25] σ τ1 := hK.tr (hK1.wk (by decide))
        refine ⟨fun he => ?_, fun hne => ?_⟩
        · exact ih (i + 1) _ (by omega) (hF2.up (by decide)) (hK2.up (by decide)) hR1.u25 he (by rw [up_same]; exact he)
        · have st := layS_st hne n.toNat (by omega)
          have sp := stpG_at (w := fun j => (layS T (f 0) (awo T (f 2)) (fun i => σ 132 (40 * t + i)) j).1) h0 hne layS_w n.toNat (by omega)
          have fin := q (up τ1 115 25 (layS T (f 0) (awo T (f 2)) (fun i => σ 132 (40 * t + i)) (i + 1)).1) (hF2.up (by decide)) (hK2.up (by decide)) (by rw [st]; exact hR1.u25) (by rw [st, up_same])
          rw [st, if_neg hne, sp.1] at fin
          exact fin
  exact loop n.toNat 0 _ (by omega) ((hF0.wk (by decide)).up (by decide)) ((hK0.wk (by decide)).up (by decide)) hR0.u25 rfl (by rw [up_same])
/-- the reference does all that a tray tells -/
theorem t_tells {K : Int → Mem → Prop} {t n : Int} (hd : 8 ≤ d) (hT : MT T) (hRg : ∀ i, i64 (σ 132 i)) (hS : MS σ T f) (hf : fB f) (ht : 0 ≤ t ∧ t < 4) (hn : n = σ 131 t) (hb : 0 ≤ n ∧ n ≤ 40) (q : ∀ τ : Mem, Fr ruleC σ τ → keep [22, 23, 25] σ τ → sb5 σ τ → MS τ T (doS T f (fun i => σ 132 (40 * t + i)) n.toNat).2.1 → τ 115 25 = (doS T f (fun i => σ 132 (40 * t + i)) n.toNat).1 → K (if (doS T f (fun i => σ 132 (40 * t + i)) n.toNat).1 = 0 then n else stpG (fun j => (doS T f (fun i => σ 132 (40 * t + i)) j).1) n.toNat) τ) : CI E y_Mod_tells d [vr 115, vi t] σ K := by
  refine c_Mod_tells (b_Mod_tells_0 (by omega) (s_isNone (g := gM T) (fun τ0 hF0 hK0 hR0 => ?_)))
  have loop : ∀ (m i : Nat) (τ : Mem), (i : Int) + m = n → Fr ruleC σ τ → keep [22, 23, 25] σ τ → sb5 σ τ → MS τ T (doS T f (fun i => σ 132 (40 * t + i)) i).2.1 → MRow τ (gM T) (doS T f (fun i => σ 132 (40 * t + i)) i).2.2 → (doS T f (fun i => σ 132 (40 * t + i)) i).1 = 0 → τ 115 25 = 0 → Z E y_Mod_tells d 11 [some (vr 115), some (vi t), some (vi (i : Int))] [] τ (qi K) := by
    intro m
    induction m with
    | zero =>
      intro i τ hi hF hK h5 hS1 hR h0 h25
      have ei : i = n.toNat := by omega
      have e1 : τ 131 = σ 131 := hF 131 (by decide)
      rw [ei] at hR h0 hS1
      have fin := q τ hF hK h5 hS1 (by rw [h0]; exact h25)
      rw [if_pos h0] at fin
      refine b_Mod_tells_11 (by omega) ⟨ht, fun _ => ?_, fun a => ?_⟩
      · rw [e1, ← hn]; exact fin
      · rw [e1] at a; omega
    | succ m ih =>
      intro i τ hi hF hK h5 hS1 hR h0 h25
      have e1 : τ 131 = σ 131 := hF 131 (by decide)
      have e2 : τ 132 = σ 132 := hF 132 (by decide)
      refine b_Mod_tells_11 (by omega) ⟨ht, fun a => ?_, fun a => ?_⟩
      · rw [e1] at a; omega
      · rw [wid (x := 40 * t) (by omega) (by omega), wid (x := 40 * t + i) (by omega) (by omega), e2]
        refine ⟨by omega, ?_⟩
        have ok := doS_ok hT hf (num := fun i => σ 132 (40 * t + i)) i
        refine t_does (by omega) hT (hRg _) hS1 ok.1 ok.2 hR (fun τ1 hF1 hK1 h51 hS2 hR1 => ?_)
        have es : doS T f (fun i => σ 132 (40 * t + i)) (i + 1) = dpF T (doS T f (fun i => σ 132 (40 * t + i)) i).2.1 (doS T f (fun i => σ 132 (40 * t + i)) i).2.2 (σ 132 (40 * t + i)) := by rw [doS_s, if_neg (fun z => z h0)]
        rw [← es] at hR1 hS2
        rw [← es, wid (x := (i : Int) + 1) (by omega) (by omega)]
        have hF2 : Fr ruleC σ τ1 := hF.tr hF1
        have hK2 : keep [22, 23, 25] σ τ1 := hK.tr (hK1.wk (by decide))
        have h52 : sb5 σ τ1 := fun k hk => by rw [h51 k hk, h5 k hk]
        have s25 : ∀ {v : Int}, sb5 σ (up τ1 115 25 v) := fun k hk => by rw [up_nc (by decide)]; exact h52 k hk
        refine ⟨fun he => ?_, fun hne => ?_⟩
        · exact ih (i + 1) _ (by omega) (hF2.up (by decide)) (hK2.up (by decide)) s25 (hS2.fr (up_cell (by decide))) hR1.u25 he (by rw [up_same]; exact he)
        · have st := doS_st hne n.toNat (by omega)
          have sp := stpG_at (w := fun j => (doS T f (fun i => σ 132 (40 * t + i)) j).1) h0 hne doS_w n.toNat (by omega)
          have fin := q (up τ1 115 25 (doS T f (fun i => σ 132 (40 * t + i)) (i + 1)).1) (hF2.up (by decide)) (hK2.up (by decide)) s25 (by rw [st]; exact hS2.fr (up_cell (by decide))) (by rw [st, up_same])
          rw [st, if_neg hne, sp.1] at fin
          exact fin
  exact loop n.toNat 0 _ (by omega) ((hF0.wk (by decide)).up (by decide)) ((hK0.wk (by decide)).up (by decide)) (fun k _ => by rw [up_nc (by decide), hF0 116 (by decide)]) (hS.fr (by rw [up_cell (by decide), hF0 116 (by decide)])) hR0.u25 rfl (by rw [up_same])
end
