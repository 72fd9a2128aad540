/-! the law's questions on a graph that stands -/
section D5
variable {M : Mm} {m o b N k : Nat} {ra : Nat → Nat} {S : St} {C : Cfg} {D : Dyn} {L : Nat → Nat → Nat} {tp pg : List Nat} {xs : Nat → Int32} {K : Int32 → Mm → Prop} {R : Option Nat → Option Nat → Option Nat → Int32 → Mm → Prop} {l4 : Int32}
theorem z0 : (0 : Int32).toNatClampNeg = 0 := by decide
theorem e704 {v : Int32} : mI (pM M m ra (pI S 704 v)) 704 m = v := by rw [p_mI]; simp [sg]
theorem IC.o2 (hI : IC M S L m o ra tp pg) : isA M o 2 ∧ vp_in (0 : Int32) (aN M o) := ⟨isA_of hI.2.2.2.2.2.2.2.2.2.1.1 (by decide) (by decide), by rw [hI.2.2.2.2.2.2.2.2.2.1.2]; exact n_in (n := 0) (by decide) (by decide)⟩
theorem g_wm (V : V5 l4 N) (hk : k ≤ 520) (hI : IC M S L m o ra tp pg) (hG : BG k M S L C D) (hN : ∀ M1, INV (k + 1) (L 0 0) m o M1 → R (some (L 0 0)) (some m) (some o) (l4 + 6) M1) : bk_L_law_666 b N xs R K (some (L 0 0)) (some m) (some o) l4 M := by
  have g := hG
  obtain ⟨g1, g2, g3, g4, g5, g6, g7, g8, g9⟩ := g
  have lb : LB D := nn_LB (by omega)
  have ho := hI.2.2.2.2.2.2.2.2.2.1.1
  have w1 := hI.2.1.1
  refine ⟨V.1, L 0 0, rfl, hI.1.1, ?_⟩
  refine c_wm g1 g2 (fun z => Or.inr (⟨rfl, ?_⟩)) (fun z => ⟨o, rfl, hI.o2.1, hI.o2.2, ?_⟩)
  · have zc : (A_wm C D (xs (l4 + 1).toNatClampNeg)).1 = 2 := by rw [A_wm, if_neg z]
    refine ⟨V.1, m, rfl, w1, ?_⟩
    rw [hI.2.2.1]
    refine r_watermark hI.2.1 g1 g4 ?_
    rw [zc]
    refine ⟨w1, w1, ?_⟩
    rw [e704]
    exact ⟨fun _ => ⟨fun _ => hN _ (askI hI hG), fun y => absurd y (by decide)⟩, fun y => absurd rfl y⟩
  · have zc : (A_wm C D (xs (l4 + 1).toNatClampNeg)).1 = 0 := by rw [A_wm, if_pos z]
    simp only [z0]
    obtain ⟨S1, i1, b1⟩ := outI (v := dmk D (xs (l4 + 1).toNatClampNeg).toNatClampNeg) hI hG
    have w2 := i1.2.1.1
    refine ⟨V.1, m, rfl, w2, ?_⟩
    rw [i1.2.2.1]
    refine r_watermark i1.2.1 g1 b1.2.2.2.1 ?_
    rw [zc]
    refine ⟨w2, w2, ?_⟩
    rw [e704]
    refine ⟨fun _ => ⟨fun y => absurd trivial y, fun _ => ⟨o, rfl, i1.o2.1, i1.o2.2, fun _ => hN _ (askI i1 b1), fun y => absurd ?_ y⟩⟩, fun y => absurd rfl y⟩
    have oa := out_at (v := dmk D (xs (l4 + 1).toNatClampNeg).toNatClampNeg) (m := m) (ra := ra) (S := pI S1 704 0) ho
    rw [z0] at oa
    rw [oa, A_wm, if_pos z]
theorem g_pr (V : V5 l4 N) (hk : k ≤ 520) (hI : IC M S L m o ra tp pg) (hG : BG k M S L C D) (hN : ∀ M1, INV (k + 1) (L 0 0) m o M1 → R (some (L 0 0)) (some m) (some o) (l4 + 6) M1) : bk_L_law_784 b N xs R K (some (L 0 0)) (some m) (some o) l4 M := by
  have g := hG
  obtain ⟨g1, g2, g3, g4, g5, g6, g7, g8, g9⟩ := g
  have lb : LB D := nn_LB (by omega)
  have ho := hI.2.2.2.2.2.2.2.2.2.1.1
  have w1 := hI.2.1.1
  refine ⟨V.1, V.2.1, L 0 0, rfl, hI.1.1, ?_⟩
  refine c_pr g1 g2 g6 (fun z => Or.inr (⟨rfl, ?_⟩)) (fun z => ⟨o, rfl, hI.o2.1, hI.o2.2, ?_⟩)
  · have zc : (A_pr C D (xs (l4 + 1).toNatClampNeg) (xs (l4 + 2).toNatClampNeg)).1 = 2 := by rw [A_pr, if_neg z]
    refine ⟨V.1, V.2.1, m, rfl, w1, ?_⟩
    rw [hI.2.2.1]
    refine r_promise hI.2.1 g1 g4 ?_
    rw [zc]
    refine ⟨w1, w1, ?_⟩
    rw [e704]
    exact ⟨fun _ => ⟨fun _ => hN _ (askI hI hG), fun y => absurd y (by decide)⟩, fun y => absurd rfl y⟩
  · have zc : (A_pr C D (xs (l4 + 1).toNatClampNeg) (xs (l4 + 2).toNatClampNeg)).1 = 0 := by rw [A_pr, if_pos z]
    simp only [z0]
    obtain ⟨S1, i1, b1⟩ := outI (v := dpr D (xs (l4 + 1).toNatClampNeg).toNatClampNeg (xs (l4 + 2).toNatClampNeg).toNatClampNeg) hI hG
    have w2 := i1.2.1.1
    refine ⟨V.1, V.2.1, m, rfl, w2, ?_⟩
    rw [i1.2.2.1]
    refine r_promise i1.2.1 g1 b1.2.2.2.1 ?_
    rw [zc]
    refine ⟨w2, w2, ?_⟩
    rw [e704]
    refine ⟨fun _ => ⟨fun y => absurd trivial y, fun _ => ⟨o, rfl, i1.o2.1, i1.o2.2, fun _ => hN _ (askI i1 b1), fun y => absurd ?_ y⟩⟩, fun y => absurd rfl y⟩
    have oa := out_at (v := dpr D (xs (l4 + 1).toNatClampNeg).toNatClampNeg (xs (l4 + 2).toNatClampNeg).toNatClampNeg) (m := m) (ra := ra) (S := pI S1 704 0) ho
    rw [z0] at oa
    rw [oa, A_pr, if_pos z]
theorem g_ke (V : V5 l4 N) (hk : k ≤ 520) (hI : IC M S L m o ra tp pg) (hG : BG k M S L C D) (hN : ∀ M1, INV (k + 1) (L 0 0) m o M1 → R (some (L 0 0)) (some m) (some o) (l4 + 6) M1) : bk_L_law_888 b N xs R K (some (L 0 0)) (some m) (some o) l4 M := by
  have g := hG
  obtain ⟨g1, g2, g3, g4, g5, g6, g7, g8, g9⟩ := g
  have lb : LB D := nn_LB (by omega)
  have ho := hI.2.2.2.2.2.2.2.2.2.1.1
  have w1 := hI.2.1.1
  refine ⟨V.1, V.2.1, L 0 0, rfl, hI.1.1, ?_⟩
  refine c_ke g1 g2 g6 (fun z => Or.inr (⟨rfl, ?_⟩)) (fun z => ⟨o, rfl, hI.o2.1, hI.o2.2, ?_⟩)
  · have zc : (A_ke C D (xs (l4 + 1).toNatClampNeg) (xs (l4 + 2).toNatClampNeg)).1 = 2 := z
    refine ⟨V.1, V.2.1, m, rfl, w1, ?_⟩
    rw [hI.2.2.1]
    refine r_kept hI.2.1 g1 g4 g6.1 ?_
    rw [zc]
    refine ⟨w1, w1, ?_⟩
    rw [e704]
    exact ⟨fun _ => ⟨fun _ => hN _ (askI hI hG), fun y => absurd y (by decide)⟩, fun y => absurd rfl y⟩
  · have zc : (A_ke C D (xs (l4 + 1).toNatClampNeg) (xs (l4 + 2).toNatClampNeg)).1 = 0 := z
    simp only [z0]
    obtain ⟨S1, i1, b1⟩ := outI (v := (A_ke C D (xs (l4 + 1).toNatClampNeg) (xs (l4 + 2).toNatClampNeg)).2.toInt64) hI hG
    have w2 := i1.2.1.1
    refine ⟨V.1, V.2.1, m, rfl, w2, ?_⟩
    rw [i1.2.2.1]
    refine r_kept i1.2.1 g1 b1.2.2.2.1 g6.1 ?_
    rw [zc]
    refine ⟨w2, w2, ?_⟩
    rw [e704]
    refine ⟨fun _ => ⟨fun y => absurd trivial y, fun _ => ⟨o, rfl, i1.o2.1, i1.o2.2, fun _ => hN _ (askI i1 b1), fun y => absurd ?_ y⟩⟩, fun y => absurd rfl y⟩
    have oa := out_at (v := (A_ke C D (xs (l4 + 1).toNatClampNeg) (xs (l4 + 2).toNatClampNeg)).2.toInt64) (m := m) (ra := ra) (S := pI S1 704 0) ho
    rw [z0] at oa
    rw [oa]
theorem g_out (V : V5 l4 N) (hk : k ≤ 520) (hI : IC M S L m o ra tp pg) (hG : BG k M S L C D) (hN : ∀ M1, INV (k + 1) (L 0 0) m o M1 → R (some (L 0 0)) (some m) (some o) (l4 + 6) M1) : bk_L_law_956 b N xs R K (some (L 0 0)) (some m) (some o) l4 M := by
  have g := hG
  obtain ⟨g1, g2, g3, g4, g5, g6, g7, g8, g9⟩ := g
  have lb : LB D := nn_LB (by omega)
  have ho := hI.2.2.2.2.2.2.2.2.2.1.1
  have w1 := hI.2.1.1
  refine ⟨V.1, V.2.1, L 0 0, rfl, hI.1.1, ?_⟩
  refine c_outA hI.1 g2.2.2.2.2.2.2.2.2.1 lb.1 (fun z => ⟨rfl, ?_⟩) (fun z => ⟨o, rfl, hI.o2.1, hI.o2.2, ?_⟩)
  · have zc : (A_no (dou D) 300 (xs (l4 + 1).toNatClampNeg) (xs (l4 + 2).toNatClampNeg)).1 = 1 := z
    refine ⟨V.1, V.2.1, m, rfl, w1, ?_⟩
    rw [hI.2.2.1]
    refine r_outA hI.2.1 g4 lb ?_
    rw [zc]
    refine ⟨w1, w1, ?_⟩
    rw [e704]
    exact ⟨fun _ => ⟨fun _ => hN _ (askI hI hG), fun y => absurd y (by decide)⟩, fun y => absurd rfl y⟩
  · have zc : (A_no (dou D) 300 (xs (l4 + 1).toNatClampNeg) (xs (l4 + 2).toNatClampNeg)).1 = 0 := z
    simp only [z0]
    obtain ⟨S1, i1, b1⟩ := outI (v := (A_no (dou D) 300 (xs (l4 + 1).toNatClampNeg) (xs (l4 + 2).toNatClampNeg)).2) hI hG
    have w2 := i1.2.1.1
    refine ⟨V.1, V.2.1, m, rfl, w2, ?_⟩
    rw [i1.2.2.1]
    refine r_outA i1.2.1 b1.2.2.2.1 lb ?_
    rw [zc]
    refine ⟨w2, w2, ?_⟩
    rw [e704]
    refine ⟨fun _ => ⟨fun y => absurd trivial y, fun _ => ⟨o, rfl, i1.o2.1, i1.o2.2, fun _ => hN _ (askI i1 b1), fun y => absurd ?_ y⟩⟩, fun y => absurd rfl y⟩
    have oa := out_at (v := (A_no (dou D) 300 (xs (l4 + 1).toNatClampNeg) (xs (l4 + 2).toNatClampNeg)).2) (m := m) (ra := ra) (S := pI S1 704 0) ho
    rw [z0] at oa
    rw [oa]
theorem g_late (V : V5 l4 N) (hk : k ≤ 520) (hI : IC M S L m o ra tp pg) (hG : BG k M S L C D) (hN : ∀ M1, INV (k + 1) (L 0 0) m o M1 → R (some (L 0 0)) (some m) (some o) (l4 + 6) M1) : bk_L_law_1023 b N xs R K (some (L 0 0)) (some m) (some o) l4 M := by
  have g := hG
  obtain ⟨g1, g2, g3, g4, g5, g6, g7, g8, g9⟩ := g
  have lb : LB D := nn_LB (by omega)
  have ho := hI.2.2.2.2.2.2.2.2.2.1.1
  have w1 := hI.2.1.1
  refine ⟨V.1, V.2.1, L 0 0, rfl, hI.1.1, ?_⟩
  refine c_lateA hI.1 g2.2.2.2.2.2.2.2.2.2.1 lb.2 (fun z => ⟨rfl, ?_⟩) (fun z => ⟨o, rfl, hI.o2.1, hI.o2.2, ?_⟩)
  · have zc : (A_no (dla D) 200 (xs (l4 + 1).toNatClampNeg) (xs (l4 + 2).toNatClampNeg)).1 = 1 := z
    refine ⟨V.1, V.2.1, m, rfl, w1, ?_⟩
    rw [hI.2.2.1]
    refine r_lateA hI.2.1 g4 lb ?_
    rw [zc]
    refine ⟨w1, w1, ?_⟩
    rw [e704]
    exact ⟨fun _ => ⟨fun _ => hN _ (askI hI hG), fun y => absurd y (by decide)⟩, fun y => absurd rfl y⟩
  · have zc : (A_no (dla D) 200 (xs (l4 + 1).toNatClampNeg) (xs (l4 + 2).toNatClampNeg)).1 = 0 := z
    simp only [z0]
    obtain ⟨S1, i1, b1⟩ := outI (v := (A_no (dla D) 200 (xs (l4 + 1).toNatClampNeg) (xs (l4 + 2).toNatClampNeg)).2) hI hG
    have w2 := i1.2.1.1
    refine ⟨V.1, V.2.1, m, rfl, w2, ?_⟩
    rw [i1.2.2.1]
    refine r_lateA i1.2.1 b1.2.2.2.1 lb ?_
    rw [zc]
    refine ⟨w2, w2, ?_⟩
    rw [e704]
    refine ⟨fun _ => ⟨fun y => absurd trivial y, fun _ => ⟨o, rfl, i1.o2.1, i1.o2.2, fun _ => hN _ (askI i1 b1), fun y => absurd ?_ y⟩⟩, fun y => absurd rfl y⟩
    have oa := out_at (v := (A_no (dla D) 200 (xs (l4 + 1).toNatClampNeg) (xs (l4 + 2).toNatClampNeg)).2) (m := m) (ra := ra) (S := pI S1 704 0) ho
    rw [z0] at oa
    rw [oa]
theorem g_ii (V : V5 l4 N) (hk : k ≤ 520) (hI : IC M S L m o ra tp pg) (hG : BG k M S L C D) (hN : ∀ M1, INV (k + 1) (L 0 0) m o M1 → R (some (L 0 0)) (some m) (some o) (l4 + 6) M1) : bk_L_law_721 b N xs R K (some (L 0 0)) (some m) (some o) l4 M := by
  have g := hG
  obtain ⟨g1, g2, g3, g4, g5, g6, g7, g8, g9⟩ := g
  have ho := hI.2.2.2.2.2.2.2.2.2.1.1
  have w1 := hI.2.1.1
  refine ⟨V.1, L 0 0, rfl, hI.1.1, ?_⟩
  refine c_ii g1 g2 (fun z => Or.inr ⟨rfl, ?_⟩) (fun z => ?_)
  · have zc : (A_ii C D (xs (l4 + 1).toNatClampNeg)).1 = 2 := by rw [A_ii, if_neg z]
    refine ⟨V.1, m, rfl, w1, ?_⟩
    rw [hI.2.2.1]
    refine r_isIdle hI.2.1 g1 g4 ?_
    rw [zc]
    refine ⟨w1, w1, ?_⟩
    rw [e704]
    exact ⟨fun _ => ⟨fun _ => hN _ (askI hI hG), fun y => absurd y (by decide)⟩, fun y => absurd rfl y⟩
  · have zc : (A_ii C D (xs (l4 + 1).toNatClampNeg)).1 = 0 := by rw [A_ii, if_pos z]
    have zv : (A_ii C D (xs (l4 + 1).toNatClampNeg)).2 = bI (did D (xs (l4 + 1).toNatClampNeg).toNatClampNeg) := by rw [A_ii, if_pos z]
    have fin : ∀ v : Int64, v = (if did D (xs (l4 + 1).toNatClampNeg).toNatClampNeg = true then 1 else 0) → ∀ KK : Int32 → Mm → Prop, (∀ M2 S2, IC M2 S2 L m o ra tp pg → BG k M2 S2 L C D → M2 = tJ M o 0 v → KK 0 M2) → bk_L_isIdle_15 KK v 0 (some o) M := fun v _ KK hq => by
      refine ⟨o, rfl, hI.o2.1, hI.o2.2, ?_⟩
      rw [z0]
      obtain ⟨S1, i1, b1⟩ := outI (v := v) hI hG
      exact hq _ S1 i1 b1 rfl
    have st : ∀ v : Int64, v = (if did D (xs (l4 + 1).toNatClampNeg).toNatClampNeg = true then 1 else 0) → ∀ M2 S2, IC M2 S2 L m o ra tp pg → BG k M2 S2 L C D → M2 = tJ M o 0 v → vp_in (l4 + 1) N ∧ ∃ a195, some m = some a195 ∧ mK M2 a195 = 12 ∧ wp_X11_isIdle M2 a195 (xs (l4 + 1).toNatClampNeg) (fun r193 M194 => mK M194 a195 = 12 ∧ wp_X11_thrown M194 a195 (fun r199 M200 => ((r199 = 0 → ((¬ (0 : Int32) = 0 → bk_L_law_781 b N xs R K (some (L 0 0)) (some m) (some o) l4 M200) ∧ ((0 : Int32) = 0 → ∃ a203, some o = some a203 ∧ isA M200 a203 2 ∧ vp_in (0 : Int32) (aN M200 a203) ∧ ((r193 = 0 → bk_L_law_775 b N xs R K (some (L 0 0)) (some m) (some o) l4 (0 : Int64) (aJ M200 a203 ((0 : Int32)).toNatClampNeg) M200) ∧ (¬ r193 = 0 → bk_L_law_775 b N xs R K (some (L 0 0)) (some m) (some o) l4 (1 : Int64) (aJ M200 a203 ((0 : Int32)).toNatClampNeg) M200))))) ∧ (¬ r199 = 0 → K (0 : Int32) M200)))) := fun v hv M2 S2 i1 b1 em => by
      have w2 := i1.2.1.1
      refine ⟨V.1, m, rfl, w2, ?_⟩
      rw [i1.2.2.1]
      refine r_isIdle i1.2.1 g1 b1.2.2.2.1 ?_
      rw [zc, zv]
      refine ⟨w2, w2, ?_⟩
      rw [e704]
      have oa : aJ (pM M2 m ra (pI S2 704 0)) o (0 : Int32).toNatClampNeg = v := by
        rw [em, z0]
        have oa := out_at (v := v) (m := m) (ra := ra) (S := pI S2 704 0) ho
        rw [z0] at oa
        exact oa
      have nx := hN _ (askI (v := 0) i1 b1)
      refine ⟨fun _ => ⟨fun y => absurd rfl y, fun _ => ⟨o, rfl, i1.o2.1, i1.o2.2, ?_⟩⟩, fun y => absurd rfl y⟩
      rw [oa]
      by_cases e : did D (xs (l4 + 1).toNatClampNeg).toNatClampNeg = true
      · rw [if_pos e] at hv
        rw [e]
        exact ⟨fun y => absurd y (by decide), fun _ => ⟨fun _ => nx, fun y => absurd hv y⟩⟩
      · rw [if_neg e] at hv
        rw [Bool.eq_false_iff.2 e]
        exact ⟨fun _ => ⟨fun _ => nx, fun y => absurd hv y⟩, fun y => absurd rfl y⟩
    by_cases e : did D (xs (l4 + 1).toNatClampNeg).toNatClampNeg = true
    · rw [e]
      exact ⟨fun y => absurd y (by decide), fun _ => fin 1 (by rw [if_pos e]) _ (st 1 (by rw [if_pos e]))⟩
    · rw [Bool.eq_false_iff.2 e]
      exact ⟨fun _ => fin 0 (by rw [if_neg e]) _ (st 0 (by rw [if_neg e])), fun y => absurd rfl y⟩
theorem g_part (V : V5 l4 N) (hk : k ≤ 520) (hI : IC M S L m o ra tp pg) (hG : BG k M S L C D) (hN : ∀ M1, INV (k + 1) (L 0 0) m o M1 → R (some (L 0 0)) (some m) (some o) (l4 + 6) M1) : bk_L_law_851 b N xs R K (some (L 0 0)) (some m) (some o) l4 M := by
  obtain ⟨g1, g2, g3, g4, g5, g6, g7, g8, g9⟩ := (id hG)
  refine ⟨V.1, V.2.1, L 0 0, rfl, hI.1.1, c_pa g1 g2 g6 ⟨V.1, V.2.1, m, rfl, hI.2.1.1, ?_⟩⟩
  rw [hI.2.2.1]
  exact r_part hI.2.1 g1 g4 g6.1 ⟨fun _ => hN _ (askI hI hG), fun y => absurd rfl y⟩
theorem g_told (V : V5 l4 N) (hk : k ≤ 520) (hI : IC M S L m o ra tp pg) (hG : BG k M S L C D) (hN : ∀ M1, INV (k + 1) (L 0 0) m o M1 → R (some (L 0 0)) (some m) (some o) (l4 + 6) M1) : bk_L_law_1090 b N xs R K (some (L 0 0)) (some m) (some o) l4 M := by
  obtain ⟨g1, g2, g3, g4, g5, g6, g7, g8, g9⟩ := (id hG)
  have e : gI S 706 = mI M 1 (L 0 8) := by rw [hI.2.2.2.2.1.1, hI.2.2.2.1.2.2.2.2.1]
  refine ⟨V.1, L 0 0, rfl, hI.1.1, c_told g1 g2 g6 ⟨V.1, m, rfl, hI.2.1.1, ?_⟩⟩
  rw [← e]
  have q := r_told hI.2.1 g1 (K := fun r M1 => (A_told C D (gI S 706) (xs (l4 + 1).toNatClampNeg) = r → bk_L_law_1153 b N xs R K (some (L 0 0)) (some m) (some o) l4 M1) ∧ (¬ A_told C D (gI S 706) (xs (l4 + 1).toNatClampNeg) = r → K 0 M1)) (w := (xs (l4 + 1).toNatClampNeg)) g4 g6.1 ⟨fun _ => hN _ (askI hI hG), fun y => absurd rfl y⟩
  rw [← hI.2.2.1] at q
  exact q
end D5
