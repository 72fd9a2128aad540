/-! the class: goals, sums that are closed, all reckoned -/
theorem kw_eq {k : Nat} (h : k ≤ 5) : (kw k = 504363577198) = (k = 1) ∧ (kw k = 1785686382) = (k = 4) ∧ (kw k = 1752132708) = (k = 3) := by
  rcases (show k = 0 ∨ k = 1 ∨ k = 2 ∨ k = 3 ∨ k = 4 ∨ k = 5 by omega) with rfl | rfl | rfl | rfl | rfl | rfl <;> decide
theorem plus_0M {t : Int64} (h : HM t) : plusF t 0 = t := by
  rcases h with rfl | rfl | h
  · rfl
  · rfl
  · exact plus_0 h
section K11
variable {B M : Mm} {L : Nat → Nat → Nat} {C : Cfg} {D : Dyn}
theorem c_goalOf {K : Int64 → Mm → Prop} {s : Nat} (hW : WC C) (h : CR B M L C D) (hs : s < cn C) (hI : IV C D) (hp : PB D) (hK : K (gv (a_goal C D s)) M) : wp_X1_goalOf M (L 0 1) (some (L 1 s)) K := by
  have h12 := hW.1
  obtain ⟨w1, w2, w3, w4, w5, w6, w7, -⟩ := hW.2.2.2 s hs
  obtain ⟨s1, s2, s3, s4, s5, s6, s7, s8, s9, s10, s11, s12, s13⟩ := h.2.1.2.2.2.1 s hs
  obtain ⟨g1, g2, g3, g4, g5, g6, g7, -⟩ := h.2.1.2.2.1
  obtain ⟨kw1, kw4, kw3⟩ := kw_eq w1
  have hA := isA_of (t := 4) s6 (by decide) (by decide)
  unfold wp_X1_goalOf
  refine ⟨L 1 s, rfl, s2, ?_⟩
  rw [s11, s4, kw1, kw4, kw3]
  by_cases k0 : ckd C s = 0
  · rw [if_pos k0]
    refine ⟨fun z => (by cases z), fun a ha => ?_⟩
    cases ha
    have c1 := (h.2.1.2.2.2.2.2.1 s hs k0).1
    exact ⟨c1, c_srcGoal hW h hs k0 hp hK⟩
  · rw [if_neg k0]
    refine ⟨fun _ => ⟨fun z => ?_, fun z => ⟨fun y => ?_, fun y => ?_⟩⟩, fun a ha => (by cases ha)⟩
    · rw [a_goal, if_neg k0, if_pos (Or.inl z)] at hK
      exact ⟨L 1 s, rfl, s2, c_inputs hW h hs hp hK⟩
    · have hlen : (cin C s).length = 1 := w7 (by omega)
      have i0 := h.2.1.2.2.2.2.1 s 0 hs (by omega)
      have b0 := hW.2.2.1 s 0 hs (by omega)
      have k7 := (h.2.1.2.2.2.1 (a_in C s 0) (by omega)).2.1
      have m0 := h.2.2.1 (a_in C s 0) (by omega)
      have d0 := h.2.2.2.1 (a_in C s 0) (by omega)
      have m1 := h.2.2.1 s hs
      -- without a ticket
      have plain : K (gv (if did D (a_in C s 0) then none else some (plusF (dmk D (a_in C s 0)) (if ckd C s = 2 then co1 C s else 0)))) M → bk_X1_goalOf_111 (L 0 1) K (some (L 1 s)) (some (L 1 (a_in C s 0))) M := fun hk => by
        simp only [bk_X1_goalOf_111, bk_X1_goalOf_135, k7, d0, m0, bI_0, s2, s10, e_tog, Option.some.injEq, exists_eq_left', true_and]
        refine ⟨fun q => by rw [q] at hk; exact hk, fun q => ?_⟩
        rw [Bool.not_eq_false] at q
        rw [q] at hk; exact hk
      simp (disch := omega) only [s5, s7, hA, na3, i0, Option.some.injEq, exists_eq_left', true_and]
      rw [a_goal, if_neg k0, if_neg (by omega)] at hK
      refine ⟨fun x => plain ?_, fun x => ?_⟩
      · rw [if_neg x] at hK
        have e : (if ckd C s = 2 then plusF (dmk D (a_in C s 0)) (co1 C s) else dmk D (a_in C s 0)) = plusF (dmk D (a_in C s 0)) (if ckd C s = 2 then co1 C s else 0) := by
          by_cases c : ckd C s = 2
          · rw [if_pos c, if_pos c]
          · rw [if_neg c, if_neg c, plus_0M (hp.2.2.2.2 _)]
        rw [e] at hK; exact hK
      · rw [if_pos x] at hK
        have F := CTF h
        have ht : ∀ x ∈ dti D, x.1 < 2147483648 := fun x hx => by have := (hI.2.2 x hx).1; omega
        refine ⟨g1, L 0 4, g6, F.1, ?_⟩
        rw [s3]
        refine c_tcount (by omega) h ht ?_
        have ec : a_hc (fun x => x.2.2 && decide (x.1 = s)) (dti D) = nI ((dti D).filter (fun x => x.2.2 && decide (x.1 = s))).length := by
          have := hc_nat (fun x => x.2.2 && decide (x.1 = s)) (dti D) 0
          rw [Nat.zero_add] at this
          exact this
        have h60 := h.2.2.2.2.2.2.2.2.2.2.2.2.2.2.2.1
        have hfl : ((dti D).filter (fun x => x.2.2 && decide (x.1 = s))).length ≤ (dti D).length := List.length_filter_le _ _
        rw [ec]
        simp (disch := omega) only [na2]
        refine ⟨fun v => plain ?_, fun v => ?_⟩
        · have e0 : (dti D).filter (fun x => x.2.2 && decide (x.1 = s)) = [] := List.length_eq_zero_iff.mp (by omega)
          have eh : a_holdG D s = none := hold_none (dti D) none e0
          rw [eh] at hK
          dsimp only at hK
          have e2 : (if ckd C s = 2 then co1 C s else 0) = 0 := if_neg (by omega)
          rw [e2, plus_0M (hp.2.2.2.2 _)]
          exact hK
        · have ne : ¬ (dti D).filter (fun x => x.2.2 && decide (x.1 = s)) = [] := fun e => v (by rw [e]; exact Nat.le_refl 0)
          obtain ⟨eh, q1, q2⟩ := hold_some (s := s) (dti D) none 9000000000000000000 (fun x hx => (hI.2.2 x hx).2) (Or.inl ⟨rfl, rfl⟩) (fun _ => ne)
          have eh : a_holdG D s = some (a_lt (fun x => x.2.2 && decide (x.1 = s)) (dti D) 9000000000000000000 - 1) := eh
          rw [eh] at hK
          dsimp only at hK
          have fin : ∀ b : Int64, b = (if did D (a_in C s 0) then dmk D s else dmk D (a_in C s 0)) → bk_X1_goalOf_92 (L 0 1) K (some (L 1 s)) b M := fun b hb => by
            rw [← hb] at hK
            unfold bk_X1_goalOf_92
            refine ⟨g1, L 1 s, rfl, s2, L 0 4, g6, F.1, ?_⟩
            rw [s3]
            refine c_tleast (by omega) h ht ?_
            generalize a_lt (fun x => x.2.2 && decide (x.1 = s)) (dti D) 9000000000000000000 - 1 = g at hK ⊢
            have e9 : gv (a_least (some g) b) = if g < b then g else b := by
              show (if b < g then b else g) = _
              by_cases c1 : b < g
              · rw [if_pos c1, if_neg (fun c2 => by have := Int64.lt_iff_toInt_lt.mp c1; have := Int64.lt_iff_toInt_lt.mp c2; omega)]
              · rw [if_neg c1]
                by_cases c2 : g < b
                · rw [if_pos c2]
                · rw [if_neg c2]
                  apply Int64.toInt_inj.mp
                  have h1 : ¬ b.toInt < g.toInt := fun z => c1 (Int64.lt_iff_toInt_lt.mpr z)
                  have h2 : ¬ g.toInt < b.toInt := fun z => c2 (Int64.lt_iff_toInt_lt.mpr z)
                  omega
            rw [e9] at hK
            exact hK
          simp only [k7, d0, m0, m1, s2, bI_0, Option.some.injEq, exists_eq_left', true_and]
          refine ⟨fun u => fin _ (by rw [u]; rfl), fun u => fin _ ?_⟩
          rw [Bool.not_eq_false] at u
          rw [u]; rfl
    · rw [a_goal, if_neg k0, if_pos (Or.inr y)] at hK
      exact ⟨L 1 s, rfl, s2, c_inputs hW h hs hp hK⟩
theorem c_wdropL {K : Mm → Prop} {s : Nat} {l : List Ent} (hs : s < cn C) (h5 : ckd C s = 5) (hl : 0 < l.length) (h24 : l.length ≤ 24) (hK : ∀ M1, CR B M1 L C (xwi D s l.tail) → K M1) : ∀ (r i : Nat) (M : Mm), 1 ≤ i → i + r = l.length → CR B M L C (xwi D s (wl M L s l.length)) → (∀ j e, j + 1 < i → l[j + 1]? = some e → cw3 M L s j = e) → (∀ j e, i ≤ j → l[j]? = some e → cw3 M L s j = e) → lp_X9_dropFirst_2 (L 16 s) K (r + 1) (nI i) M := by
  intro r
  induction r with
  | zero =>
    intro i M hi1 hi h h1 h2
    have F := CWF h hs h5
    have hwl := h.2.2.2.2.2.2.2.2.2.2.2.1 s hs h5
    simp only [dg, if_true] at hwl
    have e1 := hwl.2.1
    rw [wl_len] at e1
    rw [lp_X9_dropFirst_2]
    simp (disch := omega) only [F, e1, n_le, na1, na2, show l.length ≤ i by omega, show ¬ l.length ≤ 0 by omega, bk_X9_dropFirst_58, not_true, not_false_eq_true, false_implies, forall_const, true_and, and_true]
    have h3 := CR_wcnt (n := l.length - 1) h hs h5 (by omega)
    have e2 : wl M L s (l.length - 1) = l.tail := by
      refine wl_ext (by simp) (fun j e hj => ?_)
      have hjl := (List.getElem?_eq_some_iff.mp hj).1
      simp at hjl
      rw [List.getElem?_tail] at hj
      exact h1 j e (by omega) hj
    rw [e2] at h3
    exact hK _ h3
  | succ r ih =>
    intro i M hi1 hi h h1 h2
    have F := CWF h hs h5
    have hwl := h.2.2.2.2.2.2.2.2.2.2.2.1 s hs h5
    simp only [dg, if_true] at hwl
    have e1 := hwl.2.1
    rw [wl_len] at e1
    obtain ⟨e, he⟩ : ∃ e, l[i]? = some e := ⟨l[i], List.getElem?_eq_getElem (by omega)⟩
    have e3 := h2 i e (Nat.le_refl i) he
    have q1 : aJ M (L 17 s) i = e.1 := congrArg (fun z => z.1) e3
    have q2 : aI M (L 18 s) i = e.2.1 := congrArg (fun z => z.2.1) e3
    have q3 : aI M (L 19 s) i = e.2.2 := congrArg (fun z => z.2.2) e3
    rw [lp_X9_dropFirst_2]
    simp (disch := omega) only [F, e1, n_le, na1, n_in, n_clamp, show ¬ l.length ≤ i by omega, q1, q2, q3, Option.some.injEq, exists_eq_left', not_false_eq_true, false_implies, forall_const, true_and, and_true]
    refine c_wput h hs h5 (by omega) ?_
    have h3 := CR_wput (i := i - 1) (e := e) h wl_len hs h5
    refine ih (i + 1) _ (by omega) (by omega) h3 (fun j e' hj he' => ?_) (fun j e' hj he' => ?_)
    · rw [cw3_cwst h hs h5 hs h5]
      by_cases c : j = i - 1
      · rw [if_pos ⟨rfl, c⟩]
        rw [show j + 1 = i by omega, he] at he'
        cases he'; rfl
      · rw [if_neg (fun z => c z.2)]
        exact h1 j e' (by omega) he'
    · rw [cw3_cwst h hs h5 hs h5, if_neg (by omega)]
      exact h2 j e' (by omega) he'
theorem c_wdrop {K : Mm → Prop} {s : Nat} {e : Ent} {l : List Ent} (h : CR B M L C D) (hs : s < cn C) (h5 : ckd C s = 5) (hl : dwi D s = e :: l) (hK : ∀ M1, CR B M1 L C (xwi D s l) → K M1) : wp_X9_dropFirst M (L 16 s) K := by
  obtain ⟨kk, e1, h24, hent⟩ := h.2.2.2.2.2.2.2.2.2.2.2.1 s hs h5
  have hwl : wl M L s (dwi D s).length = dwi D s := wl_ext rfl hent
  have h' : CR B M L C (xwi D s (wl M L s (dwi D s).length)) := by rw [hwl, xwi_self]; exact h
  exact ⟨(dwi D s).length - 1 + 1, c_wdropL (B := B) (D := D) (l := dwi D s) hs h5 (by rw [hl]; simp) h24 (by rw [hl]; exact hK) _ 1 M (Nat.le_refl 1) (by rw [hl]; simp; omega) h' (fun j e hj => by omega) (fun j e _ he => hent j e he)⟩
theorem c_closeL {K : Mm → Prop} {s : Nat} (hW : WC C) (hs : s < cn C) (h5 : ckd C s = 5) : ∀ (n : Nat) (M : Mm) (D : Dyn), (dwi D s).length = n → CR B M L C D → Inv D → LB (a_close C s n D) → (∀ M1, CR B M1 L C (a_close C s n D) → K M1) → lp_X1_closeSums_10 (L 0 1) K (n + 1) (some (L 1 s)) (some (L 16 s)) (nI n) M := by
  intro n
  induction n with
  | zero =>
    intro M D hn h hI hb hK
    rw [lp_X1_closeSums_10]
    exact ⟨fun _ => hK M h, fun z => absurd (by decide) z⟩
  | succ n ih =>
    intro M D hn h hI hb hK
    have F := CWF h hs h5
    obtain ⟨kk, e1, h24, hent⟩ := h.2.2.2.2.2.2.2.2.2.2.2.1 s hs h5
    have s2 := (h.2.1.2.2.2.1 s hs).2.1
    have m1 := h.2.2.1 s hs
    cases hw : dwi D s with
    | nil => rw [hw] at hn; simp at hn
    | cons e l =>
      have e3 := hent 0 e (by rw [hw]; rfl)
      have q1 : aJ M (L 17 s) 0 = e.1 := congrArg (fun z => z.1) e3
      have q2 : aI M (L 18 s) 0 = e.2.1 := congrArg (fun z => z.2.1) e3
      have q3 : aI M (L 19 s) 0 = e.2.2 := congrArg (fun z => z.2.2) e3
      rw [a_close, hw] at hb hK
      dsimp only at hb hK
      rw [lp_X1_closeSums_10]
      simp (disch := omega) only [na2, show ¬ n + 1 ≤ 0 by omega, F, wp_X9_lastTime, na3, q1, q2, q3, e_tog, s2, m1, bk_X1_closeSums_72, h.2.1.2.2.1.1, Option.some.injEq, exists_eq_left', not_false_eq_true, false_implies, forall_const, true_and, and_true]
      refine ⟨fun z => ?_, fun z => ?_⟩
      · rw [if_neg (Int64.not_le.mpr z)] at hK
        exact hK M h
      · rw [if_pos (Int64.not_lt.mp z)] at hb hK
        refine c_wdrop h hs h5 hw (fun M1 h1 => ⟨h1.2.1.2.2.1.1, ?_⟩)
        have hs0 := hI.1 s
        have hb0 := hI.2.2 s
        rw [hw] at hs0 hb0
        have hI1 : Inv (xwi D s l) := inv_wi hI (List.pairwise_cons.mp hs0).2 (fun x hx => hb0 x (by simp [hx]))
        have hu := up_pass hW.2.1 30 (xwi D s l) s (plusF e.1 (co1 C s - 1)) e.2.1 e.2.2
        have h12 := hW.1
        refine c_pass hW 30 M1 _ s _ _ _ 0 _ hs (by omega) (Nat.zero_le _) h1 hI1 (plus_BW (hb0 e (by simp))) (LB.uq (uq_close hW.2.1 n _) hb) (fun M2 h2 => ?_)
        rw [show nI (n + 1) + (-1) = nI n by rw [show nI (n + 1) + (-1) = nI (n + 1) - 1 from (Int32.sub_eq_add_neg ..).symm]; exact nI_pred n]
        refine ih M2 _ ?_ h2 (inv_pass hW 30 _ s _ _ _ hI1 (plus_BW (hb0 e (by simp)))) hb hK
        rw [(hu.2.2.2.2.2.2.2.1 s (Nat.le_refl s)).1]
        simp only [dg, if_true]
        rw [hw] at hn
        simpa using hn
theorem c_66 {R2 : Int32 → Mm → Prop} {K : Mm → Prop} {s : Nat} (hW : WC C) (hs : s < cn C) (h : CR B M L C D) (hK : ∀ M1, CR B M1 L C (if ckd C s = 4 then a_drop C (a_drop C D s 0) s 1 else D) → R2 (nI (s + 1)) M1) : bk_X1_reckon_66 (L 0 1) R2 K (nI s) (some (L 1 s)) M := by
  obtain ⟨s1, s2, s3, s4, s5, s6, s7, s8, s9, s10, s11, s12, s13⟩ := h.2.1.2.2.2.1 s hs
  unfold bk_X1_reckon_66 bk_X1_reckon_80
  rw [show nI s + 1 = nI (s + 1) from nI_add _ 1]
  refine ⟨L 1 s, rfl, s2, ?_⟩
  rw [s12]
  by_cases k4 : ckd C s = 4
  · rw [if_pos k4] at hK ⊢
    refine ⟨fun z => (by cases z), fun a ha => ?_⟩
    cases ha
    exact ⟨(h.2.1.2.2.2.2.2.2.1 s hs k4).1, c_dropFar hW h hs k4 hK⟩
  · rw [if_neg k4] at hK ⊢
    exact ⟨fun _ => hK M h, fun a ha => (by cases ha)⟩
theorem c_54 {R2 : Int32 → Mm → Prop} {K : Mm → Prop} {s : Nat} {D0 : Dyn} (hW : WC C) (hs : s < cn C) (h : CR B M L C D) (hI : Inv D) (hw0 : dwi D = dwi D0) (hb : LB (if ckd C s = 5 then a_close C s (dwi D0 s).length D else if ckd C s = 4 then a_drop C (a_drop C D s 0) s 1 else D)) (hK : ∀ M1, CR B M1 L C (if ckd C s = 5 then a_close C s (dwi D0 s).length D else if ckd C s = 4 then a_drop C (a_drop C D s 0) s 1 else D) → R2 (nI (s + 1)) M1) : bk_X1_reckon_54 (L 0 1) R2 K (nI s) (some (L 1 s)) M := by
  obtain ⟨s1, s2, s3, s4, s5, s6, s7, s8, s9, s10, s11, s12, s13⟩ := h.2.1.2.2.2.1 s hs
  unfold bk_X1_reckon_54
  refine ⟨L 1 s, rfl, s2, ?_⟩
  rw [s13]
  by_cases k5 : ckd C s = 5
  · rw [if_pos k5] at hb hK ⊢
    rw [← hw0] at hb hK
    refine ⟨fun z => (by cases z), fun a ha => ⟨h.2.1.2.2.1.1, ?_⟩⟩
    unfold wp_X1_closeSums
    obtain ⟨kk, e1, h24, hent⟩ := h.2.2.2.2.2.2.2.2.2.2.2.1 s hs k5
    refine ⟨L 1 s, rfl, s2, L 16 s, by rw [s13, if_pos k5], (CWF h hs k5).1, (dwi D s).length + 1, ?_⟩
    rw [s13, if_pos k5, e1]
    refine c_closeL hW hs k5 _ M D rfl h hI hb (fun M1 h1 => c_66 hW hs h1 (fun M2 h2 => hK M2 ?_))
    rw [if_neg (by omega)] at h2
    exact h2
  · rw [if_neg k5] at hb hK ⊢
    exact ⟨fun _ => c_66 hW hs h hK, fun a ha => (by cases ha)⟩
theorem c_37 {R2 : Int32 → Mm → Prop} {K : Mm → Prop} {s : Nat} (hW : WC C) (hs : s < cn C) (h : CR B M L C D) (hI : Inv D) (hp : PB D) (hg : ∀ v, a_goal C D s = some v → -9000000000000000000 ≤ v.toInt) (hb : LB (a_step C D s)) (hK : ∀ M1, CR B M1 L C (a_step C D s) → R2 (nI (s + 1)) M1) : bk_X1_reckon_37 (L 0 1) R2 K (nI s) (some (L 1 s)) (gv (a_goal C D s)) (bI (a_goal C D s).isNone) (some (L 1 s)) M := by
  have s2 := (h.2.1.2.2.2.1 s hs).2.1
  have m1 := h.2.2.1 s hs
  have e9 : (-9000000000000000001 : Int64).toInt = -9000000000000000001 := by decide
  unfold a_step at hb hK
  unfold bk_X1_reckon_37
  refine ⟨L 1 s, rfl, s2, bI_bz _, L 1 s, rfl, s2, ?_⟩
  have e0 : ∀ v, mJ (sI M 391 (L 1 s) v) 390 (L 1 s) = dmk D s := fun v => m1
  rw [e0]
  cases hgo : a_goal C D s with
  | none =>
    rw [hgo] at hb hK
    have h1 := CR_id (b := true) h hs
    refine ⟨fun _ => c_54 (D0 := D) hW hs h1 (inv_raise (g := none) hI) rfl hb hK, fun z => absurd ?_ z⟩
    rw [Int64.le_iff_toInt_le]
    show (-9000000000000000001 : Int64).toInt ≤ _
    rw [e9]
    have := (hp.2.2.1 s).1
    omega
  | some v =>
    rw [hgo] at hb hK
    have h1 := CR_id (b := false) h hs
    refine ⟨fun z => ?_, fun z => ?_⟩
    · have e : a_raise D s (some v) = xid D s false := by
        have z : v ≤ dmk D s := z
        rw [a_raise, if_neg (Int64.not_lt.mpr z)]
      rw [e] at hb hK
      exact c_54 (D0 := D) hW hs h1 (by rw [← e]; exact inv_raise hI) rfl hb hK
    · have e : a_raise D s (some v) = xmk (xid D s false) s v := by
        have z : ¬ v ≤ dmk D s := z
        rw [a_raise, if_pos (Int64.not_le.mp z)]
      rw [e] at hb hK
      have hI2 : Inv (xmk (xid D s false) s v) := by rw [← e]; exact inv_raise hI
      exact c_54 (D0 := D) hW hs (CR_mk h1 hs) hI2 rfl hb hK
end K11
