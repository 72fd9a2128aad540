/-! the reference: mark, end, idle, hold, release -/
section R18
variable {M : Mm} {m : Nat} {ra : Nat → Nat} {C : Cfg} {S : St} {D : Dyn}
theorem r_mark (h : SH M m ra) (hW : WC C) {K : Int32 → Mm → Prop} {p q : Int32} {t : Int64} (hA : SA S C D) (hI : IV C D) (hb : LB (A_mark C D p q t).2) (hK : ∀ S1, SA S1 C (A_mark C D p q t).2 → K (A_mark C D p q t).1 (pM M m ra S1)) : wp_X11_mark (pM M m ra S) m p q t K := by
  have h12 := hW.1
  have hA0 : SA (pI S 704 0) C D := SA_code hA
  have ht12 : ∀ x ∈ dti D, x.1 < 12 := hI.hts hW
  simp only [wp_X11_mark, p_mK, FK h, p_sI, e_isPart h hW hA0.1, e_isTime, bI_0, true_and, bk_X11_mark_21]
  unfold A_mark at hb hK
  by_cases c1 : isPt C p q = true
  · by_cases c2 : isTm t = true
    · rw [if_pos ⟨c1, c2⟩] at hb hK
      obtain ⟨s, k, hs, rfl, hk0, hk, rfl⟩ := (isPt_iff hW).mp c1
      have h4 := (hW.2.2.2 s hs).2.1
      rw [n_clamp (by omega), n_clamp (by omega)] at hb hK
      have p1 := hA0.2.2.2.1 s k hs (by omega)
      have hps := hI.2.1 s k
      simp (disch := omega) only [c1, c2, RF h, p_mK, p_mR, p_aN, p_aR, p_mI, p_mJ, p_sI, p_sJ, Option.some.injEq, exists_eq_left', true_and, and_true, na1, na3, n_add, n_mul, n_clamp, n_in, p1, na2, Bool.true_eq_false, not_true, not_false_eq_true, false_implies, forall_const]
      unfold a_mark at hb hK
      refine ⟨fun z => ?_, fun z => ?_⟩
      · rw [if_neg z] at hb hK
        refine r_isStopped h hW hA0 hI.2.1 hs (by omega) ?_
        simp only [bI_0]
        refine ⟨fun y => ?_, fun y => ?_⟩
        · rw [if_neg (by rw [y]; decide)] at hb hK
          refine ⟨FK h, r_hear h hW hA0 hs (by omega) (fun S1 hA1 => ?_)⟩
          have q1 := hA1.2.2.2.2.1 s k hs (by omega)
          have q1' : vJ S1 736 (4 * s + k) = dpr D s k := q1
          have hI1 : Inv (a_hear D s k) := hI.1
          simp (disch := omega) only [RF h, p_mK, p_mR, p_aN, p_aR, p_mI, p_mJ, p_sI, p_sJ, Option.some.injEq, exists_eq_left', true_and, and_true, na1, na3, n_add, n_mul, n_clamp, n_in, q1', bk_X11_mark_79, bk_X11_mark_103, bk_X11_mark_118, show ((1 : Int32) = 0) = False by decide, not_true, not_false_eq_true, false_implies, forall_const]
          refine ⟨fun w => ?_, fun w => ?_⟩
          · rw [if_pos w] at hb hK
            have e0 : SA (wJ S1 736 (4 * s + k) (dpr D s k)) C (a_hear D s k) := SA_pr0 (by omega) hA1
            exact r_reckon h hW e0 hI1 (ps_hear hI.2.1) ht12 hb (fun S3 hA3 => hK S3 hA3)
          · rw [if_neg w] at hb hK
            exact r_reckon h hW (SA_pr (v := t) (by omega) hA1) hI1 (ps_hear hI.2.1) ht12 hb (fun S3 hA3 => hK S3 hA3)
        · rw [Bool.not_eq_false] at y
          rw [if_pos y] at hK
          exact hK _ hA0
      · rw [if_pos z] at hK
        exact hK _ hA0
    · rw [if_neg (fun z => c2 z.2)] at hK
      have hbad : K (-1) (pM M m ra (pI S 704 0)) := hK _ hA0
      rw [Bool.not_eq_true] at c2
      simp only [c1, c2, Bool.true_eq_false, not_false_eq_true, not_true, false_implies, forall_const, true_and]
      exact hbad
  · rw [if_neg (fun z => c1 z.1)] at hK
    have hbad : K (-1) (pM M m ra (pI S 704 0)) := hK _ hA0
    rw [Bool.not_eq_true] at c1
    simp only [c1, not_true, false_implies, forall_const]
    exact ⟨hbad, trivial⟩
theorem ps_set {s k v : Nat} (hv : v ≤ 2) (h : ∀ s k, dps D s k ≤ 2) : ∀ q j, dps (xps D s k v) q j ≤ 2 := fun q j => by
  simp only [dg]
  by_cases a : q = s
  · rw [if_pos a]
    by_cases b : j = k
    · rw [if_pos b]; exact hv
    · rw [if_neg b]; exact h q j
  · rw [if_neg a]; exact h q j
theorem r_end (h : SH M m ra) (hW : WC C) {K : Int32 → Mm → Prop} {p q : Int32} (hA : SA S C D) (hI : IV C D) (hb : LB (A_end C D p q).2) (hK : ∀ S1, SA S1 C (A_end C D p q).2 → K (A_end C D p q).1 (pM M m ra S1)) : wp_X11_end (pM M m ra S) m p q K := by
  have h12 := hW.1
  have hA0 : SA (pI S 704 0) C D := SA_code hA
  have ht12 : ∀ x ∈ dti D, x.1 < 12 := hI.hts hW
  simp only [wp_X11_end, p_mK, FK h, p_sI, e_isPart h hW hA0.1, bI_0, true_and]
  unfold A_end at hb hK
  by_cases c1 : isPt C p q = true
  · rw [if_pos c1] at hb hK
    obtain ⟨s, k, hs, rfl, hk0, hk, rfl⟩ := (isPt_iff hW).mp c1
    have h4 := (hW.2.2.2 s hs).2.1
    rw [n_clamp (by omega), n_clamp (by omega)] at hb hK
    have p1 := hA0.2.2.2.1 s k hs (by omega)
    have hps := hI.2.1 s k
    simp (disch := omega) only [c1, RF h, p_mK, p_mR, p_aN, p_aR, p_mI, p_mJ, p_sI, p_sJ, Option.some.injEq, exists_eq_left', true_and, and_true, na1, na3, n_add, n_mul, n_clamp, n_in, p1, na2, Bool.true_eq_false, not_true, not_false_eq_true, false_implies, forall_const]
    unfold a_end at hb hK
    refine ⟨fun z => ?_, fun z => ?_⟩
    · rw [if_neg z] at hb hK
      have hA1 : SA (wJ (wI (pI S 704 0) 735 (4 * s + k) 2) 736 (4 * s + k) 9000000000000000000) C (xpr (xps D s k 2) s k 9000000000000000000) := SA_pr (by omega) (SA_ps (v := 2) (by omega) hA0)
      exact r_reckon h hW hA1 hI.1 (ps_set (by omega) hI.2.1) ht12 hb (fun S3 hA3 => hK S3 hA3)
    · rw [if_pos z] at hK
      exact hK _ hA0
  · rw [if_neg c1] at hK
    have hbad : K (-1) (pM M m ra (pI S 704 0)) := hK _ hA0
    rw [Bool.not_eq_true] at c1
    simp only [c1, not_true, false_implies, forall_const, true_and]
    exact hbad
theorem r_idle (h : SH M m ra) (hW : WC C) {K : Int32 → Mm → Prop} {p q on : Int32} (hon : bz on) (hA : SA S C D) (hI : IV C D) (hb : LB (A_idle C D p q on).2) (hK : ∀ S1, SA S1 C (A_idle C D p q on).2 → K (A_idle C D p q on).1 (pM M m ra S1)) : wp_X11_idle (pM M m ra S) m p q on K := by
  have h12 := hW.1
  have hA0 : SA (pI S 704 0) C D := SA_code hA
  have ht12 : ∀ x ∈ dti D, x.1 < 12 := hI.hts hW
  simp only [wp_X11_idle, p_mK, FK h, p_sI, e_isPart h hW hA0.1, bI_0, true_and]
  unfold A_idle at hb hK
  by_cases c1 : isPt C p q = true
  · rw [if_pos c1] at hb hK
    obtain ⟨s, k, hs, rfl, hk0, hk, rfl⟩ := (isPt_iff hW).mp c1
    have h4 := (hW.2.2.2 s hs).2.1
    rw [n_clamp (by omega), n_clamp (by omega)] at hb hK
    have p1 := hA0.2.2.2.1 s k hs (by omega)
    have hps := hI.2.1 s k
    simp (disch := omega) only [c1, RF h, p_mK, p_mR, p_aN, p_aR, p_mI, p_mJ, p_sI, p_sJ, Option.some.injEq, exists_eq_left', true_and, and_true, na1, na3, n_add, n_mul, n_clamp, n_in, p1, na2, Bool.true_eq_false, not_true, not_false_eq_true, false_implies, forall_const]
    unfold a_idle at hb hK
    have one : ((1 : Int32) = 0) = False := by decide
    refine ⟨fun z => ?_, fun z => ?_⟩
    · rw [if_neg z] at hb hK
      refine ⟨fun y => ?_, fun y => ?_⟩
      · rw [if_neg y] at hb hK
        rcases hon with rfl | rfl
        · rw [if_pos rfl] at hb hK
          simp only [bk_X11_idle_54, bk_X11_idle_62, bk_X11_idle_84, bk_X11_idle_95, bk_X11_idle_109, p_mK, FK h, not_true, false_implies, forall_const, true_and, and_true]
          exact r_reckon h hW hA0 hI.1 hI.2.1 ht12 hb (fun S3 hA3 => hK S3 hA3)
        · rw [if_neg (by decide)] at hb hK
          simp (disch := omega) only [bk_X11_idle_54, bk_X11_idle_62, bk_X11_idle_84, bk_X11_idle_95, bk_X11_idle_109, RF h, p_mK, p_mR, p_aN, p_aR, p_mI, p_mJ, p_sI, p_sJ, Option.some.injEq, exists_eq_left', true_and, and_true, na1, na3, n_add, n_mul, n_clamp, n_in, one, not_true, not_false_eq_true, false_implies, forall_const]
          exact r_reckon h hW (SA_ps (v := 1) (by omega) hA0) hI.1 (ps_set (by omega) hI.2.1) ht12 hb (fun S3 hA3 => hK S3 hA3)
      · rw [if_pos y] at hb hK
        rcases hon with rfl | rfl
        · rw [if_pos rfl] at hb hK
          simp only [bk_X11_idle_54, bk_X11_idle_62, bk_X11_idle_84, bk_X11_idle_95, bk_X11_idle_109, p_mK, FK h, one, show ((0 : Int32) = 1) = False by decide, not_true, not_false_eq_true, false_implies, forall_const, true_and, and_true]
          exact r_hear h hW hA0 hs (by omega) (fun S1 hA1 => ⟨FK h, r_reckon h hW hA1 hI.1 (ps_hear hI.2.1) ht12 hb (fun S3 hA3 => hK S3 hA3)⟩)
        · rw [if_neg (by decide)] at hb hK
          simp only [bk_X11_idle_54, bk_X11_idle_62, bk_X11_idle_84, bk_X11_idle_95, bk_X11_idle_109, p_mK, FK h, not_true, false_implies, forall_const, true_and, and_true]
          exact r_reckon h hW hA0 hI.1 hI.2.1 ht12 hb (fun S3 hA3 => hK S3 hA3)
    · rw [if_pos z] at hK
      exact hK _ hA0
  · rw [if_neg c1] at hK
    have hbad : K (-1) (pM M m ra (pI S 704 0)) := hK _ hA0
    rw [Bool.not_eq_true] at c1
    simp only [c1, not_true, false_implies, forall_const, true_and]
    exact hbad
theorem SA_ti {S1 : St} {l : List (Nat × Int64 × Bool)} (hA : SA S C D) (hx : Ex [752, 753, 754, 755] S S1) (hk : TI S1 l) : SA S1 C (xti D l) := by
  obtain ⟨hC, d1, d2, d3, d4, d5, d6, d7, d8, d9, d10, d11, d12⟩ := hA
  refine ⟨?_, ?_, ?_, ?_, ?_, ?_, ?_, ?_, ?_, ?_, ?_, ?_, hk⟩
  · rw [x_SC C hx (by decide) (by decide) (by decide) (by decide) (by decide) (by decide) (by decide) (by decide) (by decide) (by decide) (by decide) (by decide) (by decide) (by decide) (by decide) (by decide) (by decide) (by decide) (by decide) (by decide) (by decide)]; exact hC
  · rw [x_MK _ _ hx (by decide)]; exact d1
  · rw [x_IDL _ _ hx (by decide)]; exact d2
  · rw [x_PTS _ _ hx (by decide)]; exact d3
  · rw [x_PTP _ _ hx (by decide)]; exact d4
  · rw [x_PTH _ _ hx (by decide)]; exact d5
  · rw [x_NWW _ hx (by decide)]; exact d6
  · rw [x_NT _ _ _ _ hx (by decide) (by decide)]; exact d7
  · rw [x_NT _ _ _ _ hx (by decide) (by decide)]; exact d8
  · rw [x_LO _ hx (by decide)]; exact d9
  · rw [x_WI _ _ hx (by decide) (by decide) (by decide) (by decide)]; exact d10
  · rw [x_KP _ _ hx (by decide) (by decide) (by decide) (by decide)]; exact d11
theorem r_hold (h : SH M m ra) (hW : WC C) {K : Int32 → Mm → Prop} {p : Int32} {t : Int64} (hA : SA S C D) (hI : IV C D) (hb : LB (A_hold C D p t).2) (hK : ∀ S1, SA S1 C (A_hold C D p t).2 → K (A_hold C D p t).1 (pM M m ra S1)) : wp_X11_hold (pM M m ra S) m p t K := by
  have h12 := hW.1
  have hA0 : SA (pI S 704 0) C D := SA_code hA
  have ht12 : ∀ x ∈ dti D, x.1 < 12 := hI.hts hW
  have hbad : ¬ (isSt C p = true ∧ ckd C p.toNatClampNeg = 3 ∧ isTm t = true) → K (-1) (pM M m ra (pI S 704 0)) := fun z => by
    unfold A_hold at hK
    rw [if_neg z] at hK
    exact hK _ hA0
  simp only [wp_X11_hold, p_mK, FK h, p_sI, e_isStream h hW hA0.1, bI_0, true_and, bk_X11_hold_29]
  refine ⟨fun z => hbad (fun q => by rw [z] at q; exact absurd q.1 (by decide)), fun z => ?_⟩
  rw [Bool.not_eq_false] at z
  obtain ⟨s, hs, rfl⟩ := (isSt_iff hW).mp z
  rw [n_clamp (show s < 2147483648 by omega)] at hbad
  have h5 := (hW.2.2.2 s hs).1
  have c1 := (hA0.1.2.2.1 s hs).1
  simp (disch := omega) only [e_kindOf h, c1, na2, e_isTime, bI_0]
  refine ⟨fun y => hbad (fun q => y q.2.1), fun y => ⟨fun x => ?_, fun x => hbad (fun q => by rw [x] at q; exact absurd q.2.2 (by decide))⟩⟩
  rw [Bool.not_eq_false] at x
  unfold A_hold at hb hK
  rw [n_clamp (show s < 2147483648 by omega), if_pos ⟨z, y, x⟩] at hb hK
  have ht := hA0.2.2.2.2.2.2.2.2.2.2.2.2
  have h60 := ht.2.1
  have e1 : gI (pI S 704 0) 752 = nI (dti D).length := ht.1
  have m1 := hA0.2.1 s hs
  unfold a_hold at hb hK
  simp (disch := omega) only [RF h, p_mK, p_mR, p_aN, p_aR, p_mI, p_mJ, p_sI, p_sJ, Option.some.injEq, exists_eq_left', true_and, and_true, na1, na3, n_add, n_mul, n_clamp, n_in, e1, na2, m1]
  refine ⟨fun w => ?_, fun w => ?_⟩
  · rw [if_neg w] at hb hK
    refine ⟨fun v => ?_, fun v => ?_⟩
    · rw [if_neg (Int64.not_le.mpr v)] at hb hK
      simp (disch := omega) only [RF h, p_mK, p_mR, p_aN, p_aR, p_mI, p_mJ, p_sI, p_sJ, Option.some.injEq, exists_eq_left', true_and, and_true, na1, na3, n_add, n_mul, n_clamp, n_in, w, not_false_eq_true]
      obtain ⟨S1, hS1⟩ : ∃ S1, S1 = wI (wJ (wI (pI (pI S 704 0) 752 (nI ((dti D).length + 1))) 753 (dti D).length (nI s)) 754 (dti D).length t) 755 (dti D).length 1 := ⟨_, rfl⟩
      rw [← hS1]
      have hA1 : SA S1 C (xti D (dti D ++ [(s, t, true)])) := by
        refine SA_ti hA0 (by rw [hS1]; exact (((Ex.refl.pI (by decide)).wI (by decide)).wJ (by decide)).wI (by decide)) ⟨by rw [hS1]; simp [sg], by simp; omega, fun i y hy => ?_⟩
        by_cases g : i = (dti D).length
        · rw [g] at hy
          have hy2 : y = (s, t, true) := by simpa using hy.symm
          rw [hy2, hS1, g]
          simp [sg, bI]
        · have hi := (List.getElem?_eq_some_iff.mp hy).1
          simp at hi
          rw [List.getElem?_append_left (by omega)] at hy
          obtain ⟨a1, a2, a3⟩ := ht.2.2 i y hy
          rw [hS1]
          simpa [sg, g] using And.intro a1 (And.intro a2 a3)
      exact r_reckon h hW hA1 hI.1 hI.2.1 (fun x hx => by
        simp only [dg] at hx
        rcases List.mem_append.mp hx with hx | hx
        · exact ht12 x hx
        · rw [List.mem_singleton.mp hx]; show s < 12; omega) hb (fun S3 hA3 => hK S3 hA3)
    · rw [if_pos (Int64.not_lt.mp v)] at hK
      exact hK _ hA0
  · rw [if_pos w] at hK
    exact hK _ hA0
theorem r_rel (h : SH M m ra) (hW : WC C) {K : Int32 → Mm → Prop} {p em key : Int32} (hA : SA S C D) (hI : IV C D) (hb : LB (A_rel C D p em key).2) (hK : ∀ S1, SA S1 C (A_rel C D p em key).2 → K (A_rel C D p em key).1 (pM M m ra S1)) : wp_X11_release (pM M m ra S) m p em key K := by
  have h12 := hW.1
  have hA0 : SA (pI S 704 0) C D := SA_code hA
  have ht12 : ∀ x ∈ dti D, x.1 < 12 := hI.hts hW
  have ht := hA0.2.2.2.2.2.2.2.2.2.2.2.2
  have h60 := ht.2.1
  have e1 : gI (pI S 704 0) 752 = nI (dti D).length := ht.1
  have e2 : gI (pI S 704 0) 732 = 1 := hA0.1.2.1
  have hbad : (A_rel C D p em key).1 = -1 → (A_rel C D p em key).2 = D → K (-1) (pM M m ra (pI S 704 0)) := fun z y => by
    rw [z, y] at hK
    exact hK _ hA0
  have nb : ¬ (0 ≤ p ∧ p < nI (dti D).length ∧ isKy key = true) → K (-1) (pM M m ra (pI S 704 0)) := fun z => hbad (by rw [A_rel, if_neg z]) (by rw [A_rel, if_neg z])
  simp only [wp_X11_release, p_mK, FK h, p_sI, p_mI, e1, e2, show ((1 : Int32) = 0) = False by decide, not_false_eq_true, false_implies, forall_const, true_and, bk_X11_release_43]
  refine ⟨fun z => nb (fun q => absurd q.1 (Int32.not_le.mpr z)), fun z => ⟨fun y => nb (fun q => absurd q.2.1 (Int32.not_lt.mpr y)), fun y => ?_⟩⟩
  obtain ⟨i, hi, rfl⟩ := nI_of z
  rw [n_le (by omega) (by omega)] at y
  obtain ⟨x, hx⟩ : ∃ x, (dti D)[i]? = some x := ⟨(dti D)[i], List.getElem?_eq_getElem (by omega)⟩
  obtain ⟨a1, a2, a3⟩ := ht.2.2 i x hx
  have hxI := hI.2.2 x (List.mem_of_getElem? hx)
  have good : isKy key = true → A_rel C D (nI i) em key = if x.2.2 = true then (1, a_reckon C (a_unh (if em = 0 then D else a_pass C 30 D x.1 x.2.1 key 1) i x)) else (-1, D) := fun q => by
    rw [A_rel, if_pos ⟨nI_pos' (by omega), nI_lt (by omega) (by omega), q⟩, n_clamp (by omega), hx]
  simp (disch := omega) only [RF h, p_mK, p_mR, p_aN, p_aR, p_mI, p_mJ, p_sI, p_sJ, Option.some.injEq, exists_eq_left', true_and, and_true, na1, na3, n_add, n_mul, n_clamp, n_in, a3, bI_0]
  have noK : x.2.2 = false → K (-1) (pM M m ra (pI S 704 0)) := fun w => by
    by_cases q : isKy key = true
    · have g := good q
      rw [if_neg (by rw [w]; decide)] at g
      exact hbad (by rw [g]) (by rw [g])
    · exact nb (fun v => q v.2.2)
  refine ⟨fun w => noK w, fun w => ⟨fun v => nb (fun q => absurd v (isKy_iff.mp q.2.2).1), fun v => ⟨fun u => ?_, fun u => nb (fun q => absurd (isKy_iff.mp q.2.2).2 u)⟩⟩⟩
  rw [Bool.not_eq_false] at w
  have hg := good (isKy_iff.mpr ⟨v, u⟩)
  rw [if_pos w] at hg
  rw [hg] at hb hK
  have fin : ∀ (S1 : St) (D1 : Dyn), SA S1 C D1 → Inv D1 → dps D1 = dps D → dti D1 = dti D → (if em = 0 then D else a_pass C 30 D x.1 x.2.1 key 1) = D1 → bk_X11_release_67 m K (nI i) (pM M m ra S1) := fun S1 D1 hA1 hI1 hp1 ht1 he => by
    rw [he] at hb hK
    have tt := hA1.2.2.2.2.2.2.2.2.2.2.2.2
    rw [ht1] at tt
    simp (disch := omega) only [bk_X11_release_67, RF h, p_mK, p_mR, p_aN, p_aR, p_mI, p_mJ, p_sI, p_sJ, Option.some.injEq, exists_eq_left', true_and, and_true, na1, na3, n_add, n_mul, n_clamp, n_in]
    have hA2 : SA (wI S1 755 i 0) C (a_unh D1 i x) := by
      refine SA_ti hA1 (Ex.refl.wI (by decide)) ⟨by simp [sg, ht1]; exact tt.1, by rw [ht1]; simp; omega, fun j y hy => ?_⟩
      rw [ht1] at hy
      by_cases g : j = i
      · subst g
        rw [List.getElem?_set_self (by omega)] at hy
        cases hy
        obtain ⟨b1, b2, b3⟩ := tt.2.2 j x hx
        simp [sg, bI, b1, b2]
      · rw [List.getElem?_set_ne (fun q => g q.symm)] at hy
        obtain ⟨b1, b2, b3⟩ := tt.2.2 j y hy
        simp [sg, b1, b2, b3, g]
    refine r_reckon h hW hA2 hI1 (by show ∀ s k, dps D1 s k ≤ 2; rw [hp1]; exact hI.2.1) (fun y hy => ?_) hb (fun S3 hA3 => hK S3 hA3)
    simp only [a_unh, dg, ht1] at hy
    rcases List.mem_or_eq_of_mem_set hy with hy | hy
    · exact ht12 y hy
    · rw [hy]; exact ht12 x (List.mem_of_getElem? hx)
  refine ⟨fun e0 => fin _ D hA0 hI.1 rfl rfl (by rw [if_pos e0]), fun e0 => ?_⟩
  rw [if_neg e0] at hb
  have hb1 : LB (a_pass C 30 D x.1 x.2.1 key 1) := by
    have g : LB (a_unh (a_pass C 30 D x.1 x.2.1 key 1) i x) := (rq_reckN hW.2.1 (cn C)).lb hb
    exact g
  have hu := up_pass hW.2.1 30 D x.1 x.2.1 key 1
  simp (disch := omega) only [RF h, p_mK, p_mR, p_aN, p_aR, p_mI, p_mJ, p_sI, p_sJ, Option.some.injEq, exists_eq_left', true_and, and_true, na1, na3, n_add, n_mul, n_clamp, n_in, a1, a2]
  exact r_pass h hW 30 _ D x.1 x.2.1 key 1 _ hxI.1 (by omega) hA0 hI.1 ⟨by omega, by omega⟩ hb1 (fun S2 hA2 => fin S2 _ hA2 (inv_pass hW 30 D x.1 x.2.1 key 1 hI.1 ⟨by omega, by omega⟩) hu.2.2.1 hu.2.2.2.2.2.2.1 (by rw [if_neg e0]))
end R18
