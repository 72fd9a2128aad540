/-! the reference: goals -/
def GS (S : St) (o : Option Int64) : Prop := match o with
  | none => gI S 756 = 0
  | some g => gI S 756 = 1 ∧ gJ S 757 = g
def scr : List Nat := [704, 756, 757, 758]
section R12
variable {M : Mm} {m : Nat} {ra : Nat → Nat} {C : Cfg}
theorem SA_scr {S S1 : St} {D : Dyn} (hA : SA S C D) (hx : Ex scr S S1) : SA S1 C D := by
  obtain ⟨hC, d1, d2, d3, d4, d5, d6, d7, d8, d9, d10, d11, d12⟩ := hA
  refine ⟨?_, ?_, ?_, ?_, ?_, ?_, ?_, ?_, ?_, ?_, ?_, ?_, ?_⟩
  · rw [x_SC C hx (by decide) (by decide) (by decide) (by decide) (by decide) (by decide) (by decide) (by decide) (by decide) (by decide) (by decide) (by decide) (by decide) (by decide) (by decide) (by decide) (by decide) (by decide) (by decide) (by decide) (by decide)]; exact hC
  · rw [x_MK _ _ hx (by decide)]; exact d1
  · rw [x_IDL _ _ hx (by decide)]; exact d2
  · rw [x_PTS _ _ hx (by decide)]; exact d3
  · rw [x_PTP _ _ hx (by decide)]; exact d4
  · rw [x_PTH _ _ hx (by decide)]; exact d5
  · rw [x_NWW _ hx (by decide)]; exact d6
  · rw [x_NT _ _ _ _ hx (by decide) (by decide)]; exact d7
  · rw [x_NT _ _ _ _ hx (by decide) (by decide)]; exact d8
  · rw [x_LO _ hx (by decide)]; exact d9
  · rw [x_WI _ _ hx (by decide) (by decide) (by decide) (by decide)]; exact d10
  · rw [x_KP _ _ hx (by decide) (by decide) (by decide) (by decide)]; exact d11
  · rw [x_TI _ hx (by decide) (by decide) (by decide) (by decide)]; exact d12
theorem bI_and (a b : Bool) : bI a &&& bI b = bI (a && b) := by cases a <;> cases b <;> decide
theorem r_least (h : SH M m ra) {S : St} {D : Dyn} {K : Mm → Prop} {o : Option Int64} {v : Int64} (hA : SA S C D) (hG : GS S o) (hK : ∀ S1, SA S1 C D → GS S1 (a_least o v) → K (pM M m ra S1)) : wp_X11_least (pM M m ra S) m v K := by
  cases o with
  | none =>
    have hG : gI S 756 = 0 := hG
    simp (disch := omega) only [wp_X11_least, bk_X11_least_17, bk_X11_least_25, RF h, p_mK, p_mR, p_aN, p_aR, p_mI, p_mJ, p_sI, p_sJ, Option.some.injEq, exists_eq_left', true_and, and_true, na1, na3, n_add, n_mul, n_clamp, n_in, hG, not_true, false_implies, forall_const]
    exact hK _ (SA_scr hA ((Ex.refl.pJ (by decide)).pI (by decide))) ⟨by simp [sg], by simp [sg]⟩
  | some g =>
    obtain ⟨g1, g2⟩ : gI S 756 = 1 ∧ gJ S 757 = g := hG
    simp (disch := omega) only [wp_X11_least, bk_X11_least_17, bk_X11_least_25, RF h, p_mK, p_mR, p_aN, p_aR, p_mI, p_mJ, p_sI, p_sJ, Option.some.injEq, exists_eq_left', true_and, and_true, na1, na3, n_add, n_mul, n_clamp, n_in, g1, g2, show ((1 : Int32) = 0) = False by decide, not_false_eq_true, false_implies, forall_const]
    refine ⟨fun z => ?_, fun z => ?_⟩
    · refine hK _ (SA_scr hA ((Ex.refl.pJ (by decide)).pI (by decide))) ?_
      rw [a_least, if_neg (Int64.not_lt.mpr z)]
      exact ⟨by simp [sg], by simp [sg]⟩
    · refine hK _ (SA_scr hA ((Ex.refl.pJ (by decide)).pI (by decide))) ?_
      rw [a_least, if_pos (Int64.not_le.mp z)]
      exact ⟨by simp [sg], by simp [sg]⟩
theorem allE_succ (D : Dyn) (s k : Nat) : a_allE D s (k + 1) = (a_allE D s k && decide (dps D s k = 2)) := by
  simp [a_allE, List.range_succ]
theorem r_srcL (h : SH M m ra) (hW : WC C) {K : Mm → Prop} {s : Nat} {D : Dyn} (hs : s < cn C) (hps : ∀ s k, dps D s k ≤ 2) (hK : ∀ S1, SA S1 C D → GS S1 (if a_allE D s (cpt C s) then a_least (a_srcG D s (cpt C s)) 9000000000000000000 else a_srcG D s (cpt C s)) → K (pM M m ra S1)) : ∀ (r k : Nat) (S : St), k + r = cpt C s → SA S C D → GS S (a_srcG D s k) → lp_X11_sourceGoal_4 m K (r + 1) (nI s) (bI (a_allE D s k)) (nI k) (pM M m ra S) := by
  intro r
  have h12 := hW.1
  have h4 := (hW.2.2.2 s hs).2.1
  induction r with
  | zero =>
    intro k S hk hA hG
    have e : k = cpt C s := by omega
    subst e
    obtain ⟨c1, c2, -⟩ := hA.1.2.2.1 s hs
    rw [lp_X11_sourceGoal_4]
    simp (disch := omega) only [RF h, p_mK, p_mR, p_aN, p_aR, p_mI, p_mJ, p_sI, p_sJ, Option.some.injEq, exists_eq_left', true_and, and_true, na1, na3, n_add, n_mul, n_clamp, n_in, c2, n_le, Nat.le_refl, bk_X11_sourceGoal_83, bI_0, not_true, false_implies, forall_const]
    refine ⟨fun z => ?_, fun z => ?_⟩
    · refine hK S hA ?_
      rw [z]; exact hG
    · refine r_least h hA hG (fun S1 h1 h2 => hK S1 h1 ?_)
      rw [Bool.not_eq_false] at z
      rw [z]; exact h2
  | succ r ih =>
    intro k S hk hA hG
    obtain ⟨c1, c2, -⟩ := hA.1.2.2.1 s hs
    have p1 := hA.2.2.2.1 s k hs (by omega)
    have p2 := hA.2.2.2.2.1 s k hs (by omega)
    have hb := hps s k
    have nx : ∀ S1, SA S1 C D → GS S1 (a_srcG D s (k + 1)) → ∀ b, b = decide (dps D s k = 2) → lp_X11_sourceGoal_4 m K (r + 1) (nI s) (bI (a_allE D s k) &&& bI b) (nI (k + 1)) (pM M m ra S1) := fun S1 h1 h2 b hbb => by
      rw [bI_and, hbb, ← allE_succ]
      exact ih (k + 1) S1 (by omega) h1 h2
    have fin : ∀ b, b = decide (dps D s k = 2) → (¬ dps D s k = 0 → lp_X11_sourceGoal_4 m K (r + 1) (nI s) (bI (a_allE D s k) &&& bI b) (nI (k + 1)) (pM M m ra S)) ∧ (dps D s k = 0 → wp_X11_least (pM M m ra S) m (dpr D s k) (fun M11 => lp_X11_sourceGoal_4 m K (r + 1) (nI s) (bI (a_allE D s k) &&& bI b) (nI (k + 1)) M11)) := fun b hbb => by
      refine ⟨fun z => nx S hA ?_ b hbb, fun z => ?_⟩
      · rw [a_srcG, if_neg z]; exact hG
      · refine r_least h hA hG (fun S1 h1 h2 => nx S1 h1 ?_ b hbb)
        rw [a_srcG, if_pos z]; exact h2
    rw [lp_X11_sourceGoal_4]
    simp (disch := omega) only [RF h, p_mK, p_mR, p_aN, p_aR, p_mI, p_mJ, p_sI, p_sJ, Option.some.injEq, exists_eq_left', true_and, and_true, na1, na3, n_add, n_mul, n_clamp, n_in, c2, n_le, show ¬ cpt C s ≤ k by omega, bk_X11_sourceGoal_37, bk_X11_sourceGoal_66, p1, p2, na2, not_false_eq_true, false_implies, forall_const]
    refine ⟨fun z => ?_, fun z => ?_⟩
    · exact fin false (by simp [z])
    · exact fin true (by simp [z])
theorem r_holdL (h : SH M m ra) (hW : WC C) {K : Mm → Prop} {s i : Nat} {D : Dyn} (hs : s < cn C) (hi : i < cn C) {X : Option Int64} (hXd : X = match a_holdG D s with
    | none => if did D i then none else some (dmk D i)
    | some g => a_least (some g) (if did D i then dmk D s else dmk D i)) (hts : ∀ x ∈ dti D, x.1 < 12) (hK : ∀ S1, SA S1 C D → GS S1 X → K (pM M m ra S1)) : ∀ (post : List (Nat × Int64 × Bool)) (j : Nat) (S : St) (o : Option Int64), (dti D).drop j = post → j ≤ (dti D).length → post.foldl (fun o x => if x.2.2 = true ∧ x.1 = s then a_least o (plusF x.2.1 (-1)) else o) o = a_holdG D s → SA S C D → GS S o → lp_X11_holdGoal_9 m K (post.length + 1) (nI s) (nI i) (nI j) (pM M m ra S) := by
  intro post
  have h12 := hW.1
  induction post with
  | nil =>
    intro j S o hd hj ho hA hG
    have hil : j = (dti D).length := by
      have := List.drop_eq_nil_iff.mp hd
      omega
    have ht := hA.2.2.2.2.2.2.2.2.2.2.2.2
    have h60 := ht.2.1
    have m0 := hA.2.1 i hi
    have m1 := hA.2.1 s hs
    have i0 := hA.2.2.1 i hi
    have e1 : gI S 752 = nI (dti D).length := ht.1
    rw [lp_X11_holdGoal_9]
    simp only [List.foldl_nil] at ho
    rw [← ho] at hXd
    cases o with
    | none =>
      have hG' : gI S 756 = 0 := hG
      simp (disch := omega) only [RF h, p_mK, p_mR, p_aN, p_aR, p_mI, p_mJ, p_sI, p_sJ, Option.some.injEq, exists_eq_left', true_and, and_true, na1, na3, n_add, n_mul, n_clamp, n_in, e1, n_le, show (dti D).length ≤ j by omega, hG', bk_X11_holdGoal_115, i0, bI_0, m0, not_true, false_implies, forall_const]
      dsimp only at hXd
      refine ⟨fun z => ?_, fun z => ?_⟩
      · rw [Bool.not_eq_false] at z
        rw [z, if_pos rfl] at hXd
        exact hK S hA (by rw [hXd]; exact hG)
      · rw [z] at hXd
        refine r_least h hA hG (fun S1 h1 h2 => hK S1 h1 ?_)
        rw [hXd]; exact h2
    | some g =>
      obtain ⟨g1, g2⟩ : gI S 756 = 1 ∧ gJ S 757 = g := hG
      simp (disch := omega) only [RF h, p_mK, p_mR, p_aN, p_aR, p_mI, p_mJ, p_sI, p_sJ, Option.some.injEq, exists_eq_left', true_and, and_true, na1, na3, n_add, n_mul, n_clamp, n_in, e1, n_le, show (dti D).length ≤ j by omega, g1, show ((1 : Int32) = 0) = False by decide, bk_X11_holdGoal_90, bk_X11_holdGoal_115, i0, bI_0, m0, m1, not_true, not_false_eq_true, false_implies, forall_const]
      dsimp only at hXd
      refine ⟨fun z => ?_, fun z => ?_⟩
      · rw [z] at hXd
        refine r_least (o := some g) h hA ⟨g1, g2⟩ (fun S1 h1 h2 => hK S1 h1 ?_)
        rw [hXd]; exact h2
      · rw [Bool.not_eq_false] at z
        rw [z, if_pos rfl] at hXd
        refine r_least (o := some g) h hA ⟨g1, g2⟩ (fun S1 h1 h2 => hK S1 h1 ?_)
        rw [hXd]; exact h2
  | cons x post ih =>
    intro j S o hd hj ho hA hG
    have hil : j < (dti D).length := by
      refine Classical.byContradiction fun z => ?_
      rw [List.drop_eq_nil_of_le (by omega)] at hd
      cases hd
    have hle : (dti D)[j]? = some x := by
      have := congrArg List.head? hd
      rw [List.head?_drop] at this
      exact this
    have hd2 : (dti D).drop (j + 1) = post := by
      rw [← List.tail_drop, hd]
      rfl
    have ht := hA.2.2.2.2.2.2.2.2.2.2.2.2
    have h60 := ht.2.1
    have e1 : gI S 752 = nI (dti D).length := ht.1
    obtain ⟨t1, t2, t3⟩ := ht.2.2 j x hle
    have hx12 := hts x (List.mem_of_getElem? hle)
    rw [List.foldl_cons] at ho
    rw [List.length_cons, lp_X11_holdGoal_9]
    simp (disch := omega) only [RF h, p_mK, p_mR, p_aN, p_aR, p_mI, p_mJ, p_sI, p_sJ, Option.some.injEq, exists_eq_left', true_and, and_true, na1, na3, n_add, n_mul, n_clamp, n_in, e1, n_le, n_eq, show ¬ (dti D).length ≤ j by omega, t1, t2, t3, bI_0, e_plus, bk_X11_holdGoal_52, not_false_eq_true, false_implies, forall_const]
    refine ⟨fun z => ?_, fun z => ⟨fun y => ?_, fun y => ?_⟩⟩
    · rw [if_neg (by rw [z]; simp)] at ho
      exact ih (j + 1) S o hd2 (by omega) ho hA hG
    · rw [if_neg (fun q => y q.2)] at ho
      exact ih (j + 1) S o hd2 (by omega) ho hA hG
    · rw [Bool.not_eq_false] at z
      rw [if_pos ⟨z, y⟩] at ho
      exact r_least h hA hG (fun S1 h1 h2 => ih (j + 1) S1 _ hd2 (by omega) ho h1 h2)
theorem r_inL (h : SH M m ra) (hW : WC C) {K : Mm → Prop} {s : Nat} {D : Dyn} (hs : s < cn C) (hK : ∀ S1, SA S1 C D → GS S1 (if (cin C s).all (fun i => decide (dmk D i = 9000000000000000000)) then a_least (a_inG D (cin C s)) 9000000000000000000 else a_inG D (cin C s)) → K (pM M m ra S1)) : ∀ (post : List Nat) (j : Nat) (S : St) (o : Option Int64) (al : Bool), (cin C s).drop j = post → j ≤ (cin C s).length → post.foldl (fun o i => if did D i = false ∧ ¬ dmk D i = 9000000000000000000 then a_least o (dmk D i) else o) o = a_inG D (cin C s) → (al && post.all (fun i => decide (dmk D i = 9000000000000000000))) = (cin C s).all (fun i => decide (dmk D i = 9000000000000000000)) → SA S C D → GS S o → lp_X11_findGoal_56 m K (post.length + 1) (nI s) (bI al) (nI j) (pM M m ra S) := by
  intro post
  have h12 := hW.1
  have h4 := (hW.2.2.2 s hs).2.2.2.1
  induction post with
  | nil =>
    intro j S o al hd hj ho ha hA hG
    have hil : j = (cin C s).length := by
      have := List.drop_eq_nil_iff.mp hd
      omega
    obtain ⟨c1, c2, c3, c4, c5, c6, c7, c8, c9⟩ := hA.1.2.2.1 s hs
    simp only [List.foldl_nil] at ho
    simp only [List.all_nil, Bool.and_true] at ha
    rw [← ho, ← ha] at hK
    rw [lp_X11_findGoal_56]
    simp (disch := omega) only [RF h, p_mK, p_mR, p_aN, p_aR, p_mI, p_mJ, p_sI, p_sJ, Option.some.injEq, exists_eq_left', true_and, and_true, na1, na3, n_add, n_mul, n_clamp, n_in, c8, n_le, show (cin C s).length ≤ j by omega, bI_0, bk_X11_findGoal_226, not_true, false_implies, forall_const]
    refine ⟨fun z => hK S hA (by rw [z]; exact hG), fun z => ?_⟩
    rw [Bool.not_eq_false] at z
    exact r_least h hA hG (fun S1 h1 h2 => hK S1 h1 (by rw [z]; exact h2))
  | cons x post ih =>
    intro j S o al hd hj ho ha hA hG
    have hil : j < (cin C s).length := by
      refine Classical.byContradiction fun z => ?_
      rw [List.drop_eq_nil_of_le (by omega)] at hd
      cases hd
    have hle : (cin C s)[j]? = some x := by
      have := congrArg List.head? hd
      rw [List.head?_drop] at this
      exact this
    have hd2 : (cin C s).drop (j + 1) = post := by
      rw [← List.tail_drop, hd]
      rfl
    have hx : a_in C s j = x := by
      unfold a_in
      rw [List.getD_eq_getElem?_getD, hle]; rfl
    obtain ⟨c1, c2, c3, c4, c5, c6, c7, c8, c9⟩ := hA.1.2.2.1 s hs
    have i0 := hA.1.2.2.2.1 s j hs hil
    have b0 := hW.2.2.1 s j hs hil
    rw [hx] at i0 b0
    have m0 := hA.2.1 x (by omega)
    have d0 := hA.2.2.1 x (by omega)
    rw [List.foldl_cons] at ho
    rw [List.all_cons, ← Bool.and_assoc] at ha
    have fin : ∀ b, b = decide (dmk D x = 9000000000000000000) → bk_X11_findGoal_97 m (lp_X11_findGoal_56 m K (post.length + 1)) K (nI s) (nI j) (nI x) (bI b) (bI al) (pM M m ra S) := fun b hb => by
      rw [← hb] at ha
      simp (disch := omega) only [bk_X11_findGoal_97, bk_X11_findGoal_134, RF h, p_mK, p_mR, p_aN, p_aR, p_mI, p_mJ, p_sI, p_sJ, Option.some.injEq, exists_eq_left', true_and, and_true, na1, na3, n_add, n_mul, n_clamp, n_in, d0, m0, bI_0, bI_and]
      refine ⟨fun z => ?_, fun z => ⟨fun y => ?_, fun y => ?_⟩⟩
      · rw [Bool.not_eq_false] at z
        rw [if_neg (fun q => by rw [q.1] at z; cases z)] at ho
        exact ih (j + 1) S o _ hd2 (by omega) ho ha hA hG
      · rw [if_neg (fun q => q.2 y)] at ho
        exact ih (j + 1) S o _ hd2 (by omega) ho ha hA hG
      · rw [if_pos ⟨z, y⟩] at ho
        exact r_least h hA hG (fun S1 h1 h2 => ih (j + 1) S1 _ _ hd2 (by omega) ho ha h1 h2)
    rw [List.length_cons, lp_X11_findGoal_56]
    simp (disch := omega) only [RF h, p_mK, p_mR, p_aN, p_aR, p_mI, p_mJ, p_sI, p_sJ, Option.some.injEq, exists_eq_left', true_and, and_true, na1, na3, n_add, n_mul, n_clamp, n_in, c8, n_le, show ¬ (cin C s).length ≤ j by omega, e_inputOf h, i0, m0, not_false_eq_true, false_implies, forall_const]
    refine ⟨fun z => fin false (by simp [z]), fun z => fin true (by simp [z])⟩
end R12
