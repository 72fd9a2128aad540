/-! the reference: what a row meets in a join -/
section R7
variable {M : Mm} {m : Nat} {ra : Nat → Nat} {C : Cfg}
theorem r_meetL (h : SH M m ra) (hW : WC C) {P : Mm → Nat → Int32 → Int64 → Int32 → Int32 → (Mm → Prop) → Prop} {Q : Dyn → Nat → Int64 → Int32 → Int32 → Dyn} {K : Mm → Prop} {s side : Nat} {t : Int64} {k w : Int32} {l : List Ent} (hs : s < cn C) (hk : ckd C s = 4) (hsd : side < 2)
    (hQ : ∀ D t k w, Up s D (Q D s t k w))
    (hT : HT t) (hQI : ∀ D t k w, Inv D → HT t → Inv (Q D s t k w))
    (hP : ∀ (S : St) (D : Dyn) (t : Int64) (w : Int32) (K1 : Mm → Prop), SA S C D → Inv D → HT t → LB (Q D s t k w) → (∀ S1, SA S1 C (Q D s t k w) → K1 (pM M m ra S1)) → P (pM M m ra S) m (nI s) t k w K1) :
    ∀ (post : List Ent) (i : Nat) (S : St) (D : Dyn), SA S C D → Inv D → dke D s (1 - side) = l → l.drop i = post → i ≤ l.length → LB (a_meetL C Q s side t k w post D) → (∀ S1, SA S1 C (if a_far C (a_meetL C Q s side t k w post D) s side t = true then a_meetL C Q s side t k w post D else a_keep (a_meetL C Q s side t k w post D) s side (t, k, w)) → K (pM M m ra S1)) → lp_X11_meet_12 P m K (post.length + 1) (nI s) (nI side) t k w (nI (2 * s + 1 - side)) (nI i) (pM M m ra S) := by
  intro post
  have h12 := hW.1
  induction post with
  | nil =>
    intro i S D hA hI hl hd hi hb hK
    have hil : i = l.length := by
      have := List.drop_eq_nil_iff.mp hd
      omega
    have hke := hA.2.2.2.2.2.2.2.2.2.2.2.1 s (1 - side) hs (by omega)
    rw [hl] at hke
    have h6 := hke.2.1
    have e1 := hke.1
    rw [show 2 * s + (1 - side) = 2 * s + 1 - side by omega] at e1
    rw [lp_X11_meet_12]
    simp (disch := omega) only [RF h, p_mK, p_mR, p_aN, p_aR, p_mI, p_mJ, p_sI, p_sJ, Option.some.injEq, exists_eq_left', true_and, and_true, na1, na3, n_add, n_mul, n_clamp, n_in, e1, n_le, show l.length ≤ i by omega, not_true, false_implies, forall_const]
    rw [e_isFar h hA hW hs hk hsd]
    by_cases f : a_far C D s side t = true
    · have hK2 := hK S (by show SA S C (if a_far C D s side t = true then D else _); rw [if_pos f]; exact hA)
      simp only [f, bI, if_true]
      exact ⟨fun z => absurd z (by decide), fun _ => hK2⟩
    · simp only [f, bI, Bool.false_eq_true, if_false]
      refine ⟨fun _ => ?_, fun z => absurd (by trivial) z⟩
      simp (disch := omega) only [RF h, p_mK, p_mR, p_aN, p_aR, p_mI, p_mJ, p_sI, p_sJ, Option.some.injEq, exists_eq_left', true_and, and_true, na1, na3, n_add, n_mul, n_clamp, n_in]
      refine r_keep h hW hA hs hsd (fun S1 hS1 => hK S1 ?_)
      show SA S1 C (if a_far C D s side t = true then D else a_keep D s side (t, k, w))
      rw [if_neg f]
      exact hS1
  | cons e post ih =>
    intro i S D hA hI hl hd hi hb hK
    have hil : i < l.length := by
      refine Classical.byContradiction fun z => ?_
      rw [List.drop_eq_nil_of_le (by omega)] at hd
      cases hd
    have hle : l[i]? = some e := by
      have := congrArg List.head? hd
      rw [List.head?_drop] at this
      exact this
    have hd2 : l.drop (i + 1) = post := by
      rw [← List.tail_drop, hd]
      rfl
    have hke := hA.2.2.2.2.2.2.2.2.2.2.2.1 s (1 - side) hs (by omega)
    rw [hl] at hke
    have h6 := hke.2.1
    have e1 := hke.1
    have e3 := hke.2.2 i e hle
    rw [show 2 * s + (1 - side) = 2 * s + 1 - side by omega] at e1 e3
    obtain ⟨c1, c2, c3, c4, c5, -⟩ := hA.1.2.2.1 s hs
    have q1 : vJ S 749 (6 * (2 * s + 1 - side) + i) = e.1 := congrArg (fun z => z.1) e3
    have q2 : vI S 750 (6 * (2 * s + 1 - side) + i) = e.2.1 := congrArg (fun z => z.2.1) e3
    have q3 : vI S 751 (6 * (2 * s + 1 - side) + i) = e.2.2 := congrArg (fun z => z.2.2) e3
    have no : ∀ D1, D1 = D → LB (a_meetL C Q s side t k w post D1) → (∀ S1, SA S1 C (if a_far C (a_meetL C Q s side t k w post D1) s side t = true then a_meetL C Q s side t k w post D1 else a_keep (a_meetL C Q s side t k w post D1) s side (t, k, w)) → K (pM M m ra S1)) → lp_X11_meet_12 P m K (post.length + 1) (nI s) (nI side) t k w (nI (2 * s + 1 - side)) (nI (i + 1)) (pM M m ra S) := fun D1 eD b1 k1 => by
      subst eD
      exact ih (i + 1) S D1 hA hI hl hd2 (by omega) b1 k1
    have yes : a_meets C s side t k e = true → P (pM M m ra S) m (nI s) (maxF t e.1) k (w * e.2.2) (fun M29 => lp_X11_meet_12 P m K (post.length + 1) (nI s) (nI side) t k w (nI (2 * s + 1 - side)) (nI (i + 1)) M29) := fun hm => by
      have u1 : a_meetL C Q s side t k w (e :: post) D = a_meetL C Q s side t k w post (Q D s (maxF t e.1) k (w * e.2.2)) := by
        simp only [a_meetL, List.foldl_cons, hm, if_true]
      rw [u1] at hb hK
      have hu := hQ D (maxF t e.1) k (w * e.2.2)
      have heT : HT e.1 := hI.2.1 s (1 - side) e (by rw [hl]; exact List.mem_of_getElem? hle)
      refine hP S D _ _ _ hA hI (max_HT hT heT) (LB.up (up_meetL (r := s) (fun D t k w => hQ D t k w) post _) hb) (fun S1 hS1 => ?_)
      exact ih (i + 1) S1 _ hS1 (hQI D _ _ _ hI (max_HT hT heT)) (by rw [(hu.2.2.2.2.2.2.2.1 s (Nat.le_refl s)).2]; exact hl) hd2 (by omega) hb hK
    have skip : ¬ a_meets C s side t k e = true → lp_X11_meet_12 P m K (post.length + 1) (nI s) (nI side) t k w (nI (2 * s + 1 - side)) (nI (i + 1)) (pM M m ra S) := fun hm => by
      have u1 : a_meetL C Q s side t k w (e :: post) D = a_meetL C Q s side t k w post D := by
        simp only [a_meetL, List.foldl_cons, if_neg hm]
      rw [u1] at hb hK
      exact no D rfl hb hK
    rw [List.length_cons, lp_X11_meet_12]
    simp (disch := omega) only [RF h, p_mK, p_mR, p_aN, p_aR, p_mI, p_mJ, p_sI, p_sJ, Option.some.injEq, exists_eq_left', true_and, and_true, na1, na3, n_add, n_mul, n_clamp, n_in, e1, n_le, show ¬ l.length ≤ i by omega, not_false_eq_true, false_implies, forall_const, q1, bk_X11_meet_49, bk_X11_meet_61, bk_X11_meet_125, bk_X11_meet_126, bk_X11_meet_162, q2, q3, c4, c5, e_plus, na2]
    rcases (show side = 0 ∨ side = 1 by omega) with rfl | rfl
    · simp only [not_true, false_implies, forall_const, true_and, and_true]
      refine ⟨fun z => ?_, fun z => ⟨fun y => ?_, fun y => ⟨fun x => ?_, fun x => ?_⟩⟩⟩
      · simpa [p_mK, FK h] using skip (by simp [a_meets, z])
      · simpa [p_mK, FK h] using skip (by simp [a_meets, z, Int64.not_le.mpr y])
      · simpa [p_mK, FK h] using skip (by simp [a_meets, z, Int64.not_le.mpr x])
      · simpa [p_mK, FK h, maxF] using yes (by simp [a_meets, z, Int64.not_lt.mp y, Int64.not_lt.mp x])
    · simp only [Nat.one_ne_zero, not_false_eq_true, false_implies, forall_const, true_and, and_true]
      refine ⟨fun z => ?_, fun z => ⟨fun y => ?_, fun y => ⟨fun x => ?_, fun x => ?_⟩⟩⟩
      · simpa [p_mK, FK h] using skip (by simp [a_meets, z])
      · simpa [p_mK, FK h] using skip (by simp [a_meets, z, Int64.not_le.mpr y])
      · simpa [p_mK, FK h] using skip (by simp [a_meets, z, Int64.not_le.mpr x])
      · simpa [p_mK, FK h, maxF] using yes (by simp [a_meets, z, Int64.not_lt.mp y, Int64.not_lt.mp x])
end R7
