/-! the class: a join's methods -/
section K5
variable {B M : Mm} {L : Nat → Nat → Nat} {C : Cfg} {D : Dyn}
theorem c_isFar {K : Int32 → Mm → Prop} {s side : Nat} {t : Int64} (hW : WC C) (h : CR B M L C D) (hs : s < cn C) (h4 : ckd C s = 4) (hsd : side < 2) (hK : K (bI (a_far C D s side t)) M) : wp_X2_isFar M (L 8 s) (nI side) t K := by
  have F := CJF h hs h4 hsd
  have hlen : (cin C s).length = 2 := (hW.2.2.2 s hs).2.2.2.2.2.1 h4
  have b0 := hW.2.2.1 s 0 hs (by omega)
  have b1 := hW.2.2.1 s 1 hs (by omega)
  have k0 := (h.2.1.2.2.2.1 (a_in C s 0) (by omega)).2.1
  have k1 := (h.2.1.2.2.2.1 (a_in C s 1) (by omega)).2.1
  have m0 := h.2.2.1 (a_in C s 0) (by omega)
  have m1 := h.2.2.1 (a_in C s 1) (by omega)
  rcases (show side = 0 ∨ side = 1 by omega) with rfl | rfl
  · simp (disch := omega) only [wp_X2_isFar, bk_X2_isFar_28, F, e_tog, na2, k1, m1, Option.some.injEq, exists_eq_left', not_true, false_implies, forall_const, true_and]
    refine ⟨fun z => ⟨Or.inl rfl, ?_⟩, fun z => ⟨Or.inr rfl, ?_⟩⟩
    · simpa [a_far, bI, Int64.not_le.mpr z] using hK
    · simpa [a_far, bI, Int64.not_lt.mp z] using hK
  · simp (disch := omega) only [wp_X2_isFar, bk_X2_isFar_54, F, e_tog, na2, k0, m0, Option.some.injEq, exists_eq_left', Nat.one_ne_zero, not_false_eq_true, false_implies, forall_const, true_and, and_true]
    refine ⟨fun z => ⟨Or.inl rfl, ?_⟩, fun z => ⟨Or.inr rfl, ?_⟩⟩
    · simpa [a_far, bI, Int64.not_le.mpr z] using hK
    · simpa [a_far, bI, Int64.not_lt.mp z] using hK
theorem c_meets {K : Int32 → Mm → Prop} {s side i : Nat} {t : Int64} {k : Int32} {e : Ent} (h : CR B M L C D) (hs : s < cn C) (h4 : ckd C s = 4) (hsd : side < 2) (hi : (dke D s (1 - side))[i]? = some e) (hK : K (bI (a_meets C s side t k e)) M) : wp_X2_meets M (L 8 s) (nI side) t k (nI i) K := by
  have F := CJF h hs h4 (show 1 - side < 2 by omega)
  have hke := h.2.2.2.2.2.2.2.2.2.2.2.2.1 s (1 - side) hs h4 (by omega)
  have h6 := hke.2.2.1
  have hil := (List.getElem?_eq_some_iff.mp hi).1
  have e3 := hke.2.2.2 i e hi
  have q1 : aJ M (L 13 (2 * s + (1 - side))) i = e.1 := congrArg (fun z => z.1) e3
  have q2 : aI M (L 14 (2 * s + (1 - side))) i = e.2.1 := congrArg (fun z => z.2.1) e3
  have o : (1 : Int32) - nI side = nI (1 - side) := by
    rcases (show side = 0 ∨ side = 1 by omega) with rfl | rfl <;> decide
  rcases (show side = 0 ∨ side = 1 by omega) with rfl | rfl
  · simp (disch := omega) only [wp_X2_meets, bk_X2_meets_40, bk_X2_meets_60, bk_X2_meets_96, bk_X2_meets_97, o, F, n_in, n_clamp, q1, q2, e_tog, na2, Option.some.injEq, exists_eq_left', not_true, false_implies, forall_const, true_and]
    refine ⟨fun z => ⟨fun y => ⟨Or.inl rfl, ?_⟩, fun y => ⟨fun x => ⟨Or.inl rfl, ?_⟩, fun x => ⟨Or.inr rfl, ?_⟩⟩⟩, fun z => ?_⟩
    · simpa [a_meets, z, bI, Int64.not_le.mpr y] using hK
    · simpa [a_meets, z, bI, Int64.not_le.mpr x] using hK
    · simpa [a_meets, z, bI, Int64.not_lt.mp y, Int64.not_lt.mp x] using hK
    · simpa [a_meets, z, bI] using hK
  · simp (disch := omega) only [wp_X2_meets, bk_X2_meets_40, bk_X2_meets_60, bk_X2_meets_96, bk_X2_meets_97, o, F, n_in, n_clamp, q1, q2, e_tog, na2, Nat.one_ne_zero, Option.some.injEq, exists_eq_left', not_false_eq_true, false_implies, forall_const, true_and, and_true]
    refine ⟨fun z => ⟨fun y => ⟨Or.inl rfl, ?_⟩, fun y => ⟨fun x => ⟨Or.inl rfl, ?_⟩, fun x => ⟨Or.inr rfl, ?_⟩⟩⟩, fun z => ?_⟩
    · simpa [a_meets, z, bI, Int64.not_le.mpr y] using hK
    · simpa [a_meets, z, bI, Int64.not_le.mpr x] using hK
    · simpa [a_meets, z, bI, Int64.not_lt.mp y, Int64.not_lt.mp x] using hK
    · simpa [a_meets, z, bI] using hK
theorem c_dropFirstL {K : Mm → Prop} {s side : Nat} {l : List Ent} (hs : s < cn C) (h4 : ckd C s = 4) (hsd : side < 2) (hl : 0 < l.length) (h6 : l.length ≤ 6) (hK : ∀ M1, CR B M1 L C (xke D s side l.tail) → K M1) : ∀ (r i : Nat) (M : Mm), 1 ≤ i → i + r = l.length → CR B M L C (xke D s side (l.tail.take (i - 1) ++ l.drop (i - 1))) → lp_X2_dropFirst_2 (L 8 s) K (r + 1) (nI side) (nI i) M := by
  intro r
  induction r with
  | zero =>
    intro i M hi1 hi h
    have F := CJF h hs h4 hsd
    have hke := h.2.2.2.2.2.2.2.2.2.2.2.2.1 s side hs h4 hsd
    simp only [dg, if_true] at hke
    have hlen : (l.tail.take (i - 1) ++ l.drop (i - 1)).length = l.length := by simp; omega
    have e1 := hke.2.1
    rw [hlen] at e1
    rw [lp_X2_dropFirst_2]
    simp (disch := omega) only [F, n_in, n_clamp, e1, n_le, na1, show l.length ≤ i by omega, Option.some.injEq, exists_eq_left', not_true, false_implies, forall_const, true_and, and_true]
    have := CR_kcnt (n := l.length - 1) h hs h4 hsd (by omega)
    have e2 : (l.tail.take (i - 1) ++ l.drop (i - 1)).take (l.length - 1) = l.tail := by
      rw [show i = l.length by omega, List.take_append_of_le_length (by first | (simp; done) | (simp; omega))]
      rw [List.take_take, Nat.min_self, List.take_of_length_le (by simp)]
    rw [e2] at this
    exact hK _ this
  | succ r ih =>
    intro i M hi1 hi h
    have F := CJF h hs h4 hsd
    have hke := h.2.2.2.2.2.2.2.2.2.2.2.2.1 s side hs h4 hsd
    simp only [dg, if_true] at hke
    have hlen : (l.tail.take (i - 1) ++ l.drop (i - 1)).length = l.length := by simp; omega
    have e1 := hke.2.1
    rw [hlen] at e1
    obtain ⟨e, he⟩ : ∃ e, l[i]? = some e := ⟨l[i], List.getElem?_eq_getElem (by omega)⟩
    have htl : (l.tail.take (i - 1)).length = i - 1 := by simp; omega
    have hge : (l.tail.take (i - 1) ++ l.drop (i - 1))[i]? = some e := by
      rw [List.getElem?_append_right (by omega), htl, List.getElem?_drop, show i - 1 + (i - (i - 1)) = i by omega]
      exact he
    have e3 := hke.2.2.2 i e hge
    have q1 : aJ M (L 13 (2 * s + side)) i = e.1 := congrArg (fun z => z.1) e3
    have q2 : aI M (L 14 (2 * s + side)) i = e.2.1 := congrArg (fun z => z.2.1) e3
    have q3 : aI M (L 15 (2 * s + side)) i = e.2.2 := congrArg (fun z => z.2.2) e3
    rw [lp_X2_dropFirst_2]
    simp (disch := omega) only [F, n_in, n_clamp, e1, n_le, na1, show ¬ l.length ≤ i by omega, q1, q2, q3, Option.some.injEq, exists_eq_left', not_false_eq_true, false_implies, forall_const, true_and, and_true]
    refine c_jput h hs h4 hsd (by omega) ?_
    have h2 := CR_kset (i := i - 1) (e := e) h hs h4 hsd
    refine ih (i + 1) _ (by omega) (by omega) ?_
    have e2 : (l.tail.take (i - 1) ++ l.drop (i - 1)).set (i - 1) e = l.tail.take (i + 1 - 1) ++ l.drop (i + 1 - 1) := by
      rw [List.set_append_right _ _ (by omega), htl, Nat.sub_self]
      rw [show i + 1 - 1 = (i - 1) + 1 by omega, List.take_add_one]
      have e5 : l.tail[i - 1]? = some e := by
        rw [List.getElem?_tail, show i - 1 + 1 = i by omega]; exact he
      rw [e5]
      have e6 : l.drop (i - 1) = l[i - 1] :: l.drop (i - 1 + 1) := List.drop_eq_getElem_cons (by omega)
      rw [e6, List.set_cons_zero, List.append_assoc]
      rfl
    rw [e2] at h2
    exact h2
theorem c_keep {K : Int32 → Mm → Prop} {s side : Nat} {e : Ent} (h : CR B M L C D) (hs : s < cn C) (h4 : ckd C s = 4) (hsd : side < 2) (hK : ∀ M1, CR B M1 L C (xke D s side (if (dke D s side).length = 6 then (dke D s side).drop 1 ++ [e] else dke D s side ++ [e])) → K (if (dke D s side).length = 6 then 1 else 0) M1) : wp_X2_keep M (L 8 s) (nI side) e.1 e.2.1 e.2.2 K := by
  have F := CJF h hs h4 hsd
  have hke := h.2.2.2.2.2.2.2.2.2.2.2.2.1 s side hs h4 hsd
  have h6 := hke.2.2.1
  have e1 := hke.2.1
  have push : ∀ (M1 : Mm) (l : List Ent) (v : Int32), CR B M1 L C (xke D s side l) → l.length < 6 → (∀ M2, CR B M2 L C (xke D s side (l ++ [e])) → K v M2) → bk_X2_keep_22 (L 8 s) K (nI side) e.1 e.2.1 e.2.2 v M1 := fun M1 l v h1 hl hk => by
    have F1 := CJF h1 hs h4 hsd
    have hke1 := h1.2.2.2.2.2.2.2.2.2.2.2.2.1 s side hs h4 hsd
    simp only [dg, if_true] at hke1
    simp (disch := omega) only [bk_X2_keep_22, F1, n_in, n_clamp, hke1.2.1, Option.some.injEq, exists_eq_left', true_and]
    refine c_jput h1 hs h4 hsd hl ?_
    have h2 := CR_kset (i := l.length) (e := e) h1 hs h4 hsd
    have F2 := CJF h2 hs h4 hsd
    have a3 := (cst_aI (i := l.length) (e := e) h1 hs h4 hsd).2.2 s side hs h4
    simp (disch := omega) only [F2, n_in, n_clamp, a3, hke1.2.1, na1, Option.some.injEq, exists_eq_left', true_and]
    exact hk _ (CR_kpush h1 hs h4 hsd hl)
  simp (disch := omega) only [wp_X2_keep, F, n_in, n_clamp, e1, na2, Option.some.injEq, exists_eq_left', true_and]
  refine ⟨fun z => ?_, fun z => ?_⟩
  · rw [if_neg (by omega)] at hK
    rw [if_neg (by omega)] at hK
    exact push M (dke D s side) 0 (by rw [xke_self]; exact h) z hK
  · have e6 : (dke D s side).length = 6 := by omega
    rw [if_pos e6, if_pos e6] at hK
    unfold wp_X2_dropFirst
    refine ⟨6, c_dropFirstL (B := B) (D := D) (l := dke D s side) hs h4 hsd (by omega) (by omega) (fun M1 h1 => ?_) 5 1 M (by omega) (by omega) ?_⟩
    · rw [List.drop_one] at hK
      exact push M1 _ 1 h1 (by simp; omega) hK
    · simp only [Nat.sub_self, List.take_zero, List.nil_append, List.drop_zero]
      rw [xke_self]; exact h
theorem c_dropFarL {K : Mm → Prop} {R2 : Int32 → Mm → Prop} {s side : Nat} {l : List Ent} (hW : WC C) (hs : s < cn C) (h4 : ckd C s = 4) (hsd : side < 2) (h6 : l.length ≤ 6) (hR : ∀ M1, CR B M1 L C (xke D s side (l.filter (fun e => !(a_far C D s side e.1)))) → R2 (nI (side + 1)) M1) : ∀ (r i : Nat) (J : List Ent) (M : Mm), i + r = l.length → ((l.take i).filter (fun e => !(a_far C D s side e.1))).length + J.length = i → CR B M L C (xke D s side ((l.take i).filter (fun e => !(a_far C D s side e.1)) ++ J ++ l.drop i)) → lp_X2_dropFar_11 (L 8 s) R2 K (r + 1) (nI side) (nI ((l.take i).filter (fun e => !(a_far C D s side e.1))).length) (nI i) M := by
  intro r
  induction r with
  | zero =>
    intro i J M hi hJ h
    have F := CJF h hs h4 hsd
    have hke := h.2.2.2.2.2.2.2.2.2.2.2.2.1 s side hs h4 hsd
    simp only [dg, if_true] at hke
    generalize hG : (l.take i).filter (fun e => !(a_far C D s side e.1)) = G at *
    have hlen : (G ++ J ++ l.drop i).length = l.length := by simp; omega
    have e1 := hke.2.1
    rw [hlen] at e1
    rw [lp_X2_dropFar_11]
    simp (disch := omega) only [F, n_in, n_clamp, e1, n_le, na1, show l.length ≤ i by omega, Option.some.injEq, exists_eq_left', not_true, false_implies, forall_const, true_and, and_true]
    have := CR_kcnt (n := G.length) h hs h4 hsd (by simp)
    rw [List.append_assoc, List.take_append_of_le_length (Nat.le_refl _), List.take_length, ← hG, List.take_of_length_le (by omega)] at this
    refine hR _ ?_
    rw [← hG, List.take_of_length_le (by omega)]
    exact this
  | succ r ih =>
    intro i J M hi hJ h
    have F := CJF h hs h4 hsd
    have hke := h.2.2.2.2.2.2.2.2.2.2.2.2.1 s side hs h4 hsd
    simp only [dg, if_true] at hke
    obtain ⟨e, he⟩ : ∃ e, l[i]? = some e := ⟨l[i], List.getElem?_eq_getElem (by omega)⟩
    have htk : l.take (i + 1) = l.take i ++ [e] := by rw [List.take_add_one, he]; rfl
    have hdr : l.drop i = e :: l.drop (i + 1) := by
      rw [List.drop_eq_getElem_cons (by omega), (List.getElem?_eq_some_iff.mp he).2]
    have ih' := ih (i + 1)
    rw [htk, List.filter_append] at ih'
    generalize hG : (l.take i).filter (fun e => !(a_far C D s side e.1)) = G at *
    have hlen : (G ++ J ++ l.drop i).length = l.length := by simp; omega
    have e1 := hke.2.1
    rw [hlen] at e1
    have hge : (G ++ J ++ l.drop i)[i]? = some e := by
      rw [List.getElem?_append_right (by simp; omega), hdr]
      simp
      rw [show i - (G.length + J.length) = 0 by omega]
      rfl
    have e3 := hke.2.2.2 i e hge
    have q1 : aJ M (L 13 (2 * s + side)) i = e.1 := congrArg (fun z => z.1) e3
    have q2 : aI M (L 14 (2 * s + side)) i = e.2.1 := congrArg (fun z => z.2.1) e3
    have q3 : aI M (L 15 (2 * s + side)) i = e.2.2 := congrArg (fun z => z.2.2) e3
    rw [lp_X2_dropFar_11]
    simp (disch := omega) only [F, n_in, n_clamp, e1, n_le, na1, show ¬ l.length ≤ i by omega, q1, bk_X2_dropFar_70, Option.some.injEq, exists_eq_left', not_false_eq_true, false_implies, forall_const, true_and, and_true]
    refine c_isFar hW h hs h4 hsd ?_
    have hfar : a_far C (xke D s side (G ++ J ++ l.drop i)) s side e.1 = a_far C D s side e.1 := far_mk rfl
    rw [hfar]
    simp only [bI_0]
    refine ⟨fun z => ?_, fun z => ?_⟩
    · rw [Bool.not_eq_false] at z
      have ef : [e].filter (fun e => !(a_far C D s side e.1)) = [] := by simp [z]
      rw [ef, List.append_nil] at ih'
      refine ih' (J ++ [e]) M (by omega) (by simp; omega) ?_
      rw [hdr] at h
      simpa using h
    · have ef : [e].filter (fun e => !(a_far C D s side e.1)) = [e] := by simp [z]
      rw [ef] at ih'
      simp (disch := omega) only [F, n_in, n_clamp, q1, q2, q3, Option.some.injEq, exists_eq_left', true_and]
      refine c_jput h hs h4 hsd (by omega) ?_
      have h2 := CR_kset (i := G.length) (e := e) h hs h4 hsd
      have := ih' (match J with
        | [] => []
        | _ :: J' => J' ++ [e]) (cst3 M L (2 * s + side) G.length e) (by omega) (by
          cases J with
          | nil => simp at hJ ⊢; omega
          | cons j0 J' => simp at hJ ⊢; omega) (by
          cases J with
          | nil =>
            rw [hdr] at h2
            simpa using h2
          | cons j0 J' =>
            rw [hdr] at h2
            simpa using h2)
      rw [List.length_append, List.length_singleton] at this
      exact this
theorem c_dropFar {K : Mm → Prop} {s : Nat} (hW : WC C) (h : CR B M L C D) (hs : s < cn C) (h4 : ckd C s = 4) (hK : ∀ M1, CR B M1 L C (a_drop C (a_drop C D s 0) s 1) → K M1) : wp_X2_dropFar M (L 8 s) K := by
  have one : ∀ (side : Nat) (R2 : Int32 → Mm → Prop) (M : Mm) (D : Dyn), side < 2 → CR B M L C D → (∀ M1, CR B M1 L C (a_drop C D s side) → R2 (nI (side + 1)) M1) → ∃ kk, lp_X2_dropFar_11 (L 8 s) R2 K kk (nI side) 0 0 M := fun side R2 M D hsd h hR => by
    have hke := h.2.2.2.2.2.2.2.2.2.2.2.2.1 s side hs h4 hsd
    exact ⟨_, c_dropFarL (D := D) (l := dke D s side) hW hs h4 hsd hke.2.2.1 hR (dke D s side).length 0 [] M (Nat.zero_add _) rfl (by simpa [xke_self] using h)⟩
  unfold wp_X2_dropFar
  refine ⟨3, ?_⟩
  rw [lp_X2_dropFar_2]
  refine ⟨fun z => absurd z (by decide), fun _ => one 0 _ M D (by omega) h (fun M1 h1 => ?_)⟩
  rw [lp_X2_dropFar_2]
  refine ⟨fun z => absurd z (by decide), fun _ => one 1 _ M1 _ (by omega) h1 (fun M2 h2 => ?_)⟩
  rw [lp_X2_dropFar_2]
  exact ⟨fun _ => hK M2 h2, fun z => absurd (by decide) z⟩
end K5
