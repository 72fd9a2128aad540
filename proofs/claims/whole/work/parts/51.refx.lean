/-! the reference: the sums of a window that a row is added to -/
section R9
variable {M : Mm} {m : Nat} {ra : Nat → Nat} {S : St} {C : Cfg} {D : Dyn}
variable {R62 : Int32 → Int64 → Int32 → Int32 → Int64 → Int64 → Mm → Prop} {K : Mm → Prop} {s : Nat} {t step b : Int64} {k w : Int32}
theorem r_sumF (h : SH M m ra) {l1 l2 : List Ent} {x : Ent} (hs : s < 12) (hl : WL S s (l1 ++ x :: l2)) (hx : x.1 = b ∧ x.2.1 = k) (hR : ∀ S1, Ex [744, 745, 746, 747] S S1 → WL S1 s (l1 ++ (b, k, x.2.2 + w) :: l2) → (∀ p l', p ≠ s → WL S p l' → WL S1 p l') → R62 (nI s) t k w step (b + step) (pM M m ra S1)) : bk_X11_put_124 m R62 K (nI s) t k w step b (nI l1.length) (pM M m ra S) := by
  have h24 : l1.length + (l2.length + 1) ≤ 24 := by simpa using hl.2.1
  have e3 := hl.2.2 l1.length x (by simp)
  have q3 : vI S 747 (24 * s + l1.length) = x.2.2 := congrArg (fun z => z.2.2) e3
  have e1 := hl.1
  rw [List.length_append, List.length_cons] at e1
  simp (disch := omega) only [bk_X11_put_124, bk_X11_put_206, bk_X11_put_223, RF h, p_mK, p_mR, p_aN, p_aR, p_mI, p_mJ, p_sI, p_sJ, Option.some.injEq, exists_eq_left', true_and, and_true, na1, na3, n_add, n_mul, n_clamp, n_in, na2, n_eq, e1, q3, show ¬ l1.length = 24 by omega, show ¬ l1.length = l1.length + (l2.length + 1) by omega, not_false_eq_true, false_implies, forall_const]
  have hw : ∀ p i, i < 24 → w3 (wI S 747 (24 * s + l1.length) (x.2.2 + w)) p i = if p = s ∧ i = l1.length then (b, k, x.2.2 + w) else w3 S p i := fun p i hi => by
    by_cases g : p = s ∧ i = l1.length
    · obtain ⟨rfl, rfl⟩ := g
      rw [if_pos ⟨rfl, rfl⟩, ← hx.1, ← hx.2, ← e3]
      simp [w3, sg]
    · have e9 : ¬ 24 * p + i = 24 * s + l1.length := by omega
      rw [if_neg g]
      simp [w3, sg, e9]
  refine hR _ (Ex.wI Ex.refl (by decide)) (WL_set hl (by simp [sg]) (fun i hi => ?_)) (fun p l' hp hl' => ⟨by simp [sg]; exact hl'.1, hl'.2.1, fun i e hi => ?_⟩)
  · rw [hw s i hi]
    by_cases c : i = l1.length
    · rw [if_pos ⟨rfl, c⟩, if_pos c]
    · rw [if_neg (fun z => c z.2), if_neg c]
  · have hi24 : i < 24 := Nat.lt_of_lt_of_le (List.getElem?_eq_some_iff.mp hi).1 hl'.2.1
    rw [hw p i hi24, if_neg (fun z => hp z.1)]
    exact hl'.2.2 i e hi
theorem r_sumN (h : SH M m ra) {l : List Ent} (hs : s < 12) (hl : WL S s l) (h24 : l.length < 24) (hR : ∀ S1, Ex [744, 745, 746, 747] S S1 → WL S1 s (l ++ [(b, k, w)]) → (∀ p l', p ≠ s → WL S p l' → WL S1 p l') → R62 (nI s) t k w step (b + step) (pM M m ra S1)) : bk_X11_put_124 m R62 K (nI s) t k w step b (nI l.length) (pM M m ra S) := by
  have e1 := hl.1
  simp (disch := omega) only [bk_X11_put_124, bk_X11_put_206, bk_X11_put_223, RF h, p_mK, p_mR, p_aN, p_aR, p_mI, p_mJ, p_sI, p_sJ, Option.some.injEq, exists_eq_left', true_and, and_true, na1, na3, n_add, n_mul, n_clamp, n_in, na2, n_eq, e1, show ¬ l.length = 24 by omega, not_true, not_false_eq_true, false_implies, forall_const, sg, if_true, Nat.reduceEqDiff, if_false]
  have e0 : (0 : Int32) + w = w := Int32.zero_add w
  rw [e0]
  have hw : ∀ p i, i < 24 → w3 (wI (wI (wI (wI (wJ S 745 (24 * s + l.length) b) 746 (24 * s + l.length) k) 747 (24 * s + l.length) 0) 744 s (nI (l.length + 1))) 747 (24 * s + l.length) w) p i = if p = s ∧ i = l.length then (b, k, w) else w3 S p i := fun p i hi => by
    by_cases g : p = s ∧ i = l.length
    · obtain ⟨rfl, rfl⟩ := g
      rw [if_pos ⟨rfl, rfl⟩]
      simp [w3, sg]
    · have e9 : ¬ 24 * p + i = 24 * s + l.length := by omega
      rw [if_neg g]
      simp [w3, sg, e9]
  refine hR _ (((((Ex.wJ Ex.refl (by decide)).wI (by decide)).wI (by decide)).wI (by decide)).wI (by decide)) ⟨by simp [sg], by simp; omega, fun i e hi => ?_⟩ (fun p l' hp hl' => ⟨by simp [sg, hp]; exact hl'.1, hl'.2.1, fun i e hi => ?_⟩)
  · have hi24 : i < l.length + 1 := by simpa using (List.getElem?_eq_some_iff.mp hi).1
    rw [hw s i (by omega)]
    by_cases c : i = l.length
    · rw [if_pos ⟨rfl, c⟩]
      rw [c] at hi
      simpa using hi
    · rw [if_neg (fun z => c z.2)]
      rw [List.getElem?_append_left (by omega)] at hi
      exact hl.2.2 i e hi
  · have hi24 : i < 24 := Nat.lt_of_lt_of_le (List.getElem?_eq_some_iff.mp hi).1 hl'.2.1
    rw [hw p i hi24, if_neg (fun z => hp z.1)]
    exact hl'.2.2 i e hi
theorem r_sumL (h : SH M m ra) (hR : R62 (nI s) t k w step (b + step) (pM M m ra (pI S 743 (gI S 743 + 1)))) : bk_X11_put_124 m R62 K (nI s) t k w step b (nI 24) (pM M m ra S) := by
  simp (disch := omega) only [bk_X11_put_124, bk_X11_put_223, RF h, p_mK, p_mR, p_aN, p_aR, p_mI, p_mJ, p_sI, p_sJ, Option.some.injEq, exists_eq_left', true_and, and_true, na1, na3, n_add, n_mul, n_clamp, n_in, na2, not_true, false_implies, forall_const]
  exact hR
/-- one span: the sum is found, or made, or lost -/
theorem r_sum (h : SH M m ra) (hW : WC C) (hs : s < cn C) (hA : SA S C D) (hS : SrtW (dwi D s)) (hR : ∀ S1, SA S1 C (a_put1 D s k w b) → SrtW (dwi (a_put1 D s k w b) s) → R62 (nI s) t k w step (b + step) (pM M m ra S1)) : ∃ kk, lp_X11_put_72 m R62 K kk (nI s) t k w step b 0 (pM M m ra S) := by
  have h12 := hW.1
  obtain ⟨l, hp, hl⟩ := hA.2.2.2.2.2.2.2.2.2.2.1 s hs
  refine ⟨l.length + 1, ?_⟩
  refine r_find (i := 0) h (by omega) hl l rfl (Nat.zero_le _) (fun l1 x l2 he hx => ?_) (fun hn => ?_)
  · subst he
    rw [Nat.zero_add]
    obtain ⟨L1, a1, a2, a3, a4⟩ := perm_found (w := w) hS hp hx
    refine r_sumF h (by omega) hl hx (fun S1 g1 g2 g3 => ?_)
    have e : a_put1 D s k w b = xwi D s L1 := by unfold a_put1; rw [a1]
    refine hR S1 ?_ ?_
    · rw [e]; exact SA_wi hA g1 a2 g2 g3
    · rw [e]; simpa [dg] using a3
  · by_cases c : l.length < 24
    · obtain ⟨L1, a1, a2, a3, a4⟩ := perm_new (w := w) hS hp hn c
      have e : a_put1 D s k w b = xwi D s L1 := by unfold a_put1; rw [a1]
      refine r_sumN h (by omega) hl c (fun S1 g1 g2 g3 => hR S1 ?_ ?_)
      · rw [e]; exact SA_wi hA g1 a2 g2 g3
      · rw [e]; simpa [dg] using a3
    · have h24 := hl.2.1
      have e24 : l.length = 24 := by omega
      have a1 := perm_full (w := w) hp hn e24
      have e : a_put1 D s k w b = xlo D (dlo D + 1) := by unfold a_put1; rw [a1]
      rw [e24]
      refine r_sumL h (hR _ ?_ ?_)
      · have e9 : gI S 743 = dlo D := hA.2.2.2.2.2.2.2.2.2.1
        rw [e, e9]
        exact SA_lo hA
      · rw [e]; exact hS
end R9
