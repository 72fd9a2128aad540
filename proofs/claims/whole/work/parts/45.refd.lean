/-! the reference: far rows, rows that are dropped and kept -/
section R5
variable {M : Mm} {m : Nat} {ra : Nat → Nat} {S : St} {C : Cfg} {D : Dyn}
theorem e_isFar (h : SH M m ra) (hA : SA S C D) (hW : WC C) {s side : Nat} {t : Int64} {K : Int32 → Mm → Prop} (hs : s < cn C) (hk : ckd C s = 4) (hsd : side < 2) : wp_X11_isFar (pM M m ra S) m (nI s) (nI side) t K = K (bI (a_far C D s side t)) (pM M m ra S) := by
  have h12 := hW.1
  obtain ⟨c1, c2, c3, c4, c5, c6, c7, c8, c9⟩ := hA.1.2.2.1 s hs
  have hlen : (cin C s).length = 2 := (hW.2.2.2 s hs).2.2.2.2.2.1 hk
  have i0 : vI S 725 (4 * (12 + s)) = nI (a_in C s 0) := hA.1.2.2.2.1 s 0 hs (by omega)
  have i1 := hA.1.2.2.2.1 s 1 hs (by omega)
  have b0 := hW.2.2.1 s 0 hs (by omega)
  have b1 := hW.2.2.1 s 1 hs (by omega)
  have m0 := hA.2.1 _ (show a_in C s 0 < cn C by omega)
  have m1 := hA.2.1 _ (show a_in C s 1 < cn C by omega)
  rcases (show side = 0 ∨ side = 1 by omega) with rfl | rfl
  · simp (disch := omega) only [wp_X11_isFar, bk_X11_isFar_74, RF h, p_mK, p_mR, p_aN, p_aR, p_mI, p_mJ, p_sI, p_sJ, Option.some.injEq, exists_eq_left', true_and, and_true, na1, na3, n_add, n_mul, n_clamp, n_in, na2, e_plus, e_inputOf1 h, i1, m1, c5, not_true, false_implies, forall_const]
    by_cases q : dmk D (a_in C s 1) < plusF t (co2 C s)
    · simp [q, a_far, bI, bz, Int64.not_le.mpr q]
    · simp [q, a_far, bI, bz, Int64.not_lt.mp q]
  · simp (disch := omega) only [wp_X11_isFar, bk_X11_isFar_74, RF h, p_mK, p_mR, p_aN, p_aR, p_mI, p_mJ, p_sI, p_sJ, Option.some.injEq, exists_eq_left', true_and, and_true, na1, na3, n_add, n_mul, n_clamp, n_in, na2, e_plus, e_inputOf0 h, i0, m0, c4, Nat.one_ne_zero, not_false_eq_true, false_implies, forall_const]
    by_cases q : dmk D (a_in C s 0) < plusF t (-(co1 C s))
    · simp [q, a_far, bI, bz, Int64.not_le.mpr q]
    · simp [q, a_far, bI, bz, Int64.not_lt.mp q]
def st3 (S : St) (j : Nat) (e : Ent) : St := wI (wI (wJ S 749 j e.1) 750 j e.2.1) 751 j e.2.2
theorem k3_st3 {q i p x : Nat} {e : Ent} (hi : i < 6) (hx : x < 6) : k3 (st3 S (6 * q + i) e) p x = if p = q ∧ x = i then e else k3 S p x := by
  by_cases g : p = q ∧ x = i
  · obtain ⟨rfl, rfl⟩ := g
    simp [k3, st3, sg]
  · have e9 : ¬ 6 * p + x = 6 * q + i := by omega
    rw [if_neg g]
    simp [k3, st3, sg, e9]
theorem st3_748 {j : Nat} {e : Ent} {q : Nat} : vI (st3 S j e) 748 q = vI S 748 q := by simp [st3, sg]
theorem Ex.st3 {X : List Nat} {S1 : St} {j : Nat} {e : Ent} (g : Ex X S S1) (h1 : 749 ∈ X) (h2 : 750 ∈ X) (h3 : 751 ∈ X) : Ex X S (st3 S1 j e) := ((g.wJ h1).wI h2).wI h3
theorem KE_len {q : Nat} {l : List Ent} (hl : KE S q l) : l.length ≤ 6 := hl.2.1
theorem KE_st3 {q p i : Nat} {e : Ent} {l : List Ent} (hi : i < 6) (hp : p ≠ q) (hl : KE S p l) : KE (st3 S (6 * q + i) e) p l := by
  refine ⟨by rw [st3_748]; exact hl.1, hl.2.1, fun x e' hx => ?_⟩
  have hx6 : x < 6 := Nat.lt_of_lt_of_le (List.getElem?_eq_some_iff.mp hx).1 hl.2.1
  rw [k3_st3 hi hx6, if_neg (fun g => hp g.1)]
  exact hl.2.2 x e' hx
theorem KE_748 {q p : Nat} {v : Int32} {l : List Ent} (hp : p ≠ q) (hl : KE S p l) : KE (wI S 748 q v) p l := by
  refine ⟨by simp [sg, hp]; exact hl.1, hl.2.1, fun x e' hx => ?_⟩
  have := hl.2.2 x e' hx
  simpa [k3, sg] using this
theorem k3_748 {q p i : Nat} {v : Int32} : k3 (wI S 748 q v) p i = k3 S p i := by simp [k3, sg]
theorem r_dropL (h : SH M m ra) {K : Mm → Prop} {q L : Nat} (hq : q < 24) (hL : L < 6) : ∀ (r j : Nat) (S : St), j + r = L → vI S 748 q = nI L → (∀ S1, vI S1 748 q = nI L → (∀ x, x < 6 → k3 S1 q x = if x < j then k3 S q x else if x < L then k3 S q (x + 1) else k3 S q x) → (∀ p x, p ≠ q → x < 6 → k3 S1 p x = k3 S p x) → (∀ p, vI S1 748 p = vI S 748 p) → Ex [748, 749, 750, 751] S S1 → K (pM M m ra S1)) → lp_X11_drop_17 m K (r + 1) (nI q) (nI (6 * q + j)) (pM M m ra S) := by
  intro r
  induction r with
  | zero =>
    intro j S hj hc hK
    have e : j = L := by omega
    subst e
    simp (disch := omega) only [lp_X11_drop_17, RF h, p_mK, p_mR, p_aN, p_aR, p_mI, p_mJ, p_sI, p_sJ, Option.some.injEq, exists_eq_left', true_and, and_true, na1, na3, n_add, n_mul, n_clamp, n_in, hc, n_le, Nat.le_refl, forall_const, not_true, false_implies]
    refine hK S hc (fun x hx => ?_) (fun _ _ _ _ => rfl) (fun _ => rfl) Ex.refl
    split
    · rfl
    · rfl
  | succ r ih =>
    intro j S hj hc hK
    rw [lp_X11_drop_17]
    simp (disch := omega) only [RF h, p_mK, p_mR, p_aN, p_aR, p_mI, p_mJ, p_sI, p_sJ, Option.some.injEq, exists_eq_left', true_and, and_true, na1, na3, n_add, n_mul, n_clamp, n_in, hc, n_le, show ¬ (6 * q + L ≤ 6 * q + j) by omega, not_false_eq_true, forall_const, false_implies]
    have e1 : wI (wI (wJ S 749 (6 * q + j) (vJ S 749 (6 * q + j + 1))) 750 (6 * q + j) (vI (wJ S 749 (6 * q + j) (vJ S 749 (6 * q + j + 1))) 750 (6 * q + j + 1))) 751 (6 * q + j) (vI (wI (wJ S 749 (6 * q + j) (vJ S 749 (6 * q + j + 1))) 750 (6 * q + j) (vI (wJ S 749 (6 * q + j) (vJ S 749 (6 * q + j + 1))) 750 (6 * q + j + 1))) 751 (6 * q + j + 1)) = st3 S (6 * q + j) (k3 S q (j + 1)) := by
      simp [st3, k3, sg, Nat.add_assoc]
    rw [e1]
    refine ih (j + 1) _ (by omega) (by rw [st3_748]; exact hc) (fun S1 g1 g2 g3 g4 g5 => ?_)
    refine hK S1 g1 (fun x hx => ?_) (fun p x hp hx => ?_) (fun p => ?_) ?_
    · rw [g2 x hx]
      by_cases a : x < j
      · rw [if_pos (by omega), if_pos a, k3_st3 (by omega) hx, if_neg (by omega)]
      · by_cases b : x = j
        · subst b
          rw [if_pos (by omega), if_neg (by omega), if_pos (by omega), k3_st3 (by omega) hx, if_pos ⟨rfl, rfl⟩]
        · rw [if_neg (by omega), if_neg a]
          by_cases c : x < L
          · rw [if_pos c, if_pos c, k3_st3 (by omega) (by omega), if_neg (by omega)]
          · rw [if_neg c, if_neg c, k3_st3 (by omega) hx, if_neg (by omega)]
    · rw [g3 p x hp hx, k3_st3 (by omega) hx, if_neg (fun z => hp z.1)]
    · rw [g4 p, st3_748]
    · exact (Ex.st3 Ex.refl (by decide) (by decide) (by decide)).trans g5
theorem r_drop (h : SH M m ra) {K : Mm → Prop} {q i : Nat} {l : List Ent} (hq : q < 24) (hl : KE S q l) (hi : i < l.length) (hK : ∀ S1, Ex [748, 749, 750, 751] S S1 → KE S1 q (l.eraseIdx i) → (∀ p l', p ≠ q → KE S p l' → KE S1 p l') → K (pM M m ra S1)) : wp_X11_drop (pM M m ra S) m (nI q) (nI i) K := by
  have h6 := hl.2.1
  simp (disch := omega) only [wp_X11_drop, RF h, p_mK, p_mR, p_aN, p_aR, p_mI, p_mJ, p_sI, p_sJ, Option.some.injEq, exists_eq_left', true_and, and_true, na1, na3, n_add, n_mul, n_clamp, n_in, hl.1]
  refine ⟨l.length - 1 - i + 1, ?_⟩
  refine r_dropL h hq (L := l.length - 1) (by omega) _ i _ (by omega) (by simp [sg]) (fun S1 g1 g2 g3 g4 g5 => ?_)
  refine hK S1 ((Ex.wI Ex.refl (by decide)).trans g5) ⟨?_, ?_, fun x e hx => ?_⟩ (fun p l' hp hl' => ⟨?_, hl'.2.1, fun x e hx => ?_⟩)
  · rw [g1, List.length_eraseIdx, if_pos hi]
  · rw [List.length_eraseIdx, if_pos hi]; omega
  · have hx6 : x < 6 := by
      have := (List.getElem?_eq_some_iff.mp hx).1
      rw [List.length_eraseIdx, if_pos hi] at this
      omega
    have hxL : x < l.length - 1 := by
      have := (List.getElem?_eq_some_iff.mp hx).1
      rw [List.length_eraseIdx, if_pos hi] at this
      omega
    rw [List.getElem?_eraseIdx] at hx
    rw [g2 x hx6]
    by_cases a : x < i
    · rw [if_pos a] at hx ⊢
      rw [k3_748]
      exact hl.2.2 x e hx
    · rw [if_neg a] at hx ⊢
      rw [if_pos hxL, k3_748]
      exact hl.2.2 _ e hx
  · rw [g4 p]; simp [sg, hp]; exact hl'.1
  · have hx6 : x < 6 := Nat.lt_of_lt_of_le (List.getElem?_eq_some_iff.mp hx).1 hl'.2.1
    rw [g3 p x hp hx6, k3_748]
    exact hl'.2.2 x e hx
end R5
