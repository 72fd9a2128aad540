/-! the reference: a row that comes to a window -/
section R8
variable {M : Mm} {m : Nat} {ra : Nat → Nat} {S : St} {C : Cfg} {D : Dyn}
def stw (S : St) (j : Nat) (e : Ent) : St := wI (wI (wJ S 745 j e.1) 746 j e.2.1) 747 j e.2.2
theorem w3_stw {q i p x : Nat} {e : Ent} (hi : i < 24) (hx : x < 24) : w3 (stw S (24 * q + i) e) p x = if p = q ∧ x = i then e else w3 S p x := by
  by_cases g : p = q ∧ x = i
  · obtain ⟨rfl, rfl⟩ := g
    simp [w3, stw, sg]
  · have e9 : ¬ 24 * p + x = 24 * q + i := by omega
    rw [if_neg g]
    simp [w3, stw, sg, e9]
theorem stw_744 {j : Nat} {e : Ent} {q : Nat} : vI (stw S j e) 744 q = vI S 744 q := by simp [stw, sg]
theorem Ex.stw {X : List Nat} {S1 : St} {j : Nat} {e : Ent} (g : Ex X S S1) (h1 : 745 ∈ X) (h2 : 746 ∈ X) (h3 : 747 ∈ X) : Ex X S (stw S1 j e) := ((g.wJ h1).wI h2).wI h3
theorem w3_744 {q p i : Nat} {v : Int32} : w3 (wI S 744 q v) p i = w3 S p i := by simp [w3, sg]
theorem WL_stw {q p i : Nat} {e : Ent} {l : List Ent} (hi : i < 24) (hp : p ≠ q) (hl : WL S p l) : WL (stw S (24 * q + i) e) p l := by
  refine ⟨by rw [stw_744]; exact hl.1, hl.2.1, fun x e' hx => ?_⟩
  have hx6 : x < 24 := Nat.lt_of_lt_of_le (List.getElem?_eq_some_iff.mp hx).1 hl.2.1
  rw [w3_stw hi hx6, if_neg (fun g => hp g.1)]
  exact hl.2.2 x e' hx
theorem WL_744 {q p : Nat} {v : Int32} {l : List Ent} (hp : p ≠ q) (hl : WL S p l) : WL (wI S 744 q v) p l := by
  refine ⟨by simp [sg, hp]; exact hl.1, hl.2.1, fun x e' hx => ?_⟩
  rw [w3_744]
  exact hl.2.2 x e' hx
theorem SA_wi {S1 : St} {s : Nat} {l L : List Ent} (hA : SA S C D) (hx : Ex [744, 745, 746, 747] S S1) (hp : l.Perm L) (hk : WL S1 s l) (ho : ∀ p l', p ≠ s → WL S p l' → WL S1 p l') : SA S1 C (xwi D s L) := by
  obtain ⟨hC, d1, d2, d3, d4, d5, d6, d7, d8, d9, d10, d11, d12⟩ := hA
  refine ⟨?_, ?_, ?_, ?_, ?_, ?_, ?_, ?_, ?_, ?_, ?_, ?_, ?_⟩
  · rw [x_SC C hx (by decide) (by decide) (by decide) (by decide) (by decide) (by decide) (by decide) (by decide) (by decide) (by decide) (by decide) (by decide) (by decide) (by decide) (by decide) (by decide) (by decide) (by decide) (by decide) (by decide) (by decide)]; exact hC
  · rw [x_MK _ _ hx (by decide)]; exact d1
  · rw [x_IDL _ _ hx (by decide)]; exact d2
  · rw [x_PTS _ _ hx (by decide)]; exact d3
  · rw [x_PTP _ _ hx (by decide)]; exact d4
  · rw [x_PTH _ _ hx (by decide)]; exact d5
  · rw [x_NWW _ hx (by decide)]; exact d6
  · rw [x_NT _ _ _ _ hx (by decide) (by decide)]; exact d7
  · rw [x_NT _ _ _ _ hx (by decide) (by decide)]; exact d8
  · rw [x_LO _ hx (by decide)]; exact d9
  · intro p hq
    by_cases e : p = s
    · subst e
      simp only [dg, if_true]
      exact ⟨l, hp, hk⟩
    · simp only [dg, if_neg e]
      obtain ⟨l', h1, h2⟩ := d10 p hq
      exact ⟨l', h1, ho p l' e h2⟩
  · rw [x_KP _ _ hx (by decide) (by decide) (by decide) (by decide)]; exact d11
  · rw [x_TI _ hx (by decide) (by decide) (by decide) (by decide)]; exact d12
theorem WL_set {s : Nat} {l1 l2 : List Ent} {x y : Ent} {S1 : St} (hl : WL S s (l1 ++ x :: l2)) (h744 : vI S1 744 s = vI S 744 s) (hw : ∀ i, i < 24 → w3 S1 s i = if i = l1.length then y else w3 S s i) : WL S1 s (l1 ++ y :: l2) := by
  refine ⟨by rw [h744, hl.1]; simp, by have := hl.2.1; simp at this ⊢; omega, fun i e hi => ?_⟩
  have hi24 : i < 24 := by
    have h1 := (List.getElem?_eq_some_iff.mp hi).1
    have h2 := hl.2.1
    simp at h1 h2
    omega
  rw [hw i hi24]
  by_cases c : i = l1.length
  · rw [if_pos c]
    subst c
    simpa using hi
  · rw [if_neg c]
    refine hl.2.2 i e ?_
    rcases Nat.lt_or_gt_of_ne c with g | g
    · rw [List.getElem?_append_left g] at hi ⊢; exact hi
    · rw [List.getElem?_append_right (by omega)] at hi ⊢
      rw [show i - l1.length = (i - l1.length - 1) + 1 by omega] at hi ⊢
      simpa using hi
variable {R62 : Int32 → Int64 → Int32 → Int32 → Int64 → Int64 → Mm → Prop} {K : Mm → Prop} {s : Nat} {t step b : Int64} {k w : Int32}
theorem r_find (h : SH M m ra) {l : List Ent} (hs : s < 12) (hl : WL S s l) : ∀ (post : List Ent) (i : Nat), l.drop i = post → i ≤ l.length → (∀ l1 x l2, post = l1 ++ x :: l2 → (x.1 = b ∧ x.2.1 = k) → bk_X11_put_124 m R62 K (nI s) t k w step b (nI (i + l1.length)) (pM M m ra S)) → ((∀ e ∈ post, ¬ (e.1 = b ∧ e.2.1 = k)) → bk_X11_put_124 m R62 K (nI s) t k w step b (nI l.length) (pM M m ra S)) → lp_X11_put_72 m R62 K (post.length + 1) (nI s) t k w step b (nI i) (pM M m ra S) := by
  intro post
  have h24 := hl.2.1
  induction post with
  | nil =>
    intro i hd hi _ h2
    have hil : i = l.length := by
      have := List.drop_eq_nil_iff.mp hd
      omega
    rw [lp_X11_put_72]
    simp (disch := omega) only [RF h, p_mK, p_mR, p_aN, p_aR, p_mI, p_mJ, p_sI, p_sJ, Option.some.injEq, exists_eq_left', true_and, and_true, na1, na3, n_add, n_mul, n_clamp, n_in, hl.1, n_le, show l.length ≤ i by omega, not_true, false_implies, forall_const]
    rw [hil]
    exact h2 (fun e he => by simp at he)
  | cons e post ih =>
    intro i hd hi h1 h2
    have hil : i < l.length := by
      refine Classical.byContradiction fun z => ?_
      rw [List.drop_eq_nil_of_le (by omega)] at hd
      cases hd
    have hle : l[i]? = some e := by
      have := congrArg List.head? hd
      rw [List.head?_drop] at this
      exact this
    have hd2 : l.drop (i + 1) = post := by
      rw [← List.tail_drop, hd]
      rfl
    have e3 := hl.2.2 i e hle
    have q1 : vJ S 745 (24 * s + i) = e.1 := congrArg (fun z => z.1) e3
    have q2 : vI S 746 (24 * s + i) = e.2.1 := congrArg (fun z => z.2.1) e3
    have nx : ¬ (e.1 = b ∧ e.2.1 = k) → lp_X11_put_72 m R62 K (post.length + 1) (nI s) t k w step b (nI (i + 1)) (pM M m ra S) := fun hn => by
      refine ih (i + 1) hd2 (by omega) (fun l1 x l2 hp hx => ?_) (fun hall => ?_)
      · have := h1 (e :: l1) x l2 (by rw [hp]; rfl) hx
        rw [List.length_cons] at this
        rw [show i + 1 + l1.length = i + (l1.length + 1) by omega]
        exact this
      · exact h2 (fun z hz => by
          rcases List.mem_cons.mp hz with rfl | hz
          · exact hn
          · exact hall z hz)
    rw [List.length_cons, lp_X11_put_72]
    simp (disch := omega) only [RF h, p_mK, p_mR, p_aN, p_aR, p_mI, p_mJ, p_sI, p_sJ, Option.some.injEq, exists_eq_left', true_and, and_true, na1, na3, n_add, n_mul, n_clamp, n_in, hl.1, n_le, show ¬ l.length ≤ i by omega, not_false_eq_true, false_implies, forall_const, q1, q2, bk_X11_put_118]
    refine ⟨fun z => nx (fun y => z y.1), fun z => ⟨fun y => ?_, fun y => nx (fun x => y x.2)⟩⟩
    have := h1 [] e post rfl ⟨z, y⟩
    simpa using this
end R8
