/-! the reference: goals found; sums that are closed -/
section R13
variable {M : Mm} {m : Nat} {ra : Nat → Nat} {C : Cfg}
theorem r_findGoal (h : SH M m ra) (hW : WC C) {K : Mm → Prop} {s : Nat} {S : St} {D : Dyn} (hs : s < cn C) (hA : SA S C D) (hps : ∀ s k, dps D s k ≤ 2) (hts : ∀ x ∈ dti D, x.1 < 12) (hK : ∀ S1, SA S1 C D → GS S1 (a_goal C D s) → K (pM M m ra S1)) : wp_X11_findGoal (pM M m ra S) m (nI s) K := by
  have h12 := hW.1
  obtain ⟨w1, w2, w3, w4, w5, w6, w7, -⟩ := hW.2.2.2 s hs
  have hA0 : SA (pI S 756 0) C D := SA_scr hA (Ex.refl.pI (by decide))
  have hG0 : GS (pI S 756 0) none := by simp [GS, sg]
  obtain ⟨c1, c2, c3, c4, c5, c6, c7, c8, c9⟩ := hA0.1.2.2.1 s hs
  simp (disch := omega) only [wp_X11_findGoal, RF h, p_mK, p_mR, p_aN, p_aR, p_mI, p_mJ, p_sI, p_sJ, Option.some.injEq, exists_eq_left', true_and, and_true, na1, na3, n_add, n_mul, n_clamp, n_in, e_kindOf h, c1, n_toInt, na2, bk_X11_findGoal_226, bk_X11_findGoal_52]
  have inp : ckd C s = 1 ∨ ckd C s = 4 → ∃ kk, lp_X11_findGoal_56 m K kk (nI s) 1 0 (pM M m ra (pI S 756 0)) := fun hk => by
    refine ⟨(cin C s).length + 1, ?_⟩
    refine r_inL h hW hs (fun S1 h1 h2 => hK S1 h1 ?_) (cin C s) 0 _ none true rfl (Nat.zero_le _) rfl (by simp) hA0 hG0
    rw [a_goal, if_neg (by omega), if_pos hk]
    exact h2
  refine ⟨fun z => ?_, fun z => ?_, fun z => inp (Or.inl z), fun z => ?_, fun z => inp (Or.inr z)⟩
  · have hk : ckd C s = 2 ∨ ckd C s = 5 := by omega
    have hlen : (cin C s).length = 1 := w7 (by omega)
    have i0 : vI (pI S 756 0) 725 (4 * (12 + s)) = nI (a_in C s 0) := hA0.1.2.2.2.1 s 0 hs (by omega)
    have b0 := hW.2.2.1 s 0 hs (by omega)
    have m0 := hA0.2.1 (a_in C s 0) (by omega)
    have d0 := hA0.2.2.1 (a_in C s 0) (by omega)
    have g : a_goal C D s = if did D (a_in C s 0) then none else some (if ckd C s = 2 then plusF (dmk D (a_in C s 0)) (co1 C s) else dmk D (a_in C s 0)) := by
      rw [a_goal, if_neg (by omega), if_neg (by omega), if_neg (by omega)]
    rw [g] at hK
    simp (disch := omega) only [bk_X11_findGoal_162, bk_X11_findGoal_223, bk_X11_findGoal_226, RF h, p_mK, p_mR, p_aN, p_aR, p_mI, p_mJ, p_sI, p_sJ, Option.some.injEq, exists_eq_left', true_and, and_true, na1, na3, n_add, n_mul, n_clamp, n_in, e_inputOf0 h, i0, d0, m0, bI_0, e_kindOf h, c1, c4, na2, e_plus]
    refine ⟨fun y => hK _ hA0 ?_, fun y => ⟨fun x => ?_, fun x => ?_⟩⟩
    · rw [Bool.not_eq_false] at y
      rw [y, if_pos rfl]; exact hG0
    · refine r_least h hA0 hG0 (fun S1 h1 h2 => hK S1 h1 ?_)
      rw [y, if_neg x]; exact h2
    · refine r_least h hA0 hG0 (fun S1 h1 h2 => hK S1 h1 ?_)
      rw [y, if_pos x]; exact h2
  · unfold wp_X11_sourceGoal
    refine ⟨cpt C s + 1, ?_⟩
    have := r_srcL (K := K) h hW hs hps (fun S1 h1 h2 => hK S1 h1 (by rw [a_goal, if_pos z]; exact h2)) (cpt C s) 0 (pI S 756 0) (Nat.zero_add _) hA0 hG0
    exact this
  · have hlen : (cin C s).length = 1 := w7 (by omega)
    have i0 : vI (pI S 756 0) 725 (4 * (12 + s)) = nI (a_in C s 0) := hA0.1.2.2.2.1 s 0 hs (by omega)
    have b0 := hW.2.2.1 s 0 hs (by omega)
    have g : a_goal C D s = match a_holdG D s with
      | none => if did D (a_in C s 0) then none else some (dmk D (a_in C s 0))
      | some g => a_least (some g) (if did D (a_in C s 0) then dmk D s else dmk D (a_in C s 0)) := by
      rw [a_goal, if_neg (by omega), if_neg (by omega), if_pos z]
      cases a_holdG D s <;> rfl
    simp (disch := omega) only [wp_X11_holdGoal, RF h, p_mK, p_mR, p_aN, p_aR, p_mI, p_mJ, p_sI, p_sJ, Option.some.injEq, exists_eq_left', true_and, and_true, na1, na3, n_add, n_mul, n_clamp, n_in, e_inputOf0 h, i0]
    refine ⟨(dti D).length + 1, ?_⟩
    exact r_holdL h hW hs (by omega) g hts hK (dti D) 0 _ none rfl (Nat.zero_le _) rfl hA0 hG0
def fI (s : Nat) (f : Option Nat) : Int32 := match f with
  | none => -1
  | some j => nI (24 * s + j)
def clo (C : Cfg) (D : Dyn) (s : Nat) (e : Ent) : Prop := plusF e.1 (co1 C s - 1) ≤ dmk D s
def FstW (C : Cfg) (D : Dyn) (s : Nat) (l : List Ent) (i : Nat) (f : Option Nat) : Prop := match f with
  | none => ∀ x e, x < i → l[x]? = some e → ¬ clo C D s e
  | some j => j < i ∧ ∃ e, l[j]? = some e ∧ clo C D s e ∧ ∀ x e', x < i → l[x]? = some e' → clo C D s e' → x = j ∨ a_ahead e'.1 e'.2.1 e = true
theorem ahead_tri {e e' : Ent} (h : ¬ (e.1 = e'.1 ∧ e.2.1 = e'.2.1)) (h2 : ¬ a_ahead e.1 e.2.1 e' = true) : a_ahead e'.1 e'.2.1 e = true := by
  rw [ahead_iff] at h2 ⊢
  rw [← Int64.toInt_inj, ← Int32.toInt_inj] at h
  omega
theorem ahead_trans {a b c : Ent} (h : a_ahead b.1 b.2.1 a = true) (h2 : a_ahead c.1 c.2.1 b = true) : a_ahead c.1 c.2.1 a = true := by
  rw [ahead_iff] at *
  omega
def KD (l : List Ent) : Prop := ∀ (i j : Nat) (e e' : Ent), i ≠ j → l[i]? = some e → l[j]? = some e' → ¬ (e.1 = e'.1 ∧ e.2.1 = e'.2.1)
theorem r_closeI (h : SH M m ra) (hW : WC C) {R0 : Int32 → Mm → Prop} {K : Mm → Prop} {s : Nat} {S : St} {D : Dyn} {l : List Ent} (hs : s < cn C) (hA : SA S C D) (hl : WL S s l) (hd : KD l) (hE : ∀ f, FstW C D s l l.length f → lp_X11_close_7 m R0 K 1 (nI s) (fI s f) (nI (24 * s + l.length)) (pM M m ra S)) : ∀ (post : List Ent) (i : Nat) (f : Option Nat), l.drop i = post → i ≤ l.length → FstW C D s l i f → lp_X11_close_7 m R0 K (post.length + 1) (nI s) (fI s f) (nI (24 * s + i)) (pM M m ra S) := by
  intro post
  have h12 := hW.1
  have h24 := hl.2.1
  induction post with
  | nil =>
    intro i f hp hi hf
    have hil : i = l.length := by
      have := List.drop_eq_nil_iff.mp hp
      omega
    subst hil
    exact hE f hf
  | cons e post ih =>
    intro i f hp hi hf
    have hil : i < l.length := by
      refine Classical.byContradiction fun z => ?_
      rw [List.drop_eq_nil_of_le (by omega)] at hp
      cases hp
    have hle : l[i]? = some e := by
      have := congrArg List.head? hp
      rw [List.head?_drop] at this
      exact this
    have hd2 : l.drop (i + 1) = post := by
      rw [← List.tail_drop, hp]
      rfl
    have e3 := hl.2.2 i e hle
    have q1 : vJ S 745 (24 * s + i) = e.1 := congrArg (fun z => z.1) e3
    have q2 : vI S 746 (24 * s + i) = e.2.1 := congrArg (fun z => z.2.1) e3
    obtain ⟨c1, c2, c3, c4, c5, c6, c7, c8, c9⟩ := hA.1.2.2.1 s hs
    have m0 := hA.2.1 s hs
    have nx : ∀ f2, FstW C D s l (i + 1) f2 → lp_X11_close_7 m R0 K (post.length + 1) (nI s) (fI s f2) (nI (24 * s + i + 1)) (pM M m ra S) := fun f2 h2 => by
      have := ih (i + 1) f2 hd2 (by omega) h2
      rw [show 24 * s + (i + 1) = 24 * s + i + 1 by omega] at this
      exact this
    have skip : ¬ clo C D s e → FstW C D s l (i + 1) f := fun hn => by
      cases f with
      | none =>
        intro x e' hx he'
        by_cases a : x = i
        · rw [a, hle] at he'; cases he'; exact hn
        · exact hf x e' (by omega) he'
      | some j =>
        obtain ⟨g1, e0, g2, g3, g4⟩ := hf
        refine ⟨by omega, e0, g2, g3, fun x e' hx he' hc => ?_⟩
        by_cases a : x = i
        · rw [a, hle] at he'; cases he'; exact absurd hc hn
        · exact g4 x e' (by omega) he' hc
    have take : clo C D s e → (∀ j e0, f = some j → l[j]? = some e0 → a_ahead e0.1 e0.2.1 e = true) → FstW C D s l (i + 1) (some i) := fun hc hlt => by
      refine ⟨by omega, e, hle, hc, fun x e' hx he' hc' => ?_⟩
      by_cases a : x = i
      · exact Or.inl a
      · right
        cases f with
        | none => exact absurd hc' (hf x e' (by omega) he')
        | some j =>
          obtain ⟨g1, e0, g2, g3, g4⟩ := hf
          have hlt := hlt j e0 rfl g2
          rcases g4 x e' (by omega) he' hc' with rfl | g
          · rw [g2] at he'; cases he'; exact hlt
          · exact ahead_trans hlt g
    have stay : ∀ j e0, f = some j → l[j]? = some e0 → ¬ a_ahead e0.1 e0.2.1 e = true → FstW C D s l (i + 1) f := fun j e0 hfj hj hn => by
      subst hfj
      obtain ⟨g1, e1, g2, g3, g4⟩ := hf
      rw [hj] at g2; cases g2
      refine ⟨by omega, e0, hj, g3, fun x e' hx he' hc => ?_⟩
      by_cases a : x = i
      · right
        rw [a, hle] at he'; cases he'
        exact ahead_tri (hd j i e0 e (by omega) hj hle) hn
      · exact g4 x e' (by omega) he' hc
    have mid : ∀ b : Int32, (b = 0 ↔ ¬ clo C D s e) → bk_X11_close_57 m R0 (lp_X11_close_7 m R0 K (post.length + 1)) K (nI s) (fI s f) (nI (24 * s + i)) b (pM M m ra S) := fun b hb => by
      cases f with
      | none =>
        simp (disch := omega) only [bk_X11_close_57, bk_X11_close_115, bk_X11_close_117, fI, RF h, p_mK, p_mR, p_aN, p_aR, p_mI, p_mJ, p_sI, p_sJ, Option.some.injEq, exists_eq_left', true_and, and_true, na1, na3, n_add, n_mul, n_clamp, n_in, show ((-1 : Int32) < 0) = True by decide, not_true, false_implies, forall_const]
        refine ⟨fun z => nx none (skip (hb.mp z)), fun z => ?_⟩
        have hc : clo C D s e := Classical.byContradiction fun q => z (hb.mpr q)
        exact nx (some i) (take hc (fun j e0 q => by cases q))
      | some j =>
        obtain ⟨g1, e0, g2, g3, g4⟩ := id hf
        have f3 := hl.2.2 j e0 g2
        have r1 : vJ S 745 (24 * s + j) = e0.1 := congrArg (fun z => z.1) f3
        have r2 : vI S 746 (24 * s + j) = e0.2.1 := congrArg (fun z => z.2.1) f3
        simp (disch := omega) only [bk_X11_close_57, bk_X11_close_115, bk_X11_close_117, fI, RF h, p_mK, p_mR, p_aN, p_aR, p_mI, p_mJ, p_sI, p_sJ, Option.some.injEq, exists_eq_left', true_and, and_true, na1, na3, n_add, n_mul, n_clamp, n_in, na2, Nat.not_lt_zero, q1, q2, r1, r2, not_false_eq_true, false_implies, forall_const]
        refine ⟨fun z => nx (some j) (skip (hb.mp z)), fun z => ?_⟩
        have hc : clo C D s e := Classical.byContradiction fun q => z (hb.mpr q)
        have ah : ∀ j' e0', some j = some j' → l[j']? = some e0' → e0' = e0 := fun j' e0' q w => by cases q; rw [g2] at w; cases w; rfl
        refine ⟨fun y => nx (some i) (take hc (fun j' e0' q w => ?_)), fun y => ⟨fun x => nx (some j) (stay j e0 rfl g2 ?_), fun x => ⟨fun v => nx (some j) (stay j e0 rfl g2 ?_), fun v => nx (some i) (take hc (fun j' e0' q w => ?_))⟩⟩⟩
        · rw [ah j' e0' q w]; simp [a_ahead, y]
        · simp [a_ahead, x, y]
        · simp [a_ahead, x, v]
        · rw [ah j' e0' q w]; simp [a_ahead, x, Int32.not_le.mp v]
    rw [List.length_cons, lp_X11_close_7]
    simp (disch := omega) only [RF h, p_mK, p_mR, p_aN, p_aR, p_mI, p_mJ, p_sI, p_sJ, Option.some.injEq, exists_eq_left', true_and, and_true, na1, na3, n_add, n_mul, n_clamp, n_in, hl.1, n_le, show ¬ 24 * s + l.length ≤ 24 * s + i by omega, q1, c4, m0, e_plus, not_false_eq_true, false_implies, forall_const]
    refine ⟨fun z => mid 0 ?_, fun z => mid 1 ?_⟩
    · exact ⟨fun _ => Int64.not_le.mpr z, fun _ => rfl⟩
    · exact ⟨fun q => absurd q (by decide), fun q => absurd (Int64.not_lt.mp z) q⟩
end R13
