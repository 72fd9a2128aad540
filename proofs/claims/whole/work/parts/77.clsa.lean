/-! the class: a weight is added to a window's sums -/
section K7
variable {B M : Mm} {L : Nat → Nat → Nat} {C : Cfg} {D : Dyn}
theorem c_shift {K : Int32 → Mm → Prop} {s p : Nat} {b : Int64} {k w : Int32} {l : List Ent} (hs : s < cn C) (h5 : ckd C s = 5) (hp : p ≤ l.length) (h24 : l.length < 24) (hK : ∀ M1, CR B M1 L C (xwi D s (l.take p ++ (b, k, w) :: l.drop p)) → K 1 M1) : ∀ (r i : Nat) (M : Mm), p + r = i → i ≤ l.length → CR B M L C (xwi D s (wl M L s l.length)) → (∀ j e, j < i → l[j]? = some e → cw3 M L s j = e) → (∀ j e, i ≤ j → j < l.length → l[j]? = some e → cw3 M L s (j + 1) = e) → lp_X9_addTo_92 (L 16 s) K (r + 1) b k w (nI p) (nI i) M := by
  intro r
  induction r with
  | zero =>
    intro i M hi hil h h1 h2
    have e : i = p := by omega
    subst e
    rw [lp_X9_addTo_92]
    have F := CWF h hs h5
    simp (disch := omega) only [F, n_le, Nat.le_refl, not_true, false_implies, forall_const, true_and, and_true]
    refine c_wput (e := (b, k, w)) h hs h5 (by omega) ?_
    have h3 := CR_wput (i := i) (e := (b, k, w)) h wl_len hs h5
    have hwl := h3.2.2.2.2.2.2.2.2.2.2.2.1 s hs h5
    simp only [dg, if_true] at hwl
    have F3 := CWF h3 hs h5
    have e1 := hwl.2.1
    rw [wl_len] at e1
    simp only [F3, e1, true_and]
    rw [show nI l.length + 1 = nI (l.length + 1) from nI_add _ 1]
    have h4 := CR_wcnt (n := l.length + 1) h3 hs h5 (by omega)
    have e2 : wl (cwst M L s i (b, k, w)) L s (l.length + 1) = l.take i ++ (b, k, w) :: l.drop i := by
      refine wl_ext (by simp; omega) (fun j e hj => ?_)
      rw [cw3_cwst h hs h5 hs h5]
      have hjl := (List.getElem?_eq_some_iff.mp hj).1
      simp at hjl
      by_cases c : j = i
      · rw [if_pos ⟨rfl, c⟩]
        rw [c, List.getElem?_append_right (by simp; omega)] at hj
        simp at hj
        rw [show i - min i l.length = 0 by omega] at hj
        simpa using hj
      · rw [if_neg (fun z => c z.2)]
        rcases Nat.lt_or_gt_of_ne c with g | g
        · rw [List.getElem?_append_left (by simp; omega), List.getElem?_take, if_pos g] at hj
          exact h1 j e g hj
        · rw [List.getElem?_append_right (by simp; omega)] at hj
          have hm : (l.take i).length = i := by simp; omega
          rw [hm, show j - i = (j - i - 1) + 1 by omega, List.getElem?_cons_succ, List.getElem?_drop] at hj
          have := h2 (j - 1) e (by omega) (by omega) (by rw [← hj]; congr 1; omega)
          rw [show j - 1 + 1 = j by omega] at this
          exact this
    rw [e2] at h4
    exact hK _ h4
  | succ r ih =>
    intro i M hi hil h h1 h2
    have F := CWF h hs h5
    obtain ⟨e, he⟩ : ∃ e, l[i - 1]? = some e := ⟨l[i - 1], List.getElem?_eq_getElem (by omega)⟩
    have e3 := h1 (i - 1) e (by omega) he
    have q1 : aJ M (L 17 s) (i - 1) = e.1 := congrArg (fun z => z.1) e3
    have q2 : aI M (L 18 s) (i - 1) = e.2.1 := congrArg (fun z => z.2.1) e3
    have q3 : aI M (L 19 s) (i - 1) = e.2.2 := congrArg (fun z => z.2.2) e3
    rw [lp_X9_addTo_92]
    simp (disch := omega) only [F, n_le, show ¬ i ≤ p by omega, na1, n_in, n_clamp, q1, q2, q3, Option.some.injEq, exists_eq_left', not_false_eq_true, false_implies, forall_const, true_and, and_true]
    refine c_wput h hs h5 (by omega) ?_
    have h3 := CR_wput (i := i) (e := e) h wl_len hs h5
    refine ih (i - 1) _ (by omega) (by omega) h3 (fun j e' hj he' => ?_) (fun j e' hj hj2 he' => ?_)
    · rw [cw3_cwst h hs h5 hs h5, if_neg (by omega)]
      exact h1 j e' (by omega) he'
    · rw [cw3_cwst h hs h5 hs h5]
      by_cases c : j + 1 = i
      · rw [if_pos ⟨rfl, c⟩]
        rw [show j = i - 1 by omega, he] at he'
        cases he'; rfl
      · rw [if_neg (fun z => c z.2)]
        exact h2 j e' (by omega) hj2 he'
theorem c_addTo {K : Int32 → Mm → Prop} {s : Nat} {b : Int64} {k w : Int32} (h : CR B M L C D) (hs : s < cn C) (h5 : ckd C s = 5) (hn : a_add (dwi D s) b k w = none → K 0 M) (hK : ∀ l M1, a_add (dwi D s) b k w = some l → CR B M1 L C (xwi D s l) → K 1 M1) : wp_X9_addTo M (L 16 s) b k w K := by
  have F := CWF h hs h5
  obtain ⟨kk, e1, h24, hent⟩ := h.2.2.2.2.2.2.2.2.2.2.2.1 s hs h5
  generalize hl : dwi D s = l at *
  have hwl : wl M L s l.length = l := wl_ext rfl hent
  have h' : CR B M L C (xwi D s (wl M L s l.length)) := by rw [hwl, ← hl, xwi_self]; exact h
  obtain ⟨P, hP⟩ : ∃ P, l.takeWhile (a_ahead b k) = P := ⟨_, rfl⟩
  obtain ⟨Q, hQ⟩ : ∃ Q, l.dropWhile (a_ahead b k) = Q := ⟨_, rfl⟩
  have hpre : P ++ Q = l := by rw [← hP, ← hQ]; exact tw_dw _ _
  have hll : P.length + Q.length = l.length := by rw [← hpre]; simp
  have hplen : P.length ≤ l.length := by omega
  have fall : P.length < l.length → ∀ x r, Q = x :: r → l[P.length]? = some x := fun _ x r hx => by
    rw [← hpre, hx]
    simp
  -- room for a new sum, or not
  have b75 : (∀ x r, Q = x :: r → ¬ (x.1 = b ∧ x.2.1 = k)) → bk_X9_addTo_75 (L 16 s) K b k w (nI P.length) M := fun hne => by
    have hadd : a_add l b k w = if 24 ≤ l.length then none else some (P ++ (b, k, w) :: Q) := by
      unfold a_add
      rw [hP, hQ]
      cases hd : Q with
      | nil => rfl
      | cons x r => dsimp only; rw [if_neg (hne x r hd)]
    simp (disch := omega) only [bk_X9_addTo_75, F, e1, na2, true_and]
    refine ⟨fun z => ?_, fun z => hn (by rw [hadd, if_pos (by omega)])⟩
    rw [if_neg (by omega)] at hadd
    have e2 : l.take P.length = P := by rw [← hpre]; simp
    have e3 : l.drop P.length = Q := by rw [← hpre]; simp
    refine ⟨l.length - P.length + 1, c_shift (B := B) (D := D) (l := l) hs h5 hplen z (fun M1 h1 => ?_) _ _ M (by omega) (Nat.le_refl _) h' (fun j e _ he => hent j e he) (fun j e hj hj2 => by omega)⟩
    rw [e2, e3] at h1
    exact hK _ M1 hadd h1
  have b29 : bk_X9_addTo_29 (L 16 s) K b k w (nI P.length) M := by
    simp (disch := omega) only [bk_X9_addTo_29, F, e1, n_le, n_in, n_clamp, Option.some.injEq, exists_eq_left', true_and]
    cases hd : Q with
    | nil =>
      have hlen : P.length = l.length := by rw [hd] at hll; simpa using hll
      exact ⟨fun _ => b75 (fun x r hx => by rw [hd] at hx; cases hx), fun z => absurd (by omega) z⟩
    | cons x r =>
      have hlt : P.length < l.length := by
        rw [hd] at hll
        simp at hll
        omega
      have hx := fall hlt x r hd
      have e3 := hent _ x hx
      have q1 : aJ M (L 17 s) P.length = x.1 := congrArg (fun z => z.1) e3
      have q2 : aI M (L 18 s) P.length = x.2.1 := congrArg (fun z => z.2.1) e3
      have q3 : aI M (L 19 s) P.length = x.2.2 := congrArg (fun z => z.2.2) e3
      refine ⟨fun z => by omega, fun _ => ?_⟩
      simp (disch := omega) only [n_in, n_clamp, q1, q2, q3, true_and]
      refine ⟨fun z => b75 (fun x' r' hx' q => by rw [hd] at hx'; cases hx'; exact z q.1), fun z => ⟨fun y => b75 (fun x' r' hx' q => by rw [hd] at hx'; cases hx'; exact y q.2), fun y => ?_⟩⟩
      have hadd : a_add l b k w = some (P ++ (b, k, x.2.2 + w) :: r) := by
        unfold a_add
        rw [hQ, hd, hP]
        dsimp only
        rw [if_pos ⟨z, y⟩]
      have h2 := CR_wsum (i := P.length) (v := x.2.2 + w) h' wl_len hs h5
      have e4 : wl (tI M (L 19 s) P.length (x.2.2 + w)) L s l.length = P ++ (b, k, x.2.2 + w) :: r := by
        refine wl_ext (by rw [hd] at hll; simp at hll ⊢; omega) (fun j e hj => ?_)
        obtain ⟨k1, k2, k3, k4⟩ := wkinds h hs h5
        have n1 : L 18 s ≠ L 19 s := fun e => by rw [e, k3] at k2; cases k2
        by_cases c : j = P.length
        · subst c
          have : e = (b, k, x.2.2 + w) := by simpa using hj.symm
          rw [this]
          simp [cw3, ms, n1, q1, q2, z, y]
        · have hj2 : l[j]? = some e := by
            rw [← hpre, hd]
            rcases Nat.lt_or_gt_of_ne c with g | g
            · rw [List.getElem?_append_left g] at hj ⊢; exact hj
            · rw [List.getElem?_append_right (by omega)] at hj ⊢
              rw [show j - P.length = (j - P.length - 1) + 1 by omega] at hj ⊢
              simpa using hj
          have := hent j e hj2
          simpa [cw3, ms, n1, c] using this
      rw [e4] at h2
      exact hK _ _ hadd h2
  -- the search
  have srch : ∀ (r i : Nat), i + r = P.length → lp_X9_addTo_3 (L 16 s) K (r + 1) b k w (nI i) M := by
    intro r
    induction r with
    | zero =>
      intro i hi
      have e : i = P.length := by omega
      rw [lp_X9_addTo_3]
      simp (disch := omega) only [F, e1, n_le, true_and]
      refine ⟨fun _ => by rw [e]; exact b29, fun z => ?_⟩
      cases hd : Q with
      | nil => rw [hd] at hll; simp at hll; omega
      | cons x rr =>
        have hx := fall (by omega) x rr hd
        rw [← e] at hx
        refine c_isAhead h hs h5 (by omega) (hent i x hx) ?_
        rw [dw_head (hQ.trans hd)]
        exact ⟨fun _ => by rw [e]; exact b29, fun q => absurd rfl q⟩
    | succ r ih =>
      intro i hi
      have hil : i < P.length := by omega
      obtain ⟨x, hx⟩ : ∃ x, P[i]? = some x := ⟨_, List.getElem?_eq_getElem hil⟩
      have hxl : l[i]? = some x := by
        rw [← hpre, List.getElem?_append_left hil]; exact hx
      rw [lp_X9_addTo_3]
      simp (disch := omega) only [F, e1, n_le, show ¬ l.length ≤ i by omega, not_false_eq_true, false_implies, forall_const, true_and]
      refine c_isAhead h hs h5 (by omega) (hent i x hxl) ?_
      have hax : a_ahead b k x = true := tw_mem (l := l) (by rw [hP]; exact List.mem_of_getElem? hx)
      rw [hax]
      refine ⟨fun q => absurd q (by decide), fun _ => ?_⟩
      rw [show nI i + 1 = nI (i + 1) from nI_add _ 1]
      exact ih (i + 1) (by omega)
  exact ⟨_, srch P.length 0 (Nat.zero_add _)⟩
end K7
