/-! the class: tickets, inputs, goals -/
def a_lt (P : Nat × Int64 × Bool → Bool) (l : List (Nat × Int64 × Bool)) (v : Int64) : Int64 := l.foldl (fun m x => if P x = true then (if x.2.1 < m then x.2.1 else m) else m) v
theorem hc_nat (P : Nat × Int64 × Bool → Bool) : ∀ (l : List (Nat × Int64 × Bool)) (n : Nat), l.foldl (fun n x => if P x = true then n + 1 else n) (nI n) = nI (n + (l.filter P).length)
  | [], n => rfl
  | x :: l, n => by
    rw [List.foldl_cons]
    by_cases c : P x = true
    · rw [if_pos c, show nI n + 1 = nI (n + 1) from nI_add _ 1, hc_nat P l (n + 1), List.filter_cons_of_pos c, List.length_cons]
      congr 1; omega
    · rw [if_neg c, hc_nat P l n, List.filter_cons_of_neg c]
theorem hold_none {s : Nat} : ∀ (l : List (Nat × Int64 × Bool)) (o : Option Int64), l.filter (fun x => x.2.2 && decide (x.1 = s)) = [] → l.foldl (fun o x => if x.2.2 = true ∧ x.1 = s then a_least o (plusF x.2.1 (-1)) else o) o = o
  | [], o, _ => rfl
  | x :: l, o, h => by
    rw [List.foldl_cons]
    by_cases c : (x.2.2 && decide (x.1 = s)) = true
    · rw [List.filter_cons_of_pos (p := fun x : Nat × Int64 × Bool => x.2.2 && decide (x.1 = s)) c] at h; cases h
    · rw [List.filter_cons_of_neg (p := fun x : Nat × Int64 × Bool => x.2.2 && decide (x.1 = s)) c] at h
      rw [if_neg (fun q => c (by simp [q.1, q.2]))]
      exact hold_none l o h
theorem plus_m1 {t : Int64} (h1 : -100000000000000000 ≤ t.toInt) (h2 : t.toInt ≤ 100000000000000000) : plusF t (-1) = t - 1 ∧ (t - 1).toInt = t.toInt - 1 := by
  have e0 : (1 : Int64).toInt = 1 := by decide
  have e1 : (-9000000000000000000 : Int64).toInt = -9000000000000000000 := by decide
  have e2 : (9000000000000000000 : Int64).toInt = 9000000000000000000 := by decide
  have e3 : (8000000000000000000 : Int64).toInt = 8000000000000000000 := by decide
  have e4 : (-8000000000000000000 : Int64).toInt = -8000000000000000000 := by decide
  have es : (t - 1).toInt = t.toInt - 1 := by rw [j_sub] <;> rw [e0] <;> omega
  refine ⟨?_, es⟩
  unfold plusF
  rw [if_neg (fun e => by rw [e, e1] at h1; omega), if_neg (fun e => by rw [e, e2] at h2; omega), show t + (-1) = t - 1 from (Int64.sub_eq_add_neg ..).symm, if_pos (Int64.le_iff_toInt_le.mpr (by rw [e3, es]; omega)), if_pos (Int64.le_iff_toInt_le.mpr (by rw [e4, es]; omega))]
/-- the least time that is held, less one, is the least of the times less one -/
theorem hold_some {s : Nat} : ∀ (l : List (Nat × Int64 × Bool)) (o : Option Int64) (m : Int64), (∀ x ∈ l, -100000000000000000 ≤ x.2.1.toInt ∧ x.2.1.toInt ≤ 100000000000000000) → (o = none ∧ m = 9000000000000000000 ∨ (o = some (m - 1) ∧ -100000000000000000 ≤ m.toInt ∧ m.toInt ≤ 100000000000000000)) → (o = none → ¬ l.filter (fun x => x.2.2 && decide (x.1 = s)) = []) → l.foldl (fun o x => if x.2.2 = true ∧ x.1 = s then a_least o (plusF x.2.1 (-1)) else o) o = some (a_lt (fun x => x.2.2 && decide (x.1 = s)) l m - 1) ∧ -100000000000000000 ≤ (a_lt (fun x => x.2.2 && decide (x.1 = s)) l m).toInt ∧ (a_lt (fun x => x.2.2 && decide (x.1 = s)) l m).toInt ≤ 100000000000000000
  | [], o, m, _, hm, hne => by
    rcases hm with ⟨rfl, -⟩ | ⟨rfl, h1, h2⟩
    · exact absurd rfl (hne rfl)
    · exact ⟨rfl, h1, h2⟩
  | x :: l, o, m, hb, hm, hne => by
    have hx := hb x (by simp)
    have e2 : (9000000000000000000 : Int64).toInt = 9000000000000000000 := by decide
    obtain ⟨p1, p2⟩ := plus_m1 hx.1 hx.2
    have ea : a_lt (fun x => x.2.2 && decide (x.1 = s)) (x :: l) m = a_lt (fun x => x.2.2 && decide (x.1 = s)) l (if (x.2.2 && decide (x.1 = s)) = true then (if x.2.1 < m then x.2.1 else m) else m) := rfl
    rw [List.foldl_cons, ea]
    by_cases c : (x.2.2 && decide (x.1 = s)) = true
    · have c' : x.2.2 = true ∧ x.1 = s := by simpa using c
      rw [if_pos c, if_pos c', p1]
      rcases hm with ⟨rfl, rfl⟩ | ⟨rfl, h1, h2⟩
      · rw [if_pos (show x.2.1 < 9000000000000000000 from Int64.lt_iff_toInt_lt.mpr (by rw [e2]; omega))]
        exact hold_some l _ x.2.1 (fun y hy => hb y (by simp [hy])) (Or.inr ⟨rfl, hx.1, hx.2⟩) (fun q => by cases q)
      · have em : (m - 1).toInt = m.toInt - 1 := (plus_m1 h1 h2).2
        by_cases g : x.2.1 < m
        · have g' := Int64.lt_iff_toInt_lt.mp g
          rw [if_pos g]
          refine hold_some l _ x.2.1 (fun y hy => hb y (by simp [hy])) (Or.inr ⟨?_, hx.1, hx.2⟩) (fun q => by cases q)
          show some (if x.2.1 - 1 < m - 1 then x.2.1 - 1 else m - 1) = _
          rw [if_pos (Int64.lt_iff_toInt_lt.mpr (by omega))]
        · have g' : ¬ x.2.1.toInt < m.toInt := fun z => g (Int64.lt_iff_toInt_lt.mpr z)
          rw [if_neg g]
          refine hold_some l _ m (fun y hy => hb y (by simp [hy])) (Or.inr ⟨?_, h1, h2⟩) (fun q => by cases q)
          show some (if x.2.1 - 1 < m - 1 then x.2.1 - 1 else m - 1) = _
          rw [if_neg (fun z => by have := Int64.lt_iff_toInt_lt.mp z; omega)]
    · rw [if_neg c, if_neg (fun q => c (by simp [q.1, q.2]))]
      refine hold_some l o m (fun y hy => hb y (by simp [hy])) hm (fun q => ?_)
      have := hne q
      rw [List.filter_cons_of_neg (p := fun x : Nat × Int64 × Bool => x.2.2 && decide (x.1 = s)) c] at this
      exact this
section K10
variable {B M : Mm} {L : Nat → Nat → Nat} {C : Cfg} {D : Dyn}
theorem CTF (h : CR B M L C D) : mK M (L 0 4) = 9 ∧ mR M 512 (L 0 4) = some (L 0 5) ∧ mR M 513 (L 0 4) = some (L 0 6) ∧ mR M 514 (L 0 4) = some (L 0 7) ∧ isA M (L 0 5) 1 ∧ aN M (L 0 5) = 60 ∧ isA M (L 0 6) 2 ∧ aN M (L 0 6) = 60 ∧ isA M (L 0 7) 3 ∧ aN M (L 0 7) = 60 := by
  obtain ⟨t1, t2, t3, t4, t5, t6, t7, t8, t9, t10⟩ := h.2.1.2.2.1.2.2.2.2.2.2.2.2.2
  exact ⟨t1, t2, t3, t4, isA_of t5 (by decide) (by decide), t6, isA_of t7 (by decide) (by decide), t8, isA_of t9 (by decide) (by decide), t10⟩
theorem c_tcount {K : Int32 → Mm → Prop} {s : Nat} (hs : s < 2147483648) (h : CR B M L C D) (ht : ∀ x ∈ dti D, x.1 < 2147483648) (hK : K (a_hc (fun x => x.2.2 && decide (x.1 = s)) (dti D)) M) : wp_X8_countIn M (L 0 4) (nI s) K := by
  have F := CTF h
  obtain ⟨tk, e1, h60, hent⟩ := h.2.2.2.2.2.2.2.2.2.2.2.2.2
  have main : ∀ (post : List (Nat × Int64 × Bool)) (j : Nat) (n : Int32), (dti D).drop j = post → j ≤ (dti D).length → post.foldl (fun n x => if (x.2.2 && decide (x.1 = s)) = true then n + 1 else n) n = a_hc (fun x => x.2.2 && decide (x.1 = s)) (dti D) → lp_X8_countIn_4 (L 0 4) K (post.length + 1) (nI s) n (nI j) M := by
    intro post
    induction post with
    | nil =>
      intro j n hd hj ho
      have hil : j = (dti D).length := by
        have := List.drop_eq_nil_iff.mp hd
        omega
      rw [lp_X8_countIn_4]
      simp (disch := omega) only [F, e1, n_le, show (dti D).length ≤ j by omega, not_true, false_implies, forall_const, true_and, and_true]
      rw [List.foldl_nil] at ho
      rw [ho]; exact hK
    | cons x post ih =>
      intro j n hd hj ho
      have hil : j < (dti D).length := by
        refine Classical.byContradiction fun z => ?_
        rw [List.drop_eq_nil_of_le (by omega)] at hd
        cases hd
      have hle : (dti D)[j]? = some x := by
        have := congrArg List.head? hd
        rw [List.head?_drop] at this
        exact this
      have hd2 : (dti D).drop (j + 1) = post := by
        rw [← List.tail_drop, hd]
        rfl
      obtain ⟨t1, t2, t3⟩ := hent j x hle
      have hx := ht x (List.mem_of_getElem? hle)
      rw [List.foldl_cons] at ho
      rw [List.length_cons, lp_X8_countIn_4]
      simp (disch := omega) only [F, e1, n_le, n_in, n_clamp, na1, n_eq, show ¬ (dti D).length ≤ j by omega, t1, t3, bI_0, bk_X8_countIn_34, Option.some.injEq, exists_eq_left', not_false_eq_true, false_implies, forall_const, true_and, and_true]
      refine ⟨fun z => ?_, fun z => ⟨fun y => ?_, fun y => ?_⟩⟩
      · rw [if_neg (by simp [z])] at ho; exact ih (j + 1) n hd2 (by omega) ho
      · rw [if_neg (by simp [y])] at ho; exact ih (j + 1) n hd2 (by omega) ho
      · rw [Bool.not_eq_false] at z
        rw [if_pos (by simp [z, y])] at ho; exact ih (j + 1) _ hd2 (by omega) ho
  exact ⟨_, main (dti D) 0 0 rfl (Nat.zero_le _) rfl⟩
theorem c_tleast {K : Int64 → Mm → Prop} {s : Nat} (hs : s < 2147483648) (h : CR B M L C D) (ht : ∀ x ∈ dti D, x.1 < 2147483648) (hK : K (a_lt (fun x => x.2.2 && decide (x.1 = s)) (dti D) 9000000000000000000) M) : wp_X8_leastIn M (L 0 4) (nI s) K := by
  have F := CTF h
  obtain ⟨tk, e1, h60, hent⟩ := h.2.2.2.2.2.2.2.2.2.2.2.2.2
  have main : ∀ (post : List (Nat × Int64 × Bool)) (j : Nat) (v : Int64), (dti D).drop j = post → j ≤ (dti D).length → a_lt (fun x => x.2.2 && decide (x.1 = s)) post v = a_lt (fun x => x.2.2 && decide (x.1 = s)) (dti D) 9000000000000000000 → lp_X8_leastIn_7 (L 0 4) K (post.length + 1) (nI s) v (nI j) M := by
    intro post
    induction post with
    | nil =>
      intro j v hd hj ho
      have hil : j = (dti D).length := by
        have := List.drop_eq_nil_iff.mp hd
        omega
      rw [lp_X8_leastIn_7]
      simp (disch := omega) only [F, e1, n_le, show (dti D).length ≤ j by omega, not_true, false_implies, forall_const, true_and, and_true]
      have ho : v = _ := ho
      rw [ho]; exact hK
    | cons x post ih =>
      intro j v hd hj ho
      have hil : j < (dti D).length := by
        refine Classical.byContradiction fun z => ?_
        rw [List.drop_eq_nil_of_le (by omega)] at hd
        cases hd
      have hle : (dti D)[j]? = some x := by
        have := congrArg List.head? hd
        rw [List.head?_drop] at this
        exact this
      have hd2 : (dti D).drop (j + 1) = post := by
        rw [← List.tail_drop, hd]
        rfl
      obtain ⟨t1, t2, t3⟩ := hent j x hle
      have hx := ht x (List.mem_of_getElem? hle)
      have ho : a_lt (fun x => x.2.2 && decide (x.1 = s)) post (if (x.2.2 && decide (x.1 = s)) = true then (if x.2.1 < v then x.2.1 else v) else v) = _ := ho
      rw [List.length_cons, lp_X8_leastIn_7]
      simp (disch := omega) only [F, e1, n_le, n_in, n_clamp, na1, n_eq, show ¬ (dti D).length ≤ j by omega, t1, t2, t3, bI_0, bk_X8_leastIn_49, Option.some.injEq, exists_eq_left', not_false_eq_true, false_implies, forall_const, true_and, and_true]
      refine ⟨fun z => ?_, fun z => ⟨fun y => ?_, fun y => ?_⟩⟩
      · rw [if_neg (by simp [z])] at ho; exact ih (j + 1) v hd2 (by omega) ho
      · rw [if_neg (by simp [y])] at ho; exact ih (j + 1) v hd2 (by omega) ho
      · rw [Bool.not_eq_false] at z
        rw [if_pos (by simp [z, y])] at ho; exact ih (j + 1) _ hd2 (by omega) ho
  exact ⟨_, main (dti D) 0 _ rfl (Nat.zero_le _) rfl⟩
theorem c_inputs {K : Int64 → Mm → Prop} {s : Nat} (hW : WC C) (h : CR B M L C D) (hs : s < cn C) (hp : PB D) (hK : K (gv (if (cin C s).all (fun i => decide (dmk D i = 9000000000000000000)) then a_least (a_inG D (cin C s)) 9000000000000000000 else a_inG D (cin C s))) M) : wp_X6_leastOfInputs M (L 1 s) K := by
  obtain ⟨s1, s2, s3, s4, s5, s6, s7, s8, -⟩ := h.2.1.2.2.2.1 s hs
  have hA := isA_of (t := 4) s6 (by decide) (by decide)
  have h4 := (hW.2.2.2 s hs).2.2.2.1
  have e2 : (9000000000000000000 : Int64).toInt = 9000000000000000000 := by decide
  have main : ∀ (post : List Nat) (j : Nat) (o : Option Int64) (v : Int64) (al : Bool), (cin C s).drop j = post → j ≤ (cin C s).length → post.foldl (fun o i => if did D i = false ∧ ¬ dmk D i = 9000000000000000000 then a_least o (dmk D i) else o) o = a_inG D (cin C s) → (al && post.all (fun i => decide (dmk D i = 9000000000000000000))) = (cin C s).all (fun i => decide (dmk D i = 9000000000000000000)) → (o = none ∧ v = 9000000000000000000 ∨ (o = some v ∧ v.toInt < 9000000000000000000 ∧ al = false)) → lp_X6_leastOfInputs_9 (L 1 s) K (post.length + 1) v (bI al) (nI j) M := by
    intro post
    induction post with
    | nil =>
      intro j o v al hd hj ho ha hv
      have hil : j = (cin C s).length := by
        have := List.drop_eq_nil_iff.mp hd
        omega
      rw [List.foldl_nil] at ho
      rw [List.all_nil, Bool.and_true] at ha
      rw [← ho, ← ha] at hK
      rw [lp_X6_leastOfInputs_9]
      simp (disch := omega) only [s2, s8, n_le, show (cin C s).length ≤ j by omega, bI_0, bk_X6_leastOfInputs_77, bk_X6_leastOfInputs_84, not_true, false_implies, forall_const, true_and, and_true]
      rcases hv with ⟨rfl, rfl⟩ | ⟨rfl, hlt, hal⟩
      · refine ⟨fun z => absurd rfl z, fun _ => ⟨fun z => ?_, fun z => ?_⟩⟩
        · rw [z] at hK; exact hK
        · rw [Bool.not_eq_false] at z
          rw [z] at hK; exact hK
      · rw [hal] at hK
        have hne : ¬ v = 9000000000000000000 := fun e => by rw [e, e2] at hlt; omega
        exact ⟨fun _ => hK, fun z => absurd z hne⟩
    | cons x post ih =>
      intro j o v al hd hj ho ha hv
      have hil : j < (cin C s).length := by
        refine Classical.byContradiction fun z => ?_
        rw [List.drop_eq_nil_of_le (by omega)] at hd
        cases hd
      have hle : (cin C s)[j]? = some x := by
        have := congrArg List.head? hd
        rw [List.head?_drop] at this
        exact this
      have hd2 : (cin C s).drop (j + 1) = post := by
        rw [← List.tail_drop, hd]
        rfl
      have hx : a_in C s j = x := by
        unfold a_in
        rw [List.getD_eq_getElem?_getD, hle]; rfl
      have i0 := h.2.1.2.2.2.2.1 s j hs hil
      have b0 := hW.2.2.1 s j hs hil
      rw [hx] at i0 b0
      have k0 := (h.2.1.2.2.2.1 x (by omega)).2.1
      have m0 := h.2.2.1 x (by omega)
      have d0 := h.2.2.2.1 x (by omega)
      have hm := (hp.2.2.1 x).2
      rw [List.foldl_cons] at ho
      rw [List.all_cons, ← Bool.and_assoc] at ha
      rw [List.length_cons, lp_X6_leastOfInputs_9]
      simp (disch := omega) only [s2, s5, s7, s8, hA, n_le, n_in, n_clamp, na1, show ¬ (cin C s).length ≤ j by omega, i0, k0, m0, d0, bI_0, bk_X6_leastOfInputs_59, Option.some.injEq, exists_eq_left', not_false_eq_true, false_implies, forall_const, true_and, and_true]
      refine ⟨fun z => ?_, fun z => ⟨fun y => ?_, fun y => ?_⟩⟩
      · rw [if_neg (fun q => q.2 z)] at ho
        rw [decide_eq_true z, Bool.and_true] at ha
        exact ih (j + 1) o v al hd2 (by omega) ho ha hv
      · rw [Bool.not_eq_false] at y
        rw [if_neg (fun q => by rw [q.1] at y; cases y)] at ho
        rw [decide_eq_false z, Bool.and_false] at ha
        refine ih (j + 1) o v false hd2 (by omega) ho ha ?_
        rcases hv with hv | ⟨q1, q2, -⟩
        · exact Or.inl hv
        · exact Or.inr ⟨q1, q2, rfl⟩
      · rw [if_pos ⟨y, z⟩] at ho
        rw [decide_eq_false z, Bool.and_false] at ha
        have hlt : (dmk D x).toInt < 9000000000000000000 := by
          rcases Int.lt_or_eq_of_le hm with g | g
          · exact g
          · exact absurd (Int64.toInt_inj.mp (by rw [g, e2])) z
        refine ih (j + 1) _ _ false hd2 (by omega) ho ha (Or.inr ?_)
        rcases hv with ⟨rfl, rfl⟩ | ⟨rfl, q2, -⟩
        · rw [if_pos (Int64.lt_iff_toInt_lt.mpr (by rw [e2]; exact hlt))]
          exact ⟨rfl, hlt, rfl⟩
        · refine ⟨rfl, ?_, rfl⟩
          split
          · exact hlt
          · exact q2
  exact ⟨_, main (cin C s) 0 none _ true rfl (Nat.zero_le _) rfl (by simp) (Or.inl ⟨rfl, rfl⟩)⟩
end K10
