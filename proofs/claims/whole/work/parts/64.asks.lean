/-! the reference: what is asked -/
def a_hc (P : Nat × Int64 × Bool → Bool) (l : List (Nat × Int64 × Bool)) : Int32 := l.foldl (fun n x => if P x = true then n + 1 else n) 0
def a_pcK (f : Nat → Bool) (v : Int32) : Nat → Int32
  | 0 => v
  | k + 1 => if f k = true then a_pcK f v k + 1 else a_pcK f v k
def a_pcS (C : Cfg) (f : Nat → Nat → Bool) : Nat → Int32
  | 0 => 0
  | s + 1 => if ckd C s = 0 then a_pcK (f s) (a_pcS C f s) (cpt C s) else a_pcS C f s
def A_wm (C : Cfg) (D : Dyn) (p : Int32) : Int32 × Int64 := if isSt C p = true then (0, dmk D p.toNatClampNeg) else (2, 0)
def A_ii (C : Cfg) (D : Dyn) (p : Int32) : Int32 × Int32 := if isSt C p = true then (0, bI (did D p.toNatClampNeg)) else (2, 0)
def A_pr (C : Cfg) (D : Dyn) (p q : Int32) : Int32 × Int64 := if isPt C p q = true then (0, dpr D p.toNatClampNeg q.toNatClampNeg) else (2, 0)
def A_pa (C : Cfg) (D : Dyn) (p q : Int32) : Int32 := if isPt C p q = true then (if a_stop C D p.toNatClampNeg q.toNatClampNeg = true then 3 else nI (dps D p.toNatClampNeg q.toNatClampNeg)) else -1
def A_ke (C : Cfg) (D : Dyn) (p q : Int32) : Int32 × Int32 := if isSt C p = true then (if q = 0 ∨ q = 1 then (0, if ckd C p.toNatClampNeg = 4 then nI (dke D p.toNatClampNeg q.toNatClampNeg).length else if q = 1 then 0 else if ckd C p.toNatClampNeg = 5 then nI (dwi D p.toNatClampNeg).length else if ckd C p.toNatClampNeg = 3 then a_hc (fun x => x.2.2 && decide (x.1 = p.toNatClampNeg)) (dti D) else 0) else (2, 0)) else (2, 0)
def rowAt (r : Row) (w : Int32) : Int64 := if w = 0 then (nI r.1).toInt64 else if w = 1 then r.2.1 else if w = 2 then r.2.2.1.toInt64 else r.2.2.2.toInt64
def A_no (l : List Row) (room : Nat) (i w : Int32) : Int32 × Int64 := if 0 ≤ i ∧ i < nI l.length ∧ i < nI room ∧ 0 ≤ w ∧ w ≤ 3 then (0, match l[i.toNatClampNeg]? with
    | none => 0
    | some r => rowAt r w) else (1, 0)
section R19
variable {M : Mm} {m : Nat} {ra : Nat → Nat} {C : Cfg} {S : St} {D : Dyn}
theorem r_mustBe (h : SH M m ra) (hW : WC C) {K : Int32 → Mm → Prop} {p : Int32} (hC : SC S C) (hK : K (bI (isSt C p)) (pM M m ra (pI S 704 (if isSt C p = true then 0 else 2)))) : wp_X11_mustBe (pM M m ra S) m p K := by
  simp only [wp_X11_mustBe, bk_X11_mustBe_25, bk_X11_mustBe_40, p_mK, FK h, p_mI, hC.2.1, e_isStream h hW hC, bI_0, p_sI, sg, if_true, Option.some.injEq, exists_eq_left', show ((1 : Int32) = 0) = False by decide, show ((2 : Int32) = 0) = False by decide, not_true, not_false_eq_true, false_implies, forall_const, true_and, and_true]
  refine ⟨fun z => ⟨Or.inl rfl, ?_⟩, fun z => ⟨Or.inr rfl, ?_⟩⟩
  · rw [z] at hK; exact hK
  · rw [Bool.not_eq_false] at z
    rw [z] at hK; exact hK
theorem r_watermark (h : SH M m ra) (hW : WC C) {K : Int64 → Mm → Prop} {p : Int32} (hA : SA S C D) (hK : K (A_wm C D p).2 (pM M m ra (pI S 704 (A_wm C D p).1))) : wp_X11_watermark (pM M m ra S) m p K := by
  have h12 := hW.1
  refine ⟨FK h, r_mustBe h hW hA.1 ?_⟩
  simp only [bI_0, bk_X11_watermark_18]
  unfold A_wm at hK
  refine ⟨fun z => ?_, fun z => ?_⟩
  · rw [z] at hK ⊢; exact hK
  · rw [Bool.not_eq_false] at z
    obtain ⟨s, hs, rfl⟩ := (isSt_iff hW).mp z
    rw [if_pos z, n_clamp (by omega)] at hK
    rw [z]
    have m1 := hA.2.1 s hs
    simp (disch := omega) only [RF h, p_mK, p_mR, p_aN, p_aR, p_mI, p_mJ, p_sI, p_sJ, Option.some.injEq, exists_eq_left', true_and, and_true, na1, na3, n_add, n_mul, n_clamp, n_in, sg, m1, if_true]
    exact hK
theorem r_isIdle (h : SH M m ra) (hW : WC C) {K : Int32 → Mm → Prop} {p : Int32} (hA : SA S C D) (hK : K (A_ii C D p).2 (pM M m ra (pI S 704 (A_ii C D p).1))) : wp_X11_isIdle (pM M m ra S) m p K := by
  have h12 := hW.1
  refine ⟨FK h, r_mustBe h hW hA.1 ?_⟩
  simp only [bI_0, bk_X11_isIdle_21, bk_X11_isIdle_22]
  unfold A_ii at hK
  refine ⟨fun z => ⟨Or.inl rfl, ?_⟩, fun z => ?_⟩
  · rw [z] at hK ⊢; exact hK
  · rw [Bool.not_eq_false] at z
    obtain ⟨s, hs, rfl⟩ := (isSt_iff hW).mp z
    rw [if_pos z, n_clamp (by omega)] at hK
    rw [z]
    have m1 := hA.2.2.1 s hs
    simp (disch := omega) only [RF h, p_mK, p_mR, p_aN, p_aR, p_mI, p_mJ, p_sI, p_sJ, Option.some.injEq, exists_eq_left', true_and, and_true, na1, na3, n_add, n_mul, n_clamp, n_in, sg, m1, bI_0, if_true]
    refine ⟨fun y => ⟨Or.inl rfl, ?_⟩, fun y => ⟨Or.inr rfl, ?_⟩⟩
    · rw [y] at hK; exact hK
    · rw [Bool.not_eq_false] at y
      rw [y] at hK; exact hK
theorem r_promise (h : SH M m ra) (hW : WC C) {K : Int64 → Mm → Prop} {p q : Int32} (hA : SA S C D) (hK : K (A_pr C D p q).2 (pM M m ra (pI S 704 (A_pr C D p q).1))) : wp_X11_promise (pM M m ra S) m p q K := by
  have h12 := hW.1
  unfold A_pr at hK
  simp only [wp_X11_promise, bk_X11_promise_26, bk_X11_promise_50, p_mK, FK h, p_mI, hA.1.2.1, e_isPart h hW hA.1, bI_0, p_sI, sg, if_true, Option.some.injEq, exists_eq_left', show ((1 : Int32) = 0) = False by decide, show ((2 : Int32) = 0) = False by decide, not_true, not_false_eq_true, false_implies, forall_const, true_and, and_true]
  refine ⟨fun z => ?_, fun z => ?_⟩
  · rw [z] at hK; exact hK
  · rw [Bool.not_eq_false] at z
    obtain ⟨s, k, hs, rfl, hk0, hk, rfl⟩ := (isPt_iff hW).mp z
    have h4 := (hW.2.2.2 s hs).2.1
    rw [if_pos z, n_clamp (by omega), n_clamp (by omega)] at hK
    have m1 := hA.2.2.2.2.1 s k hs (by omega)
    simp (disch := omega) only [RF h, p_mK, p_mR, p_aN, p_aR, p_mI, p_mJ, p_sI, p_sJ, Option.some.injEq, exists_eq_left', true_and, and_true, na1, na3, n_add, n_mul, n_clamp, n_in, sg, m1]
    exact hK
theorem r_part (h : SH M m ra) (hW : WC C) {K : Int32 → Mm → Prop} {p q : Int32} (hA : SA S C D) (hI : IV C D) (hK : K (A_pa C D p q) (pM M m ra (pI S 704 0))) : wp_X11_part (pM M m ra S) m p q K := by
  have h12 := hW.1
  have hA0 : SA (pI S 704 0) C D := SA_code hA
  unfold A_pa at hK
  simp only [wp_X11_part, bk_X11_part_39, p_mK, FK h, p_sI, e_isPart h hW hA0.1, bI_0, true_and]
  refine ⟨fun z => ?_, fun z => ?_⟩
  · rw [Bool.not_eq_false] at z
    obtain ⟨s, k, hs, rfl, hk0, hk, rfl⟩ := (isPt_iff hW).mp z
    have h4 := (hW.2.2.2 s hs).2.1
    rw [if_pos z, n_clamp (by omega), n_clamp (by omega)] at hK
    refine r_isStopped h hW hA0 hI.2.1 hs (by omega) ?_
    have m1 := hA0.2.2.2.1 s k hs (by omega)
    simp (disch := omega) only [RF h, p_mK, p_mR, p_aN, p_aR, p_mI, p_mJ, p_sI, p_sJ, Option.some.injEq, exists_eq_left', true_and, and_true, na1, na3, n_add, n_mul, n_clamp, n_in, bI_0, m1]
    refine ⟨fun y => ?_, fun y => ?_⟩
    · rw [if_neg (by rw [y]; decide)] at hK; exact hK
    · rw [Bool.not_eq_false] at y
      rw [if_pos y] at hK; exact hK
  · rw [z] at hK; exact hK
theorem r_heldL (h : SH M m ra) {K : Int32 → Mm → Prop} {P : Nat × Int64 × Bool → Bool} {p : Int32} (hA : SA S C D) (hP : ∀ x ∈ dti D, P x = (x.2.2 && (decide (p < 0) || decide (nI x.1 = p)))) (hK : K (a_hc P (dti D)) (pM M m ra S)) : ∀ (post : List (Nat × Int64 × Bool)) (j : Nat) (n : Int32), (dti D).drop j = post → j ≤ (dti D).length → post.foldl (fun n x => if P x = true then n + 1 else n) n = a_hc P (dti D) → lp_X11_heldIn_4 m K (post.length + 1) p n (nI j) (pM M m ra S) := by
  intro post
  have ht := hA.2.2.2.2.2.2.2.2.2.2.2.2
  have h60 := ht.2.1
  have e1 : gI S 752 = nI (dti D).length := ht.1
  induction post with
  | nil =>
    intro j n hd hj ho
    have hil : j = (dti D).length := by
      have := List.drop_eq_nil_iff.mp hd
      omega
    rw [lp_X11_heldIn_4]
    simp (disch := omega) only [RF h, p_mK, p_mR, p_aN, p_aR, p_mI, p_mJ, p_sI, p_sJ, Option.some.injEq, exists_eq_left', true_and, and_true, na1, na3, n_add, n_mul, n_clamp, n_in, e1, n_le, show (dti D).length ≤ j by omega, not_true, false_implies, forall_const]
    rw [List.foldl_nil] at ho
    rw [ho]; exact hK
  | cons x post ih =>
    intro j n hd hj ho
    have hil : j < (dti D).length := by
      refine Classical.byContradiction fun z => ?_
      rw [List.drop_eq_nil_of_le (by omega)] at hd
      cases hd
    have hle : (dti D)[j]? = some x := by
      have := congrArg List.head? hd
      rw [List.head?_drop] at this
      exact this
    have hd2 : (dti D).drop (j + 1) = post := by
      rw [← List.tail_drop, hd]
      rfl
    obtain ⟨t1, t2, t3⟩ := ht.2.2 j x hle
    have hPx := hP x (List.mem_of_getElem? hle)
    rw [List.foldl_cons] at ho
    have yes : P x = true → lp_X11_heldIn_4 m K (post.length + 1) p (n + 1) (nI (j + 1)) (pM M m ra S) := fun q => by
      rw [if_pos q] at ho
      exact ih (j + 1) _ hd2 (by omega) ho
    have no : P x = false → lp_X11_heldIn_4 m K (post.length + 1) p (n + 0) (nI (j + 1)) (pM M m ra S) := fun q => by
      rw [if_neg (by rw [q]; decide)] at ho
      rw [Int32.add_zero]
      exact ih (j + 1) _ hd2 (by omega) ho
    rw [List.length_cons, lp_X11_heldIn_4]
    simp (disch := omega) only [RF h, p_mK, p_mR, p_aN, p_aR, p_mI, p_mJ, p_sI, p_sJ, Option.some.injEq, exists_eq_left', true_and, and_true, na1, na3, n_add, n_mul, n_clamp, n_in, e1, n_le, show ¬ (dti D).length ≤ j by omega, t1, t3, bI_0, bk_X11_heldIn_36, bk_X11_heldIn_40, bk_X11_heldIn_41, not_false_eq_true, false_implies, forall_const]
    refine ⟨fun z => no (by rw [hPx, z]; rfl), fun z => ⟨fun y => yes ?_, fun y => ⟨fun w => no ?_, fun w => yes ?_⟩⟩⟩
    · rw [Bool.not_eq_false] at z; rw [hPx, z]; simp [y]
    · rw [hPx]; simp [y, w]
    · rw [Bool.not_eq_false] at z; rw [hPx, z]; simp [w]
theorem r_held (h : SH M m ra) {K : Int32 → Mm → Prop} {P : Nat × Int64 × Bool → Bool} {p : Int32} (hA : SA S C D) (hP : ∀ x ∈ dti D, P x = (x.2.2 && (decide (p < 0) || decide (nI x.1 = p)))) (hK : K (a_hc P (dti D)) (pM M m ra S)) : wp_X11_heldIn (pM M m ra S) m p K := ⟨_, r_heldL h hA hP hK (dti D) 0 0 rfl (Nat.zero_le _) rfl⟩
theorem r_kept (h : SH M m ra) (hW : WC C) {K : Int32 → Mm → Prop} {p q : Int32} (hA : SA S C D) (hI : IV C D) (hK : K (A_ke C D p q).2 (pM M m ra (pI S 704 (A_ke C D p q).1))) : wp_X11_kept (pM M m ra S) m p q K := by
  have h12 := hW.1
  refine ⟨FK h, r_mustBe h hW hA.1 ?_⟩
  simp only [bI_0, bk_X11_kept_19, bk_X11_kept_89]
  unfold A_ke at hK
  refine ⟨fun z => ?_, fun z => ?_⟩
  · rw [Bool.not_eq_false] at z
    obtain ⟨s, hs, rfl⟩ := (isSt_iff hW).mp z
    rw [if_pos z, n_clamp (by omega)] at hK
    rw [if_pos z]
    have hA0 : SA (pI S 704 0) C D := SA_code hA
    have h5 := (hW.2.2.2 s hs).1
    have c1 := (hA0.1.2.2.1 s hs).1
    have bad : ¬ (q = 0 ∨ q = 1) → mK (pM M m ra (pI S 704 0)) m = 12 ∧ K 0 (sI (pM M m ra (pI S 704 0)) 704 m 2) := fun w => by
      rw [if_neg w] at hK
      refine ⟨FK h, ?_⟩
      rw [p_sI]
      have e : pI (pI S 704 0) 704 2 = pI S 704 2 := by
        simp only [pI, Prod.mk.injEq, and_true]
        funext g
        by_cases a : g = 704 <;> simp [a]
      rw [e]; exact hK
    refine ⟨fun y => bad (fun w => by rcases w with rfl | rfl <;> exact absurd y (by decide)), fun y => ⟨fun x => ?_, fun x => bad (fun w => by rcases w with rfl | rfl <;> exact absurd (by decide) x)⟩⟩
    obtain ⟨j, hj, rfl⟩ := nI_of2 (n := 1) (by decide) y x
    have hj2 : nI j = 0 ∨ nI j = 1 := by
      rcases (show j = 0 ∨ j = 1 by omega) with rfl | rfl
      · exact Or.inl rfl
      · exact Or.inr rfl
    rw [if_pos hj2, n_clamp (by omega)] at hK
    have hke := hA0.2.2.2.2.2.2.2.2.2.2.2.1 s j hs (by omega)
    obtain ⟨lw, hp, hwl⟩ := hA0.2.2.2.2.2.2.2.2.2.2.1 s hs
    have ew := hwl.1
    rw [hp.length_eq] at ew
    simp (disch := omega) only [RF h, p_mK, p_mR, p_aN, p_aR, p_mI, p_mJ, p_sI, p_sJ, Option.some.injEq, exists_eq_left', true_and, and_true, na1, na3, n_add, n_mul, n_clamp, n_in, e_kindOf h, c1, na2, hke.1, ew]
    refine ⟨fun w => ⟨fun v => ⟨fun u => ⟨fun g => ?_, fun g => ?_⟩, fun u => ?_⟩, fun v => ?_⟩, fun w => ?_⟩
    · rw [if_neg w, if_neg (by rw [show (nI j = 1) = (j = 1) from n_eq (b := 1) (by omega) (by decide)]; exact v), if_neg u, if_neg g] at hK; exact hK
    · rw [if_neg w, if_neg (by rw [show (nI j = 1) = (j = 1) from n_eq (b := 1) (by omega) (by decide)]; exact v), if_neg u, if_pos g] at hK
      refine r_held h hA0 (fun x hx => ?_) hK
      have := (hI.2.2 x hx).1
      have e9 : (nI x.1 = nI s) = (x.1 = s) := n_eq (by omega) (by omega)
      simp [e9, nI_pos (show s < 2147483648 by omega)]
    · rw [if_neg w, if_neg (by rw [show (nI j = 1) = (j = 1) from n_eq (b := 1) (by omega) (by decide)]; exact v), if_pos u] at hK; exact hK
    · rw [if_neg w, if_pos (by rw [v]; rfl)] at hK; exact hK
    · rw [if_pos w] at hK; exact hK
  · rw [z] at hK ⊢; exact hK
end R19
