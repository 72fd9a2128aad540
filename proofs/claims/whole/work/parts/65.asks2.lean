/-! the reference: out, late, told, turn -/
def a_falls (C : Cfg) (D : Dyn) (s k : Nat) : Bool := decide (0 < caf C s) && (decide (dps D s k = 0) && (!(a_stop C D s k) && decide (nI (caf C s) ≤ dnow D - dhr D s k)))
def yps (D : Dyn) (f : Nat → Nat → Nat) : Dyn := (dmk D, did D, f, dpr D, dhr D, dnow D, dou D, dla D, dlo D, dwi D, dke D, dti D)
/-- the parts that fall idle, up to part k of stream s -/
def a_sl (C : Cfg) (D : Dyn) (s k : Nat) : Nat → Nat → Nat := fun q j => if (q < s ∨ (q = s ∧ j < k)) ∧ ckd C q = 0 ∧ j < cpt C q ∧ a_falls C D q j = true then 1 else dps D q j
def a_turn (C : Cfg) (D : Dyn) (n : Int32) : Int32 × Dyn := (a_pcS C (a_falls C (xnow D (dnow D + n))) (cn C), a_reckon C (yps (xnow D (dnow D + n)) (a_sl C (xnow D (dnow D + n)) (cn C) 0)))
def A_turn (C : Cfg) (D : Dyn) (n : Int32) : Int32 × Dyn := if 1 ≤ n ∧ n ≤ 1000 then a_turn C D n else (-1, D)
def A_told (C : Cfg) (D : Dyn) (taped w : Int32) : Int32 := if w = 0 then nI (cn C) else if w = 1 then dnow D else if w = 2 then nI (dou D).length else if w = 3 then nI (dla D).length else if w = 4 then dlo D else if w = 5 then a_hc (fun x => x.2.2) (dti D) else if w = 6 then a_pcS C (fun s k => decide (dps D s k = 1)) (cn C) else if w = 7 then a_pcS C (fun s k => a_stop C D s k) (cn C) else if w = 8 then taped else -1
section R20
variable {M : Mm} {m : Nat} {ra : Nat → Nat} {C : Cfg} {S : St} {D : Dyn}
theorem r_noted (h : SH M m ra) {K : Int64 → Mm → Prop} {a f room : Nat} {l : List Row} {i w : Int32} (hl : NT S a f room l) (hb : l.length < 2147483648) (hr : room < 2000) (hF : (∀ S, isA (pM M m ra S) (ra f) 2) ∧ aN M (ra f) = 4 * room ∧ (∀ S j, aJ (pM M m ra S) (ra f) j = vJ S f j)) (hK : K (A_no l room i w).2 (pM M m ra (pI S 704 (A_no l room i w).1))) : wp_X11_noted (pM M m ra S) m (some (ra f)) (nI l.length) (nI room) i w K := by
  have no : ¬ (0 ≤ i ∧ i < nI l.length ∧ i < nI room ∧ 0 ≤ w ∧ w ≤ 3) → bk_X11_noted_32 m K (some (ra f)) i w (pM M m ra S) := fun z => by
    unfold A_no at hK
    rw [if_neg z] at hK
    simp only [bk_X11_noted_32, bk_X11_noted_33, bk_X11_noted_46, bk_X11_noted_67, p_mK, FK h, p_sI, Option.some.injEq, exists_eq_left', not_true, false_implies, forall_const, true_and, and_true]
    exact hK
  unfold wp_X11_noted
  refine ⟨fun z => no (fun q => absurd q.1 (Int32.not_le.mpr z)), fun z => ⟨fun y => no (fun q => absurd q.2.1 (Int32.not_lt.mpr y)), fun y => ⟨fun x => no (fun q => absurd q.2.2.1 (Int32.not_lt.mpr x)), fun x => ⟨fun v => no (fun q => absurd q.2.2.2.1 (Int32.not_le.mpr v)), fun v => ⟨fun u => no (fun q => absurd q.2.2.2.2 (Int32.not_le.mpr u)), fun u => ?_⟩⟩⟩⟩⟩
  obtain ⟨j, hj, rfl⟩ := nI_of z
  rw [n_le (by omega) (by omega)] at y x
  obtain ⟨c, hc, rfl⟩ := nI_of2 (n := 3) (by decide) v (Int32.not_lt.mp u)
  obtain ⟨r, hr1⟩ : ∃ r, l[j]? = some r := ⟨l[j], List.getElem?_eq_getElem (by omega)⟩
  obtain ⟨a1, a2, a3, a4⟩ := hl.2 j r (by omega) hr1
  unfold A_no at hK
  rw [if_pos ⟨Int32.not_lt.mp z, nI_lt (by omega) (by omega), nI_lt (by omega) (by omega), Int32.not_lt.mp v, Int32.not_lt.mp u⟩, n_clamp (by omega), hr1] at hK
  simp (disch := omega) only [bk_X11_noted_33, bk_X11_noted_46, bk_X11_noted_67, p_mK, FK h, p_sI, p_aN, Option.some.injEq, exists_eq_left', show ((1 : Int32) = 0) = False by decide, not_false_eq_true, false_implies, forall_const, true_and, hF.1, hF.2.1, hF.2.2, na1, n_add, n_clamp, n_in, sg]
  have e : rowAt r (nI c) = vJ S f (4 * j + c) := by
    unfold rowAt
    rcases (show c = 0 ∨ c = 1 ∨ c = 2 ∨ c = 3 by omega) with rfl | rfl | rfl | rfl
    · rw [if_pos (by decide)]; exact a1.symm
    · rw [if_neg (by decide), if_pos (by decide)]; exact a2.symm
    · rw [if_neg (by decide), if_neg (by decide), if_pos (by decide)]; exact a3.symm
    · rw [if_neg (by decide), if_neg (by decide), if_neg (by decide)]; exact a4.symm
  rw [← e]
  exact hK
theorem r_outA (h : SH M m ra) {K : Int64 → Mm → Prop} {i w : Int32} (hA : SA S C D) (hb : LB D) (hK : K (A_no (dou D) 300 i w).2 (pM M m ra (pI S 704 (A_no (dou D) 300 i w).1))) : wp_X11_out (pM M m ra S) m i w K := by
  have d7 := hA.2.2.2.2.2.2.2.1
  unfold wp_X11_out
  refine ⟨FK h, ?_⟩
  rw [p_mR, (F740 h).1, p_mI, d7.1]
  exact r_noted (room := 300) h d7 hb.1 (by decide) ⟨(F740 h).2.1, (F740 h).2.2.1, (F740 h).2.2.2.1⟩ hK
theorem r_lateA (h : SH M m ra) {K : Int64 → Mm → Prop} {i w : Int32} (hA : SA S C D) (hb : LB D) (hK : K (A_no (dla D) 200 i w).2 (pM M m ra (pI S 704 (A_no (dla D) 200 i w).1))) : wp_X11_late_ (pM M m ra S) m i w K := by
  have d8 := hA.2.2.2.2.2.2.2.2.1
  unfold wp_X11_late_
  refine ⟨FK h, ?_⟩
  rw [p_mR, (F742 h).1, p_mI, d8.1]
  exact r_noted (room := 200) h d8 hb.2 (by decide) ⟨(F742 h).2.1, (F742 h).2.2.1, (F742 h).2.2.2.1⟩ hK
theorem r_pcI (h : SH M m ra) (hW : WC C) {K : Int32 → Mm → Prop} {R4 : Int32 → Int32 → Int32 → Mm → Prop} {st : Int32} {f : Nat → Nat → Bool} {s : Nat} {v : Int32} (hA : SA S C D) (hps : ∀ s k, dps D s k ≤ 2) (hs : s < cn C) (hk : ckd C s = 0) (hf : (st = 0 ∧ f = fun s k => decide (dps D s k = 1)) ∨ (¬ st = 0 ∧ f = fun s k => a_stop C D s k)) (hR : R4 st (a_pcK (f s) v (cpt C s)) (nI (s + 1)) (pM M m ra S)) : ∀ (r i : Nat), i + r = cpt C s → lp_X11_partsThat_17 m R4 K (r + 1) st (a_pcK (f s) v i) (nI s) (nI i) (pM M m ra S) := by
  intro r
  have h12 := hW.1
  have h4 := (hW.2.2.2 s hs).2.1
  obtain ⟨c1, c2, -⟩ := hA.1.2.2.1 s hs
  rw [hk] at c1
  induction r with
  | zero =>
    intro i hi
    have e : i = cpt C s := by omega
    subst e
    rw [lp_X11_partsThat_17]
    simp (disch := omega) only [RF h, p_mK, p_mR, p_aN, p_aR, p_mI, p_mJ, p_sI, p_sJ, Option.some.injEq, exists_eq_left', true_and, and_true, na1, na3, n_add, n_mul, n_clamp, n_in, c2, n_le, Nat.le_refl, bk_X11_partsThat_90, not_true, false_implies, forall_const]
    exact hR
  | succ r ih =>
    intro i hi
    have p1 := hA.2.2.2.1 s i hs (by omega)
    have hb := hps s i
    have := ih (i + 1) (by omega)
    rw [a_pcK] at this
    have yes : f s i = true → lp_X11_partsThat_17 m R4 K (r + 1) st (a_pcK (f s) v i + 1) (nI s) (nI (i + 1)) (pM M m ra S) := fun q => by
      rw [if_pos q] at this; exact this
    have no : f s i = false → lp_X11_partsThat_17 m R4 K (r + 1) st (a_pcK (f s) v i + 0) (nI s) (nI (i + 1)) (pM M m ra S) := fun q => by
      rw [if_neg (by rw [q]; decide)] at this; rw [Int32.add_zero]; exact this
    rw [lp_X11_partsThat_17]
    simp (disch := omega) only [RF h, p_mK, p_mR, p_aN, p_aR, p_mI, p_mJ, p_sI, p_sJ, Option.some.injEq, exists_eq_left', true_and, and_true, na1, na3, n_add, n_mul, n_clamp, n_in, c1, c2, n_le, show ¬ cpt C s ≤ i by omega, e_kindOf h, na2, p1, bk_X11_partsThat_82, not_true, not_false_eq_true, false_implies, forall_const]
    refine ⟨fun z => ⟨fun y => no ?_, fun y => yes ?_⟩, fun z => ?_⟩
    · rcases hf with ⟨-, rfl⟩ | ⟨q, -⟩
      · simp [y]
      · exact absurd z q
    · rcases hf with ⟨-, rfl⟩ | ⟨q, -⟩
      · simp [y]
      · exact absurd z q
    · refine r_isStopped h hW hA hps hs (by omega) ?_
      rcases hf with ⟨q, -⟩ | ⟨-, hfe⟩
      · exact absurd q z
      · have e : a_stop C D s i = f s i := by rw [hfe]
        rw [e]
        simp only [bI_0]
        exact ⟨fun y => no y, fun y => yes (by simpa using y)⟩
theorem r_pcL (h : SH M m ra) (hW : WC C) {K : Int32 → Mm → Prop} {st : Int32} {f : Nat → Nat → Bool} (hA : SA S C D) (hps : ∀ s k, dps D s k ≤ 2) (hf : (st = 0 ∧ f = fun s k => decide (dps D s k = 1)) ∨ (¬ st = 0 ∧ f = fun s k => a_stop C D s k)) (hK : K (a_pcS C f (cn C)) (pM M m ra S)) : ∀ (r s : Nat), s + r = cn C → lp_X11_partsThat_4 m K (r + 1) st (a_pcS C f s) (nI s) (pM M m ra S) := by
  intro r
  have h12 := hW.1
  induction r with
  | zero =>
    intro s hs
    have e : s = cn C := by omega
    subst e
    rw [lp_X11_partsThat_4]
    simp (disch := omega) only [RF h, p_mK, p_mR, p_aN, p_aR, p_mI, p_mJ, p_sI, p_sJ, Option.some.injEq, exists_eq_left', true_and, and_true, na1, na3, n_add, n_mul, n_clamp, n_in, hA.1.1, n_le, Nat.le_refl, not_true, false_implies, forall_const]
    exact hK
  | succ r ih =>
    intro s hs
    have hsn : s < cn C := by omega
    obtain ⟨w1, w2, w3, -⟩ := hW.2.2.2 s hsn
    obtain ⟨c1, c2, -⟩ := hA.1.2.2.1 s hsn
    have nx := ih (s + 1) (by omega)
    rw [a_pcS] at nx
    rw [lp_X11_partsThat_4]
    simp (disch := omega) only [RF h, p_mK, p_mR, p_aN, p_aR, p_mI, p_mJ, p_sI, p_sJ, Option.some.injEq, exists_eq_left', true_and, and_true, na1, na3, n_add, n_mul, n_clamp, n_in, hA.1.1, n_le, show ¬ cn C ≤ s by omega, not_false_eq_true, false_implies, forall_const]
    by_cases c : ckd C s = 0
    · rw [if_pos c] at nx
      exact ⟨_, r_pcI (v := a_pcS C f s) h hW hA hps hsn c hf nx (cpt C s) 0 (Nat.zero_add _)⟩
    · rw [if_neg c] at nx
      refine ⟨1, ?_⟩
      rw [lp_X11_partsThat_17]
      have e0 : cpt C s = 0 := by omega
      simp (disch := omega) only [RF h, p_mK, p_mR, p_aN, p_aR, p_mI, p_mJ, p_sI, p_sJ, Option.some.injEq, exists_eq_left', true_and, and_true, na1, na3, n_add, n_mul, n_clamp, n_in, c2, e0, na2, Nat.le_refl, bk_X11_partsThat_90, not_true, false_implies, forall_const, show (nI 0 ≤ (0 : Int32)) = True by decide]
      exact nx
theorem r_told (h : SH M m ra) (hW : WC C) {K : Int32 → Mm → Prop} {w : Int32} (hA : SA S C D) (hI : IV C D) (hK : K (A_told C D (gI S 706) w) (pM M m ra (pI S 704 0))) : wp_X11_told (pM M m ra S) m w K := by
  have hA0 : SA (pI S 704 0) C D := SA_code hA
  have h12 := hW.1
  unfold A_told at hK
  have d7 := hA0.2.2.2.2.2.2.2.1
  have d8 := hA0.2.2.2.2.2.2.2.2.1
  have d9 : gI (pI S 704 0) 743 = dlo D := hA0.2.2.2.2.2.2.2.2.2.1
  have d6 : gI (pI S 704 0) 738 = dnow D := hA0.2.2.2.2.2.2.1
  have d1 := hA0.1.1
  have e706 : gI (pI S 704 0) 706 = gI S 706 := rfl
  simp (disch := omega) only [wp_X11_told, RF h, p_mK, p_mR, p_aN, p_aR, p_mI, p_mJ, p_sI, p_sJ, Option.some.injEq, exists_eq_left', true_and, and_true, na1, na3, n_add, n_mul, n_clamp, n_in, d1, d6, d7.1, d8.1, d9, e706]
  refine ⟨fun z => ?_, fun z => ?_, fun z => ?_, fun z => ?_, fun z => ?_, fun z => ?_, fun z => ?_, fun z => ?_, fun z => ?_, fun z => ?_⟩
  · have ne : ∀ k : Int32, 0 ≤ k.toInt → k.toInt ≤ 8 → ¬ w = k := fun k h1 h2 e => by rw [e] at z; omega
    rw [if_neg (ne 0 (by decide) (by decide)), if_neg (ne 1 (by decide) (by decide)), if_neg (ne 2 (by decide) (by decide)), if_neg (ne 3 (by decide) (by decide)), if_neg (ne 4 (by decide) (by decide)), if_neg (ne 5 (by decide) (by decide)), if_neg (ne 6 (by decide) (by decide)), if_neg (ne 7 (by decide) (by decide)), if_neg (ne 8 (by decide) (by decide))] at hK
    exact hK
  · subst z; exact hK
  · subst z; exact hK
  · subst z; exact hK
  · subst z; exact hK
  · subst z; exact hK
  · subst z
    refine r_held h hA0 (fun x _ => ?_) hK
    simp [show (-1 : Int32) < 0 by decide]
  · subst z
    exact ⟨_, r_pcL (f := fun s k => decide (dps D s k = 1)) h hW hA0 hI.2.1 (Or.inl ⟨rfl, rfl⟩) hK (cn C) 0 (Nat.zero_add _)⟩
  · subst z
    exact ⟨_, r_pcL (f := fun s k => a_stop C D s k) h hW hA0 hI.2.1 (Or.inr ⟨by decide, rfl⟩) hK (cn C) 0 (Nat.zero_add _)⟩
  · subst z; exact hK
end R20
