/-! the reference: all spans of a window that have a row's time -/
def bj (t step : Int64) (j : Nat) : Int64 := fdF t step * step - Int64.ofNat j * step
def begL (t step : Int64) : Nat → List Int64
  | 0 => [bj t step 0]
  | j + 1 => bj t step (j + 1) :: begL t step j
def HWn (t size step : Int64) : Prop := 1 ≤ step.toInt ∧ step.toInt ≤ size.toInt ∧ size.toInt ≤ 4 * step.toInt ∧ size.toInt ≤ 1000000 ∧ -8000000000000000000 ≤ t.toInt ∧ t.toInt ≤ 8000000000000000000
theorem bj_int {t size step : Int64} (hw : HWn t size step) {j : Nat} (hj : j ≤ 4) : (bj t step j).toInt = (fdF t step * step).toInt - (j : Int) * step.toInt := by
  obtain ⟨w1, w2, w3, w4, w5, w6⟩ := hw
  have hf := fd_spec (t := t) w1 (by omega) w5 w6
  have ej : (Int64.ofNat j).toInt = (j : Int) := Int64.toInt_ofNat_of_lt (by omega)
  have hjp : (j : Int) * step.toInt ≤ 4000000 ∧ 0 ≤ (j : Int) * step.toInt := by
    rcases (show j = 0 ∨ j = 1 ∨ j = 2 ∨ j = 3 ∨ j = 4 by omega) with rfl | rfl | rfl | rfl | rfl <;> simp <;> omega
  have em : (Int64.ofNat j * step).toInt = (j : Int) * step.toInt := by
    rw [j_mul] <;> rw [ej] <;> omega
  unfold bj
  rw [j_sub] <;> rw [em] <;> omega
theorem begs_eq {t size step : Int64} (hw : HWn t size step) : ∃ J, J ≤ 3 ∧ a_begs t size step = begL t step J ∧ (∀ j, j < J → ¬ bj t step j - step + size - 1 < t) ∧ (bj t step J - step + size - 1 < t) ∧ (∀ j, j ≤ J → ¬ t < bj t step j) ∧ t < bj t step 0 + step ∧ (∀ j, j < J → bj t step (j + 1) + step = bj t step j) ∧ (∀ j, j < J → bj t step j - step = bj t step (j + 1)) := by
  have hf := fd_spec (t := t) hw.1 (by have := hw.2; omega) hw.2.2.2.2.1 hw.2.2.2.2.2
  obtain ⟨w1, w2, w3, w4, w5, w6⟩ := id hw
  have e1 : (1 : Int64).toInt = 1 := by decide
  have b : ∀ j, j ≤ 4 → (bj t step j).toInt = (fdF t step * step).toInt - (j : Int) * step.toInt := fun j hj => bj_int hw hj
  have b0 := b 0 (by omega)
  have b1 := b 1 (by omega)
  have b2 := b 2 (by omega)
  have b3 := b 3 (by omega)
  have b4 := b 4 (by omega)
  generalize hL : (fdF t step * step).toInt = L at hf b0 b1 b2 b3 b4
  have c : ∀ x : Int64, L - 4 * step.toInt ≤ x.toInt → x.toInt ≤ L → (x + size - 1).toInt = x.toInt + size.toInt - 1 := fun x h1 h2 => by
    have g : (x + size).toInt = x.toInt + size.toInt := j_add (by omega) (by omega)
    rw [j_sub] <;> rw [g, e1] <;> omega
  have d : ∀ x : Int64, L - 3 * step.toInt ≤ x.toInt → x.toInt ≤ L → (x - step + size - 1).toInt = x.toInt - step.toInt + size.toInt - 1 := fun x h1 h2 => by
    have g : (x - step).toInt = x.toInt - step.toInt := j_sub (by omega) (by omega)
    rw [c _ (by omega) (by omega), g]
  have s1 : ∀ j, j < 4 → bj t step (j + 1) + step = bj t step j := fun j hj => by
    apply Int64.toInt_inj.mp
    have q1 := b j (by omega)
    have q2 := b (j + 1) (by omega)
    rcases (show j = 0 ∨ j = 1 ∨ j = 2 ∨ j = 3 by omega) with rfl | rfl | rfl | rfl <;> simp only [Nat.reduceAdd] at q1 q2 ⊢ <;> simp at q1 q2 <;> rw [j_add] <;> omega
  have s2 : ∀ j, j < 4 → bj t step j - step = bj t step (j + 1) := fun j hj => by
    rw [← s1 j hj, Int64.add_sub_cancel]
  have up0 : t < bj t step 0 + step := by
    rw [Int64.lt_iff_toInt_lt]
    simp at b0
    rw [j_add] <;> omega
  simp at b0 b1 b2 b3 b4
  have lt : ∀ j, j ≤ 3 → ¬ t < bj t step j := fun j hj z => by
    have z := Int64.lt_iff_toInt_lt.mp z
    rcases (show j = 0 ∨ j = 1 ∨ j = 2 ∨ j = 3 by omega) with rfl | rfl | rfl | rfl <;> omega
  have E : ∀ J : Nat, J ≤ 3 → t.toInt ≤ (bj t step J).toInt + size.toInt - 1 → ¬ t.toInt ≤ (bj t step (J + 1)).toInt + size.toInt - 1 → a_begs t size step = begL t step J → ∃ J, J ≤ 3 ∧ a_begs t size step = begL t step J ∧ (∀ j, j < J → ¬ bj t step j - step + size - 1 < t) ∧ (bj t step J - step + size - 1 < t) ∧ (∀ j, j ≤ J → ¬ t < bj t step j) ∧ t < bj t step 0 + step ∧ (∀ j, j < J → bj t step (j + 1) + step = bj t step j) ∧ (∀ j, j < J → bj t step j - step = bj t step (j + 1)) := fun J h3 g1 g2 g3 => by
    refine ⟨J, h3, g3, fun j hj z => ?_, ?_, fun j hj => lt j (by omega), up0, fun j hj => s1 j (by omega), fun j hj => s2 j (by omega)⟩
    · have z := Int64.lt_iff_toInt_lt.mp z
      rcases (show J = 0 ∨ J = 1 ∨ J = 2 ∨ J = 3 by omega) with rfl | rfl | rfl | rfl <;> rcases (show j = 0 ∨ j = 1 ∨ j = 2 ∨ j = 3 by omega) with rfl | rfl | rfl | rfl <;> first | omega | (rw [d _ (by omega) (by omega)] at z; omega)
    · rw [Int64.lt_iff_toInt_lt]
      rcases (show J = 0 ∨ J = 1 ∨ J = 2 ∨ J = 3 by omega) with rfl | rfl | rfl | rfl <;> simp only [Nat.reduceAdd] at g2 <;> rw [d _ (by omega) (by omega)] <;> omega
  have l0 : fdF t step * step - (0 : Int64) * step = bj t step 0 := rfl
  have l1 : fdF t step * step - (1 : Int64) * step = bj t step 1 := rfl
  have l2 : fdF t step * step - (2 : Int64) * step = bj t step 2 := rfl
  have l3 : fdF t step * step - (3 : Int64) * step = bj t step 3 := rfl
  have A : a_begs t size step = [bj t step 3, bj t step 2, bj t step 1, bj t step 0].filter (fun b => decide (t ≤ b + size - 1)) := by
    unfold a_begs
    simp only [List.map_cons, List.map_nil, l0, l1, l2, l3]
  have F : ∀ j, j ≤ 3 → (t ≤ bj t step j + size - 1 ↔ t.toInt ≤ (bj t step j).toInt + size.toInt - 1) := fun j hj => by
    rw [Int64.le_iff_toInt_le]
    rcases (show j = 0 ∨ j = 1 ∨ j = 2 ∨ j = 3 by omega) with rfl | rfl | rfl | rfl <;> rw [c _ (by omega) (by omega)]
  have F0 := F 0 (by omega)
  have F1 := F 1 (by omega)
  have F2 := F 2 (by omega)
  have F3 := F 3 (by omega)
  by_cases c3 : t.toInt ≤ L - 3 * step.toInt + size.toInt - 1
  · refine E 3 (by omega) (by omega) (by simp only [Nat.reduceAdd]; omega) ?_
    rw [A]
    simp [begL, F0.mpr (by omega), F1.mpr (by omega), F2.mpr (by omega), F3.mpr (by omega)]
  by_cases c2 : t.toInt ≤ L - 2 * step.toInt + size.toInt - 1
  · refine E 2 (by omega) (by omega) (by simp only [Nat.reduceAdd]; omega) ?_
    rw [A]
    simp [begL, F0.mpr (by omega), F1.mpr (by omega), F2.mpr (by omega), (not_congr F3).mpr (by omega)]
  by_cases c1 : t.toInt ≤ L - step.toInt + size.toInt - 1
  · refine E 1 (by omega) (by omega) (by simp only [Nat.reduceAdd]; omega) ?_
    rw [A]
    simp [begL, F0.mpr (by omega), F1.mpr (by omega), (not_congr F2).mpr (by omega), (not_congr F3).mpr (by omega)]
  · refine E 0 (by omega) (by omega) (by simp only [Nat.reduceAdd]; omega) ?_
    rw [A]
    simp [begL, F0.mpr (by omega), (not_congr F1).mpr (by omega), (not_congr F2).mpr (by omega), (not_congr F3).mpr (by omega)]
section R10
variable {M : Mm} {m : Nat} {ra : Nat → Nat} {C : Cfg}
variable {K : Mm → Prop} {s : Nat} {t size step : Int64} {k w : Int32}
theorem r_putB (h : SH M m ra) (hW : WC C) (hs : s < cn C) : ∀ (j : Nat) (S : St) (D : Dyn), (∀ i, i ≤ j → ¬ t < bj t step i) → t < bj t step 0 + step → (∀ i, i < j → bj t step (i + 1) + step = bj t step i) → SA S C D → SrtW (dwi D s) → (∀ S1, SA S1 C ((begL t step j).foldl (fun D b => a_put1 D s k w b) D) → SrtW (dwi ((begL t step j).foldl (fun D b => a_put1 D s k w b) D) s) → K (pM M m ra S1)) → lp_X11_put_62 m K (j + 2) (nI s) t k w step (bj t step j) (pM M m ra S) := by
  intro j
  induction j with
  | zero =>
    intro S D h1 h2 h3 hA hS hK
    rw [lp_X11_put_62]
    refine ⟨fun z => absurd z (h1 0 (Nat.le_refl 0)), fun _ => ?_⟩
    refine r_sum h hW hs hA hS (fun S1 hA1 hS1 => ?_)
    rw [lp_X11_put_62]
    exact ⟨fun _ => hK S1 hA1 hS1, fun z => absurd h2 z⟩
  | succ j ih =>
    intro S D h1 h2 h3 hA hS hK
    rw [lp_X11_put_62]
    refine ⟨fun z => absurd z (h1 (j + 1) (Nat.le_refl _)), fun _ => ?_⟩
    refine r_sum h hW hs hA hS (fun S1 hA1 hS1 => ?_)
    rw [h3 j (by omega)]
    exact ih S1 _ (fun i hi => h1 i (by omega)) h2 (fun i hi => h3 i (by omega)) hA1 hS1 hK
theorem r_putA {J : Nat} {X : Mm} (h1 : ∀ j, j < J → ¬ bj t step j - step + size - 1 < t) (h2 : bj t step J - step + size - 1 < t) (h3 : ∀ j, j < J → bj t step j - step = bj t step (j + 1)) (hB : ∃ kk, lp_X11_put_62 m K kk (nI s) t k w step (bj t step J) X) : ∀ (r j : Nat), j + r = J → lp_X11_put_33 m K (r + 1) (nI s) t k w size step (bj t step j) X := by
  intro r
  induction r with
  | zero =>
    intro j hj
    rw [show j = J by omega, lp_X11_put_33]
    exact ⟨fun _ => hB, fun z => absurd h2 z⟩
  | succ r ih =>
    intro j hj
    rw [lp_X11_put_33]
    refine ⟨fun z => absurd z (h1 j (by omega)), fun _ => ?_⟩
    rw [h3 j (by omega)]
    exact ih (j + 1) (by omega)
theorem r_put (h : SH M m ra) (hW : WC C) {S : St} {D : Dyn} (hs : s < cn C) (hk : ckd C s = 5) (ht : -8000000000000000000 ≤ t.toInt ∧ t.toInt ≤ 8000000000000000000) (hA : SA S C D) (hS : SrtW (dwi D s)) (hK : ∀ S1, SA S1 C (a_put C D s t k w) → SrtW (dwi (a_put C D s t k w) s) → K (pM M m ra S1)) : wp_X11_put (pM M m ra S) m (nI s) t k w K := by
  have h12 := hW.1
  obtain ⟨c1, c2, c3, c4, c5, -⟩ := hA.1.2.2.1 s hs
  obtain ⟨w1, w2, w3, w4⟩ := (hW.2.2.2 s hs).2.2.2.2.2.2.2.2.2.1 hk
  have hw : HWn t (co1 C s) (co2 C s) := ⟨w1, w2, w3, w4, ht.1, ht.2⟩
  have hne : ¬ co2 C s = 0 := fun e => by
    have : (co2 C s).toInt = 0 := by rw [e]; decide
    omega
  simp (disch := omega) only [wp_X11_put, RF h, p_mK, p_mR, p_aN, p_aR, p_mI, p_mJ, p_sI, p_sJ, Option.some.injEq, exists_eq_left', true_and, and_true, na1, na3, n_add, n_mul, n_clamp, n_in, c4, c5, e_fd hne]
  obtain ⟨J, hJ, e, g1, g2, g3, g4, g5, g6⟩ := begs_eq hw
  refine ⟨J + 1, ?_⟩
  have z0 : fdF t (co2 C s) * co2 C s = bj t (co2 C s) 0 := by
    unfold bj
    rw [show Int64.ofNat 0 = 0 from rfl, Int64.zero_mul, Int64.sub_zero]
  rw [z0]
  refine r_putA g1 g2 g6 ⟨J + 2, ?_⟩ J 0 (by omega)
  unfold a_put at hK
  rw [e] at hK
  exact r_putB h hW hs J S D g3 g4 g5 hA hS hK
end R10
