/-! longs by their integers; the beginnings of a window's spans -/
theorem j_add {a b : Int64} (h1 : -9223372036854775808 ≤ a.toInt + b.toInt) (h2 : a.toInt + b.toInt < 9223372036854775808) : (a + b).toInt = a.toInt + b.toInt := by
  rw [Int64.toInt_add]; exact Int.bmod_eq_of_le (by omega) (by omega)
theorem j_sub {a b : Int64} (h1 : -9223372036854775808 ≤ a.toInt - b.toInt) (h2 : a.toInt - b.toInt < 9223372036854775808) : (a - b).toInt = a.toInt - b.toInt := by
  rw [Int64.toInt_sub]; exact Int.bmod_eq_of_le (by omega) (by omega)
theorem j_mul {a b : Int64} (h1 : -9223372036854775808 ≤ a.toInt * b.toInt) (h2 : a.toInt * b.toInt < 9223372036854775808) : (a * b).toInt = a.toInt * b.toInt := by
  rw [Int64.toInt_mul]; exact Int.bmod_eq_of_le (by omega) (by omega)
theorem j_neg {a : Int64} (h1 : -9223372036854775808 < a.toInt) : (-a).toInt = -a.toInt := by
  rw [Int64.toInt_neg]; have := a.toInt_lt; exact Int.bmod_eq_of_le (by omega) (by omega)
theorem j_xor {a b : Int64} (hb : 0 ≤ b.toInt) : (a ^^^ b) < 0 ↔ a.toInt < 0 := by
  rw [Int64.lt_iff_toInt_lt, ← Int64.toInt_toBitVec, ← Int64.toInt_toBitVec a, Int64.toBitVec_xor]
  have h1 : (a.toBitVec ^^^ b.toBitVec).msb = decide ((a.toBitVec ^^^ b.toBitVec).toInt < 0) := BitVec.msb_eq_toInt
  have h2 : a.toBitVec.msb = decide (a.toBitVec.toInt < 0) := BitVec.msb_eq_toInt
  have h3 : b.toBitVec.msb = decide (b.toBitVec.toInt < 0) := BitVec.msb_eq_toInt
  have h4 : ¬ b.toBitVec.toInt < 0 := by rw [Int64.toInt_toBitVec]; omega
  have h5 : (0 : Int64).toInt = 0 := by decide
  rw [BitVec.msb_xor, h2, h3] at h1
  rw [h5]
  simp only [h4, decide_false, Bool.xor_false] at h1
  by_cases c : a.toBitVec.toInt < 0
  · simp only [c, decide_true] at h1
    exact ⟨fun _ => c, fun _ => of_decide_eq_true h1.symm⟩
  · simp only [c, decide_false] at h1
    exact ⟨fun z => absurd z (of_decide_eq_false h1.symm), fun z => absurd z c⟩
theorem fd_spec {t p : Int64} (hp : 1 ≤ p.toInt) (hp2 : p.toInt ≤ 1000000) (h1 : -8000000000000000000 ≤ t.toInt) (h2 : t.toInt ≤ 8000000000000000000) : (fdF t p * p).toInt ≤ t.toInt ∧ t.toInt < (fdF t p * p).toInt + p.toInt := by
  have hne : t ≠ Int64.minValue := fun e => by
    have : t.toInt = -9223372036854775808 := by rw [e]; decide
    omega
  have hq : (t / p).toInt = t.toInt.tdiv p.toInt := Int64.toInt_div_of_ne_left t p hne
  have hdm := Int.mul_tdiv_add_tmod t.toInt p.toInt
  generalize hQ : t.toInt.tdiv p.toInt = Q at hq hdm
  have hr1 : t.toInt.tmod p.toInt < p.toInt := by
    have := Int.tmod_lt_of_pos t.toInt (show 0 < p.toInt by omega)
    exact this
  have hr2 : -p.toInt < t.toInt.tmod p.toInt := by
    have h3 := Int.tmod_lt_of_pos (-t.toInt) (show 0 < p.toInt by omega)
    rw [Int.neg_tmod] at h3
    omega
  have hsign : (0 ≤ t.toInt → 0 ≤ t.toInt.tmod p.toInt) ∧ (t.toInt ≤ 0 → t.toInt.tmod p.toInt ≤ 0) := by
    refine ⟨fun h => Int.tmod_nonneg _ h, fun h => ?_⟩
    have := Int.tmod_nonneg p.toInt (show 0 ≤ -t.toInt by omega)
    rw [Int.neg_tmod] at this
    omega
  generalize hR : t.toInt.tmod p.toInt = Rm at hdm hr1 hr2 hsign
  have hmul : (t / p * p).toInt = Q * p.toInt := by
    rw [j_mul] <;> rw [hq]
    · have : Q * p.toInt = p.toInt * Q := Int.mul_comm _ _
      omega
    · have : Q * p.toInt = p.toInt * Q := Int.mul_comm _ _
      omega
  have hcm : Q * p.toInt = p.toInt * Q := Int.mul_comm _ _
  have hiff : (t ^^^ p) < 0 ↔ t.toInt < 0 := j_xor (by omega)
  have heq : (t / p * p = t) ↔ Rm = 0 := by
    rw [← Int64.toInt_inj, hmul]
    omega
  unfold fdF
  by_cases c : (t ^^^ p) < 0 ∧ ¬ t / p * p = t
  · rw [if_pos c]
    rw [hiff, heq] at c
    have hs := hsign.2 (by omega)
    have hq1 : (t / p - 1).toInt = Q - 1 := by
      have e1 : (1 : Int64).toInt = 1 := by decide
      rw [j_sub] <;> rw [hq, e1]
      · have hb := (t / p).le_toInt
        rw [hq] at hb
        have hQ0 : Q ≤ 0 := by
          rcases (show 0 < Q ∨ Q ≤ 0 by omega) with g | g
          · have : p.toInt ≤ p.toInt * Q := by
              have := Int.mul_le_mul_of_nonneg_left (show (1 : Int) ≤ Q by omega) (show 0 ≤ p.toInt by omega)
              omega
            omega
          · exact g
        have : -8000000000000000001 ≤ Q := by
          have h9 : p.toInt * Q ≤ 1 * Q := Int.mul_le_mul_of_nonpos_right (show (1 : Int) ≤ p.toInt by omega) hQ0
          omega
        omega
      · have hb := (t / p).toInt_lt
        rw [hq] at hb
        omega
    have hm2 : ((t / p - 1) * p).toInt = (Q - 1) * p.toInt := by
      have e2 : (Q - 1) * p.toInt = p.toInt * Q - p.toInt := by rw [Int.sub_mul, hcm, Int.one_mul]
      rw [j_mul] <;> rw [hq1, e2] <;> omega
    have e2 : (Q - 1) * p.toInt = p.toInt * Q - p.toInt := by rw [Int.sub_mul, hcm, Int.one_mul]
    rw [hm2, e2]
    omega
  · rw [if_neg c, hmul, hcm]
    rw [hiff, heq] at c
    by_cases hn : t.toInt < 0
    · have : Rm = 0 := Classical.byContradiction fun z => c ⟨hn, z⟩
      omega
    · have := hsign.1 (by omega)
      omega
theorem e_fd {M : Mm} {x y : Int64} {K : Int64 → Mm → Prop} (hy : ¬ y = 0) : wp_J9_floorDiv_f86c9 M x y K = K (fdF x y) M := by
  unfold wp_J9_floorDiv_f86c9 bk_J9_floorDiv_f86c9_27 fdF
  by_cases h1 : (0 : Int64) ≤ x ^^^ y
  · simp [hy, h1, Int64.not_lt.mpr h1]
  · have h1' := Int64.not_le.mp h1
    by_cases h2 : x / y * y = x
    · simp [hy, h1, h2]
    · simp [hy, h1, h2, h1']
