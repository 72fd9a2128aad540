/-! the reference: which streams, parts and times there are; parts that are stopped -/
def isSt (C : Cfg) (p : Int32) : Bool := decide (0 ≤ p) && decide (p < nI (cn C))
def isPt (C : Cfg) (p q : Int32) : Bool := isSt C p && (decide (ckd C p.toNatClampNeg = 0) && (decide (0 ≤ q) && decide (q < nI (cpt C p.toNatClampNeg))))
def isTm (t : Int64) : Bool := decide (-100000000000000000 ≤ t) && decide (t ≤ 100000000000000000)
def isKy (k : Int32) : Bool := decide (0 ≤ k) && decide (k ≤ 9)
theorem isSt_iff {C : Cfg} (hW : WC C) {p : Int32} : isSt C p = true ↔ ∃ s, s < cn C ∧ p = nI s := by
  have h12 := hW.1
  simp only [isSt, Bool.and_eq_true, decide_eq_true_eq]
  constructor
  · rintro ⟨h1, h2⟩
    obtain ⟨j, hj, rfl⟩ := nI_of (Int32.not_lt.mpr h1)
    rw [n_lt (by omega) (by omega)] at h2
    exact ⟨j, h2, rfl⟩
  · rintro ⟨s, hs, rfl⟩
    rw [n_lt (by omega) (by omega)]
    exact ⟨nI_pos' (by omega), hs⟩
theorem isPt_iff {C : Cfg} (hW : WC C) {p q : Int32} : isPt C p q = true ↔ ∃ s k, s < cn C ∧ p = nI s ∧ ckd C s = 0 ∧ k < cpt C s ∧ q = nI k := by
  have h12 := hW.1
  rw [isPt, Bool.and_eq_true, isSt_iff hW]
  constructor
  · rintro ⟨⟨s, hs, rfl⟩, h2⟩
    have h4 := (hW.2.2.2 s hs).2.1
    rw [n_clamp (by omega)] at h2
    simp only [Bool.and_eq_true, decide_eq_true_eq] at h2
    obtain ⟨j, hj, rfl⟩ := nI_of (Int32.not_lt.mpr h2.2.1)
    have h3 := h2.2.2
    rw [n_lt (by omega) (by omega)] at h3
    exact ⟨s, j, hs, rfl, h2.1, h3, rfl⟩
  · rintro ⟨s, k, hs, rfl, hk, hk2, rfl⟩
    have h4 := (hW.2.2.2 s hs).2.1
    refine ⟨⟨s, hs, rfl⟩, ?_⟩
    rw [n_clamp (by omega)]
    simp [hk, nI_lt hk2 (show cpt C s < 2147483648 by omega), nI_pos' (show k < 2147483648 by omega)]
theorem isTm_HT {t : Int64} (h : isTm t = true) : -100000000000000000 ≤ t.toInt ∧ t.toInt ≤ 100000000000000000 := by
  simp only [isTm, Bool.and_eq_true, decide_eq_true_eq, Int64.le_iff_toInt_le] at h
  have e1 : (-100000000000000000 : Int64).toInt = -100000000000000000 := by decide
  have e2 : (100000000000000000 : Int64).toInt = 100000000000000000 := by decide
  omega
theorem e_isTime {M : Mm} {t : Int64} {K : Int32 → Mm → Prop} : wp_X11_isTime M t K = K (bI (isTm t)) M := by
  unfold wp_X11_isTime bk_X11_isTime_20 bk_X11_isTime_21 isTm
  by_cases h1 : t < -100000000000000000
  · simp [h1, Int64.not_le.mpr h1, bI, bz]
  · by_cases h2 : (100000000000000000 : Int64) < t
    · simp [h1, h2, Int64.not_lt.mp h1, Int64.not_le.mpr h2, bI, bz]
    · simp [h1, h2, Int64.not_lt.mp h1, Int64.not_lt.mp h2, bI, bz]
section R16
variable {M : Mm} {m : Nat} {ra : Nat → Nat} {C : Cfg} {S : St} {D : Dyn}
theorem e_isStream (h : SH M m ra) (hW : WC C) (hC : SC S C) {p : Int32} {K : Int32 → Mm → Prop} : wp_X11_isStream (pM M m ra S) m p K = K (bI (isSt C p)) (pM M m ra S) := by
  have h12 := hW.1
  simp (disch := omega) only [wp_X11_isStream, bk_X11_isStream_25, bk_X11_isStream_26, RF h, p_mK, p_mR, p_aN, p_aR, p_mI, p_mJ, p_sI, p_sJ, Option.some.injEq, exists_eq_left', true_and, and_true, na1, na3, n_add, n_mul, n_clamp, n_in, hC.1, hC.2.1, show ((1 : Int32) = 0) = False by decide, not_false_eq_true, false_implies, forall_const]
  unfold isSt
  by_cases h1 : p < 0
  · simp [h1, Int32.not_le.mpr h1, bI, bz]
  · by_cases h2 : nI (cn C) ≤ p
    · simp [h1, h2, Int32.not_lt.mp h1, Int32.not_lt.mpr h2, bI, bz]
    · simp [h1, h2, Int32.not_lt.mp h1, Int32.not_le.mp h2, bI, bz]
theorem e_isPart (h : SH M m ra) (hW : WC C) (hC : SC S C) {p q : Int32} {K : Int32 → Mm → Prop} : wp_X11_isPart (pM M m ra S) m p q K = K (bI (isPt C p q)) (pM M m ra S) := by
  have h12 := hW.1
  unfold wp_X11_isPart
  rw [e_isStream h hW hC]
  simp only [bI_0, p_mK, FK h, true_and]
  by_cases hp : isSt C p = true
  · obtain ⟨s, hs, rfl⟩ := (isSt_iff hW).mp hp
    have h4 := (hW.2.2.2 s hs).2.1
    have h5 := (hW.2.2.2 s hs).1
    obtain ⟨c1, c2, -⟩ := hC.2.2.1 s hs
    have e : isPt C (nI s) q = (decide (ckd C s = 0) && (decide (0 ≤ q) && decide (q < nI (cpt C s)))) := by
      rw [isPt, hp, n_clamp (by omega), Bool.true_and]
    rw [e]
    simp (disch := omega) only [hp, e_kindOf h, c1, c2, RF h, p_mK, p_mR, p_aN, p_aR, p_mI, p_mJ, p_sI, p_sJ, Option.some.injEq, exists_eq_left', true_and, and_true, na1, na3, n_add, n_mul, n_clamp, n_in, na2, bk_X11_isPart_37, bk_X11_isPart_38, Bool.true_eq_false, not_false_eq_true, false_implies, forall_const]
    by_cases k0 : ckd C s = 0
    · by_cases h1 : q < 0
      · simp [k0, h1, Int32.not_le.mpr h1, bI, bz]
      · by_cases h2 : nI (cpt C s) ≤ q
        · simp [k0, h1, h2, Int32.not_lt.mp h1, Int32.not_lt.mpr h2, bI, bz]
        · simp [k0, h1, h2, Int32.not_lt.mp h1, Int32.not_le.mp h2, bI, bz]
    · simp [k0, bI, bz]
  · rw [Bool.not_eq_true] at hp
    have e : isPt C p q = false := by rw [isPt, hp, Bool.false_and]
    rw [e]
    simp [hp, bk_X11_isPart_37, bk_X11_isPart_38, bI, bz]
theorem oI_lt0 (x : Option Nat) (hx : ∀ g, x = some g → g < 4) : (oI x < 0) = (x = none) := by
  cases x with
  | none => simp only [oI]; decide
  | some g =>
    have := hx g rfl
    simp (disch := omega) only [oI, na2, Nat.not_lt_zero, reduceCtorEq]
theorem oI_eq (x : Option Nat) (hx : ∀ g, x = some g → g < 4) {g : Nat} (hg : g < 4) : (oI x = nI g) = (x = some g) := by
  cases x with
  | none =>
    simp only [oI, reduceCtorEq, eq_iff_iff, iff_false]
    intro e
    have h1 : (nI g) < 0 := by rw [← e]; decide
    exact nI_pos (show g < 2 ^ 31 by omega) h1
  | some g' =>
    have := hx g' rfl
    simp (disch := omega) only [oI, n_eq, Option.some.injEq]
theorem r_stopI (h : SH M m ra) (hW : WC C) {K : Int32 → Mm → Prop} {R48 : Int32 → Int32 → Int32 → Int64 → Int32 → Mm → Prop} {x1 x2 : Int32} {g q : Nat} {v : Int64} (hA : SA S C D) (hps : ∀ s k, dps D s k ≤ 2) (hq : q < cn C) (hg : g < 4) (hk : ckd C q = 0) (hgr : cgr C q = some g) (hR : R48 x1 x2 (nI g) (a_minS D q v (cpt C q)) (nI (q + 1)) (pM M m ra S)) : ∀ (r i : Nat), i + r = cpt C q → lp_X11_isStopped_62 m R48 K (r + 1) x1 x2 (nI g) (a_minS D q v i) (nI q) (nI i) (pM M m ra S) := by
  intro r
  have h12 := hW.1
  have h4 := (hW.2.2.2 q hq).2.1
  obtain ⟨c1, c2, c3, c4, c5, c6, c7, c8, c9⟩ := hA.1.2.2.1 q hq
  rw [hk] at c1
  rw [hgr] at c7
  induction r with
  | zero =>
    intro i hi
    have e : i = cpt C q := by omega
    subst e
    rw [lp_X11_isStopped_62]
    simp (disch := omega) only [RF h, p_mK, p_mR, p_aN, p_aR, p_mI, p_mJ, p_sI, p_sJ, Option.some.injEq, exists_eq_left', true_and, and_true, na1, na3, n_add, n_mul, n_clamp, n_in, c2, n_le, Nat.le_refl, bk_X11_isStopped_145, not_true, false_implies, forall_const]
    exact hR
  | succ r ih =>
    intro i hi
    have p1 := hA.2.2.2.1 q i hq (by omega)
    have p2 := hA.2.2.2.2.1 q i hq (by omega)
    have hb := hps q i
    have := ih (i + 1) (by omega)
    rw [a_minS] at this
    rw [lp_X11_isStopped_62]
    simp (disch := omega) only [RF h, p_mK, p_mR, p_aN, p_aR, p_mI, p_mJ, p_sI, p_sJ, Option.some.injEq, exists_eq_left', true_and, and_true, na1, na3, n_add, n_mul, n_clamp, n_in, c1, c2, c7, n_le, show ¬ cpt C q ≤ i by omega, e_kindOf h, na2, oI, p1, p2, bk_X11_isStopped_137, not_true, not_false_eq_true, false_implies, forall_const]
    refine ⟨fun z => ?_, fun z => ?_⟩
    · rw [if_neg z] at this; exact this
    · rw [if_pos z] at this; exact this
theorem r_stopL (h : SH M m ra) (hW : WC C) {K : Int32 → Mm → Prop} {s k g : Nat} {v : Int64} (hA : SA S C D) (hps : ∀ s k, dps D s k ≤ 2) (hs : s < cn C) (hk4 : k < 4) (hg : g < 4) (hv : vJ S 728 (4 + g) = v) (hK : K (bI (decide (plusF (a_minG C D g (cn C)) v < dpr D s k))) (pM M m ra S)) : ∀ (r q : Nat), q + r = cn C → lp_X11_isStopped_48 m K (r + 1) (nI s) (nI k) (nI g) (a_minG C D g q) (nI q) (pM M m ra S) := by
  intro r
  have h12 := hW.1
  induction r with
  | zero =>
    intro q hq
    have e : q = cn C := by omega
    subst e
    have p2 := hA.2.2.2.2.1 s k hs hk4
    rw [lp_X11_isStopped_48]
    simp (disch := omega) only [RF h, p_mK, p_mR, p_aN, p_aR, p_mI, p_mJ, p_sI, p_sJ, Option.some.injEq, exists_eq_left', true_and, and_true, na1, na3, n_add, n_mul, n_clamp, n_in, hA.1.1, n_le, Nat.le_refl, p2, hv, e_plus, bk_X11_isStopped_183, not_true, false_implies, forall_const]
    refine ⟨fun z => ⟨Or.inl rfl, ?_⟩, fun z => ⟨Or.inr rfl, ?_⟩⟩
    · simpa [bI, Int64.not_lt.mpr z] using hK
    · simpa [bI, Int64.not_le.mp z] using hK
  | succ r ih =>
    intro q hq
    have hqn : q < cn C := by omega
    obtain ⟨w1, w2, w3, w4, w5, w6, w7, w8, w9, -⟩ := hW.2.2.2 q hqn
    obtain ⟨c1, c2, c3, c4, c5, c6, c7, c8, c9⟩ := hA.1.2.2.1 q hqn
    have nx := ih (q + 1) (by omega)
    rw [a_minG] at nx
    rw [lp_X11_isStopped_48]
    simp (disch := omega) only [RF h, p_mK, p_mR, p_aN, p_aR, p_mI, p_mJ, p_sI, p_sJ, Option.some.injEq, exists_eq_left', true_and, and_true, na1, na3, n_add, n_mul, n_clamp, n_in, hA.1.1, n_le, show ¬ cn C ≤ q by omega, not_false_eq_true, false_implies, forall_const]
    by_cases c : ckd C q = 0 ∧ cgr C q = some g
    · rw [if_pos c] at nx
      refine ⟨cpt C q + 1, ?_⟩
      exact r_stopI (v := a_minG C D g q) h hW hA hps hqn hg c.1 c.2 nx (cpt C q) 0 (Nat.zero_add _)
    · rw [if_neg c] at nx
      refine ⟨1, ?_⟩
      rw [lp_X11_isStopped_62]
      simp (disch := omega) only [RF h, p_mK, p_mR, p_aN, p_aR, p_mI, p_mJ, p_sI, p_sJ, Option.some.injEq, exists_eq_left', true_and, and_true, na1, na3, n_add, n_mul, n_clamp, n_in, c1, c2, c7, na2, e_kindOf h, bk_X11_isStopped_145, oI_eq _ w9 hg]
      refine ⟨fun _ => nx, fun z => ⟨fun _ => nx, fun y => ⟨fun _ => nx, fun x => absurd ⟨y, x⟩ c⟩⟩⟩
theorem r_isStopped (h : SH M m ra) (hW : WC C) {K : Int32 → Mm → Prop} {s k : Nat} (hA : SA S C D) (hps : ∀ s k, dps D s k ≤ 2) (hs : s < cn C) (hk4 : k < 4) (hK : K (bI (a_stop C D s k)) (pM M m ra S)) : wp_X11_isStopped (pM M m ra S) m (nI s) (nI k) K := by
  have h12 := hW.1
  obtain ⟨w1, w2, w3, w4, w5, w6, w7, w8, w9, -⟩ := hW.2.2.2 s hs
  obtain ⟨c1, c2, c3, c4, c5, c6, c7, c8, c9⟩ := hA.1.2.2.1 s hs
  have p1 := hA.2.2.2.1 s k hs hk4
  have hb := hps s k
  simp (disch := omega) only [wp_X11_isStopped, bk_X11_isStopped_38, RF h, p_mK, p_mR, p_aN, p_aR, p_mI, p_mJ, p_sI, p_sJ, Option.some.injEq, exists_eq_left', true_and, and_true, na1, na3, n_add, n_mul, n_clamp, n_in, c7, p1, na2, oI_lt0 _ w9]
  unfold a_stop at hK
  refine ⟨fun z => ?_, fun z => ⟨fun y => ?_, fun y => ?_⟩⟩
  · simpa [z, bI] using hK
  · rw [y] at hK
    simpa [z, bI] using hK
  · cases hg : cgr C s with
    | none => exact absurd hg y
    | some g =>
      have hg4 := w9 g hg
      have al := hA.1.2.2.2.2.1 g hg4
      rw [hg] at hK
      simp (disch := omega) only [oI, RF h, p_mK, p_mR, p_aN, p_aR, p_mI, p_mJ, p_sI, p_sJ, Option.some.injEq, exists_eq_left', true_and, and_true, na1, na3, n_add, n_mul, n_clamp, n_in, al.1, bI_0]
      refine ⟨fun z2 => ?_, fun z2 => ?_⟩
      · rw [Bool.not_eq_false] at z2
        obtain ⟨v, hv⟩ := Option.isSome_iff_exists.mp z2
        dsimp only at hK
        rw [hv] at hK
        refine ⟨cn C + 1, ?_⟩
        exact r_stopL h hW hA hps hs hk4 hg4 (al.2 v hv) (by simpa [z] using hK) (cn C) 0 (Nat.zero_add _)
      · have hn : csp C g = none := by
          cases hc : csp C g with
          | none => rfl
          | some v => rw [hc] at z2; cases z2
        dsimp only at hK
        rw [hn] at hK
        simpa [z, bI] using hK
end R16
