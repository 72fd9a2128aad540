/-! the class: a source's goal; parts that are stopped -/
def gv (o : Option Int64) : Int64 := match o with
  | none => -9000000000000000001
  | some v => v
def cN (f : Nat → Bool) : Nat → Nat
  | 0 => 0
  | k + 1 => if f k = true then cN f k + 1 else cN f k
theorem cN_le (f : Nat → Bool) : ∀ n, cN f n ≤ n
  | 0 => Nat.le_refl 0
  | n + 1 => by
    rw [cN]
    have := cN_le f n
    split <;> omega
theorem pcK_eq (f : Nat → Bool) : ∀ n, a_pcK f 0 n = nI (cN f n)
  | 0 => rfl
  | n + 1 => by
    rw [a_pcK, cN, pcK_eq f n]
    split
    · exact nI_add _ 1
    · rfl
theorem cN_0 (f : Nat → Bool) : ∀ n, cN f n = 0 ↔ ∀ k, k < n → f k = false
  | 0 => ⟨fun _ k hk => by omega, fun _ => rfl⟩
  | n + 1 => by
    rw [cN]
    constructor
    · intro h k hk
      by_cases c : f n = true
      · rw [if_pos c] at h; omega
      · rw [if_neg c] at h
        rcases Nat.lt_succ_iff_lt_or_eq.mp hk with g | g
        · exact (cN_0 f n).mp h k g
        · rw [g]; simpa using c
    · intro h
      rw [if_neg (by rw [h n (by omega)]; decide)]
      exact (cN_0 f n).mpr (fun k hk => h k (by omega))
theorem cN_n (f : Nat → Bool) : ∀ n, cN f n = n ↔ ∀ k, k < n → f k = true
  | 0 => ⟨fun _ k hk => by omega, fun _ => rfl⟩
  | n + 1 => by
    rw [cN]
    have hle := cN_le f n
    constructor
    · intro h k hk
      by_cases c : f n = true
      · rw [if_pos c] at h
        rcases Nat.lt_succ_iff_lt_or_eq.mp hk with g | g
        · exact (cN_n f n).mp (by omega) k g
        · rw [g]; exact c
      · rw [if_neg c] at h; omega
    · intro h
      rw [if_pos (h n (by omega)), (cN_n f n).mpr (fun k hk => h k (by omega))]
theorem srcG_none {D : Dyn} {s : Nat} : ∀ n, (∀ k, k < n → ¬ dps D s k = 0) → a_srcG D s n = none
  | 0, _ => rfl
  | n + 1, h => by rw [a_srcG, if_neg (h n (by omega))]; exact srcG_none n (fun k hk => h k (by omega))
theorem minS_none {D : Dyn} {s : Nat} {v : Int64} : ∀ n, (∀ k, k < n → ¬ dps D s k = 0) → a_minS D s v n = v
  | 0, _ => rfl
  | n + 1, h => by rw [a_minS, if_neg (h n (by omega))]; exact minS_none n (fun k hk => h k (by omega))
theorem srcG_some {D : Dyn} {s : Nat} (hp : ∀ k, (dpr D s k).toInt ≤ 9000000000000000000) : ∀ n, (∃ k, k < n ∧ dps D s k = 0) → a_srcG D s n = some (a_minS D s 9000000000000000000 n)
  | 0, h => by obtain ⟨k, hk, -⟩ := h; omega
  | n + 1, h => by
    rw [a_srcG, a_minS]
    by_cases c : dps D s n = 0
    · rw [if_pos c, if_pos c]
      by_cases g : ∃ k, k < n ∧ dps D s k = 0
      · rw [srcG_some hp n g]; rfl
      · have hn : ∀ k, k < n → ¬ dps D s k = 0 := fun k hk e => g ⟨k, hk, e⟩
        rw [srcG_none n hn, minS_none n hn]
        show some (dpr D s n) = some (minF 9000000000000000000 (dpr D s n))
        unfold minF
        have e2 : (9000000000000000000 : Int64).toInt = 9000000000000000000 := by decide
        have := hp n
        by_cases q : dpr D s n < 9000000000000000000
        · rw [if_pos q]
        · rw [if_neg q]
          have q' : ¬ (dpr D s n).toInt < 9000000000000000000 := fun z => q (Int64.lt_iff_toInt_lt.mpr (by rw [e2]; exact z))
          congr 1
          apply Int64.toInt_inj.mp
          rw [e2]; omega
    · rw [if_neg c, if_neg c]
      obtain ⟨k, hk, e⟩ := h
      refine srcG_some hp n ⟨k, ?_, e⟩
      rcases Nat.lt_succ_iff_lt_or_eq.mp hk with g | g
      · exact g
      · rw [g] at e; exact absurd e c
theorem allE_iff {D : Dyn} {s n : Nat} : a_allE D s n = true ↔ ∀ k, k < n → dps D s k = 2 := by
  simp [a_allE]
section K3
variable {B M : Mm} {L : Nat → Nat → Nat} {C : Cfg} {D : Dyn}
theorem c_srcGoal {K : Int64 → Mm → Prop} {s : Nat} (hW : WC C) (h : CR B M L C D) (hs : s < cn C) (h0 : ckd C s = 0) (hp : PB D) (hK : K (gv (a_goal C D s)) M) : wp_X5_goal M (L 3 s) K := by
  have h4 := (hW.2.2.2 s hs).2.1
  have hpos := (hW.2.2.2 s hs).2.2.1.mp h0
  obtain ⟨c1, c2, -⟩ := h.2.1.2.2.2.2.2.1 s hs h0
  rw [a_goal, if_pos h0] at hK
  have hle0 := cN_le (fun k => decide (dps D s k = 0)) (cpt C s)
  have hle2 := cN_le (fun k => decide (dps D s k = 2)) (cpt C s)
  unfold wp_X5_goal bk_X5_goal_34 wp_X5_countIn wp_X5_leastActive
  refine ⟨c1, cpt C s + 1, c_countIn (st := 0) hW h hs h0 hp (by omega) ?_ (cpt C s) 0 (Nat.zero_add _)⟩
  rw [pcK_eq]
  simp (disch := omega) only [na2]
  refine ⟨fun z => ?_, fun z => ?_⟩
  · have hno : ∀ k, k < cpt C s → ¬ dps D s k = 0 := fun k hk => by
      have := (cN_0 _ _).mp (show cN (fun k => decide (dps D s k = 0)) (cpt C s) = 0 by omega) k hk
      simpa using this
    rw [srcG_none _ hno] at hK
    refine ⟨c1, cpt C s + 1, c_countIn (st := 2) hW h hs h0 hp (by omega) ?_ (cpt C s) 0 (Nat.zero_add _)⟩
    rw [pcK_eq]
    simp (disch := omega) only [c1, c2, n_eq, true_and]
    refine ⟨fun y => ?_, fun y => ?_⟩
    · rw [if_neg (fun w => y ((cN_n _ _).mpr (fun k hk => by simpa using allE_iff.mp w k hk)))] at hK
      exact hK
    · rw [if_pos (allE_iff.mpr (fun k hk => by simpa using (cN_n _ _).mp y k hk))] at hK
      exact hK
  · have hex : ∃ k, k < cpt C s ∧ dps D s k = 0 := by
      refine Classical.byContradiction fun g => z ?_
      have : cN (fun k => decide (dps D s k = 0)) (cpt C s) = 0 := (cN_0 _ _).mpr (fun k hk => by
        simp only [decide_eq_false_iff_not]
        exact fun e => g ⟨k, hk, e⟩)
      omega
    rw [srcG_some (fun k => (hp.2.1 s k).2) _ hex] at hK
    rw [if_neg (fun w => by
      obtain ⟨k, hk, e⟩ := hex
      have := allE_iff.mp w k hk
      omega)] at hK
    exact ⟨c1, cpt C s + 1, c_least hW h hs h0 hp hK (cpt C s) 0 (Nat.zero_add _)⟩
theorem minF_le {a b : Int64} : minF a b = if b < a then b else a := rfl
theorem minS_acc {D : Dyn} {s : Nat} (hp : ∀ k, (dpr D s k).toInt ≤ 9000000000000000000) {v : Int64} (hv : v.toInt ≤ 9000000000000000000) : ∀ n, a_minS D s v n = (if a_minS D s 9000000000000000000 n < v then a_minS D s 9000000000000000000 n else v) ∧ (a_minS D s 9000000000000000000 n).toInt ≤ 9000000000000000000
  | 0 => by
    have e2 : (9000000000000000000 : Int64).toInt = 9000000000000000000 := by decide
    refine ⟨?_, by show (9000000000000000000 : Int64).toInt ≤ _; rw [e2]; omega⟩
    show v = if (9000000000000000000 : Int64) < v then 9000000000000000000 else v
    rw [if_neg (fun z => by have := Int64.lt_iff_toInt_lt.mp z; omega)]
  | n + 1 => by
    obtain ⟨i1, i2⟩ := minS_acc hp hv n
    have h1 := hp n
    rw [a_minS, a_minS]
    by_cases c : dps D s n = 0
    · rw [if_pos c, if_pos c, i1]
      generalize a_minS D s 9000000000000000000 n = w at i2 ⊢
      unfold minF
      constructor
      · apply Int64.toInt_inj.mp
        simp only [Int64.lt_iff_toInt_lt]
        repeat' split
        all_goals omega
      · split <;> omega
    · rw [if_neg c, if_neg c]; exact ⟨i1, i2⟩
theorem minG_le {g : Nat} (hp : PB D) : ∀ q, (a_minG C D g q).toInt ≤ 9000000000000000000
  | 0 => by
    have e2 : (9000000000000000000 : Int64).toInt = 9000000000000000000 := by decide
    show (9000000000000000000 : Int64).toInt ≤ _
    rw [e2]; omega
  | q + 1 => by
    rw [a_minG]
    have ih := minG_le (g := g) hp q
    split
    · rw [(minS_acc (fun k => (hp.2.1 q k).2) ih (cpt C q)).1]
      split
      · exact (minS_acc (fun k => (hp.2.1 q k).2) ih (cpt C q)).2
      · exact ih
    · exact ih
theorem c_stopL {K : Int32 → Mm → Prop} {s k g : Nat} {v : Int64} (hW : WC C) (h : CR B M L C D) (hs : s < cn C) (h0 : ckd C s = 0) (hk4 : k < 4) (hgs : cgr C s = some g) (hg : g < 4) (hv : csp C g = some v) (hp : PB D) (hK : K (bI (decide (plusF (a_minG C D g (cn C)) v < dpr D s k))) M) : ∀ (r q : Nat), q + r = cn C → lp_X1_isStopped_29 (L 0 1) K (r + 1) (some (L 3 s)) (nI k) (a_minG C D g q) (nI q) M := by
  intro r
  have h12 := hW.1
  obtain ⟨g1, g2, g3, g4, g5, g6, g7, ⟨g8, g9⟩, ⟨g10, g11⟩, -⟩ := h.2.1.2.2.1
  obtain ⟨c1, c2, c3, c4, c5, c6, c7, c8, c9, e1, e2, e3, e4, -⟩ := h.2.1.2.2.2.2.2.1 s hs h0
  rw [hgs] at c5
  have c5 : mI M 323 (L 3 s) = nI g := c5
  have hB := isA_of (t := 2) e3 (by decide) (by decide)
  have hSA := isA_of (t := 4) g8 (by decide) (by decide)
  have hSP := isA_of (t := 2) g10 (by decide) (by decide)
  induction r with
  | zero =>
    intro q hq
    have e : q = cn C := by omega
    subst e
    have p2 := (h.2.2.2.2.2.1 s k hs h0 hk4).2
    have sp := (h.2.1.2.2.2.2.2.2.2.2.2 g hg).1
    rw [hv] at sp
    rw [lp_X1_isStopped_29]
    simp (disch := omega) only [g1, g5, g7, g11, c1, c5, c7, e4, hB, hSP, n_le, Nat.le_refl, n_in, n_clamp, p2, sp, Option.getD_some, e_tog, bk_X1_isStopped_111, Option.some.injEq, exists_eq_left', not_true, false_implies, forall_const, true_and, and_true]
    refine ⟨fun z => ⟨Or.inl rfl, ?_⟩, fun z => ⟨Or.inr rfl, ?_⟩⟩
    · simpa [bI, Int64.not_lt.mpr z] using hK
    · simpa [bI, Int64.not_le.mp z] using hK
  | succ r ih =>
    intro q hq
    have hqn : q < cn C := by omega
    obtain ⟨w1, w2, w3, w4, w5, w6, w7, w8, w9, -⟩ := hW.2.2.2 q hqn
    obtain ⟨s1, s2, s3, s4, s5, s6, s7, s8, s9, s10, s11, s12, s13⟩ := h.2.1.2.2.2.1 q hqn
    have nx := ih (q + 1) (by omega)
    rw [a_minG] at nx
    rw [lp_X1_isStopped_29]
    simp (disch := omega) only [g1, g4, g7, g9, hSA, n_le, show ¬ cn C ≤ q by omega, n_in, n_clamp, na1, s1, s2, s11, c1, c5, bk_X1_isStopped_77, Option.some.injEq, exists_eq_left', not_false_eq_true, false_implies, forall_const, true_and, and_true]
    by_cases k0 : ckd C q = 0
    · obtain ⟨x1, x2, x3, x4, x5, -⟩ := h.2.1.2.2.2.2.2.1 q hqn k0
      rw [if_pos k0]
      refine ⟨fun z => (by cases z), fun a ha => ?_⟩
      cases ha
      have e9 := oI_eq (cgr C q) w9 hg
      simp only [x1, x5, e9, true_and]
      refine ⟨fun z => ?_, fun z => ?_⟩
      · rw [if_neg (fun y => z y.2)] at nx; exact nx
      · rw [if_pos ⟨k0, z⟩, (minS_acc (fun k => (hp.2.1 q k).2) (minG_le (C := C) (g := g) hp q) (cpt C q)).1] at nx
        exact ⟨cpt C q + 1, c_least hW h hqn k0 hp nx (cpt C q) 0 (Nat.zero_add _)⟩
    · rw [if_neg k0]
      rw [if_neg (fun y => k0 y.1)] at nx
      exact ⟨fun _ => nx, fun a ha => by cases ha⟩
theorem c_isStopped {K : Int32 → Mm → Prop} {s k : Nat} (hW : WC C) (h : CR B M L C D) (hs : s < cn C) (h0 : ckd C s = 0) (hk4 : k < 4) (hp : PB D) (hK : K (bI (a_stop C D s k)) M) : wp_X1_isStopped M (L 0 1) (some (L 3 s)) (nI k) K := by
  have h12 := hW.1
  obtain ⟨w1, w2, w3, w4, w5, w6, w7, w8, w9, -⟩ := hW.2.2.2 s hs
  obtain ⟨g1, g2, g3, g4, g5, g6, g7, ⟨g8, g9⟩, ⟨g10, g11⟩, -⟩ := h.2.1.2.2.1
  obtain ⟨c1, c2, c3, c4, c5, c6, c7, c8, c9, e1, e2, e3, e4, -⟩ := h.2.1.2.2.2.2.2.1 s hs h0
  have hA := isA_of (t := 1) e1 (by decide) (by decide)
  have hSP := isA_of (t := 2) g10 (by decide) (by decide)
  have p1 := (h.2.2.2.2.1 s k hs h0 hk4).2
  have hb := hp.1 s k
  unfold a_stop at hK
  simp (disch := omega) only [wp_X1_isStopped, bk_X1_isStopped_20, c1, c5, c6, e2, hA, n_in, n_clamp, p1, na2, g1, Option.some.injEq, exists_eq_left', true_and]
  refine ⟨fun z => by simpa [z, bI] using hK, fun z => ?_⟩
  have fal : (¬ ∃ g v, cgr C s = some g ∧ csp C g = some v) → K 0 M := fun q => by
    cases hg : cgr C s with
    | none => rw [hg] at hK; simpa [z, bI] using hK
    | some g =>
      cases hv : csp C g with
      | none =>
        rw [hg] at hK
        dsimp only at hK
        rw [hv] at hK
        simpa [z, bI] using hK
      | some v => exact absurd ⟨g, v, hg, hv⟩ q
  have done : ∀ b : Int32, (b = 0 → ¬ ∃ g v, cgr C s = some g ∧ csp C g = some v) → (¬ b = 0 → ∃ g v, cgr C s = some g ∧ csp C g = some v) → ((¬ b = 0 → ∃ kk, lp_X1_isStopped_29 (L 0 1) K kk (some (L 3 s)) (nI k) 9000000000000000000 0 M) ∧ (b = 0 → K 0 M)) := fun b q1 q2 => by
    refine ⟨fun y => ?_, fun y => fal (q1 y)⟩
    obtain ⟨g, v, hg, hv⟩ := q2 y
    rw [hg] at hK
    dsimp only at hK
    rw [hv] at hK
    exact ⟨cn C + 1, c_stopL hW h hs h0 hk4 hg (w9 g hg) hv hp (by simpa [z] using hK) (cn C) 0 (Nat.zero_add _)⟩
  unfold wp_X1_isAligned bk_X1_isAligned_30 bk_X1_isAligned_31
  rw [oI_lt0 _ w9]
  refine ⟨fun y => ⟨Or.inl rfl, done 0 (fun _ ⟨g, v, hg, hv⟩ => by rw [y] at hg; cases hg) (fun q => absurd rfl q)⟩, fun y => ?_⟩
  cases hg : cgr C s with
  | none => exact absurd hg y
  | some g =>
    have hg4 := w9 g hg
    obtain ⟨sp1, sp2⟩ := h.2.1.2.2.2.2.2.2.2.2.2 g hg4
    simp (disch := omega) only [oI, g1, g5, g11, hSP, n_le, n_in, n_clamp, show ¬ 4 ≤ g by omega, sp1, Option.some.injEq, exists_eq_left', not_false_eq_true, false_implies, forall_const, true_and]
    refine ⟨fun x => ⟨Or.inl rfl, ?_⟩, fun x => ⟨Or.inr rfl, ?_⟩⟩
    · have := done 0 (fun _ ⟨g', v, hg', hv⟩ => by
        rw [hg] at hg'; cases hg'
        rw [hv] at x
        exact sp2 v hv x) (fun q => absurd rfl q)
      simpa using this
    · have := done 1 (fun q => absurd q (by decide)) (fun _ => by
        cases hv : csp C g with
        | none => rw [hv] at x; exact absurd rfl x
        | some v => exact ⟨g, v, hg, hv⟩)
      simpa using this
end K3
