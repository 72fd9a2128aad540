/-! the text's reading on an empty tape -/
theorem t_X8_init {M : Mm} {k : Nat} {K : Mm → Prop} (hk : mK M k = 9) (hK : ∀ M1 a b c, (∀ d, mK M d ≠ 0 → d ≠ k → Same M M1 d) → mK M1 k = 9 → (∀ f, mI M1 f k = mI M f k) → mR M1 512 k = some a → mR M1 513 k = some b → mR M1 514 k = some c → mK M a = 0 → mK M b = 0 → mK M c = 0 → mK M1 a = 73 ∧ aN M1 a = 60 → mK M1 b = 82 ∧ aN M1 b = 60 → mK M1 c = 91 ∧ aN M1 c = 60 → K M1) : wp_X8_init M k K := by
  unfold wp_X8_init
  intro q1 h1
  have x1 : k ≠ q1 := fun e => by rw [e, h1] at hk; cases hk
  refine ⟨by simp [ms, x1, hk], ?_⟩
  intro q2 h2
  simp only [ms] at h2
  obtain ⟨n21, h2⟩ := f0 h2 (by decide)
  have x2 : k ≠ q2 := fun e => by rw [e, h2] at hk; cases hk
  refine ⟨by simp [ms, x1, x2, hk], ?_⟩
  intro q3 h3
  simp only [ms] at h3
  obtain ⟨n32, h3⟩ := f0 h3 (by decide)
  obtain ⟨n31, h3⟩ := f0 h3 (by decide)
  have x3 : k ≠ q3 := fun e => by rw [e, h3] at hk; cases hk
  refine ⟨by simp [ms, x1, x2, x3, hk], ?_⟩
  refine hK _ q1 q2 q3 (fun d hd hdk => ?_) ?_ ?_ ?_ ?_ ?_ h1 h2 h3 ?_ ?_ ?_
  · have g : ∀ q, mK M q = 0 → d ≠ q := fun q h e => hd (e ▸ h)
    exact ⟨by simp [ms, g _ h1, g _ h2, g _ h3], fun f => by simp [ms, hdk], by simp [ms, g _ h1, g _ h2, g _ h3], fun j => by simp [ms, g _ h1, g _ h2, g _ h3]⟩
  all_goals simp [ms, x1, x2, x3, hk, n21, n31, n32, n21.symm, n31.symm, n32.symm]
theorem t_X1_init {M : Mm} {g : Nat} {p1 p2 : Option Nat} {K : Mm → Prop} (hg : mK M g = 2) (hK : ∀ M1 sa sp tk a b c, (∀ d, mK M d ≠ 0 → d ≠ g → Same M M1 d) → mK M1 g = 2 → (∀ f, mI M1 f g = mI M f g) → mR M1 64 g = p1 → mR M1 65 g = p2 → mR M1 66 g = some sa → mR M1 67 g = some sp → mR M1 68 g = some tk → (mK M sa = 0 ∧ mK M sp = 0 ∧ mK M tk = 0 ∧ mK M a = 0 ∧ mK M b = 0 ∧ mK M c = 0) → (mK M1 sa = 412 ∧ aN M1 sa = 12) → (mK M1 sp = 418 ∧ aN M1 sp = 4 ∧ ∀ j, j < 4 → aJ M1 sp j = -1) → (mK M1 tk = 9 ∧ mI M1 515 tk = 0 ∧ mR M1 512 tk = some a ∧ mR M1 513 tk = some b ∧ mR M1 514 tk = some c) → (mK M1 a = 73 ∧ aN M1 a = 60) → (mK M1 b = 82 ∧ aN M1 b = 60) → (mK M1 c = 91 ∧ aN M1 c = 60) → K M1) : wp_X1_init M g p1 p2 K := by
  unfold wp_X1_init
  refine ⟨hg, ?_⟩
  intro sa h1
  simp only [ms] at h1
  have x1 : g ≠ sa := fun e => by rw [e, h1] at hg; cases hg
  refine ⟨by simp [ms, x1, hg], ?_⟩
  intro sp h2
  simp only [ms] at h2
  obtain ⟨n21, h2⟩ := f0 h2 (by decide)
  have x2 : g ≠ sp := fun e => by rw [e, h2] at hg; cases hg
  refine ⟨by simp [ms, x1, x2, hg], 5, ?_⟩
  obtain ⟨N, hN⟩ : ∃ N, N = sR (na (sR (na (sR (sR M 64 g p1) 65 g p2) sa 412 12) 66 g (some sa)) sp 418 4) 67 g (some sp) := ⟨_, rfl⟩
  rw [← hN]
  have k1 : mK N g = 2 := by rw [hN]; simp [ms, x1, x2, hg]
  have k2 : mR N 67 g = some sp := by rw [hN]; simp [ms]
  have k3 : mK N sp = 418 := by rw [hN]; simp [ms]
  have k4 : aN N sp = 4 := by rw [hN]; simp [ms]
  have k5 : isA N sp 2 := by simp [isA, k3]
  have v0 : vp_in 0 4 := by unfold vp_in; decide
  have v1 : vp_in 1 4 := by unfold vp_in; decide
  have v2 : vp_in 2 4 := by unfold vp_in; decide
  have v3 : vp_in 3 4 := by unfold vp_in; decide
  have k6 : ∀ j v, isA (tJ N sp j v) sp 2 := fun j v => k5
  have k7 : ∀ j v i w, isA (tJ (tJ N sp j v) sp i w) sp 2 := fun j v i w => k5
  have k8 : ∀ j v i w l u, isA (tJ (tJ (tJ N sp j v) sp i w) sp l u) sp 2 := fun j v i w l u => k5
  simp only [lp_X1_init_32]
  refine ⟨fun h => absurd h (by decide), fun _ => ⟨k1, sp, k2, k5, by rw [k4]; exact v0, ?_⟩⟩
  refine ⟨fun h => absurd h (by decide), fun _ => ⟨k1, sp, k2, k6 _ _, by simp only [ms]; rw [k4]; exact v1, ?_⟩⟩
  refine ⟨fun h => absurd h (by decide), fun _ => ⟨k1, sp, k2, k7 _ _ _ _, by simp only [ms]; rw [k4]; exact v2, ?_⟩⟩
  refine ⟨fun h => absurd h (by decide), fun _ => ⟨k1, sp, k2, k8 _ _ _ _ _ _, by simp only [ms]; rw [k4]; exact v3, ?_⟩⟩
  refine ⟨fun _ => ?_, fun h => absurd (show (4 : Int32) ≤ 0 + 1 + 1 + 1 + 1 by decide) h⟩
  obtain ⟨N4, hN4⟩ : ∃ N4, N4 = tJ (tJ (tJ (tJ N sp (0 : Int32).toNatClampNeg (-1)) sp ((0 : Int32) + 1).toNatClampNeg (-1)) sp ((0 : Int32) + 1 + 1).toNatClampNeg (-1)) sp ((0 : Int32) + 1 + 1 + 1).toNatClampNeg (-1) := ⟨_, rfl⟩
  rw [← hN4]
  have e0 : (0 : Int32).toNatClampNeg = 0 := by decide
  have e1 : ((0 : Int32) + 1).toNatClampNeg = 1 := by decide
  have e2 : ((0 : Int32) + 1 + 1).toNatClampNeg = 2 := by decide
  have e3 : ((0 : Int32) + 1 + 1 + 1).toNatClampNeg = 3 := by decide
  rw [e0, e1, e2, e3] at hN4
  have s4 : ∀ d, mK M d ≠ 0 → d ≠ g → Same M N4 d := fun d hd hdg => by
    have g1 : d ≠ sa := fun e => hd (e ▸ h1)
    have g2 : d ≠ sp := fun e => hd (e ▸ h2)
    rw [hN4, hN]
    exact ⟨by simp [ms, g1, g2], fun f => by simp [ms, hdg], by simp [ms, g1, g2], fun j => by simp [ms, g1, g2]⟩
  have j1 : mK N4 g = 2 := by rw [hN4]; exact k1
  have j2 : (∀ f, mI N4 f g = mI M f g) ∧ mR N4 64 g = p1 ∧ mR N4 65 g = p2 ∧ mR N4 66 g = some sa ∧ mR N4 67 g = some sp := by rw [hN4, hN]; simp [ms]
  have j3 : mK N4 sa = 412 ∧ aN N4 sa = 12 := by rw [hN4, hN]; simp [ms, n21.symm]
  have j4 : mK N4 sp = 418 ∧ aN N4 sp = 4 := by rw [hN4]; exact ⟨k3, k4⟩
  have j5 : ∀ j, j < 4 → aJ N4 sp j = -1 := fun j hj => by
    rw [hN4]
    simp only [ms, if_true]
    rcases (show j = 0 ∨ j = 1 ∨ j = 2 ∨ j = 3 by omega) with rfl | rfl | rfl | rfl <;> simp
  have j6 : ∀ d, mK N4 d = 0 → mK M d = 0 := fun d h => by
    refine Classical.byContradiction fun hd => ?_
    by_cases e : d = g
    · rw [e, j1] at h; cases h
    · rw [(s4 d hd e).1] at h; exact hd h
  clear hN4 hN
  intro tk h3
  have h3M := j6 tk h3
  have y0 : g ≠ tk := fun e => by rw [e, h3] at j1; cases j1
  have y1 : sa ≠ tk := fun e => by rw [e, h3] at j3; cases j3.1
  have y2 : sp ≠ tk := fun e => by rw [e, h3] at j4; cases j4.1
  refine t_X8_init (by simp [ms]) (fun M5 a b c s5 q1 q2 q3 q4 q5 ha hb hc q6 q7 q8 => ?_)
  have kn : ∀ d, mK N4 d ≠ 0 → Same N4 M5 d := fun d hd => by
    have hne : d ≠ tk := fun e => hd (e ▸ h3)
    have t1 := same_nw (k := 9) h3 d hd
    have t2 := s5 d (by rw [t1.1]; exact hd) hne
    exact ⟨t2.1.trans t1.1, fun f => ⟨(t2.2.1 f).1.trans (t1.2.1 f).1, (t2.2.1 f).2.1.trans (t1.2.1 f).2.1, (t2.2.1 f).2.2.trans (t1.2.1 f).2.2⟩, t2.2.2.1.trans t1.2.2.1, fun j => ⟨(t2.2.2.2 j).1.trans (t1.2.2.2 j).1, (t2.2.2.2 j).2.1.trans (t1.2.2.2 j).2.1, (t2.2.2.2 j).2.2.trans (t1.2.2.2 j).2.2⟩⟩
  have G := kn g (by rw [j1]; decide)
  have A := kn sa (by rw [j3.1]; decide)
  have B := kn sp (by rw [j4.1]; decide)
  simp only [ms] at ha hb hc
  obtain ⟨na1, ha⟩ := f0 ha (by decide)
  obtain ⟨nb1, hb⟩ := f0 hb (by decide)
  obtain ⟨nc1, hc⟩ := f0 hc (by decide)
  refine ⟨G.1.trans j1, ?_⟩
  refine hK _ sa sp tk a b c (fun d hd hdg => ?_) ?_ ?_ ?_ ?_ ?_ ?_ ?_ ⟨h1, h2, h3M, j6 a ha, j6 b hb, j6 c hc⟩ ?_ ?_ ?_ ?_ ?_ ?_
  · have t1 := s4 d hd hdg
    have t2 := kn d (by rw [t1.1]; exact hd)
    exact ⟨by simp only [ms]; exact t2.1.trans t1.1, fun f => by simp only [ms, hdg, if_false]; exact ⟨(t2.2.1 f).1.trans (t1.2.1 f).1, (t2.2.1 f).2.1.trans (t1.2.1 f).2.1, (t2.2.1 f).2.2.trans (t1.2.1 f).2.2⟩, by simp only [ms]; exact t2.2.2.1.trans t1.2.2.1, fun j => by simp only [ms]; exact ⟨(t2.2.2.2 j).1.trans (t1.2.2.2 j).1, (t2.2.2.2 j).2.1.trans (t1.2.2.2 j).2.1, (t2.2.2.2 j).2.2.trans (t1.2.2.2 j).2.2⟩⟩
  · simp [ms, G.1, j1]
  · intro f; simp [ms, (G.2.1 f).1, j2.1 f]
  · simp [ms, (G.2.1 64).2.2, j2.2.1]
  · simp [ms, (G.2.1 65).2.2, j2.2.2.1]
  · simp [ms, (G.2.1 66).2.2, j2.2.2.2.1]
  · simp [ms, (G.2.1 67).2.2, j2.2.2.2.2]
  · simp [ms]
  · simp [ms, A.1, A.2.2.1, j3]
  · refine ⟨by simp [ms, B.1, j4], by simp [ms, B.2.2.1, j4], fun j hj => by simp only [ms]; rw [(B.2.2.2 j).2.1]; exact j5 j hj⟩
  · refine ⟨by simp [ms, q1], by simp only [ms]; rw [q2]; simp [ms], by simp [ms, y0.symm, q3], by simp [ms, y0.symm, q4], by simp [ms, y0.symm, q5]⟩
  · simpa [ms] using q6
  · simpa [ms] using q7
  · simpa [ms] using q8
