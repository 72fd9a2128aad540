/-! the class makes joins, and a graph -/
section CD
variable {M : Mm} {q : Nat}
theorem mna_step {Mi : Mm} {a r0 r1 kdo kdi f k : Nat} (g : GX [] [] M Mi) (hq : mK M q = 0) (kq : mK Mi q = k) (k0 : ¬ k = 0) (ha : mK Mi a = 0) (h0 : mK Mi r0 = 0) (h1 : mK Mi r1 = 0) (n0 : a ≠ r0) (n1 : a ≠ r1) (n2 : r0 ≠ r1) (hkd : ¬ kdo = 0) (hki : ¬ kdi = 0) : ∃ M1, M1 = sR (nm2 Mi a r0 r1 kdo kdi 6) f q (some a) ∧ GX [] [] M M1 ∧ (mK M a = 0 ∧ mK M r0 = 0 ∧ mK M r1 = 0) ∧ mK (nm2 Mi a r0 r1 kdo kdi 6) q = k ∧ mK M1 q = k ∧ mR M1 f q = some a ∧ (mK M1 a = kdo ∧ aN M1 a = 2) ∧ (aR M1 a 0 = some r0 ∧ aR M1 a 1 = some r1) ∧ (mK M1 r0 = kdi ∧ aN M1 r0 = 6 ∧ mK M1 r1 = kdi ∧ aN M1 r1 = 6) ∧ KPf f Mi M1 := by
  have q1 : ¬ q = a := fun e => k0 (by rw [← kq, e]; exact ha)
  have q2 : ¬ q = r0 := fun e => k0 (by rw [← kq, e]; exact h0)
  have q3 : ¬ q = r1 := fun e => k0 (by rw [← kq, e]; exact h1)
  have n0' : ¬ r0 = a := fun e => n0 e.symm
  have n1' : ¬ r1 = a := fun e => n1 e.symm
  have n2' : ¬ r1 = r0 := fun e => n2 e.symm
  have fr : ∀ x, mK Mi x = 0 → mK M x = 0 := fun x hx => Classical.byContradiction fun z => z (by rw [← (g x z).1]; exact hx)
  refine ⟨_, rfl, ?_, ⟨fr a ha, fr r0 h0, fr r1 h1⟩, by simp [nm2, ms, q1, q2, q3, kq], by simp [nm2, ms, q1, q2, q3, kq], by simp [ms], ⟨by simp [nm2, ms, n0, n1], by simp [nm2, ms, n0, n1]⟩, ⟨by simp [nm2, ms], by simp [nm2, ms]⟩, ⟨by simp [nm2, ms, n0', n2], by simp [nm2, ms, n0', n2], by simp [nm2, ms], by simp [nm2, ms]⟩, fun b hb => ?_⟩
  · refine GXsR (GXtR (GXtR (GXna (GXna (GXna g ha) ?_) ?_) (fr a ha)) (fr a ha)) (Or.inl hq)
    · simp [ms, n0', h0]
    · simp [ms, n1', n2', h1]
  · have b0 : ¬ b = a := fun e => hb (by rw [e]; exact ha)
    have b1 : ¬ b = r0 := fun e => hb (by rw [e]; exact h0)
    have b2 : ¬ b = r1 := fun e => hb (by rw [e]; exact h1)
    exact ⟨by simp [nm2, ms, b0, b1, b2], fun h => ⟨rfl, rfl⟩, fun h hh => by simp [nm2, ms, hh], by simp [nm2, ms, b0, b1, b2], fun j => ⟨by simp [nm2, ms, b0, b1, b2], by simp [nm2, ms, b0, b1, b2], by simp [nm2, ms, b0, b1, b2]⟩⟩
def two (a b : Nat) : Nat → Nat := fun k => if k = 0 then a else b
/-- a new join -/
def NJO (M : Mm) (q a9 a10 a11 a12 : Nat) (x y z : Nat → Nat) (f1 f2 : Option Nat) (fr to : Int64) : Prop := (mK M q = 3 ∧ mR M 128 q = f1 ∧ mR M 129 q = f2 ∧ mJ M 130 q = fr ∧ mJ M 131 q = to ∧ mR M 132 q = some a9 ∧ mR M 133 q = some a10 ∧ mR M 134 q = some a11 ∧ mR M 135 q = some a12 ∧ mK M a9 = 433 ∧ aN M a9 = 2 ∧ mK M a10 = 446 ∧ aN M a10 = 2 ∧ mK M a11 = 461 ∧ aN M a11 = 2 ∧ mK M a12 = 477 ∧ aN M a12 = 2 ∧ ∀ k, k < 2 → aR M a10 k = some (x k) ∧ aR M a11 k = some (y k) ∧ aR M a12 k = some (z k) ∧ mK M (x k) = 450 ∧ aN M (x k) = 6 ∧ mK M (y k) = 465 ∧ aN M (y k) = 6 ∧ mK M (z k) = 481 ∧ aN M (z k) = 6) ∧ ∀ k, k < 2 → aI M a9 k = 0
theorem c_newJO {K : Mm → Prop} {f1 f2 : Option Nat} {fr to : Int64} (hq : mK M q = 0) (hK : ∀ M1 a9 a10 a11 a12 x y z, mK M a9 = 0 → (∀ k, k < 2 → mK M (x k) = 0 ∧ mK M (y k) = 0 ∧ mK M (z k) = 0) → (x 0 ≠ x 1 ∧ y 0 ≠ y 1 ∧ z 0 ≠ z 1) → GX [] [] M M1 → NJO M1 q a9 a10 a11 a12 x y z f1 f2 fr to → K M1) : wp_X2_init (nw M q 3) q f1 f2 fr to K := by
  refine ⟨by simp [ms], ?_⟩
  have g0 : GX [] [] M (sJ (sJ (sR (sR (nw M q 3) 128 q f1) 129 q f2) 130 q fr) 131 q to) := GXsJ (GXsJ (GXsR (GXsR (GXnw GX.refl hq) (Or.inl hq)) (Or.inl hq)) (Or.inl hq)) (Or.inl hq)
  have k0 : mK (sJ (sJ (sR (sR (nw M q 3) 128 q f1) 129 q f2) 130 q fr) 131 q to) q = 3 := by simp [ms]
  have i0 : mR (sJ (sJ (sR (sR (nw M q 3) 128 q f1) 129 q f2) 130 q fr) 131 q to) 128 q = f1 ∧ mR (sJ (sJ (sR (sR (nw M q 3) 128 q f1) 129 q f2) 130 q fr) 131 q to) 129 q = f2 ∧ mJ (sJ (sJ (sR (sR (nw M q 3) 128 q f1) 129 q f2) 130 q fr) 131 q to) 130 q = fr ∧ mJ (sJ (sJ (sR (sR (nw M q 3) 128 q f1) 129 q f2) 130 q fr) 131 q to) 131 q = to := by
    refine ⟨?_, ?_, ?_, ?_⟩ <;> simp [ms]
  generalize sJ (sJ (sR (sR (nw M q 3) 128 q f1) 129 q f2) 130 q fr) 131 q to = M0 at g0 k0 i0
  intro a9 h9
  obtain ⟨M4, e4, g4, f4, p4, q4, r4, c4, l4, z4, K4⟩ := arr_step (n := 2) (f := 132) (kd := 433) g0 hq k0 (by decide) h9 (by decide)
  refine ⟨p4, ?_⟩
  rw [← e4]
  clear e4 p4
  intro a10 x0 x1 h1 h2 h3 n1 n2 n3
  obtain ⟨M5, e5, g5, f5, p5, q5, r5, c5, l5, z5, K5⟩ := mna_step (f := 133) (kdo := 446) (kdi := 450) g4 hq q4 (by decide) h1 h2 h3 n1 n2 n3 (by decide) (by decide)
  refine ⟨p5, ?_⟩
  rw [← e5]
  clear e5 p5 h1 h2 h3
  intro a11 y0 y1 h1 h2 h3 n4 n5 n6
  obtain ⟨M6, e6, g6, f6, p6, q6, r6, c6, l6, z6, K6⟩ := mna_step (f := 134) (kdo := 461) (kdi := 465) g5 hq q5 (by decide) h1 h2 h3 n4 n5 n6 (by decide) (by decide)
  refine ⟨p6, ?_⟩
  rw [← e6]
  clear e6 p6 h1 h2 h3
  intro a12 w0 w1 h1 h2 h3 n7 n8 n9
  obtain ⟨M7, e7, g7, f7, p7, q7, r7, c7, l7, z7, K7⟩ := mna_step (f := 135) (kdo := 477) (kdi := 481) g6 hq q6 (by decide) h1 h2 h3 n7 n8 n9 (by decide) (by decide)
  refine ⟨p7, ?_⟩
  rw [← e7]
  clear e7 p7 h1 h2 h3
  have nz : ∀ {A : Mm} {x k : Nat}, mK A x = k → ¬ k = 0 → ¬ mK A x = 0 := fun h h0 => by rw [h]; exact h0
  have x4 := K5 a9 (nz c4 (by decide))
  have x4' := K6 a9 (by rw [x4.1]; exact nz c4 (by decide))
  have x4'' := K7 a9 (by rw [x4'.1, x4.1]; exact nz c4 (by decide))
  have x5 := K6 a10 (nz c5.1 (by decide))
  have x5' := K7 a10 (by rw [x5.1]; exact nz c5.1 (by decide))
  have u0 := K6 x0 (nz z5.1 (by decide))
  have u0' := K7 x0 (by rw [u0.1]; exact nz z5.1 (by decide))
  have u1 := K6 x1 (nz z5.2.2.1 (by decide))
  have u1' := K7 x1 (by rw [u1.1]; exact nz z5.2.2.1 (by decide))
  have x6 := K7 a11 (nz c6.1 (by decide))
  have v0 := K7 y0 (nz z6.1 (by decide))
  have v1 := K7 y1 (nz z6.2.2.1 (by decide))
  have y0' := K4 q (nz k0 (by decide))
  have y4 := K5 q (nz q4 (by decide))
  have y5 := K6 q (nz q5 (by decide))
  have y6 := K7 q (nz q6 (by decide))
  refine hK M7 a9 a10 a11 a12 (two x0 x1) (two y0 y1) (two w0 w1) f4 (fun k hk => ?_) ⟨n3, n6, n9⟩ g7 ⟨⟨q7, ?_, ?_, ?_, ?_, ?_, ?_, ?_, r7, ?_, ?_, ?_, ?_, ?_, ?_, c7.1, c7.2, fun k hk => ?_⟩, fun k hk => ?_⟩
  · rcases (show k = 0 ∨ k = 1 by omega) with e | e <;> subst e
    · exact ⟨f5.2.1, f6.2.1, f7.2.1⟩
    · exact ⟨f5.2.2, f6.2.2, f7.2.2⟩
  · rw [y6.2.2.1 128 (by decide), y5.2.2.1 128 (by decide), y4.2.2.1 128 (by decide), y0'.2.2.1 128 (by decide)]; exact i0.1
  · rw [y6.2.2.1 129 (by decide), y5.2.2.1 129 (by decide), y4.2.2.1 129 (by decide), y0'.2.2.1 129 (by decide)]; exact i0.2.1
  · rw [(y6.2.1 130).2, (y5.2.1 130).2, (y4.2.1 130).2, (y0'.2.1 130).2]; exact i0.2.2.1
  · rw [(y6.2.1 131).2, (y5.2.1 131).2, (y4.2.1 131).2, (y0'.2.1 131).2]; exact i0.2.2.2
  · rw [y6.2.2.1 132 (by decide), y5.2.2.1 132 (by decide), y4.2.2.1 132 (by decide)]; exact r4
  · rw [y6.2.2.1 133 (by decide), y5.2.2.1 133 (by decide)]; exact r5
  · rw [y6.2.2.1 134 (by decide)]; exact r6
  · rw [x4''.1, x4'.1, x4.1]; exact c4
  · rw [x4''.2.2.2.1, x4'.2.2.2.1, x4.2.2.2.1]; exact l4
  · rw [x5'.1, x5.1]; exact c5.1
  · rw [x5'.2.2.2.1, x5.2.2.2.1]; exact c5.2
  · rw [x6.1]; exact c6.1
  · rw [x6.2.2.2.1]; exact c6.2
  · rcases (show k = 0 ∨ k = 1 by omega) with e | e <;> subst e
    · refine ⟨?_, ?_, l7.1, ?_, ?_, ?_, ?_, z7.1, z7.2.1⟩
      · rw [(x5'.2.2.2.2 0).2.2, (x5.2.2.2.2 0).2.2]; exact l5.1
      · rw [(x6.2.2.2.2 0).2.2]; exact l6.1
      · show mK M7 x0 = 450; rw [u0'.1, u0.1]; exact z5.1
      · show aN M7 x0 = 6; rw [u0'.2.2.2.1, u0.2.2.2.1]; exact z5.2.1
      · show mK M7 y0 = 465; rw [v0.1]; exact z6.1
      · show aN M7 y0 = 6; rw [v0.2.2.2.1]; exact z6.2.1
    · refine ⟨?_, ?_, l7.2, ?_, ?_, ?_, ?_, z7.2.2.1, z7.2.2.2⟩
      · rw [(x5'.2.2.2.2 1).2.2, (x5.2.2.2.2 1).2.2]; exact l5.2
      · rw [(x6.2.2.2.2 1).2.2]; exact l6.2
      · show mK M7 x1 = 450; rw [u1'.1, u1.1]; exact z5.2.2.1
      · show aN M7 x1 = 6; rw [u1'.2.2.2.1, u1.2.2.2.1]; exact z5.2.2.2
      · show mK M7 y1 = 465; rw [v1.1]; exact z6.2.2.1
      · show aN M7 y1 = 6; rw [v1.2.2.2.1]; exact z6.2.2.2
  · rw [(x4''.2.2.2.2 k).1, (x4'.2.2.2.2 k).1, (x4.2.2.2.2 k).1]; exact (z4 k).1
/-- new tickets -/
theorem c_newTI {K : Mm → Prop} (hq : mK M q = 0) (hK : ∀ M1 a5 a6 a7, GX [] [] M M1 → (mK M1 q = 9 ∧ mR M1 512 q = some a5 ∧ mR M1 513 q = some a6 ∧ mR M1 514 q = some a7 ∧ mK M1 a5 = 73 ∧ aN M1 a5 = 60 ∧ mK M1 a6 = 82 ∧ aN M1 a6 = 60 ∧ mK M1 a7 = 91 ∧ aN M1 a7 = 60) ∧ mI M1 515 q = 0 → K M1) : wp_X8_init (nw M q 9) q K := by
  intro a4 h4
  simp only [ms] at h4
  obtain ⟨n4, h4⟩ := f0 h4 (by decide)
  have m4 : ¬ q = a4 := fun e => n4 e.symm
  refine ⟨by simp [ms, m4], fun a5 h5 => ?_⟩
  simp only [ms] at h5
  obtain ⟨n54, h5⟩ := f0 h5 (by decide)
  obtain ⟨n5, h5⟩ := f0 h5 (by decide)
  have m5 : ¬ q = a5 := fun e => n5 e.symm
  have m54 : ¬ a4 = a5 := fun e => n54 e.symm
  refine ⟨by simp [ms, m4, m5], fun a6 h6 => ?_⟩
  simp only [ms] at h6
  obtain ⟨n65, h6⟩ := f0 h6 (by decide)
  obtain ⟨n64, h6⟩ := f0 h6 (by decide)
  obtain ⟨n6, h6⟩ := f0 h6 (by decide)
  have m6 : ¬ q = a6 := fun e => n6 e.symm
  have m64 : ¬ a4 = a6 := fun e => n64 e.symm
  have m65 : ¬ a5 = a6 := fun e => n65 e.symm
  refine ⟨by simp [ms, m4, m5, m6], hK _ a4 a5 a6 ?_ ⟨⟨?_, ?_, ?_, ?_, ?_, ?_, ?_, ?_, ?_, ?_⟩, ?_⟩⟩
  · refine GXsR (GXna (GXsR (GXna (GXsR (GXna (GXnw GX.refl hq) ?_) (Or.inl hq)) ?_) (Or.inl hq)) ?_) (Or.inl hq)
    · simp [ms, n4, h4]
    · simp [ms, n5, n54, h5]
    · simp [ms, n6, n64, n65, h6]
  all_goals simp [ms, n4, n5, n54, n6, n64, n65, m4, m5, m6, m54, m64, m65]
/-- a new graph -/
def NGR (M : Mm) (q a2 a3 tk a5 a6 a7 : Nat) (o l : Option Nat) : Prop := (mK M q = 2 ∧ mR M 64 q = o ∧ mR M 65 q = l ∧ mR M 66 q = some a2 ∧ mR M 67 q = some a3 ∧ mR M 68 q = some tk ∧ mI M 69 q = 0 ∧ (mK M a2 = 412 ∧ aN M a2 = 12) ∧ (mK M a3 = 418 ∧ aN M a3 = 4) ∧ (mK M tk = 9 ∧ mR M 512 tk = some a5 ∧ mR M 513 tk = some a6 ∧ mR M 514 tk = some a7 ∧ mK M a5 = 73 ∧ aN M a5 = 60 ∧ mK M a6 = 82 ∧ aN M a6 = 60 ∧ mK M a7 = 91 ∧ aN M a7 = 60)) ∧ mI M 70 q = 0 ∧ mI M 71 q = 0 ∧ mI M 515 tk = 0 ∧ ∀ g, g < 4 → aJ M a3 g = -1
theorem c_newGR {K : Mm → Prop} {o l : Option Nat} (hq : mK M q = 0) (hK : ∀ M1 a2 a3 tk a5 a6 a7, mK M a2 = 0 → mK M a3 = 0 → GX [] [] M M1 → NGR M1 q a2 a3 tk a5 a6 a7 o l → K M1) : wp_X1_init (nw M q 2) q o l K := by
  refine ⟨by simp [ms], ?_⟩
  have g0 : GX [] [] M (sR (sR (nw M q 2) 64 q o) 65 q l) := GXsR (GXsR (GXnw GX.refl hq) (Or.inl hq)) (Or.inl hq)
  have k0 : mK (sR (sR (nw M q 2) 64 q o) 65 q l) q = 2 := by simp [ms]
  have i0 : mR (sR (sR (nw M q 2) 64 q o) 65 q l) 64 q = o ∧ mR (sR (sR (nw M q 2) 64 q o) 65 q l) 65 q = l ∧ mI (sR (sR (nw M q 2) 64 q o) 65 q l) 69 q = 0 ∧ mI (sR (sR (nw M q 2) 64 q o) 65 q l) 70 q = 0 ∧ mI (sR (sR (nw M q 2) 64 q o) 65 q l) 71 q = 0 := by
    refine ⟨?_, ?_, ?_, ?_, ?_⟩ <;> simp [ms]
  generalize sR (sR (nw M q 2) 64 q o) 65 q l = M0 at g0 k0 i0
  intro a2 h2
  obtain ⟨M4, e4, g4, f4, p4, q4, r4, c4, l4, z4, K4⟩ := arr_step (n := 12) (f := 66) (kd := 412) g0 hq k0 (by decide) h2 (by decide)
  refine ⟨p4, ?_⟩
  rw [← e4]
  clear e4 p4
  intro a3 h3
  obtain ⟨M5, e5, g5, f5, p5, q5, r5, c5, l5, z5, K5⟩ := arr_step (n := 4) (f := 67) (kd := 418) g4 hq q4 (by decide) h3 (by decide)
  refine ⟨p5, ?_⟩
  rw [← e5]
  clear e5 p5
  have nz : ∀ {A : Mm} {x k : Nat}, mK A x = k → ¬ k = 0 → ¬ mK A x = 0 := fun h h0 => by rw [h]; exact h0
  have x4 := K5 a2 (nz c4 (by decide))
  have y0 := K4 q (nz k0 (by decide))
  have y4 := K5 q (nz q4 (by decide))
  have b : (mK M5 q = 2 ∧ mR M5 64 q = o ∧ mR M5 65 q = l ∧ mR M5 66 q = some a2 ∧ mR M5 67 q = some a3) ∧ (mI M5 69 q = 0 ∧ mI M5 70 q = 0 ∧ mI M5 71 q = 0) ∧ (mK M5 a2 = 412 ∧ aN M5 a2 = 12) ∧ (mK M5 a3 = 418 ∧ aN M5 a3 = 4) := by
    refine ⟨⟨q5, ?_, ?_, ?_, r5⟩, ⟨?_, ?_, ?_⟩, ⟨?_, ?_⟩, c5, l5⟩
    · rw [y4.2.2.1 64 (by decide), y0.2.2.1 64 (by decide)]; exact i0.1
    · rw [y4.2.2.1 65 (by decide), y0.2.2.1 65 (by decide)]; exact i0.2.1
    · rw [y4.2.2.1 66 (by decide)]; exact r4
    · rw [(y4.2.1 69).1, (y0.2.1 69).1]; exact i0.2.2.1
    · rw [(y4.2.1 70).1, (y0.2.1 70).1]; exact i0.2.2.2.1
    · rw [(y4.2.1 71).1, (y0.2.1 71).1]; exact i0.2.2.2.2
    · rw [x4.1]; exact c4
    · rw [x4.2.2.2.1]; exact l4
  have iA : isA M5 a3 2 := ⟨by rw [c5]; decide, by rw [c5]⟩
  have st : ∀ (i : Nat) (Mx : Mm) (n : Nat), i < 4 → mK Mx = mK M5 → mR Mx = mR M5 → aN Mx = aN M5 → lp_X1_init_32 q K n (nI (i + 1)) (tJ Mx a3 i (-1)) → lp_X1_init_32 q K (n + 1) (nI i) Mx := fun i Mx n hi e1 e2 e3 hn => by
    rw [lp_X1_init_32]
    have iB : isA Mx a3 2 := by unfold isA at iA ⊢; rw [e1]; exact iA
    refine ⟨fun z => ?_, fun _ => ⟨by rw [e1]; exact q5, a3, by rw [e2]; exact r5, iB, by rw [e3, l5]; exact n_in hi (by decide), ?_⟩⟩
    · have z2 : nI 4 ≤ nI i := z
      rw [n_le (by omega) (by omega)] at z2; omega
    · rw [n_clamp (by omega), show nI i + 1 = nI (i + 1) by rw [show (1 : Int32) = nI 1 from rfl, n_add]]
      exact hn
  refine ⟨5, st 0 M5 4 (by decide) rfl rfl rfl (st 1 _ 3 (by decide) rfl rfl rfl (st 2 _ 2 (by decide) rfl rfl rfl (st 3 _ 1 (by decide) rfl rfl rfl ?_)))⟩
  have g9 : GX [] [] M (tJ (tJ (tJ (tJ M5 a3 0 (-1)) a3 1 (-1)) a3 2 (-1)) a3 3 (-1)) := GXtJ (GXtJ (GXtJ (GXtJ g5 f5) f5) f5) f5
  have b9 : (mK (tJ (tJ (tJ (tJ M5 a3 0 (-1)) a3 1 (-1)) a3 2 (-1)) a3 3 (-1)) q = 2 ∧ mR (tJ (tJ (tJ (tJ M5 a3 0 (-1)) a3 1 (-1)) a3 2 (-1)) a3 3 (-1)) 64 q = o ∧ mR (tJ (tJ (tJ (tJ M5 a3 0 (-1)) a3 1 (-1)) a3 2 (-1)) a3 3 (-1)) 65 q = l ∧ mR (tJ (tJ (tJ (tJ M5 a3 0 (-1)) a3 1 (-1)) a3 2 (-1)) a3 3 (-1)) 66 q = some a2 ∧ mR (tJ (tJ (tJ (tJ M5 a3 0 (-1)) a3 1 (-1)) a3 2 (-1)) a3 3 (-1)) 67 q = some a3) ∧ (mI (tJ (tJ (tJ (tJ M5 a3 0 (-1)) a3 1 (-1)) a3 2 (-1)) a3 3 (-1)) 69 q = 0 ∧ mI (tJ (tJ (tJ (tJ M5 a3 0 (-1)) a3 1 (-1)) a3 2 (-1)) a3 3 (-1)) 70 q = 0 ∧ mI (tJ (tJ (tJ (tJ M5 a3 0 (-1)) a3 1 (-1)) a3 2 (-1)) a3 3 (-1)) 71 q = 0) ∧ (mK (tJ (tJ (tJ (tJ M5 a3 0 (-1)) a3 1 (-1)) a3 2 (-1)) a3 3 (-1)) a2 = 412 ∧ aN (tJ (tJ (tJ (tJ M5 a3 0 (-1)) a3 1 (-1)) a3 2 (-1)) a3 3 (-1)) a2 = 12) ∧ (mK (tJ (tJ (tJ (tJ M5 a3 0 (-1)) a3 1 (-1)) a3 2 (-1)) a3 3 (-1)) a3 = 418 ∧ aN (tJ (tJ (tJ (tJ M5 a3 0 (-1)) a3 1 (-1)) a3 2 (-1)) a3 3 (-1)) a3 = 4) := b
  have s9 : ∀ g, g < 4 → aJ (tJ (tJ (tJ (tJ M5 a3 0 (-1)) a3 1 (-1)) a3 2 (-1)) a3 3 (-1)) a3 g = -1 := fun g hg => by
    rcases (show g = 0 ∨ g = 1 ∨ g = 2 ∨ g = 3 by omega) with e | e | e | e <;> subst e <;> simp [ms]
  generalize tJ (tJ (tJ (tJ M5 a3 0 (-1)) a3 1 (-1)) a3 2 (-1)) a3 3 (-1) = M6 at g9 b9 s9
  rw [lp_X1_init_32]
  refine ⟨fun _ tk htk => ?_, fun z => absurd (by decide) z⟩
  refine c_newTI htk (fun M7 a5 a6 a7 g7 hT => ?_)
  obtain ⟨hT, h515⟩ := hT
  have hMtk : mK M tk = 0 := Classical.byContradiction fun z => z (by rw [← (g9 tk z).1]; exact htk)
  have kq := g7.k b9.1.1 (by decide)
  refine ⟨kq, hK _ a2 a3 tk a5 a6 a7 f4 f5 (GXsR (g9.trans g7) (Or.inl hq)) ?_⟩
  have gi := fun f (hf : ¬ f ∈ ([] : List Nat)) => (g7.i b9.1.1 (by decide) hf : mI M7 f q = mI M6 f q)
  have gr := fun f (hf : ¬ f ∈ []) => (g7.r b9.1.1 (by decide) hf : mR M7 f q = mR M6 f q)
  have ntk : ¬ tk = q := fun e => by rw [e, b9.1.1] at htk; exact absurd htk (by decide)
  refine ⟨⟨kq, ?_, ?_, ?_, ?_, ?_, ?_, ⟨?_, ?_⟩, ⟨?_, ?_⟩, ⟨hT.1, ?_, ?_, ?_, hT.2.2.2.2⟩⟩, ?_, ?_, h515, fun g hg => ?_⟩
  · simpa [ms] using (gr 64 (by decide)).trans b9.1.2.1
  · simpa [ms] using (gr 65 (by decide)).trans b9.1.2.2.1
  · simpa [ms] using (gr 66 (by decide)).trans b9.1.2.2.2.1
  · simpa [ms] using (gr 67 (by decide)).trans b9.1.2.2.2.2
  · simp [ms]
  · exact (gi 69 (by decide)).trans b9.2.1.1
  · exact g7.k b9.2.2.1.1 (by decide)
  · exact (g7.n b9.2.2.1.1 (by decide)).trans b9.2.2.1.2
  · exact g7.k b9.2.2.2.1 (by decide)
  · exact (g7.n b9.2.2.2.1 (by decide)).trans b9.2.2.2.2
  · simpa [ms] using hT.2.1
  · simpa [ms] using hT.2.2.1
  · simpa [ms] using hT.2.2.2.1
  · exact (gi 70 (by decide)).trans b9.2.1.2.1
  · exact (gi 71 (by decide)).trans b9.2.1.2.2
  · exact (g7.aj b9.2.2.2.1 (by decide)).trans (s9 g hg)
end CD
