/-! the class makes its objects -/
section CC
variable {M : Mm} {q : Nat}
/-- a new stream: its array of inputs at ia -/
def NST (M : Mm) (q ia : Nat) (n : Int32) (nm kd : Int64) : Prop := mK M q = 7 ∧ mI M 384 q = n ∧ mJ M 385 q = nm ∧ mJ M 386 q = kd ∧ mR M 387 q = some ia ∧ mK M ia = 68 ∧ aN M ia = 4 ∧ mI M 388 q = 0 ∧ mR M 389 q = none ∧ mJ M 390 q = -9000000000000000000 ∧ mI M 391 q = 0 ∧ mJ M 392 q = 0 ∧ mR M 393 q = none ∧ mR M 394 q = none ∧ mR M 395 q = none
theorem c_newST {K : Mm → Prop} {n : Int32} {nm kd : Int64} (hq : mK M q = 0) (hK : ∀ M1 ia, mK M ia = 0 → GX [] [] M M1 → NST M1 q ia n nm kd → K M1) : wp_X6_init (nw M q 7) q n nm kd K := by
  refine ⟨by simp [ms], fun ia h1 => ?_⟩
  simp only [ms] at h1
  obtain ⟨n1, h1⟩ := f0 h1 (by decide)
  have n1' : ¬ q = ia := fun e => n1 e.symm
  refine ⟨by simp [ms, n1'], hK _ ia h1 ?_ ?_⟩
  · refine GXsJ (GXsR (GXna (GXsJ (GXsJ (GXsI (GXnw GX.refl hq) (Or.inl hq)) (Or.inl hq)) (Or.inl hq)) ?_) (Or.inl hq)) (Or.inl hq)
    simp [ms, n1, h1]
  · refine ⟨?_, ?_, ?_, ?_, ?_, ?_, ?_, ?_, ?_, ?_, ?_, ?_, ?_, ?_, ?_⟩ <;> simp [ms, n1, n1']
/-- a new source -/
def NSO (M : Mm) (q a4 a5 a6 a7 : Nat) (pt : Int32) (lag : Int64) (af gr : Int32) : Prop := (mK M q = 6 ∧ mI M 320 q = pt ∧ mJ M 321 q = lag ∧ mI M 322 q = af ∧ mI M 323 q = gr ∧ mR M 324 q = some a4 ∧ mR M 325 q = some a5 ∧ mR M 326 q = some a6 ∧ mR M 327 q = some a7 ∧ mK M a4 = 33 ∧ aN M a4 = 4 ∧ mK M a5 = 42 ∧ aN M a5 = 4 ∧ mK M a6 = 49 ∧ aN M a6 = 4 ∧ mK M a7 = 59 ∧ aN M a7 = 4) ∧ ∀ k, k < 4 → aI M a4 k = 0 ∧ aJ M a5 k = -9000000000000000000 ∧ aI M a6 k = 0
/-- all but one reference stays of what was there -/
def KPf (f : Nat) (Mi M1 : Mm) : Prop := ∀ b, ¬ mK Mi b = 0 → mK M1 b = mK Mi b ∧ (∀ g, mI M1 g b = mI Mi g b ∧ mJ M1 g b = mJ Mi g b) ∧ (∀ g, ¬ g = f → mR M1 g b = mR Mi g b) ∧ aN M1 b = aN Mi b ∧ ∀ j, aI M1 b j = aI Mi b j ∧ aJ M1 b j = aJ Mi b j ∧ aR M1 b j = aR Mi b j
/-- one array more, and a field that holds it -/
theorem arr_step {Mi : Mm} {a kd n f k : Nat} (g : GX [] [] M Mi) (hq : mK M q = 0) (kq : mK Mi q = k) (k0 : ¬ k = 0) (ha : mK Mi a = 0) (hkd : ¬ kd = 0) : ∃ M1, M1 = sR (na Mi a kd n) f q (some a) ∧ GX [] [] M M1 ∧ mK M a = 0 ∧ mK (na Mi a kd n) q = k ∧ mK M1 q = k ∧ mR M1 f q = some a ∧ mK M1 a = kd ∧ aN M1 a = n ∧ (∀ j, aI M1 a j = 0 ∧ aJ M1 a j = 0) ∧ KPf f Mi M1 := by
  have ne : ¬ q = a := fun e => k0 (by rw [← kq, e]; exact ha)
  have ne' : ¬ a = q := fun e => ne e.symm
  have hMa : mK M a = 0 := Classical.byContradiction fun z => z (by rw [← (g a z).1]; exact ha)
  refine ⟨_, rfl, GXsR (GXna g ha) (Or.inl hq), hMa, by simp [ms, ne, kq], by simp [ms, ne, kq], by simp [ms], by simp [ms], by simp [ms], fun j => by simp [ms], fun b hb => ?_⟩
  have nb : ¬ b = a := fun e => hb (by rw [e]; exact ha)
  exact ⟨by simp [ms, nb], fun h => ⟨rfl, rfl⟩, fun h hh => by simp [ms, hh], by simp [ms, nb], fun j => ⟨by simp [ms, nb], by simp [ms, nb], by simp [ms, nb]⟩⟩
theorem c_newSO {K : Mm → Prop} {pt af gr : Int32} {lag : Int64} (hq : mK M q = 0) (hK : ∀ M1 a4 a5 a6 a7, mK M a4 = 0 → mK M a5 = 0 → mK M a6 = 0 → mK M a7 = 0 → GX [] [] M M1 → NSO M1 q a4 a5 a6 a7 pt lag af gr → K M1) : wp_X5_init (nw M q 6) q pt lag af gr K := by
  refine ⟨by simp [ms], ?_⟩
  have g0 : GX [] [] M (sI (sI (sJ (sI (nw M q 6) 320 q pt) 321 q lag) 322 q af) 323 q gr) := GXsI (GXsI (GXsJ (GXsI (GXnw GX.refl hq) (Or.inl hq)) (Or.inl hq)) (Or.inl hq)) (Or.inl hq)
  have k0 : mK (sI (sI (sJ (sI (nw M q 6) 320 q pt) 321 q lag) 322 q af) 323 q gr) q = 6 := by simp [ms]
  have i0 : mI (sI (sI (sJ (sI (nw M q 6) 320 q pt) 321 q lag) 322 q af) 323 q gr) 320 q = pt ∧ mJ (sI (sI (sJ (sI (nw M q 6) 320 q pt) 321 q lag) 322 q af) 323 q gr) 321 q = lag ∧ mI (sI (sI (sJ (sI (nw M q 6) 320 q pt) 321 q lag) 322 q af) 323 q gr) 322 q = af ∧ mI (sI (sI (sJ (sI (nw M q 6) 320 q pt) 321 q lag) 322 q af) 323 q gr) 323 q = gr := by
    refine ⟨?_, ?_, ?_, ?_⟩ <;> simp [ms]
  generalize sI (sI (sJ (sI (nw M q 6) 320 q pt) 321 q lag) 322 q af) 323 q gr = M0 at g0 k0 i0
  intro a4 h4
  obtain ⟨M4, e4, g4, f4, p4, q4, r4, c4, l4, z4, K4⟩ := arr_step (n := 4) (f := 324) (kd := 33) g0 hq k0 (by decide) h4 (by decide)
  refine ⟨p4, ?_⟩
  rw [← e4]
  clear e4 p4
  intro a5 h5
  obtain ⟨M5, e5, g5, f5, p5, q5, r5, c5, l5, z5, K5⟩ := arr_step (n := 4) (f := 325) (kd := 42) g4 hq q4 (by decide) h5 (by decide)
  refine ⟨p5, ?_⟩
  rw [← e5]
  clear e5 p5
  intro a6 h6
  obtain ⟨M6, e6, g6, f6, p6, q6, r6, c6, l6, z6, K6⟩ := arr_step (n := 4) (f := 326) (kd := 49) g5 hq q5 (by decide) h6 (by decide)
  refine ⟨p6, ?_⟩
  rw [← e6]
  clear e6 p6
  intro a7 h7
  obtain ⟨M7, e7, g7, f7, p7, q7, r7, c7, l7, z7, K7⟩ := arr_step (n := 4) (f := 327) (kd := 59) g6 hq q6 (by decide) h7 (by decide)
  refine ⟨p7, ?_⟩
  rw [← e7]
  clear e7 p7
  have nz : ∀ {A : Mm} {x k : Nat}, mK A x = k → ¬ k = 0 → ¬ mK A x = 0 := fun h h0 => by rw [h]; exact h0
  -- what was told of q and of the arrays, at the end
  have x4 := K5 a4 (nz c4 (by decide))
  have x4' := K6 a4 (by rw [x4.1]; exact nz c4 (by decide))
  have x4'' := K7 a4 (by rw [x4'.1, x4.1]; exact nz c4 (by decide))
  have x5 := K6 a5 (nz c5 (by decide))
  have x5' := K7 a5 (by rw [x5.1]; exact nz c5 (by decide))
  have x6 := K7 a6 (nz c6 (by decide))
  have y0 := K4 q (nz k0 (by decide))
  have y4 := K5 q (nz q4 (by decide))
  have y5 := K6 q (nz q5 (by decide))
  have y6 := K7 q (nz q6 (by decide))
  have kk4 : mK M7 a4 = 33 := by rw [x4''.1, x4'.1, x4.1]; exact c4
  have kk5 : mK M7 a5 = 42 := by rw [x5'.1, x5.1]; exact c5
  have kk6 : mK M7 a6 = 49 := by rw [x6.1]; exact c6
  have n45 : ¬ a4 = a5 := fun e => by rw [e, kk5] at kk4; exact absurd kk4 (by decide)
  have n65 : ¬ a6 = a5 := fun e => by rw [e, kk5] at kk6; exact absurd kk6 (by decide)
  have R5 : mR M7 325 q = some a5 := by rw [y6.2.2.1 325 (by decide), y5.2.2.1 325 (by decide)]; exact r5
  have L5 : aN M7 a5 = 4 := by rw [x5'.2.2.2.1, x5.2.2.2.1]; exact l5
  have base : (mK M7 q = 6 ∧ mI M7 320 q = pt ∧ mJ M7 321 q = lag ∧ mI M7 322 q = af ∧ mI M7 323 q = gr ∧ mR M7 324 q = some a4 ∧ mR M7 325 q = some a5 ∧ mR M7 326 q = some a6 ∧ mR M7 327 q = some a7 ∧ mK M7 a4 = 33 ∧ aN M7 a4 = 4 ∧ mK M7 a5 = 42 ∧ aN M7 a5 = 4 ∧ mK M7 a6 = 49 ∧ aN M7 a6 = 4 ∧ mK M7 a7 = 59 ∧ aN M7 a7 = 4) := by
    refine ⟨q7, ?_, ?_, ?_, ?_, ?_, R5, ?_, r7, kk4, ?_, kk5, L5, kk6, ?_, c7, l7⟩
    · rw [(y6.2.1 320).1, (y5.2.1 320).1, (y4.2.1 320).1, (y0.2.1 320).1]; exact i0.1
    · rw [(y6.2.1 321).2, (y5.2.1 321).2, (y4.2.1 321).2, (y0.2.1 321).2]; exact i0.2.1
    · rw [(y6.2.1 322).1, (y5.2.1 322).1, (y4.2.1 322).1, (y0.2.1 322).1]; exact i0.2.2.1
    · rw [(y6.2.1 323).1, (y5.2.1 323).1, (y4.2.1 323).1, (y0.2.1 323).1]; exact i0.2.2.2
    · rw [y6.2.2.1 324 (by decide), y5.2.2.1 324 (by decide), y4.2.2.1 324 (by decide)]; exact r4
    · rw [y6.2.2.1 326 (by decide)]; exact r6
    · rw [x4''.2.2.2.1, x4'.2.2.2.1, x4.2.2.2.1]; exact l4
    · rw [x6.2.2.2.1]; exact l6
  have I4 : ∀ j, aI M7 a4 j = 0 := fun j => by rw [(x4''.2.2.2.2 j).1, (x4'.2.2.2.2 j).1, (x4.2.2.2.2 j).1]; exact (z4 j).1
  have I6 : ∀ j, aI M7 a6 j = 0 := fun j => by rw [(x6.2.2.2.2 j).1]; exact (z6 j).1
  have full : NSO (tJ (tJ (tJ (tJ M7 a5 0 (-9000000000000000000)) a5 1 (-9000000000000000000)) a5 2 (-9000000000000000000)) a5 3 (-9000000000000000000)) q a4 a5 a6 a7 pt lag af gr := by
    refine ⟨base, fun k hk => ⟨I4 k, ?_, I6 k⟩⟩
    rcases (show k = 0 ∨ k = 1 ∨ k = 2 ∨ k = 3 by omega) with e | e | e | e <;> subst e <;> simp [ms]
  have fin := hK _ a4 a5 a6 a7 f4 f5 f6 f7 (GXtJ (j := 3) (v := -9000000000000000000) (GXtJ (j := 2) (v := -9000000000000000000) (GXtJ (j := 1) (v := -9000000000000000000) (GXtJ (j := 0) (v := -9000000000000000000) g7 f5) f5) f5) f5) full
  have iA : isA M7 a5 2 := ⟨by rw [kk5]; decide, by rw [kk5]⟩
  have st : ∀ (i : Nat) (Mx : Mm) (n : Nat), i < 4 → mK Mx = mK M7 → mR Mx = mR M7 → aN Mx = aN M7 → lp_X5_init_57 q K n (nI (i + 1)) (tJ Mx a5 i (-9000000000000000000)) → lp_X5_init_57 q K (n + 1) (nI i) Mx := fun i Mx n hi e1 e2 e3 hn => by
    rw [lp_X5_init_57]
    have iB : isA Mx a5 2 := by unfold isA at iA ⊢; rw [e1]; exact iA
    refine ⟨fun z => ?_, fun _ => ⟨by rw [e1]; exact q7, a5, by rw [e2]; exact R5, iB, by rw [e3, L5]; exact n_in hi (by decide), ?_⟩⟩
    · have z2 : nI 4 ≤ nI i := z
      rw [n_le (by omega) (by omega)] at z2; omega
    · rw [n_clamp (by omega), show nI i + 1 = nI (i + 1) by rw [show (1 : Int32) = nI 1 from rfl, n_add]]
      exact hn
  refine ⟨5, st 0 M7 4 (by decide) rfl rfl rfl (st 1 _ 3 (by decide) rfl rfl rfl (st 2 _ 2 (by decide) rfl rfl rfl (st 3 _ 1 (by decide) rfl rfl rfl ?_)))⟩
  rw [lp_X5_init_57]
  exact ⟨fun _ => fin, fun z => absurd (by decide) z⟩
/-- a new window -/
def NWI (M : Mm) (q a7 a8 a9 : Nat) (size step : Int64) : Prop := (mK M q = 10 ∧ mJ M 576 q = size ∧ mJ M 577 q = step ∧ mR M 578 q = some a7 ∧ mR M 579 q = some a8 ∧ mR M 580 q = some a9 ∧ mK M a7 = 98 ∧ aN M a7 = 24 ∧ mK M a8 = 105 ∧ aN M a8 = 24 ∧ mK M a9 = 113 ∧ aN M a9 = 24) ∧ mI M 581 q = 0
theorem c_newWI {K : Mm → Prop} {size step : Int64} (hq : mK M q = 0) (hK : ∀ M1 a4 a5 a6, mK M a4 = 0 → mK M a5 = 0 → mK M a6 = 0 → GX [] [] M M1 → NWI M1 q a4 a5 a6 size step → K M1) : wp_X9_init (nw M q 10) q size step K := by
  refine ⟨by simp [ms], fun a4 h4 => ?_⟩
  simp only [ms] at h4
  obtain ⟨n4, h4⟩ := f0 h4 (by decide)
  have m4 : ¬ q = a4 := fun e => n4 e.symm
  refine ⟨by simp [ms, m4], fun a5 h5 => ?_⟩
  simp only [ms] at h5
  obtain ⟨n54, h5⟩ := f0 h5 (by decide)
  obtain ⟨n5, h5⟩ := f0 h5 (by decide)
  have m5 : ¬ q = a5 := fun e => n5 e.symm
  have m54 : ¬ a4 = a5 := fun e => n54 e.symm
  refine ⟨by simp [ms, m4, m5], fun a6 h6 => ?_⟩
  simp only [ms] at h6
  obtain ⟨n65, h6⟩ := f0 h6 (by decide)
  obtain ⟨n64, h6⟩ := f0 h6 (by decide)
  obtain ⟨n6, h6⟩ := f0 h6 (by decide)
  have m6 : ¬ q = a6 := fun e => n6 e.symm
  have m64 : ¬ a4 = a6 := fun e => n64 e.symm
  have m65 : ¬ a5 = a6 := fun e => n65 e.symm
  refine ⟨by simp [ms, m4, m5, m6], hK _ a4 a5 a6 h4 h5 h6 ?_ ?_⟩
  · refine GXsR (GXna (GXsR (GXna (GXsR (GXna (GXsJ (GXsJ (GXnw GX.refl hq) (Or.inl hq)) (Or.inl hq)) ?_) (Or.inl hq)) ?_) (Or.inl hq)) ?_) (Or.inl hq)
    · simp [ms, n4, h4]
    · simp [ms, n5, n54, h5]
    · simp [ms, n6, n64, n65, h6]
  · refine ⟨⟨?_, ?_, ?_, ?_, ?_, ?_, ?_, ?_, ?_, ?_, ?_, ?_⟩, ?_⟩ <;> simp [ms, n4, n5, n54, n6, n64, n65, m4, m5, m6, m54, m64, m65]
end CC
