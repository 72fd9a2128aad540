/-! the reference lets a text stand, and builds -/
section RI
variable {M : Mm} {m : Nat} {ra : Nat → Nat} {S S0 : St} {tp : List Nat} {C : Cfg}
def ST7 : List Nat := [733, 734, 735, 736, 737, 744, 748]
/-- the streams below k, and the parts below i, stand at their beginnings -/
def Z7 (S : St) (k i : Nat) : Prop := (∀ s, s < k → vJ S 733 s = -9000000000000000000 ∧ vI S 734 s = 0 ∧ vI S 744 s = 0 ∧ vI S 748 (2 * s) = 0 ∧ vI S 748 (2 * s + 1) = 0) ∧ ∀ j, j < i → vI S 735 j = 0 ∧ vJ S 736 j = -9000000000000000000 ∧ vI S 737 j = 0
theorem r_st290 (h : SH M m ra) {K : Mm → Prop} {R : Int32 → Mm → Prop} {k : Nat} (hk : k < 12) (hR : ∀ S1, Ex ST7 S0 S1 → Z7 S1 (k + 1) (4 * k + 4) → R (nI (k + 1)) (pM M m ra S1)) : ∀ (r i : Nat) (S : St), i + r = 4 → Ex ST7 S0 S → Z7 S (k + 1) (4 * k + i) → lp_X11_stand_290 m R K (r + 1) (nI k) (nI i) (pM M m ra S) := by
  intro r
  induction r with
  | zero =>
    intro i S hi hx hz
    have e : i = 4 := by omega
    subst e
    rw [lp_X11_stand_290]
    simp (disch := omega) only [show ((4 : Int32) ≤ nI 4) = True by decide, forall_const, not_true, false_implies, and_true, na1, na3, n_add, n_mul, n_clamp, n_in]
    exact hR S hx hz
  | succ r ih =>
    intro i S hi hx hz
    rw [lp_X11_stand_290]
    simp (disch := omega) only [show (4 : Int32) = nI 4 from rfl, n_le, show (4 ≤ i) = False from eq_false (by omega), false_implies, not_false_eq_true, forall_const, true_and, RF h, p_mK, p_mR, p_aN, p_aR, p_mI, p_mJ, p_sI, p_sJ, Option.some.injEq, exists_eq_left', true_and, and_true, na1, na3, n_add, n_mul, n_clamp, n_in]
    refine ih (i + 1) _ (by omega) (((hx.wI (f := 735) (by decide)).wJ (f := 736) (by decide)).wI (f := 737) (by decide)) ⟨fun s hs => ?_, fun j hj => ?_⟩
    · simpa [sg] using hz.1 s hs
    · by_cases e : j = 4 * k + i
      · subst e; simp [sg]
      · have := hz.2 j (by omega)
        simpa [sg, e] using this
theorem r_st239 (h : SH M m ra) {K : Mm → Prop} (hK : ∀ S1, Ex ST7 S0 S1 → Z7 S1 12 48 → K (pM M m ra (pI (pI (pI (pI (pI S1 739 0) 741 0) 743 0) 738 0) 752 0))) : ∀ (r k : Nat) (S : St), k + r = 12 → Ex ST7 S0 S → Z7 S k (4 * k) → lp_X11_stand_239 m K (r + 1) (nI k) (pM M m ra S) := by
  intro r
  induction r with
  | zero =>
    intro k S hk hx hz
    have e : k = 12 := by omega
    subst e
    rw [lp_X11_stand_239]
    simp (disch := omega) only [show ((12 : Int32) ≤ nI 12) = True by decide, forall_const, not_true, false_implies, and_true, RF h, p_mK, p_mR, p_aN, p_aR, p_mI, p_mJ, p_sI, p_sJ, Option.some.injEq, exists_eq_left', true_and, and_true, na1, na3, n_add, n_mul, n_clamp, n_in]
    exact hK S hx hz
  | succ r ih =>
    intro k S hk hx hz
    rw [lp_X11_stand_239]
    simp (disch := omega) only [show ((12 : Int32) ≤ nI k) = False from eq_false (fun z => by
      have z2 : nI 12 ≤ nI k := z
      rw [n_le (by omega) (by omega)] at z2; omega), false_implies, not_false_eq_true, forall_const, true_and, RF h, p_mK, p_mR, p_aN, p_aR, p_mI, p_mJ, p_sI, p_sJ, Option.some.injEq, exists_eq_left', true_and, and_true, na1, na3, n_add, n_mul, n_clamp, n_in, show (2 : Int32) = nI 2 from rfl]
    refine ⟨_, r_st290 (S0 := S0) h (k := k) (by omega) (fun S1 x1 x2 => ih (k + 1) S1 (by omega) x1 x2) 4 0 _ rfl (((((hx.wJ (f := 733) (by decide)).wI (f := 734) (by decide)).wI (f := 744) (by decide)).wI (f := 748) (by decide)).wI (f := 748) (by decide)) ⟨fun s hs => ?_, fun j hj => ?_⟩⟩
    · by_cases e : s = k
      · subst e
        simp [sg]
      · have := hz.1 s (by omega)
        have n1 : ¬ 2 * s = 2 * k := by omega
        have n2 : ¬ 2 * s = 2 * k + 1 := by omega
        have n3 : ¬ 2 * s + 1 = 2 * k := by omega
        have n4 : ¬ 2 * s + 1 = 2 * k + 1 := by omega
        simpa [sg, e, n1, n2, n3, n4] using this
    · simpa [sg] using hz.2 j (by omega)
/-- all that a text lets stand: S1 out of S -/
def STD (S S1 : St) : Prop := (∀ s, s < 12 → vI S1 715 (12 + s) = vI S 715 s ∧ vJ S1 716 (12 + s) = vJ S 716 s ∧ vI S1 717 (12 + s) = vI S 717 s ∧ vI S1 718 (12 + s) = vI S 718 s ∧ vI S1 719 (12 + s) = vI S 719 s ∧ vJ S1 720 (12 + s) = vJ S 720 s ∧ vJ S1 721 (12 + s) = vJ S 721 s ∧ vI S1 722 (12 + s) = vI S 722 s ∧ vI S1 723 (12 + s) = vI S 723 s ∧ vI S1 724 (12 + s) = vI S 724 s ∧ vI S1 726 (12 + s) = vI S 726 s ∧ vI S1 719 s = vI S 719 s) ∧ (∀ j, j < 48 → vI S1 725 (48 + j) = vI S 725 j) ∧ (∀ g, g < 4 → vI S1 727 (4 + g) = vI S 727 g ∧ vJ S1 728 (4 + g) = vJ S 728 g) ∧ vI S1 729 1 = vI S 729 0 ∧ (gI S1 732 = 1 ∧ gI S1 738 = 0 ∧ gI S1 739 = 0 ∧ gI S1 741 = 0 ∧ gI S1 743 = 0 ∧ gI S1 752 = 0) ∧ Z7 S1 12 48 ∧ gI S1 706 = gI S 706 ∧ gI S1 714 = gI S 714 ∧ gI S1 760 = gI S 760 ∧ (∀ i, vI S1 705 i = vI S 705 i) ∧ ∀ i, vI S1 759 i = vI S 759 i
theorem r_stand (h : SH M m ra) {K : Mm → Prop} (hz : ∀ j, j < 12 → bz (vI S 719 j)) (h27 : ∀ g, g < 4 → bz (vI S 727 g)) (hK : ∀ S1, STD S S1 → K (pM M m ra S1)) : wp_X11_stand (pM M m ra S) m K := by
  simp (disch := omega) only [wp_X11_stand, bk_X11_stand_16, bk_X11_stand_32, bk_X11_stand_48, bk_X11_stand_64, bk_X11_stand_80, bk_X11_stand_96, bk_X11_stand_112, bk_X11_stand_128, bk_X11_stand_144, bk_X11_stand_160, bk_X11_stand_176, bk_X11_stand_192, bk_X11_stand_206, bk_X11_stand_220, RF h, p_mK, p_mR, p_aN, p_aR, p_mI, p_mJ, p_sI, p_sJ, Option.some.injEq, exists_eq_left', true_and, and_true, na1, na3, n_add, n_mul, n_clamp, n_in, CF h, show (12 : Int32).toNatClampNeg = 12 by decide, show (48 : Int32).toNatClampNeg = 48 by decide, show (4 : Int32).toNatClampNeg = 4 by decide, show (0 + 12 ≤ 24) = True by decide, show (12 + 12 ≤ 24) = True by decide, show (0 + 48 ≤ 96) = True by decide, show (48 + 48 ≤ 96) = True by decide, show (0 + 4 ≤ 8) = True by decide, show (4 + 4 ≤ 8) = True by decide]
  refine ⟨fun i hi => ?_, fun i hi => ?_, _, r_st239 (S0 := pI (wI (cpyS S) 729 1 (vI (cpyS S) 729 0)) 732 1) h (fun S1 x1 x2 => hK _ ?_) 12 0 _ rfl Ex.refl ⟨fun s hs => by omega, fun j hj => by omega⟩⟩
  · simpa [cg] using hz i hi
  · simpa [cg] using h27 i hi
  · have gx : ∀ f, ¬ f ∈ ST7 → gI S1 f = gI (pI (wI (cpyS S) 729 1 (vI (cpyS S) 729 0)) 732 1) f := fun f hf => (x1 f hf).1
    have vx : ∀ f j, ¬ f ∈ ST7 → vI S1 f j = vI (pI (wI (cpyS S) 729 1 (vI (cpyS S) 729 0)) 732 1) f j := fun f j hf => by rw [(x1 f hf).2.2.1]
    have jx : ∀ f j, ¬ f ∈ ST7 → vJ S1 f j = vJ (pI (wI (cpyS S) 729 1 (vI (cpyS S) 729 0)) 732 1) f j := fun f j hf => by rw [(x1 f hf).2.2.2]
    refine ⟨fun s hs => ⟨?_, ?_, ?_, ?_, ?_, ?_, ?_, ?_, ?_, ?_, ?_, ?_⟩, fun j hj => ?_, fun g hg => ⟨?_, ?_⟩, ?_, ⟨?_, ?_, ?_, ?_, ?_, ?_⟩, ?_, ?_, ?_, ?_, fun i => ?_, fun i => ?_⟩
    · show vI S1 715 (12 + s) = _
      rw [vx 715 (12 + s) (by decide)]
      simp [cpyS, sg, cg, show 12 + s < 24 by omega]
    · show vJ S1 716 (12 + s) = _
      rw [jx 716 (12 + s) (by decide)]
      simp [cpyS, sg, cg, show 12 + s < 24 by omega]
    · show vI S1 717 (12 + s) = _
      rw [vx 717 (12 + s) (by decide)]
      simp [cpyS, sg, cg, show 12 + s < 24 by omega]
    · show vI S1 718 (12 + s) = _
      rw [vx 718 (12 + s) (by decide)]
      simp [cpyS, sg, cg, show 12 + s < 24 by omega]
    · show vI S1 719 (12 + s) = _
      rw [vx 719 (12 + s) (by decide)]
      simp [cpyS, sg, cg, show 12 + s < 24 by omega]
    · show vJ S1 720 (12 + s) = _
      rw [jx 720 (12 + s) (by decide)]
      simp [cpyS, sg, cg, show 12 + s < 24 by omega]
    · show vJ S1 721 (12 + s) = _
      rw [jx 721 (12 + s) (by decide)]
      simp [cpyS, sg, cg, show 12 + s < 24 by omega]
    · show vI S1 722 (12 + s) = _
      rw [vx 722 (12 + s) (by decide)]
      simp [cpyS, sg, cg, show 12 + s < 24 by omega]
    · show vI S1 723 (12 + s) = _
      rw [vx 723 (12 + s) (by decide)]
      simp [cpyS, sg, cg, show 12 + s < 24 by omega]
    · show vI S1 724 (12 + s) = _
      rw [vx 724 (12 + s) (by decide)]
      simp [cpyS, sg, cg, show 12 + s < 24 by omega]
    · show vI S1 726 (12 + s) = _
      rw [vx 726 (12 + s) (by decide)]
      simp [cpyS, sg, cg, show 12 + s < 24 by omega]
    · show vI S1 719 s = _
      rw [vx 719 s (by decide)]
      simp [cpyS, sg, cg, show ¬ (12 ≤ s ∧ s < 24) by omega]
    · show vI S1 725 (48 + j) = _
      rw [vx 725 (48 + j) (by decide)]
      simp [cpyS, sg, cg, show 48 + j < 96 by omega]
    · show vI S1 727 (4 + g) = _
      rw [vx 727 (4 + g) (by decide)]
      simp [cpyS, sg, cg, show 4 + g < 8 by omega]
    · show vJ S1 728 (4 + g) = _
      rw [jx 728 (4 + g) (by decide)]
      simp [cpyS, sg, cg, show 4 + g < 8 by omega]
    · show vI S1 729 1 = _
      rw [vx 729 1 (by decide)]
      simp [cpyS, sg, cg]
    · simp only [sg]
      simp [gx 732 (by decide), sg]
    · simp [sg]
    · simp [sg]
    · simp [sg]
    · simp [sg]
    · simp [sg]
    · exact x2
    · simp only [sg]
      simp [gx 706 (by decide), sg, cpyS, cg]
    · simp only [sg]
      simp [gx 714 (by decide), sg, cpyS, cg]
    · simp only [sg]
      simp [gx 760 (by decide), sg, cpyS, cg]
    · show vI S1 705 i = _
      rw [vx 705 i (by decide)]
      simp [cpyS, sg, cg]
    · show vI S1 759 i = _
      rw [vx 759 i (by decide)]
      simp [cpyS, sg, cg]
/-- the same text over another base -/
def setb (C : Cfg) (B : St) : Cfg := (cn C, ckd C, ctk C, cin C, co1 C, co2 C, cpt C, chl C, caf C, cgr C, csp C, cnm C, B)
/-- the names as they stand -/
def NMR (S : St) (C : Cfg) : Prop := ∀ s, s < cn C → WW (cnm C s) ∧ vJ S 716 (12 + s) = w5 (cnm C s) ∧ vI S 717 (12 + s) = nI (cnm C s).length
theorem std_SA {S1 : St} (hQ : PQ S C) (hs : STD S S1) : SA S1 (setb C S1) D0 ∧ NMR S1 C := by
  obtain ⟨⟨p1, p2, p3, p4⟩, q2, q3⟩ := hQ
  obtain ⟨s1, s2, s3, s4, ⟨s5, s6, s7, s8, s9, s10⟩, ⟨z1, z2⟩, s12⟩ := hs
  refine ⟨⟨⟨?_, s5, fun s hs => ?_, fun s i hs hi => ?_, fun g hg => ?_, SB.refl⟩, ⟨fun s hs => ?_, fun s hs => ?_, fun s k hs hk => ?_, fun s k hs hk => ?_, fun s k hs hk => ?_, s6, ⟨s7, fun i r _ h => by cases h⟩, ⟨s8, fun i r _ h => by cases h⟩, s9, fun s hs => ⟨[], List.Perm.refl _, ?_, by decide, fun i e h => by cases h⟩, fun s k hs hk => ⟨?_, Nat.zero_le _, fun i e h => by cases h⟩, ⟨s10, by decide, fun i x h => by cases h⟩⟩⟩, fun s hs => ?_⟩
  · exact s4.trans p1
  · have hs' : s < cn C := hs
    obtain ⟨a1, a2, a3, a4, a5, a6, a7, a8, a9, a10, a11, a12, a13⟩ := p3 s hs'
    obtain ⟨b1, b2, b3, b4, b5, b6, b7, b8, b9, b10, b11, b12⟩ := s1 s (by omega)
    exact ⟨b1.trans a5, b4.trans a6, b5.trans a7, b6.trans a8, b7.trans a9, b8.trans a10, b9.trans a11, b10.trans a12, b11.trans (q2 s hs')⟩
  · have hs' : s < cn C := hs
    have hi' : i < (cin C s).length := hi
    obtain ⟨a1, a2, a3, a4, a5, a6, a7, a8, a9, a10, a11, a12, a13⟩ := p3 s hs'
    have e := s2 (4 * s + i) (by omega)
    rw [show 4 * (12 + s) + i = 48 + (4 * s + i) by omega]
    exact e.trans (a13 i hi')
  · exact ⟨(s3 g hg).1.trans (p4 g hg).1, fun v hv => (s3 g hg).2.trans ((p4 g hg).2 v hv)⟩
  · have hs' : s < cn C := hs
    exact (z1 s (by omega)).1
  · have hs' : s < cn C := hs
    exact (z1 s (by omega)).2.1
  · have hs' : s < cn C := hs
    exact (z2 (4 * s + k) (by omega)).1
  · have hs' : s < cn C := hs
    exact (z2 (4 * s + k) (by omega)).2.1
  · have hs' : s < cn C := hs
    exact (z2 (4 * s + k) (by omega)).2.2
  · have hs' : s < cn C := hs
    exact (z1 s (by omega)).2.2.1
  · have hs' : s < cn C := hs
    have hz := (z1 s (by omega)).2.2.2
    rcases (show k = 0 ∨ k = 1 by omega) with e | e <;> subst e
    · exact hz.1
    · exact hz.2
  · obtain ⟨a1, a2, a3, a4, -⟩ := p3 s hs
    obtain ⟨b1, b2, b3, -⟩ := s1 s (by omega)
    exact ⟨a1, b2.trans a3, b3.trans a4⟩
theorem r_b34 (h : SH M m ra) {K : Int32 → Mm → Prop} (hK : ∀ S1, KT S0 S1 → gI S1 707 = gI S0 707 → gI S1 712 = gI S0 712 → gI S1 730 = gI S0 730 → gI S1 731 = gI S0 731 → vI S1 729 0 = vI S0 729 0 → (∀ g, g < 4 → vI S1 727 g = 0) → mK M m = 12 ∧ wp_X11_next (pM M m ra S1) m (fun M43 => ∃ kk, lp_X11_build_65 m K kk 0 M43)) : ∀ (r g : Nat) (S : St), g + r = 4 → KT S0 S → gI S 707 = gI S0 707 → gI S 712 = gI S0 712 → gI S 730 = gI S0 730 → gI S 731 = gI S0 731 → vI S 729 0 = vI S0 729 0 → (∀ q, q < g → vI S 727 q = 0) → lp_X11_build_34 m K (r + 1) (nI g) (pM M m ra S) := by
  intro r
  induction r with
  | zero =>
    intro g S hg hk e7 e12 e30 e31 e29 hz
    have e : g = 4 := by omega
    subst e
    rw [lp_X11_build_34]
    simp only [show ((4 : Int32) ≤ nI 4) = True by decide, forall_const, not_true, false_implies, and_true]
    exact hK S hk e7 e12 e30 e31 e29 hz
  | succ r ih =>
    intro g S hg hk e7 e12 e30 e31 e29 hz
    rw [lp_X11_build_34]
    simp (disch := omega) only [show ((4 : Int32) ≤ nI g) = False from eq_false (fun z => by
      have z2 : nI 4 ≤ nI g := z
      rw [n_le (by omega) (by omega)] at z2; omega), false_implies, not_false_eq_true, forall_const, true_and, RF h, p_mK, p_mR, p_aN, p_aR, p_mI, p_mJ, p_sI, p_sJ, Option.some.injEq, exists_eq_left', true_and, and_true, na1, na3, n_add, n_mul, n_clamp, n_in]
    refine ih (g + 1) _ (by omega) ((hk.wI (Or.inr (Or.inr (Or.inl ⟨rfl, by omega⟩)))).wJ (Or.inr ⟨rfl, by omega⟩)) e7 e12 e30 e31 (by simpa [sg] using e29) (fun q hq => ?_)
    by_cases e : q = g
    · subst e; simp [sg]
    · simpa [sg, e] using hz q (by omega)
theorem r_145 (h : SH M m ra) {K : Int32 → Mm → Prop} (hz : ∀ j, j < 12 → bz (vI S 719 j)) (hok : gI S 712 = 0 → (∀ g, g < 4 → bz (vI S 727 g)) ∧ ∀ S1, STD (pI (pI S 706 0) 714 0) S1 → K (vI S1 729 1) (pM M m ra S1)) (her : ¬ gI S 712 = 0 → K (-10 - gI S 713) (pM M m ra (pI (pI S 706 0) 714 (gI S 712)))) : bk_X11_build_145 m K (pM M m ra S) := by
  have e1 : gI (pI (pI S 706 0) 714 (gI (pI S 706 0) 712)) 712 = gI S 712 := by simp [sg]
  have e2 : gI (pI (pI S 706 0) 714 (gI (pI S 706 0) 712)) 713 = gI S 713 := by simp [sg]
  have e3 : gI (pI S 706 0) 712 = gI S 712 := by simp [sg]
  refine ⟨FK h, ?_⟩
  simp only [p_sI, p_mI, e_good h, e1]
  by_cases a : gI S 712 = 0
  · obtain ⟨b27, hk⟩ := hok a
    rw [if_pos a]
    refine ⟨fun _ => ⟨FK h, ?_⟩, fun z => absurd z (by decide)⟩
    rw [e3, a]
    refine r_stand h hz b27 (fun S1 x1 => ⟨FK h, ?_⟩)
    simp (disch := omega) only [RF h, p_mK, p_mR, p_aN, p_aR, p_mI, p_mJ, p_sI, p_sJ, Option.some.injEq, exists_eq_left', true_and, and_true, na1, na3, n_add, n_mul, n_clamp, n_in]
    exact hk S1 x1
  · rw [if_neg a]
    refine ⟨fun z => absurd rfl z, fun _ => ⟨FK h, ?_⟩⟩
    rw [e2, e3]
    exact her a
theorem C0_PQ (B : St) (h29 : vI S 729 0 = 0) (h27 : ∀ g, g < 4 → vI S 727 g = 0) : PQ S (C0 B) := ⟨⟨h29, Nat.zero_le _, fun s hs => absurd hs (Nat.not_lt_zero _), fun g hg => ⟨h27 g hg, fun v hv => by cases hv⟩⟩, fun q hq => absurd hq (Nat.not_lt_zero _), fun s t ht => by cases ht⟩
theorem r_build (h : SH M m ra) {K : Int32 → Mm → Prop} {B : St} (hT : RT S tp) (hz : ∀ j, j < 12 → bz (vI S 719 j)) (hok : ∀ S1 S2 C, a_parse B tp = .ok C → KT S S1 → STD (pI (pI S1 706 0) 714 0) S2 → PQ S1 C → K (nI (cn C)) (pM M m ra S2)) (her : ∀ S1 e, a_parse B tp = .error e → KT S S1 → 1 ≤ e.1 → e.1 ≤ 6 → e.2 ≤ 600 → K (-10 - nI e.2) (pM M m ra (pI (pI S1 706 0) 714 (nI e.1)))) : wp_X11_build (pM M m ra S) m K := by
  simp (disch := omega) only [wp_X11_build, RF h, p_mK, p_mR, p_aN, p_aR, p_mI, p_mJ, p_sI, p_sJ, Option.some.injEq, exists_eq_left', true_and, and_true, na1, na3, n_add, n_mul, n_clamp, n_in]
  have kt0 : KT S (pI (pI (wI (pI (pI (pI S 704 0) 707 0) 712 0) 729 0 0) 730 0) 731 0) := ((((((KT.refl.pI (Or.inr (Or.inl rfl))).pI (Or.inl (by decide))).pI (Or.inl (by decide))).wI (Or.inr (Or.inr (Or.inr ⟨rfl, by decide⟩)))).pI (Or.inr (Or.inr (Or.inl rfl)))).pI (Or.inr (Or.inr (Or.inr rfl))))
  refine ⟨_, r_b34 (S0 := pI (pI (wI (pI (pI (pI S 704 0) 707 0) 712 0) 729 0 0) 730 0) 731 0) h (fun S1 x1 x7 x12 x30 x31 x29 x27 => ⟨FK h, ?_⟩) 4 0 _ rfl KT.refl rfl rfl rfl rfl rfl (fun q hq => by omega)⟩
  have y7 : gI S1 707 = nI 0 := by rw [x7]; simp [sg]; rfl
  have y12 : gI S1 712 = 0 := by rw [x12]; simp [sg]
  have y30 : gI S1 730 = nI 0 := by rw [x30]; simp [sg]; rfl
  have y31 : gI S1 731 = nI 0 := by rw [x31]; simp [sg]; rfl
  have y29 : vI S1 729 0 = 0 := by rw [x29]; simp [sg]
  have kt1 := kt0.trans x1
  have hT1 := hT.kt kt1
  refine r_next h hT1 (Nat.zero_le _) y7 (fun S2 z1 z2 => ⟨20 + 2, ?_⟩)
  have kt2 : KT S S2 := kt1.trans (KT.ex (exR z1 (by decide)))
  have hq0 : PQ S1 (C0 B) := C0_PQ B y29 x27
  have hq2 := hq0.ex (exR z1 (by decide))
  have hR2 : Rd tp S2 (.ok (a_tok tp 0)) := ⟨by rw [(z1 712 (by decide)).1]; exact y12, z2, TT_tok hT.2.1 (Nat.zero_le _)⟩
  refine r_txt (K := K) h (hT.kt kt2) 20 0 0 (C0 B) (a_tok tp 0) S2 (Nat.le_refl _) KT.refl hR2 hq2 (by rw [(z1 730 (by decide)).1]; exact y30) (by rw [(z1 731 (by decide)).1]; exact y31) (by decide) (by decide) ⟨fun S3 C1 q w1 w2 w3 => ?_, fun S3 e q w1 w2 => ?_⟩
  · refine r_145 h (fun j hj => (kt2.trans w1).2.2.2 j (hz j hj)) (fun _ => ⟨fun g hg => ?_, fun S4 s4 => ?_⟩) (fun z => absurd w2 z)
    · rw [(w3.1.2.2.2 g hg).1]; exact bI_bz _
    · have e29 : vI S4 729 1 = nI (cn C1) := by
        rw [s4.2.2.2.1]; exact w3.1.1
      rw [e29]
      exact hok S3 S4 C1 q (kt2.trans w1) s4 w3
  · refine r_145 h (fun j hj => (kt2.trans w1).2.2.2 j (hz j hj)) (fun z => absurd (by rw [w2.1] at z; exact z) (er_ne w2.2.2.1 w2.2.2.2.1)) (fun _ => ?_)
    rw [w2.1, w2.2.1]
    exact her S3 e q (kt2.trans w1) w2.2.2.1 w2.2.2.2.1 w2.2.2.2.2
end RI
