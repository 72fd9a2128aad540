/-! the calls that are left, on fresh objects -/
theorem tabM_big : ∀ r ∈ tabM, 100 ≤ r.2.1 := by decide
theorem InMk_same2 {M M1 : Mm} {m k : Nat} (h : InMk M m k) (hs : ∀ a, (mK M a = 12 ∨ 100 ≤ mK M a) → Same M M1 a) : InMk M1 m k := by
  obtain ⟨k0, z, f⟩ := h
  obtain ⟨a0, b0, -⟩ := hs m (Or.inl k0)
  refine ⟨a0.trans k0, fun g => ⟨(b0 g).1.trans (z g).1, (b0 g).2.1.trans (z g).2⟩, fun i r hi hk => ?_⟩
  obtain ⟨a, h1, h2, h3, h4⟩ := f i r hi hk
  obtain ⟨a1, -, c1, d1⟩ := hs a (Or.inr (by rw [h2]; exact tabM_big r (List.mem_of_getElem? hi)))
  exact ⟨a, (b0 r.1).2.2.trans h1, a1.trans h2, c1.trans h3, fun j => ⟨(d1 j).1.trans (h4 j).1, (d1 j).2.1.trans (h4 j).2⟩⟩
def Z0 : St := (fun _ => 0, fun _ => 0, fun _ _ => 0, fun _ _ => 0)
theorem z0 : (∀ f, gI Z0 f = 0) ∧ (∀ f, gJ Z0 f = 0) ∧ (∀ f j, vI Z0 f j = 0) ∧ (∀ f j, vJ Z0 f j = 0) := ⟨fun _ => rfl, fun _ => rfl, fun _ _ => rfl, fun _ _ => rfl⟩
theorem fresh_SH {M : Mm} {m : Nat} (h : InMk M m 36) : ∃ ra, SH M m ra ∧ pM M m ra Z0 = M := by
  have key : ∀ r ∈ tabM, mR M r.1 m = some ((mR M r.1 m).getD 0) ∧ mK M ((mR M r.1 m).getD 0) = r.2.1 ∧ aN M ((mR M r.1 m).getD 0) = r.2.2 ∧ ∀ j, aI M ((mR M r.1 m).getD 0) j = 0 ∧ aJ M ((mR M r.1 m).getD 0) j = 0 := by
    intro r hr
    obtain ⟨i, hi⟩ := List.getElem?_of_mem hr
    have hl := (List.getElem?_eq_some_iff.mp hi).1
    obtain ⟨a, h1, h2, h3, h4⟩ := h.2.2 i r hi hl
    rw [h1]
    exact ⟨rfl, h2, h3, h4⟩
  refine ⟨fun f => (mR M f m).getD 0, ⟨h.1, fun r hr => ⟨(key r hr).1, (key r hr).2.1, (key r hr).2.2.1⟩⟩, ?_⟩
  have hid : ∀ k, idOf k ≠ 0 → ∃ r ∈ tabM, r.1 = idOf k := by
    intro k hk
    unfold idOf at hk ⊢
    split at hk <;> first | exact absurd rfl hk | decide
  have val : ∀ a, rA M (fun f => (mR M f m).getD 0) a → ∀ j, aI M a j = 0 ∧ aJ M a j = 0 := by
    intro a ha j
    obtain ⟨r, hr, e⟩ := hid _ ha.1
    have := (key r hr).2.2.2 j
    rw [e] at this
    have e2 : a = (mR M (idOf (mK M a)) m).getD 0 := ha.2
    rw [← e2] at this
    exact this
  refine Prod.ext rfl (Prod.ext (funext fun g => funext fun a => ?_) (Prod.ext (funext fun g => funext fun a => ?_) (Prod.ext rfl (Prod.ext rfl (Prod.ext (funext fun a => funext fun i => ?_) (Prod.ext (funext fun a => funext fun i => ?_) rfl))))))
  · show (if a = m then (0 : Int32) else mI M g a) = mI M g a
    by_cases ha : a = m
    · rw [if_pos ha, ha, (h.2.1 g).1]
    · rw [if_neg ha]
  · show (if a = m then (0 : Int64) else mJ M g a) = mJ M g a
    by_cases ha : a = m
    · rw [if_pos ha, ha, (h.2.1 g).2]
    · rw [if_neg ha]
  · show (if rA M _ a then (0 : Int32) else aI M a i) = aI M a i
    by_cases q : rA M (fun f => (mR M f m).getD 0) a
    · rw [if_pos q, (val a q i).1]
    · rw [if_neg q]
  · show (if rA M _ a then (0 : Int64) else aJ M a i) = aJ M a i
    by_cases q : rA M (fun f => (mR M f m).getD 0) a
    · rw [if_pos q, (val a q i).2]
    · rw [if_neg q]
section RN
variable {M : Mm} {m : Nat} {ra : Nat → Nat} {S : St}
theorem r_good (h : SH M m ra) {K : Int32 → Mm → Prop} (hK : K (if gI S 712 = 0 then 1 else 0) (pM M m ra S)) : wp_X11_good (pM M m ra S) m K := by
  unfold wp_X11_good bk_X11_good_12
  refine ⟨FK h, fun q => ?_, fun q => ?_⟩ <;> rw [p_mI] at q
  · rw [if_neg q] at hK; exact ⟨Or.inl rfl, hK⟩
  · rw [if_pos q] at hK; exact ⟨Or.inr rfl, hK⟩
theorem r_next_end (h : SH M m ra) {K : Mm → Prop} (h1 : gI S 706 ≤ gI S 707) (hK : K (pM M m ra (pI (pI (pJ (pI S 709 (gI S 707)) 710 0) 711 (-1)) 708 0))) : wp_X11_next (pM M m ra S) m K := by
  have h2 := Int32.not_lt.mpr h1
  unfold wp_X11_next wp_X11_byteAt bk_X11_byteAt_18
  refine ⟨FK h, FK h, fun _ => ⟨1, ?_⟩, fun q => absurd (by rw [p_mI, p_mI]; exact h1) q⟩
  simp [lp_X11_next_9, bk_X11_next_66, FK h, p_mK, p_mI, p_mJ, p_sI, p_sJ, sg, h1, h2, hK]
theorem r_build0 (h : SH M m ra) {K : Int32 → Mm → Prop} (hK : ∀ S1, K (-10) (pM M m ra S1)) : wp_X11_build (pM M m ra Z0) m K := by
  have v0 : vp_in 0 2 := by unfold vp_in; decide
  have w0 : vp_in 0 8 := by unfold vp_in; decide
  have w1 : vp_in 1 8 := by unfold vp_in; decide
  have w2 : vp_in 2 8 := by unfold vp_in; decide
  have w3 : vp_in 3 8 := by unfold vp_in; decide
  unfold wp_X11_build
  simp only [p_sI, p_mR, p_aN, (F729 h).1]
  refine ⟨FK h, ra 729, rfl, (F729 h).2.1 _, by rw [(F729 h).2.2.1]; exact v0, 5, ?_⟩
  simp only [(F729 h).2.2.2.2, p_sI]
  obtain ⟨S1, hS1⟩ : ∃ S1, S1 = pI (pI (wI (pI (pI (pI Z0 704 0) 707 0) 712 0) 729 (0 : Int32).toNatClampNeg 0) 730 0) 731 0 := ⟨_, rfl⟩
  rw [← hS1]
  have a1 : gI S1 706 = 0 ∧ gI S1 707 = 0 ∧ gI S1 712 = 0 := by rw [hS1]; simp [sg, z0]
  clear hS1
  simp only [lp_X11_build_34, p_mR, p_aN, (F727 h).1, (F728 h).1]
  refine ⟨fun q => absurd q (by decide), fun _ => ⟨FK h, ra 727, rfl, (F727 h).2.1 _, by rw [(F727 h).2.2.1]; exact w0, ?_⟩⟩
  simp only [(F727 h).2.2.2.2, p_mR, p_aN, (F728 h).1]
  refine ⟨ra 728, rfl, (F728 h).2.1 _, by rw [(F728 h).2.2.1]; exact w0, ?_⟩
  simp only [(F728 h).2.2.2.2, p_mR, p_aN, (F727 h).1]
  refine ⟨fun q => absurd q (by decide), fun _ => ⟨FK h, ra 727, rfl, (F727 h).2.1 _, by rw [(F727 h).2.2.1]; exact w1, ?_⟩⟩
  simp only [(F727 h).2.2.2.2, p_mR, p_aN, (F728 h).1]
  refine ⟨ra 728, rfl, (F728 h).2.1 _, by rw [(F728 h).2.2.1]; exact w1, ?_⟩
  simp only [(F728 h).2.2.2.2, p_mR, p_aN, (F727 h).1]
  refine ⟨fun q => absurd q (by decide), fun _ => ⟨FK h, ra 727, rfl, (F727 h).2.1 _, by rw [(F727 h).2.2.1]; exact w2, ?_⟩⟩
  simp only [(F727 h).2.2.2.2, p_mR, p_aN, (F728 h).1]
  refine ⟨ra 728, rfl, (F728 h).2.1 _, by rw [(F728 h).2.2.1]; exact w2, ?_⟩
  simp only [(F728 h).2.2.2.2, p_mR, p_aN, (F727 h).1]
  refine ⟨fun q => absurd q (by decide), fun _ => ⟨FK h, ra 727, rfl, (F727 h).2.1 _, by rw [(F727 h).2.2.1]; exact w3, ?_⟩⟩
  simp only [(F727 h).2.2.2.2, p_mR, p_aN, (F728 h).1]
  refine ⟨ra 728, rfl, (F728 h).2.1 _, by rw [(F728 h).2.2.1]; exact w3, ?_⟩
  simp only [(F728 h).2.2.2.2]
  refine ⟨fun _ => ⟨FK h, ?_⟩, fun q => absurd (show (4 : Int32) ≤ 0 + 1 + 1 + 1 + 1 by decide) q⟩
  refine r_next_end h (by simp [sg, a1]) ⟨2, ?_⟩
  simp [lp_X11_build_65, bk_X11_build_83, bk_X11_build_114, bk_X11_build_115, bk_X11_build_135, bk_X11_build_139, bk_X11_build_145, wp_X11_good, bk_X11_good_12, wp_X11_isKeyword, bk_X11_isKeyword_20, bk_X11_isKeyword_21, wp_X11_isName, bk_X11_isName_19, bk_X11_isName_20, wp_X11_statement, wp_X11_misplaced, bk_X11_misplaced_14, wp_X11_fault, bk_X11_fault_20, FK h, p_mK, p_mI, p_mJ, p_sI, p_sJ, sg, a1, bz, hK]
end RN
theorem c_over {M : Mm} {s tb : Nat} {K : Mm → Prop} (ks : mK M s = 5) (rs : mR M 256 s = some tb) (kt : mK M tb = 1) (hl : mI M 1 tb ≤ mI M 257 s) (hst : s ≠ tb) (hK : K (sI (sI M 259 s (mI M 257 s)) 258 s 0)) : wp_X4_advance M s K := by
  unfold wp_X4_advance
  refine ⟨1, ?_⟩
  simp only [lp_X4_advance_0]
  refine ⟨ks, tb, rs, kt, fun _ => ?_, fun q => absurd hl q⟩
  unfold bk_X4_advance_44
  refine ⟨ks, tb, rs, kt, ?_⟩
  have e : mI (sI M 259 s (mI M 257 s)) 257 s = mI M 257 s := by simp [ms]
  have e2 : mI (sI M 259 s (mI M 257 s)) 1 tb = mI M 1 tb := by simp [ms]
  have fin : (0 ≤ (-1 : Int32) → ((-1 : Int32) < 97 → bk_X4_advance_124 s K (-1) (sI M 259 s (mI M 257 s))) ∧ (¬ (-1 : Int32) < 97 → ((122 : Int32) < (-1 : Int32) → bk_X4_advance_124 s K (-1) (sI M 259 s (mI M 257 s))) ∧ (¬ (122 : Int32) < (-1 : Int32) → True))) := fun q => absurd q (by decide)
  unfold wp_X0_at bk_X0_at_25 bk_X0_at_26
  rw [e, e2]
  refine ⟨fun _ => ⟨fun q => absurd q (by decide), fun _ => ⟨ks, hK⟩⟩, fun _ => ⟨kt, fun _ => ⟨fun q => absurd q (by decide), fun _ => ⟨ks, hK⟩⟩, fun q => absurd hl q⟩⟩
theorem c_build0 {M : Mm} {x tb ta pb pa ob oa lb la : Nat} {K : Int32 → Mm → Prop} (h : InC M x tb ta pb pa ob oa lb la) (hK : ∀ M1, (∀ a, mK M a ≠ 0 → a ≠ x → a ≠ tb → Same M M1 a) → K (-10) M1) : wp_X10_build M x K := by
  obtain ⟨c0, c1, c2, c3, c4, c5, c6, ⟨d0, d1, d2, d3, d4⟩, -⟩ := h
  unfold wp_X10_build
  intro r h1 s h2
  simp only [ms] at h2
  obtain ⟨n21, h2⟩ := f0 h2 (by decide)
  have x1 : x ≠ r := fun e => by rw [e, h1] at c0; cases c0
  have x2 : x ≠ s := fun e => by rw [e, h2] at c0; cases c0
  have t1 : tb ≠ r := fun e => by rw [e, h1] at d0; cases d0
  have t2 : tb ≠ s := fun e => by rw [e, h2] at d0; cases d0
  have xt : x ≠ tb := fun e => by rw [e, d0] at c0; cases c0
  refine ⟨by simp [ms, x1, x2, c0], ?_⟩
  unfold wp_X4_init
  refine ⟨by simp [ms], ?_⟩
  intro g h3
  simp only [ms] at h3
  obtain ⟨n32, h3⟩ := f0 h3 (by decide)
  obtain ⟨n31, h3⟩ := f0 h3 (by decide)
  have x3 : x ≠ g := fun e => by rw [e, h3] at c0; cases c0
  have t3 : tb ≠ g := fun e => by rw [e, h3] at d0; cases d0
  refine ⟨by simp [ms, x1, x2, x3, c0], ?_⟩
  refine t_X1_init (by simp [ms]) (fun M1 sa sp tk a b c hs _ _ _ _ _ _ _ _ _ _ _ _ _ _ => ?_)
  have sx := hs x (by simp [ms, x1, x2, x3, c0]) x3
  have st := hs tb (by simp [ms, t1, t2, t3, d0]) t3
  have sr := hs r (by simp [ms, n21.symm, n31.symm]) n31.symm
  have ss := hs s (by simp [ms, n32.symm]) n32.symm
  have so : ∀ d, mK M d ≠ 0 → Same M M1 d := fun d hd => by
    have g1 : d ≠ r := fun e => hd (e ▸ h1)
    have g2 : d ≠ s := fun e => hd (e ▸ h2)
    have g3 : d ≠ g := fun e => hd (e ▸ h3)
    obtain ⟨u1, u2, u3, u4⟩ := hs d (by simp [ms, g1, g2, g3, hd]) g3
    exact ⟨by rw [u1]; simp [ms, g1, g2, g3], fun f => by rw [(u2 f).1, (u2 f).2.1, (u2 f).2.2]; simp [ms, g1, g2, g3], by rw [u3]; simp [ms], fun j => by rw [(u4 j).1, (u4 j).2.1, (u4 j).2.2]; simp [ms]⟩
  have kx : mK M1 x = 11 := (so x (by rw [c0]; decide)).1.trans c0
  have rx : mR M1 640 x = some tb := ((so x (by rw [c0]; decide)).2.1 640).2.2.trans c1
  have kt : mK M1 tb = 1 := (so tb (by rw [d0]; decide)).1.trans d0
  have it : mI M1 1 tb = 0 := ((so tb (by rw [d0]; decide)).2.1 1).1.trans d2
  have kr : mK M1 r = 8 := by rw [sr.1]; simp [ms, n21.symm, n31.symm]
  have ks : mK M1 s = 5 := by rw [ss.1]; simp [ms, n32.symm]
  have is1 : mI M1 257 s = 0 := by rw [(ss.2.1 257).1]; simp [ms, n32.symm]
  have rs : mR M1 256 s = some tb := by rw [(ss.2.1 256).2.2]; simp [ms, n32.symm, x1, x2, c1]
  have sr' : s ≠ r := n21
  unfold wp_X7_init
  refine ⟨kr, kr, ?_⟩
  unfold wp_X7_readText
  refine ⟨kr, s, by simp [ms], ks, ?_⟩
  obtain ⟨N, hN⟩ : ∃ N, N = sR (sR M1 448 r (some s)) 449 r (some g) := ⟨_, rfl⟩
  rw [← hN]
  have b1 : mK N r = 8 ∧ mK N s = 5 ∧ mK N tb = 1 ∧ mK N x = 11 := by rw [hN]; exact ⟨kr, ks, kt, kx⟩
  have b2 : mR N 448 r = some s := by rw [hN]; simp [ms]
  have b3 : mR N 256 s = some tb := by rw [hN]; simp [ms, rs]
  have b4 : mI N 257 s = 0 := by rw [hN]; exact is1
  have b5 : mI N 1 tb = 0 := by rw [hN]; exact it
  have b6 : mR N 640 x = some tb := by rw [hN]; simp [ms, rx]
  have so : ∀ d, mK M d ≠ 0 → Same M N d := fun d hd => by
    have g1 : d ≠ r := fun e => hd (e ▸ h1)
    obtain ⟨u1, u2, u3, u4⟩ := so d hd
    rw [hN]
    exact ⟨u1, fun f => by simp only [ms, g1, if_false]; exact u2 f, u3, u4⟩
  clear hN
  refine c_over b1.2.1 b3 b1.2.2.1 (by rw [b4, b5]; decide) t2.symm ?_
  rw [b4]
  obtain ⟨N2, hN2⟩ : ∃ N2, N2 = sI (sI N 259 s 0) 258 s 0 := ⟨_, rfl⟩
  rw [← hN2]
  have d1 : mK N2 r = 8 ∧ mK N2 s = 5 ∧ mK N2 tb = 1 ∧ mK N2 x = 11 := by rw [hN2]; exact b1
  have d2 : mR N2 448 r = some s := by rw [hN2]; exact b2
  have d4 : mI N2 258 s = 0 := by rw [hN2]; simp [ms]
  have d5 : mI N2 259 s = 0 := by rw [hN2]; simp [ms]
  have d6 : mR N2 640 x = some tb := by rw [hN2]; exact b6
  have so2 : ∀ d, mK M d ≠ 0 → Same M N2 d := fun d hd => by
    have g2 : d ≠ s := fun e => hd (e ▸ h2)
    obtain ⟨u1, u2, u3, u4⟩ := so d hd
    rw [hN2]
    exact ⟨u1, fun f => by simp only [ms, g2, if_false]; exact u2 f, u3, u4⟩
  clear hN2
  rw [lp_X7_readText_9]
  refine ⟨fun q => absurd q (by decide), fun _ => ⟨fun _ => ?_, fun q => absurd (by decide) q⟩⟩
  unfold bk_X7_readText_31
  refine ⟨fun _ => ?_, fun q => absurd q (by decide)⟩
  unfold bk_X7_readText_42
  refine ⟨d1.1, ?_⟩
  unfold wp_X7_isKeyword bk_X7_isKeyword_27 bk_X7_isKeyword_28
  refine ⟨d1.1, s, d2, d1.2.1, fun _ => ⟨Or.inl rfl, fun _ => ⟨d1.1, ?_⟩, fun q => absurd rfl q⟩, fun q => absurd (d4.symm.trans q) (by decide)⟩
  unfold wp_X7_readBeginning
  refine ⟨d1.1, s, d2, d1.2.1, fun q => absurd (d4.symm.trans q) (by decide), fun _ => ?_⟩
  unfold wp_X7_refuseToken bk_X7_refuseToken_17
  refine ⟨d1.1, s, d2, d1.2.1, fun _ => ⟨r, rfl, d1.1, ?_⟩, fun q => absurd (d4.symm.trans q) (by decide)⟩
  unfold wp_X7_refuse
  refine ⟨d1.1, s, d2, d1.2.1, Or.inl rfl, fun _ => ?_, fun a9 q => by cases q⟩
  rw [show mI (sI N2 450 r 2) 259 s = 0 by simp only [ms, sr', if_false]; exact d5]
  unfold bk_X7_readText_91
  refine ⟨d1.2.2.2, tb, d6, d1.2.2.1, ?_⟩
  unfold wp_X0_clear
  refine ⟨d1.2.2.1, d1.1, d1.2.2.2, fun q => absurd rfl q, fun _ => ?_⟩
  rw [show (-10 : Int32) - mI (sI (sI (sI (sI N2 450 r 2) 451 r 0) 1 tb 0) 645 x (mI (sI (sI (sI N2 450 r 2) 451 r 0) 1 tb 0) 450 r)) 451 r = -10 by simp [ms, t1.symm, x1.symm]]
  refine hK _ (fun d hd hdx hdt => ?_)
  have g1 : d ≠ r := fun e => hd (e ▸ h1)
  have g2 : d ≠ s := fun e => hd (e ▸ h2)
  obtain ⟨u1, u2, u3, u4⟩ := so2 d hd
  exact ⟨u1, fun f => by simp only [ms, g1, hdx, hdt, if_false]; exact u2 f, u3, u4⟩
