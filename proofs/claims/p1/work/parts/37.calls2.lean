section Q2
variable {M : Mm} {x m o tb ta pb pa ob oa lb la b L : Nat} {xs : Nat → Int32} {K : Int32 → Mm → Prop} {R : Option Nat → Option Nat → Option Nat → Int32 → Mm → Prop} {l4 : Int32}
set_option maxHeartbeats 2000000 in
theorem q_out (h : Fresh M x m o tb ta pb pa ob oa lb la) (hR : ∀ M1, R (some x) (some m) (some o) (l4 + 6) M1) (v1 : vp_in (l4 + 1) L) (v2 : vp_in (l4 + 2) L) (v3 : vp_in (l4 + 3) L) : bk_L_law_956 b L xs R K (some x) (some m) (some o) l4 M := by
  obtain ⟨hC, hM, ho, hn⟩ := h
  obtain ⟨c0, c1, c2, c3, c4, c5, c6, ⟨d0, d1, d2, d3, d4⟩, ⟨e0, e1, e2, e3, e4⟩, ⟨f0, f1, f2, f3, f4, f5⟩, ⟨g0, g1, g2, g3, g4, g5⟩, -⟩ := hC
  have m0 := hM.1
  have z := hM.2.1
  by_cases hp : xs ((l4 + 1)).toNatClampNeg < 0
  · simp [bk_L_law_1020, bk_L_law_1153, bk_L_law_956, bk_X11_noted_32, bk_X11_noted_33, bk_X11_noted_46, bk_X11_noted_67, bk_X3_has_33, bk_X3_has_34, wp_L_out, wp_X10_out, wp_X11_noted, wp_X11_out, wp_X11_thrown, wp_X3_get, wp_X3_has, hp, c0, c1, c2, c3, c4, c5, c6, d0, d1, d2, d3, d4, e0, e1, e2, e3, e4, f0, f1, f2, f3, f4, f5, g0, g1, g2, g3, g4, g5, m0, z, ms, hR, v1, v2, v3, bz]
  · have hp' := Int32.not_lt.mp hp
    simp [bk_L_law_1020, bk_L_law_1153, bk_L_law_956, bk_X11_noted_32, bk_X11_noted_33, bk_X11_noted_46, bk_X11_noted_67, bk_X3_has_33, bk_X3_has_34, wp_L_out, wp_X10_out, wp_X11_noted, wp_X11_out, wp_X11_thrown, wp_X3_get, wp_X3_has, hp, hp', c0, c1, c2, c3, c4, c5, c6, d0, d1, d2, d3, d4, e0, e1, e2, e3, e4, f0, f1, f2, f3, f4, f5, g0, g1, g2, g3, g4, g5, m0, z, ms, hR, v1, v2, v3, bz]
set_option maxHeartbeats 2000000 in
theorem q_late (h : Fresh M x m o tb ta pb pa ob oa lb la) (hR : ∀ M1, R (some x) (some m) (some o) (l4 + 6) M1) (v1 : vp_in (l4 + 1) L) (v2 : vp_in (l4 + 2) L) (v3 : vp_in (l4 + 3) L) : bk_L_law_1023 b L xs R K (some x) (some m) (some o) l4 M := by
  obtain ⟨hC, hM, ho, hn⟩ := h
  obtain ⟨c0, c1, c2, c3, c4, c5, c6, ⟨d0, d1, d2, d3, d4⟩, ⟨e0, e1, e2, e3, e4⟩, ⟨f0, f1, f2, f3, f4, f5⟩, ⟨g0, g1, g2, g3, g4, g5⟩, -⟩ := hC
  have m0 := hM.1
  have z := hM.2.1
  by_cases hp : xs ((l4 + 1)).toNatClampNeg < 0
  · simp [bk_L_law_1023, bk_L_law_1087, bk_L_law_1153, bk_X11_noted_32, bk_X11_noted_33, bk_X11_noted_46, bk_X11_noted_67, bk_X3_has_33, bk_X3_has_34, wp_L_late, wp_X10_late, wp_X11_late_, wp_X11_noted, wp_X11_thrown, wp_X3_get, wp_X3_has, hp, c0, c1, c2, c3, c4, c5, c6, d0, d1, d2, d3, d4, e0, e1, e2, e3, e4, f0, f1, f2, f3, f4, f5, g0, g1, g2, g3, g4, g5, m0, z, ms, hR, v1, v2, v3, bz]
  · have hp' := Int32.not_lt.mp hp
    simp [bk_L_law_1023, bk_L_law_1087, bk_L_law_1153, bk_X11_noted_32, bk_X11_noted_33, bk_X11_noted_46, bk_X11_noted_67, bk_X3_has_33, bk_X3_has_34, wp_L_late, wp_X10_late, wp_X11_late_, wp_X11_noted, wp_X11_thrown, wp_X3_get, wp_X3_has, hp, hp', c0, c1, c2, c3, c4, c5, c6, d0, d1, d2, d3, d4, e0, e1, e2, e3, e4, f0, f1, f2, f3, f4, f5, g0, g1, g2, g3, g4, g5, m0, z, ms, hR, v1, v2, v3, bz]
set_option maxHeartbeats 2000000 in
theorem q_letter (h : Fresh M x m o tb ta pb pa ob oa lb la) (hR : ∀ M1, R (some x) (some m) (some o) (l4 + 6) M1) (v1 : vp_in (l4 + 1) L) (v2 : vp_in (l4 + 2) L) (v3 : vp_in (l4 + 3) L) : bk_L_law_1128 b L xs R K (some x) (some m) (some o) l4 M := by
  obtain ⟨hC, hM, ho, hn⟩ := h
  obtain ⟨c0, c1, c2, c3, c4, c5, c6, ⟨d0, d1, d2, d3, d4⟩, ⟨e0, e1, e2, e3, e4⟩, ⟨f0, f1, f2, f3, f4, f5⟩, ⟨g0, g1, g2, g3, g4, g5⟩, -⟩ := hC
  have m0 := hM.1
  have z := hM.2.1
  by_cases hp : xs ((l4 + 1)).toNatClampNeg < 0
  · simp [bk_L_law_1128, bk_L_law_1153, bk_X0_at_25, bk_X0_at_26, bk_X10_letter_18, bk_X11_letter_17, bk_X11_letter_27, wp_X0_at, wp_X10_letter, wp_X11_letter, hp, c0, c1, c2, c3, c4, c5, c6, d0, d1, d2, d3, d4, e0, e1, e2, e3, e4, f0, f1, f2, f3, f4, f5, g0, g1, g2, g3, g4, g5, m0, z, ms, hR, v1, v2, v3, bz]
  · have hp' := Int32.not_lt.mp hp
    simp [bk_L_law_1128, bk_L_law_1153, bk_X0_at_25, bk_X0_at_26, bk_X10_letter_18, bk_X11_letter_17, bk_X11_letter_27, wp_X0_at, wp_X10_letter, wp_X11_letter, hp, hp', c0, c1, c2, c3, c4, c5, c6, d0, d1, d2, d3, d4, e0, e1, e2, e3, e4, f0, f1, f2, f3, f4, f5, g0, g1, g2, g3, g4, g5, m0, z, ms, hR, v1, v2, v3, bz]
end Q2
def toldC (p : Int32) : Int32 := if p < 0 then -1 else if (8 : Int32) < p then -1 else 0
theorem c_told {M : Mm} {x tb : Nat} {p : Int32} {K : Int32 → Mm → Prop} (c0 : mK M x = 11) (c5 : mR M 644 x = none) (c1 : mR M 640 x = some tb) (d0 : mK M tb = 1) (d2 : mI M 1 tb = 0) (hK : K (toldC p) M) : wp_X10_told M x p K := by
  unfold wp_X10_told bk_X10_told_10
  refine ⟨fun h1 => ?_, fun h1 => ⟨fun h2 => ⟨fun h3 => ⟨c0, fun _ => ?_, fun a ha => ?_⟩, fun h3 => ⟨c0, tb, c1, d0, ?_⟩⟩, fun h2 => ?_⟩⟩
  · rw [toldC, if_pos h1] at hK; exact hK
  · rw [toldC, if_neg h1, if_neg (Int32.not_lt.mpr h2)] at hK; exact hK
  · rw [c5] at ha; cases ha
  · rw [toldC, if_neg h1, if_neg (Int32.not_lt.mpr h2)] at hK; rw [d2]; exact hK
  · rw [toldC, if_neg h1, if_pos (Int32.not_le.mp h2)] at hK; exact hK
theorem r_told0 {M : Mm} {m : Nat} {ra : Nat → Nat} (h : SH M m ra) {p : Int32} {K : Int32 → Mm → Prop} (hK : ∀ S, K (toldC p) (pM M m ra S)) : wp_X11_told (pM M m ra Z0) m p K := by
  unfold wp_X11_told
  simp only [p_sI, p_mR, p_aN, p_mI, (F729 h).1, (F729 h).2.2.1, (F729 h).2.2.2.1, sg, z0]
  have e0 : ∀ k : Int32, 0 ≤ k → k ≤ 8 → p = k → toldC p = 0 := fun k a b e => by
    rw [e, toldC, if_neg (Int32.not_lt.mpr a), if_neg (Int32.not_lt.mpr b)]
  have hk : ∀ k : Int32, 0 ≤ k → k ≤ 8 → p = k → ∀ S, K 0 (pM M m ra S) := fun k a b e S => by
    have := hK S
    rw [e0 k a b e] at this
    exact this
  refine ⟨FK h, fun q => ?_, fun q => ⟨ra 729, rfl, (F729 h).2.1 _, by rw [(F729 h).2.2.1]; unfold vp_in; decide, by rw [(F729 h).2.2.2.1]; exact hk 0 (by decide) (by decide) q _⟩, fun q => ?_, fun q => ?_, fun q => ?_, fun q => ?_, fun q => ?_, fun q => ?_, fun q => ?_, fun q => ?_⟩
  · have e : toldC p = -1 := by
      rcases q with q | q
      · rw [toldC, if_pos (Int32.lt_iff_toInt_lt.mpr q)]
      · by_cases h0 : p < 0
        · rw [toldC, if_pos h0]
        · rw [toldC, if_neg h0, if_pos (show (8 : Int32) < p from Int32.lt_iff_toInt_lt.mpr (by rw [show Int32.toInt 8 = 8 by decide]; exact q))]
    have := hK (pI Z0 704 0)
    rw [e] at this
    exact this
  · exact hk 1 (by decide) (by decide) q _
  · exact hk 2 (by decide) (by decide) q _
  · exact hk 3 (by decide) (by decide) q _
  · exact hk 4 (by decide) (by decide) q _
  · unfold wp_X11_heldIn
    refine ⟨1, ?_⟩
    simp [lp_X11_heldIn_4, FK h, p_mK, p_mI, sg, z0, hk 5 (by decide) (by decide) q]
  · unfold wp_X11_partsThat
    refine ⟨1, ?_⟩
    have v1 : vp_in 1 2 := by unfold vp_in; decide
    simp [lp_X11_partsThat_4, FK h, p_mK, p_mR, p_aN, F729 h, v1, sg, z0, hk 6 (by decide) (by decide) q]
  · unfold wp_X11_partsThat
    refine ⟨1, ?_⟩
    have v1 : vp_in 1 2 := by unfold vp_in; decide
    simp [lp_X11_partsThat_4, FK h, p_mK, p_mR, p_aN, F729 h, v1, sg, z0, hk 7 (by decide) (by decide) q]
  · exact hk 8 (by decide) (by decide) q _
theorem c_feedL {x tb ta : Nat} {w : Int64} {K : Int32 → Mm → Prop} : ∀ (k c : Nat) (M : Mm), c + k ≤ 600 → mK M x = 11 → mR M 640 x = some tb → mK M tb = 1 → mR M 0 tb = some ta → mK M ta = 16 → aN M ta = 600 → mI M 1 tb = nI c → (∀ M1, (∀ a, a ≠ tb → a ≠ ta → Same M M1 a) → K (nI (c + k)) M1) → lp_X10_feed_33 x K (k + 1) w (nI k - 1) M := by
  intro k
  induction k with
  | zero =>
    intro c M _ c0 c1 d0 d1 d3 d4 d2 hK
    simp only [lp_X10_feed_33]
    refine ⟨fun _ => ⟨c0, tb, c1, d0, ?_⟩, fun q => absurd (by decide) q⟩
    rw [d2]
    exact hK M (fun a _ _ => ⟨rfl, fun _ => ⟨rfl, rfl, rfl⟩, rfl, fun _ => ⟨rfl, rfl, rfl⟩⟩)
  | succ k ih =>
    intro c M hc c0 c1 d0 d1 d3 d4 d2 hK
    rw [lp_X10_feed_33, nI_pred]
    refine ⟨fun q => absurd q (nI_pos (by omega)), fun _ => ⟨c0, tb, c1, d0, ?_⟩⟩
    unfold wp_X0_add bk_X0_add_33
    have ht : tb ≠ ta := fun e => by rw [e, d3] at d0; cases d0
    have hxt : x ≠ tb := fun e => by rw [e, d0] at c0; cases c0
    refine ⟨d0, ta, d1, ⟨by rw [d3]; decide, by rw [d3]⟩, fun q => ?_, fun _ => ⟨by rw [d2, d4]; exact vp_in_nI (by omega) (by decide), ?_⟩⟩
    · rw [d2, d4] at q
      exact absurd q (nI_ge (by omega) (by decide))
    · rw [show nI k + (-1) = nI k - 1 from (Int32.sub_eq_add_neg ..).symm]
      refine ih (c + 1) _ (by omega) (by simpa [ms] using c0) (by simpa [ms] using c1) (by simpa [ms] using d0) (by simpa [ms] using d1) (by simpa [ms] using d3) (by simpa [ms] using d4) (by simp [ms, d2, nI_succ]) (fun M1 hs => ?_)
      rw [show c + 1 + k = c + (k + 1) by omega]
      refine hK M1 (fun a h1 h2 => ?_)
      obtain ⟨u1, u2, u3, u4⟩ := hs a h1 h2
      exact ⟨by rw [u1]; simp [ms], fun f => by rw [(u2 f).1, (u2 f).2.1, (u2 f).2.2]; simp [ms, h1], by rw [u3]; simp [ms], fun j => by rw [(u4 j).1, (u4 j).2.1, (u4 j).2.2]; simp [ms, h2]⟩
theorem r_feedL {M : Mm} {m : Nat} {ra : Nat → Nat} (h : SH M m ra) {w : Int64} {K : Int32 → Mm → Prop} : ∀ (k c : Nat) (S : St), c + k ≤ 600 → gI S 706 = nI c → (∀ S1, K (nI (c + k)) (pM M m ra S1)) → lp_X11_feed_35 m K (k + 1) w (nI k - 1) (pM M m ra S) := by
  intro k
  induction k with
  | zero =>
    intro c S _ hc hK
    simp only [lp_X11_feed_35]
    refine ⟨fun _ => ⟨FK h, ?_⟩, fun q => absurd (by decide) q⟩
    rw [p_mI, hc]
    exact hK S
  | succ k ih =>
    intro c S hk hc hK
    rw [lp_X11_feed_35, nI_pred]
    refine ⟨fun q => absurd q (nI_pos (by omega)), fun _ => ⟨FK h, ra 705, (F705 h).1, (F705 h).2.1 _, by rw [p_mI, hc, p_aN, (F705 h).2.2.1]; exact vp_in_nI (by omega) (by decide), ?_⟩⟩
    rw [show nI k + (-1) = nI k - 1 from (Int32.sub_eq_add_neg ..).symm]
    simp only [p_mI, (F705 h).2.2.2.2, p_sI]
    refine ih (c + 1) _ (by omega) (by simp [sg, hc, nI_succ]) (fun S1 => ?_)
    rw [show c + 1 + k = c + (k + 1) by omega]
    exact hK S1
section Q3
variable {M : Mm} {x m o tb ta pb pa ob oa lb la b L : Nat} {xs : Nat → Int32} {K : Int32 → Mm → Prop} {R : Option Nat → Option Nat → Option Nat → Int32 → Mm → Prop} {l4 : Int32}
theorem q_told (h : Fresh M x m o tb ta pb pa ob oa lb la) (hR : ∀ M1, R (some x) (some m) (some o) (l4 + 6) M1) (v1 : vp_in (l4 + 1) L) (v2 : vp_in (l4 + 2) L) (v3 : vp_in (l4 + 3) L) : bk_L_law_1090 b L xs R K (some x) (some m) (some o) l4 M := by
  obtain ⟨hC, hM, ho, hn⟩ := h
  obtain ⟨ra, hS, e⟩ := fresh_SH hM
  unfold bk_L_law_1090
  refine ⟨v1, x, rfl, hC.1, c_told hC.1 hC.2.2.2.2.2.1 hC.2.1 hC.2.2.2.2.2.2.2.1.1 hC.2.2.2.2.2.2.2.1.2.2.1 ⟨v1, m, rfl, hM.1, ?_⟩⟩
  rw [← e]
  exact r_told0 hS (fun S => ⟨fun _ => hR _, fun q => absurd rfl q⟩)
theorem q_build (h : Fresh M x m o tb ta pb pa ob oa lb la) (hR : ∀ M1, R (some x) (some m) (some o) (l4 + 6) M1) (v1 : vp_in (l4 + 1) L) (v2 : vp_in (l4 + 2) L) (v3 : vp_in (l4 + 3) L) : bk_L_law_205 b L xs R K (some x) (some m) (some o) l4 M := by
  obtain ⟨hC, hM, ho, hn⟩ := h
  unfold bk_L_law_205
  refine ⟨x, rfl, hC.1, c_build0 hC (fun M1 hs => ?_)⟩
  have hx := hC.1
  have ht := hC.2.2.2.2.2.2.2.1.1
  have hM1 : InMk M1 m 36 := InMk_same2 hM (fun a ha => hs a (fun e => by rcases ha with ha | ha <;> omega) (fun e => by rw [e, hx] at ha; omega) (fun e => by rw [e, ht] at ha; omega))
  obtain ⟨ra, hS, e⟩ := fresh_SH hM1
  refine ⟨m, rfl, hM1.1, ?_⟩
  rw [← e]
  exact r_build0 hS (fun S1 => ⟨fun _ => hR _, fun q => absurd rfl q⟩)
theorem q_feed (h : Fresh M x m o tb ta pb pa ob oa lb la) (hR : ∀ M1, R (some x) (some m) (some o) (l4 + 6) M1) (v1 : vp_in (l4 + 1) L) (v2 : vp_in (l4 + 2) L) (v3 : vp_in (l4 + 3) L) : bk_L_law_136 b L xs R K (some x) (some m) (some o) l4 M := by
  obtain ⟨hC, hM, ho, hn⟩ := h
  obtain ⟨c0, c1, c2, c3, c4, c5, c6, ⟨d0, d1, d2, d3, d4⟩, -⟩ := hC
  unfold bk_L_law_136
  refine ⟨v1, v2, v3, x, rfl, c0, ?_⟩
  generalize xs ((l4 + 3)).toNatClampNeg = p
  by_cases h1 : p < 1
  · unfold wp_X10_feed bk_X10_feed_26
    refine ⟨fun _ => ⟨v1, v2, v3, m, rfl, hM.1, ?_⟩, fun q => absurd h1 q⟩
    unfold wp_X11_feed bk_X11_feed_28
    exact ⟨hM.1, fun _ => ⟨fun _ => hR _, fun q => absurd rfl q⟩, fun q => absurd h1 q⟩
  by_cases h2 : (8 : Int32) < p
  · unfold wp_X10_feed bk_X10_feed_26
    refine ⟨fun q => absurd q h1, fun _ => ⟨fun _ => ⟨v1, v2, v3, m, rfl, hM.1, ?_⟩, fun q => absurd h2 q⟩⟩
    unfold wp_X11_feed bk_X11_feed_28
    exact ⟨hM.1, fun q => absurd q h1, fun _ => ⟨fun _ => ⟨fun _ => hR _, fun q => absurd rfl q⟩, fun q => absurd h2 q⟩⟩
  have h0 : ¬ p < 0 := by
    intro q
    apply h1
    rw [Int32.lt_iff_toInt_lt] at q ⊢
    have e1 : (1 : Int32).toInt = 1 := by decide
    have e2 : (0 : Int32).toInt = 0 := by decide
    omega
  obtain ⟨n, hn8, rfl⟩ := nI_of2 (n := 8) (by decide) h0 (Int32.not_lt.mp h2)
  unfold wp_X10_feed
  refine ⟨fun q => absurd q h1, fun _ => ⟨fun q => absurd q h2, fun _ => ⟨c0, tb, c1, d0, fun _ => ⟨n + 1, ?_⟩, fun q => ?_⟩⟩⟩
  · refine c_feedL n 0 M (by omega) c0 c1 d0 d1 d3 d4 d2 (fun M1 hs => ?_)
    have hM1 : InMk M1 m 36 := InMk_same2 hM (fun a ha => hs a (fun e => by rw [e, d0] at ha; omega) (fun e => by rw [e, d3] at ha; omega))
    refine ⟨v1, v2, v3, m, rfl, hM1.1, ?_⟩
    obtain ⟨ra, hS, e⟩ := fresh_SH hM1
    rw [← e]
    unfold wp_X11_feed
    simp only [p_sI, p_mI, sg, z0]
    refine ⟨FK hS, fun q => absurd q h1, fun _ => ⟨fun q => absurd q h2, fun _ => ⟨fun _ => ⟨n + 1, ?_⟩, fun q => ?_⟩⟩⟩
    · exact r_feedL hS n 0 _ (by omega) (by simp [sg, z0, nI_0]) (fun S1 => ⟨fun _ => hR _, fun q => absurd rfl q⟩)
    · refine absurd ?_ q
      simp only [show ((706 : Nat) = 704) = False by decide, if_false]
      rw [Int32.zero_add]
      exact nI_le (a := n) (b := 600) (by omega) (by decide)
  · rw [d2] at q
    refine absurd ?_ q
    rw [Int32.sub_zero]
    exact nI_le (a := n) (b := 600) (by omega) (by decide)
end Q3

