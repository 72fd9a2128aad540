theorem p1_wp (b L : Nat) (xs : Nat → Int32) (hL : L ≤ 6) : wp_L_law wM0 b L xs (fun r _ => r = 1) := by
  refine t_law (fun M x m o tb ta pb pa ob oa lb la hF => ?_)
  by_cases h6 : L = 6
  · subst h6
    have hR : ∀ M1, lp_L_law_23 b 6 xs (fun r _ => r = 1) 7 (some x) (some m) (some o) (0 + 6) M1 := fun M1 => by
      rw [lp_L_law_23]
      exact ⟨fun _ => rfl, fun q => absurd (by decide) q⟩
    have v0 : vp_in 0 6 := by unfold vp_in; decide
    have v1 : vp_in (0 + 1) 6 := by unfold vp_in; decide
    have v2 : vp_in (0 + 2) 6 := by unfold vp_in; decide
    have v3 : vp_in (0 + 3) 6 := by unfold vp_in; decide
    have v4 : vp_in (0 + 4) 6 := by unfold vp_in; decide
    have v5 : vp_in (0 + 5) 6 := by unfold vp_in; decide
    rw [lp_L_law_23]
    exact ⟨fun q => absurd q (by decide), fun _ => ⟨v0, fun _ => hR _, fun _ => q_feed hF hR v1 v2 v3, fun _ => q_build hF hR v1 v2 v3, fun _ => q_fault hF hR v1 v2 v3 v4 v5, fun _ => q_row hF hR v1 v2 v3 v4 v5, fun _ => q_mark hF hR v1 v2 v3 v4 v5, fun _ => q_end hF hR v1 v2 v3 v4 v5, fun _ => q_idle hF hR v1 v2 v3 v4 v5, fun _ => q_turn hF hR v1 v2 v3 v4 v5, fun _ => q_hold hF hR v1 v2 v3 v4 v5, fun _ => q_release hF hR v1 v2 v3 v4 v5, fun _ => q_watermark hF hR v1 v2 v3 v4 v5, fun _ => q_isIdle hF hR v1 v2 v3 v4 v5, fun _ => q_promise hF hR v1 v2 v3 v4 v5, fun _ => q_part hF hR v1 v2 v3 v4 v5, fun _ => q_kept hF hR v1 v2 v3 v4 v5, fun _ => q_out hF hR v1 v2 v3, fun _ => q_late hF hR v1 v2 v3, fun _ => q_told hF hR v1 v2 v3, fun _ => q_print hF hR v1 v2 v3 v4 v5, fun _ => q_letter hF hR v1 v2 v3⟩⟩
  · rw [lp_L_law_23]
    refine ⟨fun _ => rfl, fun q => absurd ?_ q⟩
    rcases (show L = 0 ∨ L = 1 ∨ L = 2 ∨ L = 3 ∨ L = 4 ∨ L = 5 by omega) with rfl | rfl | rfl | rfl | rfl | rfl <;> decide
