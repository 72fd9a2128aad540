/-! the law's loop, and the start -/
section D9
variable {M : Mm} {m o b N k : Nat} {ra : Nat → Nat} {S : St} {L : Nat → Nat → Nat} {tp pg : List Nat} {xs : Nat → Int32} {K : Int32 → Mm → Prop} {l4 : Int32}
theorem INV.up {x : Nat} (h : INV k x m o M) : INV (k + 1) x m o M := by
  obtain ⟨L, S, ra, tp, pg, hx, hI, hB⟩ := h
  refine ⟨L, S, ra, tp, pg, hx, hI, ?_⟩
  rcases hB with ⟨C, D, g⟩ | u
  · exact Or.inl ⟨C, D, g.up⟩
  · exact Or.inr u
theorem law_step {f : Nat} (hI : IC M S L m o ra tp pg) (hB : BU k M S L) (hf : K 1 M) (hin : ¬ (nI N - 6 < l4) → k ≤ 520 ∧ vp_in l4 N ∧ V5 l4 N) (hN : ∀ M1, INV (k + 1) (L 0 0) m o M1 → ¬ (nI N - 6 < l4) → lp_L_law_23 b N xs K f (some (L 0 0)) (some m) (some o) (l4 + 6) M1) : lp_L_law_23 b N xs K (f + 1) (some (L 0 0)) (some m) (some o) l4 M := by
  rw [lp_L_law_23]
  refine ⟨fun _ => hf, fun q => ?_⟩
  obtain ⟨hk, v0, V⟩ := hin q
  have hN2 : ∀ M1, INV (k + 1) (L 0 0) m o M1 → lp_L_law_23 b N xs K f (some (L 0 0)) (some m) (some o) (l4 + 6) M1 := fun M1 h => hN M1 h q
  have up : INV (k + 1) (L 0 0) m o M := INV.up ⟨L, S, ra, tp, pg, rfl, hI, hB⟩
  rcases id hB with ⟨C, D, g⟩ | u
  · exact ⟨v0, fun _ => hN2 M up, fun _ => u_feed V hI hB hN2, fun _ => u_build V hI hB hN2, fun _ => u_fault V hI hB hN2, fun _ => g_row V hk hI g hN2, fun _ => g_mark V hk hI g hN2, fun _ => g_end V hk hI g hN2, fun _ => g_idle V hk hI g hN2, fun _ => g_turn V hk hI g hN2, fun _ => g_hold V hk hI g hN2, fun _ => g_rel V hk hI g hN2, fun _ => g_wm V hk hI g hN2, fun _ => g_ii V hk hI g hN2, fun _ => g_pr V hk hI g hN2, fun _ => g_part V hk hI g hN2, fun _ => g_ke V hk hI g hN2, fun _ => g_out V hk hI g hN2, fun _ => g_late V hk hI g hN2, fun _ => g_told V hk hI g hN2, fun _ => g_print V hI g hN2, fun _ => u_letter V hI hB hN2⟩
  · exact ⟨v0, fun _ => hN2 M up, fun _ => u_feed V hI hB hN2, fun _ => u_build V hI hB hN2, fun _ => u_fault V hI hB hN2, fun _ => n_row V hI u hN2, fun _ => n_mark V hI u hN2, fun _ => n_end V hI u hN2, fun _ => n_idle V hI u hN2, fun _ => n_turn V hI u hN2, fun _ => n_hold V hI u hN2, fun _ => n_rel V hI u hN2, fun _ => n_wm V hI u hN2, fun _ => n_ii V hI u hN2, fun _ => n_pr V hI u hN2, fun _ => n_part V hI u hN2, fun _ => n_ke V hI u hN2, fun _ => n_out V hI u hN2, fun _ => n_late V hI u hN2, fun _ => n_told V hI u hN2, fun _ => n_print V hI u hN2, fun _ => u_letter V hI hB hN2⟩
theorem law_in (hN : N ≤ 3072) (hk : 6 * k < 4000) (h : ¬ (nI N - 6 < nI (6 * k))) : 6 * k + 6 ≤ N := by
  by_cases h6 : 6 ≤ N
  · rw [show (6 : Int32) = nI 6 from rfl, n_sub h6, n_lt (by omega) (by omega)] at h
    omega
  · exfalso
    apply h
    have e : (nI N - 6).toInt < 0 := by
      rcases (show N = 0 ∨ N = 1 ∨ N = 2 ∨ N = 3 ∨ N = 4 ∨ N = 5 by omega) with rfl | rfl | rfl | rfl | rfl | rfl <;> decide
    rw [Int32.lt_iff_toInt_lt, n_toInt (by omega)]
    omega
theorem law_loop {x : Nat} (hN : N ≤ 3072) (hK : ∀ M, K 1 M) : ∀ (f k : Nat) (M : Mm), k + f = 519 → INV k x m o M → lp_L_law_23 b N xs K (f + 1) (some x) (some m) (some o) (nI (6 * k)) M := by
  intro f
  induction f with
  | zero =>
    intro k M hk hM
    obtain ⟨L, S, ra, tp, pg, hx, hI, hB⟩ := hM
    subst hx
    refine law_step (k := k) hI hB (hK M) (fun q => ?_) (fun M1 _ q => ?_)
    · have := law_in hN (by omega) q
      omega
    · have := law_in hN (by omega) q
      omega
  | succ f ih =>
    intro k M hk hM
    obtain ⟨L, S, ra, tp, pg, hx, hI, hB⟩ := hM
    subst hx
    refine law_step (k := k) hI hB (hK M) (fun q => ?_) (fun M1 hM1 q => ?_)
    · have l := law_in hN (by omega) q
      have v : ∀ i, i ≤ 5 → vp_in (nI (6 * k) + nI i) N := fun i hi => by rw [n_add]; exact n_in (by omega) (by omega)
      refine ⟨by omega, n_in (by omega) (by omega), v 1 (by decide), v 2 (by decide), v 3 (by decide), v 4 (by decide), v 5 (by decide)⟩
    · have e : nI (6 * k) + 6 = nI (6 * (k + 1)) := by
        rw [show (6 : Int32) = nI 6 from rfl, n_add]; rfl
      rw [e]
      exact ih (k + 1) M1 (by omega) hM1
/-- the places of a new object -/
def frL (x tb ta pb pa ob oa lb la : Nat) : Nat → Nat → Nat := fun _ s => if s = 0 then x else if s = 8 then tb else if s = 9 then ta else if s = 10 then pb else if s = 11 then pa else if s = 12 then ob else if s = 13 then oa else if s = 14 then lb else la
theorem fresh_INV {x tb ta pb pa ob oa lb la : Nat} (h : Fresh M x m o tb ta pb pa ob oa lb la) : INV 0 x m o M := by
  obtain ⟨⟨c1, c2, c3, c4, c5, c6, c7, ⟨t1, t2, t3, t4, t5⟩, ⟨p1, p2, p3, p4, p5⟩, ⟨o1, o2, o3, o4, o5, o6⟩, ⟨l1, l2, l3, l4, l5, l6⟩, n1, n2, n3, n4⟩, ⟨m1, m2, m3⟩, k1, k2⟩ := h
  have tl : ∀ r ∈ tabM, ∃ a, mR M r.1 m = some a ∧ mK M a = r.2.1 ∧ aN M a = r.2.2 ∧ ∀ j, aI M a j = 0 ∧ aJ M a j = 0 := fun r hr => by
    obtain ⟨i, hi, e⟩ := List.mem_iff_getElem.mp hr
    exact m3 i r (by rw [List.getElem?_eq_getElem hi, e]) hi
  have hS : SH M m (fun f => (mR M f m).getD 0) := ⟨m1, fun r hr => by
    obtain ⟨a, a1, a2, a3, -⟩ := tl r hr
    have e : (fun f => (mR M f m).getD 0) r.1 = a := by show (mR M r.1 m).getD 0 = a; rw [a1]; rfl
    exact ⟨a1.trans (by rw [e]), by rw [e]; exact a2, by rw [e]; exact a3⟩⟩
  have z : ∀ f, gI (cont M m (fun f => (mR M f m).getD 0)) f = 0 := fun f => (m2 f).1
  have zv : ∀ r ∈ tabM, ∀ j, vI (cont M m (fun f => (mR M f m).getD 0)) r.1 j = 0 := fun r hr j => by
    obtain ⟨a, a1, a2, a3, a4⟩ := tl r hr
    show aI M ((mR M r.1 m).getD 0) j = 0
    rw [a1]; exact (a4 j).1
  refine ⟨frL x tb ta pb pa ob oa lb la, cont M m (fun f => (mR M f m).getD 0), fun f => (mR M f m).getD 0, [], [], rfl, ⟨⟨c1, c2, c3, c4, c5, ⟨t1, t2, t4, t5⟩, ⟨p1, p2, p4, p5⟩, ⟨o1, o2, o3, o5, o6⟩, ⟨l1, l2, l3, l5, l6⟩, n1, n2, n3, n4⟩, hS, p_self.symm, YB_nil t1 t2 t4 t5 t3, RT_nil (z 706), ⟨p1, p2, p4, p5, p3, Nat.zero_le _, fun i c hc => (by cases hc)⟩, ⟨z 760, Nat.zero_le _, fun i c hc => (by cases hc)⟩, fun c hc => (by cases hc), c7.trans (z 714).symm, ⟨k1, k2⟩, fun j hj => Or.inl ?_⟩, Or.inr ⟨c6, z 732, ?_, z 738, z 739, z 741, z 743, z 752, o4, l4⟩⟩
  · obtain ⟨r, hr, e⟩ := (show ∃ r ∈ tabM, r.1 = 719 by decide)
    rw [← e]; exact zv r hr j
  · obtain ⟨r, hr, e⟩ := (show ∃ r ∈ tabM, r.1 = 729 by decide)
    rw [← e]; exact zv r hr 1
theorem whole_wp (b L : Nat) (xs : Nat → Int32) (hL : L ≤ 3072) : wp_L_law wM0 b L xs (fun r _ => r = 1) := t_law (fun M x m o tb ta pb pa ob oa lb la hF => law_loop hL (fun _ => rfl) 519 0 M rfl (fresh_INV hF))
end D9
