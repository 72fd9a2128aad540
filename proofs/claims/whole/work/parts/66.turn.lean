/-! the reference: turns go by -/
section R21
variable {M : Mm} {m : Nat} {ra : Nat → Nat} {C : Cfg} {S : St} {D : Dyn}
def SL (C : Cfg) (D : Dyn) (s k : Nat) (S : St) : Prop := ∀ q j, q < cn C → ckd C q = 0 → j < cpt C q → (q < s ∨ (q = s ∧ j < k)) → vI S 758 (4 * q + j) = bI (a_falls C D q j)
theorem r_tI (h : SH M m ra) (hW : WC C) {K : Int32 → Mm → Prop} {R40 : Int32 → Int32 → Mm → Prop} {l2 : Int32} {s : Nat} (hps : ∀ s k, dps D s k ≤ 2) (hs : s < cn C) (hk : ckd C s = 0) (hR : ∀ S1, SA S1 C D → SL C D (s + 1) 0 S1 → R40 l2 (nI (s + 1)) (pM M m ra S1)) : ∀ (r i : Nat) (S : St), i + r = cpt C s → SA S C D → SL C D s i S → lp_X11_turn_53 m R40 K (r + 1) l2 (nI s) (nI i) (pM M m ra S) := by
  intro r
  have h12 := hW.1
  have h4 := (hW.2.2.2 s hs).2.1
  have h1000 := (hW.2.2.2 s hs).2.2.2.2.2.2.2.1
  induction r with
  | zero =>
    intro i S hi hA hSl
    have e : i = cpt C s := by omega
    subst e
    obtain ⟨c1, c2, -⟩ := hA.1.2.2.1 s hs
    rw [lp_X11_turn_53]
    simp (disch := omega) only [RF h, p_mK, p_mR, p_aN, p_aR, p_mI, p_mJ, p_sI, p_sJ, Option.some.injEq, exists_eq_left', true_and, and_true, na1, na3, n_add, n_mul, n_clamp, n_in, c2, n_le, Nat.le_refl, not_true, false_implies, forall_const]
    exact hR S hA (fun q j a b c d => hSl q j a b c (by
      by_cases g : q = s
      · subst g; exact Or.inr ⟨rfl, c⟩
      · omega))
  | succ r ih =>
    intro i S hi hA hSl
    obtain ⟨c1, c2, c3, c4, c5, c6, -⟩ := hA.1.2.2.1 s hs
    rw [hk] at c1
    have p1 := hA.2.2.2.1 s i hs (by omega)
    have p3 := hA.2.2.2.2.2.1 s i hs (by omega)
    have e6 : gI S 738 = dnow D := hA.2.2.2.2.2.2.1
    have hb := hps s i
    have nx : ∀ b, b = a_falls C D s i → lp_X11_turn_53 m R40 K (r + 1) l2 (nI s) (nI (i + 1)) (pM M m ra (wI S 758 (4 * s + i) (bI b))) := fun b hbb => by
      refine ih (i + 1) _ (by omega) (SA_scr hA (Ex.refl.wI (by decide))) (fun q j a b' c d => ?_)
      simp only [sg, if_true]
      by_cases g : q = s ∧ j = i
      · obtain ⟨rfl, rfl⟩ := g
        rw [if_pos rfl, hbb]
      · rw [if_neg (by have := (hW.2.2.2 q a).2.1; omega)]
        exact hSl q j a b' c (by omega)
    have no : a_falls C D s i = false → lp_X11_turn_53 m R40 K (r + 1) l2 (nI s) (nI (i + 1)) (pM M m ra (wI S 758 (4 * s + i) 0)) := fun q => nx false q.symm
    have yes : a_falls C D s i = true → lp_X11_turn_53 m R40 K (r + 1) l2 (nI s) (nI (i + 1)) (pM M m ra (wI S 758 (4 * s + i) 1)) := fun q => nx true q.symm
    have b0 : bz 0 := Or.inl rfl
    have b1 : bz 1 := Or.inr rfl
    rw [lp_X11_turn_53]
    simp (disch := omega) only [RF h, p_mK, p_mR, p_aN, p_aR, p_mI, p_mJ, p_sI, p_sJ, Option.some.injEq, exists_eq_left', true_and, and_true, na1, na3, n_add, n_mul, n_clamp, n_in, c1, c2, c6, n_le, show ¬ cpt C s ≤ i by omega, e_kindOf h, na2, p1, bk_X11_turn_149, bk_X11_turn_150, b0, b1, not_true, not_false_eq_true, false_implies, forall_const]
    refine ⟨fun z => no (by rw [a_falls]; simp; omega), fun z => ⟨fun y => no (by rw [a_falls]; simp [y]), fun y => ?_⟩⟩
    refine r_isStopped h hW hA hps hs (by omega) ?_
    simp (disch := omega) only [bI_0, RF h, p_mK, p_mR, p_aN, p_aR, p_mI, p_mJ, p_sI, p_sJ, Option.some.injEq, exists_eq_left', true_and, and_true, na1, na3, n_add, n_mul, n_clamp, n_in, c6, p3, e6]
    refine ⟨fun w => no (by rw [Bool.not_eq_false] at w; rw [a_falls]; simp [w]), fun w => ⟨fun v => no ?_, fun v => yes ?_⟩⟩
    · rw [a_falls]; simp [Int32.not_le.mpr v]
    · rw [a_falls]; simp [w, y, Int32.not_lt.mp v, show 0 < caf C s by omega]
theorem r_tL (h : SH M m ra) (hW : WC C) {K : Int32 → Mm → Prop} (hps : ∀ s k, dps D s k ≤ 2) (hR : ∀ S1, SA S1 C D → SL C D (cn C) 0 S1 → ∃ kk, lp_X11_turn_165 m K kk 0 0 (pM M m ra S1)) : ∀ (r s : Nat) (S : St), s + r = cn C → SA S C D → SL C D s 0 S → lp_X11_turn_40 m K (r + 1) 0 (nI s) (pM M m ra S) := by
  intro r
  have h12 := hW.1
  induction r with
  | zero =>
    intro s S hs hA hSl
    have e : s = cn C := by omega
    subst e
    rw [lp_X11_turn_40]
    simp (disch := omega) only [RF h, p_mK, p_mR, p_aN, p_aR, p_mI, p_mJ, p_sI, p_sJ, Option.some.injEq, exists_eq_left', true_and, and_true, na1, na3, n_add, n_mul, n_clamp, n_in, hA.1.1, n_le, Nat.le_refl, not_true, false_implies, forall_const]
    exact hR S hA hSl
  | succ r ih =>
    intro s S hs hA hSl
    have hsn : s < cn C := by omega
    obtain ⟨w1, w2, w3, -⟩ := hW.2.2.2 s hsn
    obtain ⟨c1, c2, -⟩ := hA.1.2.2.1 s hsn
    rw [lp_X11_turn_40]
    simp (disch := omega) only [RF h, p_mK, p_mR, p_aN, p_aR, p_mI, p_mJ, p_sI, p_sJ, Option.some.injEq, exists_eq_left', true_and, and_true, na1, na3, n_add, n_mul, n_clamp, n_in, hA.1.1, n_le, show ¬ cn C ≤ s by omega, not_false_eq_true, false_implies, forall_const]
    by_cases c : ckd C s = 0
    · exact ⟨_, r_tI h hW hps hsn c (fun S1 h1 h2 => ih (s + 1) S1 (by omega) h1 h2) (cpt C s) 0 S (Nat.zero_add _) hA hSl⟩
    · refine ⟨1, ?_⟩
      have e0 : cpt C s = 0 := by omega
      rw [lp_X11_turn_53]
      simp (disch := omega) only [RF h, p_mK, p_mR, p_aN, p_aR, p_mI, p_mJ, p_sI, p_sJ, Option.some.injEq, exists_eq_left', true_and, and_true, na1, na3, n_add, n_mul, n_clamp, n_in, c2, e0, na2, Nat.le_refl, not_true, false_implies, forall_const, show (nI 0 ≤ (0 : Int32)) = True by decide]
      refine ih (s + 1) S (by omega) hA (fun q j a b c' d => hSl q j a b c' ?_)
      rcases d with d | d
      · by_cases g : q = s
        · subst g; omega
        · omega
      · omega
theorem SA_yps {f g : Nat → Nat → Nat} (hfg : ∀ q j, q < cn C → j < 4 → f q j = g q j) (hA : SA S C (yps D f)) : SA S C (yps D g) := by
  obtain ⟨hC, d1, d2, d3, d4, d5, d6, d7, d8, d9, d10, d11, d12⟩ := hA
  refine ⟨hC, d1, d2, fun q j hq hj => ?_, d4, d5, d6, d7, d8, d9, d10, d11, d12⟩
  have := d3 q j hq hj
  show _ = nI (g q j)
  rw [← hfg q j hq hj]
  exact this
theorem SL_ps {s k : Nat} {S1 : St} (hx : Ex [735] S S1) (h : SL C D s k S) : SL C D s k S1 := fun q j a b c d => by
  rw [(hx 758 (by decide)).2.2.1]; exact h q j a b c d
theorem r_fI (h : SH M m ra) (hW : WC C) {K : Int32 → Mm → Prop} {R165 : Int32 → Int32 → Mm → Prop} {v : Int32} {s : Nat} (hs : s < cn C) (hk : ckd C s = 0) (hR : ∀ S1, SA S1 C (yps D (a_sl C D (s + 1) 0)) → SL C D (cn C) 0 S1 → R165 (a_pcK (a_falls C D s) v (cpt C s)) (nI (s + 1)) (pM M m ra S1)) : ∀ (r i : Nat) (S : St), i + r = cpt C s → SA S C (yps D (a_sl C D s i)) → SL C D (cn C) 0 S → lp_X11_turn_178 m R165 K (r + 1) (a_pcK (a_falls C D s) v i) (nI s) (nI i) (pM M m ra S) := by
  intro r
  have h12 := hW.1
  have h4 := (hW.2.2.2 s hs).2.1
  induction r with
  | zero =>
    intro i S hi hA hSl
    have e : i = cpt C s := by omega
    subst e
    obtain ⟨c1, c2, -⟩ := hA.1.2.2.1 s hs
    rw [lp_X11_turn_178]
    simp (disch := omega) only [RF h, p_mK, p_mR, p_aN, p_aR, p_mI, p_mJ, p_sI, p_sJ, Option.some.injEq, exists_eq_left', true_and, and_true, na1, na3, n_add, n_mul, n_clamp, n_in, c2, n_le, Nat.le_refl, not_true, false_implies, forall_const]
    refine hR S (SA_yps (fun q j _ _ => ?_) hA) hSl
    unfold a_sl
    by_cases g : ckd C q = 0 ∧ j < cpt C q ∧ a_falls C D q j = true
    · simp only [g.1, g.2.1, g.2.2, and_true]
      by_cases a : q < s
      · rw [if_pos (Or.inl a), if_pos (Or.inl (by omega))]
      · by_cases b : q = s
        · subst b; rw [if_pos (Or.inr ⟨rfl, g.2.1⟩), if_pos (Or.inl (by omega))]
        · rw [if_neg (by omega), if_neg (by omega)]
    · rw [if_neg (fun z => g z.2), if_neg (fun z => g z.2)]
  | succ r ih =>
    intro i S hi hA hSl
    obtain ⟨c1, c2, -⟩ := hA.1.2.2.1 s hs
    have hsl := hSl s i hs hk (by omega) (Or.inl hs)
    have step : ∀ S1, SA S1 C (yps D (a_sl C D s (i + 1))) → SL C D (cn C) 0 S1 → lp_X11_turn_178 m R165 K (r + 1) (a_pcK (a_falls C D s) v (i + 1)) (nI s) (nI (i + 1)) (pM M m ra S1) := fun S1 h1 h2 => ih (i + 1) S1 (by omega) h1 h2
    have mono : ∀ q j, ¬ (q = s ∧ j = i) → a_sl C D s (i + 1) q j = a_sl C D s i q j := fun q j g => by
      unfold a_sl
      by_cases a : (q < s ∨ (q = s ∧ j < i)) ∧ ckd C q = 0 ∧ j < cpt C q ∧ a_falls C D q j = true
      · rw [if_pos a, if_pos ⟨by have := a.1; omega, a.2⟩]
      · rw [if_neg a, if_neg (fun z => a ⟨by have := z.1; omega, z.2⟩)]
    rw [lp_X11_turn_178]
    simp (disch := omega) only [RF h, p_mK, p_mR, p_aN, p_aR, p_mI, p_mJ, p_sI, p_sJ, Option.some.injEq, exists_eq_left', true_and, and_true, na1, na3, n_add, n_mul, n_clamp, n_in, c2, n_le, show ¬ cpt C s ≤ i by omega, hsl, bI_0, bk_X11_turn_221, not_false_eq_true, false_implies, forall_const]
    refine ⟨fun z => ?_, fun z => ?_⟩
    · have := step S (SA_yps (fun q j _ _ => ?_) hA) hSl
      · rw [a_pcK, if_neg (by rw [z]; decide)] at this; exact this
      · by_cases g : q = s ∧ j = i
        · obtain ⟨rfl, rfl⟩ := g
          unfold a_sl
          rw [if_neg (fun w => by have := w.2.2.2; rw [z] at this; cases this), if_neg (fun w => by have := w.2.2.2; rw [z] at this; cases this)]
        · exact (mono q j g).symm
    · rw [Bool.not_eq_false] at z
      have hA1 : SA (wI S 735 (4 * s + i) (nI 1)) C (xps (yps D (a_sl C D s i)) s i 1) := SA_ps (by omega) hA
      have e1 : xps (yps D (a_sl C D s i)) s i 1 = yps D (a_sl C D s (i + 1)) := by
        simp only [xps, yps, dmk, did, dps, dpr, dhr, dnow, dou, dla, dlo, dwi, dke, dti, Prod.mk.injEq, true_and, and_true]
        funext q j
        by_cases g : q = s ∧ j = i
        · obtain ⟨rfl, rfl⟩ := g
          rw [if_pos rfl, if_pos rfl]
          unfold a_sl
          rw [if_pos ⟨Or.inr ⟨rfl, by omega⟩, hk, by omega, z⟩]
        · rw [mono q j g]
          by_cases a : q = s
          · rw [if_pos a, if_neg (fun b => g ⟨a, b⟩)]
          · rw [if_neg a]
      rw [e1] at hA1
      have := step _ hA1 (SL_ps (Ex.refl.wI (by decide)) hSl)
      rw [a_pcK, if_pos z] at this
      exact this
theorem r_fL (h : SH M m ra) (hW : WC C) {K : Int32 → Mm → Prop} (hR : ∀ S1, SA S1 C (yps D (a_sl C D (cn C) 0)) → wp_X11_reckon (pM M m ra S1) m (fun M20 => K (a_pcS C (a_falls C D) (cn C)) M20)) : ∀ (r s : Nat) (S : St), s + r = cn C → SA S C (yps D (a_sl C D s 0)) → SL C D (cn C) 0 S → lp_X11_turn_165 m K (r + 1) (a_pcS C (a_falls C D) s) (nI s) (pM M m ra S) := by
  intro r
  have h12 := hW.1
  induction r with
  | zero =>
    intro s S hs hA hSl
    have e : s = cn C := by omega
    subst e
    rw [lp_X11_turn_165]
    simp (disch := omega) only [RF h, p_mK, p_mR, p_aN, p_aR, p_mI, p_mJ, p_sI, p_sJ, Option.some.injEq, exists_eq_left', true_and, and_true, na1, na3, n_add, n_mul, n_clamp, n_in, hA.1.1, n_le, Nat.le_refl, not_true, false_implies, forall_const]
    exact hR S hA
  | succ r ih =>
    intro s S hs hA hSl
    have hsn : s < cn C := by omega
    obtain ⟨w1, w2, w3, -⟩ := hW.2.2.2 s hsn
    obtain ⟨c1, c2, -⟩ := hA.1.2.2.1 s hsn
    rw [lp_X11_turn_165]
    simp (disch := omega) only [RF h, p_mK, p_mR, p_aN, p_aR, p_mI, p_mJ, p_sI, p_sJ, Option.some.injEq, exists_eq_left', true_and, and_true, na1, na3, n_add, n_mul, n_clamp, n_in, hA.1.1, n_le, show ¬ cn C ≤ s by omega, not_false_eq_true, false_implies, forall_const]
    have nx := fun S1 => ih (s + 1) S1 (by omega)
    rw [a_pcS] at nx
    by_cases c : ckd C s = 0
    · rw [if_pos c] at nx
      exact ⟨_, r_fI (v := a_pcS C (a_falls C D) s) h hW hsn c nx (cpt C s) 0 S (Nat.zero_add _) hA hSl⟩
    · rw [if_neg c] at nx
      refine ⟨1, ?_⟩
      have e0 : cpt C s = 0 := by omega
      rw [lp_X11_turn_178]
      simp (disch := omega) only [RF h, p_mK, p_mR, p_aN, p_aR, p_mI, p_mJ, p_sI, p_sJ, Option.some.injEq, exists_eq_left', true_and, and_true, na1, na3, n_add, n_mul, n_clamp, n_in, c2, e0, na2, Nat.le_refl, not_true, false_implies, forall_const, show (nI 0 ≤ (0 : Int32)) = True by decide]
      refine nx S (SA_yps (fun q j _ _ => ?_) hA) hSl
      unfold a_sl
      by_cases a : (q < s ∨ (q = s ∧ j < 0)) ∧ ckd C q = 0 ∧ j < cpt C q ∧ a_falls C D q j = true
      · rw [if_pos a, if_pos ⟨Or.inl (by omega), a.2⟩]
      · rw [if_neg a, if_neg (fun z => a ⟨Or.inl (by
          rcases z.1 with b | b
          · by_cases g : q = s
            · subst g; exact absurd z.2.1 c
            · omega
          · omega), z.2⟩)]
theorem r_turn (h : SH M m ra) (hW : WC C) {K : Int32 → Mm → Prop} {n : Int32} (hA : SA S C D) (hI : IV C D) (hb : LB (A_turn C D n).2) (hK : ∀ S1, SA S1 C (A_turn C D n).2 → K (A_turn C D n).1 (pM M m ra S1)) : wp_X11_turn (pM M m ra S) m n K := by
  have h12 := hW.1
  have hA0 : SA (pI S 704 0) C D := SA_code hA
  have ht12 : ∀ x ∈ dti D, x.1 < 12 := hI.hts hW
  have e6 : gI (pI S 704 0) 738 = dnow D := hA0.2.2.2.2.2.2.1
  have e2 : gI (pI S 704 0) 732 = 1 := hA0.1.2.1
  have bad : ¬ (1 ≤ n ∧ n ≤ 1000) → K (-1) (pM M m ra (pI S 704 0)) := fun z => by
    unfold A_turn at hK
    rw [if_neg z] at hK
    exact hK _ hA0
  simp only [wp_X11_turn, bk_X11_turn_24, p_mK, FK h, p_sI, p_mI, e2, e6, show ((1 : Int32) = 0) = False by decide, not_false_eq_true, false_implies, forall_const, true_and]
  refine ⟨fun z => bad (fun q => absurd q.1 (Int32.not_le.mpr z)), fun z => ⟨fun y => ?_, fun y => bad (fun q => absurd q.2 y)⟩⟩
  unfold A_turn at hb hK
  rw [if_pos ⟨Int32.not_lt.mp z, y⟩] at hb hK
  unfold a_turn at hb hK
  have hA1 : SA (pI (pI S 704 0) 738 (dnow D + n)) C (xnow D (dnow D + n)) := by
    obtain ⟨hC, d1, d2, d3, d4, d5, d6, d7, d8, d9, d10, d11, d12⟩ := hA0
    refine ⟨?_, ?_⟩
    · rw [f_SC_pI _ _ _ _ (by decide) (by decide) (by decide) (by decide)]; exact hC
    · refine ⟨?_, ?_, ?_, ?_, ?_, by simp [NWW, sg, dg], ?_, ?_, ?_, ?_, ?_, ?_⟩
      · rw [f_MK_pI]; exact d1
      · rw [f_IDL_pI]; exact d2
      · rw [f_PTS_pI]; exact d3
      · rw [f_PTP_pI]; exact d4
      · rw [f_PTH_pI]; exact d5
      · rw [f_NT_pI _ _ _ _ _ _ _ (by decide)]; exact d7
      · rw [f_NT_pI _ _ _ _ _ _ _ (by decide)]; exact d8
      · rw [f_LO_pI _ _ _ _ (by decide)]; exact d9
      · rw [f_WI_pI]; exact d10
      · rw [f_KP_pI]; exact d11
      · rw [f_TI_pI _ _ _ _ (by decide)]; exact d12
  generalize hD1 : xnow D (dnow D + n) = D1 at hA1 hb hK
  have hps1 : ∀ s k, dps D1 s k ≤ 2 := by rw [← hD1]; exact hI.2.1
  have hti1 : ∀ x ∈ dti D1, x.1 < 12 := by rw [← hD1]; exact ht12
  have hI1 : Inv D1 := by rw [← hD1]; exact hI.1
  refine ⟨_, r_tL h hW hps1 (fun S2 hA2 hSl => ⟨_, r_fL h hW (fun S3 hA3 => ?_) (cn C) 0 S2 (Nat.zero_add _) (SA_yps (D := D1) (f := dps D1) (fun q j _ _ => ?_) ?_) hSl⟩) (cn C) 0 _ (Nat.zero_add _) hA1 (fun q j _ _ _ d => by omega)⟩
  · refine r_reckon h hW hA3 hI1 (fun q j => ?_) hti1 hb (fun S4 hA4 => hK S4 hA4)
    show a_sl C D1 (cn C) 0 q j ≤ 2
    unfold a_sl
    split
    · omega
    · exact hps1 q j
  · unfold a_sl
    rw [if_neg (by omega)]
  · exact hA2
end R21
