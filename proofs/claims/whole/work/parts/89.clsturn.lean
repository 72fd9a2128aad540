/-! the class: turns go by -/
section K18
variable {B M : Mm} {L : Nat → Nat → Nat} {C : Cfg} {D : Dyn}
def CFL (M : Mm) (L : Nat → Nat → Nat) (C : Cfg) (D : Dyn) (s k : Nat) : Prop := ∀ q j, q < cn C → ckd C q = 0 → j < cpt C q → (q < s ∨ (q = s ∧ j < k)) → aI M (L 7 q) j = bI (a_falls C D q j)
theorem CR_yps {f g : Nat → Nat → Nat} (hfg : ∀ q j, f q j = g q j) (h : CR B M L C (yps D f)) : CR B M L C (yps D g) := by
  have e : f = g := by funext q j; exact hfg q j
  rw [← e]; exact h
theorem c_silent {K : Int32 → Mm → Prop} {s k : Nat} (hW : WC C) (h : CR B M L C D) (hp : PB D) (hs : s < cn C) (k0 : ckd C s = 0) (hk : k < cpt C s) (hK : ∀ b : Bool, (b && !(a_stop C D s k)) = a_falls C D s k → K (bI b) M) : wp_X5_isSilent M (L 3 s) (nI k) (mI M 70 (L 0 1)) K := by
  have h4 := (hW.2.2.2 s hs).2.1
  have h1000 := (hW.2.2.2 s hs).2.2.2.2.2.2.2.1
  obtain ⟨o1, o2, o3, o4, o5, o6, o7, o8, o9, o10, o11, o12, o13, o14, o15, -⟩ := h.2.1.2.2.2.2.2.1 s hs k0
  have d := (h.2.2.2.2.1 s k hs k0 (by omega)).2
  have d2 := (h.2.2.2.2.2.2.1 s k hs k0 (by omega)).2
  have en : mI M 70 (L 0 1) = dnow D := h.2.2.2.2.2.2.2.1
  have hb := hp.1 s k
  unfold wp_X5_isSilent bk_X5_isSilent_35 bk_X5_isSilent_36
  rw [o4, en, n_clamp (by omega)]
  have e0 : (nI (caf C s) = 0) = (caf C s = 0) := by rw [show (0 : Int32) = nI 0 from rfl]; exact n_eq (by omega) (by omega)
  have e1 : (nI (dps D s k) = 0) = (dps D s k = 0) := by rw [show (0 : Int32) = nI 0 from rfl]; exact n_eq (by omega) (by omega)
  rw [e0]
  have no : a_falls C D s k = false → bz 0 ∧ K 0 M := fun z => ⟨Or.inl rfl, hK false (by rw [z]; rfl)⟩
  refine ⟨o1, fun z => no (by rw [a_falls]; simp [z]), fun z => ⟨L 4 s, o6, isA_of o10 (by decide) (by decide), by rw [o11]; exact n_in (by omega) (by omega), ?_⟩⟩
  rw [d, e1]
  refine ⟨fun y => no (by rw [a_falls]; simp [y]), fun y => ⟨L 6 s, o8, isA_of o14 (by decide) (by decide), by rw [o15]; exact n_in (by omega) (by omega), ?_⟩⟩
  rw [d2]
  refine ⟨fun x => no ?_, fun x => ⟨Or.inr rfl, hK true ?_⟩⟩
  · rw [a_falls]; simp [Int32.not_le.mpr x]
  · rw [a_falls]
    have a1 : decide (0 < caf C s) = true := by simp; omega
    have a2 : decide (dps D s k = 0) = true := by simp [y]
    have a3 : decide (nI (caf C s) ≤ dnow D - dhr D s k) = true := by simp [Int32.not_lt.mp x]
    rw [a1, a2, a3]
    cases a_stop C D s k <;> rfl
theorem c_tI {R12 : Int32 → Mm → Prop} {K : Int32 → Mm → Prop} {s : Nat} (hW : WC C) (hp : PB D) (hs : s < cn C) (k0 : ckd C s = 0) (hR : ∀ M1, CR B M1 L C D → CFL M1 L C D (s + 1) 0 → R12 (nI (s + 1)) M1) : ∀ (r i : Nat) (M : Mm), i + r = cpt C s → CR B M L C D → CFL M L C D s i → lp_X1_goOn_33 (L 0 1) R12 K (r + 1) (nI s) (some (L 3 s)) (nI i) M := by
  intro r
  have h12 := hW.1
  have h4 := (hW.2.2.2 s hs).2.1
  induction r with
  | zero =>
    intro i M hi h hSl
    have e : i = cpt C s := by omega
    subst e
    have o := h.2.1.2.2.2.2.2.1 s hs k0
    have fin : bk_X1_goOn_87 (L 0 1) R12 K (nI s) M := by
      unfold bk_X1_goOn_87
      rw [show nI s + 1 = nI (s + 1) from nI_add _ 1]
      exact hR M h (fun q j a b c d => hSl q j a b c (by
        by_cases g : q = s
        · subst g; exact Or.inr ⟨rfl, c⟩
        · omega))
    rw [lp_X1_goOn_33]
    refine ⟨fun _ => fin, fun a ha => ?_⟩
    cases ha
    rw [o.2.1]
    exact ⟨o.1, fun _ => fin, fun z => absurd (by rw [n_le (by omega) (by omega)]; exact Nat.le_refl _) z⟩
  | succ r ih =>
    intro i M hi h hSl
    obtain ⟨o1, o2, o3, o4, o5, o6, o7, o8, o9, o10, o11, o12, o13, o14, o15, o16, o17⟩ := h.2.1.2.2.2.2.2.1 s hs k0
    have nx : ∀ b, b = a_falls C D s i → bk_X1_goOn_80 (L 0 1) R12 (lp_X1_goOn_33 (L 0 1) R12 K (r + 1)) K (nI s) (some (L 3 s)) (nI i) (bI b) (nI i) (some (L 7 s)) M := fun b hbb => by
      unfold bk_X1_goOn_80
      refine ⟨L 7 s, rfl, isA_of o16 (by decide) (by decide), by rw [o17]; exact n_in (by omega) (by omega), bI_bz b, ?_⟩
      rw [n_clamp (by omega), show nI i + 1 = nI (i + 1) from nI_add _ 1]
      refine ih (i + 1) _ (by omega) (CR_fl h hs k0) (fun q j a b' c d => ?_)
      simp only [ms]
      by_cases g : q = s
      · subst g
        rw [if_pos rfl]
        by_cases f : j = i
        · rw [if_pos f, hbb, f]
        · rw [if_neg f]; exact hSl q j a b' c (by omega)
      · rw [if_neg (fun e => g (h.2.1.2.2.2.2.2.2.2.2.1.2.1 q s a hs b' k0 (Or.inr (Or.inr (Or.inr e)))))]
        exact hSl q j a b' c (by omega)
    have no : a_falls C D s i = false → bk_X1_goOn_79 (L 0 1) R12 (lp_X1_goOn_33 (L 0 1) R12 K (r + 1)) K (nI s) (some (L 3 s)) (nI i) (nI i) (some (L 7 s)) M := fun q => nx false q.symm
    rw [lp_X1_goOn_33]
    refine ⟨fun z => (by cases z), fun a ha => ?_⟩
    cases ha
    rw [o2, o9]
    refine ⟨o1, fun z => ?_, fun _ => ⟨h.2.1.2.2.1.1, c_silent hW h hp hs k0 (by omega) (fun b hb => ?_)⟩⟩
    · rw [n_le (by omega) (by omega)] at z; omega
    · rw [bI_0]
      refine ⟨fun z => no (by rw [← hb, z]; rfl), fun z => ⟨h.2.1.2.2.1.1, c_isStopped hW h hs k0 (by omega) hp ?_⟩⟩
      rw [Bool.not_eq_false] at z
      rw [bI_0]
      refine ⟨fun y => no ?_, fun y => nx true ?_⟩
      · rw [Bool.not_eq_false] at y
        rw [← hb, y]; cases b <;> rfl
      · rw [← hb, y, z]; rfl
theorem c_tL {K : Int32 → Mm → Prop} (hW : WC C) (hp : PB D) (hR : ∀ M1, CR B M1 L C D → CFL M1 L C D (cn C) 0 → ∃ kk, lp_X1_goOn_97 (L 0 1) K kk 0 0 M1) : ∀ (r s : Nat) (M : Mm), s + r = cn C → CR B M L C D → CFL M L C D s 0 → lp_X1_goOn_12 (L 0 1) K (r + 1) (nI s) M := by
  intro r
  have h12 := hW.1
  induction r with
  | zero =>
    intro s M hs h hSl
    have e : s = cn C := by omega
    subst e
    obtain ⟨g1, g2, g3, g4, g5, g6, g7, g8, -⟩ := h.2.1.2.2.1
    rw [lp_X1_goOn_12, g7]
    exact ⟨g1, fun _ => hR M h hSl, fun z => absurd (by rw [n_le (by omega) (by omega)]; exact Nat.le_refl _) z⟩
  | succ r ih =>
    intro s M hs h hSl
    have hsn : s < cn C := by omega
    obtain ⟨g1, g2, g3, g4, g5, g6, g7, g8, -⟩ := h.2.1.2.2.1
    obtain ⟨s1, s2, s3, s4, s5, s6, s7, s8, s9, s10, s11, -⟩ := h.2.1.2.2.2.1 s hsn
    rw [lp_X1_goOn_12, g7]
    refine ⟨g1, fun z => ?_, fun _ => ⟨L 0 2, g4, isA_of g8.1 (by decide) (by decide), by rw [g8.2]; exact n_in (by omega) (by omega), L 1 s, by rw [n_clamp (by omega)]; exact s1, s2, ?_⟩⟩
    · rw [n_le (by omega) (by omega)] at z; omega
    · rw [s11]
      by_cases c : ckd C s = 0
      · rw [if_pos c]
        exact ⟨_, c_tI hW hp hsn c (fun M1 h1 h2 => ih (s + 1) M1 (by omega) h1 h2) (cpt C s) 0 M (Nat.zero_add _) h hSl⟩
      · rw [if_neg c]
        refine ⟨1, ?_⟩
        rw [lp_X1_goOn_33]
        unfold bk_X1_goOn_87
        rw [show nI s + 1 = nI (s + 1) from nI_add _ 1]
        refine ⟨fun _ => ih (s + 1) M (by omega) h (fun q j a b c' d => hSl q j a b c' ?_), fun a ha => (by cases ha)⟩
        rcases d with d | d
        · by_cases g : q = s
          · subst g; exact absurd b c
          · omega
        · omega
theorem c_fI {R97 : Int32 → Int32 → Mm → Prop} {K : Int32 → Mm → Prop} {v : Int32} {s : Nat} (hW : WC C) (hs : s < cn C) (k0 : ckd C s = 0) (hR : ∀ M1, CR B M1 L C (yps D (a_sl C D (s + 1) 0)) → CFL M1 L C D (cn C) 0 → R97 (a_pcK (a_falls C D s) v (cpt C s)) (nI (s + 1)) M1) : ∀ (r i : Nat) (M : Mm), i + r = cpt C s → CR B M L C (yps D (a_sl C D s i)) → CFL M L C D (cn C) 0 → lp_X1_goOn_119 (L 0 1) R97 K (r + 1) (a_pcK (a_falls C D s) v i) (nI s) (some (L 3 s)) (nI i) M := by
  intro r
  have h12 := hW.1
  have h4 := (hW.2.2.2 s hs).2.1
  induction r with
  | zero =>
    intro i M hi h hSl
    have e : i = cpt C s := by omega
    subst e
    have o := h.2.1.2.2.2.2.2.1 s hs k0
    have fin : bk_X1_goOn_163 (L 0 1) R97 K (a_pcK (a_falls C D s) v (cpt C s)) (nI s) M := by
      unfold bk_X1_goOn_163
      rw [show nI s + 1 = nI (s + 1) from nI_add _ 1]
      refine hR M (CR_yps (fun q j => ?_) h) hSl
      unfold a_sl
      by_cases g : ckd C q = 0 ∧ j < cpt C q ∧ a_falls C D q j = true
      · simp only [g.1, g.2.1, g.2.2, and_true]
        by_cases a : q < s
        · rw [if_pos (Or.inl a), if_pos (Or.inl (by omega))]
        · by_cases b : q = s
          · subst b; rw [if_pos (Or.inr ⟨rfl, g.2.1⟩), if_pos (Or.inl (by omega))]
          · rw [if_neg (by omega), if_neg (by omega)]
      · rw [if_neg (fun z => g z.2), if_neg (fun z => g z.2)]
    rw [lp_X1_goOn_119]
    refine ⟨fun _ => fin, fun a ha => ?_⟩
    cases ha
    rw [o.2.1]
    exact ⟨o.1, fun _ => fin, fun z => absurd (by rw [n_le (by omega) (by omega)]; exact Nat.le_refl _) z⟩
  | succ r ih =>
    intro i M hi h hSl
    obtain ⟨o1, o2, o3, o4, o5, o6, o7, o8, o9, o10, o11, o12, o13, o14, o15, o16, o17⟩ := h.2.1.2.2.2.2.2.1 s hs k0
    have hsl := hSl s i hs k0 (by omega) (Or.inl hs)
    have step : ∀ M1, CR B M1 L C (yps D (a_sl C D s (i + 1))) → CFL M1 L C D (cn C) 0 → bk_X1_goOn_157 (L 0 1) R97 (lp_X1_goOn_119 (L 0 1) R97 K (r + 1)) K (a_pcK (a_falls C D s) v (i + 1)) (nI s) (some (L 3 s)) (nI i) M1 := fun M1 h1 h2 => by
      unfold bk_X1_goOn_157
      rw [show nI i + 1 = nI (i + 1) from nI_add _ 1]
      exact ih (i + 1) M1 (by omega) h1 h2
    have mono : ∀ q j, ¬ (q = s ∧ j = i) → a_sl C D s (i + 1) q j = a_sl C D s i q j := fun q j g => by
      unfold a_sl
      by_cases a : (q < s ∨ (q = s ∧ j < i)) ∧ ckd C q = 0 ∧ j < cpt C q ∧ a_falls C D q j = true
      · rw [if_pos a, if_pos ⟨by have := a.1; omega, a.2⟩]
      · rw [if_neg a, if_neg (fun z => a ⟨by have := z.1; omega, z.2⟩)]
    rw [lp_X1_goOn_119]
    refine ⟨fun z => (by cases z), fun a ha => ?_⟩
    cases ha
    rw [o2]
    refine ⟨o1, fun z => ?_, fun _ => ⟨L 7 s, o9, isA_of o16 (by decide) (by decide), by rw [o17]; exact n_in (by omega) (by omega), ?_⟩⟩
    · rw [n_le (by omega) (by omega)] at z; omega
    · rw [n_clamp (by omega), hsl, bI_0]
      refine ⟨fun z => ?_, fun z => ⟨L 4 s, o6, isA_of o10 (by decide) (by decide), by rw [o11]; exact n_in (by omega) (by omega), ?_⟩⟩
      · have := step M (CR_yps (fun q j => ?_) h) hSl
        · rw [a_pcK, if_neg (by rw [z]; decide)] at this; exact this
        · by_cases g : q = s ∧ j = i
          · obtain ⟨rfl, rfl⟩ := g
            unfold a_sl
            rw [if_neg (fun w => by have := w.2.2.2; rw [z] at this; cases this), if_neg (fun w => by have := w.2.2.2; rw [z] at this; cases this)]
          · exact (mono q j g).symm
      · rw [Bool.not_eq_false] at z
        have h1 : CR B (tI M (L 4 s) i (nI 1)) L C (xps (yps D (a_sl C D s i)) s i 1) := CR_ps h hs k0
        have e1 : xps (yps D (a_sl C D s i)) s i 1 = yps D (a_sl C D s (i + 1)) := by
          simp only [xps, yps, dmk, did, dps, dpr, dhr, dnow, dou, dla, dlo, dwi, dke, dti, Prod.mk.injEq, true_and, and_true]
          funext q j
          by_cases g : q = s ∧ j = i
          · obtain ⟨rfl, rfl⟩ := g
            rw [if_pos rfl, if_pos rfl]
            unfold a_sl
            rw [if_pos ⟨Or.inr ⟨rfl, by omega⟩, k0, by omega, z⟩]
          · rw [mono q j g]
            by_cases a : q = s
            · rw [if_pos a, if_neg (fun b => g ⟨a, b⟩)]
            · rw [if_neg a]
        rw [e1] at h1
        have := step _ h1 (fun q j a b c d => by
          have o' := (h.2.1.2.2.2.2.2.1 q a b).2.2.2.2.2.2.2.2.2.2.2.2.2.2.2.1
          have ne : ¬ L 7 q = L 4 s := fun e => by rw [e, o10] at o'; omega
          simp only [ms, ne, if_false]
          exact hSl q j a b c d)
        rw [a_pcK, if_pos z] at this
        exact this
theorem c_fL {K : Int32 → Mm → Prop} (hW : WC C) (hR : ∀ M1, CR B M1 L C (yps D (a_sl C D (cn C) 0)) → K (a_pcS C (a_falls C D) (cn C)) M1) : ∀ (r s : Nat) (M : Mm), s + r = cn C → CR B M L C (yps D (a_sl C D s 0)) → CFL M L C D (cn C) 0 → lp_X1_goOn_97 (L 0 1) K (r + 1) (a_pcS C (a_falls C D) s) (nI s) M := by
  intro r
  have h12 := hW.1
  induction r with
  | zero =>
    intro s M hs h hSl
    have e : s = cn C := by omega
    subst e
    obtain ⟨g1, g2, g3, g4, g5, g6, g7, g8, -⟩ := h.2.1.2.2.1
    rw [lp_X1_goOn_97, g7]
    exact ⟨g1, fun _ => hR M h, fun z => absurd (by rw [n_le (by omega) (by omega)]; exact Nat.le_refl _) z⟩
  | succ r ih =>
    intro s M hs h hSl
    have hsn : s < cn C := by omega
    obtain ⟨g1, g2, g3, g4, g5, g6, g7, g8, -⟩ := h.2.1.2.2.1
    obtain ⟨s1, s2, s3, s4, s5, s6, s7, s8, s9, s10, s11, -⟩ := h.2.1.2.2.2.1 s hsn
    have nx := fun M1 => ih (s + 1) M1 (by omega)
    rw [a_pcS] at nx
    rw [lp_X1_goOn_97, g7]
    refine ⟨g1, fun z => ?_, fun _ => ⟨L 0 2, g4, isA_of g8.1 (by decide) (by decide), by rw [g8.2]; exact n_in (by omega) (by omega), L 1 s, by rw [n_clamp (by omega)]; exact s1, s2, ?_⟩⟩
    · rw [n_le (by omega) (by omega)] at z; omega
    · rw [s11]
      by_cases c : ckd C s = 0
      · rw [if_pos c] at nx ⊢
        exact ⟨_, c_fI (v := a_pcS C (a_falls C D) s) hW hsn c nx (cpt C s) 0 M (Nat.zero_add _) h hSl⟩
      · rw [if_neg c] at nx ⊢
        refine ⟨1, ?_⟩
        rw [lp_X1_goOn_119]
        unfold bk_X1_goOn_163
        rw [show nI s + 1 = nI (s + 1) from nI_add _ 1]
        refine ⟨fun _ => nx M (CR_yps (fun q j => ?_) h) hSl, fun a ha => (by cases ha)⟩
        unfold a_sl
        by_cases a : (q < s ∨ (q = s ∧ j < 0)) ∧ ckd C q = 0 ∧ j < cpt C q ∧ a_falls C D q j = true
        · rw [if_pos a, if_pos ⟨Or.inl (by omega), a.2⟩]
        · rw [if_neg a, if_neg (fun z => a ⟨Or.inl (by
            rcases z.1 with b | b
            · by_cases g : q = s
              · subst g; exact absurd z.2.1 c
              · omega
            · omega), z.2⟩)]
theorem OKd_yps {f : Nat → Nat → Nat} (h : OKd C D) (hf : ∀ q j, f q j ≤ 2) : OKd C (yps D f) := ⟨⟨h.1.1, hf, h.1.2.2⟩, PB.of hf h.2.1.2.2.2.1 h.2.1.2.2.2.2, h.2.2⟩
theorem OKd_turn (h : OKd C D) {n : Int32} : OKd C (yps (xnow D n) (a_sl C (xnow D n) (cn C) 0)) := by
  have h1 : OKd C (xnow D n) := h
  refine OKd_yps h1 (fun q j => ?_)
  unfold a_sl
  split
  · omega
  · exact h.1.2.1 q j
theorem c_turn {K : Int32 → Mm → Prop} {n : Int32} (hW : WC C) (h : CR B M L C D) (hO : OKD C D) (hb : LB (A_turn C D n).2) (hK : ∀ M1, CR B M1 L C (A_turn C D n).2 → K (A_turn C D n).1 M1) : wp_X10_turn M (L 0 0) n K := by
  have h12 := hW.1
  have bad : ¬ (1 ≤ n ∧ n ≤ 1000) → K (-1) M := fun z => by
    unfold A_turn at hK
    rw [if_neg z] at hK
    exact hK _ h
  unfold wp_X10_turn bk_X10_turn_19
  rw [(COF h).2.1]
  refine ⟨(COF h).1, fun z => (by cases z), fun a ha => ?_⟩
  cases ha
  refine ⟨fun z => bad (fun q => absurd q.1 (Int32.not_le.mpr z)), fun z => ⟨fun y => ⟨(COF h).2.2, ?_⟩, fun y => bad (fun q => y q.2)⟩⟩
  unfold A_turn at hb hK
  rw [if_pos ⟨Int32.not_lt.mp z, y⟩] at hb hK
  unfold a_turn at hb hK
  have en : mI M 70 (L 0 1) = dnow D := h.2.2.2.2.2.2.2.1
  unfold wp_X1_goOn
  rw [en]
  have hO2 : OKd C (yps (xnow D (dnow D + n)) (a_sl C (xnow D (dnow D + n)) (cn C) 0)) := OKd_turn hO.d
  have hp1 : PB (xnow D (dnow D + n)) := hO.2.1
  have h1 := CR_now (v := dnow D + n) h
  generalize hD1 : xnow D (dnow D + n) = D1 at hb hK hO2 hp1 h1
  refine ⟨(COF h).2.2, _, c_tL hW hp1 (fun M2 h2 hSl => ⟨_, c_fL hW (fun M3 h3 => ?_) (cn C) 0 M2 (Nat.zero_add _) (CR_yps (D := D1) (f := dps D1) (fun q j => ?_) h2) hSl⟩) (cn C) 0 _ (Nat.zero_add _) h1 (fun q j _ _ _ d => by omega)⟩
  · exact c_rk hW h3 hO2 hb hK
  · unfold a_sl
    rw [if_neg (by omega)]
end K18
