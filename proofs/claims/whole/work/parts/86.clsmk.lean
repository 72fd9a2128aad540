/-! the class: mark, end, idle, hold, release -/
section K15
variable {B M : Mm} {L : Nat → Nat → Nat} {C : Cfg} {D : Dyn}
theorem c_mark {K : Int32 → Mm → Prop} {p q : Int32} {t : Int64} (hW : WC C) (h : CR B M L C D) (hO : OKD C D) (hb : LB (A_mark C D p q t).2) (hK : ∀ M1, CR B M1 L C (A_mark C D p q t).2 → K (A_mark C D p q t).1 M1) : wp_X10_mark M (L 0 0) p q t K := by
  have h12 := hW.1
  unfold wp_X10_mark bk_X10_mark_20 bk_X10_mark_90
  refine ⟨(COF h).1, c_srcWith hW h ?_⟩
  simp only [e_isTimeC, bI_0]
  unfold A_mark at hb hK
  by_cases c1 : isPt C p q = true
  · rw [if_pos c1]
    refine ⟨fun z => (by cases z), fun a ha => ?_⟩
    cases ha
    by_cases c2 : isTm t = true
    · rw [if_pos ⟨c1, c2⟩] at hb hK
      obtain ⟨s, k, hs, rfl, hk0, hk, rfl⟩ := (isPt_iff hW).mp c1
      have h4 := (hW.2.2.2 s hs).2.1
      rw [n_clamp (by omega), n_clamp (by omega)] at hb hK
      rw [n_clamp (by omega)]
      obtain ⟨f1, f2, f3⟩ := CSF h hs hk0
      refine ⟨fun _ => ⟨(COF h).1, f1, L 0 1, (COF h).2.1, (COF h).2.2, ?_⟩, fun z => absurd c2 (by rw [z]; decide)⟩
      rw [f2]
      refine c_refusal hW h hs hk0 hk hO.2.1 ?_
      unfold a_mark at hb hK
      by_cases z : dps D s k = 2
      · rw [if_pos z] at hb hK ⊢
        exact ⟨fun w => absurd w (by decide), fun _ => hK M h⟩
      rw [if_neg z] at hb hK ⊢
      by_cases y : a_stop C D s k = true
      · rw [if_pos y] at hb hK ⊢
        exact ⟨fun w => absurd w (by decide), fun _ => hK M h⟩
      rw [if_neg y] at hb hK ⊢
      refine ⟨fun _ => ⟨f1, (COF h).1, L 0 1, (COF h).2.1, (COF h).2.2, L 3 s, f2, f3, c_hear hW h hs hk0 hk (fun M1 h1 => ?_)⟩, fun w => absurd rfl w⟩
      obtain ⟨f1', f2', f3'⟩ := CSF h1 hs hk0
      have hO1 : OKd C (a_hear D s k) := hO.d.hear
      have e1 : dpr (a_hear D s k) s k = dpr D s k := rfl
      refine ⟨f1', L 3 s, f2', f3', c_raise hW h1 hs hk0 hk (fun x M3 h3 => ?_) (fun x => ?_)⟩
      · rw [e1] at x
        rw [if_neg x] at hb hK
        exact c_rk hW h3 (hO1.pr (HT_time c2).hm) hb (fun M4 h4 => ⟨fun z => absurd z (by decide), fun _ => hK M4 h4⟩)
      · rw [e1] at x
        rw [if_pos x] at hb hK
        exact c_rk hW h1 hO1 hb (fun M4 h4 => ⟨fun _ => hK M4 h4, fun z => absurd rfl z⟩)
    · have nc : ¬ (isPt C p q = true ∧ isTm t = true) := fun z => c2 z.2
      rw [if_neg nc] at hb hK
      rw [Bool.not_eq_true] at c2
      exact ⟨fun z => absurd c2 z, fun _ => hK M h⟩
  · rw [if_neg c1]
    have nc : ¬ (isPt C p q = true ∧ isTm t = true) := fun z => c1 z.1
    rw [if_neg nc] at hb hK
    exact ⟨fun _ => hK M h, fun a ha => (by cases ha)⟩
theorem CPF {s k : Nat} (hW : WC C) (h : CR B M L C D) (hp : PB D) (hs : s < cn C) (h0 : ckd C s = 0) (hk : k < cpt C s) : mR M 324 (L 3 s) = some (L 4 s) ∧ isA M (L 4 s) 1 ∧ vp_in (nI k) (aN M (L 4 s)) ∧ (nI k).toNatClampNeg = k ∧ (aI M (L 4 s) k = 2) = (dps D s k = 2) ∧ (aI M (L 4 s) k = 1) = (dps D s k = 1) ∧ mR M 325 (L 3 s) = some (L 5 s) ∧ isA M (L 5 s) 2 ∧ vp_in (nI k) (aN M (L 5 s)) ∧ aI M (L 4 s) k = nI (dps D s k) := by
  have h4 := (hW.2.2.2 s hs).2.1
  obtain ⟨o1, o2, o3, o4, o5, o6, o7, o8, o9, o10, o11, o12, o13, o14, o15, -⟩ := h.2.1.2.2.2.2.2.1 s hs h0
  have d := (h.2.2.2.2.1 s k hs h0 (by omega)).2
  have h2 := hp.1 s k
  refine ⟨o6, isA_of o10 (by decide) (by decide), by rw [o11]; exact n_in (by omega) (by omega), n_clamp (by omega), ?_, ?_, o7, isA_of o12 (by decide) (by decide), by rw [o13]; exact n_in (by omega) (by omega), d⟩
  · rw [d, show (2 : Int32) = nI 2 from rfl]; exact n_eq (by omega) (by omega)
  · rw [d, show (1 : Int32) = nI 1 from rfl]; exact n_eq (by omega) (by omega)
theorem c_end {K : Int32 → Mm → Prop} {p q : Int32} (hW : WC C) (h : CR B M L C D) (hO : OKD C D) (hb : LB (A_end C D p q).2) (hK : ∀ M1, CR B M1 L C (A_end C D p q).2 → K (A_end C D p q).1 M1) : wp_X10_end M (L 0 0) p q K := by
  have h12 := hW.1
  unfold wp_X10_end
  refine ⟨(COF h).1, c_srcWith hW h ?_⟩
  unfold A_end at hb hK
  by_cases c1 : isPt C p q = true
  · rw [if_pos c1] at hb hK ⊢
    refine ⟨fun z => (by cases z), fun a ha => ?_⟩
    cases ha
    obtain ⟨s, k, hs, rfl, hk0, hk, rfl⟩ := (isPt_iff hW).mp c1
    have h4 := (hW.2.2.2 s hs).2.1
    rw [n_clamp (by omega), n_clamp (by omega)] at hb hK
    rw [n_clamp (show s < 2147483648 by omega)]
    obtain ⟨f1, f2, f3⟩ := CSF h hs hk0
    obtain ⟨p1, p2, p3, p4, p5, p6, p7, p8, p9, p10⟩ := CPF hW h hO.2.1 hs hk0 hk
    refine ⟨f1, L 3 s, f2, f3, L 4 s, p1, p2, p3, ?_⟩
    rw [p4, p5]
    unfold a_end at hb hK
    refine ⟨fun z => ?_, fun z => ?_⟩
    · rw [if_neg z] at hb hK
      unfold wp_X5_finish
      rw [p4]
      exact ⟨f3, L 4 s, p1, p2, p3, L 5 s, p7, p8, p9, c_rk hW (CR_pr (CR_ps (v := 2) h hs hk0) hs hk0) ((hO.d.ps (Nat.le_refl 2)).pr HM.end) hb hK⟩
    · rw [if_pos z] at hb hK
      exact hK M h
  · rw [if_neg c1] at hb hK ⊢
    exact ⟨fun _ => hK M h, fun a ha => (by cases ha)⟩
theorem c_idle {K : Int32 → Mm → Prop} {p q on : Int32} (hW : WC C) (h : CR B M L C D) (hO : OKD C D) (hon : bz on) (hb : LB (A_idle C D p q on).2) (hK : ∀ M1, CR B M1 L C (A_idle C D p q on).2 → K (A_idle C D p q on).1 M1) : wp_X10_idle M (L 0 0) p q on K := by
  have h12 := hW.1
  unfold wp_X10_idle
  refine ⟨(COF h).1, c_srcWith hW h ?_⟩
  unfold A_idle at hb hK
  by_cases c1 : isPt C p q = true
  · rw [if_pos c1] at hb hK ⊢
    refine ⟨fun z => (by cases z), fun a ha => ?_⟩
    cases ha
    obtain ⟨s, k, hs, rfl, hk0, hk, rfl⟩ := (isPt_iff hW).mp c1
    have h4 := (hW.2.2.2 s hs).2.1
    rw [n_clamp (by omega), n_clamp (by omega)] at hb hK
    rw [n_clamp (show s < 2147483648 by omega)]
    obtain ⟨f1, f2, f3⟩ := CSF h hs hk0
    obtain ⟨p1, p2, p3, p4, p5, p6, p7, p8, p9, p10⟩ := CPF hW h hO.2.1 hs hk0 hk
    refine ⟨f1, L 3 s, f2, f3, L 4 s, p1, p2, p3, ?_⟩
    rw [p4, p5, p6]
    unfold a_idle at hb hK
    rw [hO.2.2.2] at hb hK
    refine ⟨fun z => ?_, fun z => ?_⟩
    · rw [if_neg z] at hb hK
      unfold bk_X10_idle_47 bk_X10_idle_87
      rw [p4]
      refine ⟨fun y => ⟨fun x => ⟨fun w => absurd w.symm x, fun w => ⟨L 1 s, rfl, f1, L 3 s, f2, f3, L 4 s, p1, p2, p3, ?_⟩⟩, fun x => ?_⟩, fun y => ⟨fun x => ⟨fun w => ⟨L 1 s, rfl, f1, (COF h).1, L 0 1, (COF h).2.1, (COF h).2.2, L 3 s, f2, f3, c_hear hW h hs hk0 hk (fun M1 h1 => ?_)⟩, fun w => ?_⟩, fun x => ?_⟩⟩
      · rw [if_neg y, if_neg w] at hb hK
        exact c_rk hW (CR_ps (v := 1) h hs hk0) (hO.d.ps (by omega)) hb hK
      · rw [if_neg y, if_pos x.symm] at hb hK
        exact hK M h
      · rw [if_pos y, if_pos w] at hb hK
        exact c_rk hW h1 hO.d.hear hb hK
      · rcases hon with e | e
        · exact absurd e w
        · exact absurd e.symm x
      · rw [if_pos y, if_neg (by rw [← x]; decide)] at hb hK
        exact hK M h
    · rw [if_pos z] at hb hK
      exact hK M h
  · rw [if_neg c1] at hb hK ⊢
    exact ⟨fun _ => hK M h, fun a ha => (by cases ha)⟩
end K15
