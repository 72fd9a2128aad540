/-! the class: streams and parts that are asked for, parts that are heard -/
def OKD (C : Cfg) (D : Dyn) : Prop := IV C D ∧ PB D ∧ (∀ x ∈ dti D, ckd C x.1 = 3) ∧ a_reckon C D = D
/-- the same, but it needn't be reckoned -/
def OKd (C : Cfg) (D : Dyn) : Prop := IV C D ∧ PB D ∧ ∀ x ∈ dti D, ckd C x.1 = 3
theorem OKD.d {C : Cfg} {D : Dyn} (h : OKD C D) : OKd C D := ⟨h.1, h.2.1, h.2.2.1⟩
theorem OKd.reckon {C : Cfg} {D : Dyn} (hW : WC C) (h : OKd C D) : OKD C (a_reckon C D) := by
  obtain ⟨i, p⟩ := IP_reckN hW h.1 h.2.1 (cn C)
  refine ⟨i, p, ?_, reckon_again hW⟩
  have := (rq_reckN hW.2.1 (D := D) (cn C)).2.2.2.2.1
  unfold a_reckon
  rw [this]; exact h.2.2
theorem OKd.hear {C : Cfg} {D : Dyn} {s k : Nat} (h : OKd C D) : OKd C (a_hear D s k) := by
  have e : ∀ q j, dps (a_hear D s k) q j ≤ 2 := fun q j => by
    show (if q = s then (if j = k then 0 else dps D q j) else dps D q j) ≤ 2
    have := h.1.2.1 q j
    split
    · split <;> omega
    · exact this
  exact ⟨⟨h.1.1, e, h.1.2.2⟩, PB.of e h.2.1.2.2.2.1 h.2.1.2.2.2.2, h.2.2⟩
theorem OKd.ps {C : Cfg} {D : Dyn} {s k v : Nat} (h : OKd C D) (hv : v ≤ 2) : OKd C (xps D s k v) := by
  have e : ∀ q j, dps (xps D s k v) q j ≤ 2 := fun q j => by
    show (if q = s then (if j = k then v else dps D q j) else dps D q j) ≤ 2
    have := h.1.2.1 q j
    split
    · split <;> omega
    · exact this
  exact ⟨⟨h.1.1, e, h.1.2.2⟩, PB.of e h.2.1.2.2.2.1 h.2.1.2.2.2.2, h.2.2⟩
theorem OKd.pr {C : Cfg} {D : Dyn} {s k : Nat} {v : Int64} (h : OKd C D) (hv : HM v) : OKd C (xpr D s k v) := by
  have e : ∀ q j, HM (dpr (xpr D s k v) q j) := fun q j => by
    show HM (if q = s then (if j = k then v else dpr D q j) else dpr D q j)
    have := h.2.1.2.2.2.1 q j
    split
    · split
      · exact hv
      · exact this
    · exact this
  exact ⟨⟨h.1.1, h.1.2.1, h.1.2.2⟩, PB.of h.2.1.1 e h.2.1.2.2.2.2, h.2.2⟩
theorem OKd.late {C : Cfg} {D : Dyn} {r : Row} (h : OKd C D) : OKd C (a_late D r) := h
theorem OKd.pass {C : Cfg} {D : Dyn} {s : Nat} {t : Int64} {k w : Int32} (hW : WC C) (h : OKd C D) (ht : HT t) : OKd C (a_pass C 30 D s t k w) := by
  have hu := up_pass hW.2.1 30 D s t k w
  refine ⟨⟨inv_pass hW 30 D s t k w h.1.1 ht, ?_, ?_⟩, h.2.1.eq hu.2.2.1 hu.2.2.2.1 hu.1, ?_⟩
  · rw [hu.2.2.1]; exact h.1.2.1
  · rw [hu.2.2.2.2.2.2.1]; exact h.1.2.2
  · rw [hu.2.2.2.2.2.2.1]; exact h.2.2
theorem e_isTimeC {M : Mm} {t : Int64} {K : Int32 → Mm → Prop} : wp_X10_isTime M t K = K (bI (isTm t)) M := by
  unfold wp_X10_isTime bk_X10_isTime_20 bk_X10_isTime_21 isTm
  by_cases h1 : t < -100000000000000000
  · simp [h1, Int64.not_le.mpr h1, bI, bz]
  · by_cases h2 : (100000000000000000 : Int64) < t
    · simp [h1, h2, Int64.not_lt.mp h1, Int64.not_le.mpr h2, bI, bz]
    · simp [h1, h2, Int64.not_lt.mp h1, Int64.not_lt.mp h2, bI, bz]
theorem e_isKeyC {M : Mm} {k : Int32} {K : Int32 → Mm → Prop} : wp_X10_isKey M k K = K (bI (isKy k)) M := by
  unfold wp_X10_isKey bk_X10_isKey_14 bk_X10_isKey_15 isKy
  by_cases h1 : k < 0
  · simp [h1, Int32.not_le.mpr h1, bI, bz]
  · by_cases h2 : (9 : Int32) < k
    · simp [h1, h2, Int32.not_lt.mp h1, Int32.not_le.mpr h2, bI, bz]
    · simp [h1, h2, Int32.not_lt.mp h1, Int32.not_lt.mp h2, bI, bz]
theorem pl_ok {a n : Int64} (q1 : -4000000000000000000 ≤ a.toInt) (q2 : a.toInt ≤ 4000000000000000000) (q3 : -2000000000000000000 ≤ n.toInt) (q4 : n.toInt ≤ 2000000000000000000) : plusF a n = a + n ∧ (a + n).toInt = a.toInt + n.toInt := by
  have e1 : (-9000000000000000000 : Int64).toInt = -9000000000000000000 := by decide
  have e2 : (9000000000000000000 : Int64).toInt = 9000000000000000000 := by decide
  have e3 : (8000000000000000000 : Int64).toInt = 8000000000000000000 := by decide
  have e4 : (-8000000000000000000 : Int64).toInt = -8000000000000000000 := by decide
  have ea := j_add (a := a) (b := n) (by omega) (by omega)
  refine ⟨?_, ea⟩
  have n1 : ¬ a = -9000000000000000000 := fun z => by rw [z, e1] at q1; omega
  have n2 : ¬ a = 9000000000000000000 := fun z => by rw [z, e2] at q2; omega
  have n3 : a + n ≤ 8000000000000000000 := by rw [Int64.le_iff_toInt_le, ea, e3]; omega
  have n4 : -8000000000000000000 ≤ a + n := by rw [Int64.le_iff_toInt_le, ea, e4]; omega
  unfold plusF
  rw [if_neg n1, if_neg n2, if_pos n3, if_pos n4]
theorem plus_lag {t l : Int64} (ht : isTm t = true) (h0 : 0 ≤ l.toInt) (h1 : l.toInt < 1000000000000000000) : plusF t (-l - 1) = plusF (plusF t (-l)) (-1) := by
  have hb := isTm_HT ht
  have en := j_neg (a := l) (by omega)
  have e5 : (1 : Int64).toInt = 1 := by decide
  have e6 : (-1 : Int64).toInt = -1 := by decide
  have en1 : (-l - 1).toInt = -l.toInt - 1 := by
    rw [j_sub (by rw [en, e5]; omega) (by rw [en, e5]; omega), en, e5]
  obtain ⟨p1, r1⟩ := pl_ok (a := t) (n := -l) (by omega) (by omega) (by rw [en]; omega) (by rw [en]; omega)
  obtain ⟨p2, r2⟩ := pl_ok (a := t) (n := -l - 1) (by omega) (by omega) (by rw [en1]; omega) (by rw [en1]; omega)
  obtain ⟨p3, r3⟩ := pl_ok (a := t + -l) (n := -1) (by rw [r1, en]; omega) (by rw [r1, en]; omega) (by rw [e6]; omega) (by rw [e6]; omega)
  rw [p2, p1, p3]
  apply Int64.toInt_inj.mp
  rw [r2, r3, r1, en, en1, e6]
  omega
section K13
variable {B M : Mm} {L : Nat → Nat → Nat} {C : Cfg} {D : Dyn}
theorem c_strNull {K : Option Nat → Mm → Prop} {p : Int32} (hW : WC C) (h : CR B M L C D) (hK : K (if isSt C p = true then some (L 1 p.toNatClampNeg) else none) M) : wp_X10_streamOrNull M (L 0 0) p K := by
  have h12 := hW.1
  obtain ⟨o1, o2⟩ := h.2.1
  obtain ⟨g1, g2, g3, g4, g5, g6, g7, g8, -⟩ := h.2.1.2.2.1
  have hA := isA_of (t := 4) g8.1 (by decide) (by decide)
  unfold wp_X10_streamOrNull bk_X10_streamOrNull_22
  rw [o2.1]
  refine ⟨o1.1, fun z => (by cases z), fun a ha => ?_⟩
  cases ha
  rw [g7]
  refine ⟨fun z => ?_, fun z => ⟨g1, fun y => ⟨L 0 2, g4, hA, ?_⟩, fun y => ?_⟩⟩
  · have : ¬ isSt C p = true := fun q => by
      simp only [isSt, Bool.and_eq_true, decide_eq_true_eq] at q
      exact absurd q.1 (Int32.not_le.mpr z)
    rw [if_neg this] at hK; exact hK
  · have hi : isSt C p = true := by
      simp only [isSt, Bool.and_eq_true, decide_eq_true_eq]
      exact ⟨Int32.not_lt.mp z, y⟩
    rw [if_pos hi] at hK
    obtain ⟨s, hs, rfl⟩ := (isSt_iff hW).mp hi
    rw [n_clamp (by omega)] at hK ⊢
    rw [(h.2.1.2.2.2.1 s hs).1, g8.2]
    exact ⟨n_in (by omega) (by omega), hK⟩
  · have : ¬ isSt C p = true := fun q => by
      simp only [isSt, Bool.and_eq_true, decide_eq_true_eq] at q
      exact y q.2
    rw [if_neg this] at hK; exact hK
theorem c_srcWith {K : Option Nat → Mm → Prop} {p q : Int32} (hW : WC C) (h : CR B M L C D) (hK : K (if isPt C p q = true then some (L 1 p.toNatClampNeg) else none) M) : wp_X10_sourceWith M (L 0 0) p q K := by
  have h12 := hW.1
  unfold wp_X10_sourceWith bk_X10_sourceWith_32
  refine ⟨h.2.1.1.1, c_strNull hW h ?_⟩
  by_cases hi : isSt C p = true
  · rw [if_pos hi]
    refine ⟨fun z => (by cases z), fun a ha => ?_⟩
    cases ha
    obtain ⟨s, hs, rfl⟩ := (isSt_iff hW).mp hi
    rw [n_clamp (by omega)] at hK ⊢
    obtain ⟨s1, s2, s3, s4, s5, s6, s7, s8, s9, s10, s11, s12, s13⟩ := h.2.1.2.2.2.1 s hs
    rw [s11]
    refine ⟨s2, fun z => ?_, fun a ha => ?_⟩
    · have k0 : ¬ ckd C s = 0 := fun e => by rw [if_pos e] at z; cases z
      have : ¬ isPt C (nI s) q = true := fun w => by
        simp only [isPt, Bool.and_eq_true, decide_eq_true_eq] at w
        rw [n_clamp (by omega)] at w
        exact k0 w.2.1
      rw [if_neg this] at hK; exact hK
    · have k0 : ckd C s = 0 := Classical.byContradiction (fun e => by rw [if_neg e] at ha; cases ha)
      rw [if_pos k0] at ha
      cases ha
      have o := h.2.1.2.2.2.2.2.1 s hs k0
      rw [o.2.1]
      have hq : isPt C (nI s) q = (decide (0 ≤ q) && decide (q < nI (cpt C s))) := by
        rw [isPt, hi, n_clamp (by omega), k0]; rfl
      rw [hq] at hK
      refine ⟨fun z => ?_, fun z => ⟨o.1, fun y => ?_, fun y => ?_⟩⟩
      · rw [if_neg (by simp [Int32.not_le.mpr z])] at hK; exact hK
      · rw [if_pos (by simp [Int32.not_lt.mp z, y])] at hK; exact hK
      · rw [if_neg (by simp [y])] at hK; exact hK
  · rw [if_neg hi]
    have : ¬ isPt C p q = true := fun w => by
      simp only [isPt, Bool.and_eq_true] at w
      exact hi w.1
    rw [if_neg this] at hK
    exact ⟨fun _ => hK, fun a ha => (by cases ha)⟩
theorem c_refusal {K : Int32 → Mm → Prop} {s k : Nat} (hW : WC C) (h : CR B M L C D) (hs : s < cn C) (h0 : ckd C s = 0) (hk : k < cpt C s) (hp : PB D) (hK : K (if dps D s k = 2 then -2 else if a_stop C D s k = true then -3 else 0) M) : wp_X1_refusalOf M (L 0 1) (some (L 3 s)) (nI k) K := by
  have h4 := (hW.2.2.2 s hs).2.1
  have o := h.2.1.2.2.2.2.2.1 s hs h0
  obtain ⟨o1, o2, o3, o4, o5, o6, o7, o8, o9, o10, o11, -⟩ := o
  have d := (h.2.2.2.2.1 s k hs h0 (by omega)).2
  have hA := isA_of (t := 1) o10 (by decide) (by decide)
  unfold wp_X1_refusalOf bk_X1_refusalOf_28
  refine ⟨L 3 s, rfl, o1, L 4 s, o6, hA, by rw [o11]; exact n_in (by omega) (by omega), ?_⟩
  rw [n_clamp (by omega), d]
  have h2 := hp.1 s k
  have e2 : (nI (dps D s k) = 2) = (dps D s k = 2) := by
    rw [show (2 : Int32) = nI 2 from rfl]; exact n_eq (by omega) (by omega)
  rw [e2]
  refine ⟨fun z => ⟨h.2.1.2.2.1.1, c_isStopped hW h hs h0 (by omega) hp ?_⟩, fun z => ?_⟩
  · rw [if_neg z] at hK
    by_cases c : a_stop C D s k = true
    · rw [if_pos c] at hK
      rw [c]
      exact ⟨fun w => absurd w (by decide), fun _ => hK⟩
    · rw [if_neg c] at hK
      rw [Bool.not_eq_true] at c
      rw [c]
      exact ⟨fun _ => hK, fun w => absurd rfl w⟩
  · rw [if_pos z] at hK; exact hK
theorem c_hear {K : Mm → Prop} {s k : Nat} (hW : WC C) (h : CR B M L C D) (hs : s < cn C) (h0 : ckd C s = 0) (hk : k < cpt C s) (hK : ∀ M1, CR B M1 L C (a_hear D s k) → K M1) : wp_X5_hear M (L 3 s) (nI k) (mI M 70 (L 0 1)) K := by
  have h4 := (hW.2.2.2 s hs).2.1
  obtain ⟨o1, o2, o3, o4, o5, o6, o7, o8, o9, o10, o11, o12, o13, o14, o15, -⟩ := h.2.1.2.2.2.2.2.1 s hs h0
  have hA := isA_of (t := 1) o10 (by decide) (by decide)
  have hA2 := isA_of (t := 1) o14 (by decide) (by decide)
  have en : mI M 70 (L 0 1) = dnow D := h.2.2.2.2.2.2.2.1
  unfold wp_X5_hear
  rw [n_clamp (by omega), en]
  refine ⟨o1, L 4 s, o6, hA, by rw [o11]; exact n_in (by omega) (by omega), L 6 s, o8, hA2, ?_, ?_⟩
  · show vp_in (nI k) (aN M (L 6 s))
    rw [o15]; exact n_in (by omega) (by omega)
  · exact hK _ (CR_hr (CR_ps (v := 0) h hs h0) hs h0)
theorem c_raise {K : Int32 → Mm → Prop} {s k : Nat} {t : Int64} (hW : WC C) (h : CR B M L C D) (hs : s < cn C) (h0 : ckd C s = 0) (hk : k < cpt C s) (h1 : ¬ t ≤ dpr D s k → ∀ M1, CR B M1 L C (xpr D s k t) → K 1 M1) (h2 : t ≤ dpr D s k → K 0 M) : wp_X5_raise M (L 3 s) (nI k) t K := by
  have h4 := (hW.2.2.2 s hs).2.1
  obtain ⟨o1, o2, o3, o4, o5, o6, o7, o8, o9, o10, o11, o12, o13, o14, o15, -⟩ := h.2.1.2.2.2.2.2.1 s hs h0
  have hA := isA_of (t := 2) o12 (by decide) (by decide)
  have d := (h.2.2.2.2.2.1 s k hs h0 (by omega)).2
  unfold wp_X5_raise
  rw [n_clamp (by omega)]
  refine ⟨o1, L 5 s, o7, hA, by rw [o13]; exact n_in (by omega) (by omega), fun z => ⟨by rw [o13]; exact n_in (by omega) (by omega), ?_⟩, fun z => ?_⟩
  · rw [d] at z
    exact h1 (Int64.not_le.mpr z) _ (CR_pr h hs h0)
  · rw [d] at z
    exact h2 (Int64.not_lt.mp z)
end K13
