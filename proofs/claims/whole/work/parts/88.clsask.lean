/-! the class: what is asked -/
theorem hc_none {P : Nat × Int64 × Bool → Bool} (l : List (Nat × Int64 × Bool)) : (∀ x ∈ l, P x = false) → ∀ n : Int32, l.foldl (fun n x => if P x = true then n + 1 else n) n = n := by
  induction l with
  | nil => intro _ n; rfl
  | cons a l ih =>
    intro h n
    rw [List.foldl_cons, if_neg (by rw [h a (by simp)]; decide)]
    exact ih (fun x hx => h x (by simp [hx])) n
theorem pcK_add (f : Nat → Bool) (v : Int32) : ∀ n, a_pcK f v n = v + a_pcK f 0 n
  | 0 => by rw [a_pcK, a_pcK]; exact (Int32.add_zero v).symm
  | n + 1 => by
    rw [a_pcK, a_pcK, pcK_add f v n]
    by_cases c : f n = true
    · rw [if_pos c, if_pos c, Int32.add_assoc]
    · rw [if_neg c, if_neg c]
section K17
variable {B M : Mm} {L : Nat → Nat → Nat} {C : Cfg} {D : Dyn}
theorem c_strThrow {KX : String → Mm → Prop} {K : Option Nat → Mm → Prop} {p : Int32} (hW : WC C) (h : CR B M L C D) (hX : ¬ isSt C p = true → KX "java/lang/IndexOutOfBoundsException" M) (hK : isSt C p = true → K (some (L 1 p.toNatClampNeg)) M) : wp_X10_streamOrThrow M KX (L 0 0) p K := by
  unfold wp_X10_streamOrThrow
  rw [(COF h).2.1]
  refine ⟨(COF h).1, fun z => (by cases z), fun a ha => c_strNull hW h ?_⟩
  by_cases c : isSt C p = true
  · rw [if_pos c]
    exact ⟨fun z => (by cases z), fun a ha => hK c⟩
  · rw [if_neg c]
    exact ⟨fun _ => hX c, fun a ha => (by cases ha)⟩
theorem c_wm {KX : String → Mm → Prop} {K : Int64 → Mm → Prop} {p : Int32} (hW : WC C) (h : CR B M L C D) (hX : ¬ isSt C p = true → KX "java/lang/IndexOutOfBoundsException" M) (hK : isSt C p = true → K (dmk D p.toNatClampNeg) M) : wp_X10_watermark M KX (L 0 0) p K := by
  have h12 := hW.1
  unfold wp_X10_watermark
  refine ⟨(COF h).1, c_strThrow hW h hX (fun c => ?_)⟩
  have hK := hK c
  obtain ⟨s, hs, rfl⟩ := (isSt_iff hW).mp c
  rw [n_clamp (by omega)] at hK ⊢
  have d := h.2.2.1 s hs
  rw [← d] at hK
  exact ⟨L 1 s, rfl, (h.2.1.2.2.2.1 s hs).2.1, hK⟩
theorem c_ii {KX : String → Mm → Prop} {K : Int32 → Mm → Prop} {p : Int32} (hW : WC C) (h : CR B M L C D) (hX : ¬ isSt C p = true → KX "java/lang/IndexOutOfBoundsException" M) (hK : isSt C p = true → K (bI (did D p.toNatClampNeg)) M) : wp_X10_isIdle M KX (L 0 0) p K := by
  have h12 := hW.1
  unfold wp_X10_isIdle
  refine ⟨(COF h).1, c_strThrow hW h hX (fun c => ?_)⟩
  have hK := hK c
  obtain ⟨s, hs, rfl⟩ := (isSt_iff hW).mp c
  rw [n_clamp (by omega)] at hK ⊢
  have d := h.2.2.2.1 s hs
  refine ⟨L 1 s, rfl, (h.2.1.2.2.2.1 s hs).2.1, ?_⟩
  rw [d]
  exact ⟨bI_bz _, hK⟩
theorem c_pr {KX : String → Mm → Prop} {K : Int64 → Mm → Prop} {p q : Int32} (hW : WC C) (h : CR B M L C D) (hO : OKD C D) (hX : ¬ isPt C p q = true → KX "java/lang/IndexOutOfBoundsException" M) (hK : isPt C p q = true → K (dpr D p.toNatClampNeg q.toNatClampNeg) M) : wp_X10_promise M KX (L 0 0) p q K := by
  have h12 := hW.1
  unfold wp_X10_promise
  rw [(COF h).2.1]
  refine ⟨(COF h).1, fun z => (by cases z), fun a ha => c_srcWith hW h ?_⟩
  by_cases c : isPt C p q = true
  · rw [if_pos c]
    refine ⟨fun z => (by cases z), fun a ha => ?_⟩
    cases ha
    have hK := hK c
    obtain ⟨s, k, hs, rfl, hk0, hk, rfl⟩ := (isPt_iff hW).mp c
    have h4 := (hW.2.2.2 s hs).2.1
    rw [n_clamp (show s < 2147483648 by omega), n_clamp (show k < 2147483648 by omega)] at hK
    rw [n_clamp (show s < 2147483648 by omega), n_clamp (show k < 2147483648 by omega)]
    obtain ⟨f1, f2, f3⟩ := CSF h hs hk0
    obtain ⟨p1, p2, p3, p4, p5, p6, p7, p8, p9, p10⟩ := CPF hW h hO.2.1 hs hk0 hk
    refine ⟨f1, L 3 s, f2, f3, L 5 s, p7, p8, p9, ?_⟩
    rw [(h.2.2.2.2.2.1 s k hs hk0 (by omega)).2]
    exact hK
  · rw [if_neg c]
    exact ⟨fun _ => hX c, fun a ha => (by cases ha)⟩
theorem c_pa {K : Int32 → Mm → Prop} {p q : Int32} (hW : WC C) (h : CR B M L C D) (hO : OKD C D) (hK : K (A_pa C D p q) M) : wp_X10_part M (L 0 0) p q K := by
  have h12 := hW.1
  unfold wp_X10_part bk_X10_part_41
  refine ⟨(COF h).1, c_srcWith hW h ?_⟩
  unfold A_pa at hK
  by_cases c : isPt C p q = true
  · rw [if_pos c] at hK ⊢
    refine ⟨fun z => (by cases z), fun a ha => ?_⟩
    cases ha
    obtain ⟨s, k, hs, rfl, hk0, hk, rfl⟩ := (isPt_iff hW).mp c
    have h4 := (hW.2.2.2 s hs).2.1
    rw [n_clamp (show s < 2147483648 by omega), n_clamp (show k < 2147483648 by omega)] at hK
    rw [n_clamp (show s < 2147483648 by omega), n_clamp (show k < 2147483648 by omega)]
    obtain ⟨f1, f2, f3⟩ := CSF h hs hk0
    obtain ⟨p1, p2, p3, p4, p5, p6, p7, p8, p9, p10⟩ := CPF hW h hO.2.1 hs hk0 hk
    refine ⟨(COF h).1, f1, L 0 1, (COF h).2.1, (COF h).2.2, ?_⟩
    rw [f2]
    refine c_isStopped hW h hs hk0 (by omega) hO.2.1 ?_
    rw [bI_0]
    refine ⟨fun z => ⟨f1, L 3 s, f2, f3, L 4 s, p1, p2, p3, ?_⟩, fun z => ?_⟩
    · rw [if_neg (by rw [z]; decide)] at hK
      rw [p10]; exact hK
    · rw [Bool.not_eq_false] at z
      rw [if_pos z] at hK; exact hK
  · rw [if_neg c] at hK ⊢
    exact ⟨fun _ => hK, fun a ha => (by cases ha)⟩
theorem c_ke {KX : String → Mm → Prop} {K : Int32 → Mm → Prop} {p q : Int32} (hW : WC C) (h : CR B M L C D) (hO : OKD C D) (hX : (A_ke C D p q).1 = 2 → KX "java/lang/IndexOutOfBoundsException" M) (hK : (A_ke C D p q).1 = 0 → K (A_ke C D p q).2 M) : wp_X10_kept M KX (L 0 0) p q K := by
  have h12 := hW.1
  unfold wp_X10_kept
  unfold A_ke at hX hK
  refine ⟨(COF h).1, c_strThrow hW h (fun c => hX (by rw [if_neg c])) (fun c => ?_)⟩
  rw [if_pos c] at hX hK
  have main : q = 0 ∨ q = 1 → bk_X10_kept_25 KX (L 0 0) K p q (some (L 1 p.toNatClampNeg)) M := fun hq => by
    rw [if_pos hq] at hK
    have hK := hK rfl
    dsimp only at hK
    obtain ⟨s, hs, rfl⟩ := (isSt_iff hW).mp c
    rw [n_clamp (show s < 2147483648 by omega)] at hK ⊢
    obtain ⟨s1, s2, s3, s4, s5, s6, s7, s8, s9, s10, s11, s12, s13⟩ := h.2.1.2.2.2.1 s hs
    unfold bk_X10_kept_25
    refine ⟨L 1 s, rfl, s2, ?_⟩
    rw [s12, s13]
    obtain ⟨j, hj, rfl⟩ : ∃ j, j < 2 ∧ q = nI j := by
      rcases hq with rfl | rfl
      · exact ⟨0, by omega, rfl⟩
      · exact ⟨1, by omega, rfl⟩
    rw [n_clamp (show j < 2147483648 by omega)] at hK ⊢
    by_cases k4 : ckd C s = 4
    · rw [if_pos k4] at hK ⊢
      refine ⟨fun z => (by cases z), fun a ha => ?_⟩
      cases ha
      obtain ⟨j1, j2, j3, j4, j5, j6, j7, j8, j9, j10, j11, -⟩ := h.2.1.2.2.2.2.2.2.1 s hs k4
      have e := (h.2.2.2.2.2.2.2.2.2.2.2.2.1 s j hs k4 hj).2.1
      refine ⟨j1, L 9 s, j6, isA_of j10 (by decide) (by decide), by rw [j11]; exact n_in (by omega) (by omega), ?_⟩
      rw [e]; exact hK
    · rw [if_neg k4] at hK ⊢
      refine ⟨fun _ => ⟨fun z => ?_, fun z => ?_⟩, fun a ha => (by cases ha)⟩
      · rw [if_neg z] at hK
        by_cases k5 : ckd C s = 5
        · rw [if_pos k5] at hK ⊢
          refine ⟨fun y => (by cases y), fun a ha => ?_⟩
          cases ha
          have e := (h.2.2.2.2.2.2.2.2.2.2.2.1 s hs k5).2.1
          refine ⟨(h.2.1.2.2.2.2.2.2.2.1 s hs k5).1, ?_⟩
          rw [e]; exact hK
        · rw [if_neg k5] at hK ⊢
          refine ⟨fun _ => ⟨(COF h).1, L 0 1, (COF h).2.1, (COF h).2.2, L 0 4, h.2.1.2.2.1.2.2.2.2.2.1, (CTF h).1, c_tcount (by omega) h (fun x hx => by have := (hO.1.2.2 x hx).1; omega) ?_⟩, fun a ha => (by cases ha)⟩
          by_cases k3 : ckd C s = 3
          · rw [if_pos k3] at hK; exact hK
          · rw [if_neg k3] at hK
            have e0 : a_hc (fun x => x.2.2 && decide (x.1 = s)) (dti D) = 0 := hc_none (dti D) (fun x hx => by
              have : ¬ x.1 = s := fun e => k3 (by rw [← e]; exact hO.2.2.1 x hx)
              simp [this]) 0
            rw [e0]; exact hK
      · rw [if_pos z] at hK; exact hK
  refine ⟨fun z => main (Or.inl z), fun z => ⟨fun y => main (Or.inr y), fun y => hX ?_⟩⟩
  rw [if_neg (fun w => w.elim z y)]
theorem c_has {P : Int32 → Mm → Prop} {b room n : Nat} {i w : Int32} (h1 : mK M b = 4) (h3 : mI M 193 b = nI room) (hl : mI M 194 b = nI n) (h0 : ¬ (0 ≤ i ∧ i < nI n ∧ i < nI room ∧ 0 ≤ w ∧ w ≤ 3) → P 0 M) (hP : 0 ≤ i ∧ i < nI n ∧ i < nI room ∧ 0 ≤ w ∧ w ≤ 3 → P 1 M) : wp_X3_has M b i w P := by
  have no : ¬ (0 ≤ i ∧ i < nI n ∧ i < nI room ∧ 0 ≤ w ∧ w ≤ 3) → bk_X3_has_33 b P M := fun z => ⟨Or.inl rfl, h0 z⟩
  unfold wp_X3_has
  rw [hl, h3]
  exact ⟨fun z => no (fun q => absurd q.1 (Int32.not_le.mpr z)), fun z => ⟨h1, fun y => no (fun q => absurd q.2.1 (Int32.not_lt.mpr y)), fun y => ⟨fun x => no (fun q => absurd q.2.2.1 (Int32.not_lt.mpr x)), fun x => ⟨fun v => no (fun q => absurd q.2.2.2.1 (Int32.not_le.mpr v)), fun v => ⟨fun u => no (fun q => absurd q.2.2.2.2 (Int32.not_le.mpr u)), fun u => ⟨Or.inr rfl, hP ⟨Int32.not_lt.mp z, Int32.not_le.mp y, Int32.not_le.mp x, Int32.not_lt.mp v, Int32.not_lt.mp u⟩⟩⟩⟩⟩⟩⟩
theorem c_get {K : Int64 → Mm → Prop} {a b room : Nat} {l : List Row} {i w : Int32} (h1 : mK M b = 4) (h2 : mR M 192 b = some a) (h5 : aN M a = 4 * room) (hl : CNT M b a room l) (hb : l.length < 2147483648) (hr : room < 2000) (hg : 0 ≤ i ∧ i < nI l.length ∧ i < nI room ∧ 0 ≤ w ∧ w ≤ 3) (hK : K (A_no l room i w).2 M) : wp_X3_get M b i w K := by
  unfold A_no at hK
  rw [if_pos hg] at hK
  obtain ⟨z, y, x, v, u⟩ := hg
  obtain ⟨j, hj, rfl⟩ := nI_of (Int32.not_lt.mpr z)
  rw [n_lt (by omega) (by omega)] at y x
  obtain ⟨c, hc, rfl⟩ := nI_of2 (n := 3) (by decide) (Int32.not_lt.mpr v) u
  obtain ⟨r, hr1⟩ : ∃ r, l[j]? = some r := ⟨l[j], List.getElem?_eq_getElem (by omega)⟩
  obtain ⟨a1, a2, a3, a4⟩ := hl.2.2 j r (by omega) hr1
  rw [n_clamp (by omega), hr1] at hK
  dsimp only at hK
  unfold wp_X3_get
  rw [show (4 : Int32) * nI j + nI c = nI (4 * j + c) by rw [show (4 : Int32) = nI 4 from rfl, n_mul, n_add], n_clamp (by omega)]
  refine ⟨h1, a, h2, isA_of hl.1 (by decide) (by decide), by rw [h5]; exact n_in (by omega) (by omega), ?_⟩
  have e : rowAt r (nI c) = aJ M a (4 * j + c) := by
    unfold rowAt
    rcases (show c = 0 ∨ c = 1 ∨ c = 2 ∨ c = 3 by omega) with rfl | rfl | rfl | rfl
    · rw [if_pos (by decide)]; exact a1.symm
    · rw [if_neg (by decide), if_pos (by decide)]; exact a2.symm
    · rw [if_neg (by decide), if_neg (by decide), if_pos (by decide)]; exact a3.symm
    · rw [if_neg (by decide), if_neg (by decide), if_neg (by decide)]; exact a4.symm
  rw [e] at hK; exact hK
theorem no_1 {l : List Row} {room : Nat} {i w : Int32} (h : ¬ (0 ≤ i ∧ i < nI l.length ∧ i < nI room ∧ 0 ≤ w ∧ w ≤ 3)) : (A_no l room i w).1 = 1 := by unfold A_no; rw [if_neg h]
theorem no_0 {l : List Row} {room : Nat} {i w : Int32} (h : 0 ≤ i ∧ i < nI l.length ∧ i < nI room ∧ 0 ≤ w ∧ w ≤ 3) : (A_no l room i w).1 = 0 := by unfold A_no; rw [if_pos h]
theorem c_outA {KX : String → Mm → Prop} {K : Int64 → Mm → Prop} {l : List Row} {i w : Int32} (h : COB M L) (hl : CNT M (L 0 12) (L 0 13) 300 l) (hb : l.length < 2147483648) (hX : (A_no l 300 i w).1 = 1 → KX "java/lang/IndexOutOfBoundsException" M) (hK : (A_no l 300 i w).1 = 0 → K (A_no l 300 i w).2 M) : wp_X10_out M KX (L 0 0) i w K := by
  obtain ⟨o1, o2, o3, o4, o5, o6, o7, o8, o9, -⟩ := h
  unfold wp_X10_out
  refine ⟨o1, L 0 12, o4, o8.1, c_has (n := l.length) (room := 300) o8.1 o8.2.2.1 hl.2.1 (fun z => ⟨fun y => absurd rfl y, fun _ => hX (no_1 z)⟩) (fun z => ⟨fun _ => ⟨o1, L 0 12, o4, o8.1, c_get (l := l) (room := 300) o8.1 o8.2.1 o8.2.2.2.2 hl hb (by omega) z (hK (no_0 z))⟩, fun y => absurd y (by decide)⟩)⟩
theorem c_lateA {KX : String → Mm → Prop} {K : Int64 → Mm → Prop} {l : List Row} {i w : Int32} (h : COB M L) (hl : CNT M (L 0 14) (L 0 15) 200 l) (hb : l.length < 2147483648) (hX : (A_no l 200 i w).1 = 1 → KX "java/lang/IndexOutOfBoundsException" M) (hK : (A_no l 200 i w).1 = 0 → K (A_no l 200 i w).2 M) : wp_X10_late M KX (L 0 0) i w K := by
  obtain ⟨o1, o2, o3, o4, o5, o6, o7, o8, o9, -⟩ := h
  unfold wp_X10_late
  refine ⟨o1, L 0 14, o5, o9.1, c_has (n := l.length) (room := 200) o9.1 o9.2.2.1 hl.2.1 (fun z => ⟨fun y => absurd rfl y, fun _ => hX (no_1 z)⟩) (fun z => ⟨fun _ => ⟨o1, L 0 14, o5, o9.1, c_get (l := l) (room := 200) o9.1 o9.2.1 o9.2.2.2.2 hl hb (by omega) z (hK (no_0 z))⟩, fun y => absurd y (by decide)⟩)⟩
/-- all tickets that are held -/
theorem c_tall {K : Int32 → Mm → Prop} (h : CR B M L C D) (hK : K (a_hc (fun x => x.2.2) (dti D)) M) : wp_X8_countAll M (L 0 4) K := by
  have F := CTF h
  obtain ⟨tk, e1, h60, hent⟩ := h.2.2.2.2.2.2.2.2.2.2.2.2.2
  have main : ∀ (post : List (Nat × Int64 × Bool)) (j : Nat) (n : Int32), (dti D).drop j = post → j ≤ (dti D).length → post.foldl (fun n x => if x.2.2 = true then n + 1 else n) n = a_hc (fun x => x.2.2) (dti D) → lp_X8_countAll_4 (L 0 4) K (post.length + 1) n (nI j) M := by
    intro post
    induction post with
    | nil =>
      intro j n hd hj ho
      have hil : j = (dti D).length := by
        have := List.drop_eq_nil_iff.mp hd
        omega
      rw [lp_X8_countAll_4]
      simp (disch := omega) only [F, e1, n_le, show (dti D).length ≤ j by omega, not_true, false_implies, forall_const, true_and, and_true]
      rw [List.foldl_nil] at ho
      rw [ho]; exact hK
    | cons x post ih =>
      intro j n hd hj ho
      have hil : j < (dti D).length := by
        refine Classical.byContradiction fun z => ?_
        rw [List.drop_eq_nil_of_le (by omega)] at hd
        cases hd
      have hle : (dti D)[j]? = some x := by
        have := congrArg List.head? hd
        rw [List.head?_drop] at this
        exact this
      have hd2 : (dti D).drop (j + 1) = post := by
        rw [← List.tail_drop, hd]
        rfl
      obtain ⟨t1, t2, t3⟩ := hent j x hle
      rw [List.foldl_cons] at ho
      rw [List.length_cons, lp_X8_countAll_4]
      simp (disch := omega) only [F, e1, n_le, n_in, n_clamp, na1, show ¬ (dti D).length ≤ j by omega, t3, bI_0, bk_X8_countAll_24, Option.some.injEq, exists_eq_left', not_false_eq_true, false_implies, forall_const, true_and, and_true]
      refine ⟨fun z => ?_, fun z => ?_⟩
      · rw [if_neg (by rw [z]; decide)] at ho; exact ih (j + 1) n hd2 (by omega) ho
      · rw [Bool.not_eq_false] at z
        rw [if_pos z] at ho; exact ih (j + 1) _ hd2 (by omega) ho
  exact ⟨_, main (dti D) 0 0 rfl (Nat.zero_le _) rfl⟩
theorem c_idleL {K : Int32 → Mm → Prop} (hW : WC C) (h : CR B M L C D) (hp : PB D) (hK : K (a_pcS C (fun s k => decide (dps D s k = 1)) (cn C)) M) : ∀ (r s : Nat), s + r = cn C → lp_X1_countIdleParts_4 (L 0 1) K (r + 1) (a_pcS C (fun s k => decide (dps D s k = 1)) s) (nI s) M := by
  intro r
  have h12 := hW.1
  obtain ⟨g1, g2, g3, g4, g5, g6, g7, g8, -⟩ := h.2.1.2.2.1
  have hA := isA_of (t := 4) g8.1 (by decide) (by decide)
  induction r with
  | zero =>
    intro s hr
    have e : s = cn C := by omega
    subst e
    rw [lp_X1_countIdleParts_4, g7]
    exact ⟨g1, fun _ => hK, fun z => absurd (by rw [n_le (by omega) (by omega)]; exact Nat.le_refl _) z⟩
  | succ r ih =>
    intro s hr
    obtain ⟨s1, s2, s3, s4, s5, s6, s7, s8, s9, s10, s11, -⟩ := h.2.1.2.2.2.1 s (by omega)
    have nx := ih (s + 1) (by omega)
    rw [a_pcS] at nx
    rw [lp_X1_countIdleParts_4, g7]
    unfold bk_X1_countIdleParts_40
    rw [show nI s + 1 = nI (s + 1) from nI_add _ 1]
    refine ⟨g1, fun z => ?_, fun _ => ⟨L 0 2, g4, hA, by rw [g8.2]; exact n_in (by omega) (by omega), L 1 s, by rw [n_clamp (by omega)]; exact s1, s2, ?_⟩⟩
    · rw [n_le (by omega) (by omega)] at z; omega
    · rw [s11]
      by_cases k0 : ckd C s = 0
      · rw [if_pos k0] at nx ⊢
        refine ⟨fun z => (by cases z), fun a ha => ?_⟩
        cases ha
        refine ⟨by rw [g8.2]; exact n_in (by omega) (by omega), (CSF h (by omega) k0).2.2, _, c_countIn (st := 1) hW h (by omega) k0 hp (by omega) ?_ (cpt C s) 0 (Nat.zero_add _)⟩
        rw [← pcK_add]
        exact nx
      · rw [if_neg k0] at nx ⊢
        exact ⟨fun _ => nx, fun a ha => (by cases ha)⟩
theorem c_stopP {R4 : Int32 → Int32 → Mm → Prop} {K : Int32 → Mm → Prop} {s : Nat} {v : Int32} (hW : WC C) (h : CR B M L C D) (hp : PB D) (hs : s < cn C) (k0 : ckd C s = 0) (hR : R4 (a_pcK (fun k => a_stop C D s k) v (cpt C s)) (nI (s + 1)) M) : ∀ (r k : Nat), k + r = cpt C s → lp_X1_countStoppedParts_25 (L 0 1) R4 K (r + 1) (a_pcK (fun k => a_stop C D s k) v k) (nI s) (some (L 3 s)) (nI k) M := by
  intro r
  have h4 := (hW.2.2.2 s hs).2.1
  have o := h.2.1.2.2.2.2.2.1 s hs k0
  induction r with
  | zero =>
    intro k hr
    have e : k = cpt C s := by omega
    subst e
    rw [lp_X1_countStoppedParts_25]
    unfold bk_X1_countStoppedParts_57
    rw [show nI s + 1 = nI (s + 1) from nI_add _ 1]
    refine ⟨fun _ => hR, fun a ha => ?_⟩
    cases ha
    rw [o.2.1]
    exact ⟨o.1, fun _ => hR, fun z => absurd (by rw [n_le (by omega) (by omega)]; exact Nat.le_refl _) z⟩
  | succ r ih =>
    intro k hr
    have nx := ih (k + 1) (by omega)
    rw [a_pcK] at nx
    rw [lp_X1_countStoppedParts_25]
    unfold bk_X1_countStoppedParts_51
    refine ⟨fun z => (by cases z), fun a ha => ?_⟩
    cases ha
    rw [o.2.1]
    refine ⟨o.1, fun z => ?_, fun _ => ⟨h.2.1.2.2.1.1, c_isStopped hW h hs k0 (by omega) hp ?_⟩⟩
    · rw [n_le (by omega) (by omega)] at z; omega
    · rw [bI_0, show nI k + 1 = nI (k + 1) from nI_add _ 1]
      refine ⟨fun z => ?_, fun z => ?_⟩
      · rw [if_neg (by rw [z]; decide)] at nx; exact nx
      · rw [Bool.not_eq_false] at z
        rw [if_pos z] at nx; exact nx
theorem c_stopS {K : Int32 → Mm → Prop} (hW : WC C) (h : CR B M L C D) (hp : PB D) (hK : K (a_pcS C (fun s k => a_stop C D s k) (cn C)) M) : ∀ (r s : Nat), s + r = cn C → lp_X1_countStoppedParts_4 (L 0 1) K (r + 1) (a_pcS C (fun s k => a_stop C D s k) s) (nI s) M := by
  intro r
  have h12 := hW.1
  obtain ⟨g1, g2, g3, g4, g5, g6, g7, g8, -⟩ := h.2.1.2.2.1
  have hA := isA_of (t := 4) g8.1 (by decide) (by decide)
  induction r with
  | zero =>
    intro s hr
    have e : s = cn C := by omega
    subst e
    rw [lp_X1_countStoppedParts_4, g7]
    exact ⟨g1, fun _ => hK, fun z => absurd (by rw [n_le (by omega) (by omega)]; exact Nat.le_refl _) z⟩
  | succ r ih =>
    intro s hr
    obtain ⟨s1, s2, s3, s4, s5, s6, s7, s8, s9, s10, s11, -⟩ := h.2.1.2.2.2.1 s (by omega)
    have nx := ih (s + 1) (by omega)
    rw [a_pcS] at nx
    rw [lp_X1_countStoppedParts_4, g7]
    refine ⟨g1, fun z => ?_, fun _ => ⟨L 0 2, g4, hA, by rw [g8.2]; exact n_in (by omega) (by omega), L 1 s, by rw [n_clamp (by omega)]; exact s1, s2, ?_⟩⟩
    · rw [n_le (by omega) (by omega)] at z; omega
    · rw [s11]
      by_cases k0 : ckd C s = 0
      · rw [if_pos k0] at nx ⊢
        exact ⟨_, c_stopP hW h hp (by omega) k0 nx (cpt C s) 0 (Nat.zero_add _)⟩
      · rw [if_neg k0] at nx ⊢
        refine ⟨1, ?_⟩
        rw [lp_X1_countStoppedParts_25]
        unfold bk_X1_countStoppedParts_57
        rw [show nI s + 1 = nI (s + 1) from nI_add _ 1]
        exact ⟨fun _ => nx, fun a ha => (by cases ha)⟩
theorem c_told {K : Int32 → Mm → Prop} {w : Int32} (hW : WC C) (h : CR B M L C D) (hO : OKD C D) (hK : K (A_told C D (mI M 1 (L 0 8)) w) M) : wp_X10_told M (L 0 0) w K := by
  have h12 := hW.1
  obtain ⟨o1, o2, o3, o4, o5, o6, o7, o8, o9, -⟩ := h.2.1.1
  obtain ⟨g1, g2, g3, g4, g5, g6, g7, g8, -⟩ := h.2.1.2.2.1
  have no : ¬ (0 ≤ w ∧ w ≤ 8) → K (-1) M := fun z => by
    unfold A_told at hK
    have q : ∀ c : Int32, 0 ≤ c → c ≤ 8 → ¬ w = c := fun c h1 h2 e => z (by rw [e]; exact ⟨h1, h2⟩)
    rw [if_neg (q 0 (by decide) (by decide)), if_neg (q 1 (by decide) (by decide)), if_neg (q 2 (by decide) (by decide)), if_neg (q 3 (by decide) (by decide)), if_neg (q 4 (by decide) (by decide)), if_neg (q 5 (by decide) (by decide)), if_neg (q 6 (by decide) (by decide)), if_neg (q 7 (by decide) (by decide)), if_neg (q 8 (by decide) (by decide))] at hK
    exact hK
  unfold wp_X10_told bk_X10_told_10
  rw [(COF h).2.1]
  refine ⟨fun z => no (fun q => absurd q.1 (Int32.not_le.mpr z)), fun z => ⟨fun y => ⟨fun x => ⟨o1, fun v => (by cases v), fun a ha => ?_⟩, fun x => ⟨o1, L 0 8, o2, o6.1, ?_⟩⟩, fun y => no (fun q => y q.2)⟩⟩
  · cases ha
    obtain ⟨j, hj, rfl⟩ := nI_of2 (n := 8) (by decide) z y
    have hj8 : ¬ j = 8 := fun e => x (by rw [e]; rfl)
    have et : (nI j).toInt = (j : Int) := n_toInt (by omega)
    have ee : ∀ c, c < 2147483648 → nI j = nI c → j = c := fun c hc e => by rw [n_eq (by omega) hc] at e; exact e
    unfold A_told at hK
    refine ⟨fun v => ⟨g1, _, c_stopS hW h hO.2.1 ?_ (cn C) 0 (Nat.zero_add _)⟩, fun v => ⟨g1, ?_⟩, fun v => ⟨g1, ?_⟩, fun v => ⟨L 0 12, o4, o8.1, ?_⟩, fun v => ⟨L 0 14, o5, o9.1, ?_⟩, fun v => ⟨g1, ?_⟩, fun v => ⟨g1, L 0 4, g6, (CTF h).1, c_tall h ?_⟩, fun v => ⟨g1, _, c_idleL hW h hO.2.1 ?_ (cn C) 0 (Nat.zero_add _)⟩⟩
    · rw [et] at v
      have : j = 7 := by omega
      subst this
      exact hK
    · have := ee 0 (by omega) v; subst this; rw [g7]; exact hK
    · have := ee 1 (by omega) v; subst this
      have e : mI M 70 (L 0 1) = dnow D := h.2.2.2.2.2.2.2.1
      rw [e]; exact hK
    · have := ee 2 (by omega) v; subst this
      rw [h.2.2.2.2.2.2.2.2.1.2.1]; exact hK
    · have := ee 3 (by omega) v; subst this
      rw [h.2.2.2.2.2.2.2.2.2.1.2.1]; exact hK
    · have := ee 4 (by omega) v; subst this
      have e : mI M 71 (L 0 1) = dlo D := h.2.2.2.2.2.2.2.2.2.2.1
      rw [e]; exact hK
    · have := ee 5 (by omega) v; subst this; exact hK
    · have := ee 6 (by omega) v; subst this; exact hK
  · subst x
    exact hK
end K17
