/-! the class: rows that are out and late; a source's parts -/
section K2
variable {B M : Mm} {L : Nat → Nat → Nat} {C : Cfg} {D : Dyn}
theorem CNT_new {b a room : Nat} {l : List Row} {s : Nat} {t : Int64} {k w : Int32} {M1 : Mm} (hl : CNT M b a room l) (h : (M1 = sI M 194 b (nI (l.length + 1)) ∧ room ≤ l.length) ∨ (M1 = sI (tJ (tJ (tJ (tJ M a (4 * l.length) (nI s).toInt64) a (4 * l.length + 1) t) a (4 * l.length + 2) k.toInt64) a (4 * l.length + 3) w.toInt64) 194 b (nI (l.length + 1)) ∧ l.length < room)) : CNT M1 b a room (l ++ [(s, t, k, w)]) := by
  obtain ⟨h1, h2, h3⟩ := hl
  rcases h with ⟨rfl, hr⟩ | ⟨rfl, hr⟩
  · refine ⟨h1, by simp [ms], fun i r hi hr' => ?_⟩
    rw [List.getElem?_append_left (by omega)] at hr'
    simpa [ms] using h3 i r hi hr'
  · refine ⟨h1, by simp [ms], fun i r hi hr' => ?_⟩
    by_cases e : i < l.length
    · rw [List.getElem?_append_left e] at hr'
      obtain ⟨a1, a2, a3, a4⟩ := h3 i r hi hr'
      simp only [ms, if_true]
      refine ⟨?_, ?_, ?_, ?_⟩
      · rw [if_neg (by omega), if_neg (by omega), if_neg (by omega), if_neg (by omega), a1]
      · rw [if_neg (by omega), if_neg (by omega), if_neg (by omega), if_neg (by omega), a2]
      · rw [if_neg (by omega), if_neg (by omega), if_neg (by omega), if_neg (by omega), a3]
      · rw [if_neg (by omega), if_neg (by omega), if_neg (by omega), if_neg (by omega), a4]
    · rw [List.getElem?_append_right (by omega)] at hr'
      have e2 : i = l.length := by
        have := (List.getElem?_eq_some_iff.mp hr').1
        simp at this
        omega
      subst e2
      rw [Nat.sub_self] at hr'
      cases hr'
      simp [ms]
theorem CNT_oth {b a room b' a' : Nat} {l l' : List Row} {s : Nat} {t : Int64} {k w : Int32} {M1 : Mm} (hb : b' ≠ b) (ha : a' ≠ a) (hl : CNT M b' a' room l') (h : (M1 = sI M 194 b (nI (l.length + 1))) ∨ (M1 = sI (tJ (tJ (tJ (tJ M a (4 * l.length) (nI s).toInt64) a (4 * l.length + 1) t) a (4 * l.length + 2) k.toInt64) a (4 * l.length + 3) w.toInt64) 194 b (nI (l.length + 1)))) : CNT M1 b' a' room l' := by
  obtain ⟨h1, h2, h3⟩ := hl
  rcases h with rfl | rfl
  · exact ⟨h1, by simpa [ms, hb] using h2, by simpa [ms] using h3⟩
  · exact ⟨h1, by simpa [ms, hb] using h2, by simpa [ms, ha] using h3⟩
theorem c_out {K : Mm → Prop} {s : Nat} {t : Int64} {k w : Int32} (h : CR B M L C D) (hb : LB (a_out D (s, t, k, w))) (hK : ∀ M1, CR B M1 L C (a_out D (s, t, k, w)) → K M1) : wp_X3_note M (L 0 12) (nI s) t k w K := by
  obtain ⟨hO, hS, d1, d2, d3, d4, d5, d6, d7, d8, d9, d10, d11, d12⟩ := id h
  obtain ⟨-, -, -, -, -, -, -, ⟨k1, k2, k3, k4, k5⟩, ⟨j1, j2, j3, j4, j5⟩, n1, n2, n3, n4⟩ := hS.1
  have hl : (dou D).length < 2147483647 := by have := hb.1; simp [a_out, dg] at this; omega
  refine c_note (room := 300) k1 k2 k3 k4 k5 (by decide) d7 hl (fun M1 hM1 => hK M1 ?_)
  have hn := CNT_new d7 hM1
  have ho := CNT_oth (s := s) (t := t) (k := k) (w := w) (l := dou D) n3.symm n4.symm d8 (hM1.imp (fun q => q.1) (fun q => q.1))
  rcases hM1 with ⟨rfl, -⟩ | ⟨rfl, -⟩
  · refine ⟨hO.trans (off_sI (by rw [k1]; exact nRK (by decide))), ?_, ?_⟩
    · simp (disch := decide) only [c_CMK_sI, c_CMK_sJ, c_CMK_tI, c_CMK_tJ, c_CID_sI, c_CID_sJ, c_CID_tI, c_CID_tJ, c_CPS_sI, c_CPS_sJ, c_CPS_tI, c_CPS_tJ, c_CPR_sI, c_CPR_sJ, c_CPR_tI, c_CPR_tJ, c_CHR_sI, c_CHR_sJ, c_CHR_tI, c_CHR_tJ, c_CNW_sI, c_CNW_sJ, c_CNW_tI, c_CNW_tJ, c_CLO_sI, c_CLO_sJ, c_CLO_tI, c_CLO_tJ, c_CNT_sI, c_CNT_sJ, c_CNT_tI, c_CNT_tJ, c_CWI_sI, c_CWI_sJ, c_CWI_tI, c_CWI_tJ, c_CKP_sI, c_CKP_sJ, c_CKP_tI, c_CKP_tJ, c_CTI_sI, c_CTI_sJ, c_CTI_tI, c_CTI_tJ, c_CSH_sI, c_CSH_sJ, c_CSH_tI, c_CSH_tJ]; exact hS
    · simp (disch := decide) only [CDT, a_out, dg, c_CMK_sI, c_CMK_sJ, c_CMK_tI, c_CMK_tJ, c_CID_sI, c_CID_sJ, c_CID_tI, c_CID_tJ, c_CPS_sI, c_CPS_sJ, c_CPS_tI, c_CPS_tJ, c_CPR_sI, c_CPR_sJ, c_CPR_tI, c_CPR_tJ, c_CHR_sI, c_CHR_sJ, c_CHR_tI, c_CHR_tJ, c_CNW_sI, c_CNW_sJ, c_CNW_tI, c_CNW_tJ, c_CLO_sI, c_CLO_sJ, c_CLO_tI, c_CLO_tJ, c_CNT_sI, c_CNT_sJ, c_CNT_tI, c_CNT_tJ, c_CWI_sI, c_CWI_sJ, c_CWI_tI, c_CWI_tJ, c_CKP_sI, c_CKP_sJ, c_CKP_tI, c_CKP_tJ, c_CTI_sI, c_CTI_sJ, c_CTI_tI, c_CTI_tJ, c_CSH_sI, c_CSH_sJ, c_CSH_tI, c_CSH_tJ]
      exact ⟨d1, d2, d3, d4, d5, d6, hn, ho, d9, d10, d11, d12⟩
  · refine ⟨((((hO.trans (off_tJ (by rw [k4]; exact nRK (by decide)))).trans (off_tJ (by simp only [ms]; rw [k4]; exact nRK (by decide)))).trans (off_tJ (by simp only [ms]; rw [k4]; exact nRK (by decide)))).trans (off_tJ (by simp only [ms]; rw [k4]; exact nRK (by decide)))).trans (off_sI (by simp only [ms]; rw [k1]; exact nRK (by decide))), ?_, ?_⟩
    · simp (disch := first | decide | (simp only [ms, k4]; decide)) only [c_CMK_sI, c_CMK_sJ, c_CMK_tI, c_CMK_tJ, c_CID_sI, c_CID_sJ, c_CID_tI, c_CID_tJ, c_CPS_sI, c_CPS_sJ, c_CPS_tI, c_CPS_tJ, c_CPR_sI, c_CPR_sJ, c_CPR_tI, c_CPR_tJ, c_CHR_sI, c_CHR_sJ, c_CHR_tI, c_CHR_tJ, c_CNW_sI, c_CNW_sJ, c_CNW_tI, c_CNW_tJ, c_CLO_sI, c_CLO_sJ, c_CLO_tI, c_CLO_tJ, c_CNT_sI, c_CNT_sJ, c_CNT_tI, c_CNT_tJ, c_CWI_sI, c_CWI_sJ, c_CWI_tI, c_CWI_tJ, c_CKP_sI, c_CKP_sJ, c_CKP_tI, c_CKP_tJ, c_CTI_sI, c_CTI_sJ, c_CTI_tI, c_CTI_tJ, c_CSH_sI, c_CSH_sJ, c_CSH_tI, c_CSH_tJ]; exact hS
    · simp (disch := first | decide | (simp only [ms, k4]; decide)) only [CDT, a_out, dg, c_CMK_sI, c_CMK_sJ, c_CMK_tI, c_CMK_tJ, c_CID_sI, c_CID_sJ, c_CID_tI, c_CID_tJ, c_CPS_sI, c_CPS_sJ, c_CPS_tI, c_CPS_tJ, c_CPR_sI, c_CPR_sJ, c_CPR_tI, c_CPR_tJ, c_CHR_sI, c_CHR_sJ, c_CHR_tI, c_CHR_tJ, c_CNW_sI, c_CNW_sJ, c_CNW_tI, c_CNW_tJ, c_CLO_sI, c_CLO_sJ, c_CLO_tI, c_CLO_tJ, c_CNT_sI, c_CNT_sJ, c_CNT_tI, c_CNT_tJ, c_CWI_sI, c_CWI_sJ, c_CWI_tI, c_CWI_tJ, c_CKP_sI, c_CKP_sJ, c_CKP_tI, c_CKP_tJ, c_CTI_sI, c_CTI_sJ, c_CTI_tI, c_CTI_tJ, c_CSH_sI, c_CSH_sJ, c_CSH_tI, c_CSH_tJ]
      exact ⟨d1, d2, d3, d4, d5, d6, hn, ho, d9, d10, d11, d12⟩
theorem c_late {K : Mm → Prop} {s : Nat} {t : Int64} {k w : Int32} (h : CR B M L C D) (hb : LB (a_late D (s, t, k, w))) (hK : ∀ M1, CR B M1 L C (a_late D (s, t, k, w)) → K M1) : wp_X3_note M (L 0 14) (nI s) t k w K := by
  obtain ⟨hO, hS, d1, d2, d3, d4, d5, d6, d7, d8, d9, d10, d11, d12⟩ := id h
  obtain ⟨-, -, -, -, -, -, -, ⟨j1, j2, j3, j4, j5⟩, ⟨k1, k2, k3, k4, k5⟩, n1, n2, n3, n4⟩ := hS.1
  have hl : (dla D).length < 2147483647 := by have := hb.2; simp [a_late, dg] at this; omega
  refine c_note (room := 200) k1 k2 k3 k4 k5 (by decide) d8 hl (fun M1 hM1 => hK M1 ?_)
  have hn := CNT_new d8 hM1
  have ho := CNT_oth (s := s) (t := t) (k := k) (w := w) (l := dla D) n3 n4 d7 (hM1.imp (fun q => q.1) (fun q => q.1))
  rcases hM1 with ⟨rfl, -⟩ | ⟨rfl, -⟩
  · refine ⟨hO.trans (off_sI (by rw [k1]; exact nRK (by decide))), ?_, ?_⟩
    · simp (disch := decide) only [c_CMK_sI, c_CMK_sJ, c_CMK_tI, c_CMK_tJ, c_CID_sI, c_CID_sJ, c_CID_tI, c_CID_tJ, c_CPS_sI, c_CPS_sJ, c_CPS_tI, c_CPS_tJ, c_CPR_sI, c_CPR_sJ, c_CPR_tI, c_CPR_tJ, c_CHR_sI, c_CHR_sJ, c_CHR_tI, c_CHR_tJ, c_CNW_sI, c_CNW_sJ, c_CNW_tI, c_CNW_tJ, c_CLO_sI, c_CLO_sJ, c_CLO_tI, c_CLO_tJ, c_CNT_sI, c_CNT_sJ, c_CNT_tI, c_CNT_tJ, c_CWI_sI, c_CWI_sJ, c_CWI_tI, c_CWI_tJ, c_CKP_sI, c_CKP_sJ, c_CKP_tI, c_CKP_tJ, c_CTI_sI, c_CTI_sJ, c_CTI_tI, c_CTI_tJ, c_CSH_sI, c_CSH_sJ, c_CSH_tI, c_CSH_tJ]; exact hS
    · simp (disch := decide) only [CDT, a_late, dg, c_CMK_sI, c_CMK_sJ, c_CMK_tI, c_CMK_tJ, c_CID_sI, c_CID_sJ, c_CID_tI, c_CID_tJ, c_CPS_sI, c_CPS_sJ, c_CPS_tI, c_CPS_tJ, c_CPR_sI, c_CPR_sJ, c_CPR_tI, c_CPR_tJ, c_CHR_sI, c_CHR_sJ, c_CHR_tI, c_CHR_tJ, c_CNW_sI, c_CNW_sJ, c_CNW_tI, c_CNW_tJ, c_CLO_sI, c_CLO_sJ, c_CLO_tI, c_CLO_tJ, c_CNT_sI, c_CNT_sJ, c_CNT_tI, c_CNT_tJ, c_CWI_sI, c_CWI_sJ, c_CWI_tI, c_CWI_tJ, c_CKP_sI, c_CKP_sJ, c_CKP_tI, c_CKP_tJ, c_CTI_sI, c_CTI_sJ, c_CTI_tI, c_CTI_tJ, c_CSH_sI, c_CSH_sJ, c_CSH_tI, c_CSH_tJ]
      exact ⟨d1, d2, d3, d4, d5, d6, ho, hn, d9, d10, d11, d12⟩
  · refine ⟨((((hO.trans (off_tJ (by rw [k4]; exact nRK (by decide)))).trans (off_tJ (by simp only [ms]; rw [k4]; exact nRK (by decide)))).trans (off_tJ (by simp only [ms]; rw [k4]; exact nRK (by decide)))).trans (off_tJ (by simp only [ms]; rw [k4]; exact nRK (by decide)))).trans (off_sI (by simp only [ms]; rw [k1]; exact nRK (by decide))), ?_, ?_⟩
    · simp (disch := first | decide | (simp only [ms, k4]; decide)) only [c_CMK_sI, c_CMK_sJ, c_CMK_tI, c_CMK_tJ, c_CID_sI, c_CID_sJ, c_CID_tI, c_CID_tJ, c_CPS_sI, c_CPS_sJ, c_CPS_tI, c_CPS_tJ, c_CPR_sI, c_CPR_sJ, c_CPR_tI, c_CPR_tJ, c_CHR_sI, c_CHR_sJ, c_CHR_tI, c_CHR_tJ, c_CNW_sI, c_CNW_sJ, c_CNW_tI, c_CNW_tJ, c_CLO_sI, c_CLO_sJ, c_CLO_tI, c_CLO_tJ, c_CNT_sI, c_CNT_sJ, c_CNT_tI, c_CNT_tJ, c_CWI_sI, c_CWI_sJ, c_CWI_tI, c_CWI_tJ, c_CKP_sI, c_CKP_sJ, c_CKP_tI, c_CKP_tJ, c_CTI_sI, c_CTI_sJ, c_CTI_tI, c_CTI_tJ, c_CSH_sI, c_CSH_sJ, c_CSH_tI, c_CSH_tJ]; exact hS
    · simp (disch := first | decide | (simp only [ms, k4]; decide)) only [CDT, a_late, dg, c_CMK_sI, c_CMK_sJ, c_CMK_tI, c_CMK_tJ, c_CID_sI, c_CID_sJ, c_CID_tI, c_CID_tJ, c_CPS_sI, c_CPS_sJ, c_CPS_tI, c_CPS_tJ, c_CPR_sI, c_CPR_sJ, c_CPR_tI, c_CPR_tJ, c_CHR_sI, c_CHR_sJ, c_CHR_tI, c_CHR_tJ, c_CNW_sI, c_CNW_sJ, c_CNW_tI, c_CNW_tJ, c_CLO_sI, c_CLO_sJ, c_CLO_tI, c_CLO_tJ, c_CNT_sI, c_CNT_sJ, c_CNT_tI, c_CNT_tJ, c_CWI_sI, c_CWI_sJ, c_CWI_tI, c_CWI_tJ, c_CKP_sI, c_CKP_sJ, c_CKP_tI, c_CKP_tJ, c_CTI_sI, c_CTI_sJ, c_CTI_tI, c_CTI_tJ, c_CSH_sI, c_CSH_sJ, c_CSH_tI, c_CSH_tJ]
      exact ⟨d1, d2, d3, d4, d5, d6, ho, hn, d9, d10, d11, d12⟩
/-- what may be said of marks and promises -/
def HM (t : Int64) : Prop := t = -9000000000000000000 ∨ t = 9000000000000000000 ∨ HT t
theorem HM.bd {t : Int64} (h : HM t) : -9000000000000000000 ≤ t.toInt ∧ t.toInt ≤ 9000000000000000000 := by
  rcases h with rfl | rfl | h
  · decide
  · decide
  · exact ⟨by have := h.1; omega, by have := h.2; omega⟩
def PB (D : Dyn) : Prop := (∀ s k, dps D s k ≤ 2) ∧ (∀ s k, -9000000000000000000 ≤ (dpr D s k).toInt ∧ (dpr D s k).toInt ≤ 9000000000000000000) ∧ (∀ s, -9000000000000000000 ≤ (dmk D s).toInt ∧ (dmk D s).toInt ≤ 9000000000000000000) ∧ (∀ s k, HM (dpr D s k)) ∧ ∀ s, HM (dmk D s)
theorem PB.of {D : Dyn} (h1 : ∀ s k, dps D s k ≤ 2) (h2 : ∀ s k, HM (dpr D s k)) (h3 : ∀ s, HM (dmk D s)) : PB D := ⟨h1, fun s k => (h2 s k).bd, fun s => (h3 s).bd, h2, h3⟩
theorem isA_of {M : Mm} {a k t : Nat} (h : mK M a = k) (h1 : 16 ≤ k) (h2 : k % 8 = t) : isA M a t := ⟨by rw [h]; exact h1, by rw [h]; exact h2⟩
theorem c_countIn {K : Int32 → Mm → Prop} {s st : Nat} (hW : WC C) (h : CR B M L C D) (hs : s < cn C) (h0 : ckd C s = 0) (hp : PB D) (hst : st ≤ 2) (hK : K (a_pcK (fun k => decide (dps D s k = st)) 0 (cpt C s)) M) : ∀ (r i : Nat), i + r = cpt C s → lp_X5_countIn_4 (L 3 s) K (r + 1) (nI st) (a_pcK (fun k => decide (dps D s k = st)) 0 i) (nI i) M := by
  intro r
  have h4 := (hW.2.2.2 s hs).2.1
  obtain ⟨c1, c2, c3, c4, c5, c6, c7, c8, c9, e1, e2, -⟩ := h.2.1.2.2.2.2.2.1 s hs h0
  have hA := isA_of (t := 1) e1 (by decide) (by decide)
  induction r with
  | zero =>
    intro i hi
    have e : i = cpt C s := by omega
    subst e
    rw [lp_X5_countIn_4]
    simp (disch := omega) only [c1, c2, n_le, Nat.le_refl, not_true, false_implies, forall_const, true_and, and_true]
    exact hK
  | succ r ih =>
    intro i hi
    have p1 := (h.2.2.2.2.1 s i hs h0 (by omega)).2
    have hb := hp.1 s i
    have nx := ih (i + 1) (by omega)
    rw [a_pcK] at nx
    rw [lp_X5_countIn_4]
    simp (disch := omega) only [c1, c2, c6, e2, hA, n_le, show ¬ cpt C s ≤ i by omega, n_in, n_clamp, p1, n_eq, na1, bk_X5_countIn_25, Option.some.injEq, exists_eq_left', not_false_eq_true, false_implies, forall_const, true_and, and_true]
    refine ⟨fun z => ?_, fun z => ?_⟩
    · rw [if_neg (by simp [z])] at nx; exact nx
    · rw [if_pos (by simp [z])] at nx; exact nx
theorem c_least {K : Int64 → Mm → Prop} {s : Nat} (hW : WC C) (h : CR B M L C D) (hs : s < cn C) (h0 : ckd C s = 0) (hp : PB D) (hK : K (a_minS D s 9000000000000000000 (cpt C s)) M) : ∀ (r i : Nat), i + r = cpt C s → lp_X5_leastActive_6 (L 3 s) K (r + 1) (a_minS D s 9000000000000000000 i) (nI i) M := by
  intro r
  have h4 := (hW.2.2.2 s hs).2.1
  obtain ⟨c1, c2, c3, c4, c5, c6, c7, c8, c9, e1, e2, e3, e4, -⟩ := h.2.1.2.2.2.2.2.1 s hs h0
  have hA := isA_of (t := 1) e1 (by decide) (by decide)
  have hB := isA_of (t := 2) e3 (by decide) (by decide)
  induction r with
  | zero =>
    intro i hi
    have e : i = cpt C s := by omega
    subst e
    rw [lp_X5_leastActive_6]
    simp (disch := omega) only [c1, c2, n_le, Nat.le_refl, not_true, false_implies, forall_const, true_and, and_true]
    exact hK
  | succ r ih =>
    intro i hi
    have p1 := (h.2.2.2.2.1 s i hs h0 (by omega)).2
    have p2 := (h.2.2.2.2.2.1 s i hs h0 (by omega)).2
    have hb := hp.1 s i
    have nx := ih (i + 1) (by omega)
    rw [a_minS] at nx
    rw [lp_X5_leastActive_6]
    simp (disch := omega) only [c1, c2, c6, c7, e2, e4, hA, hB, n_le, show ¬ cpt C s ≤ i by omega, n_in, n_clamp, p1, p2, na1, na2, bk_X5_leastActive_34, Option.some.injEq, exists_eq_left', not_false_eq_true, false_implies, forall_const, true_and, and_true]
    refine ⟨fun z => ?_, fun z => ?_⟩
    · rw [if_neg z] at nx; exact nx
    · rw [if_pos z] at nx; exact nx
end K2
