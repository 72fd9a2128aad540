/-! the class: the open sums of a window -/
section K6
variable {B M : Mm} {L : Nat → Nat → Nat} {C : Cfg} {D : Dyn}
def wl (M : Mm) (L : Nat → Nat → Nat) (s n : Nat) : List Ent := (List.range n).map (cw3 M L s)
theorem wl_len {s n : Nat} : (wl M L s n).length = n := by simp [wl]
theorem wl_get {s n i : Nat} (h : i < n) : (wl M L s n)[i]? = some (cw3 M L s i) := by simp [wl, h]
theorem wl_ext {s n : Nat} {l : List Ent} (hn : l.length = n) (h : ∀ i e, l[i]? = some e → cw3 M L s i = e) : wl M L s n = l := by
  refine List.ext_getElem? (fun i => ?_)
  by_cases c : i < n
  · rw [wl_get c]
    obtain ⟨e, he⟩ : ∃ e, l[i]? = some e := ⟨l[i], List.getElem?_eq_getElem (by omega)⟩
    rw [he, h i e he]
  · rw [List.getElem?_eq_none (by rw [wl_len]; omega), List.getElem?_eq_none (by omega)]
def cwst (M : Mm) (L : Nat → Nat → Nat) (s i : Nat) (e : Ent) : Mm := tI (tI (tJ M (L 17 s) i e.1) (L 18 s) i e.2.1) (L 19 s) i e.2.2
theorem CR_w {M1 : Mm} {s n : Nat} (h : CR B M L C D) (hs : s < cn C) (h5 : ckd C s = 5) (hn : n ≤ 24) (hO1 : Off M M1) (hS1 : CSH M1 L C) (hmI : ∀ f a, ¬ f = 581 → mI M1 f a = mI M f a) (hcn : mI M1 581 (L 16 s) = nI n) (hco : ∀ p, p < cn C → ckd C p = 5 → ¬ p = s → mI M1 581 (L 16 p) = mI M 581 (L 16 p)) (hmJ : mJ M1 = mJ M) (hI : ∀ a j, ¬ mK M a = 105 → ¬ mK M a = 113 → aI M1 a j = aI M a j) (hJ : ∀ a j, ¬ mK M a = 98 → aJ M1 a j = aJ M a j) (ho : ∀ p i, p < cn C → ckd C p = 5 → ¬ p = s → cw3 M1 L p i = cw3 M L p i) : CR B M1 L C (xwi D s (wl M1 L s n)) := by
  obtain ⟨hO, hS, d1, d2, d3, d4, d5, d6, d7, d8, d9, d10, d11, d12⟩ := h
  have hK1 : mK M1 = mK M := hO1.1
  refine ⟨hO.trans hO1, hS1, ?_, ?_, ?_, ?_, ?_, ?_, ?_, ?_, ?_, ?_, ?_, ?_⟩
  · intro q hq; rw [hmJ]; exact d1 q hq
  · intro q hq; rw [hmI _ _ (by decide)]; exact d2 q hq
  · intro q j hq h0 hj
    obtain ⟨e1, e2⟩ := d3 q j hq h0 hj
    exact ⟨by rw [hK1]; exact e1, by rw [hI _ _ (by rw [e1]; decide) (by rw [e1]; decide)]; exact e2⟩
  · intro q j hq h0 hj
    obtain ⟨e1, e2⟩ := d4 q j hq h0 hj
    exact ⟨by rw [hK1]; exact e1, by rw [hJ _ _ (by rw [e1]; decide)]; exact e2⟩
  · intro q j hq h0 hj
    obtain ⟨e1, e2⟩ := d5 q j hq h0 hj
    exact ⟨by rw [hK1]; exact e1, by rw [hI _ _ (by rw [e1]; decide) (by rw [e1]; decide)]; exact e2⟩
  · unfold CNW; rw [hmI _ _ (by decide)]; exact d6
  · obtain ⟨e1, e2, e3⟩ := d7
    refine ⟨by rw [hK1]; exact e1, by rw [hmI _ _ (by decide)]; exact e2, fun i r hi hr => ?_⟩
    simp only [hJ _ _ (show ¬ mK M (L 0 13) = 98 by rw [e1]; decide)]
    exact e3 i r hi hr
  · obtain ⟨e1, e2, e3⟩ := d8
    refine ⟨by rw [hK1]; exact e1, by rw [hmI _ _ (by decide)]; exact e2, fun i r hi hr => ?_⟩
    simp only [hJ _ _ (show ¬ mK M (L 0 15) = 98 by rw [e1]; decide)]
    exact e3 i r hi hr
  · unfold CLO; rw [hmI _ _ (by decide)]; exact d9
  · intro q hq hk5
    obtain ⟨a1, e2, e3, e4⟩ := d10 q hq hk5
    by_cases g : q = s
    · subst g
      simp only [dg, if_true]
      exact ⟨by rw [hK1]; exact a1, by rw [wl_len]; exact hcn, by rw [wl_len]; exact hn, fun i e hi => by
        have hi2 := (List.getElem?_eq_some_iff.mp hi).1
        rw [wl_len] at hi2
        rw [wl_get hi2] at hi
        cases hi; rfl⟩
    · simp only [dg, if_neg g]
      exact ⟨by rw [hK1]; exact a1, by rw [hco q hq hk5 g]; exact e2, e3, fun i e hi => by rw [ho q i hq hk5 g]; exact e4 i e hi⟩
  · intro p j hp hp4 hj
    obtain ⟨⟨a0, a1, a2, a3⟩, e2, e3, e4⟩ := d11 p j hp hp4 hj
    refine ⟨by rw [hK1]; exact ⟨a0, a1, a2, a3⟩, by rw [hI _ _ (by rw [a0]; decide) (by rw [a0]; decide)]; exact e2, e3, fun i e hi => ?_⟩
    have := e4 i e hi
    simp only [ck3, hJ _ _ (show ¬ mK M (L 13 (2 * p + j)) = 98 by rw [a1]; decide), hI _ _ (show ¬ mK M (L 14 (2 * p + j)) = 105 by rw [a2]; decide) (show ¬ mK M (L 14 (2 * p + j)) = 113 by rw [a2]; decide), hI _ _ (show ¬ mK M (L 15 (2 * p + j)) = 105 by rw [a3]; decide) (show ¬ mK M (L 15 (2 * p + j)) = 113 by rw [a3]; decide)] at this ⊢
    exact this
  · obtain ⟨⟨a1, a2, a3⟩, e2, e3, e4⟩ := d12
    refine ⟨by rw [hK1]; exact ⟨a1, a2, a3⟩, by rw [hmI _ _ (by decide)]; exact e2, e3, fun i x hi => ?_⟩
    have := e4 i x hi
    simp only [hJ _ _ (show ¬ mK M (L 0 6) = 98 by rw [a2]; decide), hI _ _ (show ¬ mK M (L 0 5) = 105 by rw [a1]; decide) (show ¬ mK M (L 0 5) = 113 by rw [a1]; decide), hI _ _ (show ¬ mK M (L 0 7) = 105 by rw [a3]; decide) (show ¬ mK M (L 0 7) = 113 by rw [a3]; decide)] at this ⊢
    exact this
theorem wkinds {s : Nat} (h : CR B M L C D) (hs : s < cn C) (h5 : ckd C s = 5) : mK M (L 17 s) = 98 ∧ mK M (L 18 s) = 105 ∧ mK M (L 19 s) = 113 ∧ mK M (L 16 s) = 10 := ⟨(h.2.2.2.2.2.2.2.2.2.2.2.1 s hs h5).1.1, (h.2.2.2.2.2.2.2.2.2.2.2.1 s hs h5).1.2.1, (h.2.2.2.2.2.2.2.2.2.2.2.1 s hs h5).1.2.2, (h.2.1.2.2.2.2.2.2.2.1 s hs h5).1⟩
theorem cw3_cwst {s p i x : Nat} {e : Ent} (h : CR B M L C D) (hs : s < cn C) (h5 : ckd C s = 5) (hp : p < cn C) (hp5 : ckd C p = 5) : cw3 (cwst M L s i e) L p x = if p = s ∧ x = i then e else cw3 M L p x := by
  obtain ⟨k1, k2, k3, -⟩ := wkinds h hs h5
  obtain ⟨q1, q2, q3, -⟩ := wkinds h hp hp5
  have hij := h.2.1.2.2.2.2.2.2.2.2.1.2.2.2.2 p s hp hs hp5 h5
  have n1 : L 18 p ≠ L 19 s := fun e => by rw [e, k3] at q2; cases q2
  have n2 : L 19 p ≠ L 18 s := fun e => by rw [e, k2] at q3; cases q3
  by_cases g : p = s
  · subst g
    by_cases c : x = i
    · subst c
      rw [if_pos ⟨rfl, rfl⟩]
      simp [cw3, cwst, ms, n1, n2]
    · rw [if_neg (fun z => c z.2)]
      simp [cw3, cwst, ms, c]
  · rw [if_neg (fun z => g z.1)]
    simp [cw3, cwst, ms, n1, n2, show L 17 p ≠ L 17 s from fun e => g (hij (Or.inr (Or.inl e))), show L 18 p ≠ L 18 s from fun e => g (hij (Or.inr (Or.inr (Or.inl e)))), show L 19 p ≠ L 19 s from fun e => g (hij (Or.inr (Or.inr (Or.inr e))))]
theorem CR_wput {s i n : Nat} {e : Ent} {l : List Ent} (h : CR B M L C (xwi D s l)) (hl : l.length = n) (hs : s < cn C) (h5 : ckd C s = 5) : CR B (cwst M L s i e) L C (xwi D s (wl (cwst M L s i e) L s n)) := by
  obtain ⟨k1, k2, k3, k4⟩ := wkinds h hs h5
  have hwl := h.2.2.2.2.2.2.2.2.2.2.2.1 s hs h5
  simp only [dg, if_true] at hwl
  have xx : xwi (xwi D s l) s (wl (cwst M L s i e) L s n) = xwi D s (wl (cwst M L s i e) L s n) := by
    simp only [xwi, dmk, did, dps, dpr, dhr, dnow, dou, dla, dlo, dwi, dke, dti, Prod.mk.injEq, true_and, and_true]
    funext q
    by_cases a : q = s <;> simp [a]
  rw [← xx]
  refine CR_w h hs h5 (by rw [← hl]; exact hwl.2.2.1) (((off_tJ (by rw [k1]; exact nRK (by decide))).trans (off_tI (by simp only [ms]; rw [k2]; exact nRK (by decide)))).trans (off_tI (by simp only [ms]; rw [k3]; exact nRK (by decide)))) ?_ (fun _ _ _ => rfl) (by show mI M 581 (L 16 s) = nI n; rw [← hl]; exact hwl.2.1) (fun _ _ _ _ => rfl) rfl (fun a j n1 n2 => ?_) (fun a j n1 => ?_) (fun p x hp hp5 hne => ?_)
  · unfold cwst
    simp (disch := first | decide | (simp only [ms, k1]; decide)) only [c_CMK_sI, c_CMK_sJ, c_CMK_tI, c_CMK_tJ, c_CID_sI, c_CID_sJ, c_CID_tI, c_CID_tJ, c_CPS_sI, c_CPS_sJ, c_CPS_tI, c_CPS_tJ, c_CPR_sI, c_CPR_sJ, c_CPR_tI, c_CPR_tJ, c_CHR_sI, c_CHR_sJ, c_CHR_tI, c_CHR_tJ, c_CNW_sI, c_CNW_sJ, c_CNW_tI, c_CNW_tJ, c_CLO_sI, c_CLO_sJ, c_CLO_tI, c_CLO_tJ, c_CNT_sI, c_CNT_sJ, c_CNT_tI, c_CNT_tJ, c_CWI_sI, c_CWI_sJ, c_CWI_tI, c_CWI_tJ, c_CKP_sI, c_CKP_sJ, c_CKP_tI, c_CKP_tJ, c_CTI_sI, c_CTI_sJ, c_CTI_tI, c_CTI_tJ, c_CSH_sI, c_CSH_sJ, c_CSH_tI, c_CSH_tJ]
    exact h.2.1
  · simp [cwst, ms, show a ≠ L 19 s from fun z => n2 (by rw [z]; exact k3), show a ≠ L 18 s from fun z => n1 (by rw [z]; exact k2)]
  · simp [cwst, ms, show a ≠ L 17 s from fun z => n1 (by rw [z]; exact k1)]
  · rw [cw3_cwst h hs h5 hp hp5, if_neg (fun z => hne z.1)]
theorem CR_wsum {s i n : Nat} {v : Int32} {l : List Ent} (h : CR B M L C (xwi D s l)) (hl : l.length = n) (hs : s < cn C) (h5 : ckd C s = 5) : CR B (tI M (L 19 s) i v) L C (xwi D s (wl (tI M (L 19 s) i v) L s n)) := by
  obtain ⟨k1, k2, k3, k4⟩ := wkinds h hs h5
  have hwl := h.2.2.2.2.2.2.2.2.2.2.2.1 s hs h5
  simp only [dg, if_true] at hwl
  have xx : xwi (xwi D s l) s (wl (tI M (L 19 s) i v) L s n) = xwi D s (wl (tI M (L 19 s) i v) L s n) := by
    simp only [xwi, dmk, did, dps, dpr, dhr, dnow, dou, dla, dlo, dwi, dke, dti, Prod.mk.injEq, true_and, and_true]
    funext q
    by_cases a : q = s <;> simp [a]
  rw [← xx]
  refine CR_w h hs h5 (by rw [← hl]; exact hwl.2.2.1) (off_tI (by rw [k3]; exact nRK (by decide))) h.2.1 (fun _ _ _ => rfl) (by show mI M 581 (L 16 s) = nI n; rw [← hl]; exact hwl.2.1) (fun _ _ _ _ => rfl) rfl (fun a j n1 n2 => ?_) (fun a j n1 => rfl) (fun p x hp hp5 hne => ?_)
  · simp [ms, show a ≠ L 19 s from fun z => n2 (by rw [z]; exact k3)]
  · obtain ⟨q1, q2, q3, -⟩ := wkinds h hp hp5
    have hij := h.2.1.2.2.2.2.2.2.2.2.1.2.2.2.2 p s hp hs hp5 h5
    have n1 : L 18 p ≠ L 19 s := fun e => by rw [e, k3] at q2; cases q2
    simp [cw3, ms, n1, show L 19 p ≠ L 19 s from fun e => hne (hij (Or.inr (Or.inr (Or.inr e))))]
theorem CR_wcnt {s n : Nat} {l : List Ent} (h : CR B M L C (xwi D s l)) (hs : s < cn C) (h5 : ckd C s = 5) (hn : n ≤ 24) : CR B (sI M 581 (L 16 s) (nI n)) L C (xwi D s (wl M L s n)) := by
  obtain ⟨k1, k2, k3, k4⟩ := wkinds h hs h5
  have xx : xwi (xwi D s l) s (wl (sI M 581 (L 16 s) (nI n)) L s n) = xwi D s (wl M L s n) := by
    have e1 : wl (sI M 581 (L 16 s) (nI n)) L s n = wl M L s n := rfl
    rw [e1]
    simp only [xwi, dmk, did, dps, dpr, dhr, dnow, dou, dla, dlo, dwi, dke, dti, Prod.mk.injEq, true_and, and_true]
    funext q
    by_cases a : q = s <;> simp [a]
  rw [← xx]
  refine CR_w h hs h5 hn (off_sI (by rw [k4]; exact nRK (by decide))) ?_ (fun f a hf => ?_) (by simp [ms]) (fun p hp hp5 hne => ?_) rfl (fun _ _ _ _ => rfl) (fun _ _ _ => rfl) (fun _ _ _ _ _ => rfl)
  · simp (disch := decide) only [c_CMK_sI, c_CMK_sJ, c_CMK_tI, c_CMK_tJ, c_CID_sI, c_CID_sJ, c_CID_tI, c_CID_tJ, c_CPS_sI, c_CPS_sJ, c_CPS_tI, c_CPS_tJ, c_CPR_sI, c_CPR_sJ, c_CPR_tI, c_CPR_tJ, c_CHR_sI, c_CHR_sJ, c_CHR_tI, c_CHR_tJ, c_CNW_sI, c_CNW_sJ, c_CNW_tI, c_CNW_tJ, c_CLO_sI, c_CLO_sJ, c_CLO_tI, c_CLO_tJ, c_CNT_sI, c_CNT_sJ, c_CNT_tI, c_CNT_tJ, c_CWI_sI, c_CWI_sJ, c_CWI_tI, c_CWI_tJ, c_CKP_sI, c_CKP_sJ, c_CKP_tI, c_CKP_tJ, c_CTI_sI, c_CTI_sJ, c_CTI_tI, c_CTI_tJ, c_CSH_sI, c_CSH_sJ, c_CSH_tI, c_CSH_tJ]; exact h.2.1
  · simp only [ms]
    by_cases g : a = L 16 s
    · rw [if_pos g, if_neg hf]
    · rw [if_neg g]
  · have hij := h.2.1.2.2.2.2.2.2.2.2.1.2.2.2.2 p s hp hs hp5 h5
    simp only [ms]
    rw [if_neg (fun z => hne (hij (Or.inl z)))]
theorem xwi_self (D : Dyn) (s : Nat) : xwi D s (dwi D s) = D := by
  simp only [xwi, dmk, did, dps, dpr, dhr, dnow, dou, dla, dlo, dwi, dke, dti]
  have e : (fun q => if q = s then D.2.2.2.2.2.2.2.2.2.1 s else D.2.2.2.2.2.2.2.2.2.1 q) = D.2.2.2.2.2.2.2.2.2.1 := by
    funext q
    by_cases a : q = s <;> simp [a]
  rw [e]
theorem CWF {s : Nat} (h : CR B M L C D) (hs : s < cn C) (h5 : ckd C s = 5) : mK M (L 16 s) = 10 ∧ mJ M 576 (L 16 s) = co1 C s ∧ mJ M 577 (L 16 s) = co2 C s ∧ mR M 578 (L 16 s) = some (L 17 s) ∧ mR M 579 (L 16 s) = some (L 18 s) ∧ mR M 580 (L 16 s) = some (L 19 s) ∧ isA M (L 17 s) 2 ∧ aN M (L 17 s) = 24 ∧ isA M (L 18 s) 1 ∧ aN M (L 18 s) = 24 ∧ isA M (L 19 s) 1 ∧ aN M (L 19 s) = 24 := by
  obtain ⟨j1, j2, j3, j4, j5, j6, j7, j8, j9, j10, j11, j12⟩ := h.2.1.2.2.2.2.2.2.2.1 s hs h5
  exact ⟨j1, j2, j3, j4, j5, j6, isA_of j7 (by decide) (by decide), j8, isA_of j9 (by decide) (by decide), j10, isA_of j11 (by decide) (by decide), j12⟩
theorem c_wput {K : Mm → Prop} {s i : Nat} {e : Ent} (h : CR B M L C D) (hs : s < cn C) (h5 : ckd C s = 5) (hi : i < 24) (hK : K (cwst M L s i e)) : wp_X9_put M (L 16 s) (nI i) e.1 e.2.1 e.2.2 K := by
  have F := CWF h hs h5
  simp (disch := omega) only [wp_X9_put, F, ms, ia, n_in, n_clamp, Option.some.injEq, exists_eq_left', true_and]
  exact hK
theorem c_isAhead {K : Int32 → Mm → Prop} {s i : Nat} {b : Int64} {k : Int32} {e : Ent} (h : CR B M L C D) (hs : s < cn C) (h5 : ckd C s = 5) (hi : i < 24) (he : cw3 M L s i = e) (hK : K (bI (a_ahead b k e)) M) : wp_X9_isAhead M (L 16 s) (nI i) b k K := by
  have F := CWF h hs h5
  have q1 : aJ M (L 17 s) i = e.1 := congrArg (fun z => z.1) he
  have q2 : aI M (L 18 s) i = e.2.1 := congrArg (fun z => z.2.1) he
  simp (disch := omega) only [wp_X9_isAhead, bk_X9_isAhead_33, bk_X9_isAhead_37, bk_X9_isAhead_38, F, n_in, n_clamp, q1, q2, Option.some.injEq, exists_eq_left', true_and]
  refine ⟨fun z => ⟨Or.inr rfl, ?_⟩, fun z => ⟨fun y => ⟨Or.inl rfl, ?_⟩, fun y => ⟨fun x => ⟨Or.inl rfl, ?_⟩, fun x => ⟨Or.inr rfl, ?_⟩⟩⟩⟩
  · simpa [a_ahead, z, bI] using hK
  · simpa [a_ahead, z, y, bI] using hK
  · simpa [a_ahead, z, y, bI, Int32.not_lt.mpr x] using hK
  · simpa [a_ahead, z, y, bI, Int32.not_le.mp x] using hK
end K6
