/-! the class: what a join keeps -/
theorem ia : (∀ (M : Mm) (f a : Nat) (v : Int32) (b t : Nat), isA (sI M f a v) b t = isA M b t) ∧ (∀ (M : Mm) (f a : Nat) (v : Int64) (b t : Nat), isA (sJ M f a v) b t = isA M b t) ∧ (∀ (M : Mm) (a j : Nat) (v : Int32) (b t : Nat), isA (tI M a j v) b t = isA M b t) ∧ (∀ (M : Mm) (a j : Nat) (v : Int64) (b t : Nat), isA (tJ M a j v) b t = isA M b t) := ⟨fun _ _ _ _ _ _ => rfl, fun _ _ _ _ _ _ => rfl, fun _ _ _ _ _ _ => rfl, fun _ _ _ _ _ _ => rfl⟩
section K4
variable {B M : Mm} {L : Nat → Nat → Nat} {C : Cfg} {D : Dyn}
def cst3 (M : Mm) (L : Nat → Nat → Nat) (q i : Nat) (e : Ent) : Mm := tI (tI (tJ M (L 13 q) i e.1) (L 14 q) i e.2.1) (L 15 q) i e.2.2
theorem CR_k {M1 : Mm} {s side : Nat} {l : List Ent} (h : CR B M L C D) (hO1 : Off M M1) (hS1 : CSH M1 L C) (hmI : mI M1 = mI M) (hmJ : mJ M1 = mJ M) (hI : ∀ a j, ¬ mK M a = 433 → ¬ mK M a = 465 → ¬ mK M a = 481 → aI M1 a j = aI M a j) (hJ : ∀ a j, ¬ mK M a = 450 → aJ M1 a j = aJ M a j) (hk : ckd C s = 4 → s < cn C → side < 2 → CKE M1 L s side l) (ho : ∀ p j l', p < cn C → ckd C p = 4 → j < 2 → ¬ (p = s ∧ j = side) → CKE M L p j l' → CKE M1 L p j l') : CR B M1 L C (xke D s side l) := by
  obtain ⟨hO, hS, d1, d2, d3, d4, d5, d6, d7, d8, d9, d10, d11, d12⟩ := h
  have hK1 : mK M1 = mK M := hO1.1
  refine ⟨hO.trans hO1, hS1, ?_, ?_, ?_, ?_, ?_, ?_, ?_, ?_, ?_, ?_, ?_, ?_⟩
  · intro q hq; rw [hmJ]; exact d1 q hq
  · intro q hq; rw [hmI]; exact d2 q hq
  · intro q j hq h0 hj
    obtain ⟨e1, e2⟩ := d3 q j hq h0 hj
    exact ⟨by rw [hK1]; exact e1, by rw [hI _ _ (by rw [e1]; decide) (by rw [e1]; decide) (by rw [e1]; decide)]; exact e2⟩
  · intro q j hq h0 hj
    obtain ⟨e1, e2⟩ := d4 q j hq h0 hj
    exact ⟨by rw [hK1]; exact e1, by rw [hJ _ _ (by rw [e1]; decide)]; exact e2⟩
  · intro q j hq h0 hj
    obtain ⟨e1, e2⟩ := d5 q j hq h0 hj
    exact ⟨by rw [hK1]; exact e1, by rw [hI _ _ (by rw [e1]; decide) (by rw [e1]; decide) (by rw [e1]; decide)]; exact e2⟩
  · unfold CNW; rw [hmI]; exact d6
  · obtain ⟨e1, e2, e3⟩ := d7
    refine ⟨by rw [hK1]; exact e1, by rw [hmI]; exact e2, fun i r hi hr => ?_⟩
    simp only [hJ _ _ (show ¬ mK M (L 0 13) = 450 by rw [e1]; decide)]
    exact e3 i r hi hr
  · obtain ⟨e1, e2, e3⟩ := d8
    refine ⟨by rw [hK1]; exact e1, by rw [hmI]; exact e2, fun i r hi hr => ?_⟩
    simp only [hJ _ _ (show ¬ mK M (L 0 15) = 450 by rw [e1]; decide)]
    exact e3 i r hi hr
  · unfold CLO; rw [hmI]; exact d9
  · intro q hq hk5
    obtain ⟨⟨a1, a2, a3⟩, e2, e3, e4⟩ := d10 q hq hk5
    refine ⟨by rw [hK1]; exact ⟨a1, a2, a3⟩, by rw [hmI]; exact e2, e3, fun i e hi => ?_⟩
    have := e4 i e hi
    simp only [cw3, hJ _ _ (show ¬ mK M (L 17 q) = 450 by rw [a1]; decide), hI _ _ (show ¬ mK M (L 18 q) = 433 by rw [a2]; decide) (show ¬ mK M (L 18 q) = 465 by rw [a2]; decide) (show ¬ mK M (L 18 q) = 481 by rw [a2]; decide), hI _ _ (show ¬ mK M (L 19 q) = 433 by rw [a3]; decide) (show ¬ mK M (L 19 q) = 465 by rw [a3]; decide) (show ¬ mK M (L 19 q) = 481 by rw [a3]; decide)] at this ⊢
    exact this
  · intro p j hp hp4 hj
    by_cases g : p = s ∧ j = side
    · obtain ⟨rfl, rfl⟩ := g
      simp only [dg, if_true]
      exact hk hp4 hp hj
    · have e2 : dke (xke D s side l) p j = dke D p j := by
        simp only [dg]
        by_cases a : p = s
        · rw [if_pos a, if_neg (fun b => g ⟨a, b⟩)]
        · rw [if_neg a]
      rw [e2]
      exact ho p j _ hp hp4 hj g (d11 p j hp hp4 hj)
  · obtain ⟨⟨a1, a2, a3⟩, e2, e3, e4⟩ := d12
    refine ⟨by rw [hK1]; exact ⟨a1, a2, a3⟩, by rw [hmI]; exact e2, e3, fun i x hi => ?_⟩
    have := e4 i x hi
    simp only [hJ _ _ (show ¬ mK M (L 0 6) = 450 by rw [a2]; decide), hI _ _ (show ¬ mK M (L 0 5) = 433 by rw [a1]; decide) (show ¬ mK M (L 0 5) = 465 by rw [a1]; decide) (show ¬ mK M (L 0 5) = 481 by rw [a1]; decide), hI _ _ (show ¬ mK M (L 0 7) = 433 by rw [a3]; decide) (show ¬ mK M (L 0 7) = 465 by rw [a3]; decide) (show ¬ mK M (L 0 7) = 481 by rw [a3]; decide)] at this ⊢
    exact this
/-- the kinds of a join's arrays -/
theorem jkinds {s side : Nat} (h : CR B M L C D) (hs : s < cn C) (h4 : ckd C s = 4) (hsd : side < 2) : mK M (L 9 s) = 433 ∧ mK M (L 13 (2 * s + side)) = 450 ∧ mK M (L 14 (2 * s + side)) = 465 ∧ mK M (L 15 (2 * s + side)) = 481 := (h.2.2.2.2.2.2.2.2.2.2.2.2.1 s side hs h4 hsd).1
theorem ck3_cst {s side p j i x : Nat} {e : Ent} (h : CR B M L C D) (hs : s < cn C) (h4 : ckd C s = 4) (hsd : side < 2) (hp : p < cn C) (hp4 : ckd C p = 4) (hj : j < 2) : ck3 (cst3 M L (2 * s + side) i e) L (2 * p + j) x = if (p = s ∧ j = side) ∧ x = i then e else ck3 M L (2 * p + j) x := by
  obtain ⟨k0, k1, k2, k3⟩ := jkinds h hs h4 hsd
  obtain ⟨q0, q1, q2, q3⟩ := jkinds h hp hp4 hj
  have hij := h.2.1.2.2.2.2.2.2.2.2.1.2.2.2.1 p s j side hp hs hp4 h4 hj hsd
  have n1 : L 14 (2 * p + j) ≠ L 15 (2 * s + side) := fun e => by rw [e, k3] at q2; cases q2
  have n2 : L 15 (2 * p + j) ≠ L 14 (2 * s + side) := fun e => by rw [e, k2] at q3; cases q3
  by_cases g : p = s ∧ j = side
  · obtain ⟨rfl, rfl⟩ := g
    by_cases c : x = i
    · subst c
      rw [if_pos ⟨⟨rfl, rfl⟩, rfl⟩]
      simp [ck3, cst3, ms, n1, n2]
    · rw [if_neg (fun z => c z.2)]
      simp [ck3, cst3, ms, c]
  · rw [if_neg (fun z => g z.1)]
    simp [ck3, cst3, ms, n1, n2, show L 13 (2 * p + j) ≠ L 13 (2 * s + side) from fun e => g (hij (Or.inl e)), show L 14 (2 * p + j) ≠ L 14 (2 * s + side) from fun e => g (hij (Or.inr (Or.inl e))), show L 15 (2 * p + j) ≠ L 15 (2 * s + side) from fun e => g (hij (Or.inr (Or.inr e)))]
theorem cst_off {s side i : Nat} {e : Ent} (h : CR B M L C D) (hs : s < cn C) (h4 : ckd C s = 4) (hsd : side < 2) : Off M (cst3 M L (2 * s + side) i e) ∧ CSH (cst3 M L (2 * s + side) i e) L C := by
  obtain ⟨k0, k1, k2, k3⟩ := jkinds h hs h4 hsd
  refine ⟨((off_tJ (by rw [k1]; exact nRK (by decide))).trans (off_tI (by simp only [ms]; rw [k2]; exact nRK (by decide)))).trans (off_tI (by simp only [ms]; rw [k3]; exact nRK (by decide))), ?_⟩
  unfold cst3
  simp (disch := first | decide | (simp only [ms, k1]; decide)) only [c_CMK_sI, c_CMK_sJ, c_CMK_tI, c_CMK_tJ, c_CID_sI, c_CID_sJ, c_CID_tI, c_CID_tJ, c_CPS_sI, c_CPS_sJ, c_CPS_tI, c_CPS_tJ, c_CPR_sI, c_CPR_sJ, c_CPR_tI, c_CPR_tJ, c_CHR_sI, c_CHR_sJ, c_CHR_tI, c_CHR_tJ, c_CNW_sI, c_CNW_sJ, c_CNW_tI, c_CNW_tJ, c_CLO_sI, c_CLO_sJ, c_CLO_tI, c_CLO_tJ, c_CNT_sI, c_CNT_sJ, c_CNT_tI, c_CNT_tJ, c_CWI_sI, c_CWI_sJ, c_CWI_tI, c_CWI_tJ, c_CKP_sI, c_CKP_sJ, c_CKP_tI, c_CKP_tJ, c_CTI_sI, c_CTI_sJ, c_CTI_tI, c_CTI_tJ, c_CSH_sI, c_CSH_sJ, c_CSH_tI, c_CSH_tJ]
  exact h.2.1
theorem cst_aI {s side i : Nat} {e : Ent} (h : CR B M L C D) (hs : s < cn C) (h4 : ckd C s = 4) (hsd : side < 2) : (∀ a j, ¬ mK M a = 433 → ¬ mK M a = 465 → ¬ mK M a = 481 → aI (cst3 M L (2 * s + side) i e) a j = aI M a j) ∧ (∀ a j, ¬ mK M a = 450 → aJ (cst3 M L (2 * s + side) i e) a j = aJ M a j) ∧ ∀ p j, p < cn C → ckd C p = 4 → aI (cst3 M L (2 * s + side) i e) (L 9 p) j = aI M (L 9 p) j := by
  obtain ⟨k0, k1, k2, k3⟩ := jkinds h hs h4 hsd
  refine ⟨fun a j n1 n2 n3 => ?_, fun a j n1 => ?_, fun p j hp hp4 => ?_⟩
  · simp [cst3, ms, show a ≠ L 15 (2 * s + side) from fun z => n3 (by rw [z]; exact k3), show a ≠ L 14 (2 * s + side) from fun z => n2 (by rw [z]; exact k2)]
  · simp [cst3, ms, show a ≠ L 13 (2 * s + side) from fun z => n1 (by rw [z]; exact k1)]
  · have q0 := (jkinds h hp hp4 (show 0 < 2 by decide)).1
    have n1 : L 9 p ≠ L 15 (2 * s + side) := fun z => by rw [z, k3] at q0; cases q0
    have n2 : L 9 p ≠ L 14 (2 * s + side) := fun z => by rw [z, k2] at q0; cases q0
    simp [cst3, ms, n1, n2]
theorem CR_kset {s side i : Nat} {e : Ent} {l : List Ent} (h : CR B M L C (xke D s side l)) (hs : s < cn C) (h4 : ckd C s = 4) (hsd : side < 2) : CR B (cst3 M L (2 * s + side) i e) L C (xke D s side (l.set i e)) := by
  obtain ⟨o1, o2⟩ := cst_off (i := i) (e := e) h hs h4 hsd
  obtain ⟨a1, a2, a3⟩ := cst_aI (i := i) (e := e) h hs h4 hsd
  have hke := h.2.2.2.2.2.2.2.2.2.2.2.2.1 s side hs h4 hsd
  simp only [dg, if_true] at hke
  rw [← xke_xke D s side l]
  refine CR_k h o1 o2 rfl rfl a1 a2 (fun _ _ _ => ⟨hke.1, by rw [a3 s side hs h4, List.length_set]; exact hke.2.1, by rw [List.length_set]; exact hke.2.2.1, fun x y hx => ?_⟩) (fun p j l' hp hp4 hj hne hl' => ⟨hl'.1, by rw [a3 p j hp hp4]; exact hl'.2.1, hl'.2.2.1, fun x y hx => ?_⟩)
  · rw [ck3_cst h hs h4 hsd hs h4 hsd]
    by_cases c : x = i
    · rw [if_pos ⟨⟨rfl, rfl⟩, c⟩]
      subst c
      rw [List.getElem?_set] at hx
      simp only [if_true] at hx
      split at hx
      · cases hx; rfl
      · cases hx
    · rw [if_neg (fun z => c z.2)]
      rw [List.getElem?_set_ne (fun z => c z.symm)] at hx
      exact hke.2.2.2 x y hx
  · rw [ck3_cst h hs h4 hsd hp hp4 hj, if_neg (fun z => hne z.1)]
    exact hl'.2.2.2 x y hx
theorem cnt_frame {s side : Nat} {v : Int32} {D : Dyn} (h : CR B M L C D) (hs : s < cn C) (h4 : ckd C s = 4) (hsd : side < 2) : Off M (tI M (L 9 s) side v) ∧ CSH (tI M (L 9 s) side v) L C ∧ (∀ a j, ¬ mK M a = 433 → aI (tI M (L 9 s) side v) a j = aI M a j) ∧ ∀ p j, p < cn C → ckd C p = 4 → aI (tI M (L 9 s) side v) (L 9 p) j = if p = s ∧ j = side then v else aI M (L 9 p) j := by
  have k0 := (jkinds h hs h4 hsd).1
  refine ⟨off_tI (by rw [k0]; exact nRK (by decide)), h.2.1, fun a j n1 => ?_, fun p j hp hp4 => ?_⟩
  · simp [ms, show a ≠ L 9 s from fun z => n1 (by rw [z]; exact k0)]
  · simp only [ms]
    by_cases a : p = s
    · subst a
      rw [if_pos rfl]
      by_cases b : j = side
      · rw [if_pos b, if_pos ⟨rfl, b⟩]
      · rw [if_neg b, if_neg (fun z => b z.2)]
    · rw [if_neg (fun z => a (h.2.1.2.2.2.2.2.2.2.2.1.2.2.1 p s hp hs hp4 h4 z)), if_neg (fun z => a z.1)]
theorem CR_kcnt {s side n : Nat} {l : List Ent} (h : CR B M L C (xke D s side l)) (hs : s < cn C) (h4 : ckd C s = 4) (hsd : side < 2) (hn : n ≤ l.length) : CR B (tI M (L 9 s) side (nI n)) L C (xke D s side (l.take n)) := by
  obtain ⟨o1, o2, a1, a3⟩ := cnt_frame (v := nI n) h hs h4 hsd
  have hke := h.2.2.2.2.2.2.2.2.2.2.2.2.1 s side hs h4 hsd
  simp only [dg, if_true] at hke
  have hk3 : ∀ p j, p < cn C → ckd C p = 4 → j < 2 → ∀ x, ck3 (tI M (L 9 s) side (nI n)) L (2 * p + j) x = ck3 M L (2 * p + j) x := fun p j hp hp4 hj x => by
    obtain ⟨q0, q1, q2, q3⟩ := jkinds h hp hp4 hj
    have e1 := a1 (L 14 (2 * p + j)) x (by rw [q2]; decide)
    have e2 := a1 (L 15 (2 * p + j)) x (by rw [q3]; decide)
    simp only [ck3, e1, e2]
    rfl
  rw [← xke_xke D s side l]
  refine CR_k h o1 o2 rfl rfl (fun a j n1 _ _ => a1 a j n1) (fun _ _ _ => rfl) (fun _ _ _ => ⟨hke.1, by rw [a3 s side hs h4, if_pos ⟨rfl, rfl⟩]; congr 1; simp; omega, by have := hke.2.2.1; simp; omega, fun x y hx => ?_⟩) (fun p j l' hp hp4 hj hne hl' => ⟨hl'.1, by rw [a3 p j hp hp4, if_neg hne]; exact hl'.2.1, hl'.2.2.1, fun x y hx => by rw [hk3 p j hp hp4 hj]; exact hl'.2.2.2 x y hx⟩)
  rw [hk3 s side hs h4 hsd]
  refine hke.2.2.2 x y ?_
  rw [List.getElem?_take] at hx
  split at hx
  · exact hx
  · cases hx
theorem CR_kinc {s side : Nat} {e : Ent} {l : List Ent} (h : CR B M L C (xke D s side l)) (hs : s < cn C) (h4 : ckd C s = 4) (hsd : side < 2) (hn : l.length < 6) (he : ck3 M L (2 * s + side) l.length = e) : CR B (tI M (L 9 s) side (nI (l.length + 1))) L C (xke D s side (l ++ [e])) := by
  obtain ⟨o1, o2, a1, a3⟩ := cnt_frame (v := nI (l.length + 1)) h hs h4 hsd
  have hke := h.2.2.2.2.2.2.2.2.2.2.2.2.1 s side hs h4 hsd
  simp only [dg, if_true] at hke
  have hk3 : ∀ p j, p < cn C → ckd C p = 4 → j < 2 → ∀ x, ck3 (tI M (L 9 s) side (nI (l.length + 1))) L (2 * p + j) x = ck3 M L (2 * p + j) x := fun p j hp hp4 hj x => by
    obtain ⟨q0, q1, q2, q3⟩ := jkinds h hp hp4 hj
    have e1 := a1 (L 14 (2 * p + j)) x (by rw [q2]; decide)
    have e2 := a1 (L 15 (2 * p + j)) x (by rw [q3]; decide)
    simp only [ck3, e1, e2]
    rfl
  have hlen : (l ++ [e]).length = l.length + 1 := by simp
  rw [← xke_xke D s side l]
  refine CR_k h o1 o2 rfl rfl (fun a j n1 _ _ => a1 a j n1) (fun _ _ _ => rfl) (fun _ _ _ => ⟨hke.1, by rw [a3 s side hs h4, if_pos ⟨rfl, rfl⟩, hlen], by omega, fun x y hx => ?_⟩) (fun p j l' hp hp4 hj hne hl' => ⟨hl'.1, by rw [a3 p j hp hp4, if_neg hne]; exact hl'.2.1, hl'.2.2.1, fun x y hx => by rw [hk3 p j hp hp4 hj]; exact hl'.2.2.2 x y hx⟩)
  rw [hk3 s side hs h4 hsd]
  by_cases c : x = l.length
  · rw [c] at hx ⊢
    rw [he]
    simpa using hx
  · have := (List.getElem?_eq_some_iff.mp hx).1
    rw [List.getElem?_append_left (by omega)] at hx
    exact hke.2.2.2 x y hx
theorem CR_kpush {s side : Nat} {e : Ent} {l : List Ent} (h : CR B M L C (xke D s side l)) (hs : s < cn C) (h4 : ckd C s = 4) (hsd : side < 2) (hn : l.length < 6) : CR B (tI (cst3 M L (2 * s + side) l.length e) (L 9 s) side (nI (l.length + 1))) L C (xke D s side (l ++ [e])) := by
  have h1 := CR_kset (i := l.length) (e := e) h hs h4 hsd
  rw [List.set_eq_of_length_le (Nat.le_refl _)] at h1
  have h2 : ck3 (cst3 M L (2 * s + side) l.length e) L (2 * s + side) l.length = e := by
    rw [ck3_cst h hs h4 hsd hs h4 hsd, if_pos ⟨⟨rfl, rfl⟩, rfl⟩]
  exact CR_kinc h1 hs h4 hsd hn h2
/-- all that a join's code asks of its arrays -/
theorem CJF {s side : Nat} (h : CR B M L C D) (hs : s < cn C) (h4 : ckd C s = 4) (hsd : side < 2) : (mK M (L 8 s) = 3 ∧ mR M 128 (L 8 s) = some (L 1 (a_in C s 0)) ∧ mR M 129 (L 8 s) = some (L 1 (a_in C s 1)) ∧ mJ M 130 (L 8 s) = co1 C s ∧ mJ M 131 (L 8 s) = co2 C s ∧ mR M 132 (L 8 s) = some (L 9 s) ∧ mR M 133 (L 8 s) = some (L 10 s) ∧ mR M 134 (L 8 s) = some (L 11 s) ∧ mR M 135 (L 8 s) = some (L 12 s)) ∧ (isA M (L 9 s) 1 ∧ aN M (L 9 s) = 2 ∧ isA M (L 10 s) 6 ∧ aN M (L 10 s) = 2 ∧ isA M (L 11 s) 5 ∧ aN M (L 11 s) = 2 ∧ isA M (L 12 s) 5 ∧ aN M (L 12 s) = 2) ∧ (aR M (L 10 s) side = some (L 13 (2 * s + side)) ∧ aR M (L 11 s) side = some (L 14 (2 * s + side)) ∧ aR M (L 12 s) side = some (L 15 (2 * s + side))) ∧ isA M (L 13 (2 * s + side)) 2 ∧ aN M (L 13 (2 * s + side)) = 6 ∧ isA M (L 14 (2 * s + side)) 1 ∧ aN M (L 14 (2 * s + side)) = 6 ∧ isA M (L 15 (2 * s + side)) 1 ∧ aN M (L 15 (2 * s + side)) = 6 := by
  obtain ⟨j1, j2, j3, j4, j5, j6, j7, j8, j9, j10, j11, j12, j13, j14, j15, j16, j17, jj⟩ := h.2.1.2.2.2.2.2.2.1 s hs h4
  obtain ⟨i1, i2, i3, i4, i5, i6, i7, i8, i9⟩ := jj side hsd
  exact ⟨⟨j1, j2, j3, j4, j5, j6, j7, j8, j9⟩, ⟨isA_of j10 (by decide) (by decide), j11, isA_of j12 (by decide) (by decide), j13, isA_of j14 (by decide) (by decide), j15, isA_of j16 (by decide) (by decide), j17⟩, ⟨i1, i2, i3⟩, isA_of i4 (by decide) (by decide), i5, isA_of i6 (by decide) (by decide), i7, isA_of i8 (by decide) (by decide), i9⟩
theorem c_jput {K : Mm → Prop} {s side i : Nat} {e : Ent} (h : CR B M L C D) (hs : s < cn C) (h4 : ckd C s = 4) (hsd : side < 2) (hi : i < 6) (hK : K (cst3 M L (2 * s + side) i e)) : wp_X2_put M (L 8 s) (nI side) (nI i) e.1 e.2.1 e.2.2 K := by
  have F := CJF h hs h4 hsd
  simp (disch := omega) only [wp_X2_put, F, ms, ia, n_in, n_clamp, Option.some.injEq, exists_eq_left', true_and]
  exact hK
end K4
