/-! the class writes the page -/
def idl (b : Bool) : List Nat := if b = true then 32 :: WID else []
def lnT (C : Cfg) (D : Dyn) (s : Nat) : List Nat := tmw (dmk D s) ++ (idl (did D s) ++ [10])
def lnR (C : Cfg) (D : Dyn) (s : Nat) : List Nat := num (lN s) ++ ([32] ++ (cnm C s ++ ([32] ++ (kwd (ckd C s) ++ ((cin C s).flatMap (fun i => 32 :: num (lN i)) ++ ([32] ++ lnT C D s))))))
def pgs (C : Cfg) (D : Dyn) : Nat → List Nat
  | 0 => []
  | n + 1 => pgs C D n ++ lnR C D n
theorem num12 {i : Nat} (h : i < 12) : (num (lN i)).length ≤ 2 := by
  have hq : ∀ k : Fin 12, (num (lN k.val)).length ≤ 2 := by decide +kernel
  exact hq ⟨i, h⟩
theorem kwd_len (k : Nat) : (kwd k).length ≤ 6 := by
  unfold kwd
  repeat' split
  all_goals decide
theorem idl_len (b : Bool) : (idl b).length ≤ 5 := by cases b <;> decide
theorem fm_len (l : List Nat) (h : ∀ i ∈ l, i < 12) : (l.flatMap (fun i => 32 :: num (lN i))).length ≤ 3 * l.length := by
  induction l with
  | nil => exact Nat.zero_le _
  | cons a l ih =>
    rw [List.flatMap_cons, List.length_append, List.length_cons, List.length_cons]
    have := num12 (h a List.mem_cons_self)
    have := ih (fun i hi => h i (List.mem_cons_of_mem _ hi))
    omega
theorem fm_sw (l : List Nat) : [32] ++ l.flatMap (fun i => num (lN i) ++ [32]) = l.flatMap (fun i => 32 :: num (lN i)) ++ [32] := by
  induction l with
  | nil => rfl
  | cons a l ih =>
    rw [List.flatMap_cons, List.flatMap_cons, List.append_assoc (32 :: num (lN a)), ← ih]
    simp
section D0s
variable {C : Cfg} {D : Dyn}
theorem cin12 {s : Nat} (hW : WC C) (hs : s < cn C) : ∀ i ∈ cin C s, i < 12 := fun i hi => by
  obtain ⟨k, hk, e⟩ := List.mem_iff_getElem.mp hi
  have := hW.2.2.1 s k hs hk
  rw [a_in, List.getD_eq_getElem?_getD, List.getElem?_eq_getElem hk, e] at this
  have h12 := hW.1
  have : i < s := this
  omega
theorem ln_len {s : Nat} (hW : WC C) (hs : s < cn C) (hn : WW (cnm C s)) : (lnR C D s).length ≤ 57 := by
  have h12 := hW.1
  have h1 := num12 (show s < 12 by omega)
  have h2 := hn.2.1
  have h3 := kwd_len (ckd C s)
  have h4 := fm_len _ (cin12 hW hs)
  have h5 := (hW.2.2.2 s hs).2.2.2.1
  have h6 := tmw_len (v := dmk D s)
  have h7 := idl_len (did D s)
  unfold lnR lnT
  simp only [List.length_append, List.length_cons, List.length_nil]
  omega
theorem pg_len (hW : WC C) (hn : ∀ s, s < cn C → WW (cnm C s)) : ∀ n, n ≤ cn C → (pgs C D n).length ≤ 57 * n
  | 0, _ => Nat.zero_le _
  | n + 1, h => by
    rw [pgs, List.length_append]
    have := pg_len hW hn n (by omega)
    have := ln_len (D := D) hW (s := n) (by omega) (hn n (by omega))
    omega
end D0s
/-- what is written of a stream -/
def CL (M : Mm) (L : Nat → Nat → Nat) (C : Cfg) (D : Dyn) (s : Nat) : Prop := mK M (L 1 s) = 7 ∧ mI M 384 (L 1 s) = nI s ∧ mJ M 385 (L 1 s) = w8 (cnm C s) ∧ mJ M 386 (L 1 s) = kw (ckd C s) ∧ mR M 387 (L 1 s) = some (L 2 s) ∧ mK M (L 2 s) = 68 ∧ aN M (L 2 s) = 4 ∧ mI M 388 (L 1 s) = nI (cin C s).length ∧ mJ M 390 (L 1 s) = dmk D s ∧ mI M 391 (L 1 s) = bI (did D s) ∧ ∀ i, i < (cin C s).length → aR M (L 2 s) i = some (L 1 (a_in C s i)) ∧ mK M (L 1 (a_in C s i)) = 7 ∧ mI M 384 (L 1 (a_in C s i)) = nI (a_in C s i)
section D0t
variable {M M1 B : Mm} {L : Nat → Nat → Nat} {C : Cfg} {D : Dyn} {b a : Nat}
theorem CL.px {s : Nat} (h : CL M L C D s) (p : PX b a M M1) : CL M1 L C D s := by
  obtain ⟨p1, p2, p3, p4, p5, p6, p7, p8⟩ := p
  unfold CL at *
  simp only [p1, p2, p3, p4, p6, p7 384 _ (fun e => absurd e.1 (by decide)), p7 388 _ (fun e => absurd e.1 (by decide)), p7 391 _ (fun e => absurd e.1 (by decide))]
  exact h
theorem CL.of {s : Nat} (hW : WC C) (h : CR B M L C D) (hN : NMC M L C) (hs : s < cn C) : CL M L C D s := by
  have q := h.2.1.2.2.2.1
  have q1 := q s hs
  refine ⟨q1.2.1, q1.2.2.1, (hN s hs).2, q1.2.2.2.1, q1.2.2.2.2.1, q1.2.2.2.2.2.1, q1.2.2.2.2.2.2.1, q1.2.2.2.2.2.2.2.1, h.2.2.1 s hs, h.2.2.2.1 s hs, fun i hi => ?_⟩
  have hq := hW.2.2.1 s i hs hi
  have q2 := q (a_in C s i) (by omega)
  exact ⟨h.2.1.2.2.2.2.1 s i hs hi, q2.2.1, q2.2.2.1⟩
theorem c_ln45 {K : Mm → Prop} {s : Nat} {bs : List Nat} {B0 : Mm} (h12 : ∀ i ∈ cin C s, i < 12) (h4 : (cin C s).length ≤ 4) (hv : -9000000000000000000 ≤ (dmk D s).toInt) (hl : bs.length + 80 ≤ 800) (hK : ∀ M1, YB M1 b a 800 (bs ++ ((cin C s).flatMap (fun i => num (lN i) ++ [32]) ++ lnT C D s)) → PX b a B0 M1 → K M1) : ∀ (r i : Nat) (M : Mm) (w : List Nat), i + r = (cin C s).length → w.length ≤ 3 * i → w ++ ((cin C s).drop i).flatMap (fun i => num (lN i) ++ [32]) = (cin C s).flatMap (fun i => num (lN i) ++ [32]) → YB M b a 800 (bs ++ w) → PX b a B0 M → CL M L C D s → lp_X6_write_45 (L 1 s) K (r + 1) (some b) (nI i) M := by
  intro r
  induction r with
  | zero =>
    intro i M w hi hw he hY hP hC
    have ei : i = (cin C s).length := by omega
    rw [ei, List.drop_length, List.flatMap_nil, List.append_nil] at he
    subst ei
    have l1 : (bs ++ w).length ≤ bs.length + 12 := by rw [List.length_append]; omega
    rw [lp_X6_write_45, hC.2.2.2.2.2.2.2.1]
    refine ⟨hC.1, fun _ => ⟨b, rfl, hY.1, ?_⟩, fun z => absurd (by rw [n_le (by omega) (by omega)]; omega) z⟩
    rw [hC.2.2.2.2.2.2.2.2.1]
    refine c_tm hv (by omega) (by decide) hY (fun M1 y1 p1 => ?_)
    have hC1 := hC.px p1
    have l2 := tmw_len (v := dmk D s)
    have fin : ∀ M2, YB M2 b a 800 ((bs ++ w) ++ tmw (dmk D s) ++ idl (did D s)) → PX b a M1 M2 → bk_X6_write_107 (L 1 s) K (some b) M2 := fun M2 y2 p2 => by
      have l3 := idl_len (did D s)
      refine ⟨b, rfl, y2.1, c_add0 (c := 10) y2 (by simp only [List.length_append] at *; omega) (by decide) (by decide) (by decide) (fun M3 y3 p3 => hK M3 ?_ (hP.trans (p1.trans (p2.trans p3))))⟩
      rw [← he]
      unfold lnT
      simpa [List.append_assoc] using y3
    refine ⟨hC1.1, ?_⟩
    rw [hC1.2.2.2.2.2.2.2.2.2.1]
    by_cases e : did D s = true
    · rw [e]
      refine ⟨fun z => absurd z (by decide), fun _ => ⟨y1.1, c_add0 (c := 32) y1 (by simp only [List.length_append] at *; omega) (by decide) (by decide) (by decide) (fun M2 y2 p2 => ⟨y2.1, ?_⟩)⟩⟩
      have := c_wd (K := fun M20 => bk_X6_write_107 (L 1 s) K (some b) M20) wid_w.1 (by simp only [List.length_append, List.length_cons, List.length_nil] at *; omega) (by decide) y2 (fun M3 y3 p3 => fin M3 (by rw [e]; simpa [idl, List.append_assoc] using y3) (p2.trans p3))
      rw [wid_w.2] at this
      exact this
    · have e2 : did D s = false := Bool.eq_false_iff.2 e
      rw [e2]
      exact ⟨fun _ => fin M1 (by rw [e2]; simpa [idl] using y1) PX.refl, fun z => absurd rfl z⟩
  | succ r ih =>
    intro i M w hi hw he hY hP hC
    have hil : i < (cin C s).length := by omega
    have l1 : (bs ++ w).length ≤ bs.length + 12 := by rw [List.length_append]; omega
    have q := hC.2.2.2.2.2.2.2.2.2.2 i hil
    have ea : a_in C s i = (cin C s)[i] := by rw [a_in, List.getD_eq_getElem?_getD, List.getElem?_eq_getElem hil]; rfl
    have e12 : a_in C s i < 12 := by rw [ea]; exact h12 _ (List.getElem_mem hil)
    have ln := num12 e12
    rw [lp_X6_write_45, hC.2.2.2.2.2.2.2.1, n_le (by omega) (by omega)]
    refine ⟨hC.1, fun z => absurd z (by omega), fun _ => ⟨L 2 s, hC.2.2.2.2.1, isA_of hC.2.2.2.2.2.1 (by decide) (by decide), by rw [hC.2.2.2.2.2.2.1]; exact n_in (by omega) (by decide), L 1 (a_in C s i), by rw [n_clamp (by omega)]; exact q.1, q.2.1, b, rfl, hY.1, ?_⟩⟩
    rw [q.2.2, j_nI (by omega)]
    refine c_nmb (by rw [pf_lI (by omega)]; omega) (by omega) (by decide) hY (fun M1 y1 p1 => ⟨y1.1, c_add0 (c := 32) y1 (by simp only [List.length_append] at *; omega) (by decide) (by decide) (by decide) (fun M2 y2 p2 => ?_)⟩)
    rw [show nI i + (1 : Int32) = nI (i + 1) by rw [show (1 : Int32) = nI 1 from rfl, n_add]]
    refine ih (i + 1) M2 (w ++ (num (lN (a_in C s i)) ++ [32])) (by omega) (by simp only [List.length_append, List.length_cons, List.length_nil] at *; omega) ?_ (by simpa [List.append_assoc] using y2) (hP.trans (p1.trans p2)) ((hC.px p1).px p2)
    rw [← he, List.drop_eq_getElem_cons hil, List.flatMap_cons, ← ea, List.append_assoc]
theorem c_line {K : Mm → Prop} {s : Nat} {bs : List Nat} (hW : WC C) (hs : s < cn C) (hn : WW (cnm C s)) (hv : -9000000000000000000 ≤ (dmk D s).toInt) (hl : bs.length + 110 ≤ 800) (hY : YB M b a 800 bs) (hC : CL M L C D s) (hK : ∀ M1, YB M1 b a 800 (bs ++ lnR C D s) → PX b a M M1 → K M1) : wp_X6_write M (L 1 s) (some b) K := by
  have h12 := hW.1
  have l1 := num12 (show s < 12 by omega)
  have l2 := hn.2.1
  have l3 := kwd_len (ckd C s)
  refine ⟨hC.1, b, rfl, hY.1, ?_⟩
  rw [hC.2.1, j_nI (by omega)]
  refine c_nmb (by rw [pf_lI (by omega)]; omega) (by omega) (by decide) hY (fun M1 y1 p1 => ⟨y1.1, c_add0 (c := 32) y1 (by simp only [List.length_append] at *; omega) (by decide) (by decide) (by decide) (fun M2 y2 p2 => ?_)⟩)
  have hC2 := (hC.px p1).px p2
  refine ⟨hC2.1, y2.1, ?_⟩
  rw [hC2.2.2.1]
  refine c_wd hn (by simp only [List.length_append, List.length_cons, List.length_nil] at *; omega) (by decide) y2 (fun M3 y3 p3 => ⟨y3.1, c_add0 (c := 32) y3 (by simp only [List.length_append, List.length_cons, List.length_nil] at *; omega) (by decide) (by decide) (by decide) (fun M4 y4 p4 => ?_)⟩)
  have hC4 := (hC2.px p3).px p4
  refine ⟨hC4.1, y4.1, ?_⟩
  rw [hC4.2.2.2.1, ← (kwd_w (ckd C s)).2]
  refine c_wd (kwd_w (ckd C s)).1 (by simp only [List.length_append, List.length_cons, List.length_nil] at *; omega) (by decide) y4 (fun M5 y5 p5 => ⟨y5.1, c_add0 (c := 32) y5 (by simp only [List.length_append, List.length_cons, List.length_nil] at *; omega) (by decide) (by decide) (by decide) (fun M6 y6 p6 => ⟨(cin C s).length + 1, ?_⟩)⟩)
  have hC6 := (hC4.px p5).px p6
  refine c_ln45 (C := C) (D := D) (B0 := M) (cin12 hW hs) (hW.2.2.2 s hs).2.2.2.1 hv ?_ (fun M7 y7 p7 => hK M7 ?_ p7) (cin C s).length 0 M6 [] (by omega) (Nat.zero_le _) rfl (by rw [List.append_nil]; exact y6) (p1.trans (p2.trans (p3.trans (p4.trans (p5.trans p6))))) hC6
  · simp only [List.length_append, List.length_cons, List.length_nil] at *; omega
  · have e := fm_sw (cin C s)
    unfold lnR
    rw [← List.append_assoc ((cin C s).flatMap _) [32] (lnT C D s), ← e]
    simpa [List.append_assoc] using y7
end D0t
