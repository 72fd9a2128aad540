/-! how many rows a call may note -/
section K20
variable {C : Cfg}
theorem pass_216 (hC : WT C) (hJ : jc C (cn C) ≤ 3) {d : Nat} {D : Dyn} {s : Nat} {t : Int64} {k w : Int32} (h : Rm D) : Rm (a_pass C d D s t k w) ∧ nn (a_pass C d D s t k w) ≤ nn D + 216 := by
  obtain ⟨h1, h2⟩ := pass_nn hC d D s t k w h
  have := pow_le6 (show jc C (cn C) - jc C (s + 1) ≤ 3 by omega)
  exact ⟨h1, by omega⟩
theorem close_nn (hC : WT C) (hJ : jc C (cn C) ≤ 3) {s : Nat} : ∀ (n : Nat) (D : Dyn), Rm D → Rm (a_close C s n D) ∧ nn (a_close C s n D) ≤ nn D + n * 216
  | 0, D, h => ⟨h, by rw [a_close]; omega⟩
  | n + 1, D, h => by
    rw [a_close]
    cases hw : dwi D s with
    | nil => exact ⟨h, by dsimp only; omega⟩
    | cons e l =>
      dsimp only
      have hl := h.2 s
      rw [hw] at hl
      simp at hl
      split
      · have h1 : Rm (xwi D s l) := h.wi (by omega)
        have h2 := pass_216 hC hJ (d := 30) (s := s) (t := plusF e.1 (co1 C s - 1)) (k := e.2.1) (w := e.2.2) h1
        have h3 := close_nn hC hJ (s := s) n _ h2.1
        have e1 : nn (xwi D s l) = nn D := rfl
        exact ⟨h3.1, by omega⟩
      · exact ⟨h, by omega⟩
theorem raise_nn {D : Dyn} {s : Nat} {g : Option Int64} (h : Rm D) : Rm (a_raise D s g) ∧ nn (a_raise D s g) = nn D := by
  unfold a_raise
  split
  · exact ⟨h, rfl⟩
  · split
    · exact ⟨h, rfl⟩
    · exact ⟨h, rfl⟩
theorem drop_nn {D : Dyn} {s k : Nat} (h : Rm D) : Rm (a_drop C D s k) ∧ nn (a_drop C D s k) = nn D := ⟨h.ke (Nat.le_trans (List.length_filter_le _ _) (h.1 s k)), rfl⟩
theorem step_nn (hC : WT C) (hJ : jc C (cn C) ≤ 3) {D : Dyn} {s : Nat} (h : Rm D) : Rm (a_step C D s) ∧ nn (a_step C D s) ≤ nn D + 5184 := by
  obtain ⟨r1, r2⟩ := raise_nn (s := s) (g := a_goal C D s) h
  unfold a_step
  split
  · have := close_nn hC hJ (s := s) (dwi D s).length _ r1
    have hl := h.2 s
    exact ⟨this.1, by have := this.2; omega⟩
  · split
    · have h1 := drop_nn (C := C) (s := s) (k := 0) r1
      have h2 := drop_nn (C := C) (s := s) (k := 1) h1.1
      exact ⟨h2.1, by rw [h2.2, h1.2]; omega⟩
    · exact ⟨r1, by omega⟩
theorem reckN_nn (hC : WT C) (hJ : jc C (cn C) ≤ 3) {D : Dyn} (h : Rm D) : ∀ n, Rm (a_reckN C D n) ∧ nn (a_reckN C D n) ≤ nn D + n * 5184
  | 0 => ⟨h, by rw [a_reckN]; omega⟩
  | n + 1 => by
    obtain ⟨h1, h2⟩ := reckN_nn hC hJ h n
    obtain ⟨h3, h4⟩ := step_nn hC hJ (s := n) h1
    exact ⟨h3, by rw [a_reckN]; omega⟩
theorem reckon_nn (hW : WC C) (hJ : jc C (cn C) ≤ 3) {D : Dyn} (h : Rm D) : Rm (a_reckon C D) ∧ nn (a_reckon C D) ≤ nn D + 62208 := by
  obtain ⟨h1, h2⟩ := reckN_nn hW.2.1 hJ h (cn C)
  have h12 := hW.1
  exact ⟨h1, by unfold a_reckon; omega⟩
/-- what a call may add -/
def Bd (D D1 : Dyn) : Prop := Rm D1 ∧ nn D1 ≤ nn D + 62500
theorem Bd.refl {D : Dyn} (h : Rm D) : Bd D D := ⟨h, by omega⟩
theorem Bd.rk (hW : WC C) (hJ : jc C (cn C) ≤ 3) {D D1 : Dyn} (h : Rm D1) (hn : nn D1 ≤ nn D + 217) : Bd D (a_reckon C D1) := by
  obtain ⟨h1, h2⟩ := reckon_nn hW hJ h
  exact ⟨h1, by omega⟩
variable {D : Dyn}
theorem Bd_row {p q : Int32} {t : Int64} {key : Int32} (hW : WC C) (hJ : jc C (cn C) ≤ 3) (h : Rm D) : Bd D (A_row C D p q t key).2 := by
  unfold A_row
  split
  · unfold a_row
    split
    · exact Bd.refl h
    · split
      · exact Bd.refl h
      · split
        · refine Bd.rk hW hJ h ?_
          simp [nn, a_late, dg, a_hear]; omega
        · have h1 : Rm (a_hear D p.toNatClampNeg q.toNatClampNeg) := h
          have h2 := pass_216 hW.2.1 hJ (d := 30) (s := p.toNatClampNeg) (t := t) (k := key) (w := 1) h1
          have e : nn (a_hear D p.toNatClampNeg q.toNatClampNeg) = nn D := rfl
          by_cases c : chl C p.toNatClampNeg = true
          · rw [if_pos c]
            refine Bd.rk hW hJ ?_ ?_
            · exact h2.1
            · have := h2.2
              show nn (a_pass C 30 _ _ _ _ _) ≤ _
              omega
          · rw [if_neg c]
            exact Bd.rk hW hJ h2.1 (by omega)
  · exact Bd.refl h
theorem Bd_mark {p q : Int32} {t : Int64} (hW : WC C) (hJ : jc C (cn C) ≤ 3) (h : Rm D) : Bd D (A_mark C D p q t).2 := by
  unfold A_mark a_mark
  split
  · split
    · exact Bd.refl h
    · split
      · exact Bd.refl h
      · split
        · exact Bd.rk hW hJ h (Nat.le_add_right _ _)
        · exact Bd.rk hW hJ h (Nat.le_add_right _ _)
  · exact Bd.refl h
theorem Bd_end {p q : Int32} (hW : WC C) (hJ : jc C (cn C) ≤ 3) (h : Rm D) : Bd D (A_end C D p q).2 := by
  unfold A_end a_end
  split
  · split
    · exact Bd.refl h
    · exact Bd.rk hW hJ h (Nat.le_add_right _ _)
  · exact Bd.refl h
theorem Bd_idle {p q on : Int32} (hW : WC C) (hJ : jc C (cn C) ≤ 3) (h : Rm D) : Bd D (A_idle C D p q on).2 := by
  unfold A_idle a_idle
  split
  · split
    · exact Bd.refl h
    · split
      · split
        · exact Bd.rk hW hJ h (Nat.le_add_right _ _)
        · exact Bd.rk hW hJ h (Nat.le_add_right _ _)
      · split
        · exact Bd.rk hW hJ h (Nat.le_add_right _ _)
        · exact Bd.rk hW hJ h (Nat.le_add_right _ _)
  · exact Bd.refl h
theorem Bd_turn {n : Int32} (hW : WC C) (hJ : jc C (cn C) ≤ 3) (h : Rm D) : Bd D (A_turn C D n).2 := by
  unfold A_turn a_turn
  split
  · exact Bd.rk hW hJ h (Nat.le_add_right _ _)
  · exact Bd.refl h
theorem Bd_hold {p : Int32} {t : Int64} (hW : WC C) (hJ : jc C (cn C) ≤ 3) (h : Rm D) : Bd D (A_hold C D p t).2 := by
  unfold A_hold a_hold
  split
  · split
    · exact Bd.refl h
    · split
      · exact Bd.refl h
      · exact Bd.rk hW hJ h (Nat.le_add_right _ _)
  · exact Bd.refl h
theorem Bd_rel {p em key : Int32} (hW : WC C) (hJ : jc C (cn C) ≤ 3) (h : Rm D) : Bd D (A_rel C D p em key).2 := by
  unfold A_rel
  split
  · split
    · exact Bd.refl h
    · rename_i x hx
      split
      · by_cases r : em = 0
        · rw [if_pos r]; exact Bd.rk hW hJ h (Nat.le_add_right _ _)
        · rw [if_neg r]
          have h2 := pass_216 hW.2.1 hJ (d := 30) (s := x.1) (t := x.2.1) (k := key) (w := 1) h
          refine Bd.rk hW hJ h2.1 ?_
          show nn (a_pass C 30 _ _ _ _ _) ≤ _
          omega
      · exact Bd.refl h
  · exact Bd.refl h
theorem nn_LB {D : Dyn} (h : nn D < 2147483648) : LB D := by unfold nn at h; exact ⟨by omega, by omega⟩
end K20
