/-! what the calls keep; how many rows a call may note -/
section K19
variable {C : Cfg} {D : Dyn}
theorem OKD_row {p q : Int32} {t : Int64} {key : Int32} (hW : WC C) (hO : OKD C D) : OKD C (A_row C D p q t key).2 := by
  unfold A_row
  by_cases c : isPt C p q = true ∧ isTm t = true ∧ isKy key = true
  · rw [if_pos c]
    generalize p.toNatClampNeg = s
    generalize q.toNatClampNeg = k
    have hT := HT_time c.2.1
    unfold a_row
    by_cases z : dps D s k = 2
    · rw [if_pos z]; exact hO
    rw [if_neg z]
    by_cases y : a_stop C D s k = true
    · rw [if_pos y]; exact hO
    rw [if_neg y]
    by_cases x : t ≤ dpr D s k ∨ t ≤ dmk D s
    · rw [if_pos x]; exact hO.d.hear.late.reckon hW
    · rw [if_neg x]
      refine OKd.reckon hW ?_
      by_cases w : chl C s = true
      · rw [if_pos w]
        refine (hO.d.hear.pass hW hT).pr ?_
        unfold maxF
        split
        · exact hO.2.1.2.2.2.1 s k
        · exact (plus_HT (plus_HT hT)).hm
      · rw [if_neg w]; exact hO.d.hear.pass hW hT
  · rw [if_neg c]; exact hO
theorem OKD_mark {p q : Int32} {t : Int64} (hW : WC C) (hO : OKD C D) : OKD C (A_mark C D p q t).2 := by
  unfold A_mark
  by_cases c : isPt C p q = true ∧ isTm t = true
  · rw [if_pos c]
    have hT := HT_time c.2
    unfold a_mark
    split
    · exact hO
    · split
      · exact hO
      · split
        · exact hO.d.hear.reckon hW
        · exact (hO.d.hear.pr hT.hm).reckon hW
  · rw [if_neg c]; exact hO
theorem OKD_end {p q : Int32} (hW : WC C) (hO : OKD C D) : OKD C (A_end C D p q).2 := by
  unfold A_end a_end
  split
  · split
    · exact hO
    · exact ((hO.d.ps (Nat.le_refl 2)).pr HM.end).reckon hW
  · exact hO
theorem OKD_idle {p q on : Int32} (hW : WC C) (hO : OKD C D) : OKD C (A_idle C D p q on).2 := by
  unfold A_idle a_idle
  split
  · split
    · exact hO
    · split
      · split
        · exact hO.d.hear.reckon hW
        · exact hO.d.reckon hW
      · split
        · exact hO.d.reckon hW
        · exact (hO.d.ps (by omega)).reckon hW
  · exact hO
theorem OKD_turn {n : Int32} (hW : WC C) (hO : OKD C D) : OKD C (A_turn C D n).2 := by
  unfold A_turn a_turn
  split
  · exact (OKd_turn hO.d).reckon hW
  · exact hO
theorem OKD_hold {p : Int32} {t : Int64} (hW : WC C) (hO : OKD C D) : OKD C (A_hold C D p t).2 := by
  have h12 := hW.1
  unfold A_hold a_hold
  by_cases c : isSt C p = true ∧ ckd C p.toNatClampNeg = 3 ∧ isTm t = true
  · rw [if_pos c]
    split
    · exact hO
    · split
      · exact hO
      · refine OKd.reckon hW (hO.d.ti (fun y hy => ?_))
        rcases List.mem_append.mp hy with hy | hy
        · exact ⟨hO.2.2.1 y hy, hO.1.2.2 y hy⟩
        · obtain ⟨s, hs, rfl⟩ := (isSt_iff hW).mp c.1
          have c2 := c.2.1
          rw [n_clamp (by omega)] at c2 hy
          rw [List.mem_singleton.mp hy]
          exact ⟨c2, hs, isTm_HT c.2.2⟩
  · rw [if_neg c]; exact hO
theorem OKD_rel {p em key : Int32} (hW : WC C) (hO : OKD C D) : OKD C (A_rel C D p em key).2 := by
  unfold A_rel
  split
  · split
    · exact hO
    · rename_i x hx
      split
      · refine OKd.reckon hW ?_
        by_cases r : em = 0
        · rw [if_pos r]; exact hO.d.unh hx
        · rw [if_neg r]
          have hxm := List.mem_of_getElem? hx
          obtain ⟨x1, x2, x3⟩ := hO.1.2.2 x hxm
          have hu := up_pass hW.2.1 30 D x.1 x.2.1 key 1
          refine OKd.unh (hO.d.pass hW ⟨by omega, by omega⟩) ?_
          rw [hu.2.2.2.2.2.2.1]; exact hx
      · exact hO
  · exact hO
end K19
/-- the rows that are kept, and the sums, have room -/
def Rm (D : Dyn) : Prop := (∀ s k, (dke D s k).length ≤ 6) ∧ ∀ s, (dwi D s).length ≤ 24
def nn (D : Dyn) : Nat := (dou D).length + (dla D).length
/-- the joins among the first n streams -/
def jc (C : Cfg) : Nat → Nat
  | 0 => 0
  | n + 1 => jc C n + (if ckd C n = 4 then 1 else 0)
theorem jc_mono {C : Cfg} {a : Nat} : ∀ b, a ≤ b → jc C a ≤ jc C b
  | 0, h => by rw [show a = 0 by omega]; exact Nat.le_refl _
  | b + 1, h => by
    by_cases e : a = b + 1
    · rw [e]; exact Nat.le_refl _
    · have := jc_mono (C := C) (a := a) b (by omega)
      rw [jc]; omega
theorem Rm.wi {D : Dyn} {s : Nat} {l : List Ent} (h : Rm D) (hl : l.length ≤ 24) : Rm (xwi D s l) := by
  refine ⟨h.1, fun q => ?_⟩
  simp only [dg]
  split
  · exact hl
  · exact h.2 q
theorem Rm.ke {D : Dyn} {s k : Nat} {l : List Ent} (h : Rm D) (hl : l.length ≤ 6) : Rm (xke D s k l) := by
  refine ⟨fun q j => ?_, h.2⟩
  simp only [dg]
  split
  · split
    · exact hl
    · exact h.1 q j
  · exact h.1 q j
theorem add_len {l r : List Ent} {b : Int64} {k w : Int32} (h : a_add l b k w = some r) (hl : l.length ≤ 24) : r.length ≤ 24 := by
  have ht := tw_dw (a_ahead b k) l
  have hlen : (l.takeWhile (a_ahead b k)).length + (l.dropWhile (a_ahead b k)).length = l.length := by
    rw [← List.length_append, ht]
  unfold a_add at h
  split at h
  · split at h
    · cases h
    · rename_i hd z
      rw [hd] at hlen
      cases h
      simp at hlen ⊢
      omega
  · rename_i x t hd
    rw [hd] at hlen
    simp at hlen
    split at h
    · cases h
      simp; omega
    · split at h
      · cases h
      · cases h
        simp; omega
theorem Rm.put1 {D : Dyn} {s : Nat} {k w : Int32} {b : Int64} (h : Rm D) : Rm (a_put1 D s k w b) ∧ nn (a_put1 D s k w b) = nn D := by
  unfold a_put1
  cases e : a_add (dwi D s) b k w with
  | none => exact ⟨h, rfl⟩
  | some l => exact ⟨h.wi (add_len e (h.2 s)), rfl⟩
theorem Rm.puts {s : Nat} {k w : Int32} (l : List Int64) : ∀ D, Rm D → Rm (l.foldl (fun D b => a_put1 D s k w b) D) ∧ nn (l.foldl (fun D b => a_put1 D s k w b) D) = nn D := by
  induction l with
  | nil => intro D h; exact ⟨h, rfl⟩
  | cons b l ih =>
    intro D h
    rw [List.foldl_cons]
    have h1 := h.put1 (s := s) (k := k) (w := w) (b := b)
    have h2 := ih _ h1.1
    exact ⟨h2.1, h2.2.trans h1.2⟩
theorem Rm.keep {D : Dyn} {s side : Nat} {e : Ent} (h : Rm D) : Rm (a_keep D s side e) ∧ nn (a_keep D s side e) = nn D := by
  have h6 := h.1 s side
  unfold a_keep
  split
  · have h1 : Rm (xke D s side ((dke D s side).drop 1 ++ [e])) := h.ke (by simp; omega)
    exact ⟨h1, rfl⟩
  · exact ⟨h.ke (by simp; omega), rfl⟩
theorem Rm.meetL {C : Cfg} {P : Dyn → Nat → Int64 → Int32 → Int32 → Dyn} {to side N : Nat} {t : Int64} {k w : Int32} (hP : ∀ D t k w, Rm D → Rm (P D to t k w) ∧ nn (P D to t k w) ≤ nn D + N) (l : List Ent) : ∀ D, Rm D → Rm (a_meetL C P to side t k w l D) ∧ nn (a_meetL C P to side t k w l D) ≤ nn D + l.length * N := by
  induction l with
  | nil => intro D h; exact ⟨h, by simp [a_meetL]⟩
  | cons e l ih =>
    intro D h
    unfold a_meetL at ih ⊢
    rw [List.foldl_cons]
    by_cases c : a_meets C to side t k e = true
    · rw [if_pos c]
      have h1 := hP D (maxF t e.1) k (w * e.2.2) h
      have h2 := ih _ h1.1
      refine ⟨h2.1, ?_⟩
      rw [List.length_cons, Nat.add_mul, Nat.one_mul]
      omega
    · rw [if_neg c]
      have h2 := ih D h
      refine ⟨h2.1, ?_⟩
      rw [List.length_cons, Nat.add_mul, Nat.one_mul]
      omega
theorem pow_le6 {a b : Nat} (h : a ≤ b) : 6 ^ a ≤ 6 ^ b := Nat.pow_le_pow_right (by omega) h
theorem pass_nn {C : Cfg} (hC : WT C) : ∀ (d : Nat) (D : Dyn) (s : Nat) (t : Int64) (k w : Int32), Rm D → Rm (a_pass C d D s t k w) ∧ nn (a_pass C d D s t k w) ≤ nn D + 6 ^ (jc C (cn C) - jc C (s + 1)) := by
  intro d
  induction d with
  | zero => intro D s t k w h; exact ⟨h, Nat.le_add_right _ _⟩
  | succ d ih =>
    intro D s t k w h
    have h1 : 1 ≤ 6 ^ (jc C (cn C) - jc C (s + 1)) := Nat.pow_pos (by omega)
    rw [a_pass]
    cases hto : ctk C s with
    | none =>
      refine ⟨h, ?_⟩
      simp [nn, a_out, dg]; omega
    | some to =>
      obtain ⟨t1, t2⟩ := hC s to hto
      dsimp only
      have mono : jc C (s + 1) ≤ jc C to := jc_mono to (by omega)
      have mono2 : jc C to ≤ jc C (to + 1) := jc_mono (to + 1) (by omega)
      split
      · refine ⟨h, ?_⟩
        simp [nn, a_late, dg]; omega
      · split
        · rename_i k4
          have e4 : jc C (to + 1) = jc C to + 1 := by rw [jc, if_pos k4]
          have mono3 : jc C (to + 1) ≤ jc C (cn C) := jc_mono (cn C) (by omega)
          have hm := Rm.meetL (C := C) (P := a_pass C d) (to := to) (side := a_sd C to s) (t := t) (k := k) (w := w) (N := 6 ^ (jc C (cn C) - jc C (to + 1))) (fun D t k w h => ih D to t k w h) (dke D to (1 - a_sd C to s)) D h
          have hl := h.1 to (1 - a_sd C to s)
          have e5 : 6 * 6 ^ (jc C (cn C) - jc C (to + 1)) ≤ 6 ^ (jc C (cn C) - jc C (s + 1)) := by
            rw [← Nat.pow_succ']
            exact pow_le6 (by omega)
          have e6 : (dke D to (1 - a_sd C to s)).length * 6 ^ (jc C (cn C) - jc C (to + 1)) ≤ 6 * 6 ^ (jc C (cn C) - jc C (to + 1)) := Nat.mul_le_mul_right _ hl
          unfold a_come
          split
          · exact ⟨hm.1, by omega⟩
          · have := hm.1.keep (s := to) (side := a_sd C to s) (e := (t, k, w))
            exact ⟨this.1, by omega⟩
        · split
          · have := Rm.puts (s := to) (k := k) (w := w) (a_begs t (co1 C to) (co2 C to)) D h
            exact ⟨this.1, by unfold a_put; omega⟩
          · have := ih D to (a_tm C t to) k w h
            have e5 : 6 ^ (jc C (cn C) - jc C (to + 1)) ≤ 6 ^ (jc C (cn C) - jc C (s + 1)) := pow_le6 (by omega)
            exact ⟨this.1, by omega⟩
