/-! what passing on keeps: sums in order, times in bounds -/
def HT (t : Int64) : Prop := -8000000000000000000 ≤ t.toInt ∧ t.toInt ≤ 8000000000000000000
def BW (t : Int64) : Prop := -8100000000000000000 ≤ t.toInt ∧ t.toInt ≤ 8000000000000000000
def Inv (D : Dyn) : Prop := (∀ s, SrtW (dwi D s)) ∧ (∀ s k e, e ∈ dke D s k → HT e.1) ∧ ∀ s e, e ∈ dwi D s → BW e.1
theorem plus_HT {t n : Int64} (h : HT t) : HT (plusF t n) := by
  unfold plusF
  have e1 : (-9000000000000000000 : Int64).toInt = -9000000000000000000 := by decide
  have e2 : (9000000000000000000 : Int64).toInt = 9000000000000000000 := by decide
  have e3 : (8000000000000000000 : Int64).toInt = 8000000000000000000 := by decide
  have e4 : (-8000000000000000000 : Int64).toInt = -8000000000000000000 := by decide
  by_cases a : t = -9000000000000000000
  · have := h.1; rw [a, e1] at this; omega
  by_cases b : t = 9000000000000000000
  · have := h.2; rw [b, e2] at this; omega
  rw [if_neg a, if_neg b]
  by_cases c : t + n ≤ 8000000000000000000
  · rw [if_pos c]
    by_cases d : -8000000000000000000 ≤ t + n
    · rw [if_pos d]
      have c' := Int64.le_iff_toInt_le.mp c
      have d' := Int64.le_iff_toInt_le.mp d
      exact ⟨by omega, by omega⟩
    · rw [if_neg d]; exact ⟨by rw [e4]; omega, by rw [e4]; omega⟩
  · rw [if_neg c]; exact ⟨by rw [e3]; omega, by rw [e3]; omega⟩
theorem max_HT {a b : Int64} (ha : HT a) (hb : HT b) : HT (maxF a b) := by
  unfold maxF
  split
  · exact ha
  · exact hb
theorem add_srt {l L : List Ent} {b : Int64} {k w : Int32} (hs : SrtW l) (h : a_add l b k w = some L) : SrtW L := by
  by_cases c : ∃ x ∈ l, x.1 = b ∧ x.2.1 = k
  · obtain ⟨x, hx, hm⟩ := c
    obtain ⟨A, B, rfl⟩ := List.append_of_mem hx
    rw [add_found hs hm] at h
    cases h
    exact srt_found hs hm.1.symm hm.2.symm
  · have hn : ∀ e ∈ l, ¬ (e.1 = b ∧ e.2.1 = k) := fun e he hm => c ⟨e, he, hm⟩
    rw [add_new hn] at h
    by_cases g : 24 ≤ l.length
    · rw [if_pos g] at h; cases h
    · rw [if_neg g] at h
      cases h
      exact srt_new hs hn
theorem add_mem {l L : List Ent} {b : Int64} {k w : Int32} (h : a_add l b k w = some L) : ∀ e ∈ L, e.1 = b ∨ ∃ x ∈ l, e = x := by
  have hl := tw_dw (a_ahead b k) l
  unfold a_add at h
  split at h
  · rename_i hd
    rw [hd, List.append_nil] at hl
    split at h
    · cases h
    · cases h
      intro e he
      rw [hl] at he
      rcases List.mem_append.mp he with he | he
      · exact Or.inr ⟨e, he, rfl⟩
      · rw [List.mem_singleton.mp he]; exact Or.inl rfl
  · rename_i x r hd
    rw [hd] at hl
    have mem : ∀ e, e ∈ l.takeWhile (a_ahead b k) ∨ e ∈ x :: r → e ∈ l := fun e he => by
      rw [← hl]; exact List.mem_append.mpr he
    split at h
    · cases h
      intro e he
      rcases List.mem_append.mp he with he | he
      · exact Or.inr ⟨e, mem e (Or.inl he), rfl⟩
      · rcases List.mem_cons.mp he with rfl | he
        · exact Or.inl rfl
        · exact Or.inr ⟨e, mem e (Or.inr (by simp [he])), rfl⟩
    · split at h
      · cases h
      · cases h
        intro e he
        rcases List.mem_append.mp he with he | he
        · exact Or.inr ⟨e, mem e (Or.inl he), rfl⟩
        · rcases List.mem_cons.mp he with rfl | he
          · exact Or.inl rfl
          · exact Or.inr ⟨e, mem e (Or.inr he), rfl⟩
theorem inv_wi {D : Dyn} {s : Nat} {l : List Ent} (h : Inv D) (hl : SrtW l) (hb : ∀ e ∈ l, BW e.1) : Inv (xwi D s l) := by
  refine ⟨fun q => ?_, h.2.1, fun q e he => ?_⟩
  · simp only [dg]
    by_cases a : q = s
    · rw [if_pos a]; exact hl
    · rw [if_neg a]; exact h.1 q
  · simp only [dg] at he
    by_cases a : q = s
    · rw [if_pos a] at he; exact hb e he
    · rw [if_neg a] at he; exact h.2.2 q e he
theorem inv_ke {D : Dyn} {s k : Nat} {l : List Ent} (h : Inv D) (hl : ∀ e ∈ l, HT e.1) : Inv (xke D s k l) := by
  refine ⟨h.1, fun q j e he => ?_, h.2.2⟩
  simp only [dg] at he
  by_cases a : q = s
  · rw [if_pos a] at he
    by_cases b : j = k
    · rw [if_pos b] at he; exact hl e he
    · rw [if_neg b] at he; exact h.2.1 q j e he
  · rw [if_neg a] at he; exact h.2.1 q j e he
theorem inv_lo {D : Dyn} {v : Int32} (h : Inv D) : Inv (xlo D v) := h
theorem inv_out {D : Dyn} {r : Row} (h : Inv D) : Inv (a_out D r) := h
theorem inv_late {D : Dyn} {r : Row} (h : Inv D) : Inv (a_late D r) := h
theorem inv_put1 {D : Dyn} {s : Nat} {k w : Int32} {b : Int64} (h : Inv D) (hb : BW b) : Inv (a_put1 D s k w b) := by
  unfold a_put1
  cases e : a_add (dwi D s) b k w with
  | none => exact h
  | some l =>
    refine inv_wi h (add_srt (h.1 s) e) (fun x hx => ?_)
    rcases add_mem e x hx with hx | ⟨y, hy, rfl⟩
    · rw [hx]; exact hb
    · exact h.2.2 s x hy
theorem inv_fold {α : Type} {f : Dyn → α → Dyn} : ∀ (l : List α) (D : Dyn), (∀ D a, a ∈ l → Inv D → Inv (f D a)) → Inv D → Inv (l.foldl f D)
  | [], D, _, h => h
  | a :: l, D, hf, h => inv_fold l (f D a) (fun D b hb => hf D b (by simp [hb])) (hf D a (by simp) h)
theorem begL_mem {t step : Int64} : ∀ (J : Nat) (b : Int64), b ∈ begL t step J → ∃ j, j ≤ J ∧ b = bj t step j
  | 0, b, h => ⟨0, Nat.le_refl 0, by simpa [begL] using h⟩
  | J + 1, b, h => by
    rcases List.mem_cons.mp h with rfl | h
    · exact ⟨J + 1, Nat.le_refl _, rfl⟩
    · obtain ⟨j, hj, e⟩ := begL_mem J b h
      exact ⟨j, by omega, e⟩
theorem begs_BW {t size step : Int64} (hw : HWn t size step) {b : Int64} (hb : b ∈ a_begs t size step) : BW b := by
  obtain ⟨J, hJ, e, -⟩ := begs_eq hw
  rw [e] at hb
  obtain ⟨j, hj, rfl⟩ := begL_mem J b hb
  have h1 := bj_int hw (show j ≤ 4 by omega)
  have hf := fd_spec (t := t) hw.1 (by have := hw.2; omega) hw.2.2.2.2.1 hw.2.2.2.2.2
  obtain ⟨w1, w2, w3, w4, w5, w6⟩ := hw
  generalize (fdF t step * step).toInt = L at h1 hf
  unfold BW
  rw [h1]
  rcases (show j = 0 ∨ j = 1 ∨ j = 2 ∨ j = 3 by omega) with rfl | rfl | rfl | rfl <;> simp <;> omega
theorem inv_put {C : Cfg} {D : Dyn} {s : Nat} {t : Int64} {k w : Int32} (hW : WC C) (hs : s < cn C) (hk : ckd C s = 5) (h : Inv D) (ht : HT t) : Inv (a_put C D s t k w) := by
  obtain ⟨w1, w2, w3, w4⟩ := (hW.2.2.2 s hs).2.2.2.2.2.2.2.2.2.1 hk
  exact inv_fold _ D (fun D b hb h => inv_put1 h (begs_BW ⟨w1, w2, w3, w4, ht.1, ht.2⟩ hb)) h
theorem inv_keep {D : Dyn} {s side : Nat} {e : Ent} (h : Inv D) (he : HT e.1) : Inv (a_keep D s side e) := by
  unfold a_keep
  split
  · refine inv_lo (inv_ke h (fun x hx => ?_))
    rcases List.mem_append.mp hx with hx | hx
    · exact h.2.1 s side x (List.mem_of_mem_drop hx)
    · rw [List.mem_singleton.mp hx]; exact he
  · refine inv_ke h (fun x hx => ?_)
    rcases List.mem_append.mp hx with hx | hx
    · exact h.2.1 s side x hx
    · rw [List.mem_singleton.mp hx]; exact he
theorem inv_meetL {C : Cfg} {P : Dyn → Nat → Int64 → Int32 → Int32 → Dyn} {to side : Nat} {t : Int64} {k w : Int32} (ht : HT t) (hP : ∀ D t k w, Inv D → HT t → Inv (P D to t k w)) (l : List Ent) (hl : ∀ e ∈ l, HT e.1) (D : Dyn) (h : Inv D) : Inv (a_meetL C P to side t k w l D) := by
  unfold a_meetL
  refine inv_fold l D (fun D e he h => ?_) h
  by_cases c : a_meets C to side t k e = true
  · rw [if_pos c]; exact hP D _ _ _ h (max_HT ht (hl e he))
  · rw [if_neg c]; exact h
theorem inv_pass {C : Cfg} (hW : WC C) : ∀ (d : Nat) (D : Dyn) (s : Nat) (t : Int64) (k w : Int32), Inv D → HT t → Inv (a_pass C d D s t k w) := by
  intro d
  induction d with
  | zero => intro D s t k w h _; exact h
  | succ d ih =>
    intro D s t k w h ht
    rw [a_pass]
    cases hto : ctk C s with
    | none => exact h
    | some to =>
      have ht2 : HT (a_tm C t to) := by
        unfold a_tm
        split
        · exact plus_HT ht
        · exact ht
      have hm : Inv (a_meetL C (a_pass C d) to (a_sd C to s) t k w (dke D to (1 - a_sd C to s)) D) := inv_meetL ht (fun D t k w h ht => ih D to t k w h ht) _ (fun e he => h.2.1 _ _ e he) D h
      dsimp only
      split
      · exact h
      · split
        · unfold a_come
          by_cases c : a_far C D to (a_sd C to s) t = true
          · rw [if_pos c]; exact hm
          · rw [if_neg c]; exact inv_keep hm ht
        · split
          · rename_i e5
            exact inv_put hW (hW.2.1 s to hto).2 e5 h ht
          · exact ih D to _ k w h ht2
