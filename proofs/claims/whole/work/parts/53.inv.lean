/-! what passing on keeps: sums in order, times in bounds -/
def HT (t : Int64) : Prop := -8000000000000000000 ≤ t.toInt ∧ t.toInt ≤ 8000000000000000000
def Inv (D : Dyn) : Prop := (∀ s, SrtW (dwi D s)) ∧ ∀ s k e, e ∈ dke D s k → HT e.1
theorem plus_HT {t n : Int64} (h : HT t) : HT (plusF t n) := by
  unfold plusF
  have e1 : (-9000000000000000000 : Int64).toInt = -9000000000000000000 := by decide
  have e2 : (9000000000000000000 : Int64).toInt = 9000000000000000000 := by decide
  have e3 : (8000000000000000000 : Int64).toInt = 8000000000000000000 := by decide
  have e4 : (-8000000000000000000 : Int64).toInt = -8000000000000000000 := by decide
  by_cases a : t = -9000000000000000000
  · have := h.1; rw [a, e1] at this; omega
  by_cases b : t = 9000000000000000000
  · have := h.2; rw [b, e2] at this; omega
  rw [if_neg a, if_neg b]
  by_cases c : t + n ≤ 8000000000000000000
  · rw [if_pos c]
    by_cases d : -8000000000000000000 ≤ t + n
    · rw [if_pos d]
      have c' := Int64.le_iff_toInt_le.mp c
      have d' := Int64.le_iff_toInt_le.mp d
      exact ⟨by omega, by omega⟩
    · rw [if_neg d]; exact ⟨by rw [e4]; omega, by rw [e4]; omega⟩
  · rw [if_neg c]; exact ⟨by rw [e3]; omega, by rw [e3]; omega⟩
theorem max_HT {a b : Int64} (ha : HT a) (hb : HT b) : HT (maxF a b) := by
  unfold maxF
  split
  · exact ha
  · exact hb
theorem add_srt {l L : List Ent} {b : Int64} {k w : Int32} (hs : SrtW l) (h : a_add l b k w = some L) : SrtW L := by
  by_cases c : ∃ x ∈ l, x.1 = b ∧ x.2.1 = k
  · obtain ⟨x, hx, hm⟩ := c
    obtain ⟨A, B, rfl⟩ := List.append_of_mem hx
    rw [add_found hs hm] at h
    cases h
    exact srt_found hs hm.1.symm hm.2.symm
  · have hn : ∀ e ∈ l, ¬ (e.1 = b ∧ e.2.1 = k) := fun e he hm => c ⟨e, he, hm⟩
    rw [add_new hn] at h
    by_cases g : 24 ≤ l.length
    · rw [if_pos g] at h; cases h
    · rw [if_neg g] at h
      cases h
      exact srt_new hs hn
theorem inv_wi {D : Dyn} {s : Nat} {l : List Ent} (h : Inv D) (hl : SrtW l) : Inv (xwi D s l) := by
  refine ⟨fun q => ?_, h.2⟩
  simp only [dg]
  by_cases a : q = s
  · rw [if_pos a]; exact hl
  · rw [if_neg a]; exact h.1 q
theorem inv_ke {D : Dyn} {s k : Nat} {l : List Ent} (h : Inv D) (hl : ∀ e ∈ l, HT e.1) : Inv (xke D s k l) := by
  refine ⟨h.1, fun q j e he => ?_⟩
  simp only [dg] at he
  by_cases a : q = s
  · rw [if_pos a] at he
    by_cases b : j = k
    · rw [if_pos b] at he; exact hl e he
    · rw [if_neg b] at he; exact h.2 q j e he
  · rw [if_neg a] at he; exact h.2 q j e he
theorem inv_lo {D : Dyn} {v : Int32} (h : Inv D) : Inv (xlo D v) := h
theorem inv_out {D : Dyn} {r : Row} (h : Inv D) : Inv (a_out D r) := h
theorem inv_late {D : Dyn} {r : Row} (h : Inv D) : Inv (a_late D r) := h
theorem inv_put1 {D : Dyn} {s : Nat} {k w : Int32} {b : Int64} (h : Inv D) : Inv (a_put1 D s k w b) := by
  unfold a_put1
  cases e : a_add (dwi D s) b k w with
  | none => exact h
  | some l => exact inv_wi h (add_srt (h.1 s) e)
theorem inv_fold {α : Type} {f : Dyn → α → Dyn} : ∀ (l : List α) (D : Dyn), (∀ D a, a ∈ l → Inv D → Inv (f D a)) → Inv D → Inv (l.foldl f D)
  | [], D, _, h => h
  | a :: l, D, hf, h => inv_fold l (f D a) (fun D b hb => hf D b (by simp [hb])) (hf D a (by simp) h)
theorem inv_put {C : Cfg} {D : Dyn} {s : Nat} {t : Int64} {k w : Int32} (h : Inv D) : Inv (a_put C D s t k w) := inv_fold _ D (fun D b _ h => inv_put1 h) h
theorem inv_keep {D : Dyn} {s side : Nat} {e : Ent} (h : Inv D) (he : HT e.1) : Inv (a_keep D s side e) := by
  unfold a_keep
  split
  · refine inv_lo (inv_ke h (fun x hx => ?_))
    rcases List.mem_append.mp hx with hx | hx
    · exact h.2 s side x (List.mem_of_mem_drop hx)
    · rw [List.mem_singleton.mp hx]; exact he
  · refine inv_ke h (fun x hx => ?_)
    rcases List.mem_append.mp hx with hx | hx
    · exact h.2 s side x hx
    · rw [List.mem_singleton.mp hx]; exact he
theorem inv_meetL {C : Cfg} {P : Dyn → Nat → Int64 → Int32 → Int32 → Dyn} {to side : Nat} {t : Int64} {k w : Int32} (ht : HT t) (hP : ∀ D t k w, Inv D → HT t → Inv (P D to t k w)) (l : List Ent) (hl : ∀ e ∈ l, HT e.1) (D : Dyn) (h : Inv D) : Inv (a_meetL C P to side t k w l D) := by
  unfold a_meetL
  refine inv_fold l D (fun D e he h => ?_) h
  by_cases c : a_meets C to side t k e = true
  · rw [if_pos c]; exact hP D _ _ _ h (max_HT ht (hl e he))
  · rw [if_neg c]; exact h
theorem inv_pass {C : Cfg} : ∀ (d : Nat) (D : Dyn) (s : Nat) (t : Int64) (k w : Int32), Inv D → HT t → Inv (a_pass C d D s t k w) := by
  intro d
  induction d with
  | zero => intro D s t k w h _; exact h
  | succ d ih =>
    intro D s t k w h ht
    rw [a_pass]
    cases hto : ctk C s with
    | none => exact h
    | some to =>
      have ht2 : HT (a_tm C t to) := by
        unfold a_tm
        split
        · exact plus_HT ht
        · exact ht
      have hm : Inv (a_meetL C (a_pass C d) to (a_sd C to s) t k w (dke D to (1 - a_sd C to s)) D) := inv_meetL ht (fun D t k w h ht => ih D to t k w h ht) _ (fun e he => h.2 _ _ e he) D h
      dsimp only
      split
      · exact h
      · split
        · unfold a_come
          by_cases c : a_far C D to (a_sd C to s) t = true
          · rw [if_pos c]; exact hm
          · rw [if_neg c]; exact inv_keep hm ht
        · split
          · exact inv_put h
          · exact ih D to _ k w h ht2
