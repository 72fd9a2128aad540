/-! the open sums of a window, as a list in order and as a list in any order -/
def SrtW (l : List Ent) : Prop := l.Pairwise (fun x y => a_ahead y.1 y.2.1 x = true)
theorem ahead_iff {b : Int64} {k : Int32} {e : Ent} : a_ahead b k e = true ↔ e.1.toInt < b.toInt ∨ (e.1.toInt = b.toInt ∧ e.2.1.toInt < k.toInt) := by
  simp only [a_ahead, Bool.or_eq_true, Bool.and_eq_true, decide_eq_true_eq, Int64.lt_iff_toInt_lt, Int32.lt_iff_toInt_lt, ← Int64.toInt_inj]
theorem match_iff {b : Int64} {k : Int32} {e : Ent} : (e.1 = b ∧ e.2.1 = k) ↔ (e.1.toInt = b.toInt ∧ e.2.1.toInt = k.toInt) := by
  rw [Int64.toInt_inj, Int32.toInt_inj]
theorem tw_all {p : Ent → Bool} {l1 l2 : List Ent} {x : Ent} (h1 : ∀ e ∈ l1, p e = true) (h2 : p x = false) : (l1 ++ x :: l2).takeWhile p = l1 ∧ (l1 ++ x :: l2).dropWhile p = x :: l2 := by
  induction l1 with
  | nil => simp [h2]
  | cons a l ih =>
    have ha := h1 a (by simp)
    have := ih (fun e he => h1 e (by simp [he]))
    simp [ha, this]
theorem add_found {l1 l2 : List Ent} {x : Ent} {b : Int64} {k w : Int32} (hs : SrtW (l1 ++ x :: l2)) (hx : x.1 = b ∧ x.2.1 = k) : a_add (l1 ++ x :: l2) b k w = some (l1 ++ (b, k, x.2.2 + w) :: l2) := by
  have h1 : ∀ e ∈ l1, a_ahead b k e = true := fun e he => by
    have := (List.pairwise_append.mp hs).2.2 e he x (by simp)
    rw [hx.1, hx.2] at this
    exact this
  have h2 : a_ahead b k x = false := by
    rw [Bool.eq_false_iff]
    intro q
    rw [ahead_iff, hx.1, hx.2] at q
    omega
  obtain ⟨g1, g2⟩ := tw_all (l2 := l2) h1 h2
  unfold a_add
  rw [g1, g2]
  simp [hx]
theorem tw_dw (p : Ent → Bool) (l : List Ent) : l.takeWhile p ++ l.dropWhile p = l := List.takeWhile_append_dropWhile
theorem dw_head {p : Ent → Bool} : ∀ {l : List Ent} {x : Ent} {r : List Ent}, l.dropWhile p = x :: r → p x = false
  | [], x, r, h => by simp at h
  | a :: l, x, r, h => by
    by_cases ha : p a = true
    · rw [List.dropWhile_cons_of_pos ha] at h
      exact dw_head h
    · rw [List.dropWhile_cons_of_neg ha] at h
      cases h
      simpa using ha
theorem tw_mem {p : Ent → Bool} : ∀ {l : List Ent} {x : Ent}, x ∈ l.takeWhile p → p x = true
  | [], x, h => by simp at h
  | a :: l, x, h => by
    by_cases ha : p a = true
    · rw [List.takeWhile_cons_of_pos ha] at h
      rcases List.mem_cons.mp h with rfl | h
      · exact ha
      · exact tw_mem h
    · rw [List.takeWhile_cons_of_neg ha] at h
      simp at h
theorem add_new {l : List Ent} {b : Int64} {k w : Int32} (hn : ∀ e ∈ l, ¬ (e.1 = b ∧ e.2.1 = k)) : a_add l b k w = if 24 ≤ l.length then none else some (l.takeWhile (a_ahead b k) ++ (b, k, w) :: l.dropWhile (a_ahead b k)) := by
  unfold a_add
  split
  · rename_i e; rw [e]
  · rename_i x r e
    have hx : x ∈ l := by
      rw [← tw_dw (a_ahead b k) l, e]
      simp
    rw [if_neg (hn x hx), e]
theorem srt_new {l : List Ent} {b : Int64} {k w : Int32} (hs : SrtW l) (hn : ∀ e ∈ l, ¬ (e.1 = b ∧ e.2.1 = k)) : SrtW (l.takeWhile (a_ahead b k) ++ (b, k, w) :: l.dropWhile (a_ahead b k)) := by
  have hs2 : SrtW (l.takeWhile (a_ahead b k) ++ l.dropWhile (a_ahead b k)) := by rw [tw_dw]; exact hs
  obtain ⟨p1, p2, p3⟩ := List.pairwise_append.mp hs2
  have hd : ∀ y ∈ l.dropWhile (a_ahead b k), a_ahead y.1 y.2.1 (b, k, w) = true := by
    intro y hy
    cases hdw : l.dropWhile (a_ahead b k) with
    | nil => rw [hdw] at hy; simp at hy
    | cons x r =>
      have hx := dw_head hdw
      have hxl : x ∈ l := by rw [← tw_dw (a_ahead b k) l, hdw]; simp
      have hnx := hn x hxl
      rw [match_iff] at hnx
      rw [Bool.eq_false_iff, ne_eq, ahead_iff] at hx
      rw [hdw] at hy p2
      have key : b.toInt < x.1.toInt ∨ (b.toInt = x.1.toInt ∧ k.toInt < x.2.1.toInt) := by omega
      rcases List.mem_cons.mp hy with rfl | hy
      · rw [ahead_iff]; exact key
      · have := (List.pairwise_cons.mp p2).1 y hy
        rw [ahead_iff] at this ⊢
        show b.toInt < y.1.toInt ∨ (b.toInt = y.1.toInt ∧ k.toInt < y.2.1.toInt)
        omega
  refine List.pairwise_append.mpr ⟨p1, List.pairwise_cons.mpr ⟨hd, p2⟩, fun x hx y hy => ?_⟩
  rcases List.mem_cons.mp hy with rfl | hy
  · exact tw_mem hx
  · exact p3 x hx y hy
theorem srt_found {l1 l2 : List Ent} {x y : Ent} (hs : SrtW (l1 ++ x :: l2)) (h1 : y.1 = x.1) (h2 : y.2.1 = x.2.1) : SrtW (l1 ++ y :: l2) := by
  obtain ⟨p1, p2, p3⟩ := List.pairwise_append.mp hs
  obtain ⟨p4, p5⟩ := List.pairwise_cons.mp p2
  have e : ∀ z : Ent, a_ahead z.1 z.2.1 y = a_ahead z.1 z.2.1 x := fun z => by simp only [a_ahead, h1, h2]
  refine List.pairwise_append.mpr ⟨p1, List.pairwise_cons.mpr ⟨fun z hz => by rw [e]; exact p4 z hz, p5⟩, fun u hu z hz => ?_⟩
  rcases List.mem_cons.mp hz with rfl | hz
  · rw [h1, h2]; exact p3 u hu x (by simp)
  · exact p3 u hu z (by simp [hz])
/-- the same in a list of any order: the sum is found -/
theorem perm_found {L l1 l2 : List Ent} {x : Ent} {b : Int64} {k w : Int32} (hs : SrtW L) (hp : (l1 ++ x :: l2).Perm L) (hx : x.1 = b ∧ x.2.1 = k) : ∃ L1, a_add L b k w = some L1 ∧ (l1 ++ (b, k, x.2.2 + w) :: l2).Perm L1 ∧ SrtW L1 ∧ L1.length = L.length := by
  have hm : x ∈ L := hp.mem_iff.mp (by simp)
  obtain ⟨A, B, rfl⟩ := List.append_of_mem hm
  refine ⟨_, add_found hs hx, ?_, srt_found hs hx.1.symm hx.2.symm, by simp⟩
  have q1 : (l1 ++ l2).Perm (A ++ B) := ((List.perm_middle.symm.trans hp).trans List.perm_middle).cons_inv
  exact (List.perm_middle.trans (q1.cons _)).trans List.perm_middle.symm
theorem perm_new {L l : List Ent} {b : Int64} {k w : Int32} (hs : SrtW L) (hp : l.Perm L) (hn : ∀ e ∈ l, ¬ (e.1 = b ∧ e.2.1 = k)) (h24 : l.length < 24) : ∃ L1, a_add L b k w = some L1 ∧ (l ++ [(b, k, w)]).Perm L1 ∧ SrtW L1 ∧ L1.length = L.length + 1 := by
  have hn2 : ∀ e ∈ L, ¬ (e.1 = b ∧ e.2.1 = k) := fun e he => hn e (hp.mem_iff.mpr he)
  refine ⟨_, (add_new hn2).trans (if_neg (by rw [← hp.length_eq]; omega)), ?_, srt_new hs hn2, ?_⟩
  · refine (List.perm_append_comm (l₁ := l) (l₂ := [(b, k, w)])).trans ?_
    refine List.Perm.trans ?_ List.perm_middle.symm
    rw [tw_dw]
    exact hp.cons _
  · have := congrArg List.length (tw_dw (a_ahead b k) L)
    simp only [List.length_append, List.length_cons] at this ⊢
    omega
theorem perm_full {L l : List Ent} {b : Int64} {k w : Int32} (hp : l.Perm L) (hn : ∀ e ∈ l, ¬ (e.1 = b ∧ e.2.1 = k)) (h24 : l.length = 24) : a_add L b k w = none := by
  rw [add_new (fun e he => hn e (hp.mem_iff.mpr he)), if_pos (by rw [← hp.length_eq]; omega)]
