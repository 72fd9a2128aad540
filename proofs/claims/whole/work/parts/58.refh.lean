/-! the reference: the first sum that can be closed is closed -/
theorem plus_mono {x y n : Int64} (hx : BW x) (hy : BW y) (h : x.toInt ≤ y.toInt) (h0 : 0 ≤ n.toInt) (h1 : n.toInt ≤ 1000000) : (plusF x n).toInt ≤ (plusF y n).toInt := by
  obtain ⟨x1, x2⟩ := hx
  obtain ⟨y1, y2⟩ := hy
  have e1 : (-9000000000000000000 : Int64).toInt = -9000000000000000000 := by decide
  have e2 : (9000000000000000000 : Int64).toInt = 9000000000000000000 := by decide
  have e3 : (8000000000000000000 : Int64).toInt = 8000000000000000000 := by decide
  have e4 : (-8000000000000000000 : Int64).toInt = -8000000000000000000 := by decide
  have a1 : ∀ z : Int64, BW z → ¬ z = -9000000000000000000 ∧ ¬ z = 9000000000000000000 := fun z hz => ⟨fun e => by rw [e] at hz; unfold BW at hz; omega, fun e => by rw [e] at hz; unfold BW at hz; omega⟩
  have s1 : (x + n).toInt = x.toInt + n.toInt := j_add (by omega) (by omega)
  have s2 : (y + n).toInt = y.toInt + n.toInt := j_add (by omega) (by omega)
  unfold plusF
  rw [if_neg (a1 x ⟨x1, x2⟩).1, if_neg (a1 x ⟨x1, x2⟩).2, if_neg (a1 y ⟨y1, y2⟩).1, if_neg (a1 y ⟨y1, y2⟩).2]
  simp only [Int64.le_iff_toInt_le, s1, s2, e3, e4]
  repeat' split
  all_goals omega
theorem plus_BW {t n : Int64} (h : BW t) : HT (plusF t n) := by
  obtain ⟨x1, x2⟩ := h
  unfold plusF
  have e1 : (-9000000000000000000 : Int64).toInt = -9000000000000000000 := by decide
  have e2 : (9000000000000000000 : Int64).toInt = 9000000000000000000 := by decide
  have e3 : (8000000000000000000 : Int64).toInt = 8000000000000000000 := by decide
  have e4 : (-8000000000000000000 : Int64).toInt = -8000000000000000000 := by decide
  rw [if_neg (fun e => by rw [e] at x1; omega), if_neg (fun e => by rw [e] at x2; omega)]
  unfold HT
  by_cases c : t + n ≤ 8000000000000000000
  · rw [if_pos c]
    by_cases d : -8000000000000000000 ≤ t + n
    · rw [if_pos d]
      have c' := Int64.le_iff_toInt_le.mp c
      have d' := Int64.le_iff_toInt_le.mp d
      omega
    · rw [if_neg d]; omega
  · rw [if_neg c]; omega
theorem KD_of {L l : List Ent} (hs : SrtW L) (hp : l.Perm L) : KD l := by
  have h1 : L.Pairwise (fun x y => ¬ (x.1 = y.1 ∧ x.2.1 = y.2.1)) := List.Pairwise.imp (fun {a b} h q => by
    rw [ahead_iff, q.1, q.2] at h
    omega) hs
  have h2 : l.Pairwise (fun x y => ¬ (x.1 = y.1 ∧ x.2.1 = y.2.1)) := (hp.pairwise_iff (fun {a b} h q => h ⟨q.1.symm, q.2.symm⟩)).mpr h1
  have h3 : ∀ (i j : Nat) (e e' : Ent), i < j → l[i]? = some e → l[j]? = some e' → ¬ (e.1 = e'.1 ∧ e.2.1 = e'.2.1) := fun i j e e' hij hi hj => by
    obtain ⟨a1, a2⟩ := List.getElem?_eq_some_iff.mp hi
    obtain ⟨b1, b2⟩ := List.getElem?_eq_some_iff.mp hj
    have := List.pairwise_iff_getElem.mp h2 i j a1 b1 hij
    rw [a2, b2] at this
    exact this
  intro i j e e' hij hi hj
  rcases Nat.lt_or_gt_of_ne hij with g | g
  · exact h3 i j e e' g hi hj
  · exact fun q => h3 j i e' e g hj hi ⟨q.1.symm, q.2.symm⟩
/-- what the search has found is the first of the sums in order -/
theorem fst_head {C : Cfg} {D : Dyn} {s : Nat} {l L : List Ent} (hW : WC C) (hs : s < cn C) (hk : ckd C s = 5) (hS : SrtW L) (hp : l.Perm L) (hB : ∀ e ∈ L, BW e.1) {f : Option Nat} (hf : FstW C D s l l.length f) : match f with
    | none => ∀ e ∈ L, ¬ clo C D s e
    | some j => ∃ e L', L = e :: L' ∧ l[j]? = some e ∧ clo C D s e := by
  cases f with
  | none =>
    intro e he
    obtain ⟨x, hx⟩ := List.getElem?_of_mem (hp.mem_iff.mpr he)
    exact hf x e (List.getElem?_eq_some_iff.mp hx).1 hx
  | some j =>
    obtain ⟨g1, e, g2, g3, g4⟩ := hf
    have heL : e ∈ L := hp.mem_iff.mp (List.mem_of_getElem? g2)
    cases L with
    | nil => simp at heL
    | cons e0 L' =>
      have h0l : e0 ∈ l := hp.mem_iff.mpr (by simp)
      obtain ⟨x, hx⟩ := List.getElem?_of_mem h0l
      by_cases c : e = e0
      · subst c; exact ⟨e, L', rfl, g2, g3⟩
      · have he' : e ∈ L' := by
          rcases List.mem_cons.mp heL with h | h
          · exact absurd h c
          · exact h
        have ha := (List.pairwise_cons.mp hS).1 e he'
        obtain ⟨w1, w2, w3, w4⟩ := (hW.2.2.2 s hs).2.2.2.2.2.2.2.2.2.1 hk
        have hsz : (co1 C s - 1).toInt = (co1 C s).toInt - 1 := by
          have e1 : (1 : Int64).toInt = 1 := by decide
          rw [j_sub] <;> rw [e1] <;> omega
        have hle : e0.1.toInt ≤ e.1.toInt := by rw [ahead_iff] at ha; omega
        have hm := plus_mono (n := co1 C s - 1) (hB e0 (by simp)) (hB e (by simp [he'])) hle (by rw [hsz]; omega) (by rw [hsz]; omega)
        have hc0 : clo C D s e0 := by
          unfold clo at g3 ⊢
          rw [Int64.le_iff_toInt_le] at g3 ⊢
          omega
        rcases g4 x e0 (List.getElem?_eq_some_iff.mp hx).1 hx hc0 with rfl | g
        · rw [g2] at hx; cases hx; exact absurd rfl c
        · rw [ahead_iff] at ha g
          omega
theorem swap_perm {A B : List Ent} {e : Ent} : ∃ l' : List Ent, l'.Perm (A ++ B) ∧ l'.length + 1 = (A ++ e :: B).length ∧ ∀ i x, l'[i]? = some x → i < l'.length ∧ (if i = A.length then (A ++ e :: B)[(A ++ e :: B).length - 1]? else (A ++ e :: B)[i]?) = some x := by
  rcases List.eq_nil_or_concat B with rfl | ⟨B', z, rfl⟩
  · refine ⟨A, by simp, by simp, fun i x hi => ?_⟩
    have h1 := (List.getElem?_eq_some_iff.mp hi).1
    refine ⟨h1, ?_⟩
    rw [if_neg (by omega), List.getElem?_append_left h1]
    exact hi
  · rw [List.concat_eq_append]
    refine ⟨A ++ z :: B', ?_, by simp; omega, fun i x hi => ?_⟩
    · exact List.Perm.append_left A (List.perm_append_comm (l₁ := [z]) (l₂ := B'))
    · have h1 := (List.getElem?_eq_some_iff.mp hi).1
      refine ⟨h1, ?_⟩
      have h2 : i < A.length + (B'.length + 1) := by simpa using h1
      by_cases c : i = A.length
      · rw [if_pos c]
        rw [c] at hi
        have e1 : (A ++ z :: B')[A.length]? = some z := by simp
        rw [e1] at hi
        cases hi
        have e2 : (A ++ e :: (B' ++ [z])).length - 1 = A.length + (1 + B'.length) := by simp; omega
        rw [e2, List.getElem?_append_right (by omega)]
        rw [show A.length + (1 + B'.length) - A.length = B'.length + 1 by omega]
        simp
      · rw [if_neg c]
        rcases Nat.lt_or_gt_of_ne c with g | g
        · rw [List.getElem?_append_left g] at hi ⊢; exact hi
        · rw [List.getElem?_append_right (by omega)] at hi ⊢
          rw [show i - A.length = (i - A.length - 1) + 1 by omega] at hi ⊢
          rw [List.getElem?_cons_succ] at hi ⊢
          rw [List.getElem?_append_left (by omega)]
          exact hi
