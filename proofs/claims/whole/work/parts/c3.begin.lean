/-! at most three joins; a new graph is reckoned already -/
section C3
variable {tp : List Nat} {C : Cfg} {T : Tok}
theorem src4_k {pt af : Nat} {hl : Bool} {lag : Int64} {y : Slot × Tok} (h : a_src4 tp pt hl lag af T = .ok y) : y.1.1 = 0 := by
  unfold a_src4 at h
  split at h
  · split at h
    · cases h
    · cases h; rfl
  · cases h; rfl
theorem src3_k {pt : Nat} {hl : Bool} {lag : Int64} {y : Slot × Tok} (h : a_src3 tp pt hl lag T = .ok y) : y.1.1 = 0 := by
  unfold a_src3 at h
  split at h
  · split at h
    · cases h
    · exact src4_k h
  · exact src4_k h
theorem src_k {y : Slot × Tok} (h : a_src tp T = .ok y) : y.1.1 = 0 := by
  unfold a_src at h
  split at h
  · cases h
  · unfold a_src2 at h
    split at h
    · split at h
      · cases h
      · exact src3_k h
    · split at h
      · cases h
      · exact src3_k h
theorem body_j {J W : Nat} {y : Slot × Tok} (h : a_body tp J W C T = .ok y) (h4 : y.1.1 = 4) : ¬ J = 3 := by
  unfold a_body at h
  split at h
  · rw [src_k h] at h4; cases h4
  · split at h
    · unfold a_uni at h
      split at h
      · cases h
      · split at h
        · cases h
        · cases h; cases h4
    · split at h
      · unfold a_del at h
        split at h
        · cases h
        · split at h
          · cases h
          · cases h; cases h4
      · split at h
        · unfold a_hol at h
          split at h
          · cases h
          · cases h; cases h4
        · split at h
          · split at h
            · cases h
            · assumption
          · split at h
            · split at h
              · cases h
              · unfold a_win at h
                split at h
                · cases h
                · split at h
                  · cases h
                  · split at h
                    · cases h
                    · unfold a_win3 at h
                      split at h
                      · cases h
                      · split at h
                        · cases h
                        · cases h; cases h4
            · unfold a_mis at h; cases h
theorem jc_congr {C C' : Cfg} : ∀ n, (∀ q, q < n → ckd C' q = ckd C q) → jc C' n = jc C n
  | 0, _ => rfl
  | n + 1, h => by rw [jc, jc, jc_congr n (fun q hq => h q (by omega)), h n (by omega)]
/-- the joins are counted -/
def JI (J : Nat) (C : Cfg) : Prop := jc C (cn C) ≤ J ∧ J ≤ 3
theorem adds_J {J : Nat} {w : List Nat} {x : Slot} (h : JI J C) (hx : x.1 = 4 → ¬ J = 3) : JI (if x.1 = 4 then J + 1 else J) (a_adds C w x) := by
  have e : jc (a_adds C w x) (cn C + 1) = jc C (cn C) + (if x.1 = 4 then 1 else 0) := by
    rw [jc, jc_congr (C := C) (C' := a_adds C w x) (cn C) (fun q hq => if_neg (by omega))]
    have : ckd (a_adds C w x) (cn C) = x.1 := if_pos rfl
    rw [this]
  obtain ⟨h1, h2⟩ := h
  show jc (a_adds C w x) (cn C + 1) ≤ (if x.1 = 4 then J + 1 else J) ∧ (if x.1 = 4 then J + 1 else J) ≤ 3
  rw [e]
  by_cases a : x.1 = 4
  · have := hx a
    rw [if_pos a, if_pos a]; omega
  · rw [if_neg a, if_neg a]; omega
theorem stm_J {J W : Nat} {y : Nat × Nat × Cfg × Tok} (h : a_stm tp J W C T = .ok y) (hJ : JI J C) : JI y.1 y.2.2.1 := by
  unfold a_stm at h
  split at h
  · split at h
    · cases h
    · rename_i C1 T1 ha
      cases h
      unfold a_alg at ha
      split at ha
      · split at ha
        · split at ha
          · cases ha
          · unfold a_alg2 at ha
            split at ha
            · cases ha
            · split at ha
              · cases ha
              · cases ha
                exact ⟨Nat.le_trans (Nat.le_of_eq (jc_congr (C := C) (C' := a_addg C _ _) (cn C) (fun q _ => rfl))) hJ.1, hJ.2⟩
        · cases ha
      · unfold a_mis at ha; cases ha
  · unfold a_strm at h
    split at h
    · split at h
      · cases h
      · split at h
        · cases h
        · split at h
          · cases h
          · unfold a_strm2 at h
            split at h
            · cases h
            · rename_i x T1 hb
              split at h
              · cases h
              · cases h
                exact adds_J hJ (fun z => body_j hb z)
    · unfold a_mis at h; cases h
theorem text_J : ∀ (n : Nat) (b : Bool) (J W : Nat) (C : Cfg) (T : Tok) (C1 : Cfg), a_text tp n b J W C T = .ok C1 → JI J C → jc C1 (cn C1) ≤ 3
  | 0, b, J, W, C, T, C1, h, hJ => by
    rw [a_text] at h
    split at h
    · cases h; exact Nat.le_trans hJ.1 hJ.2
    · split at h
      · cases h
      · split at h
        · split at h
          · cases h
          · cases h
        · unfold a_mis at h; cases h
  | n + 1, b, J, W, C, T, C1, h, hJ => by
    rw [a_text] at h
    split at h
    · cases h; exact Nat.le_trans hJ.1 hJ.2
    · split at h
      · cases h
      · rename_i J1 W1 C2 T1 hs
        exact text_J n true J1 W1 C2 T1 C1 h (stm_J hs hJ)
theorem parse_J {S : St} {C1 : Cfg} (h : a_parse S tp = .ok C1) : jc C1 (cn C1) ≤ 3 := text_J 20 false 0 0 _ _ C1 h ⟨Nat.le_refl _, by decide⟩
/-! the state at the beginning -/
theorem srcG0 {s : Nat} : ∀ n, a_srcG D0 s (n + 1) = some (-9000000000000000000)
  | 0 => rfl
  | n + 1 => by rw [a_srcG, srcG0 n]; rfl
theorem inG0 : ∀ (l : List Nat), l.foldl (fun o i => if did D0 i = false ∧ ¬ dmk D0 i = 9000000000000000000 then a_least o (dmk D0 i) else o) (some (-9000000000000000000)) = some (-9000000000000000000) := by
  intro l
  induction l with
  | nil => rfl
  | cons a l ih => rw [List.foldl_cons]; exact ih
theorem goal0 {s : Nat} (hW : WC C) (hs : s < cn C) : a_goal C D0 s = some (-9000000000000000000) := by
  obtain ⟨w1, w2, w3, w4, w5, w6, w7, -⟩ := hW.2.2.2 s hs
  unfold a_goal
  by_cases k0 : ckd C s = 0
  · rw [if_pos k0]
    obtain ⟨n, hn⟩ : ∃ n, cpt C s = n + 1 := ⟨cpt C s - 1, by have := w3.1 k0; omega⟩
    have e : a_allE D0 s (n + 1) = false := by
      unfold a_allE
      rw [Bool.eq_false_iff]
      intro z
      have := (List.all_eq_true.1 z) 0 (by simp)
      cases this
    rw [hn, e, srcG0 n]; rfl
  rw [if_neg k0]
  by_cases k1 : ckd C s = 1 ∨ ckd C s = 4
  · rw [if_pos k1]
    cases e : cin C s with
    | nil =>
      rw [e] at w5 w6
      rcases k1 with k | k
      · have := w5 k; simp at this
      · have := w6 k; simp at this
    | cons a l =>
      have e1 : (a :: l).all (fun i => decide (dmk D0 i = 9000000000000000000)) = false := rfl
      rw [e1]
      exact inG0 l
  rw [if_neg k1]
  by_cases k3 : ckd C s = 3
  · rw [if_pos k3]; rfl
  rw [if_neg k3]
  by_cases k2 : ckd C s = 2
  · rw [if_pos k2]; rfl
  · rw [if_neg k2]; rfl
theorem settled0 {s : Nat} (hW : WC C) (hs : s < cn C) : Settled C D0 s := by
  refine ⟨by rw [goal0 hW hs]; rfl, fun v hv => ?_, fun _ e l hl => (by cases hl), fun _ k _ e he => (by cases he)⟩
  rw [goal0 hW hs] at hv; cases hv
  exact Int64.lt_irrefl
theorem reck0 (hW : WC C) : ∀ n, n ≤ cn C → a_reckN C D0 n = D0
  | 0, _ => rfl
  | n + 1, h => by rw [a_reckN, reck0 hW n (by omega)]; exact settled_step (settled0 hW (by omega))
theorem OKD0 (hW : WC C) : OKD C D0 := by
  refine ⟨?_, ?_, fun x hx => (by cases hx), reck0 hW _ (Nat.le_refl _)⟩
  · exact ⟨⟨fun _ => List.Pairwise.nil, fun _ _ _ he => (by cases he), fun _ _ he => (by cases he)⟩, fun _ _ => Nat.zero_le _, fun x hx => (by cases hx)⟩
  · exact PB.of (fun _ _ => Nat.zero_le _) (fun _ _ => Or.inl rfl) (fun _ => Or.inl rfl)
theorem Rm0 : Rm D0 := ⟨fun _ _ => Nat.zero_le _, fun _ => Nat.zero_le _⟩
end C3
