/-! what every text that is taken keeps to -/
def XOK (C : Cfg) (x : Slot) : Prop := x.1 ≤ 5 ∧ x.2.2.2.2.1 ≤ 4 ∧ (x.1 = 0 ↔ 0 < x.2.2.2.2.1) ∧ x.2.1.length ≤ 4 ∧ (x.1 = 1 → 2 ≤ x.2.1.length) ∧ (x.1 = 4 → x.2.1.length = 2) ∧ (x.1 = 2 ∨ x.1 = 3 ∨ x.1 = 5 → x.2.1.length = 1) ∧ x.2.2.2.2.2.2.1 ≤ 1000 ∧ (∀ g, x.2.2.2.2.2.2.2 = some g → g < 4) ∧ (x.1 = 5 → 1 ≤ x.2.2.2.1.toInt ∧ x.2.2.2.1.toInt ≤ x.2.2.1.toInt ∧ x.2.2.1.toInt ≤ 4 * x.2.2.2.1.toInt ∧ x.2.2.1.toInt ≤ 1000000) ∧ (x.2.2.2.2.2.1 = true → 0 ≤ x.2.2.1.toInt ∧ x.2.2.1.toInt < 1000000000000000000)
theorem XOK.mk {C : Cfg} {k pt af : Nat} {l : List Nat} {o1 o2 : Int64} {hl : Bool} {gr : Option Nat} (h1 : k ≤ 5) (h2 : pt ≤ 4) (h3 : k = 0 ↔ 0 < pt) (h4 : l.length ≤ 4) (h5 : k = 1 → 2 ≤ l.length) (h6 : k = 4 → l.length = 2) (h7 : k = 2 ∨ k = 3 ∨ k = 5 → l.length = 1) (h8 : af ≤ 1000) (h9 : ∀ g, gr = some g → g < 4) (h10 : k = 5 → 1 ≤ o2.toInt ∧ o2.toInt ≤ o1.toInt ∧ o1.toInt ≤ 4 * o2.toInt ∧ o1.toInt ≤ 1000000) (h11 : hl = true → 0 ≤ o1.toInt ∧ o1.toInt < 1000000000000000000) : XOK C (k, l, o1, o2, pt, hl, af, gr) := ⟨h1, h2, h3, h4, h5, h6, h7, h8, h9, h10, h11⟩
theorem noG : ∀ g : Nat, (none : Option Nat) = some g → g < 4 := fun g e => by cases e
section WW9
variable {tp : List Nat} {C : Cfg} {T : Tok}
def INb (C : Cfg) (l : List Nat) : Prop := ∀ i ∈ l, i < cn C
theorem inp_b {l : List Nat} {y : List Nat × Tok} (h : a_inp tp C l T = .ok y) (hl : INb C l) : INb C y.1 := by
  unfold a_inp at h
  by_cases a : tkk T = 3
  · rw [if_pos a] at h
    cases e : a_find C (tkw T) with
    | none => rw [e] at h; cases h
    | some i =>
      rw [e] at h
      simp only at h
      by_cases b : (ctk C i).isSome = true ∨ i ∈ l
      · rw [if_pos b] at h; cases h
      · rw [if_neg b] at h; cases h
        intro j hj
        rcases List.mem_append.1 hj with q | q
        · exact hl j q
        · rw [List.mem_singleton.1 q]; exact fnd_lt _ _ e
  · rw [if_neg a] at h; cases h
theorem two_ok {y : List Nat × Tok} (h : a_two tp C T = .ok y) : INb C y.1 ∧ y.1.length = 2 := by
  unfold a_two at h
  cases e : a_inp tp C [] T with
  | error e9 => rw [e] at h; cases h
  | ok z =>
    rw [e] at h
    have h2 : a_inp tp C z.1 z.2 = .ok y := h
    refine ⟨inp_b h2 (inp_b e (fun i hi => by cases hi)), ?_⟩
    rw [inp_len h2, inp_len e]; rfl
theorem more_ok : ∀ (n : Nat) (l : List Nat) (T : Tok) (y : List Nat × Tok), a_more tp C n l T = .ok y → INb C l → INb C y.1 ∧ l.length ≤ y.1.length ∧ y.1.length ≤ l.length + n
  | 0, l, T, y, h, hl => by
    rw [a_more] at h; cases h; exact ⟨hl, Nat.le_refl _, Nat.le_refl _⟩
  | n + 1, l, T, y, h, hl => by
    rw [a_more] at h
    by_cases a : tkk T = 3
    · rw [if_pos a] at h
      cases e : a_inp tp C l T with
      | error e9 => rw [e] at h; cases h
      | ok z =>
        rw [e] at h
        have h2 : a_more tp C n z.1 z.2 = .ok y := h
        have := more_ok n z.1 z.2 y h2 (inp_b e hl)
        have l1 := inp_len e
        exact ⟨this.1, by omega, by omega⟩
    · rw [if_neg a] at h; cases h; exact ⟨hl, Nat.le_refl _, by show l.length ≤ l.length + (n + 1); omega⟩
theorem lagb {v : Nat} (h : v ≤ BIG) : 0 ≤ (Int64.ofNat v).toInt ∧ (Int64.ofNat v).toInt < 1000000000000000000 := by
  have h9 : v ≤ 999999999999999999 := h
  have e : (Int64.ofNat v).toInt = (v : Int) := pf_lI (a := v) (by omega)
  rw [e]; omega
theorem src4_ok {pt af : Nat} {hl : Bool} {lag : Int64} {y : Slot × Tok} (h : a_src4 tp pt hl lag af T = .ok y) (hp : 1 ≤ pt ∧ pt ≤ 4) (ha : af ≤ 1000) (hlag : hl = true → 0 ≤ lag.toInt ∧ lag.toInt < 1000000000000000000) : XOK C y.1 ∧ INb C y.1.2.1 := by
  unfold a_src4 at h
  have fin : ∀ gr, (∀ g, gr = some g → g < 4) → XOK C (0, [], lag, 0, pt, hl, af, gr) ∧ INb C [] := fun gr hg => ⟨XOK.mk (by decide) hp.2 ⟨fun _ => by omega, fun _ => rfl⟩ (by decide) (by decide) (by decide) (by decide) ha hg (fun z => absurd z (by decide)) hlag, fun i hi => by cases hi⟩
  split at h
  · split at h
    · cases h
    · rename_i g T1 hn
      have := num_ok hn
      cases h
      exact fin (some g) (fun g' e => by cases e; omega)
  · cases h
    exact fin none (fun g' e => by cases e)
theorem src3_ok {pt : Nat} {hl : Bool} {lag : Int64} {y : Slot × Tok} (h : a_src3 tp pt hl lag T = .ok y) (hp : 1 ≤ pt ∧ pt ≤ 4) (hlag : hl = true → 0 ≤ lag.toInt ∧ lag.toInt < 1000000000000000000) : XOK C y.1 ∧ INb C y.1.2.1 := by
  unfold a_src3 at h
  split at h
  · split at h
    · cases h
    · rename_i af T1 hn
      have := num_ok hn
      exact src4_ok h hp this.2 hlag
  · exact src4_ok h hp (by decide) hlag
theorem src_ok {y : Slot × Tok} (h : a_src tp T = .ok y) : XOK C y.1 ∧ INb C y.1.2.1 := by
  unfold a_src at h
  split at h
  · cases h
  · rename_i pt T1 hn
    have hp := num_ok hn
    unfold a_src2 at h
    split at h
    · split at h
      · cases h
      · rename_i v T2 hv
        exact src3_ok h hp (fun _ => lagb (num_ok hv).2)
    · split at h
      · cases h
      · exact src3_ok h hp (fun z => by cases z)
theorem in1_ok {k : Nat} {l : List Nat} {o1 o2 : Int64} (hk : k = 2 ∨ k = 3) (hl : l.length = 1) : XOK C (k, l, o1, o2, 0, false, 0, none) := by
  refine XOK.mk (by omega) (by decide) ⟨fun z => by omega, fun z => absurd z (by decide)⟩ (by omega) (fun z => by omega) (fun z => by omega) (fun _ => hl) (by decide) noG (fun z => by omega) (fun z => by cases z)
theorem body_ok {J W : Nat} {y : Slot × Tok} (hn : tp.length ≤ 600) (hT : TT tp T) (h : a_body tp J W C T = .ok y) : XOK C y.1 ∧ INb C y.1.2.1 := by
  have e0 : INb C [] := fun i hi => by cases hi
  unfold a_body at h
  split at h
  · exact src_ok h
  · split at h
    · unfold a_uni at h
      split at h
      · cases h
      · rename_i l2 T2 h2
        have t := two_ok h2
        split at h
        · cases h
        · rename_i l T3 h3
          have m := more_ok 2 l2 T2 _ h3 t.1
          have t2 : l2.length = 2 := t.2
          have m2 : l2.length ≤ l.length := m.2.1
          have m3 : l.length ≤ l2.length + 2 := m.2.2
          cases h
          exact ⟨XOK.mk (by decide) (by decide) (by decide) (by omega) (fun _ => by omega) (fun z => absurd z (by decide)) (fun z => absurd z (by decide)) (by decide) noG (fun z => absurd z (by decide)) (fun z => by cases z), m.1⟩
    · split at h
      · unfold a_del at h
        split at h
        · cases h
        · rename_i l T2 h2
          split at h
          · cases h
          · cases h
            exact ⟨in1_ok (Or.inl rfl) (by show l.length = 1; have := inp_len h2; exact this), inp_b h2 e0⟩
      · split at h
        · unfold a_hol at h
          split at h
          · cases h
          · rename_i l T2 h2
            cases h
            exact ⟨in1_ok (Or.inr rfl) (by show l.length = 1; have := inp_len h2; exact this), inp_b h2 e0⟩
        · split at h
          · split at h
            · cases h
            · unfold a_joi at h
              split at h
              · cases h
              · rename_i l2 T2 h2
                have t := two_ok h2
                have t2 : l2.length = 2 := t.2
                split at h
                · cases h
                · split at h
                  · cases h
                  · unfold a_joi4 at h
                    split at h
                    · cases h
                    · split at h
                      · cases h
                      · cases h
                        exact ⟨XOK.mk (by decide) (by decide) (by decide) (by omega) (fun z => absurd z (by decide)) (fun _ => t2) (fun z => absurd z (by decide)) (by decide) noG (fun z => absurd z (by decide)) (fun z => by cases z), t.1⟩
          · split at h
            · split at h
              · cases h
              · unfold a_win at h
                split at h
                · cases h
                · rename_i l T2 h2
                  have l1 : l.length = 1 := inp_len h2
                  split at h
                  · cases h
                  · split at h
                    · cases h
                    · rename_i size T4 h4
                      have sb := num_ok h4
                      unfold a_win3 at h
                      split at h
                      · cases h
                      · split at h
                        · cases h
                        · rename_i v T6 h6
                          have vb := num_ok h6
                          cases h
                          have es : (Int64.ofNat size).toInt = (size : Int) := pf_lI (a := size) (by omega)
                          have ev : (Int64.ofNat v).toInt = (v : Int) := pf_lI (a := v) (by omega)
                          refine ⟨XOK.mk (by decide) (by decide) (by decide) (by omega) (fun z => absurd z (by decide)) (fun z => absurd z (by decide)) (fun _ => l1) (by decide) noG (fun _ => ?_) (fun z => by cases z), inp_b h2 e0⟩
                          show 1 ≤ (Int64.ofNat v).toInt ∧ (Int64.ofNat v).toInt ≤ (Int64.ofNat size).toInt ∧ (Int64.ofNat size).toInt ≤ 4 * (Int64.ofNat v).toInt ∧ (Int64.ofNat size).toInt ≤ 1000000
                          rw [es, ev]; omega
            · cases h
theorem adds_WC {w : List Nat} {x : Slot} (h : WC C) (h12 : cn C < 12) (hx : XOK C x) (hi : INb C x.2.1) : WC (a_adds C w x) := by
  obtain ⟨w1, w2, w3, w4⟩ := h
  refine ⟨by show cn C + 1 ≤ 12; omega, fun s t ht => ?_, fun s i hs hl => ?_, fun s hs => ?_⟩
  · have ht' : (if s = cn C then none else if s ∈ x.2.1 then some (cn C) else ctk C s) = some t := ht
    by_cases e : s = cn C
    · rw [if_pos e] at ht'; cases ht'
    · rw [if_neg e] at ht'
      by_cases e2 : s ∈ x.2.1
      · rw [if_pos e2] at ht'; cases ht'
        exact ⟨hi s e2, Nat.lt_succ_self _⟩
      · rw [if_neg e2] at ht'
        have := w2 s t ht'
        exact ⟨this.1, Nat.lt_succ_of_lt this.2⟩
  · have hs' : s < cn C + 1 := hs
    have hl' : i < (put1 (cin C) (cn C) x.2.1 s).length := hl
    show (put1 (cin C) (cn C) x.2.1 s).getD i 0 < s
    by_cases e : s = cn C
    · subst e
      simp only [put1, if_true] at hl' ⊢
      rw [List.getD_eq_getElem?_getD, List.getElem?_eq_getElem hl']
      exact hi _ (List.getElem_mem hl')
    · simp only [put1, if_neg e] at hl' ⊢
      exact w3 s i (by omega) hl'
  · have hs' : s < cn C + 1 := hs
    by_cases e : s = cn C
    · subst e
      have : ckd (a_adds C w x) (cn C) = x.1 ∧ cpt (a_adds C w x) (cn C) = x.2.2.2.2.1 ∧ cin (a_adds C w x) (cn C) = x.2.1 ∧ caf (a_adds C w x) (cn C) = x.2.2.2.2.2.2.1 ∧ cgr (a_adds C w x) (cn C) = x.2.2.2.2.2.2.2 ∧ co1 (a_adds C w x) (cn C) = x.2.2.1 ∧ co2 (a_adds C w x) (cn C) = x.2.2.2.1 ∧ chl (a_adds C w x) (cn C) = x.2.2.2.2.2.1 := ⟨if_pos rfl, if_pos rfl, if_pos rfl, if_pos rfl, if_pos rfl, if_pos rfl, if_pos rfl, if_pos rfl⟩
      obtain ⟨e1, e2, e3, e4, e5, e6, e7, e8⟩ := this
      rw [e1, e2, e3, e4, e5, e6, e7, e8]; exact hx
    · have : ckd (a_adds C w x) s = ckd C s ∧ cpt (a_adds C w x) s = cpt C s ∧ cin (a_adds C w x) s = cin C s ∧ caf (a_adds C w x) s = caf C s ∧ cgr (a_adds C w x) s = cgr C s ∧ co1 (a_adds C w x) s = co1 C s ∧ co2 (a_adds C w x) s = co2 C s ∧ chl (a_adds C w x) s = chl C s := ⟨if_neg e, if_neg e, if_neg e, if_neg e, if_neg e, if_neg e, if_neg e, if_neg e⟩
      obtain ⟨e1, e2, e3, e4, e5, e6, e7, e8⟩ := this
      rw [e1, e2, e3, e4, e5, e6, e7, e8]; exact w4 s (by omega)
theorem C0_WC (S : St) : WC (C0 S) := ⟨Nat.zero_le _, fun s t ht => (by cases ht), fun s i hs _ => absurd hs (Nat.not_lt_zero _), fun s hs => absurd hs (Nat.not_lt_zero _)⟩
end WW9
