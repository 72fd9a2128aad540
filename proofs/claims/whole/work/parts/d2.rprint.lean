/-! the reference prints -/
section D2s
variable {M : Mm} {m : Nat} {ra : Nat → Nat} {S S0 : St} {pg : List Nat} {C : Cfg} {D : Dyn}
/-- what is said of a stream -/
def RLN (S : St) (C : Cfg) (D : Dyn) : Prop := vI S 729 1 = nI (cn C) ∧ ∀ s, s < cn C → vI S 715 (12 + s) = nI (ckd C s) ∧ vI S 724 (12 + s) = nI (cin C s).length ∧ (∀ i, i < (cin C s).length → vI S 725 (4 * (12 + s) + i) = nI (a_in C s i)) ∧ vJ S 733 s = dmk D s ∧ vI S 734 s = bI (did D s) ∧ vJ S 716 (12 + s) = w5 (cnm C s) ∧ vI S 717 (12 + s) = nI (cnm C s).length
theorem RLN.ex {S1 : St} (h : RLN S C D) (hx : Ex [759, 760] S S1) : RLN S1 C D := by
  unfold RLN at *
  rw [(hx 729 (by decide)).2.2.1, (hx 715 (by decide)).2.2.1, (hx 724 (by decide)).2.2.1, (hx 725 (by decide)).2.2.1, (hx 733 (by decide)).2.2.2, (hx 734 (by decide)).2.2.1, (hx 716 (by decide)).2.2.2, (hx 717 (by decide)).2.2.1]
  exact h
theorem RLN.of (hA : SA S C D) (hN : NMR S C) : RLN S C D := ⟨hA.1.1, fun s hs => ⟨(hA.1.2.2.1 s hs).1, (hA.1.2.2.1 s hs).2.2.2.2.2.2.2.1, fun i hi => hA.1.2.2.2.1 s i hs hi, hA.2.1 s hs, hA.2.2.1 s hs, (hN s hs).2⟩⟩
theorem w5_dig {l : List Nat} {i c : Nat} (h : WW l) (hi : i < l.length) (hc : l[l.length - 1 - i]? = some c) : (((w5 l >>> (((5 : Int32) * nI i).toInt64 &&& 63)) &&& (31 : Int64)).toInt32 + (97 : Int32)) - (1 : Int32) = nI c := by
  have hw := h.2.1
  have hcc := h.2.2 c (List.mem_of_getElem? hc)
  have hb : ∀ c ∈ l.reverse, (fun c => c - 96) c < 32 := fun c hc => by have := h.r c hc; show c - 96 < 32; omega
  have hv := v5_lt h
  rw [show (5 : Int32) * nI i = nI (5 * i) by rw [show (5 : Int32) = nI 5 from rfl, n_mul], wb_c _ (by omega), w5_v hw (fun c hc => (h.2.2 c hc).2)]
  generalize e : vB 32 (fun c => c - 96) l.reverse = n at hv
  have e2 : lN n >>> lN (5 * i) = lN (n / 2 ^ (5 * i)) := by
    refine pf_shr ?_ (by omega)
    rw [wb_tb, wb_sm _ (by omega), BitVec.toNat_ofNat, Nat.mod_eq_of_lt (by omega)]
  have e3 : n / 2 ^ (5 * i) < 2 ^ 64 := Nat.lt_of_le_of_lt (Nat.div_le_self _ _) (Nat.lt_trans hv (by decide))
  rw [e2, show (31 : Int64) = lN (2 ^ 5 - 1) from rfl, wb_mask e3 (by decide), l_i32]
  have ed : n / 2 ^ (5 * i) % 2 ^ 5 = c - 96 := by
    rw [Nat.pow_mul, show (2 : Nat) ^ 5 = 32 from rfl, ← e, vB_dig _ _ hb, rev_at hi, hc]; rfl
  rw [ed, show (97 : Int32) = nI 97 from rfl, show (1 : Int32) = nI 1 from rfl, n_add, n_sub (by omega), show c - 96 + 97 - 1 = c by omega]
theorem r_p55 (h : SH M m ra) {R : Int32 → Mm → Prop} {K : Int32 → Mm → Prop} {s : Nat} {pg0 : List Nat} (hs : s < cn C) (h12 : cn C ≤ 12) (hn : WW (cnm C s)) (hl : pg0.length + 8 ≤ 800) (hE : ∀ S1, RP S1 (pg0 ++ cnm C s) → Ex [759, 760] S0 S1 → lp_X11_print_55 m R K 1 (nI s) (nI 0 - 1) (pM M m ra S1)) : ∀ (r : Nat) (S : St), r ≤ (cnm C s).length → RP S (pg0 ++ (cnm C s).take ((cnm C s).length - r)) → Ex [759, 760] S0 S → RLN S C D → lp_X11_print_55 m R K (r + 1) (nI s) (nI r - 1) (pM M m ra S) := by
  have hw := hn.2.1
  intro r
  induction r with
  | zero =>
    intro S _ hP hx hR
    rw [Nat.sub_zero, List.take_length] at hP
    exact hE S hP hx
  | succ r ih =>
    intro S hr hP hx hR
    have e1 : nI (r + 1) - 1 = nI r := by
      rw [show (1 : Int32) = nI 1 from rfl, n_sub (by omega)]; rfl
    have e2 : ¬ nI r < 0 := by
      rw [show (0 : Int32) = nI 0 from rfl, n_lt (by omega) (by omega)]; omega
    have e3 : nI r + (-1) = nI r - 1 := by rw [Int32.sub_eq_add_neg]
    have hk : (cnm C s).length - 1 - r < (cnm C s).length := by omega
    have ec : (cnm C s)[(cnm C s).length - 1 - r]? = some (cnm C s)[(cnm C s).length - 1 - r] := List.getElem?_eq_getElem hk
    have hc := hn.2.2 _ (List.getElem_mem hk)
    have wd := w5_dig hn (show r < (cnm C s).length by omega) ec
    rw [lp_X11_print_55, e1, e3]
    refine ⟨fun z => absurd z e2, fun _ => ⟨FK h, ra 716, (F716 h).1, (F716 h).2.1 S, ?_, ?_⟩⟩
    · rw [p_aN, (F716 h).2.2.1, show (12 : Int32) = nI 12 from rfl, n_add]; exact n_in (by omega) (by decide)
    · rw [show (12 : Int32) = nI 12 from rfl, n_add, n_clamp (by omega), (F716 h).2.2.2.1 S, (hR.2 s hs).2.2.2.2.2.1, wd]
      refine r_say h hP (by simp; omega) (by omega) (sg_i8 _ (by omega)) (fun S1 p1 x1 => ih S1 (by omega) ?_ (hx.trans x1) (hR.ex x1))
      rw [List.append_assoc, show (cnm C s).length - (r + 1) = (cnm C s).length - 1 - r by omega, take_s ec, show (cnm C s).length - 1 - r + 1 = (cnm C s).length - r by omega] at p1
      exact p1
theorem r_p210 (h : SH M m ra) {R : Int32 → Mm → Prop} {K : Int32 → Mm → Prop} {s : Nat} (hs : s < cn C) (h12 : cn C ≤ 12) (hl : pg.length + 10 ≤ 800) (hR : RLN S C D) (hP : RP S pg) (hK : ∀ S1, RP S1 (pg ++ (idl (did D s) ++ [10])) → Ex [759, 760] S S1 → R (nI (s + 1)) (pM M m ra S1)) : bk_X11_print_210 m R K (nI s) (pM M m ra S) := by
  have fin : ∀ i, i = 9 ∨ i = 10 → stx i = idl (did D s) → bk_X11_print_229 m R K (nI s) i (some m) (pM M m ra S) := fun i hi e => by
    refine ⟨m, rfl, FK h, r_sayAll h (by omega) (by omega) (by omega) hP (fun S1 p1 x1 => ⟨FK h, ?_⟩)⟩
    rw [e] at p1
    have l3 := idl_len (did D s)
    refine r_say h (c := 10) p1 (by simp only [List.length_append]; omega) (by decide) (by decide) (fun S2 p2 x2 => ?_)
    rw [show nI s + (1 : Int32) = nI (s + 1) by rw [show (1 : Int32) = nI 1 from rfl, n_add]]
    rw [List.append_assoc] at p2
    exact hK S2 p2 (x1.trans x2)
  refine ⟨FK h, ra 734, (F734 h).1, (F734 h).2.1 S, ?_, ?_⟩
  · rw [p_aN, (F734 h).2.2.1]; exact n_in (by omega) (by decide)
  · rw [n_clamp (by omega), (F734 h).2.2.2.1 S, (hR.2 s hs).2.2.2.2.1]
    by_cases e : did D s = true
    · rw [e]
      exact ⟨fun z => absurd z (by decide), fun _ => fin 9 (Or.inl rfl) (by rw [e]; rfl)⟩
    · have e2 : did D s = false := Bool.eq_false_iff.2 e
      rw [e2]
      exact ⟨fun _ => fin 10 (Or.inr rfl) (by rw [e2]; rfl), fun z => absurd rfl z⟩
theorem r_p112 (h : SH M m ra) {R : Int32 → Mm → Prop} {K : Int32 → Mm → Prop} {s : Nat} {pg0 : List Nat} (hW : WC C) (hs : s < cn C) (hv : -9000000000000000000 ≤ (dmk D s).toInt) (hl : pg0.length + 80 ≤ 800) (hK : ∀ S1, RP S1 (pg0 ++ ((cin C s).flatMap (fun i => 32 :: num (lN i)) ++ ([32] ++ lnT C D s))) → Ex [759, 760] S0 S1 → R (nI (s + 1)) (pM M m ra S1)) : ∀ (r i : Nat) (S : St) (w : List Nat), i + r = (cin C s).length → w.length ≤ 3 * i → w ++ ((cin C s).drop i).flatMap (fun i => 32 :: num (lN i)) = (cin C s).flatMap (fun i => 32 :: num (lN i)) → RP S (pg0 ++ w) → Ex [759, 760] S0 S → RLN S C D → lp_X11_print_112 m R K (r + 1) (nI s) (nI i) (pM M m ra S) := by
  have h12 := hW.1
  have h4 := (hW.2.2.2 s hs).2.2.2.1
  intro r
  induction r with
  | zero =>
    intro i S w hi hw he hP hx hR
    have ei : i = (cin C s).length := by omega
    rw [ei, List.drop_length, List.flatMap_nil, List.append_nil] at he
    subst ei
    have l1 : (pg0 ++ w).length ≤ pg0.length + 12 := by rw [List.length_append]; omega
    have q := hR.2 s hs
    rw [lp_X11_print_112]
    refine ⟨FK h, ra 724, (F724 h).1, (F724 h).2.1 S, ?_, ?_⟩
    · rw [p_aN, (F724 h).2.2.1, show (12 : Int32) = nI 12 from rfl, n_add]; exact n_in (by omega) (by decide)
    · rw [show (12 : Int32) = nI 12 from rfl, n_add, n_clamp (by omega), (F724 h).2.2.2.1 S, q.2.1]
      refine ⟨fun _ => ?_, fun z => absurd (by rw [n_le (by omega) (by omega)]; omega) z⟩
      refine r_say h (c := 32) hP (by omega) (by decide) (by decide) (fun S1 p1 x1 => ⟨FK h, ra 733, (F733 h).1, (F733 h).2.1 S1, ?_, ?_⟩)
      · rw [p_aN, (F733 h).2.2.1]; exact n_in (by omega) (by decide)
      · have hR1 := hR.ex x1
        have q1 := hR1.2 s hs
        have l2 := tmw_len (v := dmk D s)
        have l5 : ((pg0 ++ w) ++ [32]).length ≤ pg0.length + 13 := by rw [List.length_append, List.length_cons, List.length_nil]; omega
        rw [p_aN, (F733 h).2.2.1, n_clamp (by omega), (F733 h).2.2.2.1 S1, q1.2.2.2.1]
        have fin : ∀ S2, RP S2 ((pg0 ++ w) ++ [32] ++ tmw (dmk D s)) → Ex [759, 760] S1 S2 → bk_X11_print_210 m R K (nI s) (pM M m ra S2) := fun S2 p2 x2 => by
          refine r_p210 (C := C) (D := D) h hs h12 (by rw [List.length_append]; omega) (hR1.ex x2) p2 (fun S3 p3 x3 => hK S3 ?_ (hx.trans (x1.trans (x2.trans x3))))
          rw [← he]
          unfold lnT
          simpa [List.append_assoc] using p3
        unfold tmw at fin
        refine ⟨fun z => ⟨n_in (by omega) (by decide), fun y => ⟨n_in (by omega) (by decide), ?_⟩, fun y => ?_⟩, fun z => ?_⟩
        · rw [if_neg z, if_neg y] at fin
          exact r_nmb h hv (by omega) p1 fin
        · rw [if_neg z, if_pos y] at fin
          exact r_sayAll (i := 8) h (by decide) (by decide) (by omega) p1 fin
        · rw [if_pos z] at fin
          exact r_sayAll (i := 7) h (by decide) (by decide) (by omega) p1 fin
  | succ r ih =>
    intro i S w hi hw he hP hx hR
    have hil : i < (cin C s).length := by omega
    have l1 : (pg0 ++ w).length ≤ pg0.length + 12 := by rw [List.length_append]; omega
    have q := hR.2 s hs
    have ea : a_in C s i = (cin C s)[i] := by rw [a_in, List.getD_eq_getElem?_getD, List.getElem?_eq_getElem hil]; rfl
    have e12 : a_in C s i < 12 := by rw [ea]; exact cin12 hW hs _ (List.getElem_mem hil)
    have ln := num12 e12
    rw [lp_X11_print_112]
    refine ⟨FK h, ra 724, (F724 h).1, (F724 h).2.1 S, ?_, ?_⟩
    · rw [p_aN, (F724 h).2.2.1, show (12 : Int32) = nI 12 from rfl, n_add]; exact n_in (by omega) (by decide)
    · rw [show (12 : Int32) = nI 12 from rfl, n_add, n_clamp (by omega), (F724 h).2.2.2.1 S, q.2.1, n_le (by omega) (by omega)]
      refine ⟨fun z => absurd z (by omega), fun _ => ?_⟩
      refine r_say h (c := 32) hP (by omega) (by decide) (by decide) (fun S1 p1 x1 => ⟨FK h, ?_⟩)
      have hR1 := hR.ex x1
      have q1 := hR1.2 s hs
      have l5 : ((pg0 ++ w) ++ [32]).length ≤ pg0.length + 13 := by rw [List.length_append, List.length_cons, List.length_nil]; omega
      rw [e_inputOf h (by omega) (by omega), q1.2.2.1 i hil, j_nI (by omega)]
      refine ⟨FK h, r_nmb h (by rw [pf_lI (by omega)]; omega) (by omega) p1 (fun S2 p2 x2 => ?_)⟩
      rw [show nI i + (1 : Int32) = nI (i + 1) by rw [show (1 : Int32) = nI 1 from rfl, n_add]]
      refine ih (i + 1) S2 (w ++ (32 :: num (lN (a_in C s i)))) (by omega) (by simp only [List.length_append, List.length_cons] at *; omega) ?_ (by simpa [List.append_assoc] using p2) (hx.trans (x1.trans x2)) (hR1.ex x2)
      rw [← he, List.drop_eq_getElem_cons hil, List.flatMap_cons, ← ea, List.append_assoc]
theorem r_wordOf {K : Nat → Mm → Prop} {k : Nat} (hk : k ≤ 5) (hK : ∀ i, 1 ≤ i → i < 11 → stx i = kwd k → K i M) : wp_X11_wordOf M (nI k) K := by
  rcases (show k = 0 ∨ k = 1 ∨ k = 2 ∨ k = 3 ∨ k = 4 ∨ k = 5 by omega) with e | e | e | e | e | e <;> subst e
  · exact ⟨fun z => absurd rfl z, fun _ => ⟨by decide, hK 1 (by decide) (by decide) rfl⟩⟩
  · exact ⟨fun _ => ⟨fun z => absurd rfl z, fun _ => ⟨by decide, hK 2 (by decide) (by decide) rfl⟩⟩, fun z => absurd z (by decide)⟩
  · exact ⟨fun _ => ⟨fun _ => ⟨fun z => absurd rfl z, fun _ => ⟨by decide, hK 3 (by decide) (by decide) rfl⟩⟩, fun z => absurd z (by decide)⟩, fun z => absurd z (by decide)⟩
  · exact ⟨fun _ => ⟨fun _ => ⟨fun _ => ⟨fun z => absurd rfl z, fun _ => ⟨by decide, hK 4 (by decide) (by decide) rfl⟩⟩, fun z => absurd z (by decide)⟩, fun z => absurd z (by decide)⟩, fun z => absurd z (by decide)⟩
  · exact ⟨fun _ => ⟨fun _ => ⟨fun _ => ⟨fun _ => ⟨fun z => absurd rfl z, fun _ => ⟨by decide, hK 5 (by decide) (by decide) rfl⟩⟩, fun z => absurd z (by decide)⟩, fun z => absurd z (by decide)⟩, fun z => absurd z (by decide)⟩, fun z => absurd z (by decide)⟩
  · exact ⟨fun _ => ⟨fun _ => ⟨fun _ => ⟨fun _ => ⟨fun _ => ⟨by decide, hK 6 (by decide) (by decide) rfl⟩, fun z => absurd z (by decide)⟩, fun z => absurd z (by decide)⟩, fun z => absurd z (by decide)⟩, fun z => absurd z (by decide)⟩, fun z => absurd z (by decide)⟩
theorem r_p21 (h : SH M m ra) {K : Int32 → Mm → Prop} (hW : WC C) (hn : ∀ s, s < cn C → WW (cnm C s)) (hv : ∀ s, -9000000000000000000 ≤ (dmk D s).toInt) (hK : ∀ S1, RP S1 (pgs C D (cn C)) → Ex [759, 760] S0 S1 → K (nI (pgs C D (cn C)).length) (pM M m ra S1)) : ∀ (r s : Nat) (S : St), s + r = cn C → RP S (pgs C D s) → Ex [759, 760] S0 S → RLN S C D → lp_X11_print_21 m K (r + 1) (nI s) (pM M m ra S) := by
  have h12 := hW.1
  intro r
  induction r with
  | zero =>
    intro s S hs hP hx hR
    have e : s = cn C := by omega
    subst e
    rw [lp_X11_print_21]
    refine ⟨FK h, ra 729, (F729 h).1, (F729 h).2.1 S, ?_, ?_⟩
    · rw [p_aN, (F729 h).2.2.1]; exact n_in (n := 1) (by decide) (by decide)
    · rw [show (1 : Int32).toNatClampNeg = 1 by decide, (F729 h).2.2.2.1 S, hR.1]
      refine ⟨fun _ => ?_, fun z => absurd (by rw [n_le (by omega) (by omega)]; omega) z⟩
      rw [p_mI, hP.1]
      exact hK S hP hx
  | succ r ih =>
    intro s S hs hP hx hR
    have hsc : s < cn C := by omega
    have hl := pg_len (D := D) hW hn s (by omega)
    have l1 := num12 (show s < 12 by omega)
    have l2 := (hn s hsc).2.1
    have l3 := kwd_len (ckd C s)
    rw [lp_X11_print_21]
    refine ⟨FK h, ra 729, (F729 h).1, (F729 h).2.1 S, ?_, ?_⟩
    · rw [p_aN, (F729 h).2.2.1]; exact n_in (n := 1) (by decide) (by decide)
    · rw [show (1 : Int32).toNatClampNeg = 1 by decide, (F729 h).2.2.2.1 S, hR.1, n_le (by omega) (by omega), j_nI (by omega)]
      refine ⟨fun z => absurd z (by omega), fun _ => ?_⟩
      refine r_nmb h (by rw [pf_lI (by omega)]; omega) (by omega) hP (fun S1 p1 x1 => ⟨FK h, ?_⟩)
      refine r_say h (c := 32) p1 (by simp only [List.length_append] at *; omega) (by decide) (by decide) (fun S2 p2 x2 => ⟨FK h, ra 717, (F717 h).1, (F717 h).2.1 S2, ?_, (cnm C s).length + 1, ?_⟩)
      · rw [p_aN, (F717 h).2.2.1, show (12 : Int32) = nI 12 from rfl, n_add]; exact n_in (by omega) (by decide)
      · have hR2 := (hR.ex x1).ex x2
        rw [show (12 : Int32) = nI 12 from rfl, n_add, n_clamp (by omega), (F717 h).2.2.2.1 S2, (hR2.2 s hsc).2.2.2.2.2.2]
        refine r_p55 (S0 := S) (C := C) (D := D) (pg0 := pgs C D s ++ num (lN s) ++ [32]) h hsc h12 (hn s hsc) (by simp only [List.length_append, List.length_cons, List.length_nil] at *; omega) (fun S3 p3 x3 => ?_) (cnm C s).length S2 (Nat.le_refl _) (by rw [Nat.sub_self, List.take_zero, List.append_nil]; exact p2) (x1.trans x2) hR2
        have hR3 := hR.ex x3
        rw [lp_X11_print_55]
        refine ⟨fun _ => ⟨FK h, ?_⟩, fun z => absurd (by decide) z⟩
        refine r_say h (c := 32) p3 (by simp only [List.length_append, List.length_cons, List.length_nil] at *; omega) (by decide) (by decide) (fun S4 p4 x4 => ⟨FK h, ?_⟩)
        have hR4 := hR3.ex x4
        rw [e_kindOf h (by omega), (hR4.2 s hsc).1]
        refine r_wordOf (hW.2.2.2 s hsc).1 (fun i i1 i2 ie => ⟨FK h, ?_⟩)
        refine r_sayAll h i1 i2 (by simp only [List.length_append, List.length_cons, List.length_nil] at *; omega) p4 (fun S5 p5 x5 => ⟨(cin C s).length + 1, ?_⟩)
        rw [ie] at p5
        refine r_p112 (S0 := S) (C := C) (D := D) (pg0 := pgs C D s ++ num (lN s) ++ [32] ++ cnm C s ++ [32] ++ kwd (ckd C s)) h hW hsc (hv s) (by simp only [List.length_append, List.length_cons, List.length_nil] at *; omega) (fun S6 p6 x6 => ih (s + 1) S6 (by omega) ?_ (hx.trans x6) (hR.ex x6)) (cin C s).length 0 S5 [] (by omega) (Nat.zero_le _) rfl (by rw [List.append_nil]; exact p5) (x3.trans (x4.trans x5)) (hR4.ex x5)
        rw [pgs]
        unfold lnR
        simpa [List.append_assoc] using p6
theorem r_print (h : SH M m ra) {K : Int32 → Mm → Prop} (hW : WC C) (hA : SA S C D) (hN : NMR S C) (hv : ∀ s, -9000000000000000000 ≤ (dmk D s).toInt) (hK : ∀ S1, RP S1 (pgs C D (cn C)) → Ex [704, 759, 760] S S1 → K (nI (pgs C D (cn C)).length) (pM M m ra S1)) : wp_X11_print (pM M m ra S) m K := by
  have e1 : gI (pI S 704 0) 732 = 1 := hA.1.2.1
  have x0 : Ex [704, 759, 760] S (pI (pI S 704 0) 760 0) := (Ex.refl.pI (by decide)).pI (by decide)
  simp only [wp_X11_print, p_sI, p_mI, e1]
  refine ⟨FK h, fun _ => ⟨cn C + 1, ?_⟩, fun z => absurd z (by decide)⟩
  refine r_p21 (S0 := pI (pI S 704 0) 760 0) (C := C) (D := D) h hW (fun s hs => (hN s hs).1) hv (fun S1 p1 x1 => hK S1 p1 (x0.trans (fun f hf => x1 f (fun q => hf (List.mem_cons_of_mem _ q))))) (cn C) 0 _ (by omega) ⟨by simp [sg, pgs]; rfl, Nat.zero_le _, fun i c hc => (by cases hc)⟩ Ex.refl ?_
  have := RLN.of hA hN
  exact this
end D2s
