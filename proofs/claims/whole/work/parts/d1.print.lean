/-! the class prints; letters -/
section D1s
variable {M M1 B : Mm} {L : Nat → Nat → Nat} {C : Cfg} {D : Dyn}
theorem CGR.px {n b a : Nat} (h : CGR M L n) (p : PX b a M M1) : CGR M1 L n := by
  obtain ⟨p1, p2, p3, p4, p5, p6, p7, p8⟩ := p
  unfold CGR at *
  simp only [p1, p2, p4, p7 69 _ (fun e => absurd e.1 (by decide))]
  exact h
theorem c_pl {K : Mm → Prop} {b a : Nat} {B0 : Mm} (hW : WC C) (hn : ∀ s, s < cn C → WW (cnm C s)) (hv : ∀ s, -9000000000000000000 ≤ (dmk D s).toInt) (hK : ∀ M1, YB M1 b a 800 (pgs C D (cn C)) → PX b a B0 M1 → K M1) : ∀ (r s : Nat) (M : Mm), s + r = cn C → YB M b a 800 (pgs C D s) → PX b a B0 M → CGR M L (cn C) → (∀ q, q < cn C → CL M L C D q ∧ aR M (L 0 2) q = some (L 1 q)) → lp_X1_write_2 (L 0 1) K (r + 1) (some b) (nI s) M := by
  have h12 := hW.1
  intro r
  induction r with
  | zero =>
    intro s M hs hY hP hG hC
    have e : s = cn C := by omega
    subst e
    rw [lp_X1_write_2, hG.2.2.2.2.2.2.1]
    exact ⟨hG.1, fun _ => hK M hY hP, fun z => absurd (by rw [n_le (by omega) (by omega)]; omega) z⟩
  | succ r ih =>
    intro s M hs hY hP hG hC
    have hl := pg_len (D := D) hW hn s (by omega)
    rw [lp_X1_write_2, hG.2.2.2.2.2.2.1, n_le (by omega) (by omega)]
    refine ⟨hG.1, fun z => absurd z (by omega), fun _ => ⟨L 0 2, hG.2.2.2.1, isA_of hG.2.2.2.2.2.2.2.1.1 (by decide) (by decide), by rw [hG.2.2.2.2.2.2.2.1.2]; exact n_in (by omega) (by decide), L 1 s, by rw [n_clamp (by omega)]; exact (hC s (by omega)).2, (hC s (by omega)).1.1, ?_⟩⟩
    refine c_line hW (by omega) (hn s (by omega)) (hv s) (by omega) hY (hC s (by omega)).1 (fun M1 y p => ?_)
    rw [show nI s + (1 : Int32) = nI (s + 1) by rw [show (1 : Int32) = nI 1 from rfl, n_add]]
    exact ih (s + 1) M1 (by omega) y (hP.trans p) (hG.px p) (fun q hq => ⟨(hC q hq).1.px p, by rw [p.2.2.2.2.2.1]; exact (hC q hq).2⟩)
theorem c_print {K : Int32 → Mm → Prop} {bs0 : List Nat} (hW : WC C) (hR : CR B M L C D) (hN : NMC M L C) (hv : ∀ s, -9000000000000000000 ≤ (dmk D s).toInt) (hY : YB M (L 0 10) (L 0 11) 800 bs0) (hK : ∀ M1, YB M1 (L 0 10) (L 0 11) 800 (pgs C D (cn C)) → PX (L 0 10) (L 0 11) M M1 → K (nI (pgs C D (cn C)).length) M1) : wp_X10_print M (L 0 0) K := by
  obtain ⟨hO, h44, hG, hS, -⟩ := hR.2.1
  have p0 : PX (L 0 10) (L 0 11) M (sI M 1 (L 0 10) 0) := ⟨rfl, rfl, rfl, rfl, rfl, rfl, fun f x z => (by
    by_cases ex : x = L 0 10
    · have ef : ¬ f = 1 := fun e => z ⟨e, ex⟩
      simp [ms, ef]
    · simp [ms, ex]), fun _ _ _ => rfl⟩
  refine ⟨hO.1, fun z => (by rw [h44] at z; cases z), fun a2 _ => ⟨L 0 10, hO.2.2.1, hY.1, hY.1, hO.1, L 0 1, h44, hG.1, ?_⟩⟩
  have e41 : mR (sI M 1 (L 0 10) 0) 641 (L 0 0) = some (L 0 10) := hO.2.2.1
  rw [e41]
  refine ⟨cn C + 1, ?_⟩
  refine c_pl (D := D) (b := L 0 10) (a := L 0 11) (B0 := M) hW (fun s hs => (hN s hs).1) hv (fun M1 y p => ?_) (cn C) 0 _ (by omega) ⟨hY.1, hY.2.1, hY.2.2.1, hY.2.2.2.1, by simp [ms, pgs]; rfl, Nat.zero_le _, fun i c hc => (by cases hc)⟩ p0 (hG.px p0) (fun q hq => ⟨(CL.of hW hR hN hq).px p0, (hS q hq).1⟩)
  refine ⟨by rw [p.1]; exact hO.1, L 0 10, by rw [p.2.1]; exact hO.2.2.1, y.1, ?_⟩
  rw [y.2.2.2.2.1]
  exact hK M1 y p
/-- a letter of the page -/
def a_let (pg : List Nat) (i : Int32) : Int32 := if i < 0 then -1 else match pg[i.toNatClampNeg]? with
  | none => -1
  | some c => nI c
theorem i_nI {i : Int32} (h : ¬ i < 0) : ∃ k, i = nI k ∧ k < 2147483648 := by
  rw [Int32.lt_iff_toInt_lt] at h
  have e0 : (0 : Int32).toInt = 0 := by decide
  rw [e0] at h
  have := Int32.toInt_lt i
  refine ⟨i.toInt.toNat, Int32.toInt_inj.mp ?_, by omega⟩
  rw [n_toInt (by omega)]; omega
theorem c_letter {K : Int32 → Mm → Prop} {pg : List Nat} {i : Int32} (hO : COB M L) (hY : YB M (L 0 10) (L 0 11) 800 pg) (hK : K (a_let pg i) M) : wp_X10_letter M (L 0 0) i K := by
  unfold a_let at hK
  have hl := hY.2.2.2.2.2.1
  have neg : K (-1) M → (((0 : Int32) ≤ (-1) → bk_X10_letter_18 (L 0 0) K (-1) M) ∧ (¬ (0 : Int32) ≤ (-1) → bk_X10_letter_18 (L 0 0) K (-1) M)) := fun h => ⟨fun _ => h, fun _ => h⟩
  refine ⟨hO.1, L 0 10, hO.2.2.1, hY.1, fun z => ?_, fun z => ⟨hY.1, fun y => ?_, fun y => ?_⟩⟩
  · rw [if_pos z] at hK; exact neg hK
  · rw [if_neg z] at hK
    obtain ⟨k, rfl, hk⟩ := i_nI z
    rw [hY.2.2.2.2.1, n_le (by omega) hk] at y
    rw [n_clamp hk, List.getElem?_eq_none y] at hK
    exact neg hK
  · rw [if_neg z] at hK
    obtain ⟨k, rfl, hk⟩ := i_nI z
    rw [hY.2.2.2.2.1, n_le (by omega) hk] at y
    have hk2 : k < pg.length := by omega
    rw [n_clamp hk, List.getElem?_eq_getElem hk2] at hK
    have q := hY.2.2.2.2.2.2 k _ (List.getElem?_eq_getElem hk2)
    refine ⟨L 0 11, hY.2.1, isA_of hY.2.2.1 (by decide) (by decide), by rw [hY.2.2.2.1]; exact n_in (by omega) (by decide), ?_⟩
    rw [n_clamp hk, q.2, sg_and _ q.1]
    exact ⟨fun _ => hK, fun z => absurd (by rw [show (0 : Int32) = nI 0 from rfl, n_le (by omega) (by omega)]; omega) z⟩
end D1s
section D1r
variable {M : Mm} {m : Nat} {ra : Nat → Nat} {S : St}
theorem r_letter (h : SH M m ra) {K : Int32 → Mm → Prop} {pg : List Nat} {i : Int32} (hP : RP S pg) (h128 : ∀ c ∈ pg, c < 128) (hK : K (a_let pg i) (pM M m ra (pI S 704 0))) : wp_X11_letter (pM M m ra S) m i K := by
  have e0 : gI (pI S 704 0) 760 = nI pg.length := hP.1
  have hl := hP.2.1
  unfold a_let at hK
  simp only [wp_X11_letter, bk_X11_letter_17, bk_X11_letter_27, p_sI, p_mI, e0]
  refine ⟨FK h, fun z => ?_, fun z => ⟨fun y => ?_, fun y => ?_⟩⟩
  · rw [if_pos z] at hK; exact hK
  · rw [if_neg z] at hK
    obtain ⟨k, rfl, hk⟩ := i_nI z
    rw [n_lt hk (by omega)] at y
    rw [n_clamp hk, List.getElem?_eq_getElem y] at hK
    have q := hP.2.2 k _ (List.getElem?_eq_getElem y)
    have q2 := h128 _ (List.getElem_mem y)
    simp (disch := omega) only [RF h, p_mK, p_mR, p_aN, p_aR, p_mI, p_mJ, p_sI, p_sJ, Option.some.injEq, exists_eq_left', true_and, and_true, na1, na3, n_add, n_mul, n_clamp, n_in]
    have e5 : vI (pI S 704 0) 759 k = nI pg[k] := by
      show vI S 759 k = _
      rw [q.2, sg_s q2]
    rw [e5]
    exact hK
  · rw [if_neg z] at hK
    obtain ⟨k, rfl, hk⟩ := i_nI z
    rw [n_lt hk (by omega)] at y
    rw [n_clamp hk, List.getElem?_eq_none (by omega)] at hK
    exact hK
end D1r
/-! all letters of a page are small -/
theorem mem_num {v : Int64} : ∀ c ∈ num v, c < 128 := by
  unfold num
  intro c hc
  split at hc
  · rcases List.mem_cons.1 hc with e | e
    · omega
    · have := dhi_c _ c e; omega
  · have := dhi_c _ c hc; omega
theorem mem_ww {l : List Nat} (h : WW l) : ∀ c ∈ l, c < 128 := fun c hc => by have := h.2.2 c hc; omega
theorem mem_tmw {v : Int64} : ∀ c ∈ tmw v, c < 128 := by
  unfold tmw
  intro c hc
  split at hc
  · exact mem_ww wst_w.1 c hc
  · split at hc
    · exact mem_ww wen_w.1 c hc
    · exact mem_num c hc
theorem mem_idl {b : Bool} : ∀ c ∈ idl b, c < 128 := by
  cases b
  · intro c hc; cases hc
  · decide
theorem mem_ln {C : Cfg} {D : Dyn} {s : Nat} (hn : WW (cnm C s)) : ∀ c ∈ lnR C D s, c < 128 := by
  intro c hc
  unfold lnR lnT at hc
  simp only [List.mem_append, List.mem_flatMap, List.mem_cons, List.not_mem_nil, or_false] at hc
  rcases hc with h | h | h | h | h | h | h | h | h | h
  · exact mem_num c h
  · omega
  · exact mem_ww hn c h
  · omega
  · exact mem_ww (kwd_w _).1 c h
  · obtain ⟨i, _, q⟩ := h
    rcases q with q | q
    · omega
    · exact mem_num c q
  · omega
  · exact mem_tmw c h
  · exact mem_idl c h
  · omega
theorem mem_pg {C : Cfg} {D : Dyn} (hn : ∀ s, s < cn C → WW (cnm C s)) : ∀ n, n ≤ cn C → ∀ c ∈ pgs C D n, c < 128
  | 0, _, c, h => by cases h
  | n + 1, hl, c, h => by
    rw [pgs] at h
    rcases List.mem_append.1 h with q | q
    · exact mem_pg hn n (by omega) c q
    · exact mem_ln (hn n (by omega)) c q
