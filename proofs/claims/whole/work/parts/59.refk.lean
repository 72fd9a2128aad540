/-! the reference: all sums that can be closed -/
def Uq (b : Nat) (D D1 : Dyn) : Prop := dmk D1 = dmk D ∧ did D1 = did D ∧ dps D1 = dps D ∧ dpr D1 = dpr D ∧ dhr D1 = dhr D ∧ dnow D1 = dnow D ∧ dti D1 = dti D ∧ (∀ q, q < b → dwi D1 q = dwi D q ∧ ∀ k, dke D1 q k = dke D q k) ∧ (dou D).length ≤ (dou D1).length ∧ (dla D).length ≤ (dla D1).length
theorem Uq.refl {s : Nat} {D : Dyn} : Uq s D D := ⟨rfl, rfl, rfl, rfl, rfl, rfl, rfl, fun _ _ => ⟨rfl, fun _ => rfl⟩, Nat.le_refl _, Nat.le_refl _⟩
theorem Uq.trans {s : Nat} {D D1 D2 : Dyn} (h : Uq s D D1) (g : Uq s D1 D2) : Uq s D D2 :=
  ⟨g.1.trans h.1, g.2.1.trans h.2.1, g.2.2.1.trans h.2.2.1, g.2.2.2.1.trans h.2.2.2.1, g.2.2.2.2.1.trans h.2.2.2.2.1, g.2.2.2.2.2.1.trans h.2.2.2.2.2.1, g.2.2.2.2.2.2.1.trans h.2.2.2.2.2.2.1, fun q hq => ⟨(g.2.2.2.2.2.2.2.1 q hq).1.trans (h.2.2.2.2.2.2.2.1 q hq).1, fun k => ((g.2.2.2.2.2.2.2.1 q hq).2 k).trans ((h.2.2.2.2.2.2.2.1 q hq).2 k)⟩, Nat.le_trans h.2.2.2.2.2.2.2.2.1 g.2.2.2.2.2.2.2.2.1, Nat.le_trans h.2.2.2.2.2.2.2.2.2 g.2.2.2.2.2.2.2.2.2⟩
theorem Up.uq {s : Nat} {D D1 : Dyn} (h : Up s D D1) : Uq (s + 1) D D1 := ⟨h.1, h.2.1, h.2.2.1, h.2.2.2.1, h.2.2.2.2.1, h.2.2.2.2.2.1, h.2.2.2.2.2.2.1, fun q hq => h.2.2.2.2.2.2.2.1 q (by omega), h.2.2.2.2.2.2.2.2⟩
theorem Uq.le {s t : Nat} {D D1 : Dyn} (h : Uq t D D1) (hs : s ≤ t) : Uq s D D1 := ⟨h.1, h.2.1, h.2.2.1, h.2.2.2.1, h.2.2.2.2.1, h.2.2.2.2.2.1, h.2.2.2.2.2.2.1, fun q hq => h.2.2.2.2.2.2.2.1 q (by omega), h.2.2.2.2.2.2.2.2⟩
theorem LB.uq {s : Nat} {D D1 : Dyn} (h : Uq s D D1) (g : LB D1) : LB D := ⟨Nat.lt_of_le_of_lt h.2.2.2.2.2.2.2.2.1 g.1, Nat.lt_of_le_of_lt h.2.2.2.2.2.2.2.2.2 g.2⟩
theorem uq_wi {s q : Nat} {D : Dyn} {l : List Ent} (h : s ≤ q) : Uq s D (xwi D q l) := by
  refine ⟨rfl, rfl, rfl, rfl, rfl, rfl, rfl, fun r hr => ⟨?_, fun _ => rfl⟩, Nat.le_refl _, Nat.le_refl _⟩
  simp [dg, show r ≠ q by omega]
theorem uq_close {C : Cfg} (hC : WT C) {s : Nat} : ∀ (n : Nat) (D : Dyn), Uq s D (a_close C s n D) := by
  intro n
  induction n with
  | zero => intro D; exact Uq.refl
  | succ n ih =>
    intro D
    rw [a_close]
    cases hw : dwi D s with
    | nil => exact Uq.refl
    | cons e l =>
      dsimp only
      split
      · exact ((uq_wi (Nat.le_refl s)).trans ((up_pass hC 30 _ s _ _ _).uq.le (Nat.le_succ s))).trans (ih _)
      · exact Uq.refl
theorem inv_close {C : Cfg} (hW : WC C) {s : Nat} : ∀ (n : Nat) (D : Dyn), Inv D → Inv (a_close C s n D) := by
  intro n
  induction n with
  | zero => intro D h; exact h
  | succ n ih =>
    intro D h
    rw [a_close]
    cases hw : dwi D s with
    | nil => exact h
    | cons e l =>
      dsimp only
      have hs := h.1 s
      have hb := h.2.2 s
      rw [hw] at hs hb
      split
      · exact ih _ (inv_pass hW 30 _ s _ _ _ (inv_wi h (List.pairwise_cons.mp hs).2 (fun x hx => hb x (by simp [hx]))) (plus_BW (hb e (by simp))))
      · exact h
section R14
variable {M : Mm} {m : Nat} {ra : Nat → Nat} {C : Cfg}
theorem r_closeE (h : SH M m ra) (hW : WC C) {R0 : Int32 → Mm → Prop} {K : Mm → Prop} {s : Nat} {S : St} {D : Dyn} {l : List Ent} {n : Nat} (hs : s < cn C) (hk : ckd C s = 5) (hA : SA S C D) (hI : Inv D) (hp : l.Perm (dwi D s)) (hl : WL S s l) (hn : (dwi D s).length ≤ n) (hb : LB (a_close C s n D)) (hKn : (∀ e ∈ dwi D s, ¬ clo C D s e) → K (pM M m ra S)) (hR : ∀ e L', dwi D s = e :: L' → clo C D s e → ∀ S1, SA S1 C (a_pass C 30 (xwi D s L') s (plusF e.1 (co1 C s - 1)) e.2.1 e.2.2) → R0 (nI s) (pM M m ra S1)) (f : Option Nat) (hf : FstW C D s l l.length f) : lp_X11_close_7 m R0 K 1 (nI s) (fI s f) (nI (24 * s + l.length)) (pM M m ra S) := by
  have h12 := hW.1
  have h24 := hl.2.1
  have hh := fst_head hW hs hk (hI.1 s) hp (fun e he => hI.2.2 s e he) hf
  obtain ⟨c1, c2, c3, c4, c5, c6, c7, c8, c9⟩ := hA.1.2.2.1 s hs
  rw [lp_X11_close_7]
  cases f with
  | none =>
    simp (disch := omega) only [RF h, p_mK, p_mR, p_aN, p_aR, p_mI, p_mJ, p_sI, p_sJ, Option.some.injEq, exists_eq_left', true_and, and_true, na1, na3, n_add, n_mul, n_clamp, n_in, hl.1, n_le, Nat.le_refl, fI, show ((0 : Int32) ≤ -1) = False by decide, not_true, not_false_eq_true, false_implies, forall_const]
    exact hKn hh
  | some j =>
    obtain ⟨e, L', hL, hj, hc⟩ := hh
    have hjl := (List.getElem?_eq_some_iff.mp hj).1
    have f3 := hl.2.2 j e hj
    have r1 : vJ S 745 (24 * s + j) = e.1 := congrArg (fun z => z.1) f3
    have r2 : vI S 746 (24 * s + j) = e.2.1 := congrArg (fun z => z.2.1) f3
    have r3 : vI S 747 (24 * s + j) = e.2.2 := congrArg (fun z => z.2.2) f3
    simp (disch := omega) only [RF h, p_mK, p_mR, p_aN, p_aR, p_mI, p_mJ, p_sI, p_sJ, Option.some.injEq, exists_eq_left', true_and, and_true, na1, na3, n_add, n_mul, n_clamp, n_in, hl.1, n_le, Nat.le_refl, fI, na2, Nat.zero_le, not_true, false_implies, forall_const, r1, r2, r3, c4, e_plus, sg, if_true, Nat.reduceEqDiff, if_false]
    obtain ⟨S1, hS1⟩ : ∃ S1, S1 = wI (wI (wJ (wI S 744 s (nI (l.length - 1))) 745 (24 * s + j) (vJ S 745 (24 * s + (l.length - 1)))) 746 (24 * s + j) (vI S 746 (24 * s + (l.length - 1)))) 747 (24 * s + j) (vI S 747 (24 * s + (l.length - 1))) := ⟨_, rfl⟩
    rw [← hS1]
    have hx : Ex [744, 745, 746, 747] S S1 := by
      rw [hS1]
      exact (((Ex.refl.wI (by decide)).wJ (by decide)).wI (by decide)).wI (by decide)
    have h744 : ∀ q, vI S1 744 q = if q = s then nI (l.length - 1) else vI S 744 q := fun q => by rw [hS1]; simp [sg]
    have hw : ∀ p i, i < 24 → w3 S1 p i = if p = s ∧ i = j then w3 S s (l.length - 1) else w3 S p i := fun p i hi => by
      rw [hS1]
      by_cases g : p = s ∧ i = j
      · obtain ⟨rfl, rfl⟩ := g
        rw [if_pos ⟨rfl, rfl⟩]
        simp [w3, sg]
      · have e9 : ¬ 24 * p + i = 24 * s + j := by omega
        rw [if_neg g]
        simp [w3, sg, e9]
    clear hS1
    obtain ⟨A, B, hAB, hlen⟩ : ∃ A B, l = A ++ e :: B ∧ A.length = j := by
      refine ⟨l.take j, l.drop (j + 1), ?_, by simp; omega⟩
      have h1 := List.take_append_drop j l
      have h2 : l.drop j = e :: l.drop (j + 1) := by
        rw [List.drop_eq_getElem_cons hjl]
        rw [(List.getElem?_eq_some_iff.mp hj).2]
      rw [← h2]; exact h1.symm
    obtain ⟨l', p1, p2, p3⟩ := swap_perm (A := A) (B := B) (e := e)
    rw [← hAB] at p2 p3
    have pL : (A ++ B).Perm L' := by
      have := hp
      rw [hAB, hL] at this
      exact (List.perm_middle.symm.trans this).cons_inv
    have hWL : WL S1 s l' := by
      refine ⟨by rw [h744, if_pos rfl]; congr 1; omega, by omega, fun i x hi => ?_⟩
      obtain ⟨q1, q2⟩ := p3 i x hi
      rw [hw s i (by omega)]
      by_cases g : i = j
      · rw [if_pos ⟨rfl, g⟩]
        rw [if_pos (by omega)] at q2
        exact hl.2.2 _ x q2
      · rw [if_neg (fun z => g z.2)]
        rw [if_neg (by omega)] at q2
        exact hl.2.2 _ x q2
    have hA1 : SA S1 C (xwi D s L') := SA_wi hA hx (p1.trans pL) hWL (fun p l'' hp' hl'' => ⟨by rw [h744, if_neg hp']; exact hl''.1, hl''.2.1, fun i x hi => by
      have hi24 : i < 24 := Nat.lt_of_lt_of_le (List.getElem?_eq_some_iff.mp hi).1 hl''.2.1
      rw [hw p i hi24, if_neg (fun z => hp' z.1)]
      exact hl''.2.2 i x hi⟩)
    have hs0 := hI.1 s
    have hb0 := hI.2.2 s
    rw [hL] at hs0 hb0
    have hI1 : Inv (xwi D s L') := inv_wi hI (List.pairwise_cons.mp hs0).2 (fun x hx => hb0 x (by simp [hx]))
    have hb1 : LB (a_pass C 30 (xwi D s L') s (plusF e.1 (co1 C s - 1)) e.2.1 e.2.2) := by
      cases n with
      | zero => rw [hL] at hn; simp at hn
      | succ n =>
        rw [a_close, hL] at hb
        dsimp only at hb
        rw [if_pos (show plusF e.1 (co1 C s - 1) ≤ dmk D s from hc)] at hb
        exact LB.uq (uq_close hW.2.1 n _) hb
    exact r_pass h hW 30 S1 _ s _ _ _ _ hs (by omega) hA1 hI1 (plus_BW (hb0 e (by simp))) hb1 (fun S2 hS2 => hR e L' hL hc S2 hS2)
theorem r_closeN (h : SH M m ra) (hW : WC C) {K : Mm → Prop} {s : Nat} (hs : s < cn C) (hk : ckd C s = 5) : ∀ (n : Nat) (S : St) (D : Dyn), (dwi D s).length = n → SA S C D → Inv D → LB (a_close C s n D) → (∀ S1, SA S1 C (a_close C s n D) → K (pM M m ra S1)) → lp_X11_close_0 m K (n + 1) (nI s) (pM M m ra S) := by
  intro n
  have h12 := hW.1
  induction n with
  | zero =>
    intro S D hn hA hI hb hK
    obtain ⟨l, hp, hl⟩ := hA.2.2.2.2.2.2.2.2.2.2.1 s hs
    have hnil : dwi D s = [] := List.length_eq_zero_iff.mp hn
    rw [lp_X11_close_0]
    have := r_closeI (R0 := lp_X11_close_0 m K 0) (K := K) h hW hs hA hl (KD_of (hI.1 s) hp) (fun f hf => r_closeE (n := 0) h hW hs hk hA hI hp hl (by omega) hb (fun _ => hK S hA) (fun e L' q => by rw [hnil] at q; cases q) f hf) l 0 none rfl (Nat.zero_le _) (fun x e hx => by omega)
    refine ⟨l.length + 1, ?_⟩
    simpa (disch := omega) only [fI, na1, Nat.add_zero] using this
  | succ n ih =>
    intro S D hn hA hI hb hK
    obtain ⟨l, hp, hl⟩ := hA.2.2.2.2.2.2.2.2.2.2.1 s hs
    rw [lp_X11_close_0]
    have := r_closeI (R0 := lp_X11_close_0 m K (n + 1)) (K := K) h hW hs hA hl (KD_of (hI.1 s) hp) (fun f hf => r_closeE (n := n + 1) h hW hs hk hA hI hp hl (by omega) hb (fun hno => ?_) (fun e L' q hc S1 hS1 => ?_) f hf) l 0 none rfl (Nat.zero_le _) (fun x e hx => by omega)
    · refine ⟨l.length + 1, ?_⟩
      simpa (disch := omega) only [fI, na1, Nat.add_zero] using this
    · refine hK S ?_
      rw [a_close]
      cases hw : dwi D s with
      | nil => exact hA
      | cons e l =>
        dsimp only
        rw [if_neg (show ¬ plusF e.1 (co1 C s - 1) ≤ dmk D s from hno e (by rw [hw]; simp))]
        exact hA
    · have e1 : a_close C s (n + 1) D = a_close C s n (a_pass C 30 (xwi D s L') s (plusF e.1 (co1 C s - 1)) e.2.1 e.2.2) := by
        rw [a_close, q]
        dsimp only
        rw [if_pos (show plusF e.1 (co1 C s - 1) ≤ dmk D s from hc)]
      rw [e1] at hb hK
      have hs0 := hI.1 s
      have hb0 := hI.2.2 s
      rw [q] at hs0 hb0
      have hI1 : Inv (xwi D s L') := inv_wi hI (List.pairwise_cons.mp hs0).2 (fun x hx => hb0 x (by simp [hx]))
      have hu := up_pass hW.2.1 30 (xwi D s L') s (plusF e.1 (co1 C s - 1)) e.2.1 e.2.2
      refine ih S1 _ ?_ hS1 (inv_pass hW 30 _ s _ _ _ hI1 (plus_BW (hb0 e (by simp)))) hb hK
      rw [(hu.2.2.2.2.2.2.2.1 s (Nat.le_refl s)).1]
      simp only [dg, if_true]
      rw [q] at hn
      simpa using hn
theorem r_close (h : SH M m ra) (hW : WC C) {K : Mm → Prop} {s : Nat} {S : St} {D : Dyn} (hs : s < cn C) (hk : ckd C s = 5) (hA : SA S C D) (hI : Inv D) (hb : LB (a_close C s (dwi D s).length D)) (hK : ∀ S1, SA S1 C (a_close C s (dwi D s).length D) → K (pM M m ra S1)) : wp_X11_close (pM M m ra S) m (nI s) K := ⟨_, r_closeN h hW hs hk _ S D rfl hA hI hb hK⟩
end R14
