/-! what is reckoned once stays so: to reckon again changes nothing -/
def a_goalM (C : Cfg) (D : Dyn) (s : Nat) (m : Int64) : Option Int64 :=
  if ckd C s = 0 then (if a_allE D s (cpt C s) then a_least (a_srcG D s (cpt C s)) 9000000000000000000 else a_srcG D s (cpt C s))
  else if ckd C s = 1 ∨ ckd C s = 4 then (if (cin C s).all (fun i => decide (dmk D i = 9000000000000000000)) then a_least (a_inG D (cin C s)) 9000000000000000000 else a_inG D (cin C s))
  else if ckd C s = 3 then (match a_holdG D s with
    | none => if did D (a_in C s 0) then none else some (dmk D (a_in C s 0))
    | some g => a_least (some g) (if did D (a_in C s 0) then m else dmk D (a_in C s 0)))
  else if did D (a_in C s 0) then none else some (if ckd C s = 2 then plusF (dmk D (a_in C s 0)) (co1 C s) else dmk D (a_in C s 0))
theorem goalM_eq (C : Cfg) (D : Dyn) (s : Nat) : a_goal C D s = a_goalM C D s (dmk D s) := rfl
theorem goalM_up {C : Cfg} {D : Dyn} {s : Nat} {m v : Int64} (h : a_goalM C D s m = some v) (hv : m < v) : a_goalM C D s v = a_goalM C D s m := by
  rw [h]
  unfold a_goalM at h ⊢
  split at h
  · rename_i z; rw [if_pos z]; exact h
  · rename_i z
    rw [if_neg z]
    split at h
    · rename_i y; rw [if_pos y]; exact h
    · rename_i y
      rw [if_neg y]
      split at h
      · rename_i x
        rw [if_pos x]
        split at h
        · exact h
        · rename_i g hg
          by_cases c : did D (a_in C s 0) = true
          · exfalso
            rw [if_pos c] at h
            have h : some (if m < g then m else g) = some v := h
            cases h
            split at hv
            · exact Int64.lt_irrefl hv
            · rename_i w; exact w hv
          · rw [if_neg c] at h ⊢; exact h
      · rename_i x; rw [if_neg x]; exact h
theorem srcG_congr {D D' : Dyn} {s : Nat} (h1 : dps D' = dps D) (h2 : dpr D' = dpr D) : ∀ n, a_srcG D' s n = a_srcG D s n
  | 0 => rfl
  | n + 1 => by rw [a_srcG, a_srcG, srcG_congr h1 h2 n, h1, h2]
theorem inG_congr {D D' : Dyn} (l : List Nat) : (∀ q ∈ l, dmk D' q = dmk D q ∧ did D' q = did D q) → ∀ o, l.foldl (fun o i => if did D' i = false ∧ ¬ dmk D' i = 9000000000000000000 then a_least o (dmk D' i) else o) o = l.foldl (fun o i => if did D i = false ∧ ¬ dmk D i = 9000000000000000000 then a_least o (dmk D i) else o) o := by
  induction l with
  | nil => intro _ o; rfl
  | cons a l ih =>
    intro h o
    rw [List.foldl_cons, List.foldl_cons, (h a (by simp)).1, (h a (by simp)).2]
    exact ih (fun q hq => h q (by simp [hq])) _
/-- two states that are alike in the streams ahead of b -/
def Lk (b : Nat) (D D' : Dyn) : Prop := dps D' = dps D ∧ dpr D' = dpr D ∧ dti D' = dti D ∧ ∀ q, q < b → dmk D' q = dmk D q ∧ did D' q = did D q ∧ dwi D' q = dwi D q ∧ ∀ k, dke D' q k = dke D q k
theorem Lk.refl {b : Nat} {D : Dyn} : Lk b D D := ⟨rfl, rfl, rfl, fun _ _ => ⟨rfl, rfl, rfl, fun _ => rfl⟩⟩
theorem Lk.trans {b : Nat} {D D1 D2 : Dyn} (h : Lk b D D1) (g : Lk b D1 D2) : Lk b D D2 := ⟨g.1.trans h.1, g.2.1.trans h.2.1, g.2.2.1.trans h.2.2.1, fun q hq => ⟨(g.2.2.2 q hq).1.trans (h.2.2.2 q hq).1, (g.2.2.2 q hq).2.1.trans (h.2.2.2 q hq).2.1, (g.2.2.2 q hq).2.2.1.trans (h.2.2.2 q hq).2.2.1, fun k => ((g.2.2.2 q hq).2.2.2 k).trans ((h.2.2.2 q hq).2.2.2 k)⟩⟩
theorem goalM_congr {C : Cfg} {D D' : Dyn} {s : Nat} {m : Int64} (hW : WC C) (hs : s < cn C) (h : Lk s D D') : a_goalM C D' s m = a_goalM C D s m := by
  obtain ⟨h1, h2, h3, h4⟩ := h
  obtain ⟨w1, w2, w3, w4, w5, w6, w7, -⟩ := hW.2.2.2 s hs
  have hin : ∀ q ∈ cin C s, q < s := fun q hq => by
    obtain ⟨i, hi, e⟩ := List.mem_iff_getElem.mp hq
    have := hW.2.2.1 s i hs hi
    rw [a_in, List.getD_eq_getElem?_getD, List.getElem?_eq_getElem hi, e] at this
    exact this
  have e1 : a_allE D' s (cpt C s) = a_allE D s (cpt C s) := by unfold a_allE; rw [h1]
  have e2 : (cin C s).all (fun i => decide (dmk D' i = 9000000000000000000)) = (cin C s).all (fun i => decide (dmk D i = 9000000000000000000)) := by
    rw [Bool.eq_iff_iff, List.all_eq_true, List.all_eq_true]
    constructor
    · intro z x hx
      have := z x hx
      rwa [(h4 x (hin x hx)).1] at this
    · intro z x hx
      rw [(h4 x (hin x hx)).1]
      exact z x hx
  have e3 : a_inG D' (cin C s) = a_inG D (cin C s) := inG_congr (cin C s) (fun q hq => ⟨(h4 q (hin q hq)).1, (h4 q (hin q hq)).2.1⟩) none
  have e4 : a_holdG D' s = a_holdG D s := by unfold a_holdG; rw [h3]
  unfold a_goalM
  rw [e1, srcG_congr h1 h2, e2, e3, e4]
  by_cases k0 : ckd C s = 0
  · rw [if_pos k0, if_pos k0]
  rw [if_neg k0, if_neg k0]
  by_cases k1 : ckd C s = 1 ∨ ckd C s = 4
  · rw [if_pos k1, if_pos k1]
  rw [if_neg k1, if_neg k1]
  have hl : (cin C s).length = 1 := w7 (by omega)
  have i0 := hW.2.2.1 s 0 hs (by omega)
  rw [(h4 _ i0).1, (h4 _ i0).2.1]
def Settled (C : Cfg) (D : Dyn) (s : Nat) : Prop := did D s = (a_goal C D s).isNone ∧ (∀ v, a_goal C D s = some v → ¬ dmk D s < v) ∧ (ckd C s = 5 → ∀ e l, dwi D s = e :: l → ¬ plusF e.1 (co1 C s - 1) ≤ dmk D s) ∧ (ckd C s = 4 → ∀ k, k < 2 → ∀ e ∈ dke D s k, a_far C D s k e.1 = false)
theorem xid_self (D : Dyn) (s : Nat) : xid D s (did D s) = D := by
  simp only [xid, dmk, did, dps, dpr, dhr, dnow, dou, dla, dlo, dwi, dke, dti]
  have e : (fun q => if q = s then D.2.1 s else D.2.1 q) = D.2.1 := by
    funext q
    by_cases a : q = s <;> simp [a]
  rw [e]
theorem settled_step {C : Cfg} {D : Dyn} {s : Nat} (h : Settled C D s) : a_step C D s = D := by
  obtain ⟨h1, h2, h3, h4⟩ := h
  have hr : a_raise D s (a_goal C D s) = D := by
    unfold a_raise
    cases hg : a_goal C D s with
    | none =>
      rw [hg] at h1
      have := xid_self D s
      rw [h1] at this; exact this
    | some v =>
      rw [hg] at h1
      have := xid_self D s
      rw [h1] at this
      dsimp only
      rw [if_neg (h2 v hg)]
      exact this
  unfold a_step
  rw [hr]
  by_cases k5 : ckd C s = 5
  · rw [if_pos k5]
    cases hw : dwi D s with
    | nil => rfl
    | cons e l =>
      rw [List.length_cons, a_close, hw]
      dsimp only
      rw [if_neg (h3 k5 e l hw)]
  rw [if_neg k5]
  by_cases k4 : ckd C s = 4
  · rw [if_pos k4]
    have hd : ∀ k, k < 2 → a_drop C D s k = D := fun k hk => by
      unfold a_drop
      have : (dke D s k).filter (fun e => !(a_far C D s k e.1)) = dke D s k := List.filter_eq_self.mpr (fun e he => by rw [h4 k4 k hk e he]; rfl)
      rw [this, xke_self]
    rw [hd 0 (by omega), hd 1 (by omega)]
  · rw [if_neg k4]
theorem far_congr {C : Cfg} {D D' : Dyn} {s k : Nat} {t : Int64} (hW : WC C) (hs : s < cn C) (h4 : ckd C s = 4) (h : Lk s D D') : a_far C D' s k t = a_far C D s k t := by
  have hl := (hW.2.2.2 s hs).2.2.2.2.2.1 h4
  have i0 := hW.2.2.1 s 0 hs (by omega)
  have i1 := hW.2.2.1 s 1 hs (by omega)
  unfold a_far
  rw [(h.2.2.2 _ i0).1, (h.2.2.2 _ i1).1]
theorem settled_congr {C : Cfg} {D D' : Dyn} {s : Nat} (hW : WC C) (hs : s < cn C) (h : Lk (s + 1) D D') (g : Settled C D s) : Settled C D' s := by
  have hl : Lk s D D' := ⟨h.1, h.2.1, h.2.2.1, fun q hq => h.2.2.2 q (by omega)⟩
  obtain ⟨m1, m2, m3, m4⟩ := h.2.2.2 s (by omega)
  have eg : a_goal C D' s = a_goal C D s := by rw [goalM_eq, goalM_eq, m1, goalM_congr hW hs hl]
  obtain ⟨g1, g2, g3, g4⟩ := g
  refine ⟨by rw [m2, eg]; exact g1, by rw [m1, eg]; exact g2, fun k5 => by rw [m3, m1]; exact g3 k5, fun k4 k hk e he => ?_⟩
  rw [m4] at he
  rw [far_congr hW hs k4 hl]
  exact g4 k4 k hk e he
theorem lk_raise {D : Dyn} {s : Nat} {g : Option Int64} : Lk s D (a_raise D s g) := by
  refine ⟨rq_raise.1, rq_raise.2.1, rq_raise.2.2.2.2.1, fun q hq => ⟨?_, ?_, ?_, fun k => ?_⟩⟩
  · unfold a_raise
    split
    · rfl
    · split
      · simp only [dg]; rw [if_neg (by omega)]
      · rfl
  · unfold a_raise
    split
    · simp only [dg]; rw [if_neg (by omega)]
    · split
      · simp only [dg]; rw [if_neg (by omega)]
      · simp only [dg]; rw [if_neg (by omega)]
  · rw [wi_raise.1]
  · rw [wi_raise.2]
theorem Uq.lk {s : Nat} {D D1 : Dyn} (h : Uq s D D1) : Lk s D D1 := ⟨h.2.2.1, h.2.2.2.1, h.2.2.2.2.2.2.1, fun q hq => ⟨by rw [h.1], by rw [h.2.1], (h.2.2.2.2.2.2.2.1 q hq).1, (h.2.2.2.2.2.2.2.1 q hq).2⟩⟩
theorem lk_drop {C : Cfg} {D : Dyn} {s k : Nat} : Lk s D (a_drop C D s k) := by
  refine ⟨rfl, rfl, rfl, fun q hq => ⟨rfl, rfl, rfl, fun j => ?_⟩⟩
  unfold a_drop
  simp only [dg]
  rw [if_neg (by omega)]
theorem lk_step {C : Cfg} {D : Dyn} {s : Nat} (hC : WT C) : Lk s D (a_step C D s) := by
  unfold a_step
  split
  · exact lk_raise.trans (uq_close hC _ _).lk
  · split
    · exact (lk_raise.trans lk_drop).trans lk_drop
    · exact lk_raise
/-- behind the closing no sum is left that should be closed -/
theorem close_done {C : Cfg} (hC : WT C) {s : Nat} : ∀ (n : Nat) (D : Dyn), (dwi D s).length = n → ∀ e l, dwi (a_close C s n D) s = e :: l → ¬ plusF e.1 (co1 C s - 1) ≤ dmk D s
  | 0, D, hn, e, l, h => by
    rw [a_close] at h
    rw [h] at hn; simp at hn
  | n + 1, D, hn, e, l, h => by
    rw [a_close] at h
    cases hw : dwi D s with
    | nil => rw [hw] at hn; simp at hn
    | cons x r =>
      rw [hw] at h
      dsimp only at h
      by_cases c : plusF x.1 (co1 C s - 1) ≤ dmk D s
      · rw [if_pos c] at h
        have hu := up_pass hC 30 (xwi D s r) s (plusF x.1 (co1 C s - 1)) x.2.1 x.2.2
        have e1 : dwi (a_pass C 30 (xwi D s r) s (plusF x.1 (co1 C s - 1)) x.2.1 x.2.2) s = r := by
          rw [(hu.2.2.2.2.2.2.2.1 s (Nat.le_refl s)).1]; simp only [dg, if_true]
        have := close_done hC n _ (by rw [e1]; rw [hw] at hn; simpa using hn) e l h
        rw [hu.1] at this
        exact this
      · rw [if_neg c, hw] at h
        cases h; exact c
theorem step_settled {C : Cfg} {D : Dyn} {s : Nat} (hW : WC C) (hs : s < cn C) : Settled C (a_step C D s) s := by
  have hlk := lk_step (D := D) (s := s) hW.2.1 (C := C)
  -- the mark and the idleness behind the step
  have hm : dmk (a_step C D s) s = dmk (a_raise D s (a_goal C D s)) s ∧ did (a_step C D s) s = did (a_raise D s (a_goal C D s)) s := by
    unfold a_step
    split
    · have := uq_close hW.2.1 (s := s) (dwi D s).length (a_raise D s (a_goal C D s))
      rw [this.1, this.2.1]; exact ⟨rfl, rfl⟩
    · split
      · exact ⟨rfl, rfl⟩
      · exact ⟨rfl, rfl⟩
  have hgo : a_goal C (a_step C D s) s = a_goal C D s := by
    rw [goalM_eq, goalM_congr hW hs hlk, hm.1]
    unfold a_raise
    cases hg : a_goal C D s with
    | none => exact hg
    | some v =>
      dsimp only
      by_cases c : dmk D s < v
      · rw [if_pos c]
        simp only [dg, if_true]
        rw [goalM_up hg c]
        exact hg
      · rw [if_neg c]; exact hg
  refine ⟨?_, fun v hv => ?_, fun k5 e l h => ?_, fun k4 k hk e he => ?_⟩
  · rw [hgo, hm.2]
    unfold a_raise
    cases hg : a_goal C D s with
    | none => simp only [dg, if_true]; rfl
    | some v =>
      dsimp only
      split
      · simp only [dg, if_true]; rfl
      · simp only [dg, if_true]; rfl
  · rw [hgo] at hv
    rw [hm.1, hv, a_raise]
    split
    · simp only [dg, if_true]; exact Int64.lt_irrefl
    · rename_i z; exact z
  · rw [hm.1]
    unfold a_step at h
    rw [if_pos k5] at h
    exact close_done hW.2.1 _ _ (by rw [wi_raise.1]) e l h
  · rw [far_congr hW hs k4 hlk]
    have e5 : ¬ ckd C s = 5 := by omega
    unfold a_step at he
    rw [if_neg e5, if_pos k4] at he
    have hr := lk_raise (D := D) (s := s) (g := a_goal C D s)
    rcases (show k = 0 ∨ k = 1 by omega) with rfl | rfl
    · unfold a_drop at he
      simp only [dg, if_true, show ¬ (0 = 1) by omega, if_false] at he
      have := (List.mem_filter.mp he).2
      rw [far_congr hW hs k4 hr] at this
      simpa using this
    · unfold a_drop at he
      simp only [dg, if_true, show ¬ (1 = 0) by omega, if_false] at he
      have := (List.mem_filter.mp he).2
      have e6 : a_far C (xke (a_raise D s (a_goal C D s)) s 0 ((dke (a_raise D s (a_goal C D s)) s 0).filter (fun e => !(a_far C (a_raise D s (a_goal C D s)) s 0 e.1)))) s 1 e.1 = a_far C D s 1 e.1 := far_congr hW hs k4 (hr.trans lk_drop)
      rw [e6] at this
      simpa using this
theorem reckN_settled {C : Cfg} {D : Dyn} (hW : WC C) : ∀ n, n ≤ cn C → ∀ s, s < n → Settled C (a_reckN C D n) s
  | 0, _, s, hs => by omega
  | n + 1, hn, s, hs => by
    by_cases e : s = n
    · subst e; exact step_settled hW (by omega)
    · have h := lk_step (D := a_reckN C D n) (s := n) hW.2.1 (C := C)
      exact settled_congr hW (by omega) ⟨h.1, h.2.1, h.2.2.1, fun q hq => h.2.2.2 q (by omega)⟩ (reckN_settled hW n (by omega) s (by omega))
theorem settled_reckN {C : Cfg} {D : Dyn} (h : ∀ s, s < cn C → Settled C D s) : ∀ n, n ≤ cn C → a_reckN C D n = D
  | 0, _ => rfl
  | n + 1, hn => by rw [a_reckN, settled_reckN h n (by omega), settled_step (h n (by omega))]
theorem reckon_again {C : Cfg} {D : Dyn} (hW : WC C) : a_reckon C (a_reckon C D) = a_reckon C D := settled_reckN (reckN_settled hW (cn C) (Nat.le_refl _)) _ (Nat.le_refl _)
