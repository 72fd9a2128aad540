/-! the class: marks and promises stay in bounds, and all is reckoned -/
theorem HT.hm {t : Int64} (h : HT t) : HM t := Or.inr (Or.inr h)
theorem HM.end : HM 9000000000000000000 := Or.inr (Or.inl rfl)
theorem HM.start : HM (-9000000000000000000) := Or.inl rfl
theorem plus_HM {t n : Int64} (h : HM t) : HM (plusF t n) := by
  rcases h with rfl | rfl | h
  · exact Or.inl rfl
  · exact Or.inr (Or.inl rfl)
  · exact (plus_HT h).hm
theorem least_HM {o : Option Int64} {v w : Int64} (ho : ∀ x, o = some x → HM x) (hv : HM v) (h : a_least o v = some w) : HM w := by
  unfold a_least at h
  split at h
  · cases h; exact hv
  · rename_i g
    cases h
    split
    · exact hv
    · exact ho g rfl
theorem srcG_HM {D : Dyn} {s : Nat} (hp : PB D) : ∀ n v, a_srcG D s n = some v → HM v
  | 0, v, h => by cases h
  | n + 1, v, h => by
    rw [a_srcG] at h
    split at h
    · exact least_HM (srcG_HM hp n) (hp.2.2.2.1 s n) h
    · exact srcG_HM hp n v h
theorem inG_HM {D : Dyn} (hp : PB D) (l : List Nat) : ∀ o : Option Int64, (∀ x, o = some x → HM x) → ∀ v, l.foldl (fun o i => if did D i = false ∧ ¬ dmk D i = 9000000000000000000 then a_least o (dmk D i) else o) o = some v → HM v := by
  induction l with
  | nil => intro o ho v h; exact ho v h
  | cons a l ih =>
    intro o ho v h
    rw [List.foldl_cons] at h
    refine ih _ (fun x hx => ?_) v h
    split at hx
    · exact least_HM ho (hp.2.2.2.2 a) hx
    · exact ho x hx
theorem holdG_HM {s : Nat} (l : List (Nat × Int64 × Bool)) : (∀ x ∈ l, -100000000000000000 ≤ x.2.1.toInt ∧ x.2.1.toInt ≤ 100000000000000000) → ∀ o : Option Int64, (∀ x, o = some x → HM x) → ∀ v, l.foldl (fun o x => if x.2.2 = true ∧ x.1 = s then a_least o (plusF x.2.1 (-1)) else o) o = some v → HM v := by
  induction l with
  | nil => intro _ o ho v h; exact ho v h
  | cons a l ih =>
    intro hl o ho v h
    rw [List.foldl_cons] at h
    refine ih (fun x hx => hl x (by simp [hx])) _ (fun x hx => ?_) v h
    split at hx
    · have := hl a (by simp)
      exact least_HM ho (plus_HT ⟨by omega, by omega⟩).hm hx
    · exact ho x hx
theorem goal_HM {C : Cfg} {D : Dyn} {s : Nat} (hI : IV C D) (hp : PB D) {v : Int64} (h : a_goal C D s = some v) : HM v := by
  unfold a_goal at h
  split at h
  · split at h
    · exact least_HM (srcG_HM hp _) HM.end h
    · exact srcG_HM hp _ v h
  · split at h
    · split at h
      · exact least_HM (fun x hx => inG_HM hp _ none (fun _ z => by cases z) x hx) HM.end h
      · exact inG_HM hp _ none (fun _ z => by cases z) v h
    · split at h
      · split at h
        · split at h
          · cases h
          · cases h; exact hp.2.2.2.2 _
        · rename_i g hg
          refine least_HM (fun x hx => ?_) ?_ h
          · cases hx
            exact holdG_HM (s := s) (dti D) (fun x hx => (hI.2.2 x hx).2) none (fun _ z => by cases z) g hg
          · split <;> exact hp.2.2.2.2 _
      · split at h
        · cases h
        · cases h
          split
          · exact plus_HM (hp.2.2.2.2 _)
          · exact hp.2.2.2.2 _
theorem PB_raise {D : Dyn} {s : Nat} {g : Option Int64} (hp : PB D) (hg : ∀ v, g = some v → HM v) : PB (a_raise D s g) := by
  refine PB.of ?_ ?_ ?_
  · rw [(rq_raise (D := D) (s := s) (g := g)).1]; exact hp.1
  · rw [(rq_raise (D := D) (s := s) (g := g)).2.1]; exact hp.2.2.2.1
  · intro q
    unfold a_raise
    split
    · exact hp.2.2.2.2 q
    · split
      · simp only [dg]
        split
        · exact hg _ rfl
        · exact hp.2.2.2.2 q
      · exact hp.2.2.2.2 q
theorem PB.eq {D D1 : Dyn} (hp : PB D) (h1 : dps D1 = dps D) (h2 : dpr D1 = dpr D) (h3 : dmk D1 = dmk D) : PB D1 := by
  unfold PB
  rw [h1, h2, h3]
  exact hp
theorem PB_step {C : Cfg} {D : Dyn} {s : Nat} (hC : WT C) (hI : IV C D) (hp : PB D) : PB (a_step C D s) := by
  have hr := PB_raise (s := s) (g := a_goal C D s) hp (fun v hv => goal_HM hI hp hv)
  unfold a_step
  split
  · have := uq_close hC (s := s) (dwi D s).length (a_raise D s (a_goal C D s))
    exact hr.eq this.2.2.1 this.2.2.2.1 this.1
  · split
    · exact hr.eq rfl rfl rfl
    · exact hr
theorem IV_step {C : Cfg} {D : Dyn} {s : Nat} (hW : WC C) (h : IV C D) : IV C (a_step C D s) := by
  have hq := rq_step hW.2.1 (D := D) (s := s)
  exact ⟨inv_step hW h.1, by rw [hq.1]; exact h.2.1, by rw [hq.2.2.2.2.1]; exact h.2.2⟩
theorem IP_reckN {C : Cfg} {D : Dyn} (hW : WC C) (h : IV C D) (hp : PB D) : ∀ n, IV C (a_reckN C D n) ∧ PB (a_reckN C D n)
  | 0 => ⟨h, hp⟩
  | n + 1 => ⟨IV_step hW (IP_reckN hW h hp n).1, PB_step hW.2.1 (IP_reckN hW h hp n).1 (IP_reckN hW h hp n).2⟩
section K12
variable {B M : Mm} {L : Nat → Nat → Nat} {C : Cfg} {D : Dyn}
theorem c_reckL {K : Mm → Prop} (hW : WC C) (hI : IV C D) (hp : PB D) (hb : LB (a_reckon C D)) (hK : ∀ M1, CR B M1 L C (a_reckon C D) → K M1) : ∀ (r s : Nat) (M : Mm), s + r = cn C → CR B M L C (a_reckN C D s) → lp_X1_reckon_2 (L 0 1) K (r + 1) (nI s) M := by
  intro r
  have h12 := hW.1
  induction r with
  | zero =>
    intro s M hr h
    have e : s = cn C := by omega
    subst e
    obtain ⟨g1, g2, g3, g4, g5, g6, g7, -⟩ := h.2.1.2.2.1
    rw [lp_X1_reckon_2, g7]
    refine ⟨g1, fun _ => hK M h, fun z => absurd ?_ z⟩
    rw [n_le (by omega) (by omega)]
    exact Nat.le_refl _
  | succ r ih =>
    intro s M hr h
    obtain ⟨g1, g2, g3, g4, g5, g6, g7, g8, -⟩ := h.2.1.2.2.1
    obtain ⟨i1, i2⟩ := IP_reckN hW hI hp s
    have s1 := (h.2.1.2.2.2.1 s (by omega)).1
    have hA := isA_of (t := 4) g8.1 (by decide) (by decide)
    have hmono : ∀ n, LB (a_reckN C D (s + 1 + n)) → LB (a_reckN C D (s + 1)) := fun n => by
      induction n with
      | zero => exact fun q => q
      | succ n ihn => exact fun q => ihn ((rq_step hW.2.1).lb q)
    have hb1 : LB (a_step C (a_reckN C D s) s) := by
      have := hmono (cn C - (s + 1))
      rw [show s + 1 + (cn C - (s + 1)) = cn C by omega] at this
      exact this hb
    have hg : ∀ v, a_goal C (a_reckN C D s) s = some v → -9000000000000000000 ≤ v.toInt := fun v hv => (goal_HM i1 i2 hv).bd.1
    have e9 : (-9000000000000000001 : Int64).toInt = -9000000000000000001 := by decide
    have nx : ∀ M2, CR B M2 L C (a_step C (a_reckN C D s) s) → lp_X1_reckon_2 (L 0 1) K (r + 1) (nI (s + 1)) M2 := fun M2 h2 => ih (s + 1) M2 (by omega) h2
    have t := c_37 (K := K) (R2 := lp_X1_reckon_2 (L 0 1) K (r + 1)) hW (by omega) h i1.1 i2 hg hb1 nx
    rw [lp_X1_reckon_2, g7]
    refine ⟨g1, fun z => ?_, fun _ => ⟨L 0 2, g4, hA, ?_, ?_⟩⟩
    · rw [n_le (by omega) (by omega)] at z; omega
    · rw [g8.2]; exact n_in (by omega) (by omega)
    · rw [n_clamp (by omega), s1]
      refine c_goalOf hW h (by omega) i1 i2 ?_
      cases hgo : a_goal C (a_reckN C D s) s with
      | none =>
        rw [hgo] at t
        exact ⟨fun z => absurd rfl z, fun _ => t⟩
      | some v =>
        rw [hgo] at t
        refine ⟨fun _ => t, fun z => ?_⟩
        have z : v = -9000000000000000001 := z
        have := hg v hgo
        rw [z, e9] at this
        omega
theorem c_reckon {K : Mm → Prop} (hW : WC C) (h : CR B M L C D) (hI : IV C D) (hp : PB D) (hb : LB (a_reckon C D)) (hK : ∀ M1, CR B M1 L C (a_reckon C D) → K M1) : wp_X1_reckon M (L 0 1) K := ⟨_, c_reckL hW hI hp hb hK (cn C) 0 M (Nat.zero_add _) h⟩
end K12
