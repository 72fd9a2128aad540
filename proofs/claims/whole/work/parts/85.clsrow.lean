/-! the class: row, mark, end, idle -/
theorem xpr_self (D : Dyn) (s k : Nat) : xpr D s k (dpr D s k) = D := by
  simp only [xpr, dmk, did, dps, dpr, dhr, dnow, dou, dla, dlo, dwi, dke, dti]
  have e : (fun q j => if q = s then (if j = k then D.2.2.2.1 s k else D.2.2.2.1 q j) else D.2.2.2.1 q j) = D.2.2.2.1 := by
    funext q j
    by_cases a : q = s <;> by_cases b : j = k <;> simp [a, b]
  rw [e]
section K14
variable {B M : Mm} {L : Nat → Nat → Nat} {C : Cfg} {D : Dyn}
theorem COF (h : CR B M L C D) : mK M (L 0 0) = 11 ∧ mR M 644 (L 0 0) = some (L 0 1) ∧ mK M (L 0 1) = 2 := ⟨h.2.1.1.1, h.2.1.2.1, h.2.1.2.2.1.1⟩
theorem CSF {s : Nat} (h : CR B M L C D) (hs : s < cn C) (h0 : ckd C s = 0) : mK M (L 1 s) = 7 ∧ mR M 393 (L 1 s) = some (L 3 s) ∧ mK M (L 3 s) = 6 := by
  obtain ⟨s1, s2, s3, s4, s5, s6, s7, s8, s9, s10, s11, s12, s13⟩ := h.2.1.2.2.2.1 s hs
  rw [s11, if_pos h0]
  exact ⟨s2, rfl, (h.2.1.2.2.2.2.2.1 s hs h0).1⟩
/-- graph.reckon() as the last deed of a call -/
theorem c_rk {K : Mm → Prop} (hW : WC C) (h : CR B M L C D) (hO : OKd C D) (hb : LB (a_reckon C D)) (hK : ∀ M1, CR B M1 L C (a_reckon C D) → K M1) : mK M (L 0 0) = 11 ∧ ∃ a, mR M 644 (L 0 0) = some a ∧ mK M a = 2 ∧ wp_X1_reckon M a K := ⟨(COF h).1, L 0 1, (COF h).2.1, (COF h).2.2, c_reckon hW h hO.1 hO.2.1 hb hK⟩
theorem c_row {K : Int32 → Mm → Prop} {p q : Int32} {t : Int64} {key : Int32} (hW : WC C) (h : CR B M L C D) (hO : OKD C D) (hb : LB (A_row C D p q t key).2) (hK : ∀ M1, CR B M1 L C (A_row C D p q t key).2 → K (A_row C D p q t key).1 M1) : wp_X10_row M (L 0 0) p q t key K := by
  have h12 := hW.1
  unfold wp_X10_row bk_X10_row_28
  refine ⟨(COF h).1, c_srcWith hW h ?_⟩
  simp only [e_isTimeC, e_isKeyC, bI_0]
  unfold A_row at hb hK
  by_cases c1 : isPt C p q = true
  · rw [if_pos c1]
    refine ⟨fun z => (by cases z), fun a ha => ?_⟩
    cases ha
    by_cases c2 : isTm t = true
    · by_cases c3 : isKy key = true
      · rw [if_pos ⟨c1, c2, c3⟩] at hb hK
        obtain ⟨s, k, hs, rfl, hk0, hk, rfl⟩ := (isPt_iff hW).mp c1
        have h4 := (hW.2.2.2 s hs).2.1
        rw [n_clamp (by omega), n_clamp (by omega)] at hb hK
        rw [n_clamp (by omega)]
        obtain ⟨f1, f2, f3⟩ := CSF h hs hk0
        refine ⟨fun z => absurd c2 (by rw [z]; decide), fun _ => ⟨fun _ => ⟨(COF h).1, f1, L 0 1, (COF h).2.1, (COF h).2.2, ?_⟩, fun z => absurd c3 (by rw [z]; decide)⟩⟩
        rw [f2]
        refine c_refusal hW h hs hk0 hk hO.2.1 ?_
        unfold a_row at hb hK
        by_cases z : dps D s k = 2
        · rw [if_pos z] at hb hK ⊢
          exact ⟨fun w => absurd w (by decide), fun _ => hK M h⟩
        rw [if_neg z] at hb hK ⊢
        by_cases y : a_stop C D s k = true
        · rw [if_pos y] at hb hK ⊢
          exact ⟨fun w => absurd w (by decide), fun _ => hK M h⟩
        rw [if_neg y] at hb hK ⊢
        refine ⟨fun _ => ⟨(COF h).1, L 0 1, (COF h).2.1, (COF h).2.2, ?_⟩, fun w => absurd rfl w⟩
        unfold wp_X1_takeRow bk_X1_takeRow_37 bk_X1_takeRow_95
        refine ⟨L 1 s, rfl, f1, (COF h).2.2, L 3 s, f2, f3, c_hear hW h hs hk0 hk (fun M1 h1 => ?_)⟩
        obtain ⟨f1', f2', f3'⟩ := CSF h1 hs hk0
        have hO1 : OKd C (a_hear D s k) := hO.d.hear
        obtain ⟨o1, o2, o3, o4, o5, o6, o7, o8, o9, o10, o11, o12, o13, o14, o15, -⟩ := h1.2.1.2.2.2.2.2.1 s hs hk0
        have d1 : aJ M1 (L 5 s) k = dpr D s k := (h1.2.2.2.2.2.1 s k hs hk0 (by omega)).2
        have d2 : mJ M1 390 (L 1 s) = dmk D s := h1.2.2.1 s hs
        have s3 := (h1.2.1.2.2.2.1 s hs).2.2.1
        have g3 := h1.2.1.2.2.1.2.2.1
        have lateC : t ≤ dpr D s k ∨ t ≤ dmk D s → mK M1 (L 0 1) = 2 ∧ ∃ a2, some (L 1 s) = some a2 ∧ mK M1 a2 = 7 ∧ ∃ a7, mR M1 65 (L 0 1) = some a7 ∧ mK M1 a7 = 4 ∧ wp_X3_note M1 a7 (mI M1 384 a2) t key 1 (fun M6 => mK M6 (L 0 0) = 11 ∧ ∃ a31, mR M6 644 (L 0 0) = some a31 ∧ mK M6 a31 = 2 ∧ wp_X1_reckon M6 a31 (fun M30 => K 0 M30)) := fun w => by
          rw [if_pos w] at hb hK
          have hb1 : LB (a_late (a_hear D s k) (s, t, key, 1)) := (rq_reckN hW.2.1 (cn C)).lb hb
          refine ⟨(COF h1).2.2, L 1 s, rfl, f1', L 0 14, g3, h1.2.1.1.2.2.2.2.2.2.2.2.1.1, ?_⟩
          rw [s3]
          exact c_late h1 hb1 (fun M2 h2 => c_rk hW h2 hO1.late hb hK)
        refine ⟨f3', L 5 s, o7, isA_of (t := 2) o12 (by decide) (by decide), by rw [o13]; exact n_in (by omega) (by omega), ?_⟩
        rw [n_clamp (by omega), d1, d2]
        refine ⟨fun w => lateC (Or.inl w), fun w => ⟨f1', fun v => ⟨(COF h1).2.2, ?_⟩, fun v => lateC (Or.inr (Int64.not_lt.mp v))⟩⟩
        have nl : ¬ (t ≤ dpr D s k ∨ t ≤ dmk D s) := fun u => u.elim w (Int64.not_le.mpr v)
        rw [if_neg nl] at hb hK
        have hb1 : LB (a_pass C 30 (a_hear D s k) s t key 1) := by
          have := (rq_reckN hW.2.1 (cn C)).lb hb
          by_cases u : chl C s = true
          · rw [if_pos u] at this; exact this
          · rw [if_neg u] at this; exact this
        refine c_pass hW 30 M1 _ s t key 1 0 _ hs (by omega) (Nat.zero_le _) h1 hO1.1.1 (HT_time c2) hb1 (fun M2 h2 => ?_)
        have hO2 : OKd C (a_pass C 30 (a_hear D s k) s t key 1) := hO1.pass hW (HT_time c2)
        have hu := up_pass hW.2.1 30 (a_hear D s k) s t key 1
        have eg : mJ M2 321 (L 3 s) = if chl C s = true then co1 C s else -1 := (h2.2.1.2.2.2.2.2.1 s hs hk0).2.2.1
        have f3'' := (CSF h2 hs hk0).2.2
        rw [eg]
        refine ⟨f3'', fun u => ?_, fun u => ?_⟩
        · have nc : ¬ chl C s = true := fun c => by
            rw [if_pos c] at u
            have := (hW.2.2.2 s hs).2.2.2.2.2.2.2.2.2.2 c
            rw [u] at this
            exact absurd this.1 (by decide)
          rw [if_neg nc] at hb hK
          exact c_rk hW h2 hO2 hb hK
        · have hc : chl C s = true := Classical.byContradiction (fun c => u (by rw [if_neg c]))
          rw [if_pos hc] at hb hK ⊢
          obtain ⟨l1, l2⟩ := (hW.2.2.2 s hs).2.2.2.2.2.2.2.2.2.2 hc
          rw [e_tog, plus_lag c2 l1 l2]
          have e1 : dpr (a_pass C 30 (a_hear D s k) s t key 1) s k = dpr D s k := by rw [hu.2.2.2.1]; rfl
          have hm : ∀ b : Int64, HM b → OKd C (xpr (a_pass C 30 (a_hear D s k) s t key 1) s k b) := fun b hb => hO2.pr hb
          refine ⟨f3'', c_raise hW h2 hs hk0 hk (fun x M3 h3 => ?_) (fun x => ?_)⟩
          · rw [e1] at x
            have em : maxF (dpr D s k) (plusF (plusF t (-(co1 C s))) (-1)) = plusF (plusF t (-(co1 C s))) (-1) := by
              unfold maxF
              rw [if_neg (fun y => x (Int64.le_of_lt y))]
            rw [em] at hb hK
            exact c_rk hW h3 (hm _ (plus_HT (plus_HT (HT_time c2))).hm) hb hK
          · rw [e1] at x
            have em : maxF (dpr D s k) (plusF (plusF t (-(co1 C s))) (-1)) = dpr D s k := by
              unfold maxF
              by_cases y : plusF (plusF t (-(co1 C s))) (-1) < dpr D s k
              · rw [if_pos y]
              · rw [if_neg y]; exact Int64.le_antisymm x (Int64.not_lt.mp y)
            have ex : xpr (a_pass C 30 (a_hear D s k) s t key 1) s k (dpr D s k) = a_pass C 30 (a_hear D s k) s t key 1 := by
              have := xpr_self (a_pass C 30 (a_hear D s k) s t key 1) s k
              rw [e1] at this; exact this
            rw [em, ex] at hb hK
            exact c_rk hW h2 hO2 hb hK
      · have nc : ¬ (isPt C p q = true ∧ isTm t = true ∧ isKy key = true) := fun z => c3 z.2.2
        rw [if_neg nc] at hb hK
        rw [Bool.not_eq_true] at c3
        exact ⟨fun _ => hK M h, fun _ => ⟨fun z => absurd c3 z, fun _ => hK M h⟩⟩
    · have nc : ¬ (isPt C p q = true ∧ isTm t = true ∧ isKy key = true) := fun z => c2 z.2.1
      rw [if_neg nc] at hb hK
      rw [Bool.not_eq_true] at c2
      exact ⟨fun _ => hK M h, fun z => absurd c2 z⟩
  · rw [if_neg c1]
    have nc : ¬ (isPt C p q = true ∧ isTm t = true ∧ isKy key = true) := fun z => c1 z.1
    rw [if_neg nc] at hb hK
    exact ⟨fun _ => hK M h, fun a ha => (by cases ha)⟩
end K14
