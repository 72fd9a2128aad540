/-! the reference: a row is passed on -/
theorem far_mk {C : Cfg} {D D1 : Dyn} {s side : Nat} {t : Int64} (h : dmk D1 = dmk D) : a_far C D1 s side t = a_far C D s side t := by simp only [a_far, h]
section R11
variable {M : Mm} {m : Nat} {ra : Nat → Nat} {C : Cfg}
theorem r_pass (h : SH M m ra) (hW : WC C) : ∀ (d : Nat) (S : St) (D : Dyn) (s : Nat) (t : Int64) (k w : Int32) (K : Mm → Prop), s < cn C → cn C ≤ s + d → SA S C D → Inv D → HT t → LB (a_pass C d D s t k w) → (∀ S1, SA S1 C (a_pass C d D s t k w) → K (pM M m ra S1)) → wp_X11_pass d (pM M m ra S) m (nI s) t k w K := by
  intro d
  have h12 := hW.1
  have hT := hW.2.1
  induction d with
  | zero => intro S D s t k w K hs hd; omega
  | succ d ih =>
    intro S D s t k w K hs hd hA hI ht hb hK
    obtain ⟨c1, c2, c3, c4, c5, c6, c7, c8, c9⟩ := hA.1.2.2.1 s hs
    rw [a_pass] at hb hK
    rw [wp_X11_pass]
    cases hto : ctk C s with
    | none =>
      rw [hto] at c9 hb hK
      simp (disch := omega) only [RF h, p_mK, p_mR, p_aN, p_aR, p_mI, p_mJ, p_sI, p_sJ, Option.some.injEq, exists_eq_left', true_and, and_true, na1, na3, n_add, n_mul, n_clamp, n_in, c9, oI, bk_X11_pass_43, bk_X11_pass_44, show ((-1 : Int32) < 0) = True by decide, show ((0 : Int32) ≤ -1) = False by decide, not_true, not_false_eq_true, false_implies, forall_const]
      have := r_out h hA hb hK
      simpa only [RF h] using this
    | some to =>
      obtain ⟨hlt, hto2⟩ := hT s to hto
      rw [hto] at c9 hb hK
      obtain ⟨d1, d2, d3, d4, d5, d6, d7, d8, d9⟩ := hA.1.2.2.1 to hto2
      have hmk := hA.2.1 to hto2
      have hk5 := (hW.2.2.2 to hto2).1
      dsimp only at hb hK
      have ht2 : HT (a_tm C t to) := by
        unfold a_tm
        split
        · exact plus_HT ht
        · exact ht
      have main : bk_X11_pass_44 (wp_X11_pass d) m K (nI s) k w (nI to) (a_tm C t to) (pM M m ra S) := by
        simp (disch := omega) only [bk_X11_pass_44, bk_X11_pass_202, RF h, p_mK, p_mR, p_aN, p_aR, p_mI, p_mJ, p_sI, p_sJ, Option.some.injEq, exists_eq_left', true_and, and_true, na1, na3, n_add, n_mul, n_clamp, n_in, na2, hmk, e_kindOf h, d1, Nat.zero_le, not_true, false_implies, forall_const]
        by_cases q : dmk D to < a_tm C t to
        · have q' := Int64.not_le.mpr q
          rw [if_neg q'] at hb hK
          simp only [q, not_true, false_implies, forall_const, and_true]
          refine ⟨fun e4 => ?_, fun e5 => ?_, fun n4 n5 => ?_⟩
          · rw [if_pos e4] at hb hK
            have e2 : ¬ ckd C to = 2 := by omega
            have etm : a_tm C t to = t := by rw [a_tm, if_neg e2]
            have hlen : (cin C to).length = 2 := (hW.2.2.2 to hto2).2.2.2.2.2.1 e4
            have i0 : vI S 725 (4 * (12 + to)) = nI (a_in C to 0) := hA.1.2.2.2.1 to 0 hto2 (by omega)
            have b0 := hW.2.2.1 to 0 hto2 (by omega)
            have key : ∀ side, side < 2 → a_sd C to s = side → wp_X11_meet (wp_X11_pass d) (pM M m ra S) m (nI to) (nI side) t k w (fun M2 => K M2) := fun side hsd he => by
              rw [he] at hb hK
              have hu : ∀ (l : List Ent), Up to D (a_meetL C (a_pass C d) to side t k w l D) := fun l => up_meetL (fun D t k w => up_pass hT d D to t k w) l D
              have hb2 : LB (a_meetL C (a_pass C d) to side t k w (dke D to (1 - side)) D) := by
                unfold a_come at hb
                by_cases c : a_far C D to side t = true
                · rw [if_pos c] at hb; exact hb
                · rw [if_neg c] at hb
                  exact LB.up (up_keep (s := s) hlt) hb
              unfold wp_X11_meet
              refine ⟨(dke D to (1 - side)).length + 1, ?_⟩
              have e9 : (2 : Int32) * nI to + 1 - nI side = nI (2 * to + 1 - side) := by
                simp (disch := omega) only [na1, n_sub]
              rw [e9]
              have := r_meetL (P := wp_X11_pass d) (Q := a_pass C d) (K := K) (t := t) (k := k) (w := w) h hW hto2 e4 hsd (fun D t k w => up_pass hT d D to t k w) ht (fun D t k w h ht => inv_pass hW d D to t k w h ht) (fun S D t w K1 hA hI ht hb hK1 => ih S D to t k w K1 hto2 (by omega) hA hI ht hb hK1) (dke D to (1 - side)) 0 S D hA hI rfl rfl (Nat.zero_le _) hb2 (fun S1 hS1 => hK S1 ?_)
              · exact this
              · unfold a_come
                rw [far_mk (hu _).1] at hS1
                exact hS1
            simp (disch := omega) only [e_inputOf0 h, i0, n_eq, bk_X11_pass_163, bk_X11_pass_202, etm, Option.some.injEq, exists_eq_left', p_mK, FK h, true_and]
            refine ⟨fun z => ?_, fun z => ?_⟩
            · exact key 1 (by omega) (by rw [a_sd, if_neg z])
            · exact key 0 (by omega) (by rw [a_sd, if_pos z])
          · rw [if_neg (by omega), if_pos e5] at hb hK
            have e2 : ¬ ckd C to = 2 := by omega
            have etm : a_tm C t to = t := by rw [a_tm, if_neg e2]
            rw [etm]
            exact r_put h hW hto2 e5 ht hA (hI.1 to) (fun S1 hS1 _ => hK S1 hS1)
          · rw [if_neg n4, if_neg n5] at hb hK
            exact ih S D to _ k w K hto2 (by omega) hA hI ht2 hb hK
        · have q' := Int64.not_lt.mp q
          rw [if_pos q'] at hb hK
          simp only [q, not_false_eq_true, false_implies, forall_const, true_and]
          exact r_late h hA hb hK
      simp (disch := omega) only [RF h, p_mK, p_mR, p_aN, p_aR, p_mI, p_mJ, p_sI, p_sJ, Option.some.injEq, exists_eq_left', true_and, and_true, na1, na3, n_add, n_mul, n_clamp, n_in, c9, oI, bk_X11_pass_43, na2, e_kindOf h, d1, d4, e_plus, Nat.not_lt_zero, not_false_eq_true, false_implies, forall_const]
      refine ⟨fun z => ?_, fun z => ?_⟩
      · rw [a_tm, if_neg z] at main; exact main
      · rw [a_tm, if_pos z] at main; exact main
end R11
