/-! the class: a row is passed on -/
section K9
variable {B : Mm} {L : Nat → Nat → Nat} {C : Cfg}
theorem CR_lo2 {M : Mm} {D : Dyn} {v : Int32} (h : CR B M L C D) : mK M (L 0 1) = 2 ∧ mI M 71 (L 0 1) = dlo D := ⟨h.2.1.2.2.1.1, h.2.2.2.2.2.2.2.2.2.2.1⟩
theorem c_meetL {P : Mm → Nat → Option Nat → Int64 → Int32 → Int32 → Int32 → (Mm → Prop) → Prop} {Q : Dyn → Nat → Int64 → Int32 → Int32 → Dyn} {K : Mm → Prop} {s side : Nat} {t : Int64} {k w : Int32} {l : List Ent} {dp : Int32} (hW : WC C) (hs : s < cn C) (hk : ckd C s = 4) (hsd : side < 2)
    (hQ : ∀ D t k w, Up s D (Q D s t k w)) (hT : HT t) (hQI : ∀ D t k w, Inv D → HT t → Inv (Q D s t k w))
    (hP : ∀ (M : Mm) (D : Dyn) (t : Int64) (w : Int32) (K1 : Mm → Prop), CR B M L C D → Inv D → HT t → LB (Q D s t k w) → (∀ M1, CR B M1 L C (Q D s t k w) → K1 M1) → P M (L 0 1) (some (L 1 s)) t k w (dp + 1) K1) :
    ∀ (post : List Ent) (i : Nat) (M : Mm) (D : Dyn), CR B M L C D → Inv D → dke D s (1 - side) = l → l.drop i = post → i ≤ l.length → LB (a_meetL C Q s side t k w post D) → (∀ M1, CR B M1 L C (if a_far C (a_meetL C Q s side t k w post D) s side t = true then a_meetL C Q s side t k w post D else a_keep (a_meetL C Q s side t k w post D) s side (t, k, w)) → K M1) → lp_X1_comeToJoin_14 P (L 0 1) K (post.length + 1) (some (L 1 s)) (nI side) t k w dp (some (L 8 s)) (nI (1 - side)) (nI i) M := by
  intro post
  induction post with
  | nil =>
    intro i M D h hI hl hd hi hb hK
    have hil : i = l.length := by
      have := List.drop_eq_nil_iff.mp hd
      omega
    have F := CJF h hs hk (show 1 - side < 2 by omega)
    have hke := h.2.2.2.2.2.2.2.2.2.2.2.2.1 s (1 - side) hs hk (by omega)
    rw [hl] at hke
    have h6 := hke.2.2.1
    have e1 := hke.2.1
    rw [lp_X1_comeToJoin_14]
    simp (disch := omega) only [F, n_in, n_clamp, e1, n_le, show l.length ≤ i by omega, bk_X1_comeToJoin_121, Option.some.injEq, exists_eq_left', not_true, false_implies, forall_const, true_and, and_true]
    refine c_isFar hW h hs hk hsd ?_
    simp only [bI_0]
    refine ⟨fun f => ?_, fun f => ?_⟩
    · rw [Bool.not_eq_false] at f
      refine hK M ?_
      show CR B M L C (if a_far C D s side t = true then D else _)
      rw [if_pos f]; exact h
    · refine ⟨h.2.1.2.2.1.1, F.1.1, c_keep (e := (t, k, w)) h hs hk hsd (fun M1 h1 => ?_)⟩
      have lo := (CR_lo2 (v := 0) h).2
      refine ⟨h1.2.1.2.2.1.1, ?_⟩
      rw [lo]
      refine hK _ ?_
      have eg : (if a_far C D s side t = true then D else a_keep D s side (t, k, w)) = a_keep D s side (t, k, w) := if_neg (by rw [f]; decide)
      show CR B _ L C (if a_far C D s side t = true then D else a_keep D s side (t, k, w))
      rw [eg, a_keep]
      by_cases c : (dke D s side).length = 6
      · simp only [if_pos c] at h1 ⊢
        exact CR_lo h1
      · simp only [if_neg c] at h1 ⊢
        rw [Int32.add_zero]
        have h2 := CR_lo (v := dlo D) h1
        exact h2
  | cons e post ih =>
    intro i M D h hI hl hd hi hb hK
    have hil : i < l.length := by
      refine Classical.byContradiction fun z => ?_
      rw [List.drop_eq_nil_of_le (by omega)] at hd
      cases hd
    have hle : l[i]? = some e := by
      have := congrArg List.head? hd
      rw [List.head?_drop] at this
      exact this
    have hd2 : l.drop (i + 1) = post := by
      rw [← List.tail_drop, hd]
      rfl
    have F := CJF h hs hk (show 1 - side < 2 by omega)
    have hke := h.2.2.2.2.2.2.2.2.2.2.2.2.1 s (1 - side) hs hk (by omega)
    rw [hl] at hke
    have h6 := hke.2.2.1
    have e1 := hke.2.1
    have e3 := hke.2.2.2 i e hle
    have q1 : aJ M (L 13 (2 * s + (1 - side))) i = e.1 := congrArg (fun z => z.1) e3
    have q3 : aI M (L 15 (2 * s + (1 - side))) i = e.2.2 := congrArg (fun z => z.2.2) e3
    have heT : HT e.1 := hI.2.1 s (1 - side) e (by rw [hl]; exact List.mem_of_getElem? hle)
    rw [List.length_cons, lp_X1_comeToJoin_14]
    simp (disch := omega) only [F, n_in, n_clamp, e1, n_le, na1, show ¬ l.length ≤ i by omega, bk_X1_comeToJoin_85, Option.some.injEq, exists_eq_left', not_false_eq_true, false_implies, forall_const, true_and, and_true]
    refine c_meets h hs hk hsd (by rw [hl]; exact hle) ?_
    simp only [bI_0]
    refine ⟨fun f => ?_, fun f => ?_⟩
    · have u1 : a_meetL C Q s side t k w (e :: post) D = a_meetL C Q s side t k w post D := by
        simp only [a_meetL, List.foldl_cons, f, Bool.false_eq_true, if_false]
      rw [u1] at hb hK
      exact ih (i + 1) M D h hI hl hd2 (by omega) hb hK
    · rw [Bool.not_eq_false] at f
      have u1 : a_meetL C Q s side t k w (e :: post) D = a_meetL C Q s side t k w post (Q D s (maxF t e.1) k (w * e.2.2)) := by
        simp only [a_meetL, List.foldl_cons, f, if_true]
      rw [u1] at hb hK
      have hu := hQ D (maxF t e.1) k (w * e.2.2)
      simp (disch := omega) only [F, n_in, n_clamp, q1, q3, h.2.1.2.2.1.1, Option.some.injEq, exists_eq_left', true_and]
      refine hP M D (maxF t e.1) _ _ h hI (max_HT hT heT) (LB.up (up_meetL (r := s) (fun D t k w => hQ D t k w) post _) hb) (fun M1 h1 => ?_)
      exact ih (i + 1) M1 _ h1 (hQI D _ _ _ hI (max_HT hT heT)) (by rw [(hu.2.2.2.2.2.2.2.1 s (Nat.le_refl s)).2]; exact hl) hd2 (by omega) hb hK
theorem c_pass (hW : WC C) : ∀ (d : Nat) (M : Mm) (D : Dyn) (s : Nat) (t : Int64) (k w : Int32) (dp : Nat) (K : Mm → Prop), s < cn C → cn C ≤ s + d → dp ≤ s → CR B M L C D → Inv D → HT t → LB (a_pass C d D s t k w) → (∀ M1, CR B M1 L C (a_pass C d D s t k w) → K M1) → wp_X1_passOn d M (L 0 1) (some (L 1 s)) t k w (nI dp) K := by
  intro d
  have h12 := hW.1
  have hT := hW.2.1
  induction d with
  | zero => intro M D s t k w dp K hs hd; omega
  | succ d ih =>
    intro M D s t k w dp K hs hd hdp h hI ht hb hK
    obtain ⟨s1, s2, s3, s4, s5, s6, s7, s8, s9, s10, s11, s12, s13⟩ := h.2.1.2.2.2.1 s hs
    obtain ⟨g1, g2, g3, g4, g5, g6, g7, -⟩ := h.2.1.2.2.1
    have kO := h.2.1.1.2.2.2.2.2.2.2.1.1
    have kL := h.2.1.1.2.2.2.2.2.2.2.2.1.1
    rw [a_pass] at hb hK
    rw [wp_X1_passOn]
    refine ⟨L 1 s, rfl, s2, ?_⟩
    rw [s9]
    cases hto : ctk C s with
    | none =>
      rw [hto] at hb hK
      refine ⟨fun _ => ⟨g1, L 0 12, g2, kO, ?_⟩, fun a ha => by cases ha⟩
      rw [s3]
      exact c_out h hb hK
    | some to =>
      obtain ⟨hlt, hto2⟩ := hT s to hto
      rw [hto] at hb hK
      obtain ⟨t1, t2, t3, t4, t5, t6, t7, t8, t9, t10, t11, t12, t13⟩ := h.2.1.2.2.2.1 to hto2
      have hmk := h.2.2.1 to hto2
      have hk5 := (hW.2.2.2 to hto2).1
      dsimp only at hb hK
      refine ⟨fun z => (by cases z), fun a ha => ?_⟩
      cases ha
      have etm : plusF t (mJ M 392 (L 1 to)) = a_tm C t to := by
        rw [t10, a_tm]
        by_cases c : ckd C to = 2
        · rw [if_pos c, if_pos c]
        · rw [if_neg c, if_neg c]; exact plus_0 ht
      have ht2 : HT (a_tm C t to) := by
        unfold a_tm
        split
        · exact plus_HT ht
        · exact ht
      simp (disch := omega) only [na2, show dp < 12 by omega, t2, e_tog, etm, hmk, t13, t12, bk_X1_passOn_170, not_true, false_implies, forall_const, true_and, and_true]
      refine ⟨fun q => ?_, fun q => ?_⟩
      · rw [if_neg (Int64.not_le.mpr q)] at hb hK
        by_cases e4 : ckd C to = 4
        · rw [if_pos e4] at hb hK
          have e2 : ¬ ckd C to = 2 := by omega
          have e5 : ¬ ckd C to = 5 := by omega
          have et : a_tm C t to = t := by rw [a_tm, if_neg e2]
          have hlen : (cin C to).length = 2 := (hW.2.2.2 to hto2).2.2.2.2.2.1 e4
          have i0 := h.2.1.2.2.2.2.1 to 0 hto2 (by omega)
          have b0 := hW.2.2.1 to 0 hto2 (by omega)
          have hA := isA_of (t := 4) t6 (by decide) (by decide)
          rw [if_neg e5, if_pos e4, et]
          refine ⟨fun _ => ⟨fun z => (by cases z), fun a ha => ?_⟩, fun a ha => (by cases ha)⟩
          cases ha
          have key : ∀ side, side < 2 → a_sd C to s = side → wp_X1_comeToJoin (wp_X1_passOn d) M (L 0 1) (some (L 1 to)) (nI side) t k w (nI dp) (fun M2 => K M2) := fun side hsd he => by
            rw [he] at hb hK
            have hu : ∀ (l : List Ent), Up to D (a_meetL C (a_pass C d) to side t k w l D) := fun l => up_meetL (fun D t k w => up_pass hT d D to t k w) l D
            have hb2 : LB (a_meetL C (a_pass C d) to side t k w (dke D to (1 - side)) D) := by
              unfold a_come at hb
              by_cases c : a_far C D to side t = true
              · rw [if_pos c] at hb; exact hb
              · rw [if_neg c] at hb
                exact LB.up (up_keep (s := s) hlt) hb
            unfold wp_X1_comeToJoin
            refine ⟨L 1 to, rfl, t2, (dke D to (1 - side)).length + 1, ?_⟩
            have o : (1 : Int32) - nI side = nI (1 - side) := by
              rcases (show side = 0 ∨ side = 1 by omega) with rfl | rfl <;> decide
            rw [o, t12, if_pos e4]
            refine c_meetL (Q := a_pass C d) hW hto2 e4 hsd (fun D t k w => up_pass hT d D to t k w) ht (fun D t k w h ht => inv_pass hW d D to t k w h ht) (fun M D t w K1 h hI ht hb hK1 => ?_) (dke D to (1 - side)) 0 M D h hI rfl rfl (Nat.zero_le _) hb2 (fun M1 h1 => hK M1 ?_)
            · rw [show nI dp + 1 = nI (dp + 1) from nI_add _ 1]
              exact ih M D to t k w (dp + 1) K1 hto2 (by omega) (by omega) h hI ht hb hK1
            · unfold a_come
              rw [far_mk (hu _).1] at h1
              exact h1
          simp (disch := omega) only [t5, t7, hA, na3, i0, Option.some.injEq, exists_eq_left', true_and, bk_X1_passOn_140, bk_X1_passOn_170, g1, t12]
          refine ⟨fun z => ?_, fun z => ?_⟩
          · exact key 1 (by omega) (by rw [a_sd, if_neg (fun y => z (by rw [y]))])
          · exact key 0 (by omega) (by rw [a_sd, if_pos (h.2.1.2.2.2.2.2.2.2.2.1.1 _ _ hs (by omega) z).symm])
        · rw [if_neg e4] at hb hK
          by_cases e5 : ckd C to = 5
          · rw [if_pos e5] at hb hK
            have e2 : ¬ ckd C to = 2 := by omega
            have et : a_tm C t to = t := by rw [a_tm, if_neg e2]
            rw [if_pos e5, et]
            refine ⟨fun z => (by cases z), fun a ha => ?_⟩
            cases ha
            have F := CWF h hto2 e5
            refine ⟨g1, F.1, c_add hW h hto2 e5 (fun M1 h1 => ⟨h1.2.1.2.2.1.1, hK _ ?_⟩)⟩
            have lo := (CR_lo2 (v := 0) h).2
            rw [lo, put_eq]
            exact CR_lo h1
          · rw [if_neg e5] at hb hK
            rw [if_neg e5, if_neg e4]
            refine ⟨fun _ => ⟨fun _ => ⟨g1, ?_⟩, fun a ha => (by cases ha)⟩, fun a ha => (by cases ha)⟩
            rw [show nI dp + 1 = nI (dp + 1) from nI_add _ 1]
            exact ih M D to _ k w (dp + 1) K hto2 (by omega) (by omega) h hI ht2 hb hK
      · rw [if_pos (Int64.not_lt.mp q)] at hb hK
        refine ⟨g1, L 0 14, g3, kL, ?_⟩
        rw [t3]
        exact c_late h hb hK
end K9
