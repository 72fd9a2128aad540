/-! the reference reads statements: align, streams, the text -/
section RG
variable {M : Mm} {m : Nat} {ra : Nat → Nat} {S : St} {tp : List Nat} {C : Cfg}
theorem x_48 (h : SH M m ra) {K : Mm → Prop} {e : Flt} (hR : Rd tp S (.error e)) (hK : K (pM M m ra S)) : bk_X11_align_48 m K (pM M m ra S) := by
  refine ⟨FK h, ?_⟩
  rw [x_num h hR]
  refine ⟨FK h, ?_⟩
  rw [x_num h hR]
  refine ⟨FK h, ?_⟩
  rw [x_sg h hR]
  simp only [p_mK, FK h, p_mI, p_mJ, e_good h, true_and, and_true, not_true, not_false_eq_true, false_implies, forall_const, show ((1 : Int32) = 0) = False by decide, hR.g0, bk_X11_align_94]
  exact hK
theorem addg_PQ {g : Nat} {v : Int64} (hQ : PQ S C) : PQ (wJ (wI S 727 g 1) 728 g v) (a_addg C g v) := by
  obtain ⟨⟨p1, p2, p3, p4⟩, q2, q3⟩ := hQ
  refine ⟨⟨?_, p2, fun s hs => ?_, fun k hk => ?_⟩, fun q hq => ?_, q3⟩
  · show vI (wI S 727 g 1) 729 0 = nI (cn C)
    simpa [sg] using p1
  · obtain ⟨a1, a2, a3, a4, a5, a6, a7, a8, a9, a10, a11, a12, a13⟩ := p3 s hs
    refine ⟨a1, a2, ?_, ?_, ?_, ?_, ?_, ?_, ?_, ?_, ?_, ?_, fun i hi => ?_⟩
    · show vJ (wJ (wI S 727 g 1) 728 g v) 716 s = w5 (cnm C s)
      simpa [sg] using a3
    · show vI (wJ (wI S 727 g 1) 728 g v) 717 s = nI (cnm C s).length
      simpa [sg] using a4
    · show vI (wJ (wI S 727 g 1) 728 g v) 715 s = nI (ckd C s)
      simpa [sg] using a5
    · show vI (wJ (wI S 727 g 1) 728 g v) 718 s = nI (cpt C s)
      simpa [sg] using a6
    · show vI (wJ (wI S 727 g 1) 728 g v) 719 s = bI (chl C s)
      simpa [sg] using a7
    · show vJ (wJ (wI S 727 g 1) 728 g v) 720 s = co1 C s
      simpa [sg] using a8
    · show vJ (wJ (wI S 727 g 1) 728 g v) 721 s = co2 C s
      simpa [sg] using a9
    · show vI (wJ (wI S 727 g 1) 728 g v) 722 s = nI (caf C s)
      simpa [sg] using a10
    · show vI (wJ (wI S 727 g 1) 728 g v) 723 s = oI (cgr C s)
      simpa [sg] using a11
    · show vI (wJ (wI S 727 g 1) 728 g v) 724 s = nI (cin C s).length
      simpa [sg] using a12
    · show vI (wJ (wI S 727 g 1) 728 g v) 725 (4 * s + i) = nI (a_in C s i)
      simpa [sg] using a13 i hi
  · obtain ⟨b1, b2⟩ := p4 k hk
    show vI (wJ (wI S 727 g 1) 728 g v) 727 k = bI (put1 (csp C) g (some v) k).isSome ∧ ∀ u, put1 (csp C) g (some v) k = some u → vJ (wJ (wI S 727 g 1) 728 g v) 728 k = u
    by_cases e : k = g
    · subst e
      simp [sg, put1, bI]
    · simp only [sg, put1, if_neg e, if_true, show (727 = 728) = False by decide, show (728 = 727) = False by decide, if_false]
      exact ⟨b1, b2⟩
  · show vI (wJ (wI S 727 g 1) 728 g v) 726 q = oI (ctk C q)
    simpa [sg] using q2 q hq
theorem r_alg (h : SH M m ra) {K : Mm → Prop} {T : Tok} (hT : RT S tp) (hR : Rd tp S (.ok T)) (hQ : PQ S C) (hok : ∀ S1 y, a_alg tp C (a_nx tp T) = .ok y → KT S S1 → gI S1 730 = gI S 730 → gI S1 731 = gI S 731 → Rd tp S1 (.ok y.2) → PQ S1 y.1 → K (pM M m ra S1)) (her : ∀ S1 e, a_alg tp C (a_nx tp T) = .error e → KT S S1 → Rd tp S1 (.error e) → K (pM M m ra S1)) : wp_X11_align (pM M m ra S) m K := by
  refine ⟨FK h, Rd.nx h hT hR (fun S1 x1 x2 => ⟨FK h, ?_⟩)⟩
  have x1' := exR x1 (by decide)
  have hT1 := hT.ex x1 (by decide) (by decide)
  have hQ1 := hQ.ex x1'
  have k5 := x2.2.2.1.2.2.2.2.2.2.2.1
  generalize a_nx tp T = T1 at x2 hok her k5
  simp only [p_mK, FK h, p_mI, p_mJ, e_good h, true_and, and_true, not_true, not_false_eq_true, false_implies, forall_const, show ((1 : Int32) = 0) = False by decide, x2.g1, x2.2.1.2.2.1, kR_2 _ k5]
  have num : ∀ hn : tkk T1 = 4, (a_alg tp C T1 = if dn (tkw T1) ≤ 3 then (if (csp C (dn (tkw T1))).isSome = true then flt 5 T1 else a_alg2 tp C (dn (tkw T1)) (a_nx tp T1)) else flt 5 T1) := fun hn => by rw [a_alg, if_pos hn]
  refine ⟨fun z => ⟨FK h, ?_⟩, fun z => ?_⟩
  · refine r_num2 (lo := 0) (hi := 3) h hT1 x2 (by decide) (hhiN (by decide)) (fun S2 v T2 q y1 y2 => ?_) (fun S2 e q y1 y2 => ?_)
    · rw [a_num, if_neg z] at q; cases q
    · have en : a_alg tp C T1 = .error e := by
        rw [a_num, if_neg z] at q
        rw [a_alg, if_neg z]; cases q; rfl
      refine ⟨FK h, ?_⟩
      rw [x_num h y2]
      refine ⟨FK h, ?_⟩
      rw [x_sg h y2]
      simp only [p_mK, FK h, p_mI, p_mJ, e_good h, true_and, and_true, not_true, not_false_eq_true, false_implies, forall_const, show ((1 : Int32) = 0) = False by decide, y2.g0, bk_X11_align_94]
      exact her S2 e en (KT.ex (x1'.trans y1)) y2
  · have hd := x2.2.2.1.num z
    have hd2 : dn (tkw T1) ≤ 999999999999999999 := hd
    have hv := x2.2.1.num z
    rw [hv, show ((4 : Int64) ≤ lN (dn (tkw T1))) = (4 ≤ dn (tkw T1)) from lq_le (a := 4) (by decide) (by omega)]
    refine ⟨fun q4 => ⟨FK h, ?_⟩, fun q4 => ?_⟩
    · have en : a_alg tp C T1 = flt 5 T1 := by rw [num z, if_neg (by omega)]
      refine r_num2 (lo := 0) (hi := 3) h hT1 x2 (by decide) (hhiN (by decide)) (fun S2 v T2 q y1 y2 => ?_) (fun S2 e q y1 y2 => ?_)
      · rw [a_num, if_pos z, if_neg (by omega)] at q; cases q
      · rw [a_num, if_pos z, if_neg (by omega)] at q
        refine ⟨FK h, ?_⟩
        rw [x_num h y2]
        refine ⟨FK h, ?_⟩
        rw [x_sg h y2]
        simp only [p_mK, FK h, p_mI, p_mJ, e_good h, true_and, and_true, not_true, not_false_eq_true, false_implies, forall_const, show ((1 : Int32) = 0) = False by decide, y2.g0, bk_X11_align_94]
        cases q
        exact her S2 _ en (KT.ex (x1'.trans y1)) y2
    · have g4 : dn (tkw T1) < 4 := by omega
      obtain ⟨b1, b2⟩ := hQ1.1.2.2.2 _ g4
      have num' := num z
      rw [if_pos (by omega)] at num'
      simp (disch := omega) only [RF h, p_mK, p_mR, p_aN, p_aR, p_mI, p_mJ, p_sI, p_sJ, Option.some.injEq, exists_eq_left', true_and, and_true, na1, na3, n_add, n_mul, n_clamp, n_in, j32, b1, bI_0]
      refine ⟨fun q0 => ⟨FK h, ?_⟩, fun q0 => ?_⟩
      · rw [if_neg (by rw [q0]; decide)] at num'
        refine r_num2 (lo := 0) (hi := 3) h hT1 x2 (by decide) (hhiN (by decide)) (fun S2 v T2 q y1 y2 => ?_) (fun S2 e q y1 y2 => ?_)
        · rw [a_num, if_pos z, if_pos ⟨by omega, by omega⟩] at q
          cases q
          refine ⟨FK h, ?_⟩
          refine r_num2 (lo := 0) (hi := BIG) h (hT1.ex y1 (by decide) (by decide)) y2 (by decide) hANY (fun S3 v T3 o z1 z2 => ?_) (fun S3 e o z1 z2 => ?_)
          · refine ⟨FK h, r_sg2 (c := 59) h (by decide) ((hT1.ex y1 (by decide) (by decide)).ex z1 (by decide) (by decide)) z2 (fun S4 T4 p w1 w2 => ⟨FK h, ?_⟩) (fun S4 e p w1 w2 => ⟨FK h, ?_⟩)⟩
            · simp (disch := omega) only [p_mK, FK h, p_mI, p_mJ, e_good h, true_and, and_true, not_true, not_false_eq_true, false_implies, forall_const, show ((1 : Int32) = 0) = False by decide, RF h, p_mK, p_mR, p_aN, p_aR, p_mI, p_mJ, p_sI, p_sJ, Option.some.injEq, exists_eq_left', true_and, and_true, na1, na3, n_add, n_mul, n_clamp, n_in, w2.g1, j32, bk_X11_align_94]
              have hx := ((x1'.trans y1).trans z1).trans w1
              refine hok _ (a_addg C (dn (tkw T1)) (lN v), T4) (by rw [num', a_alg2, o]; simp only [p]; rfl) (((KT.ex hx).wI (Or.inr (Or.inr (Or.inl ⟨rfl, g4⟩)))).wJ (Or.inr ⟨rfl, g4⟩)) ((hx 730 (by decide)).1) ((hx 731 (by decide)).1) w2 (addg_PQ (((hQ1.ex y1).ex z1).ex w1))
            · simp only [p_mK, FK h, p_mI, p_mJ, e_good h, true_and, and_true, not_true, not_false_eq_true, false_implies, forall_const, show ((1 : Int32) = 0) = False by decide, w2.g0, bk_X11_align_94]
              exact her S4 e (by rw [num', a_alg2, o]; simp only [p]) (KT.ex (((x1'.trans y1).trans z1).trans w1)) w2
          · refine ⟨FK h, ?_⟩
            rw [x_sg h z2]
            simp only [p_mK, FK h, p_mI, p_mJ, e_good h, true_and, and_true, not_true, not_false_eq_true, false_implies, forall_const, show ((1 : Int32) = 0) = False by decide, z2.g0, bk_X11_align_94]
            exact her S3 e (by rw [num', a_alg2, o]) (KT.ex ((x1'.trans y1).trans z1)) z2
        · rw [a_num, if_pos z, if_pos ⟨by omega, by omega⟩] at q; cases q
      · rw [if_pos (by cases e9 : (csp C (dn (tkw T1))).isSome with
          | true => rfl
          | false => exact absurd e9 q0)] at num'
        have f5 : wp_X11_fault (pM M m ra S1) m 5 (fun M40 => bk_X11_align_48 m K M40) = wp_X11_fault (pM M m ra S1) m (nI 5) (fun M40 => bk_X11_align_48 m K M40) := rfl
        rw [f5]
        exact r_flt (α := Tok) h x2 (by decide) (by decide) (fun S2 y1 y2 => x_48 h y2 (her S2 _ num' (KT.ex (x1'.trans (exR y1 (by decide)))) y2))
theorem x_74 (h : SH M m ra) {K : Mm → Prop} {e : Flt} {l1 : Int64} {l3 : Int32} (hR : Rd tp S (.error e)) (hK : K (pM M m ra S)) : bk_X11_statement_74 m K l1 l3 (pM M m ra S) := by
  refine ⟨FK h, ?_⟩
  rw [e_good h, hR.g0]
  exact ⟨fun z => absurd rfl z, fun _ => hK⟩
theorem r_stm74 (h : SH M m ra) {K : Mm → Prop} {T : Tok} {J W : Nat} (hT : RT S tp) (hR : Rd tp S (.ok T)) (hQ : PQ S C) (h12 : cn C < 12) (h3 : tkk T = 3) (hJ : gI S 730 = nI J) (hW : gI S 731 = nI W) (hJ3 : J ≤ 3) (hW3 : W ≤ 3) (hf : a_find C (tkw T) = none) (hn14 : ¬ isKw 14 T = true) (hK : HST tp M m ra S K (a_stm tp J W C T)) : bk_X11_statement_74 m K (w5 (tkw T)) (nI (tkw T).length) (pM M m ra S) := by
  have en : a_stm tp J W C T = match a_sg tp 61 (a_nx tp T) with
    | .error e => .error e
    | .ok T1 => a_strm2 tp J W C (tkw T) T1 := by
    rw [a_stm, if_neg hn14, a_strm, if_pos h3, hf]
    simp only [if_neg (show ¬ cn C = 12 by omega)]
    cases a_sg tp 61 (a_nx tp T) <;> rfl
  have hww := hR.2.2.1.ww (Or.inr h3)
  have e29 : vI S 729 0 = nI (cn C) := hQ.1.1
  have hk0 : KT S (sl0 S (cn C) (tkw T)) := sl0_KT h12
  have hb0 : BD0 (sl0 S (cn C) (tkw T)) C := sl0_BD hQ
  have hT0 := hT.kt hk0
  have hR0 : Rd tp (sl0 S (cn C) (tkw T)) (.ok T) := hR
  have n16 : vJ (sl0 S (cn C) (tkw T)) 716 (cn C) = w5 (tkw T) := by simp [sl0, sg]
  have n17 : vI (sl0 S (cn C) (tkw T)) 717 (cn C) = nI (tkw T).length := by simp [sl0, sg]
  have j0 : gI (sl0 S (cn C) (tkw T)) 730 = nI J := hJ
  have w0 : gI (sl0 S (cn C) (tkw T)) 731 = nI W := hW
  have fin : wp_X11_next (pM M m ra (sl0 S (cn C) (tkw T))) m (fun M67 => mK M67 m = 12 ∧ (wp_X11_takeSign M67 m (61 : Int32) (fun M70 => mK M70 m = 12 ∧ (wp_X11_good M70 m (fun r73 M74 => ((r73 = 0 → (bk_X11_statement_193 m K M74)) ∧ (¬ r73 = 0 → mK M74 m = 12 ∧ (wp_X11_body M74 m (nI (cn C)) (fun M78 => (bk_X11_statement_193 m K M78)))))))))) := by
    generalize sl0 S (cn C) (tkw T) = S0 at hk0 hb0 hT0 hR0 n16 n17 j0 w0
    refine Rd.nx h hT0 hR0 (fun S1 x1 x2 => ⟨FK h, ?_⟩)
    have x1' := exR x1 (by decide)
    refine r_sg2 (c := 61) h (by decide) (hT0.ex x1 (by decide) (by decide)) x2 (fun S2 T2 q y1 y2 => ⟨FK h, ?_⟩) (fun S2 e q y1 y2 => ⟨FK h, ?_⟩)
    · have hx := x1'.trans y1
      simp only [p_mK, FK h, p_mI, p_mJ, e_good h, true_and, and_true, not_true, not_false_eq_true, false_implies, forall_const, show ((1 : Int32) = 0) = False by decide, y2.g1]
      rw [q] at en
      have en2 : a_stm tp J W C T = a_strm2 tp J W C (tkw T) T2 := en
      refine r_body (J := J) (W := W) h ((hT0.ex x1 (by decide) (by decide)).ex y1 (by decide) (by decide)) y2 (hb0.ex hx) h12 ((hx 730 (by decide)).1.trans j0) ((hx 731 (by decide)).1.trans w0) hJ3 hW3 ⟨fun S3 y o z1 z30 z31 z2 z3 => ?_, fun S3 e o z1 z2 => ?_⟩
      · have m16 : vJ S3 716 (cn C) = w5 (tkw T) := by
          rw [z1.2.2.2.1 716 (cn C) (by decide) (Or.inl (by decide)), (hx 716 (by decide)).2.2.2]; exact n16
        have m17 : vI S3 717 (cn C) = nI (tkw T).length := by
          rw [z1.2.2.1 717 (cn C) (by decide) (Or.inl (by decide)) (fun z => absurd z.1 (by decide)) (fun z => absurd z.1 (by decide)), (hx 717 (by decide)).2.2.1]; exact n17
        have kt3 : KT S S3 := (hk0.trans (KT.ex hx)).trans (KT.es h12 z1)
        refine r_193 h (((hT0.ex x1 (by decide) (by decide)).ex y1 (by decide) (by decide)).es z1) z2 z3 h12 hww m16 m17 z30 z31 (fun S4 T4 p w1 w30 w31 w2 w3 => ?_) (fun S4 e p w1 w2 => ?_)
        · exact hK.1 S4 _ _ _ T4 (by rw [en2, a_strm2, o]; simp only [p]) (kt3.trans w1) w30 w31 w2 w3
        · exact hK.2 S4 e (by rw [en2, a_strm2, o]; simp only [p]) (kt3.trans w1) w2
      · have kt3 : KT S S3 := (hk0.trans (KT.ex hx)).trans (KT.es h12 z1)
        exact x_193 h z2 (fun v => hK.2 _ e (by rw [en2, a_strm2, o]) (kt3.wI (Or.inr (Or.inr (Or.inr ⟨rfl, by decide⟩)))) z2)
    · simp only [p_mK, FK h, p_mI, p_mJ, e_good h, true_and, and_true, not_true, not_false_eq_true, false_implies, forall_const, show ((1 : Int32) = 0) = False by decide, y2.g0]
      rw [q] at en
      exact x_193 h y2 (fun v => hK.2 _ e en ((hk0.trans (KT.ex (x1'.trans y1))).wI (Or.inr (Or.inr (Or.inr ⟨rfl, by decide⟩)))) y2)
  simp (disch := omega) only [bk_X11_statement_74, p_mK, FK h, p_mI, p_mJ, e_good h, true_and, and_true, not_true, not_false_eq_true, false_implies, forall_const, show ((1 : Int32) = 0) = False by decide, RF h, p_mK, p_mR, p_aN, p_aR, p_mI, p_mJ, p_sI, p_sJ, Option.some.injEq, exists_eq_left', true_and, and_true, na1, na3, n_add, n_mul, n_clamp, n_in, hR.g1, e29]
  exact fin
theorem r_stm (h : SH M m ra) {K : Mm → Prop} {T : Tok} {J W : Nat} (hT : RT S tp) (hR : Rd tp S (.ok T)) (hQ : PQ S C) (hJ : gI S 730 = nI J) (hW : gI S 731 = nI W) (hJ3 : J ≤ 3) (hW3 : W ≤ 3) (hK : HST tp M m ra S K (a_stm tp J W C T)) : wp_X11_statement (pM M m ra S) m K := by
  have h12 := hQ.1.2.1
  have hw := hR.2.2.1
  simp only [wp_X11_statement, p_mK, FK h, p_mI, p_mJ, e_good h, true_and, and_true, not_true, not_false_eq_true, false_implies, forall_const, show ((1 : Int32) = 0) = False by decide, e_isKw (k := 14) (p := 14) h (by decide) rfl hR.2.1 hw, bI_0, e_isName h hR.2.1 hw]
  refine ⟨fun z => ?_, fun z => ?_⟩
  · have n14 : ¬ isKw 14 T = true := by rw [z]; decide
    have es : a_stm tp J W C T = a_strm tp J W C T := by rw [a_stm, if_neg n14]
    by_cases k3 : tkk T = 3
    · have hlen : gI S 707 - gI S 709 = nI (tkw T).length := by
        rw [hR.2.1.1, hR.2.1.2.1, n_sub hw.1]
        have := hw.2.2.2.2.2.2.2.2 (Or.inr k3)
        congr 1; omega
      have e29 : vI S 729 0 = nI (cn C) := hQ.1.1
      simp only [if_pos k3, p_mK, FK h, p_mI, p_mJ, e_good h, true_and, and_true, not_true, not_false_eq_true, false_implies, forall_const, show ((1 : Int32) = 0) = False by decide, (hR.2.1.2.2.2.1 (Or.inr k3)).2, hlen]
      refine r_findName h hQ.1 (hw.ww (Or.inr k3)) ?_
      have hlt : ∀ n, a_find C (tkw T) = some n → n < 2000 := fun n hn => by have := fnd_lt _ _ hn; omega
      rw [oI_lt hlt]
      refine ⟨fun q => ?_, fun q => ?_⟩
      · simp (disch := omega) only [RF h, p_mK, p_mR, p_aN, p_aR, p_mI, p_mJ, p_sI, p_sJ, Option.some.injEq, exists_eq_left', true_and, and_true, na1, na3, n_add, n_mul, n_clamp, n_in, e29, FK h]
        have e12 : (nI (cn C) = 12) = (cn C = 12) := by rw [show (12 : Int32) = nI 12 from rfl, n_eq (by omega) (by omega)]
        rw [e12]
        refine ⟨fun c12 => r_stm74 h hT hR hQ (by omega) k3 hJ hW hJ3 hW3 q n14 hK, fun c12 => ?_⟩
        have f6 : wp_X11_fault (pM M m ra S) m 6 (fun M99 => bk_X11_statement_74 m K (w5 (tkw T)) (nI (tkw T).length) M99) = wp_X11_fault (pM M m ra S) m (nI 6) (fun M99 => bk_X11_statement_74 m K (w5 (tkw T)) (nI (tkw T).length) M99) := rfl
        rw [f6]
        refine r_flt (α := Tok) h hR (by decide) (by decide) (fun S1 x1 x2 => x_74 h x2 (hK.2 S1 _ ?_ (KT.ex (exR x1 (by decide))) x2))
        rw [es, a_strm, if_pos k3, q]; simp only [if_pos c12]; rfl
      · have f3 : wp_X11_fault (pM M m ra S) m 3 (fun M102 => bk_X11_statement_74 m K (w5 (tkw T)) (nI (tkw T).length) M102) = wp_X11_fault (pM M m ra S) m (nI 3) (fun M102 => bk_X11_statement_74 m K (w5 (tkw T)) (nI (tkw T).length) M102) := rfl
        simp only [p_mK, FK h, true_and]
        rw [f3]
        refine r_flt (α := Tok) h hR (by decide) (by decide) (fun S1 x1 x2 => x_74 h x2 (hK.2 S1 _ ?_ (KT.ex (exR x1 (by decide))) x2))
        cases e : a_find C (tkw T) with
        | none => exact absurd e q
        | some i => rw [es, a_strm, if_pos k3, e]; rfl
    · simp only [if_neg k3, p_mK, FK h, p_mI, p_mJ, e_good h, true_and, and_true, not_true, not_false_eq_true, false_implies, forall_const, show ((1 : Int32) = 0) = False by decide]
      refine r_mis (α := Nat × Nat × Cfg × Tok) h hR (fun S1 x1 x2 => hK.2 S1 _ ?_ (KT.ex (exR x1 (by decide))) x2)
      rw [es, a_strm, if_neg k3]; rfl
  · have y14 : isKw 14 T = true := by simpa using z
    refine r_alg h hT hR hQ (fun S1 y q x1 x30 x31 x2 x3 => hK.1 S1 J W y.1 y.2 ?_ x1 (x30.trans hJ) (x31.trans hW) x2 x3) (fun S1 e q x1 x2 => hK.2 S1 e ?_ x1 x2)
    · rw [a_stm, if_pos y14, q]
    · rw [a_stm, if_pos y14, q]
end RG
