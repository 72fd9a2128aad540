/-! the reference reads statements: whole ones, and the text -/
section RF9
variable {M : Mm} {m : Nat} {ra : Nat → Nat} {S : St} {tp : List Nat} {C : Cfg}
/-- the streams between two statements -/
def PQ (S : St) (C : Cfg) : Prop := PC S C ∧ (∀ q, q < cn C → vI S 726 q = oI (ctk C q)) ∧ WT C
theorem PQ.ex {S S1 : St} (h : PQ S C) (hx : Ex rdF S S1) : PQ S1 C := ⟨h.1.es (ES.ex hx), fun q hq => by rw [(hx 726 (by decide)).2.2.1]; exact h.2.1 q hq, h.2.2⟩
/-- what is kept while a text is read -/
def KT (S S1 : St) : Prop := (∀ f, ¬ f ∈ rdF → ¬ f = 704 → ¬ f = 730 → ¬ f = 731 → gI S1 f = gI S f) ∧ (∀ f j, ¬ f ∈ rdF → (¬ (f = 715 ∨ f = 717 ∨ f = 718 ∨ f = 719 ∨ f = 722 ∨ f = 723 ∨ f = 724 ∨ f = 726) ∨ 12 ≤ j) → (¬ f = 725 ∨ 48 ≤ j) → (¬ f = 727 ∨ 4 ≤ j) → (¬ f = 729 ∨ 1 ≤ j) → vI S1 f j = vI S f j) ∧ (∀ f j, ¬ f ∈ rdF → (¬ (f = 716 ∨ f = 720 ∨ f = 721) ∨ 12 ≤ j) → (¬ f = 728 ∨ 4 ≤ j) → vJ S1 f j = vJ S f j) ∧ ∀ j, bz (vI S 719 j) → bz (vI S1 719 j)
theorem KT.refl {S : St} : KT S S := ⟨fun _ _ _ _ _ => rfl, fun _ _ _ _ _ _ _ => rfl, fun _ _ _ _ _ => rfl, fun _ z => z⟩
theorem KT.trans {S S1 S2 : St} (h : KT S S1) (g : KT S1 S2) : KT S S2 := ⟨fun f a b c d => (g.1 f a b c d).trans (h.1 f a b c d), fun f j a b c d e => (g.2.1 f j a b c d e).trans (h.2.1 f j a b c d e), fun f j a b c => (g.2.2.1 f j a b c).trans (h.2.2.1 f j a b c), fun j z => g.2.2.2 j (h.2.2.2 j z)⟩
theorem KT.es {s : Nat} {S S1 : St} (hs : s < 12) (h : ES s S S1) : KT S S1 := ⟨fun f a _ c d => h.1 f a c d, fun f j a b c d e => h.2.2.1 f j a (by omega) (by omega) (by omega), fun f j a b c => h.2.2.2.1 f j a (by omega), h.2.2.2.2⟩
theorem KT.ex {S S1 : St} (h : Ex rdF S S1) : KT S S1 := KT.es (s := 0) (by decide) (ES.ex h)
theorem KT.wI {S S1 : St} {f j : Nat} {v : Int32} (h : KT S S1) (hf : ((f = 715 ∨ f = 717 ∨ f = 718 ∨ f = 719 ∨ f = 722 ∨ f = 723 ∨ f = 724 ∨ f = 726) ∧ j < 12) ∨ (f = 725 ∧ j < 48) ∨ (f = 727 ∧ j < 4) ∨ (f = 729 ∧ j < 1)) (hz : f = 719 → bz v := by intro e; first | (exact absurd e (by decide)) | (simp [bz])) : KT S (wI S1 f j v) := by
  refine h.trans ⟨fun _ _ _ _ _ => rfl, fun g i _ a b c d => ?_, fun _ _ _ _ _ => rfl, fun i z => ?_⟩
  case refine_2 =>
    simp only [sg]
    by_cases e : 719 = f
    · rw [if_pos e]
      by_cases e2 : i = j
      · rw [if_pos e2]; exact hz e.symm
      · rw [if_neg e2]; exact z
    · rw [if_neg e]; exact z
  simp only [sg]
  by_cases e : g = f
  · by_cases e2 : i = j
    · subst e; subst e2; exfalso; omega
    · rw [if_pos e, if_neg e2]
  · rw [if_neg e]
theorem KT.wJ {S S1 : St} {f j : Nat} {v : Int64} (h : KT S S1) (hf : ((f = 716 ∨ f = 720 ∨ f = 721) ∧ j < 12) ∨ (f = 728 ∧ j < 4)) : KT S (wJ S1 f j v) := by
  refine h.trans ⟨fun _ _ _ _ _ => rfl, fun _ _ _ _ _ _ _ => rfl, fun g i _ a b => ?_, fun _ z => z⟩
  simp only [sg]
  by_cases e : g = f
  · by_cases e2 : i = j
    · subst e; subst e2; exfalso; omega
    · rw [if_pos e, if_neg e2]
  · rw [if_neg e]
theorem KT.pI {S S1 : St} {f : Nat} {v : Int32} (h : KT S S1) (hf : f ∈ rdF ∨ f = 704 ∨ f = 730 ∨ f = 731) : KT S (pI S1 f v) := by
  refine h.trans ⟨fun g a b c d => ?_, fun _ _ _ _ _ _ _ => rfl, fun _ _ _ _ _ => rfl, fun _ z => z⟩
  simp only [sg]
  refine if_neg (fun e => ?_)
  subst e
  rcases hf with q | q | q | q
  · exact a q
  · exact b q
  · exact c q
  · exact d q
theorem RT.kt {S S1 : St} (h : RT S tp) (hx : KT S S1) : RT S1 tp := by
  unfold RT
  rw [hx.1 706 (by decide) (by decide) (by decide) (by decide)]
  refine ⟨h.1, h.2.1, fun i c hi => ?_⟩
  rw [hx.2.1 705 i (by decide) (Or.inl (by decide)) (Or.inl (by decide)) (Or.inl (by decide)) (Or.inl (by decide))]
  exact h.2.2 i c hi
/-- a statement's two ends -/
def HST (tp : List Nat) (M : Mm) (m : Nat) (ra : Nat → Nat) (S : St) (K : Mm → Prop) (r : Except Flt (Nat × Nat × Cfg × Tok)) : Prop := (∀ S1 J W C T, r = .ok (J, W, C, T) → KT S S1 → gI S1 730 = nI J → gI S1 731 = nI W → Rd tp S1 (.ok T) → PQ S1 C → K (pM M m ra S1)) ∧ ∀ S1 e, r = .error e → KT S S1 → Rd tp S1 (.error e) → K (pM M m ra S1)
theorem adds_PQ {w : List Nat} {x : Slot} (hB : BD S C x) (hw : WW w) (h16 : vJ S 716 (cn C) = w5 w) (h17 : vI S 717 (cn C) = nI w.length) (h12 : cn C < 12) : PQ (wI S 729 0 (nI (cn C + 1))) (a_adds C w x) := by
  obtain ⟨b1, b2, b3, b4, b5, b6⟩ := hB
  obtain ⟨p1, p2, p3, p4⟩ := b1
  obtain ⟨s1, s2, s3, s4, s5, s6, s7, s8, s9⟩ := b3
  refine ⟨⟨by simp [sg, a_adds, cn], by show cn C + 1 ≤ 12; omega, fun s hs => ?_, fun g hg => ?_⟩, fun q hq => ?_, fun s t ht => ?_⟩
  · have hs' : s < cn C + 1 := hs
    by_cases e : s = cn C
    · subst e
      refine ⟨?_, ?_, ?_, ?_, ?_, ?_, ?_, ?_, ?_, ?_, ?_, ?_, fun i hi => ?_⟩
      · show WW (put1 (cnm C) (cn C) w (cn C)); simp only [put1, if_true]; exact hw
      · show (put1 (cin C) (cn C) x.2.1 (cn C)).length ≤ 4; simp only [put1, if_true]; exact b6
      · show vJ S 716 (cn C) = w5 (put1 (cnm C) (cn C) w (cn C)); simp only [put1, if_true]; exact h16
      · show vI (wI S 729 0 _) 717 (cn C) = nI (put1 (cnm C) (cn C) w (cn C)).length; simp only [put1, if_true, sg]; exact h17
      · show vI (wI S 729 0 _) 715 (cn C) = nI (put1 (ckd C) (cn C) x.1 (cn C)); simp only [put1, if_true, sg]; exact s1
      · show vI (wI S 729 0 _) 718 (cn C) = nI (put1 (cpt C) (cn C) x.2.2.2.2.1 (cn C)); simp only [put1, if_true, sg]; exact s2
      · show vI (wI S 729 0 _) 719 (cn C) = bI (put1 (chl C) (cn C) x.2.2.2.2.2.1 (cn C)); simp only [put1, if_true, sg]; exact s3
      · show vJ S 720 (cn C) = put1 (co1 C) (cn C) x.2.2.1 (cn C); simp only [put1, if_true]; exact s4
      · show vJ S 721 (cn C) = put1 (co2 C) (cn C) x.2.2.2.1 (cn C); simp only [put1, if_true]; exact s5
      · show vI (wI S 729 0 _) 722 (cn C) = nI (put1 (caf C) (cn C) x.2.2.2.2.2.2.1 (cn C)); simp only [put1, if_true, sg]; exact s6
      · show vI (wI S 729 0 _) 723 (cn C) = oI (put1 (cgr C) (cn C) x.2.2.2.2.2.2.2 (cn C)); simp only [put1, if_true, sg]; exact s7
      · show vI (wI S 729 0 _) 724 (cn C) = nI (put1 (cin C) (cn C) x.2.1 (cn C)).length; simp only [put1, if_true, sg]; exact s8
      · have hi' : i < x.2.1.length := by
          have h9 : i < (put1 (cin C) (cn C) x.2.1 (cn C)).length := hi
          simpa only [put1, if_true] using h9
        have e9 : a_in (a_adds C w x) (cn C) i = x.2.1.getD i 0 := by
          show (put1 (cin C) (cn C) x.2.1 (cn C)).getD i 0 = _
          simp only [put1, if_true]
        rw [e9]
        have h8 := s9 i (x.2.1[i]) (List.getElem?_eq_getElem hi')
        rw [List.getD_eq_getElem?_getD, List.getElem?_eq_getElem hi']
        simpa [sg] using h8
    · obtain ⟨a1, a2, a3, a4, a5, a6, a7, a8, a9, a10, a11, a12, a13⟩ := p3 s (by omega)
      have e9 : ∀ i, a_in (a_adds C w x) s i = a_in C s i := fun i => by
        show (put1 (cin C) (cn C) x.2.1 s).getD i 0 = _
        simp only [put1, if_neg e]; rfl
      refine ⟨?_, ?_, ?_, ?_, ?_, ?_, ?_, ?_, ?_, ?_, ?_, ?_, fun i hi => ?_⟩
      · show WW (put1 (cnm C) (cn C) w s); simp only [put1, if_neg e]; exact a1
      · show (put1 (cin C) (cn C) x.2.1 s).length ≤ 4; simp only [put1, if_neg e]; exact a2
      · show vJ S 716 s = w5 (put1 (cnm C) (cn C) w s); simp only [put1, if_neg e]; exact a3
      · show vI (wI S 729 0 _) 717 s = nI (put1 (cnm C) (cn C) w s).length; simp only [put1, if_neg e, sg]; exact a4
      · show vI (wI S 729 0 _) 715 s = nI (put1 (ckd C) (cn C) x.1 s); simp only [put1, if_neg e, sg]; exact a5
      · show vI (wI S 729 0 _) 718 s = nI (put1 (cpt C) (cn C) x.2.2.2.2.1 s); simp only [put1, if_neg e, sg]; exact a6
      · show vI (wI S 729 0 _) 719 s = bI (put1 (chl C) (cn C) x.2.2.2.2.2.1 s); simp only [put1, if_neg e, sg]; exact a7
      · show vJ S 720 s = put1 (co1 C) (cn C) x.2.2.1 s; simp only [put1, if_neg e]; exact a8
      · show vJ S 721 s = put1 (co2 C) (cn C) x.2.2.2.1 s; simp only [put1, if_neg e]; exact a9
      · show vI (wI S 729 0 _) 722 s = nI (put1 (caf C) (cn C) x.2.2.2.2.2.2.1 s); simp only [put1, if_neg e, sg]; exact a10
      · show vI (wI S 729 0 _) 723 s = oI (put1 (cgr C) (cn C) x.2.2.2.2.2.2.2 s); simp only [put1, if_neg e, sg]; exact a11
      · show vI (wI S 729 0 _) 724 s = nI (put1 (cin C) (cn C) x.2.1 s).length; simp only [put1, if_neg e, sg]; exact a12
      · have hi' : i < (cin C s).length := by
          have h9 : i < (put1 (cin C) (cn C) x.2.1 s).length := hi
          simpa only [put1, if_neg e] using h9
        rw [e9]
        simpa [sg] using a13 i hi'
  · refine ⟨?_, (p4 g hg).2⟩
    show vI (wI S 729 0 _) 727 g = bI (csp C g).isSome
    simpa [sg] using (p4 g hg).1
  · have hq' : q < cn C + 1 := hq
    have := b2 q (by omega)
    simp only [sg]
    rw [if_neg (by decide), this]
    rfl
  · have ht' : (if s = cn C then none else if s ∈ x.2.1 then some (cn C) else ctk C s) = some t := ht
    by_cases e : s = cn C
    · rw [if_pos e] at ht'; cases ht'
    · rw [if_neg e] at ht'
      by_cases e2 : s ∈ x.2.1
      · rw [if_pos e2] at ht'; cases ht'
        exact ⟨b5 s e2, Nat.lt_succ_self _⟩
      · rw [if_neg e2] at ht'
        have := b4 s t ht'
        exact ⟨this.1, Nat.lt_succ_of_lt this.2⟩
theorem r_193 (h : SH M m ra) {K : Mm → Prop} {T : Tok} {x : Slot} {w : List Nat} {J W : Nat} (hT : RT S tp) (hR : Rd tp S (.ok T)) (hB : BD S C x) (h12 : cn C < 12) (hw : WW w) (h16 : vJ S 716 (cn C) = w5 w) (h17 : vI S 717 (cn C) = nI w.length) (hJ : gI S 730 = nI J) (hW : gI S 731 = nI W) (hok : ∀ S1 T1, a_sg tp 59 T = .ok T1 → KT S S1 → gI S1 730 = nI J → gI S1 731 = nI W → Rd tp S1 (.ok T1) → PQ S1 (a_adds C w x) → K (pM M m ra S1)) (her : ∀ S1 e, a_sg tp 59 T = .error e → KT S S1 → Rd tp S1 (.error e) → K (pM M m ra S1)) : bk_X11_statement_193 m K (pM M m ra S) := by
  refine ⟨FK h, r_sg2 (c := 59) h (by decide) hT hR (fun S1 T1 q x1 x2 => ⟨FK h, ?_⟩) (fun S1 e q x1 x2 => ⟨FK h, ?_⟩)⟩
  · have hB1 := hB.ex x1
    have e29 : vI S1 729 0 = nI (cn C) := hB1.1.1
    simp (disch := omega) only [p_mK, FK h, p_mI, p_mJ, e_good h, true_and, and_true, not_true, not_false_eq_true, false_implies, forall_const, show ((1 : Int32) = 0) = False by decide, RF h, p_mK, p_mR, p_aN, p_aR, p_mI, p_mJ, p_sI, p_sJ, Option.some.injEq, exists_eq_left', true_and, and_true, na1, na3, n_add, n_mul, n_clamp, n_in, x2.g1, e29, bk_X11_statement_218]
    refine hok _ T1 q ((KT.ex x1).wI (Or.inr (Or.inr (Or.inr ⟨rfl, by decide⟩)))) ((x1 730 (by decide)).1.trans hJ) ((x1 731 (by decide)).1.trans hW) x2 ?_
    refine adds_PQ hB1 hw ?_ ?_ h12
    · rw [(x1 716 (by decide)).2.2.2]; exact h16
    · rw [(x1 717 (by decide)).2.2.1]; exact h17
  · have hB1 := hB.ex x1
    have e29 : vI S1 729 0 = nI (cn C) := hB1.1.1
    simp (disch := omega) only [p_mK, FK h, p_mI, p_mJ, e_good h, true_and, and_true, not_true, not_false_eq_true, false_implies, forall_const, show ((1 : Int32) = 0) = False by decide, RF h, p_mK, p_mR, p_aN, p_aR, p_mI, p_mJ, p_sI, p_sJ, Option.some.injEq, exists_eq_left', true_and, and_true, na1, na3, n_add, n_mul, n_clamp, n_in, x2.g0, e29, bk_X11_statement_218]
    exact her _ e q ((KT.ex x1).wI (Or.inr (Or.inr (Or.inr ⟨rfl, by decide⟩)))) x2
theorem x_193 (h : SH M m ra) {K : Mm → Prop} {e : Flt} (hR : Rd tp S (.error e)) (hK : ∀ v, K (pM M m ra (wI S 729 0 v))) : bk_X11_statement_193 m K (pM M m ra S) := by
  refine ⟨FK h, ?_⟩
  rw [x_sg h hR]
  simp (disch := omega) only [p_mK, FK h, p_mI, p_mJ, e_good h, true_and, and_true, not_true, not_false_eq_true, false_implies, forall_const, show ((1 : Int32) = 0) = False by decide, RF h, p_mK, p_mR, p_aN, p_aR, p_mI, p_mJ, p_sI, p_sJ, Option.some.injEq, exists_eq_left', true_and, and_true, na1, na3, n_add, n_mul, n_clamp, n_in, hR.g0, bk_X11_statement_218]
  exact hK _
/-- the slot as it is made ready -/
def sl0 (S : St) (s : Nat) (w : List Nat) : St := wJ (wJ (wI (wI (wI (wI (wI (wI (wI (wJ S 716 s (w5 w)) 717 s (nI w.length)) 724 s 0) 726 s (-1)) 718 s 0) 722 s 0) 723 s (-1)) 719 s 0) 720 s 0) 721 s 0
theorem sl0_BD {w : List Nat} (hQ : PQ S C) : BD0 (sl0 S (cn C) w) C := by
  intro k
  obtain ⟨q1, q2, q3⟩ := hQ
  refine ⟨?_, fun q hq => ?_, ?_, q3, fun i hi => (by cases hi), Nat.zero_le _⟩
  · refine q1.cong (by simp [sl0, sg]) (fun f j hf hj => ?_) (fun j hj => by simp [sl0, sg]) (fun f j hf hj => ?_) (fun g hg => ⟨by simp [sl0, sg], by simp [sl0, sg]⟩)
    · have ne : ¬ j = cn C := by omega
      simp [sl0, sg, ne]
    · have ne : ¬ j = cn C := by omega
      simp [sl0, sg, ne]
  · by_cases e : q = cn C
    · subst e
      simp [sl0, sg, tkr, oI]
    · have := q2 q (by omega)
      simp [sl0, sg, tkr, e, this]
  · refine ⟨by simp [sl0, sg], by simp [sl0, sg]; rfl, by simp [sl0, sg]; rfl, by simp [sl0, sg], by simp [sl0, sg], by simp [sl0, sg]; rfl, by simp [sl0, sg]; rfl, by simp [sl0, sg]; rfl, fun i c hi => by simp at hi⟩
theorem sl0_KT {s : Nat} {w : List Nat} (h12 : s < 12) : KT S (sl0 S s w) := by
  unfold sl0
  exact (((((((((KT.refl.wJ (Or.inl ⟨by decide, h12⟩)).wI (Or.inl ⟨by decide, h12⟩)).wI (Or.inl ⟨by decide, h12⟩)).wI (Or.inl ⟨by decide, h12⟩)).wI (Or.inl ⟨by decide, h12⟩)).wI (Or.inl ⟨by decide, h12⟩)).wI (Or.inl ⟨by decide, h12⟩)).wI (Or.inl ⟨by decide, h12⟩)).wJ (Or.inl ⟨by decide, h12⟩)).wJ (Or.inl ⟨by decide, h12⟩)
end RF9
