/-! build, whatever stood before -/
section D7
variable {M M1 : Mm} {m o b N k : Nat} {ra : Nat → Nat} {S S1 S2 : St} {C : Cfg} {D : Dyn} {L : Nat → Nat → Nat} {tp pg tp1 pg1 : List Nat} {xs : Nat → Int32} {K : Int32 → Mm → Prop} {R : Option Nat → Option Nat → Option Nat → Int32 → Mm → Prop} {l4 : Int32}
theorem KT.kn (h : KT S S1) : KN S S1 := by
  obtain ⟨k1, k2, k3, k4⟩ := h
  refine ⟨⟨fun f hf => ?_, fun f hf => ?_, fun f hf => ?_, fun f hf s => ?_, fun f hf s => ?_, fun j => k2 725 _ (by decide) (Or.inl (by decide)) (Or.inr (by omega)) (Or.inl (by decide)) (Or.inl (by decide)), fun g => ⟨k2 727 _ (by decide) (Or.inl (by decide)) (Or.inl (by decide)) (Or.inr (by omega)) (Or.inl (by decide)), k3 728 _ (by decide) (Or.inl (by decide)) (Or.inr (by omega))⟩, k2 729 1 (by decide) (Or.inl (by decide)) (Or.inl (by decide)) (Or.inl (by decide)) (Or.inr (by decide))⟩, fun s => ⟨k3 716 _ (by decide) (Or.inr (by omega)) (Or.inl (by decide)), k2 717 _ (by decide) (Or.inr (by omega)) (Or.inl (by decide)) (Or.inl (by decide)) (Or.inl (by decide))⟩⟩
  · have q : ∀ f ∈ [732, 738, 739, 741, 743, 752], ¬ f ∈ rdF ∧ ¬ f = 704 ∧ ¬ f = 730 ∧ ¬ f = 731 := by decide
    exact k1 f (q f hf).1 (q f hf).2.1 (q f hf).2.2.1 (q f hf).2.2.2
  · have q : ∀ f ∈ [734, 735, 737, 744, 746, 747, 748, 750, 751, 753, 755], ¬ f ∈ rdF ∧ ¬ (f = 715 ∨ f = 717 ∨ f = 718 ∨ f = 719 ∨ f = 722 ∨ f = 723 ∨ f = 724 ∨ f = 726) ∧ ¬ f = 725 ∧ ¬ f = 727 ∧ ¬ f = 729 := by decide
    obtain ⟨q1, q2, q3, q4, q5⟩ := q f hf
    funext j
    exact k2 f j q1 (Or.inl q2) (Or.inl q3) (Or.inl q4) (Or.inl q5)
  · have q : ∀ f ∈ [733, 736, 740, 742, 745, 749, 754], ¬ f ∈ rdF ∧ ¬ (f = 716 ∨ f = 720 ∨ f = 721) ∧ ¬ f = 728 := by decide
    obtain ⟨q1, q2, q3⟩ := q f hf
    funext j
    exact k3 f j q1 (Or.inl q2) (Or.inl q3)
  · have q : ∀ f ∈ [715, 718, 719, 722, 723, 724, 726], ¬ f ∈ rdF ∧ ¬ f = 725 ∧ ¬ f = 727 ∧ ¬ f = 729 := by decide
    obtain ⟨q1, q3, q4, q5⟩ := q f hf
    exact k2 f _ q1 (Or.inr (by omega)) (Or.inl q3) (Or.inl q4) (Or.inl q5)
  · have q : ∀ f ∈ [720, 721], ¬ f ∈ rdF ∧ ¬ f = 728 := by decide
    obtain ⟨q1, q3⟩ := q f hf
    exact k3 f _ q1 (Or.inr (by omega)) (Or.inl q3)
theorem KN.p2 {f : Nat} {v : Int32} (hf : f = 706 ∨ f = 714) : KN S (pI S f v) := by
  refine ⟨⟨fun g hg => ?_, fun _ _ => rfl, fun _ _ => rfl, fun _ _ _ => rfl, fun _ _ _ => rfl, fun _ => rfl, fun _ => ⟨rfl, rfl⟩, rfl⟩, fun _ => ⟨rfl, rfl⟩⟩
  have q : ∀ g ∈ [732, 738, 739, 741, 743, 752], ¬ g = 706 ∧ ¬ g = 714 := by decide
  have ne : ¬ g = f := by
    rcases hf with e | e
    · rw [e]; exact (q g hg).1
    · rw [e]; exact (q g hg).2
  simp [sg, ne]
theorem KT.rp (h : KT S S1) (hP : RP S pg) : RP S1 pg := by
  have e : gI S1 760 = gI S 760 := h.1 760 (by decide) (by decide) (by decide) (by decide)
  exact ⟨e.trans hP.1, hP.2.1, fun i c hc => ⟨(hP.2.2 i c hc).1, (h.2.1 759 i (by decide) (Or.inl (by decide)) (Or.inl (by decide)) (Or.inl (by decide)) (Or.inl (by decide))).trans (hP.2.2 i c hc).2⟩⟩
theorem RT_nil (h : gI S 706 = 0) : RT S [] := ⟨h, Nat.zero_le _, fun i c hc => (by cases hc)⟩
theorem YB_nil {bb a : Nat} (h1 : mK M bb = 1) (h2 : mR M 0 bb = some a) (h3 : mK M a = 16) (h4 : aN M a = 600) (h5 : mI M 1 bb = 0) : YB M bb a 600 [] := ⟨h1, h2, h3, h4, h5, Nat.zero_le _, fun i c hc => (by cases hc)⟩
theorem gX700 : ∀ f ∈ (1 :: 194 :: 645 :: gX), f < 700 := by decide
theorem u_build (V : V5 l4 N) (hI : IC M S L m o ra tp pg) (hB : BU k M S L) (hN : ∀ M1, INV (k + 1) (L 0 0) m o M1 → R (some (L 0 0)) (some m) (some o) (l4 + 6) M1) : bk_L_law_205 b N xs R K (some (L 0 0)) (some m) (some o) l4 M := by
  have hI2 := hI
  obtain ⟨h1, h2, h3, h4, h5, h6, h7, h8, h9, h10, h11⟩ := hI2
  refine ⟨L 0 0, rfl, h1.1, c_build (S := S) h1 h4.tps (fun M1 L1 C hp hL gx e10 e8 e45 hW hC hNm => ?_) (fun M1 e hp gx => ?_)⟩
  · obtain ⟨g1, S1, g2, g3⟩ := pM_rx h2 h3 (RX.gx gx gX700 (by decide))
    refine ⟨m, rfl, g1.1, ?_⟩
    rw [g2]
    refine r_build (B := S) g1 (h5.sb g3.sb) (fun j hj => by rw [g3.2.1]; exact h11 j hj) (fun S3 S4 C2 hp2 kt st pq => ⟨fun _ => hN _ ?_, fun y => ?_⟩) (fun S3 e hp2 _ _ _ _ => by rw [hp] at hp2; cases hp2)
    · rw [hp] at hp2
      cases hp2
      obtain ⟨a4, n4⟩ := std_SA (S := pI (pI S3 706 0) 714 0) pq st
      have hO1 := hC.2.1.1
      have l10 : L1 0 10 = L 0 10 := hL.2 10 (by decide)
      have l11 : L1 0 11 = L 0 11 := hL.2 11 (by decide)
      have l8 : L1 0 8 = L 0 8 := hL.2 8 (by decide)
      have hx : HX [] M1 (pM M1 m ra S4) := HX.pM g1.1
      have y1 : YB M1 (L1 0 8) (L1 0 9) 600 [] := YB_nil hO1.2.2.2.2.2.1.1 hO1.2.2.2.2.2.1.2.1 hO1.2.2.2.2.2.1.2.2.1 hO1.2.2.2.2.2.1.2.2.2 (by rw [l8]; exact e8)
      have y2 : YB M1 (L1 0 10) (L1 0 11) 800 pg := by
        rw [l10, l11]
        exact h6.of ((gx.k h6.1 (by decide)).trans h6.1.symm) ((gx.k h6.2.2.1 (by decide)).trans h6.2.2.1.symm) (gx.r h6.1 (by decide) (by decide)) (gx.n h6.2.2.1 (by decide)) e10 (fun j => gx.ai h6.2.2.1 (by decide))
      have t2 : RP S4 pg := by
        have q := kt.rp (h7.sb g3.sb)
        obtain ⟨s1, s2, s3, s4, s5, s6, s7, s8, s9, s10, s11⟩ := st
        exact ⟨s9.trans q.1, q.2.1, fun i c hc => ⟨(q.2.2 i c hc).1, (s11 i).trans (q.2.2 i c hc).2⟩⟩
      obtain ⟨s1, s2, s3, s4, s5, s6, s7, s8, s9, s10, s11⟩ := st
      have e6 : gI S4 706 = 0 := by rw [s7]; simp [sg]
      have e14 : gI S4 714 = 0 := by rw [s8]; simp [sg]
      refine ⟨L1, S4, ra, [], pg, hL.1, IC.mk hO1 g1 y1 (RT_nil e6) y2 t2 h8 (by rw [hL.1, e45, e14]) ⟨gx.k h10.1 (by decide), (gx.n h10.1 (by decide)).trans h10.2⟩ (fun j hj => ?_), Or.inl ⟨setb C S4, D0, hW, CR_hx hx hC, NMC_hx hx (fun s hs => (hC.2.1.2.2.2.1 s hs).2.1) hNm, a4, n4, (OKD0 hW).setb, Rm0, jc_setb (parse_J hp), Nat.zero_le _⟩⟩
      rw [(s1 j hj).2.2.2.2.2.2.2.2.2.2.2]
      have q := kt.2.2.2 j (by rw [g3.2.1]; exact h11 j hj)
      exact q
    · rw [hp] at hp2
      cases hp2
      exact absurd rfl y
  · have rx : RX M (sI (sI M1 1 (L 0 8) 0) 645 (L 0 0) (nI e.1)) := RXsI (RXsI (RX.gx gx (by decide) (by decide)) (by decide)) (by decide)
    obtain ⟨g1, S1, g2, g3⟩ := pM_rx h2 h3 rx
    refine ⟨m, rfl, g1.1, ?_⟩
    rw [g2]
    refine r_build (B := S) g1 (h5.sb g3.sb) (fun j hj => by rw [g3.2.1]; exact h11 j hj) (fun S3 S4 C2 hp2 kt st pq => by rw [hp] at hp2; cases hp2) (fun S3 e2 hp2 kt b1 b2 b3 => ⟨fun _ => hN _ ?_, fun y => ?_⟩)
    · rw [hp] at hp2
      cases hp2
      have hx : HX [] M (sI (sI M1 1 (L 0 8) 0) 645 (L 0 0) (nI e.1)) := HXsI (HXsI (HX.gx gx) (by rw [h4.1]; rfl)) (by rw [h1.1]; rfl)
      have hO : COB (sI (sI M1 1 (L 0 8) 0) 645 (L 0 0) (nI e.1)) L := COB_hx (Y := []) (hx.mono (fun _ q => q) (by decide)) h1
      have y1 : YB (sI (sI M1 1 (L 0 8) 0) 645 (L 0 0) (nI e.1)) (L 0 8) (L 0 9) 600 [] := YB_nil hO.2.2.2.2.2.1.1 hO.2.2.2.2.2.1.2.1 hO.2.2.2.2.2.1.2.2.1 hO.2.2.2.2.2.1.2.2.2 (by simp [ms])
      have y2 : YB (sI (sI M1 1 (L 0 8) 0) 645 (L 0 0) (nI e.1)) (L 0 10) (L 0 11) 800 pg := by
        refine h6.of ((gx.k h6.1 (by decide)).trans h6.1.symm) ((gx.k h6.2.2.1 (by decide)).trans h6.2.2.1.symm) (gx.r h6.1 (by decide) (by decide)) (gx.n h6.2.2.1 (by decide)) ?_ (fun j => gx.ai h6.2.2.1 (by decide))
        have := gx.i (f := 1) h6.1 (by decide) (by decide)
        have ne : ¬ L 0 10 = L 0 8 := fun e => h1.2.2.2.2.2.2.2.2.2.1 e.symm
        simpa [ms, ne] using this
      have t2 : RP (pI (pI S3 706 0) 714 (nI e.1)) pg := by
        have q := kt.rp (h7.sb g3.sb)
        exact ⟨by simpa [sg] using q.1, q.2.1, q.2.2⟩
      refine ⟨L, _, ra, [], pg, rfl, IC.mk hO g1 y1 (RT_nil (by simp [sg])) y2 t2 h8 (by simp [ms, sg]) ⟨gx.k h10.1 (by decide), (gx.n h10.1 (by decide)).trans h10.2⟩ (fun j hj => ?_), ?_⟩
      · exact kt.2.2.2 j (by rw [g3.2.1]; exact h11 j hj)
      · exact hB.keep h1 (hx.trans (HX.pM g1.1)) (g3.kn.trans (kt.kn.trans ((KN.p2 (Or.inl rfl)).trans (KN.p2 (Or.inr rfl)))))
    · rw [hp] at hp2
      cases hp2
      exact absurd rfl y
end D7
