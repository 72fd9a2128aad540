/-! the calls that don't ask whether a graph stands: feed, build, fault, letter; and print -/
def KN (S S1 : St) : Prop := KB S S1 ∧ ∀ s, vJ S1 716 (12 + s) = vJ S 716 (12 + s) ∧ vI S1 717 (12 + s) = vI S 717 (12 + s)
def BU (k : Nat) (M : Mm) (S : St) (L : Nat → Nat → Nat) : Prop := (∃ C D, BG k M S L C D) ∨ UB M S L
section D6
variable {M M1 : Mm} {m o b N k : Nat} {ra : Nat → Nat} {S S1 S2 : St} {C : Cfg} {D : Dyn} {L : Nat → Nat → Nat} {tp pg tp1 pg1 : List Nat} {xs : Nat → Int32} {K : Int32 → Mm → Prop} {R : Option Nat → Option Nat → Option Nat → Int32 → Mm → Prop} {l4 : Int32}
theorem KB.trans (h : KB S S1) (g : KB S1 S2) : KB S S2 := ⟨fun f hf => (g.1 f hf).trans (h.1 f hf), fun f hf => (g.2.1 f hf).trans (h.2.1 f hf), fun f hf => (g.2.2.1 f hf).trans (h.2.2.1 f hf), fun f hf s => (g.2.2.2.1 f hf s).trans (h.2.2.2.1 f hf s), fun f hf s => (g.2.2.2.2.1 f hf s).trans (h.2.2.2.2.1 f hf s), fun j => (g.2.2.2.2.2.1 j).trans (h.2.2.2.2.2.1 j), fun j => ⟨(g.2.2.2.2.2.2.1 j).1.trans (h.2.2.2.2.2.2.1 j).1, (g.2.2.2.2.2.2.1 j).2.trans (h.2.2.2.2.2.2.1 j).2⟩, g.2.2.2.2.2.2.2.trans h.2.2.2.2.2.2.2⟩
theorem KN.trans (h : KN S S1) (g : KN S1 S2) : KN S S2 := ⟨h.1.trans g.1, fun s => ⟨(g.2 s).1.trans (h.2 s).1, (g.2 s).2.trans (h.2 s).2⟩⟩
theorem KN.p704 {v : Int32} : KN S (pI S 704 v) := ⟨KB.p704, fun _ => ⟨rfl, rfl⟩⟩
theorem KG.kn (h : KG S S1) : KN S S1 := ⟨h.kb, fun s => ⟨by rw [h.2.2], by rw [h.2.1]⟩⟩
theorem KN.ex {X : List Nat} (h : Ex X S S1) (hX : ∀ f ∈ [732, 738, 739, 741, 743, 752, 734, 735, 737, 744, 746, 747, 748, 750, 751, 753, 755, 733, 736, 740, 742, 745, 749, 754, 715, 718, 719, 722, 723, 724, 726, 720, 721, 725, 727, 728, 729, 716, 717], ¬ f ∈ X) : KN S S1 := by
  have q := fun f hf => h f (hX f hf)
  refine ⟨⟨fun f hf => (q f ?_).1, fun f hf => (q f ?_).2.2.1, fun f hf => (q f ?_).2.2.2, fun f hf s => congrFun (q f ?_).2.2.1 (12 + s), fun f hf s => congrFun (q f ?_).2.2.2 (12 + s), fun j => by rw [(q 725 (by decide)).2.2.1], fun j => ⟨by rw [(q 727 (by decide)).2.2.1], by rw [(q 728 (by decide)).2.2.2]⟩, by rw [(q 729 (by decide)).2.2.1]⟩, fun s => ⟨by rw [(q 716 (by decide)).2.2.2], by rw [(q 717 (by decide)).2.2.1]⟩⟩
  · revert f; decide
  · revert f; decide
  · revert f; decide
  · revert f; decide
  · revert f; decide
theorem UB.keep (h : UB M S L) (hO : COB M L) (hx : HX [] M M1) (kb : KB S S1) : UB M1 S1 L := by
  obtain ⟨u1, u2, u3, u4, u5, u6, u7, u8, u9, u10⟩ := h
  exact ⟨(hx.r hO.1 (by decide) (by decide)).trans u1, (kb.1 732 (by decide)).trans u2, kb.2.2.2.2.2.2.2.trans u3, (kb.1 738 (by decide)).trans u4, (kb.1 739 (by decide)).trans u5, (kb.1 741 (by decide)).trans u6, (kb.1 743 (by decide)).trans u7, (kb.1 752 (by decide)).trans u8, (hx.i hO.2.2.2.2.2.2.2.1.1 (by decide) (by decide)).trans u9, (hx.i hO.2.2.2.2.2.2.2.2.1.1 (by decide) (by decide)).trans u10⟩
theorem BU.keep (h : BU k M S L) (hO : COB M L) (hx : HX [] M M1) (kn : KN S S1) : BU (k + 1) M1 S1 L := by
  rcases h with ⟨C, D, g1, g2, g3, g4, g5, g6, g7, g8, g9⟩ | h
  · refine Or.inl ⟨setb C S1, D, g1, CR_hx hx g2, NMC_hx hx (fun s hs => (g2.2.1.2.2.2.1 s hs).2.1) g3, SA.kb g4 kn.1, fun s hs => ⟨(g5 s hs).1, (kn.2 s).1.trans (g5 s hs).2.1, (kn.2 s).2.trans (g5 s hs).2.2⟩, g6.setb, g7, jc_setb g8, by omega⟩
  · exact Or.inr (h.keep hO hx kn.1)
theorem IC.mk (hO : COB M1 L) (hS : SH M1 m ra) (y1 : YB M1 (L 0 8) (L 0 9) 600 tp1) (t1 : RT S2 tp1) (y2 : YB M1 (L 0 10) (L 0 11) 800 pg1) (t2 : RP S2 pg1) (hc : ∀ c ∈ pg1, c < 128) (hf : mI M1 645 (L 0 0) = gI S2 714) (ho : mK M1 o = 426 ∧ aN M1 o = 1) (hz : ∀ j, j < 12 → bz (vI S2 719 j)) : IC (pM M1 m ra S2) S2 L m o ra tp1 pg1 := ⟨COB_hx (Y := []) (HX.pM hS.1) hO, hS, pM_pM.symm, y1.pM hS.1, t1, y2.pM hS.1, t2, hc, (pM_645 hO hS.1).trans hf, ho, hz⟩
theorem askU {v : Int32} (hI : IC M S L m o ra tp pg) (hB : BU k M S L) : INV (k + 1) (L 0 0) m o (pM M m ra (pI S 704 v)) := ⟨L, _, ra, tp, pg, rfl, hI.ref SB.p704, hB.keep hI.1 (HX.pM hI.2.1.1) KN.p704⟩
theorem u_fault (V : V5 l4 N) (hI : IC M S L m o ra tp pg) (hB : BU k M S L) (hN : ∀ M1, INV (k + 1) (L 0 0) m o M1 → R (some (L 0 0)) (some m) (some o) (l4 + 6) M1) : bk_L_law_218 b N xs R K (some (L 0 0)) (some m) (some o) l4 M := by
  refine ⟨L 0 0, rfl, hI.1.1, hI.1.1, m, rfl, hI.2.1.1, hI.2.1.1, ?_⟩
  rw [hI.2.2.2.2.2.2.2.2.1]
  have e : sI M 704 m 0 = pM M m ra (pI S 704 0) := by
    have := congrArg (fun X => sI X 704 m 0) hI.2.2.1
    exact this.trans p_sI
  rw [e, p_mI]
  exact ⟨fun _ => hN _ (askU hI hB), fun y => absurd rfl y⟩
theorem u_letter (V : V5 l4 N) (hI : IC M S L m o ra tp pg) (hB : BU k M S L) (hN : ∀ M1, INV (k + 1) (L 0 0) m o M1 → R (some (L 0 0)) (some m) (some o) (l4 + 6) M1) : bk_L_law_1128 b N xs R K (some (L 0 0)) (some m) (some o) l4 M := by
  refine ⟨V.1, L 0 0, rfl, hI.1.1, c_letter hI.1 hI.2.2.2.2.2.1 ⟨V.1, m, rfl, hI.2.1.1, ?_⟩⟩
  rw [hI.2.2.1]
  exact r_letter hI.2.1 hI.2.2.2.2.2.2.1 hI.2.2.2.2.2.2.2.1 ⟨fun _ => hN _ (askU hI hB), fun y => absurd rfl y⟩
theorem u_feed (V : V5 l4 N) (hI : IC M S L m o ra tp pg) (hB : BU k M S L) (hN : ∀ M1, INV (k + 1) (L 0 0) m o M1 → R (some (L 0 0)) (some m) (some o) (l4 + 6) M1) : bk_L_law_136 b N xs R K (some (L 0 0)) (some m) (some o) l4 M := by
  have hI2 := hI
  obtain ⟨h1, h2, h3, h4, h5, h6, h7, h8, h9, h10, h11⟩ := hI2
  refine ⟨V.1, V.2.1, V.2.2.1, L 0 0, rfl, h1.1, c_feed h1 h4 (fun z => ⟨V.1, V.2.1, V.2.2.1, m, rfl, h2.1, ?_⟩) (fun M1 f y p => ⟨V.1, V.2.1, V.2.2.1, m, rfl, by rw [p.1]; exact h2.1, ?_⟩)⟩
  · rw [h3]
    exact r_feed h2 h5 (fun _ => ⟨fun _ => hN _ (askU hI hB), fun y => absurd rfl y⟩) (fun S1 f => absurd f z)
  · obtain ⟨g1, S1, g2, g3⟩ := pM_rx h2 h3 (p.rx h4.2.2.1)
    rw [g2]
    refine r_feed g1 (h5.sb g3.sb) (fun z => absurd f z) (fun S2 _ t x => ⟨fun _ => hN _ ?_, fun y => absurd rfl y⟩)
    have hx : HX [] M M1 := p.hx h4.1 h4.2.2.1
    have hO : COB M1 L := COB_hx (Y := []) (hx.mono (fun _ q => q) (by decide)) h1
    have y2 : YB M1 (L 0 10) (L 0 11) 800 pg := h6.of (by rw [p.1]) (by rw [p.1]) (by rw [p.2.1]) (by rw [p.2.2.2.1]) (p.2.2.2.2.2.2.1 1 _ (fun e => h1.2.2.2.2.2.2.2.2.2.1 e.2.symm)) (p.2.2.2.2.2.2.2 _ (fun e => h1.2.2.2.2.2.2.2.2.2.2.1 e.symm))
    have t2 : RP S2 pg := by
      have q := h7.sb g3.sb
      unfold RP at q ⊢
      rw [(x 760 (by decide)).1, (x 759 (by decide)).2.2.1]; exact q
    refine ⟨L, S2, ra, _, pg, rfl, IC.mk hO g1 y t y2 t2 h8 ?_ ⟨by rw [p.1]; exact h10.1, by rw [p.2.2.2.1]; exact h10.2⟩ (fun j hj => ?_), ?_⟩
    · rw [p.2.2.2.2.2.2.1 645 _ (fun e => absurd e.1 (by decide)), h9, (x 714 (by decide)).1, g3.1 714 (by decide)]
    · rw [(x 719 (by decide)).2.2.1, g3.2.1]; exact h11 j hj
    · exact hB.keep h1 (hx.trans (HX.pM g1.1)) (g3.kn.trans (KN.ex x (by decide)))
theorem g_print (V : V5 l4 N) (hI : IC M S L m o ra tp pg) (hG : BG k M S L C D) (hN : ∀ M1, INV (k + 1) (L 0 0) m o M1 → R (some (L 0 0)) (some m) (some o) (l4 + 6) M1) : bk_L_law_1115 b N xs R K (some (L 0 0)) (some m) (some o) l4 M := by
  have hI2 := hI
  obtain ⟨h1, h2, h3, h4, h5, h6, h7, h8, h9, h10, h11⟩ := hI2
  have hG2 := hG
  obtain ⟨q1, q2, q3, q4, q5, q6, q7, q8, q9⟩ := hG2
  have hv : ∀ s, -9000000000000000000 ≤ (dmk D s).toInt := fun s => (q6.2.1.2.2.1 s).1
  refine ⟨L 0 0, rfl, h1.1, c_print q1 q2 q3 hv h6 (fun M1 y p => ⟨m, rfl, by rw [p.1]; exact h2.1, ?_⟩)⟩
  obtain ⟨g1, S1, g2, g3⟩ := pM_rx h2 h3 (p.rx h6.2.2.1)
  rw [g2]
  refine r_print g1 q1 (g3.sa q4) (q5.sb g3.sb) hv (fun S2 t x => ⟨fun _ => hN _ ?_, fun y => absurd rfl y⟩)
  have hx : HX [] M M1 := p.hx h6.1 h6.2.2.1
  have hO : COB M1 L := COB_hx (Y := []) (hx.mono (fun _ q => q) (by decide)) h1
  have y1 : YB M1 (L 0 8) (L 0 9) 600 tp := h4.of (by rw [p.1]) (by rw [p.1]) (by rw [p.2.1]) (by rw [p.2.2.2.1]) (p.2.2.2.2.2.2.1 1 _ (fun e => h1.2.2.2.2.2.2.2.2.2.1 e.2)) (p.2.2.2.2.2.2.2 _ (fun e => h1.2.2.2.2.2.2.2.2.2.2.1 e))
  have t1 : RT S2 tp := by
    have q := h5.sb g3.sb
    unfold RT at q ⊢
    rw [(x 706 (by decide)).1, (x 705 (by decide)).2.2.1]; exact q
  have hB : BU k M S L := Or.inl ⟨C, D, hG⟩
  refine ⟨L, S2, ra, tp, _, rfl, IC.mk hO g1 y1 t1 y t (mem_pg (fun s hs => (q3 s hs).1) _ (Nat.le_refl _)) ?_ ⟨by rw [p.1]; exact h10.1, by rw [p.2.2.2.1]; exact h10.2⟩ (fun j hj => ?_), ?_⟩
  · rw [p.2.2.2.2.2.2.1 645 _ (fun e => absurd e.1 (by decide)), h9, (x 714 (by decide)).1, g3.1 714 (by decide)]
  · rw [(x 719 (by decide)).2.2.1, g3.2.1]; exact h11 j hj
  · exact hB.keep h1 (hx.trans (HX.pM g1.1)) (g3.kn.trans (KN.ex x (by decide)))
end D6
