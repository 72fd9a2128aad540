/-! what both sides keep to from call to call -/
section D3a
variable {C : Cfg} {B : St}
theorem pass_setb : ∀ (d : Nat) (D : Dyn) (s : Nat) (t : Int64) (k w : Int32), a_pass (setb C B) d D s t k w = a_pass C d D s t k w
  | 0, _, _, _, _, _ => rfl
  | d + 1, D, s, t, k, w => by
    have e : a_pass (setb C B) d = a_pass C d := by
      funext D s t k w; exact pass_setb d D s t k w
    rw [a_pass, a_pass, e]; rfl
theorem close_setb {s : Nat} : ∀ (n : Nat) (D : Dyn), a_close (setb C B) s n D = a_close C s n D
  | 0, _ => rfl
  | n + 1, D => by
    have e : a_close (setb C B) s n = a_close C s n := by
      funext D; exact close_setb n D
    have e2 : a_pass (setb C B) 30 = a_pass C 30 := by
      funext D s t k w; exact pass_setb 30 D s t k w
    rw [a_close, a_close, e, e2]; rfl
theorem step_setb {D : Dyn} {s : Nat} : a_step (setb C B) D s = a_step C D s := by
  have e : ∀ n D, a_close (setb C B) s n D = a_close C s n D := fun n D => close_setb n D
  unfold a_step
  rw [e]; rfl
theorem reckN_setb {D : Dyn} : ∀ n, a_reckN (setb C B) D n = a_reckN C D n
  | 0 => rfl
  | n + 1 => by rw [a_reckN, a_reckN, reckN_setb n, step_setb]
theorem reckon_setb {D : Dyn} : a_reckon (setb C B) D = a_reckon C D := reckN_setb (cn C)
theorem OKD.setb {D : Dyn} (h : OKD C D) : OKD (setb C B) D := ⟨h.1, h.2.1, h.2.2.1, reckon_setb.trans h.2.2.2⟩
theorem jc_setb (h : jc C (cn C) ≤ 3) : jc (setb C B) (cn (setb C B)) ≤ 3 := Nat.le_trans (Nat.le_of_eq (jc_congr (C := C) (C' := setb C B) (cn C) (fun _ _ => rfl))) h
end D3a
section D3b
variable {M M1 : Mm} {m o : Nat} {ra : Nat → Nat} {S S1 B : St} {C : Cfg} {D : Dyn} {L : Nat → Nat → Nat} {tp pg : List Nat}
theorem KG.sb (h : KG S S1) : SB S1 S := ⟨h.1 706 (by decide), h.1 714 (by decide), h.1 760 (by decide), fun i => by rw [h.2.1], fun i => by rw [h.2.1], fun i => by rw [h.2.1], fun i => by rw [h.2.2], fun i => by rw [h.2.1]⟩
theorem SB.trans {S2 : St} (h : SB S2 S1) (g : SB S1 S) : SB S2 S := ⟨h.1.trans g.1, h.2.1.trans g.2.1, h.2.2.1.trans g.2.2.1, fun i => (h.2.2.2.1 i).trans (g.2.2.2.1 i), fun i => (h.2.2.2.2.1 i).trans (g.2.2.2.2.1 i), fun i => (h.2.2.2.2.2.1 i).trans (g.2.2.2.2.2.1 i), fun i => (h.2.2.2.2.2.2.1 i).trans (g.2.2.2.2.2.2.1 i), fun i => (h.2.2.2.2.2.2.2 i).trans (g.2.2.2.2.2.2.2 i)⟩
theorem SB.symm (h : SB S1 S) : SB S S1 := ⟨h.1.symm, h.2.1.symm, h.2.2.1.symm, fun i => (h.2.2.2.1 i).symm, fun i => (h.2.2.2.2.1 i).symm, fun i => (h.2.2.2.2.2.1 i).symm, fun i => (h.2.2.2.2.2.2.1 i).symm, fun i => (h.2.2.2.2.2.2.2 i).symm⟩
theorem SB.p704 {v : Int32} : SB (pI S 704 v) S := by simp [SB, sg]
theorem SA.kbs (hA : SA S C D) (k : KB S S1) (hb : SB S1 S) : SA S1 C D := by
  have hb := hb.trans hA.1.2.2.2.2.2
  have k := SA.kb hA k
  obtain ⟨⟨c1, c2, c3, c4, c5, c6⟩, d⟩ := k
  exact ⟨⟨c1, c2, c3, c4, c5, hb⟩, d⟩
theorem KB.p704 {v : Int32} : KB S (pI S 704 v) := by
  refine ⟨fun f hf => ?_, fun _ _ => rfl, fun _ _ => rfl, fun _ _ _ => rfl, fun _ _ _ => rfl, fun _ => rfl, fun _ => ⟨rfl, rfl⟩, rfl⟩
  have : ¬ f = 704 := fun e => by subst e; exact absurd hf (by decide)
  simp [sg, this]
theorem KG.sa (h : KG S S1) (hA : SA S C D) : SA S1 C D := by
  exact hA.kbs h.kb h.sb
theorem RT.sb (h : SB S1 S) (hT : RT S tp) : RT S1 tp := ⟨h.1.trans hT.1, hT.2.1, fun i c hc => ⟨(hT.2.2 i c hc).1, (h.2.2.2.1 i).trans (hT.2.2 i c hc).2⟩⟩
theorem RP.sb (h : SB S1 S) (hP : RP S pg) : RP S1 pg := ⟨h.2.2.1.trans hP.1, hP.2.1, fun i c hc => ⟨(hP.2.2 i c hc).1, (h.2.2.2.2.2.1 i).trans (hP.2.2 i c hc).2⟩⟩
theorem NMR.sb (h : SB S1 S) (hN : NMR S C) : NMR S1 C := fun s hs => ⟨(hN s hs).1, (h.2.2.2.2.2.2.1 _).trans (hN s hs).2.1, (h.2.2.2.2.1 _).trans (hN s hs).2.2⟩
theorem YB.of {b a r : Nat} {bs : List Nat} (h : YB M b a r bs) (k1 : mK M1 b = mK M b) (k2 : mK M1 a = mK M a) (r1 : mR M1 0 b = mR M 0 b) (n1 : aN M1 a = aN M a) (i1 : mI M1 1 b = mI M 1 b) (a1 : ∀ j, aI M1 a j = aI M a j) : YB M1 b a r bs := ⟨k1.trans h.1, r1.trans h.2.1, k2.trans h.2.2.1, n1.trans h.2.2.2.1, i1.trans h.2.2.2.2.1, h.2.2.2.2.2.1, fun i c hc => ⟨(h.2.2.2.2.2.2 i c hc).1, (a1 i).trans (h.2.2.2.2.2.2 i c hc).2⟩⟩
theorem YB.off {b a r : Nat} {bs : List Nat} (h : YB M b a r bs) (f : Off M M1) : YB M1 b a r bs := by
  have q1 := f.2.2.2.2.2 b (Or.inl h.1)
  have q2 := f.2.2.2.2.2 a (Or.inr (Or.inr (Or.inr (Or.inl h.2.2.1))))
  exact h.of (by rw [f.1]) (by rw [f.1]) (by rw [f.2.1]) (by rw [f.2.2.1]) (q1.1 1).1 (fun j => (q2.2 j).1)
theorem nrA {a : Nat} (h : idOf (mK M a) = 0) : ¬ rA M ra a := fun e => e.1 h
theorem YB.pM {b a r : Nat} {bs : List Nat} (h : YB M b a r bs) (hm : mK M m = 12) : YB (pM M m ra S) b a r bs := by
  have nb : ¬ b = m := fun e => by
    have := h.1; rw [e, hm] at this; exact absurd this (by decide)
  have na : ¬ rA M ra a := nrA (by rw [h.2.2.1]; rfl)
  exact h.of rfl rfl rfl rfl (if_neg nb) (fun j => if_neg na)
theorem YB.tJ {b a r v : Nat} {bs : List Nat} {j : Nat} {w : Int64} (h : YB M b a r bs) : YB (tJ M v j w) b a r bs := h.of rfl rfl rfl rfl rfl (fun _ => rfl)
/-- what holds at every call, built or not -/
def IC (M : Mm) (S : St) (L : Nat → Nat → Nat) (m o : Nat) (ra : Nat → Nat) (tp pg : List Nat) : Prop := COB M L ∧ SH M m ra ∧ M = pM M m ra S ∧ YB M (L 0 8) (L 0 9) 600 tp ∧ RT S tp ∧ YB M (L 0 10) (L 0 11) 800 pg ∧ RP S pg ∧ (∀ c ∈ pg, c < 128) ∧ mI M 645 (L 0 0) = gI S 714 ∧ (mK M o = 426 ∧ aN M o = 1) ∧ ∀ j, j < 12 → bz (vI S 719 j)
/-- a graph stands: k calls were made -/
def BG (k : Nat) (M : Mm) (S : St) (L : Nat → Nat → Nat) (C : Cfg) (D : Dyn) : Prop := WC C ∧ CR M M L C D ∧ NMC M L C ∧ SA S C D ∧ NMR S C ∧ OKD C D ∧ Rm D ∧ jc C (cn C) ≤ 3 ∧ nn D ≤ 62500 * k
/-- no graph stands -/
def UB (M : Mm) (S : St) (L : Nat → Nat → Nat) : Prop := mR M 644 (L 0 0) = none ∧ gI S 732 = 0 ∧ vI S 729 1 = 0 ∧ gI S 738 = 0 ∧ gI S 739 = 0 ∧ gI S 741 = 0 ∧ gI S 743 = 0 ∧ gI S 752 = 0 ∧ mI M 194 (L 0 12) = 0 ∧ mI M 194 (L 0 14) = 0
def INV (k x m o : Nat) (M : Mm) : Prop := ∃ L S ra tp pg, L 0 0 = x ∧ IC M S L m o ra tp pg ∧ ((∃ C D, BG k M S L C D) ∨ UB M S L)
theorem pM_645 (hO : COB M L) (hm : mK M m = 12) : mI (pM M m ra S) 645 (L 0 0) = mI M 645 (L 0 0) := if_neg (fun e => by
  have := hO.1; rw [e, hm] at this; exact absurd this (by decide))
/-- the class goes on, all but the graph stays -/
theorem IC.off (h : IC M S L m o ra tp pg) (f : Off M M1) (hO : COB M1 L) : ∃ S1, KG S S1 ∧ IC M1 S1 L m o ra tp pg := by
  obtain ⟨h1, h2, h3, h4, h5, h6, h7, h8, h9, h10, h11⟩ := h
  obtain ⟨g1, S1, g2, g3⟩ := pM_rx h2 h3 (RX.off f)
  refine ⟨S1, g3, hO, g1, g2, h4.off f, h5.sb g3.sb, h6.off f, h7.sb g3.sb, h8, ?_, ⟨by rw [f.1]; exact h10.1, by rw [f.2.2.1]; exact h10.2⟩, fun j hj => by rw [g3.2.1]; exact h11 j hj⟩
  rw [((f.2.2.2.2.2 (L 0 0) (Or.inr (Or.inl h1.1))).1 645).1, h9, g3.1 714 (by decide)]
/-- the reference goes on, all but its graph stays -/
theorem IC.ref {S2 : St} (h : IC M S L m o ra tp pg) (f : SB S2 S) : IC (pM M m ra S2) S2 L m o ra tp pg := by
  obtain ⟨h1, h2, h3, h4, h5, h6, h7, h8, h9, h10, h11⟩ := h
  have hx : HX [389] M (pM M m ra S2) := HX.pM h2.1
  exact ⟨COB_hx (Y := []) hx h1, h2, pM_pM.symm, h4.pM h2.1, h5.sb f, h6.pM h2.1, h7.sb f, h8, by rw [pM_645 h1 h2.1, h9, f.2.1], h10, fun j hj => by rw [f.2.2.2.2.2.2.2 j]; exact h11 j hj⟩
/-- a number is left in the out place -/
theorem IC.out {v : Int64} (h : IC M S L m o ra tp pg) : ∃ S1, KG S S1 ∧ IC (tJ M o 0 v) S1 L m o ra tp pg := by
  obtain ⟨h1, h2, h3, h4, h5, h6, h7, h8, h9, h10, h11⟩ := h
  obtain ⟨g1, S1, g2, g3⟩ := pM_rx h2 h3 (RXtJ RX.refl h10.1 (Or.inr rfl))
  have hx : HX [389] M (tJ M o 0 v) := HXtJ HX.refl (by rw [h10.1]; rfl)
  exact ⟨S1, g3, COB_hx (Y := []) hx h1, g1, g2, h4.tJ, h5.sb g3.sb, h6.tJ, h7.sb g3.sb, h8, by rw [g3.1 714 (by decide), ← h9]; rfl, h10, fun j hj => by rw [g3.2.1]; exact h11 j hj⟩
theorem nn_lb {k : Nat} (h : nn D ≤ 62500 * k) (hk : k ≤ 600) : LB D := by
  unfold nn at h
  exact ⟨by omega, by omega⟩
/-- a call on the graph that changes it -/
theorem stepG {k : Nat} {D1 : Dyn} (hI : IC M S L m o ra tp pg) (hG : BG k M S L C D) (r1 : CR M M1 L C D1) (o1 : OKD C D1) (b1 : Bd D D1) : ∃ S1, SH M1 m ra ∧ M1 = pM M1 m ra S1 ∧ SA S1 C D ∧ ∀ S2, SA S2 C D1 → INV (k + 1) (L 0 0) m o (pM M1 m ra S2) := by
  obtain ⟨g1, g2, g3, g4, g5, g6, g7, g8, g9⟩ := hG
  obtain ⟨S1, kg, i1⟩ := hI.off r1.1 r1.2.1.1
  refine ⟨S1, i1.2.1, i1.2.2.1, kg.sa g4, fun S2 a2 => ?_⟩
  have sb : SB S2 S1 := a2.1.2.2.2.2.2.trans (kg.sa g4).1.2.2.2.2.2.symm
  have hx : HX [] M1 (pM M1 m ra S2) := HX.pM i1.2.1.1
  have n1 : NMC M1 L C := fun s hs => ⟨(g3 s hs).1, (r1.1.2.2.2.2.1 _).trans (g3 s hs).2⟩
  refine ⟨L, S2, ra, tp, pg, rfl, i1.ref sb, Or.inl ⟨C, D1, g1, CR_hx hx r1, NMC_hx hx (fun s hs => (r1.2.1.2.2.2.1 s hs).2.1) n1, a2, g5.sb (sb.trans kg.sb), o1, b1.1, g8, ?_⟩⟩
  have := b1.2
  omega
theorem BG.up {k : Nat} (h : BG k M S L C D) : BG (k + 1) M S L C D := ⟨h.1, h.2.1, h.2.2.1, h.2.2.2.1, h.2.2.2.2.1, h.2.2.2.2.2.1, h.2.2.2.2.2.2.1, h.2.2.2.2.2.2.2.1, by have := h.2.2.2.2.2.2.2.2; omega⟩
/-- the graph while only the reference's answer place, and the out place, change -/
theorem BG.hx {k : Nat} (h : BG k M S L C D) (hx : HX [] M M1) (sb : SB S1 S) (a1 : SA S1 C D) : BG k M1 S1 L C D := by
  obtain ⟨g1, g2, g3, g4, g5, g6, g7, g8, g9⟩ := h
  exact ⟨g1, CR_hx hx g2, NMC_hx hx (fun s hs => (g2.2.1.2.2.2.1 s hs).2.1) g3, a1, g5.sb sb, g6, g7, g8, g9⟩
/-- only the answer place changes -/
theorem askI {k : Nat} {v : Int32} (hI : IC M S L m o ra tp pg) (hG : BG k M S L C D) : INV (k + 1) (L 0 0) m o (pM M m ra (pI S 704 v)) := ⟨L, _, ra, tp, pg, rfl, hI.ref SB.p704, Or.inl ⟨C, D, (hG.hx (HX.pM hI.2.1.1) SB.p704 (hG.2.2.2.1.kbs KB.p704 SB.p704)).up⟩⟩
/-- the out place is written -/
theorem outI {k : Nat} {v : Int64} (hI : IC M S L m o ra tp pg) (hG : BG k M S L C D) : ∃ S1, IC (tJ M o 0 v) S1 L m o ra tp pg ∧ BG k (tJ M o 0 v) S1 L C D := by
  obtain ⟨S1, kg, i1⟩ := hI.out (v := v)
  exact ⟨S1, i1, hG.hx (HXtJ HX.refl (by rw [hI.2.2.2.2.2.2.2.2.2.1.1]; rfl)) kg.sb (kg.sa hG.2.2.2.1)⟩
/-- the out place holds what was written -/
theorem out_at {v : Int64} (ho : mK M o = 426) : aJ (pM (tJ M o 0 v) m ra S) o ((0 : Int32)).toNatClampNeg = v := by
  have n : ¬ rA (tJ M o 0 v) ra o := nrA (by show idOf (mK M o) = 0; rw [ho]; rfl)
  have e : aJ (pM (tJ M o 0 v) m ra S) o 0 = aJ (tJ M o 0 v) o 0 := if_neg n
  show aJ (pM (tJ M o 0 v) m ra S) o 0 = v
  rw [e]; simp [ms]
end D3b
