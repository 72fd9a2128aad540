/-! the law's calls on a graph that stands -/
section D4
variable {M : Mm} {m o b N k : Nat} {ra : Nat → Nat} {S : St} {C : Cfg} {D : Dyn} {L : Nat → Nat → Nat} {tp pg : List Nat} {xs : Nat → Int32} {K : Int32 → Mm → Prop} {R : Option Nat → Option Nat → Option Nat → Int32 → Mm → Prop} {l4 : Int32}
/-- the words of a call are there -/
def V5 (l4 : Int32) (N : Nat) : Prop := vp_in (l4 + 1) N ∧ vp_in (l4 + 2) N ∧ vp_in (l4 + 3) N ∧ vp_in (l4 + 4) N ∧ vp_in (l4 + 5) N
theorem lbB {D1 : Dyn} (hk : k ≤ 520) (h : nn D ≤ 62500 * k) (hb : Bd D D1) : LB D1 := nn_LB (by have := hb.2; omega)
theorem g_row (V : V5 l4 N) (hk : k ≤ 520) (hI : IC M S L m o ra tp pg) (hG : BG k M S L C D) (hN : ∀ M1, INV (k + 1) (L 0 0) m o M1 → R (some (L 0 0)) (some m) (some o) (l4 + 6) M1) : bk_L_law_231 b N xs R K (some (L 0 0)) (some m) (some o) l4 M := by
  have g := hG
  obtain ⟨g1, g2, g3, g4, g5, g6, g7, g8, g9⟩ := g
  refine ⟨V.1, V.2.1, V.2.2.1, V.2.2.2.1, V.2.2.2.2, L 0 0, rfl, hI.1.1, ?_⟩
  refine c_row g1 g2 g6 (lbB hk g9 (Bd_row g1 g8 g7)) (fun M1 r1 => ?_)
  obtain ⟨S1, s1, s2, s3, s4⟩ := stepG hI hG r1 (OKD_row g1 g6) (Bd_row g1 g8 g7)
  refine ⟨V.1, V.2.1, V.2.2.1, V.2.2.2.1, V.2.2.2.2, m, rfl, s1.1, ?_⟩
  rw [s2]
  exact r_row s1 g1 s3 g6.1 (lbB hk g9 (Bd_row g1 g8 g7)) (fun S2 a2 => ⟨fun _ => hN _ (s4 S2 a2), fun z => absurd rfl z⟩)
theorem g_mark (V : V5 l4 N) (hk : k ≤ 520) (hI : IC M S L m o ra tp pg) (hG : BG k M S L C D) (hN : ∀ M1, INV (k + 1) (L 0 0) m o M1 → R (some (L 0 0)) (some m) (some o) (l4 + 6) M1) : bk_L_law_324 b N xs R K (some (L 0 0)) (some m) (some o) l4 M := by
  have g := hG
  obtain ⟨g1, g2, g3, g4, g5, g6, g7, g8, g9⟩ := g
  refine ⟨V.1, V.2.1, V.2.2.1, V.2.2.2.1, L 0 0, rfl, hI.1.1, ?_⟩
  refine c_mark g1 g2 g6 (lbB hk g9 (Bd_mark g1 g8 g7)) (fun M1 r1 => ?_)
  obtain ⟨S1, s1, s2, s3, s4⟩ := stepG hI hG r1 (OKD_mark g1 g6) (Bd_mark g1 g8 g7)
  refine ⟨V.1, V.2.1, V.2.2.1, V.2.2.2.1, m, rfl, s1.1, ?_⟩
  rw [s2]
  exact r_mark s1 g1 s3 g6.1 (lbB hk g9 (Bd_mark g1 g8 g7)) (fun S2 a2 => ⟨fun _ => hN _ (s4 S2 a2), fun z => absurd rfl z⟩)
theorem g_end (V : V5 l4 N) (hk : k ≤ 520) (hI : IC M S L m o ra tp pg) (hG : BG k M S L C D) (hN : ∀ M1, INV (k + 1) (L 0 0) m o M1 → R (some (L 0 0)) (some m) (some o) (l4 + 6) M1) : bk_L_law_405 b N xs R K (some (L 0 0)) (some m) (some o) l4 M := by
  have g := hG
  obtain ⟨g1, g2, g3, g4, g5, g6, g7, g8, g9⟩ := g
  refine ⟨V.1, V.2.1, L 0 0, rfl, hI.1.1, ?_⟩
  refine c_end g1 g2 g6 (lbB hk g9 (Bd_end g1 g8 g7)) (fun M1 r1 => ?_)
  obtain ⟨S1, s1, s2, s3, s4⟩ := stepG hI hG r1 (OKD_end g1 g6) (Bd_end g1 g8 g7)
  refine ⟨V.1, V.2.1, m, rfl, s1.1, ?_⟩
  rw [s2]
  exact r_end s1 g1 s3 g6.1 (lbB hk g9 (Bd_end g1 g8 g7)) (fun S2 a2 => ⟨fun _ => hN _ (s4 S2 a2), fun z => absurd rfl z⟩)
theorem g_turn (V : V5 l4 N) (hk : k ≤ 520) (hI : IC M S L m o ra tp pg) (hG : BG k M S L C D) (hN : ∀ M1, INV (k + 1) (L 0 0) m o M1 → R (some (L 0 0)) (some m) (some o) (l4 + 6) M1) : bk_L_law_507 b N xs R K (some (L 0 0)) (some m) (some o) l4 M := by
  have g := hG
  obtain ⟨g1, g2, g3, g4, g5, g6, g7, g8, g9⟩ := g
  refine ⟨V.1, L 0 0, rfl, hI.1.1, ?_⟩
  refine c_turn g1 g2 g6 (lbB hk g9 (Bd_turn g1 g8 g7)) (fun M1 r1 => ?_)
  obtain ⟨S1, s1, s2, s3, s4⟩ := stepG hI hG r1 (OKD_turn g1 g6) (Bd_turn g1 g8 g7)
  refine ⟨V.1, m, rfl, s1.1, ?_⟩
  rw [s2]
  exact r_turn s1 g1 s3 g6.1 (lbB hk g9 (Bd_turn g1 g8 g7)) (fun S2 a2 => ⟨fun _ => hN _ (s4 S2 a2), fun z => absurd rfl z⟩)
theorem g_hold (V : V5 l4 N) (hk : k ≤ 520) (hI : IC M S L m o ra tp pg) (hG : BG k M S L C D) (hN : ∀ M1, INV (k + 1) (L 0 0) m o M1 → R (some (L 0 0)) (some m) (some o) (l4 + 6) M1) : bk_L_law_532 b N xs R K (some (L 0 0)) (some m) (some o) l4 M := by
  have g := hG
  obtain ⟨g1, g2, g3, g4, g5, g6, g7, g8, g9⟩ := g
  refine ⟨V.1, V.2.1, V.2.2.1, L 0 0, rfl, hI.1.1, ?_⟩
  refine c_hold g1 g2 g6 (lbB hk g9 (Bd_hold g1 g8 g7)) (fun M1 r1 => ?_)
  obtain ⟨S1, s1, s2, s3, s4⟩ := stepG hI hG r1 (OKD_hold g1 g6) (Bd_hold g1 g8 g7)
  refine ⟨V.1, V.2.1, V.2.2.1, m, rfl, s1.1, ?_⟩
  rw [s2]
  exact r_hold s1 g1 s3 g6.1 (lbB hk g9 (Bd_hold g1 g8 g7)) (fun S2 a2 => ⟨fun _ => hN _ (s4 S2 a2), fun z => absurd rfl z⟩)
theorem g_idle (V : V5 l4 N) (hk : k ≤ 520) (hI : IC M S L m o ra tp pg) (hG : BG k M S L C D) (hN : ∀ M1, INV (k + 1) (L 0 0) m o M1 → R (some (L 0 0)) (some m) (some o) (l4 + 6) M1) : bk_L_law_442 b N xs R K (some (L 0 0)) (some m) (some o) l4 M := by
  have g := hG
  obtain ⟨g1, g2, g3, g4, g5, g6, g7, g8, g9⟩ := g
  have st : ∀ on : Int32, bz on → (∀ r M1, bk_L_law_499 b N xs R K (some (L 0 0)) (some m) (some o) l4 on (xs (l4 + 2).toNatClampNeg) (xs (l4 + 1).toNatClampNeg) (some m) r M1 → ((xs (l4 + 3).toNatClampNeg = 0 → bk_L_law_499 b N xs R K (some (L 0 0)) (some m) (some o) l4 0 (xs (l4 + 2).toNatClampNeg) (xs (l4 + 1).toNatClampNeg) (some m) r M1) ∧ (¬ xs (l4 + 3).toNatClampNeg = 0 → bk_L_law_499 b N xs R K (some (L 0 0)) (some m) (some o) l4 1 (xs (l4 + 2).toNatClampNeg) (xs (l4 + 1).toNatClampNeg) (some m) r M1))) → bk_L_law_469 b N xs R K (some (L 0 0)) (some m) (some o) l4 on (xs (l4 + 2).toNatClampNeg) (xs (l4 + 1).toNatClampNeg) (some (L 0 0)) M := fun on hon hq => by
    refine ⟨L 0 0, rfl, hI.1.1, ?_⟩
    refine c_idle g1 g2 g6 hon (lbB hk g9 (Bd_idle g1 g8 g7)) (fun M1 r1 => ⟨V.1, V.2.1, V.2.2.1, hq _ M1 ?_⟩)
    obtain ⟨S1, s1, s2, s3, s4⟩ := stepG hI hG r1 (OKD_idle g1 g6) (Bd_idle g1 g8 g7)
    refine ⟨m, rfl, s1.1, ?_⟩
    rw [s2]
    exact r_idle s1 g1 hon s3 g6.1 (lbB hk g9 (Bd_idle g1 g8 g7)) (fun S2 a2 => ⟨fun _ => hN _ (s4 S2 a2), fun z => absurd rfl z⟩)
  refine ⟨V.1, V.2.1, V.2.2.1, fun z => st 0 (Or.inl rfl) (fun r M1 q => ⟨fun _ => q, fun y => absurd z y⟩), fun z => st 1 (Or.inr rfl) (fun r M1 q => ⟨fun y => absurd y z, fun _ => q⟩)⟩
theorem g_rel (V : V5 l4 N) (hk : k ≤ 520) (hI : IC M S L m o ra tp pg) (hG : BG k M S L C D) (hN : ∀ M1, INV (k + 1) (L 0 0) m o M1 → R (some (L 0 0)) (some m) (some o) (l4 + 6) M1) : bk_L_law_601 b N xs R K (some (L 0 0)) (some m) (some o) l4 M := by
  have g := hG
  obtain ⟨g1, g2, g3, g4, g5, g6, g7, g8, g9⟩ := g
  have st : ∀ on : Int32, (∀ r M1, bk_L_law_652 b N xs R K (some (L 0 0)) (some m) (some o) l4 on (xs (l4 + 1).toNatClampNeg) (some m) r M1 → ((xs (l4 + 2).toNatClampNeg = 0 → bk_L_law_652 b N xs R K (some (L 0 0)) (some m) (some o) l4 0 (xs (l4 + 1).toNatClampNeg) (some m) r M1) ∧ (¬ xs (l4 + 2).toNatClampNeg = 0 → bk_L_law_652 b N xs R K (some (L 0 0)) (some m) (some o) l4 1 (xs (l4 + 1).toNatClampNeg) (some m) r M1))) → bk_L_law_622 b N xs R K (some (L 0 0)) (some m) (some o) l4 on (xs (l4 + 1).toNatClampNeg) (some (L 0 0)) M := fun on hq => by
    refine ⟨V.2.2.1, L 0 0, rfl, hI.1.1, ?_⟩
    refine c_rel g1 g2 g6 (lbB hk g9 (Bd_rel g1 g8 g7)) (fun M1 r1 => ⟨V.1, V.2.1, hq _ M1 ?_⟩)
    obtain ⟨S1, s1, s2, s3, s4⟩ := stepG hI hG r1 (OKD_rel g1 g6) (Bd_rel g1 g8 g7)
    refine ⟨V.2.2.1, m, rfl, s1.1, ?_⟩
    rw [s2]
    exact r_rel s1 g1 s3 g6.1 (lbB hk g9 (Bd_rel g1 g8 g7)) (fun S2 a2 => ⟨fun _ => hN _ (s4 S2 a2), fun z => absurd rfl z⟩)
  refine ⟨V.1, V.2.1, fun z => st 0 (fun r M1 q => ⟨fun _ => q, fun y => absurd z y⟩), fun z => st 1 (fun r M1 q => ⟨fun y => absurd y z, fun _ => q⟩)⟩
end D4
