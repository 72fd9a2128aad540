/-! the class reads statements and texts -/
def SPN (M : Mm) (L : Nat → Nat → Nat) (C : Cfg) : Prop := ∀ g, g < 4 → aJ M (L 0 3) g = (csp C g).getD (-1) ∧ ∀ v, csp C g = some v → ¬ v = -1
def NEWB (B : Mm) (L : Nat → Nat → Nat) (C : Cfg) : Prop := mK B (L 0 1) = 0 ∧ mK B (L 0 2) = 0 ∧ mK B (L 0 3) = 0 ∧ ∀ s, s < cn C → mK B (L 1 s) = 0
/-- the class between two statements -/
def PGI (B M : Mm) (rd sc tb : Nat) (tp : List Nat) (L : Nat → Nat → Nat) (C : Cfg) (J W : Nat) (T : Tok) : Prop := RDC M rd sc tb tp T ∧ mR M 449 rd = some (L 0 1) ∧ GX gX [] B M ∧ GRA M L C ∧ (∀ s, s < cn C → mR M 389 (L 1 s) = (ctk C s).map (L 1)) ∧ SPN M L C ∧ (mI M 70 (L 0 1) = 0 ∧ mI M 71 (L 0 1) = 0 ∧ mI M 515 (L 0 4) = 0) ∧ CN3 M rd J W ∧ CIJ L C ∧ NEWB B L C ∧ WC C
section CT
variable {B N M : Mm} {rd sc tb st ia J W : Nat} {tp w : List Nat} {L : Nat → Nat → Nat} {C : Cfg} {T : Tok}
theorem PGI.er {M1 : Mm} {e : Flt} (h : PGI B M rd sc tb tp L C J W T) (x : FR rdX M M1) (hf : FLT M1 rd e) : ERR B M1 rd e := ⟨h.2.2.1.trans (GX.fr x (by decide)), hf⟩
/-- a statement's beginning -/
def a_beg (tp : List Nat) (many : Bool) (C : Cfg) (T : Tok) : Except Flt Tok := if tkk T = 3 then (match a_find C (tkw T) with
  | some _ => flt 3 T
  | none => if many = true ∨ cn C = 12 then flt 6 T else a_sg tp 61 (a_nx tp T)) else a_mis T
theorem c_beg {K : Option Nat → Mm → Prop} {many : Bool} (h : PGI B M rd sc tb tp L C J W T) (hok : ∀ M1 st ia kd T1, a_beg tp many C T = .ok T1 → tkk T = 3 → cn C < 12 → BDC B M M1 rd sc tb tp L C st ia (tkw T) kd J W [] T1 → (tkk T1 = 2 → kd = w8 (tkw T1)) → K (some st) M1) (her : ∀ M1 e, a_beg tp many C T = .error e → ERR B M1 rd e → K none M1) : wp_X7_readBeginning M rd (bI many) K := by
  have h' := h
  obtain ⟨hR, h2, h3, ⟨hG, h12, hP⟩, h5, h6, h7, h8, h9, h10, h11⟩ := h
  have hT := hR.2.2.2.2.2.1
  have k3 : (mI M 258 sc = 3) = (tkk T = 3) := hR.2.2.2.2.1.k hT (d := 3) (by decide)
  have c0 := hG.2.2.2.2.2.2.1
  refine ⟨hR.1, sc, hR.2.1, hR.2.2.1.1, ?_⟩
  rw [k3]
  refine ⟨fun z => ⟨L 0 1, h2, hG.1, ?_⟩, fun z => ?_⟩
  · rw [hR.2.2.2.2.1.2.2.2.1 (Or.inr z)]
    refine c_named hG h12 hP (hT.ww (Or.inr z)) ?_
    cases e : a_find C (tkw T) with
    | some i =>
      refine ⟨fun q => (by cases q), fun a15 _ => ⟨hR.1, ?_⟩⟩
      exact c_ref (n := 3) hR (fun M1 x1 x2 => her M1 _ (by rw [a_beg, if_pos z, e]; rfl) (h'.er (x1.mono (by decide)) x2))
    | none =>
      refine ⟨fun _ => ?_, fun a15 q => (by cases q)⟩
      have bad : (many = true ∨ cn C = 12) → bk_X7_readBeginning_61 rd K M := fun q => ⟨hR.1, c_ref (n := 6) hR (fun M1 x1 x2 => her M1 _ (by rw [a_beg, if_pos z, e]; simp only [if_pos q]; rfl) (h'.er (x1.mono (by decide)) x2))⟩
      rw [bI_0]
      refine ⟨fun q => bad (Or.inl (by simpa using q)), fun q => ⟨hR.1, L 0 1, h2, hG.1, ?_⟩⟩
      have lt : (nI (cn C) < 12) = (cn C < 12) := n_lt (b := 12) (by omega) (by decide)
      rw [c0, lt]
      refine ⟨fun lt12 => ⟨sc, hR.2.1, hR.2.2.1.1, ?_⟩, fun n12 => bad (Or.inr (by omega))⟩
      have en : a_beg tp many C T = a_sg tp 61 (a_nx tp T) := by
        rw [a_beg, if_pos z, e]
        have nn : ¬ (many = true ∨ cn C = 12) := fun y => by
          rcases y with y | y
          · rw [q] at y; cases y
          · omega
        simp only [if_neg nn]
      refine c_nx hR (fun M1 x1 x2 => ⟨x2.1, ?_⟩)
      refine c_sg (c := 61) x2 (by decide) (fun M2 T2 p y1 y2 => ⟨fun _ => ?_, fun y => absurd y (by decide)⟩) (fun M2 e9 p y1 y2 => ⟨fun y => absurd rfl y, fun _ => her M2 e9 (en.trans p) ⟨h3.trans ((GX.fr x1 (by decide)).trans (GX.fr y1 (by decide))), y2⟩⟩)
      have xy : FR okX M M2 := (x1.mono (by decide)).trans y1
      intro st hst
      have gn : GX [] [] M2 (nw M2 st 7) := GXnw GX.refl hst
      have kr := y2.1
      have ks := y2.2.2.1.1
      have kg2 : mK M2 (L 0 1) = 2 := by rw [xy.kd]; exact hG.1
      refine ⟨gn.k kr (by decide), L 0 1, (gn.r kr (by decide) (by decide)).trans (by rw [xy.rf]; exact h2), gn.k kg2 (by decide), sc, (gn.r kr (by decide) (by decide)).trans y2.2.1, gn.k ks (by decide), ?_⟩
      rw [show mI (nw M2 st 7) 69 (L 0 1) = nI (cn C) from (gn.i kg2 (by decide) (by decide)).trans (by rw [xy.it (by decide)]; exact c0)]
      refine c_newST hst (fun M3 ia hia g hs => ?_)
      obtain ⟨u1, u2, u3, u4, u5, u6, u7, u8, u9, u10, u11, u12, u13, u14, u15⟩ := hs
      have g3 : GX gX [] B M3 := (h3.trans (GX.fr xy (by decide))).trans (g.mono (by decide) (by decide))
      have gN : GX gX [389] M M3 := (GX.fr xy (by decide)).trans (g.mono (by decide) (by decide))
      have frN : ∀ a, mK M2 a = 0 → mK M a = 0 := fun a ha => by rw [xy.kd] at ha; exact ha
      refine hok M3 st ia _ T2 (en.trans p) z lt12 ⟨y2.al g, ?_, ⟨g3, gN, fun a ha => Classical.byContradiction fun y => y (by rw [← (h3 a y).1]; exact ha), h10.2.2.2, hG, h12, hP⟩, ⟨frN st hst, frN ia hia⟩, ⟨u1, u5, u6, u7, u8, fun i c hi => by simp at hi⟩, fun s hs => ?_, ⟨u2, u3, u4, u9, u10, u11, u12, u13, u14, u15⟩, ?_⟩ ?_
      · exact (g.r kr (by decide) (by decide)).trans (by rw [xy.rf]; exact h2)
      · have kl : mK M2 (L 1 s) = 7 := by rw [xy.kd]; exact (hP s hs).1.2.1
        rw [if_neg (by simp)]
        exact (g.r kl (by decide) (by decide)).trans (by rw [xy.rf]; exact h5 s hs)
      · exact ⟨(g.i kr (by decide) (by decide)).trans (by rw [xy.it (by decide)]; exact h8.1), (g.i kr (by decide) (by decide)).trans (by rw [xy.it (by decide)]; exact h8.2.1), (g.i kr (by decide) (by decide)).trans (by rw [xy.it (by decide)]; exact h8.2.2)⟩
      · intro k2
        exact (gn.j ks (by decide) (by decide)).trans (y2.2.2.2.2.1.2.2.2.1 (Or.inl k2))
  · exact c_rtok (α := Tok) hR (fun M1 e q x1 x2 => her M1 e (by rw [a_beg, if_neg z]; exact q) (h'.er x1 x2))
/-- the stream that was read goes into the graph -/
theorem c_addS {K : Mm → Prop} {x : Slot} {v : Nat → Nat → Nat} {J1 W1 : Nat} {T0 : Tok} (hN : PGI B N rd sc tb tp L C J W T0) (h : FINC B N M rd sc tb tp L C st ia w J1 W1 x v T) (h12 : cn C < 12) (hw : WW w) (hX : XOK C x) (hin : INb C x.2.1) (hK : ∀ M1 L1, (∀ s, L1 0 s = L 0 s) → PGI B M1 rd sc tb tp L1 (a_adds C w x) J1 W1 T → K M1) : wp_X1_add M (L 0 1) (some st) K := by
  obtain ⟨f1, f2, f3, f4, f5, f6, f7, f8⟩ := h
  have hG := f3.cgr
  have c0 := hG.2.2.2.2.2.2.1
  have iA : isA M (L 0 2) 4 := ⟨by rw [hG.2.2.2.2.2.2.2.1.1]; decide, by rw [hG.2.2.2.2.2.2.2.1.1]⟩
  have k2 := hG.2.2.2.2.2.2.2.1.1
  have e1 : nI (cn C) + 1 = nI (cn C + 1) := by rw [show (1 : Int32) = nI 1 from rfl, n_add]
  have n12 : (nI 12 ≤ nI (cn C)) = False := eq_false (fun y => by rw [n_le (by omega) (by omega)] at y; omega)
  refine ⟨hG.1, L 0 2, hG.2.2.2.1, iA, ?_⟩
  rw [hG.2.2.2.2.2.2.2.1.2, c0, n12]
  refine ⟨fun y => absurd y (fun y => y), fun _ => ⟨st, rfl, f7.1.1, n_in h12 (by decide), ?_⟩⟩
  rw [n_clamp (by omega), show mI (tR M (L 0 2) (cn C) (some st)) 69 (L 0 1) = nI (cn C) from c0, e1]
  obtain ⟨N1, N2, N3, ⟨NG, N12, NP⟩, N5, N6, N7, N8, N9, N10, N11⟩ := hN
  have ax : AX M (sI (tR M (L 0 2) (cn C) (some st)) 69 (L 0 1) (nI (cn C + 1))) (L 0 2) (L 0 1) (cn C) (some st) := rfl
  have L0 : ∀ s, updL L (cn C) (v12 st ia v) 0 s = L 0 s := fun s => uL0
  have L1s : ∀ s, s < cn C → updL L (cn C) (v12 st ia v) 1 s = L 1 s := fun s hs => uLs (by omega) (by decide)
  have L1n : updL L (cn C) (v12 st ia v) 1 (cn C) = st := uLn (by decide) (by decide)
  have WN := adds_WC (w := w) N11 h12 hX hin
  have gN := f3.2.1
  refine hK _ (updL L (cn C) (v12 st ia v)) L0 ⟨?_, ?_, ?_, ⟨?_, ?_, fun s hs => ?_⟩, fun s hs => ?_, ?_, ⟨?_, ?_, ?_⟩, ?_, CIJ_new N9 NP f4.1 f8, ⟨?_, ?_, ?_, fun s hs => ?_⟩, WN⟩
  · obtain ⟨r1, r2, ⟨r3, r4⟩, ⟨r5, ta, r6, r7, r8, r9, r10, r11⟩, ⟨t1, t2, t3, t4, t5, t6⟩, r13⟩ := f1
    exact ⟨r1, r2, ⟨r3, r4⟩, ⟨r5, ta, r6, r7, r8, by simpa [ms] using r9, r10, r11⟩, ⟨by simpa [ms] using t1, by simpa [ms] using t2, by simpa [ms] using t3, t4, t5, t6⟩, r13⟩
  · rw [L0]; exact f2
  · exact GXsI (GXtR f3.1 N10.2.1) (Or.inl N10.1)
  · show CGR _ _ (cn C + 1)
    obtain ⟨g1, g2, g3, g4, g5, g6, g7, g8, g9, g10⟩ := hG
    unfold CGR
    simp only [L0]
    exact ⟨g1, g2, g3, g4, g5, g6, by simp [ms], g8, g9, g10⟩
  · show cn C + 1 ≤ 12
    omega
  · have hs' : s < cn C + 1 := hs
    by_cases e : s = cn C
    · subst e
      exact PS_new f7 hw k2 hin hX ax
    · have p := PS_ax (f3.ps (show s < cn C by omega)) k2 e ax
      have p4 := N11.2.2.2 s (by omega)
      refine PS_cong p (L0 2) (fun i hi h0 => uLs e hi) (fun i k hi hk => uL2s hi e hk) (fun i hi => L1s _ ?_) (if_neg e) (if_neg e) (if_neg e) (if_neg e) (if_neg e) (if_neg e) (if_neg e) (if_neg e) (if_neg e) p4.2.2.2.2.2.1
      have := N11.2.2.1 s i (by omega) hi
      omega
  · have hs' : s < cn C + 1 := hs
    show mR M 389 (updL L (cn C) (v12 st ia v) 1 s) = (if s = cn C then none else if s ∈ x.2.1 then some (cn C) else ctk C s).map (updL L (cn C) (v12 st ia v) 1)
    by_cases e : s = cn C
    · subst e
      rw [L1n, if_pos rfl]; exact f7.1.2.2.2.2.2.2.2.2.1
    · rw [L1s s (by omega), if_neg e, f5 s (by omega)]
      by_cases e2 : s ∈ x.2.1
      · rw [if_pos e2, if_pos e2]
        show some st = some (updL L (cn C) (v12 st ia v) 1 (cn C))
        rw [L1n]
      · rw [if_neg e2, if_neg e2]
        cases e3 : ctk C s with
        | none => rfl
        | some t =>
          show some (L 1 t) = some (updL L (cn C) (v12 st ia v) 1 t)
          rw [L1s t (N11.2.1 s t e3).2]
  · intro g hg
    rw [L0]
    have k3 := NG.2.2.2.2.2.2.2.2.1.1
    exact ⟨(gN.aj k3 (by decide)).trans (N6 g hg).1, (N6 g hg).2⟩
  · rw [L0]; simpa [ms] using (gN.i NG.1 (by decide) (by decide)).trans N7.1
  · rw [L0]; simpa [ms] using (gN.i NG.1 (by decide) (by decide)).trans N7.2.1
  · rw [L0]; simpa [ms] using (gN.i NG.2.2.2.2.2.2.2.2.2.1 (by decide) (by decide)).trans N7.2.2
  · exact ⟨by simpa [ms] using f6.1, by simpa [ms] using f6.2.1, by simpa [ms] using f6.2.2⟩
  · rw [L0]; exact N10.1
  · rw [L0]; exact N10.2.1
  · rw [L0]; exact N10.2.2.1
  · have hs' : s < cn C + 1 := hs
    by_cases e : s = cn C
    · subst e
      rw [L1n]; exact f3.2.2.1 st f4.1
    · rw [L1s s (by omega)]; exact N10.2.2.2 s (by omega)
end CT
