/-! the class builds -/
/-- what the end of a building changes -/
def FX (M M1 : Mm) : Prop := mK M1 = mK M ∧ mJ M1 = mJ M ∧ aN M1 = aN M ∧ aI M1 = aI M ∧ aJ M1 = aJ M ∧ aR M1 = aR M ∧ (∀ g, ¬ g ∈ [1, 194, 645] → ∀ b, mI M1 g b = mI M g b) ∧ ∀ g, ¬ g = 644 → ∀ b, mR M1 g b = mR M g b
section CV
variable {M M1 : Mm} {L : Nat → Nat → Nat} {C : Cfg}
theorem PS_fx {s : Nat} (f : FX M M1) (h : PS M L C s) : PS M1 L C s := by
  obtain ⟨f1, f2, f3, f4, f5, f6, fI, fR⟩ := f
  unfold PS CSTn CSO CJO CWO at *
  simp only [f1, f2, f3, f4, f5, f6, fI 384 (by decide), fI 388 (by decide), fI 391 (by decide), fI 320 (by decide), fI 322 (by decide), fI 323 (by decide), fI 581 (by decide), fR 387 (by decide), fR 393 (by decide), fR 394 (by decide), fR 395 (by decide), fR 324 (by decide), fR 325 (by decide), fR 326 (by decide), fR 327 (by decide), fR 128 (by decide), fR 129 (by decide), fR 132 (by decide), fR 133 (by decide), fR 134 (by decide), fR 135 (by decide), fR 578 (by decide), fR 579 (by decide), fR 580 (by decide)]
  exact h
theorem CGR_fx {n : Nat} (f : FX M M1) (h : CGR M L n) : CGR M1 L n := by
  obtain ⟨f1, f2, f3, f4, f5, f6, fI, fR⟩ := f
  unfold CGR at *
  simp only [f1, f3, fI 69 (by decide), fR 64 (by decide), fR 65 (by decide), fR 66 (by decide), fR 67 (by decide), fR 68 (by decide), fR 512 (by decide), fR 513 (by decide), fR 514 (by decide)]
  exact h
theorem COB_fx (f : FX M M1) (h : COB M L) : COB M1 L := by
  obtain ⟨f1, f2, f3, f4, f5, f6, fI, fR⟩ := f
  unfold COB at *
  simp only [f1, f3, fI 193 (by decide), fR 640 (by decide), fR 641 (by decide), fR 642 (by decide), fR 643 (by decide), fR 0 (by decide), fR 192 (by decide)]
  exact h
/-- the class's names -/
def NMC (M : Mm) (L : Nat → Nat → Nat) (C : Cfg) : Prop := ∀ s, s < cn C → WW (cnm C s) ∧ mJ M 385 (L 1 s) = w8 (cnm C s)
/-- a graph that was told stands, at its beginning -/
theorem PGI_CR {B : Mm} {rd sc tb J W : Nat} {tp : List Nat} {T : Tok} (h : PGI B M rd sc tb tp L C J W T) (hO : COB M L) (f : FX M M1) (h44 : mR M1 644 (L 0 0) = some (L 0 1)) (ho : mI M1 194 (L 0 12) = 0) (hl : mI M1 194 (L 0 14) = 0) : CR M1 M1 L C D0 ∧ NMC M1 L C := by
  obtain ⟨h1, h2, h3, ⟨hG, h12, hP⟩, h5, h6, h7, h8, h9, h10, h11⟩ := h
  have hO1 := COB_fx f hO
  have hG1 := CGR_fx f hG
  have hP1 := fun s (hs : s < cn C) => PS_fx f (hP s hs)
  obtain ⟨f1, f2, f3, f4, f5, f6, fI, fR⟩ := f
  refine ⟨⟨Off.refl, ⟨hO1, h44, hG1, fun s hs => CST_of (hP1 s hs).1 (by rw [fR 389 (by decide)]; exact h5 s hs), fun s i hs hi => (hP1 s hs).2.2.2.1 i hi, fun s hs z => ((hP1 s hs).2.2.2.2.2.2.1 z).1, fun s hs z => ((hP1 s hs).2.2.2.2.2.2.2.1 z).1, fun s hs z => ((hP1 s hs).2.2.2.2.2.2.2.2 z).1, h9, fun g hg => by rw [f5]; exact h6 g hg⟩, ⟨fun s hs => (hP1 s hs).2.2.2.2.1, fun s hs => (hP1 s hs).2.2.2.2.2.1, fun s k hs z hk => ?_, fun s k hs z hk => ?_, fun s k hs z hk => ?_, ?_, ⟨hO1.2.2.2.2.2.2.2.1.2.2.2.1, ho, fun i r _ e => by cases e⟩, ⟨hO1.2.2.2.2.2.2.2.2.1.2.2.2.1, hl, fun i r _ e => by cases e⟩, ?_, fun s hs z => ?_, fun s k hs z hk => ?_, ?_⟩⟩, fun s hs => ⟨(hP1 s hs).2.2.1, (hP1 s hs).2.1⟩⟩
  · obtain ⟨q, qq⟩ := (hP1 s hs).2.2.2.2.2.2.1 z
    exact ⟨q.2.2.2.2.2.2.2.2.2.1, (qq k hk).1⟩
  · obtain ⟨q, qq⟩ := (hP1 s hs).2.2.2.2.2.2.1 z
    exact ⟨q.2.2.2.2.2.2.2.2.2.2.2.1, (qq k hk).2.1⟩
  · obtain ⟨q, qq⟩ := (hP1 s hs).2.2.2.2.2.2.1 z
    exact ⟨q.2.2.2.2.2.2.2.2.2.2.2.2.2.1, (qq k hk).2.2⟩
  · show mI M1 70 (L 0 1) = 0
    rw [fI 70 (by decide)]; exact h7.1
  · show mI M1 71 (L 0 1) = 0
    rw [fI 71 (by decide)]; exact h7.2.1
  · obtain ⟨q, qq⟩ := (hP1 s hs).2.2.2.2.2.2.2.2 z
    exact ⟨⟨q.2.2.2.2.2.2.1, q.2.2.2.2.2.2.2.2.1, q.2.2.2.2.2.2.2.2.2.2.1⟩, qq, Nat.zero_le _, fun i e he => by cases he⟩
  · obtain ⟨q, qq⟩ := (hP1 s hs).2.2.2.2.2.2.2.1 z
    have q18 := q.2.2.2.2.2.2.2.2.2.2.2.2.2.2.2.2.2 k hk
    exact ⟨⟨q.2.2.2.2.2.2.2.2.2.1, q18.2.2.2.1, q18.2.2.2.2.2.1, q18.2.2.2.2.2.2.2.1⟩, qq k hk, Nat.zero_le _, fun i e he => by cases he⟩
  · obtain ⟨g1, g2, g3, g4, g5, g6, g7, g8, g9, t1, t2, t3, t4, t5, t6, t7, t8, t9, t10⟩ := hG1
    refine ⟨⟨t5, t7, t9⟩, ?_, Nat.zero_le _, fun i x hx => by cases hx⟩
    rw [fI 515 (by decide)]; exact h7.2.2
/-- the addresses of a new graph beside those of the object -/
def newL (L0 : Nat → Nat → Nat) (gr a2 a3 tk a5 a6 a7 : Nat) : Nat → Nat → Nat := fun i s => if i = 0 then (if s = 1 then gr else if s = 2 then a2 else if s = 3 then a3 else if s = 4 then tk else if s = 5 then a5 else if s = 6 then a6 else if s = 7 then a7 else L0 0 s) else 0
theorem c_build {K : Int32 → Mm → Prop} {L0 : Nat → Nat → Nat} {tp : List Nat} {S : St} (hO : COB M L0) (hT : TPS M (L0 0 8) tp) (hok : ∀ M1 L C, a_parse S tp = .ok C → (L 0 0 = L0 0 0 ∧ ∀ s, 8 ≤ s → L 0 s = L0 0 s) → GX (1 :: 194 :: 645 :: gX) [644] M M1 → mI M1 1 (L0 0 10) = mI M 1 (L0 0 10) → mI M1 1 (L0 0 8) = 0 → mI M1 645 (L0 0 0) = 0 → WC C → CR M1 M1 L C D0 → NMC M1 L C → K (nI (cn C)) M1) (her : ∀ M1 e, a_parse S tp = .error e → GX gX [] M M1 → K (-10 - nI e.2) (sI (sI M1 1 (L0 0 8) 0) 645 (L0 0 0) (nI e.1))) : wp_X10_build M (L0 0 0) K := by
  have kx := hO.1
  have ktb := hO.2.2.2.2.2.1.1
  intro rd hrd
  have g1 : GX [] [] M (nw M rd 8) := GXnw GX.refl hrd
  intro sc hsc
  have g2 : GX [] [] M (nw (nw M rd 8) sc 5) := GXnw g1 hsc
  have nrs : ¬ rd = sc := fun e => by
    rw [← e] at hsc
    simp [ms] at hsc
  have nrs' : ¬ sc = rd := fun e => nrs e.symm
  have hMsc : mK M sc = 0 := Classical.byContradiction fun z => z (by rw [← (g1 sc z).1]; exact hsc)
  have f2 : mK (nw (nw M rd 8) sc 5) rd = 8 ∧ mK (nw (nw M rd 8) sc 5) sc = 5 ∧ (∀ f, mI (nw (nw M rd 8) sc 5) f rd = 0) ∧ ∀ f, mI (nw (nw M rd 8) sc 5) f sc = 0 := by
    refine ⟨by simp [ms, nrs], by simp [ms], fun f => by simp [ms, nrs], fun f => by simp [ms]⟩
  refine ⟨g2.k kx (by decide), ?_⟩
  rw [(g2.r kx (by decide) (by decide)).trans hO.2.1]
  generalize nw (nw M rd 8) sc 5 = M2 at g2 f2
  refine ⟨f2.2.1, ?_⟩
  have g3 : GX [] [] M (sR M2 256 sc (some (L0 0 8))) := GXsR g2 (Or.inl hMsc)
  have f3 : mK (sR M2 256 sc (some (L0 0 8))) rd = 8 ∧ mK (sR M2 256 sc (some (L0 0 8))) sc = 5 ∧ (∀ f, mI (sR M2 256 sc (some (L0 0 8))) f rd = 0) ∧ (∀ f, mI (sR M2 256 sc (some (L0 0 8))) f sc = 0) ∧ mR (sR M2 256 sc (some (L0 0 8))) 256 sc = some (L0 0 8) := ⟨f2.1, f2.2.1, f2.2.2.1, f2.2.2.2, by simp [ms]⟩
  generalize sR M2 256 sc (some (L0 0 8)) = M9 at g3 f3
  intro gr hgr
  have gn : GX [] [] M (nw M9 gr 2) := GXnw g3 hgr
  have hMgr : mK M gr = 0 := Classical.byContradiction fun z => z (by rw [← (g3 gr z).1]; exact hgr)
  refine ⟨gn.k kx (by decide), ?_⟩
  rw [(gn.r kx (by decide) (by decide)).trans hO.2.2.2.1, (gn.r kx (by decide) (by decide)).trans hO.2.2.2.2.1]
  refine c_newGR hgr (fun M16 a2 a3 tk a5 a6 a7 h2 h3 g16 hgrf => ?_)
  have gB : GX [] [] M M16 := g3.trans g16
  have f16 : mK M16 rd = 8 ∧ mK M16 sc = 5 ∧ (∀ f, mI M16 f rd = 0) ∧ (∀ f, mI M16 f sc = 0) ∧ mR M16 256 sc = some (L0 0 8) := ⟨g16.k f3.1 (by decide), g16.k f3.2.1 (by decide), fun f => (g16.i f3.1 (by decide) (by simp)).trans (f3.2.2.1 f), fun f => (g16.i f3.2.1 (by decide) (by simp)).trans (f3.2.2.2.1 f), (g16.r f3.2.1 (by decide) (by decide)).trans f3.2.2.2.2⟩
  have hM2 : mK M a2 = 0 := Classical.byContradiction fun z => z (by rw [← (g3 a2 z).1]; exact h2)
  have hM3 : mK M a3 = 0 := Classical.byContradiction fun z => z (by rw [← (g3 a3 z).1]; exact h3)
  refine ⟨f16.1, ?_⟩
  have g19 : GX [] [] M (sR (sR M16 448 rd (some sc)) 449 rd (some gr)) := GXsR (GXsR gB (Or.inl hrd)) (Or.inl hrd)
  have f19 : mK (sR (sR M16 448 rd (some sc)) 449 rd (some gr)) rd = 8 ∧ mK (sR (sR M16 448 rd (some sc)) 449 rd (some gr)) sc = 5 ∧ (∀ f, mI (sR (sR M16 448 rd (some sc)) 449 rd (some gr)) f rd = 0) ∧ (∀ f, mI (sR (sR M16 448 rd (some sc)) 449 rd (some gr)) f sc = 0) ∧ mR (sR (sR M16 448 rd (some sc)) 449 rd (some gr)) 256 sc = some (L0 0 8) ∧ mR (sR (sR M16 448 rd (some sc)) 449 rd (some gr)) 448 rd = some sc ∧ mR (sR (sR M16 448 rd (some sc)) 449 rd (some gr)) 449 rd = some gr := ⟨f16.1, f16.2.1, f16.2.2.1, f16.2.2.2.1, by simpa [ms] using f16.2.2.2.2, by simp [ms], by simp [ms]⟩
  have n19 : NGR (sR (sR M16 448 rd (some sc)) 449 rd (some gr)) gr a2 a3 tk a5 a6 a7 (some (L0 0 12)) (some (L0 0 14)) := by
    obtain ⟨⟨u1, u2, u3, u4, u5, u6, u7, u8, u9, t1, t2, t3, t4, t5⟩, r⟩ := hgrf
    exact ⟨⟨u1, by simpa [ms] using u2, by simpa [ms] using u3, by simpa [ms] using u4, by simpa [ms] using u5, by simpa [ms] using u6, u7, u8, u9, t1, by simpa [ms] using t2, by simpa [ms] using t3, by simpa [ms] using t4, t5⟩, r⟩
  generalize sR (sR M16 448 rd (some sc)) 449 rd (some gr) = M19 at g19 f19 n19
  have tp19 : TPS M19 (L0 0 8) tp := by
    obtain ⟨r5, ta, r6, r7, r8, r9, r10, r11⟩ := hT
    have k7 : ¬ mK M ta = 0 := fun e => by have := r7.1; rw [e] at this; omega
    refine ⟨g19.k r5 (by decide), ta, (g19.r r5 (by decide) (by decide)).trans r6, ?_, (g19.n rfl k7).trans r8, (g19.i r5 (by decide) (by decide)).trans r9, r10, fun i c hi => ⟨(r11 i c hi).1, (g19.ai rfl k7).trans (r11 i c hi).2⟩⟩
    unfold isA at r7 ⊢
    rw [(g19 ta k7).1]; exact r7
  have h6 := hT.2.choose_spec.2.2.2.2.1
  refine ⟨f19.1, f19.1, sc, f19.2.2.2.2.2.1, f19.2.1, ?_⟩
  refine c_adv ⟨f19.2.1, f19.2.2.2.2.1⟩ tp19 (Nat.zero_le _) (f19.2.2.2.1 257) (fun M36 x1 x2 => ?_)
  have gx36 : GX gX [] M M36 := (g19.mono (by decide) (by decide)).trans (GX.fr x1 (by decide))
  have pgi : PGI M M36 rd sc (L0 0 8) tp (newL L0 gr a2 a3 tk a5 a6 a7) (C0 S) 0 0 (a_tok tp 0) := by
    obtain ⟨⟨u1, u2, u3, u4, u5, u6, u7, u8, u9, u10⟩, v1, v2, v3, v4⟩ := n19
    refine ⟨⟨by rw [x1.kd]; exact f19.1, by rw [x1.rf]; exact f19.2.2.2.2.2.1, SCN.fr ⟨f19.2.1, f19.2.2.2.2.1⟩ x1, tp19.fr x1 (by decide), x2, TT_tok h6 (Nat.zero_le _)⟩, by rw [x1.rf]; exact f19.2.2.2.2.2.2, gx36, ⟨?_, Nat.zero_le _, fun s hs => absurd hs (Nat.not_lt_zero _)⟩, fun s hs => absurd hs (Nat.not_lt_zero _), fun g hg => ⟨?_, fun v hv => by cases hv⟩, ⟨?_, ?_, ?_⟩, ⟨?_, ?_, ?_⟩, ⟨fun s q hs => absurd hs (Nat.not_lt_zero _), fun s q hs => absurd hs (Nat.not_lt_zero _), fun s q hs => absurd hs (Nat.not_lt_zero _), fun s q i j hs => absurd hs (Nat.not_lt_zero _), fun s q hs => absurd hs (Nat.not_lt_zero _)⟩, ⟨hMgr, hM2, hM3, fun s hs => absurd hs (Nat.not_lt_zero _)⟩, C0_WC S⟩
    · show CGR M36 (newL L0 gr a2 a3 tk a5 a6 a7) 0
      unfold CGR newL
      simp only [if_true, show (2 = 1) = False by decide, show (3 = 1) = False by decide, show (3 = 2) = False by decide, show (4 = 1) = False by decide, show (4 = 2) = False by decide, show (4 = 3) = False by decide, show (5 = 1) = False by decide, show (5 = 2) = False by decide, show (5 = 3) = False by decide, show (5 = 4) = False by decide, show (6 = 1) = False by decide, show (6 = 2) = False by decide, show (6 = 3) = False by decide, show (6 = 4) = False by decide, show (6 = 5) = False by decide, show (7 = 1) = False by decide, show (7 = 2) = False by decide, show (7 = 3) = False by decide, show (7 = 4) = False by decide, show (7 = 5) = False by decide, show (7 = 6) = False by decide, show (12 = 1) = False by decide, show (12 = 2) = False by decide, show (12 = 3) = False by decide, show (12 = 4) = False by decide, show (12 = 5) = False by decide, show (12 = 6) = False by decide, show (12 = 7) = False by decide, show (14 = 1) = False by decide, show (14 = 2) = False by decide, show (14 = 3) = False by decide, show (14 = 4) = False by decide, show (14 = 5) = False by decide, show (14 = 6) = False by decide, show (14 = 7) = False by decide, if_false, x1.1, x1.2.1, x1.2.2.1, x1.it (f := 69) (by decide)]
      exact ⟨u1, u2, u3, u4, u5, u6, u7, u8, u9, u10⟩
    · show aJ M36 a3 g = -1
      rw [x1.2.2.2.2.1]; exact v4 g hg
    · show mI M36 70 gr = 0
      rw [x1.it (by decide)]; exact v1
    · show mI M36 71 gr = 0
      rw [x1.it (by decide)]; exact v2
    · show mI M36 515 tk = 0
      rw [x1.it (by decide)]; exact v3
    · rw [x1.it (by decide)]; exact f19.2.2.1 450
    · rw [x1.it (by decide)]; exact f19.2.2.1 452
    · rw [x1.it (by decide)]; exact f19.2.2.1 453
  refine c_txt 20 0 0 (newL L0 gr a2 a3 tk a5 a6 a7) (C0 S) (a_tok tp 0) M36 (Nat.le_refl _) pgi (by decide) (by decide) ⟨fun M1 L1 C1 J1 W1 T1 q hL hp => ?_, fun M1 e q he => ?_⟩
  · have gM := hp.2.2.1
    have kx1 := gM.k kx (by decide)
    have kt1 := gM.k ktb (by decide)
    have r0 := (gM.r kx (by decide) (by decide)).trans hO.2.1
    have r2 := (gM.r kx (by decide) (by decide)).trans hO.2.2.2.1
    have r3 := (gM.r kx (by decide) (by decide)).trans hO.2.2.2.2.1
    have ko := gM.k hO.2.2.2.2.2.2.2.1.1 (by decide)
    have kl := gM.k hO.2.2.2.2.2.2.2.2.1.1 (by decide)
    have nL : ∀ s, s = 0 ∨ 8 ≤ s → L1 0 s = L0 0 s := fun s hs => by
      rw [hL s]
      unfold newL
      rw [if_pos rfl, if_neg (by omega), if_neg (by omega), if_neg (by omega), if_neg (by omega), if_neg (by omega), if_neg (by omega), if_neg (by omega)]
    have c450 := hp.2.2.2.2.2.2.2.1.1
    have r449 := hp.2.1
    have krd := hp.1.1
    have kgr := hp.2.2.2.1.1.1
    have c69 := hp.2.2.2.1.1.2.2.2.2.2.2.1
    refine ⟨kx1, L0 0 8, r0, kt1, kt1, krd, kx1, ?_⟩
    have e450 : mI (sI M1 1 (L0 0 8) 0) 450 rd = 0 := by simpa [ms] using c450
    rw [e450, show mR (sI (sI M1 1 (L0 0 8) 0) 645 (L0 0 0) 0) 449 rd = some (L1 0 1) from r449]
    refine ⟨fun _ => ⟨L0 0 12, by simpa [ms] using r2, ko, ko, kx1, L0 0 14, by simpa [ms] using r3, kl, kl, kx1, L1 0 1, by simp [ms], kgr, ?_⟩, fun z => absurd z (by decide)⟩
    rw [show mI (sI (sI (sR (sI (sI M1 1 (L0 0 8) 0) 645 (L0 0 0) 0) 644 (L0 0 0) (some (L1 0 1))) 194 (L0 0 12) 0) 194 (L0 0 14) 0) 69 (L1 0 1) = nI (cn C1) by simpa [ms] using c69]
    have fx : FX M1 (sI (sI (sR (sI (sI M1 1 (L0 0 8) 0) 645 (L0 0 0) 0) 644 (L0 0 0) (some (L1 0 1))) 194 (L0 0 12) 0) 194 (L0 0 14) 0) := by
      refine ⟨rfl, rfl, rfl, rfl, rfl, rfl, fun g hg b => ?_, fun g hg b => by simp [ms, hg]⟩
      simp only [List.mem_cons, List.mem_singleton, List.not_mem_nil, or_false, not_or] at hg
      simp [ms, hg.1, hg.2.1, hg.2.2]
    have hO1 : COB M1 L1 := by
      have hO2 := COB_gx (Y := []) (gM.mono (fun _ q => q) (by decide)) hO
      unfold COB at hO2 ⊢
      rw [nL 0 (by decide), nL 8 (by decide), nL 9 (by decide), nL 10 (by decide), nL 11 (by decide), nL 12 (by decide), nL 13 (by decide), nL 14 (by decide), nL 15 (by decide)]
      exact hO2
    have fin := PGI_CR hp hO1 fx (by rw [nL 0 (by decide)]; simp [ms]) (by rw [nL 12 (by decide)]; simp [ms]) (by rw [nL 14 (by decide)]; simp [ms])
    refine hok _ L1 C1 q ⟨nL 0 (by decide), fun s hs => nL s (Or.inr hs)⟩ ?_ ?_ ?_ ?_ hp.2.2.2.2.2.2.2.2.2.2 fin.1 fin.2
    · exact GXsI (GXsI (GXsR (GXsI (GXsI (gM.mono (by decide) (by decide)) (Or.inr (by decide))) (Or.inr (by decide))) (Or.inr (by decide))) (Or.inr (by decide))) (Or.inr (by decide))
    · have nb : ¬ L0 0 10 = L0 0 8 := fun e => hO.2.2.2.2.2.2.2.2.2.1 e.symm
      have kp := hO.2.2.2.2.2.2.1.1
      simpa [ms, nb] using gM.i kp (by decide) (f := 1) (by decide)
    · simp [ms]
    · simp [ms]
  · have gM := he.1
    have kx1 := gM.k kx (by decide)
    have kt1 := gM.k ktb (by decide)
    have r0 := (gM.r kx (by decide) (by decide)).trans hO.2.1
    have krd : True := trivial
    refine ⟨kx1, L0 0 8, r0, kt1, kt1, he.2.2.2, kx1, ?_⟩
    · have e450 : mI (sI M1 1 (L0 0 8) 0) 450 rd = nI e.1 := by simpa [ms] using he.2.1
      rw [e450]
      refine ⟨fun z => absurd rfl z, fun _ => ?_⟩
      rw [show mI (sI (sI M1 1 (L0 0 8) 0) 645 (L0 0 0) (nI e.1)) 451 rd = nI e.2 by simpa [ms] using he.2.2.1]
      exact her M1 e q gM
end CV
