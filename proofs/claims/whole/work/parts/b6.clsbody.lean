/-! the class reads bodies: what is told of a stream -/
section CB
variable {B N M : Mm} {rd sc tb st ia J W : Nat} {tp w : List Nat} {L : Nat → Nat → Nat} {C : Cfg} {T : Tok} {l : List Nat} {kd : Int64}
theorem RDC.al {M1 : Mm} (h : RDC M rd sc tb tp T) (g : GX [] [] M M1) : RDC M1 rd sc tb tp T := by
  obtain ⟨r1, r2, ⟨r3, r4⟩, ⟨r5, ta, r6, r7, r8, r9, r10, r11⟩, ⟨t1, t2, t3, t4, t5, t6⟩, r13⟩ := h
  have k7 : ¬ mK M ta = 0 := fun e => by have := r7.1; rw [e] at this; omega
  refine ⟨g.k r1 (by decide), (g.r r1 (by decide) (by decide)).trans r2, ⟨g.k r3 (by decide), (g.r r3 (by decide) (by decide)).trans r4⟩, ⟨g.k r5 (by decide), ta, (g.r r5 (by decide) (by decide)).trans r6, ?_, (g.n rfl k7).trans r8, (g.i r5 (by decide) (by decide)).trans r9, r10, fun i c hi => ⟨(r11 i c hi).1, (g.ai rfl k7).trans (r11 i c hi).2⟩⟩, ⟨(g.i r3 (by decide) (by decide)).trans t1, (g.i r3 (by decide) (by decide)).trans t2, (g.i r3 (by decide) (by decide)).trans t3, fun z => (g.j r3 (by decide) (by decide)).trans (t4 z), fun z => (g.j r3 (by decide) (by decide)).trans (t5 z), fun z c hc => (g.j r3 (by decide) (by decide)).trans (t6 z c hc)⟩, r13⟩
  unfold isA at r7 ⊢
  rw [(g ta k7).1]; exact r7
theorem BDC.al {M1 : Mm} (h : BDC B N M rd sc tb tp L C st ia w kd J W l T) (g : GX [] [] M M1) : BDC B N M1 rd sc tb tp L C st ia w kd J W l T := by
  obtain ⟨h1, h2, h3, h4, ⟨i1, i2, i3, i4, i5, i6⟩, h6, ⟨s1, s2, s3, s4, s5, s6, s7, s8, s9, s10⟩, ⟨c1, c2, c3⟩⟩ := h
  have kr := h1.1
  refine ⟨h1.al g, (g.r kr (by decide) (by decide)).trans h2, h3.gx (g.mono (by decide) (fun _ q => q)), h4, ⟨g.k i1 (by decide), (g.r i1 (by decide) (by decide)).trans i2, g.k i3 (by decide), (g.n i3 (by decide)).trans i4, (g.i i1 (by decide) (by decide)).trans i5, fun i c hi => (g.ar i3 (by decide)).trans (i6 i c hi)⟩, fun s hs => (g.r (h3.ps hs).1.2.1 (by decide) (by decide)).trans (h6 s hs), ⟨(g.i i1 (by decide) (by decide)).trans s1, (g.j i1 (by decide) (by decide)).trans s2, (g.j i1 (by decide) (by decide)).trans s3, (g.r i1 (by decide) (by decide)).trans s4, (g.j i1 (by decide) (by decide)).trans s5, (g.i i1 (by decide) (by decide)).trans s6, (g.j i1 (by decide) (by decide)).trans s7, (g.r i1 (by decide) (by decide)).trans s8, (g.r i1 (by decide) (by decide)).trans s9, (g.r i1 (by decide) (by decide)).trans s10⟩, ⟨(g.i kr (by decide) (by decide)).trans c1, (g.i kr (by decide) (by decide)).trans c2, (g.i kr (by decide) (by decide)).trans c3⟩⟩
/-- the stream as it was told: x, its objects at v -/
def SLX (M : Mm) (L : Nat → Nat → Nat) (st ia n : Nat) (w : List Nat) (x : Slot) (v : Nat → Nat → Nat) : Prop := (mK M st = 7 ∧ mI M 384 st = nI n ∧ mJ M 385 st = w8 w ∧ mJ M 386 st = kw x.1 ∧ mR M 387 st = some ia ∧ mK M ia = 68 ∧ aN M ia = 4 ∧ mI M 388 st = nI x.2.1.length ∧ mR M 389 st = none ∧ mJ M 390 st = -9000000000000000000 ∧ mI M 391 st = 0 ∧ mJ M 392 st = (if x.1 = 2 then x.2.2.1 else 0) ∧ mR M 393 st = (if x.1 = 0 then some (v 3 0) else none) ∧ mR M 394 st = (if x.1 = 4 then some (v 8 0) else none) ∧ mR M 395 st = (if x.1 = 5 then some (v 16 0) else none)) ∧ (∀ i c, x.2.1[i]? = some c → aR M ia i = some (L 1 c)) ∧ (x.1 = 0 → NSO M (v 3 0) (v 4 0) (v 5 0) (v 6 0) (v 7 0) (nI x.2.2.2.2.1) (if x.2.2.2.2.2.1 = true then x.2.2.1 else -1) (nI x.2.2.2.2.2.2.1) (oI x.2.2.2.2.2.2.2)) ∧ (x.1 = 4 → NJO M (v 8 0) (v 9 0) (v 10 0) (v 11 0) (v 12 0) (v 13) (v 14) (v 15) (some (L 1 (x.2.1.getD 0 0))) (some (L 1 (x.2.1.getD 1 0))) x.2.2.1 x.2.2.2.1) ∧ (x.1 = 5 → NWI M (v 16 0) (v 17 0) (v 18 0) (v 19 0) x.2.2.1 x.2.2.2.1)
def FRH (N : Mm) (x : Slot) (v : Nat → Nat → Nat) : Prop := (x.1 = 0 → mK N (v 4 0) = 0 ∧ mK N (v 5 0) = 0 ∧ mK N (v 6 0) = 0 ∧ mK N (v 7 0) = 0) ∧ (x.1 = 4 → mK N (v 9 0) = 0 ∧ (∀ k, k < 2 → mK N (v 13 k) = 0 ∧ mK N (v 14 k) = 0 ∧ mK N (v 15 k) = 0) ∧ (v 13 0 ≠ v 13 1 ∧ v 14 0 ≠ v 14 1 ∧ v 15 0 ≠ v 15 1)) ∧ (x.1 = 5 → mK N (v 16 0) = 0 ∧ mK N (v 17 0) = 0 ∧ mK N (v 18 0) = 0 ∧ mK N (v 19 0) = 0)
def FINC (B N M : Mm) (rd sc tb : Nat) (tp : List Nat) (L : Nat → Nat → Nat) (C : Cfg) (st ia : Nat) (w : List Nat) (J W : Nat) (x : Slot) (v : Nat → Nat → Nat) (T : Tok) : Prop := RDC M rd sc tb tp T ∧ mR M 449 rd = some (L 0 1) ∧ G2 B N M L C ∧ (mK N st = 0 ∧ mK N ia = 0) ∧ TKS M L C st x.2.1 ∧ CN3 M rd J W ∧ SLX M L st ia (cn C) w x v ∧ FRH N x v
theorem NSO.fr {M1 : Mm} {q a4 a5 a6 a7 : Nat} {pt af gr : Int32} {lag : Int64} (h : NSO M q a4 a5 a6 a7 pt lag af gr) (x : FR okX M M1) : NSO M1 q a4 a5 a6 a7 pt lag af gr := by
  unfold NSO
  rw [x.1, x.2.1, x.2.2.1, x.2.2.2.1, x.2.2.2.2.1, x.it (f := 320) (by decide), x.lg (f := 321) (by decide), x.it (f := 322) (by decide), x.it (f := 323) (by decide)]; exact h
theorem NJO.fr {M1 : Mm} {q a9 a10 a11 a12 : Nat} {y0 y1 y2 : Nat → Nat} {f1 f2 : Option Nat} {fr to : Int64} (h : NJO M q a9 a10 a11 a12 y0 y1 y2 f1 f2 fr to) (x : FR okX M M1) : NJO M1 q a9 a10 a11 a12 y0 y1 y2 f1 f2 fr to := by
  unfold NJO
  rw [x.1, x.2.1, x.2.2.1, x.2.2.2.1, x.2.2.2.2.2.1, x.lg (f := 130) (by decide), x.lg (f := 131) (by decide)]; exact h
theorem NWI.fr {M1 : Mm} {q a7 a8 a9 : Nat} {size step : Int64} (h : NWI M q a7 a8 a9 size step) (x : FR okX M M1) : NWI M1 q a7 a8 a9 size step := by
  unfold NWI
  rw [x.1, x.2.1, x.2.2.1, x.lg (f := 576) (by decide), x.lg (f := 577) (by decide), x.it (f := 581) (by decide)]; exact h
theorem SLX.fr {M1 : Mm} {n : Nat} {x : Slot} {v : Nat → Nat → Nat} (h : SLX M L st ia n w x v) (y : FR okX M M1) : SLX M1 L st ia n w x v := by
  obtain ⟨h1, h2, h3, h4, h5⟩ := h
  refine ⟨?_, fun i c hi => by rw [y.2.2.2.2.2.1]; exact h2 i c hi, fun z => (h3 z).fr y, fun z => (h4 z).fr y, fun z => (h5 z).fr y⟩
  rw [y.1, y.2.1, y.2.2.1, y.it (f := 384) (by decide), y.lg (f := 385) (by decide), y.lg (f := 386) (by decide), y.it (f := 388) (by decide), y.lg (f := 390) (by decide), y.it (f := 391) (by decide), y.lg (f := 392) (by decide)]; exact h1
theorem FINC.ok {M1 : Mm} {T1 : Tok} {x : Slot} {v : Nat → Nat → Nat} (h : FINC B N M rd sc tb tp L C st ia w J W x v T) (y : FR okX M M1) (hr : RDC M1 rd sc tb tp T1) : FINC B N M1 rd sc tb tp L C st ia w J W x v T1 := by
  obtain ⟨h1, h2, h3, h4, h5, ⟨c1, c2, c3⟩, h7, h8⟩ := h
  exact ⟨hr, by rw [y.rf]; exact h2, h3.fr y (by decide), h4, fun s hs => by rw [y.rf]; exact h5 s hs, ⟨by rw [y.it (by decide)]; exact c1, by rw [y.it (by decide)]; exact c2, by rw [y.it (by decide)]; exact c3⟩, h7.fr y, h8⟩
/-- a body's two ends in the class -/
def HKC (B N : Mm) (rd sc tb : Nat) (tp : List Nat) (L : Nat → Nat → Nat) (C : Cfg) (st ia : Nat) (w : List Nat) (J W : Nat) (K : Int32 → Mm → Prop) (r : Except Flt (Slot × Tok)) : Prop := (∀ M1 x v T1 T2, r = .ok (x, T1) → a_sg tp 59 T1 = .ok T2 → FINC B N M1 rd sc tb tp L C st ia w (if x.1 = 4 then J + 1 else J) (if x.1 = 5 then W + 1 else W) x v T2 → K 1 M1) ∧ ∀ M1 e, (r = .error e ∨ ∃ y, r = .ok y ∧ a_sg tp 59 y.2 = .error e) → ERR B M1 rd e → K 0 M1
theorem c_fin {K : Int32 → Mm → Prop} {r : Except Flt (Slot × Tok)} {x : Slot} {v : Nat → Nat → Nat} (h : FINC B N M rd sc tb tp L C st ia w (if x.1 = 4 then J + 1 else J) (if x.1 = 5 then W + 1 else W) x v T) (hr : r = .ok (x, T)) (hK : HKC B N rd sc tb tp L C st ia w J W K r) : wp_X7_readSign M rd (59 : Int32) (fun r11 M12 => bz r11 ∧ K r11 M12) := by
  refine c_sg (c := 59) h.1 (by decide) (fun M1 T2 q x1 x2 => ⟨by simp [bz], hK.1 M1 x v T T2 hr q (h.ok x1 x2)⟩) (fun M1 e q x1 x2 => ⟨by simp [bz], hK.2 M1 e (Or.inr ⟨_, hr, q⟩) ⟨h.2.2.1.1.trans (GX.fr x1 (by decide)), x2⟩⟩)
theorem fre {a : Nat} (h : BDC B N M rd sc tb tp L C st ia w kd J W l T) (ha : mK M a = 0) : mK N a = 0 := Classical.byContradiction fun z => z (by rw [← (h.2.2.1.2.1 a z).1]; exact ha)
theorem hloL : ∀ n, n ≤ BIG → (lN n < 0) = (n < 0) := hloN (lo := 0) (by decide)
theorem hhiB : ∀ n, n ≤ BIG → (lN n ≤ 999999999999999999) = (n ≤ BIG) := hhiN (hi := 999999999999999999) (by decide)
theorem c_160 {K : Int32 → Mm → Prop} {r : Except Flt (Slot × Tok)} {pt af : Nat} {gr : Option Nat} {hl : Bool} {lag : Int64} (h : BDC B N M rd sc tb tp L C st ia w (kw 0) J W [] T) (hr : r = .ok ((0, [], lag, 0, pt, hl, af, gr), T)) (hK : HKC B N rd sc tb tp L C st ia w J W K r) : bk_X7_readSource_160 rd K (some st) (nI pt) (if hl = true then lag else -1) (nI af) (oI gr) M := by
  intro q hq
  refine c_newSO hq (fun M1 a4 a5 a6 a7 f4 f5 f6 f7 g hs => ⟨st, rfl, ?_⟩)
  have h1 := h.al g
  have ns : ¬ st = q := fun e => by have := h.2.2.2.2.1.1; rw [e, hq] at this; exact absurd this (by decide)
  have kq : mK N q = 0 := fre h hq
  refine ⟨h1.2.2.2.2.1.1, h1.1.1, ?_⟩
  have fin : FINC B N (sR M1 393 st (some q)) rd sc tb tp L C st ia w J W (0, [], lag, 0, pt, hl, af, gr) (fun i _ => [0, 0, 0, q, a4, a5, a6, a7].getD i 0) T := by
    obtain ⟨h1, h2, h3, h4, ⟨i1, i2, i3, i4, i5, i6⟩, h6, ⟨s1, s2, s3, s4, s5, s6, s7, s8, s9, s10⟩, ⟨c1, c2, c3⟩⟩ := h1
    have kst : mK B st = 0 := h3.2.2.1 st h4.1
    refine ⟨?_, by simpa [ms] using h2, ⟨GXsR h3.1 (Or.inl kst), GXsR h3.2.1 (Or.inl h4.1), h3.2.2⟩, h4, fun s hs => by simpa [ms] using h6 s hs, ⟨c1, c2, c3⟩, ⟨⟨i1, s1, s2, s3, by simpa [ms] using i2, i3, i4, i5, by simpa [ms] using s4, s5, s6, s7, by simp [ms], by simpa [ms] using s9, by simpa [ms] using s10⟩, fun i c hi => by simp at hi, fun _ => ?_, fun z => absurd (show (0 : Nat) = 4 from z) (by decide), fun z => absurd (show (0 : Nat) = 5 from z) (by decide)⟩, ⟨fun _ => ⟨fre h f4, fre h f5, fre h f6, fre h f7⟩, fun z => absurd (show (0 : Nat) = 4 from z) (by decide), fun z => absurd (show (0 : Nat) = 5 from z) (by decide)⟩⟩
    · obtain ⟨r1, r2, ⟨r3, r4⟩, ⟨r5, ta, r6, r7, r8, r9, r10, r11⟩, t, r13⟩ := h1
      exact ⟨r1, by simpa [ms] using r2, ⟨r3, by simpa [ms] using r4⟩, ⟨r5, ta, by simpa [ms] using r6, r7, r8, r9, r10, r11⟩, t, r13⟩
    · obtain ⟨⟨u1, u2, u3, u4, u5, u6, u7, u8, u9, u10⟩, u11⟩ := hs
      exact ⟨⟨u1, u2, u3, u4, u5, by simpa [ms] using u6, by simpa [ms] using u7, by simpa [ms] using u8, by simpa [ms] using u9, u10⟩, u11⟩
  exact c_fin (x := (0, [], lag, 0, pt, hl, af, gr)) fin hr hK
theorem c_120 {K : Int32 → Mm → Prop} {pt af : Nat} {hl : Bool} {lag : Int64} (h : BDC B N M rd sc tb tp L C st ia w (kw 0) J W [] T) (hK : HKC B N rd sc tb tp L C st ia w J W K (a_src4 tp pt hl lag af T)) : bk_X7_readSource_120 rd K (some st) (nI pt) (if hl = true then lag else -1) (nI af) M := by
  have hR := h.1
  refine ⟨hR.1, ?_⟩
  rw [e_ckw (k := 4) hR (by decide) (by decide), bI_0]
  refine ⟨fun z => ?_, fun z => ⟨hR.1, sc, hR.2.1, hR.2.2.1.1, ?_⟩⟩
  · exact c_160 (gr := none) h (by rw [a_src4, if_neg (by rw [z]; decide)]) hK
  · have z2 : isKw 4 T = true := by simpa using z
    refine c_nx hR (fun M1 x1 x2 => ⟨x2.1, ?_⟩)
    have h1 := h.ok (x1.mono (by decide)) x2
    refine c_num (lo := 0) (hi := 3) x2 hloL (hhiN (hi := 3) (by decide)) (fun M2 g T2 q y1 y2 y3 => ⟨fun _ => ⟨y2.1, ?_⟩, fun y => absurd y (by decide)⟩) (fun M2 e q y1 y2 => ⟨fun y => absurd rfl y, fun _ => ?_⟩)
    · have gb := num_ok q
      rw [y3, j32 (by omega)]
      exact c_160 (gr := some g) (h1.ok y1 y2) (by rw [a_src4, if_pos z2, q]) hK
    · exact hK.2 M2 e (Or.inl (by rw [a_src4, if_pos z2, q])) (h1.er y1 y2)
theorem c_80 {K : Int32 → Mm → Prop} {pt : Nat} {hl : Bool} {lag : Int64} (h : BDC B N M rd sc tb tp L C st ia w (kw 0) J W [] T) (hK : HKC B N rd sc tb tp L C st ia w J W K (a_src3 tp pt hl lag T)) : bk_X7_readSource_80 rd K (some st) (nI pt) (if hl = true then lag else -1) M := by
  have hR := h.1
  refine ⟨hR.1, ?_⟩
  rw [e_ckw (k := 3) hR (by decide) (by decide), bI_0]
  refine ⟨fun z => ?_, fun z => ⟨hR.1, sc, hR.2.1, hR.2.2.1.1, ?_⟩⟩
  · rw [a_src3, if_neg (by rw [z]; decide)] at hK
    exact c_120 (af := 0) h hK
  · have z2 : isKw 3 T = true := by simpa using z
    rw [a_src3, if_pos z2] at hK
    refine c_nx hR (fun M1 x1 x2 => ⟨x2.1, ?_⟩)
    have h1 := h.ok (x1.mono (by decide)) x2
    refine c_num (lo := 1) (hi := 1000) x2 (hloN (lo := 1) (by decide)) (hhiN (hi := 1000) (by decide)) (fun M2 g T2 q y1 y2 y3 => ⟨fun _ => ⟨y2.1, ?_⟩, fun y => absurd y (by decide)⟩) (fun M2 e q y1 y2 => ⟨fun y => absurd rfl y, fun _ => ?_⟩)
    · have gb := num_ok q
      rw [q] at hK
      rw [y3, j32 (by omega)]
      exact c_120 (h1.ok y1 y2) hK
    · rw [q] at hK
      exact hK.2 M2 e (Or.inl rfl) (h1.er y1 y2)
theorem c_src {K : Int32 → Mm → Prop} (h : BDC B N M rd sc tb tp L C st ia w (kw 0) J W [] T) (hK : HKC B N rd sc tb tp L C st ia w J W K (a_src tp (a_nx tp T))) : wp_X7_readSource M rd (some st) K := by
  have hR := h.1
  refine ⟨hR.1, sc, hR.2.1, hR.2.2.1.1, c_nx hR (fun M1 x1 x2 => ⟨x2.1, ?_⟩)⟩
  have h1 := h.ok (x1.mono (by decide)) x2
  refine c_num (lo := 1) (hi := 4) x2 (hloN (lo := 1) (by decide)) (hhiN (hi := 4) (by decide)) (fun M2 pt T2 q y1 y2 y3 => ⟨fun _ => ⟨y2.1, ?_⟩, fun y => absurd y (by decide)⟩) (fun M2 e q y1 y2 => ⟨fun y => absurd rfl y, fun _ => ?_⟩)
  · have pb := num_ok q
    rw [a_src, q] at hK
    have h2 := h1.ok y1 y2
    rw [e_ckw (k := 1) y2 (by decide) (by decide), bI_0, y3, j32 (by omega)]
    refine ⟨fun z => ⟨y2.1, ?_⟩, fun z => ⟨y2.1, sc, y2.2.1, y2.2.2.1.1, ?_⟩⟩
    · simp only [a_src2, if_neg (show ¬ isKw 1 T2 = true by rw [z]; decide)] at hK
      refine c_kw (k := 2) y2 (by decide) (by decide) (fun M3 T3 p z1 z2 => ⟨fun _ => ?_, fun y => absurd y (by decide)⟩) (fun M3 e p z1 z2 => ⟨fun y => absurd rfl y, fun _ => ?_⟩)
      · rw [p] at hK
        exact c_80 (hl := false) (lag := 0) (h2.ok z1 z2) hK
      · rw [p] at hK
        exact hK.2 M3 e (Or.inl rfl) (h2.er z1 z2)
    · have z2 : isKw 1 T2 = true := by simpa using z
      simp only [a_src2, if_pos z2] at hK
      refine c_nx y2 (fun M3 u1 u2 => ⟨u2.1, ?_⟩)
      have h3 := h2.ok (u1.mono (by decide)) u2
      refine c_num (lo := 0) (hi := BIG) u2 hloL hhiB (fun M4 lag T4 p v1 v2 v3 => ⟨fun _ => ⟨v2.1, ?_⟩, fun y => absurd y (by decide)⟩) (fun M4 e p v1 v2 => ⟨fun y => absurd rfl y, fun _ => ?_⟩)
      · rw [p] at hK
        rw [v3]
        exact c_80 (hl := true) (lag := lN lag) (h3.ok v1 v2) hK
      · rw [p] at hK
        exact hK.2 M4 e (Or.inl rfl) (h3.er v1 v2)
  · rw [a_src, q] at hK
    exact hK.2 M2 e (Or.inl rfl) (h1.er y1 y2)
/-- a stream with nothing but inputs -/
theorem FINC_in {k : Nat} (h : BDC B N M rd sc tb tp L C st ia w (kw k) J W l T) (hk : k = 1 ∨ k = 3) : FINC B N M rd sc tb tp L C st ia w J W (k, l, 0, 0, 0, false, 0, none) (fun _ _ => 0) T := by
  obtain ⟨h1, h2, h3, h4, ⟨i1, i2, i3, i4, i5, i6⟩, h6, ⟨s1, s2, s3, s4, s5, s6, s7, s8, s9, s10⟩, ⟨c1, c2, c3⟩⟩ := h
  have n0 : ¬ k = 0 := by omega
  have n2 : ¬ k = 2 := by omega
  have n4 : ¬ k = 4 := by omega
  have n5 : ¬ k = 5 := by omega
  exact ⟨h1, h2, h3, h4, h6, ⟨c1, c2, c3⟩, ⟨⟨i1, s1, s2, s3, i2, i3, i4, i5, s4, s5, s6, by simpa [n2] using s7, by simpa [n0] using s8, by simpa [n4] using s9, by simpa [n5] using s10⟩, i6, fun z => absurd z n0, fun z => absurd z n4, fun z => absurd z n5⟩, ⟨fun z => absurd z n0, fun z => absurd z n4, fun z => absurd z n5⟩⟩
theorem c_49 {K : Int32 → Mm → Prop} {r : Except Flt (Slot × Tok)} (h : BDC B N M rd sc tb tp L C st ia w (kw 1) J W l T) (hr : r = .ok ((1, l, 0, 0, 0, false, 0, none), T)) (hK : HKC B N rd sc tb tp L C st ia w J W K r) : bk_X7_readUnion_49 rd K M := ⟨h.1.1, c_fin (J := J) (W := W) (x := (1, l, 0, 0, 0, false, 0, none)) (FINC_in h (by decide)) hr hK⟩
theorem c_more {K : Int32 → Mm → Prop} {r : Except Flt (Slot × Tok)} (hWT : WT C) (hK : HKC B N rd sc tb tp L C st ia w J W K r) : ∀ (n : Nat) (l : List Nat) (T : Tok) (M : Mm), l.length + n = 4 → 2 ≤ l.length → BDC B N M rd sc tb tp L C st ia w (kw 1) J W l T → r = (match a_more tp C n l T with
    | .error e => .error e
    | .ok (l, T3) => .ok ((1, l, 0, 0, 0, false, 0, none), T3)) → lp_X7_readUnion_9 rd K (n + 1) (some st) (nI l.length) M := by
  intro n
  induction n with
  | zero =>
    intro l T M hl h2 h hr
    rw [lp_X7_readUnion_9]
    refine ⟨fun _ => c_49 h hr hK, fun z => absurd ?_ z⟩
    rw [show l.length = 4 by omega]; decide
  | succ n ih =>
    intro l T M hl h2 h hr
    have hR := h.1
    have k3 : (mI M 258 sc = 3) = (tkk T = 3) := hR.2.2.2.2.1.k hR.2.2.2.2.2.1 (d := 3) (by decide)
    rw [lp_X7_readUnion_9]
    refine ⟨fun z => ?_, fun _ => ⟨fun z => ?_, fun _ => ⟨hR.1, sc, hR.2.1, hR.2.2.1.1, ?_⟩⟩⟩
    · have z2 : nI 4 ≤ nI l.length := z
      rw [n_le (by omega) (by omega)] at z2; omega
    · have z2 : nI l.length < nI 2 := z
      rw [n_lt (by omega) (by omega)] at z2; omega
    · rw [k3]
      rw [a_more] at hr
      refine ⟨fun z => ⟨hR.1, ?_⟩, fun z => ?_⟩
      · rw [if_pos z] at hr
        refine c_inp h hWT (by omega) (fun M1 y q x1 => ⟨fun _ => ?_, fun y => absurd y (by decide)⟩) (fun M1 e q x1 => ⟨fun y => absurd rfl y, fun _ => ?_⟩)
        · rw [q] at hr
          have il := inp_len q
          rw [show nI l.length + 1 = nI y.1.length by rw [show (1 : Int32) = nI 1 from rfl, n_add, il]]
          exact ih y.1 y.2 M1 (by omega) (by omega) x1 hr
        · rw [q] at hr
          exact hK.2 M1 e (Or.inl hr) x1
      · rw [if_neg z] at hr
        exact c_49 h hr hK
theorem c_uni {K : Int32 → Mm → Prop} (h : BDC B N M rd sc tb tp L C st ia w (kw 1) J W [] T) (hWT : WT C) (hK : HKC B N rd sc tb tp L C st ia w J W K (a_uni tp C (a_nx tp T))) : wp_X7_readUnion M rd (some st) K := by
  have hR := h.1
  refine ⟨hR.1, sc, hR.2.1, hR.2.2.1.1, c_nx hR (fun M1 x1 x2 => ⟨5, ?_⟩)⟩
  have h1 := h.ok (x1.mono (by decide)) x2
  rw [lp_X7_readUnion_9]
  refine ⟨fun z => absurd z (by decide), fun _ => ⟨fun _ => ⟨x2.1, ?_⟩, fun z => absurd (by decide) z⟩⟩
  refine c_inp h1 hWT (by decide) (fun M2 y q y1 => ⟨fun _ => ?_, fun z => absurd z (by decide)⟩) (fun M2 e q y1 => ⟨fun z => absurd rfl z, fun _ => hK.2 M2 e (Or.inl (by rw [a_uni, a_two, q])) y1⟩)
  rw [lp_X7_readUnion_9]
  refine ⟨fun z => absurd z (by decide), fun _ => ⟨fun _ => ⟨y1.1.1, ?_⟩, fun z => absurd (by decide) z⟩⟩
  refine c_inp y1 hWT (by rw [inp_len q]; decide) (fun M3 u p z1 => ⟨fun _ => ?_, fun z => absurd z (by decide)⟩) (fun M3 e p z1 => ⟨fun z => absurd rfl z, fun _ => hK.2 M3 e (Or.inl (by rw [a_uni, a_two, q]; simp only [p])) z1⟩)
  have l2 : u.1.length = 2 := by rw [inp_len p, inp_len q]; rfl
  have := c_more hWT hK 2 u.1 u.2 M3 (by omega) (by omega) z1 (by rw [a_uni, a_two, q]; simp only [p]; cases a_more tp C 2 u.1 u.2 <;> rfl)
  rw [l2] at this
  exact this
theorem c_hol {K : Int32 → Mm → Prop} (h : BDC B N M rd sc tb tp L C st ia w (kw 3) J W [] T) (hWT : WT C) (hK : HKC B N rd sc tb tp L C st ia w J W K (a_hol tp C (a_nx tp T))) : wp_X4_advance M sc (fun M45 => mK M45 rd = 8 ∧ (wp_X7_readInput M45 rd (some st) (fun r50 M51 => ((r50 = 0 → (bk_X7_readKind_86 rd K M51)) ∧ (¬ r50 = 0 → mK M51 rd = 8 ∧ (wp_X7_readSign M51 rd (59 : Int32) (fun r54 M55 => ((r54 = 0 → (bk_X7_readKind_86 rd K M55)) ∧ (¬ r54 = 0 → (bk_X7_readKind_87 rd K (1 : Int32) M55)))))))))) := by
  refine c_nx h.1 (fun M1 x1 x2 => ⟨x2.1, ?_⟩)
  have h1 := h.ok (x1.mono (by decide)) x2
  refine c_inp h1 hWT (by decide) (fun M2 y q y1 => ⟨fun z => absurd z (by decide), fun _ => ⟨y1.1.1, ?_⟩⟩) (fun M2 e q y1 => ⟨fun _ => ⟨by simp [bz], hK.2 M2 e (Or.inl (by rw [a_hol, q])) y1⟩, fun z => absurd rfl z⟩)
  have f := FINC_in y1 (Or.inr rfl)
  have en : a_hol tp C (a_nx tp T) = .ok ((3, y.1, 0, 0, 0, false, 0, none), y.2) := by rw [a_hol, q]
  refine c_sg (c := 59) f.1 (by decide) (fun M3 T2 p z1 z2 => ⟨fun z => absurd z (by decide), fun _ => ⟨by simp [bz], hK.1 M3 _ _ _ T2 en p (f.ok z1 z2)⟩⟩) (fun M3 e p z1 z2 => ⟨fun _ => ⟨by simp [bz], hK.2 M3 e (Or.inr ⟨_, en, p⟩) ⟨f.2.2.1.1.trans (GX.fr z1 (by decide)), z2⟩⟩, fun z => absurd rfl z⟩)
theorem c_del {K : Int32 → Mm → Prop} (h : BDC B N M rd sc tb tp L C st ia w (kw 2) J W [] T) (hWT : WT C) (hK : HKC B N rd sc tb tp L C st ia w J W K (a_del tp C (a_nx tp T))) : wp_X7_readDelay M rd (some st) K := by
  have hR := h.1
  refine ⟨hR.1, sc, hR.2.1, hR.2.2.1.1, c_nx hR (fun M1 x1 x2 => ⟨x2.1, ?_⟩)⟩
  have h1 := h.ok (x1.mono (by decide)) x2
  refine c_inp h1 hWT (by decide) (fun M2 y q y1 => ⟨fun z => absurd z (by decide), fun _ => ⟨y1.1.1, ?_⟩⟩) (fun M2 e q y1 => ⟨fun _ => hK.2 M2 e (Or.inl (by rw [a_del, q])) y1, fun z => absurd rfl z⟩)
  refine c_num (lo := 0) (hi := BIG) y1.1 hloL hhiB (fun M3 u T3 p z1 z2 z3 => ⟨fun _ => ⟨z2.1, st, rfl, ?_⟩, fun z => absurd z (by decide)⟩) (fun M3 e p z1 z2 => ⟨fun z => absurd rfl z, fun _ => hK.2 M3 e (Or.inl (by rw [a_del, q]; simp only [p])) (y1.er z1 z2)⟩)
  have h3 := y1.ok z1 z2
  refine ⟨h3.2.2.2.2.1.1, ?_⟩
  rw [z3]
  have en : a_del tp C (a_nx tp T) = .ok ((2, y.1, lN u, 0, 0, false, 0, none), T3) := by rw [a_del, q]; simp only [p]; rfl
  have fin : FINC B N (sJ M3 392 st (lN u)) rd sc tb tp L C st ia w J W (2, y.1, lN u, 0, 0, false, 0, none) (fun _ _ => 0) T3 := by
    obtain ⟨h1, h2, h3, h4, ⟨i1, i2, i3, i4, i5, i6⟩, h6, ⟨s1, s2, s3, s4, s5, s6, s7, s8, s9, s10⟩, ⟨c1, c2, c3⟩⟩ := h3
    have kst : mK B st = 0 := h3.2.2.1 st h4.1
    refine ⟨?_, h2, ⟨GXsJ h3.1 (Or.inl kst), GXsJ h3.2.1 (Or.inl h4.1), h3.2.2⟩, h4, h6, ⟨c1, c2, c3⟩, ⟨⟨i1, s1, by simpa [ms] using s2, by simpa [ms] using s3, i2, i3, i4, i5, s4, by simpa [ms] using s5, s6, by simp [ms], by simpa [ms] using s8, by simpa [ms] using s9, by simpa [ms] using s10⟩, i6, fun z => absurd (show (2 : Nat) = 0 from z) (by decide), fun z => absurd (show (2 : Nat) = 4 from z) (by decide), fun z => absurd (show (2 : Nat) = 5 from z) (by decide)⟩, ⟨fun z => absurd (show (2 : Nat) = 0 from z) (by decide), fun z => absurd (show (2 : Nat) = 4 from z) (by decide), fun z => absurd (show (2 : Nat) = 5 from z) (by decide)⟩⟩
    obtain ⟨r1, r2, r3, r5, ⟨t1, t2, t3, t4, t5, t6⟩, r13⟩ := h1
    exact ⟨r1, r2, r3, r5, ⟨t1, t2, t3, fun z => by simpa [ms] using t4 z, fun z => by simpa [ms] using t5 z, fun z c hc => by simpa [ms] using t6 z c hc⟩, r13⟩
  exact c_fin (x := (2, y.1, lN u, 0, 0, false, 0, none)) fin en hK
end CB
