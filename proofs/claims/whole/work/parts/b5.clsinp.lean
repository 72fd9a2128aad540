/-! the class reads inputs of a stream -/
/-- the graph as it stood before the statement -/
def GRA (N : Mm) (L : Nat → Nat → Nat) (C : Cfg) : Prop := CGR N L (cn C) ∧ cn C ≤ 12 ∧ ∀ s, s < cn C → PS N L C s
def STR (M : Mm) (st n : Nat) (w : List Nat) (kd : Int64) : Prop := mI M 384 st = nI n ∧ mJ M 385 st = w8 w ∧ mJ M 386 st = kd ∧ mR M 389 st = none ∧ mJ M 390 st = -9000000000000000000 ∧ mI M 391 st = 0 ∧ mJ M 392 st = 0 ∧ mR M 393 st = none ∧ mR M 394 st = none ∧ mR M 395 st = none
def INP (M : Mm) (L : Nat → Nat → Nat) (st ia : Nat) (l : List Nat) : Prop := mK M st = 7 ∧ mR M 387 st = some ia ∧ mK M ia = 68 ∧ aN M ia = 4 ∧ mI M 388 st = nI l.length ∧ ∀ i c, l[i]? = some c → aR M ia i = some (L 1 c)
def TKS (M : Mm) (L : Nat → Nat → Nat) (C : Cfg) (st : Nat) (l : List Nat) : Prop := ∀ s, s < cn C → mR M 389 (L 1 s) = if s ∈ l then some st else (ctk C s).map (L 1)
/-- the reader's numbers: no fault, so many joins and windows -/
def CN3 (M : Mm) (rd J W : Nat) : Prop := mI M 450 rd = 0 ∧ mI M 452 rd = nI J ∧ mI M 453 rd = nI W
/-- the two memories behind: at the call, and at the statement -/
def G2 (B N M : Mm) (L : Nat → Nat → Nat) (C : Cfg) : Prop := GX gX [] B M ∧ GX gX [389] N M ∧ (∀ a, mK N a = 0 → mK B a = 0) ∧ (∀ s, s < cn C → mK B (L 1 s) = 0) ∧ GRA N L C
section CI
variable {B N M : Mm} {rd sc tb st ia J W : Nat} {tp w : List Nat} {L : Nat → Nat → Nat} {C : Cfg} {T : Tok} {l : List Nat} {kd : Int64}
theorem G2.gx {M1 : Mm} (h : G2 B N M L C) (g : GX gX [] M M1) : G2 B N M1 L C := ⟨h.1.trans g, h.2.1.trans (g.mono (fun _ q => q) (by decide)), h.2.2⟩
theorem G2.fr {M1 : Mm} {X : List Nat} (h : G2 B N M L C) (g : FR X M M1) (hX : ∀ f ∈ X, f ∈ gX) : G2 B N M1 L C := h.gx (GX.fr g hX)
theorem G2.cgr (h : G2 B N M L C) : CGR M L (cn C) := CGR_gx h.2.1 h.2.2.2.2.1
theorem G2.ps (h : G2 B N M L C) {s : Nat} (hs : s < cn C) : PS M L C s := (h.2.2.2.2.2.2 s hs).gx h.2.1 h.2.2.2.2.1.2.2.2.2.2.2.2.1.1
def BDC (B N M : Mm) (rd sc tb : Nat) (tp : List Nat) (L : Nat → Nat → Nat) (C : Cfg) (st ia : Nat) (w : List Nat) (kd : Int64) (J W : Nat) (l : List Nat) (T : Tok) : Prop := RDC M rd sc tb tp T ∧ mR M 449 rd = some (L 0 1) ∧ G2 B N M L C ∧ (mK N st = 0 ∧ mK N ia = 0) ∧ INP M L st ia l ∧ TKS M L C st l ∧ STR M st (cn C) w kd ∧ CN3 M rd J W
theorem BDC.ok {M1 : Mm} {T1 : Tok} (h : BDC B N M rd sc tb tp L C st ia w kd J W l T) (x : FR okX M M1) (hr : RDC M1 rd sc tb tp T1) : BDC B N M1 rd sc tb tp L C st ia w kd J W l T1 := by
  obtain ⟨h1, h2, h3, h4, ⟨i1, i2, i3, i4, i5, i6⟩, h6, ⟨s1, s2, s3, s4, s5, s6, s7, s8, s9, s10⟩, ⟨c1, c2, c3⟩⟩ := h
  refine ⟨hr, by rw [x.rf]; exact h2, h3.fr x (by decide), h4, ⟨by rw [x.kd]; exact i1, by rw [x.rf]; exact i2, by rw [x.kd]; exact i3, by rw [x.2.2.1]; exact i4, by rw [x.it (by decide)]; exact i5, fun i c hi => by rw [x.2.2.2.2.2.1]; exact i6 i c hi⟩, fun s hs => by rw [x.rf]; exact h6 s hs, ⟨?_, ?_, ?_, ?_, ?_, ?_, ?_, ?_, ?_, ?_⟩, ⟨?_, ?_, ?_⟩⟩
  · rw [x.it (by decide)]; exact s1
  · rw [x.lg (by decide)]; exact s2
  · rw [x.lg (by decide)]; exact s3
  · rw [x.rf]; exact s4
  · rw [x.lg (by decide)]; exact s5
  · rw [x.it (by decide)]; exact s6
  · rw [x.lg (by decide)]; exact s7
  · rw [x.rf]; exact s8
  · rw [x.rf]; exact s9
  · rw [x.rf]; exact s10
  · rw [x.it (by decide)]; exact c1
  · rw [x.it (by decide)]; exact c2
  · rw [x.it (by decide)]; exact c3
/-- a body's end at a fault -/
def ERR (B M : Mm) (rd : Nat) (e : Flt) : Prop := GX gX [] B M ∧ FLT M rd e
theorem BDC.er {M1 : Mm} {e : Flt} (h : BDC B N M rd sc tb tp L C st ia w kd J W l T) (x : FR rdX M M1) (hf : FLT M1 rd e) : ERR B M1 rd e := ⟨h.2.2.1.1.trans (GX.fr x (by decide)), hf⟩
theorem c_nmL {K : Option Nat → Mm → Prop} (hG : CGR M L (cn C)) (h12 : cn C ≤ 12) (hP : ∀ s, s < cn C → PS M L C s) (hw : WW w) (hK : K ((a_find C w).map (L 1)) M) : ∀ (j s : Nat), s + j = cn C → (∀ q, q < s → ¬ cnm C q = w) → lp_X1_named_2 (L 0 1) K (j + 1) (w8 w) (nI s) M := by
  intro j
  have c0 := hG.2.2.2.2.2.2.1
  induction j with
  | zero =>
    intro s hs hq
    have e : s = cn C := by omega
    subst e
    rw [lp_X1_named_2]
    simp (disch := omega) only [hG.1, c0, n_le, Nat.le_refl, forall_const, not_true, false_implies, and_true, true_and]
    rw [a_find, fnd_none _ hq] at hK; exact hK
  | succ j ih =>
    intro s hs hq
    have hs2 : s < cn C := by omega
    have p := hP s hs2
    have iA : isA M (L 0 2) 4 := ⟨by rw [hG.2.2.2.2.2.2.2.1.1]; decide, by rw [hG.2.2.2.2.2.2.2.1.1]⟩
    rw [lp_X1_named_2]
    simp (disch := omega) only [hG.1, c0, n_le, show ¬ cn C ≤ s by omega, forall_const, not_false_eq_true, false_implies, true_and, hG.2.2.2.1, Option.some.injEq, exists_eq_left', iA, hG.2.2.2.2.2.2.2.1.2, n_in, n_clamp, p.1.1, p.1.2.1, p.2.1, w8_inj p.2.2.1 hw]
    refine ⟨fun z => ?_, fun z => ?_⟩
    · rw [show nI s + 1 = nI (s + 1) by rw [show (1 : Int32) = nI 1 from rfl, n_add]]
      refine ih (s + 1) (by omega) (fun q hq2 => ?_)
      by_cases e : q = s
      · rw [e]; exact z
      · exact hq q (by omega)
    · rw [a_find, fnd_some _ hq z hs2] at hK; exact hK
theorem c_named {K : Option Nat → Mm → Prop} (hG : CGR M L (cn C)) (h12 : cn C ≤ 12) (hP : ∀ s, s < cn C → PS M L C s) (hw : WW w) (hK : K ((a_find C w).map (L 1)) M) : wp_X1_named M (L 0 1) (w8 w) K := ⟨_, c_nmL hG h12 hP hw hK (cn C) 0 (by omega) (fun q hq => by omega)⟩
theorem c_inp {K : Int32 → Mm → Prop} (h : BDC B N M rd sc tb tp L C st ia w kd J W l T) (hWT : WT C) (h4 : l.length < 4) (hok : ∀ M1 y, a_inp tp C l T = .ok y → BDC B N M1 rd sc tb tp L C st ia w kd J W y.1 y.2 → K 1 M1) (her : ∀ M1 e, a_inp tp C l T = .error e → ERR B M1 rd e → K 0 M1) : wp_X7_readInput M rd (some st) K := by
  have hR := h.1
  have hT := hR.2.2.2.2.2.1
  have k3 : (mI M 258 sc = 3) = (tkk T = 3) := hR.2.2.2.2.1.k hT (d := 3) (by decide)
  have hG := h.2.2.1.cgr
  have h12 := h.2.2.1.2.2.2.2.2.1
  have hP := fun s (hs : s < cn C) => h.2.2.1.ps hs
  have bad : a_inp tp C l T = flt 4 T → bk_X7_readInput_42 rd K M := fun e => ⟨hR.1, c_ref (n := 4) hR (fun M1 x1 x2 => ⟨by simp [bz], her M1 _ e (h.er (x1.mono (by decide)) x2)⟩)⟩
  refine ⟨hR.1, sc, hR.2.1, hR.2.2.1.1, ?_⟩
  rw [k3]
  refine ⟨fun z => ⟨L 0 1, h.2.1, hG.1, ?_⟩, fun z => ?_⟩
  · rw [hR.2.2.2.2.1.2.2.2.1 (Or.inr z)]
    refine c_named hG h12 hP (hT.ww (Or.inr z)) ?_
    cases e : a_find C (tkw T) with
    | none => exact ⟨fun _ => bad (by rw [a_inp, if_pos z, e]), fun a15 q => (by cases q)⟩
    | some i =>
      have hi := fnd_lt _ _ e
      have pi := hP i hi
      have en : a_inp tp C l T = if (ctk C i).isSome = true ∨ i ∈ l then flt 4 T else .ok (l ++ [i], a_nx tp T) := by rw [a_inp, if_pos z, e]
      have tk := h.2.2.2.2.2.1 i hi
      refine ⟨fun q => (by cases q), fun a15 q => ?_⟩
      have q' : L 1 i = a15 := Option.some.inj q
      subst q'
      have free : mR M 389 (L 1 i) = none → ¬ ((ctk C i).isSome = true ∨ i ∈ l) := fun f d => by
        rw [f] at tk
        by_cases d2 : i ∈ l
        · rw [if_pos d2] at tk; cases tk
        · rw [if_neg d2] at tk
          rcases d with d | d
          · cases e9 : ctk C i with
            | none => rw [e9] at d; cases d
            | some t => rw [e9] at tk; cases tk
          · exact d2 d
      refine ⟨pi.1.2.1, fun f => ⟨st, rfl, h.2.2.2.2.1.1, ?_⟩, fun a18 f => bad ?_⟩
      · rw [if_neg (free f)] at en
        obtain ⟨h1, h2, h3, h4', ⟨i1, i2, i3, i4, i5, i6⟩, h6, ⟨s1, s2, s3, s4, s5, s6, s7, s8, s9, s10⟩, ⟨c1, c2, c3⟩⟩ := h
        have iA : isA M ia 4 := ⟨by rw [i3]; decide, by rw [i3]⟩
        have nst : ¬ L 1 i = st := fun e9 => by
          have := (h3.2.2.2.2.2.2 i hi).1.2.1
          rw [e9, h4'.1] at this; exact absurd this (by decide)
        have nia : ¬ ia = L 1 i := fun e9 => by rw [e9, pi.1.2.1] at i3; exact absurd i3 (by decide)
        have nls : ∀ s, s < cn C → s ≠ i → L 1 s ≠ L 1 i → True := fun _ _ _ _ => trivial
        refine ⟨i1, ia, i2, iA, ?_⟩
        rw [i4, i5]
        have n4 : (nI 4 ≤ nI l.length) = False := eq_false (fun y => by rw [n_le (by omega) (by omega)] at y; omega)
        rw [n4]
        refine ⟨fun y => absurd y (fun y => y), fun _ => ⟨L 1 i, rfl, pi.1.2.1, n_in (by omega) (by decide), ?_⟩⟩
        rw [n_clamp (by omega), show mI (tR M ia l.length ((some i).map (L 1))) 388 st = nI l.length from i5, show nI l.length + 1 = nI (l.length + 1) by rw [show (1 : Int32) = nI 1 from rfl, n_add]]
        have kia : mK B ia = 0 := h3.2.2.1 ia h4'.2
        have kst : mK B st = 0 := h3.2.2.1 st h4'.1
        have kli : mK B (L 1 i) = 0 := h3.2.2.2.1 i hi
        -- the memory behind the three writes
        have g1 : GX gX [] B (sR (sI (tR M ia l.length (some (L 1 i))) 388 st (nI (l.length + 1))) 389 (L 1 i) (some st)) := GXsR (GXsI (GXtR h3.1 kia) (Or.inl kst)) (Or.inl kli)
        have g2 : GX gX [389] N (sR (sI (tR M ia l.length (some (L 1 i))) 388 st (nI (l.length + 1))) 389 (L 1 i) (some st)) := GXsR (GXsI (GXtR h3.2.1 h4'.2) (Or.inl h4'.1)) (Or.inr (by decide))
        have hM3 : BDC B N (sR (sI (tR M ia l.length (some (L 1 i))) 388 st (nI (l.length + 1))) 389 (L 1 i) (some st)) rd sc tb tp L C st ia w kd J W (l ++ [i]) T := by
          have mKe : mK (sR (sI (tR M ia l.length (some (L 1 i))) 388 st (nI (l.length + 1))) 389 (L 1 i) (some st)) = mK M := rfl
          have rde : RDC (sR (sI (tR M ia l.length (some (L 1 i))) 388 st (nI (l.length + 1))) 389 (L 1 i) (some st)) rd sc tb tp T := by
            obtain ⟨r1, r2, ⟨r3, r4⟩, ⟨r5, ta, r6, r7, r8, r9, r10, r11⟩, ⟨t1, t2, t3, t4, t5, t6⟩, r13⟩ := h1
            refine ⟨r1, by simpa [ms] using r2, ⟨r3, by simpa [ms] using r4⟩, ⟨r5, ta, by simpa [ms] using r6, r7, r8, by simpa [ms] using r9, r10, r11⟩, ⟨by simpa [ms] using t1, by simpa [ms] using t2, by simpa [ms] using t3, t4, t5, t6⟩, r13⟩
          refine ⟨rde, by simpa [ms] using h2, ⟨g1, g2, h3.2.2⟩, h4', ⟨i1, by simpa [ms] using i2, i3, i4, by simp [ms], fun j c hj => ?_⟩, fun s hs => ?_, ⟨by simpa [ms] using s1, s2, s3, ?_, s5, by simpa [ms] using s6, s7, by simpa [ms] using s8, by simpa [ms] using s9, by simpa [ms] using s10⟩, ⟨by simpa [ms] using c1, by simpa [ms] using c2, by simpa [ms] using c3⟩⟩
          · by_cases e2 : j < l.length
            · rw [List.getElem?_append_left e2] at hj
              have := i6 j c hj
              simpa [ms, show ¬ j = l.length by omega] using this
            · rw [List.getElem?_append_right (by omega)] at hj
              by_cases e3 : j = l.length
              · subst e3
                simp at hj
                simp [ms, hj]
              · rw [List.getElem?_eq_none (by simp; omega)] at hj; cases hj
          · have old := h6 s hs
            by_cases e2 : s = i
            · subst e2
              rw [if_pos (List.mem_append_right _ (List.mem_singleton.2 rfl))]
              simp [ms]
            · have nl : ¬ L 1 s = L 1 i := fun e9 => by
                have u1 := (hP s hs).1.2.2.1
                have u2 := pi.1.2.2.1
                rw [e9, u2, n_eq (by omega) (by omega)] at u1
                exact e2 u1.symm
              have old' : mR (sR (sI (tR M ia l.length (some (L 1 i))) 388 st (nI (l.length + 1))) 389 (L 1 i) (some st)) 389 (L 1 s) = mR M 389 (L 1 s) := by simp [ms, nl]
              rw [old', old]
              by_cases e4 : s ∈ l
              · rw [if_pos e4, if_pos (List.mem_append_left _ e4)]
              · rw [if_neg e4, if_neg (fun y => by
                  rcases List.mem_append.1 y with y | y
                  · exact e4 y
                  · exact e2 (List.mem_singleton.1 y))]
          · have : mR (sR (sI (tR M ia l.length (some (L 1 i))) 388 st (nI (l.length + 1))) 389 (L 1 i) (some st)) 389 st = mR M 389 st := by simp [ms, show ¬ st = L 1 i from fun e9 => nst e9.symm]
            rw [this]; exact s4
        refine ⟨pi.1.2.1, h1.1, sc, by simpa [ms] using h1.2.1, h1.2.2.1.1, ?_⟩
        exact c_nx hM3.1 (fun M1 x1 x2 => hok M1 _ en (hM3.ok (x1.mono (by decide)) x2))
      · have d : (ctk C i).isSome = true ∨ i ∈ l := by
          rw [f] at tk
          by_cases d2 : i ∈ l
          · exact Or.inr d2
          · refine Or.inl ?_
            rw [if_neg d2] at tk
            cases e9 : ctk C i with
            | none => rw [e9] at tk; cases tk
            | some t => rfl
        rw [en, if_pos d]
  · exact c_rtok (α := List Nat × Tok) hR (fun M1 e q x1 x2 => ⟨by simp [bz], her M1 e (by rw [a_inp, if_neg z]; exact q) (h.er x1 x2)⟩)
end CI
