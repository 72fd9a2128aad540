/-! the class reads tokens -/
/-- memories that differ in these fields alone -/
def FR (X : List Nat) (M M1 : Mm) : Prop := mK M1 = mK M ∧ mR M1 = mR M ∧ aN M1 = aN M ∧ aI M1 = aI M ∧ aJ M1 = aJ M ∧ aR M1 = aR M ∧ ∀ f, ¬ f ∈ X → ∀ a, mI M1 f a = mI M f a ∧ mJ M1 f a = mJ M f a
theorem FR.refl {X : List Nat} {M : Mm} : FR X M M := ⟨rfl, rfl, rfl, rfl, rfl, rfl, fun _ _ _ => ⟨rfl, rfl⟩⟩
theorem FR.trans {X : List Nat} {M M1 M2 : Mm} (h : FR X M M1) (g : FR X M1 M2) : FR X M M2 := ⟨g.1.trans h.1, g.2.1.trans h.2.1, g.2.2.1.trans h.2.2.1, g.2.2.2.1.trans h.2.2.2.1, g.2.2.2.2.1.trans h.2.2.2.2.1, g.2.2.2.2.2.1.trans h.2.2.2.2.2.1, fun f hf a => ⟨(g.2.2.2.2.2.2 f hf a).1.trans (h.2.2.2.2.2.2 f hf a).1, (g.2.2.2.2.2.2 f hf a).2.trans (h.2.2.2.2.2.2 f hf a).2⟩⟩
theorem FR.mono {X Y : List Nat} {M M1 : Mm} (h : FR X M M1) (hXY : ∀ f ∈ X, f ∈ Y) : FR Y M M1 := ⟨h.1, h.2.1, h.2.2.1, h.2.2.2.1, h.2.2.2.2.1, h.2.2.2.2.2.1, fun f hf => h.2.2.2.2.2.2 f (fun q => hf (hXY f q))⟩
theorem FRsI {X : List Nat} {M M1 : Mm} {f a : Nat} {v : Int32} (h : FR X M M1) (hf : f ∈ X) : FR X M (sI M1 f a v) := h.trans ⟨rfl, rfl, rfl, rfl, rfl, rfl, fun g hg b => ⟨by simp [ms, show ¬ g = f from fun e => hg (e ▸ hf)], rfl⟩⟩
theorem FRsJ {X : List Nat} {M M1 : Mm} {f a : Nat} {v : Int64} (h : FR X M M1) (hf : f ∈ X) : FR X M (sJ M1 f a v) := h.trans ⟨rfl, rfl, rfl, rfl, rfl, rfl, fun g hg b => ⟨rfl, by simp [ms, show ¬ g = f from fun e => hg (e ▸ hf)]⟩⟩
theorem FR.kd {X : List Nat} {M M1 : Mm} (h : FR X M M1) (a : Nat) : mK M1 a = mK M a := by rw [h.1]
theorem FR.rf {X : List Nat} {M M1 : Mm} (h : FR X M M1) (f a : Nat) : mR M1 f a = mR M f a := by rw [h.2.1]
theorem FR.it {X : List Nat} {M M1 : Mm} (h : FR X M M1) {f : Nat} (hf : ¬ f ∈ X) (a : Nat) : mI M1 f a = mI M f a := (h.2.2.2.2.2.2 f hf a).1
theorem FR.lg {X : List Nat} {M M1 : Mm} (h : FR X M M1) {f : Nat} (hf : ¬ f ∈ X) (a : Nat) : mJ M1 f a = mJ M f a := (h.2.2.2.2.2.2 f hf a).2
def scX : List Nat := [257, 258, 259, 260]
/-- the class's tape -/
def TPS (M : Mm) (tb : Nat) (tp : List Nat) : Prop := mK M tb = 1 ∧ ∃ ta, mR M 0 tb = some ta ∧ isA M ta 0 ∧ aN M ta = 600 ∧ mI M 1 tb = nI tp.length ∧ tp.length ≤ 600 ∧ ∀ i c, tp[i]? = some c → c < 256 ∧ aI M ta i = sgb c
theorem TPS.fr {X : List Nat} {M M1 : Mm} {tb : Nat} {tp : List Nat} (h : TPS M tb tp) (hx : FR X M M1) (h1 : ¬ 1 ∈ X) : TPS M1 tb tp := by
  obtain ⟨a1, ta, a2, a3, a4, a5, a6, a7⟩ := h
  refine ⟨by rw [hx.kd]; exact a1, ta, by rw [hx.rf]; exact a2, ?_, by rw [hx.2.2.1]; exact a4, by rw [hx.it h1]; exact a5, a6, fun i c hi => by rw [hx.2.2.2.1]; exact a7 i c hi⟩
  unfold isA at a3 ⊢
  rw [hx.1]; exact a3
def SCN (M : Mm) (sc tb : Nat) : Prop := mK M sc = 5 ∧ mR M 256 sc = some tb
theorem SCN.fr {X : List Nat} {M M1 : Mm} {sc tb : Nat} (h : SCN M sc tb) (hx : FR X M M1) : SCN M1 sc tb := ⟨by rw [hx.kd]; exact h.1, by rw [hx.rf]; exact h.2⟩
def TKC (M : Mm) (sc : Nat) (T : Tok) : Prop := mI M 257 sc = nI (tkn T) ∧ mI M 259 sc = nI (tkp T) ∧ mI M 258 sc = nI (tkk T) ∧ (tkk T = 2 ∨ tkk T = 3 → mJ M 260 sc = w8 (tkw T)) ∧ (tkk T = 4 → mJ M 260 sc = dv (tkw T)) ∧ (tkk T = 5 → ∀ c, tkw T = [c] → mJ M 260 sc = lN c)
theorem TKC.fr {X : List Nat} {M M1 : Mm} {sc : Nat} {T : Tok} (h : TKC M sc T) (hx : FR X M M1) (h7 : ¬ 257 ∈ X) (h8 : ¬ 258 ∈ X) (h9 : ¬ 259 ∈ X) (h10 : ¬ 260 ∈ X) : TKC M1 sc T := by
  unfold TKC
  rw [hx.it h7, hx.it h8, hx.it h9, hx.lg h10]; exact h
def atA (tp : List Nat) (p : Nat) : Int32 := match tp[p]? with
  | none => -1
  | some c => nI c
section CN
variable {M M0 : Mm} {sc tb : Nat} {tp : List Nat}
theorem at_some {p c : Nat} (h : tp[p]? = some c) : atA tp p = nI c := by rw [atA, h]
theorem at_none {p : Nat} (h : tp.length ≤ p) : atA tp p = -1 := by rw [atA, List.getElem?_eq_none h]
theorem e_at {K : Int32 → Mm → Prop} {p : Nat} (hT : TPS M tb tp) (hp : p < 2000) : wp_X0_at M tb (nI p) K = K (atA tp p) M := by
  obtain ⟨a1, ta, a2, a3, a4, a5, a6, a7⟩ := hT
  have n0 : (nI p < 0) = False := eq_false (fun z => by
    have z2 : nI p < nI 0 := z
    rw [n_lt (by omega) (by omega)] at z2; omega)
  by_cases a : tp.length ≤ p
  · rw [at_none a]
    simp (disch := omega) only [wp_X0_at, bk_X0_at_25, bk_X0_at_26, n0, a1, a5, n_le, a, false_implies, not_false_eq_true, not_true, forall_const, true_and, and_true]
  · obtain ⟨c, e⟩ : ∃ c, tp[p]? = some c := ⟨_, List.getElem?_eq_getElem (by omega)⟩
    have e2 := a7 p c e
    rw [at_some e]
    simp (disch := omega) only [wp_X0_at, bk_X0_at_25, bk_X0_at_26, n0, a1, a5, n_le, a, a2, a3, a4, e2.2, sg_and c e2.1, n_clamp, n_in, false_implies, not_false_eq_true, not_true, forall_const, true_and, and_true, Option.some.injEq, exists_eq_left']
theorem e_blank {K : Int32 → Mm → Prop} {c : Nat} (hc : c < 256) : wp_X4_isBlank M (nI c) K = K (bI (isBl c)) M := by
  have q : ∀ d, d < 256 → (nI c = nI d) = (c = d) := fun d hd => n_eq (by omega) (by omega)
  have q9 : (nI c = 9) = (c = 9) := q 9 (by decide)
  have q10 : (nI c = 10) = (c = 10) := q 10 (by decide)
  have q13 : (nI c = 13) = (c = 13) := q 13 (by decide)
  have q32 : (nI c = 32) = (c = 32) := q 32 (by decide)
  simp only [wp_X4_isBlank, bk_X4_isBlank_24, bk_X4_isBlank_29, q9, q10, q13, q32]
  by_cases a : c = 9
  · simp [a, isBl, bI, bz]
  · by_cases b : c = 10
    · simp [b, isBl, bI, bz]
    · by_cases d : c = 13
      · simp [d, isBl, bI, bz]
      · by_cases e : c = 32
        · simp [e, isBl, bI, bz]
        · simp [a, b, d, e, isBl, bI, bz]
theorem c_adv0 {K : Mm → Prop} (hs : SCN M0 sc tb) (hT : TPS M0 tb tp) : ∀ (r : List Nat) (p : Nat) (M : Mm), tp.drop p = r → p ≤ tp.length → FR scX M0 M → mI M 257 sc = nI p → (∀ M1, FR scX M0 M1 → mI M1 257 sc = nI (p + (r.takeWhile isBl).length) → bk_X4_advance_44 sc K M1) → lp_X4_advance_0 sc K (r.length + 1) M := by
  intro r
  have h6 := hT.2.choose_spec.2.2.2.2.1
  induction r with
  | nil =>
    intro p M hd hp hx e7 hK
    have hl := dr_nil hd
    have hT1 := hT.fr hx (by decide)
    have hs1 := hs.fr hx
    have t1 := hT1.2.choose_spec.2.2.2.1
    have := hK M hx (by simpa using e7)
    rw [lp_X4_advance_0]
    simp (disch := omega) only [hs1.1, hs1.2, hT1.1, t1, e7, n_le, hl, not_true, false_implies, forall_const, true_and, and_true, Option.some.injEq, exists_eq_left']
    exact this
  | cons c r ih =>
    intro p M hd hp hx e7 hK
    obtain ⟨hl, hc, hd2⟩ := dr_cons hd
    have hT1 := hT.fr hx (by decide)
    have hs1 := hs.fr hx
    have t1 := hT1.2.choose_spec.2.2.2.1
    have c6 := (hT1.2.choose_spec.2.2.2.2.2 p c hc).1
    rw [List.length_cons, lp_X4_advance_0]
    simp (disch := omega) only [hs1.1, hs1.2, hT1.1, t1, e7, n_le, show ¬ tp.length ≤ p by omega, not_false_eq_true, false_implies, forall_const, true_and, and_true, Option.some.injEq, exists_eq_left', e_at hT1, at_some hc, e_blank c6, bI_0]
    refine ⟨fun z => ?_, fun z => ?_⟩
    · have := hK M hx (by rw [List.takeWhile_cons, if_neg (by rw [z]; decide)]; simpa using e7)
      exact this
    · have b : isBl c = true := by simpa using z
      have e1 : nI p + 1 = nI (p + 1) := by rw [show (1 : Int32) = nI 1 from rfl, n_add]
      rw [e1]
      refine ih (p + 1) _ hd2 (by omega) (FRsI (f := 257) hx (by decide)) (by simp [ms]) (fun M1 x1 x2 => hK M1 x1 ?_)
      rw [List.takeWhile_cons, if_pos b, List.length_cons, x2]; congr 1; omega
theorem c_run8 {K : Int32 → Mm → Prop} (hs : SCN M0 sc tb) (hT : TPS M0 tb tp) : ∀ (r : List Nat) (p : Nat) (w : List Nat) (M : Mm), tp.drop p = r → p ≤ tp.length → w.length ≤ 600 → w.length + r.length ≤ 600 → FR scX M0 M → mI M 257 sc = nI p → mI M 259 sc = mI M0 259 sc → mJ M 260 sc = w8 w → (∀ M1, FR scX M0 M1 → mI M1 257 sc = nI (p + (r.takeWhile isLow).length) → mI M1 259 sc = mI M0 259 sc → mJ M1 260 sc = w8 (w ++ r.takeWhile isLow) → K (nI (w ++ r.takeWhile isLow).length) M1) → lp_X4_scanRun_7 sc K (r.length + 1) 97 122 (nI w.length) M := by
  intro r
  have h6 := hT.2.choose_spec.2.2.2.2.1
  induction r with
  | nil =>
    intro p w M hd hp hw hwr hx e7 e9 e10 hK
    have hl := dr_nil hd
    have hT1 := hT.fr hx (by decide)
    have hs1 := hs.fr hx
    have t1 := hT1.2.choose_spec.2.2.2.1
    have := hK M hx (by simpa using e7) e9 (by simpa using e10)
    rw [lp_X4_scanRun_7]
    simp (disch := omega) only [hs1.1, hs1.2, hT1.1, t1, e7, n_le, hl, not_true, false_implies, forall_const, true_and, and_true, Option.some.injEq, exists_eq_left', bk_X4_scanRun_123]
    simpa using this
  | cons c r ih =>
    intro p w M hd hp hw hwr hx e7 e9 e10 hK
    obtain ⟨hl, hc, hd2⟩ := dr_cons hd
    have hT1 := hT.fr hx (by decide)
    have hs1 := hs.fr hx
    have t1 := hT1.2.choose_spec.2.2.2.1
    have c6 := (hT1.2.choose_spec.2.2.2.2.2 p c hc).1
    have lo : (nI c < 97) = (c < 97) := n_lt (b := 97) (by omega) (by decide)
    have hi : (122 < nI c) = (122 < c) := n_lt (a := 122) (by decide) (by omega)
    rw [List.length_cons, lp_X4_scanRun_7]
    simp (disch := omega) only [hs1.1, hs1.2, hT1.1, t1, e7, n_le, show ¬ tp.length ≤ p by omega, not_false_eq_true, not_true, false_implies, forall_const, true_and, and_true, Option.some.injEq, exists_eq_left', e_at hT1, at_some hc, lo, hi, show ((97 : Int32) = 48) = False by decide, bk_X4_scanRun_123, bk_X4_scanRun_104]
    by_cases b : isLow c = true
    · have b2 := isLow_i b
      have e1 : nI p + 1 = nI (p + 1) := by rw [show (1 : Int32) = nI 1 from rfl, n_add]
      have e2 : nI w.length + 1 = nI (w.length + 1) := by rw [show (1 : Int32) = nI 1 from rfl, n_add]
      have hn : (w ++ [c]).length = w.length + 1 := by simp
      refine ⟨fun z => by omega, fun _ => ⟨fun z => by omega, fun _ => ?_⟩⟩
      simp only [ms, e7, show (257 = 260) = False by decide, false_and, and_false, if_false, e1, e2]
      rw [← hn]
      refine ⟨hs1.1, ?_⟩
      refine ih (p + 1) (w ++ [c]) _ hd2 (by omega) (by rw [hn]; simp only [List.length_cons] at hwr; omega) (by rw [hn]; simp only [List.length_cons] at hwr; omega) (FRsI (f := 257) (a := sc) (v := nI (p + 1)) (FRsJ (f := 260) (a := sc) hx (by decide)) (by decide)) (by simp [ms]) (by simpa [ms] using e9) ?_ (fun M1 x1 x2 x9 x3 => ?_)
      · simp only [ms, show (260 = 257) = False by decide, if_true, if_false, and_self, false_and, and_false]
        rw [e10, w8_s, j_nI (by omega)]
      · have q : w ++ (c :: r).takeWhile isLow = (w ++ [c]) ++ r.takeWhile isLow := by rw [List.takeWhile_cons, if_pos b, List.append_assoc]; rfl
        rw [← q] at x3 ⊢
        refine hK M1 x1 ?_ x9 x3
        rw [List.takeWhile_cons, if_pos b, List.length_cons, x2]; congr 1; omega
    · have nb : c < 97 ∨ 122 < c := by
        refine Classical.byContradiction fun z => b ?_
        simp only [isLow, Bool.and_eq_true, decide_eq_true_eq]; omega
      have := hK M hx (by rw [List.takeWhile_cons, if_neg b]; simpa using e7) e9 (by rw [List.takeWhile_cons, if_neg b]; simpa using e10)
      rw [List.takeWhile_cons, if_neg b, List.append_nil] at this
      exact ⟨fun _ => this, fun _ => ⟨fun _ => this, fun z => by omega⟩⟩
theorem c_run10 {K : Int32 → Mm → Prop} (hs : SCN M0 sc tb) (hT : TPS M0 tb tp) : ∀ (r : List Nat) (p : Nat) (w : List Nat) (M : Mm), tp.drop p = r → p ≤ tp.length → w.length ≤ 600 → w.length + r.length ≤ 600 → FR scX M0 M → mI M 257 sc = nI p → mI M 259 sc = mI M0 259 sc → mJ M 260 sc = dv w → (∀ M1, FR scX M0 M1 → mI M1 257 sc = nI (p + (r.takeWhile isDig).length) → mI M1 259 sc = mI M0 259 sc → mJ M1 260 sc = dv (w ++ r.takeWhile isDig) → K (nI (w ++ r.takeWhile isDig).length) M1) → lp_X4_scanRun_7 sc K (r.length + 1) 48 57 (nI w.length) M := by
  intro r
  have h6 := hT.2.choose_spec.2.2.2.2.1
  induction r with
  | nil =>
    intro p w M hd hp hw hwr hx e7 e9 e10 hK
    have hl := dr_nil hd
    have hT1 := hT.fr hx (by decide)
    have hs1 := hs.fr hx
    have t1 := hT1.2.choose_spec.2.2.2.1
    have := hK M hx (by simpa using e7) e9 (by simpa using e10)
    rw [lp_X4_scanRun_7]
    simp (disch := omega) only [hs1.1, hs1.2, hT1.1, t1, e7, n_le, hl, not_true, false_implies, forall_const, true_and, and_true, Option.some.injEq, exists_eq_left', bk_X4_scanRun_123]
    simpa using this
  | cons c r ih =>
    intro p w M hd hp hw hwr hx e7 e9 e10 hK
    obtain ⟨hl, hc, hd2⟩ := dr_cons hd
    have hT1 := hT.fr hx (by decide)
    have hs1 := hs.fr hx
    have t1 := hT1.2.choose_spec.2.2.2.1
    have c6 := (hT1.2.choose_spec.2.2.2.2.2 p c hc).1
    have lo : (nI c < 48) = (c < 48) := n_lt (b := 48) (by omega) (by decide)
    have hi : (57 < nI c) = (57 < c) := n_lt (a := 57) (by decide) (by omega)
    rw [List.length_cons, lp_X4_scanRun_7]
    simp (disch := omega) only [hs1.1, hs1.2, hT1.1, t1, e7, n_le, show ¬ tp.length ≤ p by omega, not_false_eq_true, not_true, false_implies, forall_const, true_and, and_true, Option.some.injEq, exists_eq_left', e_at hT1, at_some hc, lo, hi, show ((48 : Int32) = 48) = True by decide, bk_X4_scanRun_123, bk_X4_scanRun_104]
    by_cases b : isDig c = true
    · have b2 := isDig_i b
      have e1 : nI p + 1 = nI (p + 1) := by rw [show (1 : Int32) = nI 1 from rfl, n_add]
      have e2 : nI w.length + 1 = nI (w.length + 1) := by rw [show (1 : Int32) = nI 1 from rfl, n_add]
      have hn : (w ++ [c]).length = w.length + 1 := by simp
      refine ⟨fun z => by omega, fun _ => ⟨fun z => by omega, fun _ => ?_⟩⟩
      simp only [ms, e7, show (257 = 260) = False by decide, false_and, and_false, if_false, e1, e2]
      rw [← hn]
      refine ⟨hs1.1, ?_⟩
      refine ih (p + 1) (w ++ [c]) _ hd2 (by omega) (by rw [hn]; simp only [List.length_cons] at hwr; omega) (by rw [hn]; simp only [List.length_cons] at hwr; omega) (FRsI (f := 257) (a := sc) (v := nI (p + 1)) (FRsJ (f := 260) (a := sc) hx (by decide)) (by decide)) (by simp [ms]) (by simpa [ms] using e9) ?_ (fun M1 x1 x2 x9 x3 => ?_)
      · simp only [ms, show (260 = 257) = False by decide, if_true, if_false, and_self, false_and, and_false]
        rw [e10, dv_s, show (48 : Int32) = nI 48 from rfl, n_sub (by omega), j_nI (by omega)]
      · have q : w ++ (c :: r).takeWhile isDig = (w ++ [c]) ++ r.takeWhile isDig := by rw [List.takeWhile_cons, if_pos b, List.append_assoc]; rfl
        rw [← q] at x3 ⊢
        refine hK M1 x1 ?_ x9 x3
        rw [List.takeWhile_cons, if_pos b, List.length_cons, x2]; congr 1; omega
    · have nb : c < 48 ∨ 57 < c := by
        refine Classical.byContradiction fun z => b ?_
        simp only [isDig, Bool.and_eq_true, decide_eq_true_eq]; omega
      have := hK M hx (by rw [List.takeWhile_cons, if_neg b]; simpa using e7) e9 (by rw [List.takeWhile_cons, if_neg b]; simpa using e10)
      rw [List.takeWhile_cons, if_neg b, List.append_nil] at this
      exact ⟨fun _ => this, fun _ => ⟨fun _ => this, fun z => by omega⟩⟩
theorem kv {w : List Nat} {k : Nat} {v : Int64} (hw : WW w) (hk : k < 15) (hv : v = w8 (KWS.getD k [])) : (w8 w = v) = (KWS[k]? = some w) := by
  have hm : KWS[k]? = some (KWS.getD k []) := by
    have : ∀ k, k < 15 → KWS[k]? = some (KWS.getD k []) := by decide
    exact this k hk
  have hq : WW (KWS.getD k []) := KW_ww _ (List.mem_of_getElem? hm)
  rw [hv, w8_inj hw hq, hm]
  exact propext ⟨fun e => by rw [e], fun e => (Option.some.inj e).symm⟩
theorem kmem {w : List Nat} : (w ∈ KWS) = (KWS[0]? = some w ∨ KWS[1]? = some w ∨ KWS[2]? = some w ∨ KWS[3]? = some w ∨ KWS[4]? = some w ∨ KWS[5]? = some w ∨ KWS[6]? = some w ∨ KWS[7]? = some w ∨ KWS[8]? = some w ∨ KWS[9]? = some w ∨ KWS[10]? = some w ∨ KWS[11]? = some w ∨ KWS[12]? = some w ∨ KWS[13]? = some w ∨ KWS[14]? = some w) := by
  refine propext ⟨fun h => ?_, fun h => ?_⟩
  · obtain ⟨i, hi⟩ := List.getElem?_of_mem h
    have hl : i < 15 := by
      refine Classical.byContradiction fun z => ?_
      rw [List.getElem?_eq_none (by show 15 ≤ i; omega)] at hi; cases hi
    rcases (show i = 0 ∨ i = 1 ∨ i = 2 ∨ i = 3 ∨ i = 4 ∨ i = 5 ∨ i = 6 ∨ i = 7 ∨ i = 8 ∨ i = 9 ∨ i = 10 ∨ i = 11 ∨ i = 12 ∨ i = 13 ∨ i = 14 by omega) with e | e | e | e | e | e | e | e | e | e | e | e | e | e | e <;> subst e <;> simp [hi]
  · rcases h with h | h | h | h | h | h | h | h | h | h | h | h | h | h | h <;> exact List.mem_of_getElem? h
theorem e_isKw4 {K : Int32 → Mm → Prop} {w : List Nat} (h5 : mK M sc = 5) (hw : WW w) (hv : mJ M 260 sc = w8 w) : wp_X4_isKeyword M sc K = K (bI (decide (w ∈ KWS))) M := by
  simp only [wp_X4_isKeyword, bk_X4_isKeyword_165, bk_X4_isKeyword_170, h5, hv, true_and, kv (k := 0) (v := 126922548994917) hw (by decide) (by decide), kv (k := 1) (v := 7102823) hw (by decide) (by decide), kv (k := 2) (v := 469786323827) hw (by decide) (by decide), kv (k := 3) (v := 418330731890) hw (by decide) (by decide), kv (k := 4) (v := 444301538672) hw (by decide) (by decide), kv (k := 5) (v := 504363577198) hw (by decide) (by decide), kv (k := 6) (v := 431198331257) hw (by decide) (by decide), kv (k := 7) (v := 1752132708) hw (by decide) (by decide), kv (k := 8) (v := 1785686382) hw (by decide) (by decide), kv (k := 9) (v := 1718775661) hw (by decide) (by decide), kv (k := 10) (v := 29807) hw (by decide) (by decide), kv (k := 11) (v := 131294707347319) hw (by decide) (by decide), kv (k := 12) (v := 1936292453) hw (by decide) (by decide), kv (k := 13) (v := 1937007984) hw (by decide) (by decide), kv (k := 14) (v := 418430674798) hw (by decide) (by decide)]
  simp only [kmem]
  by_cases h0 : KWS[0]? = some w
  · simp [h0, bz, bI]
  · by_cases h1 : KWS[1]? = some w
    · simp [h1, bz, bI, h0]
    · by_cases h2 : KWS[2]? = some w
      · simp [h2, bz, bI, h0, h1]
      · by_cases h3 : KWS[3]? = some w
        · simp [h3, bz, bI, h0, h1, h2]
        · by_cases h4 : KWS[4]? = some w
          · simp [h4, bz, bI, h0, h1, h2, h3]
          · by_cases h5 : KWS[5]? = some w
            · simp [h5, bz, bI, h0, h1, h2, h3, h4]
            · by_cases h6 : KWS[6]? = some w
              · simp [h6, bz, bI, h0, h1, h2, h3, h4, h5]
              · by_cases h7 : KWS[7]? = some w
                · simp [h7, bz, bI, h0, h1, h2, h3, h4, h5, h6]
                · by_cases h8 : KWS[8]? = some w
                  · simp [h8, bz, bI, h0, h1, h2, h3, h4, h5, h6, h7]
                  · by_cases h9 : KWS[9]? = some w
                    · simp [h9, bz, bI, h0, h1, h2, h3, h4, h5, h6, h7, h8]
                    · by_cases h10 : KWS[10]? = some w
                      · simp [h10, bz, bI, h0, h1, h2, h3, h4, h5, h6, h7, h8, h9]
                      · by_cases h11 : KWS[11]? = some w
                        · simp [h11, bz, bI, h0, h1, h2, h3, h4, h5, h6, h7, h8, h9, h10]
                        · by_cases h12 : KWS[12]? = some w
                          · simp [h12, bz, bI, h0, h1, h2, h3, h4, h5, h6, h7, h8, h9, h10, h11]
                          · by_cases h13 : KWS[13]? = some w
                            · simp [h13, bz, bI, h0, h1, h2, h3, h4, h5, h6, h7, h8, h9, h10, h11, h12]
                            · by_cases h14 : KWS[14]? = some w
                              · simp [h14, bz, bI, h0, h1, h2, h3, h4, h5, h6, h7, h8, h9, h10, h11, h12, h13]
                              · simp [bz, bI, h0, h1, h2, h3, h4, h5, h6, h7, h8, h9, h10, h11, h12, h13, h14]
theorem TKC_w {M1 : Mm} {p : Nat} {w : List Nat} {v : Int32} (e7 : mI M1 257 sc = nI (p + w.length)) (e9 : mI M1 259 sc = nI p) (e10 : mJ M1 260 sc = w8 w) (hv : v = nI (tkk (tokW p w))) : TKC (sI M1 258 sc v) sc (tokW p w) := by
  refine ⟨by simpa [ms, tokW, tkn] using e7, by simpa [ms, tokW, tkp] using e9, by simp [ms, hv], fun _ => by simpa [ms, tokW, tkw] using e10, fun z => ?_, fun z => ?_⟩
  · simp only [tokW, tkk] at z; split at z
    · omega
    · split at z <;> omega
  · simp only [tokW, tkk] at z; split at z
    · omega
    · split at z <;> omega
theorem c_44 {K : Mm → Prop} {p : Nat} (hs : SCN M0 sc tb) (hT : TPS M0 tb tp) (hp : p ≤ tp.length) (hx : FR scX M0 M) (e7 : mI M 257 sc = nI p) (hK : ∀ M1, FR scX M0 M1 → TKC M1 sc (tokAt p (tp.drop p)) → K M1) : bk_X4_advance_44 sc K M := by
  have h6 := hT.2.choose_spec.2.2.2.2.1
  have hxa : FR scX M0 (sI M 259 sc (nI p)) := FRsI (f := 259) hx (by decide)
  have hTa := hT.fr hxa (by decide)
  have hsa := hs.fr hxa
  have a7 : mI (sI M 259 sc (nI p)) 257 sc = nI p := by simpa [ms] using e7
  have a9 : mI (sI M 259 sc (nI p)) 259 sc = nI p := by simp [ms]
  have k5 : mK M sc = 5 := (hs.fr hx).1
  rw [bk_X4_advance_44, e7]
  refine ⟨k5, tb, hsa.2, hTa.1, ?_⟩
  rw [a7]
  generalize sI M 259 sc (nI p) = M1 at hxa hTa hsa a7 a9
  rw [e_at hTa (by omega)]
  cases hd : tp.drop p with
  | nil =>
    have hl := dr_nil hd
    rw [hd] at hK
    rw [at_none hl]
    refine ⟨fun z => absurd z (by decide), fun _ => ⟨hsa.1, ?_⟩⟩
    refine hK _ (FRsI (f := 258) hxa (by decide)) ?_
    refine ⟨by simpa [ms, tokAt, tkn] using a7, by simpa [ms, tokAt, tkp] using a9, by simp [ms, tokAt, tkk]; rfl, fun z => by simp [tokAt, tkk] at z, fun z => by simp [tokAt, tkk] at z, fun z => by simp [tokAt, tkk] at z⟩
  | cons c l =>
    obtain ⟨hl, hc, hd2⟩ := dr_cons hd
    have c6 := (hTa.2.choose_spec.2.2.2.2.2 p c hc).1
    rw [hd] at hK
    have ll : p + (l.length + 1) = tp.length := by
      have := congrArg List.length hd
      rw [List.length_drop, List.length_cons] at this; omega
    rw [at_some hc]
    have l0 : (0 ≤ nI c) = True := eq_true (by
      show nI 0 ≤ nI c
      rw [n_le (by omega) (by omega)]; omega)
    have l97 : (nI c < 97) = (c < 97) := n_lt (b := 97) (by omega) (by decide)
    have l122 : (122 < nI c) = (122 < c) := n_lt (a := 122) (by decide) (by omega)
    have l48 : (nI c < 48) = (c < 48) := n_lt (b := 48) (by omega) (by decide)
    have l57 : (57 < nI c) = (57 < c) := n_lt (a := 57) (by decide) (by omega)
    have l61 : (nI c = 61) = (c = 61) := n_eq (b := 61) (by omega) (by decide)
    have l59 : (nI c = 59) = (c = 59) := n_eq (b := 59) (by omega) (by decide)
    have l45 : (nI c = 45) = (c = 45) := n_eq (b := 45) (by omega) (by decide)
    have oth : ¬ isLow c = true → ¬ isDig c = true → bk_X4_advance_161 sc K (nI c) M1 := fun a b => by
      have tk : tokAt p (c :: l) = tokS p c := by rw [tokAt, if_neg a, if_neg b]
      rw [tk] at hK
      have go : ∀ v : Int32, (v = if c = 61 ∨ c = 59 ∨ c = 45 then 5 else 1) → bk_X4_advance_185 sc K (nI c) v (some sc) M1 := fun v hv => by
        refine ⟨sc, rfl, hsa.1, by simpa [ms] using hsa.1, ?_⟩
        refine hK _ (FRsI (f := 257) (FRsJ (f := 260) (FRsI (f := 258) hxa (by decide)) (by decide)) (by decide)) ?_
        have e1 : nI p + 1 = nI (p + 1) := by rw [show (1 : Int32) = nI 1 from rfl, n_add]
        refine ⟨by simp [ms, a7, tokS, tkn, e1], by simpa [ms, tokS, tkp] using a9, ?_, fun z => ?_, fun z => ?_, fun z d hd9 => ?_⟩
        · by_cases q : c = 61 ∨ c = 59 ∨ c = 45 <;> simp [ms, tokS, tkk, q, hv] <;> rfl
        · by_cases q : c = 61 ∨ c = 59 ∨ c = 45 <;> simp [tokS, tkk, q] at z
        · by_cases q : c = 61 ∨ c = 59 ∨ c = 45 <;> simp [tokS, tkk, q] at z
        · have e9 : c = d := by simpa [tokS, tkw] using hd9
          subst e9
          simp [ms, j_nI (show c < 2147483648 by omega)]
      rw [bk_X4_advance_161, l61, l59, l45]
      refine ⟨fun z => go 5 (by rw [if_pos (by omega)]), fun z1 => ⟨fun z => go 5 (by rw [if_pos (by omega)]), fun z2 => ⟨fun z3 => go 1 (by rw [if_neg (by omega)]), fun z => go 5 (by rw [if_pos (by omega)])⟩⟩⟩
    have dig : ¬ isLow c = true → bk_X4_advance_124 sc K (nI c) M1 := fun a => by
      rw [bk_X4_advance_124, l48, l57]
      refine ⟨fun z => oth a (fun b => by have := isDig_i b; omega), fun z => ⟨fun z2 => oth a (fun b => by have := isDig_i b; omega), fun z2 => ⟨hsa.1, hsa.1, ?_⟩⟩⟩
      have b : isDig c = true := by simp only [isDig, Bool.and_eq_true, decide_eq_true_eq]; omega
      have tk : tokAt p (c :: l) = tokN p ((c :: l).takeWhile isDig) := by rw [tokAt, if_neg a, if_pos b]
      rw [tk] at hK
      refine ⟨_, c_run10 (M0 := M1) hsa hTa (c :: l) p [] _ hd hp (by decide) (by simp; omega) (FRsJ (f := 260) FR.refl (by decide)) (by simpa [ms] using a7) (by simp [ms]) (by simp [ms, dv]) (fun M2 x1 x7 x9 x10 => ?_)⟩
      rw [List.nil_append] at x10 ⊢
      have hwl := tw_len (P := isDig) (c :: l)
      generalize (c :: l).takeWhile isDig = w at x7 x10 hK hwl
      simp only [List.length_cons] at hwl
      have w18 : (nI w.length ≤ 18) = (w.length ≤ 18) := n_le (b := 18) (by omega) (by decide)
      rw [w18]
      have fin : ∀ v : Int32, v = nI (tkk (tokN p w)) → bk_X4_advance_155 sc K v (some sc) M2 := fun v hv => by
        refine ⟨sc, rfl, (hsa.fr x1).1, hK _ (FRsI (f := 258) (hxa.trans x1) (by decide)) ?_⟩
        refine ⟨by simpa [ms, tokN, tkn] using x7, ?_, by simp [ms, hv], fun z => ?_, fun _ => by simpa [ms, tokN, tkw] using x10, fun z => ?_⟩
        · simp only [ms, show (259 = 258) = False by decide, false_and, if_false]
          rw [x9]; exact a9
        · simp only [tokN, tkk] at z; split at z <;> omega
        · simp only [tokN, tkk] at z; split at z <;> omega
      refine ⟨fun q => fin 4 ?_, fun q => fin 1 ?_⟩
      · simp only [tokN, tkk, if_neg (show ¬ 18 < w.length by omega)]; rfl
      · simp only [tokN, tkk, if_pos (show 18 < w.length by omega)]; rfl
    rw [l0, l97, l122]
    refine ⟨fun _ => ⟨fun z => dig (fun a => by have := isLow_i a; omega), fun z => ⟨fun z2 => dig (fun a => by have := isLow_i a; omega), fun z2 => ⟨hsa.1, hsa.1, ?_⟩⟩⟩, fun z => absurd trivial z⟩
    have a : isLow c = true := by simp only [isLow, Bool.and_eq_true, decide_eq_true_eq]; omega
    have tk : tokAt p (c :: l) = tokW p ((c :: l).takeWhile isLow) := by rw [tokAt, if_pos a]
    rw [tk] at hK
    refine ⟨_, c_run8 (M0 := M1) hsa hTa (c :: l) p [] _ hd hp (by decide) (by simp; omega) (FRsJ (f := 260) FR.refl (by decide)) (by simpa [ms] using a7) (by simp [ms]) (by simp [ms, w8]) (fun M2 x1 x7 x9 x10 => ?_)⟩
    rw [List.nil_append] at x10 ⊢
    have hwl := tw_len (P := isLow) (c :: l)
    have hwa := tkw_all (P := isLow) (c :: l)
    have hw1 : 1 ≤ ((c :: l).takeWhile isLow).length := by rw [List.takeWhile_cons, if_pos a]; simp
    generalize (c :: l).takeWhile isLow = w at x7 x10 hK hwl hwa hw1
    simp only [List.length_cons] at hwl
    have w8' : (nI w.length ≤ 8) = (w.length ≤ 8) := n_le (b := 8) (by omega) (by decide)
    have b9 : mI M2 259 sc = nI p := x9.trans a9
    have fin : ∀ v : Int32, v = nI (tkk (tokW p w)) → bk_X4_advance_118 sc K v (some sc) M2 := fun v hv => ⟨sc, rfl, (hsa.fr x1).1, hK _ (FRsI (f := 258) (hxa.trans x1) (by decide)) (TKC_w x7 b9 x10 hv)⟩
    rw [w8']
    refine ⟨fun q => ⟨(hsa.fr x1).1, ?_⟩, fun q => fin 1 ?_⟩
    · have ww : WW w := ⟨hw1, q, fun d hd => isLow_i (hwa d hd)⟩
      rw [e_isKw4 (hsa.fr x1).1 ww x10, bI_0]
      refine ⟨fun z => fin 3 ?_, fun z => fin 2 ?_⟩
      · have nk : ¬ w ∈ KWS := of_decide_eq_false z
        simp only [tokW, tkk, if_neg (show ¬ 8 < w.length by omega), if_neg nk]; rfl
      · have yk : w ∈ KWS := by
          have z2 : decide (w ∈ KWS) = true := by simpa using z
          exact of_decide_eq_true z2
        simp only [tokW, tkk, if_neg (show ¬ 8 < w.length by omega), if_pos yk]; rfl
    · simp only [tokW, tkk, if_pos (show 8 < w.length by omega)]; rfl
theorem c_adv {K : Mm → Prop} {p : Nat} (hs : SCN M sc tb) (hT : TPS M tb tp) (hp : p ≤ tp.length) (e7 : mI M 257 sc = nI p) (hK : ∀ M1, FR scX M M1 → TKC M1 sc (a_tok tp p) → K M1) : wp_X4_advance M sc K := ⟨_, c_adv0 hs hT (tp.drop p) p M rfl hp FR.refl e7 (fun M1 x1 x7 => c_44 hs hT (blk_le hp) x1 x7 hK)⟩
end CN
