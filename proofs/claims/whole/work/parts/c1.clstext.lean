/-! the class reads texts -/
section CU
variable {B N M : Mm} {rd sc tb st ia J W : Nat} {tp w : List Nat} {L : Nat → Nat → Nat} {C : Cfg} {T : Tok}
theorem PGI.ok {M1 : Mm} {T1 : Tok} (h : PGI B M rd sc tb tp L C J W T) (x : FR okX M M1) (hr : RDC M1 rd sc tb tp T1) : PGI B M1 rd sc tb tp L C J W T1 := by
  obtain ⟨h1, h2, h3, ⟨hG, h12, hP⟩, h5, h6, h7, h8, h9, h10, h11⟩ := h
  have g : GX gX [389] M M1 := GX.fr x (by decide)
  refine ⟨hr, by rw [x.rf]; exact h2, h3.trans (GX.fr x (by decide)), ⟨CGR_gx g hG, h12, fun s hs => (hP s hs).gx g hG.2.2.2.2.2.2.2.1.1⟩, fun s hs => by rw [x.rf]; exact h5 s hs, fun q hq => by rw [x.2.2.2.2.1]; exact h6 q hq, ⟨by rw [x.it (by decide)]; exact h7.1, by rw [x.it (by decide)]; exact h7.2.1, by rw [x.it (by decide)]; exact h7.2.2⟩, ⟨by rw [x.it (by decide)]; exact h8.1, by rw [x.it (by decide)]; exact h8.2.1, by rw [x.it (by decide)]; exact h8.2.2⟩, h9, h10, h11⟩
theorem e_isAl {K : Int32 → Mm → Prop} {g : Nat} (hG : CGR M L (cn C)) (hS : SPN M L C) (hg : g < 4) : wp_X1_isAligned M (L 0 1) (nI g) K = K (bI (csp C g).isSome) M := by
  have iA : isA M (L 0 3) 2 := ⟨by rw [hG.2.2.2.2.2.2.2.2.1.1]; decide, by rw [hG.2.2.2.2.2.2.2.2.1.1]⟩
  have n0 : (nI g < 0) = False := eq_false (fun z => by
    have z2 : nI g < nI 0 := z
    rw [n_lt (by omega) (by omega)] at z2; omega)
  have s := hS g hg
  have key : (aJ M (L 0 3) g = -1) = (csp C g = none) := by
    cases e : csp C g with
    | none => rw [e] at s; exact propext ⟨fun _ => rfl, fun _ => s.1⟩
    | some v =>
      rw [e] at s
      have s1 : aJ M (L 0 3) g = v := s.1
      exact propext ⟨fun y => absurd (s1.symm.trans y) (s.2 v rfl), fun y => by cases y⟩
  simp (disch := omega) only [wp_X1_isAligned, bk_X1_isAligned_30, bk_X1_isAligned_31, n0, hG.1, hG.2.2.2.2.1, iA, hG.2.2.2.2.2.2.2.2.1.2, n_le, show ¬ 4 ≤ g by omega, n_in, n_clamp, key, false_implies, not_false_eq_true, forall_const, true_and, Option.some.injEq, exists_eq_left']
  cases e : csp C g with
  | none => simp [bz, bI]
  | some v => simp [bz, bI]
theorem PS_tJ {s a j : Nat} {v : Int64} (h : PS M L C s) (ka : mK M a = 418) : PS (tJ M a j v) L C s := by
  obtain ⟨p1, p2, p3, p4, p5, p6, p7, p8, p9⟩ := h
  refine ⟨p1, p2, p3, p4, p5, p6, fun z => ?_, p8, p9⟩
  obtain ⟨q, qq⟩ := p7 z
  have ne : ¬ L 5 s = a := fun e => by
    have := q.2.2.2.2.2.2.2.2.2.2.2.1
    rw [e, ka] at this; exact absurd this (by decide)
  exact ⟨q, fun k hk => ⟨(qq k hk).1, by simpa [ms, ne] using (qq k hk).2.1, (qq k hk).2.2⟩⟩
theorem c_alg {K : Int32 → Mm → Prop} (h : PGI B M rd sc tb tp L C J W T) (hok : ∀ M1 C1 T1, a_alg tp C (a_nx tp T) = .ok (C1, T1) → PGI B M1 rd sc tb tp L C1 J W T1 → K 1 M1) (her : ∀ M1 e, a_alg tp C (a_nx tp T) = .error e → ERR B M1 rd e → K 0 M1) : wp_X7_readAlign M rd K := by
  have hR := h.1
  refine ⟨hR.1, sc, hR.2.1, hR.2.2.1.1, c_nx hR (fun M1 x1 x2 => ⟨x2.1, ?_⟩)⟩
  have h1 := h.ok (x1.mono (by decide)) x2
  generalize a_nx tp T = T1 at x2 h1 hok her
  have nb : ∀ n, n ≤ BIG → (lN n < 0) = (n < 0) := hloL
  refine c_isn x2 (fun M2 k4 q1 q2 y1 y2 y3 => ⟨fun _ => ⟨y2.1, L 0 1, ?_⟩, fun y => absurd y (by decide)⟩) (fun M2 k4 q y1 y2 => ⟨fun y => absurd rfl y, fun _ => ?_⟩) (fun M2 e k4 q y1 y2 => ⟨fun y => absurd rfl y, fun _ => ?_⟩)
  · have hd := x2.2.2.2.2.2.1.num k4
    have g3 : dn (tkw T1) ≤ 3 := by
      have q9 : lN (dn (tkw T1)) ≤ lN 3 := q2
      rw [hhiN (hi := 3) (by decide) _ hd] at q9; exact q9
    have h2 := h1.ok (y1.mono (by decide)) y2
    have en : a_alg tp C T1 = if (csp C (dn (tkw T1))).isSome = true then flt 5 T1 else a_alg2 tp C (dn (tkw T1)) (a_nx tp T1) := by rw [a_alg, if_pos k4, if_pos g3]
    refine ⟨h2.2.1, h2.2.2.2.1.1.1, ?_⟩
    rw [y3, j32 (by omega), e_isAl h2.2.2.2.1.1 h2.2.2.2.2.2.1 (by omega), bI_0]
    refine ⟨fun z => ⟨y2.1, sc, y2.2.1, y2.2.2.1.1, ?_⟩, fun z => ⟨y2.1, ?_⟩⟩
    · rw [if_neg (by rw [z]; decide)] at en
      refine c_nx y2 (fun M3 z1 z2 => ⟨z2.1, ?_⟩)
      have h3 := h2.ok (z1.mono (by decide)) z2
      refine c_num (lo := 0) (hi := BIG) z2 hloL hhiB (fun M4 v T4 p u1 u2 u3 => ⟨fun _ => ⟨u2.1, L 0 1, ?_⟩, fun y => absurd y (by decide)⟩) (fun M4 e p u1 u2 => ⟨fun y => absurd rfl y, fun _ => her M4 e (by rw [en, a_alg2, p]) (h3.er u1 u2)⟩)
      have h4 := h3.ok u1 u2
      have hG := h4.2.2.2.1.1
      have k3 := hG.2.2.2.2.2.2.2.2.1.1
      have iA : isA M4 (L 0 3) 2 := ⟨by rw [k3]; decide, by rw [k3]⟩
      have vb := num_ok p
      refine ⟨h4.2.1, hG.1, L 0 3, hG.2.2.2.2.1, iA, by rw [hG.2.2.2.2.2.2.2.2.1.2]; exact n_in (by omega) (by decide), ?_⟩
      rw [n_clamp (by omega), u3]
      have h5 : PGI B (tJ M4 (L 0 3) (dn (tkw T1)) (lN v)) rd sc tb tp L (a_addg C (dn (tkw T1)) (lN v)) J W T4 := by
        obtain ⟨a1, a2, a3, ⟨aG, a12, aP⟩, a5, a6, a7, a8, a9, a10, a11⟩ := h4
        refine ⟨a1, a2, GXtJ a3 a10.2.2.1, ⟨aG, a12, fun s hs => PS_tJ (aP s hs) k3⟩, a5, fun g hg => ?_, a7, a8, a9, a10, a11⟩
        have : csp (a_addg C (dn (tkw T1)) (lN v)) g = if g = dn (tkw T1) then some (lN v) else csp C g := rfl
        rw [this]
        by_cases e : g = dn (tkw T1)
        · subst e
          rw [if_pos rfl]
          refine ⟨by simp [ms], fun v' hv' hm => ?_⟩
          cases hv'
          have h9 : v ≤ 999999999999999999 := vb.2
          have e1 : (lN v).toInt = (v : Int) := pf_lI (by omega)
          rw [hm] at e1
          have e2 : (-1 : Int64).toInt = -1 := by decide
          rw [e2] at e1; omega
        · rw [if_neg e]
          exact ⟨by simpa [ms, e] using (a6 g hg).1, (a6 g hg).2⟩
      refine c_sg (c := 59) h5.1 (by decide) (fun M6 T6 o w1 w2 => ⟨by simp [bz], hok M6 _ T6 (by rw [en, a_alg2, p]; simp only [o]; rfl) (h5.ok w1 w2)⟩) (fun M6 e o w1 w2 => ⟨by simp [bz], her M6 e (by rw [en, a_alg2, p]; simp only [o]) (h5.er w1 w2)⟩)
    · have sm : (csp C (dn (tkw T1))).isSome = true := by
        cases e9 : (csp C (dn (tkw T1))).isSome with
        | true => rfl
        | false => exact absurd e9 z
      rw [if_pos sm] at en
      exact c_ref (n := 5) y2 (fun M3 z1 z2 => ⟨by simp [bz], her M3 _ en (h2.er (z1.mono (by decide)) z2)⟩)
  · have hd := x2.2.2.2.2.2.1.num k4
    refine her M2 (5, tkp T1) ?_ (h1.er y1 y2)
    rw [a_alg, if_pos k4, if_neg (fun g3 => ?_)]
    · rfl
    · rcases q with q | q
      · rw [hloL _ hd] at q; omega
      · have q9 : ¬ lN (dn (tkw T1)) ≤ lN 3 := q
        rw [hhiN (hi := 3) (by decide) _ hd] at q9; exact q9 g3
  · refine her M2 e ?_ (h1.er y1 y2)
    rw [a_alg, if_neg k4]; cases q; rfl
theorem beg_ok {T1 : Tok} (h : a_beg tp false C T = .ok T1) : a_strm tp J W C T = a_strm2 tp J W C (tkw T) T1 := by
  unfold a_beg at h
  unfold a_strm
  by_cases k3 : tkk T = 3
  · rw [if_pos k3] at h ⊢
    cases e : a_find C (tkw T) with
    | some i => rw [e] at h; cases h
    | none =>
      rw [e] at h
      simp only [Bool.false_eq_true, false_or] at h ⊢
      by_cases c : cn C = 12
      · rw [if_pos c] at h; cases h
      · rw [if_neg c] at h
        rw [if_neg c, h]
  · rw [if_neg k3] at h; cases h
theorem beg_er {e : Flt} (h : a_beg tp false C T = .error e) : a_strm tp J W C T = .error e := by
  unfold a_beg at h
  unfold a_strm
  by_cases k3 : tkk T = 3
  · rw [if_pos k3] at h ⊢
    cases e9 : a_find C (tkw T) with
    | some i => rw [e9] at h; cases h; rfl
    | none =>
      rw [e9] at h
      simp only [Bool.false_eq_true, false_or] at h ⊢
      by_cases c : cn C = 12
      · rw [if_pos c] at h
        rw [if_pos c]; cases h; rfl
      · rw [if_neg c] at h
        rw [if_neg c, h]
  · rw [if_neg k3] at h
    rw [if_neg k3]; cases h; rfl
theorem beg_many {r : Except Flt Tok} (h : a_beg tp true C T = r) (k14 : ¬ isKw 14 T = true) (k0 : ¬ tkk T = 0) : ∃ e, r = .error e ∧ a_text tp 0 (decide (0 < 20)) J W C T = .error e := by
  unfold a_beg at h
  by_cases k3 : tkk T = 3
  · rw [if_pos k3] at h
    cases e9 : a_find C (tkw T) with
    | some i => rw [e9] at h; exact ⟨_, h.symm, by rw [a_text, if_neg k0, if_neg k14, if_pos k3, e9]; rfl⟩
    | none =>
      rw [e9] at h
      simp only [true_or, if_true] at h
      exact ⟨_, h.symm, by rw [a_text, if_neg k0, if_neg k14, if_pos k3, e9]; rfl⟩
  · rw [if_neg k3] at h
    exact ⟨_, h.symm, by rw [a_text, if_neg k0, if_neg k14, if_neg k3]; rfl⟩
def HTC (B : Mm) (rd sc tb : Nat) (tp : List Nat) (L : Nat → Nat → Nat) (K : Int32 → Mm → Prop) (r : Except Flt Cfg) : Prop := (∀ M1 L1 C1 J1 W1 T1, r = .ok C1 → (∀ s, L1 0 s = L 0 s) → PGI B M1 rd sc tb tp L1 C1 J1 W1 T1 → K 1 M1) ∧ ∀ M1 e, r = .error e → ERR B M1 rd e → K 0 M1
theorem c_txt {K : Int32 → Mm → Prop} : ∀ (n J W : Nat) (L : Nat → Nat → Nat) (C : Cfg) (T : Tok) (M : Mm), n ≤ 20 → PGI B M rd sc tb tp L C J W T → J ≤ 3 → W ≤ 3 → HTC B rd sc tb tp L K (a_text tp n (decide (n < 20)) J W C T) → lp_X7_readText_9 rd K (n + 2) (nI (20 - n)) M := by
  intro n
  induction n with
  | zero =>
    intro J W L C T M hn h hJ hW hK
    have hR := h.1
    have k0 : (mI M 258 sc = 0) = (tkk T = 0) := hR.2.2.2.2.1.k hR.2.2.2.2.2.1 (d := 0) (by decide)
    rw [lp_X7_readText_9]
    refine ⟨fun z => absurd z (by decide), fun _ => ⟨fun z => absurd z (by decide), fun _ => ⟨hR.1, sc, hR.2.1, hR.2.2.1.1, ?_⟩⟩⟩
    rw [k0]
    refine ⟨fun z => ⟨fun y => absurd rfl y, fun _ => ⟨hR.1, ?_⟩⟩, fun z => hK.1 M L C J W T (by rw [a_text, if_pos z]) (fun _ => rfl) h⟩
    rw [e_ckw (k := 14) hR (by decide) (by decide), bI_0]
    refine ⟨fun k14 => ⟨hR.1, ?_⟩, fun k14 => ⟨fun y => absurd y (by decide), fun _ => ⟨hR.1, ?_⟩⟩⟩
    · have n14 : ¬ isKw 14 T = true := by rw [k14]; decide
      obtain ⟨e, e1, e2⟩ := beg_many (J := J) (W := W) (rfl : a_beg tp true C T = a_beg tp true C T) n14 z
      refine c_beg (many := true) h (fun M1 st ia kd T1 q _ _ _ _ => ?_) (fun M1 e9 q x1 => ⟨fun _ => ?_, fun a y => (by cases y)⟩)
      · rw [e1] at q; cases q
      · rw [e1] at q; cases q
        exact hK.2 M1 _ e2 x1
    · have y14 : isKw 14 T = true := by simpa using k14
      exact c_ref (n := 6) hR (fun M1 x1 x2 => ⟨by simp [bz], hK.2 M1 _ (by rw [a_text, if_neg z, if_pos y14]; rfl) (h.er (x1.mono (by decide)) x2)⟩)
  | succ n ih =>
    intro J W L C T M hn h hJ hW hK
    have hR := h.1
    have hT9 := hR.2.2.2.2.2
    have h6 := hR.2.2.2.1.2.choose_spec.2.2.2.2.1
    have k0 : (mI M 258 sc = 0) = (tkk T = 0) := hR.2.2.2.2.1.k hR.2.2.2.2.2.1 (d := 0) (by decide)
    have t20 : ¬ nI (20 - (n + 1)) = 20 := fun e => by
      rw [show (20 : Int32) = nI 20 from rfl, n_eq (by omega) (by omega)] at e; omega
    have t0 : (nI (20 - (n + 1)) ≤ 0) = (n + 1 = 20) := by
      rw [show (0 : Int32) = nI 0 from rfl, n_le (by omega) (by omega)]
      exact propext ⟨fun e => by omega, fun e => by omega⟩
    have tl : ¬ (20 : Int32) < nI (20 - (n + 1)) := fun e => by
      have e2 : nI 20 < nI (20 - (n + 1)) := e
      rw [n_lt (by omega) (by omega)] at e2; omega
    have nx : ∀ J1 W1 L1 C1 T1 M1, a_stm tp J W C T = .ok (J1, W1, C1, T1) → ¬ (decide (n + 1 < 20) = true ∧ tkk T = 0) → (∀ s, L1 0 s = L 0 s) → PGI B M1 rd sc tb tp L1 C1 J1 W1 T1 → lp_X7_readText_9 rd K (n + 2) (nI (20 - (n + 1)) + 1) M1 := fun J1 W1 L1 C1 T1 M1 q z0 hL hp => by
      rw [a_text, if_neg z0, q] at hK
      have jw := stm_JW q hJ hW
      rw [show nI (20 - (n + 1)) + 1 = nI (20 - n) by rw [show (1 : Int32) = nI 1 from rfl, n_add]; congr 1; omega]
      refine ih J1 W1 L1 C1 T1 M1 (by omega) hp jw.1 jw.2 ?_
      rw [show decide (n < 20) = true from decide_eq_true (by omega)]
      exact ⟨fun M2 L2 C2 J2 W2 T2 a b c => hK.1 M2 L2 C2 J2 W2 T2 a (fun s => (b s).trans (hL s)) c, hK.2⟩
    have go : ¬ (decide (n + 1 < 20) = true ∧ tkk T = 0) → bk_X7_readText_31 rd (lp_X7_readText_9 rd K (n + 2)) K (nI (20 - (n + 1))) M := fun z0 => by
      refine ⟨fun _ => ⟨hR.1, ?_⟩, fun y => absurd y t20⟩
      have er : ∀ M1 e, a_stm tp J W C T = .error e → ERR B M1 rd e → K 0 M1 := fun M1 e q x1 => by
        rw [a_text, if_neg z0, q] at hK
        exact hK.2 M1 e rfl x1
      rw [e_ckw (k := 14) hR (by decide) (by decide), bI_0]
      refine ⟨fun k14 => ⟨hR.1, ?_⟩, fun k14 => ⟨fun _ => ⟨hR.1, ?_⟩, fun y => absurd rfl y⟩⟩
      · have n14 : ¬ isKw 14 T = true := by rw [k14]; decide
        have es : a_stm tp J W C T = a_strm tp J W C T := by rw [a_stm, if_neg n14]
        refine c_beg (many := false) h (fun M1 st ia kd T1 q k3 lt12 x1 x2 => ⟨fun y => (by cases y), fun a9 y => ⟨x1.1.1, ?_⟩⟩) (fun M1 e q x1 => ⟨fun _ => er M1 e (by rw [es]; exact beg_er q) x1, fun a y => (by cases y)⟩)
        have e2 : a_stm tp J W C T = a_strm2 tp J W C (tkw T) T1 := by rw [es]; exact beg_ok q
        have hwt := h.2.2.2.2.2.2.2.2.2.2.2.1
        refine c_kind x1 x2 hwt hJ hW ⟨fun M2 x v T2 T3 p1 p2 hf => ⟨fun _ => ⟨hf.1.1, L 0 1, hf.2.1, hf.2.2.1.cgr.1, ?_⟩, fun y => absurd y (by decide)⟩, fun M2 e p x3 => ⟨fun y => absurd rfl y, fun _ => er M2 e ?_ x3⟩⟩
        · have bo := body_ok h6 x1.1.2.2.2.2.2 p1
          refine c_addS h hf lt12 (hT9.1.ww (Or.inr k3)) bo.1 bo.2 (fun M3 L3 hL hp => nx _ _ L3 _ T3 M3 ?_ z0 hL hp)
          rw [e2, a_strm2, p1]
          simp only [p2]
        · rw [e2, a_strm2]
          rcases p with p | ⟨y, p1, p2⟩
          · rw [p]
          · rw [p1]
            simp only [p2]
      · have y14 : isKw 14 T = true := by simpa using k14
        refine c_alg h (fun M1 C1 T1 q x1 => ⟨fun _ => nx J W L C1 T1 M1 (by rw [a_stm, if_pos y14, q]) z0 (fun _ => rfl) x1, fun y => absurd y (by decide)⟩) (fun M1 e q x1 => ⟨fun y => absurd rfl y, fun _ => er M1 e (by rw [a_stm, if_pos y14, q]) x1⟩)
    rw [lp_X7_readText_9]
    refine ⟨fun z => absurd z tl, fun _ => ?_⟩
    rw [t0]
    refine ⟨fun z => go (fun y => by have := of_decide_eq_true y.1; omega), fun z => ⟨hR.1, sc, hR.2.1, hR.2.2.1.1, ?_⟩⟩
    rw [k0]
    exact ⟨fun z2 => go (fun y => z2 y.2), fun z2 => hK.1 M L C J W T (by rw [a_text, if_pos ⟨decide_eq_true (by omega), z2⟩]) (fun _ => rfl) h⟩
end CU
