/-! the class reads words, numbers, signs -/
def okX : List Nat := [257, 258, 259, 260, 454]
def rdX : List Nat := [257, 258, 259, 260, 450, 451, 454]
def RDC (M : Mm) (rd sc tb : Nat) (tp : List Nat) (T : Tok) : Prop := mK M rd = 8 ∧ mR M 448 rd = some sc ∧ SCN M sc tb ∧ TPS M tb tp ∧ TKC M sc T ∧ TT tp T
/-- a fault as the reader keeps it -/
def FLT (M : Mm) (rd : Nat) (e : Flt) : Prop := mI M 450 rd = nI e.1 ∧ mI M 451 rd = nI e.2 ∧ mK M rd = 8
section CQ
variable {M : Mm} {rd sc tb : Nat} {tp : List Nat} {T : Tok}
theorem RDC.fr {X : List Nat} {M M1 : Mm} (h : RDC M rd sc tb tp T) (hx : FR X M M1) (h1 : ¬ 1 ∈ X) (h7 : ¬ 257 ∈ X) (h8 : ¬ 258 ∈ X) (h9 : ¬ 259 ∈ X) (h10 : ¬ 260 ∈ X) : RDC M1 rd sc tb tp T := ⟨by rw [hx.kd]; exact h.1, by rw [hx.rf]; exact h.2.1, h.2.2.1.fr hx, h.2.2.2.1.fr hx h1, h.2.2.2.2.1.fr hx h7 h8 h9 h10, h.2.2.2.2.2⟩
theorem c_nx {K : Mm → Prop} (h : RDC M rd sc tb tp T) (hK : ∀ M1, FR scX M M1 → RDC M1 rd sc tb tp (a_nx tp T) → K M1) : wp_X4_advance M sc K := by
  have h6 := h.2.2.2.1.2.choose_spec.2.2.2.2.1
  refine c_adv h.2.2.1 h.2.2.2.1 h.2.2.2.2.2.2 h.2.2.2.2.1.1 (fun M1 x1 x2 => hK M1 x1 ⟨by rw [x1.kd]; exact h.1, by rw [x1.rf]; exact h.2.1, h.2.2.1.fr x1, h.2.2.2.1.fr x1 (by decide), x2, TT_nx h6 h.2.2.2.2.2⟩)
theorem c_ref {K : Int32 → Mm → Prop} {n : Nat} (h : RDC M rd sc tb tp T) (hK : ∀ M1, FR [450, 451] M M1 → FLT M1 rd (n, tkp T) → K 0 M1) : wp_X7_refuse M rd (nI n) K := by
  refine ⟨h.1, sc, h.2.1, h.2.2.1.1, ?_⟩
  refine hK _ (FRsI (FRsI FR.refl (by decide)) (by decide)) ⟨by simp [ms], ?_, h.1⟩
  simpa [ms] using h.2.2.2.2.1.2.1
theorem TKC.k {M : Mm} (h : TKC M sc T) (hw : TW T) {d : Nat} (hd : d ≤ 5) : (mI M 258 sc = nI d) = (tkk T = d) := by
  have := hw.2.2.2.2.2.2.2.1
  rw [h.2.2.1, n_eq (by omega) (by omega)]
theorem c_rtok {K : Int32 → Mm → Prop} {α : Type} (h : RDC M rd sc tb tp T) (hK : ∀ M1 e, (a_mis T : Except Flt α) = .error e → FR rdX M M1 → FLT M1 rd e → K 0 M1) : wp_X7_refuseToken M rd K := by
  have k1 : (mI M 258 sc = 1) = (tkk T = 1) := h.2.2.2.2.1.k h.2.2.2.2.2.1 (d := 1) (by decide)
  refine ⟨h.1, sc, h.2.1, h.2.2.1.1, ?_⟩
  rw [k1]
  refine ⟨fun z => ⟨rd, rfl, h.1, ?_⟩, fun z => ⟨rd, rfl, h.1, ?_⟩⟩
  · exact c_ref (n := 2) h (fun M1 x1 x2 => ⟨by simp [bz], hK M1 _ (by rw [a_mis, if_neg z]) (x1.mono (by decide)) x2⟩)
  · exact c_ref (n := 1) h (fun M1 x1 x2 => ⟨by simp [bz], hK M1 _ (by rw [a_mis, if_pos z]) (x1.mono (by decide)) x2⟩)
theorem e_ckw {K : Int32 → Mm → Prop} {k : Nat} {v : Int64} (h : RDC M rd sc tb tp T) (hk : k < 15) (hv : v = w8 (KWS.getD k [])) : wp_X7_isKeyword M rd v K = K (bI (isKw k T)) M := by
  have hw := h.2.2.2.2.2.1
  have k2 : (mI M 258 sc = 2) = (tkk T = 2) := h.2.2.2.2.1.k hw (d := 2) (by decide)
  simp only [wp_X7_isKeyword, bk_X7_isKeyword_27, bk_X7_isKeyword_28, h.1, h.2.1, h.2.2.1.1, k2, true_and, Option.some.injEq, exists_eq_left']
  by_cases a : tkk T = 2
  · rw [h.2.2.2.2.1.2.2.2.1 (Or.inl a), kv (hw.ww (Or.inl a)) hk hv]
    by_cases b : KWS[k]? = some (tkw T) <;> simp [a, b, isKw, bI, bz]
  · simp [a, isKw, bI, bz]
theorem c_kw {K : Int32 → Mm → Prop} {k : Nat} {v : Int64} (h : RDC M rd sc tb tp T) (hk : k < 15) (hv : v = w8 (KWS.getD k [])) (hok : ∀ M1 T1, a_kw tp k T = .ok T1 → FR okX M M1 → RDC M1 rd sc tb tp T1 → K 1 M1) (her : ∀ M1 e, a_kw tp k T = .error e → FR rdX M M1 → FLT M1 rd e → K 0 M1) : wp_X7_readKeyword M rd v K := by
  refine ⟨h.1, ?_⟩
  rw [e_ckw h hk hv, bI_0]
  refine ⟨fun z => ⟨h.1, sc, h.2.1, h.2.2.1.1, ?_⟩, fun z => ⟨h.1, ?_⟩⟩
  · have y : isKw k T = true := by simpa using z
    exact c_nx h (fun M1 x1 x2 => hok M1 _ (by rw [a_kw, if_pos y]) (x1.mono (by decide)) x2)
  · have y : ¬ isKw k T = true := by rw [z]; decide
    exact c_rtok (α := Tok) h (fun M1 e q x1 x2 => ⟨by simp [bz], her M1 e (by rw [a_kw, if_neg y]; exact q) x1 x2⟩)
theorem e_csg {K : Int32 → Mm → Prop} {c : Nat} (h : RDC M rd sc tb tp T) (hc : c = 61 ∨ c = 59 ∨ c = 45) : wp_X7_isSign M rd (nI c) K = K (bI (isSg c T)) M := by
  have hw := h.2.2.2.2.2.1
  have k5 : (mI M 258 sc = 5) = (tkk T = 5) := h.2.2.2.2.1.k hw (d := 5) (by decide)
  have ec : (nI c).toInt64 = lN c := j_nI (by omega)
  simp only [wp_X7_isSign, bk_X7_isSign_28, bk_X7_isSign_29, h.1, h.2.1, h.2.2.1.1, k5, ec, true_and, Option.some.injEq, exists_eq_left']
  by_cases a : tkk T = 5
  · have tc := h.2.2.2.2.1.2.2.2.2.2 a
    have key : (mJ M 260 sc = lN c) = (tkw T = [c]) := by
      refine propext ⟨fun e => ?_, fun e => tc c e⟩
      rcases hw.2.2.2.2.2.2.1 a with d | d | d <;> rw [tc _ d] at e <;> rcases hc with q | q | q <;> subst q <;> first | exact d | exact absurd e (by decide)
    rw [key]
    by_cases b : tkw T = [c] <;> simp [a, b, isSg, bI, bz]
  · simp [a, isSg, bI, bz]
theorem c_sg {K : Int32 → Mm → Prop} {c : Nat} (h : RDC M rd sc tb tp T) (hc : c = 61 ∨ c = 59 ∨ c = 45) (hok : ∀ M1 T1, a_sg tp c T = .ok T1 → FR okX M M1 → RDC M1 rd sc tb tp T1 → K 1 M1) (her : ∀ M1 e, a_sg tp c T = .error e → FR rdX M M1 → FLT M1 rd e → K 0 M1) : wp_X7_readSign M rd (nI c) K := by
  refine ⟨h.1, ?_⟩
  rw [e_csg h hc, bI_0]
  refine ⟨fun z => ⟨h.1, sc, h.2.1, h.2.2.1.1, ?_⟩, fun z => ⟨h.1, ?_⟩⟩
  · have y : isSg c T = true := by simpa using z
    exact c_nx h (fun M1 x1 x2 => hok M1 _ (by rw [a_sg, if_pos y]) (x1.mono (by decide)) x2)
  · have y : ¬ isSg c T = true := by rw [z]; decide
    exact c_rtok (α := Tok) h (fun M1 e q x1 x2 => ⟨by simp [bz], her M1 e (by rw [a_sg, if_neg y]; exact q) x1 x2⟩)
theorem c_isn {K : Int32 → Mm → Prop} {p1 p2 : Int64} (h : RDC M rd sc tb tp T) (hok : ∀ M1, tkk T = 4 → ¬ lN (dn (tkw T)) < p1 → lN (dn (tkw T)) ≤ p2 → FR [454] M M1 → RDC M1 rd sc tb tp T → mJ M1 454 rd = lN (dn (tkw T)) → K 1 M1) (he5 : ∀ M1, tkk T = 4 → (lN (dn (tkw T)) < p1 ∨ ¬ lN (dn (tkw T)) ≤ p2) → FR rdX M M1 → FLT M1 rd (5, tkp T) → K 0 M1) (het : ∀ M1 e, ¬ tkk T = 4 → (a_mis T : Except Flt Tok) = .error e → FR rdX M M1 → FLT M1 rd e → K 0 M1) : wp_X7_isNumber M rd p1 p2 K := by
  have hw := h.2.2.2.2.2.1
  have k4 : (mI M 258 sc = 4) = (tkk T = 4) := h.2.2.2.2.1.k hw (d := 4) (by decide)
  refine ⟨h.1, sc, h.2.1, h.2.2.1.1, ?_⟩
  rw [k4]
  refine ⟨fun z => ?_, fun z => ?_⟩
  · have hv : mJ M 260 sc = lN (dn (tkw T)) := by rw [h.2.2.2.2.1.2.2.2.2.1 z, dv_dn]
    have x0 : FR [454] M (sJ M 454 rd (lN (dn (tkw T)))) := FRsJ FR.refl (by decide)
    have h0 := h.fr x0 (by decide) (by decide) (by decide) (by decide) (by decide)
    have e0 : mJ (sJ M 454 rd (lN (dn (tkw T)))) 454 rd = lN (dn (tkw T)) := by simp [ms]
    rw [hv, e0]
    have bad : (lN (dn (tkw T)) < p1 ∨ ¬ lN (dn (tkw T)) ≤ p2) → bk_X7_isNumber_45 rd K (sJ M 454 rd (lN (dn (tkw T)))) := fun q => by
      refine ⟨h.1, c_ref (n := 5) h0 (fun M1 x1 x2 => ⟨fun _ => ⟨by simp [bz], he5 M1 z q ((x0.mono (by decide)).trans (x1.mono (by decide))) x2⟩, fun y => absurd rfl y⟩)⟩
    exact ⟨fun q => bad (Or.inl q), fun q => ⟨fun y => ⟨by simp [bz], hok _ z q y x0 h0 e0⟩, fun y => bad (Or.inr y)⟩⟩
  · exact c_rtok (α := Tok) h (fun M1 e q x1 x2 => ⟨by simp [bz], het M1 e z q x1 x2⟩)
theorem c_num {K : Int32 → Mm → Prop} {lo hi : Nat} {p1 p2 : Int64} (h : RDC M rd sc tb tp T) (hlo : ∀ n, n ≤ BIG → (lN n < p1) = (n < lo)) (hhi : ∀ n, n ≤ BIG → (lN n ≤ p2) = (n ≤ hi)) (hok : ∀ M1 v T1, a_num tp lo hi T = .ok (v, T1) → FR okX M M1 → RDC M1 rd sc tb tp T1 → mJ M1 454 rd = lN v → K 1 M1) (her : ∀ M1 e, a_num tp lo hi T = .error e → FR rdX M M1 → FLT M1 rd e → K 0 M1) : wp_X7_readNumber M rd p1 p2 K := by
  refine ⟨h.1, c_isn h (fun M1 z q1 q2 x1 x2 x3 => ⟨fun _ => ⟨x2.1, sc, x2.2.1, x2.2.2.1.1, ?_⟩, fun y => absurd y (by decide)⟩) (fun M1 z q x1 x2 => ⟨fun y => absurd rfl y, fun _ => ?_⟩) (fun M1 e z q x1 x2 => ⟨fun y => absurd rfl y, fun _ => ?_⟩)⟩
  · have hd := h.2.2.2.2.2.1.num z
    rw [hlo _ hd] at q1
    rw [hhi _ hd] at q2
    refine c_nx x2 (fun M2 y1 y2 => hok M2 _ _ (by rw [a_num, if_pos z, if_pos ⟨by omega, q2⟩]) ((x1.mono (by decide)).trans (y1.mono (by decide))) y2 ?_)
    rw [y1.lg (by decide)]; exact x3
  · have hd := h.2.2.2.2.2.1.num z
    rw [hlo _ hd, hhi _ hd] at q
    exact her M1 _ (by rw [a_num, if_pos z, if_neg (by omega)]; rfl) x1 x2
  · exact her M1 e (by rw [a_num, if_neg z]; cases q; rfl) x1 x2
theorem hloN {lo : Nat} (h : lo < 2 ^ 63) : ∀ n, n ≤ BIG → (lN n < lN lo) = (n < lo) := fun n hn => lq_lt (by have h9 : n ≤ 999999999999999999 := hn; omega) h
theorem c_sn {K : Int32 → Mm → Prop} {least : Int} {p1 : Int64} (h : RDC M rd sc tb tp T) (hl : p1.toInt = least) (hb : -(BIG : Int) ≤ least ∧ least ≤ (BIG : Int)) (hok : ∀ M1 v T1, a_sn tp least T = .ok (v, T1) → FR okX M M1 → RDC M1 rd sc tb tp T1 → mJ M1 454 rd = Int64.ofInt v → K 1 M1) (her : ∀ M1 e, a_sn tp least T = .error e → FR rdX M M1 → FLT M1 rd e → K 0 M1) : wp_X7_readSignedNumber M rd p1 K := by
  have bb : (BIG : Int) = 999999999999999999 := by decide
  have nb : ∀ n, n ≤ BIG → (lN n).toInt = (n : Int) ∧ (n : Int) ≤ 999999999999999999 := fun n hn => by
    have h9 : n ≤ 999999999999999999 := hn
    exact ⟨pf_lI (by omega), by omega⟩
  have e61 : ∀ M1 T1 v, RDC M1 rd sc tb tp T1 → FR okX M M1 → mJ M1 454 rd = Int64.ofInt v → a_sn tp least T = .ok (v, a_nx tp T1) → bk_X7_readSignedNumber_61 rd K M1 := fun M1 T1 v x2 x1 x3 en => by
    refine ⟨x2.1, sc, x2.2.1, x2.2.2.1.1, c_nx x2 (fun M2 y1 y2 => hok M2 v _ en (x1.trans (y1.mono (by decide))) y2 ?_)⟩
    rw [y1.lg (by decide)]; exact x3
  refine ⟨h.1, ?_⟩
  rw [show (45 : Int32) = nI 45 from rfl, e_csg h (by decide), bI_0]
  refine ⟨fun z => ?_, fun z => ⟨h.1, sc, h.2.1, h.2.2.1.1, ?_⟩⟩
  · have en : a_sn tp least T = a_sn1 tp false least T := by rw [a_sn, if_neg (by rw [z]; decide)]
    rw [z]
    refine ⟨fun _ => ⟨h.1, ?_⟩, fun y => absurd rfl y⟩
    refine c_isn h (fun M1 k4 q1 q2 x1 x2 x3 => ⟨fun _ => ?_, fun y => absurd y (by decide)⟩) (fun M1 k4 q x1 x2 => ⟨fun y => absurd rfl y, fun _ => ?_⟩) (fun M1 e k4 q x1 x2 => ⟨fun y => absurd rfl y, fun _ => ?_⟩)
    · have hd := nb _ (h.2.2.2.2.2.1.num k4)
      refine ⟨fun _ => ?_, fun y => absurd rfl y⟩
      refine e61 M1 T (dn (tkw T) : Int) x2 (x1.mono (by decide)) ?_ ?_
      · rw [x3]
        apply Int64.toInt_inj.mp
        rw [hd.1, ofI_toInt (by omega) (by omega)]
      · rw [en, a_sn1, if_pos k4]
        simp only [Bool.false_eq_true, if_false]
        rw [if_pos]
        rw [Int64.lt_iff_toInt_lt, hd.1, hl] at q1; omega
    · have hd := nb _ (h.2.2.2.2.2.1.num k4)
      refine her M1 (5, tkp T) ?_ x1 x2
      rw [en, a_sn1, if_pos k4]
      simp only [Bool.false_eq_true, if_false]
      rw [if_neg]
      · rfl
      · rcases q with q | q
        · rw [Int64.lt_iff_toInt_lt, hd.1, hl] at q; omega
        · exfalso
          refine q ?_
          rw [Int64.le_iff_toInt_le, hd.1]
          exact hd.2
    · refine her M1 e ?_ x1 x2
      rw [en, a_sn1, if_neg k4]; cases q; rfl
  · have y45 : isSg 45 T = true := by simpa using z
    have en : a_sn tp least T = a_sn1 tp true least (a_nx tp T) := by rw [a_sn, if_pos y45]
    have b1 : ¬ bI (isSg 45 T) = 0 := by rw [y45]; decide
    refine c_nx h (fun M1 x1 x2 => ⟨fun y => absurd y b1, fun _ => ⟨x2.1, ?_⟩⟩)
    have x1' : FR okX M M1 := x1.mono (by decide)
    have x1r : FR rdX M M1 := x1.mono (by decide)
    generalize a_nx tp T = T1 at x2 en
    have neg : (-p1).toInt = -least := by rw [j_neg (by rw [hl]; omega), hl]
    refine c_isn x2 (fun M2 k4 q1 q2 y1 y2 y3 => ⟨fun y => absurd y (by decide), fun _ => ?_⟩) (fun M2 k4 q y1 y2 => ⟨fun _ => ?_, fun y => absurd rfl y⟩) (fun M2 e k4 q y1 y2 => ⟨fun _ => ?_, fun y => absurd rfl y⟩)
    · have hd := nb _ (x2.2.2.2.2.2.1.num k4)
      refine ⟨fun y => absurd y b1, fun _ => ⟨y2.1, ?_⟩⟩
      have z1 : FR okX M2 (sJ M2 454 rd (-(mJ M2 454 rd))) := FRsJ FR.refl (by decide)
      refine e61 _ T1 (-(dn (tkw T1) : Int)) (y2.fr (X := [454]) (FRsJ FR.refl (by decide)) (by decide) (by decide) (by decide) (by decide) (by decide)) ((x1'.trans (y1.mono (by decide))).trans z1) ?_ ?_
      · simp only [ms, and_self, if_true]
        rw [y3]
        apply Int64.toInt_inj.mp
        rw [j_neg (by rw [hd.1]; omega), hd.1, ofI_toInt (by omega) (by omega)]
      · rw [en, a_sn1, if_pos k4]
        simp only [if_true]
        rw [if_pos]
        rw [Int64.le_iff_toInt_le, hd.1, neg] at q2; omega
    · have hd := nb _ (x2.2.2.2.2.2.1.num k4)
      refine her M2 (5, tkp T1) ?_ (x1r.trans y1) y2
      rw [en, a_sn1, if_pos k4]
      simp only [if_true]
      rw [if_neg]
      · rfl
      · rcases q with q | q
        · exfalso
          rw [Int64.lt_iff_toInt_lt, hd.1] at q
          have q9 : (dn (tkw T1) : Int) < 0 := q
          omega
        · rw [Int64.le_iff_toInt_le, hd.1, neg] at q; omega
    · refine her M2 e ?_ (x1r.trans y1) y2
      rw [en, a_sn1, if_neg k4]; cases q; rfl
end CQ
