/-! the reference reads statements: unions, delays, holders, joins, windows -/
section RD
variable {M : Mm} {m : Nat} {ra : Nat → Nat} {S : St} {tp : List Nat} {C : Cfg}
theorem exwI2 {X : List Nat} {S S1 : St} {f j : Nat} {v : Int32} (h : Ex X S S1) : Ex X (wI S f j v) (wI S1 f j v) := fun g hg => ⟨(h g hg).1, (h g hg).2.1, by funext i; simp only [sg]; rw [(h g hg).2.2.1], (h g hg).2.2.2⟩
/-- a slot that is made ready: the kind is still to be told -/
def BD0 (S : St) (C : Cfg) : Prop := ∀ k, BD (wI S 715 (cn C) (nI k)) C (k, [], 0, 0, 0, false, 0, none)
theorem BD0.ex {S S1 : St} (h : BD0 S C) (hx : Ex rdF S S1) : BD0 S1 C := fun k => (h k).ex (exwI2 hx)
theorem x_120 (h : SH M m ra) {K : Mm → Prop} {e : Flt} {a : Int32} (hR : Rd tp S (.error e)) (hK : K (pM M m ra S)) : ∃ kk, lp_X11_body_120 m K kk a (pM M m ra S) := by
  refine ⟨1, ?_⟩
  rw [lp_X11_body_120]
  simp only [p_mK, FK h, p_mI, p_mJ, e_good h, true_and, and_true, not_true, not_false_eq_true, false_implies, forall_const, show ((1 : Int32) = 0) = False by decide, hR.g0, bk_X11_body_224]
  exact hK
theorem inp_lt {l : List Nat} {T : Tok} {y : List Nat × Tok} (h : a_inp tp C l T = .ok y) : tkk T = 3 := by
  unfold a_inp at h
  by_cases a : tkk T = 3
  · exact a
  · rw [if_neg a] at h; cases h
theorem r_uni (h : SH M m ra) {K : Mm → Prop} {T : Tok} (hT : RT S tp) (hR : Rd tp S (.ok T)) (hB : BD S C (1, [], 0, 0, 0, false, 0, none)) (h12 : cn C < 12) (hK : HOK tp M m ra C S K (a_uni tp C T)) : wp_X11_takeInput (pM M m ra S) m (nI (cn C)) (fun M43 => mK M43 m = 12 ∧ (wp_X11_takeInput M43 m (nI (cn C)) (fun M46 => (∃ kk, lp_X11_body_120 m K kk (nI (cn C)) M46)))) := by
  refine r_inp (x := (1, [], 0, 0, 0, false, 0, none)) h hT hR hB h12 (by decide) (fun S1 y q x1 x30 x31 x2 x3 => ⟨FK h, ?_⟩) (fun S1 e q x1 x2 => ⟨FK h, ?_⟩)
  · have q' : a_inp tp C [] T = .ok y := q
    rw [a_uni, a_two, q'] at hK
    refine r_inp (x := (1, y.1, 0, 0, 0, false, 0, none)) h (hT.es x1) x2 x3 h12 (show y.1.length < 4 by rw [inp_len q']; decide) (fun S2 z p y1 y30 y31 y2 y3 => ?_) (fun S2 e p y1 y2 => ?_)
    · have p' : a_inp tp C y.1 y.2 = .ok z := p
      simp only [p'] at hK
      have l2 : z.1.length + 2 = 4 := by rw [inp_len p', inp_len q']; rfl
      exact ⟨_, r_more h h12 2 z.1 z.2 S2 l2 ((hT.es x1).es y1) y2 y3 ((hK.es x1 x30 x31).es y1 y30 y31)⟩
    · have p' : a_inp tp C y.1 y.2 = .error e := p
      simp only [p'] at hK
      exact x_120 h y2 (hK.2 S2 e rfl (x1.trans y1) y2)
  · have q' : a_inp tp C [] T = .error e := q
    rw [a_uni, a_two, q'] at hK
    rw [x_inp h x2]
    exact x_120 h x2 (hK.2 S1 e rfl x1 x2)
theorem r_del (h : SH M m ra) {K : Mm → Prop} {T : Tok} (hT : RT S tp) (hR : Rd tp S (.ok T)) (hB : BD S C (2, [], 0, 0, 0, false, 0, none)) (h12 : cn C < 12) (hK : HOK tp M m ra C S K (a_del tp C T)) : wp_X11_takeInput (pM M m ra S) m (nI (cn C)) (fun M59 => mK M59 m = 12 ∧ (wp_X11_takeNumber M59 m (0 : Int64) (9223372036854775807 : Int64) (fun r62 M63 => ∃ a65, (mR M59 720 m) = some a65 ∧ isA M63 a65 2 ∧ vp_in (nI (cn C)) (aN M63 a65) ∧ (bk_X11_body_224 m K (tJ M63 a65 (cn C) r62))))) := by
  refine r_inp (x := (2, [], 0, 0, 0, false, 0, none)) h hT hR hB h12 (by decide) (fun S1 y q x1 x30 x31 x2 x3 => ⟨FK h, ?_⟩) (fun S1 e q x1 x2 => ⟨FK h, ?_⟩)
  · have q' : a_inp tp C [] T = .ok y := q
    rw [a_del, q'] at hK
    refine r_num2 (lo := 0) (hi := BIG) h (hT.es x1) x2 (by decide) hANY (fun S2 u T2 p z1 z2 => ?_) (fun S2 e p z1 z2 => ?_)
    · simp only [p] at hK
      simp (disch := omega) only [RF h, p_mK, p_mR, p_aN, p_aR, p_mI, p_mJ, p_sI, p_sJ, Option.some.injEq, exists_eq_left', true_and, and_true, na1, na3, n_add, n_mul, n_clamp, n_in, bk_X11_body_224]
      have hB2 : BD (wJ S2 720 (cn C) (lN u)) C (2, y.1, lN u, 0, 0, false, 0, none) := (x3.ex z1).wl (by decide) rfl rfl rfl rfl rfl
      exact hK.1 _ _ rfl ((x1.trans (ES.ex z1)).wJ ⟨by decide, rfl⟩) ((z1 730 (by decide)).1.trans x30) ((z1 731 (by decide)).1.trans x31) z2 hB2
    · simp only [p] at hK
      simp (disch := omega) only [RF h, p_mK, p_mR, p_aN, p_aR, p_mI, p_mJ, p_sI, p_sJ, Option.some.injEq, exists_eq_left', true_and, and_true, na1, na3, n_add, n_mul, n_clamp, n_in, bk_X11_body_224]
      exact hK.2 _ e rfl ((x1.trans (ES.ex z1)).wJ ⟨by decide, rfl⟩) z2
  · have q' : a_inp tp C [] T = .error e := q
    rw [a_del, q'] at hK
    rw [x_num h x2]
    simp (disch := omega) only [RF h, p_mK, p_mR, p_aN, p_aR, p_mI, p_mJ, p_sI, p_sJ, Option.some.injEq, exists_eq_left', true_and, and_true, na1, na3, n_add, n_mul, n_clamp, n_in, bk_X11_body_224]
    exact hK.2 _ e rfl (x1.wJ ⟨by decide, rfl⟩) x2
theorem r_hol (h : SH M m ra) {K : Mm → Prop} {T : Tok} (hT : RT S tp) (hR : Rd tp S (.ok T)) (hB : BD S C (3, [], 0, 0, 0, false, 0, none)) (h12 : cn C < 12) (hK : HOK tp M m ra C S K (a_hol tp C T)) : wp_X11_takeInput (pM M m ra S) m (nI (cn C)) (fun M79 => (bk_X11_body_224 m K M79)) := by
  refine r_inp (x := (3, [], 0, 0, 0, false, 0, none)) h hT hR hB h12 (by decide) (fun S1 y q x1 x30 x31 x2 x3 => ?_) (fun S1 e q x1 x2 => ?_)
  · have q' : a_inp tp C [] T = .ok y := q
    rw [a_hol, q'] at hK
    exact hK.1 S1 _ rfl x1 x30 x31 x2 x3
  · have q' : a_inp tp C [] T = .error e := q
    rw [a_hol, q'] at hK
    exact hK.2 S1 e rfl x1 x2
theorem sn1_ok {neg : Bool} {least : Int} {T T1 : Tok} {v : Int} (hw : TT tp T) (h : a_sn1 tp neg least T = .ok (v, T1)) : -(BIG : Int) ≤ v ∧ v ≤ (BIG : Int) ∧ least ≤ v := by
  unfold a_sn1 at h
  by_cases a : tkk T = 4
  · have hd : dn (tkw T) ≤ BIG := hw.1.num a
    rw [if_pos a] at h
    by_cases b : least ≤ (if neg = true then -(dn (tkw T) : Int) else (dn (tkw T) : Int))
    · rw [if_pos b] at h; cases h
      refine ⟨?_, ?_, b⟩ <;> split <;> omega
    · rw [if_neg b] at h; cases h
  · rw [if_neg a] at h; cases h
theorem sn_ok {least : Int} {T T1 : Tok} {v : Int} (hn : tp.length ≤ 600) (hw : TT tp T) (h : a_sn tp least T = .ok (v, T1)) : -(BIG : Int) ≤ v ∧ v ≤ (BIG : Int) ∧ least ≤ v := by
  unfold a_sn at h
  by_cases a : isSg 45 T = true
  · rw [if_pos a] at h; exact sn1_ok (TT_nx hn hw) h
  · rw [if_neg a] at h; exact sn1_ok hw h
theorem r_joi4 (h : SH M m ra) {K : Mm → Prop} {T : Tok} {l : List Nat} {v : Int} (hT : RT S tp) (hR : Rd tp S (.ok T)) (hv : -(BIG : Int) ≤ v ∧ v ≤ (BIG : Int)) (hB : BD S C (4, l, Int64.ofInt v, 0, 0, false, 0, none)) (h12 : cn C < 12) (hK : HOK tp M m ra C S K (a_joi4 tp l v T)) : wp_X11_takeKeyword (pM M m ra S) m (10 : Int32) (fun M31 => mK M31 m = 12 ∧ ∃ a35, (mR M31 720 m) = some a35 ∧ isA M31 a35 2 ∧ vp_in (nI (cn C)) (aN M31 a35) ∧ (wp_X11_takeSigned M31 m (aJ M31 a35 (cn C)) (fun r39 M40 => ∃ a42, (mR M31 721 m) = some a42 ∧ isA M40 a42 2 ∧ vp_in (nI (cn C)) (aN M40 a42) ∧ (K (tJ M40 a42 (cn C) r39))))) := by
  have bb : (BIG : Int) = 999999999999999999 := by decide
  refine r_kw2 (k := 10) h (by decide) hT hR (fun S1 T1 q x1 x2 => ⟨FK h, ?_⟩) (fun S1 e q x1 x2 => ⟨FK h, ?_⟩)
  · rw [a_joi4, q] at hK
    have hB1 := hB.ex x1
    have e20 : vJ S1 720 (cn C) = Int64.ofInt v := hB1.2.2.1.2.2.2.1
    simp (disch := omega) only [RF h, p_mK, p_mR, p_aN, p_aR, p_mI, p_mJ, p_sI, p_sJ, Option.some.injEq, exists_eq_left', true_and, and_true, na1, na3, n_add, n_mul, n_clamp, n_in, e20]
    refine r_sn2 (least := v) h (hT.ex x1 (by decide) (by decide)) x2 (fun u h1 h2 => ?_) (fun S2 u T2 p z1 z2 => ?_) (fun S2 e p z1 z2 => ?_)
    · rw [Int64.le_iff_toInt_le, ofI_toInt (by omega) (by omega), ofI_toInt (by omega) (by omega)]
    · simp only [p] at hK
      simp (disch := omega) only [RF h, p_mK, p_mR, p_aN, p_aR, p_mI, p_mJ, p_sI, p_sJ, Option.some.injEq, exists_eq_left', true_and, and_true, na1, na3, n_add, n_mul, n_clamp, n_in]
      have hB2 : BD (wJ S2 721 (cn C) (Int64.ofInt u)) C (4, l, Int64.ofInt v, Int64.ofInt u, 0, false, 0, none) := (hB1.ex z1).wl (by decide) rfl rfl rfl rfl rfl
      exact hK.1 _ _ rfl ((ES.ex (x1.trans z1)).wJ ⟨by decide, rfl⟩) ((x1.trans z1) 730 (by decide)).1 ((x1.trans z1) 731 (by decide)).1 z2 hB2
    · simp only [p] at hK
      simp (disch := omega) only [RF h, p_mK, p_mR, p_aN, p_aR, p_mI, p_mJ, p_sI, p_sJ, Option.some.injEq, exists_eq_left', true_and, and_true, na1, na3, n_add, n_mul, n_clamp, n_in]
      exact hK.2 _ e rfl ((ES.ex (x1.trans z1)).wJ ⟨by decide, rfl⟩) z2
  · rw [a_joi4, q] at hK
    simp (disch := omega) only [RF h, p_mK, p_mR, p_aN, p_aR, p_mI, p_mJ, p_sI, p_sJ, Option.some.injEq, exists_eq_left', true_and, and_true, na1, na3, n_add, n_mul, n_clamp, n_in, x_sn h x2]
    exact hK.2 _ e rfl ((ES.ex x1).wJ ⟨by decide, rfl⟩) x2
/-- what is left of a join behind a fault -/
theorem x_joi4 (h : SH M m ra) {K : Mm → Prop} {e : Flt} (hR : Rd tp S (.error e)) (h12 : cn C < 12) (hK : K (pM M m ra (wJ S 721 (cn C) 0))) : wp_X11_takeKeyword (pM M m ra S) m (10 : Int32) (fun M31 => mK M31 m = 12 ∧ ∃ a35, (mR M31 720 m) = some a35 ∧ isA M31 a35 2 ∧ vp_in (nI (cn C)) (aN M31 a35) ∧ (wp_X11_takeSigned M31 m (aJ M31 a35 (cn C)) (fun r39 M40 => ∃ a42, (mR M31 721 m) = some a42 ∧ isA M40 a42 2 ∧ vp_in (nI (cn C)) (aN M40 a42) ∧ (K (tJ M40 a42 (cn C) r39))))) := by
  rw [x_kw h hR]
  simp (disch := omega) only [RF h, p_mK, p_mR, p_aN, p_aR, p_mI, p_mJ, p_sI, p_sJ, Option.some.injEq, exists_eq_left', true_and, and_true, na1, na3, n_add, n_mul, n_clamp, n_in, FK h, x_sn h hR]
  exact hK
theorem r_joi (h : SH M m ra) {K : Mm → Prop} {T : Tok} (hT : RT S tp) (hR : Rd tp S (.ok T)) (hB : BD S C (4, [], 0, 0, 0, false, 0, none)) (h12 : cn C < 12) (hK : HOK tp M m ra C S K (a_joi tp C T)) : wp_X11_takeInput (pM M m ra S) m (nI (cn C)) (fun M12 => mK M12 m = 12 ∧ (wp_X11_takeInput M12 m (nI (cn C)) (fun M15 => mK M15 m = 12 ∧ (wp_X11_takeKeyword M15 m (9 : Int32) (fun M19 => mK M19 m = 12 ∧ (wp_X11_takeSigned M19 m (-9223372036854775807 : Int64) (fun r23 M24 => ∃ a26, (mR M19 720 m) = some a26 ∧ isA M24 a26 2 ∧ vp_in (nI (cn C)) (aN M24 a26) ∧ mK (tJ M24 a26 (cn C) r23) m = 12 ∧ (wp_X11_takeKeyword (tJ M24 a26 (cn C) r23) m (10 : Int32) (fun M31 => mK M31 m = 12 ∧ ∃ a35, (mR M31 720 m) = some a35 ∧ isA M31 a35 2 ∧ vp_in (nI (cn C)) (aN M31 a35) ∧ (wp_X11_takeSigned M31 m (aJ M31 a35 (cn C)) (fun r39 M40 => ∃ a42, (mR M31 721 m) = some a42 ∧ isA M40 a42 2 ∧ vp_in (nI (cn C)) (aN M40 a42) ∧ (K (tJ M40 a42 (cn C) r39))))))))))))) := by
  have bb : (BIG : Int) = 999999999999999999 := by decide
  have bad : ∀ S1 e, Rd tp S1 (.error e) → a_joi tp C T = .error e → ES (cn C) S S1 → wp_X11_takeKeyword (pM M m ra (wJ S1 720 (cn C) 0)) m (10 : Int32) (fun M31 => mK M31 m = 12 ∧ ∃ a35, (mR M31 720 m) = some a35 ∧ isA M31 a35 2 ∧ vp_in (nI (cn C)) (aN M31 a35) ∧ (wp_X11_takeSigned M31 m (aJ M31 a35 (cn C)) (fun r39 M40 => ∃ a42, (mR M31 721 m) = some a42 ∧ isA M40 a42 2 ∧ vp_in (nI (cn C)) (aN M40 a42) ∧ (K (tJ M40 a42 (cn C) r39))))) := fun S1 e x2 he x1 => by
    have x3 : Rd tp (wJ S1 720 (cn C) 0) (.error e) := x2
    exact x_joi4 h x3 h12 (hK.2 _ e he ((x1.wJ ⟨by decide, rfl⟩).wJ ⟨by decide, rfl⟩) x2)
  refine r_inp (x := (4, [], 0, 0, 0, false, 0, none)) h hT hR hB h12 (by decide) (fun S1 y q x1 x30 x31 x2 x3 => ⟨FK h, ?_⟩) (fun S1 e q x1 x2 => ⟨FK h, ?_⟩)
  · have q' : a_inp tp C [] T = .ok y := q
    refine r_inp (x := (4, y.1, 0, 0, 0, false, 0, none)) h (hT.es x1) x2 x3 h12 (show y.1.length < 4 by rw [inp_len q']; decide) (fun S2 z p y1 y30 y31 y2 y3 => ⟨FK h, ?_⟩) (fun S2 e p y1 y2 => ⟨FK h, ?_⟩)
    · have p' : a_inp tp C y.1 y.2 = .ok z := p
      refine r_kw2 (k := 9) h (by decide) ((hT.es x1).es y1) y2 (fun S3 T3 o w1 w2 => ⟨FK h, ?_⟩) (fun S3 e o w1 w2 => ⟨FK h, ?_⟩)
      · have hT3 := (((hT.es x1).es y1).ex w1 (by decide) (by decide))
        refine r_sn2 (least := -(BIG : Int)) h hT3 w2 (fun u h1 h2 => ?_) (fun S4 u T4 n v1 v2 => ?_) (fun S4 e n v1 v2 => ?_)
        · rw [Int64.le_iff_toInt_le, ofI_toInt (by omega) (by omega)]
          have e9 : (-9223372036854775807 : Int64).toInt = -9223372036854775807 := by decide
          rw [e9]; exact propext ⟨fun _ => h1, fun _ => by omega⟩
        · have ub := sn_ok hT3.2.1 w2.2.2 n
          simp (disch := omega) only [RF h, p_mK, p_mR, p_aN, p_aR, p_mI, p_mJ, p_sI, p_sJ, Option.some.injEq, exists_eq_left', true_and, and_true, na1, na3, n_add, n_mul, n_clamp, n_in, FK h]
          have hE : ES (cn C) S (wJ S4 720 (cn C) (Int64.ofInt u)) := (((x1.trans y1).trans (ES.ex w1)).trans (ES.ex v1)).wJ ⟨by decide, rfl⟩
          have hB4 : BD (wJ S4 720 (cn C) (Int64.ofInt u)) C (4, z.1, Int64.ofInt u, 0, 0, false, 0, none) := ((y3.ex w1).ex v1).wl (by decide) rfl rfl rfl rfl rfl
          have e30 : gI (wJ S4 720 (cn C) (Int64.ofInt u)) 730 = gI S 730 := (v1 730 (by decide)).1.trans ((w1 730 (by decide)).1.trans (y30.trans x30))
          have e31 : gI (wJ S4 720 (cn C) (Int64.ofInt u)) 731 = gI S 731 := (v1 731 (by decide)).1.trans ((w1 731 (by decide)).1.trans (y31.trans x31))
          have en : a_joi tp C T = a_joi4 tp z.1 u T4 := by rw [a_joi, a_two, q']; simp only [p', o, n]
          rw [en] at hK
          exact r_joi4 h (hT.es hE) v2 ⟨ub.1, ub.2.1⟩ hB4 h12 (hK.es hE e30 e31)
        · simp (disch := omega) only [RF h, p_mK, p_mR, p_aN, p_aR, p_mI, p_mJ, p_sI, p_sJ, Option.some.injEq, exists_eq_left', true_and, and_true, na1, na3, n_add, n_mul, n_clamp, n_in, FK h]
          exact bad S4 e v2 (by rw [a_joi, a_two, q']; simp only [p', o, n]) (((x1.trans y1).trans (ES.ex w1)).trans (ES.ex v1))
      · rw [x_sn h w2]
        simp (disch := omega) only [RF h, p_mK, p_mR, p_aN, p_aR, p_mI, p_mJ, p_sI, p_sJ, Option.some.injEq, exists_eq_left', true_and, and_true, na1, na3, n_add, n_mul, n_clamp, n_in, FK h]
        exact bad S3 e w2 (by rw [a_joi, a_two, q']; simp only [p', o]) ((x1.trans y1).trans (ES.ex w1))
    · have p' : a_inp tp C y.1 y.2 = .error e := p
      rw [x_kw h y2]
      refine ⟨FK h, ?_⟩
      rw [x_sn h y2]
      simp (disch := omega) only [RF h, p_mK, p_mR, p_aN, p_aR, p_mI, p_mJ, p_sI, p_sJ, Option.some.injEq, exists_eq_left', true_and, and_true, na1, na3, n_add, n_mul, n_clamp, n_in, FK h]
      exact bad S2 e y2 (by rw [a_joi, a_two, q']; simp only [p']) (x1.trans y1)
  · have q' : a_inp tp C [] T = .error e := q
    rw [x_inp h x2]
    refine ⟨FK h, ?_⟩
    rw [x_kw h x2]
    refine ⟨FK h, ?_⟩
    rw [x_sn h x2]
    simp (disch := omega) only [RF h, p_mK, p_mR, p_aN, p_aR, p_mI, p_mJ, p_sI, p_sJ, Option.some.injEq, exists_eq_left', true_and, and_true, na1, na3, n_add, n_mul, n_clamp, n_in, FK h]
    exact bad S1 e x2 (by rw [a_joi, a_two, q']) x1
theorem x_119 (h : SH M m ra) {K : Mm → Prop} {e : Flt} (hR : Rd tp S (.error e)) (h12 : cn C < 12) (hK : K (pM M m ra (wJ S 721 (cn C) 0))) : bk_X11_window_119 m K (nI (cn C)) (pM M m ra S) := by
  refine ⟨FK h, ?_⟩
  rw [x_num h hR]
  simp (disch := omega) only [RF h, p_mK, p_mR, p_aN, p_aR, p_mI, p_mJ, p_sI, p_sJ, Option.some.injEq, exists_eq_left', true_and, and_true, na1, na3, n_add, n_mul, n_clamp, n_in]
  exact hK
theorem l4 {v : Nat} : 4 * lN v = lN (4 * v) := by
  show Int64.ofNat 4 * Int64.ofNat v = Int64.ofNat _
  rw [← Int64.ofNat_mul]
theorem r_win4 (h : SH M m ra) {K : Mm → Prop} {T : Tok} {l : List Nat} {size : Nat} (hT : RT S tp) (hR : Rd tp S (.ok T)) (hs : 1 ≤ size ∧ size ≤ 1000000) (hB : BD S C (5, l, lN size, 0, 0, false, 0, none)) (h12 : cn C < 12) (hok : ∀ S1 v T2, a_num tp ((size + 3) / 4) size T = .ok (v, T2) → ES (cn C) S S1 → gI S1 730 = gI S 730 → gI S1 731 = gI S 731 → Rd tp S1 (.ok T2) → BD S1 C (5, l, lN size, lN v, 0, false, 0, none) → K (pM M m ra S1)) (her : ∀ S1 e, a_num tp ((size + 3) / 4) size T = .error e → ES (cn C) S S1 → Rd tp S1 (.error e) → K (pM M m ra S1)) : (¬ gI S 708 = 2 → bk_X11_window_119 m K (nI (cn C)) (pM M m ra S)) ∧ (gI S 708 = 2 → (lN size < gJ S 710 → bk_X11_window_114 m K (nI (cn C)) (pM M m ra S)) ∧ (¬ lN size < gJ S 710 → (lN size ≤ 4 * gJ S 710 → bk_X11_window_119 m K (nI (cn C)) (pM M m ra S)) ∧ (¬ lN size ≤ 4 * gJ S 710 → bk_X11_window_114 m K (nI (cn C)) (pM M m ra S)))) := by
  have k5 := hR.2.2.1.2.2.2.2.2.2.2.1
  rw [hR.2.1.2.2.1, kR_2 _ k5]
  refine ⟨fun z => ⟨FK h, ?_⟩, fun z => ?_⟩
  · have en : a_num tp ((size + 3) / 4) size T = a_mis T := by rw [a_num, if_neg z]
    refine r_num2 (lo := 1) (hi := 1000000) h hT hR (by decide) (hhiN (by decide)) (fun S1 v T2 p x1 x2 => ?_) (fun S1 e p x1 x2 => ?_)
    · rw [a_num, if_neg z] at p; cases p
    · rw [a_num, if_neg z] at p
      simp (disch := omega) only [RF h, p_mK, p_mR, p_aN, p_aR, p_mI, p_mJ, p_sI, p_sJ, Option.some.injEq, exists_eq_left', true_and, and_true, na1, na3, n_add, n_mul, n_clamp, n_in]
      exact her _ e (en.trans p) ((ES.ex x1).wJ ⟨by decide, rfl⟩) x2
  · have hd := hR.2.2.1.num z
    have hv := hR.2.1.num z
    have hd2 : dn (tkw T) ≤ 999999999999999999 := hd
    rw [hv, l4, lq_lt (by omega) (by omega), lq_le (by omega) (by omega)]
    have bad : ¬ ((size + 3) / 4 ≤ dn (tkw T) ∧ dn (tkw T) ≤ size) → bk_X11_window_114 m K (nI (cn C)) (pM M m ra S) := fun q => by
      have f5 : bk_X11_window_114 m K (nI (cn C)) (pM M m ra S) = (mK M m = 12 ∧ wp_X11_fault (pM M m ra S) m (nI 5) (fun M10 => bk_X11_window_119 m K (nI (cn C)) M10)) := rfl
      rw [f5]
      have en : a_num tp ((size + 3) / 4) size T = .error (5, tkp T) := by rw [a_num, if_pos z, if_neg q]; rfl
      refine ⟨FK h, r_flt (α := Tok) h hR (by decide) (by decide) (fun S1 x1 x2 => x_119 h x2 h12 ?_)⟩
      exact her _ _ en ((ES.ex (exR x1 (by decide))).wJ ⟨by decide, rfl⟩) x2
    refine ⟨fun q => bad (fun y => by omega), fun q => ⟨fun y => ⟨FK h, ?_⟩, fun y => bad (fun x => by omega)⟩⟩
    have en : a_num tp ((size + 3) / 4) size T = .ok (dn (tkw T), a_nx tp T) := by rw [a_num, if_pos z, if_pos ⟨by omega, by omega⟩]
    have en2 : a_num tp 1 1000000 T = .ok (dn (tkw T), a_nx tp T) := by rw [a_num, if_pos z, if_pos ⟨by omega, by omega⟩]
    refine r_num2 (lo := 1) (hi := 1000000) h hT hR (by decide) (hhiN (by decide)) (fun S1 v T2 p x1 x2 => ?_) (fun S1 e p x1 x2 => ?_)
    · rw [en2] at p
      cases p
      simp (disch := omega) only [RF h, p_mK, p_mR, p_aN, p_aR, p_mI, p_mJ, p_sI, p_sJ, Option.some.injEq, exists_eq_left', true_and, and_true, na1, na3, n_add, n_mul, n_clamp, n_in]
      have hB2 : BD (wJ S1 721 (cn C) (lN (dn (tkw T)))) C (5, l, lN size, lN (dn (tkw T)), 0, false, 0, none) := (hB.ex x1).wl (by decide) rfl rfl rfl rfl rfl
      exact hok _ _ _ en ((ES.ex x1).wJ ⟨by decide, rfl⟩) (x1 730 (by decide)).1 (x1 731 (by decide)).1 x2 hB2
    · rw [en2] at p; cases p
end RD
