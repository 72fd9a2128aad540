/-! the reference reads statements: whole bodies -/
section RE
variable {M : Mm} {m : Nat} {ra : Nat → Nat} {S : St} {tp : List Nat} {C : Cfg}
theorem r_win (h : SH M m ra) {K : Mm → Prop} {T : Tok} (hT : RT S tp) (hR : Rd tp S (.ok T)) (hB : BD S C (5, [], 0, 0, 0, false, 0, none)) (h12 : cn C < 12) (hK : HOK tp M m ra C S K (a_win tp C T)) : wp_X11_takeInput (pM M m ra S) m (nI (cn C)) (fun M24 => mK M24 m = 12 ∧ (wp_X11_takeKeyword M24 m (12 : Int32) (fun M27 => mK M27 m = 12 ∧ (wp_X11_takeNumber M27 m (1 : Int64) (1000000 : Int64) (fun r31 M32 => ∃ a34, (mR M27 720 m) = some a34 ∧ isA M32 a34 2 ∧ vp_in (nI (cn C)) (aN M32 a34) ∧ mK (tJ M32 a34 (cn C) r31) m = 12 ∧ (wp_X11_takeKeyword (tJ M32 a34 (cn C) r31) m (13 : Int32) (fun M39 => mK M39 m = 12 ∧ (wp_X11_good M39 m (fun r42 M43 => ((r42 = 0 → (bk_X11_window_119 m K (nI (cn C)) M43)) ∧ (¬ r42 = 0 → mK M43 m = 12 ∧ ((¬ (mI M43 708 m) = (2 : Int32) → (bk_X11_window_119 m K (nI (cn C)) M43)) ∧ ((mI M43 708 m) = (2 : Int32) → ∃ a47, (mR M43 720 m) = some a47 ∧ isA M43 a47 2 ∧ vp_in (nI (cn C)) (aN M43 a47) ∧ (((aJ M43 a47 (cn C)) < (mJ M43 710 m) → (bk_X11_window_114 m K (nI (cn C)) M43)) ∧ (¬ (aJ M43 a47 (cn C)) < (mJ M43 710 m) → vp_in (nI (cn C)) (aN M43 a47) ∧ (((aJ M43 a47 (cn C)) ≤ ((4 : Int64) * (mJ M43 710 m)) → (bk_X11_window_119 m K (nI (cn C)) M43)) ∧ (¬ (aJ M43 a47 (cn C)) ≤ ((4 : Int64) * (mJ M43 710 m)) → (bk_X11_window_114 m K (nI (cn C)) M43)))))))))))))))))) := by
  have bad : ∀ S1 e, Rd tp S1 (.error e) → a_win tp C T = .error e → ES (cn C) S S1 → K (pM M m ra (wJ S1 721 (cn C) 0)) := fun S1 e x2 he x1 => hK.2 _ e he (x1.wJ ⟨by decide, rfl⟩) x2
  have bad2 : ∀ S1 e, Rd tp S1 (.error e) → a_win tp C T = .error e → ES (cn C) S S1 → K (pM M m ra (wJ (wJ S1 720 (cn C) 0) 721 (cn C) 0)) := fun S1 e x2 he x1 => bad (wJ S1 720 (cn C) 0) e x2 he (x1.wJ ⟨by decide, rfl⟩)
  refine r_inp (x := (5, [], 0, 0, 0, false, 0, none)) h hT hR hB h12 (by decide) (fun S1 y q x1 x30 x31 x2 x3 => ⟨FK h, ?_⟩) (fun S1 e q x1 x2 => ⟨FK h, ?_⟩)
  · have q' : a_inp tp C [] T = .ok y := q
    refine r_kw2 (k := 12) h (by decide) (hT.es x1) x2 (fun S2 T2 o w1 w2 => ⟨FK h, ?_⟩) (fun S2 e o w1 w2 => ⟨FK h, ?_⟩)
    · have hT2 := (hT.es x1).ex w1 (by decide) (by decide)
      refine r_num2 (lo := 1) (hi := 1000000) h hT2 w2 (by decide) (hhiN (by decide)) (fun S3 size T3 n v1 v2 => ?_) (fun S3 e n v1 v2 => ?_)
      · have vb := num_ok n
        simp (disch := omega) only [RF h, p_mK, p_mR, p_aN, p_aR, p_mI, p_mJ, p_sI, p_sJ, Option.some.injEq, exists_eq_left', true_and, and_true, na1, na3, n_add, n_mul, n_clamp, n_in, FK h]
        have hE : ES (cn C) S (wJ S3 720 (cn C) (lN size)) := ((x1.trans (ES.ex w1)).trans (ES.ex v1)).wJ ⟨by decide, rfl⟩
        have hB3 : BD (wJ S3 720 (cn C) (lN size)) C (5, y.1, lN size, 0, 0, false, 0, none) := ((x3.ex w1).ex v1).wl (by decide) rfl rfl rfl rfl rfl
        have e30 : gI (wJ S3 720 (cn C) (lN size)) 730 = gI S 730 := (v1 730 (by decide)).1.trans ((w1 730 (by decide)).1.trans x30)
        have e31 : gI (wJ S3 720 (cn C) (lN size)) 731 = gI S 731 := (v1 731 (by decide)).1.trans ((w1 731 (by decide)).1.trans x31)
        have en : a_win tp C T = a_win3 tp y.1 size T3 := by rw [a_win, q']; simp only [o, n]
        have y3 : Rd tp (wJ S3 720 (cn C) (lN size)) (.ok T3) := v2
        have hT3 := hT.es hE
        generalize wJ S3 720 (cn C) (lN size) = S4 at hE hB3 e30 e31 y3 hT3
        refine r_kw2 (k := 13) h (by decide) hT3 y3 (fun S5 T5 o5 u1 u2 => ?_) (fun S5 e o5 u1 u2 => ?_)
        · rw [en, a_win3] at hK
          simp only [o5] at hK
          have hB5 := hB3.ex u1
          have e20 : vJ S5 720 (cn C) = lN size := hB5.2.2.1.2.2.2.1
          have hE5 : ES (cn C) S S5 := hE.trans (ES.ex u1)
          have key := r_win4 (K := K) (l := y.1) (size := size) h (hT3.ex u1 (by decide) (by decide)) u2 vb hB5 h12 (fun S6 v T6 o6 t1 t30 t31 t2 t3 => by
            rw [o6] at hK
            exact hK.1 S6 _ rfl (hE5.trans t1) (t30.trans ((u1 730 (by decide)).1.trans e30)) (t31.trans ((u1 731 (by decide)).1.trans e31)) t2 t3) (fun S6 e o6 t1 t2 => by
            rw [o6] at hK
            exact hK.2 S6 e rfl (hE5.trans t1) t2)
          simp (disch := omega) only [p_mK, FK h, p_mI, p_mJ, e_good h, true_and, and_true, not_true, not_false_eq_true, false_implies, forall_const, show ((1 : Int32) = 0) = False by decide, u2.g1, RF h, p_mK, p_mR, p_aN, p_aR, p_mI, p_mJ, p_sI, p_sJ, Option.some.injEq, exists_eq_left', true_and, and_true, na1, na3, n_add, n_mul, n_clamp, n_in, e20]
          exact key
        · simp only [p_mK, FK h, p_mI, p_mJ, e_good h, true_and, and_true, not_true, not_false_eq_true, false_implies, forall_const, show ((1 : Int32) = 0) = False by decide, u2.g0]
          exact x_119 h u2 h12 (bad S5 e u2 (by rw [en, a_win3, o5]) (hE.trans (ES.ex u1)))
      · simp (disch := omega) only [RF h, p_mK, p_mR, p_aN, p_aR, p_mI, p_mJ, p_sI, p_sJ, Option.some.injEq, exists_eq_left', true_and, and_true, na1, na3, n_add, n_mul, n_clamp, n_in, FK h]
        have y3 : Rd tp (wJ S3 720 (cn C) 0) (.error e) := v2
        rw [x_kw h y3]
        simp only [p_mK, FK h, p_mI, p_mJ, e_good h, true_and, and_true, not_true, not_false_eq_true, false_implies, forall_const, show ((1 : Int32) = 0) = False by decide, y3.g0]
        exact x_119 h y3 h12 (bad2 S3 e v2 (by rw [a_win, q']; simp only [o, n]) ((x1.trans (ES.ex w1)).trans (ES.ex v1)))
    · rw [x_num h w2]
      simp (disch := omega) only [RF h, p_mK, p_mR, p_aN, p_aR, p_mI, p_mJ, p_sI, p_sJ, Option.some.injEq, exists_eq_left', true_and, and_true, na1, na3, n_add, n_mul, n_clamp, n_in, FK h]
      have y3 : Rd tp (wJ S2 720 (cn C) 0) (.error e) := w2
      rw [x_kw h y3]
      simp only [p_mK, FK h, p_mI, p_mJ, e_good h, true_and, and_true, not_true, not_false_eq_true, false_implies, forall_const, show ((1 : Int32) = 0) = False by decide, y3.g0]
      exact x_119 h y3 h12 (bad2 S2 e w2 (by rw [a_win, q']; simp only [o]) (x1.trans (ES.ex w1)))
  · have q' : a_inp tp C [] T = .error e := q
    rw [x_kw h x2]
    refine ⟨FK h, ?_⟩
    rw [x_num h x2]
    simp (disch := omega) only [RF h, p_mK, p_mR, p_aN, p_aR, p_mI, p_mJ, p_sI, p_sJ, Option.some.injEq, exists_eq_left', true_and, and_true, na1, na3, n_add, n_mul, n_clamp, n_in, FK h]
    have y3 : Rd tp (wJ S1 720 (cn C) 0) (.error e) := x2
    rw [x_kw h y3]
    simp only [p_mK, FK h, p_mI, p_mJ, e_good h, true_and, and_true, not_true, not_false_eq_true, false_implies, forall_const, show ((1 : Int32) = 0) = False by decide, y3.g0]
    exact x_119 h y3 h12 (bad2 S1 e x2 (by rw [a_win, q']) x1)
/-- a body's two ends, with the numbers of joins and windows -/
def HOB (tp : List Nat) (M : Mm) (m : Nat) (ra : Nat → Nat) (C : Cfg) (J W : Nat) (S : St) (K : Mm → Prop) (r : Except Flt (Slot × Tok)) : Prop := (∀ S1 y, r = .ok y → ES (cn C) S S1 → gI S1 730 = nI (if y.1.1 = 4 then J + 1 else J) → gI S1 731 = nI (if y.1.1 = 5 then W + 1 else W) → Rd tp S1 (.ok y.2) → BD S1 C y.1 → K (pM M m ra S1)) ∧ ∀ S1 e, r = .error e → ES (cn C) S S1 → Rd tp S1 (.error e) → K (pM M m ra S1)
theorem kd_src {T : Tok} {y : Slot × Tok} (h : a_src tp T = .ok y) : y.1.1 = 0 := by
  unfold a_src at h
  split at h
  · cases h
  · unfold a_src2 at h
    have k4 : ∀ {pt hl lag af T}, a_src4 tp pt hl lag af T = .ok y → y.1.1 = 0 := fun {pt hl lag af T} h => by
      unfold a_src4 at h
      split at h
      · split at h <;> cases h; rfl
      · cases h; rfl
    have k3 : ∀ {pt hl lag T}, a_src3 tp pt hl lag T = .ok y → y.1.1 = 0 := fun {pt hl lag T} h => by
      unfold a_src3 at h
      split at h
      · split at h
        · cases h
        · exact k4 h
      · exact k4 h
    split at h
    · split at h
      · cases h
      · exact k3 h
    · split at h
      · cases h
      · exact k3 h
theorem kd_uni {T : Tok} {y : Slot × Tok} (h : a_uni tp C T = .ok y) : y.1.1 = 1 := by
  unfold a_uni at h
  split at h
  · cases h
  · split at h <;> cases h; rfl
theorem kd_del {T : Tok} {y : Slot × Tok} (h : a_del tp C T = .ok y) : y.1.1 = 2 := by
  unfold a_del at h
  split at h
  · cases h
  · split at h <;> cases h; rfl
theorem kd_hol {T : Tok} {y : Slot × Tok} (h : a_hol tp C T = .ok y) : y.1.1 = 3 := by
  unfold a_hol at h
  split at h <;> cases h; rfl
theorem kd_joi {T : Tok} {y : Slot × Tok} (h : a_joi tp C T = .ok y) : y.1.1 = 4 := by
  unfold a_joi at h
  split at h
  · cases h
  · split at h
    · cases h
    · split at h
      · cases h
      · unfold a_joi4 at h
        split at h
        · cases h
        · split at h <;> cases h; rfl
theorem kd_win {T : Tok} {y : Slot × Tok} (h : a_win tp C T = .ok y) : y.1.1 = 5 := by
  unfold a_win at h
  split at h
  · cases h
  · split at h
    · cases h
    · split at h
      · cases h
      · unfold a_win3 at h
        split at h
        · cases h
        · split at h <;> cases h; rfl
/-- the number that the reference's switch is over -/
def sv (T : Tok) : Int32 := if tkk T = 2 ∨ tkk T = 3 then kwr (tkw T) 15 else -1
theorem sv_kw {T : Tok} {k : Nat} (hw : TW T) (hk : k < 15) : (sv T = nI k) = (isKw k T = true) := by
  unfold sv isKw
  by_cases a : tkk T = 2 ∨ tkk T = 3
  · rw [if_pos a, kwr_is hk]
    rcases a with a | a
    · simp [a]
    · have b : ¬ KWS[k]? = some (tkw T) := fun e => hw.2.2.2.2.1 a (List.mem_of_getElem? e)
      simp [a, b]
  · rw [if_neg a]
    have a2 : ¬ tkk T = 2 := fun e => a (Or.inl e)
    have h9 : ∀ k, k < 15 → ¬ (-1 : Int32) = nI k := by decide
    simp [a2, h9 k hk]
theorem sv_all {T : Tok} : sv T = -1 ∨ ∃ k, k < 15 ∧ sv T = nI k := by
  unfold sv
  by_cases a : tkk T = 2 ∨ tkk T = 3
  · rw [if_pos a]
    by_cases b : tkw T ∈ KWS
    · obtain ⟨k, h1, h2, h3⟩ := kwr_mem b
      exact Or.inr ⟨k, h1, h3⟩
    · exact Or.inl (kwr_no b 15 (Nat.le_refl _))
  · rw [if_neg a]; exact Or.inl rfl
theorem r_body (h : SH M m ra) {K : Mm → Prop} {T : Tok} {J W : Nat} (hT : RT S tp) (hR : Rd tp S (.ok T)) (hB : BD0 S C) (h12 : cn C < 12) (hJ : gI S 730 = nI J) (hW : gI S 731 = nI W) (hJ3 : J ≤ 3) (hW3 : W ≤ 3) (hK : HOB tp M m ra C J W S K (a_body tp J W C T)) : wp_X11_body (pM M m ra S) m (nI (cn C)) K := by
  have hw := hR.2.2.1
  have k5 := hw.2.2.2.2.2.2.2.1
  have go : bk_X11_body_16 m K (nI (cn C)) (sv T) (pM M m ra S) := by
    have sk := fun {k : Nat} (hk : k < 15) => sv_kw (T := T) hw hk
    have hne : ∀ i j : Nat, i < 15 → j < 15 → ¬ i = j → sv T = nI i → ¬ isKw j T = true := fun i j hi hj ne e1 e2 => by
      rw [← sk hj, e1, n_eq (by omega) (by omega)] at e2; exact ne e2
    -- the start of each body that is read after its keyword
    have st : ∀ k (r : Except Flt (Slot × Tok)), a_body tp J W C T = r → (∀ y, r = .ok y → ¬ y.1.1 = 4 ∧ ¬ y.1.1 = 5) → ∀ S1, Ex tkF S S1 → Rd tp S1 (.ok (a_nx tp T)) → BD (wI S1 715 (cn C) (nI k)) C (k, [], 0, 0, 0, false, 0, none) ∧ RT (wI S1 715 (cn C) (nI k)) tp ∧ Rd tp (wI S1 715 (cn C) (nI k)) (.ok (a_nx tp T)) ∧ HOK tp M m ra C (wI S1 715 (cn C) (nI k)) K r := fun k r hr hk S1 x1 x2 => by
      have x1' := exR x1 (by decide)
      have hE : ES (cn C) S (wI S1 715 (cn C) (nI k)) := (ES.ex x1').wI (Or.inl ⟨by decide, rfl⟩)
      refine ⟨(hB.ex x1') k, hT.es hE, x2, fun S2 y q y1 y30 y31 y2 y3 => ?_, fun S2 e q y1 y2 => hK.2 S2 e (hr.trans q) (hE.trans y1) y2⟩
      have hk2 := hk y q
      refine hK.1 S2 y (hr.trans q) (hE.trans y1) ?_ ?_ y2 y3
      · rw [if_neg hk2.1, y30]
        exact (x1' 730 (by decide)).1.trans hJ
      · rw [if_neg hk2.2, y31]
        exact (x1' 731 (by decide)).1.trans hW
    refine ⟨fun z => ?_, fun z => ⟨FK h, ?_⟩, fun z => ⟨FK h, ?_⟩, fun z => ⟨FK h, ?_⟩, fun z => ⟨FK h, ?_⟩, fun z => ⟨FK h, ?_⟩, fun z => ⟨FK h, ?_⟩⟩
    · have nk : ∀ j, j = 0 ∨ j = 5 ∨ j = 6 ∨ j = 7 ∨ j = 8 ∨ j = 11 → ¬ isKw j T = true := fun j hj e => by
        rw [← sk (by omega)] at e
        rw [e] at z
        have h9 : ∀ j, j < 12 → (j = 0 ∨ j = 5 ∨ j = 6 ∨ j = 7 ∨ j = 8 ∨ j = 11) → ¬ ((nI j).toInt < 0 ∨ 11 < (nI j).toInt ∨ nI j = 1 ∨ nI j = 2 ∨ nI j = 3 ∨ nI j = 4 ∨ nI j = 9 ∨ nI j = 10) := by decide
        exact h9 j (by omega) hj z
      have en : a_body tp J W C T = a_mis T := by
        rw [a_body, if_neg (nk 0 (by decide)), if_neg (nk 5 (by decide)), if_neg (nk 6 (by decide)), if_neg (nk 7 (by decide)), if_neg (nk 8 (by decide)), if_neg (nk 11 (by decide))]
      refine ⟨FK h, r_mis (α := Slot × Tok) h hR (fun S1 x1 x2 => ?_)⟩
      exact hK.2 S1 _ en (ES.ex (exR x1 (by decide))) x2
    · have k0 : isKw 0 T = true := by rw [← sk (by decide)]; exact z
      have en : a_body tp J W C T = a_src tp (a_nx tp T) := by rw [a_body, if_pos k0]
      refine Rd.nx h hT hR (fun S1 x1 x2 => ⟨FK h, ?_⟩)
      obtain ⟨a1, a2, a3, a4⟩ := st 0 _ en (fun y hy => by rw [kd_src hy]; decide) S1 x1 x2
      simp (disch := omega) only [RF h, p_mK, p_mR, p_aN, p_aR, p_mI, p_mJ, p_sI, p_sJ, Option.some.injEq, exists_eq_left', true_and, and_true, na1, na3, n_add, n_mul, n_clamp, n_in]
      exact r_src h a2 a3 a1 h12 a4
    · have k0 : isKw 5 T = true := by rw [← sk (by decide)]; exact z
      have en : a_body tp J W C T = a_uni tp C (a_nx tp T) := by rw [a_body, if_neg (hne 5 0 (by decide) (by decide) (by decide) z), if_pos k0]
      refine Rd.nx h hT hR (fun S1 x1 x2 => ⟨FK h, ?_⟩)
      obtain ⟨a1, a2, a3, a4⟩ := st 1 _ en (fun y hy => by rw [kd_uni hy]; decide) S1 x1 x2
      simp (disch := omega) only [RF h, p_mK, p_mR, p_aN, p_aR, p_mI, p_mJ, p_sI, p_sJ, Option.some.injEq, exists_eq_left', true_and, and_true, na1, na3, n_add, n_mul, n_clamp, n_in]
      exact r_uni h a2 a3 a1 h12 a4
    · have k0 : isKw 6 T = true := by rw [← sk (by decide)]; exact z
      have en : a_body tp J W C T = a_del tp C (a_nx tp T) := by rw [a_body, if_neg (hne 6 0 (by decide) (by decide) (by decide) z), if_neg (hne 6 5 (by decide) (by decide) (by decide) z), if_pos k0]
      refine Rd.nx h hT hR (fun S1 x1 x2 => ⟨FK h, ?_⟩)
      obtain ⟨a1, a2, a3, a4⟩ := st 2 _ en (fun y hy => by rw [kd_del hy]; decide) S1 x1 x2
      simp (disch := omega) only [RF h, p_mK, p_mR, p_aN, p_aR, p_mI, p_mJ, p_sI, p_sJ, Option.some.injEq, exists_eq_left', true_and, and_true, na1, na3, n_add, n_mul, n_clamp, n_in]
      exact r_del h a2 a3 a1 h12 a4
    · have k0 : isKw 7 T = true := by rw [← sk (by decide)]; exact z
      have en : a_body tp J W C T = a_hol tp C (a_nx tp T) := by rw [a_body, if_neg (hne 7 0 (by decide) (by decide) (by decide) z), if_neg (hne 7 5 (by decide) (by decide) (by decide) z), if_neg (hne 7 6 (by decide) (by decide) (by decide) z), if_pos k0]
      refine Rd.nx h hT hR (fun S1 x1 x2 => ⟨FK h, ?_⟩)
      obtain ⟨a1, a2, a3, a4⟩ := st 3 _ en (fun y hy => by rw [kd_hol hy]; decide) S1 x1 x2
      simp (disch := omega) only [RF h, p_mK, p_mR, p_aN, p_aR, p_mI, p_mJ, p_sI, p_sJ, Option.some.injEq, exists_eq_left', true_and, and_true, na1, na3, n_add, n_mul, n_clamp, n_in]
      exact r_hol h a2 a3 a1 h12 a4
    · have k0 : isKw 8 T = true := by rw [← sk (by decide)]; exact z
      have en : a_body tp J W C T = if J = 3 then flt 6 T else a_joi tp C (a_nx tp T) := by rw [a_body, if_neg (hne 8 0 (by decide) (by decide) (by decide) z), if_neg (hne 8 5 (by decide) (by decide) (by decide) z), if_neg (hne 8 6 (by decide) (by decide) (by decide) z), if_neg (hne 8 7 (by decide) (by decide) (by decide) z), if_pos k0]
      have e3 : (gI S 730 = 3) = (J = 3) := by
        rw [hJ, show (3 : Int32) = nI 3 from rfl, n_eq (by omega) (by omega)]
      refine ⟨FK h, ?_⟩
      simp only [p_mI, e3]
      refine ⟨fun q => ?_, fun q => ?_⟩
      · rw [if_neg q] at en
        have hE0 : ES (cn C) S (pI S 730 (nI (J + 1))) := ES.refl.pI (Or.inl rfl)
        have hR0 : Rd tp (pI S 730 (nI (J + 1))) (.ok T) := hR.ex (X := [730]) (Ex.refl.pI (by decide)) (by decide) (by decide) (by decide) (by decide) (by decide) (by decide) (by decide)
        simp (disch := omega) only [RF h, p_mK, p_mR, p_aN, p_aR, p_mI, p_mJ, p_sI, p_sJ, Option.some.injEq, exists_eq_left', true_and, and_true, na1, na3, n_add, n_mul, n_clamp, n_in, hJ]
        refine Rd.nx h (hT.es hE0) hR0 (fun S1 x1 x2 => ⟨FK h, ?_⟩)
        have x1' := exR x1 (by decide)
        have hE : ES (cn C) S (wI S1 715 (cn C) (nI 4)) := (hE0.trans (ES.ex x1')).wI (Or.inl ⟨by decide, rfl⟩)
        have hB4 : BD (wI S1 715 (cn C) (nI 4)) C (4, [], 0, 0, 0, false, 0, none) := by
          have hb0 : BD0 (pI S 730 (nI (J + 1))) C := fun k => hB k
          exact (hb0.ex x1') 4
        have hT4 := hT.es hE
        have y4 : Rd tp (wI S1 715 (cn C) (nI 4)) (.ok (a_nx tp T)) := x2
        have e30 : gI (wI S1 715 (cn C) (nI 4)) 730 = nI (J + 1) := by
          show gI S1 730 = _
          rw [(x1' 730 (by decide)).1]; simp [sg]
        have e31 : gI (wI S1 715 (cn C) (nI 4)) 731 = nI W := by
          show gI S1 731 = _
          rw [(x1' 731 (by decide)).1]; simp [sg, hW]
        have hk4 : HOK tp M m ra C (wI S1 715 (cn C) (nI 4)) K (a_joi tp C (a_nx tp T)) := ⟨fun S2 y q y1 y30 y31 y2 y3 => hK.1 S2 y (en.trans q) (hE.trans y1) (by rw [if_pos (kd_joi q), y30, e30]) (by rw [if_neg (by rw [kd_joi q]; decide), y31, e31]) y2 y3, fun S2 e q y1 y2 => hK.2 S2 e (en.trans q) (hE.trans y1) y2⟩
        simp (disch := omega) only [RF h, p_mK, p_mR, p_aN, p_aR, p_mI, p_mJ, p_sI, p_sJ, Option.some.injEq, exists_eq_left', true_and, and_true, na1, na3, n_add, n_mul, n_clamp, n_in]
        exact r_joi h hT4 y4 hB4 h12 hk4
      · rw [if_pos q] at en
        have f6 : wp_X11_fault (pM M m ra S) m 6 (fun M47 => bk_X11_body_224 m K M47) = wp_X11_fault (pM M m ra S) m (nI 6) (fun M47 => bk_X11_body_224 m K M47) := rfl
        rw [f6]
        exact r_flt (α := Tok) h hR (by decide) (by decide) (fun S1 x1 x2 => hK.2 S1 _ en (ES.ex (exR x1 (by decide))) x2)
    · have k0 : isKw 11 T = true := by rw [← sk (by decide)]; exact z
      have en : a_body tp J W C T = if W = 3 then flt 6 T else a_win tp C (a_nx tp T) := by rw [a_body, if_neg (hne 11 0 (by decide) (by decide) (by decide) z), if_neg (hne 11 5 (by decide) (by decide) (by decide) z), if_neg (hne 11 6 (by decide) (by decide) (by decide) z), if_neg (hne 11 7 (by decide) (by decide) (by decide) z), if_neg (hne 11 8 (by decide) (by decide) (by decide) z), if_pos k0]
      have e3 : (gI S 731 = 3) = (W = 3) := by
        rw [hW, show (3 : Int32) = nI 3 from rfl, n_eq (by omega) (by omega)]
      refine ⟨FK h, ?_⟩
      simp only [p_mI, e3]
      refine ⟨fun q => ?_, fun q => ?_⟩
      · rw [if_neg q] at en
        have hE0 : ES (cn C) S (pI S 731 (nI (W + 1))) := ES.refl.pI (Or.inr rfl)
        have hR0 : Rd tp (pI S 731 (nI (W + 1))) (.ok T) := hR.ex (X := [731]) (Ex.refl.pI (by decide)) (by decide) (by decide) (by decide) (by decide) (by decide) (by decide) (by decide)
        simp (disch := omega) only [RF h, p_mK, p_mR, p_aN, p_aR, p_mI, p_mJ, p_sI, p_sJ, Option.some.injEq, exists_eq_left', true_and, and_true, na1, na3, n_add, n_mul, n_clamp, n_in, hW]
        refine Rd.nx h (hT.es hE0) hR0 (fun S1 x1 x2 => ⟨FK h, ?_⟩)
        have x1' := exR x1 (by decide)
        have hE : ES (cn C) S (wI S1 715 (cn C) (nI 5)) := (hE0.trans (ES.ex x1')).wI (Or.inl ⟨by decide, rfl⟩)
        have hB4 : BD (wI S1 715 (cn C) (nI 5)) C (5, [], 0, 0, 0, false, 0, none) := by
          have hb0 : BD0 (pI S 731 (nI (W + 1))) C := fun k => hB k
          exact (hb0.ex x1') 5
        have hT4 := hT.es hE
        have y4 : Rd tp (wI S1 715 (cn C) (nI 5)) (.ok (a_nx tp T)) := x2
        have e30 : gI (wI S1 715 (cn C) (nI 5)) 730 = nI J := by
          show gI S1 730 = _
          rw [(x1' 730 (by decide)).1]; simp [sg, hJ]
        have e31 : gI (wI S1 715 (cn C) (nI 5)) 731 = nI (W + 1) := by
          show gI S1 731 = _
          rw [(x1' 731 (by decide)).1]; simp [sg]
        have hk4 : HOK tp M m ra C (wI S1 715 (cn C) (nI 5)) K (a_win tp C (a_nx tp T)) := ⟨fun S2 y q y1 y30 y31 y2 y3 => hK.1 S2 y (en.trans q) (hE.trans y1) (by rw [if_neg (by rw [kd_win q]; decide), y30, e30]) (by rw [if_pos (kd_win q), y31, e31]) y2 y3, fun S2 e q y1 y2 => hK.2 S2 e (en.trans q) (hE.trans y1) y2⟩
        simp (disch := omega) only [RF h, p_mK, p_mR, p_aN, p_aR, p_mI, p_mJ, p_sI, p_sJ, Option.some.injEq, exists_eq_left', true_and, and_true, na1, na3, n_add, n_mul, n_clamp, n_in]
        exact r_win h hT4 y4 hB4 h12 hk4
      · rw [if_pos q] at en
        have f6 : wp_X11_fault (pM M m ra S) m 6 (fun M53 => bk_X11_body_224 m K M53) = wp_X11_fault (pM M m ra S) m (nI 6) (fun M53 => bk_X11_body_224 m K M53) := rfl
        rw [f6]
        exact r_flt (α := Tok) h hR (by decide) (by decide) (fun S1 x1 x2 => hK.2 S1 _ en (ES.ex (exR x1 (by decide))) x2)
  refine ⟨FK h, ?_⟩
  rw [p_mI, p_mI, hR.2.1.2.2.1, kR_1 _ k5]
  refine ⟨fun z => ?_, fun z => ?_⟩
  · have e : sv T = -1 := by rw [sv, if_neg z]
    rw [e] at go; exact go
  · have e : sv T = gI S 711 := by rw [sv, if_pos z, (hR.2.1.2.2.2.1 z).1]
    rw [e] at go; exact go
end RE
