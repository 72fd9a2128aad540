/-! the reference builds: the text, and what it lets stand -/
section RH
variable {M : Mm} {m : Nat} {ra : Nat → Nat} {S S0 : St} {tp : List Nat} {C : Cfg}
theorem body_J {J W : Nat} {T : Tok} {y : Slot × Tok} (h : a_body tp J W C T = .ok y) : (y.1.1 = 4 → ¬ J = 3) ∧ (y.1.1 = 5 → ¬ W = 3) := by
  unfold a_body at h
  split at h
  · have := kd_src h
    exact ⟨fun e => by omega, fun e => by omega⟩
  · split at h
    · have := kd_uni h
      exact ⟨fun e => by omega, fun e => by omega⟩
    · split at h
      · have := kd_del h
        exact ⟨fun e => by omega, fun e => by omega⟩
      · split at h
        · have := kd_hol h
          exact ⟨fun e => by omega, fun e => by omega⟩
        · split at h
          · split at h
            · cases h
            · rename_i hJ
              have := kd_joi h
              exact ⟨fun _ => hJ, fun e => by omega⟩
          · split at h
            · split at h
              · cases h
              · rename_i hW
                have := kd_win h
                exact ⟨fun e => by omega, fun _ => hW⟩
            · cases h
theorem stm_JW {J W J1 W1 : Nat} {C1 : Cfg} {T T1 : Tok} (h : a_stm tp J W C T = .ok (J1, W1, C1, T1)) (hJ : J ≤ 3) (hW : W ≤ 3) : J1 ≤ 3 ∧ W1 ≤ 3 := by
  unfold a_stm at h
  split at h
  · split at h
    · cases h
    · cases h; exact ⟨hJ, hW⟩
  · unfold a_strm at h
    split at h
    · split at h
      · cases h
      · split at h
        · cases h
        · split at h
          · cases h
          · unfold a_strm2 at h
            split at h
            · cases h
            · rename_i x9 T9 hb
              have h9 := body_J hb
              split at h
              · cases h
              · cases h
                constructor
                · split
                  · have := h9.1 (by assumption); omega
                  · exact hJ
                · split
                  · have := h9.2 (by assumption); omega
                  · exact hW
    · cases h
theorem x_65 (h : SH M m ra) {K : Int32 → Mm → Prop} {e : Flt} {n : Nat} {l : Int32} (hR : Rd tp S (.error e)) (hK : bk_X11_build_145 m K (pM M m ra S)) : lp_X11_build_65 m K (n + 1) l (pM M m ra S) := by
  rw [lp_X11_build_65]
  simp only [p_mK, FK h, p_mI, p_mJ, e_good h, true_and, and_true, not_true, not_false_eq_true, false_implies, forall_const, show ((1 : Int32) = 0) = False by decide, hR.g0]
  exact hK
/-- the text's two ends -/
def HTX (tp : List Nat) (M : Mm) (m : Nat) (ra : Nat → Nat) (S0 : St) (K : Mm → Prop) (r : Except Flt Cfg) : Prop := (∀ S1 C1, r = .ok C1 → KT S0 S1 → gI S1 712 = 0 → PQ S1 C1 → K (pM M m ra S1)) ∧ ∀ S1 e, r = .error e → KT S0 S1 → Rd tp S1 (.error e) → K (pM M m ra S1)
theorem r_txt (h : SH M m ra) {K : Int32 → Mm → Prop} (hT0 : RT S0 tp) : ∀ (n J W : Nat) (C : Cfg) (T : Tok) (S : St), n ≤ 20 → KT S0 S → Rd tp S (.ok T) → PQ S C → gI S 730 = nI J → gI S 731 = nI W → J ≤ 3 → W ≤ 3 → HTX tp M m ra S0 (bk_X11_build_145 m K) (a_text tp n (decide (n < 20)) J W C T) → lp_X11_build_65 m K (n + 2) (nI (20 - n)) (pM M m ra S) := by
  intro n
  induction n with
  | zero =>
    intro J W C T S hn hk hR hQ hJ hW hJ3 hW3 hK
    have hT := hT0.kt hk
    have hw := hR.2.2.1
    have k5 := hw.2.2.2.2.2.2.2.1
    have h12 := hQ.1.2.1
    have f6 : isKw 14 T = true ∨ (tkk T = 3 ∧ a_find C (tkw T) = none) → ¬ tkk T = 0 → bk_X11_build_115 m (lp_X11_build_65 m K 1) K 20 1 (pM M m ra S) := fun z z0 => by
      have en : a_text tp 0 (decide (0 < 20)) J W C T = flt 6 T := by
        rw [a_text, if_neg z0]
        rcases z with z | ⟨z1, z2⟩
        · rw [if_pos z]
        · rw [if_neg (fun e => by
            simp only [isKw, Bool.and_eq_true, decide_eq_true_eq] at e
            omega), if_pos z1, z2]
      refine ⟨fun q => absurd rfl q, fun _ => ⟨fun q => absurd q (by decide), fun _ => ⟨FK h, ?_⟩⟩⟩
      exact r_flt (n := 6) (α := Tok) h hR (by decide) (by decide) (fun S1 x1 x2 => x_65 h x2 (hK.2 S1 _ en (hk.trans (KT.ex (exR x1 (by decide)))) x2))
    have st : ¬ isKw 14 T = true → ¬ tkk T = 0 → (tkk T = 3 → ¬ a_find C (tkw T) = none) → bk_X11_build_115 m (lp_X11_build_65 m K 1) K 20 0 (pM M m ra S) := fun z z0 z1 => by
      have en : ∃ e, a_text tp 0 (decide (0 < 20)) J W C T = .error e ∧ a_stm tp J W C T = .error e := by
        by_cases k3 : tkk T = 3
        · cases e : a_find C (tkw T) with
          | none => exact absurd e (z1 k3)
          | some i => exact ⟨(3, tkp T), by rw [a_text, if_neg z0, if_neg z, if_pos k3, e]; rfl, by rw [a_stm, if_neg z, a_strm, if_pos k3, e]; rfl⟩
        · exact ⟨_, by rw [a_text, if_neg z0, if_neg z, if_neg k3]; rfl, by rw [a_stm, if_neg z, a_strm, if_neg k3]; rfl⟩
      obtain ⟨e, e1, e2⟩ := en
      refine ⟨fun q => absurd rfl q, fun _ => ⟨fun _ => ⟨FK h, ?_⟩, fun q => absurd rfl q⟩⟩
      refine r_stm h hT hR hQ hJ hW hJ3 hW3 ⟨fun S1 J1 W1 C1 T1 q x1 x30 x31 x2 x3 => ?_, fun S1 e' q x1 x2 => ?_⟩
      · rw [e2] at q; cases q
      · rw [e2] at q; cases q
        exact x_65 h x2 (hK.2 S1 _ e1 (hk.trans x1) x2)
    rw [lp_X11_build_65]
    simp only [p_mK, FK h, p_mI, p_mJ, e_good h, true_and, and_true, not_true, not_false_eq_true, false_implies, forall_const, show ((1 : Int32) = 0) = False by decide, hR.g1, hR.2.1.2.2.1, kR_0 _ k5, show (nI (20 - 0) = 0) = False by decide]
    refine ⟨fun z => ?_, fun z0 => ⟨FK h, ?_⟩⟩
    · exact hK.1 S C (by rw [a_text, if_pos z]) hk hR.1 hQ
    · simp only [e_isKw (k := 14) (p := 14) h (by decide) rfl hR.2.1 hw, bI_0, p_mK, FK h, true_and, e_isName h hR.2.1 hw, p_mJ]
      refine ⟨fun z => f6 (Or.inl (by simpa using z)) z0, fun z => ?_⟩
      have n14 : ¬ isKw 14 T = true := by rw [z]; decide
      by_cases k3 : tkk T = 3
      · simp only [if_pos k3, p_mK, FK h, p_mI, p_mJ, e_good h, true_and, and_true, not_true, not_false_eq_true, false_implies, forall_const, show ((1 : Int32) = 0) = False by decide, (hR.2.1.2.2.2.1 (Or.inr k3)).2]
        refine r_findName h hQ.1 (hw.ww (Or.inr k3)) ?_
        have hlt : ∀ n, a_find C (tkw T) = some n → n < 2000 := fun n hn => by have := fnd_lt _ _ hn; omega
        refine ⟨fun q => st n14 z0 (fun _ e => ?_), fun q => f6 (Or.inr ⟨k3, ?_⟩) z0⟩
        · rw [e] at q; exact absurd q (by decide)
        · have q2 : oI (a_find C (tkw T)) < 0 := Int32.not_le.mp q
          rw [oI_lt hlt] at q2; exact q2
      · simp only [if_neg k3, p_mK, FK h, p_mI, p_mJ, e_good h, true_and, and_true, not_true, not_false_eq_true, false_implies, forall_const, show ((1 : Int32) = 0) = False by decide]
        exact st n14 z0 (fun e => absurd e k3)
  | succ n ih =>
    intro J W C T S hn hk hR hQ hJ hW hJ3 hW3 hK
    have hT := hT0.kt hk
    have hw := hR.2.2.1
    have k5 := hw.2.2.2.2.2.2.2.1
    have h12 := hQ.1.2.1
    have t20 : ¬ nI (20 - (n + 1)) = 20 := fun e => by
      rw [show (20 : Int32) = nI 20 from rfl, n_eq (by omega) (by omega)] at e; omega
    have t0 : (nI (20 - (n + 1)) = 0) = (n + 1 = 20) := by
      rw [show (0 : Int32) = nI 0 from rfl, n_eq (by omega) (by omega)]
      exact propext ⟨fun e => by omega, fun e => by omega⟩
    have go : ¬ (decide (n + 1 < 20) = true ∧ tkk T = 0) → bk_X11_build_83 m (lp_X11_build_65 m K (n + 2)) K (nI (20 - (n + 1))) (pM M m ra S) := fun z0 => by
      have s1 : bk_X11_build_135 m (lp_X11_build_65 m K (n + 2)) K (nI (20 - (n + 1))) (pM M m ra S) := by
        refine ⟨FK h, ?_⟩
        rw [a_text, if_neg z0] at hK
        refine r_stm h hT hR hQ hJ hW hJ3 hW3 ⟨fun S1 J1 W1 C1 T1 q x1 x30 x31 x2 x3 => ?_, fun S1 e q x1 x2 => ?_⟩
        · rw [q] at hK
          have jw := stm_JW q hJ3 hW3
          have := ih J1 W1 C1 T1 S1 (by omega) (hk.trans x1) x2 x3 x30 x31 jw.1 jw.2 (by rw [show decide (n < 20) = true from decide_eq_true (by omega)]; exact hK)
          show lp_X11_build_65 m K (n + 2) (nI (20 - (n + 1)) + 1) (pM M m ra S1)
          rw [show nI (20 - (n + 1)) + 1 = nI (20 - n) by rw [show (1 : Int32) = nI 1 from rfl, n_add]; congr 1; omega]
          exact this
        · rw [q] at hK
          exact x_65 h x2 (hK.2 S1 e rfl (hk.trans x1) x2)
      have s2 : ∀ s0, bk_X11_build_115 m (lp_X11_build_65 m K (n + 2)) K (nI (20 - (n + 1))) s0 (pM M m ra S) := fun s0 => ⟨fun _ => s1, fun q => absurd q t20⟩
      refine ⟨FK h, ?_⟩
      simp only [e_isKw (k := 14) (p := 14) h (by decide) rfl hR.2.1 hw, bI_0, p_mK, FK h, true_and, e_isName h hR.2.1 hw, p_mJ]
      refine ⟨fun _ => s2 1, fun z => ?_⟩
      by_cases k3 : tkk T = 3
      · simp only [if_pos k3, p_mK, FK h, p_mI, p_mJ, e_good h, true_and, and_true, not_true, not_false_eq_true, false_implies, forall_const, show ((1 : Int32) = 0) = False by decide, (hR.2.1.2.2.2.1 (Or.inr k3)).2]
        exact r_findName h hQ.1 (hw.ww (Or.inr k3)) ⟨fun _ => s2 0, fun _ => s2 1⟩
      · simp only [if_neg k3, p_mK, FK h, p_mI, p_mJ, e_good h, true_and, and_true, not_true, not_false_eq_true, false_implies, forall_const, show ((1 : Int32) = 0) = False by decide]
        exact s2 0
    rw [lp_X11_build_65]
    simp only [p_mK, FK h, p_mI, p_mJ, e_good h, true_and, and_true, not_true, not_false_eq_true, false_implies, forall_const, show ((1 : Int32) = 0) = False by decide, hR.g1, hR.2.1.2.2.1, kR_0 _ k5, t0]
    refine ⟨fun z => go (fun y => by have := of_decide_eq_true y.1; omega), fun z => ⟨fun z2 => ?_, fun z2 => go (fun y => z2 y.2)⟩⟩
    exact hK.1 S C (by rw [a_text, if_pos ⟨decide_eq_true (by omega), z2⟩]) hk hR.1 hQ
/-! copies within an array -/
def cI (S : St) (f sp dp n : Nat) : St := (S.1, S.2.1, fun g k => if g = f then va_cpy (S.2.2.1 f) (S.2.2.1 f) sp dp n k else S.2.2.1 g k, S.2.2.2)
def cJ (S : St) (f sp dp n : Nat) : St := (S.1, S.2.1, S.2.2.1, fun g k => if g = f then va_cpy (S.2.2.2 f) (S.2.2.2 f) sp dp n k else S.2.2.2 g k)
theorem cg : (∀ (S : St) (f a b n g : Nat), gI (cI S f a b n) g = gI S g) ∧ (∀ (S : St) (f a b n g : Nat), gI (cJ S f a b n) g = gI S g) ∧ (∀ (S : St) (f a b n g : Nat), gJ (cI S f a b n) g = gJ S g) ∧ (∀ (S : St) (f a b n g : Nat), gJ (cJ S f a b n) g = gJ S g) ∧ (∀ (S : St) (f a b n g k : Nat), vI (cI S f a b n) g k = if g = f then (if b ≤ k ∧ k < b + n then vI S f (a + (k - b)) else vI S f k) else vI S g k) ∧ (∀ (S : St) (f a b n g k : Nat), vI (cJ S f a b n) g k = vI S g k) ∧ (∀ (S : St) (f a b n g k : Nat), vJ (cJ S f a b n) g k = if g = f then (if b ≤ k ∧ k < b + n then vJ S f (a + (k - b)) else vJ S f k) else vJ S g k) ∧ (∀ (S : St) (f a b n g k : Nat), vJ (cI S f a b n) g k = vJ S g k) := ⟨fun _ _ _ _ _ _ => rfl, fun _ _ _ _ _ _ => rfl, fun _ _ _ _ _ _ => rfl, fun _ _ _ _ _ _ => rfl, fun _ _ _ _ _ _ _ => rfl, fun _ _ _ _ _ _ _ => rfl, fun _ _ _ _ _ _ _ => rfl, fun _ _ _ _ _ _ _ => rfl⟩
theorem p_cI {f sp dp n : Nat} (h : idOf (mK M (ra f)) = f) (h0 : f ≠ 0) : cpI (pM M m ra S) (ra f) (ra f) sp dp n = pM M m ra (cI S f sp dp n) := by
  refine Prod.ext rfl (Prod.ext rfl (Prod.ext rfl (Prod.ext rfl (Prod.ext rfl (Prod.ext (funext fun a => funext fun i => ?_) rfl)))))
  show (if a = ra f then va_cpy (aI (pM M m ra S) (ra f)) (aI (pM M m ra S) (ra f)) sp dp n else aI (pM M m ra S) a) i = aI (pM M m ra (cI S f sp dp n)) a i
  by_cases ha : a = ra f
  · subst ha
    rw [if_pos rfl, p_aI h h0]
    show (if dp ≤ i ∧ i < dp + n then aI (pM M m ra S) (ra f) (sp + (i - dp)) else aI (pM M m ra S) (ra f) i) = vI (cI S f sp dp n) f i
    rw [p_aI h h0, p_aI h h0]
    simp [cg]
  · rw [if_neg ha]
    show (if rA M ra a then vI S (idOf (mK M a)) i else aI M a i) = if rA M ra a then vI (cI S f sp dp n) (idOf (mK M a)) i else aI M a i
    by_cases q : rA M ra a
    · have hf : idOf (mK M a) ≠ f := fun e => ha (by rw [q.2, e])
      rw [if_pos q, if_pos q]
      simp [cg, hf]
    · rw [if_neg q, if_neg q]
theorem p_cJ {f sp dp n : Nat} (h : idOf (mK M (ra f)) = f) (h0 : f ≠ 0) : cpJ (pM M m ra S) (ra f) (ra f) sp dp n = pM M m ra (cJ S f sp dp n) := by
  refine Prod.ext rfl (Prod.ext rfl (Prod.ext rfl (Prod.ext rfl (Prod.ext rfl (Prod.ext rfl (Prod.ext (funext fun a => funext fun i => ?_) rfl))))))
  show (if a = ra f then va_cpy (aJ (pM M m ra S) (ra f)) (aJ (pM M m ra S) (ra f)) sp dp n else aJ (pM M m ra S) a) i = aJ (pM M m ra (cJ S f sp dp n)) a i
  by_cases ha : a = ra f
  · subst ha
    rw [if_pos rfl, p_aJ h h0]
    show (if dp ≤ i ∧ i < dp + n then aJ (pM M m ra S) (ra f) (sp + (i - dp)) else aJ (pM M m ra S) (ra f) i) = vJ (cJ S f sp dp n) f i
    rw [p_aJ h h0, p_aJ h h0]
    simp [cg]
  · rw [if_neg ha]
    show (if rA M ra a then vJ S (idOf (mK M a)) i else aJ M a i) = if rA M ra a then vJ (cJ S f sp dp n) (idOf (mK M a)) i else aJ M a i
    by_cases q : rA M ra a
    · have hf : idOf (mK M a) ≠ f := fun e => ha (by rw [q.2, e])
      rw [if_pos q, if_pos q]
      simp [cg, hf]
    · rw [if_neg q, if_neg q]
theorem idF (h : SH M m ra) {f k n : Nat} (hm : (f, k, n) ∈ tabM) (hk : idOf k = f) : idOf (mK M (ra f)) = f := by rw [(h.2 (f, k, n) hm).2.1]; exact hk
theorem CF (h : SH M m ra) : (∀ S sp dp n, cpI (pM M m ra S) (ra 715) (ra 715) sp dp n = pM M m ra (cI S 715 sp dp n)) ∧ (∀ S sp dp n, cpJ (pM M m ra S) (ra 716) (ra 716) sp dp n = pM M m ra (cJ S 716 sp dp n)) ∧ (∀ S sp dp n, cpI (pM M m ra S) (ra 717) (ra 717) sp dp n = pM M m ra (cI S 717 sp dp n)) ∧ (∀ S sp dp n, cpI (pM M m ra S) (ra 718) (ra 718) sp dp n = pM M m ra (cI S 718 sp dp n)) ∧ (∀ S sp dp n, cpI (pM M m ra S) (ra 719) (ra 719) sp dp n = pM M m ra (cI S 719 sp dp n)) ∧ (∀ S sp dp n, cpJ (pM M m ra S) (ra 720) (ra 720) sp dp n = pM M m ra (cJ S 720 sp dp n)) ∧ (∀ S sp dp n, cpJ (pM M m ra S) (ra 721) (ra 721) sp dp n = pM M m ra (cJ S 721 sp dp n)) ∧ (∀ S sp dp n, cpI (pM M m ra S) (ra 722) (ra 722) sp dp n = pM M m ra (cI S 722 sp dp n)) ∧ (∀ S sp dp n, cpI (pM M m ra S) (ra 723) (ra 723) sp dp n = pM M m ra (cI S 723 sp dp n)) ∧ (∀ S sp dp n, cpI (pM M m ra S) (ra 724) (ra 724) sp dp n = pM M m ra (cI S 724 sp dp n)) ∧ (∀ S sp dp n, cpI (pM M m ra S) (ra 725) (ra 725) sp dp n = pM M m ra (cI S 725 sp dp n)) ∧ (∀ S sp dp n, cpI (pM M m ra S) (ra 726) (ra 726) sp dp n = pM M m ra (cI S 726 sp dp n)) ∧ (∀ S sp dp n, cpI (pM M m ra S) (ra 727) (ra 727) sp dp n = pM M m ra (cI S 727 sp dp n)) ∧ (∀ S sp dp n, cpJ (pM M m ra S) (ra 728) (ra 728) sp dp n = pM M m ra (cJ S 728 sp dp n)) := ⟨fun S sp dp n => p_cI (idF h (List.mem_of_getElem? (l := tabM) (i := 1) rfl : (715, 129, 24) ∈ tabM) rfl) (by decide), fun S sp dp n => p_cJ (idF h (List.mem_of_getElem? (l := tabM) (i := 2) rfl : (716, 138, 24) ∈ tabM) rfl) (by decide), fun S sp dp n => p_cI (idF h (List.mem_of_getElem? (l := tabM) (i := 3) rfl : (717, 145, 24) ∈ tabM) rfl) (by decide), fun S sp dp n => p_cI (idF h (List.mem_of_getElem? (l := tabM) (i := 4) rfl : (718, 153, 24) ∈ tabM) rfl) (by decide), fun S sp dp n => p_cI (idF h (List.mem_of_getElem? (l := tabM) (i := 5) rfl : (719, 163, 24) ∈ tabM) rfl) (by decide), fun S sp dp n => p_cJ (idF h (List.mem_of_getElem? (l := tabM) (i := 6) rfl : (720, 170, 24) ∈ tabM) rfl) (by decide), fun S sp dp n => p_cJ (idF h (List.mem_of_getElem? (l := tabM) (i := 7) rfl : (721, 178, 24) ∈ tabM) rfl) (by decide), fun S sp dp n => p_cI (idF h (List.mem_of_getElem? (l := tabM) (i := 8) rfl : (722, 185, 24) ∈ tabM) rfl) (by decide), fun S sp dp n => p_cI (idF h (List.mem_of_getElem? (l := tabM) (i := 9) rfl : (723, 193, 24) ∈ tabM) rfl) (by decide), fun S sp dp n => p_cI (idF h (List.mem_of_getElem? (l := tabM) (i := 10) rfl : (724, 201, 24) ∈ tabM) rfl) (by decide), fun S sp dp n => p_cI (idF h (List.mem_of_getElem? (l := tabM) (i := 11) rfl : (725, 209, 96) ∈ tabM) rfl) (by decide), fun S sp dp n => p_cI (idF h (List.mem_of_getElem? (l := tabM) (i := 12) rfl : (726, 217, 24) ∈ tabM) rfl) (by decide), fun S sp dp n => p_cI (idF h (List.mem_of_getElem? (l := tabM) (i := 13) rfl : (727, 227, 8) ∈ tabM) rfl) (by decide), fun S sp dp n => p_cJ (idF h (List.mem_of_getElem? (l := tabM) (i := 14) rfl : (728, 234, 8) ∈ tabM) rfl) (by decide)⟩
def cpyS (S : St) : St := (cJ (cI (cI (cI (cI (cI (cI (cJ (cJ (cI (cI (cI (cJ (cI S 715 0 12 12) 716 0 12 12) 717 0 12 12) 718 0 12 12) 719 0 12 12) 720 0 12 12) 721 0 12 12) 722 0 12 12) 723 0 12 12) 724 0 12 12) 725 0 48 48) 726 0 12 12) 727 0 4 4) 728 0 4 4)
end RH
