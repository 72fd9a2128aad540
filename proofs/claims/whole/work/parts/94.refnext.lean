/-! the reference reads tokens -/
def tkF : List Nat := [707, 708, 709, 710, 711]
def RT (S : St) (tp : List Nat) : Prop := gI S 706 = nI tp.length ∧ tp.length ≤ 600 ∧ ∀ i c, tp[i]? = some c → c < 256 ∧ vI S 705 i = sgb c
theorem RT.ex {X : List Nat} {S S1 : St} {tp : List Nat} (h : RT S tp) (hx : Ex X S S1) (h5 : ¬ 705 ∈ X) (h6 : ¬ 706 ∈ X) : RT S1 tp := by
  unfold RT
  rw [(hx 706 h6).1, (hx 705 h5).2.2.1]; exact h
def btA (tp : List Nat) (p : Nat) : Int32 := match tp[p]? with
  | none => 0
  | some c => sgb c
/-- the kinds as the reference numbers them -/
def kR (k : Nat) : Int32 := if k = 0 then 0 else if k = 1 then 4 else if k = 2 then 1 else if k = 3 then 1 else if k = 4 then 2 else 3
def TKR (S : St) (T : Tok) : Prop := gI S 707 = nI (tkn T) ∧ gI S 709 = nI (tkp T) ∧ gI S 708 = kR (tkk T) ∧ (tkk T = 2 ∨ tkk T = 3 → gI S 711 = kwr (tkw T) 15 ∧ gJ S 710 = w5 (tkw T)) ∧ (tkk T = 4 → gJ S 710 = dv (tkw T)) ∧ (tkk T = 5 → ∀ c, tkw T = [c] → gJ S 710 = lN c)
section RN
variable {M : Mm} {m : Nat} {ra : Nat → Nat} {S S0 : St} {tp : List Nat}
theorem e_byteAt (h : SH M m ra) {K : Int32 → Mm → Prop} {p : Nat} (hT : RT S tp) (hp : p < 2000) : wp_X11_byteAt (pM M m ra S) m (nI p) K = K (btA tp p) (pM M m ra S) := by
  have h6 := hT.2.1
  by_cases a : tp.length ≤ p
  · have e : tp[p]? = none := List.getElem?_eq_none a
    simp (disch := omega) only [wp_X11_byteAt, bk_X11_byteAt_18, RF h, p_mK, p_mR, p_aN, p_aR, p_mI, p_mJ, p_sI, p_sJ, Option.some.injEq, exists_eq_left', true_and, and_true, na1, na3, n_add, n_mul, n_clamp, n_in, hT.1, n_le, a, btA, e, not_true, false_implies, forall_const]
  · obtain ⟨c, e⟩ : ∃ c, tp[p]? = some c := ⟨_, List.getElem?_eq_getElem (by omega)⟩
    have e2 := (hT.2.2 p c e).2
    simp (disch := omega) only [wp_X11_byteAt, bk_X11_byteAt_18, RF h, p_mK, p_mR, p_aN, p_aR, p_mI, p_mJ, p_sI, p_sJ, Option.some.injEq, exists_eq_left', true_and, and_true, na1, na3, n_add, n_mul, n_clamp, n_in, hT.1, n_le, a, btA, e, e2, not_false_eq_true, false_implies, forall_const]
theorem e_letter {K : Int32 → Mm → Prop} {c : Nat} {M : Mm} (hc : c < 256) : wp_X11_isLetter M (sgb c) K = K (bI (isLow c)) M := by
  simp only [wp_X11_isLetter, bk_X11_isLetter_16, bk_X11_isLetter_17, propext (sg_lo c hc), propext (sg_hi c hc)]
  by_cases a : c < 97
  · simp [a, isLow, show ¬ 97 ≤ c by omega, bI, bz]
  · by_cases b : 128 ≤ c
    · simp [a, b, isLow, show ¬ c ≤ 122 by omega, bI, bz]
    · by_cases d : 122 < c
      · simp [a, b, d, isLow, show ¬ c ≤ 122 by omega, bI, bz, show c < 128 by omega]
      · simp [a, b, d, isLow, show 97 ≤ c by omega, show c ≤ 122 by omega, bI, bz]
theorem e_digit {K : Int32 → Mm → Prop} {c : Nat} {M : Mm} (hc : c < 256) : wp_X11_isDigit M (sgb c) K = K (bI (isDig c)) M := by
  simp only [wp_X11_isDigit, bk_X11_isDigit_16, bk_X11_isDigit_17, propext (sg_d0 c hc), propext (sg_d9 c hc)]
  by_cases a : c < 48
  · simp [a, isDig, show ¬ 48 ≤ c by omega, bI, bz]
  · by_cases b : 128 ≤ c
    · simp [a, b, isDig, show ¬ c ≤ 57 by omega, bI, bz]
    · by_cases d : 57 < c
      · simp [a, b, d, isDig, show ¬ c ≤ 57 by omega, bI, bz, show c < 128 by omega]
      · simp [a, b, d, isDig, show 48 ≤ c by omega, show c ≤ 57 by omega, bI, bz]
theorem e_letter0 {K : Int32 → Mm → Prop} {M : Mm} : wp_X11_isLetter M 0 K = K 0 M := by
  have := e_letter (K := K) (M := M) (c := 0) (by decide)
  exact this
theorem e_digit0 {K : Int32 → Mm → Prop} {M : Mm} : wp_X11_isDigit M 0 K = K 0 M := by
  have := e_digit (K := K) (M := M) (c := 0) (by decide)
  exact this
theorem dr_cons {r : List Nat} {p c : Nat} (hd : tp.drop p = c :: r) : p < tp.length ∧ tp[p]? = some c ∧ tp.drop (p + 1) = r := by
  have hil : p < tp.length := by
    refine Classical.byContradiction fun z => ?_
    rw [List.drop_eq_nil_of_le (by omega)] at hd
    cases hd
  refine ⟨hil, ?_, ?_⟩
  · have := congrArg List.head? hd
    rw [List.head?_drop] at this
    exact this
  · rw [← List.tail_drop, hd]; rfl
theorem dr_nil {p : Nat} (hd : tp.drop p = []) : tp.length ≤ p := List.drop_eq_nil_iff.mp hd
theorem bt_some {p c : Nat} (h : tp[p]? = some c) : btA tp p = sgb c := by rw [btA, h]
theorem bt_none {p : Nat} (h : tp.length ≤ p) : btA tp p = 0 := by rw [btA, List.getElem?_eq_none h]
theorem r_nx9 (h : SH M m ra) {K : Mm → Prop} (hT : RT S0 tp) : ∀ (r : List Nat) (p : Nat) (S : St), tp.drop p = r → p ≤ tp.length → Ex tkF S0 S → gI S 707 = nI p → (∀ S1, Ex tkF S0 S1 → gI S1 707 = nI (p + (r.takeWhile isBl).length) → bk_X11_next_66 m K (btA tp (p + (r.takeWhile isBl).length)) (pM M m ra S1)) → lp_X11_next_9 m K (r.length + 1) (btA tp p) (pM M m ra S) := by
  intro r
  have h6 := hT.2.1
  induction r with
  | nil =>
    intro p S hd hp hx e7 hK
    have hl := dr_nil hd
    have hT1 := hT.ex hx (by decide) (by decide)
    have := hK S hx (by simpa using e7)
    rw [lp_X11_next_9]
    simp (disch := omega) only [RF h, p_mK, p_mR, p_aN, p_aR, p_mI, p_mJ, p_sI, p_sJ, Option.some.injEq, exists_eq_left', true_and, and_true, na1, na3, n_add, n_mul, n_clamp, n_in, hT1.1, e7, n_le, hl, not_true, false_implies, forall_const]
    simpa using this
  | cons c r ih =>
    intro p S hd hp hx e7 hK
    obtain ⟨hl, hc, hd2⟩ := dr_cons hd
    have hT1 := hT.ex hx (by decide) (by decide)
    have c6 := (hT.2.2 p c hc).1
    have hx2 : Ex tkF S0 (pI S 707 (nI (p + 1))) := hx.pI (by decide)
    have hT2 := hT.ex hx2 (by decide) (by decide)
    obtain ⟨e9, e10, e13, e32, -⟩ := sg_e c c6
    rw [List.length_cons, lp_X11_next_9, bt_some hc]
    by_cases b : isBl c = true
    · have hK2 : ∀ S1, Ex tkF S0 S1 → gI S1 707 = nI (p + 1 + (r.takeWhile isBl).length) → bk_X11_next_66 m K (btA tp (p + 1 + (r.takeWhile isBl).length)) (pM M m ra S1) := by
        intro S1 x1 x2
        rw [List.takeWhile_cons, if_pos b, List.length_cons] at hK
        rw [show p + 1 + (r.takeWhile isBl).length = p + ((r.takeWhile isBl).length + 1) by omega] at x2 ⊢
        exact hK S1 x1 x2
      have go : bk_X11_next_44 m (lp_X11_next_9 m K (r.length + 1)) K (pM M m ra S) := by
        have := ih (p + 1) (pI S 707 (nI (p + 1))) hd2 (by omega) hx2 (by simp [sg]) hK2
        simp (disch := omega) only [bk_X11_next_44, RF h, p_mK, p_mR, p_aN, p_aR, p_mI, p_mJ, p_sI, p_sJ, Option.some.injEq, exists_eq_left', true_and, and_true, na1, na3, n_add, n_mul, n_clamp, n_in, e7, sg, if_true, e_byteAt h hT2]
        exact this
      simp (disch := omega) only [RF h, p_mK, p_mR, p_aN, p_aR, p_mI, p_mJ, p_sI, p_sJ, Option.some.injEq, exists_eq_left', true_and, and_true, na1, na3, n_add, n_mul, n_clamp, n_in, hT1.1, e7, n_le, show ¬ tp.length ≤ p by omega, not_false_eq_true, false_implies, forall_const, propext e9, propext e10, propext e13, propext e32]
      simp only [isBl, Bool.or_eq_true, decide_eq_true_eq] at b
      refine ⟨fun _ => go, fun a9 => ⟨fun _ => go, fun a10 => ⟨fun _ => go, fun a13 => ⟨fun a32 => ?_, fun _ => go⟩⟩⟩⟩
      omega
    · have := hK S hx (by rw [List.takeWhile_cons, if_neg b]; simpa using e7)
      rw [List.takeWhile_cons, if_neg b] at this
      have this2 : bk_X11_next_66 m K (sgb c) (pM M m ra S) := by
        rw [← bt_some hc]; simpa using this
      simp (disch := omega) only [RF h, p_mK, p_mR, p_aN, p_aR, p_mI, p_mJ, p_sI, p_sJ, Option.some.injEq, exists_eq_left', true_and, and_true, na1, na3, n_add, n_mul, n_clamp, n_in, hT1.1, e7, n_le, show ¬ tp.length ≤ p by omega, not_false_eq_true, false_implies, forall_const, propext e9, propext e10, propext e13, propext e32]
      simp only [isBl, Bool.or_eq_true, decide_eq_true_eq] at b
      refine ⟨fun z => ?_, fun _ => ⟨fun z => ?_, fun _ => ⟨fun z => ?_, fun _ => ⟨fun _ => this2, fun z => ?_⟩⟩⟩⟩ <;> omega
/-! keywords in the literal -/
def KST : List Nat := [0, 7, 11, 17, 23, 29, 35, 41, 46, 51, 56, 59, 66, 71, 76, 82]
theorem kst_t : ∀ k, k < 15 → six 0 32 (nI (KST.getD k 0)) = nI (KST.getD (k + 1) 0 - 1) ∧ KST.getD (k + 1) 0 - 1 - KST.getD k 0 = (KWS.getD k []).length ∧ KST.getD k 0 < 82 ∧ KST.getD k 0 + (KWS.getD k []).length + 1 = KST.getD (k + 1) 0 ∧ KST.getD (k + 1) 0 ≤ 82 := by decide +kernel
theorem kst_b : ∀ k, k < 15 → ∀ i, i < (KWS.getD k []).length → sby 0 (KST.getD k 0 + i) = nI ((KWS.getD k []).getD i 0) ∧ (KWS.getD k []).getD i 0 < 128 := by decide +kernel
theorem slen0 : slen 0 = 82 := by decide
/-- the tape holds w from pl on -/
def OnT (tp : List Nat) (pl : Nat) (w : List Nat) : Prop := ∀ i c, w[i]? = some c → tp[pl + i]? = some c
theorem r_fk41 (h : SH M m ra) {K : Mm → Prop} {R4 : Int32 → Int32 → Int32 → Mm → Prop} {k pl : Nat} {w : List Nat} {l4 : Int32} (hk : k < 15) (hT : RT S tp) (hp : gI S 709 = nI pl) (hl : pl + w.length ≤ 600) (hw : OnT tp pl w) (hn : w.length = (KWS.getD k []).length) (hyes : KWS.getD k [] = w → bk_X11_findKeyword_88 m R4 K (nI w.length) (nI k) l4 1 (pM M m ra S)) (hno : ¬ KWS.getD k [] = w → bk_X11_findKeyword_88 m R4 K (nI w.length) (nI k) l4 0 (pM M m ra S)) : ∀ (j i : Nat), i + j = w.length → (KWS.getD k []).take i = w.take i → lp_X11_findKeyword_41 m R4 K (j + 2) (nI w.length) (nI k) (nI (KST.getD k 0)) l4 1 (nI i) (pM M m ra S) := by
  intro j
  have h6 := hT.2.1
  obtain ⟨t1, t2, t3, t4, t5⟩ := kst_t k hk
  induction j with
  | zero =>
    intro i hi ht
    rw [lp_X11_findKeyword_41]
    have e : KWS.getD k [] = w := by
      rw [List.take_of_length_le (by omega), List.take_of_length_le (by omega)] at ht; exact ht
    simp (disch := omega) only [n_le, show w.length ≤ i by omega, forall_const, not_true, false_implies, and_true]
    exact hyes e
  | succ j ih =>
    intro i hi ht
    have hil : i < w.length := by omega
    obtain ⟨c, hc⟩ : ∃ c, w[i]? = some c := ⟨_, List.getElem?_eq_getElem hil⟩
    have hb := kst_b k hk i (by omega)
    have hq : (KWS.getD k [])[i]? = some ((KWS.getD k []).getD i 0) := by
      rw [List.getD_eq_getElem?_getD (l := KWS.getD k []), List.getElem?_eq_getElem (by omega)]; rfl
    have htc := hw i c hc
    have c6 := (hT.2.2 _ c htc).1
    rw [lp_X11_findKeyword_41]
    simp (disch := omega) only [RF h, p_mK, p_mR, p_aN, p_aR, p_mI, p_mJ, p_sI, p_sJ, Option.some.injEq, exists_eq_left', true_and, and_true, na1, na3, n_add, n_mul, n_clamp, n_in, hp, n_le, show ¬ w.length ≤ i by omega, not_false_eq_true, false_implies, forall_const, show ((1 : Int32) = 0) = False by decide, slen0, e_byteAt h hT, bt_some htc, hb.1, bk_X11_findKeyword_80]
    refine ⟨fun z => ?_, fun z => ?_⟩
    · have ne : ¬ KWS.getD k [] = w := fun e => z (by
        rw [e] at hq hb
        rw [hq] at hc
        rw [e, Option.some.inj hc, sg_s (by rw [← Option.some.inj hc]; exact hb.2)])
      rw [lp_X11_findKeyword_41]
      have := hno ne
      by_cases q : w.length ≤ i + 1
      · simp (disch := omega) only [n_le, q, forall_const, not_true, false_implies, and_true]; exact this
      · simp (disch := omega) only [n_le, q, forall_const, not_false_eq_true, not_true, false_implies, and_true, true_and]; exact this
    · have ec : (KWS.getD k []).getD i 0 = c := by
        by_cases c128 : c < 128
        · rw [sg_s c128, n_eq (by omega) (by omega)] at z; exact z
        · exfalso
          have h9 : ∀ c, c < 256 → ¬ c < 128 → ∀ d, d < 128 → ¬ nI d = sgb c := by decide +kernel
          exact h9 c c6 c128 _ hb.2 z
      refine ih (i + 1) (by omega) ?_
      rw [List.take_add_one, List.take_add_one, ht, hq, hc, ec]
theorem r_fk4 (h : SH M m ra) {K : Mm → Prop} {pl : Nat} {w : List Nat} (hT : RT S0 tp) (hl : pl + w.length ≤ 600) (hw : OnT tp pl w) : ∀ (j k : Nat) (S : St), k + j = 15 → Ex [711] S0 S → gI S 709 = nI pl → gI S 711 = kwr w k → (∀ S1, Ex [711] S0 S1 → gI S1 711 = kwr w 15 → K (pM M m ra S1)) → lp_X11_findKeyword_4 m K (j + 1) (nI w.length) (nI k) (nI (KST.getD k 0)) (pM M m ra S) := by
  intro j
  induction j with
  | zero =>
    intro k S hk hx hp h11 hK
    have e : k = 15 := by omega
    subst e
    rw [lp_X11_findKeyword_4]
    have := hK S hx h11
    simp only [slen0, show KST.getD 15 0 = 82 by decide, show (nI 82 ≤ nI 82) = True by decide, forall_const, not_true, false_implies, and_true]
    exact this
  | succ j ih =>
    intro k S hk hx hp h11 hK
    have hk15 : k < 15 := by omega
    obtain ⟨t1, t2, t3, t4, t5⟩ := kst_t k hk15
    have hT1 := hT.ex hx (by decide) (by decide)
    have nx : ∀ v, v = kwr w (k + 1) → lp_X11_findKeyword_4 m K (j + 1) (nI w.length) (nI (k + 1)) (nI (KST.getD (k + 1) 0)) (pM M m ra (pI S 711 v)) := fun v hv => by
      refine ih (k + 1) _ (by omega) (hx.pI (by decide)) (by simp [sg, hp]) (by simp [sg, hv]) hK
    have yes : KWS.getD k [] = w → bk_X11_findKeyword_88 m (lp_X11_findKeyword_4 m K (j + 1)) K (nI w.length) (nI k) (nI (KST.getD (k + 1) 0 - 1)) 1 (pM M m ra S) := fun e => by
      have := nx (nI k) (by rw [kwr, if_pos e])
      rw [← show KST.getD (k + 1) 0 - 1 + 1 = KST.getD (k + 1) 0 by omega] at this
      simp (disch := omega) only [bk_X11_findKeyword_88, bk_X11_findKeyword_102, RF h, p_mK, p_mR, p_aN, p_aR, p_mI, p_mJ, p_sI, p_sJ, Option.some.injEq, exists_eq_left', true_and, and_true, na1, na3, n_add, n_mul, n_clamp, n_in, show ((1 : Int32) = 0) = False by decide, false_implies, not_false_eq_true, forall_const]
      exact this
    have no : ¬ KWS.getD k [] = w → bk_X11_findKeyword_88 m (lp_X11_findKeyword_4 m K (j + 1)) K (nI w.length) (nI k) (nI (KST.getD (k + 1) 0 - 1)) 0 (pM M m ra S) := fun e => by
      have := nx (kwr w k) (by rw [kwr, if_neg e])
      rw [← show KST.getD (k + 1) 0 - 1 + 1 = KST.getD (k + 1) 0 by omega] at this
      simp (disch := omega) only [bk_X11_findKeyword_88, bk_X11_findKeyword_102, RF h, p_mK, p_mR, p_aN, p_aR, p_mI, p_mJ, p_sI, p_sJ, Option.some.injEq, exists_eq_left', true_and, and_true, na1, na3, n_add, n_mul, n_clamp, n_in, h11, not_true, false_implies, forall_const]
      exact this
    rw [lp_X11_findKeyword_4]
    simp (disch := omega) only [slen0, n_le, show ¬ 82 ≤ KST.getD k 0 by omega, not_false_eq_true, false_implies, forall_const, true_and, t1, n_sub, show (nI (KST.getD k 0) < 0) = False by
      have : ∀ k, k < 15 → (nI (KST.getD k 0) < 0) = False := by
        have h9 : ∀ k, k < 15 → ¬ nI (KST.getD k 0) < 0 := by decide +kernel
        exact fun k hk => eq_false (h9 k hk)
      exact this k hk15]
    rw [t2]
    by_cases q : (KWS.getD k []).length = w.length
    · simp only [q, not_true, false_implies, forall_const, true_and, bk_X11_findKeyword_36]
      exact ⟨_, r_fk41 h hk15 hT1 hp hl hw q.symm yes no w.length 0 (by omega) rfl⟩
    · have hlt : w.length < 2000 := by omega
      have hlq : (KWS.getD k []).length < 2000 := by omega
      simp (disch := omega) only [n_eq, q, not_false_eq_true, false_implies, forall_const, and_true, bk_X11_findKeyword_36]
      refine ⟨1, ?_⟩
      rw [lp_X11_findKeyword_41]
      have := no (fun e => q (by rw [e]))
      by_cases z : (nI w.length) ≤ 0
      · simp only [z, forall_const, not_true, false_implies, and_true]; exact this
      · simp only [z, forall_const, not_true, not_false_eq_true, false_implies, and_true, true_and]; exact this
theorem r_fk (h : SH M m ra) {K : Mm → Prop} {pl : Nat} {w : List Nat} (hT : RT S tp) (hl : pl + w.length ≤ 600) (hw : OnT tp pl w) (hp : gI S 709 = nI pl) (h11 : gI S 711 = -1) (hK : ∀ S1, Ex [711] S S1 → gI S1 711 = kwr w 15 → K (pM M m ra S1)) : wp_X11_findKeyword (pM M m ra S) m (nI w.length) K := ⟨_, r_fk4 h hT hl hw 15 0 S rfl Ex.refl hp h11 hK⟩
theorem onT_snoc {pl c : Nat} {w : List Nat} (hw : OnT tp pl w) (hc : tp[pl + w.length]? = some c) : OnT tp pl (w ++ [c]) := by
  intro i d hi
  by_cases a : i < w.length
  · rw [List.getElem?_append_left a] at hi; exact hw i d hi
  · rw [List.getElem?_append_right (by omega)] at hi
    by_cases b : i = w.length
    · subst b
      simp at hi
      rw [← hi]; exact hc
    · rw [List.getElem?_eq_none (by simp; omega)] at hi; cases hi
theorem r_110 (h : SH M m ra) {K : Mm → Prop} {pl : Nat} (hT : RT S0 tp) : ∀ (r : List Nat) (w : List Nat) (S : St), tp.drop (pl + w.length) = r → pl + w.length ≤ tp.length → OnT tp pl w → Ex tkF S0 S → gI S 707 = nI (pl + w.length) → gI S 709 = nI pl → gI S 711 = -1 → (w.length ≤ 8 → gJ S 710 = w5 w) → (∀ S1 w1, w1 = w ++ r.takeWhile isLow → OnT tp pl w1 → pl + w1.length ≤ tp.length → Ex tkF S0 S1 → gI S1 707 = nI (pl + w1.length) → gI S1 709 = nI pl → gI S1 711 = -1 → (w1.length ≤ 8 → gJ S1 710 = w5 w1) → bk_X11_next_190 m K (nI w1.length) (if 8 < w1.length then 4 else 1) (some m) (pM M m ra S1)) → lp_X11_next_110 m K (r.length + 1) (nI w.length) (pM M m ra S) := by
  intro r
  have h6 := hT.2.1
  induction r with
  | nil =>
    intro w S hd hp hw hx e7 e9 e11 e10 hK
    have hl := dr_nil hd
    have hT1 := hT.ex hx (by decide) (by decide)
    have := hK S w (by simp) hw hp hx e7 e9 e11 e10
    rw [lp_X11_next_110]
    simp (disch := omega) only [RF h, p_mK, p_mR, p_aN, p_aR, p_mI, p_mJ, p_sI, p_sJ, Option.some.injEq, exists_eq_left', true_and, and_true, na1, na3, n_add, n_mul, n_clamp, n_in, e7, e_byteAt h hT1, bt_none hl, e_letter0, not_true, false_implies, forall_const]
    by_cases a : 8 < w.length
    · rw [if_pos a] at this
      simp (disch := omega) only [show (nI w.length ≤ 8) = False from eq_false (fun z => by
        have z2 : nI w.length ≤ nI 8 := z
        rw [n_le (by omega) (by omega)] at z2; omega), false_implies, not_false_eq_true, forall_const, true_and]
      exact this
    · rw [if_neg a] at this
      simp (disch := omega) only [show (nI w.length ≤ 8) = True from eq_true (by
        show nI w.length ≤ nI 8
        rw [n_le (by omega) (by omega)]; omega), false_implies, not_true, forall_const, and_true]
      exact this
  | cons c r ih =>
    intro w S hd hp hw hx e7 e9 e11 e10 hK
    obtain ⟨hl, hc, hd2⟩ := dr_cons hd
    have hT1 := hT.ex hx (by decide) (by decide)
    have c6 := (hT.2.2 _ c hc).1
    have e8 : (8 ≤ nI w.length) = (8 ≤ w.length) := by
      show (nI 8 ≤ nI w.length) = _
      rw [n_le (by omega) (by omega)]
    rw [List.length_cons, lp_X11_next_110]
    simp (disch := omega) only [RF h, p_mK, p_mR, p_aN, p_aR, p_mI, p_mJ, p_sI, p_sJ, Option.some.injEq, exists_eq_left', true_and, and_true, na1, na3, n_add, n_mul, n_clamp, n_in, e7, e_byteAt h hT1, bt_some hc, e_letter c6, bI_0, e8, bk_X11_next_159]
    by_cases b : isLow c = true
    · have b2 := isLow_i b
      simp only [b, show (true = false) = False by simp, not_false_eq_true, false_implies, forall_const, true_and]
      have hn : (w ++ [c]).length = w.length + 1 := by simp
      have go : ∀ v, ((w ++ [c]).length ≤ 8 → v = w5 (w ++ [c])) → lp_X11_next_110 m K (r.length + 1) (nI (w.length + 1)) (pM M m ra (pI (pJ S 710 v) 707 (nI (pl + w.length + 1)))) := fun v hv => by
        have hK2 : ∀ S1 w1, w1 = (w ++ [c]) ++ r.takeWhile isLow → OnT tp pl w1 → pl + w1.length ≤ tp.length → Ex tkF S0 S1 → gI S1 707 = nI (pl + w1.length) → gI S1 709 = nI pl → gI S1 711 = -1 → (w1.length ≤ 8 → gJ S1 710 = w5 w1) → bk_X11_next_190 m K (nI w1.length) (if 8 < w1.length then 4 else 1) (some m) (pM M m ra S1) := fun S1 w1 hw1 => hK S1 w1 (by rw [hw1, List.takeWhile_cons, if_pos b, List.append_assoc]; rfl)
        have := ih (w ++ [c]) (pI (pJ S 710 v) 707 (nI (pl + w.length + 1))) (by rw [hn, ← Nat.add_assoc]; exact hd2) (by rw [hn]; omega) (onT_snoc hw hc) ((hx.pJ (by decide)).pI (by decide)) (by rw [hn]; simp [sg]; rw [Nat.add_assoc]) (by simp [sg, e9]) (by simp [sg, e11]) (by simpa [sg] using hv) hK2
        rw [hn] at this; exact this
      simp (disch := omega) only [sg, if_true, if_false, show (707 = 710) = False by decide, e7, na1, na3, n_add, n_mul, n_clamp, n_in]
      refine ⟨fun z => go _ (fun q => by rw [hn] at q; omega), fun z => go _ (fun _ => ?_)⟩
      rw [e10 (by omega), w5_s, sg_s (by omega), show (nI c - 97 + 1) = nI (c - 96) by
        rw [show (97 : Int32) = nI 97 from rfl, n_sub (by omega), show (1 : Int32) = nI 1 from rfl, n_add]; congr 1; omega, j_nI (by omega)]
    · have hn : isLow c = false := by simpa using b
      have := hK S w (by rw [List.takeWhile_cons, if_neg b]; simp) hw hp hx e7 e9 e11 e10
      simp only [hn, not_true, false_implies, forall_const, and_true]
      by_cases a : 8 < w.length
      · rw [if_pos a] at this
        simp (disch := omega) only [show (nI w.length ≤ 8) = False from eq_false (fun z => by
          have z2 : nI w.length ≤ nI 8 := z
          rw [n_le (by omega) (by omega)] at z2; omega), false_implies, not_false_eq_true, forall_const, true_and]
        exact this
      · rw [if_neg a] at this
        simp (disch := omega) only [show (nI w.length ≤ 8) = True from eq_true (by
          show nI w.length ≤ nI 8
          rw [n_le (by omega) (by omega)]; omega), false_implies, not_true, forall_const, and_true]
        exact this
theorem r_208 (h : SH M m ra) {K : Mm → Prop} {pl : Nat} (hT : RT S0 tp) : ∀ (r : List Nat) (w : List Nat) (S : St), tp.drop (pl + w.length) = r → pl + w.length ≤ tp.length → Ex tkF S0 S → gI S 707 = nI (pl + w.length) → gI S 709 = nI pl → (w.length ≤ 18 → gJ S 710 = dv w) → (∀ S1 w1, w1 = w ++ r.takeWhile isDig → Ex tkF S0 S1 → gI S1 707 = nI (pl + w1.length) → gI S1 709 = nI pl → (w1.length ≤ 18 → gJ S1 710 = dv w1) → bk_X11_next_289 m K (if 18 < w1.length then 4 else 2) (some m) (pM M m ra S1)) → lp_X11_next_208 m K (r.length + 1) (nI w.length) (pM M m ra S) := by
  intro r
  have h6 := hT.2.1
  induction r with
  | nil =>
    intro w S hd hp hx e7 e9 e10 hK
    have hl := dr_nil hd
    have hT1 := hT.ex hx (by decide) (by decide)
    have := hK S w (by simp) hx e7 e9 e10
    rw [lp_X11_next_208]
    simp (disch := omega) only [RF h, p_mK, p_mR, p_aN, p_aR, p_mI, p_mJ, p_sI, p_sJ, Option.some.injEq, exists_eq_left', true_and, and_true, na1, na3, n_add, n_mul, n_clamp, n_in, e7, e_byteAt h hT1, bt_none hl, e_digit0, not_true, false_implies, forall_const]
    by_cases a : 18 < w.length
    · rw [if_pos a] at this
      simp (disch := omega) only [show (nI w.length ≤ 18) = False from eq_false (fun z => by
        have z2 : nI w.length ≤ nI 18 := z
        rw [n_le (by omega) (by omega)] at z2; omega), false_implies, not_false_eq_true, forall_const, true_and]
      exact this
    · rw [if_neg a] at this
      simp (disch := omega) only [show (nI w.length ≤ 18) = True from eq_true (by
        show nI w.length ≤ nI 18
        rw [n_le (by omega) (by omega)]; omega), false_implies, not_true, forall_const, and_true]
      exact this
  | cons c r ih =>
    intro w S hd hp hx e7 e9 e10 hK
    obtain ⟨hl, hc, hd2⟩ := dr_cons hd
    have hT1 := hT.ex hx (by decide) (by decide)
    have c6 := (hT.2.2 _ c hc).1
    have e8 : (18 ≤ nI w.length) = (18 ≤ w.length) := by
      show (nI 18 ≤ nI w.length) = _
      rw [n_le (by omega) (by omega)]
    rw [List.length_cons, lp_X11_next_208]
    simp (disch := omega) only [RF h, p_mK, p_mR, p_aN, p_aR, p_mI, p_mJ, p_sI, p_sJ, Option.some.injEq, exists_eq_left', true_and, and_true, na1, na3, n_add, n_mul, n_clamp, n_in, e7, e_byteAt h hT1, bt_some hc, e_digit c6, bI_0, e8, bk_X11_next_258]
    by_cases b : isDig c = true
    · have b2 := isDig_i b
      simp only [b, show (true = false) = False by simp, not_false_eq_true, false_implies, forall_const, true_and]
      have hn : (w ++ [c]).length = w.length + 1 := by simp
      have go : ∀ v, ((w ++ [c]).length ≤ 18 → v = dv (w ++ [c])) → lp_X11_next_208 m K (r.length + 1) (nI (w.length + 1)) (pM M m ra (pI (pJ S 710 v) 707 (nI (pl + w.length + 1)))) := fun v hv => by
        have hK2 : ∀ S1 w1, w1 = (w ++ [c]) ++ r.takeWhile isDig → Ex tkF S0 S1 → gI S1 707 = nI (pl + w1.length) → gI S1 709 = nI pl → (w1.length ≤ 18 → gJ S1 710 = dv w1) → bk_X11_next_289 m K (if 18 < w1.length then 4 else 2) (some m) (pM M m ra S1) := fun S1 w1 hw1 => hK S1 w1 (by rw [hw1, List.takeWhile_cons, if_pos b, List.append_assoc]; rfl)
        have := ih (w ++ [c]) (pI (pJ S 710 v) 707 (nI (pl + w.length + 1))) (by rw [hn, ← Nat.add_assoc]; exact hd2) (by rw [hn]; omega) ((hx.pJ (by decide)).pI (by decide)) (by rw [hn]; simp [sg]; rw [Nat.add_assoc]) (by simp [sg, e9]) (by simpa [sg] using hv) hK2
        rw [hn] at this; exact this
      simp (disch := omega) only [sg, if_true, if_false, show (707 = 710) = False by decide, e7, na1, na3, n_add, n_mul, n_clamp, n_in]
      refine ⟨fun z => go _ (fun q => by rw [hn] at q; omega), fun z => go _ (fun _ => ?_)⟩
      have e48 : lN (c - 48) = lN c - 48 := by
        apply Int64.toInt_inj.mp
        rw [j_sub (by rw [pf_lI (by omega)]; show _ ≤ (c : Int) - 48; omega) (by rw [pf_lI (by omega)]; show (c : Int) - 48 < _; omega), pf_lI (by omega), pf_lI (by omega)]
        show ((c - 48 : Nat) : Int) = (c : Int) - 48
        omega
      rw [e10 (by omega), dv_s, sg_s (by omega), j_nI (by omega), e48, Int64.mul_comm, Int64.sub_eq_add_neg, Int64.sub_eq_add_neg, Int64.add_assoc]
    · have hn : isDig c = false := by simpa using b
      have := hK S w (by rw [List.takeWhile_cons, if_neg b]; simp) hx e7 e9 e10
      simp only [hn, not_true, false_implies, forall_const, and_true]
      by_cases a : 18 < w.length
      · rw [if_pos a] at this
        simp (disch := omega) only [show (nI w.length ≤ 18) = False from eq_false (fun z => by
          have z2 : nI w.length ≤ nI 18 := z
          rw [n_le (by omega) (by omega)] at z2; omega), false_implies, not_false_eq_true, forall_const, true_and]
        exact this
      · rw [if_neg a] at this
        simp (disch := omega) only [show (nI w.length ≤ 18) = True from eq_true (by
          show nI w.length ≤ nI 18
          rw [n_le (by omega) (by omega)]; omega), false_implies, not_true, forall_const, and_true]
        exact this
theorem r_66 (h : SH M m ra) {K : Mm → Prop} {p : Nat} (hT : RT S0 tp) (hp : p ≤ tp.length) (hx : Ex tkF S0 S) (e7 : gI S 707 = nI p) (hK : ∀ S1, Ex tkF S0 S1 → TKR S1 (tokAt p (tp.drop p)) → K (pM M m ra S1)) : bk_X11_next_66 m K (btA tp p) (pM M m ra S) := by
  have h6 := hT.2.1
  have hT1 := hT.ex hx (by decide) (by decide)
  have hxa : Ex tkF S0 (pI (pJ (pI S 709 (nI p)) 710 0) 711 (-1)) := ((hx.pI (by decide)).pJ (by decide)).pI (by decide)
  cases hd : tp.drop p with
  | nil =>
    have hl := dr_nil hd
    have hp2 : p = tp.length := by omega
    have := hK (pI (pI (pJ (pI S 709 (nI p)) 710 0) 711 (-1)) 708 0) (hxa.pI (by decide)) (by
      rw [hd]; simp [TKR, tokAt, tkk, tkp, tkn, tkw, sg, e7, kR])
    simp (disch := omega) only [bk_X11_next_66, RF h, p_mK, p_mR, p_aN, p_aR, p_mI, p_mJ, p_sI, p_sJ, Option.some.injEq, exists_eq_left', true_and, and_true, na1, na3, n_add, n_mul, n_clamp, n_in, sg, e7, if_true, if_false, hT1.1, n_lt, show (707 = 711) = False by decide, show (707 = 709) = False by decide, show (706 = 711) = False by decide, show (706 = 709) = False by decide, show (p < tp.length) = False from eq_false (by omega), false_implies, not_false_eq_true, forall_const, true_and]
    exact this
  | cons c l =>
    obtain ⟨hl, hc, hd2⟩ := dr_cons hd
    have c6 := (hT.2.2 _ c hc).1
    obtain ⟨-, -, -, -, e61, e59, e45⟩ := sg_e c c6
    rw [hd] at hK
    simp (disch := omega) only [bk_X11_next_66, RF h, p_mK, p_mR, p_aN, p_aR, p_mI, p_mJ, p_sI, p_sJ, Option.some.injEq, exists_eq_left', true_and, and_true, na1, na3, n_add, n_mul, n_clamp, n_in, sg, e7, if_true, if_false, hT1.1, n_lt, show (707 = 711) = False by decide, show (707 = 709) = False by decide, show (706 = 711) = False by decide, show (706 = 709) = False by decide, show (p < tp.length) = True from eq_true hl, false_implies, not_true, forall_const, and_true, bt_some hc, e_letter c6, e_digit c6, bI_0]
    by_cases a : isLow c = true
    · simp only [a, show (true = false) = False by simp, not_false_eq_true, false_implies, forall_const, true_and]
      refine ⟨_, r_110 h hT (pl := p) (c :: l) [] _ hd (by simpa using hp) (fun i c hi => by simp at hi) hxa (by simp [sg, e7]) (by simp [sg]) (by simp [sg]) (fun _ => by simp [sg, w5]) ?_⟩
      intro S1 w1 hw1 ow lw x1 x7 x9 x11 x10
      rw [List.nil_append] at hw1
      have tk : tokAt p (c :: l) = tokW p w1 := by rw [tokAt, if_pos a, hw1]
      rw [tk] at hK
      refine ⟨m, rfl, FK h, by simp only [RF h, p_mK, p_mR, p_aN, p_aR, p_mI, p_mJ, p_sI, p_sJ, Option.some.injEq, exists_eq_left', true_and, and_true, na1, na3, n_add, n_mul, n_clamp, n_in, FK h], ?_⟩
      simp only [p_sI]
      refine r_fk h (hT.ex (x1.pI (f := 708) (by decide)) (by decide) (by decide)) (pl := p) (w := w1) (by omega) ow (by simp [sg, x9]) (by simp [sg, x11]) ?_
      intro S2 y1 y2
      have y8 : gI S2 708 = if 8 < w1.length then 4 else 1 := by rw [(y1 708 (by decide)).1]; simp [sg]
      have y7 : gI S2 707 = nI (p + w1.length) := by rw [(y1 707 (by decide)).1]; simp [sg, x7]
      have y9 : gI S2 709 = nI p := by rw [(y1 709 (by decide)).1]; simp [sg, x9]
      have y10 : gJ S2 710 = gJ S1 710 := by rw [(y1 710 (by decide)).2.1]; simp [sg]
      refine hK S2 ((x1.pI (by decide)).trans (y1.mono (by decide))) ?_
      unfold TKR tokW
      simp only [tkk, tkp, tkn, tkw]
      refine ⟨y7, y9, ?_, fun z => ⟨y2, ?_⟩, fun z => ?_, fun z => ?_⟩
      · rw [y8]
        by_cases q : 8 < w1.length
        · simp [q, kR]
        · by_cases q2 : w1 ∈ KWS <;> simp [q, q2, kR]
      · rw [y10]
        refine x10 ?_
        by_cases q : 8 < w1.length
        · simp [q] at z
        · omega
      · by_cases q : 8 < w1.length
        · simp [q] at z
        · by_cases q2 : w1 ∈ KWS <;> simp [q, q2] at z
      · by_cases q : 8 < w1.length
        · simp [q] at z
        · by_cases q2 : w1 ∈ KWS <;> simp [q, q2] at z
    · have a0 : isLow c = false := by simpa using a
      simp only [a0, not_true, false_implies, forall_const, and_true]
      by_cases b : isDig c = true
      · simp only [b, show (true = false) = False by simp, not_false_eq_true, false_implies, forall_const, true_and]
        refine ⟨_, r_208 h hT (pl := p) (c :: l) [] _ hd (by simpa using hp) hxa (by simp [sg, e7]) (by simp [sg]) (fun _ => by simp [sg, dv]) ?_⟩
        intro S1 w1 hw1 x1 x7 x9 x10
        rw [List.nil_append] at hw1
        have tk : tokAt p (c :: l) = tokN p w1 := by rw [tokAt, if_neg a, if_pos b, hw1]
        rw [tk] at hK
        refine ⟨m, rfl, FK h, ?_⟩
        simp only [p_sI, bk_X11_next_338]
        refine hK _ (x1.pI (by decide)) ?_
        unfold TKR tokN
        simp only [tkk, tkp, tkn, tkw, sg]
        by_cases q : 18 < w1.length
        · simp [q, kR, x7, x9]
        · simp [q, kR, x7, x9]; exact x10 (by omega)
      · have b0 : isDig c = false := by simpa using b
        have tk : tokAt p (c :: l) = tokS p c := by rw [tokAt, if_neg a, if_neg b]
        rw [tk] at hK
        simp only [b0, not_true, false_implies, forall_const, and_true, propext e61, propext e59, propext e45]
        have go : ∀ v : Int32, (v = if c = 61 ∨ c = 59 ∨ c = 45 then 3 else 4) → bk_X11_next_319 m K (sgb c) v (some m) (pM M m ra (pI (pJ (pI S 709 (nI p)) 710 0) 711 (-1))) := fun v hv => by
          refine ⟨m, rfl, FK h, by simp only [RF h, p_mK, p_mR, p_aN, p_aR, p_mI, p_mJ, p_sI, p_sJ, Option.some.injEq, exists_eq_left', true_and, and_true, na1, na3, n_add, n_mul, n_clamp, n_in, FK h], ?_⟩
          simp (disch := omega) only [p_sI, p_sJ, p_mI, sg, e7, if_true, if_false, show (707 = 711) = False by decide, show (707 = 709) = False by decide, show (707 = 708) = False by decide, bk_X11_next_338, na1, na3, n_add, n_mul, n_clamp, n_in]
          refine hK _ ((((hxa.pI (by decide)).pJ (by decide))).pI (by decide)) ?_
          unfold TKR tokS
          simp only [tkk, tkp, tkn, tkw, sg]
          by_cases q : c = 61 ∨ c = 59 ∨ c = 45
          · have c128 : c < 128 := by omega
            simp [q, kR, hv]
            rw [sg_s c128, j_nI (by omega)]
          · simp [q, kR, hv]
        refine ⟨fun z => ?_, fun z1 => ⟨fun z => ?_, fun z2 => ⟨fun z3 => ?_, fun z => ?_⟩⟩⟩
        · exact go 3 (by rw [if_pos (by omega)])
        · exact go 3 (by rw [if_pos (by omega)])
        · exact go 4 (by rw [if_neg (by omega)])
        · exact go 3 (by rw [if_pos (by omega)])
theorem r_next (h : SH M m ra) {K : Mm → Prop} {p : Nat} (hT : RT S tp) (hp : p ≤ tp.length) (e7 : gI S 707 = nI p) (hK : ∀ S1, Ex tkF S S1 → TKR S1 (a_tok tp p) → K (pM M m ra S1)) : wp_X11_next (pM M m ra S) m K := by
  have h6 := hT.2.1
  simp (disch := omega) only [wp_X11_next, RF h, p_mK, p_mR, p_aN, p_aR, p_mI, p_mJ, p_sI, p_sJ, Option.some.injEq, exists_eq_left', true_and, and_true, na1, na3, n_add, n_mul, n_clamp, n_in, e7, e_byteAt h hT]
  refine ⟨_, r_nx9 h hT (tp.drop p) p S rfl hp Ex.refl e7 ?_⟩
  intro S1 x1 x7
  exact r_66 h hT (blk_le hp) x1 x7 hK
end RN
