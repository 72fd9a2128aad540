/-! the reference says numbers, words and times -/
/-- the page -/
def RP (S : St) (pg : List Nat) : Prop := gI S 760 = nI pg.length ∧ pg.length ≤ 800 ∧ ∀ i c, pg[i]? = some c → c < 256 ∧ vI S 759 i = sgb c
section RN9
variable {M : Mm} {m : Nat} {ra : Nat → Nat} {S S0 : St} {pg : List Nat}
theorem r_say (h : SH M m ra) {K : Mm → Prop} {v : Int32} {c : Nat} (hP : RP S pg) (hl : pg.length < 800) (hc : c < 256) (hv : v.toInt8.toInt32.toInt8.toInt32 = sgb c) (hK : ∀ S1, RP S1 (pg ++ [c]) → Ex [759, 760] S S1 → K (pM M m ra S1)) : wp_X11_say (pM M m ra S) m v K := by
  unfold wp_X11_say
  rw [hv]
  simp (disch := omega) only [RF h, p_mK, p_mR, p_aN, p_aR, p_mI, p_mJ, p_sI, p_sJ, Option.some.injEq, exists_eq_left', true_and, and_true, na1, na3, n_add, n_mul, n_clamp, n_in, hP.1]
  have e4 : gI (wI S 759 pg.length (sgb c)) 760 = nI pg.length := hP.1
  simp (disch := omega) only [e4, na1, na3, n_add, n_mul, n_clamp, n_in]
  refine hK _ ⟨by simp [sg], by simp; omega, fun i d hd => ?_⟩ ((Ex.refl.wI (f := 759) (by decide)).pI (f := 760) (by decide))
  have e5 : vI (pI (wI S 759 pg.length (sgb c)) 760 (nI (pg.length + 1))) 759 i = if i = pg.length then sgb c else vI S 759 i := by simp [sg]
  rw [e5]
  by_cases e : i = pg.length
  · subst e
    simp at hd
    rw [if_pos rfl, ← hd]; exact ⟨hc, rfl⟩
  · rw [if_neg e]
    have hi : i < (pg ++ [c]).length := (List.getElem?_eq_some_iff.1 hd).1
    simp at hi
    rw [List.getElem?_append_left (by omega)] at hd
    exact hP.2.2 i d hd
theorem r_n50 (h : SH M m ra) {K : Mm → Prop} {n : Nat} (hn : n < 2 ^ 63) : ∀ (j : Nat) (S : St) (pg : List Nat), j ≤ 18 → pg.length + j + 1 ≤ 800 → RP S pg → (∀ S1, RP S1 (pg ++ dhi j n) → Ex [759, 760] S S1 → K (pM M m ra S1)) → lp_X11_sayNumber_50 m K (j + 2) (lN n) (lN (10 ^ j)) (pM M m ra S) := by
  intro j
  induction j with
  | zero =>
    intro S pg hj hl hP hK
    rw [lp_X11_sayNumber_50]
    refine ⟨fun z => absurd z (by decide), fun _ => ⟨by decide, FK h, ?_⟩⟩
    rw [Nat.pow_zero, show lN n / lN 1 = lN n by rw [l_div hn (by decide), Nat.div_one], l_dig hn, l_i32]
    refine r_say h (c := 48 + n % 10) hP (by omega) (by omega) (sg_i8 _ (by omega)) (fun S1 p x => ?_)
    rw [lp_X11_sayNumber_50]
    exact ⟨fun _ => hK S1 p x, fun z => absurd (by decide) z⟩
  | succ j ih =>
    intro S pg hj hl hP hK
    have hp : (10 : Nat) ^ (j + 1) < 2 ^ 63 := by
      have : 10 ^ (j + 1) ≤ 10 ^ 18 := Nat.pow_le_pow_right (by decide) (by omega)
      exact Nat.lt_of_le_of_lt this (by decide)
    have hp0 : 0 < (10 : Nat) ^ (j + 1) := Nat.pow_pos (by decide)
    have e0 : ¬ lN (10 ^ (j + 1)) ≤ (0 : Int64) := by
      rw [show (0 : Int64) = lN 0 from rfl, l_le hp (by decide)]; omega
    have en : ¬ lN (10 ^ (j + 1)) = (0 : Int64) := fun e => e0 (by rw [e]; decide)
    have hq : n / 10 ^ (j + 1) < 2 ^ 63 := Nat.lt_of_le_of_lt (Nat.div_le_self _ _) hn
    rw [lp_X11_sayNumber_50]
    refine ⟨fun z => absurd z e0, fun _ => ⟨en, FK h, ?_⟩⟩
    rw [l_div hn hp, l_dig hq, l_i32]
    refine r_say h (c := 48 + n / 10 ^ (j + 1) % 10) hP (by omega) (by omega) (sg_i8 _ (by omega)) (fun S1 p x => ?_)
    rw [show (10 : Int64) = lN 10 from rfl, l_div hp (by decide), Nat.pow_succ, Nat.mul_div_cancel _ (by decide)]
    refine ih S1 _ (by omega) (by simp; omega) p (fun S2 p2 x2 => hK S2 ?_ (x.trans x2))
    rw [List.append_assoc] at p2; exact p2
theorem r_n28 (h : SH M m ra) {K : Mm → Prop} {n : Nat} (hn : n < 2 ^ 63) : ∀ (f j : Nat), j + f = 18 → n / 10 ^ j < 10 ^ (f + 1) → (∃ kk, lp_X11_sayNumber_50 m K kk (lN n) (lN (10 ^ (j + jd f (n / 10 ^ j)))) (pM M m ra S)) → lp_X11_sayNumber_28 m K (f + 1) (lN n) (lN (10 ^ j)) (pM M m ra S) := by
  intro f
  induction f with
  | zero =>
    intro j hj hq hE
    have e : j = 18 := by omega
    subst e
    rw [jd, Nat.add_zero] at hE
    rw [lp_X11_sayNumber_28]
    refine ⟨by decide, fun _ => hE, fun z => absurd ?_ z⟩
    rw [l_div hn (by decide), show (9 : Int64) = lN 9 from rfl, l_le (Nat.lt_of_le_of_lt (Nat.div_le_self _ _) hn) (by decide)]
    omega
  | succ f ih =>
    intro j hj hq hE
    have hp : (10 : Nat) ^ j < 2 ^ 63 := by
      have : 10 ^ j ≤ 10 ^ 18 := Nat.pow_le_pow_right (by decide) (by omega)
      exact Nat.lt_of_le_of_lt this (by decide)
    have hp0 : 0 < (10 : Nat) ^ j := Nat.pow_pos (by decide)
    have en : ¬ lN (10 ^ j) = (0 : Int64) := fun e => by
      have e0 : lN (10 ^ j) ≤ lN 0 := by rw [e]; decide
      rw [l_le hp (by decide)] at e0; omega
    rw [lp_X11_sayNumber_28, l_div hn hp, show (9 : Int64) = lN 9 from rfl, l_le (Nat.lt_of_le_of_lt (Nat.div_le_self _ _) hn) (by decide)]
    by_cases z : n / 10 ^ j ≤ 9
    · rw [jd, if_pos z, Nat.add_zero] at hE
      exact ⟨en, fun _ => hE, fun y => absurd z y⟩
    · rw [jd, if_neg z] at hE
      refine ⟨en, fun y => absurd y z, fun _ => ?_⟩
      rw [show (10 : Int64) = lN 10 from rfl, l_mul, ← Nat.pow_succ]
      have ed : n / 10 ^ (j + 1) = n / 10 ^ j / 10 := by rw [Nat.pow_succ, Nat.div_div_eq_div_mul]
      refine ih (j + 1) (by omega) ?_ ?_
      · rw [ed]
        rw [Nat.pow_succ] at hq; omega
      · rw [ed, show j + 1 + jd f (n / 10 ^ j / 10) = j + (1 + jd f (n / 10 ^ j / 10)) by omega]; exact hE
theorem r_n24 (h : SH M m ra) {K : Mm → Prop} {n : Nat} (hn : n < 2 ^ 63) (hl : pg.length + 19 ≤ 800) (hP : RP S pg) (hK : ∀ S1, RP S1 (pg ++ dnum n) → Ex [759, 760] S S1 → K (pM M m ra S1)) : bk_X11_sayNumber_24 m K (lN n) (pM M m ra S) := by
  have hj := jd_le 18 n
  refine ⟨19, ?_⟩
  have := r_n28 (S := S) (K := K) h hn 18 0 rfl (by rw [Nat.pow_zero, Nat.div_one]; exact Nat.lt_of_lt_of_le hn (by decide))
  rw [Nat.pow_zero, Nat.div_one, Nat.zero_add] at this
  exact this ⟨_, r_n50 h hn (jd 18 n) S pg hj (by omega) hP hK⟩
theorem r_nmb (h : SH M m ra) {K : Mm → Prop} {v : Int64} (hv : -9000000000000000000 ≤ v.toInt) (hl : pg.length + 20 ≤ 800) (hP : RP S pg) (hK : ∀ S1, RP S1 (pg ++ num v) → Ex [759, 760] S S1 → K (pM M m ra S1)) : wp_X11_sayNumber (pM M m ra S) m v K := by
  have h9 : v.toInt < 9223372036854775808 := Int64.toInt_lt v
  have e0 : ((0 : Int64) ≤ v) ↔ 0 ≤ v.toInt := by rw [Int64.le_iff_toInt_le]; rfl
  unfold num at hK
  refine ⟨fun z => ?_, fun z => ⟨FK h, ?_⟩⟩
  · have z1 := e0.1 z
    rw [if_neg (by omega)] at hK
    refine ⟨fun _ => ?_, fun y => absurd z y⟩
    rw [l_of z1]
    exact r_n24 h (by omega) (by omega) hP hK
  · have z1 : v.toInt < 0 := by
      rcases Int.lt_or_le v.toInt 0 with q | q
      · exact q
      · exact absurd (e0.2 q) z
    rw [if_pos z1] at hK
    refine r_say h (c := 45) hP (by omega) (by decide) (by decide) (fun S1 y p => ⟨fun y => absurd y z, fun _ => ?_⟩)
    rw [l_ng z1 hv]
    refine r_n24 h (by omega) (by simp; omega) y (fun S2 y2 p2 => hK S2 ?_ (p.trans p2))
    rw [List.append_assoc] at y2; exact y2
/-- the literals -/
def stx (i : Nat) : List Nat := if i = 1 then kwd 0 else if i = 2 then kwd 1 else if i = 3 then kwd 2 else if i = 4 then kwd 3 else if i = 5 then kwd 4 else if i = 6 then kwd 5 else if i = 7 then WST else if i = 8 then WEN else if i = 9 then 32 :: WID else []
theorem stx_ok : ∀ i, 1 ≤ i → i < 11 → (stx i).length = slen i ∧ slen i ≤ 6 ∧ ∀ j, j < slen i → ∃ c, (stx i)[j]? = some c ∧ c < 128 ∧ sby i j = nI c := by
  intro i h1 h2
  have hq : ∀ k : Fin 10, (stx (k.val + 1)).length = slen (k.val + 1) ∧ slen (k.val + 1) ≤ 6 ∧ ∀ j : Fin 6, j.val < slen (k.val + 1) → ((stx (k.val + 1))[j.val]?).isSome = true ∧ ((stx (k.val + 1))[j.val]?).getD 0 < 128 ∧ sby (k.val + 1) j.val = nI (((stx (k.val + 1))[j.val]?).getD 0) := by decide +kernel
  have := hq ⟨i - 1, by omega⟩
  simp only [show i - 1 + 1 = i by omega] at this
  refine ⟨this.1, this.2.1, fun j hj => ?_⟩
  have q := this.2.2 ⟨j, by omega⟩ hj
  simp only at q
  cases e : (stx i)[j]? with
  | none => rw [e] at q; exact absurd q.1 (by decide)
  | some c =>
    rw [e] at q
    exact ⟨c, rfl, q.2.1, q.2.2⟩
theorem r_all (h : SH M m ra) {K : Mm → Prop} {i : Nat} (h1 : 1 ≤ i) (h2 : i < 11) {pg0 : List Nat} (hl : pg0.length + 6 ≤ 800) (hK : ∀ S1, RP S1 (pg0 ++ stx i) → Ex [759, 760] S0 S1 → K (pM M m ra S1)) : ∀ (r p : Nat) (S : St), p + r = slen i → RP S (pg0 ++ (stx i).take p) → Ex [759, 760] S0 S → lp_X11_sayAll_2 m K (r + 1) i (nI p) (pM M m ra S) := by
  obtain ⟨o1, o2, o3⟩ := stx_ok i h1 h2
  intro r
  induction r with
  | zero =>
    intro p S hp hP hx
    have e : p = slen i := by omega
    subst e
    rw [← o1, List.take_length] at hP
    rw [lp_X11_sayAll_2]
    exact ⟨h2, fun _ => hK S hP hx, fun z => absurd (by rw [n_le (by omega) (by omega)]; omega) z⟩
  | succ r ih =>
    intro p S hp hP hx
    obtain ⟨c, c1, c2, c3⟩ := o3 p (by omega)
    rw [lp_X11_sayAll_2, n_le (by omega) (by omega)]
    refine ⟨h2, fun z => absurd z (by omega), fun _ => ⟨h2, n_in (by omega) (by omega), FK h, ?_⟩⟩
    rw [n_clamp (by omega), c3]
    refine r_say h (c := c) hP (by simp; omega) (by omega) (sg_i8 _ (by omega)) (fun S1 p1 x1 => ?_)
    rw [show nI p + (1 : Int32) = nI (p + 1) by rw [show (1 : Int32) = nI 1 from rfl, n_add]]
    refine ih (p + 1) S1 (by omega) ?_ (hx.trans x1)
    rw [List.append_assoc, take_s c1] at p1
    exact p1
theorem r_sayAll (h : SH M m ra) {K : Mm → Prop} {i : Nat} (h1 : 1 ≤ i) (h2 : i < 11) (hl : pg.length + 6 ≤ 800) (hP : RP S pg) (hK : ∀ S1, RP S1 (pg ++ stx i) → Ex [759, 760] S S1 → K (pM M m ra S1)) : wp_X11_sayAll (pM M m ra S) m i K := by
  refine ⟨slen i + 1, ?_⟩
  exact r_all (S0 := S) (pg0 := pg) h h1 h2 hl hK (slen i) 0 S (by omega) (by rw [List.take_zero, List.append_nil]; exact hP) Ex.refl
end RN9
