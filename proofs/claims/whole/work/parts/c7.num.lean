/-! numbers are written, on both sides -/
theorem l_bm {x : Int} (h1 : -9223372036854775808 ≤ x) (h2 : x < 9223372036854775808) : x.bmod (2 ^ 64) = x := by
  rw [Int.bmod_def]; omega
theorem l_div {a b : Nat} (ha : a < 2 ^ 63) (hb : b < 2 ^ 63) : lN a / lN b = lN (a / b) := by
  have h9 : a / b ≤ a := Nat.div_le_self _ _
  apply Int64.toInt_inj.mp
  rw [Int64.toInt_div, pf_lI ha, pf_lI hb, pf_lI (by omega), ← Int.ofNat_tdiv]
  generalize a / b = q at h9 ⊢
  exact l_bm (by omega) (by omega)
theorem l_sub {a b : Nat} (h : b ≤ a) : lN a - lN b = lN (a - b) := by
  have e : lN a = lN (a - b) + lN b := by
    show Int64.ofNat a = Int64.ofNat (a - b) + Int64.ofNat b
    rw [← Int64.ofNat_add, Nat.sub_add_cancel h]
  rw [e, Int64.add_sub_cancel]
theorem l_mul (a b : Nat) : lN a * lN b = lN (a * b) := (Int64.ofNat_mul a b).symm
theorem l_add (a b : Nat) : lN a + lN b = lN (a + b) := (Int64.ofNat_add a b).symm
theorem l_le {a b : Nat} (ha : a < 2 ^ 63) (hb : b < 2 ^ 63) : (lN a ≤ lN b) = (a ≤ b) := by
  refine propext ?_
  rw [Int64.le_iff_toInt_le, pf_lI ha, pf_lI hb]; omega
theorem l_i32 (k : Nat) : (lN k).toInt32 = nI k := by
  apply Int32.toBitVec_inj.mp
  apply BitVec.eq_of_toNat_eq
  show (BitVec.signExtend 32 (BitVec.ofNat 64 k)).toNat = (BitVec.ofNat 32 k).toNat
  rw [BitVec.signExtend_eq_setWidth_of_le _ (by decide), BitVec.toNat_setWidth, BitVec.toNat_ofNat, BitVec.toNat_ofNat]
  omega
theorem l_dig {n : Nat} (h : n < 2 ^ 63) : (48 : Int64) + (lN n - lN n / (10 : Int64) * (10 : Int64)) = lN (48 + n % 10) := by
  rw [show (10 : Int64) = lN 10 from rfl, show (48 : Int64) = lN 48 from rfl, l_div h (by decide), l_mul, l_sub (Nat.div_mul_le_self n 10), l_add]
  congr 2
  have := Nat.div_add_mod n 10
  omega
def jd : Nat → Nat → Nat
  | 0, _ => 0
  | f + 1, n => if n ≤ 9 then 0 else 1 + jd f (n / 10)
theorem jd_le : ∀ f n, jd f n ≤ f
  | 0, _ => Nat.le_refl _
  | f + 1, n => by
    rw [jd]
    split
    · omega
    · have := jd_le f (n / 10); omega
def dhi : Nat → Nat → List Nat
  | 0, n => [48 + n % 10]
  | j + 1, n => (48 + n / 10 ^ (j + 1) % 10) :: dhi j n
theorem dhi_len {n : Nat} : ∀ j, (dhi j n).length = j + 1
  | 0 => rfl
  | j + 1 => by rw [dhi, List.length_cons, dhi_len j]
theorem dhi_get {n : Nat} : ∀ j i, i ≤ j → (dhi j n)[i]? = some (48 + n / 10 ^ (j - i) % 10)
  | 0, i, h => by
    rw [show i = 0 by omega, dhi]; simp
  | j + 1, 0, h => by rw [dhi]; rfl
  | j + 1, i + 1, h => by
    rw [dhi, List.getElem?_cons_succ, dhi_get j i (by omega), show j + 1 - (i + 1) = j - i by omega]
theorem dhi_c {n : Nat} : ∀ j, ∀ c ∈ dhi j n, 48 ≤ c ∧ c ≤ 57
  | 0, c, h => by
    rw [dhi] at h
    rw [List.mem_singleton.1 h]; omega
  | j + 1, c, h => by
    rw [dhi] at h
    rcases List.mem_cons.1 h with e | e
    · rw [e]; omega
    · exact dhi_c j c e
/-- a number's digits -/
def dnum (n : Nat) : List Nat := dhi (jd 18 n) n
theorem dnum_len {n : Nat} : 1 ≤ (dnum n).length ∧ (dnum n).length ≤ 19 := by
  unfold dnum
  rw [dhi_len]
  have := jd_le 18 n
  omega
section CN7
variable {M M1 B0 : Mm} {b a : Nat}
theorem c_n35 {K : Mm → Prop} {l3 : Int64} (hk : mK M b = 1) (hR : mR M 0 b = some a) (hA : isA M a 0) : ∀ (f n c : Nat), n < 10 ^ (f + 1) → f ≤ 18 → c + f ≤ 19 → ((nI (c + jd f n)) ≤ ((nI (aN M a)) - (mI M 1 b)) ∧ ∃ kk, lp_X0_addNumber_90 b K kk l3 (nI (c + jd f n)) (((mI M 1 b) + (nI (c + jd f n))) - (1 : Int32)) M) → lp_X0_addNumber_35 b K (f + 1) l3 (nI c) (lN (n / 10)) M := by
  intro f
  induction f with
  | zero =>
    intro n c hn _ _ hP
    have e0 : n / 10 = 0 := by omega
    rw [lp_X0_addNumber_35, e0]
    rw [jd, Nat.add_zero] at hP
    exact ⟨fun _ => ⟨hk, a, hR, hA, fun _ => hP.2, fun z => absurd hP.1 z⟩, fun z => absurd (by decide) z⟩
  | succ f ih =>
    intro n c hn hf hc hP
    have hb : n / 10 < 2 ^ 63 := by
      have : 10 ^ (f + 1 + 1) ≤ 10 ^ 20 := Nat.pow_le_pow_right (by decide) (by omega)
      have e10 : (10 : Nat) ^ 20 = 100000000000000000000 := by decide
      have : n / 10 < 10 ^ (f + 1) := by
        rw [Nat.pow_succ] at hn
        omega
      have : 10 ^ (f + 1) ≤ 10 ^ 18 := Nat.pow_le_pow_right (by decide) (by omega)
      have e18 : (10 : Nat) ^ 18 = 1000000000000000000 := by decide
      omega
    rw [lp_X0_addNumber_35, show (0 : Int64) = lN 0 from rfl, l_le hb (by decide)]
    by_cases z : n ≤ 9
    · rw [jd, if_pos z, Nat.add_zero] at hP
      exact ⟨fun _ => ⟨hk, a, hR, hA, fun _ => hP.2, fun z => absurd hP.1 z⟩, fun y => absurd (show n / 10 ≤ 0 by omega) y⟩
    · refine ⟨fun y => absurd y (by omega), fun _ => ⟨fun y => ?_, fun _ => ?_⟩⟩
      · rw [show (19 : Int32) = nI 19 from rfl, n_le (by omega) (by omega)] at y; omega
      rw [jd, if_neg z] at hP
      rw [show (10 : Int64) = lN 10 from rfl, l_div hb (by decide), show nI c + (1 : Int32) = nI (c + 1) by rw [show (1 : Int32) = nI 1 from rfl, n_add]]
      refine ih (n / 10) (c + 1) ?_ (by omega) (by omega) ?_
      · rw [Nat.pow_succ] at hn; omega
      · rw [show c + 1 + jd f (n / 10) = c + (1 + jd f (n / 10)) by omega]; exact hP
theorem n_pred {k : Nat} (h : k < 2147483647) : nI k - 1 < nI k := by
  rw [Int32.lt_iff_toInt_lt]
  cases k with
  | zero => decide
  | succ k =>
    rw [show (1 : Int32) = nI 1 from rfl, n_sub (by omega), n_toInt (by omega), n_toInt (by omega)]; omega
theorem c_n83 {K : Mm → Prop} {n J room : Nat} {bs : List Nat} (hn : n < 2 ^ 63) (hJ : J ≤ 18) (hl : bs.length + J + 1 ≤ room) (hr : room ≤ 800) (hK : ∀ M1, YB M1 b a room (bs ++ dhi J n) → PX b a B0 M1 → K M1) : ∀ (r : Nat) (M : Mm), r ≤ J + 1 → YB M b a room bs → PX b a B0 M → (∀ i, r ≤ i → i ≤ J → aI M a (bs.length + i) = sgb (48 + n / 10 ^ (J - i) % 10)) → lp_X0_addNumber_90 b K (r + 1) (lN (n / 10 ^ (J + 1 - r))) (nI (J + 1)) (nI (bs.length + r) - 1) M := by
  intro r
  induction r with
  | zero =>
    intro M _ hY hP hd
    rw [lp_X0_addNumber_90]
    refine ⟨hY.1, fun _ => ?_, fun z => absurd ?_ z⟩
    · rw [hY.2.2.2.2.1, n_add]
      refine hK _ ⟨hY.1, hY.2.1, hY.2.2.1, hY.2.2.2.1, by simp [ms, dhi_len], by simp [dhi_len]; omega, fun i c hc => ?_⟩ (hP.trans ⟨rfl, rfl, rfl, rfl, rfl, rfl, fun f x z => ?_, fun x z j => rfl⟩)
      · by_cases e : i < bs.length
        · rw [List.getElem?_append_left e] at hc
          exact hY.2.2.2.2.2.2 i c hc
        · rw [List.getElem?_append_right (by omega)] at hc
          have hi := (List.getElem?_eq_some_iff.1 hc).1
          rw [dhi_len] at hi
          rw [dhi_get J _ (by omega)] at hc
          cases hc
          refine ⟨by omega, ?_⟩
          have := hd (i - bs.length) (by omega) (by omega)
          rw [show bs.length + (i - bs.length) = i by omega] at this
          exact this
      · by_cases ex : x = b
        · have ef : ¬ f = 1 := fun e => z ⟨e, ex⟩
          simp [ms, ef]
        · simp [ms, ex]
    · rw [hY.2.2.2.2.1]
      exact n_pred (by omega)
  | succ r ih =>
    intro M hr1 hY hP hd
    have e1 : nI (bs.length + (r + 1)) - 1 = nI (bs.length + r) := by
      rw [show (1 : Int32) = nI 1 from rfl, n_sub (by omega)]; rfl
    have e3 : nI (bs.length + r) + (-1) = nI (bs.length + r) - 1 := by rw [Int32.sub_eq_add_neg]
    have hq : n / 10 ^ (J - r) < 2 ^ 63 := Nat.lt_of_le_of_lt (Nat.div_le_self _ _) hn
    have ej : J + 1 - (r + 1) = J - r := by omega
    rw [lp_X0_addNumber_90, e1, ej]
    refine ⟨hY.1, fun z => ?_, fun _ => ⟨a, hY.2.1, isA_of hY.2.2.1 (by decide) (by decide), ?_, ?_⟩⟩
    · rw [hY.2.2.2.2.1, n_lt (by omega) (by omega)] at z; omega
    · rw [hY.2.2.2.1]; exact n_in (by omega) (by omega)
    · rw [l_dig hq, l_i32, sg_i8 _ (by omega), e3, n_clamp (by omega), show (10 : Int64) = lN 10 from rfl, l_div hq (by decide), Nat.div_div_eq_div_mul, ← Nat.pow_succ, show Nat.succ (J - r) = J + 1 - r by omega]
      obtain ⟨y1, y2, y3, y4, y5, y6, y7⟩ := hY
      refine ih _ (by omega) ⟨y1, y2, y3, y4, y5, y6, fun i c hc => ?_⟩ (hP.trans ⟨rfl, rfl, rfl, rfl, rfl, rfl, fun _ _ _ => rfl, fun x z j => by simp [ms, z]⟩) (fun i h1 h2 => ?_)
      · have hi := (List.getElem?_eq_some_iff.1 hc).1
        refine ⟨(y7 i c hc).1, ?_⟩
        simpa [ms, show ¬ i = bs.length + r by omega] using (y7 i c hc).2
      · by_cases e : i = r
        · subst e; simp [ms]
        · have := hd i (by omega) h2
          simpa [ms, e] using this
theorem c_n24 {K : Mm → Prop} {n room : Nat} {bs : List Nat} (hn : n < 2 ^ 63) (hl : bs.length + 19 ≤ room) (hr : room ≤ 800) (hY : YB M b a room bs) (hK : ∀ M1, YB M1 b a room (bs ++ dnum n) → PX b a M M1 → K M1) : bk_X0_addNumber_24 b K (lN n) M := by
  have hj := jd_le 18 n
  refine ⟨19, ?_⟩
  rw [show (10 : Int64) = lN 10 from rfl, l_div hn (by decide), show (1 : Int32) = nI 1 from rfl]
  refine c_n35 hY.1 hY.2.1 (isA_of hY.2.2.1 (by decide) (by decide)) 18 n 1 (Nat.lt_of_lt_of_le hn (by decide)) (by decide) (by decide) ?_
  rw [hY.2.2.2.1, hY.2.2.2.2.1, n_sub hY.2.2.2.2.2.1, n_le (by omega) (by omega), n_add]
  refine ⟨by omega, jd 18 n + 1 + 1, ?_⟩
  have := c_n83 (B0 := M) (n := n) (J := jd 18 n) (bs := bs) hn hj (by omega) hr (fun M1 y p => hK M1 y p) (jd 18 n + 1) M (Nat.le_refl _) hY PX.refl (fun i h1 h2 => by omega)
  rw [Nat.sub_self, Nat.pow_zero, Nat.div_one] at this
  rw [show 1 + jd 18 n = jd 18 n + 1 by omega]
  exact this
end CN7
