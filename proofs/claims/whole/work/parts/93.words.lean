/-! longs as bytes and digits (the first rows are given ones, of BITS) -/
theorem wb_tb (n : Nat) : (lN n).toBitVec = BitVec.ofNat 64 n := rfl
theorem wb_inj {a b : Int64} (h : a.toBitVec = b.toBitVec) : a = b := Int64.toBitVec_inj.mp h
theorem wb_tn {n : Nat} (h : n < 2 ^ 64) : (lN n).toBitVec.toNat = n := by rw [wb_tb, BitVec.toNat_ofNat, Nat.mod_eq_of_lt h]
theorem wb_c : ∀ k, k < 64 → ((nI k).toInt64 &&& 63) = lN k := by decide +kernel
theorem wb_cu : ∀ k, k < 64 → ((nI k).toInt64.toUInt64 &&& Int64.toUInt64 63) = UInt64.ofNat k := by decide +kernel
theorem wb_sm : ∀ k, k < 64 → (BitVec.ofNat 64 k).smod 64 = BitVec.ofNat 64 k := by decide +kernel
theorem wb_lt2 {a b : Nat} (h : a < b) : 2 ^ a < 2 ^ b := Nat.pow_lt_pow_right (by decide) h
theorem wb_shr {n k : Nat} (hn : n < 2 ^ 64) (hk : k < 64) : ((lN n).toUInt64 >>> ((nI k).toInt64.toUInt64 &&& Int64.toUInt64 63)).toInt64 = lN (n / 2 ^ k) := by
  rw [wb_cu k hk]
  apply wb_inj
  apply BitVec.eq_of_toNat_eq
  show ((lN n).toUInt64 >>> UInt64.ofNat k).toNat = (BitVec.ofNat 64 _).toNat
  have h1 : (UInt64.ofNat k).toNat = k := by
    show (BitVec.ofNat 64 k).toNat = k
    rw [BitVec.toNat_ofNat, Nat.mod_eq_of_lt (by omega)]
  have h2 : (lN n).toUInt64.toNat = n := wb_tn hn
  rw [UInt64.toNat_shiftRight, h1, h2, Nat.mod_eq_of_lt hk, Nat.shiftRight_eq_div_pow, BitVec.toNat_ofNat, Nat.mod_eq_of_lt (Nat.lt_of_le_of_lt (Nat.div_le_self _ _) hn)]
theorem wb_shl (n : Nat) {k : Nat} (hk : k < 64) : lN n <<< ((nI k).toInt64 &&& 63) = lN (n * 2 ^ k) := by
  rw [wb_c k hk]
  apply wb_inj
  rw [Int64.toBitVec_shiftLeft, wb_tb, wb_tb, wb_tb, wb_sm k hk]
  apply BitVec.eq_of_toNat_eq
  rw [BitVec.shiftLeft_eq', BitVec.toNat_shiftLeft, BitVec.toNat_ofNat, BitVec.toNat_ofNat, BitVec.toNat_ofNat, Nat.mod_eq_of_lt (show k < 2 ^ 64 by omega), Nat.shiftLeft_eq, Nat.mul_mod, Nat.mod_mod, ← Nat.mul_mod]
theorem wb_and {a b : Nat} (ha : a < 2 ^ 64) (hb : b < 2 ^ 64) : lN a &&& lN b = lN (a &&& b) := by
  apply wb_inj
  rw [Int64.toBitVec_and, wb_tb, wb_tb, wb_tb]
  apply BitVec.eq_of_toNat_eq
  rw [BitVec.toNat_and, BitVec.toNat_ofNat, BitVec.toNat_ofNat, BitVec.toNat_ofNat, Nat.mod_eq_of_lt ha, Nat.mod_eq_of_lt hb, Nat.mod_eq_of_lt (Nat.and_lt_two_pow _ hb)]
theorem wb_or {a b : Nat} (ha : a < 2 ^ 64) (hb : b < 2 ^ 64) : lN a ||| lN b = lN (a ||| b) := by
  apply wb_inj
  rw [Int64.toBitVec_or, wb_tb, wb_tb, wb_tb]
  apply BitVec.eq_of_toNat_eq
  rw [BitVec.toNat_or, BitVec.toNat_ofNat, BitVec.toNat_ofNat, BitVec.toNat_ofNat, Nat.mod_eq_of_lt ha, Nat.mod_eq_of_lt hb, Nat.mod_eq_of_lt (Nat.or_lt_two_pow ha hb)]
theorem wb_mask {n k : Nat} (hn : n < 2 ^ 64) (hk : k < 64) : lN n &&& lN (2 ^ k - 1) = lN (n % 2 ^ k) := by
  rw [wb_and hn (by have := wb_lt2 hk; omega), Nat.and_two_pow_sub_one_eq_mod]
theorem u_tn {n : Nat} (h : n < 2 ^ 64) : (UInt64.ofNat n).toNat = n := Nat.mod_eq_of_lt h
theorem g_or {k p a b : Nat} (hp : 2 ^ k = p) (ha : a < p) (h : b * p + a < 2 ^ 64) : lN (b * p) ||| lN a = lN (b * p + a) := by
  subst hp
  have h1 : b * 2 ^ k ||| a = b * 2 ^ k + a := by rw [← Nat.shiftLeft_eq, Nat.shiftLeft_add_eq_or_of_lt ha]
  have h3 : UInt64.ofNat (b * 2 ^ k) ||| UInt64.ofNat a = UInt64.ofNat (b * 2 ^ k + a) := UInt64.toNat_inj.mp (by rw [UInt64.toNat_or, u_tn (by omega), u_tn (by omega), u_tn h, h1])
  have h2 := congrArg UInt64.toInt64 h3
  exact h2
theorem pf_lI {a : Nat} (h : a < 2 ^ 63) : (lN a).toInt = (a : Int) := lg_ofNat_toInt h
theorem pf_shr {a d : Nat} {D : Int64} (hD : (D.toBitVec.smod 64).toNat = d) (h : a < 2 ^ 62) : lN a >>> D = lN (a / 2 ^ d) := by
  have hd : a / 2 ^ d ≤ a := Nat.div_le_self _ _
  apply Int64.toInt_inj.mp
  have e : (lN a >>> D).toInt = (lN a).toInt >>> d := by
    rw [← hD]
    exact BitVec.toInt_sshiftRight ..
  rw [e, Int.shiftRight_eq_div_pow, pf_lI (by omega), pf_lI (by omega)]
  rfl
/-- a byte as the tape holds it -/
def sgb (c : Nat) : Int32 := if c < 128 then nI c else nI c - 256
theorem sg_and : ∀ c, c < 256 → (sgb c &&& 255) = nI c := by decide +kernel
theorem sg_i8 : ∀ c, c < 256 → (nI c).toInt8.toInt32.toInt8.toInt32 = sgb c := by decide +kernel
theorem sg_lo : ∀ c, c < 256 → (sgb c < 97 ↔ (c < 97 ∨ 128 ≤ c)) := by decide +kernel
theorem sg_hi : ∀ c, c < 256 → (122 < sgb c ↔ (122 < c ∧ c < 128)) := by decide +kernel
theorem sg_d0 : ∀ c, c < 256 → (sgb c < 48 ↔ (c < 48 ∨ 128 ≤ c)) := by decide +kernel
theorem sg_d9 : ∀ c, c < 256 → (57 < sgb c ↔ (57 < c ∧ c < 128)) := by decide +kernel
theorem sg_e : ∀ c, c < 256 → (sgb c = 9 ↔ c = 9) ∧ (sgb c = 10 ↔ c = 10) ∧ (sgb c = 13 ↔ c = 13) ∧ (sgb c = 32 ↔ c = 32) ∧ (sgb c = 61 ↔ c = 61) ∧ (sgb c = 59 ↔ c = 59) ∧ (sgb c = 45 ↔ c = 45) := by decide +kernel
theorem sg_s {c : Nat} (h : c < 128) : sgb c = nI c := if_pos h
theorem j_nI {n : Nat} (h : n < 2147483648) : (nI n).toInt64 = lN n := by
  apply Int64.toInt_inj.mp
  rw [Int32.toInt_toInt64, nI_toInt h, pf_lI (by omega)]
def dv (w : List Nat) : Int64 := w.foldl (fun v c => v * 10 + lN (c - 48)) 0
def w8 (w : List Nat) : Int64 := w.foldl (fun v c => (v <<< ((8 : Int32).toInt64 &&& 63)) ||| lN c) 0
def w5 (w : List Nat) : Int64 := w.foldl (fun v c => (v <<< ((5 : Int32).toInt64 &&& 63)) ||| lN (c - 96)) 0
theorem dv_s (w : List Nat) (c : Nat) : dv (w ++ [c]) = dv w * 10 + lN (c - 48) := by simp [dv]
theorem w8_s (w : List Nat) (c : Nat) : w8 (w ++ [c]) = (w8 w <<< ((8 : Int32).toInt64 &&& 63)) ||| lN c := by simp [w8]
theorem w5_s (w : List Nat) (c : Nat) : w5 (w ++ [c]) = (w5 w <<< ((5 : Int32).toInt64 &&& 63)) ||| lN (c - 96) := by simp [w5]
theorem dv_f (w : List Nat) : ∀ a, w.foldl (fun v c => v * 10 + lN (c - 48)) (lN a) = lN (w.foldl (fun v c => v * 10 + (c - 48)) a) := by
  induction w with
  | nil => intro a; rfl
  | cons c w ih =>
    intro a
    have e : lN a * 10 + lN (c - 48) = lN (a * 10 + (c - 48)) := by
      show Int64.ofNat a * Int64.ofNat 10 + Int64.ofNat (c - 48) = Int64.ofNat _
      rw [← Int64.ofNat_mul, ← Int64.ofNat_add]
    rw [List.foldl_cons, List.foldl_cons, e]; exact ih _
theorem dv_dn (w : List Nat) : dv w = lN (dn w) := dv_f w 0
theorem dn_f (w : List Nat) : ∀ a k, (∀ c ∈ w, 48 ≤ c ∧ c ≤ 57) → a < 10 ^ k → w.foldl (fun v c => v * 10 + (c - 48)) a < 10 ^ (k + w.length) := by
  induction w with
  | nil => intro a k _ h; exact h
  | cons c w ih =>
    intro a k hc h
    have h1 := hc c List.mem_cons_self
    have h2 : a * 10 + (c - 48) < 10 ^ (k + 1) := by rw [Nat.pow_succ]; omega
    have h3 := ih _ (k + 1) (fun d hd => hc d (List.mem_cons_of_mem _ hd)) h2
    rw [List.foldl_cons, List.length_cons, show k + (w.length + 1) = k + 1 + w.length by omega]
    exact h3
theorem dn_lt {w : List Nat} (hc : ∀ c ∈ w, 48 ≤ c ∧ c ≤ 57) (h : w.length ≤ 18) : dn w ≤ 999999999999999999 := by
  have h1 := dn_f w 0 0 hc (by decide)
  have h2 : 10 ^ (0 + w.length) ≤ 10 ^ 18 := Nat.pow_le_pow_right (by decide) (by omega)
  have h3 : dn w < 10 ^ 18 := Nat.lt_of_lt_of_le h1 h2
  have h4 : (10 : Nat) ^ 18 = 1000000000000000000 := by decide
  omega
/-- the worth of digits, the last one first -/
def vB (B : Nat) (d : Nat → Nat) : List Nat → Nat
  | [] => 0
  | c :: l => vB B d l * B + d c
theorem vB_lt {B : Nat} {d : Nat → Nat} (l : List Nat) : (∀ c ∈ l, d c < B) → vB B d l < B ^ l.length := by
  induction l with
  | nil => intro _; simp [vB]
  | cons c l ih =>
    intro h
    have h1 := ih (fun x hx => h x (List.mem_cons_of_mem _ hx))
    have h2 := h c List.mem_cons_self
    rw [vB, List.length_cons, Nat.pow_succ]
    have h3 : (vB B d l + 1) * B ≤ B ^ l.length * B := Nat.mul_le_mul_right B h1
    rw [Nat.add_mul] at h3; omega
theorem vB_div {B : Nat} {d : Nat → Nat} {c : Nat} {l : List Nat} (h : d c < B) : vB B d (c :: l) / B = vB B d l ∧ vB B d (c :: l) % B = d c := by
  have h0 : 0 < B := by omega
  rw [vB]
  refine ⟨?_, ?_⟩
  · rw [Nat.mul_comm, Nat.mul_add_div h0, Nat.div_eq_of_lt h, Nat.add_zero]
  · rw [Nat.mul_comm, Nat.mul_add_mod, Nat.mod_eq_of_lt h]
theorem vB_inj {B : Nat} {d : Nat → Nat} : ∀ (l l' : List Nat), (∀ c ∈ l, 1 ≤ d c ∧ d c < B) → (∀ c ∈ l', 1 ≤ d c ∧ d c < B) → (∀ a ∈ l, ∀ b ∈ l', d a = d b → a = b) → vB B d l = vB B d l' → l = l'
  | [], [], _, _, _, _ => rfl
  | [], c :: l', _, h, _, e => by have := (h c List.mem_cons_self).1; rw [vB, vB] at e; omega
  | c :: l, [], h, _, _, e => by have := (h c List.mem_cons_self).1; rw [vB, vB] at e; omega
  | c :: l, c' :: l', h, h', hi, e => by
    have a1 := vB_div (l := l) (h c List.mem_cons_self).2
    have a2 := vB_div (l := l') (h' c' List.mem_cons_self).2
    rw [e] at a1
    have e1 : d c = d c' := a1.2.symm.trans a2.2
    have e2 : vB B d l = vB B d l' := a1.1.symm.trans a2.1
    rw [hi c List.mem_cons_self c' List.mem_cons_self e1, vB_inj l l' (fun x hx => h x (List.mem_cons_of_mem _ hx)) (fun x hx => h' x (List.mem_cons_of_mem _ hx)) (fun a ha b hb => hi a (List.mem_cons_of_mem _ ha) b (List.mem_cons_of_mem _ hb)) e2]
theorem fold_vB {B : Nat} {d : Nat → Nat} (w : List Nat) : ∀ (l : List Nat), w.foldl (fun v c => v * B + d c) (vB B d l) = vB B d (w.reverse ++ l) := by
  induction w with
  | nil => intro l; rfl
  | cons c w ih =>
    intro l
    rw [List.foldl_cons, List.reverse_cons, List.append_assoc]
    exact ih (c :: l)
theorem wk_f {k B : Nat} {d : Nat → Nat} (hB : 2 ^ k = B) (hk : k < 64) (w : List Nat) : ∀ (a j : Nat), (∀ c ∈ w, d c < B) → a < B ^ j → B ^ (j + w.length) ≤ 2 ^ 64 → w.foldl (fun v c => (v <<< ((nI k).toInt64 &&& 63)) ||| lN (d c)) (lN a) = lN (w.foldl (fun v c => v * B + d c) a) := by
  induction w with
  | nil => intro a j _ _ _; rfl
  | cons c w ih =>
    intro a j hc ha hj
    have h1 := hc c List.mem_cons_self
    have h2 : a * B + d c < B ^ (j + 1) := by
      have h3 : (a + 1) * B ≤ B ^ j * B := Nat.mul_le_mul_right B ha
      rw [Nat.add_mul] at h3
      rw [Nat.pow_succ]; omega
    have h0 : 0 < B := by omega
    have h4 : B ^ (j + 1) ≤ B ^ (j + (c :: w).length) := Nat.pow_le_pow_right h0 (by simp)
    have e : (lN a <<< ((nI k).toInt64 &&& 63)) ||| lN (d c) = lN (a * B + d c) := by
      rw [wb_shl a hk, hB]
      exact g_or hB h1 (by omega)
    rw [List.foldl_cons, List.foldl_cons, e]
    refine ih _ (j + 1) (fun x hx => hc x (List.mem_cons_of_mem _ hx)) h2 ?_
    rw [List.length_cons] at hj
    rw [show j + 1 + w.length = j + (w.length + 1) by omega]; exact hj
/-- a word: one to eight letters -/
def WW (w : List Nat) : Prop := 1 ≤ w.length ∧ w.length ≤ 8 ∧ ∀ c ∈ w, 97 ≤ c ∧ c ≤ 122
theorem w8_v {w : List Nat} (h : w.length ≤ 8) (hc : ∀ c ∈ w, c < 256) : w8 w = lN (vB 256 id w.reverse) := by
  have h1 := wk_f (k := 8) (B := 256) (d := id) (by decide) (by decide) w 0 0 hc (by decide) (by
    have : 256 ^ (0 + w.length) ≤ 256 ^ 8 := Nat.pow_le_pow_right (by decide) (by omega)
    exact Nat.le_trans this (by decide))
  have h2 := fold_vB (B := 256) (d := id) w []
  rw [List.append_nil] at h2
  rw [← h2]
  exact h1
theorem w5_v {w : List Nat} (h : w.length ≤ 8) (hc : ∀ c ∈ w, c ≤ 122) : w5 w = lN (vB 32 (fun c => c - 96) w.reverse) := by
  have h1 := wk_f (k := 5) (B := 32) (d := fun c => c - 96) (by decide) (by decide) w 0 0 (fun c h => by have := hc c h; show c - 96 < 32; omega) (by decide) (by
    have : 32 ^ (0 + w.length) ≤ 32 ^ 8 := Nat.pow_le_pow_right (by decide) (by omega)
    exact Nat.le_trans this (by decide))
  have h2 := fold_vB (B := 32) (d := fun c => c - 96) w []
  rw [List.append_nil] at h2
  rw [← h2]
  exact h1
theorem lN_inj {a b : Nat} (ha : a < 2 ^ 64) (hb : b < 2 ^ 64) (h : lN a = lN b) : a = b := by rw [← wb_tn ha, ← wb_tn hb, h]
theorem WW.r {w : List Nat} (h : WW w) : ∀ c ∈ w.reverse, 97 ≤ c ∧ c ≤ 122 := fun c hc => h.2.2 c (List.mem_reverse.1 hc)
theorem v8_lt {w : List Nat} (h : WW w) : vB 256 id w.reverse < 2 ^ 64 := by
  have h1 := vB_lt (B := 256) (d := id) w.reverse (fun c hc => by have := h.r c hc; show c < 256; omega)
  rw [List.length_reverse] at h1
  have : 256 ^ w.length ≤ 256 ^ 8 := Nat.pow_le_pow_right (by decide) h.2.1
  have h3 : (256 : Nat) ^ 8 = 2 ^ 64 := by decide
  omega
theorem v5_lt {w : List Nat} (h : WW w) : vB 32 (fun c => c - 96) w.reverse < 2 ^ 40 := by
  have h1 := vB_lt (B := 32) (d := fun c => c - 96) w.reverse (fun c hc => by have := h.r c hc; show c - 96 < 32; omega)
  rw [List.length_reverse] at h1
  have : 32 ^ w.length ≤ 32 ^ 8 := Nat.pow_le_pow_right (by decide) h.2.1
  have h3 : (32 : Nat) ^ 8 = 2 ^ 40 := by decide
  omega
theorem w8_inj {w w' : List Nat} (h : WW w) (h' : WW w') : (w8 w = w8 w') = (w = w') := by
  refine propext ⟨fun e => ?_, fun e => by rw [e]⟩
  rw [w8_v h.2.1 (fun c hc => by have := h.2.2 c hc; omega), w8_v h'.2.1 (fun c hc => by have := h'.2.2 c hc; omega)] at e
  have e2 := vB_inj _ _ (fun c hc => by have := h.r c hc; show 1 ≤ c ∧ c < 256; omega) (fun c hc => by have := h'.r c hc; show 1 ≤ c ∧ c < 256; omega) (fun a _ b _ e => e) (lN_inj (v8_lt h) (v8_lt h') e)
  rw [← List.reverse_reverse w, e2, List.reverse_reverse]
theorem w5_inj {w w' : List Nat} (h : WW w) (h' : WW w') : (w5 w = w5 w') = (w = w') := by
  refine propext ⟨fun e => ?_, fun e => by rw [e]⟩
  rw [w5_v h.2.1 (fun c hc => (h.2.2 c hc).2), w5_v h'.2.1 (fun c hc => (h'.2.2 c hc).2)] at e
  have b : (2 : Nat) ^ 40 < 2 ^ 64 := by decide
  have e2 := vB_inj _ _ (fun c hc => by have := h.r c hc; show 1 ≤ c - 96 ∧ c - 96 < 32; omega) (fun c hc => by have := h'.r c hc; show 1 ≤ c - 96 ∧ c - 96 < 32; omega) (fun x hx y hy e => by have := h.r x hx; have := h'.r y hy; omega) (lN_inj (Nat.lt_trans (v5_lt h) b) (Nat.lt_trans (v5_lt h') b) e)
  rw [← List.reverse_reverse w, e2, List.reverse_reverse]
theorem KW_ww : ∀ w ∈ KWS, WW w := by unfold WW KWS; decide +kernel
/-- the reference's number of a keyword, the first k looked at -/
def kwr (w : List Nat) : Nat → Int32
  | 0 => -1
  | k + 1 => if KWS.getD k [] = w then nI k else kwr w k
theorem kwr_mem {w : List Nat} : w ∈ KWS → ∃ k, k < 15 ∧ KWS[k]? = some w ∧ kwr w 15 = nI k := by
  have : ∀ v ∈ KWS, ∃ k, k < 15 ∧ KWS[k]? = some v ∧ kwr v 15 = nI k := by decide +kernel
  exact this w
theorem kwr_no {w : List Nat} (h : ¬ w ∈ KWS) : ∀ k, k ≤ 15 → kwr w k = -1
  | 0, _ => rfl
  | k + 1, hk => by
    have h1 : ¬ KWS.getD k [] = w := fun e => h (by
      have h2 : k < KWS.length := by have h9 : KWS.length = 15 := (by decide); omega
      rw [← e, List.getD_eq_getElem?_getD, List.getElem?_eq_getElem h2]
      exact List.getElem_mem h2)
    rw [kwr, if_neg h1]; exact kwr_no h k (by omega)
theorem kw_dis : ∀ i, i < 15 → ∀ j, j < 15 → KWS[i]? = KWS[j]? → i = j := by decide +kernel
theorem kwr_is {w : List Nat} {k : Nat} (hk : k < 15) : (kwr w 15 = nI k) = (KWS[k]? = some w) := by
  refine propext ⟨fun e => ?_, fun e => ?_⟩
  · by_cases h : w ∈ KWS
    · obtain ⟨i, hi, e1, e2⟩ := kwr_mem h
      rw [e2, n_eq (by omega) (by omega)] at e
      rw [← e]; exact e1
    · rw [kwr_no h 15 (Nat.le_refl _)] at e
      exact absurd e (by
        have : ∀ k, k < 15 → ¬ (-1 : Int32) = nI k := by decide +kernel
        exact this k hk)
  · obtain ⟨i, hi, e1, e2⟩ := kwr_mem (List.mem_of_getElem? e)
    rw [e2, kw_dis i hi k hk (e1.trans e.symm)]
theorem kwr_neg {w : List Nat} : (0 ≤ kwr w 15) = (w ∈ KWS) := by
  refine propext ⟨fun e => ?_, fun e => ?_⟩
  · by_cases h : w ∈ KWS
    · exact h
    · rw [kwr_no h 15 (Nat.le_refl _)] at e; exact absurd e (by decide)
  · obtain ⟨i, hi, e1, e2⟩ := kwr_mem e
    rw [e2]
    have : ∀ k, k < 15 → (0 : Int32) ≤ nI k := by decide +kernel
    exact this i hi
