/-! bytes are fed, on both sides -/
def bt (w : Int64) (i : Nat) : Nat := w.toBitVec.toNat / 2 ^ (8 * i) % 256
theorem bt_lt {w : Int64} {i : Nat} : bt w i < 256 := Nat.mod_lt _ (by decide)
def wbs (w : Int64) : Nat → List Nat
  | 0 => []
  | n + 1 => bt w n :: wbs w n
theorem wbs_len {w : Int64} : ∀ n, (wbs w n).length = n
  | 0 => rfl
  | n + 1 => by rw [wbs, List.length_cons, wbs_len n]
theorem w_lN (w : Int64) : w = lN w.toBitVec.toNat := by
  apply wb_inj
  rw [wb_tb]
  apply BitVec.eq_of_toNat_eq
  rw [BitVec.toNat_ofNat, Nat.mod_eq_of_lt w.toBitVec.isLt]
theorem l_and (k : Nat) : ((lN k).toInt32 &&& 255) = nI (k % 256) := by
  apply Int32.toBitVec_inj.mp
  apply BitVec.eq_of_toNat_eq
  show (BitVec.signExtend 32 (BitVec.ofNat 64 k) &&& 255#32).toNat = (BitVec.ofNat 32 (k % 256)).toNat
  rw [BitVec.signExtend_eq_setWidth_of_le _ (by decide), BitVec.toNat_and, BitVec.toNat_setWidth, BitVec.toNat_ofNat, BitVec.toNat_ofNat, BitVec.toNat_ofNat]
  show (k % 2 ^ 64) % 2 ^ 32 &&& (2 ^ 8 - 1) = _
  rw [Nat.and_two_pow_sub_one_eq_mod]
  omega
theorem n8 {i : Nat} : (8 : Int32) * nI i = nI (8 * i) := by
  rw [show (8 : Int32) = nI 8 from rfl, n_mul]
theorem cls_bt {w : Int64} {i : Nat} (hi : i < 8) : (((w.toUInt64 >>> (((8 : Int32) * nI i).toInt64.toUInt64 &&& Int64.toUInt64 63)).toInt64).toInt32 &&& (255 : Int32)) = nI (bt w i) := by
  have e := w_lN w
  rw [n8]
  unfold bt
  rw [show w.toUInt64 = (lN w.toBitVec.toNat).toUInt64 from congrArg Int64.toUInt64 e, wb_shr w.toBitVec.isLt (by omega), l_and]
theorem y8c : ∀ c, c < 256 → (Int8.ofNat c).toInt32.toInt8.toInt32 = sgb c := by decide +kernel
theorem y8 (y : Int8) : y.toInt32.toInt8.toInt32 = sgb y.toBitVec.toNat := by
  have e : y = Int8.ofNat y.toBitVec.toNat := by
    apply Int8.toBitVec_inj.mp
    show _ = BitVec.ofNat 8 _
    apply BitVec.eq_of_toNat_eq
    rw [BitVec.toNat_ofNat, Nat.mod_eq_of_lt y.toBitVec.isLt]
  have h := y8c y.toBitVec.toNat y.toBitVec.isLt
  rw [← e] at h
  exact h
theorem ref_bt {w : Int64} {i : Nat} (hi : i < 8) : (((w >>> (((8 : Int32) * nI i).toInt64 &&& 63)).toInt32).toInt8.toInt32).toInt8.toInt32 = sgb (bt w i) := by
  rw [n8, wb_c _ (by omega), y8]
  congr 1
  have hs : (w >>> lN (8 * i)).toBitVec = w.toBitVec.sshiftRight (8 * i) := by
    rw [Int64.toBitVec_shiftRight, wb_tb, wb_sm _ (by omega)]
    show w.toBitVec.sshiftRight (BitVec.ofNat 64 (8 * i)).toNat = _
    rw [BitVec.toNat_ofNat, Nat.mod_eq_of_lt (by omega)]
  show (BitVec.signExtend 8 (BitVec.signExtend 32 (w >>> lN (8 * i)).toBitVec)).toNat = bt w i
  rw [hs, BitVec.signExtend_eq_setWidth_of_le _ (by decide), BitVec.signExtend_eq_setWidth_of_le _ (by decide)]
  have e : BitVec.setWidth 8 (BitVec.setWidth 32 (w.toBitVec.sshiftRight (8 * i))) = BitVec.setWidth 8 (w.toBitVec >>> (8 * i)) := by
    apply BitVec.eq_of_getLsbD_eq
    intro j hj
    rw [BitVec.getLsbD_setWidth, BitVec.getLsbD_setWidth, BitVec.getLsbD_setWidth, BitVec.getLsbD_sshiftRight, BitVec.getLsbD_ushiftRight]
    simp [hj, show j < 32 by omega, show 8 * i + j < 64 by omega, show ¬ 64 ≤ j by omega]
  rw [e, BitVec.toNat_setWidth, BitVec.toNat_ushiftRight, Nat.shiftRight_eq_div_pow]
  rfl
/-- a list of bytes as the class holds it -/
def YB (M : Mm) (b a room : Nat) (bs : List Nat) : Prop := mK M b = 1 ∧ mR M 0 b = some a ∧ mK M a = 16 ∧ aN M a = room ∧ mI M 1 b = nI bs.length ∧ bs.length ≤ room ∧ ∀ i c, bs[i]? = some c → c < 256 ∧ aI M a i = sgb c
theorem YB.tps {M : Mm} {b a : Nat} {bs : List Nat} (h : YB M b a 600 bs) : TPS M b bs := ⟨h.1, a, h.2.1, isA_of h.2.2.1 (by decide) (by decide), h.2.2.2.1, h.2.2.2.2.1, h.2.2.2.2.2.1, h.2.2.2.2.2.2⟩
/-- what changes when a byte is put there -/
def PX (b a : Nat) (M M1 : Mm) : Prop := mK M1 = mK M ∧ mR M1 = mR M ∧ mJ M1 = mJ M ∧ aN M1 = aN M ∧ aJ M1 = aJ M ∧ aR M1 = aR M ∧ (∀ f x, ¬ (f = 1 ∧ x = b) → mI M1 f x = mI M f x) ∧ ∀ x, ¬ x = a → ∀ j, aI M1 x j = aI M x j
section PXs
variable {M M1 M2 : Mm} {b a : Nat}
theorem PX.refl : PX b a M M := ⟨rfl, rfl, rfl, rfl, rfl, rfl, fun _ _ _ => rfl, fun _ _ _ => rfl⟩
theorem PX.trans (h : PX b a M M1) (g : PX b a M1 M2) : PX b a M M2 := ⟨g.1.trans h.1, g.2.1.trans h.2.1, g.2.2.1.trans h.2.2.1, g.2.2.2.1.trans h.2.2.2.1, g.2.2.2.2.1.trans h.2.2.2.2.1, g.2.2.2.2.2.1.trans h.2.2.2.2.2.1, fun f x z => (g.2.2.2.2.2.2.1 f x z).trans (h.2.2.2.2.2.2.1 f x z), fun x z j => (g.2.2.2.2.2.2.2 x z j).trans (h.2.2.2.2.2.2.2 x z j)⟩
theorem PX.hx {Y : List Nat} (h : PX b a M M1) (hb : mK M b = 1) (ha : mK M a = 16) : HX Y M M1 := fun x _ => by
  obtain ⟨h1, h2, h3, h4, h5, h6, h7, h8⟩ := h
  refine ⟨by rw [h1], fun z => ⟨fun f _ => ⟨h7 f x (fun e => z (by rw [e.2, hb]; rfl)), by rw [h3]⟩, fun j => ⟨h8 x (fun e => z (by rw [e, ha]; rfl)) j, by rw [h5]⟩⟩, fun f _ => by rw [h2], by rw [h4], fun j => by rw [h6]⟩
theorem PX.rx (h : PX b a M M1) (ha : mK M a = 16) : RX M M1 := fun x hx => by
  obtain ⟨h1, h2, h3, h4, h5, h6, h7, h8⟩ := h
  exact ⟨by rw [h1], fun f hf => ⟨h7 f x (fun e => by omega), by rw [h3], by rw [h2]⟩, by rw [h4], fun j => ⟨h8 x (rx_ne hx ha (Or.inl rfl)) j, by rw [h5]⟩⟩
theorem c_add0 {K : Mm → Prop} {room c : Nat} {bs : List Nat} {v : Int32} (h : YB M b a room bs) (hl : bs.length < room) (hr : room ≤ 800) (hc : c < 256) (hv : v.toInt8.toInt32.toInt8.toInt32 = sgb c) (hK : ∀ M1, YB M1 b a room (bs ++ [c]) → PX b a M M1 → K M1) : wp_X0_add M b v K := by
  obtain ⟨h1, h2, h3, h4, h5, h6, h7⟩ := h
  refine ⟨h1, a, h2, isA_of h3 (by decide) (by decide), ?_⟩
  rw [h4, h5, n_le (by omega) (by omega)]
  refine ⟨fun z => absurd z (by omega), fun _ => ⟨n_in hl (by omega), ?_⟩⟩
  rw [n_clamp (by omega), hv]
  have e1 : mI (tI M a bs.length (sgb c)) 1 b = nI bs.length := h5
  rw [e1, show nI bs.length + (1 : Int32) = nI (bs.length + 1) by rw [show (1 : Int32) = nI 1 from rfl, n_add]]
  refine hK _ ⟨h1, h2, h3, h4, by simp [ms], by simp; omega, fun i d hd => ?_⟩ ⟨rfl, rfl, rfl, rfl, rfl, rfl, fun f x z => ?_, fun x z j => ?_⟩
  · have e2 : aI (sI (tI M a bs.length (sgb c)) 1 b (nI (bs.length + 1))) a i = if i = bs.length then sgb c else aI M a i := by simp [ms]
    rw [e2]
    by_cases e : i = bs.length
    · subst e
      simp at hd
      rw [if_pos rfl, ← hd]; exact ⟨hc, rfl⟩
    · rw [if_neg e]
      have hi : i < (bs ++ [c]).length := (List.getElem?_eq_some_iff.1 hd).1
      simp at hi
      rw [List.getElem?_append_left (by omega)] at hd
      exact h7 i d hd
  · by_cases ex : x = b
    · have ef : ¬ f = 1 := fun e => z ⟨e, ex⟩
      simp [ms, ef]
    · simp [ms, ex]
  · simp [ms, z]
theorem c_fdl {K : Int32 → Mm → Prop} {x : Nat} {w : Int64} {B0 : Mm} {full : List Nat} (hK : ∀ M1, YB M1 b a 600 full → PX b a B0 M1 → K (nI full.length) M1) : ∀ (r : Nat) (bs : List Nat) (M : Mm), r ≤ 8 → bs.length + r ≤ 600 → bs ++ wbs w r = full → YB M b a 600 bs → PX b a B0 M → mK M x = 11 → mR M 640 x = some b → lp_X10_feed_33 x K (r + 1) w (nI r - 1) M := by
  intro r
  induction r with
  | zero =>
    intro bs M _ hl hf hY hP hx hR
    rw [lp_X10_feed_33]
    refine ⟨fun _ => ⟨hx, b, hR, hY.1, ?_⟩, fun z => absurd (by decide) z⟩
    rw [wbs, List.append_nil] at hf
    subst hf
    rw [hY.2.2.2.2.1]
    exact hK M hY hP
  | succ r ih =>
    intro bs M h8 hl hf hY hP hx hR
    have e1 : nI (r + 1) - 1 = nI r := by
      rw [show (1 : Int32) = nI 1 from rfl, n_sub (by omega)]; rfl
    have e2 : ¬ nI r < 0 := by
      rw [show (0 : Int32) = nI 0 from rfl, n_lt (by omega) (by omega)]; omega
    rw [lp_X10_feed_33, e1]
    refine ⟨fun z => absurd z e2, fun _ => ⟨hx, b, hR, hY.1, ?_⟩⟩
    rw [cls_bt (by omega)]
    refine c_add0 hY (by omega) (by decide) bt_lt (sg_i8 _ bt_lt) (fun M1 y p => ?_)
    have e3 : nI r + (-1) = nI r - 1 := by rw [Int32.sub_eq_add_neg]
    rw [e3]
    refine ih (bs ++ [bt w r]) M1 (by omega) (by simp; omega) ?_ y (hP.trans p) (by rw [p.1]; exact hx) (by rw [p.2.1]; exact hR)
    rw [← hf, wbs, List.append_assoc]; rfl
end PXs
def fdok (tp : List Nat) (n : Int32) : Prop := ¬ n < 1 ∧ ¬ 8 < n ∧ tp.length + n.toNatClampNeg ≤ 600
theorem n18 {n : Int32} (h1 : ¬ n < 1) (h8 : ¬ 8 < n) : ∃ k, n = nI k ∧ 1 ≤ k ∧ k ≤ 8 := by
  rw [Int32.lt_iff_toInt_lt] at h1 h8
  have e1 : (1 : Int32).toInt = 1 := by decide
  have e8 : (8 : Int32).toInt = 8 := by decide
  rw [e1] at h1
  rw [e8] at h8
  refine ⟨n.toInt.toNat, Int32.toInt_inj.mp ?_, by omega, by omega⟩
  rw [n_toInt (by omega)]; omega
theorem c_feed {M : Mm} {L : Nat → Nat → Nat} {K : Int32 → Mm → Prop} {tp : List Nat} {w : Int64} {n : Int32} (hO : COB M L) (hT : YB M (L 0 8) (L 0 9) 600 tp) (hbad : ¬ fdok tp n → K (-1) M) (hok : ∀ M1, fdok tp n → YB M1 (L 0 8) (L 0 9) 600 (tp ++ wbs w n.toNatClampNeg) → PX (L 0 8) (L 0 9) M M1 → K (nI (tp.length + n.toNatClampNeg)) M1) : wp_X10_feed M (L 0 0) w n K := by
  refine ⟨fun z => hbad (fun q => q.1 z), fun z1 => ⟨fun z => hbad (fun q => q.2.1 z), fun z2 => ⟨hO.1, L 0 8, hO.2.1, hT.1, ?_⟩⟩⟩
  obtain ⟨k, rfl, k1, k8⟩ := n18 z1 z2
  have hl := hT.2.2.2.2.2.1
  have ec : (nI k).toNatClampNeg = k := n_clamp (by omega)
  rw [hT.2.2.2.2.1, show (600 : Int32) = nI 600 from rfl, n_sub hl, n_le (by omega) (by omega)]
  rw [ec] at hok
  refine ⟨fun z => ⟨k + 1, ?_⟩, fun z => hbad (fun q => z (by have := q.2.2; rw [ec] at this; omega))⟩
  refine c_fdl (B0 := M) (full := tp ++ wbs w k) (fun M1 y p => ?_) k tp M k8 (by omega) rfl hT PX.refl hO.1 hO.2.1
  rw [List.length_append, wbs_len]
  exact hok M1 ⟨z1, z2, by rw [ec]; omega⟩ y p
section RFd
variable {M : Mm} {m : Nat} {ra : Nat → Nat} {S S0 : St} {tp : List Nat}
theorem r_fdl (h : SH M m ra) {K : Int32 → Mm → Prop} {w : Int64} {full : List Nat} (hK : ∀ S1, RT S1 full → Ex [704, 705, 706] S0 S1 → K (nI full.length) (pM M m ra S1)) : ∀ (r : Nat) (bs : List Nat) (S : St), r ≤ 8 → bs.length + r ≤ 600 → bs ++ wbs w r = full → RT S bs → Ex [704, 705, 706] S0 S → lp_X11_feed_35 m K (r + 1) w (nI r - 1) (pM M m ra S) := by
  intro r
  induction r with
  | zero =>
    intro bs S _ hl hf hT hx
    rw [lp_X11_feed_35]
    refine ⟨fun _ => ⟨FK h, ?_⟩, fun z => absurd (by decide) z⟩
    rw [wbs, List.append_nil] at hf
    subst hf
    rw [p_mI, hT.1]
    exact hK S hT hx
  | succ r ih =>
    intro bs S h8 hl hf hT hx
    have e1 : nI (r + 1) - 1 = nI r := by
      rw [show (1 : Int32) = nI 1 from rfl, n_sub (by omega)]; rfl
    have e2 : ¬ nI r < 0 := by
      rw [show (0 : Int32) = nI 0 from rfl, n_lt (by omega) (by omega)]; omega
    have e3 : nI r + (-1) = nI r - 1 := by rw [Int32.sub_eq_add_neg]
    rw [lp_X11_feed_35, e1]
    refine ⟨fun z => absurd z e2, fun _ => ?_⟩
    simp only [ref_bt (show r < 8 by omega), e3]
    simp (disch := omega) only [RF h, p_mK, p_mR, p_aN, p_aR, p_mI, p_mJ, p_sI, p_sJ, Option.some.injEq, exists_eq_left', true_and, and_true, na1, na3, n_add, n_mul, n_clamp, n_in, hT.1]
    have e4 : gI (wI S 705 bs.length (sgb (bt w r))) 706 = nI bs.length := hT.1
    simp (disch := omega) only [e4, na1, na3, n_add, n_mul, n_clamp, n_in]
    refine ih (bs ++ [bt w r]) _ (by omega) (by simp; omega) ?_ ⟨by simp [sg], by simp; omega, fun i d hd => ?_⟩ ((hx.wI (f := 705) (by decide)).pI (f := 706) (by decide))
    · rw [← hf, wbs, List.append_assoc]; rfl
    · have e5 : vI (pI (wI S 705 bs.length (sgb (bt w r))) 706 (nI (bs.length + 1))) 705 i = if i = bs.length then sgb (bt w r) else vI S 705 i := by simp [sg]
      rw [e5]
      by_cases e : i = bs.length
      · subst e
        simp at hd
        rw [if_pos rfl, ← hd]; exact ⟨bt_lt, rfl⟩
      · rw [if_neg e]
        have hi : i < (bs ++ [bt w r]).length := (List.getElem?_eq_some_iff.1 hd).1
        simp at hi
        rw [List.getElem?_append_left (by omega)] at hd
        exact hT.2.2 i d hd
theorem r_feed (h : SH M m ra) {K : Int32 → Mm → Prop} {w : Int64} {n : Int32} (hT : RT S tp) (hbad : ¬ fdok tp n → K (-1) (pM M m ra (pI S 704 0))) (hok : ∀ S1, fdok tp n → RT S1 (tp ++ wbs w n.toNatClampNeg) → Ex [704, 705, 706] S S1 → K (nI (tp.length + n.toNatClampNeg)) (pM M m ra S1)) : wp_X11_feed (pM M m ra S) m w n K := by
  have e0 : gI (pI S 704 0) 706 = nI tp.length := hT.1
  have hT0 : RT (pI S 704 0) tp := hT
  have hl := hT.2.1
  simp only [wp_X11_feed, bk_X11_feed_28, p_sI, p_mI, e0]
  refine ⟨FK h, fun z => hbad (fun q => q.1 z), fun z1 => ⟨fun z => hbad (fun q => q.2.1 z), fun z2 => ?_⟩⟩
  obtain ⟨k, rfl, k1, k8⟩ := n18 z1 z2
  have ec : (nI k).toNatClampNeg = k := n_clamp (by omega)
  rw [ec] at hok
  rw [show (600 : Int32) = nI 600 from rfl, n_add, n_le (by omega) (by omega)]
  refine ⟨fun z => ⟨k + 1, ?_⟩, fun z => hbad (fun q => z (by have := q.2.2; rw [ec] at this; omega))⟩
  refine r_fdl (S0 := S) (full := tp ++ wbs w k) h (fun S1 y p => ?_) k tp _ k8 (by omega) rfl hT0 (Ex.refl.pI (by decide))
  rw [List.length_append, wbs_len]
  exact hok S1 ⟨z1, z2, by rw [ec]; omega⟩ y p
end RFd
