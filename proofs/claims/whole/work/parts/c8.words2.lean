/-! signs, words and times are written, on both sides -/
def num (v : Int64) : List Nat := if v.toInt < 0 then 45 :: dnum (-v.toInt).toNat else dnum v.toInt.toNat
def WST : List Nat := [115, 116, 97, 114, 116]
def WEN : List Nat := [101, 110, 100]
def WID : List Nat := [105, 100, 108, 101]
def tmw (v : Int64) : List Nat := if v = -9000000000000000000 then WST else if v = 9000000000000000000 then WEN else num v
def kwd (k : Nat) : List Nat := if k = 0 then [115, 111, 117, 114, 99, 101] else if k = 1 then [117, 110, 105, 111, 110] else if k = 2 then [100, 101, 108, 97, 121] else if k = 3 then [104, 111, 108, 100] else if k = 4 then [106, 111, 105, 110] else [119, 105, 110, 100, 111, 119]
theorem kwd_w (k : Nat) : WW (kwd k) ∧ w8 (kwd k) = kw k := by
  unfold kwd kw
  split
  · exact ⟨by unfold WW; decide, by decide +kernel⟩
  · split
    · exact ⟨by unfold WW; decide, by decide +kernel⟩
    · split
      · exact ⟨by unfold WW; decide, by decide +kernel⟩
      · split
        · exact ⟨by unfold WW; decide, by decide +kernel⟩
        · split
          · exact ⟨by unfold WW; decide, by decide +kernel⟩
          · exact ⟨by unfold WW; decide, by decide +kernel⟩
theorem wst_w : WW WST ∧ w8 WST = 495873782388 := ⟨by unfold WW; decide, by decide +kernel⟩
theorem wen_w : WW WEN ∧ w8 WEN = 6647396 := ⟨by unfold WW; decide, by decide +kernel⟩
theorem wid_w : WW WID ∧ w8 WID = 1768189029 := ⟨by unfold WW; decide, by decide +kernel⟩
theorem num_len {v : Int64} : (num v).length ≤ 20 := by
  unfold num
  split
  · have := dnum_len (n := (-v.toInt).toNat); simp only [List.length_cons]; omega
  · have := dnum_len (n := v.toInt.toNat); omega
theorem tmw_len {v : Int64} : (tmw v).length ≤ 20 := by
  unfold tmw
  split
  · decide
  · split
    · decide
    · exact num_len
theorem l_of {v : Int64} (h : 0 ≤ v.toInt) : v = lN v.toInt.toNat := by
  have h9 : v.toInt < 9223372036854775808 := Int64.toInt_lt v
  apply Int64.toInt_inj.mp
  rw [pf_lI (by omega)]; omega
theorem l_ng {v : Int64} (h : v.toInt < 0) (h9 : -9000000000000000000 ≤ v.toInt) : -v = lN (-v.toInt).toNat := by
  apply Int64.toInt_inj.mp
  rw [pf_lI (by omega), Int64.toInt_neg, l_bm (by omega) (by omega)]; omega
section CN8
variable {M : Mm} {b a : Nat}
theorem c_nmb {K : Mm → Prop} {v : Int64} {room : Nat} {bs : List Nat} (hv : -9000000000000000000 ≤ v.toInt) (hl : bs.length + 20 ≤ room) (hr : room ≤ 800) (hY : YB M b a room bs) (hK : ∀ M1, YB M1 b a room (bs ++ num v) → PX b a M M1 → K M1) : wp_X0_addNumber M b v K := by
  have h9 : v.toInt < 9223372036854775808 := Int64.toInt_lt v
  have e0 : ((0 : Int64) ≤ v) ↔ 0 ≤ v.toInt := by rw [Int64.le_iff_toInt_le]; rfl
  unfold num at hK
  refine ⟨fun z => ?_, fun z => ⟨hY.1, ?_⟩⟩
  · have z1 := e0.1 z
    rw [if_neg (by omega)] at hK
    refine ⟨fun _ => ?_, fun y => absurd z y⟩
    rw [l_of z1]
    exact c_n24 (by omega) (by omega) hr hY hK
  · have z1 : v.toInt < 0 := by
      rcases Int.lt_or_le v.toInt 0 with q | q
      · exact q
      · exact absurd (e0.2 q) z
    rw [if_pos z1] at hK
    refine c_add0 (c := 45) hY (by omega) hr (by decide) (by decide) (fun M1 y p => ⟨fun y => absurd y z, fun _ => ?_⟩)
    rw [l_ng z1 hv]
    refine c_n24 (by omega) (by simp; omega) hr y (fun M2 y2 p2 => hK M2 ?_ (p.trans p2))
    rw [List.append_assoc] at y2; exact y2
theorem vB_dig {B : Nat} {d : Nat → Nat} : ∀ (l : List Nat) (i : Nat), (∀ c ∈ l, d c < B) → vB B d l / B ^ i % B = ((l[i]?).map d).getD 0
  | [], i, _ => by simp [vB]
  | c :: l, 0, h => by
    rw [Nat.pow_zero, Nat.div_one, (vB_div (h c List.mem_cons_self)).2]; rfl
  | c :: l, i + 1, h => by
    rw [Nat.pow_succ, Nat.mul_comm, ← Nat.div_div_eq_div_mul, (vB_div (h c List.mem_cons_self)).1, vB_dig l i (fun x hx => h x (List.mem_cons_of_mem _ hx))]
    rfl
theorem bt_w8 {l : List Nat} {i : Nat} (h : WW l) : bt (w8 l) i = ((l.reverse[i]?)).getD 0 := by
  have hb : ∀ c ∈ l.reverse, id c < 256 := fun c hc => by have := h.r c hc; show c < 256; omega
  unfold bt
  rw [w8_v h.2.1 (fun c hc => by have := h.2.2 c hc; omega), wb_tn (v8_lt h), Nat.pow_mul, show (2 : Nat) ^ 8 = 256 from rfl, vB_dig _ _ hb]
  simp
theorem rev_at {l : List Nat} {i : Nat} (h : i < l.length) : l.reverse[i]? = l[l.length - 1 - i]? := by
  rw [List.getElem?_reverse h]
theorem take_s {l : List Nat} {k c : Nat} (h : l[k]? = some c) : l.take k ++ [c] = l.take (k + 1) := by
  rw [List.take_succ, h]; rfl
theorem c_wdl {K : Mm → Prop} {l : List Nat} {room : Nat} {bs : List Nat} {B0 : Mm} (h : WW l) (hl : bs.length + 8 ≤ room) (hr : room ≤ 800) (hK : ∀ M1, YB M1 b a room (bs ++ l) → PX b a B0 M1 → K M1) : ∀ (r : Nat) (M : Mm), r ≤ 8 → YB M b a room (bs ++ l.take (l.length - r)) → PX b a B0 M → lp_X0_addWord_3 b K (r + 1) (w8 l) (nI (8 * r) - 8) M := by
  have hw := h.2.1
  intro r
  induction r with
  | zero =>
    intro M _ hY hP
    rw [lp_X0_addWord_3]
    rw [Nat.sub_zero, List.take_length] at hY
    exact ⟨fun _ => hK M hY hP, fun z => absurd (by decide) z⟩
  | succ r ih =>
    intro M h8 hY hP
    have e1 : nI (8 * (r + 1)) - 8 = nI (8 * r) := by
      rw [show (8 : Int32) = nI 8 from rfl, n_sub (by omega), show 8 * (r + 1) - 8 = 8 * r by omega]
    have e2 : ¬ nI (8 * r) < 0 := by
      rw [show (0 : Int32) = nI 0 from rfl, n_lt (by omega) (by omega)]; omega
    have e3 : nI (8 * r) + (-8) = nI (8 * r) - 8 := by rw [Int32.sub_eq_add_neg]
    have eb : ((((w8 l).toUInt64 >>> ((nI (8 * r)).toInt64.toUInt64 &&& Int64.toUInt64 63)).toInt64).toInt32 &&& (255 : Int32)) = nI (bt (w8 l) r) := by
      rw [← n8]; exact cls_bt (by omega)
    have hb := bt_lt (w := w8 l) (i := r)
    rw [lp_X0_addWord_3, e1, eb]
    refine ⟨fun z => absurd z e2, fun _ => ⟨fun z => ?_, fun z => ⟨hY.1, ?_⟩⟩⟩
    · rw [show (0 : Int32) = nI 0 from rfl, n_eq (by omega) (by omega)] at z
      unfold bk_X0_addWord_28
      rw [e3]
      refine ih M (by omega) ?_ hP
      by_cases g : r < l.length
      · exfalso
        rw [bt_w8 h, rev_at g, List.getElem?_eq_getElem (by omega)] at z
        have := h.2.2 _ (List.getElem_mem (show l.length - 1 - r < l.length by omega))
        have z2 : l[l.length - 1 - r] = 0 := z
        omega
      · rw [show l.length - r = l.length - (r + 1) by omega]; exact hY
    · rw [show (0 : Int32) = nI 0 from rfl, n_eq (by omega) (by omega)] at z
      have g : r < l.length := by
        rcases Nat.lt_or_ge r l.length with q | q
        · exact q
        · exfalso
          rw [bt_w8 h, List.getElem?_eq_none (by rw [List.length_reverse]; exact q)] at z
          exact z rfl
      have hk : l.length - 1 - r < l.length := by omega
      have ec : l[l.length - 1 - r]? = some (bt (w8 l) r) := by
        rw [bt_w8 h, rev_at g, List.getElem?_eq_getElem hk]; rfl
      refine c_add0 hY (by simp; omega) hr hb (sg_i8 _ hb) (fun M1 y p => ?_)
      unfold bk_X0_addWord_28
      rw [e3]
      refine ih M1 (by omega) ?_ (hP.trans p)
      rw [List.append_assoc, show l.length - (r + 1) = l.length - 1 - r by omega, take_s ec, show l.length - 1 - r + 1 = l.length - r by omega] at y
      exact y
theorem c_wd {K : Mm → Prop} {l : List Nat} {room : Nat} {bs : List Nat} (h : WW l) (hl : bs.length + 8 ≤ room) (hr : room ≤ 800) (hY : YB M b a room bs) (hK : ∀ M1, YB M1 b a room (bs ++ l) → PX b a M M1 → K M1) : wp_X0_addWord M b (w8 l) K := by
  refine ⟨9, ?_⟩
  refine c_wdl (B0 := M) h hl hr hK 8 M (Nat.le_refl _) ?_ PX.refl
  rw [show l.length - 8 = 0 by have := h.2.1; omega, List.take_zero, List.append_nil]; exact hY
theorem c_tm {K : Mm → Prop} {v : Int64} {room : Nat} {bs : List Nat} (hv : -9000000000000000000 ≤ v.toInt) (hl : bs.length + 20 ≤ room) (hr : room ≤ 800) (hY : YB M b a room bs) (hK : ∀ M1, YB M1 b a room (bs ++ tmw v) → PX b a M M1 → K M1) : wp_X0_addTime M b v K := by
  unfold tmw at hK
  refine ⟨fun z => ⟨fun y => ⟨hY.1, ?_⟩, fun y => ⟨hY.1, ?_⟩⟩, fun z => ⟨hY.1, ?_⟩⟩
  · rw [if_neg z, if_neg y] at hK
    exact c_nmb hv hl hr hY hK
  · rw [if_neg z, if_pos y] at hK
    have := c_wd (K := K) wen_w.1 (by omega) hr hY hK
    rw [wen_w.2] at this
    exact this
  · rw [if_pos z] at hK
    have := c_wd (K := K) wst_w.1 (by omega) hr hY hK
    rw [wst_w.2] at this
    exact this
end CN8
