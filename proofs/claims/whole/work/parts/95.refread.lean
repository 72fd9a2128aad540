/-! the reference reads statements: how a state stands for what was read so far -/
def rdF : List Nat := [707, 708, 709, 710, 711, 712, 713]
/-- where the reading stands -/
def Rd (tp : List Nat) (S : St) (r : Except Flt Tok) : Prop := match r with
  | .ok T => gI S 712 = 0 ∧ TKR S T ∧ TT tp T
  | .error e => gI S 712 = nI e.1 ∧ gI S 713 = nI e.2 ∧ 1 ≤ e.1 ∧ e.1 ≤ 6 ∧ e.2 ≤ 600
def bnd {α β : Type} (r : Except Flt α) (f : α → Except Flt β) : Except Flt β := match r with
  | .ok x => f x
  | .error e => .error e
theorem bnd_ok {α β : Type} (x : α) (f : α → Except Flt β) : bnd (.ok x) f = f x := rfl
theorem bnd_er {α β : Type} (e : Flt) (f : α → Except Flt β) : bnd (.error e) f = .error e := rfl
def sndR {α : Type} (r : Except Flt (α × Tok)) : Except Flt Tok := match r with
  | .ok x => .ok x.2
  | .error e => .error e
theorem TKR.ex {X : List Nat} {S S1 : St} {T : Tok} (h : TKR S T) (hx : Ex X S S1) (h7 : ¬ 707 ∈ X) (h8 : ¬ 708 ∈ X) (h9 : ¬ 709 ∈ X) (h10 : ¬ 710 ∈ X) (h11 : ¬ 711 ∈ X) : TKR S1 T := by
  unfold TKR
  rw [(hx 707 h7).1, (hx 708 h8).1, (hx 709 h9).1, (hx 711 h11).1, (hx 710 h10).2.1]; exact h
theorem Rd.ex {X : List Nat} {S S1 : St} {tp : List Nat} {r : Except Flt Tok} (h : Rd tp S r) (hx : Ex X S S1) (h7 : ¬ 707 ∈ X) (h8 : ¬ 708 ∈ X) (h9 : ¬ 709 ∈ X) (h10 : ¬ 710 ∈ X) (h11 : ¬ 711 ∈ X) (h12 : ¬ 712 ∈ X) (h13 : ¬ 713 ∈ X) : Rd tp S1 r := by
  cases r with
  | ok T => exact ⟨by rw [(hx 712 h12).1]; exact h.1, h.2.1.ex hx h7 h8 h9 h10 h11, h.2.2⟩
  | error e => exact ⟨by rw [(hx 712 h12).1]; exact h.1, by rw [(hx 713 h13).1]; exact h.2.1, h.2.2⟩
theorem kR_1 : ∀ k, k ≤ 5 → ((kR k = 1) = (k = 2 ∨ k = 3)) := by
  intro k hk
  have : ∀ k, k ≤ 5 → (kR k = 1 ↔ (k = 2 ∨ k = 3)) := by decide
  exact propext (this k hk)
theorem kR_2 : ∀ k, k ≤ 5 → ((kR k = 2) = (k = 4)) := by
  intro k hk
  have : ∀ k, k ≤ 5 → (kR k = 2 ↔ k = 4) := by decide
  exact propext (this k hk)
theorem kR_3 : ∀ k, k ≤ 5 → ((kR k = 3) = (k = 5)) := by
  intro k hk
  have : ∀ k, k ≤ 5 → (kR k = 3 ↔ k = 5) := by decide
  exact propext (this k hk)
theorem kR_4 : ∀ k, k ≤ 5 → ((kR k = 4) = (k = 1)) := by
  intro k hk
  have : ∀ k, k ≤ 5 → (kR k = 4 ↔ k = 1) := by decide
  exact propext (this k hk)
theorem kR_0 : ∀ k, k ≤ 5 → ((kR k = 0) = (k = 0)) := by
  intro k hk
  have : ∀ k, k ≤ 5 → (kR k = 0 ↔ k = 0) := by decide
  exact propext (this k hk)
section RR
variable {M : Mm} {m : Nat} {ra : Nat → Nat} {S : St} {tp : List Nat}
theorem e_good (h : SH M m ra) {K : Int32 → Mm → Prop} : wp_X11_good (pM M m ra S) m K = K (if gI S 712 = 0 then 1 else 0) (pM M m ra S) := by
  by_cases a : gI S 712 = 0
  · simp [wp_X11_good, bk_X11_good_12, p_mK, FK h, p_mI, a, bz]
  · simp [wp_X11_good, bk_X11_good_12, p_mK, FK h, p_mI, a, bz]
theorem Rd.g1 {T : Tok} (hR : Rd tp S (.ok T)) : (if gI S 712 = 0 then (1 : Int32) else 0) = 1 := if_pos hR.1
theorem er_ne {n : Nat} (h1 : 1 ≤ n) (h2 : n ≤ 6) : ¬ nI n = 0 := by
  have : ∀ n, n < 7 → 1 ≤ n → ¬ nI n = 0 := by decide
  exact this n (by omega) h1
theorem Rd.g0 {e : Flt} (hR : Rd tp S (.error e)) : (if gI S 712 = 0 then (1 : Int32) else 0) = 0 := by
  refine if_neg (fun z => ?_)
  rw [hR.1] at z
  exact er_ne hR.2.2.1 hR.2.2.2.1 z
theorem e_isName (h : SH M m ra) {K : Int32 → Mm → Prop} {T : Tok} (hT : TKR S T) (hw : TW T) : wp_X11_isName (pM M m ra S) m K = K (if tkk T = 3 then 1 else 0) (pM M m ra S) := by
  have k5 := hw.2.2.2.2.2.2.2.1
  simp only [wp_X11_isName, bk_X11_isName_19, bk_X11_isName_20, p_mK, FK h, p_mI, hT.2.2.1, kR_1 _ k5, true_and]
  by_cases a : tkk T = 2 ∨ tkk T = 3
  · rw [(hT.2.2.2.1 a).1, kwr_neg]
    rcases a with a | a
    · have := hw.2.2.2.1 a
      simp [a, this, bz]
    · have := hw.2.2.2.2.1 a
      simp [a, this, bz]
  · have a3 : ¬ tkk T = 3 := fun e => a (Or.inr e)
    have a2 : ¬ tkk T = 2 := fun e => a (Or.inl e)
    simp [a2, a3, bz]
theorem e_isKw (h : SH M m ra) {K : Int32 → Mm → Prop} {T : Tok} {k : Nat} {p : Int32} (hk : k < 15) (hp : p = nI k) (hT : TKR S T) (hw : TW T) : wp_X11_isKeyword (pM M m ra S) m p K = K (bI (isKw k T)) (pM M m ra S) := by
  subst hp
  have k5 := hw.2.2.2.2.2.2.2.1
  simp only [wp_X11_isKeyword, bk_X11_isKeyword_20, bk_X11_isKeyword_21, p_mK, FK h, p_mI, hT.2.2.1, kR_1 _ k5, true_and]
  by_cases a : tkk T = 2 ∨ tkk T = 3
  · rw [(hT.2.2.2.1 a).1, kwr_is hk]
    rcases a with a | a
    · by_cases b : KWS[k]? = some (tkw T) <;> simp [a, b, bz, isKw, bI]
    · have := hw.2.2.2.2.1 a
      have b : ¬ KWS[k]? = some (tkw T) := fun e => this (List.mem_of_getElem? e)
      simp [a, b, bz, isKw, bI]
  · have a3 : ¬ tkk T = 2 := fun e => a (Or.inl e)
    have a2 : ¬ tkk T = 3 := fun e => a (Or.inr e)
    simp [a2, a3, bz, isKw, bI]
theorem r_flt (h : SH M m ra) {K : Mm → Prop} {T : Tok} {n : Nat} {α : Type} (hR : Rd tp S (.ok T)) (h1 : 1 ≤ n) (h2 : n ≤ 6) (hK : ∀ S1, Ex [712, 713] S S1 → Rd tp S1 (.error (n, tkp T)) → K (pM M m ra S1)) : wp_X11_fault (pM M m ra S) m (nI n) K := by
  simp only [wp_X11_fault, bk_X11_fault_20, p_mK, FK h, p_mI, p_sI, hR.1, true_and, not_true, false_implies, forall_const]
  refine hK _ ((Ex.refl.pI (by decide)).pI (by decide)) ⟨by simp [sg], by simp [sg, hR.2.1.2.1], h1, h2, ?_⟩
  exact Nat.le_trans hR.2.2.1.1 hR.2.2.1.2.1
theorem r_mis (h : SH M m ra) {K : Mm → Prop} {T : Tok} {α : Type} (hR : Rd tp S (.ok T)) (hK : ∀ S1, Ex [712, 713] S S1 → Rd tp S1 (a_mis T) → K (pM M m ra S1)) : wp_X11_misplaced (pM M m ra S) m K := by
  have k5 := hR.2.2.1.2.2.2.2.2.2.2.1
  simp only [wp_X11_misplaced, bk_X11_misplaced_14, p_mK, FK h, p_mI, hR.2.1.2.2.1, kR_4 _ k5, true_and, Option.some.injEq, exists_eq_left']
  refine ⟨fun z => r_flt (α := α) h (n := 2) hR (by decide) (by decide) (fun S1 x1 x2 => hK S1 x1 ?_), fun z => r_flt (α := α) h (n := 1) hR (by decide) (by decide) (fun S1 x1 x2 => hK S1 x1 ?_)⟩
  · rw [a_mis, if_neg z]; exact x2
  · rw [a_mis, if_pos z]; exact x2
theorem Rd.nx {T : Tok} (h : SH M m ra) {K : Mm → Prop} (hT : RT S tp) (hR : Rd tp S (.ok T)) (hK : ∀ S1, Ex tkF S S1 → Rd tp S1 (.ok (a_nx tp T)) → K (pM M m ra S1)) : wp_X11_next (pM M m ra S) m K := by
  refine r_next h hT hR.2.2.2 hR.2.1.1 (fun S1 x1 x2 => hK S1 x1 ⟨?_, x2, TT_nx hT.2.1 hR.2.2⟩)
  rw [(x1 712 (by decide)).1]; exact hR.1
theorem exR {X : List Nat} {S S1 : St} (hx : Ex X S S1) (hX : ∀ f ∈ X, f ∈ rdF) : Ex rdF S S1 := hx.mono hX
theorem r_kw (h : SH M m ra) {K : Mm → Prop} {r : Except Flt Tok} {k : Nat} (hk : k < 15) (hT : RT S tp) (hR : Rd tp S r) (hK : ∀ S1, Ex rdF S S1 → Rd tp S1 (bnd r (a_kw tp k)) → K (pM M m ra S1)) : wp_X11_takeKeyword (pM M m ra S) m (nI k) K := by
  cases r with
  | error e =>
    have := hK S Ex.refl hR
    simp only [wp_X11_takeKeyword, bk_X11_takeKeyword_19, bk_X11_takeKeyword_30, p_mK, FK h, e_good h, hR.g0, true_and, not_true, false_implies, forall_const, and_true]
    exact this
  | ok T =>
    rw [bnd_ok] at hK
    simp only [wp_X11_takeKeyword, bk_X11_takeKeyword_19, bk_X11_takeKeyword_30, p_mK, FK h, e_good h, hR.g1, e_isKw h hk rfl hR.2.1 hR.2.2.1, bI_0, true_and, show ((1 : Int32) = 0) = False by decide, not_false_eq_true, false_implies, forall_const]
    refine ⟨fun z => ?_, fun z => ?_⟩
    · refine Rd.nx h hT hR (fun S1 x1 x2 => hK S1 (exR x1 (by decide)) ?_)
      rw [a_kw, if_pos (by simpa using z)]; exact x2
    · refine r_mis (α := Tok) h hR (fun S1 x1 x2 => ?_)
      have z2 : ¬ isKw k T = true := by rw [z]; decide
      have x3 : Rd tp S1 (a_kw tp k T) := by rw [a_kw, if_neg z2]; exact x2
      have g0 := Rd.g0 x2
      simp only [p_mK, FK h, e_good h, g0, true_and, not_true, false_implies, forall_const, and_true]
      exact hK S1 (exR x1 (by decide)) x3
theorem e_sg5 {T : Tok} {c : Nat} (hT : TKR S T) (hw : TW T) (hc : c = 61 ∨ c = 59 ∨ c = 45) : (tkk T = 5 ∧ gJ S 710 = lN c) = (isSg c T = true) := by
  refine propext ⟨fun ⟨a, b⟩ => ?_, fun a => ?_⟩
  · rcases hw.2.2.2.2.2.2.1 a with e | e | e <;> rw [hT.2.2.2.2.2 a _ e] at b <;> rcases hc with d | d | d <;> subst d <;> first | (simp [isSg, a, e]; done) | exact absurd b (by decide)
  · simp only [isSg, Bool.and_eq_true, decide_eq_true_eq] at a
    exact ⟨a.1, hT.2.2.2.2.2 a.1 c a.2⟩
theorem r_sg (h : SH M m ra) {K : Mm → Prop} {r : Except Flt Tok} {c : Nat} (hc : c = 61 ∨ c = 59 ∨ c = 45) (hT : RT S tp) (hR : Rd tp S r) (hK : ∀ S1, Ex rdF S S1 → Rd tp S1 (bnd r (a_sg tp c)) → K (pM M m ra S1)) : wp_X11_takeSign (pM M m ra S) m (nI c) K := by
  cases r with
  | error e =>
    have := hK S Ex.refl hR
    simp only [wp_X11_takeSign, bk_X11_takeSign_29, bk_X11_takeSign_40, p_mK, FK h, e_good h, hR.g0, true_and, not_true, false_implies, forall_const, and_true]
    exact this
  | ok T =>
    rw [bnd_ok] at hK
    have k5 := hR.2.2.1.2.2.2.2.2.2.2.1
    have ec : (nI c).toInt64 = lN c := j_nI (by omega)
    have yes : isSg c T = true → bk_X11_takeSign_29 m K (pM M m ra S) := fun z => by
      simp only [bk_X11_takeSign_29, bk_X11_takeSign_40, p_mK, FK h, e_good h, hR.g1, true_and, show ((1 : Int32) = 0) = False by decide, not_false_eq_true, false_implies, forall_const]
      refine Rd.nx h hT hR (fun S1 x1 x2 => hK S1 (exR x1 (by decide)) ?_)
      rw [a_sg, if_pos z]; exact x2
    have no : ¬ isSg c T = true → bk_X11_takeSign_25 m K (pM M m ra S) := fun z => by
      refine ⟨FK h, r_mis (α := Tok) h hR (fun S1 x1 x2 => ?_)⟩
      have x3 : Rd tp S1 (a_sg tp c T) := by rw [a_sg, if_neg z]; exact x2
      have g0 := Rd.g0 x2
      simp only [bk_X11_takeSign_29, bk_X11_takeSign_40, p_mK, FK h, e_good h, g0, true_and, not_true, false_implies, forall_const, and_true]
      exact hK S1 (exR x1 (by decide)) x3
    have e5 := e_sg5 hR.2.1 hR.2.2.1 hc
    simp only [wp_X11_takeSign, p_mK, FK h, p_mI, p_mJ, e_good h, hR.g1, hR.2.1.2.2.1, kR_3 _ k5, ec, true_and, show ((1 : Int32) = 0) = False by decide, not_false_eq_true, false_implies, forall_const]
    refine ⟨fun z => no (fun y => ?_), fun z => ⟨fun y => yes ?_, fun y => no (fun x => ?_)⟩⟩
    · rw [← e5] at y; exact z y.1
    · rw [← e5]; exact ⟨z, y⟩
    · rw [← e5] at x; exact y x.2
theorem lq_le {a b : Nat} (ha : a < 2 ^ 63) (hb : b < 2 ^ 63) : (lN a ≤ lN b) = (a ≤ b) := by rw [Int64.le_iff_toInt_le, pf_lI ha, pf_lI hb]; exact propext Int.ofNat_le
theorem lq_lt {a b : Nat} (ha : a < 2 ^ 63) (hb : b < 2 ^ 63) : (lN a < lN b) = (a < b) := by rw [Int64.lt_iff_toInt_lt, pf_lI ha, pf_lI hb]; exact propext Int.ofNat_lt
theorem TW.num {T : Tok} (hw : TW T) (h4 : tkk T = 4) : dn (tkw T) ≤ BIG := dn_lt (hw.2.2.2.2.2.1 h4).2 (hw.2.2.2.2.2.1 h4).1
theorem TKR.num {T : Tok} (hT : TKR S T) (h4 : tkk T = 4) : gJ S 710 = lN (dn (tkw T)) := by rw [hT.2.2.2.2.1 h4, dv_dn]
/-- what a number's reading gives -/
def vnum (r : Except Flt (Nat × Tok)) : Int64 := match r with
  | .ok x => lN x.1
  | .error _ => 0
theorem r_num (h : SH M m ra) {K : Int64 → Mm → Prop} {r : Except Flt Tok} {lo hi : Nat} {h9 : Int64} (hT : RT S tp) (hR : Rd tp S r) (hlo : lo ≤ BIG) (hhi : ∀ n, n ≤ BIG → (lN n ≤ h9) = (n ≤ hi)) (hK : ∀ S1, Ex rdF S S1 → Rd tp S1 (sndR (bnd r (a_num tp lo hi))) → K (vnum (bnd r (a_num tp lo hi))) (pM M m ra S1)) : wp_X11_takeNumber (pM M m ra S) m (lN lo) h9 K := by
  have bb : BIG < 2 ^ 63 := by decide
  cases r with
  | error e =>
    have := hK S Ex.refl hR
    simp only [wp_X11_takeNumber, bk_X11_takeNumber_19, p_mK, FK h, e_good h, hR.g0, true_and, not_true, false_implies, forall_const, and_true]
    exact this
  | ok T =>
    rw [bnd_ok] at hK
    have k5 := hR.2.2.1.2.2.2.2.2.2.2.1
    have bad : ∀ S1, Ex rdF S S1 → (∀ e, a_num tp lo hi T = .error e → Rd tp S1 (.error e)) → (∃ e, a_num tp lo hi T = .error e) → K 0 (pM M m ra S1) := fun S1 x1 x2 ⟨e, he⟩ => by
      have := hK S1 x1 (by rw [he]; exact x2 e he)
      rw [he] at this; exact this
    simp only [wp_X11_takeNumber, p_mK, FK h, p_mI, e_good h, hR.g1, hR.2.1.2.2.1, kR_2 _ k5, true_and, show ((1 : Int32) = 0) = False by decide, not_false_eq_true, false_implies, forall_const]
    refine ⟨fun z => ?_, fun z => ?_⟩
    · have hd := hR.2.2.1.num z
      have hv := hR.2.1.num z
      have f5 : bk_X11_takeNumber_48 m K (pM M m ra S) = (mK M m = 12 ∧ wp_X11_fault (pM M m ra S) m (nI 5) (fun M2 => K 0 M2)) := rfl
      have bad5 : ¬ (lo ≤ dn (tkw T) ∧ dn (tkw T) ≤ hi) → bk_X11_takeNumber_48 m K (pM M m ra S) := fun q => by
        rw [f5]
        have en : a_num tp lo hi T = .error (5, tkp T) := by rw [a_num, if_pos z, if_neg q]; rfl
        refine ⟨FK h, r_flt (α := Tok) h hR (by decide) (by decide) (fun S1 x1 x2 => bad S1 (exR x1 (by decide)) (fun e he => ?_) ⟨_, en⟩)⟩
        rw [en] at he
        cases he; exact x2
      simp only [bk_X11_takeNumber_19, p_mK, FK h, p_mJ, e_good h, hR.g1, hv, true_and, show ((1 : Int32) = 0) = False by decide, not_false_eq_true, false_implies, forall_const, and_true, lq_lt (show dn (tkw T) < 2 ^ 63 by omega) (show lo < 2 ^ 63 by omega), hhi _ hd]
      refine ⟨fun q => bad5 (fun y => by omega), fun q => ⟨fun y => ?_, fun y => bad5 (fun x => y x.2)⟩⟩
      refine Rd.nx h hT hR (fun S1 x1 x2 => ?_)
      have en : a_num tp lo hi T = .ok (dn (tkw T), a_nx tp T) := by rw [a_num, if_pos z, if_pos ⟨by omega, y⟩]
      have := hK S1 (exR x1 (by decide)) (by rw [en]; exact x2)
      rw [en] at this; exact this
    · refine r_mis (α := Nat × Tok) h hR (fun S1 x1 x2 => ?_)
      have en : a_num tp lo hi T = a_mis T := by rw [a_num, if_neg z]
      have g0 := Rd.g0 x2
      simp only [bk_X11_takeNumber_19, p_mK, FK h, e_good h, g0, true_and, not_true, false_implies, forall_const]
      exact bad S1 (exR x1 (by decide)) (fun e he => by rw [en] at he; cases he; exact x2) ⟨_, en⟩
theorem hhiN {hi : Nat} (h : hi < 2 ^ 63) : ∀ n, n ≤ BIG → (lN n ≤ lN hi) = (n ≤ hi) := fun n hn => lq_le (by have h9 : n ≤ 999999999999999999 := hn; omega) h
theorem hANY : ∀ n, n ≤ BIG → (lN n ≤ 9223372036854775807) = (n ≤ BIG) := fun n hn => by
  have h1 : n ≤ 999999999999999999 := hn
  have e : (lN n ≤ 9223372036854775807) = (n ≤ 9223372036854775807) := lq_le (b := 9223372036854775807) (by omega) (by decide)
  rw [e]; exact propext ⟨fun _ => hn, fun _ => by omega⟩
theorem num_ok {lo hi : Nat} {T T1 : Tok} {v : Nat} (h : a_num tp lo hi T = .ok (v, T1)) : lo ≤ v ∧ v ≤ hi := by
  unfold a_num at h
  by_cases a : tkk T = 4
  · rw [if_pos a] at h
    by_cases b : lo ≤ dn (tkw T) ∧ dn (tkw T) ≤ hi
    · rw [if_pos b] at h; cases h; exact b
    · rw [if_neg b] at h; cases h
  · rw [if_neg a] at h; cases h
theorem r_num2 (h : SH M m ra) {K : Int64 → Mm → Prop} {T : Tok} {lo hi : Nat} {h9 : Int64} (hT : RT S tp) (hR : Rd tp S (.ok T)) (hlo : lo ≤ BIG) (hhi : ∀ n, n ≤ BIG → (lN n ≤ h9) = (n ≤ hi)) (hok : ∀ S1 v T1, a_num tp lo hi T = .ok (v, T1) → Ex rdF S S1 → Rd tp S1 (.ok T1) → K (lN v) (pM M m ra S1)) (her : ∀ S1 e, a_num tp lo hi T = .error e → Ex rdF S S1 → Rd tp S1 (.error e) → K 0 (pM M m ra S1)) : wp_X11_takeNumber (pM M m ra S) m (lN lo) h9 K := by
  refine r_num h hT hR hlo hhi (fun S1 x1 x2 => ?_)
  rw [bnd_ok] at x2 ⊢
  cases e : a_num tp lo hi T with
  | ok y => rw [e] at x2; exact hok S1 y.1 y.2 e x1 x2
  | error y => rw [e] at x2; exact her S1 y e x1 x2
theorem r_kw2 (h : SH M m ra) {K : Mm → Prop} {T : Tok} {k : Nat} (hk : k < 15) (hT : RT S tp) (hR : Rd tp S (.ok T)) (hok : ∀ S1 T1, a_kw tp k T = .ok T1 → Ex rdF S S1 → Rd tp S1 (.ok T1) → K (pM M m ra S1)) (her : ∀ S1 e, a_kw tp k T = .error e → Ex rdF S S1 → Rd tp S1 (.error e) → K (pM M m ra S1)) : wp_X11_takeKeyword (pM M m ra S) m (nI k) K := by
  refine r_kw h hk hT hR (fun S1 x1 x2 => ?_)
  rw [bnd_ok] at x2
  cases e : a_kw tp k T with
  | ok y => rw [e] at x2; exact hok S1 y e x1 x2
  | error y => rw [e] at x2; exact her S1 y e x1 x2
theorem r_sg2 (h : SH M m ra) {K : Mm → Prop} {T : Tok} {c : Nat} (hc : c = 61 ∨ c = 59 ∨ c = 45) (hT : RT S tp) (hR : Rd tp S (.ok T)) (hok : ∀ S1 T1, a_sg tp c T = .ok T1 → Ex rdF S S1 → Rd tp S1 (.ok T1) → K (pM M m ra S1)) (her : ∀ S1 e, a_sg tp c T = .error e → Ex rdF S S1 → Rd tp S1 (.error e) → K (pM M m ra S1)) : wp_X11_takeSign (pM M m ra S) m (nI c) K := by
  refine r_sg h hc hT hR (fun S1 x1 x2 => ?_)
  rw [bnd_ok] at x2
  cases e : a_sg tp c T with
  | ok y => rw [e] at x2; exact hok S1 y e x1 x2
  | error y => rw [e] at x2; exact her S1 y e x1 x2
theorem j32 {v : Nat} (h : v < 2147483648) : (lN v).toInt32 = nI v := by
  apply Int32.toInt_inj.mp
  rw [Int64.toInt_toInt32, pf_lI (by omega), n_toInt h]
  exact Int.bmod_eq_of_le (by omega) (by omega)
end RR
