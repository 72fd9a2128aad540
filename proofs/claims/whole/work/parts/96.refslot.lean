/-! the reference reads statements: signed numbers, names, inputs, the slot of a stream -/
section RQ
variable {M : Mm} {m : Nat} {ra : Nat → Nat} {S : St} {tp : List Nat} {C : Cfg}
theorem x_kw (h : SH M m ra) {K : Mm → Prop} {e : Flt} {k : Int32} (hR : Rd tp S (.error e)) : wp_X11_takeKeyword (pM M m ra S) m k K = K (pM M m ra S) := by
  simp only [wp_X11_takeKeyword, bk_X11_takeKeyword_19, bk_X11_takeKeyword_30, p_mK, FK h, p_mI, p_mJ, e_good h, true_and, and_true, not_true, not_false_eq_true, false_implies, forall_const, show ((1 : Int32) = 0) = False by decide, hR.g0]
theorem x_sg (h : SH M m ra) {K : Mm → Prop} {e : Flt} {k : Int32} (hR : Rd tp S (.error e)) : wp_X11_takeSign (pM M m ra S) m k K = K (pM M m ra S) := by
  simp only [wp_X11_takeSign, bk_X11_takeSign_29, bk_X11_takeSign_40, p_mK, FK h, p_mI, p_mJ, e_good h, true_and, and_true, not_true, not_false_eq_true, false_implies, forall_const, show ((1 : Int32) = 0) = False by decide, hR.g0]
theorem x_num (h : SH M m ra) {K : Int64 → Mm → Prop} {e : Flt} {a b : Int64} (hR : Rd tp S (.error e)) : wp_X11_takeNumber (pM M m ra S) m a b K = K 0 (pM M m ra S) := by
  simp only [wp_X11_takeNumber, bk_X11_takeNumber_19, p_mK, FK h, p_mI, p_mJ, e_good h, true_and, and_true, not_true, not_false_eq_true, false_implies, forall_const, show ((1 : Int32) = 0) = False by decide, hR.g0]
theorem x_sn (h : SH M m ra) {K : Int64 → Mm → Prop} {e : Flt} {a : Int64} (hR : Rd tp S (.error e)) : wp_X11_takeSigned (pM M m ra S) m a K = K 0 (pM M m ra S) := by
  simp only [wp_X11_takeSigned, bk_X11_takeSigned_30, bk_X11_takeSigned_31, bk_X11_takeSigned_40, bk_X11_takeSigned_59, p_mK, FK h, p_mI, p_mJ, e_good h, true_and, and_true, not_true, not_false_eq_true, false_implies, forall_const, show ((1 : Int32) = 0) = False by decide, hR.g0]
theorem x_inp (h : SH M m ra) {K : Mm → Prop} {e : Flt} {a : Int32} (hR : Rd tp S (.error e)) : wp_X11_takeInput (pM M m ra S) m a K = K (pM M m ra S) := by
  simp only [wp_X11_takeInput, bk_X11_takeInput_18, p_mK, FK h, p_mI, p_mJ, e_good h, true_and, and_true, not_true, not_false_eq_true, false_implies, forall_const, show ((1 : Int32) = 0) = False by decide, hR.g0]
/-- what a signed number's reading gives -/
def vsn (r : Except Flt (Int × Tok)) : Int64 := match r with
  | .ok x => Int64.ofInt x.1
  | .error _ => 0
theorem ofI_toInt {v : Int} (h1 : -9223372036854775808 ≤ v) (h2 : v < 9223372036854775808) : (Int64.ofInt v).toInt = v := by
  have h9 : (Int64.size : Int) = 18446744073709551616 := rfl
  rw [Int64.toInt_ofInt]; exact Int.bmod_eq_of_le (by omega) (by omega)
theorem r_sn1 (h : SH M m ra) {K : Int64 → Mm → Prop} {T : Tok} {neg : Bool} {least : Int} {l9 : Int64} (hT : RT S tp) (hR : Rd tp S (.ok T)) (hl : ∀ v : Int, -(BIG : Int) ≤ v → v ≤ (BIG : Int) → (l9 ≤ Int64.ofInt v) = (least ≤ v)) (hK : ∀ S1, Ex rdF S S1 → Rd tp S1 (sndR (a_sn1 tp neg least T)) → K (vsn (a_sn1 tp neg least T)) (pM M m ra S1)) : bk_X11_takeSigned_40 m K l9 (bI neg) (pM M m ra S) := by
  have bb : (BIG : Int) = 999999999999999999 := by decide
  have k5 := hR.2.2.1.2.2.2.2.2.2.2.1
  have bad : ∀ S1, Ex rdF S S1 → (∀ e, a_sn1 tp neg least T = .error e → Rd tp S1 (.error e)) → (∃ e, a_sn1 tp neg least T = .error e) → K 0 (pM M m ra S1) := fun S1 x1 x2 ⟨e, he⟩ => by
    have := hK S1 x1 (by rw [he]; exact x2 e he)
    rw [he] at this; exact this
  simp only [bk_X11_takeSigned_40, p_mK, FK h, p_mI, p_mJ, e_good h, true_and, and_true, not_true, not_false_eq_true, false_implies, forall_const, show ((1 : Int32) = 0) = False by decide, hR.g1, hR.2.1.2.2.1, kR_2 _ k5]
  refine ⟨fun z => ?_, fun z => ?_⟩
  · have hd := hR.2.2.1.num z
    have hv := hR.2.1.num z
    have hd2 : (dn (tkw T) : Int) ≤ 999999999999999999 := by have h9 : dn (tkw T) ≤ 999999999999999999 := hd; omega
    have hvI : (lN (dn (tkw T))).toInt = (dn (tkw T) : Int) := pf_lI (by have h9 : dn (tkw T) ≤ 999999999999999999 := hd; omega)
    have go : ∀ v : Int, (v = if neg = true then -(dn (tkw T) : Int) else (dn (tkw T) : Int)) → bk_X11_takeSigned_84 m K l9 (Int64.ofInt v) (pM M m ra S) := fun v hv2 => by
      have b1 : -(BIG : Int) ≤ v ∧ v ≤ (BIG : Int) := by rw [hv2, bb]; split <;> omega
      have f5 : wp_X11_fault (pM M m ra S) m 5 (fun M6 => K 0 M6) = wp_X11_fault (pM M m ra S) m (nI 5) (fun M6 => K 0 M6) := rfl
      rw [bk_X11_takeSigned_84, hl v b1.1 b1.2, f5]
      simp only [p_mK, FK h, true_and]
      refine ⟨fun q => ?_, fun q => ?_⟩
      · refine Rd.nx h hT hR (fun S1 x1 x2 => ?_)
        have en : a_sn1 tp neg least T = .ok (v, a_nx tp T) := by rw [a_sn1, if_pos z, ← hv2, if_pos q]
        have := hK S1 (exR x1 (by decide)) (by rw [en]; exact x2)
        rw [en] at this; exact this
      · have en : a_sn1 tp neg least T = .error (5, tkp T) := by rw [a_sn1, if_pos z, ← hv2, if_neg q]; rfl
        refine r_flt (α := Tok) h hR (by decide) (by decide) (fun S1 x1 x2 => bad S1 (exR x1 (by decide)) (fun e he => ?_) ⟨_, en⟩)
        rw [en] at he
        cases he; exact x2
    simp only [bk_X11_takeSigned_59, p_mK, FK h, p_mI, p_mJ, e_good h, true_and, and_true, not_true, not_false_eq_true, false_implies, forall_const, show ((1 : Int32) = 0) = False by decide, hR.g1, hv, bI_0]
    have e1 : lN (dn (tkw T)) = Int64.ofInt (dn (tkw T) : Int) := by
      apply Int64.toInt_inj.mp
      rw [hvI, ofI_toInt (by omega) (by omega)]
    have e2 : -lN (dn (tkw T)) = Int64.ofInt (-(dn (tkw T) : Int)) := by
      apply Int64.toInt_inj.mp
      rw [j_neg (by rw [hvI]; omega), hvI, ofI_toInt (by omega) (by omega)]
    refine ⟨fun q => ?_, fun q => ?_⟩
    · rw [e1]; exact go _ (by rw [q]; rfl)
    · rw [e2]; exact go _ (by rw [if_pos (by simpa using q)])
  · refine r_mis (α := Int × Tok) h hR (fun S1 x1 x2 => ?_)
    have en : a_sn1 tp neg least T = a_mis T := by rw [a_sn1, if_neg z]
    have g0 := Rd.g0 x2
    simp only [bk_X11_takeSigned_59, p_mK, FK h, p_mI, p_mJ, e_good h, true_and, and_true, not_true, not_false_eq_true, false_implies, forall_const, show ((1 : Int32) = 0) = False by decide, g0]
    exact bad S1 (exR x1 (by decide)) (fun e he => by rw [en] at he; cases he; exact x2) ⟨_, en⟩
theorem r_sn (h : SH M m ra) {K : Int64 → Mm → Prop} {T : Tok} {least : Int} {l9 : Int64} (hT : RT S tp) (hR : Rd tp S (.ok T)) (hl : ∀ v : Int, -(BIG : Int) ≤ v → v ≤ (BIG : Int) → (l9 ≤ Int64.ofInt v) = (least ≤ v)) (hK : ∀ S1, Ex rdF S S1 → Rd tp S1 (sndR (a_sn tp least T)) → K (vsn (a_sn tp least T)) (pM M m ra S1)) : wp_X11_takeSigned (pM M m ra S) m l9 K := by
  have k5 := hR.2.2.1.2.2.2.2.2.2.2.1
  have e5 := e_sg5 (c := 45) hR.2.1 hR.2.2.1 (by decide)
  have no : ¬ isSg 45 T = true → bk_X11_takeSigned_31 m K l9 0 (pM M m ra S) := fun z => by
    simp only [bk_X11_takeSigned_31, p_mK, FK h, p_mI, p_mJ, e_good h, true_and, and_true, not_true, not_false_eq_true, false_implies, forall_const, show ((1 : Int32) = 0) = False by decide]
    rw [a_sn, if_neg z] at hK
    exact r_sn1 (neg := false) h hT hR hl hK
  have yes : isSg 45 T = true → bk_X11_takeSigned_31 m K l9 1 (pM M m ra S) := fun z => by
    simp only [bk_X11_takeSigned_31, p_mK, FK h, p_mI, p_mJ, e_good h, true_and, and_true, not_true, not_false_eq_true, false_implies, forall_const, show ((1 : Int32) = 0) = False by decide]
    rw [a_sn, if_pos z] at hK
    refine Rd.nx h hT hR (fun S1 x1 x2 => ?_)
    exact r_sn1 (neg := true) h (hT.ex x1 (by decide) (by decide)) x2 hl (fun S2 y1 => hK S2 ((exR x1 (by decide)).trans y1))
  simp only [wp_X11_takeSigned, bk_X11_takeSigned_30, p_mK, FK h, p_mI, p_mJ, e_good h, true_and, and_true, not_true, not_false_eq_true, false_implies, forall_const, show ((1 : Int32) = 0) = False by decide, hR.g1, hR.2.1.2.2.1, kR_3 _ k5]
  refine ⟨fun z => no (fun y => ?_), fun z => ⟨fun y => no (fun x => ?_), fun y => yes ?_⟩⟩
  · rw [← e5] at y; exact z y.1
  · rw [← e5] at x; exact y x.2
  · rw [← e5]; exact ⟨z, y⟩
theorem r_sn2 (h : SH M m ra) {K : Int64 → Mm → Prop} {T : Tok} {least : Int} {l9 : Int64} (hT : RT S tp) (hR : Rd tp S (.ok T)) (hl : ∀ v : Int, -(BIG : Int) ≤ v → v ≤ (BIG : Int) → (l9 ≤ Int64.ofInt v) = (least ≤ v)) (hok : ∀ S1 v T1, a_sn tp least T = .ok (v, T1) → Ex rdF S S1 → Rd tp S1 (.ok T1) → K (Int64.ofInt v) (pM M m ra S1)) (her : ∀ S1 e, a_sn tp least T = .error e → Ex rdF S S1 → Rd tp S1 (.error e) → K 0 (pM M m ra S1)) : wp_X11_takeSigned (pM M m ra S) m l9 K := by
  refine r_sn h hT hR hl (fun S1 x1 x2 => ?_)
  cases e : a_sn tp least T with
  | ok y => rw [e] at x2; exact hok S1 y.1 y.2 e x1 x2
  | error y => rw [e] at x2; exact her S1 y e x1 x2
/-! what is kept while the stream s is read -/
def ES (s : Nat) (S S1 : St) : Prop := (∀ f, ¬ f ∈ rdF → ¬ f = 730 → ¬ f = 731 → gI S1 f = gI S f) ∧ (∀ f, ¬ f = 710 → ¬ f ∈ rdF → gJ S1 f = gJ S f) ∧ (∀ f j, ¬ f ∈ rdF → (¬ (f = 715 ∨ f = 718 ∨ f = 719 ∨ f = 722 ∨ f = 723 ∨ f = 724) ∨ ¬ j = s) → ¬ (f = 725 ∧ 4 * s ≤ j ∧ j < 4 * s + 4) → ¬ (f = 726 ∧ j ≤ s) → vI S1 f j = vI S f j) ∧ (∀ f j, ¬ f ∈ rdF → (¬ (f = 720 ∨ f = 721) ∨ ¬ j = s) → vJ S1 f j = vJ S f j) ∧ ∀ j, bz (vI S 719 j) → bz (vI S1 719 j)
theorem ES.refl {s : Nat} {S : St} : ES s S S := ⟨fun _ _ _ _ => rfl, fun _ _ _ => rfl, fun _ _ _ _ _ _ => rfl, fun _ _ _ _ => rfl, fun _ z => z⟩
theorem ES.trans {s : Nat} {S S1 S2 : St} (h : ES s S S1) (g : ES s S1 S2) : ES s S S2 := ⟨fun f a b c => (g.1 f a b c).trans (h.1 f a b c), fun f a b => (g.2.1 f a b).trans (h.2.1 f a b), fun f j a b c d => (g.2.2.1 f j a b c d).trans (h.2.2.1 f j a b c d), fun f j a b => (g.2.2.2.1 f j a b).trans (h.2.2.2.1 f j a b), fun j z => g.2.2.2.2 j (h.2.2.2.2 j z)⟩
theorem ES.ex {s : Nat} {S S1 : St} (h : Ex rdF S S1) : ES s S S1 := ⟨fun f a _ _ => (h f a).1, fun f _ a => (h f a).2.1, fun f j a _ _ _ => by rw [(h f a).2.2.1], fun f j a _ => by rw [(h f a).2.2.2], fun j z => by rw [(h 719 (by decide)).2.2.1]; exact z⟩
theorem ES.wI {s f j : Nat} {S S1 : St} {v : Int32} (h : ES s S S1) (hf : ((f = 715 ∨ f = 718 ∨ f = 719 ∨ f = 722 ∨ f = 723 ∨ f = 724) ∧ j = s) ∨ (f = 725 ∧ 4 * s ≤ j ∧ j < 4 * s + 4) ∨ (f = 726 ∧ j ≤ s)) (hz : f = 719 → bz v := by intro e; first | (exact absurd e (by decide)) | (simp [bz])) : ES s S (wI S1 f j v) := by
  refine h.trans ⟨fun _ _ _ _ => rfl, fun _ _ _ => rfl, fun g i _ a b c => ?_, fun _ _ _ _ => rfl, fun i z => ?_⟩
  case refine_2 =>
    simp only [sg]
    by_cases e : 719 = f
    · rw [if_pos e]
      by_cases e2 : i = j
      · rw [if_pos e2]; exact hz e.symm
      · rw [if_neg e2]; exact z
    · rw [if_neg e]; exact z
  simp only [sg]
  by_cases e : g = f
  · subst e
    by_cases e2 : i = j
    · subst e2; exfalso; rcases hf with q | q | q
      · rcases a with a | a
        · exact a q.1
        · exact a q.2
      · exact b q
      · exact c q
    · rw [if_pos rfl, if_neg e2]
  · rw [if_neg e]
theorem ES.wJ {s f j : Nat} {S S1 : St} {v : Int64} (h : ES s S S1) (hf : (f = 720 ∨ f = 721) ∧ j = s) : ES s S (wJ S1 f j v) := by
  refine h.trans ⟨fun _ _ _ _ => rfl, fun _ _ _ => rfl, fun _ _ _ _ _ _ => rfl, fun g i _ a => ?_, fun _ z => z⟩
  simp only [sg]
  by_cases e : g = f
  · subst e
    by_cases e2 : i = j
    · subst e2; exfalso
      rcases a with a | a
      · exact a hf.1
      · exact a hf.2
    · rw [if_pos rfl, if_neg e2]
  · rw [if_neg e]
theorem ES.pI {s f : Nat} {S S1 : St} {v : Int32} (h : ES s S S1) (hf : f = 730 ∨ f = 731) : ES s S (pI S1 f v) := by
  refine h.trans ⟨fun g _ b c => ?_, fun _ _ _ => rfl, fun _ _ _ _ _ _ => rfl, fun _ _ _ _ => rfl, fun _ z => z⟩
  simp only [sg]
  rw [if_neg (fun e => by subst e; rcases hf with q | q
                          · exact b q
                          · exact c q)]
theorem RT.es {s : Nat} {S S1 : St} (h : RT S tp) (hx : ES s S S1) : RT S1 tp := by
  unfold RT
  rw [hx.1 706 (by decide) (by decide) (by decide)]
  refine ⟨h.1, h.2.1, fun i c hi => ?_⟩
  rw [hx.2.2.1 705 i (by decide) (Or.inl (by decide)) (fun z => absurd z.1 (by decide)) (fun z => absurd z.1 (by decide))]
  exact h.2.2 i c hi
/-- the streams that stand complete -/
def PC (S : St) (C : Cfg) : Prop := vI S 729 0 = nI (cn C) ∧ cn C ≤ 12 ∧ (∀ s, s < cn C → WW (cnm C s) ∧ (cin C s).length ≤ 4 ∧ vJ S 716 s = w5 (cnm C s) ∧ vI S 717 s = nI (cnm C s).length ∧ vI S 715 s = nI (ckd C s) ∧ vI S 718 s = nI (cpt C s) ∧ vI S 719 s = bI (chl C s) ∧ vJ S 720 s = co1 C s ∧ vJ S 721 s = co2 C s ∧ vI S 722 s = nI (caf C s) ∧ vI S 723 s = oI (cgr C s) ∧ vI S 724 s = nI (cin C s).length ∧ ∀ i, i < (cin C s).length → vI S 725 (4 * s + i) = nI (a_in C s i)) ∧ ∀ g, g < 4 → vI S 727 g = bI (csp C g).isSome ∧ ∀ v, csp C g = some v → vJ S 728 g = v
theorem PC.cong {S S1 : St} (h : PC S C) (c29 : vI S1 729 0 = vI S 729 0) (cI : ∀ f j, (f = 715 ∨ f = 717 ∨ f = 718 ∨ f = 719 ∨ f = 722 ∨ f = 723 ∨ f = 724) → j < cn C → vI S1 f j = vI S f j) (c25 : ∀ j, j < 4 * cn C → vI S1 725 j = vI S 725 j) (cJ : ∀ f j, (f = 716 ∨ f = 720 ∨ f = 721) → j < cn C → vJ S1 f j = vJ S f j) (c27 : ∀ g, g < 4 → vI S1 727 g = vI S 727 g ∧ vJ S1 728 g = vJ S 728 g) : PC S1 C := by
  obtain ⟨h1, h2, h3, h4⟩ := h
  refine ⟨by rw [c29]; exact h1, h2, fun s hs => ?_, fun g hg => ?_⟩
  · obtain ⟨a1, a2, a3, a4, a5, a6, a7, a8, a9, a10, a11, a12, a13⟩ := h3 s hs
    refine ⟨a1, a2, ?_, ?_, ?_, ?_, ?_, ?_, ?_, ?_, ?_, ?_, fun i hi => ?_⟩
    · rw [cJ 716 s (by decide) hs]; exact a3
    · rw [cI 717 s (by decide) hs]; exact a4
    · rw [cI 715 s (by decide) hs]; exact a5
    · rw [cI 718 s (by decide) hs]; exact a6
    · rw [cI 719 s (by decide) hs]; exact a7
    · rw [cJ 720 s (by decide) hs]; exact a8
    · rw [cJ 721 s (by decide) hs]; exact a9
    · rw [cI 722 s (by decide) hs]; exact a10
    · rw [cI 723 s (by decide) hs]; exact a11
    · rw [cI 724 s (by decide) hs]; exact a12
    · rw [c25 (4 * s + i) (by omega)]; exact a13 i hi
  · obtain ⟨b1, b2⟩ := h4 g hg
    refine ⟨by rw [(c27 g hg).1]; exact b1, fun v hv => by rw [(c27 g hg).2]; exact b2 v hv⟩
theorem PC.es {S S1 : St} (h : PC S C) (hx : ES (cn C) S S1) : PC S1 C := by
  refine h.cong ?_ (fun f j hf hj => ?_) (fun j hj => ?_) (fun f j hf hj => ?_) (fun g hg => ⟨?_, ?_⟩)
  · exact hx.2.2.1 729 0 (by decide) (Or.inl (by decide)) (fun z => absurd z.1 (by decide)) (fun z => absurd z.1 (by decide))
  · refine hx.2.2.1 f j ?_ (Or.inr (by omega)) (fun z => by omega) (fun z => by omega)
    rcases hf with e | e | e | e | e | e | e <;> subst e <;> decide
  · exact hx.2.2.1 725 j (by decide) (Or.inl (by decide)) (fun z => by omega) (fun z => absurd z.1 (by decide))
  · refine hx.2.2.2.1 f j ?_ (Or.inr (by omega))
    rcases hf with e | e | e <;> subst e <;> decide
  · exact hx.2.2.1 727 g (by decide) (Or.inl (by decide)) (fun z => absurd z.1 (by decide)) (fun z => absurd z.1 (by decide))
  · exact hx.2.2.2.1 728 g (by decide) (Or.inl (by decide))
/-- who takes whom, while the stream cn C, whose inputs so far are l, is read -/
def tkr (C : Cfg) (l : List Nat) (q : Nat) : Option Nat := if q = cn C then none else if q ∈ l then some (cn C) else ctk C q
def PT (S : St) (C : Cfg) (l : List Nat) : Prop := ∀ q, q ≤ cn C → vI S 726 q = oI (tkr C l q)
def SLT (S : St) (s : Nat) (x : Slot) : Prop := vI S 715 s = nI x.1 ∧ vI S 718 s = nI x.2.2.2.2.1 ∧ vI S 719 s = bI x.2.2.2.2.2.1 ∧ vJ S 720 s = x.2.2.1 ∧ vJ S 721 s = x.2.2.2.1 ∧ vI S 722 s = nI x.2.2.2.2.2.2.1 ∧ vI S 723 s = oI x.2.2.2.2.2.2.2 ∧ vI S 724 s = nI x.2.1.length ∧ ∀ i c, x.2.1[i]? = some c → vI S 725 (4 * s + i) = nI c
def BD (S : St) (C : Cfg) (x : Slot) : Prop := PC S C ∧ PT S C x.2.1 ∧ SLT S (cn C) x ∧ WT C ∧ (∀ i ∈ x.2.1, i < cn C) ∧ x.2.1.length ≤ 4
theorem BD.ex {S S1 : St} {x : Slot} (h : BD S C x) (hx : Ex rdF S S1) : BD S1 C x := by
  obtain ⟨h1, h2, h3, h4⟩ := h
  refine ⟨h1.es (ES.ex hx), fun q hq => ?_, ?_, h4⟩
  · rw [(hx 726 (by decide)).2.2.1]; exact h2 q hq
  · unfold SLT
    rw [(hx 715 (by decide)).2.2.1, (hx 718 (by decide)).2.2.1, (hx 719 (by decide)).2.2.1, (hx 720 (by decide)).2.2.2, (hx 721 (by decide)).2.2.2, (hx 722 (by decide)).2.2.1, (hx 723 (by decide)).2.2.1, (hx 724 (by decide)).2.2.1, (hx 725 (by decide)).2.2.1]
    exact h3
theorem oI_lt {o : Option Nat} (h : ∀ n, o = some n → n < 2000) : (oI o < 0) = (o = none) := by
  cases o with
  | none => exact eq_true (show oI none < 0 by decide) |>.trans (eq_true rfl).symm
  | some n =>
    have h1 := h n rfl
    refine propext ⟨fun z => ?_, fun z => by cases z⟩
    have z2 : nI n < nI 0 := z
    rw [n_lt (by omega) (by omega)] at z2; omega
theorem fnd_lt {nm : Nat → List Nat} {w : List Nat} : ∀ (n s : Nat), a_fnd nm w n = some s → s < n
  | 0, s, h => by cases h
  | n + 1, s, h => by
    rw [a_fnd] at h
    cases e : a_fnd nm w n with
    | some q => rw [e] at h; have := fnd_lt n q e; cases h; omega
    | none =>
      rw [e] at h
      by_cases c : nm n = w
      · simp only [if_pos c] at h; cases h; omega
      · simp only [if_neg c] at h; cases h
theorem fnd_none {nm : Nat → List Nat} {w : List Nat} : ∀ (n : Nat), (∀ s, s < n → ¬ nm s = w) → a_fnd nm w n = none
  | 0, _ => rfl
  | n + 1, h => by
    rw [a_fnd, fnd_none n (fun s hs => h s (by omega))]
    exact if_neg (h n (by omega))
theorem fnd_some {nm : Nat → List Nat} {w : List Nat} {s : Nat} : ∀ (n : Nat), (∀ q, q < s → ¬ nm q = w) → nm s = w → s < n → a_fnd nm w n = some s
  | 0, _, _, h => by omega
  | n + 1, h1, h2, h3 => by
    by_cases c : s < n
    · rw [a_fnd, fnd_some n h1 h2 c]
    · have e : s = n := by omega
      subst e
      rw [a_fnd, fnd_none s h1]; exact if_pos h2
theorem r_fnL (h : SH M m ra) {K : Int32 → Mm → Prop} {w : List Nat} (hC : PC S C) (hw : WW w) (hK : K (oI (a_find C w)) (pM M m ra S)) : ∀ (j s : Nat), s + j = cn C → (∀ q, q < s → ¬ cnm C q = w) → lp_X11_findName_2 m K (j + 1) (w5 w) (nI s) (pM M m ra S) := by
  intro j
  have h12 := hC.2.1
  have h0 := hC.1
  induction j with
  | zero =>
    intro s hs hq
    have e : s = cn C := by omega
    subst e
    rw [lp_X11_findName_2]
    simp (disch := omega) only [RF h, p_mK, p_mR, p_aN, p_aR, p_mI, p_mJ, p_sI, p_sJ, Option.some.injEq, exists_eq_left', true_and, and_true, na1, na3, n_add, n_mul, n_clamp, n_in, h0, n_le, Nat.le_refl, forall_const, not_true, false_implies, bk_X11_findName_29, bk_X11_findName_44]
    rw [a_find, fnd_none _ hq] at hK; exact hK
  | succ j ih =>
    intro s hs hq
    have hs2 : s < cn C := by omega
    obtain ⟨a1, a2, a3, -⟩ := hC.2.2.1 s hs2
    rw [lp_X11_findName_2]
    simp (disch := omega) only [RF h, p_mK, p_mR, p_aN, p_aR, p_mI, p_mJ, p_sI, p_sJ, Option.some.injEq, exists_eq_left', true_and, and_true, na1, na3, n_add, n_mul, n_clamp, n_in, h0, n_le, show ¬ cn C ≤ s by omega, forall_const, not_false_eq_true, false_implies, bk_X11_findName_29, bk_X11_findName_44, a3, w5_inj a1 hw]
    refine ⟨fun z => ?_, fun z => ih (s + 1) (by omega) (fun q hq2 => ?_)⟩
    · rw [a_find, fnd_some _ hq z hs2] at hK; exact hK
    · by_cases e : q = s
      · rw [e]; exact z
      · exact hq q (by omega)
theorem r_findName (h : SH M m ra) {K : Int32 → Mm → Prop} {w : List Nat} (hC : PC S C) (hw : WW w) (hK : K (oI (a_find C w)) (pM M m ra S)) : wp_X11_findName (pM M m ra S) m (w5 w) K := ⟨_, r_fnL h hC hw hK (cn C) 0 (by omega) (fun q hq => by omega)⟩
theorem TW.ww {T : Tok} (hw : TW T) (h3 : tkk T = 2 ∨ tkk T = 3) : WW (tkw T) := hw.2.2.1 h3
/-- the slot with other inputs -/
def xin (x : Slot) (l : List Nat) : Slot := (x.1, l, x.2.2)
theorem r_inp (h : SH M m ra) {K : Mm → Prop} {T : Tok} {x : Slot} (hT : RT S tp) (hR : Rd tp S (.ok T)) (hB : BD S C x) (h12 : cn C < 12) (h4 : x.2.1.length < 4) (hok : ∀ S1 y, a_inp tp C x.2.1 T = .ok y → ES (cn C) S S1 → gI S1 730 = gI S 730 → gI S1 731 = gI S 731 → Rd tp S1 (.ok y.2) → BD S1 C (xin x y.1) → K (pM M m ra S1)) (her : ∀ S1 e, a_inp tp C x.2.1 T = .error e → ES (cn C) S S1 → Rd tp S1 (.error e) → K (pM M m ra S1)) : wp_X11_takeInput (pM M m ra S) m (nI (cn C)) K := by
  have hw := hR.2.2.1
  simp only [wp_X11_takeInput, p_mK, FK h, p_mI, p_mJ, e_good h, true_and, and_true, not_true, not_false_eq_true, false_implies, forall_const, show ((1 : Int32) = 0) = False by decide, hR.g1, e_isName h hR.2.1 hw]
  by_cases k3 : tkk T = 3
  · simp only [if_pos k3, p_mK, FK h, p_mI, p_mJ, e_good h, true_and, and_true, not_true, not_false_eq_true, false_implies, forall_const, show ((1 : Int32) = 0) = False by decide]
    have bad : a_inp tp C x.2.1 T = flt 4 T → bk_X11_takeInput_48 m K (pM M m ra S) := fun e => by
      have f4 : bk_X11_takeInput_48 m K (pM M m ra S) = (mK M m = 12 ∧ wp_X11_fault (pM M m ra S) m (nI 4) (fun M2 => K M2)) := rfl
      rw [f4]
      exact ⟨FK h, r_flt (α := Tok) h hR (by decide) (by decide) (fun S1 x1 x2 => her S1 _ e (ES.ex (exR x1 (by decide))) x2)⟩
    simp only [bk_X11_takeInput_18, p_mK, FK h, p_mI, p_mJ, e_good h, true_and, and_true, not_true, not_false_eq_true, false_implies, forall_const, show ((1 : Int32) = 0) = False by decide, hR.g1, (hR.2.1.2.2.2.1 (Or.inr k3)).2]
    refine r_findName h hB.1 (hw.ww (Or.inr k3)) ?_
    have hlt : ∀ n, a_find C (tkw T) = some n → n < 2000 := fun n hn => by have := fnd_lt _ _ hn; omega
    rw [oI_lt hlt]
    cases e : a_find C (tkw T) with
    | none =>
      have en : a_inp tp C x.2.1 T = flt 4 T := by rw [a_inp, if_pos k3, e]
      simp only [p_mK, FK h, p_mI, p_mJ, e_good h, true_and, and_true, not_true, not_false_eq_true, false_implies, forall_const, show ((1 : Int32) = 0) = False by decide, show (oI none = -1) from rfl]
      exact bad en
    | some i =>
      have en : a_inp tp C x.2.1 T = if (ctk C i).isSome = true ∨ i ∈ x.2.1 then flt 4 T else .ok (x.2.1 ++ [i], a_nx tp T) := by rw [a_inp, if_pos k3, e]
      have hi := fnd_lt _ _ e
      have t1 := hB.2.1 i (Nat.le_of_lt hi)
      have hl9 : ∀ n, tkr C x.2.1 i = some n → n < 2000 := fun n hn => by
        unfold tkr at hn
        rw [if_neg (by omega)] at hn
        by_cases q : i ∈ x.2.1
        · rw [if_pos q] at hn; cases hn; omega
        · rw [if_neg q] at hn; have := hB.2.2.2.1 i n hn; omega
      have e8 : vI S 724 (cn C) = nI x.2.1.length := hB.2.2.1.2.2.2.2.2.2.2.1
      simp (disch := omega) only [RF h, p_mK, p_mR, p_aN, p_aR, p_mI, p_mJ, p_sI, p_sJ, Option.some.injEq, exists_eq_left', true_and, and_true, na1, na3, n_add, n_mul, n_clamp, n_in, show oI (some i) = nI i from rfl, reduceCtorEq, false_implies, not_false_eq_true, forall_const, t1, oI_lt hl9, sg, if_true, if_false, show (724 = 726) = False by decide, show (724 = 725) = False by decide, e8]
      refine ⟨fun z => ?_, fun z => bad ?_⟩
      · have z2 : ¬ ((ctk C i).isSome = true ∨ i ∈ x.2.1) := fun q => by
          unfold tkr at z
          rw [if_neg (by omega)] at z
          by_cases q2 : i ∈ x.2.1
          · rw [if_pos q2] at z; cases z
          · rw [if_neg q2] at z
            rw [z] at q
            rcases q with q | q
            · cases q
            · exact q2 q
        rw [if_neg z2] at en
        have ni : ¬ i ∈ x.2.1 := fun q => z2 (Or.inr q)
        have hE : ES (cn C) S (wI (wI (wI S 726 i (nI (cn C))) 725 (4 * cn C + x.2.1.length) (nI i)) 724 (cn C) (nI (x.2.1.length + 1))) := ((ES.refl.wI (Or.inr (Or.inr ⟨rfl, by omega⟩))).wI (Or.inr (Or.inl ⟨rfl, by omega, by omega⟩))).wI (Or.inl ⟨by decide, rfl⟩)
        have hB2 : BD (wI (wI (wI S 726 i (nI (cn C))) 725 (4 * cn C + x.2.1.length) (nI i)) 724 (cn C) (nI (x.2.1.length + 1))) C (xin x (x.2.1 ++ [i])) := by
          obtain ⟨b1, b2, b3, b4, b5, b6⟩ := hB
          obtain ⟨s1, s2, s3, s4, s5, s6, s7, s8, s9⟩ := b3
          refine ⟨b1.es hE, fun q hq => ?_, ⟨?_, ?_, ?_, ?_, ?_, ?_, ?_, ?_, fun j c hj => ?_⟩, b4, fun q hq => ?_, ?_⟩
          · simp only [sg, xin, show (726 = 724) = False by decide, show (726 = 725) = False by decide, if_false, if_true]
            by_cases e2 : q = i
            · subst e2
              rw [if_pos rfl]
              unfold tkr
              rw [if_neg (by omega), if_pos (List.mem_append_right _ (List.mem_singleton.2 rfl))]; rfl
            · rw [if_neg e2, b2 q hq]
              unfold tkr
              by_cases e3 : q = cn C
              · rw [if_pos e3, if_pos e3]
              · rw [if_neg e3, if_neg e3]
                by_cases e4 : q ∈ x.2.1
                · rw [if_pos e4, if_pos (List.mem_append_left _ e4)]
                · rw [if_neg e4, if_neg (fun z => by
                    rcases List.mem_append.1 z with z | z
                    · exact e4 z
                    · exact e2 (List.mem_singleton.1 z))]
          · simpa [sg, xin] using s1
          · simpa [sg, xin] using s2
          · simpa [sg, xin] using s3
          · simpa [sg, xin] using s4
          · simpa [sg, xin] using s5
          · simpa [sg, xin] using s6
          · simpa [sg, xin] using s7
          · simp [sg, xin]
          · simp only [sg, xin, show (725 = 724) = False by decide, show (725 = 726) = False by decide, if_false, if_true] at hj ⊢
            by_cases e2 : j < x.2.1.length
            · rw [List.getElem?_append_left e2] at hj
              rw [if_neg (by omega)]; exact s9 j c hj
            · rw [List.getElem?_append_right (by omega)] at hj
              by_cases e3 : j = x.2.1.length
              · subst e3
                simp at hj
                rw [if_pos rfl, hj]
              · rw [List.getElem?_eq_none (by simp; omega)] at hj; cases hj
          · rcases List.mem_append.1 hq with z | z
            · exact b5 q z
            · rw [List.mem_singleton.1 z]; exact hi
          · show (x.2.1 ++ [i]).length ≤ 4
            simp; omega
        refine Rd.nx (T := T) h (hT.es hE) hR (fun S1 x1 x2 => hok S1 _ en (hE.trans (ES.ex (exR x1 (by decide)))) ?_ ?_ x2 (hB2.ex (exR x1 (by decide))))
        · rw [(x1 730 (by decide)).1]; rfl
        · rw [(x1 731 (by decide)).1]; rfl
      · have z2 : (ctk C i).isSome = true ∨ i ∈ x.2.1 := by
          by_cases q2 : i ∈ x.2.1
          · exact Or.inr q2
          · refine Or.inl ?_
            unfold tkr at z
            rw [if_neg (by omega), if_neg q2] at z
            cases e9 : ctk C i with
            | none => exact absurd e9 z
            | some _ => rfl
        rw [if_pos z2] at en; exact en
  · have en : a_inp tp C x.2.1 T = a_mis T := by rw [a_inp, if_neg k3]
    simp only [if_neg k3, p_mK, FK h, p_mI, p_mJ, e_good h, true_and, and_true, not_true, not_false_eq_true, false_implies, forall_const, show ((1 : Int32) = 0) = False by decide]
    refine r_mis (α := List Nat × Tok) h hR (fun S1 x1 x2 => ?_)
    simp only [bk_X11_takeInput_18, p_mK, FK h, p_mI, p_mJ, e_good h, true_and, and_true, not_true, not_false_eq_true, false_implies, forall_const, show ((1 : Int32) = 0) = False by decide, Rd.g0 x2]
    exact her S1 _ en (ES.ex (exR x1 (by decide))) x2
end RQ
