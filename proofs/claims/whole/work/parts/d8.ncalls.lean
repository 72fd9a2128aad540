/-! the law's calls while no graph stands -/
section D8a
variable {M : Mm} {m : Nat} {ra : Nat → Nat} {S : St} {L : Nat → Nat → Nat}
theorem cu_sn {K : Option Nat → Mm → Prop} {p : Int32} (hO : COB M L) (hn : mR M 644 (L 0 0) = none) (hK : K none M) : wp_X10_streamOrNull M (L 0 0) p K := ⟨hO.1, fun _ => hK, fun a e => (by rw [hn] at e; cases e)⟩
theorem cu_sw {K : Option Nat → Mm → Prop} {p q : Int32} (hO : COB M L) (hn : mR M 644 (L 0 0) = none) (hK : K none M) : wp_X10_sourceWith M (L 0 0) p q K := ⟨hO.1, cu_sn hO hn ⟨fun _ => hK, fun a e => (by cases e)⟩⟩
theorem cu_th {KX : String → Mm → Prop} {K : Option Nat → Mm → Prop} {p : Int32} (hO : COB M L) (hn : mR M 644 (L 0 0) = none) (hK : KX "java/lang/IllegalStateException" M) : wp_X10_streamOrThrow M KX (L 0 0) p K := ⟨hO.1, fun _ => hK, fun a e => (by rw [hn] at e; cases e)⟩
theorem ru_is (h : SH M m ra) {K : Int32 → Mm → Prop} {p : Int32} (e : gI S 732 = 0) (hK : K 0 (pM M m ra S)) : wp_X11_isStream (pM M m ra S) m p K := by
  refine ⟨FK h, fun _ => ⟨Or.inl rfl, hK⟩, fun z => absurd ?_ z⟩
  rw [p_mI]; exact e
theorem ru_ip (h : SH M m ra) {K : Int32 → Mm → Prop} {p q : Int32} (e : gI S 732 = 0) (hK : K 0 (pM M m ra S)) : wp_X11_isPart (pM M m ra S) m p q K := ⟨FK h, ru_is h e ⟨fun _ => ⟨Or.inl rfl, hK⟩, fun z => absurd rfl z⟩⟩
theorem ru_mb (h : SH M m ra) {K : Int32 → Mm → Prop} {p : Int32} (e : gI S 732 = 0) (hK : K 0 (pM M m ra (pI S 704 1))) : wp_X11_mustBe (pM M m ra S) m p K := by
  have e1 : gI (pI S 704 1) 704 = 1 := by simp [sg]
  refine ⟨FK h, fun z => absurd (by rw [p_mI]; exact e) z, fun _ => ⟨m, rfl, FK h, FK h, ?_⟩⟩
  rw [p_sI, p_mI, e1]
  exact ⟨fun _ => ⟨Or.inl rfl, hK⟩, fun z => absurd z (by decide)⟩
theorem no_nil {room : Nat} {i w : Int32} : (A_no [] room i w) = (1, 0) := by
  unfold A_no
  refine if_neg (fun z => ?_)
  have z1 := z.1
  have z2 : i < 0 := z.2.1
  rw [Int32.le_iff_toInt_le] at z1
  rw [Int32.lt_iff_toInt_lt] at z2
  omega
theorem ru_told (h : SH M m ra) {K : Int32 → Mm → Prop} {p : Int32} (hU : UB M S L) (hneg : p.toInt < 0 ∨ 8 < p.toInt → K (-1) (pM M m ra (pI S 704 0))) (h0 : ¬ (p.toInt < 0 ∨ 8 < p.toInt) → ¬ p = 8 → K 0 (pM M m ra (pI S 704 0))) (h8 : p = 8 → K (gI S 706) (pM M m ra (pI S 704 0))) : wp_X11_told (pM M m ra S) m p K := by
  obtain ⟨u1, u2, u3, u4, u5, u6, u7, u8, u9, u10⟩ := hU
  have a1 : gI (pI S 704 0) 738 = 0 := u4
  have a2 : gI (pI S 704 0) 739 = 0 := u5
  have a3 : gI (pI S 704 0) 741 = 0 := u6
  have a4 : gI (pI S 704 0) 743 = 0 := u7
  have a5 : gI (pI S 704 0) 752 = 0 := u8
  have a6 : gI (pI S 704 0) 706 = gI S 706 := rfl
  have a7 : vI (pI S 704 0) 729 1 = 0 := u3
  have pt : ∀ w : Int32, K 0 (pM M m ra (pI S 704 0)) → wp_X11_partsThat (pM M m ra (pI S 704 0)) m w (fun r M1 => K r M1) := fun w hk => by
    refine ⟨1, ?_⟩
    rw [lp_X11_partsThat_4]
    refine ⟨FK h, ra 729, (F729 h).1, (F729 h).2.1 _, by rw [p_aN, (F729 h).2.2.1]; exact n_in (n := 1) (by decide) (by decide), ?_⟩
    rw [show (1 : Int32).toNatClampNeg = 1 by decide, (F729 h).2.2.2.1, a7]
    exact ⟨fun _ => hk, fun z => absurd (by decide) z⟩
  simp only [wp_X11_told, p_sI, p_mI, a1, a2, a3, a4, a6]
  refine ⟨FK h, hneg, fun e => ?_, fun e => (by subst e; exact h0 (by decide) (by decide)), fun e => (by subst e; exact h0 (by decide) (by decide)), fun e => (by subst e; exact h0 (by decide) (by decide)), fun e => (by subst e; exact h0 (by decide) (by decide)), fun e => ?_, fun e => (by subst e; exact pt _ (h0 (by decide) (by decide))), fun e => (by subst e; exact pt _ (h0 (by decide) (by decide))), h8⟩
  · subst e
    refine ⟨ra 729, (F729 h).1, (F729 h).2.1 _, by rw [p_aN, (F729 h).2.2.1]; exact n_in (n := 1) (by decide) (by decide), ?_⟩
    rw [show (1 : Int32).toNatClampNeg = 1 by decide, (F729 h).2.2.2.1, a7]
    exact h0 (by decide) (by decide)
  · subst e
    refine ⟨1, ?_⟩
    rw [lp_X11_heldIn_4]
    refine ⟨FK h, ?_⟩
    rw [p_mI, a5]
    exact ⟨fun _ => h0 (by decide) (by decide), fun z => absurd (by decide) z⟩
end D8a
section D8
variable {M : Mm} {m o b N k : Nat} {ra : Nat → Nat} {S : St} {L : Nat → Nat → Nat} {tp pg : List Nat} {xs : Nat → Int32} {K : Int32 → Mm → Prop} {R : Option Nat → Option Nat → Option Nat → Int32 → Mm → Prop} {l4 : Int32}
theorem n_row (V : V5 l4 N) (hI : IC M S L m o ra tp pg) (hU : UB M S L) (hN : ∀ M1, INV (k + 1) (L 0 0) m o M1 → R (some (L 0 0)) (some m) (some o) (l4 + 6) M1) : bk_L_law_231 b N xs R K (some (L 0 0)) (some m) (some o) l4 M := by
  have hO := hI.1
  have hn := hU.1
  have hS := hI.2.1
  have e1 : gI (pI S 704 0) 732 = 0 := hU.2.1
  have nx := hN _ (askU (v := 0) hI (Or.inr hU))
  refine ⟨V.1, V.2.1, V.2.2.1, V.2.2.2.1, V.2.2.2.2, L 0 0, rfl, hO.1, hO.1, cu_sw hO hn ⟨fun _ => ⟨V.1, V.2.1, V.2.2.1, V.2.2.2.1, V.2.2.2.2, m, rfl, hS.1, ?_⟩, fun a e => (by cases e)⟩⟩
  rw [hI.2.2.1]
  refine ⟨FK hS, ?_⟩
  rw [p_sI]
  exact ru_ip hS e1 ⟨fun _ => ⟨fun _ => nx, fun y => absurd rfl y⟩, fun z => absurd rfl z⟩
theorem n_mark (V : V5 l4 N) (hI : IC M S L m o ra tp pg) (hU : UB M S L) (hN : ∀ M1, INV (k + 1) (L 0 0) m o M1 → R (some (L 0 0)) (some m) (some o) (l4 + 6) M1) : bk_L_law_324 b N xs R K (some (L 0 0)) (some m) (some o) l4 M := by
  have hO := hI.1
  have hn := hU.1
  have hS := hI.2.1
  have e1 : gI (pI S 704 0) 732 = 0 := hU.2.1
  have nx := hN _ (askU (v := 0) hI (Or.inr hU))
  refine ⟨V.1, V.2.1, V.2.2.1, V.2.2.2.1, L 0 0, rfl, hO.1, hO.1, cu_sw hO hn ⟨fun _ => ⟨V.1, V.2.1, V.2.2.1, V.2.2.2.1, m, rfl, hS.1, ?_⟩, fun a e => (by cases e)⟩⟩
  rw [hI.2.2.1]
  refine ⟨FK hS, ?_⟩
  rw [p_sI]
  exact ru_ip hS e1 ⟨fun _ => ⟨fun _ => nx, fun y => absurd rfl y⟩, fun z => absurd rfl z⟩
theorem n_end (V : V5 l4 N) (hI : IC M S L m o ra tp pg) (hU : UB M S L) (hN : ∀ M1, INV (k + 1) (L 0 0) m o M1 → R (some (L 0 0)) (some m) (some o) (l4 + 6) M1) : bk_L_law_405 b N xs R K (some (L 0 0)) (some m) (some o) l4 M := by
  have hO := hI.1
  have hn := hU.1
  have hS := hI.2.1
  have e1 : gI (pI S 704 0) 732 = 0 := hU.2.1
  have nx := hN _ (askU (v := 0) hI (Or.inr hU))
  refine ⟨V.1, V.2.1, L 0 0, rfl, hO.1, hO.1, cu_sw hO hn ⟨fun _ => ⟨V.1, V.2.1, m, rfl, hS.1, ?_⟩, fun a e => (by cases e)⟩⟩
  rw [hI.2.2.1]
  refine ⟨FK hS, ?_⟩
  rw [p_sI]
  exact ru_ip hS e1 ⟨fun z => absurd rfl z, fun _ => ⟨fun _ => nx, fun y => absurd rfl y⟩⟩
theorem n_part (V : V5 l4 N) (hI : IC M S L m o ra tp pg) (hU : UB M S L) (hN : ∀ M1, INV (k + 1) (L 0 0) m o M1 → R (some (L 0 0)) (some m) (some o) (l4 + 6) M1) : bk_L_law_851 b N xs R K (some (L 0 0)) (some m) (some o) l4 M := by
  have hO := hI.1
  have hn := hU.1
  have hS := hI.2.1
  have e1 : gI (pI S 704 0) 732 = 0 := hU.2.1
  have nx := hN _ (askU (v := 0) hI (Or.inr hU))
  refine ⟨V.1, V.2.1, L 0 0, rfl, hO.1, hO.1, cu_sw hO hn ⟨fun _ => ⟨V.1, V.2.1, m, rfl, hS.1, ?_⟩, fun a e => (by cases e)⟩⟩
  rw [hI.2.2.1]
  refine ⟨FK hS, ?_⟩
  rw [p_sI]
  exact ru_ip hS e1 ⟨fun z => absurd rfl z, fun _ => ⟨fun _ => nx, fun y => absurd rfl y⟩⟩
theorem n_hold (V : V5 l4 N) (hI : IC M S L m o ra tp pg) (hU : UB M S L) (hN : ∀ M1, INV (k + 1) (L 0 0) m o M1 → R (some (L 0 0)) (some m) (some o) (l4 + 6) M1) : bk_L_law_532 b N xs R K (some (L 0 0)) (some m) (some o) l4 M := by
  have hO := hI.1
  have hn := hU.1
  have hS := hI.2.1
  have e1 : gI (pI S 704 0) 732 = 0 := hU.2.1
  have nx := hN _ (askU (v := 0) hI (Or.inr hU))
  refine ⟨V.1, V.2.1, V.2.2.1, L 0 0, rfl, hO.1, hO.1, cu_sn hO hn ⟨fun _ => ⟨V.1, V.2.1, V.2.2.1, m, rfl, hS.1, ?_⟩, fun a e => (by cases e)⟩⟩
  rw [hI.2.2.1]
  refine ⟨FK hS, ?_⟩
  rw [p_sI]
  exact ru_is hS e1 ⟨fun _ => ⟨fun _ => nx, fun y => absurd rfl y⟩, fun z => absurd rfl z⟩
theorem n_turn (V : V5 l4 N) (hI : IC M S L m o ra tp pg) (hU : UB M S L) (hN : ∀ M1, INV (k + 1) (L 0 0) m o M1 → R (some (L 0 0)) (some m) (some o) (l4 + 6) M1) : bk_L_law_507 b N xs R K (some (L 0 0)) (some m) (some o) l4 M := by
  have hO := hI.1
  have hn := hU.1
  have hS := hI.2.1
  have e1 : gI (pI S 704 0) 732 = 0 := hU.2.1
  have nx := hN _ (askU (v := 0) hI (Or.inr hU))
  refine ⟨V.1, L 0 0, rfl, hO.1, hO.1, fun _ => ⟨V.1, m, rfl, hS.1, ?_⟩, fun a e => (by rw [hn] at e; cases e)⟩
  rw [hI.2.2.1]
  simp only [wp_X11_turn, bk_X11_turn_24, p_sI, p_mI, e1]
  exact ⟨FK hS, fun _ => ⟨fun _ => nx, fun y => absurd trivial y⟩, fun z => absurd trivial z⟩
theorem n_idle (V : V5 l4 N) (hI : IC M S L m o ra tp pg) (hU : UB M S L) (hN : ∀ M1, INV (k + 1) (L 0 0) m o M1 → R (some (L 0 0)) (some m) (some o) (l4 + 6) M1) : bk_L_law_442 b N xs R K (some (L 0 0)) (some m) (some o) l4 M := by
  have hO := hI.1
  have hn := hU.1
  have hS := hI.2.1
  have e1 : gI (pI S 704 0) 732 = 0 := hU.2.1
  have nx := hN _ (askU (v := 0) hI (Or.inr hU))
  have st : ∀ on : Int32, (∀ r M1, bk_L_law_499 b N xs R K (some (L 0 0)) (some m) (some o) l4 on (xs (l4 + 2).toNatClampNeg) (xs (l4 + 1).toNatClampNeg) (some m) r M1 → ((xs (l4 + 3).toNatClampNeg = 0 → bk_L_law_499 b N xs R K (some (L 0 0)) (some m) (some o) l4 0 (xs (l4 + 2).toNatClampNeg) (xs (l4 + 1).toNatClampNeg) (some m) r M1) ∧ (¬ xs (l4 + 3).toNatClampNeg = 0 → bk_L_law_499 b N xs R K (some (L 0 0)) (some m) (some o) l4 1 (xs (l4 + 2).toNatClampNeg) (xs (l4 + 1).toNatClampNeg) (some m) r M1))) → bk_L_law_469 b N xs R K (some (L 0 0)) (some m) (some o) l4 on (xs (l4 + 2).toNatClampNeg) (xs (l4 + 1).toNatClampNeg) (some (L 0 0)) M := fun on hq => by
    refine ⟨L 0 0, rfl, hO.1, hO.1, cu_sw hO hn ⟨fun _ => ⟨V.1, V.2.1, V.2.2.1, hq _ M ⟨m, rfl, hS.1, ?_⟩⟩, fun a e => (by cases e)⟩⟩
    rw [hI.2.2.1]
    refine ⟨FK hS, ?_⟩
    rw [p_sI]
    exact ru_ip hS e1 ⟨fun z => absurd rfl z, fun _ => ⟨fun _ => nx, fun y => absurd rfl y⟩⟩
  refine ⟨V.1, V.2.1, V.2.2.1, fun z => st 0 (fun r M1 q => ⟨fun _ => q, fun y => absurd z y⟩), fun z => st 1 (fun r M1 q => ⟨fun y => absurd y z, fun _ => q⟩)⟩
theorem n_rel (V : V5 l4 N) (hI : IC M S L m o ra tp pg) (hU : UB M S L) (hN : ∀ M1, INV (k + 1) (L 0 0) m o M1 → R (some (L 0 0)) (some m) (some o) (l4 + 6) M1) : bk_L_law_601 b N xs R K (some (L 0 0)) (some m) (some o) l4 M := by
  have hO := hI.1
  have hn := hU.1
  have hS := hI.2.1
  have e1 : gI (pI S 704 0) 732 = 0 := hU.2.1
  have nx := hN _ (askU (v := 0) hI (Or.inr hU))
  have st : ∀ on : Int32, (∀ r M1, bk_L_law_652 b N xs R K (some (L 0 0)) (some m) (some o) l4 on (xs (l4 + 1).toNatClampNeg) (some m) r M1 → ((xs (l4 + 2).toNatClampNeg = 0 → bk_L_law_652 b N xs R K (some (L 0 0)) (some m) (some o) l4 0 (xs (l4 + 1).toNatClampNeg) (some m) r M1) ∧ (¬ xs (l4 + 2).toNatClampNeg = 0 → bk_L_law_652 b N xs R K (some (L 0 0)) (some m) (some o) l4 1 (xs (l4 + 1).toNatClampNeg) (some m) r M1))) → bk_L_law_622 b N xs R K (some (L 0 0)) (some m) (some o) l4 on (xs (l4 + 1).toNatClampNeg) (some (L 0 0)) M := fun on hq => by
    refine ⟨V.2.2.1, L 0 0, rfl, hO.1, hO.1, fun _ => ⟨V.1, V.2.1, hq _ M ⟨V.2.2.1, m, rfl, hS.1, ?_⟩⟩, fun a e => (by rw [hn] at e; cases e)⟩
    rw [hI.2.2.1]
    simp only [wp_X11_release, bk_X11_release_43, p_sI, p_mI, e1]
    exact ⟨FK hS, fun _ => ⟨fun _ => nx, fun y => absurd trivial y⟩, fun z => absurd trivial z⟩
  refine ⟨V.1, V.2.1, fun z => st 0 (fun r M1 q => ⟨fun _ => q, fun y => absurd z y⟩), fun z => st 1 (fun r M1 q => ⟨fun y => absurd y z, fun _ => q⟩)⟩
theorem n_print (V : V5 l4 N) (hI : IC M S L m o ra tp pg) (hU : UB M S L) (hN : ∀ M1, INV (k + 1) (L 0 0) m o M1 → R (some (L 0 0)) (some m) (some o) (l4 + 6) M1) : bk_L_law_1115 b N xs R K (some (L 0 0)) (some m) (some o) l4 M := by
  have hO := hI.1
  have hn := hU.1
  have hS := hI.2.1
  have e1 : gI (pI S 704 0) 732 = 0 := hU.2.1
  have nx := hN _ (askU (v := 0) hI (Or.inr hU))
  refine ⟨L 0 0, rfl, hO.1, hO.1, fun _ => ⟨m, rfl, hS.1, ?_⟩, fun a e => (by rw [hn] at e; cases e)⟩
  rw [hI.2.2.1]
  simp only [wp_X11_print, p_sI, p_mI, e1]
  exact ⟨FK hS, fun z => absurd trivial z, fun _ => ⟨fun _ => nx, fun y => absurd trivial y⟩⟩
theorem n_wm (V : V5 l4 N) (hI : IC M S L m o ra tp pg) (hU : UB M S L) (hN : ∀ M1, INV (k + 1) (L 0 0) m o M1 → R (some (L 0 0)) (some m) (some o) (l4 + 6) M1) : bk_L_law_666 b N xs R K (some (L 0 0)) (some m) (some o) l4 M := by
  have w1 := hI.2.1.1
  refine ⟨V.1, L 0 0, rfl, hI.1.1, hI.1.1, cu_th hI.1 hU.1 (Or.inl ⟨rfl, V.1, m, rfl, w1, ?_⟩)⟩
  rw [hI.2.2.1]
  refine ⟨w1, ru_mb hI.2.1 hU.2.1 ⟨fun _ => ⟨w1, w1, ?_⟩, fun z => absurd rfl z⟩⟩
  rw [e704]
  exact ⟨fun _ => ⟨fun _ => hN _ (askU hI (Or.inr hU)), fun y => absurd y (by decide)⟩, fun y => absurd rfl y⟩
theorem n_ii (V : V5 l4 N) (hI : IC M S L m o ra tp pg) (hU : UB M S L) (hN : ∀ M1, INV (k + 1) (L 0 0) m o M1 → R (some (L 0 0)) (some m) (some o) (l4 + 6) M1) : bk_L_law_721 b N xs R K (some (L 0 0)) (some m) (some o) l4 M := by
  have w1 := hI.2.1.1
  refine ⟨V.1, L 0 0, rfl, hI.1.1, hI.1.1, cu_th hI.1 hU.1 (Or.inl ⟨rfl, V.1, m, rfl, w1, ?_⟩)⟩
  rw [hI.2.2.1]
  refine ⟨w1, ru_mb hI.2.1 hU.2.1 ⟨fun _ => ⟨Or.inl rfl, w1, w1, ?_⟩, fun z => absurd rfl z⟩⟩
  rw [e704]
  exact ⟨fun _ => ⟨fun _ => hN _ (askU hI (Or.inr hU)), fun y => absurd y (by decide)⟩, fun y => absurd rfl y⟩
theorem n_ke (V : V5 l4 N) (hI : IC M S L m o ra tp pg) (hU : UB M S L) (hN : ∀ M1, INV (k + 1) (L 0 0) m o M1 → R (some (L 0 0)) (some m) (some o) (l4 + 6) M1) : bk_L_law_888 b N xs R K (some (L 0 0)) (some m) (some o) l4 M := by
  have w1 := hI.2.1.1
  refine ⟨V.1, V.2.1, L 0 0, rfl, hI.1.1, hI.1.1, cu_th hI.1 hU.1 (Or.inl ⟨rfl, V.1, V.2.1, m, rfl, w1, ?_⟩)⟩
  rw [hI.2.2.1]
  refine ⟨w1, ru_mb hI.2.1 hU.2.1 ⟨fun z => absurd rfl z, fun _ => ⟨w1, w1, ?_⟩⟩⟩
  rw [e704]
  exact ⟨fun _ => ⟨fun _ => hN _ (askU hI (Or.inr hU)), fun y => absurd y (by decide)⟩, fun y => absurd rfl y⟩
theorem n_pr (V : V5 l4 N) (hI : IC M S L m o ra tp pg) (hU : UB M S L) (hN : ∀ M1, INV (k + 1) (L 0 0) m o M1 → R (some (L 0 0)) (some m) (some o) (l4 + 6) M1) : bk_L_law_784 b N xs R K (some (L 0 0)) (some m) (some o) l4 M := by
  have w1 := hI.2.1.1
  have e2 : gI (pI S 704 1) 704 = 1 := by simp [sg]
  refine ⟨V.1, V.2.1, L 0 0, rfl, hI.1.1, hI.1.1, fun _ => Or.inl ⟨rfl, V.1, V.2.1, m, rfl, w1, ?_⟩, fun a e => (by rw [hU.1] at e; cases e)⟩
  rw [hI.2.2.1]
  refine ⟨w1, fun z => absurd (by rw [p_mI]; exact hU.2.1) z, fun _ => ⟨m, rfl, w1, w1, ?_⟩⟩
  rw [p_sI, p_mI, e2]
  refine ⟨fun _ => ⟨w1, w1, ?_⟩, fun z => absurd z (by decide)⟩
  rw [e704]
  exact ⟨fun _ => ⟨fun _ => hN _ (askU hI (Or.inr hU)), fun y => absurd y (by decide)⟩, fun y => absurd rfl y⟩
theorem n_out (V : V5 l4 N) (hI : IC M S L m o ra tp pg) (hU : UB M S L) (hN : ∀ M1, INV (k + 1) (L 0 0) m o M1 → R (some (L 0 0)) (some m) (some o) (l4 + 6) M1) : bk_L_law_956 b N xs R K (some (L 0 0)) (some m) (some o) l4 M := by
  have w1 := hI.2.1.1
  have hS := hI.2.1
  have u : gI S 739 = nI ([] : List Row).length := hU.2.2.2.2.1
  refine ⟨V.1, V.2.1, L 0 0, rfl, hI.1.1, ?_⟩
  refine c_outA (l := []) hI.1 ⟨hI.1.2.2.2.2.2.2.2.1.2.2.2.1, hU.2.2.2.2.2.2.2.2.1, fun i r _ e => (by cases e)⟩ (by decide) (fun _ => ⟨rfl, V.1, V.2.1, m, rfl, w1, ?_⟩) (fun z => (by rw [no_nil] at z; exact absurd z (by decide)))
  rw [hI.2.2.1]
  refine ⟨w1, ?_⟩
  rw [p_mR, (F740 hS).1, p_mI, u]
  refine r_noted (a := 739) (f := 740) (room := 300) (l := []) hS ⟨u, fun i r _ e => (by cases e)⟩ (by decide) (by decide) ⟨(F740 hS).2.1, (F740 hS).2.2.1, (F740 hS).2.2.2.1⟩ ?_
  rw [no_nil]
  refine ⟨w1, w1, ?_⟩
  rw [e704]
  exact ⟨fun _ => ⟨fun _ => hN _ (askU hI (Or.inr hU)), fun y => absurd y (by decide)⟩, fun y => absurd rfl y⟩
theorem n_late (V : V5 l4 N) (hI : IC M S L m o ra tp pg) (hU : UB M S L) (hN : ∀ M1, INV (k + 1) (L 0 0) m o M1 → R (some (L 0 0)) (some m) (some o) (l4 + 6) M1) : bk_L_law_1023 b N xs R K (some (L 0 0)) (some m) (some o) l4 M := by
  have w1 := hI.2.1.1
  have hS := hI.2.1
  have u : gI S 741 = nI ([] : List Row).length := hU.2.2.2.2.2.1
  refine ⟨V.1, V.2.1, L 0 0, rfl, hI.1.1, ?_⟩
  refine c_lateA (l := []) hI.1 ⟨hI.1.2.2.2.2.2.2.2.2.1.2.2.2.1, hU.2.2.2.2.2.2.2.2.2, fun i r _ e => (by cases e)⟩ (by decide) (fun _ => ⟨rfl, V.1, V.2.1, m, rfl, w1, ?_⟩) (fun z => (by rw [no_nil] at z; exact absurd z (by decide)))
  rw [hI.2.2.1]
  refine ⟨w1, ?_⟩
  rw [p_mR, (F742 hS).1, p_mI, u]
  refine r_noted (a := 741) (f := 742) (room := 200) (l := []) hS ⟨u, fun i r _ e => (by cases e)⟩ (by decide) (by decide) ⟨(F742 hS).2.1, (F742 hS).2.2.1, (F742 hS).2.2.2.1⟩ ?_
  rw [no_nil]
  refine ⟨w1, w1, ?_⟩
  rw [e704]
  exact ⟨fun _ => ⟨fun _ => hN _ (askU hI (Or.inr hU)), fun y => absurd y (by decide)⟩, fun y => absurd rfl y⟩
theorem n_told (V : V5 l4 N) (hI : IC M S L m o ra tp pg) (hU : UB M S L) (hN : ∀ M1, INV (k + 1) (L 0 0) m o M1 → R (some (L 0 0)) (some m) (some o) (l4 + 6) M1) : bk_L_law_1090 b N xs R K (some (L 0 0)) (some m) (some o) l4 M := by
  have hO := hI.1
  have hn := hU.1
  have hS := hI.2.1
  have e1 : gI (pI S 704 0) 732 = 0 := hU.2.1
  have nx := hN _ (askU (v := 0) hI (Or.inr hU))
  have e : gI S 706 = mI M 1 (L 0 8) := by rw [hI.2.2.2.2.1.1, hI.2.2.2.1.2.2.2.2.1]
  have l0 : ∀ p : Int32, p < 0 ↔ p.toInt < 0 := fun p => by rw [Int32.lt_iff_toInt_lt]; rfl
  have l8 : ∀ p : Int32, p ≤ 8 ↔ p.toInt ≤ 8 := fun p => by rw [Int32.le_iff_toInt_le]; rfl
  refine ⟨V.1, L 0 0, rfl, hO.1, fun z => ⟨V.1, m, rfl, hS.1, ?_⟩, fun z => ⟨fun y => ⟨fun x => ⟨hO.1, fun _ => ⟨V.1, m, rfl, hS.1, ?_⟩, fun a e => (by rw [hn] at e; cases e)⟩, fun x => ⟨hO.1, L 0 8, hO.2.1, hO.2.2.2.2.2.1.1, V.1, m, rfl, hS.1, ?_⟩⟩, fun y => ⟨V.1, m, rfl, hS.1, ?_⟩⟩⟩
  · rw [hI.2.2.1]
    refine ru_told hS hU (fun _ => ⟨fun _ => nx, fun y => absurd rfl y⟩) (fun w _ => absurd (Or.inl ((l0 _).1 z)) w) (fun w => ?_)
    rw [w] at z; exact absurd z (by decide)
  · rw [hI.2.2.1]
    refine ru_told hS hU (fun w => ?_) (fun _ _ => ⟨fun _ => nx, fun y => absurd rfl y⟩) (fun w => absurd w x)
    rw [l0] at z
    rw [l8] at y
    omega
  · rw [← e]
    have q := ru_told (K := fun r M1 => (gI S 706 = r → bk_L_law_1153 b N xs R K (some (L 0 0)) (some m) (some o) l4 M1) ∧ (¬ gI S 706 = r → K 0 M1)) (p := xs (l4 + 1).toNatClampNeg) hS hU (fun w => (by rw [x] at w; exact absurd w (by decide))) (fun _ w => absurd x w) (fun _ => ⟨fun _ => nx, fun y => absurd rfl y⟩)
    rw [← hI.2.2.1] at q
    exact q
  · rw [hI.2.2.1]
    refine ru_told hS hU (fun _ => ⟨fun _ => nx, fun y => absurd rfl y⟩) (fun w _ => absurd (Or.inr (by rw [l8] at y; omega)) w) (fun w => ?_)
    rw [w] at y; exact absurd (by decide) y
end D8
