/-! the reference's state while the class goes on; another base -/
def RX (M M1 : Mm) : Prop := ∀ a, (mK M a = 12 ∨ ¬ idOf (mK M a) = 0) → mK M1 a = mK M a ∧ (∀ f, 700 ≤ f → mI M1 f a = mI M f a ∧ mJ M1 f a = mJ M f a ∧ mR M1 f a = mR M f a) ∧ aN M1 a = aN M a ∧ ∀ j, aI M1 a j = aI M a j ∧ aJ M1 a j = aJ M a j
/-- the same but for scalars that aren't the reference's -/
def KG (S S1 : St) : Prop := (∀ f, 700 ≤ f → gI S1 f = gI S f) ∧ (∀ f, vI S1 f = vI S f) ∧ ∀ f, vJ S1 f = vJ S f
theorem KG.refl {S : St} : KG S S := ⟨fun _ _ => rfl, fun _ => rfl, fun _ => rfl⟩
section RXs
variable {M M1 M2 : Mm} {m : Nat} {ra : Nat → Nat} {S S1 : St} {C : Cfg} {D : Dyn}
theorem RX.refl : RX M M := fun _ _ => ⟨rfl, fun _ _ => ⟨rfl, rfl, rfl⟩, rfl, fun _ => ⟨rfl, rfl⟩⟩
theorem RX.trans (h : RX M M1) (g : RX M1 M2) : RX M M2 := fun a ha => by
  obtain ⟨a1, a2, a3, a4⟩ := h a ha
  obtain ⟨b1, b2, b3, b4⟩ := g a (by rw [a1]; exact ha)
  exact ⟨b1.trans a1, fun f hf => ⟨(b2 f hf).1.trans (a2 f hf).1, (b2 f hf).2.1.trans (a2 f hf).2.1, (b2 f hf).2.2.trans (a2 f hf).2.2⟩, b3.trans a3, fun j => ⟨(b4 j).1.trans (a4 j).1, (b4 j).2.trans (a4 j).2⟩⟩
theorem rx_rk {k : Nat} (h : k = 12 ∨ ¬ idOf k = 0) : RK k := by
  rcases h with e | e
  · exact Or.inr (Or.inr (Or.inl e))
  · exact rkb_RK.1 (idOf_rkb k e)
theorem RX.off (h : Off M M1) : RX M M1 := fun a ha => by
  obtain ⟨o1, o2, o3, o4, o5, o6⟩ := h
  have := o6 a (rx_rk ha)
  exact ⟨by rw [o1], fun f _ => ⟨(this.1 f).1, (this.1 f).2, by rw [o2]⟩, by rw [o3], fun j => this.2 j⟩
theorem rx_nz {k : Nat} (h : k = 12 ∨ ¬ idOf k = 0) : ¬ k = 0 := by
  rcases h with e | e
  · omega
  · intro z; rw [z] at e; exact e rfl
theorem RX.gx {X Y : List Nat} (h : GX X Y M M1) (hX : ∀ f ∈ X, f < 700) (hY : ∀ f ∈ Y, f < 700) : RX M M1 := fun a ha => by
  obtain ⟨a1, a2, a3, a4, a5⟩ := h a (rx_nz ha)
  exact ⟨a1, fun f hf => ⟨(a2 f (fun q => by have := hX f q; omega)).1, (a2 f (fun q => by have := hX f q; omega)).2, a3 f (fun q => by have := hY f q; omega)⟩, a4, fun j => ⟨(a5 j).1, (a5 j).2.1⟩⟩
theorem RXsI {f a : Nat} {v : Int32} (h : RX M M1) (hf : f < 700) : RX M (sI M1 f a v) := fun b hb => by
  obtain ⟨a1, a2, a3, a4⟩ := h b hb
  exact ⟨a1, fun g hg => ⟨by simpa [ms, show ¬ g = f by omega] using (a2 g hg).1, (a2 g hg).2⟩, a3, a4⟩
theorem rx_ne {a b k : Nat} (hb : mK M b = 12 ∨ ¬ idOf (mK M b) = 0) (ha : mK M a = k) (hk : k = 16 ∨ k = 426) : ¬ b = a := fun e => by
  rw [e, ha] at hb
  rcases hk with z | z <;> subst z <;> rcases hb with q | q
  · exact absurd q (by decide)
  · exact q rfl
  · exact absurd q (by decide)
  · exact q rfl
theorem RXtI {a j k : Nat} {v : Int32} (h : RX M M1) (ha : mK M a = k) (hk : k = 16 ∨ k = 426) : RX M (tI M1 a j v) := fun b hb => by
  obtain ⟨a1, a2, a3, a4⟩ := h b hb
  have ne := rx_ne hb ha hk
  exact ⟨a1, a2, a3, fun i => ⟨by simpa [ms, ne] using (a4 i).1, (a4 i).2⟩⟩
theorem RXtJ {a j k : Nat} {v : Int64} (h : RX M M1) (ha : mK M a = k) (hk : k = 16 ∨ k = 426) : RX M (tJ M1 a j v) := fun b hb => by
  obtain ⟨a1, a2, a3, a4⟩ := h b hb
  have ne := rx_ne hb ha hk
  exact ⟨a1, a2, a3, fun i => ⟨(a4 i).1, by simpa [ms, ne] using (a4 i).2⟩⟩
theorem tab_700 : ∀ r ∈ tabM, 700 ≤ r.1 ∧ ¬ idOf r.2.1 = 0 ∧ idOf r.2.1 = r.1 := by decide
theorem idOf_tab : ∀ k, ¬ idOf k = 0 → ∃ r ∈ tabM, r.1 = idOf k := by
  intro k hk
  unfold idOf at hk ⊢
  split at hk <;> first | exact absurd rfl hk | decide
theorem SH.rx (h : SH M m ra) (hx : RX M M1) : SH M1 m ra := by
  obtain ⟨h1, h2⟩ := h
  refine ⟨(hx m (Or.inl h1)).1.trans h1, fun r hr => ?_⟩
  obtain ⟨a1, a2, a3⟩ := h2 r hr
  obtain ⟨t1, t2, t3⟩ := tab_700 r hr
  have hq : mK M (ra r.1) = 12 ∨ ¬ idOf (mK M (ra r.1)) = 0 := Or.inr (by rw [a2]; exact t2)
  have q := hx (ra r.1) hq
  exact ⟨((hx m (Or.inl h1)).2.1 r.1 t1).2.2.trans a1, q.1.trans a2, q.2.2.1.trans a3⟩
/-- the class goes on: the reference's state stays where it is -/
theorem pM_rx (h : SH M m ra) (hM : M = pM M m ra S) (hx : RX M M1) : SH M1 m ra ∧ ∃ S1, M1 = pM M1 m ra S1 ∧ KG S S1 := by
  refine ⟨h.rx hx, (fun f => mI M1 f m, fun f => mJ M1 f m, S.2.2.1, S.2.2.2), ?_, fun f hf => ?_, fun f => rfl, fun f => rfl⟩
  · have hI : ∀ a, rA M1 ra a → mK M1 a = mK M a ∧ (mK M a = 12 ∨ ¬ idOf (mK M a) = 0) := fun a ha => by
      obtain ⟨r, hr, e⟩ := idOf_tab _ ha.1
      have ea : a = ra r.1 := by rw [e]; exact ha.2
      have q : mK M a = r.2.1 := by rw [ea]; exact (h.2 r hr).2.1
      have w : mK M a = 12 ∨ ¬ idOf (mK M a) = 0 := Or.inr (by rw [q]; exact (tab_700 r hr).2.1)
      exact ⟨(hx a w).1, w⟩
    refine Prod.ext rfl (Prod.ext ?_ (Prod.ext ?_ (Prod.ext rfl (Prod.ext rfl (Prod.ext ?_ (Prod.ext ?_ rfl))))))
    · funext f a
      show mI M1 f a = if a = m then mI M1 f m else mI M1 f a
      by_cases e : a = m
      · rw [if_pos e, e]
      · rw [if_neg e]
    · funext f a
      show mJ M1 f a = if a = m then mJ M1 f m else mJ M1 f a
      by_cases e : a = m
      · rw [if_pos e, e]
      · rw [if_neg e]
    · funext a j
      show aI M1 a j = if rA M1 ra a then vI S (idOf (mK M1 a)) j else aI M1 a j
      by_cases e : rA M1 ra a
      · rw [if_pos e]
        obtain ⟨w1, w2⟩ := hI a e
        rw [((hx a w2).2.2.2 j).1]
        have e' : rA M ra a := ⟨by rw [← w1]; exact e.1, by rw [← w1]; exact e.2⟩
        have := congrFun (congrFun (congrArg aI hM) a) j
        rw [this, w1]
        exact if_pos e'
      · rw [if_neg e]
    · funext a j
      show aJ M1 a j = if rA M1 ra a then vJ S (idOf (mK M1 a)) j else aJ M1 a j
      by_cases e : rA M1 ra a
      · rw [if_pos e]
        obtain ⟨w1, w2⟩ := hI a e
        rw [((hx a w2).2.2.2 j).2]
        have e' : rA M ra a := ⟨by rw [← w1]; exact e.1, by rw [← w1]; exact e.2⟩
        have := congrFun (congrFun (congrArg aJ hM) a) j
        rw [this, w1]
        exact if_pos e'
      · rw [if_neg e]
  · show mI M1 f m = gI S f
    rw [((hx m (Or.inl h.1)).2.1 f hf).1]
    have := congrFun (congrFun (congrArg mI hM) f) m
    rw [this]
    exact if_pos rfl
/-- the reference's own step -/
theorem pM_pM : pM (pM M m ra S) m ra S1 = pM M m ra S1 := by
  refine Prod.ext rfl (Prod.ext ?_ (Prod.ext ?_ (Prod.ext rfl (Prod.ext rfl (Prod.ext ?_ (Prod.ext ?_ rfl))))))
  · funext f a
    show (if a = m then gI S1 f else (if a = m then gI S f else mI M f a)) = if a = m then gI S1 f else mI M f a
    by_cases e : a = m
    · rw [if_pos e, if_pos e]
    · rw [if_neg e, if_neg e, if_neg e]
  · funext f a
    show (if a = m then gJ S1 f else (if a = m then gJ S f else mJ M f a)) = if a = m then gJ S1 f else mJ M f a
    by_cases e : a = m
    · rw [if_pos e, if_pos e]
    · rw [if_neg e, if_neg e, if_neg e]
  · funext a j
    show (if rA M ra a then vI S1 (idOf (mK M a)) j else (if rA M ra a then vI S (idOf (mK M a)) j else aI M a j)) = if rA M ra a then vI S1 (idOf (mK M a)) j else aI M a j
    by_cases e : rA M ra a
    · rw [if_pos e, if_pos e]
    · rw [if_neg e, if_neg e, if_neg e]
  · funext a j
    show (if rA M ra a then vJ S1 (idOf (mK M a)) j else (if rA M ra a then vJ S (idOf (mK M a)) j else aJ M a j)) = if rA M ra a then vJ S1 (idOf (mK M a)) j else aJ M a j
    by_cases e : rA M ra a
    · rw [if_pos e, if_pos e]
    · rw [if_neg e, if_neg e, if_neg e]
theorem SH_pM : SH (pM M m ra S) m ra = SH M m ra := rfl
/-- the same as far as a graph goes -/
def KB (S S1 : St) : Prop := (∀ f ∈ [732, 738, 739, 741, 743, 752], gI S1 f = gI S f) ∧ (∀ f ∈ [734, 735, 737, 744, 746, 747, 748, 750, 751, 753, 755], vI S1 f = vI S f) ∧ (∀ f ∈ [733, 736, 740, 742, 745, 749, 754], vJ S1 f = vJ S f) ∧ (∀ f ∈ [715, 718, 719, 722, 723, 724, 726], ∀ s, vI S1 f (12 + s) = vI S f (12 + s)) ∧ (∀ f ∈ [720, 721], ∀ s, vJ S1 f (12 + s) = vJ S f (12 + s)) ∧ (∀ j, vI S1 725 (48 + j) = vI S 725 (48 + j)) ∧ (∀ g, vI S1 727 (4 + g) = vI S 727 (4 + g) ∧ vJ S1 728 (4 + g) = vJ S 728 (4 + g)) ∧ vI S1 729 1 = vI S 729 1
theorem SA.kb (h : SA S C D) (k : KB S S1) : SA S1 (setb C S1) D := by
  obtain ⟨y1, y2, y3, y4, y5, y6, y7, y8⟩ := k
  obtain ⟨⟨c1, c2, c3, c4, c5, c6⟩, d1, d2, d3, d4, d5, d6, d7, d8, d9, d10, d11, d12⟩ := h
  refine ⟨⟨y8.trans c1, (y1 732 (by decide)).trans c2, fun s hs => ?_, fun s i hs hi => ?_, fun g hg => ⟨(y7 g).1.trans (c5 g hg).1, fun v hv => (y7 g).2.trans ((c5 g hg).2 v hv)⟩, SB.refl⟩, ?_⟩
  · obtain ⟨a1, a2, a3, a4, a5, a6, a7, a8, a9⟩ := c3 s hs
    exact ⟨(y4 715 (by decide) s).trans a1, (y4 718 (by decide) s).trans a2, (y4 719 (by decide) s).trans a3, (y5 720 (by decide) s).trans a4, (y5 721 (by decide) s).trans a5, (y4 722 (by decide) s).trans a6, (y4 723 (by decide) s).trans a7, (y4 724 (by decide) s).trans a8, (y4 726 (by decide) s).trans a9⟩
  · have := c4 s i hs hi
    rw [show 4 * (12 + s) + i = 48 + (4 * s + i) by omega] at this ⊢
    exact (y6 _).trans this
  · unfold SD MK IDL PTS PTP PTH NWW NT LO WI WL w3 KP KE k3 TI at *
    simp only [y1 738 (by decide), y1 739 (by decide), y1 741 (by decide), y1 743 (by decide), y1 752 (by decide), y2 734 (by decide), y2 735 (by decide), y2 737 (by decide), y2 744 (by decide), y2 746 (by decide), y2 747 (by decide), y2 748 (by decide), y2 750 (by decide), y2 751 (by decide), y2 753 (by decide), y2 755 (by decide), y3 733 (by decide), y3 736 (by decide), y3 740 (by decide), y3 742 (by decide), y3 745 (by decide), y3 749 (by decide), y3 754 (by decide)]
    exact ⟨d1, d2, d3, d4, d5, d6, d7, d8, d9, d10, d11, d12⟩
theorem KB.refl : KB S S := ⟨fun _ _ => rfl, fun _ _ => rfl, fun _ _ => rfl, fun _ _ _ => rfl, fun _ _ _ => rfl, fun _ => rfl, fun _ => ⟨rfl, rfl⟩, rfl⟩
theorem KG.kb (h : KG S S1) : KB S S1 := ⟨fun f hf => h.1 f (by revert f; decide), fun f _ => h.2.1 f, fun f _ => h.2.2 f, fun f _ s => by rw [h.2.1 f], fun f _ s => by rw [h.2.2 f], fun j => by rw [h.2.1], fun g => ⟨by rw [h.2.1], by rw [h.2.2]⟩, by rw [h.2.1]⟩
end RXs
