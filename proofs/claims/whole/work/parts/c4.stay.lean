/-! what stays of the class's graph when its tape, its page or the reference change; and of the reference when the class goes on -/
def rkb (k : Nat) : Bool := k == 1 || (k == 11 || (k == 12 || (k == 16 || ((decide (120 ≤ k) && decide (k ≤ 400)) || k == 426))))
theorem rkb_RK {k : Nat} : rkb k = true ↔ RK k := by simp [rkb, RK]
def SY (Y : List Nat) (M M1 : Mm) (a : Nat) : Prop := mK M1 a = mK M a ∧ (¬ rkb (mK M a) = true → (∀ f, ¬ f ∈ gX → mI M1 f a = mI M f a ∧ mJ M1 f a = mJ M f a) ∧ ∀ j, aI M1 a j = aI M a j ∧ aJ M1 a j = aJ M a j) ∧ (∀ f, ¬ f ∈ Y → mR M1 f a = mR M f a) ∧ aN M1 a = aN M a ∧ ∀ j, aR M1 a j = aR M a j
def HX (Y : List Nat) (M M1 : Mm) : Prop := ∀ a, ¬ mK M a = 0 → SY Y M M1 a
section HXs
variable {Y : List Nat} {M M1 M2 : Mm}
theorem HX.refl : HX Y M M := fun _ _ => ⟨rfl, fun _ => ⟨fun _ _ => ⟨rfl, rfl⟩, fun _ => ⟨rfl, rfl⟩⟩, fun _ _ => rfl, rfl, fun _ => rfl⟩
theorem HX.trans (h : HX Y M M1) (g : HX Y M1 M2) : HX Y M M2 := fun a ha => by
  obtain ⟨a1, a2, a3, a4, a5⟩ := h a ha
  obtain ⟨b1, b2, b3, b4, b5⟩ := g a (by rw [a1]; exact ha)
  refine ⟨b1.trans a1, fun z => ?_, fun f hf => (b3 f hf).trans (a3 f hf), b4.trans a4, fun j => (b5 j).trans (a5 j)⟩
  have y1 := a2 z
  have y2 := b2 (by rw [a1]; exact z)
  exact ⟨fun f hf => ⟨(y2.1 f hf).1.trans (y1.1 f hf).1, (y2.1 f hf).2.trans (y1.1 f hf).2⟩, fun j => ⟨(y2.2 j).1.trans (y1.2 j).1, (y2.2 j).2.trans (y1.2 j).2⟩⟩
theorem HX.mono {Y' : List Nat} (h : HX Y M M1) (_ : ∀ f : Nat, f ∈ gX → f ∈ gX) (hY : ∀ f ∈ Y, f ∈ Y') : HX Y' M M1 := fun a ha => ⟨(h a ha).1, (h a ha).2.1, fun f hf => (h a ha).2.2.1 f (fun q => hf (hY f q)), (h a ha).2.2.2⟩
theorem HX.gx (h : GX gX Y M M1) : HX Y M M1 := fun a ha => by
  obtain ⟨a1, a2, a3, a4, a5⟩ := h a ha
  exact ⟨a1, fun _ => ⟨a2, fun j => ⟨(a5 j).1, (a5 j).2.1⟩⟩, a3, a4, fun j => (a5 j).2.2⟩
theorem HX.k {a k : Nat} (h : HX Y M M1) (hk : mK M a = k) (h0 : ¬ k = 0) : mK M1 a = k := (h a (by rw [hk]; exact h0)).1.trans hk
theorem HX.i {a k f : Nat} (h : HX Y M M1) (hk : mK M a = k) (h0 : ¬ (k = 0 ∨ rkb k = true)) (hf : ¬ f ∈ gX) : mI M1 f a = mI M f a := (((h a (by rw [hk]; exact fun z => h0 (Or.inl z))).2.1 (by rw [hk]; exact fun z => h0 (Or.inr z))).1 f hf).1
theorem HX.j {a k f : Nat} (h : HX Y M M1) (hk : mK M a = k) (h0 : ¬ (k = 0 ∨ rkb k = true)) (hf : ¬ f ∈ gX) : mJ M1 f a = mJ M f a := (((h a (by rw [hk]; exact fun z => h0 (Or.inl z))).2.1 (by rw [hk]; exact fun z => h0 (Or.inr z))).1 f hf).2
theorem HX.r {a k f : Nat} (h : HX Y M M1) (hk : mK M a = k) (h0 : ¬ k = 0) (hf : ¬ f ∈ Y) : mR M1 f a = mR M f a := (h a (by rw [hk]; exact h0)).2.2.1 f hf
theorem HX.n {a k : Nat} (h : HX Y M M1) (hk : mK M a = k) (h0 : ¬ k = 0) : aN M1 a = aN M a := (h a (by rw [hk]; exact h0)).2.2.2.1
theorem HX.ai {a k j : Nat} (h : HX Y M M1) (hk : mK M a = k) (h0 : ¬ (k = 0 ∨ rkb k = true)) : aI M1 a j = aI M a j := (((h a (by rw [hk]; exact fun z => h0 (Or.inl z))).2.1 (by rw [hk]; exact fun z => h0 (Or.inr z))).2 j).1
theorem HX.aj {a k j : Nat} (h : HX Y M M1) (hk : mK M a = k) (h0 : ¬ (k = 0 ∨ rkb k = true)) : aJ M1 a j = aJ M a j := (((h a (by rw [hk]; exact fun z => h0 (Or.inl z))).2.1 (by rw [hk]; exact fun z => h0 (Or.inr z))).2 j).2
theorem HX.ar {a k j : Nat} (h : HX Y M M1) (hk : mK M a = k) (h0 : ¬ k = 0) : aR M1 a j = aR M a j := (h a (by rw [hk]; exact h0)).2.2.2.2 j
/-- writes at what is not the graph's -/
theorem HXsI {f a : Nat} {v : Int32} (h : HX Y M M1) (ha : rkb (mK M a) = true) : HX Y M (sI M1 f a v) := fun b hb => by
  obtain ⟨h1, h2, h3, h4, h5⟩ := h b hb
  refine ⟨h1, fun z => ?_, h3, h4, h5⟩
  have ne : ¬ b = a := fun e => z (e ▸ ha)
  obtain ⟨y1, y2⟩ := h2 z
  exact ⟨fun g hg => ⟨by simpa [ms, ne] using (y1 g hg).1, (y1 g hg).2⟩, y2⟩
theorem HXtI {a j : Nat} {v : Int32} (h : HX Y M M1) (ha : rkb (mK M a) = true) : HX Y M (tI M1 a j v) := fun b hb => by
  obtain ⟨h1, h2, h3, h4, h5⟩ := h b hb
  refine ⟨h1, fun z => ?_, h3, h4, h5⟩
  have ne : ¬ b = a := fun e => z (e ▸ ha)
  obtain ⟨y1, y2⟩ := h2 z
  exact ⟨y1, fun i => ⟨by simpa [ms, ne] using (y2 i).1, (y2 i).2⟩⟩
theorem HXtJ {a j : Nat} {v : Int64} (h : HX Y M M1) (ha : rkb (mK M a) = true) : HX Y M (tJ M1 a j v) := fun b hb => by
  obtain ⟨h1, h2, h3, h4, h5⟩ := h b hb
  refine ⟨h1, fun z => ?_, h3, h4, h5⟩
  have ne : ¬ b = a := fun e => z (e ▸ ha)
  obtain ⟨y1, y2⟩ := h2 z
  exact ⟨y1, fun i => ⟨(y2 i).1, by simpa [ms, ne] using (y2 i).2⟩⟩
theorem idOf_rkb : ∀ k, ¬ idOf k = 0 → rkb k = true := by
  intro k hk
  unfold idOf at hk
  split at hk <;> first | rfl | exact absurd rfl hk
theorem HX.pM {m : Nat} {ra : Nat → Nat} {S : St} (hm : mK M m = 12) : HX Y M (pM M m ra S) := fun a ha => by
  refine ⟨rfl, fun z => ⟨fun f _ => ?_, fun j => ?_⟩, fun _ _ => rfl, rfl, fun _ => rfl⟩
  · have ne : ¬ a = m := fun e => z (by rw [e, hm]; rfl)
    exact ⟨if_neg ne, if_neg ne⟩
  · have ne : ¬ rA M ra a := fun e => z (idOf_rkb _ e.1)
    exact ⟨if_neg ne, if_neg ne⟩
end HXs
section HXt
variable {M M1 : Mm} {L : Nat → Nat → Nat} {C : Cfg} {D : Dyn} {s : Nat}
theorem CSTn_hx (hx : HX [389] M M1) (h2 : mK M (L 0 2) = 412) (h : CSTn M L C s) : CSTn M1 L C s := ⟨(hx.ar (h2) (by decide)).trans h.1, hx.k (h.2.1) (by decide), (hx.i (h.2.1) (by decide) (by decide)).trans h.2.2.1, (hx.j (h.2.1) (by decide) (by decide)).trans h.2.2.2.1, (hx.r (h.2.1) (by decide) (by decide)).trans h.2.2.2.2.1, hx.k (h.2.2.2.2.2.1) (by decide), (hx.n (h.2.2.2.2.2.1) (by decide)).trans h.2.2.2.2.2.2.1, (hx.i (h.2.1) (by decide) (by decide)).trans h.2.2.2.2.2.2.2.1, (hx.j (h.2.1) (by decide) (by decide)).trans h.2.2.2.2.2.2.2.2.1, (hx.r (h.2.1) (by decide) (by decide)).trans h.2.2.2.2.2.2.2.2.2.1, (hx.r (h.2.1) (by decide) (by decide)).trans h.2.2.2.2.2.2.2.2.2.2.1, (hx.r (h.2.1) (by decide) (by decide)).trans h.2.2.2.2.2.2.2.2.2.2.2⟩
theorem CSO_hx (hx : HX [389] M M1) (h : CSO M L C s) : CSO M1 L C s := ⟨hx.k (h.1) (by decide), (hx.i (h.1) (by decide) (by decide)).trans h.2.1, (hx.j (h.1) (by decide) (by decide)).trans h.2.2.1, (hx.i (h.1) (by decide) (by decide)).trans h.2.2.2.1, (hx.i (h.1) (by decide) (by decide)).trans h.2.2.2.2.1, (hx.r (h.1) (by decide) (by decide)).trans h.2.2.2.2.2.1, (hx.r (h.1) (by decide) (by decide)).trans h.2.2.2.2.2.2.1, (hx.r (h.1) (by decide) (by decide)).trans h.2.2.2.2.2.2.2.1, (hx.r (h.1) (by decide) (by decide)).trans h.2.2.2.2.2.2.2.2.1, hx.k (h.2.2.2.2.2.2.2.2.2.1) (by decide), (hx.n (h.2.2.2.2.2.2.2.2.2.1) (by decide)).trans h.2.2.2.2.2.2.2.2.2.2.1, hx.k (h.2.2.2.2.2.2.2.2.2.2.2.1) (by decide), (hx.n (h.2.2.2.2.2.2.2.2.2.2.2.1) (by decide)).trans h.2.2.2.2.2.2.2.2.2.2.2.2.1, hx.k (h.2.2.2.2.2.2.2.2.2.2.2.2.2.1) (by decide), (hx.n (h.2.2.2.2.2.2.2.2.2.2.2.2.2.1) (by decide)).trans h.2.2.2.2.2.2.2.2.2.2.2.2.2.2.1, hx.k (h.2.2.2.2.2.2.2.2.2.2.2.2.2.2.2.1) (by decide), (hx.n (h.2.2.2.2.2.2.2.2.2.2.2.2.2.2.2.1) (by decide)).trans h.2.2.2.2.2.2.2.2.2.2.2.2.2.2.2.2⟩
theorem CWO_hx (hx : HX [389] M M1) (h : CWO M L C s) : CWO M1 L C s := ⟨hx.k (h.1) (by decide), (hx.j (h.1) (by decide) (by decide)).trans h.2.1, (hx.j (h.1) (by decide) (by decide)).trans h.2.2.1, (hx.r (h.1) (by decide) (by decide)).trans h.2.2.2.1, (hx.r (h.1) (by decide) (by decide)).trans h.2.2.2.2.1, (hx.r (h.1) (by decide) (by decide)).trans h.2.2.2.2.2.1, hx.k (h.2.2.2.2.2.2.1) (by decide), (hx.n (h.2.2.2.2.2.2.1) (by decide)).trans h.2.2.2.2.2.2.2.1, hx.k (h.2.2.2.2.2.2.2.2.1) (by decide), (hx.n (h.2.2.2.2.2.2.2.2.1) (by decide)).trans h.2.2.2.2.2.2.2.2.2.1, hx.k (h.2.2.2.2.2.2.2.2.2.2.1) (by decide), (hx.n (h.2.2.2.2.2.2.2.2.2.2.1) (by decide)).trans h.2.2.2.2.2.2.2.2.2.2.2⟩
theorem CJO_hx (hx : HX [389] M M1) (h : CJO M L C s) : CJO M1 L C s := ⟨hx.k (h.1) (by decide), (hx.r (h.1) (by decide) (by decide)).trans h.2.1, (hx.r (h.1) (by decide) (by decide)).trans h.2.2.1, (hx.j (h.1) (by decide) (by decide)).trans h.2.2.2.1, (hx.j (h.1) (by decide) (by decide)).trans h.2.2.2.2.1, (hx.r (h.1) (by decide) (by decide)).trans h.2.2.2.2.2.1, (hx.r (h.1) (by decide) (by decide)).trans h.2.2.2.2.2.2.1, (hx.r (h.1) (by decide) (by decide)).trans h.2.2.2.2.2.2.2.1, (hx.r (h.1) (by decide) (by decide)).trans h.2.2.2.2.2.2.2.2.1, hx.k (h.2.2.2.2.2.2.2.2.2.1) (by decide), (hx.n (h.2.2.2.2.2.2.2.2.2.1) (by decide)).trans h.2.2.2.2.2.2.2.2.2.2.1, hx.k (h.2.2.2.2.2.2.2.2.2.2.2.1) (by decide), (hx.n (h.2.2.2.2.2.2.2.2.2.2.2.1) (by decide)).trans h.2.2.2.2.2.2.2.2.2.2.2.2.1, hx.k (h.2.2.2.2.2.2.2.2.2.2.2.2.2.1) (by decide), (hx.n (h.2.2.2.2.2.2.2.2.2.2.2.2.2.1) (by decide)).trans h.2.2.2.2.2.2.2.2.2.2.2.2.2.2.1, hx.k (h.2.2.2.2.2.2.2.2.2.2.2.2.2.2.2.1) (by decide), (hx.n (h.2.2.2.2.2.2.2.2.2.2.2.2.2.2.2.1) (by decide)).trans h.2.2.2.2.2.2.2.2.2.2.2.2.2.2.2.2.1, fun k hk => ⟨(hx.ar (h.2.2.2.2.2.2.2.2.2.2.2.1) (by decide)).trans (h.2.2.2.2.2.2.2.2.2.2.2.2.2.2.2.2.2 k hk).1, (hx.ar (h.2.2.2.2.2.2.2.2.2.2.2.2.2.1) (by decide)).trans (h.2.2.2.2.2.2.2.2.2.2.2.2.2.2.2.2.2 k hk).2.1, (hx.ar (h.2.2.2.2.2.2.2.2.2.2.2.2.2.2.2.1) (by decide)).trans (h.2.2.2.2.2.2.2.2.2.2.2.2.2.2.2.2.2 k hk).2.2.1, hx.k (h.2.2.2.2.2.2.2.2.2.2.2.2.2.2.2.2.2 k hk).2.2.2.1 (by decide), (hx.n (h.2.2.2.2.2.2.2.2.2.2.2.2.2.2.2.2.2 k hk).2.2.2.1 (by decide)).trans (h.2.2.2.2.2.2.2.2.2.2.2.2.2.2.2.2.2 k hk).2.2.2.2.1, hx.k (h.2.2.2.2.2.2.2.2.2.2.2.2.2.2.2.2.2 k hk).2.2.2.2.2.1 (by decide), (hx.n (h.2.2.2.2.2.2.2.2.2.2.2.2.2.2.2.2.2 k hk).2.2.2.2.2.1 (by decide)).trans (h.2.2.2.2.2.2.2.2.2.2.2.2.2.2.2.2.2 k hk).2.2.2.2.2.2.1, hx.k (h.2.2.2.2.2.2.2.2.2.2.2.2.2.2.2.2.2 k hk).2.2.2.2.2.2.2.1 (by decide), (hx.n (h.2.2.2.2.2.2.2.2.2.2.2.2.2.2.2.2.2 k hk).2.2.2.2.2.2.2.1 (by decide)).trans (h.2.2.2.2.2.2.2.2.2.2.2.2.2.2.2.2.2 k hk).2.2.2.2.2.2.2.2⟩⟩
theorem COB_hx {Y : List Nat} (hx : HX [389] M M1) (h : COB M L) : COB M1 L := ⟨hx.k (h.1) (by decide), (hx.r (h.1) (by decide) (by decide)).trans h.2.1, (hx.r (h.1) (by decide) (by decide)).trans h.2.2.1, (hx.r (h.1) (by decide) (by decide)).trans h.2.2.2.1, (hx.r (h.1) (by decide) (by decide)).trans h.2.2.2.2.1, ⟨hx.k (h.2.2.2.2.2.1.1) (by decide), (hx.r (h.2.2.2.2.2.1.1) (by decide) (by decide)).trans h.2.2.2.2.2.1.2.1, hx.k (h.2.2.2.2.2.1.2.2.1) (by decide), (hx.n (h.2.2.2.2.2.1.2.2.1) (by decide)).trans h.2.2.2.2.2.1.2.2.2⟩, ⟨hx.k (h.2.2.2.2.2.2.1.1) (by decide), (hx.r (h.2.2.2.2.2.2.1.1) (by decide) (by decide)).trans h.2.2.2.2.2.2.1.2.1, hx.k (h.2.2.2.2.2.2.1.2.2.1) (by decide), (hx.n (h.2.2.2.2.2.2.1.2.2.1) (by decide)).trans h.2.2.2.2.2.2.1.2.2.2⟩, ⟨hx.k (h.2.2.2.2.2.2.2.1.1) (by decide), (hx.r (h.2.2.2.2.2.2.2.1.1) (by decide) (by decide)).trans h.2.2.2.2.2.2.2.1.2.1, (hx.i (h.2.2.2.2.2.2.2.1.1) (by decide) (by decide)).trans h.2.2.2.2.2.2.2.1.2.2.1, hx.k (h.2.2.2.2.2.2.2.1.2.2.2.1) (by decide), (hx.n (h.2.2.2.2.2.2.2.1.2.2.2.1) (by decide)).trans h.2.2.2.2.2.2.2.1.2.2.2.2⟩, ⟨hx.k (h.2.2.2.2.2.2.2.2.1.1) (by decide), (hx.r (h.2.2.2.2.2.2.2.2.1.1) (by decide) (by decide)).trans h.2.2.2.2.2.2.2.2.1.2.1, (hx.i (h.2.2.2.2.2.2.2.2.1.1) (by decide) (by decide)).trans h.2.2.2.2.2.2.2.2.1.2.2.1, hx.k (h.2.2.2.2.2.2.2.2.1.2.2.2.1) (by decide), (hx.n (h.2.2.2.2.2.2.2.2.1.2.2.2.1) (by decide)).trans h.2.2.2.2.2.2.2.2.1.2.2.2.2⟩, h.2.2.2.2.2.2.2.2.2.1, h.2.2.2.2.2.2.2.2.2.2.1, h.2.2.2.2.2.2.2.2.2.2.2.1, h.2.2.2.2.2.2.2.2.2.2.2.2⟩
theorem CGR_hx {n : Nat} (hx : HX [389] M M1) (h : CGR M L n) : CGR M1 L n := ⟨hx.k (h.1) (by decide), (hx.r (h.1) (by decide) (by decide)).trans h.2.1, (hx.r (h.1) (by decide) (by decide)).trans h.2.2.1, (hx.r (h.1) (by decide) (by decide)).trans h.2.2.2.1, (hx.r (h.1) (by decide) (by decide)).trans h.2.2.2.2.1, (hx.r (h.1) (by decide) (by decide)).trans h.2.2.2.2.2.1, (hx.i (h.1) (by decide) (by decide)).trans h.2.2.2.2.2.2.1, ⟨hx.k (h.2.2.2.2.2.2.2.1.1) (by decide), (hx.n (h.2.2.2.2.2.2.2.1.1) (by decide)).trans h.2.2.2.2.2.2.2.1.2⟩, ⟨hx.k (h.2.2.2.2.2.2.2.2.1.1) (by decide), (hx.n (h.2.2.2.2.2.2.2.2.1.1) (by decide)).trans h.2.2.2.2.2.2.2.2.1.2⟩, ⟨hx.k (h.2.2.2.2.2.2.2.2.2.1) (by decide), (hx.r (h.2.2.2.2.2.2.2.2.2.1) (by decide) (by decide)).trans h.2.2.2.2.2.2.2.2.2.2.1, (hx.r (h.2.2.2.2.2.2.2.2.2.1) (by decide) (by decide)).trans h.2.2.2.2.2.2.2.2.2.2.2.1, (hx.r (h.2.2.2.2.2.2.2.2.2.1) (by decide) (by decide)).trans h.2.2.2.2.2.2.2.2.2.2.2.2.1, hx.k (h.2.2.2.2.2.2.2.2.2.2.2.2.2.1) (by decide), (hx.n (h.2.2.2.2.2.2.2.2.2.2.2.2.2.1) (by decide)).trans h.2.2.2.2.2.2.2.2.2.2.2.2.2.2.1, hx.k (h.2.2.2.2.2.2.2.2.2.2.2.2.2.2.2.1) (by decide), (hx.n (h.2.2.2.2.2.2.2.2.2.2.2.2.2.2.2.1) (by decide)).trans h.2.2.2.2.2.2.2.2.2.2.2.2.2.2.2.2.1, hx.k (h.2.2.2.2.2.2.2.2.2.2.2.2.2.2.2.2.2.1) (by decide), (hx.n (h.2.2.2.2.2.2.2.2.2.2.2.2.2.2.2.2.2.1) (by decide)).trans h.2.2.2.2.2.2.2.2.2.2.2.2.2.2.2.2.2.2⟩⟩
theorem CDT_hx (hx : HX [389] M M1) (hS : CSH M L C) (h : CDT M L C D) : CDT M1 L C D := by
  obtain ⟨d1, d2, d3, d4, d5, d6, d7, d8, d9, d10, d11, d12⟩ := h
  have kS := fun s (hs : s < cn C) => (hS.2.2.2.1 s hs).2.1
  have kG := hS.2.2.1.1
  have kO := hS.1.2.2.2.2.2.2.2.1.1
  have kL := hS.1.2.2.2.2.2.2.2.2.1.1
  refine ⟨fun s hs => (hx.j (kS s hs) (by decide) (by decide)).trans (d1 s hs), fun s hs => (hx.i (kS s hs) (by decide) (by decide)).trans (d2 s hs), fun s k hs h0 hk => ⟨hx.k (d3 s k hs h0 hk).1 (by decide), (hx.ai (d3 s k hs h0 hk).1 (by decide)).trans (d3 s k hs h0 hk).2⟩, fun s k hs h0 hk => ⟨hx.k (d4 s k hs h0 hk).1 (by decide), (hx.aj (d4 s k hs h0 hk).1 (by decide)).trans (d4 s k hs h0 hk).2⟩, fun s k hs h0 hk => ⟨hx.k (d5 s k hs h0 hk).1 (by decide), (hx.ai (d5 s k hs h0 hk).1 (by decide)).trans (d5 s k hs h0 hk).2⟩, (hx.i kG (by decide) (by decide)).trans d6, ⟨hx.k d7.1 (by decide), (hx.i kO (by decide) (by decide)).trans d7.2.1, fun i r hi hr => ?_⟩, ⟨hx.k d8.1 (by decide), (hx.i kL (by decide) (by decide)).trans d8.2.1, fun i r hi hr => ?_⟩, (hx.i kG (by decide) (by decide)).trans d9, fun s hs h5 => ?_, fun s k hs h4 hk => ?_, ?_⟩
  · have q := d7.2.2 i r hi hr
    exact ⟨(hx.aj d7.1 (by decide)).trans q.1, (hx.aj d7.1 (by decide)).trans q.2.1, (hx.aj d7.1 (by decide)).trans q.2.2.1, (hx.aj d7.1 (by decide)).trans q.2.2.2⟩
  · have q := d8.2.2 i r hi hr
    exact ⟨(hx.aj d8.1 (by decide)).trans q.1, (hx.aj d8.1 (by decide)).trans q.2.1, (hx.aj d8.1 (by decide)).trans q.2.2.1, (hx.aj d8.1 (by decide)).trans q.2.2.2⟩
  · obtain ⟨⟨k1, k2, k3⟩, q1, q2, q3⟩ := d10 s hs h5
    have kW := (hS.2.2.2.2.2.2.2.1 s hs h5).1
    refine ⟨⟨hx.k k1 (by decide), hx.k k2 (by decide), hx.k k3 (by decide)⟩, (hx.i kW (by decide) (by decide)).trans q1, q2, fun i e he => ?_⟩
    rw [← q3 i e he]
    unfold cw3
    rw [hx.aj k1 (by decide), hx.ai k2 (by decide), hx.ai k3 (by decide)]
  · obtain ⟨⟨k1, k2, k3, k4⟩, q1, q2, q3⟩ := d11 s k hs h4 hk
    refine ⟨⟨hx.k k1 (by decide), hx.k k2 (by decide), hx.k k3 (by decide), hx.k k4 (by decide)⟩, (hx.ai k1 (by decide)).trans q1, q2, fun i e he => ?_⟩
    rw [← q3 i e he]
    unfold ck3
    rw [hx.aj k2 (by decide), hx.ai k3 (by decide), hx.ai k4 (by decide)]
  · obtain ⟨⟨k1, k2, k3⟩, q1, q2, q3⟩ := d12
    have kT := hS.2.2.1.2.2.2.2.2.2.2.2.2.1
    refine ⟨⟨hx.k k1 (by decide), hx.k k2 (by decide), hx.k k3 (by decide)⟩, (hx.i kT (by decide) (by decide)).trans q1, q2, fun i x hi => ?_⟩
    have q := q3 i x hi
    exact ⟨(hx.ai k1 (by decide)).trans q.1, (hx.aj k2 (by decide)).trans q.2.1, (hx.ai k3 (by decide)).trans q.2.2⟩
theorem CSH_hx (hx : HX [] M M1) (h : CSH M L C) : CSH M1 L C := by
  have hx' : HX [389] M M1 := hx.mono (fun _ q => q) (by decide)
  obtain ⟨h1, h2, h3, h4, h5, h6, h7, h8, h9, h10⟩ := h
  have k02 := h3.2.2.2.2.2.2.2.1.1
  have k03 := h3.2.2.2.2.2.2.2.2.1.1
  refine ⟨COB_hx (Y := []) hx' h1, (hx.r h1.1 (by decide) (by decide)).trans h2, CGR_hx hx' h3, fun s hs => CST_of (CSTn_hx hx' k02 (CST_n (h4 s hs))) ((hx.r (h4 s hs).2.1 (by decide) (by decide)).trans (h4 s hs).2.2.2.2.2.2.2.2.1), fun s i hs hi => (hx.ar (h4 s hs).2.2.2.2.2.1 (by decide)).trans (h5 s i hs hi), fun s hs h0 => CSO_hx hx' (h6 s hs h0), fun s hs h0 => CJO_hx hx' (h7 s hs h0), fun s hs h0 => CWO_hx hx' (h8 s hs h0), h9, fun g hg => ⟨(hx.aj k03 (by decide)).trans (h10 g hg).1, (h10 g hg).2⟩⟩
theorem CR_hx {B : Mm} (hx : HX [] M M1) (h : CR B M L C D) : CR M1 M1 L C D := ⟨Off.refl, CSH_hx hx h.2.1, CDT_hx (hx.mono (fun _ q => q) (by decide)) h.2.1 h.2.2⟩
theorem NMC_hx (hx : HX [] M M1) (hk : ∀ s, s < cn C → mK M (L 1 s) = 7) (h : NMC M L C) : NMC M1 L C := fun s hs => ⟨(h s hs).1, (hx.j (hk s hs) (by decide) (by decide)).trans (h s hs).2⟩
end HXt
