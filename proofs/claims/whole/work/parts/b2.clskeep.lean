/-! what stays of the objects that were there: a text that is read makes new ones -/
def SX (X Y : List Nat) (M M1 : Mm) (a : Nat) : Prop := mK M1 a = mK M a ∧ (∀ f, ¬ f ∈ X → mI M1 f a = mI M f a ∧ mJ M1 f a = mJ M f a) ∧ (∀ f, ¬ f ∈ Y → mR M1 f a = mR M f a) ∧ aN M1 a = aN M a ∧ ∀ j, aI M1 a j = aI M a j ∧ aJ M1 a j = aJ M a j ∧ aR M1 a j = aR M a j
def GX (X Y : List Nat) (M M1 : Mm) : Prop := ∀ a, ¬ mK M a = 0 → SX X Y M M1 a
section GXs
variable {X Y : List Nat} {M M1 M2 : Mm}
theorem SX.refl {a : Nat} : SX X Y M M a := ⟨rfl, fun _ _ => ⟨rfl, rfl⟩, fun _ _ => rfl, rfl, fun _ => ⟨rfl, rfl, rfl⟩⟩
theorem SX.trans {a : Nat} (h : SX X Y M M1 a) (g : SX X Y M1 M2 a) : SX X Y M M2 a := ⟨g.1.trans h.1, fun f hf => ⟨(g.2.1 f hf).1.trans (h.2.1 f hf).1, (g.2.1 f hf).2.trans (h.2.1 f hf).2⟩, fun f hf => (g.2.2.1 f hf).trans (h.2.2.1 f hf), g.2.2.2.1.trans h.2.2.2.1, fun j => ⟨(g.2.2.2.2 j).1.trans (h.2.2.2.2 j).1, (g.2.2.2.2 j).2.1.trans (h.2.2.2.2 j).2.1, (g.2.2.2.2 j).2.2.trans (h.2.2.2.2 j).2.2⟩⟩
theorem GX.refl : GX X Y M M := fun _ _ => SX.refl
theorem GX.trans (h : GX X Y M M1) (g : GX X Y M1 M2) : GX X Y M M2 := fun a ha => (h a ha).trans (g a (by rw [(h a ha).1]; exact ha))
theorem GX.mono {X' Y' : List Nat} (h : GX X Y M M1) (hX : ∀ f ∈ X, f ∈ X') (hY : ∀ f ∈ Y, f ∈ Y') : GX X' Y' M M1 := fun a ha => ⟨(h a ha).1, fun f hf => (h a ha).2.1 f (fun q => hf (hX f q)), fun f hf => (h a ha).2.2.1 f (fun q => hf (hY f q)), (h a ha).2.2.2⟩
theorem GX.fr {Z : List Nat} (h : FR Z M M1) (hZ : ∀ f ∈ Z, f ∈ X) : GX X Y M M1 := fun a _ => ⟨by rw [h.1], fun f hf => h.2.2.2.2.2.2 f (fun q => hf (hZ f q)) a, fun f _ => by rw [h.2.1], by rw [h.2.2.1], fun j => ⟨by rw [h.2.2.2.1], by rw [h.2.2.2.2.1], by rw [h.2.2.2.2.2.1]⟩⟩
/-- writes at what is new -/
theorem GXsI {f a : Nat} {v : Int32} (h : GX X Y M M1) (ha : mK M a = 0 ∨ f ∈ X) : GX X Y M (sI M1 f a v) := fun b hb => by
  obtain ⟨h1, h2, h3, h4, h5⟩ := h b hb
  refine ⟨h1, fun g hg => ⟨?_, (h2 g hg).2⟩, h3, h4, h5⟩
  rcases ha with ha | ha
  · simpa [ms, show ¬ b = a from fun e => hb (e ▸ ha)] using (h2 g hg).1
  · simpa [ms, show ¬ g = f from fun e => hg (e ▸ ha)] using (h2 g hg).1
theorem GXsJ {f a : Nat} {v : Int64} (h : GX X Y M M1) (ha : mK M a = 0 ∨ f ∈ X) : GX X Y M (sJ M1 f a v) := fun b hb => by
  obtain ⟨h1, h2, h3, h4, h5⟩ := h b hb
  refine ⟨h1, fun g hg => ⟨(h2 g hg).1, ?_⟩, h3, h4, h5⟩
  rcases ha with ha | ha
  · simpa [ms, show ¬ b = a from fun e => hb (e ▸ ha)] using (h2 g hg).2
  · simpa [ms, show ¬ g = f from fun e => hg (e ▸ ha)] using (h2 g hg).2
theorem GXsR {f a : Nat} {v : Option Nat} (h : GX X Y M M1) (ha : mK M a = 0 ∨ f ∈ Y) : GX X Y M (sR M1 f a v) := fun b hb => by
  obtain ⟨h1, h2, h3, h4, h5⟩ := h b hb
  refine ⟨h1, h2, fun g hg => ?_, h4, h5⟩
  rcases ha with ha | ha
  · simpa [ms, show ¬ b = a from fun e => hb (e ▸ ha)] using h3 g hg
  · simpa [ms, show ¬ g = f from fun e => hg (e ▸ ha)] using h3 g hg
theorem GXtI {a j : Nat} {v : Int32} (h : GX X Y M M1) (ha : mK M a = 0) : GX X Y M (tI M1 a j v) := fun b hb => by
  obtain ⟨h1, h2, h3, h4, h5⟩ := h b hb
  exact ⟨h1, h2, h3, h4, fun i => ⟨by simpa [ms, show ¬ b = a from fun e => hb (e ▸ ha)] using (h5 i).1, (h5 i).2⟩⟩
theorem GXtJ {a j : Nat} {v : Int64} (h : GX X Y M M1) (ha : mK M a = 0) : GX X Y M (tJ M1 a j v) := fun b hb => by
  obtain ⟨h1, h2, h3, h4, h5⟩ := h b hb
  exact ⟨h1, h2, h3, h4, fun i => ⟨(h5 i).1, by simpa [ms, show ¬ b = a from fun e => hb (e ▸ ha)] using (h5 i).2.1, (h5 i).2.2⟩⟩
theorem GXtR {a j : Nat} {v : Option Nat} (h : GX X Y M M1) (ha : mK M a = 0) : GX X Y M (tR M1 a j v) := fun b hb => by
  obtain ⟨h1, h2, h3, h4, h5⟩ := h b hb
  exact ⟨h1, h2, h3, h4, fun i => ⟨(h5 i).1, (h5 i).2.1, by simpa [ms, show ¬ b = a from fun e => hb (e ▸ ha)] using (h5 i).2.2⟩⟩
theorem GXnw {q k : Nat} (h : GX X Y M M1) (hq : mK M1 q = 0) : GX X Y M (nw M1 q k) := fun b hb => by
  obtain ⟨h1, h2, h3, h4, h5⟩ := h b hb
  have ne : ¬ b = q := fun e => hb (by rw [← h1, e]; exact hq)
  refine ⟨by simpa [ms, ne] using h1, fun g hg => ⟨by simpa [ms, ne] using (h2 g hg).1, by simpa [ms, ne] using (h2 g hg).2⟩, fun g hg => by simpa [ms, ne] using h3 g hg, by simpa [ms, ne] using h4, fun i => ⟨by simpa [ms, ne] using (h5 i).1, by simpa [ms, ne] using (h5 i).2.1, by simpa [ms, ne] using (h5 i).2.2⟩⟩
theorem GXna {q k n : Nat} (h : GX X Y M M1) (hq : mK M1 q = 0) : GX X Y M (na M1 q k n) := fun b hb => by
  obtain ⟨h1, h2, h3, h4, h5⟩ := h b hb
  have ne : ¬ b = q := fun e => hb (by rw [← h1, e]; exact hq)
  refine ⟨by simpa [ms, ne] using h1, fun g hg => ⟨by simpa [ms, ne] using (h2 g hg).1, by simpa [ms, ne] using (h2 g hg).2⟩, fun g hg => by simpa [ms, ne] using h3 g hg, by simpa [ms, ne] using h4, fun i => ⟨by simpa [ms, ne] using (h5 i).1, by simpa [ms, ne] using (h5 i).2.1, by simpa [ms, ne] using (h5 i).2.2⟩⟩
theorem GX.k {a k : Nat} (h : GX X Y M M1) (hk : mK M a = k) (h0 : ¬ k = 0) : mK M1 a = k := (h a (by rw [hk]; exact h0)).1.trans hk
theorem GX.i {a k f : Nat} (h : GX X Y M M1) (hk : mK M a = k) (h0 : ¬ k = 0) (hf : ¬ f ∈ X) : mI M1 f a = mI M f a := ((h a (by rw [hk]; exact h0)).2.1 f hf).1
theorem GX.j {a k f : Nat} (h : GX X Y M M1) (hk : mK M a = k) (h0 : ¬ k = 0) (hf : ¬ f ∈ X) : mJ M1 f a = mJ M f a := ((h a (by rw [hk]; exact h0)).2.1 f hf).2
theorem GX.r {a k f : Nat} (h : GX X Y M M1) (hk : mK M a = k) (h0 : ¬ k = 0) (hf : ¬ f ∈ Y) : mR M1 f a = mR M f a := (h a (by rw [hk]; exact h0)).2.2.1 f hf
theorem GX.n {a k : Nat} (h : GX X Y M M1) (hk : mK M a = k) (h0 : ¬ k = 0) : aN M1 a = aN M a := (h a (by rw [hk]; exact h0)).2.2.2.1
theorem GX.ai {a k j : Nat} (h : GX X Y M M1) (hk : mK M a = k) (h0 : ¬ k = 0) : aI M1 a j = aI M a j := ((h a (by rw [hk]; exact h0)).2.2.2.2 j).1
theorem GX.aj {a k j : Nat} (h : GX X Y M M1) (hk : mK M a = k) (h0 : ¬ k = 0) : aJ M1 a j = aJ M a j := ((h a (by rw [hk]; exact h0)).2.2.2.2 j).2.1
theorem GX.ar {a k j : Nat} (h : GX X Y M M1) (hk : mK M a = k) (h0 : ¬ k = 0) : aR M1 a j = aR M a j := ((h a (by rw [hk]; exact h0)).2.2.2.2 j).2.2
end GXs
def gX : List Nat := [257, 258, 259, 260, 450, 451, 452, 453, 454]
/-- a stream as it was told, but for who takes it -/
def CSTn (M : Mm) (L : Nat → Nat → Nat) (C : Cfg) (s : Nat) : Prop := aR M (L 0 2) s = some (L 1 s) ∧ mK M (L 1 s) = 7 ∧ mI M 384 (L 1 s) = nI s ∧ mJ M 386 (L 1 s) = kw (ckd C s) ∧ mR M 387 (L 1 s) = some (L 2 s) ∧ mK M (L 2 s) = 68 ∧ aN M (L 2 s) = 4 ∧ mI M 388 (L 1 s) = nI (cin C s).length ∧ mJ M 392 (L 1 s) = (if ckd C s = 2 then co1 C s else 0) ∧ mR M 393 (L 1 s) = (if ckd C s = 0 then some (L 3 s) else none) ∧ mR M 394 (L 1 s) = (if ckd C s = 4 then some (L 8 s) else none) ∧ mR M 395 (L 1 s) = (if ckd C s = 5 then some (L 16 s) else none)
theorem CST_n {M : Mm} {L : Nat → Nat → Nat} {C : Cfg} {s : Nat} (h : CST M L C s) : CSTn M L C s := ⟨h.1, h.2.1, h.2.2.1, h.2.2.2.1, h.2.2.2.2.1, h.2.2.2.2.2.1, h.2.2.2.2.2.2.1, h.2.2.2.2.2.2.2.1, h.2.2.2.2.2.2.2.2.2.1, h.2.2.2.2.2.2.2.2.2.2.1, h.2.2.2.2.2.2.2.2.2.2.2.1, h.2.2.2.2.2.2.2.2.2.2.2.2⟩
theorem CST_of {M : Mm} {L : Nat → Nat → Nat} {C : Cfg} {s : Nat} (h : CSTn M L C s) (ht : mR M 389 (L 1 s) = (ctk C s).map (L 1)) : CST M L C s := ⟨h.1, h.2.1, h.2.2.1, h.2.2.2.1, h.2.2.2.2.1, h.2.2.2.2.2.1, h.2.2.2.2.2.2.1, h.2.2.2.2.2.2.2.1, ht, h.2.2.2.2.2.2.2.2.1, h.2.2.2.2.2.2.2.2.2.1, h.2.2.2.2.2.2.2.2.2.2.1, h.2.2.2.2.2.2.2.2.2.2.2⟩
section GXt
variable {M M1 : Mm} {L : Nat → Nat → Nat} {C : Cfg} {D : Dyn} {s : Nat}
theorem CSTn_gx (hx : GX gX [389] M M1) (h2 : mK M (L 0 2) = 412) (h : CSTn M L C s) : CSTn M1 L C s := ⟨(hx.ar (h2) (by decide)).trans h.1, hx.k (h.2.1) (by decide), (hx.i (h.2.1) (by decide) (by decide)).trans h.2.2.1, (hx.j (h.2.1) (by decide) (by decide)).trans h.2.2.2.1, (hx.r (h.2.1) (by decide) (by decide)).trans h.2.2.2.2.1, hx.k (h.2.2.2.2.2.1) (by decide), (hx.n (h.2.2.2.2.2.1) (by decide)).trans h.2.2.2.2.2.2.1, (hx.i (h.2.1) (by decide) (by decide)).trans h.2.2.2.2.2.2.2.1, (hx.j (h.2.1) (by decide) (by decide)).trans h.2.2.2.2.2.2.2.2.1, (hx.r (h.2.1) (by decide) (by decide)).trans h.2.2.2.2.2.2.2.2.2.1, (hx.r (h.2.1) (by decide) (by decide)).trans h.2.2.2.2.2.2.2.2.2.2.1, (hx.r (h.2.1) (by decide) (by decide)).trans h.2.2.2.2.2.2.2.2.2.2.2⟩
theorem CSO_gx (hx : GX gX [389] M M1) (h : CSO M L C s) : CSO M1 L C s := ⟨hx.k (h.1) (by decide), (hx.i (h.1) (by decide) (by decide)).trans h.2.1, (hx.j (h.1) (by decide) (by decide)).trans h.2.2.1, (hx.i (h.1) (by decide) (by decide)).trans h.2.2.2.1, (hx.i (h.1) (by decide) (by decide)).trans h.2.2.2.2.1, (hx.r (h.1) (by decide) (by decide)).trans h.2.2.2.2.2.1, (hx.r (h.1) (by decide) (by decide)).trans h.2.2.2.2.2.2.1, (hx.r (h.1) (by decide) (by decide)).trans h.2.2.2.2.2.2.2.1, (hx.r (h.1) (by decide) (by decide)).trans h.2.2.2.2.2.2.2.2.1, hx.k (h.2.2.2.2.2.2.2.2.2.1) (by decide), (hx.n (h.2.2.2.2.2.2.2.2.2.1) (by decide)).trans h.2.2.2.2.2.2.2.2.2.2.1, hx.k (h.2.2.2.2.2.2.2.2.2.2.2.1) (by decide), (hx.n (h.2.2.2.2.2.2.2.2.2.2.2.1) (by decide)).trans h.2.2.2.2.2.2.2.2.2.2.2.2.1, hx.k (h.2.2.2.2.2.2.2.2.2.2.2.2.2.1) (by decide), (hx.n (h.2.2.2.2.2.2.2.2.2.2.2.2.2.1) (by decide)).trans h.2.2.2.2.2.2.2.2.2.2.2.2.2.2.1, hx.k (h.2.2.2.2.2.2.2.2.2.2.2.2.2.2.2.1) (by decide), (hx.n (h.2.2.2.2.2.2.2.2.2.2.2.2.2.2.2.1) (by decide)).trans h.2.2.2.2.2.2.2.2.2.2.2.2.2.2.2.2⟩
theorem CWO_gx (hx : GX gX [389] M M1) (h : CWO M L C s) : CWO M1 L C s := ⟨hx.k (h.1) (by decide), (hx.j (h.1) (by decide) (by decide)).trans h.2.1, (hx.j (h.1) (by decide) (by decide)).trans h.2.2.1, (hx.r (h.1) (by decide) (by decide)).trans h.2.2.2.1, (hx.r (h.1) (by decide) (by decide)).trans h.2.2.2.2.1, (hx.r (h.1) (by decide) (by decide)).trans h.2.2.2.2.2.1, hx.k (h.2.2.2.2.2.2.1) (by decide), (hx.n (h.2.2.2.2.2.2.1) (by decide)).trans h.2.2.2.2.2.2.2.1, hx.k (h.2.2.2.2.2.2.2.2.1) (by decide), (hx.n (h.2.2.2.2.2.2.2.2.1) (by decide)).trans h.2.2.2.2.2.2.2.2.2.1, hx.k (h.2.2.2.2.2.2.2.2.2.2.1) (by decide), (hx.n (h.2.2.2.2.2.2.2.2.2.2.1) (by decide)).trans h.2.2.2.2.2.2.2.2.2.2.2⟩
theorem CJO_gx (hx : GX gX [389] M M1) (h : CJO M L C s) : CJO M1 L C s := ⟨hx.k (h.1) (by decide), (hx.r (h.1) (by decide) (by decide)).trans h.2.1, (hx.r (h.1) (by decide) (by decide)).trans h.2.2.1, (hx.j (h.1) (by decide) (by decide)).trans h.2.2.2.1, (hx.j (h.1) (by decide) (by decide)).trans h.2.2.2.2.1, (hx.r (h.1) (by decide) (by decide)).trans h.2.2.2.2.2.1, (hx.r (h.1) (by decide) (by decide)).trans h.2.2.2.2.2.2.1, (hx.r (h.1) (by decide) (by decide)).trans h.2.2.2.2.2.2.2.1, (hx.r (h.1) (by decide) (by decide)).trans h.2.2.2.2.2.2.2.2.1, hx.k (h.2.2.2.2.2.2.2.2.2.1) (by decide), (hx.n (h.2.2.2.2.2.2.2.2.2.1) (by decide)).trans h.2.2.2.2.2.2.2.2.2.2.1, hx.k (h.2.2.2.2.2.2.2.2.2.2.2.1) (by decide), (hx.n (h.2.2.2.2.2.2.2.2.2.2.2.1) (by decide)).trans h.2.2.2.2.2.2.2.2.2.2.2.2.1, hx.k (h.2.2.2.2.2.2.2.2.2.2.2.2.2.1) (by decide), (hx.n (h.2.2.2.2.2.2.2.2.2.2.2.2.2.1) (by decide)).trans h.2.2.2.2.2.2.2.2.2.2.2.2.2.2.1, hx.k (h.2.2.2.2.2.2.2.2.2.2.2.2.2.2.2.1) (by decide), (hx.n (h.2.2.2.2.2.2.2.2.2.2.2.2.2.2.2.1) (by decide)).trans h.2.2.2.2.2.2.2.2.2.2.2.2.2.2.2.2.1, fun k hk => ⟨(hx.ar (h.2.2.2.2.2.2.2.2.2.2.2.1) (by decide)).trans (h.2.2.2.2.2.2.2.2.2.2.2.2.2.2.2.2.2 k hk).1, (hx.ar (h.2.2.2.2.2.2.2.2.2.2.2.2.2.1) (by decide)).trans (h.2.2.2.2.2.2.2.2.2.2.2.2.2.2.2.2.2 k hk).2.1, (hx.ar (h.2.2.2.2.2.2.2.2.2.2.2.2.2.2.2.1) (by decide)).trans (h.2.2.2.2.2.2.2.2.2.2.2.2.2.2.2.2.2 k hk).2.2.1, hx.k (h.2.2.2.2.2.2.2.2.2.2.2.2.2.2.2.2.2 k hk).2.2.2.1 (by decide), (hx.n (h.2.2.2.2.2.2.2.2.2.2.2.2.2.2.2.2.2 k hk).2.2.2.1 (by decide)).trans (h.2.2.2.2.2.2.2.2.2.2.2.2.2.2.2.2.2 k hk).2.2.2.2.1, hx.k (h.2.2.2.2.2.2.2.2.2.2.2.2.2.2.2.2.2 k hk).2.2.2.2.2.1 (by decide), (hx.n (h.2.2.2.2.2.2.2.2.2.2.2.2.2.2.2.2.2 k hk).2.2.2.2.2.1 (by decide)).trans (h.2.2.2.2.2.2.2.2.2.2.2.2.2.2.2.2.2 k hk).2.2.2.2.2.2.1, hx.k (h.2.2.2.2.2.2.2.2.2.2.2.2.2.2.2.2.2 k hk).2.2.2.2.2.2.2.1 (by decide), (hx.n (h.2.2.2.2.2.2.2.2.2.2.2.2.2.2.2.2.2 k hk).2.2.2.2.2.2.2.1 (by decide)).trans (h.2.2.2.2.2.2.2.2.2.2.2.2.2.2.2.2.2 k hk).2.2.2.2.2.2.2.2⟩⟩
theorem COB_gx {Y : List Nat} (hx : GX gX [389] M M1) (h : COB M L) : COB M1 L := ⟨hx.k (h.1) (by decide), (hx.r (h.1) (by decide) (by decide)).trans h.2.1, (hx.r (h.1) (by decide) (by decide)).trans h.2.2.1, (hx.r (h.1) (by decide) (by decide)).trans h.2.2.2.1, (hx.r (h.1) (by decide) (by decide)).trans h.2.2.2.2.1, ⟨hx.k (h.2.2.2.2.2.1.1) (by decide), (hx.r (h.2.2.2.2.2.1.1) (by decide) (by decide)).trans h.2.2.2.2.2.1.2.1, hx.k (h.2.2.2.2.2.1.2.2.1) (by decide), (hx.n (h.2.2.2.2.2.1.2.2.1) (by decide)).trans h.2.2.2.2.2.1.2.2.2⟩, ⟨hx.k (h.2.2.2.2.2.2.1.1) (by decide), (hx.r (h.2.2.2.2.2.2.1.1) (by decide) (by decide)).trans h.2.2.2.2.2.2.1.2.1, hx.k (h.2.2.2.2.2.2.1.2.2.1) (by decide), (hx.n (h.2.2.2.2.2.2.1.2.2.1) (by decide)).trans h.2.2.2.2.2.2.1.2.2.2⟩, ⟨hx.k (h.2.2.2.2.2.2.2.1.1) (by decide), (hx.r (h.2.2.2.2.2.2.2.1.1) (by decide) (by decide)).trans h.2.2.2.2.2.2.2.1.2.1, (hx.i (h.2.2.2.2.2.2.2.1.1) (by decide) (by decide)).trans h.2.2.2.2.2.2.2.1.2.2.1, hx.k (h.2.2.2.2.2.2.2.1.2.2.2.1) (by decide), (hx.n (h.2.2.2.2.2.2.2.1.2.2.2.1) (by decide)).trans h.2.2.2.2.2.2.2.1.2.2.2.2⟩, ⟨hx.k (h.2.2.2.2.2.2.2.2.1.1) (by decide), (hx.r (h.2.2.2.2.2.2.2.2.1.1) (by decide) (by decide)).trans h.2.2.2.2.2.2.2.2.1.2.1, (hx.i (h.2.2.2.2.2.2.2.2.1.1) (by decide) (by decide)).trans h.2.2.2.2.2.2.2.2.1.2.2.1, hx.k (h.2.2.2.2.2.2.2.2.1.2.2.2.1) (by decide), (hx.n (h.2.2.2.2.2.2.2.2.1.2.2.2.1) (by decide)).trans h.2.2.2.2.2.2.2.2.1.2.2.2.2⟩, h.2.2.2.2.2.2.2.2.2.1, h.2.2.2.2.2.2.2.2.2.2.1, h.2.2.2.2.2.2.2.2.2.2.2.1, h.2.2.2.2.2.2.2.2.2.2.2.2⟩
theorem CGR_gx {n : Nat} (hx : GX gX [389] M M1) (h : CGR M L n) : CGR M1 L n := ⟨hx.k (h.1) (by decide), (hx.r (h.1) (by decide) (by decide)).trans h.2.1, (hx.r (h.1) (by decide) (by decide)).trans h.2.2.1, (hx.r (h.1) (by decide) (by decide)).trans h.2.2.2.1, (hx.r (h.1) (by decide) (by decide)).trans h.2.2.2.2.1, (hx.r (h.1) (by decide) (by decide)).trans h.2.2.2.2.2.1, (hx.i (h.1) (by decide) (by decide)).trans h.2.2.2.2.2.2.1, ⟨hx.k (h.2.2.2.2.2.2.2.1.1) (by decide), (hx.n (h.2.2.2.2.2.2.2.1.1) (by decide)).trans h.2.2.2.2.2.2.2.1.2⟩, ⟨hx.k (h.2.2.2.2.2.2.2.2.1.1) (by decide), (hx.n (h.2.2.2.2.2.2.2.2.1.1) (by decide)).trans h.2.2.2.2.2.2.2.2.1.2⟩, ⟨hx.k (h.2.2.2.2.2.2.2.2.2.1) (by decide), (hx.r (h.2.2.2.2.2.2.2.2.2.1) (by decide) (by decide)).trans h.2.2.2.2.2.2.2.2.2.2.1, (hx.r (h.2.2.2.2.2.2.2.2.2.1) (by decide) (by decide)).trans h.2.2.2.2.2.2.2.2.2.2.2.1, (hx.r (h.2.2.2.2.2.2.2.2.2.1) (by decide) (by decide)).trans h.2.2.2.2.2.2.2.2.2.2.2.2.1, hx.k (h.2.2.2.2.2.2.2.2.2.2.2.2.2.1) (by decide), (hx.n (h.2.2.2.2.2.2.2.2.2.2.2.2.2.1) (by decide)).trans h.2.2.2.2.2.2.2.2.2.2.2.2.2.2.1, hx.k (h.2.2.2.2.2.2.2.2.2.2.2.2.2.2.2.1) (by decide), (hx.n (h.2.2.2.2.2.2.2.2.2.2.2.2.2.2.2.1) (by decide)).trans h.2.2.2.2.2.2.2.2.2.2.2.2.2.2.2.2.1, hx.k (h.2.2.2.2.2.2.2.2.2.2.2.2.2.2.2.2.2.1) (by decide), (hx.n (h.2.2.2.2.2.2.2.2.2.2.2.2.2.2.2.2.2.1) (by decide)).trans h.2.2.2.2.2.2.2.2.2.2.2.2.2.2.2.2.2.2⟩⟩
theorem CDT_gx (hx : GX gX [389] M M1) (hS : CSH M L C) (h : CDT M L C D) : CDT M1 L C D := by
  obtain ⟨d1, d2, d3, d4, d5, d6, d7, d8, d9, d10, d11, d12⟩ := h
  have kS := fun s (hs : s < cn C) => (hS.2.2.2.1 s hs).2.1
  have kG := hS.2.2.1.1
  have kO := hS.1.2.2.2.2.2.2.2.1.1
  have kL := hS.1.2.2.2.2.2.2.2.2.1.1
  refine ⟨fun s hs => (hx.j (kS s hs) (by decide) (by decide)).trans (d1 s hs), fun s hs => (hx.i (kS s hs) (by decide) (by decide)).trans (d2 s hs), fun s k hs h0 hk => ⟨hx.k (d3 s k hs h0 hk).1 (by decide), (hx.ai (d3 s k hs h0 hk).1 (by decide)).trans (d3 s k hs h0 hk).2⟩, fun s k hs h0 hk => ⟨hx.k (d4 s k hs h0 hk).1 (by decide), (hx.aj (d4 s k hs h0 hk).1 (by decide)).trans (d4 s k hs h0 hk).2⟩, fun s k hs h0 hk => ⟨hx.k (d5 s k hs h0 hk).1 (by decide), (hx.ai (d5 s k hs h0 hk).1 (by decide)).trans (d5 s k hs h0 hk).2⟩, (hx.i kG (by decide) (by decide)).trans d6, ⟨hx.k d7.1 (by decide), (hx.i kO (by decide) (by decide)).trans d7.2.1, fun i r hi hr => ?_⟩, ⟨hx.k d8.1 (by decide), (hx.i kL (by decide) (by decide)).trans d8.2.1, fun i r hi hr => ?_⟩, (hx.i kG (by decide) (by decide)).trans d9, fun s hs h5 => ?_, fun s k hs h4 hk => ?_, ?_⟩
  · have q := d7.2.2 i r hi hr
    exact ⟨(hx.aj d7.1 (by decide)).trans q.1, (hx.aj d7.1 (by decide)).trans q.2.1, (hx.aj d7.1 (by decide)).trans q.2.2.1, (hx.aj d7.1 (by decide)).trans q.2.2.2⟩
  · have q := d8.2.2 i r hi hr
    exact ⟨(hx.aj d8.1 (by decide)).trans q.1, (hx.aj d8.1 (by decide)).trans q.2.1, (hx.aj d8.1 (by decide)).trans q.2.2.1, (hx.aj d8.1 (by decide)).trans q.2.2.2⟩
  · obtain ⟨⟨k1, k2, k3⟩, q1, q2, q3⟩ := d10 s hs h5
    have kW := (hS.2.2.2.2.2.2.2.1 s hs h5).1
    refine ⟨⟨hx.k k1 (by decide), hx.k k2 (by decide), hx.k k3 (by decide)⟩, (hx.i kW (by decide) (by decide)).trans q1, q2, fun i e he => ?_⟩
    rw [← q3 i e he]
    unfold cw3
    rw [hx.aj k1 (by decide), hx.ai k2 (by decide), hx.ai k3 (by decide)]
  · obtain ⟨⟨k1, k2, k3, k4⟩, q1, q2, q3⟩ := d11 s k hs h4 hk
    refine ⟨⟨hx.k k1 (by decide), hx.k k2 (by decide), hx.k k3 (by decide), hx.k k4 (by decide)⟩, (hx.ai k1 (by decide)).trans q1, q2, fun i e he => ?_⟩
    rw [← q3 i e he]
    unfold ck3
    rw [hx.aj k2 (by decide), hx.ai k3 (by decide), hx.ai k4 (by decide)]
  · obtain ⟨⟨k1, k2, k3⟩, q1, q2, q3⟩ := d12
    have kT := hS.2.2.1.2.2.2.2.2.2.2.2.2.1
    refine ⟨⟨hx.k k1 (by decide), hx.k k2 (by decide), hx.k k3 (by decide)⟩, (hx.i kT (by decide) (by decide)).trans q1, q2, fun i x hi => ?_⟩
    have q := q3 i x hi
    exact ⟨(hx.ai k1 (by decide)).trans q.1, (hx.aj k2 (by decide)).trans q.2.1, (hx.ai k3 (by decide)).trans q.2.2⟩
theorem CSH_gx (hx : GX gX [] M M1) (h : CSH M L C) : CSH M1 L C := by
  have hx' : GX gX [389] M M1 := hx.mono (fun _ q => q) (by decide)
  obtain ⟨h1, h2, h3, h4, h5, h6, h7, h8, h9, h10⟩ := h
  have k02 := h3.2.2.2.2.2.2.2.1.1
  have k03 := h3.2.2.2.2.2.2.2.2.1.1
  refine ⟨COB_gx (Y := []) hx' h1, (hx.r h1.1 (by decide) (by decide)).trans h2, CGR_gx hx' h3, fun s hs => CST_of (CSTn_gx hx' k02 (CST_n (h4 s hs))) ((hx.r (h4 s hs).2.1 (by decide) (by decide)).trans (h4 s hs).2.2.2.2.2.2.2.2.1), fun s i hs hi => (hx.ar (h4 s hs).2.2.2.2.2.1 (by decide)).trans (h5 s i hs hi), fun s hs h0 => CSO_gx hx' (h6 s hs h0), fun s hs h0 => CJO_gx hx' (h7 s hs h0), fun s hs h0 => CWO_gx hx' (h8 s hs h0), h9, fun g hg => ⟨(hx.aj k03 (by decide)).trans (h10 g hg).1, (h10 g hg).2⟩⟩
theorem CR_gx {B : Mm} (hx : GX gX [] M M1) (h : CR B M L C D) : CR M1 M1 L C D := ⟨Off.refl, CSH_gx hx h.2.1, CDT_gx (hx.mono (fun _ q => q) (by decide)) h.2.1 h.2.2⟩
/-- a stream as it stands in a graph that is being told -/
def PS (M : Mm) (L : Nat → Nat → Nat) (C : Cfg) (s : Nat) : Prop := CSTn M L C s ∧ mJ M 385 (L 1 s) = w8 (cnm C s) ∧ WW (cnm C s) ∧ (∀ i, i < (cin C s).length → aR M (L 2 s) i = some (L 1 (a_in C s i))) ∧ mJ M 390 (L 1 s) = -9000000000000000000 ∧ mI M 391 (L 1 s) = 0 ∧ (ckd C s = 0 → CSO M L C s ∧ ∀ k, k < 4 → aI M (L 4 s) k = 0 ∧ aJ M (L 5 s) k = -9000000000000000000 ∧ aI M (L 6 s) k = 0) ∧ (ckd C s = 4 → CJO M L C s ∧ ∀ k, k < 2 → aI M (L 9 s) k = 0) ∧ (ckd C s = 5 → CWO M L C s ∧ mI M 581 (L 16 s) = 0)
theorem PS.gx (hx : GX gX [389] M M1) (h2 : mK M (L 0 2) = 412) (h : PS M L C s) : PS M1 L C s := by
  obtain ⟨h1, h3, h4, h5, h6, h7, h8, h9, h10⟩ := h
  have k1 := h1.2.1
  have k2 := h1.2.2.2.2.2.1
  refine ⟨CSTn_gx hx h2 h1, (hx.j k1 (by decide) (by decide)).trans h3, h4, fun i hi => (hx.ar k2 (by decide)).trans (h5 i hi), (hx.j k1 (by decide) (by decide)).trans h6, (hx.i k1 (by decide) (by decide)).trans h7, fun z => ?_, fun z => ?_, fun z => ?_⟩
  · obtain ⟨a, b⟩ := h8 z
    exact ⟨CSO_gx hx a, fun k hk => ⟨(hx.ai a.2.2.2.2.2.2.2.2.2.1 (by decide)).trans (b k hk).1, (hx.aj a.2.2.2.2.2.2.2.2.2.2.2.1 (by decide)).trans (b k hk).2.1, (hx.ai a.2.2.2.2.2.2.2.2.2.2.2.2.2.1 (by decide)).trans (b k hk).2.2⟩⟩
  · obtain ⟨a, b⟩ := h9 z
    exact ⟨CJO_gx hx a, fun k hk => (hx.ai a.2.2.2.2.2.2.2.2.2.1 (by decide)).trans (b k hk)⟩
  · obtain ⟨a, b⟩ := h10 z
    exact ⟨CWO_gx hx a, (hx.i a.1 (by decide) (by decide)).trans b⟩
end GXt
