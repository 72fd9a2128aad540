/-! what a row that is passed on leaves as it was -/
def Up (s : Nat) (D D1 : Dyn) : Prop := dmk D1 = dmk D ∧ did D1 = did D ∧ dps D1 = dps D ∧ dpr D1 = dpr D ∧ dhr D1 = dhr D ∧ dnow D1 = dnow D ∧ dti D1 = dti D ∧ (∀ q, q ≤ s → dwi D1 q = dwi D q ∧ ∀ k, dke D1 q k = dke D q k) ∧ (dou D).length ≤ (dou D1).length ∧ (dla D).length ≤ (dla D1).length
theorem Up.refl {s : Nat} {D : Dyn} : Up s D D := ⟨rfl, rfl, rfl, rfl, rfl, rfl, rfl, fun _ _ => ⟨rfl, fun _ => rfl⟩, Nat.le_refl _, Nat.le_refl _⟩
theorem Up.trans {s : Nat} {D D1 D2 : Dyn} (h : Up s D D1) (g : Up s D1 D2) : Up s D D2 :=
  ⟨g.1.trans h.1, g.2.1.trans h.2.1, g.2.2.1.trans h.2.2.1, g.2.2.2.1.trans h.2.2.2.1, g.2.2.2.2.1.trans h.2.2.2.2.1, g.2.2.2.2.2.1.trans h.2.2.2.2.2.1, g.2.2.2.2.2.2.1.trans h.2.2.2.2.2.2.1, fun q hq => ⟨(g.2.2.2.2.2.2.2.1 q hq).1.trans (h.2.2.2.2.2.2.2.1 q hq).1, fun k => ((g.2.2.2.2.2.2.2.1 q hq).2 k).trans ((h.2.2.2.2.2.2.2.1 q hq).2 k)⟩, Nat.le_trans h.2.2.2.2.2.2.2.2.1 g.2.2.2.2.2.2.2.2.1, Nat.le_trans h.2.2.2.2.2.2.2.2.2 g.2.2.2.2.2.2.2.2.2⟩
theorem Up.le {s t : Nat} {D D1 : Dyn} (h : Up t D D1) (hs : s ≤ t) : Up s D D1 := ⟨h.1, h.2.1, h.2.2.1, h.2.2.2.1, h.2.2.2.2.1, h.2.2.2.2.2.1, h.2.2.2.2.2.2.1, fun q hq => h.2.2.2.2.2.2.2.1 q (Nat.le_trans hq hs), h.2.2.2.2.2.2.2.2⟩
theorem up_out {s : Nat} {D : Dyn} {r : Row} : Up s D (a_out D r) := by simp [Up, a_out, dg]
theorem up_late {s : Nat} {D : Dyn} {r : Row} : Up s D (a_late D r) := by simp [Up, a_late, dg]
theorem up_lo {s : Nat} {D : Dyn} {v : Int32} : Up s D (xlo D v) := by simp [Up, dg]
theorem up_wi {s q : Nat} {D : Dyn} {l : List Ent} (h : s < q) : Up s D (xwi D q l) := by
  refine ⟨rfl, rfl, rfl, rfl, rfl, rfl, rfl, fun r hr => ⟨?_, fun _ => rfl⟩, Nat.le_refl _, Nat.le_refl _⟩
  simp [dg, show r ≠ q by omega]
theorem up_ke {s q k : Nat} {D : Dyn} {l : List Ent} (h : s < q) : Up s D (xke D q k l) := by
  refine ⟨rfl, rfl, rfl, rfl, rfl, rfl, rfl, fun r hr => ⟨rfl, fun j => ?_⟩, Nat.le_refl _, Nat.le_refl _⟩
  simp [dg, show r ≠ q by omega]
theorem up_put1 {s q : Nat} {D : Dyn} {k w : Int32} {b : Int64} (h : s < q) : Up s D (a_put1 D q k w b) := by
  unfold a_put1
  cases a_add (dwi D q) b k w with
  | none => exact up_lo
  | some l => exact up_wi h
theorem up_fold {α : Type} {s : Nat} {f : Dyn → α → Dyn} (hf : ∀ D a, Up s D (f D a)) : ∀ (l : List α) (D : Dyn), Up s D (l.foldl f D)
  | [], D => Up.refl
  | a :: l, D => (hf D a).trans (up_fold hf l (f D a))
theorem up_put {C : Cfg} {s q : Nat} {D : Dyn} {t : Int64} {k w : Int32} (h : s < q) : Up s D (a_put C D q t k w) := up_fold (fun D b => up_put1 h) _ D
theorem up_keep {s q k : Nat} {D : Dyn} {e : Ent} (h : s < q) : Up s D (a_keep D q k e) := by
  unfold a_keep
  split
  · exact (up_ke h).trans up_lo
  · exact up_ke h
def WT (C : Cfg) : Prop := ∀ s t, ctk C s = some t → s < t ∧ t < cn C
theorem up_meetL {C : Cfg} {P : Dyn → Nat → Int64 → Int32 → Int32 → Dyn} {r to side : Nat} {t : Int64} {k w : Int32} (hP : ∀ D t k w, Up r D (P D to t k w)) (l : List Ent) (D : Dyn) : Up r D (a_meetL C P to side t k w l D) := by
  unfold a_meetL
  refine up_fold (fun D e => ?_) l D
  by_cases h : a_meets C to side t k e = true
  · rw [if_pos h]; exact hP D _ _ _
  · rw [if_neg h]; exact Up.refl
theorem up_come {C : Cfg} {P : Dyn → Nat → Int64 → Int32 → Int32 → Dyn} {r to side : Nat} {t : Int64} {k w : Int32} (hr : r < to) (hP : ∀ D t k w, Up r D (P D to t k w)) (D : Dyn) : Up r D (a_come C P D to side t k w) := by
  unfold a_come
  by_cases h : a_far C D to side t = true
  · rw [if_pos h]; exact up_meetL hP _ D
  · rw [if_neg h]; exact (up_meetL hP _ D).trans (up_keep hr)
theorem up_pass {C : Cfg} (hC : WT C) : ∀ (d : Nat) (D : Dyn) (s : Nat) (t : Int64) (k w : Int32), Up s D (a_pass C d D s t k w) := by
  intro d
  induction d with
  | zero => intro D s t k w; exact Up.refl
  | succ d ih =>
    intro D s t k w
    rw [a_pass]
    cases hto : ctk C s with
    | none => exact up_out
    | some to =>
      have hlt := (hC s to hto).1
      dsimp only
      split
      · exact up_late
      · split
        · exact up_come hlt (fun D t k w => (ih D to t k w).le (Nat.le_of_lt hlt)) D
        · split
          · exact up_put hlt
          · exact (ih D to _ k w).le (Nat.le_of_lt hlt)
