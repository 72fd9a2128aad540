/-! how the class's objects stand for what the text told and how far all is; L gives the addresses -/
def kw (k : Nat) : Int64 := if k = 0 then 126922548994917 else if k = 1 then 504363577198 else if k = 2 then 431198331257 else if k = 3 then 1752132708 else if k = 4 then 1785686382 else 131294707347319
/-- the streams as they were told -/
def CST (M : Mm) (L : Nat → Nat → Nat) (C : Cfg) (s : Nat) : Prop := aR M (L 0 2) s = some (L 1 s) ∧ mK M (L 1 s) = 7 ∧ mI M 384 (L 1 s) = nI s ∧ mJ M 386 (L 1 s) = kw (ckd C s) ∧ mR M 387 (L 1 s) = some (L 2 s) ∧ mK M (L 2 s) = 68 ∧ aN M (L 2 s) = 4 ∧ mI M 388 (L 1 s) = nI (cin C s).length ∧ mR M 389 (L 1 s) = (ctk C s).map (L 1) ∧ mJ M 392 (L 1 s) = (if ckd C s = 2 then co1 C s else 0) ∧ mR M 393 (L 1 s) = (if ckd C s = 0 then some (L 3 s) else none) ∧ mR M 394 (L 1 s) = (if ckd C s = 4 then some (L 8 s) else none) ∧ mR M 395 (L 1 s) = (if ckd C s = 5 then some (L 16 s) else none)
def CSO (M : Mm) (L : Nat → Nat → Nat) (C : Cfg) (s : Nat) : Prop := mK M (L 3 s) = 6 ∧ mI M 320 (L 3 s) = nI (cpt C s) ∧ mJ M 321 (L 3 s) = (if chl C s = true then co1 C s else -1) ∧ mI M 322 (L 3 s) = nI (caf C s) ∧ mI M 323 (L 3 s) = oI (cgr C s) ∧ mR M 324 (L 3 s) = some (L 4 s) ∧ mR M 325 (L 3 s) = some (L 5 s) ∧ mR M 326 (L 3 s) = some (L 6 s) ∧ mR M 327 (L 3 s) = some (L 7 s) ∧ mK M (L 4 s) = 33 ∧ aN M (L 4 s) = 4 ∧ mK M (L 5 s) = 42 ∧ aN M (L 5 s) = 4 ∧ mK M (L 6 s) = 49 ∧ aN M (L 6 s) = 4 ∧ mK M (L 7 s) = 59 ∧ aN M (L 7 s) = 4
def CJO (M : Mm) (L : Nat → Nat → Nat) (C : Cfg) (s : Nat) : Prop := mK M (L 8 s) = 3 ∧ mR M 128 (L 8 s) = some (L 1 (a_in C s 0)) ∧ mR M 129 (L 8 s) = some (L 1 (a_in C s 1)) ∧ mJ M 130 (L 8 s) = co1 C s ∧ mJ M 131 (L 8 s) = co2 C s ∧ mR M 132 (L 8 s) = some (L 9 s) ∧ mR M 133 (L 8 s) = some (L 10 s) ∧ mR M 134 (L 8 s) = some (L 11 s) ∧ mR M 135 (L 8 s) = some (L 12 s) ∧ mK M (L 9 s) = 433 ∧ aN M (L 9 s) = 2 ∧ mK M (L 10 s) = 446 ∧ aN M (L 10 s) = 2 ∧ mK M (L 11 s) = 461 ∧ aN M (L 11 s) = 2 ∧ mK M (L 12 s) = 477 ∧ aN M (L 12 s) = 2 ∧ ∀ k, k < 2 → aR M (L 10 s) k = some (L 13 (2 * s + k)) ∧ aR M (L 11 s) k = some (L 14 (2 * s + k)) ∧ aR M (L 12 s) k = some (L 15 (2 * s + k)) ∧ mK M (L 13 (2 * s + k)) = 450 ∧ aN M (L 13 (2 * s + k)) = 6 ∧ mK M (L 14 (2 * s + k)) = 465 ∧ aN M (L 14 (2 * s + k)) = 6 ∧ mK M (L 15 (2 * s + k)) = 481 ∧ aN M (L 15 (2 * s + k)) = 6
def CWO (M : Mm) (L : Nat → Nat → Nat) (C : Cfg) (s : Nat) : Prop := mK M (L 16 s) = 10 ∧ mJ M 576 (L 16 s) = co1 C s ∧ mJ M 577 (L 16 s) = co2 C s ∧ mR M 578 (L 16 s) = some (L 17 s) ∧ mR M 579 (L 16 s) = some (L 18 s) ∧ mR M 580 (L 16 s) = some (L 19 s) ∧ mK M (L 17 s) = 98 ∧ aN M (L 17 s) = 24 ∧ mK M (L 18 s) = 105 ∧ aN M (L 18 s) = 24 ∧ mK M (L 19 s) = 113 ∧ aN M (L 19 s) = 24
/-- the object itself, its rows, its tapes -/
def COB (M : Mm) (L : Nat → Nat → Nat) : Prop := mK M (L 0 0) = 11 ∧ mR M 640 (L 0 0) = some (L 0 8) ∧ mR M 641 (L 0 0) = some (L 0 10) ∧ mR M 642 (L 0 0) = some (L 0 12) ∧ mR M 643 (L 0 0) = some (L 0 14) ∧ (mK M (L 0 8) = 1 ∧ mR M 0 (L 0 8) = some (L 0 9) ∧ mK M (L 0 9) = 16 ∧ aN M (L 0 9) = 600) ∧ (mK M (L 0 10) = 1 ∧ mR M 0 (L 0 10) = some (L 0 11) ∧ mK M (L 0 11) = 16 ∧ aN M (L 0 11) = 800) ∧ (mK M (L 0 12) = 4 ∧ mR M 192 (L 0 12) = some (L 0 13) ∧ mI M 193 (L 0 12) = 300 ∧ mK M (L 0 13) = 26 ∧ aN M (L 0 13) = 1200) ∧ (mK M (L 0 14) = 4 ∧ mR M 192 (L 0 14) = some (L 0 15) ∧ mI M 193 (L 0 14) = 200 ∧ mK M (L 0 15) = 26 ∧ aN M (L 0 15) = 800) ∧ L 0 8 ≠ L 0 10 ∧ L 0 9 ≠ L 0 11 ∧ L 0 12 ≠ L 0 14 ∧ L 0 13 ≠ L 0 15
def CGR (M : Mm) (L : Nat → Nat → Nat) (n : Nat) : Prop := mK M (L 0 1) = 2 ∧ mR M 64 (L 0 1) = some (L 0 12) ∧ mR M 65 (L 0 1) = some (L 0 14) ∧ mR M 66 (L 0 1) = some (L 0 2) ∧ mR M 67 (L 0 1) = some (L 0 3) ∧ mR M 68 (L 0 1) = some (L 0 4) ∧ mI M 69 (L 0 1) = nI n ∧ (mK M (L 0 2) = 412 ∧ aN M (L 0 2) = 12) ∧ (mK M (L 0 3) = 418 ∧ aN M (L 0 3) = 4) ∧ (mK M (L 0 4) = 9 ∧ mR M 512 (L 0 4) = some (L 0 5) ∧ mR M 513 (L 0 4) = some (L 0 6) ∧ mR M 514 (L 0 4) = some (L 0 7) ∧ mK M (L 0 5) = 73 ∧ aN M (L 0 5) = 60 ∧ mK M (L 0 6) = 82 ∧ aN M (L 0 6) = 60 ∧ mK M (L 0 7) = 91 ∧ aN M (L 0 7) = 60)
def CIJ (L : Nat → Nat → Nat) (C : Cfg) : Prop := (∀ s q, s < cn C → q < cn C → L 1 s = L 1 q → s = q) ∧ (∀ s q, s < cn C → q < cn C → ckd C s = 0 → ckd C q = 0 → (L 4 s = L 4 q ∨ L 5 s = L 5 q ∨ L 6 s = L 6 q ∨ L 7 s = L 7 q) → s = q) ∧ (∀ s q, s < cn C → q < cn C → ckd C s = 4 → ckd C q = 4 → L 9 s = L 9 q → s = q) ∧ (∀ s q i j, s < cn C → q < cn C → ckd C s = 4 → ckd C q = 4 → i < 2 → j < 2 → (L 13 (2 * s + i) = L 13 (2 * q + j) ∨ L 14 (2 * s + i) = L 14 (2 * q + j) ∨ L 15 (2 * s + i) = L 15 (2 * q + j)) → s = q ∧ i = j) ∧ (∀ s q, s < cn C → q < cn C → ckd C s = 5 → ckd C q = 5 → (L 16 s = L 16 q ∨ L 17 s = L 17 q ∨ L 18 s = L 18 q ∨ L 19 s = L 19 q) → s = q)
def CSH (M : Mm) (L : Nat → Nat → Nat) (C : Cfg) : Prop := COB M L ∧ mR M 644 (L 0 0) = some (L 0 1) ∧ CGR M L (cn C) ∧ (∀ s, s < cn C → CST M L C s) ∧ (∀ s i, s < cn C → i < (cin C s).length → aR M (L 2 s) i = some (L 1 (a_in C s i))) ∧ (∀ s, s < cn C → ckd C s = 0 → CSO M L C s) ∧ (∀ s, s < cn C → ckd C s = 4 → CJO M L C s) ∧ (∀ s, s < cn C → ckd C s = 5 → CWO M L C s) ∧ CIJ L C ∧ (∀ g, g < 4 → aJ M (L 0 3) g = (csp C g).getD (-1) ∧ ∀ v, csp C g = some v → ¬ v = -1)
def CMK (M : Mm) (L : Nat → Nat → Nat) (n : Nat) (f : Nat → Int64) : Prop := ∀ s, s < n → mJ M 390 (L 1 s) = f s
def CID (M : Mm) (L : Nat → Nat → Nat) (n : Nat) (f : Nat → Bool) : Prop := ∀ s, s < n → mI M 391 (L 1 s) = bI (f s)
def CPS (M : Mm) (L : Nat → Nat → Nat) (C : Cfg) (f : Nat → Nat → Nat) : Prop := ∀ s k, s < cn C → ckd C s = 0 → k < 4 → mK M (L 4 s) = 33 ∧ aI M (L 4 s) k = nI (f s k)
def CPR (M : Mm) (L : Nat → Nat → Nat) (C : Cfg) (f : Nat → Nat → Int64) : Prop := ∀ s k, s < cn C → ckd C s = 0 → k < 4 → mK M (L 5 s) = 42 ∧ aJ M (L 5 s) k = f s k
def CHR (M : Mm) (L : Nat → Nat → Nat) (C : Cfg) (f : Nat → Nat → Int32) : Prop := ∀ s k, s < cn C → ckd C s = 0 → k < 4 → mK M (L 6 s) = 49 ∧ aI M (L 6 s) k = f s k
def CNW (M : Mm) (L : Nat → Nat → Nat) (v : Int32) : Prop := mI M 70 (L 0 1) = v
def CLO (M : Mm) (L : Nat → Nat → Nat) (v : Int32) : Prop := mI M 71 (L 0 1) = v
def CNT (M : Mm) (b a room : Nat) (l : List Row) : Prop := mK M a = 26 ∧ mI M 194 b = nI l.length ∧ ∀ i r, i < room → l[i]? = some r → aJ M a (4 * i) = (nI r.1).toInt64 ∧ aJ M a (4 * i + 1) = r.2.1 ∧ aJ M a (4 * i + 2) = r.2.2.1.toInt64 ∧ aJ M a (4 * i + 3) = r.2.2.2.toInt64
def cw3 (M : Mm) (L : Nat → Nat → Nat) (s i : Nat) : Ent := (aJ M (L 17 s) i, aI M (L 18 s) i, aI M (L 19 s) i)
def CWL (M : Mm) (L : Nat → Nat → Nat) (s : Nat) (l : List Ent) : Prop := (mK M (L 17 s) = 98 ∧ mK M (L 18 s) = 105 ∧ mK M (L 19 s) = 113) ∧ mI M 581 (L 16 s) = nI l.length ∧ l.length ≤ 24 ∧ ∀ i e, l[i]? = some e → cw3 M L s i = e
def CWI (M : Mm) (L : Nat → Nat → Nat) (C : Cfg) (f : Nat → List Ent) : Prop := ∀ s, s < cn C → ckd C s = 5 → CWL M L s (f s)
def ck3 (M : Mm) (L : Nat → Nat → Nat) (q i : Nat) : Ent := (aJ M (L 13 q) i, aI M (L 14 q) i, aI M (L 15 q) i)
def CKE (M : Mm) (L : Nat → Nat → Nat) (s k : Nat) (l : List Ent) : Prop := (mK M (L 9 s) = 433 ∧ mK M (L 13 (2 * s + k)) = 450 ∧ mK M (L 14 (2 * s + k)) = 465 ∧ mK M (L 15 (2 * s + k)) = 481) ∧ aI M (L 9 s) k = nI l.length ∧ l.length ≤ 6 ∧ ∀ i e, l[i]? = some e → ck3 M L (2 * s + k) i = e
def CKP (M : Mm) (L : Nat → Nat → Nat) (C : Cfg) (f : Nat → Nat → List Ent) : Prop := ∀ s k, s < cn C → ckd C s = 4 → k < 2 → CKE M L s k (f s k)
def CTI (M : Mm) (L : Nat → Nat → Nat) (l : List (Nat × Int64 × Bool)) : Prop := (mK M (L 0 5) = 73 ∧ mK M (L 0 6) = 82 ∧ mK M (L 0 7) = 91) ∧ mI M 515 (L 0 4) = nI l.length ∧ l.length ≤ 60 ∧ ∀ i x, l[i]? = some x → aI M (L 0 5) i = nI x.1 ∧ aJ M (L 0 6) i = x.2.1 ∧ aI M (L 0 7) i = bI x.2.2
def CDT (M : Mm) (L : Nat → Nat → Nat) (C : Cfg) (D : Dyn) : Prop := CMK M L (cn C) (dmk D) ∧ CID M L (cn C) (did D) ∧ CPS M L C (dps D) ∧ CPR M L C (dpr D) ∧ CHR M L C (dhr D) ∧ CNW M L (dnow D) ∧ CNT M (L 0 12) (L 0 13) 300 (dou D) ∧ CNT M (L 0 14) (L 0 15) 200 (dla D) ∧ CLO M L (dlo D) ∧ CWI M L C (dwi D) ∧ CKP M L C (dke D) ∧ CTI M L (dti D)
/-- memories that differ in the class's data alone -/
def RK (k : Nat) : Prop := k = 1 ∨ k = 11 ∨ k = 12 ∨ k = 16 ∨ (120 ≤ k ∧ k ≤ 400) ∨ k = 426
def Off (B M : Mm) : Prop := mK M = mK B ∧ mR M = mR B ∧ aN M = aN B ∧ aR M = aR B ∧ (∀ a, mJ M 385 a = mJ B 385 a) ∧ ∀ a, RK (mK B a) → (∀ f, mI M f a = mI B f a ∧ mJ M f a = mJ B f a) ∧ ∀ j, aI M a j = aI B a j ∧ aJ M a j = aJ B a j
theorem Off.refl {M : Mm} : Off M M := ⟨rfl, rfl, rfl, rfl, fun _ => rfl, fun _ _ => ⟨fun _ => ⟨rfl, rfl⟩, fun _ => ⟨rfl, rfl⟩⟩⟩
theorem Off.trans {B M M1 : Mm} (h : Off B M) (g : Off M M1) : Off B M1 := ⟨g.1.trans h.1, g.2.1.trans h.2.1, g.2.2.1.trans h.2.2.1, g.2.2.2.1.trans h.2.2.2.1, fun a => (g.2.2.2.2.1 a).trans (h.2.2.2.2.1 a), fun a ha => by
  obtain ⟨h1, h2⟩ := h.2.2.2.2.2 a ha
  obtain ⟨g1, g2⟩ := g.2.2.2.2.2 a (by rw [h.1]; exact ha)
  exact ⟨fun f => ⟨(g1 f).1.trans (h1 f).1, (g1 f).2.trans (h1 f).2⟩, fun j => ⟨(g2 j).1.trans (h2 j).1, (g2 j).2.trans (h2 j).2⟩⟩⟩
theorem off_sI {M : Mm} {f a : Nat} {v : Int32} (h : ¬ RK (mK M a)) : Off M (sI M f a v) := ⟨rfl, rfl, rfl, rfl, fun _ => rfl, fun b hb => ⟨fun g => ⟨by simp [ms, show b ≠ a from fun e => h (e ▸ hb)], rfl⟩, fun _ => ⟨rfl, rfl⟩⟩⟩
theorem off_sJ {M : Mm} {f a : Nat} {v : Int64} (h : ¬ RK (mK M a)) (hf : ¬ 385 = f) : Off M (sJ M f a v) := ⟨rfl, rfl, rfl, rfl, fun b => by simp [ms, hf], fun b hb => ⟨fun g => ⟨rfl, by simp [ms, show b ≠ a from fun e => h (e ▸ hb)]⟩, fun _ => ⟨rfl, rfl⟩⟩⟩
theorem off_tI {M : Mm} {a j : Nat} {v : Int32} (h : ¬ RK (mK M a)) : Off M (tI M a j v) := ⟨rfl, rfl, rfl, rfl, fun _ => rfl, fun b hb => ⟨fun g => ⟨rfl, rfl⟩, fun i => ⟨by simp [ms, show b ≠ a from fun e => h (e ▸ hb)], rfl⟩⟩⟩
theorem off_tJ {M : Mm} {a j : Nat} {v : Int64} (h : ¬ RK (mK M a)) : Off M (tJ M a j v) := ⟨rfl, rfl, rfl, rfl, fun _ => rfl, fun b hb => ⟨fun g => ⟨rfl, rfl⟩, fun i => ⟨rfl, by simp [ms, show b ≠ a from fun e => h (e ▸ hb)]⟩⟩⟩
/-- all that the memory holds for the class -/
def CR (B M : Mm) (L : Nat → Nat → Nat) (C : Cfg) (D : Dyn) : Prop := Off B M ∧ CSH M L C ∧ CDT M L C D

theorem c_CMK_sI (M : Mm) (f a9 : Nat) (v : Int32) (L : Nat → Nat → Nat) (n : Nat) (g : Nat → Int64) : CMK (sI M f a9 v) L n g = CMK M L n g := by simp [CMK, ms]
theorem c_CMK_sJ (M : Mm) (f a9 : Nat) (v : Int64) (L : Nat → Nat → Nat) (n : Nat) (g : Nat → Int64) (h390 : ¬ 390 = f) : CMK (sJ M f a9 v) L n g = CMK M L n g := by simp [CMK, ms, h390]
theorem c_CMK_tI (M : Mm) (b9 j9 : Nat) (v : Int32) (L : Nat → Nat → Nat) (n : Nat) (g : Nat → Int64) : CMK (tI M b9 j9 v) L n g = CMK M L n g := by simp [CMK, ms]
theorem c_CMK_tJ (M : Mm) (b9 j9 : Nat) (v : Int64) (L : Nat → Nat → Nat) (n : Nat) (g : Nat → Int64) : CMK (tJ M b9 j9 v) L n g = CMK M L n g := by simp [CMK, ms]
theorem c_CID_sI (M : Mm) (f a9 : Nat) (v : Int32) (L : Nat → Nat → Nat) (n : Nat) (g : Nat → Bool) (h391 : ¬ 391 = f) : CID (sI M f a9 v) L n g = CID M L n g := by simp [CID, ms, h391]
theorem c_CID_sJ (M : Mm) (f a9 : Nat) (v : Int64) (L : Nat → Nat → Nat) (n : Nat) (g : Nat → Bool) : CID (sJ M f a9 v) L n g = CID M L n g := by simp [CID, ms]
theorem c_CID_tI (M : Mm) (b9 j9 : Nat) (v : Int32) (L : Nat → Nat → Nat) (n : Nat) (g : Nat → Bool) : CID (tI M b9 j9 v) L n g = CID M L n g := by simp [CID, ms]
theorem c_CID_tJ (M : Mm) (b9 j9 : Nat) (v : Int64) (L : Nat → Nat → Nat) (n : Nat) (g : Nat → Bool) : CID (tJ M b9 j9 v) L n g = CID M L n g := by simp [CID, ms]
theorem c_CPS_sI (M : Mm) (f a9 : Nat) (v : Int32) (L : Nat → Nat → Nat) (C : Cfg) (g : Nat → Nat → Nat) : CPS (sI M f a9 v) L C g = CPS M L C g := by simp [CPS, ms]
theorem c_CPS_sJ (M : Mm) (f a9 : Nat) (v : Int64) (L : Nat → Nat → Nat) (C : Cfg) (g : Nat → Nat → Nat) : CPS (sJ M f a9 v) L C g = CPS M L C g := by simp [CPS, ms]
theorem c_CPS_tI (M : Mm) (b9 j9 : Nat) (v : Int32) (L : Nat → Nat → Nat) (C : Cfg) (g : Nat → Nat → Nat) (h33 : ¬ mK M b9 = 33) : CPS (tI M b9 j9 v) L C g = CPS M L C g := by
  refine propext ⟨fun h s k hs hk h4 => ?_, fun h s k hs hk h4 => ?_⟩
  · obtain ⟨h1, h2⟩ := h s k hs hk h4
    have ne : L 4 s ≠ b9 := fun e => h33 (by rw [← e]; exact h1)
    exact ⟨h1, by simpa [ms, ne] using h2⟩
  · obtain ⟨h1, h2⟩ := h s k hs hk h4
    have ne : L 4 s ≠ b9 := fun e => h33 (by rw [← e]; exact h1)
    exact ⟨h1, by simpa [ms, ne] using h2⟩
theorem c_CPS_tJ (M : Mm) (b9 j9 : Nat) (v : Int64) (L : Nat → Nat → Nat) (C : Cfg) (g : Nat → Nat → Nat) : CPS (tJ M b9 j9 v) L C g = CPS M L C g := by simp [CPS, ms]
theorem c_CPR_sI (M : Mm) (f a9 : Nat) (v : Int32) (L : Nat → Nat → Nat) (C : Cfg) (g : Nat → Nat → Int64) : CPR (sI M f a9 v) L C g = CPR M L C g := by simp [CPR, ms]
theorem c_CPR_sJ (M : Mm) (f a9 : Nat) (v : Int64) (L : Nat → Nat → Nat) (C : Cfg) (g : Nat → Nat → Int64) : CPR (sJ M f a9 v) L C g = CPR M L C g := by simp [CPR, ms]
theorem c_CPR_tI (M : Mm) (b9 j9 : Nat) (v : Int32) (L : Nat → Nat → Nat) (C : Cfg) (g : Nat → Nat → Int64) : CPR (tI M b9 j9 v) L C g = CPR M L C g := by simp [CPR, ms]
theorem c_CPR_tJ (M : Mm) (b9 j9 : Nat) (v : Int64) (L : Nat → Nat → Nat) (C : Cfg) (g : Nat → Nat → Int64) (h42 : ¬ mK M b9 = 42) : CPR (tJ M b9 j9 v) L C g = CPR M L C g := by
  refine propext ⟨fun h s k hs hk h4 => ?_, fun h s k hs hk h4 => ?_⟩
  · obtain ⟨h1, h2⟩ := h s k hs hk h4
    have ne : L 5 s ≠ b9 := fun e => h42 (by rw [← e]; exact h1)
    exact ⟨h1, by simpa [ms, ne] using h2⟩
  · obtain ⟨h1, h2⟩ := h s k hs hk h4
    have ne : L 5 s ≠ b9 := fun e => h42 (by rw [← e]; exact h1)
    exact ⟨h1, by simpa [ms, ne] using h2⟩
theorem c_CHR_sI (M : Mm) (f a9 : Nat) (v : Int32) (L : Nat → Nat → Nat) (C : Cfg) (g : Nat → Nat → Int32) : CHR (sI M f a9 v) L C g = CHR M L C g := by simp [CHR, ms]
theorem c_CHR_sJ (M : Mm) (f a9 : Nat) (v : Int64) (L : Nat → Nat → Nat) (C : Cfg) (g : Nat → Nat → Int32) : CHR (sJ M f a9 v) L C g = CHR M L C g := by simp [CHR, ms]
theorem c_CHR_tI (M : Mm) (b9 j9 : Nat) (v : Int32) (L : Nat → Nat → Nat) (C : Cfg) (g : Nat → Nat → Int32) (h49 : ¬ mK M b9 = 49) : CHR (tI M b9 j9 v) L C g = CHR M L C g := by
  refine propext ⟨fun h s k hs hk h4 => ?_, fun h s k hs hk h4 => ?_⟩
  · obtain ⟨h1, h2⟩ := h s k hs hk h4
    have ne : L 6 s ≠ b9 := fun e => h49 (by rw [← e]; exact h1)
    exact ⟨h1, by simpa [ms, ne] using h2⟩
  · obtain ⟨h1, h2⟩ := h s k hs hk h4
    have ne : L 6 s ≠ b9 := fun e => h49 (by rw [← e]; exact h1)
    exact ⟨h1, by simpa [ms, ne] using h2⟩
theorem c_CHR_tJ (M : Mm) (b9 j9 : Nat) (v : Int64) (L : Nat → Nat → Nat) (C : Cfg) (g : Nat → Nat → Int32) : CHR (tJ M b9 j9 v) L C g = CHR M L C g := by simp [CHR, ms]
theorem c_CNW_sI (M : Mm) (f a9 : Nat) (v : Int32) (L : Nat → Nat → Nat) (u : Int32) (h70 : ¬ 70 = f) : CNW (sI M f a9 v) L u = CNW M L u := by simp [CNW, ms, h70]
theorem c_CNW_sJ (M : Mm) (f a9 : Nat) (v : Int64) (L : Nat → Nat → Nat) (u : Int32) : CNW (sJ M f a9 v) L u = CNW M L u := by simp [CNW, ms]
theorem c_CNW_tI (M : Mm) (b9 j9 : Nat) (v : Int32) (L : Nat → Nat → Nat) (u : Int32) : CNW (tI M b9 j9 v) L u = CNW M L u := by simp [CNW, ms]
theorem c_CNW_tJ (M : Mm) (b9 j9 : Nat) (v : Int64) (L : Nat → Nat → Nat) (u : Int32) : CNW (tJ M b9 j9 v) L u = CNW M L u := by simp [CNW, ms]
theorem c_CLO_sI (M : Mm) (f a9 : Nat) (v : Int32) (L : Nat → Nat → Nat) (u : Int32) (h71 : ¬ 71 = f) : CLO (sI M f a9 v) L u = CLO M L u := by simp [CLO, ms, h71]
theorem c_CLO_sJ (M : Mm) (f a9 : Nat) (v : Int64) (L : Nat → Nat → Nat) (u : Int32) : CLO (sJ M f a9 v) L u = CLO M L u := by simp [CLO, ms]
theorem c_CLO_tI (M : Mm) (b9 j9 : Nat) (v : Int32) (L : Nat → Nat → Nat) (u : Int32) : CLO (tI M b9 j9 v) L u = CLO M L u := by simp [CLO, ms]
theorem c_CLO_tJ (M : Mm) (b9 j9 : Nat) (v : Int64) (L : Nat → Nat → Nat) (u : Int32) : CLO (tJ M b9 j9 v) L u = CLO M L u := by simp [CLO, ms]
theorem c_CNT_sI (M : Mm) (f a9 : Nat) (v : Int32) (b a room : Nat) (l : List Row) (h194 : ¬ 194 = f) : CNT (sI M f a9 v) b a room l = CNT M b a room l := by simp [CNT, ms, h194]
theorem c_CNT_sJ (M : Mm) (f a9 : Nat) (v : Int64) (b a room : Nat) (l : List Row) : CNT (sJ M f a9 v) b a room l = CNT M b a room l := by simp [CNT, ms]
theorem c_CNT_tI (M : Mm) (b9 j9 : Nat) (v : Int32) (b a room : Nat) (l : List Row) : CNT (tI M b9 j9 v) b a room l = CNT M b a room l := by simp [CNT, ms]
theorem c_CNT_tJ (M : Mm) (b9 j9 : Nat) (v : Int64) (b a room : Nat) (l : List Row) (h26 : ¬ mK M b9 = 26) : CNT (tJ M b9 j9 v) b a room l = CNT M b a room l := by
  refine propext ⟨fun h => ?_, fun h => ?_⟩
  · obtain ⟨h1, h2⟩ := h
    have ne : a ≠ b9 := fun e => h26 (by rw [← e]; exact h1)
    exact ⟨h1, by simpa [ms, ne] using h2⟩
  · obtain ⟨h1, h2⟩ := h
    have ne : a ≠ b9 := fun e => h26 (by rw [← e]; exact h1)
    exact ⟨h1, by simpa [ms, ne] using h2⟩
theorem c_CWI_sI (M : Mm) (f a9 : Nat) (v : Int32) (L : Nat → Nat → Nat) (C : Cfg) (g : Nat → List Ent) (h581 : ¬ 581 = f) : CWI (sI M f a9 v) L C g = CWI M L C g := by simp [CWI, CWL, cw3, ms, h581]
theorem c_CWI_sJ (M : Mm) (f a9 : Nat) (v : Int64) (L : Nat → Nat → Nat) (C : Cfg) (g : Nat → List Ent) : CWI (sJ M f a9 v) L C g = CWI M L C g := by simp [CWI, CWL, cw3, ms]
theorem c_CWI_tI (M : Mm) (b9 j9 : Nat) (v : Int32) (L : Nat → Nat → Nat) (C : Cfg) (g : Nat → List Ent) (h105 : ¬ mK M b9 = 105) (h113 : ¬ mK M b9 = 113) : CWI (tI M b9 j9 v) L C g = CWI M L C g := by
  refine propext ⟨fun h s hs hk => ?_, fun h s hs hk => ?_⟩
  · obtain ⟨h1, h2, h3, h4⟩ := h s hs hk
    have ne105 : L 18 s ≠ b9 := fun e => h105 (by rw [← e]; exact h1.2.1)
    have ne113 : L 19 s ≠ b9 := fun e => h113 (by rw [← e]; exact h1.2.2)
    exact ⟨h1, h2, h3, by simpa [cw3, ms, ne105, ne113] using h4⟩
  · obtain ⟨h1, h2, h3, h4⟩ := h s hs hk
    have ne105 : L 18 s ≠ b9 := fun e => h105 (by rw [← e]; exact h1.2.1)
    have ne113 : L 19 s ≠ b9 := fun e => h113 (by rw [← e]; exact h1.2.2)
    exact ⟨h1, h2, h3, by simpa [cw3, ms, ne105, ne113] using h4⟩

theorem c_CWI_tJ (M : Mm) (b9 j9 : Nat) (v : Int64) (L : Nat → Nat → Nat) (C : Cfg) (g : Nat → List Ent) (h98 : ¬ mK M b9 = 98) : CWI (tJ M b9 j9 v) L C g = CWI M L C g := by
  refine propext ⟨fun h s hs hk => ?_, fun h s hs hk => ?_⟩
  · obtain ⟨h1, h2, h3, h4⟩ := h s hs hk
    have ne98 : L 17 s ≠ b9 := fun e => h98 (by rw [← e]; exact h1.1)
    exact ⟨h1, h2, h3, by simpa [cw3, ms, ne98] using h4⟩
  · obtain ⟨h1, h2, h3, h4⟩ := h s hs hk
    have ne98 : L 17 s ≠ b9 := fun e => h98 (by rw [← e]; exact h1.1)
    exact ⟨h1, h2, h3, by simpa [cw3, ms, ne98] using h4⟩

theorem c_CKP_sI (M : Mm) (f a9 : Nat) (v : Int32) (L : Nat → Nat → Nat) (C : Cfg) (g : Nat → Nat → List Ent) : CKP (sI M f a9 v) L C g = CKP M L C g := by simp [CKP, CKE, ck3, ms]
theorem c_CKP_sJ (M : Mm) (f a9 : Nat) (v : Int64) (L : Nat → Nat → Nat) (C : Cfg) (g : Nat → Nat → List Ent) : CKP (sJ M f a9 v) L C g = CKP M L C g := by simp [CKP, CKE, ck3, ms]
theorem c_CKP_tI (M : Mm) (b9 j9 : Nat) (v : Int32) (L : Nat → Nat → Nat) (C : Cfg) (g : Nat → Nat → List Ent) (h433 : ¬ mK M b9 = 433) (h465 : ¬ mK M b9 = 465) (h481 : ¬ mK M b9 = 481) : CKP (tI M b9 j9 v) L C g = CKP M L C g := by
  refine propext ⟨fun h s k hs hk hk2 => ?_, fun h s k hs hk hk2 => ?_⟩
  · obtain ⟨h1, h2, h3, h4⟩ := h s k hs hk hk2
    have ne433 : L 9 s ≠ b9 := fun e => h433 (by rw [← e]; exact h1.1)
    have ne465 : L 14 (2 * s + k) ≠ b9 := fun e => h465 (by rw [← e]; exact h1.2.2.1)
    have ne481 : L 15 (2 * s + k) ≠ b9 := fun e => h481 (by rw [← e]; exact h1.2.2.2)
    exact ⟨h1, by simpa [ms, ne433, ne465, ne481] using h2, h3, by simpa [ck3, ms, ne433, ne465, ne481] using h4⟩
  · obtain ⟨h1, h2, h3, h4⟩ := h s k hs hk hk2
    have ne433 : L 9 s ≠ b9 := fun e => h433 (by rw [← e]; exact h1.1)
    have ne465 : L 14 (2 * s + k) ≠ b9 := fun e => h465 (by rw [← e]; exact h1.2.2.1)
    have ne481 : L 15 (2 * s + k) ≠ b9 := fun e => h481 (by rw [← e]; exact h1.2.2.2)
    exact ⟨h1, by simpa [ms, ne433, ne465, ne481] using h2, h3, by simpa [ck3, ms, ne433, ne465, ne481] using h4⟩

theorem c_CKP_tJ (M : Mm) (b9 j9 : Nat) (v : Int64) (L : Nat → Nat → Nat) (C : Cfg) (g : Nat → Nat → List Ent) (h450 : ¬ mK M b9 = 450) : CKP (tJ M b9 j9 v) L C g = CKP M L C g := by
  refine propext ⟨fun h s k hs hk hk2 => ?_, fun h s k hs hk hk2 => ?_⟩
  · obtain ⟨h1, h2, h3, h4⟩ := h s k hs hk hk2
    have ne450 : L 13 (2 * s + k) ≠ b9 := fun e => h450 (by rw [← e]; exact h1.2.1)
    exact ⟨h1, by simpa [ms, ne450] using h2, h3, by simpa [ck3, ms, ne450] using h4⟩
  · obtain ⟨h1, h2, h3, h4⟩ := h s k hs hk hk2
    have ne450 : L 13 (2 * s + k) ≠ b9 := fun e => h450 (by rw [← e]; exact h1.2.1)
    exact ⟨h1, by simpa [ms, ne450] using h2, h3, by simpa [ck3, ms, ne450] using h4⟩

theorem c_CTI_sI (M : Mm) (f a9 : Nat) (v : Int32) (L : Nat → Nat → Nat) (l : List (Nat × Int64 × Bool)) (h515 : ¬ 515 = f) : CTI (sI M f a9 v) L l = CTI M L l := by simp [CTI, ms, h515]
theorem c_CTI_sJ (M : Mm) (f a9 : Nat) (v : Int64) (L : Nat → Nat → Nat) (l : List (Nat × Int64 × Bool)) : CTI (sJ M f a9 v) L l = CTI M L l := by simp [CTI, ms]
theorem c_CTI_tI (M : Mm) (b9 j9 : Nat) (v : Int32) (L : Nat → Nat → Nat) (l : List (Nat × Int64 × Bool)) (h73 : ¬ mK M b9 = 73) (h91 : ¬ mK M b9 = 91) : CTI (tI M b9 j9 v) L l = CTI M L l := by
  refine propext ⟨fun h => ?_, fun h => ?_⟩
  · obtain ⟨h1, h2, h3, h4⟩ := h
    have ne73 : L 0 5 ≠ b9 := fun e => h73 (by rw [← e]; exact h1.1)
    have ne91 : L 0 7 ≠ b9 := fun e => h91 (by rw [← e]; exact h1.2.2)
    exact ⟨h1, h2, h3, by simpa [ms, ne73, ne91] using h4⟩
  · obtain ⟨h1, h2, h3, h4⟩ := h
    have ne73 : L 0 5 ≠ b9 := fun e => h73 (by rw [← e]; exact h1.1)
    have ne91 : L 0 7 ≠ b9 := fun e => h91 (by rw [← e]; exact h1.2.2)
    exact ⟨h1, h2, h3, by simpa [ms, ne73, ne91] using h4⟩

theorem c_CTI_tJ (M : Mm) (b9 j9 : Nat) (v : Int64) (L : Nat → Nat → Nat) (l : List (Nat × Int64 × Bool)) (h82 : ¬ mK M b9 = 82) : CTI (tJ M b9 j9 v) L l = CTI M L l := by
  refine propext ⟨fun h => ?_, fun h => ?_⟩
  · obtain ⟨h1, h2, h3, h4⟩ := h
    have ne82 : L 0 6 ≠ b9 := fun e => h82 (by rw [← e]; exact h1.2.1)
    exact ⟨h1, h2, h3, by simpa [ms, ne82] using h4⟩
  · obtain ⟨h1, h2, h3, h4⟩ := h
    have ne82 : L 0 6 ≠ b9 := fun e => h82 (by rw [← e]; exact h1.2.1)
    exact ⟨h1, h2, h3, by simpa [ms, ne82] using h4⟩

theorem c_CSH_sI (M : Mm) (f a9 : Nat) (v : Int32) (L : Nat → Nat → Nat) (C : Cfg) (h1 : ¬ 384 = f) (h2 : ¬ 388 = f) (h3 : ¬ 320 = f) (h4 : ¬ 322 = f) (h5 : ¬ 323 = f) (h6 : ¬ 193 = f) (h7 : ¬ 69 = f) : CSH (sI M f a9 v) L C = CSH M L C := by simp only [CSH, COB, CGR, CST, CSO, CJO, CWO, ms, h1, h2, h3, h4, h5, h6, h7, if_false, ite_self]
theorem c_CSH_sJ (M : Mm) (f a9 : Nat) (v : Int64) (L : Nat → Nat → Nat) (C : Cfg) (h1 : ¬ 386 = f) (h2 : ¬ 392 = f) (h3 : ¬ 321 = f) (h4 : ¬ 130 = f) (h5 : ¬ 131 = f) (h6 : ¬ 576 = f) (h7 : ¬ 577 = f) : CSH (sJ M f a9 v) L C = CSH M L C := by simp only [CSH, COB, CGR, CST, CSO, CJO, CWO, ms, h1, h2, h3, h4, h5, h6, h7, if_false, ite_self]
theorem c_CSH_tI (M : Mm) (b9 j9 : Nat) (v : Int32) (L : Nat → Nat → Nat) (C : Cfg) : CSH (tI M b9 j9 v) L C = CSH M L C := rfl
theorem c_CSH_tJ (M : Mm) (b9 j9 : Nat) (v : Int64) (L : Nat → Nat → Nat) (C : Cfg) (h418 : ¬ mK M b9 = 418) : CSH (tJ M b9 j9 v) L C = CSH M L C := by
  refine propext ⟨fun h => ?_, fun h => ?_⟩
  · obtain ⟨h1, h2, h3, h4, h5, h6, h7, h8, h9, h10⟩ := h
    have k : mK M (L 0 3) = 418 := h3.2.2.2.2.2.2.2.2.1.1
    have ne : L 0 3 ≠ b9 := fun e => h418 (by rw [← e]; exact k)
    exact ⟨h1, h2, h3, h4, h5, h6, h7, h8, h9, fun g hg => by have := h10 g hg; simp only [ms, ne, if_false] at this; exact this⟩
  · obtain ⟨h1, h2, h3, h4, h5, h6, h7, h8, h9, h10⟩ := h
    have k : mK M (L 0 3) = 418 := h3.2.2.2.2.2.2.2.2.1.1
    have ne : L 0 3 ≠ b9 := fun e => h418 (by rw [← e]; exact k)
    exact ⟨h1, h2, h3, h4, h5, h6, h7, h8, h9, fun g hg => by have := h10 g hg; simp only [ms, ne, if_false]; exact this⟩
