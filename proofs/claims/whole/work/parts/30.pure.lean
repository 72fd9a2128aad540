theorem ms_mK_sI (M : Mm) (i a : Nat) (v : Int32) : mK (sI M i a v) = mK M := rfl
theorem ms_mK_sJ (M : Mm) (i a : Nat) (v : Int64) : mK (sJ M i a v) = mK M := rfl
theorem ms_mK_sR (M : Mm) (i a : Nat) (v : Option Nat) : mK (sR M i a v) = mK M := rfl
theorem ms_mK_tI (M : Mm) (a j : Nat) (v : Int32) : mK (tI M a j v) = mK M := rfl
theorem ms_mK_tJ (M : Mm) (a j : Nat) (v : Int64) : mK (tJ M a j v) = mK M := rfl
theorem ms_mK_tR (M : Mm) (a j : Nat) (v : Option Nat) : mK (tR M a j v) = mK M := rfl
theorem ms_mK_nw (M : Mm) (q k : Nat) (b : Nat) : mK (nw M q k) b = if b = q then k else mK M b := rfl
theorem ms_mK_na (M : Mm) (q k n : Nat) (b : Nat) : mK (na M q k n) b = if b = q then k else mK M b := rfl
theorem ms_mI_sI (M : Mm) (i a : Nat) (v : Int32) (f b : Nat) : mI (sI M i a v) f b = if b = a then (if f = i then v else mI M f b) else mI M f b := rfl
theorem ms_mI_sJ (M : Mm) (i a : Nat) (v : Int64) : mI (sJ M i a v) = mI M := rfl
theorem ms_mI_sR (M : Mm) (i a : Nat) (v : Option Nat) : mI (sR M i a v) = mI M := rfl
theorem ms_mI_tI (M : Mm) (a j : Nat) (v : Int32) : mI (tI M a j v) = mI M := rfl
theorem ms_mI_tJ (M : Mm) (a j : Nat) (v : Int64) : mI (tJ M a j v) = mI M := rfl
theorem ms_mI_tR (M : Mm) (a j : Nat) (v : Option Nat) : mI (tR M a j v) = mI M := rfl
theorem ms_mI_nw (M : Mm) (q k : Nat) (f b : Nat) : mI (nw M q k) f b = if b = q then 0 else mI M f b := rfl
theorem ms_mI_na (M : Mm) (q k n : Nat) : mI (na M q k n) = mI M := rfl
theorem ms_mJ_sI (M : Mm) (i a : Nat) (v : Int32) : mJ (sI M i a v) = mJ M := rfl
theorem ms_mJ_sJ (M : Mm) (i a : Nat) (v : Int64) (f b : Nat) : mJ (sJ M i a v) f b = if b = a then (if f = i then v else mJ M f b) else mJ M f b := rfl
theorem ms_mJ_sR (M : Mm) (i a : Nat) (v : Option Nat) : mJ (sR M i a v) = mJ M := rfl
theorem ms_mJ_tI (M : Mm) (a j : Nat) (v : Int32) : mJ (tI M a j v) = mJ M := rfl
theorem ms_mJ_tJ (M : Mm) (a j : Nat) (v : Int64) : mJ (tJ M a j v) = mJ M := rfl
theorem ms_mJ_tR (M : Mm) (a j : Nat) (v : Option Nat) : mJ (tR M a j v) = mJ M := rfl
theorem ms_mJ_nw (M : Mm) (q k : Nat) (f b : Nat) : mJ (nw M q k) f b = if b = q then 0 else mJ M f b := rfl
theorem ms_mJ_na (M : Mm) (q k n : Nat) : mJ (na M q k n) = mJ M := rfl
theorem ms_mR_sI (M : Mm) (i a : Nat) (v : Int32) : mR (sI M i a v) = mR M := rfl
theorem ms_mR_sJ (M : Mm) (i a : Nat) (v : Int64) : mR (sJ M i a v) = mR M := rfl
theorem ms_mR_sR (M : Mm) (i a : Nat) (v : Option Nat) (f b : Nat) : mR (sR M i a v) f b = if b = a then (if f = i then v else mR M f b) else mR M f b := rfl
theorem ms_mR_tI (M : Mm) (a j : Nat) (v : Int32) : mR (tI M a j v) = mR M := rfl
theorem ms_mR_tJ (M : Mm) (a j : Nat) (v : Int64) : mR (tJ M a j v) = mR M := rfl
theorem ms_mR_tR (M : Mm) (a j : Nat) (v : Option Nat) : mR (tR M a j v) = mR M := rfl
theorem ms_mR_nw (M : Mm) (q k : Nat) (f b : Nat) : mR (nw M q k) f b = if b = q then none else mR M f b := rfl
theorem ms_mR_na (M : Mm) (q k n : Nat) : mR (na M q k n) = mR M := rfl
theorem ms_aN_sI (M : Mm) (i a : Nat) (v : Int32) : aN (sI M i a v) = aN M := rfl
theorem ms_aN_sJ (M : Mm) (i a : Nat) (v : Int64) : aN (sJ M i a v) = aN M := rfl
theorem ms_aN_sR (M : Mm) (i a : Nat) (v : Option Nat) : aN (sR M i a v) = aN M := rfl
theorem ms_aN_tI (M : Mm) (a j : Nat) (v : Int32) : aN (tI M a j v) = aN M := rfl
theorem ms_aN_tJ (M : Mm) (a j : Nat) (v : Int64) : aN (tJ M a j v) = aN M := rfl
theorem ms_aN_tR (M : Mm) (a j : Nat) (v : Option Nat) : aN (tR M a j v) = aN M := rfl
theorem ms_aN_nw (M : Mm) (q k : Nat) : aN (nw M q k) = aN M := rfl
theorem ms_aN_na (M : Mm) (q k n : Nat) (b : Nat) : aN (na M q k n) b = if b = q then n else aN M b := rfl
theorem ms_aI_sI (M : Mm) (i a : Nat) (v : Int32) : aI (sI M i a v) = aI M := rfl
theorem ms_aI_sJ (M : Mm) (i a : Nat) (v : Int64) : aI (sJ M i a v) = aI M := rfl
theorem ms_aI_sR (M : Mm) (i a : Nat) (v : Option Nat) : aI (sR M i a v) = aI M := rfl
theorem ms_aI_tI (M : Mm) (a j : Nat) (v : Int32) (b l : Nat) : aI (tI M a j v) b l = if b = a then (if l = j then v else aI M b l) else aI M b l := rfl
theorem ms_aI_tJ (M : Mm) (a j : Nat) (v : Int64) : aI (tJ M a j v) = aI M := rfl
theorem ms_aI_tR (M : Mm) (a j : Nat) (v : Option Nat) : aI (tR M a j v) = aI M := rfl
theorem ms_aI_nw (M : Mm) (q k : Nat) : aI (nw M q k) = aI M := rfl
theorem ms_aI_na (M : Mm) (q k n : Nat) (b l : Nat) : aI (na M q k n) b l = if b = q then 0 else aI M b l := rfl
theorem ms_aJ_sI (M : Mm) (i a : Nat) (v : Int32) : aJ (sI M i a v) = aJ M := rfl
theorem ms_aJ_sJ (M : Mm) (i a : Nat) (v : Int64) : aJ (sJ M i a v) = aJ M := rfl
theorem ms_aJ_sR (M : Mm) (i a : Nat) (v : Option Nat) : aJ (sR M i a v) = aJ M := rfl
theorem ms_aJ_tI (M : Mm) (a j : Nat) (v : Int32) : aJ (tI M a j v) = aJ M := rfl
theorem ms_aJ_tJ (M : Mm) (a j : Nat) (v : Int64) (b l : Nat) : aJ (tJ M a j v) b l = if b = a then (if l = j then v else aJ M b l) else aJ M b l := rfl
theorem ms_aJ_tR (M : Mm) (a j : Nat) (v : Option Nat) : aJ (tR M a j v) = aJ M := rfl
theorem ms_aJ_nw (M : Mm) (q k : Nat) : aJ (nw M q k) = aJ M := rfl
theorem ms_aJ_na (M : Mm) (q k n : Nat) (b l : Nat) : aJ (na M q k n) b l = if b = q then 0 else aJ M b l := rfl
theorem ms_aR_sI (M : Mm) (i a : Nat) (v : Int32) : aR (sI M i a v) = aR M := rfl
theorem ms_aR_sJ (M : Mm) (i a : Nat) (v : Int64) : aR (sJ M i a v) = aR M := rfl
theorem ms_aR_sR (M : Mm) (i a : Nat) (v : Option Nat) : aR (sR M i a v) = aR M := rfl
theorem ms_aR_tI (M : Mm) (a j : Nat) (v : Int32) : aR (tI M a j v) = aR M := rfl
theorem ms_aR_tJ (M : Mm) (a j : Nat) (v : Int64) : aR (tJ M a j v) = aR M := rfl
theorem ms_aR_tR (M : Mm) (a j : Nat) (v : Option Nat) (b l : Nat) : aR (tR M a j v) b l = if b = a then (if l = j then v else aR M b l) else aR M b l := rfl
theorem ms_aR_nw (M : Mm) (q k : Nat) : aR (nw M q k) = aR M := rfl
theorem ms_aR_na (M : Mm) (q k n : Nat) (b l : Nat) : aR (na M q k n) b l = if b = q then none else aR M b l := rfl
theorem ms : (∀ (M : Mm) (i a : Nat) (v : Int32), mK (sI M i a v) = mK M) ∧ (∀ (M : Mm) (i a : Nat) (v : Int64), mK (sJ M i a v) = mK M) ∧ (∀ (M : Mm) (i a : Nat) (v : Option Nat), mK (sR M i a v) = mK M) ∧ (∀ (M : Mm) (a j : Nat) (v : Int32), mK (tI M a j v) = mK M) ∧ (∀ (M : Mm) (a j : Nat) (v : Int64), mK (tJ M a j v) = mK M) ∧ (∀ (M : Mm) (a j : Nat) (v : Option Nat), mK (tR M a j v) = mK M) ∧ (∀ (M : Mm) (q k : Nat) (b : Nat), mK (nw M q k) b = if b = q then k else mK M b) ∧ (∀ (M : Mm) (q k n : Nat) (b : Nat), mK (na M q k n) b = if b = q then k else mK M b) ∧ (∀ (M : Mm) (i a : Nat) (v : Int32) (f b : Nat), mI (sI M i a v) f b = if b = a then (if f = i then v else mI M f b) else mI M f b) ∧ (∀ (M : Mm) (i a : Nat) (v : Int64), mI (sJ M i a v) = mI M) ∧ (∀ (M : Mm) (i a : Nat) (v : Option Nat), mI (sR M i a v) = mI M) ∧ (∀ (M : Mm) (a j : Nat) (v : Int32), mI (tI M a j v) = mI M) ∧ (∀ (M : Mm) (a j : Nat) (v : Int64), mI (tJ M a j v) = mI M) ∧ (∀ (M : Mm) (a j : Nat) (v : Option Nat), mI (tR M a j v) = mI M) ∧ (∀ (M : Mm) (q k : Nat) (f b : Nat), mI (nw M q k) f b = if b = q then 0 else mI M f b) ∧ (∀ (M : Mm) (q k n : Nat), mI (na M q k n) = mI M) ∧ (∀ (M : Mm) (i a : Nat) (v : Int32), mJ (sI M i a v) = mJ M) ∧ (∀ (M : Mm) (i a : Nat) (v : Int64) (f b : Nat), mJ (sJ M i a v) f b = if b = a then (if f = i then v else mJ M f b) else mJ M f b) ∧ (∀ (M : Mm) (i a : Nat) (v : Option Nat), mJ (sR M i a v) = mJ M) ∧ (∀ (M : Mm) (a j : Nat) (v : Int32), mJ (tI M a j v) = mJ M) ∧ (∀ (M : Mm) (a j : Nat) (v : Int64), mJ (tJ M a j v) = mJ M) ∧ (∀ (M : Mm) (a j : Nat) (v : Option Nat), mJ (tR M a j v) = mJ M) ∧ (∀ (M : Mm) (q k : Nat) (f b : Nat), mJ (nw M q k) f b = if b = q then 0 else mJ M f b) ∧ (∀ (M : Mm) (q k n : Nat), mJ (na M q k n) = mJ M) ∧ (∀ (M : Mm) (i a : Nat) (v : Int32), mR (sI M i a v) = mR M) ∧ (∀ (M : Mm) (i a : Nat) (v : Int64), mR (sJ M i a v) = mR M) ∧ (∀ (M : Mm) (i a : Nat) (v : Option Nat) (f b : Nat), mR (sR M i a v) f b = if b = a then (if f = i then v else mR M f b) else mR M f b) ∧ (∀ (M : Mm) (a j : Nat) (v : Int32), mR (tI M a j v) = mR M) ∧ (∀ (M : Mm) (a j : Nat) (v : Int64), mR (tJ M a j v) = mR M) ∧ (∀ (M : Mm) (a j : Nat) (v : Option Nat), mR (tR M a j v) = mR M) ∧ (∀ (M : Mm) (q k : Nat) (f b : Nat), mR (nw M q k) f b = if b = q then none else mR M f b) ∧ (∀ (M : Mm) (q k n : Nat), mR (na M q k n) = mR M) ∧ (∀ (M : Mm) (i a : Nat) (v : Int32), aN (sI M i a v) = aN M) ∧ (∀ (M : Mm) (i a : Nat) (v : Int64), aN (sJ M i a v) = aN M) ∧ (∀ (M : Mm) (i a : Nat) (v : Option Nat), aN (sR M i a v) = aN M) ∧ (∀ (M : Mm) (a j : Nat) (v : Int32), aN (tI M a j v) = aN M) ∧ (∀ (M : Mm) (a j : Nat) (v : Int64), aN (tJ M a j v) = aN M) ∧ (∀ (M : Mm) (a j : Nat) (v : Option Nat), aN (tR M a j v) = aN M) ∧ (∀ (M : Mm) (q k : Nat), aN (nw M q k) = aN M) ∧ (∀ (M : Mm) (q k n : Nat) (b : Nat), aN (na M q k n) b = if b = q then n else aN M b) ∧ (∀ (M : Mm) (i a : Nat) (v : Int32), aI (sI M i a v) = aI M) ∧ (∀ (M : Mm) (i a : Nat) (v : Int64), aI (sJ M i a v) = aI M) ∧ (∀ (M : Mm) (i a : Nat) (v : Option Nat), aI (sR M i a v) = aI M) ∧ (∀ (M : Mm) (a j : Nat) (v : Int32) (b l : Nat), aI (tI M a j v) b l = if b = a then (if l = j then v else aI M b l) else aI M b l) ∧ (∀ (M : Mm) (a j : Nat) (v : Int64), aI (tJ M a j v) = aI M) ∧ (∀ (M : Mm) (a j : Nat) (v : Option Nat), aI (tR M a j v) = aI M) ∧ (∀ (M : Mm) (q k : Nat), aI (nw M q k) = aI M) ∧ (∀ (M : Mm) (q k n : Nat) (b l : Nat), aI (na M q k n) b l = if b = q then 0 else aI M b l) ∧ (∀ (M : Mm) (i a : Nat) (v : Int32), aJ (sI M i a v) = aJ M) ∧ (∀ (M : Mm) (i a : Nat) (v : Int64), aJ (sJ M i a v) = aJ M) ∧ (∀ (M : Mm) (i a : Nat) (v : Option Nat), aJ (sR M i a v) = aJ M) ∧ (∀ (M : Mm) (a j : Nat) (v : Int32), aJ (tI M a j v) = aJ M) ∧ (∀ (M : Mm) (a j : Nat) (v : Int64) (b l : Nat), aJ (tJ M a j v) b l = if b = a then (if l = j then v else aJ M b l) else aJ M b l) ∧ (∀ (M : Mm) (a j : Nat) (v : Option Nat), aJ (tR M a j v) = aJ M) ∧ (∀ (M : Mm) (q k : Nat), aJ (nw M q k) = aJ M) ∧ (∀ (M : Mm) (q k n : Nat) (b l : Nat), aJ (na M q k n) b l = if b = q then 0 else aJ M b l) ∧ (∀ (M : Mm) (i a : Nat) (v : Int32), aR (sI M i a v) = aR M) ∧ (∀ (M : Mm) (i a : Nat) (v : Int64), aR (sJ M i a v) = aR M) ∧ (∀ (M : Mm) (i a : Nat) (v : Option Nat), aR (sR M i a v) = aR M) ∧ (∀ (M : Mm) (a j : Nat) (v : Int32), aR (tI M a j v) = aR M) ∧ (∀ (M : Mm) (a j : Nat) (v : Int64), aR (tJ M a j v) = aR M) ∧ (∀ (M : Mm) (a j : Nat) (v : Option Nat) (b l : Nat), aR (tR M a j v) b l = if b = a then (if l = j then v else aR M b l) else aR M b l) ∧ (∀ (M : Mm) (q k : Nat), aR (nw M q k) = aR M) ∧ (∀ (M : Mm) (q k n : Nat) (b l : Nat), aR (na M q k n) b l = if b = q then none else aR M b l) := ⟨ms_mK_sI, ms_mK_sJ, ms_mK_sR, ms_mK_tI, ms_mK_tJ, ms_mK_tR, ms_mK_nw, ms_mK_na, ms_mI_sI, ms_mI_sJ, ms_mI_sR, ms_mI_tI, ms_mI_tJ, ms_mI_tR, ms_mI_nw, ms_mI_na, ms_mJ_sI, ms_mJ_sJ, ms_mJ_sR, ms_mJ_tI, ms_mJ_tJ, ms_mJ_tR, ms_mJ_nw, ms_mJ_na, ms_mR_sI, ms_mR_sJ, ms_mR_sR, ms_mR_tI, ms_mR_tJ, ms_mR_tR, ms_mR_nw, ms_mR_na, ms_aN_sI, ms_aN_sJ, ms_aN_sR, ms_aN_tI, ms_aN_tJ, ms_aN_tR, ms_aN_nw, ms_aN_na, ms_aI_sI, ms_aI_sJ, ms_aI_sR, ms_aI_tI, ms_aI_tJ, ms_aI_tR, ms_aI_nw, ms_aI_na, ms_aJ_sI, ms_aJ_sJ, ms_aJ_sR, ms_aJ_tI, ms_aJ_tJ, ms_aJ_tR, ms_aJ_nw, ms_aJ_na, ms_aR_sI, ms_aR_sJ, ms_aR_sR, ms_aR_tI, ms_aR_tJ, ms_aR_tR, ms_aR_nw, ms_aR_na⟩
theorem t_X0_init {M : Mm} {x : Nat} {n : Int32} {K : Mm → Prop} (hx : mK M x = 1) (h0 : ¬ n < 0) (h8 : n.toNatClampNeg ≤ 800) (hK : ∀ q, mK M q = 0 → K (sR (na M q 16 n.toNatClampNeg) 0 x (some q))) : wp_X0_init M x n K := by
  unfold wp_X0_init
  refine ⟨h0, h8, fun q hq => ⟨?_, hK q hq⟩⟩
  have hne : x ≠ q := fun h => by rw [h, hq] at hx; cases hx
  simp [ms, hne, hx]
theorem f0 {b q k y : Nat} (h : (if b = q then k else y) = 0) (hk : k ≠ 0) : b ≠ q ∧ y = 0 := by
  by_cases e : b = q
  · rw [if_pos e] at h; exact absurd h hk
  · rw [if_neg e] at h; exact ⟨e, h⟩
/-- the class's object as its constructor leaves it -/
def InC (M : Mm) (x tb ta pb pa ob oa lb la : Nat) : Prop := mK M x = 11 ∧ mR M 640 x = some tb ∧ mR M 641 x = some pb ∧ mR M 642 x = some ob ∧ mR M 643 x = some lb ∧ mR M 644 x = none ∧ mI M 645 x = 0 ∧ (mK M tb = 1 ∧ mR M 0 tb = some ta ∧ mI M 1 tb = 0 ∧ mK M ta = 16 ∧ aN M ta = 600) ∧ (mK M pb = 1 ∧ mR M 0 pb = some pa ∧ mI M 1 pb = 0 ∧ mK M pa = 16 ∧ aN M pa = 800) ∧ (mK M ob = 4 ∧ mR M 192 ob = some oa ∧ mI M 193 ob = 300 ∧ mI M 194 ob = 0 ∧ mK M oa = 26 ∧ aN M oa = 1200) ∧ (mK M lb = 4 ∧ mR M 192 lb = some la ∧ mI M 193 lb = 200 ∧ mI M 194 lb = 0 ∧ mK M la = 26 ∧ aN M la = 800) ∧ tb ≠ pb ∧ ta ≠ pa ∧ ob ≠ lb ∧ oa ≠ la
theorem t_X3_init {M : Mm} {x : Nat} {n : Int32} {K : Mm → Prop} (hx : mK M x = 4) (h0 : ¬ (4 : Int32) * n < 0) (h8 : ((4 : Int32) * n).toNatClampNeg ≤ 1200) (hK : ∀ q, mK M q = 0 → K (sR (na (sI M 193 x n) q 26 ((4 : Int32) * n).toNatClampNeg) 192 x (some q))) : wp_X3_init M x n K := by
  unfold wp_X3_init
  refine ⟨hx, h0, h8, fun q hq => ⟨?_, hK q hq⟩⟩
  have hq' : mK M q = 0 := hq
  have hne : x ≠ q := fun h => by rw [h, hq'] at hx; cases hx
  simp [ms, hne, hx]
set_option maxHeartbeats 4000000 in
theorem t_X10_init {M : Mm} {x : Nat} {K : Mm → Prop} (hx : mK M x = 11) (hK : ∀ M1 tb ta pb pa ob oa lb la, InC M1 x tb ta pb pa ob oa lb la → (∀ a, mK M a ≠ 0 → a ≠ x → mK M1 a = mK M a ∧ (∀ f, mI M1 f a = mI M f a ∧ mJ M1 f a = mJ M f a ∧ mR M1 f a = mR M f a) ∧ aN M1 a = aN M a ∧ ∀ j, aI M1 a j = aI M a j ∧ aJ M1 a j = aJ M a j ∧ aR M1 a j = aR M a j) → K M1) : wp_X10_init M x K := by
  unfold wp_X10_init
  intro q1 h1
  have x1 : x ≠ q1 := fun h => by rw [h, h1] at hx; cases hx
  refine t_X0_init (by simp [ms]) (by decide) (by decide) (fun ta h2 => ?_)
  simp only [ms] at h2
  obtain ⟨n21, h2⟩ := f0 h2 (by decide)
  have x2 : x ≠ ta := fun h => by rw [h, h2] at hx; cases hx
  refine ⟨by simp [ms, x1, x2, hx], fun q9 h3 => ?_⟩
  simp only [ms] at h3
  obtain ⟨n31, h3⟩ := f0 h3 (by decide)
  obtain ⟨n32, h3⟩ := f0 h3 (by decide)
  have x3 : x ≠ q9 := fun h => by rw [h, h3] at hx; cases hx
  refine t_X0_init (by simp [ms]) (by decide) (by decide) (fun pa h4 => ?_)
  simp only [ms] at h4
  obtain ⟨n41, h4⟩ := f0 h4 (by decide)
  obtain ⟨n42, h4⟩ := f0 h4 (by decide)
  obtain ⟨n43, h4⟩ := f0 h4 (by decide)
  have x4 : x ≠ pa := fun h => by rw [h, h4] at hx; cases hx
  refine ⟨by simp [ms, x1, x2, x3, x4, hx], fun q17 h5 => ?_⟩
  simp only [ms] at h5
  obtain ⟨n51, h5⟩ := f0 h5 (by decide)
  obtain ⟨n52, h5⟩ := f0 h5 (by decide)
  obtain ⟨n53, h5⟩ := f0 h5 (by decide)
  obtain ⟨n54, h5⟩ := f0 h5 (by decide)
  have x5 : x ≠ q17 := fun h => by rw [h, h5] at hx; cases hx
  refine t_X3_init (by simp [ms]) (by decide) (by decide) (fun oa h6 => ?_)
  simp only [ms] at h6
  obtain ⟨n61, h6⟩ := f0 h6 (by decide)
  obtain ⟨n62, h6⟩ := f0 h6 (by decide)
  obtain ⟨n63, h6⟩ := f0 h6 (by decide)
  obtain ⟨n64, h6⟩ := f0 h6 (by decide)
  obtain ⟨n65, h6⟩ := f0 h6 (by decide)
  have x6 : x ≠ oa := fun h => by rw [h, h6] at hx; cases hx
  refine ⟨by simp [ms, x1, x2, x3, x4, x5, x6, hx], fun q25 h7 => ?_⟩
  simp only [ms] at h7
  obtain ⟨n71, h7⟩ := f0 h7 (by decide)
  obtain ⟨n72, h7⟩ := f0 h7 (by decide)
  obtain ⟨n73, h7⟩ := f0 h7 (by decide)
  obtain ⟨n74, h7⟩ := f0 h7 (by decide)
  obtain ⟨n75, h7⟩ := f0 h7 (by decide)
  obtain ⟨n76, h7⟩ := f0 h7 (by decide)
  have x7 : x ≠ q25 := fun h => by rw [h, h7] at hx; cases hx
  refine t_X3_init (by simp [ms]) (by decide) (by decide) (fun la h8 => ?_)
  simp only [ms] at h8
  obtain ⟨n81, h8⟩ := f0 h8 (by decide)
  obtain ⟨n82, h8⟩ := f0 h8 (by decide)
  obtain ⟨n83, h8⟩ := f0 h8 (by decide)
  obtain ⟨n84, h8⟩ := f0 h8 (by decide)
  obtain ⟨n85, h8⟩ := f0 h8 (by decide)
  obtain ⟨n86, h8⟩ := f0 h8 (by decide)
  obtain ⟨n87, h8⟩ := f0 h8 (by decide)
  have x8 : x ≠ la := fun h => by rw [h, h8] at hx; cases hx
  refine ⟨by simp [ms, x1, x2, x3, x4, x5, x6, x7, x8, hx], ?_⟩
  refine hK _ q1 ta q9 pa q17 oa q25 la ?_ ?_
  · have s1 : (600 : Int32).toNatClampNeg = 600 := by decide
    have s2 : (800 : Int32).toNatClampNeg = 800 := by decide
    have s3 : ((4 : Int32) * 300).toNatClampNeg = 1200 := by decide
    have s4 : ((4 : Int32) * 200).toNatClampNeg = 800 := by decide
    simp [InC, ms, x1, x2, x3, x4, x5, x6, x7, x8, x1.symm, x2.symm, x3.symm, x4.symm, x5.symm, x6.symm, x7.symm, x8.symm, n21, n31, n32, n41, n42, n43, n51, n52, n53, n54, n61, n62, n63, n64, n65, n71, n72, n73, n74, n75, n76, n81, n82, n83, n84, n85, n86, n87, n21.symm, n31.symm, n32.symm, n41.symm, n42.symm, n43.symm, n51.symm, n52.symm, n53.symm, n54.symm, n61.symm, n62.symm, n63.symm, n64.symm, n65.symm, n71.symm, n72.symm, n73.symm, n74.symm, n75.symm, n76.symm, n81.symm, n82.symm, n83.symm, n84.symm, n85.symm, n86.symm, n87.symm, hx, s1, s2, s3, s4]
  · intro a ha hax
    have g : ∀ q, mK M q = 0 → a ≠ q := fun q h e => ha (e ▸ h)
    simp [ms, hax, g _ h1, g _ h2, g _ h3, g _ h4, g _ h5, g _ h6, g _ h7, g _ h8]
