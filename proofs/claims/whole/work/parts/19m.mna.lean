/-- two rows of n places in a new outer array -/
def nm2 (M : Mm) (q r0 r1 kdo kdi n : Nat) : Mm := tR (tR (na (na (na M q kdo 2) r0 kdi n) r1 kdi n) q 0 (some r0)) q 1 (some r1)
theorem w_nm2 {t : Tys} {M : Mm} {q r0 r1 kdo kdi n tyo tyi : Nat} (ho : 16 ≤ kdo) (hi : 16 ≤ kdi) (hto : kdo % 8 = tyo) (hti : kdi % 8 = tyi) (h01 : q ≠ r0) (h02 : q ≠ r1) (h12 : r0 ≠ r1) :
    wF t (nm2 M q r0 r1 kdo kdi n) q = fA t tyo 2 (fun _ => 0) (fun _ => 0) (fun i => if i = 1 then some r1 else if i = 0 then some r0 else none) ∧ wF t (nm2 M q r0 r1 kdo kdi n) r0 = fA t tyi n (fun _ => 0) (fun _ => 0) (fun _ => none) ∧ wF t (nm2 M q r0 r1 kdo kdi n) r1 = fA t tyi n (fun _ => 0) (fun _ => 0) (fun _ => none) ∧ ∀ b, b ≠ q → b ≠ r0 → b ≠ r1 → wF t (nm2 M q r0 r1 kdo kdi n) b = wF t M b := by
  refine ⟨?_, ?_, ?_, fun b hb h0 h1 => wF_same (by simp [nm2, tR, na, mK, va_up, hb, h0, h1]) (fun _ => rfl) (fun _ => rfl) (fun _ => rfl) (by simp [nm2, tR, na, aN, va_up, hb, h0, h1]) (fun i => by simp [nm2, tR, na, aI, zr, hb, h0, h1]) (fun i => by simp [nm2, tR, na, aJ, zr, hb, h0, h1]) (fun i => by simp [nm2, tR, na, aR, zr, x2, hb, h0, h1])⟩
  · rw [wF_a (k := kdo) (by simp [nm2, tR, na, mK, va_up, h01, h02]) ho hto]
    congr 1
    · simp [nm2, tR, na, aN, va_up, h01, h02]
    · funext i; simp [nm2, tR, na, aI, zr, h01, h02]
    · funext i; simp [nm2, tR, na, aJ, zr, h01, h02]
    · funext i; simp [nm2, tR, na, aR, zr, x2, h01, h02]
  · rw [wF_a (k := kdi) (by simp [nm2, tR, na, mK, va_up, h12]) hi hti]
    congr 1
    · simp [nm2, tR, na, aN, va_up, h12]
    · funext i; simp [nm2, tR, na, aI, zr]
    · funext i; simp [nm2, tR, na, aJ, zr]
    · funext i; simp [nm2, tR, na, aR, zr, x2, h01.symm]
  · rw [wF_a (k := kdi) (by simp [nm2, tR, na, mK, va_up]) hi hti]
    congr 1
    · simp [nm2, tR, na, aN, va_up]
    · funext i; simp [nm2, tR, na, aI, zr]
    · funext i; simp [nm2, tR, na, aJ, zr]
    · funext i; simp [nm2, tR, na, aR, zr, x2, h02.symm]
section ZMN
variable {X : Cx} {cc : ByteArray} {own : String} {rm : Room} {M : Mm} {ce sl pc : Nat} {lv : List (Nat × Value)} {rest : List Value}
theorem z_mna (hX : Ok X cc own rm) {idx kdo kdi tyo tyi : Nat} {ty : FieldType} (hover : ∀ t A s, Nst t A s → va_AOA ty s) (w1 : Cond.classLink own idx ("[" ++ (FieldType.array ty).toString) ∈ wjU) (w2 : Cond.arrayClass ty ∈ wjU) (hq : ty = .int ∧ tyo = 5 ∧ tyi = 1 ∨ ty = .long ∧ tyo = 6 ∧ tyi = 2) (ho : 16 ≤ kdo) (hi : 16 ≤ kdi) (hto : kdo % 8 = tyo) (hti : kdi % 8 = tyi) (hdg : decode cc pc = .ok (.multianewarray idx 2, 4)) (hce : ce + 3 ≤ rm.cells) (hsl : sl + 14 ≤ rm.slots)
    (k : ∀ q r0 r1, mK M q = 0 → mK M r0 = 0 → mK M r1 = 0 → q ≠ r0 → q ≠ r1 → r0 ≠ r1 → Z X (nm2 M q r0 r1 kdo kdi 6) (ce + 3) (sl + 14) (pc + 4) lv (va_rf (some q) :: rest)) : Z X M ce sl pc lv (.int 6 :: .int 2 :: rest) := by
  obtain ⟨p, l, e, R, s, m, args, below, meth, c, Q, D, t, A, nL⟩ := X
  obtain ⟨hx, hb, hml, hown, hts, hA, hK, hlk, hRm, hNs⟩ := hX
  intro L H locs ls hl hW
  subst hRm
  obtain ⟨hP, hD, hS, hL⟩ := hW
  have fin : ∀ (q : Nat) (r : Nat → Nat) (cA : ClassId) (H1 : Heap) (z : vp_A) (cy : ClassId), (∀ i j : Nat, i < 2 → j < 2 → r i = r j → i = j) → (∀ i : Nat, i < 2 → r i ∉ L) →
      va_P D vwCl (([] ++ [(q, .inl (cA, 2, .inr (.inr (.inr (.inr (fun i => if i < 2 then some (r i) else none))))))]) ++ va_pl (L ++ (List.range 2).map r) (vr_up (wF t M) ((List.range 2).map r) (.inl (cy, z)))) H1 → va_D A (([] ++ [(q, .inl (cA, 2, .inr (.inr (.inr (.inr (fun i => if i < 2 then some (r i) else none))))))]) ++ va_pl (L ++ (List.range 2).map r) (vr_up (wF t M) ((List.range 2).map r) (.inl (cy, z)))) → va_S A s.heap H1 locs →
      fA t tyo 2 (fun _ => 0) (fun _ => 0) (fun i => if i = 1 then some (r 1) else if i = 0 then some (r 0) else none) = .inl (cA, 2, .inr (.inr (.inr (.inr (fun i => if i < 2 then some (r i) else none))))) → fA t tyi 6 (fun _ => 0) (fun _ => 0) (fun _ => none) = .inl (cy, z) →
      W p l e R s m args below meth c H1 locs (ce + 3) (sl + 14) Q (F0 m (pc + 4) ls (.ref q :: rest)) := by
    intro q r cA H1 z cy hinj hnL hP1 hD1 hS1 hfo hfi
    have hr2 : (List.range 2).map r = [r 0, r 1] := rfl
    rw [hr2] at hP1 hD1
    have hne : ∀ a, a ∈ L ++ [r 0, r 1] → q ≠ a := fun a ha hqa => by
      obtain ⟨i, hi9⟩ := List.getElem?_of_mem (List.mem_map.mpr ⟨a, ha, rfl⟩ : (a, vr_up (wF t M) [r 0, r 1] (.inl (cy, z)) a) ∈ va_pl (L ++ [r 0, r 1]) (vr_up (wF t M) [r 0, r 1] (.inl (cy, z))))
      have h1 := hD1.1 0 (i + 1) _ (a, vr_up (wF t M) [r 0, r 1] (.inl (cy, z)) a) rfl (by show (_ :: va_pl _ _)[i + 1]? = _; rw [List.getElem?_cons_succ]; exact hi9) hqa
      omega
    have h01 : q ≠ r 0 := hne _ (by simp)
    have h02 : q ≠ r 1 := hne _ (by simp)
    have h12 : r 0 ≠ r 1 := fun h => by have := hinj 0 1 (by omega) (by omega) h; omega
    have hqL : q ∉ L := fun h => hne q (by simp [h]) rfl
    have z0 : ∀ a, a ∉ L → mK M a = 0 := fun a ha => Classical.byContradiction (fun h => ha ((hL a).mp h))
    obtain ⟨e0, e1, e2, e3⟩ := w_nm2 (t := t) (M := M) (n := 6) ho hi hto hti h01 h02 h12
    have ew : (([] ++ [(q, .inl (cA, 2, .inr (.inr (.inr (.inr (fun i => if i < 2 then some (r i) else none))))))]) ++ va_pl (L ++ [r 0, r 1]) (vr_up (wF t M) [r 0, r 1] (.inl (cy, z))) : va_W) = va_pl (q :: (L ++ [r 0, r 1])) (wF t (nm2 M q (r 0) (r 1) kdo kdi 6)) := by
      show (q, _) :: va_pl (L ++ [r 0, r 1]) _ = (q, _) :: va_pl (L ++ [r 0, r 1]) _
      rw [e0, hfo]
      congr 1
      apply List.map_congr_left
      intro a ha
      congr 1
      by_cases ha0 : a = r 0
      · subst ha0; rw [e1, hfi]; exact vr_up_in (by simp)
      · by_cases ha1 : a = r 1
        · subst ha1; rw [e2, hfi]; exact vr_up_in (by simp)
        · rw [e3 a (fun h => hne a ha h.symm) ha0 ha1]; exact vr_up_ne (by simp [ha0, ha1])
    rw [ew] at hP1 hD1
    exact k q (r 0) (r 1) (z0 q hqL) (z0 _ (hnL 0 (by omega))) (z0 _ (hnL 1 (by omega))) h01 h02 h12 (q :: (L ++ [r 0, r 1])) H1 locs ls hl ⟨hP1, hD1, hS1, fun a => by
      by_cases a0 : a = q
      · subst a0; simp [nm2, tR, na, mK, va_up, h01, h02]; omega
      · by_cases a1 : a = r 0
        · subst a1; simp [nm2, tR, na, mK, va_up, h12]; omega
        · by_cases a2 : a = r 1
          · subst a2; simp [nm2, tR, na, mK, va_up]; omega
          · simp [nm2, tR, na, mK, va_up, a0, a1, a2]; exact hL a⟩
  have hPx : va_P D vwCl ([] ++ va_pl L (wF t M)) H := hP
  have hDx : va_D A ([] ++ va_pl L (wF t M)) := hD
  rcases hq with ⟨rfl, rfl, rfl⟩ | ⟨rfl, rfl, rfl⟩
  · refine va_mna (X := []) (ty := .int) (cy := t.2.1) (N' := 2) (K' := 6) (z := (6, .inl (fun _ => 0))) hx hb hown (hts _ w1) (hover t A s hNs) (hts _ w2) (hK.2 1 _ rfl).2 hK hPx hDx hS hA (by decide) (by decide) (by decide) (by decide) (by decide) (by decide) (by decide) (by decide) (by decide) hce hsl (fun c => by show ({ cls := c, slots := Array.replicate 6 _, vm := .none } : Cell) = _; rw [arrV_new]; rfl) hdg (fun q r cA H1 h1 h2 hK1 hP1 hD1 hS1 => ?_)
    have hRA1 : va_RA s cA (.array .int) := (hK1.2 (tysL t).length (cA, .array .int) (by simp)).2
    have hRA2 : va_RA s t.2.2.2.2.2.1 (.array .int) := (hK.2 5 _ rfl).2
    have hcA : cA = t.2.2.2.2.2.1 := Option.some.inj (Eq.trans (Eq.symm hRA1) hRA2)
    exact fin q r cA H1 _ _ h1 h2 hP1 hD1 hS1 (by rw [hcA]; show Sum.inl _ = _; congr 7; funext i; by_cases i1 : i = 1 <;> by_cases i0 : i = 0 <;> simp [i1, i0] <;> omega) rfl
  · refine va_mna (X := []) (ty := .long) (cy := t.2.2.1) (N' := 2) (K' := 6) (z := (6, .inr (.inl (fun _ => 0)))) hx hb hown (hts _ w1) (hover t A s hNs) (hts _ w2) (hK.2 2 _ rfl).2 hK hPx hDx hS hA (by decide) (by decide) (by decide) (by decide) (by decide) (by decide) (by decide) (by decide) (by decide) hce hsl (fun c => by show ({ cls := c, slots := Array.replicate 6 _, vm := .none } : Cell) = _; rw [arrV_new]; rfl) hdg (fun q r cA H1 h1 h2 hK1 hP1 hD1 hS1 => ?_)
    have hRA1 : va_RA s cA (.array .long) := (hK1.2 (tysL t).length (cA, .array .long) (by simp)).2
    have hRA2 : va_RA s t.2.2.2.2.2.2.1 (.array .long) := (hK.2 6 _ rfl).2
    have hcA : cA = t.2.2.2.2.2.2.1 := Option.some.inj (Eq.trans (Eq.symm hRA1) hRA2)
    exact fin q r cA H1 _ _ h1 h2 hP1 hD1 hS1 (by rw [hcA]; show Sum.inl _ = _; congr 7; funext i; by_cases i1 : i = 1 <;> by_cases i0 : i = 0 <;> simp [i1, i0] <;> omega) rfl
end ZMN
