/-! the class: all spans of a window that have a row's time; rows are passed on -/
def fW (k w : Int32) (bs : List Int64) (x : List Ent × Int32) : List Ent × Int32 := bs.foldl (fun x b => match a_add x.1 b k w with
  | none => (x.1, x.2 + 1)
  | some l => (l, x.2)) x
theorem put_fold {s : Nat} {k w : Int32} {D : Dyn} : ∀ (bs : List Int64) (l : List Ent) (v : Int32), bs.foldl (fun D b => a_put1 D s k w b) (xlo (xwi D s l) (dlo D + v)) = xlo (xwi D s (fW k w bs (l, v)).1) (dlo D + (fW k w bs (l, v)).2)
  | [], l, v => rfl
  | b :: bs, l, v => by
    rw [List.foldl_cons]
    have e0 : dwi (xlo (xwi D s l) (dlo D + v)) s = l := by simp [dg]
    have e1 : fW k w (b :: bs) (l, v) = fW k w bs (match a_add l b k w with
      | none => (l, v + 1)
      | some l' => (l', v)) := rfl
    unfold a_put1
    rw [e0, e1]
    cases h : a_add l b k w with
    | none =>
      have e2 : xlo (xlo (xwi D s l) (dlo D + v)) (dlo (xlo (xwi D s l) (dlo D + v)) + 1) = xlo (xwi D s l) (dlo D + (v + 1)) := by
        rw [← Int32.add_assoc]
        rfl
      dsimp only
      rw [e2]
      exact put_fold bs l (v + 1)
    | some l' =>
      have e2 : xwi (xlo (xwi D s l) (dlo D + v)) s l' = xlo (xwi D s l') (dlo D + v) := by
        simp only [xwi, xlo, dmk, did, dps, dpr, dhr, dnow, dou, dla, dlo, dwi, dke, dti, Prod.mk.injEq, true_and, and_true]
        funext q
        by_cases a : q = s <;> simp [a]
      dsimp only
      rw [e2]
      exact put_fold bs l' v
theorem put_eq {C : Cfg} {D : Dyn} {s : Nat} {t : Int64} {k w : Int32} : a_put C D s t k w = xlo (xwi D s (fW k w (a_begs t (co1 C s) (co2 C s)) (dwi D s, 0)).1) (dlo D + (fW k w (a_begs t (co1 C s) (co2 C s)) (dwi D s, 0)).2) := by
  rw [← put_fold, Int32.add_zero, xwi_self]
  rfl
theorem plus_0 {t : Int64} (h : HT t) : plusF t 0 = t := by
  unfold plusF
  have e1 : (-9000000000000000000 : Int64).toInt = -9000000000000000000 := by decide
  have e2 : (9000000000000000000 : Int64).toInt = 9000000000000000000 := by decide
  have e3 : (8000000000000000000 : Int64).toInt = 8000000000000000000 := by decide
  have e4 : (-8000000000000000000 : Int64).toInt = -8000000000000000000 := by decide
  rw [if_neg (fun e => by have := h.1; rw [e, e1] at this; omega), if_neg (fun e => by have := h.2; rw [e, e2] at this; omega), Int64.add_zero, if_pos (Int64.le_iff_toInt_le.mpr (by rw [e3]; exact h.2)), if_pos (Int64.le_iff_toInt_le.mpr (by rw [e4]; exact h.1))]
section K8
variable {B M : Mm} {L : Nat → Nat → Nat} {C : Cfg} {D : Dyn}
theorem c_addL {K : Int32 → Mm → Prop} {s : Nat} {t : Int64} {k w : Int32} (hs : s < cn C) (h5 : ckd C s = 5) : ∀ (j : Nat) (M : Mm) (l : List Ent) (v : Int32), j < 1000 → CR B M L C (xwi D s l) → (∀ M1, CR B M1 L C (xwi D s (fW k w ((begL t (co2 C s) j).filter (fun b => decide (t ≤ b + co1 C s - 1))) (l, v)).1) → K (fW k w ((begL t (co2 C s) j).filter (fun b => decide (t ≤ b + co1 C s - 1))) (l, v)).2 M1) → lp_X9_add_32 (L 16 s) K (j + 2) t k w (fdF t (co2 C s) * co2 C s) v (nI j) M := by
  have xx : ∀ (l l' : List Ent), xwi (xwi D s l) s l' = xwi D s l' := fun l l' => by
    simp only [xwi, dmk, did, dps, dpr, dhr, dnow, dou, dla, dlo, dwi, dke, dti, Prod.mk.injEq, true_and, and_true]
    funext q
    by_cases a : q = s <;> simp [a]
  -- one span
  have one : ∀ (j : Nat) (R : Int64 → Int32 → Int32 → Int64 → Int32 → Int32 → Mm → Prop) (M : Mm) (l : List Ent) (v : Int32), j < 1000 → CR B M L C (xwi D s l) → (∀ (M1 : Mm) (l1 : List Ent) (v1 : Int32), CR B M1 L C (xwi D s l1) → (l1, v1) = fW k w ([bj t (co2 C s) j].filter (fun b => decide (t ≤ b + co1 C s - 1))) (l, v) → R t k w (fdF t (co2 C s) * co2 C s) v1 (nI j + (-1)) M1) → mK M (L 16 s) = 10 ∧ (((fdF t (co2 C s) * co2 C s - (nI j).toInt64 * mJ M 577 (L 16 s)) + mJ M 576 (L 16 s) - 1 < t → bk_X9_add_79 (L 16 s) R K t k w (fdF t (co2 C s) * co2 C s) v (nI j) M) ∧ (¬ (fdF t (co2 C s) * co2 C s - (nI j).toInt64 * mJ M 577 (L 16 s)) + mJ M 576 (L 16 s) - 1 < t → wp_X9_addTo M (L 16 s) (fdF t (co2 C s) * co2 C s - (nI j).toInt64 * mJ M 577 (L 16 s)) k w (fun r2 M3 => (¬ r2 = 0 → bk_X9_add_79 (L 16 s) R K t k w (fdF t (co2 C s) * co2 C s) v (nI j) M3) ∧ (r2 = 0 → bk_X9_add_79 (L 16 s) R K t k w (fdF t (co2 C s) * co2 C s) (v + 1) (nI j) M3)))) := fun j R M l v hj h hR => by
    have F := CWF h hs h5
    have eb : fdF t (co2 C s) * co2 C s - (nI j).toInt64 * co2 C s = bj t (co2 C s) j := by
      rw [nI_l (by omega)]; rfl
    rw [F.2.2.1, F.2.1, eb]
    refine ⟨F.1, fun z => ?_, fun z => ?_⟩
    · refine hR M l v h ?_
      have : [bj t (co2 C s) j].filter (fun b => decide (t ≤ b + co1 C s - 1)) = [] := by simp [Int64.not_le.mpr z]
      rw [this]; rfl
    · have ef : [bj t (co2 C s) j].filter (fun b => decide (t ≤ b + co1 C s - 1)) = [bj t (co2 C s) j] := by simp [Int64.not_lt.mp z]
      rw [ef] at hR
      have ed : dwi (xwi D s l) s = l := by simp [dg]
      refine c_addTo h hs h5 (fun hn => ⟨fun q => absurd rfl q, fun _ => ?_⟩) (fun l' M1 hl' h1 => ⟨fun _ => ?_, fun q => absurd q (by decide)⟩)
      · rw [ed] at hn
        refine hR M l (v + 1) h ?_
        show _ = (match a_add l (bj t (co2 C s) j) k w with
          | none => (l, v + 1)
          | some l' => (l', v))
        rw [hn]
      · rw [ed] at hl'
        rw [xx] at h1
        refine hR M1 l' v h1 ?_
        show _ = (match a_add l (bj t (co2 C s) j) k w with
          | none => (l, v + 1)
          | some l' => (l', v))
        rw [hl']
  intro j
  induction j with
  | zero =>
    intro M l v _ h hK
    rw [lp_X9_add_32]
    refine ⟨fun z => absurd z (by decide), fun _ => one 0 _ M l v (by omega) h (fun M1 l1 v1 h1 e1 => ?_)⟩
    rw [lp_X9_add_32]
    refine ⟨fun _ => ?_, fun z => absurd (by decide) z⟩
    have := hK M1
    rw [show begL t (co2 C s) 0 = [bj t (co2 C s) 0] from rfl, ← e1] at this
    exact this h1
  | succ j ih =>
    intro M l v hj h hK
    rw [lp_X9_add_32]
    refine ⟨fun z => absurd z (nI_pos (by omega)), fun _ => one (j + 1) _ M l v hj h (fun M1 l1 v1 h1 e1 => ?_)⟩
    rw [show nI (j + 1) + (-1) = nI j by rw [show nI (j + 1) + (-1) = nI (j + 1) - 1 from (Int32.sub_eq_add_neg ..).symm]; exact nI_pred j]
    refine ih M1 l1 v1 (by omega) h1 (fun M2 h2 => ?_)
    have e2 : fW k w ((begL t (co2 C s) (j + 1)).filter (fun b => decide (t ≤ b + co1 C s - 1))) (l, v) = fW k w ((begL t (co2 C s) j).filter (fun b => decide (t ≤ b + co1 C s - 1))) (l1, v1) := by
      rw [e1]
      show fW k w ((bj t (co2 C s) (j + 1) :: begL t (co2 C s) j).filter _) (l, v) = _
      rw [show bj t (co2 C s) (j + 1) :: begL t (co2 C s) j = [bj t (co2 C s) (j + 1)] ++ begL t (co2 C s) j from rfl, List.filter_append]
      unfold fW
      rw [List.foldl_append]
    rw [e2] at hK
    exact hK M2 h2
theorem c_add {K : Int32 → Mm → Prop} {s : Nat} {t : Int64} {k w : Int32} (hW : WC C) (h : CR B M L C D) (hs : s < cn C) (h5 : ckd C s = 5) (hK : ∀ M1, CR B M1 L C (xwi D s (fW k w (a_begs t (co1 C s) (co2 C s)) (dwi D s, 0)).1) → K (fW k w (a_begs t (co1 C s) (co2 C s)) (dwi D s, 0)).2 M1) : wp_X9_add M (L 16 s) t k w K := by
  have F := CWF h hs h5
  obtain ⟨w1, w2, w3, w4⟩ := (hW.2.2.2 s hs).2.2.2.2.2.2.2.2.2.1 h5
  have hne : ¬ co2 C s = 0 := fun e => by
    have : (co2 C s).toInt = 0 := by rw [e]; decide
    omega
  have h1 : (1 : Int64) ≤ co2 C s := Int64.le_iff_toInt_le.mpr (by rw [show (1 : Int64).toInt = 1 by decide]; exact w1)
  have ea : a_begs t (co1 C s) (co2 C s) = (begL t (co2 C s) 3).filter (fun b => decide (t ≤ b + co1 C s - 1)) := rfl
  unfold wp_X9_add
  rw [F.2.2.1]
  refine ⟨F.1, fun _ => ?_, fun z => absurd h1 z⟩
  rw [e_fd hne]
  refine ⟨F.1, 5, ?_⟩
  rw [F.2.2.1]
  refine c_addL hs h5 3 M (dwi D s) 0 (by omega) (by rw [xwi_self]; exact h) ?_
  rw [← ea]
  exact hK
end K8
