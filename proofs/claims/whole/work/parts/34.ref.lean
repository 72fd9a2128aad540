/-! the reference's state by itself: scalars by field number, arrays by field number and place -/
abbrev St : Type := (Nat → Int32) × (Nat → Int64) × (Nat → Nat → Int32) × (Nat → Nat → Int64)
def gI (S : St) (f : Nat) : Int32 := S.1 f
def gJ (S : St) (f : Nat) : Int64 := S.2.1 f
def vI (S : St) (f j : Nat) : Int32 := S.2.2.1 f j
def vJ (S : St) (f j : Nat) : Int64 := S.2.2.2 f j
def pI (S : St) (f : Nat) (v : Int32) : St := (fun g => if g = f then v else S.1 g, S.2.1, S.2.2.1, S.2.2.2)
def pJ (S : St) (f : Nat) (v : Int64) : St := (S.1, fun g => if g = f then v else S.2.1 g, S.2.2.1, S.2.2.2)
def wI (S : St) (f j : Nat) (v : Int32) : St := (S.1, S.2.1, fun g k => if g = f then (if k = j then v else S.2.2.1 g k) else S.2.2.1 g k, S.2.2.2)
def wJ (S : St) (f j : Nat) (v : Int64) : St := (S.1, S.2.1, S.2.2.1, fun g k => if g = f then (if k = j then v else S.2.2.2 g k) else S.2.2.2 g k)
theorem sg : (∀ (S : St) (f g : Nat) (v : Int32), gI (pI S f v) g = if g = f then v else gI S g) ∧ (∀ (S : St) (f g : Nat) (u : Int64), gI (pJ S f u) g = gI S g) ∧ (∀ (S : St) (f g j : Nat) (v : Int32), gI (wI S f j v) g = gI S g) ∧ (∀ (S : St) (f g j : Nat) (u : Int64), gI (wJ S f j u) g = gI S g) ∧ (∀ (S : St) (f g : Nat) (v : Int32), gJ (pI S f v) g = gJ S g) ∧ (∀ (S : St) (f g : Nat) (u : Int64), gJ (pJ S f u) g = if g = f then u else gJ S g) ∧ (∀ (S : St) (f g j : Nat) (v : Int32), gJ (wI S f j v) g = gJ S g) ∧ (∀ (S : St) (f g j : Nat) (u : Int64), gJ (wJ S f j u) g = gJ S g) ∧ (∀ (S : St) (f g k : Nat) (v : Int32), vI (pI S f v) g k = vI S g k) ∧ (∀ (S : St) (f g k : Nat) (u : Int64), vI (pJ S f u) g k = vI S g k) ∧ (∀ (S : St) (f g j k : Nat) (v : Int32), vI (wI S f j v) g k = if g = f then (if k = j then v else vI S g k) else vI S g k) ∧ (∀ (S : St) (f g j k : Nat) (u : Int64), vI (wJ S f j u) g k = vI S g k) ∧ (∀ (S : St) (f g k : Nat) (v : Int32), vJ (pI S f v) g k = vJ S g k) ∧ (∀ (S : St) (f g k : Nat) (u : Int64), vJ (pJ S f u) g k = vJ S g k) ∧ (∀ (S : St) (f g j k : Nat) (v : Int32), vJ (wI S f j v) g k = vJ S g k) ∧ (∀ (S : St) (f g j k : Nat) (u : Int64), vJ (wJ S f j u) g k = if g = f then (if k = j then u else vJ S g k) else vJ S g k) := ⟨fun _ _ _ _ => rfl, fun _ _ _ _ => rfl, fun _ _ _ _ _ => rfl, fun _ _ _ _ _ => rfl, fun _ _ _ _ => rfl, fun _ _ _ _ => rfl, fun _ _ _ _ _ => rfl, fun _ _ _ _ _ => rfl, fun _ _ _ _ _ => rfl, fun _ _ _ _ _ => rfl, fun _ _ _ _ _ _ => rfl, fun _ _ _ _ _ _ => rfl, fun _ _ _ _ _ => rfl, fun _ _ _ _ _ => rfl, fun _ _ _ _ _ _ => rfl, fun _ _ _ _ _ _ => rfl⟩
def idOf : Nat → Nat := fun k => match k with
  | 120 => 705
  | 129 => 715
  | 138 => 716
  | 145 => 717
  | 153 => 718
  | 163 => 719
  | 170 => 720
  | 178 => 721
  | 185 => 722
  | 193 => 723
  | 201 => 724
  | 209 => 725
  | 217 => 726
  | 227 => 727
  | 234 => 728
  | 241 => 729
  | 250 => 733
  | 259 => 734
  | 265 => 735
  | 274 => 736
  | 281 => 737
  | 290 => 740
  | 298 => 742
  | 305 => 744
  | 314 => 745
  | 321 => 746
  | 329 => 747
  | 337 => 748
  | 346 => 749
  | 353 => 750
  | 361 => 751
  | 369 => 753
  | 378 => 754
  | 387 => 755
  | 395 => 758
  | 400 => 759
  | _ => 0
def SH (M : Mm) (m : Nat) (ra : Nat → Nat) : Prop := mK M m = 12 ∧ ∀ r ∈ tabM, mR M r.1 m = some (ra r.1) ∧ mK M (ra r.1) = r.2.1 ∧ aN M (ra r.1) = r.2.2
abbrev rA (M : Mm) (ra : Nat → Nat) (a : Nat) : Prop := idOf (mK M a) ≠ 0 ∧ a = ra (idOf (mK M a))
/-- the memory M with the state S at the reference's places -/
def pM (M : Mm) (m : Nat) (ra : Nat → Nat) (S : St) : Mm := (mK M, fun f a => if a = m then gI S f else mI M f a, fun f a => if a = m then gJ S f else mJ M f a, mR M, aN M, fun a j => if rA M ra a then vI S (idOf (mK M a)) j else aI M a j, fun a j => if rA M ra a then vJ S (idOf (mK M a)) j else aJ M a j, aR M)
def cont (M : Mm) (m : Nat) (ra : Nat → Nat) : St := (fun f => mI M f m, fun f => mJ M f m, fun f j => aI M (ra f) j, fun f j => aJ M (ra f) j)
section PM
variable {M : Mm} {m : Nat} {ra : Nat → Nat} {S : St}
theorem p_mK : mK (pM M m ra S) = mK M := rfl
theorem p_mR : mR (pM M m ra S) = mR M := rfl
theorem p_aN : aN (pM M m ra S) = aN M := rfl
theorem p_aR : aR (pM M m ra S) = aR M := rfl
theorem p_mI {f : Nat} : mI (pM M m ra S) f m = gI S f := if_pos rfl
theorem p_mJ {f : Nat} : mJ (pM M m ra S) f m = gJ S f := if_pos rfl
theorem p_mIo {f a : Nat} (h : a ≠ m) : mI (pM M m ra S) f a = mI M f a := if_neg h
theorem p_mJo {f a : Nat} (h : a ≠ m) : mJ (pM M m ra S) f a = mJ M f a := if_neg h
theorem p_aIo {a j : Nat} (h : idOf (mK M a) = 0) : aI (pM M m ra S) a j = aI M a j := if_neg (fun q => q.1 h)
theorem p_aJo {a j : Nat} (h : idOf (mK M a) = 0) : aJ (pM M m ra S) a j = aJ M a j := if_neg (fun q => q.1 h)
theorem p_aI {f j : Nat} (h : idOf (mK M (ra f)) = f) (h0 : f ≠ 0) : aI (pM M m ra S) (ra f) j = vI S f j := by
  have q : rA M ra (ra f) := ⟨by rw [h]; exact h0, by rw [h]⟩
  show (if rA M ra (ra f) then vI S (idOf (mK M (ra f))) j else aI M (ra f) j) = _
  rw [if_pos q, h]
theorem p_aJ {f j : Nat} (h : idOf (mK M (ra f)) = f) (h0 : f ≠ 0) : aJ (pM M m ra S) (ra f) j = vJ S f j := by
  have q : rA M ra (ra f) := ⟨by rw [h]; exact h0, by rw [h]⟩
  show (if rA M ra (ra f) then vJ S (idOf (mK M (ra f))) j else aJ M (ra f) j) = _
  rw [if_pos q, h]
theorem p_sI {f : Nat} {v : Int32} : sI (pM M m ra S) f m v = pM M m ra (pI S f v) := by
  refine Prod.ext rfl (Prod.ext (funext fun g => funext fun a => ?_) rfl)
  show (if a = m then (if g = f then v else (if a = m then gI S g else mI M g a)) else (if a = m then gI S g else mI M g a)) = if a = m then (if g = f then v else gI S g) else mI M g a
  by_cases ha : a = m <;> by_cases hg : g = f <;> simp [ha, hg]
theorem p_sJ {f : Nat} {v : Int64} : sJ (pM M m ra S) f m v = pM M m ra (pJ S f v) := by
  refine Prod.ext rfl (Prod.ext rfl (Prod.ext (funext fun g => funext fun a => ?_) rfl))
  show (if a = m then (if g = f then v else (if a = m then gJ S g else mJ M g a)) else (if a = m then gJ S g else mJ M g a)) = if a = m then (if g = f then v else gJ S g) else mJ M g a
  by_cases ha : a = m <;> by_cases hg : g = f <;> simp [ha, hg]
theorem p_tI {f j : Nat} {v : Int32} (h : idOf (mK M (ra f)) = f) (h0 : f ≠ 0) : tI (pM M m ra S) (ra f) j v = pM M m ra (wI S f j v) := by
  refine Prod.ext rfl (Prod.ext rfl (Prod.ext rfl (Prod.ext rfl (Prod.ext rfl (Prod.ext (funext fun a => funext fun i => ?_) rfl)))))
  show (if a = ra f then (if i = j then v else aI (pM M m ra S) a i) else aI (pM M m ra S) a i) = aI (pM M m ra (wI S f j v)) a i
  by_cases ha : a = ra f
  · subst ha
    rw [p_aI h h0, p_aI h h0, if_pos rfl]
    show _ = (if f = f then (if i = j then v else vI S f i) else vI S f i)
    rw [if_pos rfl]
  · rw [if_neg ha]
    show (if rA M ra a then vI S (idOf (mK M a)) i else aI M a i) = if rA M ra a then vI (wI S f j v) (idOf (mK M a)) i else aI M a i
    by_cases q : rA M ra a
    · have hf : idOf (mK M a) ≠ f := fun e => ha (by rw [q.2, e])
      rw [if_pos q, if_pos q]
      show _ = (if idOf (mK M a) = f then _ else _)
      rw [if_neg hf]
      rfl
    · rw [if_neg q, if_neg q]
theorem p_tJ {f j : Nat} {v : Int64} (h : idOf (mK M (ra f)) = f) (h0 : f ≠ 0) : tJ (pM M m ra S) (ra f) j v = pM M m ra (wJ S f j v) := by
  refine Prod.ext rfl (Prod.ext rfl (Prod.ext rfl (Prod.ext rfl (Prod.ext rfl (Prod.ext rfl (Prod.ext (funext fun a => funext fun i => ?_) rfl))))))
  show (if a = ra f then (if i = j then v else aJ (pM M m ra S) a i) else aJ (pM M m ra S) a i) = aJ (pM M m ra (wJ S f j v)) a i
  by_cases ha : a = ra f
  · subst ha
    rw [p_aJ h h0, p_aJ h h0, if_pos rfl]
    show _ = (if f = f then (if i = j then v else vJ S f i) else vJ S f i)
    rw [if_pos rfl]
  · rw [if_neg ha]
    show (if rA M ra a then vJ S (idOf (mK M a)) i else aJ M a i) = if rA M ra a then vJ (wJ S f j v) (idOf (mK M a)) i else aJ M a i
    by_cases q : rA M ra a
    · have hf : idOf (mK M a) ≠ f := fun e => ha (by rw [q.2, e])
      rw [if_pos q, if_pos q]
      show _ = (if idOf (mK M a) = f then _ else _)
      rw [if_neg hf]
      rfl
    · rw [if_neg q, if_neg q]
theorem p_self : pM M m ra (cont M m ra) = M := by
  refine Prod.ext rfl (Prod.ext (funext fun g => funext fun a => ?_) (Prod.ext (funext fun g => funext fun a => ?_) (Prod.ext rfl (Prod.ext rfl (Prod.ext (funext fun a => funext fun i => ?_) (Prod.ext (funext fun a => funext fun i => ?_) rfl))))))
  · show (if a = m then mI M g m else mI M g a) = mI M g a
    by_cases ha : a = m
    · rw [if_pos ha, ha]
    · rw [if_neg ha]
  · show (if a = m then mJ M g m else mJ M g a) = mJ M g a
    by_cases ha : a = m
    · rw [if_pos ha, ha]
    · rw [if_neg ha]
  · show (if rA M ra a then aI M (ra (idOf (mK M a))) i else aI M a i) = aI M a i
    by_cases q : rA M ra a
    · rw [if_pos q, ← q.2]
    · rw [if_neg q]
  · show (if rA M ra a then aJ M (ra (idOf (mK M a))) i else aJ M a i) = aJ M a i
    by_cases q : rA M ra a
    · rw [if_pos q, ← q.2]
    · rw [if_neg q]
theorem FK (h : SH M m ra) : mK M m = 12 := h.1
theorem F705 (h : SH M m ra) : mR M 705 m = some (ra 705) ∧ (∀ S, isA (pM M m ra S) (ra 705) 0) ∧ aN M (ra 705) = 600 ∧ (∀ S j, aI (pM M m ra S) (ra 705) j = vI S 705 j) ∧ (∀ S j v, tI (pM M m ra S) (ra 705) j v = pM M m ra (wI S 705 j v)) := by
  have q : mR M 705 m = some (ra 705) ∧ mK M (ra 705) = 120 ∧ aN M (ra 705) = 600 := h.2 (705, 120, 600) (List.mem_of_getElem? (i := 0) rfl)
  have e : idOf (mK M (ra 705)) = 705 := by rw [q.2.1]; rfl
  exact ⟨q.1, fun S => ⟨by rw [p_mK, q.2.1]; decide, by rw [p_mK, q.2.1]⟩, q.2.2, fun S j => p_aI e (by decide), fun S j v => p_tI e (by decide)⟩
theorem F715 (h : SH M m ra) : mR M 715 m = some (ra 715) ∧ (∀ S, isA (pM M m ra S) (ra 715) 1) ∧ aN M (ra 715) = 24 ∧ (∀ S j, aI (pM M m ra S) (ra 715) j = vI S 715 j) ∧ (∀ S j v, tI (pM M m ra S) (ra 715) j v = pM M m ra (wI S 715 j v)) := by
  have q : mR M 715 m = some (ra 715) ∧ mK M (ra 715) = 129 ∧ aN M (ra 715) = 24 := h.2 (715, 129, 24) (List.mem_of_getElem? (i := 1) rfl)
  have e : idOf (mK M (ra 715)) = 715 := by rw [q.2.1]; rfl
  exact ⟨q.1, fun S => ⟨by rw [p_mK, q.2.1]; decide, by rw [p_mK, q.2.1]⟩, q.2.2, fun S j => p_aI e (by decide), fun S j v => p_tI e (by decide)⟩
theorem F716 (h : SH M m ra) : mR M 716 m = some (ra 716) ∧ (∀ S, isA (pM M m ra S) (ra 716) 2) ∧ aN M (ra 716) = 24 ∧ (∀ S j, aJ (pM M m ra S) (ra 716) j = vJ S 716 j) ∧ (∀ S j v, tJ (pM M m ra S) (ra 716) j v = pM M m ra (wJ S 716 j v)) := by
  have q : mR M 716 m = some (ra 716) ∧ mK M (ra 716) = 138 ∧ aN M (ra 716) = 24 := h.2 (716, 138, 24) (List.mem_of_getElem? (i := 2) rfl)
  have e : idOf (mK M (ra 716)) = 716 := by rw [q.2.1]; rfl
  exact ⟨q.1, fun S => ⟨by rw [p_mK, q.2.1]; decide, by rw [p_mK, q.2.1]⟩, q.2.2, fun S j => p_aJ e (by decide), fun S j v => p_tJ e (by decide)⟩
theorem F717 (h : SH M m ra) : mR M 717 m = some (ra 717) ∧ (∀ S, isA (pM M m ra S) (ra 717) 1) ∧ aN M (ra 717) = 24 ∧ (∀ S j, aI (pM M m ra S) (ra 717) j = vI S 717 j) ∧ (∀ S j v, tI (pM M m ra S) (ra 717) j v = pM M m ra (wI S 717 j v)) := by
  have q : mR M 717 m = some (ra 717) ∧ mK M (ra 717) = 145 ∧ aN M (ra 717) = 24 := h.2 (717, 145, 24) (List.mem_of_getElem? (i := 3) rfl)
  have e : idOf (mK M (ra 717)) = 717 := by rw [q.2.1]; rfl
  exact ⟨q.1, fun S => ⟨by rw [p_mK, q.2.1]; decide, by rw [p_mK, q.2.1]⟩, q.2.2, fun S j => p_aI e (by decide), fun S j v => p_tI e (by decide)⟩
theorem F718 (h : SH M m ra) : mR M 718 m = some (ra 718) ∧ (∀ S, isA (pM M m ra S) (ra 718) 1) ∧ aN M (ra 718) = 24 ∧ (∀ S j, aI (pM M m ra S) (ra 718) j = vI S 718 j) ∧ (∀ S j v, tI (pM M m ra S) (ra 718) j v = pM M m ra (wI S 718 j v)) := by
  have q : mR M 718 m = some (ra 718) ∧ mK M (ra 718) = 153 ∧ aN M (ra 718) = 24 := h.2 (718, 153, 24) (List.mem_of_getElem? (i := 4) rfl)
  have e : idOf (mK M (ra 718)) = 718 := by rw [q.2.1]; rfl
  exact ⟨q.1, fun S => ⟨by rw [p_mK, q.2.1]; decide, by rw [p_mK, q.2.1]⟩, q.2.2, fun S j => p_aI e (by decide), fun S j v => p_tI e (by decide)⟩
theorem F719 (h : SH M m ra) : mR M 719 m = some (ra 719) ∧ (∀ S, isA (pM M m ra S) (ra 719) 3) ∧ aN M (ra 719) = 24 ∧ (∀ S j, aI (pM M m ra S) (ra 719) j = vI S 719 j) ∧ (∀ S j v, tI (pM M m ra S) (ra 719) j v = pM M m ra (wI S 719 j v)) := by
  have q : mR M 719 m = some (ra 719) ∧ mK M (ra 719) = 163 ∧ aN M (ra 719) = 24 := h.2 (719, 163, 24) (List.mem_of_getElem? (i := 5) rfl)
  have e : idOf (mK M (ra 719)) = 719 := by rw [q.2.1]; rfl
  exact ⟨q.1, fun S => ⟨by rw [p_mK, q.2.1]; decide, by rw [p_mK, q.2.1]⟩, q.2.2, fun S j => p_aI e (by decide), fun S j v => p_tI e (by decide)⟩
theorem F720 (h : SH M m ra) : mR M 720 m = some (ra 720) ∧ (∀ S, isA (pM M m ra S) (ra 720) 2) ∧ aN M (ra 720) = 24 ∧ (∀ S j, aJ (pM M m ra S) (ra 720) j = vJ S 720 j) ∧ (∀ S j v, tJ (pM M m ra S) (ra 720) j v = pM M m ra (wJ S 720 j v)) := by
  have q : mR M 720 m = some (ra 720) ∧ mK M (ra 720) = 170 ∧ aN M (ra 720) = 24 := h.2 (720, 170, 24) (List.mem_of_getElem? (i := 6) rfl)
  have e : idOf (mK M (ra 720)) = 720 := by rw [q.2.1]; rfl
  exact ⟨q.1, fun S => ⟨by rw [p_mK, q.2.1]; decide, by rw [p_mK, q.2.1]⟩, q.2.2, fun S j => p_aJ e (by decide), fun S j v => p_tJ e (by decide)⟩
theorem F721 (h : SH M m ra) : mR M 721 m = some (ra 721) ∧ (∀ S, isA (pM M m ra S) (ra 721) 2) ∧ aN M (ra 721) = 24 ∧ (∀ S j, aJ (pM M m ra S) (ra 721) j = vJ S 721 j) ∧ (∀ S j v, tJ (pM M m ra S) (ra 721) j v = pM M m ra (wJ S 721 j v)) := by
  have q : mR M 721 m = some (ra 721) ∧ mK M (ra 721) = 178 ∧ aN M (ra 721) = 24 := h.2 (721, 178, 24) (List.mem_of_getElem? (i := 7) rfl)
  have e : idOf (mK M (ra 721)) = 721 := by rw [q.2.1]; rfl
  exact ⟨q.1, fun S => ⟨by rw [p_mK, q.2.1]; decide, by rw [p_mK, q.2.1]⟩, q.2.2, fun S j => p_aJ e (by decide), fun S j v => p_tJ e (by decide)⟩
theorem F722 (h : SH M m ra) : mR M 722 m = some (ra 722) ∧ (∀ S, isA (pM M m ra S) (ra 722) 1) ∧ aN M (ra 722) = 24 ∧ (∀ S j, aI (pM M m ra S) (ra 722) j = vI S 722 j) ∧ (∀ S j v, tI (pM M m ra S) (ra 722) j v = pM M m ra (wI S 722 j v)) := by
  have q : mR M 722 m = some (ra 722) ∧ mK M (ra 722) = 185 ∧ aN M (ra 722) = 24 := h.2 (722, 185, 24) (List.mem_of_getElem? (i := 8) rfl)
  have e : idOf (mK M (ra 722)) = 722 := by rw [q.2.1]; rfl
  exact ⟨q.1, fun S => ⟨by rw [p_mK, q.2.1]; decide, by rw [p_mK, q.2.1]⟩, q.2.2, fun S j => p_aI e (by decide), fun S j v => p_tI e (by decide)⟩
theorem F723 (h : SH M m ra) : mR M 723 m = some (ra 723) ∧ (∀ S, isA (pM M m ra S) (ra 723) 1) ∧ aN M (ra 723) = 24 ∧ (∀ S j, aI (pM M m ra S) (ra 723) j = vI S 723 j) ∧ (∀ S j v, tI (pM M m ra S) (ra 723) j v = pM M m ra (wI S 723 j v)) := by
  have q : mR M 723 m = some (ra 723) ∧ mK M (ra 723) = 193 ∧ aN M (ra 723) = 24 := h.2 (723, 193, 24) (List.mem_of_getElem? (i := 9) rfl)
  have e : idOf (mK M (ra 723)) = 723 := by rw [q.2.1]; rfl
  exact ⟨q.1, fun S => ⟨by rw [p_mK, q.2.1]; decide, by rw [p_mK, q.2.1]⟩, q.2.2, fun S j => p_aI e (by decide), fun S j v => p_tI e (by decide)⟩
theorem F724 (h : SH M m ra) : mR M 724 m = some (ra 724) ∧ (∀ S, isA (pM M m ra S) (ra 724) 1) ∧ aN M (ra 724) = 24 ∧ (∀ S j, aI (pM M m ra S) (ra 724) j = vI S 724 j) ∧ (∀ S j v, tI (pM M m ra S) (ra 724) j v = pM M m ra (wI S 724 j v)) := by
  have q : mR M 724 m = some (ra 724) ∧ mK M (ra 724) = 201 ∧ aN M (ra 724) = 24 := h.2 (724, 201, 24) (List.mem_of_getElem? (i := 10) rfl)
  have e : idOf (mK M (ra 724)) = 724 := by rw [q.2.1]; rfl
  exact ⟨q.1, fun S => ⟨by rw [p_mK, q.2.1]; decide, by rw [p_mK, q.2.1]⟩, q.2.2, fun S j => p_aI e (by decide), fun S j v => p_tI e (by decide)⟩
theorem F725 (h : SH M m ra) : mR M 725 m = some (ra 725) ∧ (∀ S, isA (pM M m ra S) (ra 725) 1) ∧ aN M (ra 725) = 96 ∧ (∀ S j, aI (pM M m ra S) (ra 725) j = vI S 725 j) ∧ (∀ S j v, tI (pM M m ra S) (ra 725) j v = pM M m ra (wI S 725 j v)) := by
  have q : mR M 725 m = some (ra 725) ∧ mK M (ra 725) = 209 ∧ aN M (ra 725) = 96 := h.2 (725, 209, 96) (List.mem_of_getElem? (i := 11) rfl)
  have e : idOf (mK M (ra 725)) = 725 := by rw [q.2.1]; rfl
  exact ⟨q.1, fun S => ⟨by rw [p_mK, q.2.1]; decide, by rw [p_mK, q.2.1]⟩, q.2.2, fun S j => p_aI e (by decide), fun S j v => p_tI e (by decide)⟩
theorem F726 (h : SH M m ra) : mR M 726 m = some (ra 726) ∧ (∀ S, isA (pM M m ra S) (ra 726) 1) ∧ aN M (ra 726) = 24 ∧ (∀ S j, aI (pM M m ra S) (ra 726) j = vI S 726 j) ∧ (∀ S j v, tI (pM M m ra S) (ra 726) j v = pM M m ra (wI S 726 j v)) := by
  have q : mR M 726 m = some (ra 726) ∧ mK M (ra 726) = 217 ∧ aN M (ra 726) = 24 := h.2 (726, 217, 24) (List.mem_of_getElem? (i := 12) rfl)
  have e : idOf (mK M (ra 726)) = 726 := by rw [q.2.1]; rfl
  exact ⟨q.1, fun S => ⟨by rw [p_mK, q.2.1]; decide, by rw [p_mK, q.2.1]⟩, q.2.2, fun S j => p_aI e (by decide), fun S j v => p_tI e (by decide)⟩
theorem F727 (h : SH M m ra) : mR M 727 m = some (ra 727) ∧ (∀ S, isA (pM M m ra S) (ra 727) 3) ∧ aN M (ra 727) = 8 ∧ (∀ S j, aI (pM M m ra S) (ra 727) j = vI S 727 j) ∧ (∀ S j v, tI (pM M m ra S) (ra 727) j v = pM M m ra (wI S 727 j v)) := by
  have q : mR M 727 m = some (ra 727) ∧ mK M (ra 727) = 227 ∧ aN M (ra 727) = 8 := h.2 (727, 227, 8) (List.mem_of_getElem? (i := 13) rfl)
  have e : idOf (mK M (ra 727)) = 727 := by rw [q.2.1]; rfl
  exact ⟨q.1, fun S => ⟨by rw [p_mK, q.2.1]; decide, by rw [p_mK, q.2.1]⟩, q.2.2, fun S j => p_aI e (by decide), fun S j v => p_tI e (by decide)⟩
theorem F728 (h : SH M m ra) : mR M 728 m = some (ra 728) ∧ (∀ S, isA (pM M m ra S) (ra 728) 2) ∧ aN M (ra 728) = 8 ∧ (∀ S j, aJ (pM M m ra S) (ra 728) j = vJ S 728 j) ∧ (∀ S j v, tJ (pM M m ra S) (ra 728) j v = pM M m ra (wJ S 728 j v)) := by
  have q : mR M 728 m = some (ra 728) ∧ mK M (ra 728) = 234 ∧ aN M (ra 728) = 8 := h.2 (728, 234, 8) (List.mem_of_getElem? (i := 14) rfl)
  have e : idOf (mK M (ra 728)) = 728 := by rw [q.2.1]; rfl
  exact ⟨q.1, fun S => ⟨by rw [p_mK, q.2.1]; decide, by rw [p_mK, q.2.1]⟩, q.2.2, fun S j => p_aJ e (by decide), fun S j v => p_tJ e (by decide)⟩
theorem F729 (h : SH M m ra) : mR M 729 m = some (ra 729) ∧ (∀ S, isA (pM M m ra S) (ra 729) 1) ∧ aN M (ra 729) = 2 ∧ (∀ S j, aI (pM M m ra S) (ra 729) j = vI S 729 j) ∧ (∀ S j v, tI (pM M m ra S) (ra 729) j v = pM M m ra (wI S 729 j v)) := by
  have q : mR M 729 m = some (ra 729) ∧ mK M (ra 729) = 241 ∧ aN M (ra 729) = 2 := h.2 (729, 241, 2) (List.mem_of_getElem? (i := 15) rfl)
  have e : idOf (mK M (ra 729)) = 729 := by rw [q.2.1]; rfl
  exact ⟨q.1, fun S => ⟨by rw [p_mK, q.2.1]; decide, by rw [p_mK, q.2.1]⟩, q.2.2, fun S j => p_aI e (by decide), fun S j v => p_tI e (by decide)⟩
theorem F733 (h : SH M m ra) : mR M 733 m = some (ra 733) ∧ (∀ S, isA (pM M m ra S) (ra 733) 2) ∧ aN M (ra 733) = 12 ∧ (∀ S j, aJ (pM M m ra S) (ra 733) j = vJ S 733 j) ∧ (∀ S j v, tJ (pM M m ra S) (ra 733) j v = pM M m ra (wJ S 733 j v)) := by
  have q : mR M 733 m = some (ra 733) ∧ mK M (ra 733) = 250 ∧ aN M (ra 733) = 12 := h.2 (733, 250, 12) (List.mem_of_getElem? (i := 16) rfl)
  have e : idOf (mK M (ra 733)) = 733 := by rw [q.2.1]; rfl
  exact ⟨q.1, fun S => ⟨by rw [p_mK, q.2.1]; decide, by rw [p_mK, q.2.1]⟩, q.2.2, fun S j => p_aJ e (by decide), fun S j v => p_tJ e (by decide)⟩
theorem F734 (h : SH M m ra) : mR M 734 m = some (ra 734) ∧ (∀ S, isA (pM M m ra S) (ra 734) 3) ∧ aN M (ra 734) = 12 ∧ (∀ S j, aI (pM M m ra S) (ra 734) j = vI S 734 j) ∧ (∀ S j v, tI (pM M m ra S) (ra 734) j v = pM M m ra (wI S 734 j v)) := by
  have q : mR M 734 m = some (ra 734) ∧ mK M (ra 734) = 259 ∧ aN M (ra 734) = 12 := h.2 (734, 259, 12) (List.mem_of_getElem? (i := 17) rfl)
  have e : idOf (mK M (ra 734)) = 734 := by rw [q.2.1]; rfl
  exact ⟨q.1, fun S => ⟨by rw [p_mK, q.2.1]; decide, by rw [p_mK, q.2.1]⟩, q.2.2, fun S j => p_aI e (by decide), fun S j v => p_tI e (by decide)⟩
theorem F735 (h : SH M m ra) : mR M 735 m = some (ra 735) ∧ (∀ S, isA (pM M m ra S) (ra 735) 1) ∧ aN M (ra 735) = 48 ∧ (∀ S j, aI (pM M m ra S) (ra 735) j = vI S 735 j) ∧ (∀ S j v, tI (pM M m ra S) (ra 735) j v = pM M m ra (wI S 735 j v)) := by
  have q : mR M 735 m = some (ra 735) ∧ mK M (ra 735) = 265 ∧ aN M (ra 735) = 48 := h.2 (735, 265, 48) (List.mem_of_getElem? (i := 18) rfl)
  have e : idOf (mK M (ra 735)) = 735 := by rw [q.2.1]; rfl
  exact ⟨q.1, fun S => ⟨by rw [p_mK, q.2.1]; decide, by rw [p_mK, q.2.1]⟩, q.2.2, fun S j => p_aI e (by decide), fun S j v => p_tI e (by decide)⟩
theorem F736 (h : SH M m ra) : mR M 736 m = some (ra 736) ∧ (∀ S, isA (pM M m ra S) (ra 736) 2) ∧ aN M (ra 736) = 48 ∧ (∀ S j, aJ (pM M m ra S) (ra 736) j = vJ S 736 j) ∧ (∀ S j v, tJ (pM M m ra S) (ra 736) j v = pM M m ra (wJ S 736 j v)) := by
  have q : mR M 736 m = some (ra 736) ∧ mK M (ra 736) = 274 ∧ aN M (ra 736) = 48 := h.2 (736, 274, 48) (List.mem_of_getElem? (i := 19) rfl)
  have e : idOf (mK M (ra 736)) = 736 := by rw [q.2.1]; rfl
  exact ⟨q.1, fun S => ⟨by rw [p_mK, q.2.1]; decide, by rw [p_mK, q.2.1]⟩, q.2.2, fun S j => p_aJ e (by decide), fun S j v => p_tJ e (by decide)⟩
theorem F737 (h : SH M m ra) : mR M 737 m = some (ra 737) ∧ (∀ S, isA (pM M m ra S) (ra 737) 1) ∧ aN M (ra 737) = 48 ∧ (∀ S j, aI (pM M m ra S) (ra 737) j = vI S 737 j) ∧ (∀ S j v, tI (pM M m ra S) (ra 737) j v = pM M m ra (wI S 737 j v)) := by
  have q : mR M 737 m = some (ra 737) ∧ mK M (ra 737) = 281 ∧ aN M (ra 737) = 48 := h.2 (737, 281, 48) (List.mem_of_getElem? (i := 20) rfl)
  have e : idOf (mK M (ra 737)) = 737 := by rw [q.2.1]; rfl
  exact ⟨q.1, fun S => ⟨by rw [p_mK, q.2.1]; decide, by rw [p_mK, q.2.1]⟩, q.2.2, fun S j => p_aI e (by decide), fun S j v => p_tI e (by decide)⟩
theorem F740 (h : SH M m ra) : mR M 740 m = some (ra 740) ∧ (∀ S, isA (pM M m ra S) (ra 740) 2) ∧ aN M (ra 740) = 1200 ∧ (∀ S j, aJ (pM M m ra S) (ra 740) j = vJ S 740 j) ∧ (∀ S j v, tJ (pM M m ra S) (ra 740) j v = pM M m ra (wJ S 740 j v)) := by
  have q : mR M 740 m = some (ra 740) ∧ mK M (ra 740) = 290 ∧ aN M (ra 740) = 1200 := h.2 (740, 290, 1200) (List.mem_of_getElem? (i := 21) rfl)
  have e : idOf (mK M (ra 740)) = 740 := by rw [q.2.1]; rfl
  exact ⟨q.1, fun S => ⟨by rw [p_mK, q.2.1]; decide, by rw [p_mK, q.2.1]⟩, q.2.2, fun S j => p_aJ e (by decide), fun S j v => p_tJ e (by decide)⟩
theorem F742 (h : SH M m ra) : mR M 742 m = some (ra 742) ∧ (∀ S, isA (pM M m ra S) (ra 742) 2) ∧ aN M (ra 742) = 800 ∧ (∀ S j, aJ (pM M m ra S) (ra 742) j = vJ S 742 j) ∧ (∀ S j v, tJ (pM M m ra S) (ra 742) j v = pM M m ra (wJ S 742 j v)) := by
  have q : mR M 742 m = some (ra 742) ∧ mK M (ra 742) = 298 ∧ aN M (ra 742) = 800 := h.2 (742, 298, 800) (List.mem_of_getElem? (i := 22) rfl)
  have e : idOf (mK M (ra 742)) = 742 := by rw [q.2.1]; rfl
  exact ⟨q.1, fun S => ⟨by rw [p_mK, q.2.1]; decide, by rw [p_mK, q.2.1]⟩, q.2.2, fun S j => p_aJ e (by decide), fun S j v => p_tJ e (by decide)⟩
theorem F744 (h : SH M m ra) : mR M 744 m = some (ra 744) ∧ (∀ S, isA (pM M m ra S) (ra 744) 1) ∧ aN M (ra 744) = 12 ∧ (∀ S j, aI (pM M m ra S) (ra 744) j = vI S 744 j) ∧ (∀ S j v, tI (pM M m ra S) (ra 744) j v = pM M m ra (wI S 744 j v)) := by
  have q : mR M 744 m = some (ra 744) ∧ mK M (ra 744) = 305 ∧ aN M (ra 744) = 12 := h.2 (744, 305, 12) (List.mem_of_getElem? (i := 23) rfl)
  have e : idOf (mK M (ra 744)) = 744 := by rw [q.2.1]; rfl
  exact ⟨q.1, fun S => ⟨by rw [p_mK, q.2.1]; decide, by rw [p_mK, q.2.1]⟩, q.2.2, fun S j => p_aI e (by decide), fun S j v => p_tI e (by decide)⟩
theorem F745 (h : SH M m ra) : mR M 745 m = some (ra 745) ∧ (∀ S, isA (pM M m ra S) (ra 745) 2) ∧ aN M (ra 745) = 288 ∧ (∀ S j, aJ (pM M m ra S) (ra 745) j = vJ S 745 j) ∧ (∀ S j v, tJ (pM M m ra S) (ra 745) j v = pM M m ra (wJ S 745 j v)) := by
  have q : mR M 745 m = some (ra 745) ∧ mK M (ra 745) = 314 ∧ aN M (ra 745) = 288 := h.2 (745, 314, 288) (List.mem_of_getElem? (i := 24) rfl)
  have e : idOf (mK M (ra 745)) = 745 := by rw [q.2.1]; rfl
  exact ⟨q.1, fun S => ⟨by rw [p_mK, q.2.1]; decide, by rw [p_mK, q.2.1]⟩, q.2.2, fun S j => p_aJ e (by decide), fun S j v => p_tJ e (by decide)⟩
theorem F746 (h : SH M m ra) : mR M 746 m = some (ra 746) ∧ (∀ S, isA (pM M m ra S) (ra 746) 1) ∧ aN M (ra 746) = 288 ∧ (∀ S j, aI (pM M m ra S) (ra 746) j = vI S 746 j) ∧ (∀ S j v, tI (pM M m ra S) (ra 746) j v = pM M m ra (wI S 746 j v)) := by
  have q : mR M 746 m = some (ra 746) ∧ mK M (ra 746) = 321 ∧ aN M (ra 746) = 288 := h.2 (746, 321, 288) (List.mem_of_getElem? (i := 25) rfl)
  have e : idOf (mK M (ra 746)) = 746 := by rw [q.2.1]; rfl
  exact ⟨q.1, fun S => ⟨by rw [p_mK, q.2.1]; decide, by rw [p_mK, q.2.1]⟩, q.2.2, fun S j => p_aI e (by decide), fun S j v => p_tI e (by decide)⟩
theorem F747 (h : SH M m ra) : mR M 747 m = some (ra 747) ∧ (∀ S, isA (pM M m ra S) (ra 747) 1) ∧ aN M (ra 747) = 288 ∧ (∀ S j, aI (pM M m ra S) (ra 747) j = vI S 747 j) ∧ (∀ S j v, tI (pM M m ra S) (ra 747) j v = pM M m ra (wI S 747 j v)) := by
  have q : mR M 747 m = some (ra 747) ∧ mK M (ra 747) = 329 ∧ aN M (ra 747) = 288 := h.2 (747, 329, 288) (List.mem_of_getElem? (i := 26) rfl)
  have e : idOf (mK M (ra 747)) = 747 := by rw [q.2.1]; rfl
  exact ⟨q.1, fun S => ⟨by rw [p_mK, q.2.1]; decide, by rw [p_mK, q.2.1]⟩, q.2.2, fun S j => p_aI e (by decide), fun S j v => p_tI e (by decide)⟩
theorem F748 (h : SH M m ra) : mR M 748 m = some (ra 748) ∧ (∀ S, isA (pM M m ra S) (ra 748) 1) ∧ aN M (ra 748) = 24 ∧ (∀ S j, aI (pM M m ra S) (ra 748) j = vI S 748 j) ∧ (∀ S j v, tI (pM M m ra S) (ra 748) j v = pM M m ra (wI S 748 j v)) := by
  have q : mR M 748 m = some (ra 748) ∧ mK M (ra 748) = 337 ∧ aN M (ra 748) = 24 := h.2 (748, 337, 24) (List.mem_of_getElem? (i := 27) rfl)
  have e : idOf (mK M (ra 748)) = 748 := by rw [q.2.1]; rfl
  exact ⟨q.1, fun S => ⟨by rw [p_mK, q.2.1]; decide, by rw [p_mK, q.2.1]⟩, q.2.2, fun S j => p_aI e (by decide), fun S j v => p_tI e (by decide)⟩
theorem F749 (h : SH M m ra) : mR M 749 m = some (ra 749) ∧ (∀ S, isA (pM M m ra S) (ra 749) 2) ∧ aN M (ra 749) = 144 ∧ (∀ S j, aJ (pM M m ra S) (ra 749) j = vJ S 749 j) ∧ (∀ S j v, tJ (pM M m ra S) (ra 749) j v = pM M m ra (wJ S 749 j v)) := by
  have q : mR M 749 m = some (ra 749) ∧ mK M (ra 749) = 346 ∧ aN M (ra 749) = 144 := h.2 (749, 346, 144) (List.mem_of_getElem? (i := 28) rfl)
  have e : idOf (mK M (ra 749)) = 749 := by rw [q.2.1]; rfl
  exact ⟨q.1, fun S => ⟨by rw [p_mK, q.2.1]; decide, by rw [p_mK, q.2.1]⟩, q.2.2, fun S j => p_aJ e (by decide), fun S j v => p_tJ e (by decide)⟩
theorem F750 (h : SH M m ra) : mR M 750 m = some (ra 750) ∧ (∀ S, isA (pM M m ra S) (ra 750) 1) ∧ aN M (ra 750) = 144 ∧ (∀ S j, aI (pM M m ra S) (ra 750) j = vI S 750 j) ∧ (∀ S j v, tI (pM M m ra S) (ra 750) j v = pM M m ra (wI S 750 j v)) := by
  have q : mR M 750 m = some (ra 750) ∧ mK M (ra 750) = 353 ∧ aN M (ra 750) = 144 := h.2 (750, 353, 144) (List.mem_of_getElem? (i := 29) rfl)
  have e : idOf (mK M (ra 750)) = 750 := by rw [q.2.1]; rfl
  exact ⟨q.1, fun S => ⟨by rw [p_mK, q.2.1]; decide, by rw [p_mK, q.2.1]⟩, q.2.2, fun S j => p_aI e (by decide), fun S j v => p_tI e (by decide)⟩
theorem F751 (h : SH M m ra) : mR M 751 m = some (ra 751) ∧ (∀ S, isA (pM M m ra S) (ra 751) 1) ∧ aN M (ra 751) = 144 ∧ (∀ S j, aI (pM M m ra S) (ra 751) j = vI S 751 j) ∧ (∀ S j v, tI (pM M m ra S) (ra 751) j v = pM M m ra (wI S 751 j v)) := by
  have q : mR M 751 m = some (ra 751) ∧ mK M (ra 751) = 361 ∧ aN M (ra 751) = 144 := h.2 (751, 361, 144) (List.mem_of_getElem? (i := 30) rfl)
  have e : idOf (mK M (ra 751)) = 751 := by rw [q.2.1]; rfl
  exact ⟨q.1, fun S => ⟨by rw [p_mK, q.2.1]; decide, by rw [p_mK, q.2.1]⟩, q.2.2, fun S j => p_aI e (by decide), fun S j v => p_tI e (by decide)⟩
theorem F753 (h : SH M m ra) : mR M 753 m = some (ra 753) ∧ (∀ S, isA (pM M m ra S) (ra 753) 1) ∧ aN M (ra 753) = 60 ∧ (∀ S j, aI (pM M m ra S) (ra 753) j = vI S 753 j) ∧ (∀ S j v, tI (pM M m ra S) (ra 753) j v = pM M m ra (wI S 753 j v)) := by
  have q : mR M 753 m = some (ra 753) ∧ mK M (ra 753) = 369 ∧ aN M (ra 753) = 60 := h.2 (753, 369, 60) (List.mem_of_getElem? (i := 31) rfl)
  have e : idOf (mK M (ra 753)) = 753 := by rw [q.2.1]; rfl
  exact ⟨q.1, fun S => ⟨by rw [p_mK, q.2.1]; decide, by rw [p_mK, q.2.1]⟩, q.2.2, fun S j => p_aI e (by decide), fun S j v => p_tI e (by decide)⟩
theorem F754 (h : SH M m ra) : mR M 754 m = some (ra 754) ∧ (∀ S, isA (pM M m ra S) (ra 754) 2) ∧ aN M (ra 754) = 60 ∧ (∀ S j, aJ (pM M m ra S) (ra 754) j = vJ S 754 j) ∧ (∀ S j v, tJ (pM M m ra S) (ra 754) j v = pM M m ra (wJ S 754 j v)) := by
  have q : mR M 754 m = some (ra 754) ∧ mK M (ra 754) = 378 ∧ aN M (ra 754) = 60 := h.2 (754, 378, 60) (List.mem_of_getElem? (i := 32) rfl)
  have e : idOf (mK M (ra 754)) = 754 := by rw [q.2.1]; rfl
  exact ⟨q.1, fun S => ⟨by rw [p_mK, q.2.1]; decide, by rw [p_mK, q.2.1]⟩, q.2.2, fun S j => p_aJ e (by decide), fun S j v => p_tJ e (by decide)⟩
theorem F755 (h : SH M m ra) : mR M 755 m = some (ra 755) ∧ (∀ S, isA (pM M m ra S) (ra 755) 3) ∧ aN M (ra 755) = 60 ∧ (∀ S j, aI (pM M m ra S) (ra 755) j = vI S 755 j) ∧ (∀ S j v, tI (pM M m ra S) (ra 755) j v = pM M m ra (wI S 755 j v)) := by
  have q : mR M 755 m = some (ra 755) ∧ mK M (ra 755) = 387 ∧ aN M (ra 755) = 60 := h.2 (755, 387, 60) (List.mem_of_getElem? (i := 33) rfl)
  have e : idOf (mK M (ra 755)) = 755 := by rw [q.2.1]; rfl
  exact ⟨q.1, fun S => ⟨by rw [p_mK, q.2.1]; decide, by rw [p_mK, q.2.1]⟩, q.2.2, fun S j => p_aI e (by decide), fun S j v => p_tI e (by decide)⟩
theorem F758 (h : SH M m ra) : mR M 758 m = some (ra 758) ∧ (∀ S, isA (pM M m ra S) (ra 758) 3) ∧ aN M (ra 758) = 48 ∧ (∀ S j, aI (pM M m ra S) (ra 758) j = vI S 758 j) ∧ (∀ S j v, tI (pM M m ra S) (ra 758) j v = pM M m ra (wI S 758 j v)) := by
  have q : mR M 758 m = some (ra 758) ∧ mK M (ra 758) = 395 ∧ aN M (ra 758) = 48 := h.2 (758, 395, 48) (List.mem_of_getElem? (i := 34) rfl)
  have e : idOf (mK M (ra 758)) = 758 := by rw [q.2.1]; rfl
  exact ⟨q.1, fun S => ⟨by rw [p_mK, q.2.1]; decide, by rw [p_mK, q.2.1]⟩, q.2.2, fun S j => p_aI e (by decide), fun S j v => p_tI e (by decide)⟩
theorem F759 (h : SH M m ra) : mR M 759 m = some (ra 759) ∧ (∀ S, isA (pM M m ra S) (ra 759) 0) ∧ aN M (ra 759) = 1500 ∧ (∀ S j, aI (pM M m ra S) (ra 759) j = vI S 759 j) ∧ (∀ S j v, tI (pM M m ra S) (ra 759) j v = pM M m ra (wI S 759 j v)) := by
  have q : mR M 759 m = some (ra 759) ∧ mK M (ra 759) = 400 ∧ aN M (ra 759) = 1500 := h.2 (759, 400, 1500) (List.mem_of_getElem? (i := 35) rfl)
  have e : idOf (mK M (ra 759)) = 759 := by rw [q.2.1]; rfl
  exact ⟨q.1, fun S => ⟨by rw [p_mK, q.2.1]; decide, by rw [p_mK, q.2.1]⟩, q.2.2, fun S j => p_aI e (by decide), fun S j v => p_tI e (by decide)⟩
end PM
