/-- the reference's arrays: field, kind, length -/
def tabM : List (Nat × Nat × Nat) := [(705, 120, 600), (715, 129, 24), (716, 138, 24), (717, 145, 24), (718, 153, 24), (719, 163, 24), (720, 170, 24), (721, 178, 24), (722, 185, 24), (723, 193, 24), (724, 201, 24), (725, 209, 96), (726, 217, 24), (727, 227, 8), (728, 234, 8), (729, 241, 2), (733, 250, 12), (734, 259, 12), (735, 265, 48), (736, 274, 48), (737, 281, 48), (740, 290, 1200), (742, 298, 800), (744, 305, 12), (745, 314, 288), (746, 321, 288), (747, 329, 288), (748, 337, 24), (749, 346, 144), (750, 353, 144), (751, 361, 144), (753, 369, 60), (754, 378, 60), (755, 387, 60), (758, 395, 48), (759, 400, 1500)]
def InMk (M : Mm) (m k : Nat) : Prop := mK M m = 12 ∧ (∀ f, mI M f m = 0 ∧ mJ M f m = 0) ∧ ∀ (i : Nat) (r : Nat × Nat × Nat), tabM[i]? = some r → i < k → ∃ a, mR M r.1 m = some a ∧ mK M a = r.2.1 ∧ aN M a = r.2.2 ∧ ∀ j, aI M a j = 0 ∧ aJ M a j = 0
theorem tabM_pos : ∀ r ∈ tabM, r.2.1 ≠ 0 := by decide
theorem tabM_ids : ∀ i : Fin tabM.length, ∀ j : Fin tabM.length, i ≠ j → (tabM[i]).1 ≠ (tabM[j]).1 := by decide
theorem in_at {M : Mm} {m k q kd n : Nat} (h : InMk M m k) (hq : mK M q = 0) : mK (na M q kd n) m = 12 := by
  have hne : m ≠ q := fun e => by have := h.1; rw [e, hq] at this; cases this
  simp [ms, hne, h.1]
theorem in_step {M : Mm} {m k q id kd n : Nat} (h : InMk M m k) (hq : mK M q = 0) (hr : tabM[k]? = some (id, kd, n)) : InMk (sR (na M q kd n) id m (some q)) m (k + 1) := by
  have hne : m ≠ q := fun e => by have := h.1; rw [e, hq] at this; cases this
  refine ⟨by simp [ms, hne, h.1], fun f => by simpa [ms] using h.2.1 f, fun i r hi hk => ?_⟩
  by_cases e : i = k
  · subst e
    rw [hr] at hi
    cases hi
    exact ⟨q, by simp [ms], by simp [ms], by simp [ms], fun j => by simp [ms]⟩
  · obtain ⟨a, h1, h2, h3, h4⟩ := h.2.2 i r hi (by omega)
    have ha : a ≠ q := fun e2 => by
      rw [e2, hq] at h2
      exact tabM_pos r (List.mem_of_getElem? hi) h2.symm
    have hid : r.1 ≠ id := by
      have hil := (List.getElem?_eq_some_iff.mp hi)
      have hkl := (List.getElem?_eq_some_iff.mp hr)
      have := tabM_ids ⟨i, hil.1⟩ ⟨k, hkl.1⟩ (fun q => e (Fin.mk.inj_iff.mp q))
      simp only [Fin.getElem_fin, hil.2, hkl.2] at this
      exact this
    exact ⟨a, by simp [ms, hid, h1], by simp [ms, ha, h2], by simp [ms, ha, h3], fun j => by simp [ms, ha, h4 j]⟩
def Same (M M1 : Mm) (a : Nat) : Prop := mK M1 a = mK M a ∧ (∀ f, mI M1 f a = mI M f a ∧ mJ M1 f a = mJ M f a ∧ mR M1 f a = mR M f a) ∧ aN M1 a = aN M a ∧ ∀ j, aI M1 a j = aI M a j ∧ aJ M1 a j = aJ M a j ∧ aR M1 a j = aR M a j
theorem same_step {M0 M : Mm} {m q id kd n : Nat} (h : ∀ a, mK M0 a ≠ 0 → a ≠ m → Same M0 M a) (hq : mK M q = 0) : ∀ a, mK M0 a ≠ 0 → a ≠ m → Same M0 (sR (na M q kd n) id m (some q)) a := fun a ha hm => by
  obtain ⟨h1, h2, h3, h4⟩ := h a ha hm
  have hne : a ≠ q := fun e => by rw [e, hq] at h1; exact ha (e ▸ h1.symm)
  exact ⟨by simp [ms, hne, h1], fun f => by simp [ms, hm, h2 f], by simp [ms, hne, h3], fun j => by simp [ms, hne, h4 j]⟩
set_option maxRecDepth 100000 in
set_option maxHeartbeats 4000000 in
theorem t_X11_init {M : Mm} {m : Nat} {K : Mm → Prop} (hm : mK M m = 12) (hz : ∀ f, mI M f m = 0 ∧ mJ M f m = 0) (hK : ∀ M1, InMk M1 m 36 → (∀ a, mK M a ≠ 0 → a ≠ m → Same M M1 a) → K M1) : wp_X11_init M m K := by
  unfold wp_X11_init
  have F : InMk M m 0 := ⟨hm, hz, fun i r _ h => absurd h (Nat.not_lt_zero i)⟩
  have G : ∀ a, mK M a ≠ 0 → a ≠ m → Same M M a := fun a _ _ => ⟨rfl, fun _ => ⟨rfl, rfl, rfl⟩, rfl, fun _ => ⟨rfl, rfl, rfl⟩⟩
  intro q h
  refine ⟨in_at F h, ?_⟩
  replace G := same_step (id := 705) (kd := 120) (n := 600) G h
  replace F := in_step F h (show tabM[0]? = some (705, 120, 600) from rfl)
  generalize sR (na _ q 120 600) 705 m (some q) = M9 at F G ⊢
  clear h
  intro q h
  refine ⟨in_at F h, ?_⟩
  replace G := same_step (id := 715) (kd := 129) (n := 24) G h
  replace F := in_step F h (show tabM[1]? = some (715, 129, 24) from rfl)
  generalize sR (na _ q 129 24) 715 m (some q) = M9 at F G ⊢
  clear h
  intro q h
  refine ⟨in_at F h, ?_⟩
  replace G := same_step (id := 716) (kd := 138) (n := 24) G h
  replace F := in_step F h (show tabM[2]? = some (716, 138, 24) from rfl)
  generalize sR (na _ q 138 24) 716 m (some q) = M9 at F G ⊢
  clear h
  intro q h
  refine ⟨in_at F h, ?_⟩
  replace G := same_step (id := 717) (kd := 145) (n := 24) G h
  replace F := in_step F h (show tabM[3]? = some (717, 145, 24) from rfl)
  generalize sR (na _ q 145 24) 717 m (some q) = M9 at F G ⊢
  clear h
  intro q h
  refine ⟨in_at F h, ?_⟩
  replace G := same_step (id := 718) (kd := 153) (n := 24) G h
  replace F := in_step F h (show tabM[4]? = some (718, 153, 24) from rfl)
  generalize sR (na _ q 153 24) 718 m (some q) = M9 at F G ⊢
  clear h
  intro q h
  refine ⟨in_at F h, ?_⟩
  replace G := same_step (id := 719) (kd := 163) (n := 24) G h
  replace F := in_step F h (show tabM[5]? = some (719, 163, 24) from rfl)
  generalize sR (na _ q 163 24) 719 m (some q) = M9 at F G ⊢
  clear h
  intro q h
  refine ⟨in_at F h, ?_⟩
  replace G := same_step (id := 720) (kd := 170) (n := 24) G h
  replace F := in_step F h (show tabM[6]? = some (720, 170, 24) from rfl)
  generalize sR (na _ q 170 24) 720 m (some q) = M9 at F G ⊢
  clear h
  intro q h
  refine ⟨in_at F h, ?_⟩
  replace G := same_step (id := 721) (kd := 178) (n := 24) G h
  replace F := in_step F h (show tabM[7]? = some (721, 178, 24) from rfl)
  generalize sR (na _ q 178 24) 721 m (some q) = M9 at F G ⊢
  clear h
  intro q h
  refine ⟨in_at F h, ?_⟩
  replace G := same_step (id := 722) (kd := 185) (n := 24) G h
  replace F := in_step F h (show tabM[8]? = some (722, 185, 24) from rfl)
  generalize sR (na _ q 185 24) 722 m (some q) = M9 at F G ⊢
  clear h
  intro q h
  refine ⟨in_at F h, ?_⟩
  replace G := same_step (id := 723) (kd := 193) (n := 24) G h
  replace F := in_step F h (show tabM[9]? = some (723, 193, 24) from rfl)
  generalize sR (na _ q 193 24) 723 m (some q) = M9 at F G ⊢
  clear h
  intro q h
  refine ⟨in_at F h, ?_⟩
  replace G := same_step (id := 724) (kd := 201) (n := 24) G h
  replace F := in_step F h (show tabM[10]? = some (724, 201, 24) from rfl)
  generalize sR (na _ q 201 24) 724 m (some q) = M9 at F G ⊢
  clear h
  intro q h
  refine ⟨in_at F h, ?_⟩
  replace G := same_step (id := 725) (kd := 209) (n := 96) G h
  replace F := in_step F h (show tabM[11]? = some (725, 209, 96) from rfl)
  generalize sR (na _ q 209 96) 725 m (some q) = M9 at F G ⊢
  clear h
  intro q h
  refine ⟨in_at F h, ?_⟩
  replace G := same_step (id := 726) (kd := 217) (n := 24) G h
  replace F := in_step F h (show tabM[12]? = some (726, 217, 24) from rfl)
  generalize sR (na _ q 217 24) 726 m (some q) = M9 at F G ⊢
  clear h
  intro q h
  refine ⟨in_at F h, ?_⟩
  replace G := same_step (id := 727) (kd := 227) (n := 8) G h
  replace F := in_step F h (show tabM[13]? = some (727, 227, 8) from rfl)
  generalize sR (na _ q 227 8) 727 m (some q) = M9 at F G ⊢
  clear h
  intro q h
  refine ⟨in_at F h, ?_⟩
  replace G := same_step (id := 728) (kd := 234) (n := 8) G h
  replace F := in_step F h (show tabM[14]? = some (728, 234, 8) from rfl)
  generalize sR (na _ q 234 8) 728 m (some q) = M9 at F G ⊢
  clear h
  intro q h
  refine ⟨in_at F h, ?_⟩
  replace G := same_step (id := 729) (kd := 241) (n := 2) G h
  replace F := in_step F h (show tabM[15]? = some (729, 241, 2) from rfl)
  generalize sR (na _ q 241 2) 729 m (some q) = M9 at F G ⊢
  clear h
  intro q h
  refine ⟨in_at F h, ?_⟩
  replace G := same_step (id := 733) (kd := 250) (n := 12) G h
  replace F := in_step F h (show tabM[16]? = some (733, 250, 12) from rfl)
  generalize sR (na _ q 250 12) 733 m (some q) = M9 at F G ⊢
  clear h
  intro q h
  refine ⟨in_at F h, ?_⟩
  replace G := same_step (id := 734) (kd := 259) (n := 12) G h
  replace F := in_step F h (show tabM[17]? = some (734, 259, 12) from rfl)
  generalize sR (na _ q 259 12) 734 m (some q) = M9 at F G ⊢
  clear h
  intro q h
  refine ⟨in_at F h, ?_⟩
  replace G := same_step (id := 735) (kd := 265) (n := 48) G h
  replace F := in_step F h (show tabM[18]? = some (735, 265, 48) from rfl)
  generalize sR (na _ q 265 48) 735 m (some q) = M9 at F G ⊢
  clear h
  intro q h
  refine ⟨in_at F h, ?_⟩
  replace G := same_step (id := 736) (kd := 274) (n := 48) G h
  replace F := in_step F h (show tabM[19]? = some (736, 274, 48) from rfl)
  generalize sR (na _ q 274 48) 736 m (some q) = M9 at F G ⊢
  clear h
  intro q h
  refine ⟨in_at F h, ?_⟩
  replace G := same_step (id := 737) (kd := 281) (n := 48) G h
  replace F := in_step F h (show tabM[20]? = some (737, 281, 48) from rfl)
  generalize sR (na _ q 281 48) 737 m (some q) = M9 at F G ⊢
  clear h
  intro q h
  refine ⟨in_at F h, ?_⟩
  replace G := same_step (id := 740) (kd := 290) (n := 1200) G h
  replace F := in_step F h (show tabM[21]? = some (740, 290, 1200) from rfl)
  generalize sR (na _ q 290 1200) 740 m (some q) = M9 at F G ⊢
  clear h
  intro q h
  refine ⟨in_at F h, ?_⟩
  replace G := same_step (id := 742) (kd := 298) (n := 800) G h
  replace F := in_step F h (show tabM[22]? = some (742, 298, 800) from rfl)
  generalize sR (na _ q 298 800) 742 m (some q) = M9 at F G ⊢
  clear h
  intro q h
  refine ⟨in_at F h, ?_⟩
  replace G := same_step (id := 744) (kd := 305) (n := 12) G h
  replace F := in_step F h (show tabM[23]? = some (744, 305, 12) from rfl)
  generalize sR (na _ q 305 12) 744 m (some q) = M9 at F G ⊢
  clear h
  intro q h
  refine ⟨in_at F h, ?_⟩
  replace G := same_step (id := 745) (kd := 314) (n := 288) G h
  replace F := in_step F h (show tabM[24]? = some (745, 314, 288) from rfl)
  generalize sR (na _ q 314 288) 745 m (some q) = M9 at F G ⊢
  clear h
  intro q h
  refine ⟨in_at F h, ?_⟩
  replace G := same_step (id := 746) (kd := 321) (n := 288) G h
  replace F := in_step F h (show tabM[25]? = some (746, 321, 288) from rfl)
  generalize sR (na _ q 321 288) 746 m (some q) = M9 at F G ⊢
  clear h
  intro q h
  refine ⟨in_at F h, ?_⟩
  replace G := same_step (id := 747) (kd := 329) (n := 288) G h
  replace F := in_step F h (show tabM[26]? = some (747, 329, 288) from rfl)
  generalize sR (na _ q 329 288) 747 m (some q) = M9 at F G ⊢
  clear h
  intro q h
  refine ⟨in_at F h, ?_⟩
  replace G := same_step (id := 748) (kd := 337) (n := 24) G h
  replace F := in_step F h (show tabM[27]? = some (748, 337, 24) from rfl)
  generalize sR (na _ q 337 24) 748 m (some q) = M9 at F G ⊢
  clear h
  intro q h
  refine ⟨in_at F h, ?_⟩
  replace G := same_step (id := 749) (kd := 346) (n := 144) G h
  replace F := in_step F h (show tabM[28]? = some (749, 346, 144) from rfl)
  generalize sR (na _ q 346 144) 749 m (some q) = M9 at F G ⊢
  clear h
  intro q h
  refine ⟨in_at F h, ?_⟩
  replace G := same_step (id := 750) (kd := 353) (n := 144) G h
  replace F := in_step F h (show tabM[29]? = some (750, 353, 144) from rfl)
  generalize sR (na _ q 353 144) 750 m (some q) = M9 at F G ⊢
  clear h
  intro q h
  refine ⟨in_at F h, ?_⟩
  replace G := same_step (id := 751) (kd := 361) (n := 144) G h
  replace F := in_step F h (show tabM[30]? = some (751, 361, 144) from rfl)
  generalize sR (na _ q 361 144) 751 m (some q) = M9 at F G ⊢
  clear h
  intro q h
  refine ⟨in_at F h, ?_⟩
  replace G := same_step (id := 753) (kd := 369) (n := 60) G h
  replace F := in_step F h (show tabM[31]? = some (753, 369, 60) from rfl)
  generalize sR (na _ q 369 60) 753 m (some q) = M9 at F G ⊢
  clear h
  intro q h
  refine ⟨in_at F h, ?_⟩
  replace G := same_step (id := 754) (kd := 378) (n := 60) G h
  replace F := in_step F h (show tabM[32]? = some (754, 378, 60) from rfl)
  generalize sR (na _ q 378 60) 754 m (some q) = M9 at F G ⊢
  clear h
  intro q h
  refine ⟨in_at F h, ?_⟩
  replace G := same_step (id := 755) (kd := 387) (n := 60) G h
  replace F := in_step F h (show tabM[33]? = some (755, 387, 60) from rfl)
  generalize sR (na _ q 387 60) 755 m (some q) = M9 at F G ⊢
  clear h
  intro q h
  refine ⟨in_at F h, ?_⟩
  replace G := same_step (id := 758) (kd := 395) (n := 48) G h
  replace F := in_step F h (show tabM[34]? = some (758, 395, 48) from rfl)
  generalize sR (na _ q 395 48) 758 m (some q) = M9 at F G ⊢
  clear h
  intro q h
  refine ⟨in_at F h, ?_⟩
  replace G := same_step (id := 759) (kd := 400) (n := 1500) G h
  replace F := in_step F h (show tabM[35]? = some (759, 400, 1500) from rfl)
  exact hK _ F G
