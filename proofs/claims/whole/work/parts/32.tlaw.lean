/-- both objects as their constructors leave them, and the law's own array -/
def Fresh (M : Mm) (x m o tb ta pb pa ob oa lb la : Nat) : Prop := InC M x tb ta pb pa ob oa lb la ∧ InMk M m 36 ∧ mK M o = 426 ∧ aN M o = 1
theorem InC_same {M M1 : Mm} {x tb ta pb pa ob oa lb la : Nat} (h : InC M x tb ta pb pa ob oa lb la) (hs : ∀ a, mK M a ≠ 0 → Same M M1 a) : InC M1 x tb ta pb pa ob oa lb la := by
  obtain ⟨k0, r1, r2, r3, r4, r5, i1, ⟨k1, s1, j1, k2, l1⟩, ⟨k3, s2, j2, k4, l2⟩, ⟨k5, s3, j3, j4, k6, l3⟩, ⟨k7, s4, j5, j6, k8, l4⟩, d⟩ := h
  obtain ⟨a0, b0, c0, -⟩ := hs x (by rw [k0]; decide)
  obtain ⟨a1, b1, c1, -⟩ := hs tb (by rw [k1]; decide)
  obtain ⟨a2, b2, c2, -⟩ := hs ta (by rw [k2]; decide)
  obtain ⟨a3, b3, c3, -⟩ := hs pb (by rw [k3]; decide)
  obtain ⟨a4, b4, c4, -⟩ := hs pa (by rw [k4]; decide)
  obtain ⟨a5, b5, c5, -⟩ := hs ob (by rw [k5]; decide)
  obtain ⟨a6, b6, c6, -⟩ := hs oa (by rw [k6]; decide)
  obtain ⟨a7, b7, c7, -⟩ := hs lb (by rw [k7]; decide)
  obtain ⟨a8, b8, c8, -⟩ := hs la (by rw [k8]; decide)
  refine ⟨a0.trans k0, (b0 640).2.2.trans r1, (b0 641).2.2.trans r2, (b0 642).2.2.trans r3, (b0 643).2.2.trans r4, (b0 644).2.2.trans r5, (b0 645).1.trans i1, ⟨a1.trans k1, (b1 0).2.2.trans s1, (b1 1).1.trans j1, a2.trans k2, c2.trans l1⟩, ⟨a3.trans k3, (b3 0).2.2.trans s2, (b3 1).1.trans j2, a4.trans k4, c4.trans l2⟩, ⟨a5.trans k5, (b5 192).2.2.trans s3, (b5 193).1.trans j3, (b5 194).1.trans j4, a6.trans k6, c6.trans l3⟩, ⟨a7.trans k7, (b7 192).2.2.trans s4, (b7 193).1.trans j5, (b7 194).1.trans j6, a8.trans k8, c8.trans l4⟩, d⟩
theorem InMk_same {M M1 : Mm} {m k : Nat} (h : InMk M m k) (hs : ∀ a, mK M a ≠ 0 → Same M M1 a) : InMk M1 m k := by
  obtain ⟨k0, z, f⟩ := h
  obtain ⟨a0, b0, -⟩ := hs m (by rw [k0]; decide)
  refine ⟨a0.trans k0, fun g => ⟨(b0 g).1.trans (z g).1, (b0 g).2.1.trans (z g).2⟩, fun i r hi hk => ?_⟩
  obtain ⟨a, h1, h2, h3, h4⟩ := f i r hi hk
  obtain ⟨a1, -, c1, d1⟩ := hs a (by rw [h2]; exact tabM_pos r (List.mem_of_getElem? hi))
  exact ⟨a, (b0 r.1).2.2.trans h1, a1.trans h2, c1.trans h3, fun j => ⟨(d1 j).1.trans (h4 j).1, (d1 j).2.1.trans (h4 j).2⟩⟩
theorem same_nw {M : Mm} {q k : Nat} (hq : mK M q = 0) : ∀ a, mK M a ≠ 0 → Same M (nw M q k) a := fun a ha => by
  have hne : a ≠ q := fun e => ha (e ▸ hq)
  exact ⟨by simp [ms, hne], fun f => by simp [ms, hne], by simp [ms], fun j => by simp [ms]⟩
theorem same_na {M : Mm} {q k n : Nat} (hq : mK M q = 0) : ∀ a, mK M a ≠ 0 → Same M (na M q k n) a := fun a ha => by
  have hne : a ≠ q := fun e => ha (e ▸ hq)
  exact ⟨by simp [ms, hne], fun f => by simp [ms], by simp [ms, hne], fun j => by simp [ms, hne]⟩
theorem t_law {b L : Nat} {xs : Nat → Int32} {K : Int32 → Mm → Prop} (h : ∀ M x m o tb ta pb pa ob oa lb la, Fresh M x m o tb ta pb pa ob oa lb la → lp_L_law_23 b L xs K 520 (some x) (some m) (some o) 0 M) : wp_L_law wM0 b L xs K := by
  unfold wp_L_law
  intro x hx
  refine t_X10_init (by simp [ms]) (fun M1 tb ta pb pa ob oa lb la hC _ m hm => ?_)
  refine t_X11_init (by simp [ms]) (fun f => by simp [ms]) (fun M2 hM hS o ho => ?_)
  have hC2 : InC M2 x tb ta pb pa ob oa lb la := by
    have hC1 := InC_same hC (same_nw (k := 12) hm)
    refine ?_
    have key : ∀ a, mK M1 a ≠ 0 → Same M1 M2 a := fun a ha => by
      have hne : a ≠ m := fun e => ha (e ▸ hm)
      have s1 := same_nw (k := 12) hm a ha
      have s2 := hS a (by rw [s1.1]; exact ha) hne
      exact ⟨s2.1.trans s1.1, fun f => ⟨(s2.2.1 f).1.trans (s1.2.1 f).1, (s2.2.1 f).2.1.trans (s1.2.1 f).2.1, (s2.2.1 f).2.2.trans (s1.2.1 f).2.2⟩, s2.2.2.1.trans s1.2.2.1, fun j => ⟨(s2.2.2.2 j).1.trans (s1.2.2.2 j).1, (s2.2.2.2 j).2.1.trans (s1.2.2.2 j).2.1, (s2.2.2.2 j).2.2.trans (s1.2.2.2 j).2.2⟩⟩
    exact InC_same hC key
  exact h _ x m o tb ta pb pa ob oa lb la ⟨InC_same hC2 (same_na ho), InMk_same hM (same_na ho), by simp [ms], by simp [ms]⟩
