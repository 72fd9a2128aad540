/-! the class adds a stream to its graph -/
/-- the addresses with those of the stream n -/
def updL (L : Nat → Nat → Nat) (n : Nat) (v : Nat → Nat → Nat) : Nat → Nat → Nat := fun i s => if i = 0 then L 0 s else if i = 13 ∨ i = 14 ∨ i = 15 then (if s = 2 * n then v i 0 else if s = 2 * n + 1 then v i 1 else L i s) else if s = n then v i 0 else L i s
def v12 (st ia : Nat) (v : Nat → Nat → Nat) : Nat → Nat → Nat := fun i k => if i = 1 then st else if i = 2 then ia else v i k
section CF9
variable {B N M M1 : Mm} {rd sc tb st ia J W : Nat} {tp w : List Nat} {L L' : Nat → Nat → Nat} {C C' : Cfg} {T : Tok} {x : Slot} {v : Nat → Nat → Nat}
theorem uL0 {n s : Nat} : updL L n v 0 s = L 0 s := by simp [updL]
theorem uLn {n i : Nat} (h0 : ¬ i = 0) (h : ¬ (i = 13 ∨ i = 14 ∨ i = 15)) : updL L n v i n = v i 0 := by simp [updL, h0, h]
theorem uLs {n i s : Nat} (hs : ¬ s = n) (h : ¬ (i = 13 ∨ i = 14 ∨ i = 15)) : updL L n v i s = L i s := by
  by_cases h0 : i = 0
  · subst h0; simp [updL]
  · simp [updL, h0, h, hs]
theorem uL2n {n i k : Nat} (h : i = 13 ∨ i = 14 ∨ i = 15) (hk : k < 2) : updL L n v i (2 * n + k) = v i k := by
  have h0 : ¬ i = 0 := by omega
  rcases (show k = 0 ∨ k = 1 by omega) with e | e <;> subst e <;> simp [updL, h0, h]
theorem uL2s {n i s k : Nat} (h : i = 13 ∨ i = 14 ∨ i = 15) (hs : ¬ s = n) (hk : k < 2) : updL L n v i (2 * s + k) = L i (2 * s + k) := by
  have h0 : ¬ i = 0 := by omega
  simp [updL, h0, h, show ¬ 2 * s + k = 2 * n by omega, show ¬ 2 * s + k = 2 * n + 1 by omega]
/-- a stream is told alike where addresses and text agree on it -/
theorem PS_cong {s : Nat} (h : PS M L C s) (l0 : L' 0 2 = L 0 2) (hL : ∀ i, ¬ (i = 13 ∨ i = 14 ∨ i = 15) → ¬ i = 0 → L' i s = L i s) (h3 : ∀ i k, (i = 13 ∨ i = 14 ∨ i = 15) → k < 2 → L' i (2 * s + k) = L i (2 * s + k)) (hin : ∀ i, i < (cin C s).length → L' 1 (a_in C s i) = L 1 (a_in C s i)) (c1 : ckd C' s = ckd C s) (c2 : cin C' s = cin C s) (c3 : co1 C' s = co1 C s) (c4 : co2 C' s = co2 C s) (c5 : cpt C' s = cpt C s) (c6 : chl C' s = chl C s) (c7 : caf C' s = caf C s) (c8 : cgr C' s = cgr C s) (c9 : cnm C' s = cnm C s) (h4 : ckd C s = 4 → (cin C s).length = 2) : PS M L' C' s := by
  have ai : ∀ i, a_in C' s i = a_in C s i := fun i => by unfold a_in; rw [c2]
  obtain ⟨p1, p2, p3, p4, p5, p6, p7, p8, p9⟩ := h
  refine ⟨?_, by rw [hL 1 (by decide) (by decide), c9]; exact p2, by rw [c9]; exact p3, fun i hi => ?_, by rw [hL 1 (by decide) (by decide)]; exact p5, by rw [hL 1 (by decide) (by decide)]; exact p6, fun z => ?_, fun z => ?_, fun z => ?_⟩
  · unfold CSTn
    rw [l0, hL 1 (by decide) (by decide), hL 2 (by decide) (by decide), hL 3 (by decide) (by decide), hL 8 (by decide) (by decide), hL 16 (by decide) (by decide), c1, c2, c3]; exact p1
  · rw [c2] at hi
    rw [hL 2 (by decide) (by decide), ai, hin i hi]; exact p4 i hi
  · rw [c1] at z
    unfold CSO
    rw [hL 3 (by decide) (by decide), hL 4 (by decide) (by decide), hL 5 (by decide) (by decide), hL 6 (by decide) (by decide), hL 7 (by decide) (by decide), c3, c5, c6, c7, c8]; exact p7 z
  · rw [c1] at z
    have h2 := h4 z
    obtain ⟨⟨q1, q2, q3, q4, q5, q6, q7, q8, q9, q10, q11, q12, q13, q14, q15, q16, q17, q18⟩, qq⟩ := p8 z
    refine ⟨⟨?_, ?_, ?_, ?_, ?_, ?_, ?_, ?_, ?_, ?_, ?_, ?_, ?_, ?_, ?_, ?_, ?_, fun k hk => ?_⟩, fun k hk => by rw [hL 9 (by decide) (by decide)]; exact qq k hk⟩
    · rw [hL 8 (by decide) (by decide)]; exact q1
    · rw [hL 8 (by decide) (by decide), ai, hin 0 (by omega)]; exact q2
    · rw [hL 8 (by decide) (by decide), ai, hin 1 (by omega)]; exact q3
    · rw [hL 8 (by decide) (by decide), c3]; exact q4
    · rw [hL 8 (by decide) (by decide), c4]; exact q5
    · rw [hL 8 (by decide) (by decide), hL 9 (by decide) (by decide)]; exact q6
    · rw [hL 8 (by decide) (by decide), hL 10 (by decide) (by decide)]; exact q7
    · rw [hL 8 (by decide) (by decide), hL 11 (by decide) (by decide)]; exact q8
    · rw [hL 8 (by decide) (by decide), hL 12 (by decide) (by decide)]; exact q9
    · rw [hL 9 (by decide) (by decide)]; exact q10
    · rw [hL 9 (by decide) (by decide)]; exact q11
    · rw [hL 10 (by decide) (by decide)]; exact q12
    · rw [hL 10 (by decide) (by decide)]; exact q13
    · rw [hL 11 (by decide) (by decide)]; exact q14
    · rw [hL 11 (by decide) (by decide)]; exact q15
    · rw [hL 12 (by decide) (by decide)]; exact q16
    · rw [hL 12 (by decide) (by decide)]; exact q17
    · rw [hL 10 (by decide) (by decide), hL 11 (by decide) (by decide), hL 12 (by decide) (by decide), h3 13 k (by decide) hk, h3 14 k (by decide) hk, h3 15 k (by decide) hk]; exact q18 k hk
  · rw [c1] at z
    unfold CWO
    rw [hL 16 (by decide) (by decide), hL 17 (by decide) (by decide), hL 18 (by decide) (by decide), hL 19 (by decide) (by decide), c3, c4]; exact p9 z
/-- one reference more in the graph's array, one stream more in its number -/
def AX (M M1 : Mm) (a2 gr n : Nat) (o : Option Nat) : Prop := M1 = sI (tR M a2 n o) 69 gr (nI (n + 1))
theorem PS_ax {n s gr : Nat} {o : Option Nat} (h : PS M L C s) (k2 : mK M (L 0 2) = 412) (hs : ¬ s = n) (hx : AX M M1 (L 0 2) gr n o) : PS M1 L C s := by
  subst hx
  obtain ⟨p1, p2, p3, p4, p5, p6, p7, p8, p9⟩ := h
  have kk : ∀ {a k}, mK M a = k → ¬ k = 412 → ¬ a = L 0 2 := fun h h0 e => h0 (by rw [← h, e]; exact k2)
  refine ⟨⟨?_, p1.2.1, by simpa [ms] using p1.2.2.1, p1.2.2.2.1, p1.2.2.2.2.1, p1.2.2.2.2.2.1, p1.2.2.2.2.2.2.1, by simpa [ms] using p1.2.2.2.2.2.2.2.1, p1.2.2.2.2.2.2.2.2⟩, p2, p3, fun i hi => ?_, p5, by simpa [ms] using p6, fun z => ?_, fun z => ?_, fun z => ?_⟩
  · simpa [ms, hs] using p1.1
  · have := kk p1.2.2.2.2.2.1 (by decide)
    simpa [ms, this] using p4 i hi
  · obtain ⟨a, b⟩ := p7 z
    exact ⟨⟨a.1, by simpa [ms] using a.2.1, a.2.2.1, by simpa [ms] using a.2.2.2.1, by simpa [ms] using a.2.2.2.2.1, a.2.2.2.2.2⟩, b⟩
  · obtain ⟨a, b⟩ := p8 z
    obtain ⟨q1, q2, q3, q4, q5, q6, q7, q8, q9, q10, q11, q12, q13, q14, q15, q16, q17, q18⟩ := a
    have n10 := kk q12 (by decide)
    have n11 := kk q14 (by decide)
    have n12 := kk q16 (by decide)
    refine ⟨⟨q1, q2, q3, q4, q5, q6, q7, q8, q9, q10, q11, q12, q13, q14, q15, q16, q17, fun k hk => ⟨by simpa [ms, n10] using (q18 k hk).1, by simpa [ms, n11] using (q18 k hk).2.1, by simpa [ms, n12] using (q18 k hk).2.2.1, (q18 k hk).2.2.2⟩⟩, b⟩
  · obtain ⟨a, b⟩ := p9 z
    exact ⟨a, by simpa [ms] using b⟩
theorem kwc : ∀ k, k ≤ 5 → True := fun _ _ => trivial
/-- the stream n itself -/
theorem PS_new (h : SLX M L st ia (cn C) w x v) (hw : WW w) (k2 : mK M (L 0 2) = 412) (hin : INb C x.2.1) (hX : XOK C x) (hx : AX M M1 (L 0 2) (L 0 1) (cn C) (some st)) : PS M1 (updL L (cn C) (v12 st ia v)) (a_adds C w x) (cn C) := by
  subst hx
  obtain ⟨⟨a1, a2, a3, a4, a5, a6, a7, a8, a9, a10, a11, a12, a13, a14, a15⟩, b2, b3, b4, b5⟩ := h
  have kk : ∀ {a k}, mK M a = k → ¬ k = 412 → ¬ a = L 0 2 := fun h h0 e => h0 (by rw [← h, e]; exact k2)
  have u : ∀ i, ¬ i = 0 → ¬ (i = 13 ∨ i = 14 ∨ i = 15) → updL L (cn C) (v12 st ia v) i (cn C) = v12 st ia v i 0 := fun i h0 h => uLn h0 h
  have u1 : updL L (cn C) (v12 st ia v) 1 (cn C) = st := u 1 (by decide) (by decide)
  have u2 : updL L (cn C) (v12 st ia v) 2 (cn C) = ia := u 2 (by decide) (by decide)
  have uv : ∀ i, ¬ i = 0 → ¬ i = 1 → ¬ i = 2 → ¬ (i = 13 ∨ i = 14 ∨ i = 15) → updL L (cn C) (v12 st ia v) i (cn C) = v i 0 := fun i h0 h1 h2 h => (u i h0 h).trans (by simp [v12, h1, h2])
  have c1 : ckd (a_adds C w x) (cn C) = x.1 := if_pos rfl
  have c2 : cin (a_adds C w x) (cn C) = x.2.1 := if_pos rfl
  have c3 : co1 (a_adds C w x) (cn C) = x.2.2.1 := if_pos rfl
  have c4 : co2 (a_adds C w x) (cn C) = x.2.2.2.1 := if_pos rfl
  have c5 : cpt (a_adds C w x) (cn C) = x.2.2.2.2.1 := if_pos rfl
  have c6 : chl (a_adds C w x) (cn C) = x.2.2.2.2.2.1 := if_pos rfl
  have c7 : caf (a_adds C w x) (cn C) = x.2.2.2.2.2.2.1 := if_pos rfl
  have c8 : cgr (a_adds C w x) (cn C) = x.2.2.2.2.2.2.2 := if_pos rfl
  have c9 : cnm (a_adds C w x) (cn C) = w := if_pos rfl
  have ai : ∀ i, a_in (a_adds C w x) (cn C) i = x.2.1.getD i 0 := fun i => by unfold a_in; rw [c2]
  have ul : ∀ i, i < x.2.1.length → updL L (cn C) (v12 st ia v) 1 (x.2.1.getD i 0) = L 1 (x.2.1.getD i 0) := fun i hi => by
    refine uLs (fun e => ?_) (by decide)
    have := hin (x.2.1.getD i 0) (by rw [List.getD_eq_getElem?_getD, List.getElem?_eq_getElem hi]; exact List.getElem_mem hi)
    omega
  have gi : ∀ i, i < x.2.1.length → x.2.1[i]? = some (x.2.1.getD i 0) := fun i hi => by rw [List.getD_eq_getElem?_getD, List.getElem?_eq_getElem hi]; rfl
  refine ⟨?_, by rw [u1, c9]; exact a3, by rw [c9]; exact hw, fun i hi => ?_, by rw [u1]; exact a10, by rw [u1]; simpa [ms] using a11, fun z => ?_, fun z => ?_, fun z => ?_⟩
  · unfold CSTn
    rw [u1, u2, uv 3 (by decide) (by decide) (by decide) (by decide), uv 8 (by decide) (by decide) (by decide) (by decide), uv 16 (by decide) (by decide) (by decide) (by decide), c1, c2, c3, uL0]
    exact ⟨by simp [ms], a1, by simpa [ms] using a2, a4, a5, a6, a7, by simpa [ms] using a8, a12, a13, a14, a15⟩
  · rw [c2] at hi
    rw [u2, ai, ul i hi]
    have := b2 i _ (gi i hi)
    simpa [ms, kk a6 (by decide)] using this
  · rw [c1] at z
    obtain ⟨q, qq⟩ := b3 z
    unfold CSO
    rw [uv 3 (by decide) (by decide) (by decide) (by decide), uv 4 (by decide) (by decide) (by decide) (by decide), uv 5 (by decide) (by decide) (by decide) (by decide), uv 6 (by decide) (by decide) (by decide) (by decide), uv 7 (by decide) (by decide) (by decide) (by decide), c3, c5, c6, c7, c8]
    exact ⟨⟨q.1, by simpa [ms] using q.2.1, q.2.2.1, by simpa [ms] using q.2.2.2.1, by simpa [ms] using q.2.2.2.2.1, q.2.2.2.2.2⟩, qq⟩
  · rw [c1] at z
    have l2 := hX.2.2.2.2.2.1 z
    obtain ⟨⟨q1, q2, q3, q4, q5, q6, q7, q8, q9, q10, q11, q12, q13, q14, q15, q16, q17, q18⟩, qq⟩ := b4 z
    have n10 := kk q12 (by decide)
    have n11 := kk q14 (by decide)
    have n12 := kk q16 (by decide)
    have w3 : ∀ i k, (i = 13 ∨ i = 14 ∨ i = 15) → k < 2 → updL L (cn C) (v12 st ia v) i (2 * cn C + k) = v i k := fun i k hi hk => (uL2n hi hk).trans (by simp [v12, show ¬ i = 1 by omega, show ¬ i = 2 by omega])
    have e8 := uv 8 (by decide) (by decide) (by decide) (by decide)
    have e9 := uv 9 (by decide) (by decide) (by decide) (by decide)
    have e10 := uv 10 (by decide) (by decide) (by decide) (by decide)
    have e11 := uv 11 (by decide) (by decide) (by decide) (by decide)
    have e12 := uv 12 (by decide) (by decide) (by decide) (by decide)
    refine ⟨⟨?_, ?_, ?_, ?_, ?_, ?_, ?_, ?_, ?_, ?_, ?_, ?_, ?_, ?_, ?_, ?_, ?_, fun k hk => ?_⟩, fun k hk => by rw [e9]; exact qq k hk⟩
    · rw [e8]; exact q1
    · rw [e8, ai, ul 0 (by omega)]; exact q2
    · rw [e8, ai, ul 1 (by omega)]; exact q3
    · rw [e8, c3]; exact q4
    · rw [e8, c4]; exact q5
    · rw [e8, e9]; exact q6
    · rw [e8, e10]; exact q7
    · rw [e8, e11]; exact q8
    · rw [e8, e12]; exact q9
    · rw [e9]; exact q10
    · rw [e9]; exact q11
    · rw [e10]; exact q12
    · rw [e10]; exact q13
    · rw [e11]; exact q14
    · rw [e11]; exact q15
    · rw [e12]; exact q16
    · rw [e12]; exact q17
    · rw [e10, e11, e12, w3 13 k (by decide) hk, w3 14 k (by decide) hk, w3 15 k (by decide) hk]
      exact ⟨by simpa [ms, n10] using (q18 k hk).1, by simpa [ms, n11] using (q18 k hk).2.1, by simpa [ms, n12] using (q18 k hk).2.2.1, (q18 k hk).2.2.2⟩
  · rw [c1] at z
    obtain ⟨q, qq⟩ := b5 z
    unfold CWO
    rw [uv 16 (by decide) (by decide) (by decide) (by decide), uv 17 (by decide) (by decide) (by decide) (by decide), uv 18 (by decide) (by decide) (by decide) (by decide), uv 19 (by decide) (by decide) (by decide) (by decide), c3, c4]
    exact ⟨q, by simpa [ms] using qq⟩
theorem CIJ_new (h : CIJ L C) (hP : ∀ s, s < cn C → PS N L C s) (hst : mK N st = 0) (hf : FRH N x v) : CIJ (updL L (cn C) (v12 st ia v)) (a_adds C w x) := by
  obtain ⟨h1, h2, h3, h4, h5⟩ := h
  have uv : ∀ i, ¬ i = 0 → ¬ i = 1 → ¬ i = 2 → ¬ (i = 13 ∨ i = 14 ∨ i = 15) → updL L (cn C) (v12 st ia v) i (cn C) = v i 0 := fun i h0 h1 h2 h => (uLn h0 h).trans (by simp [v12, h1, h2])
  have u1 : updL L (cn C) (v12 st ia v) 1 (cn C) = st := uLn (by decide) (by decide)
  have us : ∀ i s, ¬ s = cn C → ¬ (i = 13 ∨ i = 14 ∨ i = 15) → updL L (cn C) (v12 st ia v) i s = L i s := fun i s hs hi => uLs hs hi
  have w3 : ∀ i k, (i = 13 ∨ i = 14 ∨ i = 15) → k < 2 → updL L (cn C) (v12 st ia v) i (2 * cn C + k) = v i k := fun i k hi hk => (uL2n hi hk).trans (by simp [v12, show ¬ i = 1 by omega, show ¬ i = 2 by omega])
  have ws : ∀ i s k, (i = 13 ∨ i = 14 ∨ i = 15) → ¬ s = cn C → k < 2 → updL L (cn C) (v12 st ia v) i (2 * s + k) = L i (2 * s + k) := fun i s k hi hs hk => uL2s hi hs hk
  have ckn : ckd (a_adds C w x) (cn C) = x.1 := if_pos rfl
  have cks : ∀ s, ¬ s = cn C → ckd (a_adds C w x) s = ckd C s := fun s hs => if_neg hs
  have ne : ∀ {a b k}, mK N a = k → ¬ k = 0 → mK N b = 0 → ¬ a = b := fun ha h0 hb e => h0 (by rw [← ha, e]; exact hb)
  have clt : ∀ s, s < cn (a_adds C w x) → ¬ s = cn C → s < cn C := fun s hs e => by
    have h9 : s < cn C + 1 := hs
    omega
  refine ⟨fun s q hs hq e => ?_, fun s q hs hq ks kq e => ?_, fun s q hs hq ks kq e => ?_, fun s q i j hs hq ks kq hi hj e => ?_, fun s q hs hq ks kq e => ?_⟩
  · by_cases a : s = cn C <;> by_cases b : q = cn C
    · omega
    · subst a
      rw [u1, us 1 q b (by decide)] at e
      exact absurd e.symm (ne (hP q (clt q hq b)).1.2.1 (by decide) hst)
    · subst b
      rw [u1, us 1 s a (by decide)] at e
      exact absurd e (ne (hP s (clt s hs a)).1.2.1 (by decide) hst)
    · rw [us 1 s a (by decide), us 1 q b (by decide)] at e
      exact h1 s q (clt s hs a) (clt q hq b) e
  · by_cases a : s = cn C <;> by_cases b : q = cn C
    · omega
    · subst a
      rw [ckn] at ks; rw [cks q b] at kq
      have f := hf.1 ks
      have p := ((hP q (clt q hq b)).2.2.2.2.2.2.1 kq).1
      rw [uv 4 (by decide) (by decide) (by decide) (by decide), uv 5 (by decide) (by decide) (by decide) (by decide), uv 6 (by decide) (by decide) (by decide) (by decide), uv 7 (by decide) (by decide) (by decide) (by decide), us 4 q b (by decide), us 5 q b (by decide), us 6 q b (by decide), us 7 q b (by decide)] at e
      rcases e with e | e | e | e
      · exact absurd e.symm (ne p.2.2.2.2.2.2.2.2.2.1 (by decide) f.1)
      · exact absurd e.symm (ne p.2.2.2.2.2.2.2.2.2.2.2.1 (by decide) f.2.1)
      · exact absurd e.symm (ne p.2.2.2.2.2.2.2.2.2.2.2.2.2.1 (by decide) f.2.2.1)
      · exact absurd e.symm (ne p.2.2.2.2.2.2.2.2.2.2.2.2.2.2.2.1 (by decide) f.2.2.2)
    · subst b
      rw [ckn] at kq; rw [cks s a] at ks
      have f := hf.1 kq
      have p := ((hP s (clt s hs a)).2.2.2.2.2.2.1 ks).1
      rw [uv 4 (by decide) (by decide) (by decide) (by decide), uv 5 (by decide) (by decide) (by decide) (by decide), uv 6 (by decide) (by decide) (by decide) (by decide), uv 7 (by decide) (by decide) (by decide) (by decide), us 4 s a (by decide), us 5 s a (by decide), us 6 s a (by decide), us 7 s a (by decide)] at e
      rcases e with e | e | e | e
      · exact absurd e (ne p.2.2.2.2.2.2.2.2.2.1 (by decide) f.1)
      · exact absurd e (ne p.2.2.2.2.2.2.2.2.2.2.2.1 (by decide) f.2.1)
      · exact absurd e (ne p.2.2.2.2.2.2.2.2.2.2.2.2.2.1 (by decide) f.2.2.1)
      · exact absurd e (ne p.2.2.2.2.2.2.2.2.2.2.2.2.2.2.2.1 (by decide) f.2.2.2)
    · rw [cks s a] at ks; rw [cks q b] at kq
      rw [us 4 s a (by decide), us 5 s a (by decide), us 6 s a (by decide), us 7 s a (by decide), us 4 q b (by decide), us 5 q b (by decide), us 6 q b (by decide), us 7 q b (by decide)] at e
      exact h2 s q (clt s hs a) (clt q hq b) ks kq e
  · by_cases a : s = cn C <;> by_cases b : q = cn C
    · omega
    · subst a
      rw [ckn] at ks; rw [cks q b] at kq
      have p := ((hP q (clt q hq b)).2.2.2.2.2.2.2.1 kq).1
      rw [uv 9 (by decide) (by decide) (by decide) (by decide), us 9 q b (by decide)] at e
      exact absurd e.symm (ne p.2.2.2.2.2.2.2.2.2.1 (by decide) (hf.2.1 ks).1)
    · subst b
      rw [ckn] at kq; rw [cks s a] at ks
      have p := ((hP s (clt s hs a)).2.2.2.2.2.2.2.1 ks).1
      rw [uv 9 (by decide) (by decide) (by decide) (by decide), us 9 s a (by decide)] at e
      exact absurd e (ne p.2.2.2.2.2.2.2.2.2.1 (by decide) (hf.2.1 kq).1)
    · rw [cks s a] at ks; rw [cks q b] at kq
      rw [us 9 s a (by decide), us 9 q b (by decide)] at e
      exact h3 s q (clt s hs a) (clt q hq b) ks kq e
  · by_cases a : s = cn C <;> by_cases b : q = cn C
    · subst a; subst b
      rw [ckn] at ks
      have d := (hf.2.1 ks).2.2
      rw [w3 13 i (by decide) hi, w3 13 j (by decide) hj, w3 14 i (by decide) hi, w3 14 j (by decide) hj, w3 15 i (by decide) hi, w3 15 j (by decide) hj] at e
      refine ⟨rfl, ?_⟩
      rcases (show i = 0 ∨ i = 1 by omega) with ei | ei <;> rcases (show j = 0 ∨ j = 1 by omega) with ej | ej <;> subst ei <;> subst ej
      · rfl
      · rcases e with e | e | e
        · exact absurd e d.1
        · exact absurd e d.2.1
        · exact absurd e d.2.2
      · rcases e with e | e | e
        · exact absurd e.symm d.1
        · exact absurd e.symm d.2.1
        · exact absurd e.symm d.2.2
      · rfl
    · subst a
      rw [ckn] at ks; rw [cks q b] at kq
      have f := (hf.2.1 ks).2.1 i hi
      have p := ((hP q (clt q hq b)).2.2.2.2.2.2.2.1 kq).1.2.2.2.2.2.2.2.2.2.2.2.2.2.2.2.2.2 j hj
      rw [w3 13 i (by decide) hi, ws 13 q j (by decide) b hj, w3 14 i (by decide) hi, ws 14 q j (by decide) b hj, w3 15 i (by decide) hi, ws 15 q j (by decide) b hj] at e
      rcases e with e | e | e
      · exact absurd e.symm (ne p.2.2.2.1 (by decide) f.1)
      · exact absurd e.symm (ne p.2.2.2.2.2.1 (by decide) f.2.1)
      · exact absurd e.symm (ne p.2.2.2.2.2.2.2.1 (by decide) f.2.2)
    · subst b
      rw [ckn] at kq; rw [cks s a] at ks
      have f := (hf.2.1 kq).2.1 j hj
      have p := ((hP s (clt s hs a)).2.2.2.2.2.2.2.1 ks).1.2.2.2.2.2.2.2.2.2.2.2.2.2.2.2.2.2 i hi
      rw [w3 13 j (by decide) hj, ws 13 s i (by decide) a hi, w3 14 j (by decide) hj, ws 14 s i (by decide) a hi, w3 15 j (by decide) hj, ws 15 s i (by decide) a hi] at e
      rcases e with e | e | e
      · exact absurd e (ne p.2.2.2.1 (by decide) f.1)
      · exact absurd e (ne p.2.2.2.2.2.1 (by decide) f.2.1)
      · exact absurd e (ne p.2.2.2.2.2.2.2.1 (by decide) f.2.2)
    · rw [cks s a] at ks; rw [cks q b] at kq
      rw [ws 13 s i (by decide) a hi, ws 13 q j (by decide) b hj, ws 14 s i (by decide) a hi, ws 14 q j (by decide) b hj, ws 15 s i (by decide) a hi, ws 15 q j (by decide) b hj] at e
      exact h4 s q i j (clt s hs a) (clt q hq b) ks kq hi hj e
  · by_cases a : s = cn C <;> by_cases b : q = cn C
    · omega
    · subst a
      rw [ckn] at ks; rw [cks q b] at kq
      have f := hf.2.2 ks
      have p := ((hP q (clt q hq b)).2.2.2.2.2.2.2.2 kq).1
      rw [uv 16 (by decide) (by decide) (by decide) (by decide), uv 17 (by decide) (by decide) (by decide) (by decide), uv 18 (by decide) (by decide) (by decide) (by decide), uv 19 (by decide) (by decide) (by decide) (by decide), us 16 q b (by decide), us 17 q b (by decide), us 18 q b (by decide), us 19 q b (by decide)] at e
      rcases e with e | e | e | e
      · exact absurd e.symm (ne p.1 (by decide) f.1)
      · exact absurd e.symm (ne p.2.2.2.2.2.2.1 (by decide) f.2.1)
      · exact absurd e.symm (ne p.2.2.2.2.2.2.2.2.1 (by decide) f.2.2.1)
      · exact absurd e.symm (ne p.2.2.2.2.2.2.2.2.2.2.1 (by decide) f.2.2.2)
    · subst b
      rw [ckn] at kq; rw [cks s a] at ks
      have f := hf.2.2 kq
      have p := ((hP s (clt s hs a)).2.2.2.2.2.2.2.2 ks).1
      rw [uv 16 (by decide) (by decide) (by decide) (by decide), uv 17 (by decide) (by decide) (by decide) (by decide), uv 18 (by decide) (by decide) (by decide) (by decide), uv 19 (by decide) (by decide) (by decide) (by decide), us 16 s a (by decide), us 17 s a (by decide), us 18 s a (by decide), us 19 s a (by decide)] at e
      rcases e with e | e | e | e
      · exact absurd e (ne p.1 (by decide) f.1)
      · exact absurd e (ne p.2.2.2.2.2.2.1 (by decide) f.2.1)
      · exact absurd e (ne p.2.2.2.2.2.2.2.2.1 (by decide) f.2.2.1)
      · exact absurd e (ne p.2.2.2.2.2.2.2.2.2.2.1 (by decide) f.2.2.2)
    · rw [cks s a] at ks; rw [cks q b] at kq
      rw [us 16 s a (by decide), us 17 s a (by decide), us 18 s a (by decide), us 19 s a (by decide), us 16 q b (by decide), us 17 q b (by decide), us 18 q b (by decide), us 19 q b (by decide)] at e
      exact h5 s q (clt s hs a) (clt q hq b) ks kq e
end CF9
