theorem start_S {b : Nat} {s : State} {k i : Nat} {tx : String} (hts : ∀ w ∈ lw_tbl, w.before #[Value.ref b] s = true) (h : (Cond.exactly (.string RX10 k) "java/lang/String").before #[Value.ref b] s = true) (hi : lw_tbl[i]? = some (.stringRef RX10 k tx)) : ∃ a, vk_R RX10 k tx a s := by
  obtain ⟨a, -, -, -, h1, -⟩ := Cond.exactly_spec h
  exact ⟨a, vk_R.of (hts _ (List.mem_of_getElem? hi)) h1⟩
set_option maxRecDepth 100000 in
set_option maxHeartbeats 4000000 in
theorem start_X {b : Nat} {s : State} (hts : ∀ w ∈ lw_tbl, w.before #[Value.ref b] s = true) (hgv : (Jvm.Cond.and given_1 narrow_1).before #[Value.ref b] s = true) : Xst (fun q : Nat => s.heap.size ≤ q) s s.heap ∧ va_Nc "java/lang/IndexOutOfBoundsException" "java/lang/IllegalStateException" s := by
  have hs := flat_of_before _ hgv
  refine ⟨⟨vx_Zqof (hts (.laysStatic Bundle.tN "UNASSIGNED_STACK" Bundle.steD) (List.mem_of_getElem? (i := 959) rfl)) (hts (.initialized Bundle.tN) (List.mem_of_getElem? (i := 100) rfl)) (hs (.isRef (.static Bundle.tN "UNASSIGNED_STACK" Bundle.steD)) (by decide +kernel)) (fun a h => Nat.not_le.mpr h), vx_Zqof (hts (.laysStatic Bundle.tN "SUPPRESSED_SENTINEL" Bundle.listD) (List.mem_of_getElem? (i := 961) rfl)) (hts (.initialized Bundle.tN) (List.mem_of_getElem? (i := 100) rfl)) (hs (.isRef (.static Bundle.tN "SUPPRESSED_SENTINEL" Bundle.listD)) (by decide +kernel)) (fun a h => Nat.not_le.mpr h), start_F hts, ?_⟩, va_Nc.of (hs (.not (.castable "java/lang/IndexOutOfBoundsException" "java/lang/IllegalStateException")) (by decide +kernel))⟩
  exact ⟨start_S (i := 972) hts (hs (.exactly (.string RX10 174) "java/lang/String") (by decide +kernel)) rfl, start_S (i := 1007) hts (hs (.exactly (.string RX10 249) "java/lang/String") (by decide +kernel)) rfl, start_S (i := 1028) hts (hs (.exactly (.string RX10 181) "java/lang/String") (by decide +kernel)) rfl, start_S (i := 1036) hts (hs (.exactly (.string RX10 192) "java/lang/String") (by decide +kernel)) rfl, start_S (i := 1049) hts (hs (.exactly (.string RX10 217) "java/lang/String") (by decide +kernel)) rfl, start_S (i := 1061) hts (hs (.exactly (.string RX10 223) "java/lang/String") (by decide +kernel)) rfl⟩
/-! the literals at the start -/
set_option maxRecDepth 100000 in
theorem sm_ex : ∀ i : Nat, i < 11 → Cond.exactly (.string RX11 (sIx i)) "java/lang/String" ∈ flatC (Jvm.Cond.and given_1 narrow_1) := by decide +kernel
set_option maxRecDepth 100000 in
theorem sm_co : ∀ i : Nat, i < 11 → Cond.eq (.field (.string RX11 (sIx i)) "java/lang/String" "coder" "B") (.int 0) ∈ flatC (Jvm.Cond.and given_1 narrow_1) := by decide +kernel
set_option maxRecDepth 100000 in
theorem sm_ar : ∀ i : Nat, i < 11 → Cond.arrayOf (.field (.string RX11 (sIx i)) "java/lang/String" "value" "[B") .byte ∈ flatC (Jvm.Cond.and given_1 narrow_1) := by decide +kernel
set_option maxRecDepth 100000 in
theorem sm_le : ∀ i : Nat, i < 11 → Cond.eq (.length (.field (.string RX11 (sIx i)) "java/lang/String" "value" "[B")) (.int (Int32.ofNat (slenL.getD i 0))) ∈ flatC (Jvm.Cond.and given_1 narrow_1) := by decide +kernel
def sposL : List (List Nat) := [[194, 195, 196, 197, 198, 199, 200, 201, 202, 203, 204, 205, 206, 207, 208, 209, 210, 211, 212, 213, 214, 215, 216, 217, 218, 219, 220, 221, 222, 223, 224, 225, 226, 227, 228, 229, 230, 231, 232, 233, 234, 235, 236, 237, 238, 239, 240, 241, 242, 243, 244, 245, 246, 247, 248, 249, 250, 251, 252, 253, 254, 255, 256, 257, 258, 259, 260, 261, 262, 263, 264, 265, 266, 267, 268, 269, 270, 271, 272, 273, 274, 275], [286, 287, 288, 289, 290, 291], [303, 304, 305, 306, 307], [320, 321, 322, 323, 324], [338, 339, 340, 341], [356, 357, 358, 359], [375, 376, 377, 378, 379, 380], [397, 398, 399, 400, 401], [419, 420, 421], [440, 441, 442, 443, 444], []]
set_option maxRecDepth 100000 in
theorem sm_el0 : ∀ j : Nat, j < 82 → (flatC (Jvm.Cond.and given_1 narrow_1))[(sposL.getD 0 []).getD j 0]? = some (Cond.eq (.elem (.field (.string RX11 (sIx 0)) "java/lang/String" "value" "[B") (.int (Int32.ofNat j))) (.int ((sbytL.getD 0 []).getD j 0))) := fun j hj => match j, hj with
  | 0, _ => rfl
  | 1, _ => rfl
  | 2, _ => rfl
  | 3, _ => rfl
  | 4, _ => rfl
  | 5, _ => rfl
  | 6, _ => rfl
  | 7, _ => rfl
  | 8, _ => rfl
  | 9, _ => rfl
  | 10, _ => rfl
  | 11, _ => rfl
  | 12, _ => rfl
  | 13, _ => rfl
  | 14, _ => rfl
  | 15, _ => rfl
  | 16, _ => rfl
  | 17, _ => rfl
  | 18, _ => rfl
  | 19, _ => rfl
  | 20, _ => rfl
  | 21, _ => rfl
  | 22, _ => rfl
  | 23, _ => rfl
  | 24, _ => rfl
  | 25, _ => rfl
  | 26, _ => rfl
  | 27, _ => rfl
  | 28, _ => rfl
  | 29, _ => rfl
  | 30, _ => rfl
  | 31, _ => rfl
  | 32, _ => rfl
  | 33, _ => rfl
  | 34, _ => rfl
  | 35, _ => rfl
  | 36, _ => rfl
  | 37, _ => rfl
  | 38, _ => rfl
  | 39, _ => rfl
  | 40, _ => rfl
  | 41, _ => rfl
  | 42, _ => rfl
  | 43, _ => rfl
  | 44, _ => rfl
  | 45, _ => rfl
  | 46, _ => rfl
  | 47, _ => rfl
  | 48, _ => rfl
  | 49, _ => rfl
  | 50, _ => rfl
  | 51, _ => rfl
  | 52, _ => rfl
  | 53, _ => rfl
  | 54, _ => rfl
  | 55, _ => rfl
  | 56, _ => rfl
  | 57, _ => rfl
  | 58, _ => rfl
  | 59, _ => rfl
  | 60, _ => rfl
  | 61, _ => rfl
  | 62, _ => rfl
  | 63, _ => rfl
  | 64, _ => rfl
  | 65, _ => rfl
  | 66, _ => rfl
  | 67, _ => rfl
  | 68, _ => rfl
  | 69, _ => rfl
  | 70, _ => rfl
  | 71, _ => rfl
  | 72, _ => rfl
  | 73, _ => rfl
  | 74, _ => rfl
  | 75, _ => rfl
  | 76, _ => rfl
  | 77, _ => rfl
  | 78, _ => rfl
  | 79, _ => rfl
  | 80, _ => rfl
  | 81, _ => rfl
  | j + 82, h => absurd h (by omega)
set_option maxRecDepth 100000 in
theorem sm_el1 : ∀ j : Nat, j < 6 → (flatC (Jvm.Cond.and given_1 narrow_1))[(sposL.getD 1 []).getD j 0]? = some (Cond.eq (.elem (.field (.string RX11 (sIx 1)) "java/lang/String" "value" "[B") (.int (Int32.ofNat j))) (.int ((sbytL.getD 1 []).getD j 0))) := fun j hj => match j, hj with
  | 0, _ => rfl
  | 1, _ => rfl
  | 2, _ => rfl
  | 3, _ => rfl
  | 4, _ => rfl
  | 5, _ => rfl
  | j + 6, h => absurd h (by omega)
set_option maxRecDepth 100000 in
theorem sm_el2 : ∀ j : Nat, j < 5 → (flatC (Jvm.Cond.and given_1 narrow_1))[(sposL.getD 2 []).getD j 0]? = some (Cond.eq (.elem (.field (.string RX11 (sIx 2)) "java/lang/String" "value" "[B") (.int (Int32.ofNat j))) (.int ((sbytL.getD 2 []).getD j 0))) := fun j hj => match j, hj with
  | 0, _ => rfl
  | 1, _ => rfl
  | 2, _ => rfl
  | 3, _ => rfl
  | 4, _ => rfl
  | j + 5, h => absurd h (by omega)
set_option maxRecDepth 100000 in
theorem sm_el3 : ∀ j : Nat, j < 5 → (flatC (Jvm.Cond.and given_1 narrow_1))[(sposL.getD 3 []).getD j 0]? = some (Cond.eq (.elem (.field (.string RX11 (sIx 3)) "java/lang/String" "value" "[B") (.int (Int32.ofNat j))) (.int ((sbytL.getD 3 []).getD j 0))) := fun j hj => match j, hj with
  | 0, _ => rfl
  | 1, _ => rfl
  | 2, _ => rfl
  | 3, _ => rfl
  | 4, _ => rfl
  | j + 5, h => absurd h (by omega)
set_option maxRecDepth 100000 in
theorem sm_el4 : ∀ j : Nat, j < 4 → (flatC (Jvm.Cond.and given_1 narrow_1))[(sposL.getD 4 []).getD j 0]? = some (Cond.eq (.elem (.field (.string RX11 (sIx 4)) "java/lang/String" "value" "[B") (.int (Int32.ofNat j))) (.int ((sbytL.getD 4 []).getD j 0))) := fun j hj => match j, hj with
  | 0, _ => rfl
  | 1, _ => rfl
  | 2, _ => rfl
  | 3, _ => rfl
  | j + 4, h => absurd h (by omega)
set_option maxRecDepth 100000 in
theorem sm_el5 : ∀ j : Nat, j < 4 → (flatC (Jvm.Cond.and given_1 narrow_1))[(sposL.getD 5 []).getD j 0]? = some (Cond.eq (.elem (.field (.string RX11 (sIx 5)) "java/lang/String" "value" "[B") (.int (Int32.ofNat j))) (.int ((sbytL.getD 5 []).getD j 0))) := fun j hj => match j, hj with
  | 0, _ => rfl
  | 1, _ => rfl
  | 2, _ => rfl
  | 3, _ => rfl
  | j + 4, h => absurd h (by omega)
set_option maxRecDepth 100000 in
theorem sm_el6 : ∀ j : Nat, j < 6 → (flatC (Jvm.Cond.and given_1 narrow_1))[(sposL.getD 6 []).getD j 0]? = some (Cond.eq (.elem (.field (.string RX11 (sIx 6)) "java/lang/String" "value" "[B") (.int (Int32.ofNat j))) (.int ((sbytL.getD 6 []).getD j 0))) := fun j hj => match j, hj with
  | 0, _ => rfl
  | 1, _ => rfl
  | 2, _ => rfl
  | 3, _ => rfl
  | 4, _ => rfl
  | 5, _ => rfl
  | j + 6, h => absurd h (by omega)
set_option maxRecDepth 100000 in
theorem sm_el7 : ∀ j : Nat, j < 5 → (flatC (Jvm.Cond.and given_1 narrow_1))[(sposL.getD 7 []).getD j 0]? = some (Cond.eq (.elem (.field (.string RX11 (sIx 7)) "java/lang/String" "value" "[B") (.int (Int32.ofNat j))) (.int ((sbytL.getD 7 []).getD j 0))) := fun j hj => match j, hj with
  | 0, _ => rfl
  | 1, _ => rfl
  | 2, _ => rfl
  | 3, _ => rfl
  | 4, _ => rfl
  | j + 5, h => absurd h (by omega)
set_option maxRecDepth 100000 in
theorem sm_el8 : ∀ j : Nat, j < 3 → (flatC (Jvm.Cond.and given_1 narrow_1))[(sposL.getD 8 []).getD j 0]? = some (Cond.eq (.elem (.field (.string RX11 (sIx 8)) "java/lang/String" "value" "[B") (.int (Int32.ofNat j))) (.int ((sbytL.getD 8 []).getD j 0))) := fun j hj => match j, hj with
  | 0, _ => rfl
  | 1, _ => rfl
  | 2, _ => rfl
  | j + 3, h => absurd h (by omega)
set_option maxRecDepth 100000 in
theorem sm_el9 : ∀ j : Nat, j < 5 → (flatC (Jvm.Cond.and given_1 narrow_1))[(sposL.getD 9 []).getD j 0]? = some (Cond.eq (.elem (.field (.string RX11 (sIx 9)) "java/lang/String" "value" "[B") (.int (Int32.ofNat j))) (.int ((sbytL.getD 9 []).getD j 0))) := fun j hj => match j, hj with
  | 0, _ => rfl
  | 1, _ => rfl
  | 2, _ => rfl
  | 3, _ => rfl
  | 4, _ => rfl
  | j + 5, h => absurd h (by omega)
set_option maxRecDepth 100000 in
theorem sm_el10 : ∀ j : Nat, j < 0 → (flatC (Jvm.Cond.and given_1 narrow_1))[(sposL.getD 10 []).getD j 0]? = some (Cond.eq (.elem (.field (.string RX11 (sIx 10)) "java/lang/String" "value" "[B") (.int (Int32.ofNat j))) (.int ((sbytL.getD 10 []).getD j 0))) := fun j hj => match j, hj with
  | j + 0, h => absurd h (by omega)
theorem sm_el : ∀ i : Nat, i < 11 → ∀ j : Nat, j < slenL.getD i 0 → Cond.eq (.elem (.field (.string RX11 (sIx i)) "java/lang/String" "value" "[B") (.int (Int32.ofNat j))) (.int ((sbytL.getD i []).getD j 0)) ∈ flatC (Jvm.Cond.and given_1 narrow_1) := fun i hi j hj => match i, hi, hj with
  | 0, _, h => List.mem_of_getElem? (sm_el0 j h)
  | 1, _, h => List.mem_of_getElem? (sm_el1 j h)
  | 2, _, h => List.mem_of_getElem? (sm_el2 j h)
  | 3, _, h => List.mem_of_getElem? (sm_el3 j h)
  | 4, _, h => List.mem_of_getElem? (sm_el4 j h)
  | 5, _, h => List.mem_of_getElem? (sm_el5 j h)
  | 6, _, h => List.mem_of_getElem? (sm_el6 j h)
  | 7, _, h => List.mem_of_getElem? (sm_el7 j h)
  | 8, _, h => List.mem_of_getElem? (sm_el8 j h)
  | 9, _, h => List.mem_of_getElem? (sm_el9 j h)
  | 10, _, h => List.mem_of_getElem? (sm_el10 j h)
  | i + 11, h, _ => absurd h (by omega)
theorem s_one {args : Array Value} {s : State} {tm : Term} {N : Nat} {f : Nat → Int32} {A : Nat → Prop} (hN : N < 2 ^ 31) (hex : (Cond.exactly tm "java/lang/String").before args s = true) (hco : (Cond.eq (.field tm "java/lang/String" "coder" "B") (.int 0)).before args s = true) (har : (Cond.arrayOf (.field tm "java/lang/String" "value" "[B") .byte).before args s = true) (hle : (Cond.eq (.length (.field tm "java/lang/String" "value" "[B")) (.int (Int32.ofNat N))).before args s = true) (hel : ∀ j : Nat, j < N → (Cond.eq (.elem (.field tm "java/lang/String" "value" "[B") (.int (Int32.ofNat j))) (.int (f j))).before args s = true) (hA : ∀ a : Nat, a < s.heap.size → ¬ A a) : ∃ q : Nat × Nat, tm.eval args s none [] s = some (.ref q.1) ∧ va_O "java/lang/String" q.1 A s s.heap ∧ va_OF "java/lang/String" "coder" "B" (.int 0) q.1 A s s.heap ∧ va_OF "java/lang/String" "value" "[B" (.ref q.2) q.1 A s s.heap ∧ va_T .byte q.2 N (fun j => .int (f j)) A s s.heap := by
  obtain ⟨a, -, -, -, h1, -⟩ := Cond.exactly_spec hex
  obtain ⟨t, ht, hT⟩ := va_Tof (f := fun j => .int (f j)) (A := A) hN har (va_eqt hle) (fun j hj => va_eqt (hel j hj)) hA
  exact ⟨(a, t), h1, va_Oof hex h1 hA, vk_OFof h1 (va_eqt hco) hA, vk_OFof h1 ht hA, hT⟩
set_option maxRecDepth 100000 in
theorem sm_tx : ∀ i : Nat, i < 11 → lw_tbl[[1267, 1647, 1648, 1649, 1650, 1651, 1652, 1657, 1658, 1659, 1660].getD i 0]? = some (.stringRef RX11 (sIx i) (sTx i)) := fun i hi => match i, hi with
  | 0, _ => rfl
  | 1, _ => rfl
  | 2, _ => rfl
  | 3, _ => rfl
  | 4, _ => rfl
  | 5, _ => rfl
  | 6, _ => rfl
  | 7, _ => rfl
  | 8, _ => rfl
  | 9, _ => rfl
  | 10, _ => rfl
  | i + 11, h => absurd h (by omega)
set_option maxRecDepth 100000 in
set_option maxHeartbeats 4000000 in
theorem start_L {b : Nat} {s : State} (hts : ∀ w ∈ lw_tbl, w.before #[Value.ref b] s = true) (hgv : (Jvm.Cond.and given_1 narrow_1).before #[Value.ref b] s = true) : ∃ adK adV : Nat → Nat, ∀ t : Tys, sK t = adK → sV t = adV → SS t (fun q : Nat => s.heap.size ≤ q) s s.heap := by
  have hs := flat_of_before _ hgv
  have hA : ∀ a : Nat, a < s.heap.size → ¬ (fun q : Nat => s.heap.size ≤ q) a := fun a h => Nat.not_le.mpr h
  have h0 : ∀ i : Nat, ∃ q : Nat × Nat, i < 11 → (Term.string RX11 (sIx i)).eval #[Value.ref b] s none [] s = some (.ref q.1) ∧ va_O "java/lang/String" q.1 (fun q : Nat => s.heap.size ≤ q) s s.heap ∧ va_OF "java/lang/String" "coder" "B" (.int 0) q.1 (fun q : Nat => s.heap.size ≤ q) s s.heap ∧ va_OF "java/lang/String" "value" "[B" (.ref q.2) q.1 (fun q : Nat => s.heap.size ≤ q) s s.heap ∧ va_T .byte q.2 (slen i) (fun j => .int (sby i j)) (fun q : Nat => s.heap.size ≤ q) s s.heap := fun i => by
    by_cases hi : i < 11
    · obtain ⟨q, hq⟩ := s_one (args := #[Value.ref b]) (s := s) (tm := .string RX11 (sIx i)) (N := slen i) (f := sby i) (A := fun q : Nat => s.heap.size ≤ q) (by have h9 : ∀ i, i < 11 → slen i < 2 ^ 31 := (by decide); exact h9 i hi) (hs _ (sm_ex i hi)) (hs _ (sm_co i hi)) (hs _ (sm_ar i hi)) (hs _ (sm_le i hi)) (fun j hj => hs _ (sm_el i hi j hj)) hA
      exact ⟨q, fun _ => hq⟩
    · exact ⟨(0, 0), fun h => absurd h hi⟩
  obtain ⟨ad, had⟩ := Classical.axiomOfChoice h0
  refine ⟨fun i => (ad i).1, fun i => (ad i).2, fun t e1 e2 => ⟨fun i hi => ?_, va_Zof (hts (.laysStatic "java/lang/String" "COMPACT_STRINGS" "Z") (List.mem_of_getElem? (i := 1277) rfl)) (hts (.initialized "java/lang/String") (List.mem_of_getElem? (i := 93) rfl)) (va_eqi (hs (.eq (.static "java/lang/String" "COMPACT_STRINGS" "Z") (.int 1)) (by decide +kernel))) hA, va_Zqof (hts (.laysStatic "jdk/internal/util/Preconditions" "SIOOBE_FORMATTER" "Ljava/util/function/BiFunction;") (List.mem_of_getElem? (i := 1321) rfl)) (hts (.initialized "jdk/internal/util/Preconditions") (List.mem_of_getElem? (i := 97) rfl)) (hs (.isRef (.static "jdk/internal/util/Preconditions" "SIOOBE_FORMATTER" "Ljava/util/function/BiFunction;")) (by decide +kernel)) hA, fun i hi => ?_⟩⟩
  · rw [e1, e2]; exact (had i hi).2
  · rw [e1]; exact vk_R.of (hts _ (List.mem_of_getElem? (sm_tx i hi))) (had i hi).1
set_option maxRecDepth 100000 in
set_option maxHeartbeats 4000000 in
/-- the law, from its entry, out of its predicate on the empty memory -/
theorem law_enter {p : Program} {e : Env} {s : State} {m : MethodId} {below : List Frame} {meth : Method} {c : Code} (l : Launch) (hlst : l.stackTraces = false) {b L : Nat} {xs : Nat → Int32} (C0 : lw_At p s m meth c b L xs) (hwp : wp_L_law wM0 b L xs (fun r _ => r = 1)) : W p l e room_1 s m #[Value.ref b] below meth c s.heap [] 0 0 (lw_Z below #[Value.ref b] s) (entryFrame m ([Value.ref b] : List Value).toArray 8) := by
  obtain ⟨hx, hb, hr, hml, hown, hts, hX, hbl, hlocks, hgv⟩ := C0
  obtain ⟨adK, adV, hL0⟩ := start_L hts hgv
  obtain ⟨D, t, hK, e1, e2⟩ := start_K hts adK adV
  obtain ⟨hXs, hNc⟩ := start_X hts hgv
  rw [lg_entry_eq]
  have hl := lv_entry ([.ref b]) (n := 8) (Nat.le_of_ble_eq_true rfl)
  have hW : Wd D t (fun q : Nat => s.heap.size ≤ q) s.heap wM0 [] s.heap [] := ⟨fun k q h => by simp [va_pl] at h, ⟨fun i j p q h => by simp [va_pl] at h, fun k q h => by simp [va_pl] at h⟩, va_S.rf, fun a => by simp [wM0, mK]⟩
  exact zlaw_start (X := (p, l, e, room_1, s, m, #[Value.ref b], below, meth, c, lw_Z below #[Value.ref b] s, D, t, fun q : Nat => s.heap.size ≤ q, 8)) (K := fun r _ => r = 1)
    ⟨hx, hb, hml, hown, fun w h => hts w (List.mem_filter.mp h).1, fun q h => h, hK, hlocks, rfl, ⟨start_N hts, hL0 t e1 e2⟩⟩ ⟨hr, rfl, rfl, fun q h => h, fun v M h => h, hlst, hXs, hNc⟩ rfl ⟨hX, hbl, Nat.not_le.mpr hbl⟩ hwp [] s.heap [] _ hl hW
set_option maxHeartbeats 4000000 in
theorem lw_walk (hwp : ∀ (b L : Nat) (xs : Nat → Int32), L ≤ 3072 → wp_L_law wM0 b L xs (fun r _ => r = 1)) (l : Launch) (hlst : l.stackTraces = false) (b : Addr) (xs : List Int32) : MetFree l x (headSpec (Jvm.Cond.code x code maxLocals ret :: tables_1) room_1) (lw_P b xs) (fun _ _ _ _ _ => True) lw_Q := by
  refine MetFree.of_bodyS (code := code) (maxLocals := maxLocals) (ret := ret) (by decide) ?_ ?_
  · intro args s m h hn
    obtain ⟨meth, c, h1, h2, h3, h4, h5, h6, -, -⟩ := Cond.code_spec hn (atoms_spec (ws := Jvm.Cond.code x code maxLocals ret :: tables_1) h _ List.mem_cons_self)
    exact ⟨meth, c, h1, h2, h3, h4, h5, h6⟩
  · intro p e s m args below meth c s₁ B hml0 hP _
    obtain ⟨rfl, hx, hbd, hgv⟩ := hP
    obtain ⟨scr, harrAt, hlist, hof, hsmall⟩ := hx
    obtain ⟨hcb, hkn, -, -⟩ := State.arrayAt?_spec harrAt
    have hown : s.vm.findClass R_law = some m.cls := findClass_of_methodNamed B.named
    have hts0 : ∀ c ∈ (Jvm.Cond.code x code maxLocals ret :: tables_1), c.before #[Value.ref b] s = true := atoms_spec (ws := Jvm.Cond.code x code maxLocals ret :: tables_1) B.pre
    have hts : ∀ w ∈ lw_tbl, w.before #[Value.ref b] s = true := k2_hts_sels lw_privs (fun w hw => hts0 w (List.mem_cons_of_mem _ hw)) lw_privs_ok
    have hml : c.maxLocals = 8 := B.maxLocals_eq (hts0 _ List.mem_cons_self)
    have X₀ : Stand p l e room_1 s m #[Value.ref b] below meth c s₁ [] 0 0 := Stand.of_body B
    have hh0 : s₁.heap = s.heap := by rw [B.state]; rfl
    have hsz : scr.slots.size = xs.length := by rw [← Array.length_toList, hlist, List.length_map]
    have hval : ∀ j : Nat, j < xs.length → scr.slots[j]? = some (.int (xs.getD j 0)) := fun j hj => by
      rw [← Array.getElem?_toList, hlist]
      simp [hj]
    have hbl : b < s.heap.size := (Array.getElem?_eq_some_iff.mp hcb).1
    have hX : va_X b xs.length (fun j => xs.getD j 0) s s.heap := ⟨scr, hcb, hof, hkn, hsz, hval⟩
    have K : W p l e room_1 s m #[Value.ref b] below meth c s₁.heap [] 0 0 (lw_Z below #[Value.ref b] s) (entryFrame m ([Value.ref b] : List Value).toArray 8) := by
      rw [hh0]
      exact law_enter l hlst ⟨B.exec, B.bytes, B.returns, hml, hown, hts, hX, hbl, B.notSynchronized, hgv⟩ (hwp _ _ _ hbd)
    obtain ⟨t, a1, o, b1, b2, b3⟩ := K s₁ rfl X₀
    exact ⟨t, o, a1, b1, b2, b3⟩
theorem lw_pre_spec {args : Array Value} {s : State} (h : (Jvm.Cond.and given_1 narrow_1).before args s = true) (hr : rest_1_c.before args s = true) : ∃ (b : Addr) (xs : List Int32), lw_P b xs args s := by
  have hs := flat_of_before _ h
  have hq := flat_of_before _ hr
  have hc : (Cond.count 1).before args s = true := hs _ (by decide +kernel)
  have harr : (Cond.arrayOf (.arg 0) .int).before args s = true := hs _ (by decide +kernel)
  have hle : (Cond.le (.length (.arg 0)) (.int 3072)).before args s = true := hs _ (by decide +kernel)
  have hlen : (Cond.isInt (.length (.arg 0))).before args s = true := hq _ (by decide +kernel)
  have hall : (Cond.all (.arg 0) (.isInt (.elem (.arg 0) (.index 0)))).before args s = true := hq _ (by decide +kernel)
  obtain ⟨b, xs, hb, hx⟩ := State.ints_of_pre rfl harr hlen hall
  have hsm : xs.length < 2 ^ 31 := hx.choose_spec.2.2.2
  have hev : (Term.length (.arg 0)).eval args s none [] s = some (.int xs.length.toInt32) := hx.length_eval hb
  have hv := Cond.le_ints hev (show (Term.int 3072).eval args s none [] s = some (.int 3072) from rfl)
  have hd : xs.length.toInt32 ≤ 3072 := by
    simpa [Cond.before, Cond.holds, hv] using hle
  have hN : xs.length ≤ 3072 := (Int32.ofNat_le_ofNat hsm (by decide)).mp (show Int32.ofNat xs.length ≤ Int32.ofNat 3072 from hd)
  exact ⟨b, xs, Cond.one_arg hc (show args[0]? = some (.ref b) from hb), hx, hN, h⟩
theorem lw_comes (hwp : ∀ (b L : Nat) (xs : Nat → Int32), L ≤ 3072 → wp_L_law wM0 b L xs (fun r _ => r = 1)) (l : Launch) (hlst : l.stackTraces = false) : Comes l x (Jvm.Cond.code x code maxLocals ret :: tables_1) room_1 (fun tb e args s => Calls_1 tb e args s ∧ rest_1 tb e args s ∧ Pre_1 tb e args s)
    (fun _ _ args s o t => lw_Q args s o t) := by
  intro p e ha hc hk s m args below hf hfit hheap happ hpre
  obtain ⟨b, xs, hP⟩ := lw_pre_spec hpre.2.2 hpre.2.1
  obtain ⟨k, o, h1, h2, h3, hQ⟩ := lw_walk hwp l hlst b xs p e ha hc hk s m args below hf ((Spec.applies_iff_loose hf).mp happ).1 hP trivial
  exact ⟨k, o, h1, h2, h3, hQ⟩
theorem lw_frame {s t : State} {o : Outcome} {args : Array Value} (h : Framed s o t [] 601024 7293034) :
    Framed s o t (fieldLocs frame_1_writes args s ++ arrayLocs frame_1_arrays args s ++ staticLocs frame_1_statics s) 601024 7293034 := h
theorem lw_limb (hwp : ∀ (b L : Nat) (xs : Nat → Int32), L ≤ 3072 → wp_L_law wM0 b L xs (fun r _ => r = 1)) (L : Cond) (hL : ∀ (args : Array Value) (s t : State), L.after args s (.returned (some (.int 1))) t = true) :
    ArmFor flags0 classFile x code maxLocals ret World_1 tables_1 room_1 Calls_1 rest_1 Pre_1
      (fun tb e a s o t => postC L tb e a s o t ∧ Framed s o t (fieldLocs frame_1_writes a s ++ arrayLocs frame_1_arrays a s ++ staticLocs frame_1_statics s) 601024 7293034) := by
  intro l hfl _ _ p e ha hc hk s m args below hf hfit hheap happ hpre
  obtain ⟨k, o, h1, h2, h3, rfl, hF⟩ := lw_comes hwp l (by unfold Launch.stackTraces; rw [hfl]; decide) p e ha hc hk s m args below hf hfit hheap happ hpre
  exact ⟨k, _, h1, h2, h3, hL args s _, lw_frame hF⟩
theorem i_vc_open (hwp : ∀ (b L : Nat) (xs : Nat → Int32), L ≤ 3072 → wp_L_law wM0 b L xs (fun r _ => r = 1)) : Claimed_1_1 ∧ Claimed_1_2 := ⟨lw_limb hwp limb_1_1 (fun args s t => by simp [limb_1_1, Cond.after, Cond.holds, Cond.value]), lw_limb hwp limb_1_2 (fun args s t => Cond.after_iff.mpr (by
  first | (rw [show limb_1_2 = Cond.eq .result (.int 1) from rfl, Cond.eq_ints (x := 1) (y := 1) rfl rfl]; simp; done) | (simp [limb_1_2, Cond.value, Term.eval]; done)))⟩

