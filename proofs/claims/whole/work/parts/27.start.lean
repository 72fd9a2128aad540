def wM0 : Mm := (fun _ => 0, fun _ _ => 0, fun _ _ => 0, fun _ _ => none, fun _ => 0, fun _ _ => 0, fun _ _ => 0, fun _ _ => none)
theorem inL {C : String} {T : u_T} {N : Nat} (h : ∀ w ∈ u_ws C T N, w ∈ wjU) : ∀ w ∈ u_ws C T N, w ∈ lw_tbl := fun w hw => (List.mem_filter.mp (h w hw)).1
theorem arr_cls {args : Array Value} {s : State} {ty : FieldType} (h : (Cond.arrayClass ty).before args s = true) : ∃ c, ArrOfT s c ty ∧ s.vm.findClass ("[" ++ ty.toString) = some c := by
  obtain ⟨c, k, comp, h1, h2, h3⟩ := Cond.arrayClass_spec h
  exact ⟨c, fun N z => ⟨(fun k h => by cases h), k, h2, comp, h3⟩, h1⟩
set_option maxRecDepth 100000 in
set_option maxHeartbeats 4000000 in
theorem start_K {args : Array Value} {s : State} (hts : ∀ w ∈ lw_tbl, w.before args s = true) (adK adV : Nat → Nat) : ∃ (D : va_G) (t : Tys), va_K D vwCl (tysL t) s ∧ sK t = adK ∧ sV t = adV := by
  obtain ⟨c0, i0, k0⟩ := u_known (C := RX0) (T := TX0) (N := 2) (n := 2) hts (inL inU_0) (hts (.instantiable RX0 2) (List.mem_of_getElem? (i := 114) rfl))
  obtain ⟨c1, i1, k1⟩ := u_known (C := RX1) (T := TX1) (N := 8) (n := 8) hts (inL inU_1) (hts (.instantiable RX1 8) (List.mem_of_getElem? (i := 206) rfl))
  obtain ⟨c2, i2, k2⟩ := u_known (C := RX2) (T := TX2) (N := 8) (n := 8) hts (inL inU_2) (hts (.instantiable RX2 8) (List.mem_of_getElem? (i := 543) rfl))
  obtain ⟨c3, i3, k3⟩ := u_known (C := RX3) (T := TX3) (N := 3) (n := 3) hts (inL inU_3) (hts (.instantiable RX3 3) (List.mem_of_getElem? (i := 130) rfl))
  obtain ⟨c4, i4, k4⟩ := u_known (C := RX4) (T := TX4) (N := 5) (n := 5) hts (inL inU_4) (hts (.instantiable RX4 5) (List.mem_of_getElem? (i := 181) rfl))
  obtain ⟨c5, i5, k5⟩ := u_known (C := RX5) (T := TX5) (N := 8) (n := 8) hts (inL inU_5) (hts (.instantiable RX5 8) (List.mem_of_getElem? (i := 471) rfl))
  obtain ⟨c6, i6, k6⟩ := u_known (C := RX6) (T := TX6) (N := 12) (n := 12) hts (inL inU_6) (hts (.instantiable RX6 12) (List.mem_of_getElem? (i := 387) rfl))
  obtain ⟨c7, i7, k7⟩ := u_known (C := RX7) (T := TX7) (N := 7) (n := 7) hts (inL inU_7) (hts (.instantiable RX7 7) (List.mem_of_getElem? (i := 179) rfl))
  obtain ⟨c8, i8, k8⟩ := u_known (C := RX8) (T := TX8) (N := 4) (n := 4) hts (inL inU_8) (hts (.instantiable RX8 4) (List.mem_of_getElem? (i := 215) rfl))
  obtain ⟨c9, i9, k9⟩ := u_known (C := RX9) (T := TX9) (N := 6) (n := 6) hts (inL inU_9) (hts (.instantiable RX9 6) (List.mem_of_getElem? (i := 590) rfl))
  obtain ⟨c10, i10, k10⟩ := u_known (C := RX10) (T := TX10) (N := 6) (n := 6) hts (inL inU_10) (hts (.instantiable RX10 6) (List.mem_of_getElem? (i := 106) rfl))
  obtain ⟨c11, i11, k11⟩ := u_known (C := RX11) (T := TX11) (N := 57) (n := 57) hts (inL inU_11) (hts (.instantiable RX11 57) (List.mem_of_getElem? (i := 1063) rfl))
  obtain ⟨a_byte, r_byte, f_byte⟩ := arr_cls (hts (.arrayClass .byte) (List.mem_of_getElem? (i := 128) rfl))
  obtain ⟨a_int, r_int, f_int⟩ := arr_cls (hts (.arrayClass .int) (List.mem_of_getElem? (i := 237) rfl))
  obtain ⟨a_long, r_long, f_long⟩ := arr_cls (hts (.arrayClass .long) (List.mem_of_getElem? (i := 146) rfl))
  obtain ⟨a_boolean, r_boolean, f_boolean⟩ := arr_cls (hts (.arrayClass .boolean) (List.mem_of_getElem? (i := 238) rfl))
  obtain ⟨cm, a_S, kS, g1, g2, g3, g4, g5⟩ := Cond.arrayOver_spec (hts (.arrayOver (.object "WatermarkJoin$Stream")) (List.mem_of_getElem? (i := 212) rfl))
  obtain ⟨ci, a_I, kI, p1, p2, p3, p4⟩ := Cond.arrayOver_specA (hts (.arrayOver (.array .int)) (List.mem_of_getElem? (i := 551) rfl))
  obtain ⟨cl, a_L, kL, q1, q2, q3, q4⟩ := Cond.arrayOver_specA (hts (.arrayOver (.array .long)) (List.mem_of_getElem? (i := 549) rfl))
  refine ⟨(fun k => [c0, c1, c2, c3, c4, c5, c6, c7, c8, c9, c10, c11].getD k c0, fun k => [i0, i1, i2, i3, i4, i5, i6, i7, i8, i9, i10, i11].getD k i0), (a_byte, a_int, a_long, a_boolean, a_S, a_I, a_L, adK, adV), ⟨?_, ?_⟩, rfl, rfl⟩
  · intro k q hq
    match k, hq with
    | 0, hq => cases hq; exact k0
    | 1, hq => cases hq; exact k1
    | 2, hq => cases hq; exact k2
    | 3, hq => cases hq; exact k3
    | 4, hq => cases hq; exact k4
    | 5, hq => cases hq; exact k5
    | 6, hq => cases hq; exact k6
    | 7, hq => cases hq; exact k7
    | 8, hq => cases hq; exact k8
    | 9, hq => cases hq; exact k9
    | 10, hq => cases hq; exact k10
    | 11, hq => cases hq; exact k11
    | k + 12, hq => simp [vwCl] at hq
  · intro k q hq
    match k, hq with
    | 0, hq => cases hq; exact ⟨r_byte, f_byte⟩
    | 1, hq => cases hq; exact ⟨r_int, f_int⟩
    | 2, hq => cases hq; exact ⟨r_long, f_long⟩
    | 3, hq => cases hq; exact ⟨r_boolean, f_boolean⟩
    | 4, hq => cases hq; exact ⟨fun N z => ⟨(fun k h => by cases h), kS, g3, cm, g4⟩, kS, cm, g3, g4, g1, g5⟩
    | 5, hq => cases hq; exact ⟨fun N z => ⟨(fun k h => by cases h), kI, p2, ci, p3⟩, p4⟩
    | 6, hq => cases hq; exact ⟨fun N z => ⟨(fun k h => by cases h), kL, q2, cl, q3⟩, q4⟩
    | k + 7, hq => simp [tysL] at hq
set_option maxRecDepth 100000 in
theorem start_N {args : Array Value} {s : State} (hts : ∀ w ∈ lw_tbl, w.before args s = true) : Ns0 s :=
  ⟨va_Nw.of rfl (hts _ (List.mem_of_getElem? (i := 673) rfl)), va_Nw.of rfl (hts _ (List.mem_of_getElem? (i := 727) rfl)), va_Nw.of rfl (hts _ (List.mem_of_getElem? (i := 796) rfl)), va_AO.of (hts (.arrayOver (.object RX6)) (List.mem_of_getElem? (i := 212) rfl)), hts (.arrayOver (.array .int)) (List.mem_of_getElem? (i := 551) rfl), hts (.arrayOver (.array .long)) (List.mem_of_getElem? (i := 549) rfl)⟩
theorem start_F {args : Array Value} {s : State} (hts : ∀ w ∈ lw_tbl, w.before args s = true) : Fst s := fun w hw hf => by
  simp only [Bool.and_eq_true] at hf
  exact va_tabs hf.2 rfl (hts w hw)
