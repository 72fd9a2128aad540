/-! the class reads bodies: joins, windows, and which one -/
section CE
variable {B N M : Mm} {rd sc tb st ia J W : Nat} {tp w : List Nat} {L : Nat → Nat → Nat} {C : Cfg} {T : Tok} {l : List Nat} {kd : Int64}
theorem BDC.cn {M1 : Mm} {J1 W1 : Nat} (h : BDC B N M rd sc tb tp L C st ia w kd J W l T) (x : FR [452, 453] M M1) (hc : CN3 M1 rd J1 W1) : BDC B N M1 rd sc tb tp L C st ia w kd J1 W1 l T := by
  obtain ⟨h1, h2, h3, h4, ⟨i1, i2, i3, i4, i5, i6⟩, h6, ⟨s1, s2, s3, s4, s5, s6, s7, s8, s9, s10⟩, -⟩ := h
  refine ⟨h1.fr x (by decide) (by decide) (by decide) (by decide) (by decide), by rw [x.rf]; exact h2, h3.fr x (by decide), h4, ⟨by rw [x.kd]; exact i1, by rw [x.rf]; exact i2, by rw [x.kd]; exact i3, by rw [x.2.2.1]; exact i4, by rw [x.it (by decide)]; exact i5, fun i c hi => by rw [x.2.2.2.2.2.1]; exact i6 i c hi⟩, fun s hs => by rw [x.rf]; exact h6 s hs, ⟨?_, ?_, ?_, ?_, ?_, ?_, ?_, ?_, ?_, ?_⟩, hc⟩
  · rw [x.it (by decide)]; exact s1
  · rw [x.lg (by decide)]; exact s2
  · rw [x.lg (by decide)]; exact s3
  · rw [x.rf]; exact s4
  · rw [x.lg (by decide)]; exact s5
  · rw [x.it (by decide)]; exact s6
  · rw [x.lg (by decide)]; exact s7
  · rw [x.rf]; exact s8
  · rw [x.rf]; exact s9
  · rw [x.rf]; exact s10
theorem c_join {K : Int32 → Mm → Prop} (h : BDC B N M rd sc tb tp L C st ia w (kw 4) J W [] T) (hWT : WT C) (hK : HKC B N rd sc tb tp L C st ia w J W K (a_joi tp C (a_nx tp T))) : wp_X7_readJoin M rd (some st) K := by
  have bb : (BIG : Int) = 999999999999999999 := by decide
  have hR := h.1
  obtain ⟨c1, c2, c3⟩ := h.2.2.2.2.2.2.2
  have e1 : mI M 452 rd + 1 = nI (J + 1) := by rw [c2, show (1 : Int32) = nI 1 from rfl, n_add]
  have x0 : FR [452, 453] M (sI M 452 rd (nI (J + 1))) := FRsI FR.refl (by decide)
  have h0 : BDC B N (sI M 452 rd (nI (J + 1))) rd sc tb tp L C st ia w (kw 4) (J + 1) W [] T := h.cn x0 ⟨by simpa [ms] using c1, by simp [ms], by simpa [ms] using c3⟩
  unfold wp_X7_readJoin
  rw [e1]
  refine ⟨hR.1, sc, h0.1.2.1, h0.1.2.2.1.1, c_nx h0.1 (fun M1 x1 x2 => ⟨x2.1, ?_⟩)⟩
  have h1 := h0.ok (x1.mono (by decide)) x2
  refine c_inp h1 hWT (by decide) (fun M2 y q y1 => ⟨fun z => absurd z (by decide), fun _ => ⟨y1.1.1, ?_⟩⟩) (fun M2 e q y1 => ⟨fun _ => hK.2 M2 e (Or.inl (by rw [a_joi, a_two, q])) y1, fun z => absurd rfl z⟩)
  refine c_inp y1 hWT (by rw [inp_len q]; decide) (fun M3 u p z1 => ⟨fun _ => ⟨z1.1.1, ?_⟩, fun z => absurd z (by decide)⟩) (fun M3 e p z1 => ⟨fun z => absurd rfl z, fun _ => hK.2 M3 e (Or.inl (by rw [a_joi, a_two, q]; simp only [p])) z1⟩)
  have l2 : u.1.length = 2 := by rw [inp_len p, inp_len q]; rfl
  refine c_kw (k := 9) z1.1 (by decide) (by decide) (fun M4 T4 o u1 u2 => ⟨fun z => absurd z (by decide), fun _ => ⟨u2.1, ?_⟩⟩) (fun M4 e o u1 u2 => ⟨fun _ => hK.2 M4 e (Or.inl (by rw [a_joi, a_two, q]; simp only [p, o])) (z1.er u1 u2), fun z => absurd rfl z⟩)
  have h4 := z1.ok u1 u2
  refine c_sn (least := -(BIG : Int)) u2 (by decide) ⟨by omega, by omega⟩ (fun M5 v T5 n v1 v2 v3 => ⟨fun _ => ⟨v2.1, ?_⟩, fun z => absurd z (by decide)⟩) (fun M5 e n v1 v2 => ⟨fun z => absurd rfl z, fun _ => hK.2 M5 e (Or.inl (by rw [a_joi, a_two, q]; simp only [p, o, n])) (h4.er v1 v2)⟩)
  have h5 := h4.ok v1 v2
  have vb := sn_ok (u2.2.2.2.1.2.choose_spec.2.2.2.2.1) u2.2.2.2.2.2 n
  have en : a_joi tp C (a_nx tp T) = a_joi4 tp u.1 v T5 := by rw [a_joi, a_two, q]; simp only [p, o, n]
  rw [v3]
  refine c_kw (k := 10) v2 (by decide) (by decide) (fun M6 T6 o6 w1 w2 => ⟨fun z => absurd z (by decide), fun _ => ⟨w2.1, ?_⟩⟩) (fun M6 e o6 w1 w2 => ⟨fun _ => hK.2 M6 e (Or.inl (by rw [en, a_joi4, o6])) (h5.er w1 w2), fun z => absurd rfl z⟩)
  have h6 := h5.ok w1 w2
  refine c_sn (least := v) w2 (ofI_toInt (by omega) (by omega)) ⟨vb.1, vb.2.1⟩ (fun M7 t T7 n7 t1 t2 t3 => ⟨fun _ => ?_, fun z => absurd z (by decide)⟩) (fun M7 e n7 t1 t2 => ⟨fun z => absurd rfl z, fun _ => hK.2 M7 e (Or.inl (by rw [en, a_joi4, o6]; simp only [n7])) (h6.er t1 t2)⟩)
  have h7 := h6.ok t1 t2
  intro q3 hq3
  have gn : GX [] [] M7 (nw M7 q3 3) := GXnw GX.refl hq3
  have h8 := h7.al gn
  obtain ⟨i1, i2, i3, i4, i5, i6⟩ := h8.2.2.2.2.1
  have iA : isA (nw M7 q3 3) ia 4 := ⟨by rw [i3]; decide, by rw [i3]⟩
  have a0 := i6 0 (u.1.getD 0 0) (by rw [List.getD_eq_getElem?_getD, List.getElem?_eq_getElem (by omega)]; rfl)
  have a1 := i6 1 (u.1.getD 1 0) (by rw [List.getD_eq_getElem?_getD, List.getElem?_eq_getElem (by omega)]; rfl)
  have n454 : mJ (nw M7 q3 3) 454 rd = Int64.ofInt t := (gn.j h7.1.1 (by decide) (by decide)).trans t3
  refine ⟨st, rfl, i1, ia, i2, iA, by rw [i4]; exact n_in (n := 0) (by decide) (by decide), by rw [i4]; exact n_in (n := 1) (by decide) (by decide), h8.1.1, ?_⟩
  rw [show (0 : Int32).toNatClampNeg = 0 by decide, show (1 : Int32).toNatClampNeg = 1 by decide, a0, a1, n454]
  refine c_newJO hq3 (fun M9 a9 a10 a11 a12 xx yy zz f9 fk dis g hj => ?_)
  have h9 := h7.al g
  refine ⟨h9.2.2.2.2.1.1, h9.1.1, ?_⟩
  have en2 : a_joi tp C (a_nx tp T) = .ok ((4, u.1, Int64.ofInt v, Int64.ofInt t, 0, false, 0, none), T7) := by rw [en, a_joi4, o6]; simp only [n7]
  have fin : FINC B N (sR M9 394 st (some q3)) rd sc tb tp L C st ia w (J + 1) W (4, u.1, Int64.ofInt v, Int64.ofInt t, 0, false, 0, none) (fun i k => if i = 13 then xx k else if i = 14 then yy k else if i = 15 then zz k else [0, 0, 0, 0, 0, 0, 0, 0, q3, a9, a10, a11, a12].getD i 0) T7 := by
    obtain ⟨h1, h2, h3, h4, ⟨i1, i2, i3, i4, i5, i6⟩, h6, ⟨s1, s2, s3, s4, s5, s6, s7, s8, s9, s10⟩, ⟨c1, c2, c3⟩⟩ := h9
    have kst : mK B st = 0 := h3.2.2.1 st h4.1
    refine ⟨?_, by simpa [ms] using h2, ⟨GXsR h3.1 (Or.inl kst), GXsR h3.2.1 (Or.inl h4.1), h3.2.2⟩, h4, fun s hs => by simpa [ms] using h6 s hs, ⟨c1, c2, c3⟩, ⟨⟨i1, s1, s2, s3, by simpa [ms] using i2, i3, i4, i5, by simpa [ms] using s4, s5, s6, s7, by simpa [ms] using s8, by simp [ms], by simpa [ms] using s10⟩, i6, fun z => absurd (show (4 : Nat) = 0 from z) (by decide), fun _ => ?_, fun z => absurd (show (4 : Nat) = 5 from z) (by decide)⟩, ⟨fun z => absurd (show (4 : Nat) = 0 from z) (by decide), fun _ => ⟨fre h7 f9, fun k hk => ⟨fre h7 (fk k hk).1, fre h7 (fk k hk).2.1, fre h7 (fk k hk).2.2⟩, dis⟩, fun z => absurd (show (4 : Nat) = 5 from z) (by decide)⟩⟩
    · obtain ⟨r1, r2, ⟨r3, r4⟩, ⟨r5, ta, r6, r7, r8, r9, r10, r11⟩, t, r13⟩ := h1
      exact ⟨r1, by simpa [ms] using r2, ⟨r3, by simpa [ms] using r4⟩, ⟨r5, ta, by simpa [ms] using r6, r7, r8, r9, r10, r11⟩, t, r13⟩
    · obtain ⟨⟨u1, u2, u3, u4, u5, u6, u7, u8, u9, u10⟩, u11⟩ := hj
      exact ⟨⟨u1, by simpa [ms] using u2, by simpa [ms] using u3, u4, u5, by simpa [ms] using u6, by simpa [ms] using u7, by simpa [ms] using u8, by simpa [ms] using u9, u10⟩, u11⟩
  exact c_fin (x := (4, u.1, Int64.ofInt v, Int64.ofInt t, 0, false, 0, none)) fin en2 hK
theorem ls4 {size : Nat} (h : size ≤ 1000000) : (lN size + 4 - 1) / 4 = lN ((size + 3) / 4) := by
  have e1 : lN size + 4 - 1 = lN (size + 3) := by
    apply Int64.toInt_inj.mp
    have a : (lN size + 4).toInt = (size : Int) + 4 := by
      rw [j_add (by rw [pf_lI (by omega)]; show _ ≤ (size : Int) + 4; omega) (by rw [pf_lI (by omega)]; show (size : Int) + 4 < _; omega), pf_lI (by omega)]; rfl
    rw [j_sub (by rw [a]; show _ ≤ (size : Int) + 4 - 1; omega) (by rw [a]; show (size : Int) + 4 - 1 < _; omega), a, pf_lI (by omega)]
    show (size : Int) + 4 - 1 = ((size + 3 : Nat) : Int)
    omega
  rw [e1]
  apply Int64.toInt_inj.mp
  have hne : lN (size + 3) ≠ Int64.minValue := fun e => by
    have h9 : (lN (size + 3)).toInt = -9223372036854775808 := by rw [e]; decide
    rw [pf_lI (by omega)] at h9; omega
  rw [Int64.toInt_div_of_ne_left _ _ hne, pf_lI (by omega), pf_lI (by omega)]
  show ((size + 3 : Nat) : Int).tdiv 4 = (((size + 3) / 4 : Nat) : Int)
  rfl
theorem c_window {K : Int32 → Mm → Prop} (h : BDC B N M rd sc tb tp L C st ia w (kw 5) J W [] T) (hWT : WT C) (hK : HKC B N rd sc tb tp L C st ia w J W K (a_win tp C (a_nx tp T))) : wp_X7_readWindow M rd (some st) K := by
  have hR := h.1
  obtain ⟨c1, c2, c3⟩ := h.2.2.2.2.2.2.2
  have e1 : mI M 453 rd + 1 = nI (W + 1) := by rw [c3, show (1 : Int32) = nI 1 from rfl, n_add]
  have x0 : FR [452, 453] M (sI M 453 rd (nI (W + 1))) := FRsI FR.refl (by decide)
  have h0 : BDC B N (sI M 453 rd (nI (W + 1))) rd sc tb tp L C st ia w (kw 5) J (W + 1) [] T := h.cn x0 ⟨by simpa [ms] using c1, by simpa [ms] using c2, by simp [ms]⟩
  unfold wp_X7_readWindow
  rw [e1]
  refine ⟨hR.1, sc, h0.1.2.1, h0.1.2.2.1.1, c_nx h0.1 (fun M1 x1 x2 => ⟨x2.1, ?_⟩)⟩
  have h1 := h0.ok (x1.mono (by decide)) x2
  refine c_inp h1 hWT (by decide) (fun M2 y q y1 => ⟨fun _ => ⟨y1.1.1, ?_⟩, fun z => absurd z (by decide)⟩) (fun M2 e q y1 => ⟨fun z => absurd rfl z, fun _ => hK.2 M2 e (Or.inl (by rw [a_win, q])) y1⟩)
  refine c_kw (k := 12) y1.1 (by decide) (by decide) (fun M4 T4 o u1 u2 => ⟨fun z => absurd z (by decide), fun _ => ⟨u2.1, ?_⟩⟩) (fun M4 e o u1 u2 => ⟨fun _ => hK.2 M4 e (Or.inl (by rw [a_win, q]; simp only [o])) (y1.er u1 u2), fun z => absurd rfl z⟩)
  have h4 := y1.ok u1 u2
  refine c_num (lo := 1) (hi := 1000000) u2 (hloN (lo := 1) (by decide)) (hhiN (hi := 1000000) (by decide)) (fun M5 size T5 n v1 v2 v3 => ⟨fun _ => ⟨v2.1, ?_⟩, fun z => absurd z (by decide)⟩) (fun M5 e n v1 v2 => ⟨fun z => absurd rfl z, fun _ => hK.2 M5 e (Or.inl (by rw [a_win, q]; simp only [o, n])) (h4.er v1 v2)⟩)
  have h5 := h4.ok v1 v2
  have sb := num_ok n
  have en : a_win tp C (a_nx tp T) = a_win3 tp y.1 size T5 := by rw [a_win, q]; simp only [o, n]
  rw [v3, ls4 sb.2]
  refine c_kw (k := 13) v2 (by decide) (by decide) (fun M6 T6 o6 w1 w2 => ⟨fun z => absurd z (by decide), fun _ => ⟨w2.1, ?_⟩⟩) (fun M6 e o6 w1 w2 => ⟨fun _ => hK.2 M6 e (Or.inl (by rw [en, a_win3, o6])) (h5.er w1 w2), fun z => absurd rfl z⟩)
  have h6 := h5.ok w1 w2
  refine c_num (lo := (size + 3) / 4) (hi := size) w2 (hloN (by omega)) (hhiN (by omega)) (fun M7 t T7 n7 t1 t2 t3 => ⟨fun _ => ?_, fun z => absurd z (by decide)⟩) (fun M7 e n7 t1 t2 => ⟨fun z => absurd rfl z, fun _ => hK.2 M7 e (Or.inl (by rw [en, a_win3, o6]; simp only [n7])) (h6.er t1 t2)⟩)
  have h7 := h6.ok t1 t2
  intro q3 hq3
  have gn : GX [] [] M7 (nw M7 q3 10) := GXnw GX.refl hq3
  have n454 : mJ (nw M7 q3 10) 454 rd = lN t := (gn.j h7.1.1 (by decide) (by decide)).trans t3
  refine ⟨(h7.al gn).1.1, ?_⟩
  rw [n454]
  refine c_newWI hq3 (fun M9 a7 a8 a9 f7 f8 f9 g hj => ⟨st, rfl, ?_⟩)
  have h9 := h7.al g
  refine ⟨h9.2.2.2.2.1.1, h9.1.1, ?_⟩
  have en2 : a_win tp C (a_nx tp T) = .ok ((5, y.1, lN size, lN t, 0, false, 0, none), T7) := by rw [en, a_win3, o6]; simp only [n7]; rfl
  have fin : FINC B N (sR M9 395 st (some q3)) rd sc tb tp L C st ia w J (W + 1) (5, y.1, lN size, lN t, 0, false, 0, none) (fun i _ => [0, 0, 0, 0, 0, 0, 0, 0, 0, 0, 0, 0, 0, 0, 0, 0, q3, a7, a8, a9].getD i 0) T7 := by
    obtain ⟨h1, h2, h3, h4, ⟨i1, i2, i3, i4, i5, i6⟩, h6, ⟨s1, s2, s3, s4, s5, s6, s7, s8, s9, s10⟩, ⟨c1, c2, c3⟩⟩ := h9
    have kst : mK B st = 0 := h3.2.2.1 st h4.1
    refine ⟨?_, by simpa [ms] using h2, ⟨GXsR h3.1 (Or.inl kst), GXsR h3.2.1 (Or.inl h4.1), h3.2.2⟩, h4, fun s hs => by simpa [ms] using h6 s hs, ⟨c1, c2, c3⟩, ⟨⟨i1, s1, s2, s3, by simpa [ms] using i2, i3, i4, i5, by simpa [ms] using s4, s5, s6, s7, by simpa [ms] using s8, by simpa [ms] using s9, by simp [ms]⟩, i6, fun z => absurd (show (5 : Nat) = 0 from z) (by decide), fun z => absurd (show (5 : Nat) = 4 from z) (by decide), fun _ => ?_⟩, ⟨fun z => absurd (show (5 : Nat) = 0 from z) (by decide), fun z => absurd (show (5 : Nat) = 4 from z) (by decide), fun _ => ⟨fre h7 hq3, fre h7 f7, fre h7 f8, fre h7 f9⟩⟩⟩
    · obtain ⟨r1, r2, ⟨r3, r4⟩, ⟨r5, ta, r6, r7, r8, r9, r10, r11⟩, t, r13⟩ := h1
      exact ⟨r1, by simpa [ms] using r2, ⟨r3, by simpa [ms] using r4⟩, ⟨r5, ta, by simpa [ms] using r6, r7, r8, r9, r10, r11⟩, t, r13⟩
    · obtain ⟨⟨u1, u2, u3, u4, u5, u6, u7⟩, u11⟩ := hj
      exact ⟨⟨u1, u2, u3, by simpa [ms] using u4, by simpa [ms] using u5, by simpa [ms] using u6, u7⟩, u11⟩
  exact c_fin (x := (5, y.1, lN size, lN t, 0, false, 0, none)) fin en2 hK
theorem kw_is {k j : Nat} (h : isKw k T = true) (hw : w8 (KWS.getD k []) = kw j) : w8 (tkw T) = kw j := by
  simp only [isKw, Bool.and_eq_true, decide_eq_true_eq] at h
  rw [← hw, List.getD_eq_getElem?_getD, h.2]; rfl
theorem isKw_u {i j : Nat} (hi : i < 15) (hj : j < 15) (ne : ¬ i = j) (h : isKw i T = true) : ¬ isKw j T = true := fun g => by
  simp only [isKw, Bool.and_eq_true, decide_eq_true_eq] at h g
  exact ne (kw_dis i hi j hj (h.2.trans g.2.symm))
theorem c_kind {K : Int32 → Mm → Prop} (h : BDC B N M rd sc tb tp L C st ia w kd J W [] T) (hkd : tkk T = 2 → kd = w8 (tkw T)) (hWT : WT C) (hJ3 : J ≤ 3) (hW3 : W ≤ 3) (hK : HKC B N rd sc tb tp L C st ia w J W K (a_body tp J W C T)) : wp_X7_readKind M rd (some st) K := by
  have hR := h.1
  obtain ⟨c1, c2, c3⟩ := h.2.2.2.2.2.2.2
  have k2 : ∀ {k : Nat}, isKw k T = true → tkk T = 2 := fun {k} z => by
    simp only [isKw, Bool.and_eq_true, decide_eq_true_eq] at z; exact z.1
  have bzK : ∀ {r : Except Flt (Slot × Tok)}, HKC B N rd sc tb tp L C st ia w J W K r → HKC B N rd sc tb tp L C st ia w J W (fun r M1 => bz r ∧ K r M1) r := fun {r} hk => ⟨fun M1 x v T1 T2 a b c => ⟨by simp [bz], hk.1 M1 x v T1 T2 a b c⟩, fun M1 e a b => ⟨by simp [bz], hk.2 M1 e a b⟩⟩
  refine ⟨hR.1, ?_⟩
  rw [e_ckw (k := 0) hR (by decide) (by decide), bI_0]
  refine ⟨fun z0 => ⟨hR.1, ?_⟩, fun z => ⟨hR.1, ?_⟩⟩
  · have n0 : ¬ isKw 0 T = true := by rw [z0]; decide
    rw [e_ckw (k := 5) hR (by decide) (by decide), bI_0]
    refine ⟨fun z5 => ⟨hR.1, ?_⟩, fun z => ⟨hR.1, ?_⟩⟩
    · have n5 : ¬ isKw 5 T = true := by rw [z5]; decide
      rw [e_ckw (k := 6) hR (by decide) (by decide), bI_0]
      refine ⟨fun z6 => ⟨hR.1, ?_⟩, fun z => ⟨hR.1, ?_⟩⟩
      · have n6 : ¬ isKw 6 T = true := by rw [z6]; decide
        rw [e_ckw (k := 7) hR (by decide) (by decide), bI_0]
        refine ⟨fun z7 => ⟨hR.1, ?_⟩, fun z => ⟨hR.1, sc, hR.2.1, hR.2.2.1.1, ?_⟩⟩
        · have n7 : ¬ isKw 7 T = true := by rw [z7]; decide
          rw [e_ckw (k := 8) hR (by decide) (by decide), bI_0]
          refine ⟨fun z8 => ⟨hR.1, ?_⟩, fun z => ⟨hR.1, ?_⟩⟩
          · have n8 : ¬ isKw 8 T = true := by rw [z8]; decide
            rw [e_ckw (k := 11) hR (by decide) (by decide), bI_0]
            refine ⟨fun z11 => ⟨hR.1, ?_⟩, fun z => ⟨hR.1, ?_⟩⟩
            · have n11 : ¬ isKw 11 T = true := by rw [z11]; decide
              exact c_rtok (α := Slot × Tok) hR (fun M1 e q x1 x2 => ⟨by simp [bz], hK.2 M1 e (Or.inl (by rw [a_body, if_neg n0, if_neg n5, if_neg n6, if_neg n7, if_neg n8, if_neg n11]; exact q)) (h.er x1 x2)⟩)
            · have y : isKw 11 T = true := by simpa using z
              have ek : kd = kw 5 := by rw [hkd (k2 y), kw_is (j := 5) y (by decide)]
              have en : a_body tp J W C T = if W = 3 then flt 6 T else a_win tp C (a_nx tp T) := by rw [a_body, if_neg n0, if_neg n5, if_neg n6, if_neg n7, if_neg n8, if_pos y]
              have e3 : (mI M 453 rd = 3) = (W = 3) := by rw [c3, show (3 : Int32) = nI 3 from rfl, n_eq (by omega) (by omega)]
              rw [e3]
              refine ⟨fun q => ?_, fun q => ?_⟩
              · rw [en, if_neg q] at hK
                rw [ek] at h
                exact c_window h hWT (bzK hK)
              · rw [en, if_pos q] at hK
                exact c_ref (n := 6) hR (fun M1 x1 x2 => ⟨by simp [bz], hK.2 M1 _ (Or.inl rfl) (h.er (x1.mono (by decide)) x2)⟩)
          · have y : isKw 8 T = true := by simpa using z
            have ek : kd = kw 4 := by rw [hkd (k2 y), kw_is (j := 4) y (by decide)]
            have en : a_body tp J W C T = if J = 3 then flt 6 T else a_joi tp C (a_nx tp T) := by rw [a_body, if_neg n0, if_neg n5, if_neg n6, if_neg n7, if_pos y]
            have e3 : (mI M 452 rd = 3) = (J = 3) := by rw [c2, show (3 : Int32) = nI 3 from rfl, n_eq (by omega) (by omega)]
            rw [e3]
            refine ⟨fun q => ?_, fun q => ?_⟩
            · rw [en, if_neg q] at hK
              rw [ek] at h
              exact c_join h hWT (bzK hK)
            · rw [en, if_pos q] at hK
              exact c_ref (n := 6) hR (fun M1 x1 x2 => ⟨by simp [bz], hK.2 M1 _ (Or.inl rfl) (h.er (x1.mono (by decide)) x2)⟩)
        · have y : isKw 7 T = true := by simpa using z
          have ek : kd = kw 3 := by rw [hkd (k2 y), kw_is (j := 3) y (by decide)]
          rw [show a_body tp J W C T = a_hol tp C (a_nx tp T) by rw [a_body, if_neg n0, if_neg n5, if_neg n6, if_pos y]] at hK
          rw [ek] at h
          exact c_hol h hWT hK
      · have y : isKw 6 T = true := by simpa using z
        have ek : kd = kw 2 := by rw [hkd (k2 y), kw_is (j := 2) y (by decide)]
        rw [show a_body tp J W C T = a_del tp C (a_nx tp T) by rw [a_body, if_neg n0, if_neg n5, if_pos y]] at hK
        rw [ek] at h
        exact c_del h hWT (bzK hK)
    · have y : isKw 5 T = true := by simpa using z
      have ek : kd = kw 1 := by rw [hkd (k2 y), kw_is (j := 1) y (by decide)]
      rw [show a_body tp J W C T = a_uni tp C (a_nx tp T) by rw [a_body, if_neg n0, if_pos y]] at hK
      rw [ek] at h
      exact c_uni h hWT (bzK hK)
  · have y : isKw 0 T = true := by simpa using z
    have ek : kd = kw 0 := by rw [hkd (k2 y), kw_is (j := 0) y (by decide)]
    rw [show a_body tp J W C T = a_src tp (a_nx tp T) by rw [a_body, if_pos y]] at hK
    rw [ek] at h
    exact c_src h (bzK hK)
end CE
