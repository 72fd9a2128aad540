theorem cat_i (x : Int32) : (Value.int x).category = 1 := rfl
theorem cat_j (x : Int64) : (Value.long x).category = 2 := rfl
section ZM
variable {X : Cx} {cc : ByteArray} {own : String} {rm : Room} {M : Mm} {ce sl pc : Nat} {lv : List (Nat × Value)} {rest : List Value}
theorem z_lxor (hX : Ok X cc own rm) {x y : Int64} (hdg : decode cc pc = .ok (.lxor, 1)) (k : Z X M ce sl (pc + 1) lv (.long (x ^^^ y) :: rest)) : Z X M ce sl pc lv (.long y :: .long x :: rest) := by
  obtain ⟨p, l, e, R, s, m, args, below, meth, c, Q, D, t, A, nL⟩ := X
  obtain ⟨hx, hb, hml, hown, hts, hA, hK, hlk, hRm, hNs⟩ := hX
  intro L H locs ls hl hW
  exact lv_lxor hx hb hdg (k L H locs ls hl hW)
end ZM
theorem ct_anyF {y : MethodName} {cc : ByteArray} {nl : Nat} {ret : Option FieldType} {rm : Room} {av : List Value} {M : Mm} (Qc : va_G → Tys → (Nat → Prop) → Array Value → State → Outcome → State → Prop) (hy : plainFor y = true) (hlen : (lg_sl av).length ≤ nl)
    (body : ∀ X : Cx, Ok X cc y.cls rm → Rq X rm ret Qc → X.2.2.2.2.2.2.2.2.2.2.2.2.2.2 = nl → X.2.2.2.2.2.2.2.2.1.name = y.name → Z X M 0 0 0 (lv_args 0 av) []) :
    ∀ l D t L sz, Met l y (Cond.code y cc nl ret :: wjU) rm (va_Pc av (PreM D t M L sz)) (Qc D t (va_A (va_pl L (wF t M)) sz)) rm.cells rm.slots (va_A (va_pl L (wF t M)) sz) := by
  intro l D t L sz
  refine va_MetF (cc := cc) (maxL := nl) (ret := ret) hy rfl ?_
  intro p e s m args below meth c s₁ B hml hv
  obtain ⟨rfl, hsz, hP, hK, hD0, hL, hN⟩ := hv
  subst hsz
  have hts := atoms_spec (ws := Cond.code y cc nl ret :: wjU) B.pre
  have hW : Wd D t (va_A (va_pl L (wF t M)) s.heap.size) s.heap M L s.heap [] := ⟨hP, hD0.self, va_S.rf, hL⟩
  rw [lg_entry_eq]
  exact body (p, l, e, (headSpec (Cond.code y cc nl ret :: wjU) rm).room, s, m, av.toArray, below, meth, c, MQ below (Qc D t (va_A (va_pl L (wF t M)) s.heap.size)) av.toArray s rm.cells rm.slots (va_A (va_pl L (wF t M)) s.heap.size), D, t, va_A (va_pl L (wF t M)) s.heap.size, nl)
    ⟨B.exec, B.bytes, hml, findClass_of_methodNamed B.named, fun w h => hts w (List.mem_cons_of_mem _ h), fun q h => Or.inr h, hK, B.notSynchronized, rfl, hN⟩ ⟨B.returns, rfl⟩ rfl (name_of_methodNamed B.named B.method).1 L s.heap [] _ (lv_entry av hlen) hW
section ZN
variable {X : Cx} {cc : ByteArray} {own : String} {rm : Room} {M : Mm} {ce sl pc : Nat} {lv : List (Nat × Value)} {rest : List Value}
theorem z_tswD (hX : Ok X cc own rm) {dflt lo hi : Int} {offs : Array Int} {len tgt : Nat} {x : Int32} (hdg : decode cc pc = .ok (.tableswitch dflt lo hi offs, len)) (h : x.toInt < lo ∨ hi < x.toInt) (ht : (pc : Int) + dflt = (tgt : Int)) (k : Z X M ce sl tgt lv rest) : Z X M ce sl pc lv (.int x :: rest) := by
  obtain ⟨p, l, e, R, s, m, args, below, meth, c, Q, D, t, A, nL⟩ := X
  obtain ⟨hx, hb, hml, hown, hts, hA, hK, hlk, hRm, hNs⟩ := hX
  intro L H locs ls hl hW
  exact lv_tableOut hx hb hdg h ht (k L H locs ls hl hW)
theorem z_tswI (hX : Ok X cc own rm) {dflt lo hi off : Int} {offs : Array Int} {len tgt : Nat} {x : Int32} (hdg : decode cc pc = .ok (.tableswitch dflt lo hi offs, len)) (h1 : ¬ x.toInt < lo) (h2 : ¬ hi < x.toInt) (ho : offs[(x.toInt - lo).toNat]? = some off) (ht : (pc : Int) + off = (tgt : Int)) (k : Z X M ce sl tgt lv rest) : Z X M ce sl pc lv (.int x :: rest) := by
  obtain ⟨p, l, e, R, s, m, args, below, meth, c, Q, D, t, A, nL⟩ := X
  obtain ⟨hx, hb, hml, hown, hts, hA, hK, hlk, hRm, hNs⟩ := hX
  intro L H locs ls hl hW
  exact lv_tableIn hx hb hdg h1 h2 ho ht (k L H locs ls hl hW)
theorem z_lsw (hX : Ok X cc own rm) {dflt off : Int} {ps : Array (Int × Int)} {len tgt : Nat} {x : Int32} (hdg : decode cc pc = .ok (.lookupswitch dflt ps, len)) (hp : (ps.toList.zip (ps.toList.drop 1)).all (fun (a, next) => a.1 < next.1) = true) (ho : Op.lookupswitch.offset ps.toList dflt x.toInt = off) (ht : (pc : Int) + off = (tgt : Int)) (k : Z X M ce sl tgt lv rest) : Z X M ce sl pc lv (.int x :: rest) := by
  obtain ⟨p, l, e, R, s, m, args, below, meth, c, Q, D, t, A, nL⟩ := X
  obtain ⟨hx, hb, hml, hown, hts, hA, hK, hlk, hRm, hNs⟩ := hX
  intro L H locs ls hl hW
  exact lv_lookup hx hb hdg hp ho ht (k L H locs ls hl hW)
theorem z_ald2 (hX : Ok X cc own rm) {a ty : Nat} {i : Int32} (hdg : decode cc pc = .ok (.aaload, 1)) (hk : isA M a ty) (hty : ty = 5 ∨ ty = 6) (hin : vp_in i (aN M a)) (k : Z X M ce sl (pc + 1) lv (va_rf (aR M a i.toNatClampNeg) :: rest)) : Z X M ce sl pc lv (.int i :: .ref a :: rest) := by
  obtain ⟨p, l, e, R, s, m, args, below, meth, c, Q, D, t, A, nL⟩ := X
  obtain ⟨hx, hb, hml, hown, hts, hA, hK, hlk, hRm, hNs⟩ := hX
  intro L H locs ls hl hW
  obtain ⟨hP, hD, hS, hL⟩ := id hW
  obtain ⟨q0, hq⟩ := va_pl_get (X := []) (f := wF t M) ((hL a).mp (by have := hk.1; omega))
  have hlt : i.toNatClampNeg < aN M a := Nat.not_le.mp fun q => hin (Or.inr q)
  rcases hty with rfl | rfl
  · have ha : (va_pl L (wF t M))[q0]? = some (a, .inl (t.2.2.2.2.2.1, aN M a, .inr (.inr (.inr (.inr (aR M a)))))) := hq.trans (by rw [wF_a rfl hk.1 hk.2]; rfl)
    exact W.aald (v := va_rf (aR M a i.toNatClampNeg)) (ty := .array .int) hx hb (hP q0 _ ha) ((hK.2 5 _ rfl).1 (aN M a) (fun j => va_rf (aR M a j))) rfl (fun q => by cases q) (by show ¬ (i < 0 ∨ (arrV _ _ _).slots.size ≤ _); rw [arrV_size]; exact hin) (by show (arrV _ _ _).slots[_]? = _; rw [arrV_read _ _ hlt]) rfl rfl hdg (k L H locs ls hl hW)
  · have ha : (va_pl L (wF t M))[q0]? = some (a, .inl (t.2.2.2.2.2.2.1, aN M a, .inr (.inr (.inr (.inr (aR M a)))))) := hq.trans (by rw [wF_a rfl hk.1 hk.2]; rfl)
    exact W.aald (v := va_rf (aR M a i.toNatClampNeg)) (ty := .array .long) hx hb (hP q0 _ ha) ((hK.2 6 _ rfl).1 (aN M a) (fun j => va_rf (aR M a j))) rfl (fun q => by cases q) (by show ¬ (i < 0 ∨ (arrV _ _ _).slots.size ≤ _); rw [arrV_size]; exact hin) (by show (arrV _ _ _).slots[_]? = _; rw [arrV_read _ _ hlt]) rfl rfl hdg (k L H locs ls hl hW)
theorem y_ald2 (hX : Ok X cc own rm) {r : Option Nat} {a ty : Nat} {i : Int32} (hdg : decode cc pc = .ok (.aaload, 1)) (hr : r = some a) (hk : isA M a ty) (hty : ty = 5 ∨ ty = 6) (hin : vp_in i (aN M a)) (k : Z X M ce sl (pc + 1) lv (va_rf (aR M a i.toNatClampNeg) :: rest)) : Z X M ce sl pc lv (.int i :: va_rf r :: rest) := by subst hr; exact z_ald2 hX hdg hk hty hin k
/-- a copy within one array -/
def cpI (M : Mm) (a b sp dp n : Nat) : Mm := (mK M, mI M, mJ M, mR M, aN M, va_up (aI M) b (va_cpy (aI M a) (aI M b) sp dp n), aJ M, aR M)
def cpJ (M : Mm) (a b sp dp n : Nat) : Mm := (mK M, mI M, mJ M, mR M, aN M, aI M, va_up (aJ M) b (va_cpy (aJ M a) (aJ M b) sp dp n), aR M)
theorem w_cpI {t : Tys} {M : Mm} {a b k ty sp dp n : Nat} {e : va_E} (h : mK M b = k) (hk : 16 ≤ k) (hty : k % 8 = ty) (he : fA t ty (aN M b) (va_cpy (aI M a) (aI M b) sp dp n) (aJ M b) (aR M b) = e) : va_up (wF t M) b e = wF t (cpI M a b sp dp n) := by
  refine up_eq ?_ (fun x hb => wF_same rfl (fun _ => rfl) (fun _ => rfl) (fun _ => rfl) rfl (fun i => by simp [cpI, aI, va_up, hb]) (fun _ => rfl) (fun _ => rfl))
  rw [wF_a (M := cpI M a b sp dp n) h hk hty, ← he]
  congr 1
  funext i
  simp [cpI, aI, va_up]
theorem w_cpJ {t : Tys} {M : Mm} {a b k ty sp dp n : Nat} {e : va_E} (h : mK M b = k) (hk : 16 ≤ k) (hty : k % 8 = ty) (he : fA t ty (aN M b) (aI M b) (va_cpy (aJ M a) (aJ M b) sp dp n) (aR M b) = e) : va_up (wF t M) b e = wF t (cpJ M a b sp dp n) := by
  refine up_eq ?_ (fun x hb => wF_same rfl (fun _ => rfl) (fun _ => rfl) (fun _ => rfl) rfl (fun _ => rfl) (fun i => by simp [cpJ, aJ, va_up, hb]) (fun _ => rfl))
  rw [wF_a (M := cpJ M a b sp dp n) h hk hty, ← he]
  congr 1
  funext i
  simp [cpJ, aJ, va_up]
theorem z_copyI (hX : Ok X cc own rm) {a b ty idx : Nat} {fty : FieldType} {sp dp n : Int32} {ra rb : Option Nat} (hty : ty = 1 ∧ fty = .int ∨ ty = 3 ∧ fty = .boolean) (w1 : Cond.methodLink own idx arraycopyName ∈ wjU) (w2 : Cond.native arraycopyName ∈ wjU) (w3 : Cond.static arraycopyName ∈ wjU) (w4 : Cond.initialized "java/lang/System" ∈ wjU) (hdg : decode cc pc = .ok (.invokestatic idx, 3)) (hra : ra = some a) (hrb : rb = some b) (ka : isA M a ty) (kb : isA M b ty) (h1 : ¬ sp < 0) (h2 : ¬ dp < 0) (h3 : ¬ n < 0) (h4 : sp.toNatClampNeg + n.toNatClampNeg ≤ aN M a) (h5 : dp.toNatClampNeg + n.toNatClampNeg ≤ aN M b) (hfit : ∀ i, i < n.toNatClampNeg → fits fty (.int (aI M a (sp.toNatClampNeg + i))) = true) (hfr : 1 ≤ rm.frames) (hlo : (rest.map fun v => v.category).sum + (nativeFrameWords "java/lang/System" "arraycopy" 5 + 11) ≤ rm.locals) (k : Z X (cpI M a b sp.toNatClampNeg dp.toNatClampNeg n.toNatClampNeg) ce sl (pc + 3) lv rest) : Z X M ce sl pc lv (.int n :: .int dp :: va_rf rb :: .int sp :: va_rf ra :: rest) := by
  subst hra; subst hrb
  obtain ⟨p, l, e, R, s, m, args, below, meth, c, Q, D, t, A, nL⟩ := X
  obtain ⟨hx, hb, hml, hown, hts, hA, hK, hlk, hRm, hNs⟩ := hX
  intro L H locs ls hl hW
  subst hRm
  obtain ⟨hP, hD, hS, hL⟩ := id hW
  have hbL : b ∈ L := (hL b).mp (by have := kb.1; omega)
  obtain ⟨q0, hq0⟩ := va_pl_get (X := []) (f := wF t M) ((hL a).mp (by have := ka.1; omega))
  obtain ⟨q1, hq1⟩ := va_pl_get (X := []) (f := wF t M) hbL
  have e : (va_pl L (wF t M)).set q1 (b, fA t ty (aN M b) (va_cpy (aI M a) (aI M b) sp.toNatClampNeg dp.toNatClampNeg n.toNatClampNeg) (aJ M b) (aR M b)) = va_pl L (wF t (cpI M a b sp.toNatClampNeg dp.toNatClampNeg n.toNatClampNeg)) := by
    have := va_pl_set (X := []) (e := fA t ty (aN M b) (va_cpy (aI M a) (aI M b) sp.toNatClampNeg dp.toNatClampNeg n.toNatClampNeg) (aJ M b) (aR M b)) hD hbL hq1
    rw [w_cpI (t := t) rfl kb.1 kb.2 rfl] at this
    exact this
  rcases hty with ⟨rfl, rfl⟩ | ⟨rfl, rfl⟩
  · refine va_copyi hx hb (by rw [hml]; exact hl.1.symm) hown (hts _ w1) (hts _ w2) (hts _ w3) (hts _ w4) hK hP hD hS q0 q1 1 1 (hq0.trans (by rw [wF_a rfl ka.1 ka.2]; rfl)) (hq1.trans (by rw [wF_a rfl kb.1 kb.2]; rfl)) rfl rfl rfl h1 h2 h3 h4 h5 hfit hfr hlo hdg (fun H1 locs1 hP1 hD1 hS1 => ?_)
    have hP2 : va_P D vwCl ((va_pl L (wF t M)).set q1 (b, fA t 1 (aN M b) (va_cpy (aI M a) (aI M b) sp.toNatClampNeg dp.toNatClampNeg n.toNatClampNeg) (aJ M b) (aR M b))) H1 := hP1
    have hD2 : va_D A ((va_pl L (wF t M)).set q1 (b, fA t 1 (aN M b) (va_cpy (aI M a) (aI M b) sp.toNatClampNeg dp.toNatClampNeg n.toNatClampNeg) (aJ M b) (aR M b))) := hD1
    rw [e] at hP2 hD2
    exact k L H1 locs1 ls hl ⟨hP2, hD2, hS1, hL⟩
  · refine va_copyi hx hb (by rw [hml]; exact hl.1.symm) hown (hts _ w1) (hts _ w2) (hts _ w3) (hts _ w4) hK hP hD hS q0 q1 3 3 (hq0.trans (by rw [wF_a rfl ka.1 ka.2]; rfl)) (hq1.trans (by rw [wF_a rfl kb.1 kb.2]; rfl)) rfl rfl rfl h1 h2 h3 h4 h5 hfit hfr hlo hdg (fun H1 locs1 hP1 hD1 hS1 => ?_)
    have hP2 : va_P D vwCl ((va_pl L (wF t M)).set q1 (b, fA t 3 (aN M b) (va_cpy (aI M a) (aI M b) sp.toNatClampNeg dp.toNatClampNeg n.toNatClampNeg) (aJ M b) (aR M b))) H1 := hP1
    have hD2 : va_D A ((va_pl L (wF t M)).set q1 (b, fA t 3 (aN M b) (va_cpy (aI M a) (aI M b) sp.toNatClampNeg dp.toNatClampNeg n.toNatClampNeg) (aJ M b) (aR M b))) := hD1
    rw [e] at hP2 hD2
    exact k L H1 locs1 ls hl ⟨hP2, hD2, hS1, hL⟩
theorem z_copyJ (hX : Ok X cc own rm) {a b idx : Nat} {sp dp n : Int32} {ra rb : Option Nat} (w1 : Cond.methodLink own idx arraycopyName ∈ wjU) (w2 : Cond.native arraycopyName ∈ wjU) (w3 : Cond.static arraycopyName ∈ wjU) (w4 : Cond.initialized "java/lang/System" ∈ wjU) (hdg : decode cc pc = .ok (.invokestatic idx, 3)) (hra : ra = some a) (hrb : rb = some b) (ka : isA M a 2) (kb : isA M b 2) (h1 : ¬ sp < 0) (h2 : ¬ dp < 0) (h3 : ¬ n < 0) (h4 : sp.toNatClampNeg + n.toNatClampNeg ≤ aN M a) (h5 : dp.toNatClampNeg + n.toNatClampNeg ≤ aN M b) (hfr : 1 ≤ rm.frames) (hlo : (rest.map fun v => v.category).sum + (nativeFrameWords "java/lang/System" "arraycopy" 5 + 11) ≤ rm.locals) (k : Z X (cpJ M a b sp.toNatClampNeg dp.toNatClampNeg n.toNatClampNeg) ce sl (pc + 3) lv rest) : Z X M ce sl pc lv (.int n :: .int dp :: va_rf rb :: .int sp :: va_rf ra :: rest) := by
  subst hra; subst hrb
  obtain ⟨p, l, e, R, s, m, args, below, meth, c, Q, D, t, A, nL⟩ := X
  obtain ⟨hx, hb, hml, hown, hts, hA, hK, hlk, hRm, hNs⟩ := hX
  intro L H locs ls hl hW
  subst hRm
  obtain ⟨hP, hD, hS, hL⟩ := id hW
  have hbL : b ∈ L := (hL b).mp (by have := kb.1; omega)
  obtain ⟨q0, hq0⟩ := va_pl_get (X := []) (f := wF t M) ((hL a).mp (by have := ka.1; omega))
  obtain ⟨q1, hq1⟩ := va_pl_get (X := []) (f := wF t M) hbL
  have e : (va_pl L (wF t M)).set q1 (b, fA t 2 (aN M b) (aI M b) (va_cpy (aJ M a) (aJ M b) sp.toNatClampNeg dp.toNatClampNeg n.toNatClampNeg) (aR M b)) = va_pl L (wF t (cpJ M a b sp.toNatClampNeg dp.toNatClampNeg n.toNatClampNeg)) := by
    have := va_pl_set (X := []) (e := fA t 2 (aN M b) (aI M b) (va_cpy (aJ M a) (aJ M b) sp.toNatClampNeg dp.toNatClampNeg n.toNatClampNeg) (aR M b)) hD hbL hq1
    rw [w_cpJ (t := t) rfl kb.1 kb.2 rfl] at this
    exact this
  refine va_copyl hx hb (by rw [hml]; exact hl.1.symm) hown (hts _ w1) (hts _ w2) (hts _ w3) (hts _ w4) hK hP hD hS q0 q1 2 2 (hq0.trans (by rw [wF_a rfl ka.1 ka.2]; rfl)) (hq1.trans (by rw [wF_a rfl kb.1 kb.2]; rfl)) rfl rfl rfl h1 h2 h3 h4 h5 (fun _ _ => rfl) hfr hlo hdg (fun H1 locs1 hP1 hD1 hS1 => ?_)
  have hP2 : va_P D vwCl ((va_pl L (wF t M)).set q1 (b, fA t 2 (aN M b) (aI M b) (va_cpy (aJ M a) (aJ M b) sp.toNatClampNeg dp.toNatClampNeg n.toNatClampNeg) (aR M b))) H1 := hP1
  have hD2 : va_D A ((va_pl L (wF t M)).set q1 (b, fA t 2 (aN M b) (aI M b) (va_cpy (aJ M a) (aJ M b) sp.toNatClampNeg dp.toNatClampNeg n.toNatClampNeg) (aR M b))) := hD1
  rw [e] at hP2 hD2
  exact k L H1 locs1 ls hl ⟨hP2, hD2, hS1, hL⟩
end ZN
set_option maxRecDepth 100000 in
theorem ac_RX11_271 : Cond.methodLink RX11 271 arraycopyName ∈ wjU ∧ Cond.native arraycopyName ∈ wjU ∧ Cond.static arraycopyName ∈ wjU ∧ Cond.initialized "java/lang/System" ∈ wjU := ⟨wjU_i 1455 rfl rfl, wjU_i 1457 rfl rfl, wjU_i 1456 rfl rfl, wjU_i 99 rfl rfl⟩
