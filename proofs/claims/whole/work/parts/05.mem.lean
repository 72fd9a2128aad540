/-! memory: fields by number and address, arrays by address; kind 0: nothing there, ci + 1: an object of class ci, 16 + 8 site + ty: an array -/
abbrev Mm : Type := (Nat → Nat) × (Nat → Nat → Int32) × (Nat → Nat → Int64) × (Nat → Nat → Option Nat) × (Nat → Nat) × (Nat → Nat → Int32) × (Nat → Nat → Int64) × (Nat → Nat → Option Nat)
def mK (M : Mm) : Nat → Nat := M.1
def mI (M : Mm) : Nat → Nat → Int32 := M.2.1
def mJ (M : Mm) : Nat → Nat → Int64 := M.2.2.1
def mR (M : Mm) : Nat → Nat → Option Nat := M.2.2.2.1
def aN (M : Mm) : Nat → Nat := M.2.2.2.2.1
def aI (M : Mm) : Nat → Nat → Int32 := M.2.2.2.2.2.1
def aJ (M : Mm) : Nat → Nat → Int64 := M.2.2.2.2.2.2.1
def aR (M : Mm) : Nat → Nat → Option Nat := M.2.2.2.2.2.2.2
def u2 {α : Type} (f : Nat → Nat → α) (i a : Nat) (v : α) : Nat → Nat → α := fun j b => if b = a then (if j = i then v else f j b) else f j b
def z2 {α : Type} (d : α) (f : Nat → Nat → α) (q : Nat) : Nat → Nat → α := fun j b => if b = q then d else f j b
def x2 {α : Type} (f : Nat → Nat → α) (a j : Nat) (v : α) : Nat → Nat → α := fun b i => if b = a then (if i = j then v else f b i) else f b i
def zr {α : Type} (d : α) (f : Nat → Nat → α) (q : Nat) : Nat → Nat → α := fun b j => if b = q then d else f b j
def sI (M : Mm) (i a : Nat) (v : Int32) : Mm := (mK M, u2 (mI M) i a v, mJ M, mR M, aN M, aI M, aJ M, aR M)
def sJ (M : Mm) (i a : Nat) (v : Int64) : Mm := (mK M, mI M, u2 (mJ M) i a v, mR M, aN M, aI M, aJ M, aR M)
def sR (M : Mm) (i a : Nat) (v : Option Nat) : Mm := (mK M, mI M, mJ M, u2 (mR M) i a v, aN M, aI M, aJ M, aR M)
def tI (M : Mm) (a j : Nat) (v : Int32) : Mm := (mK M, mI M, mJ M, mR M, aN M, x2 (aI M) a j v, aJ M, aR M)
def tJ (M : Mm) (a j : Nat) (v : Int64) : Mm := (mK M, mI M, mJ M, mR M, aN M, aI M, x2 (aJ M) a j v, aR M)
def tR (M : Mm) (a j : Nat) (v : Option Nat) : Mm := (mK M, mI M, mJ M, mR M, aN M, aI M, aJ M, x2 (aR M) a j v)
def nw (M : Mm) (q k : Nat) : Mm := (va_up (mK M) q k, z2 0 (mI M) q, z2 0 (mJ M) q, z2 none (mR M) q, aN M, aI M, aJ M, aR M)
def na (M : Mm) (q k n : Nat) : Mm := (va_up (mK M) q k, mI M, mJ M, mR M, va_up (aN M) q n, zr 0 (aI M) q, zr 0 (aJ M) q, zr none (aR M) q)
abbrev Tys : Type := ClassId × ClassId × ClassId × ClassId × ClassId × ClassId × ClassId × (Nat → Nat) × (Nat → Nat)
/-- the reference's literals: where each is, and where its bytes are -/
def sK (t : Tys) (i : Nat) : Nat := t.2.2.2.2.2.2.2.1 i
def sV (t : Tys) (i : Nat) : Nat := t.2.2.2.2.2.2.2.2 i
def tysL (t : Tys) : List (ClassId × FieldType) := [(t.1, .byte), (t.2.1, .int), (t.2.2.1, .long), (t.2.2.2.1, .boolean), (t.2.2.2.2.1, .object "WatermarkJoin$Stream"), (t.2.2.2.2.2.1, .array .int), (t.2.2.2.2.2.2.1, .array .long)]
def fO : Nat → (Nat → Int32) → (Nat → Int64) → (Nat → Option Nat) → List Value := fun c I J R => match c with
  | 0 => [va_rf (R 0), .int (I 1)]
  | 1 => [va_rf (R 64), va_rf (R 65), va_rf (R 66), va_rf (R 67), va_rf (R 68), .int (I 69), .int (I 70), .int (I 71)]
  | 2 => [va_rf (R 128), va_rf (R 129), .long (J 130), .long (J 131), va_rf (R 132), va_rf (R 133), va_rf (R 134), va_rf (R 135)]
  | 3 => [va_rf (R 192), .int (I 193), .int (I 194)]
  | 4 => [va_rf (R 256), .int (I 257), .int (I 258), .int (I 259), .long (J 260)]
  | 5 => [.int (I 320), .long (J 321), .int (I 322), .int (I 323), va_rf (R 324), va_rf (R 325), va_rf (R 326), va_rf (R 327)]
  | 6 => [.int (I 384), .long (J 385), .long (J 386), va_rf (R 387), .int (I 388), va_rf (R 389), .long (J 390), .int (I 391), .long (J 392), va_rf (R 393), va_rf (R 394), va_rf (R 395)]
  | 7 => [va_rf (R 448), va_rf (R 449), .int (I 450), .int (I 451), .int (I 452), .int (I 453), .long (J 454)]
  | 8 => [va_rf (R 512), va_rf (R 513), va_rf (R 514), .int (I 515)]
  | 9 => [.long (J 576), .long (J 577), va_rf (R 578), va_rf (R 579), va_rf (R 580), .int (I 581)]
  | 10 => [va_rf (R 640), va_rf (R 641), va_rf (R 642), va_rf (R 643), va_rf (R 644), .int (I 645)]
  | _ => [.int (I 704), va_rf (R 705), .int (I 706), .int (I 707), .int (I 708), .int (I 709), .long (J 710), .int (I 711), .int (I 712), .int (I 713), .int (I 714), va_rf (R 715), va_rf (R 716), va_rf (R 717), va_rf (R 718), va_rf (R 719), va_rf (R 720), va_rf (R 721), va_rf (R 722), va_rf (R 723), va_rf (R 724), va_rf (R 725), va_rf (R 726), va_rf (R 727), va_rf (R 728), va_rf (R 729), .int (I 730), .int (I 731), .int (I 732), va_rf (R 733), va_rf (R 734), va_rf (R 735), va_rf (R 736), va_rf (R 737), .int (I 738), .int (I 739), va_rf (R 740), .int (I 741), va_rf (R 742), .int (I 743), va_rf (R 744), va_rf (R 745), va_rf (R 746), va_rf (R 747), va_rf (R 748), va_rf (R 749), va_rf (R 750), va_rf (R 751), .int (I 752), va_rf (R 753), va_rf (R 754), va_rf (R 755), .int (I 756), .long (J 757), va_rf (R 758), va_rf (R 759), .int (I 760)]
def fA (t : Tys) (ty n : Nat) (I : Nat → Int32) (J : Nat → Int64) (R : Nat → Option Nat) : va_E := match ty with
  | 0 => .inl (t.1, n, .inl I)
  | 1 => .inl (t.2.1, n, .inl I)
  | 2 => .inl (t.2.2.1, n, .inr (.inl J))
  | 3 => .inl (t.2.2.2.1, n, .inl I)
  | 4 => .inl (t.2.2.2.2.1, n, .inr (.inr (.inr (.inr R))))
  | 5 => .inl (t.2.2.2.2.2.1, n, .inr (.inr (.inr (.inr R))))
  | _ => .inl (t.2.2.2.2.2.2.1, n, .inr (.inr (.inr (.inr R))))
def wF (t : Tys) (M : Mm) (a : Nat) : va_E := if mK M a < 16 then .inr (mK M a - 1, fO (mK M a - 1) (fun i => mI M i a) (fun i => mJ M i a) (fun i => mR M i a)) else fA t (mK M a % 8) (aN M a) (aI M a) (aJ M a) (aR M a)
theorem wF_o {t : Tys} {M : Mm} {a ci : Nat} (h : mK M a = ci + 1) (hc : ci < 15) : wF t M a = .inr (ci, fO ci (fun i => mI M i a) (fun i => mJ M i a) (fun i => mR M i a)) := by
  simp only [wF, h, show ci + 1 < 16 by omega, if_true, Nat.add_sub_cancel]
theorem wF_a {t : Tys} {M : Mm} {a k ty : Nat} (h : mK M a = k) (hk : 16 ≤ k) (hty : k % 8 = ty) : wF t M a = fA t ty (aN M a) (aI M a) (aJ M a) (aR M a) := by
  simp only [wF, h, show ¬ k < 16 by omega, if_false, hty]
theorem wF_same {t : Tys} {M M1 : Mm} {b : Nat} (hK : mK M1 b = mK M b) (hI : ∀ i, mI M1 i b = mI M i b) (hJ : ∀ i, mJ M1 i b = mJ M i b) (hR : ∀ i, mR M1 i b = mR M i b) (hN : aN M1 b = aN M b) (h1 : ∀ i, aI M1 b i = aI M b i) (h2 : ∀ i, aJ M1 b i = aJ M b i) (h3 : ∀ i, aR M1 b i = aR M b i) : wF t M1 b = wF t M b := by
  simp only [wF, hK, hI, hJ, hR, hN, show aI M1 b = aI M b from funext h1, show aJ M1 b = aJ M b from funext h2, show aR M1 b = aR M b from funext h3]
theorem up_eq {f g : Nat → va_E} {a : Nat} {v : va_E} (h1 : g a = v) (h2 : ∀ b, b ≠ a → g b = f b) : va_up f a v = g := by
  funext b
  by_cases hb : b = a
  · subst hb; rw [va_up_self, h1]
  · rw [va_up_ne _ _ hb, h2 b hb]
theorem w_sI {t : Tys} {M : Mm} {a ci i : Nat} {v : Int32} (h : mK M a = ci + 1) (hc : ci < 15) {fs : List Value} (hf : fO ci (fun j => if j = i then v else mI M j a) (fun j => mJ M j a) (fun j => mR M j a) = fs) : va_up (wF t M) a (.inr (ci, fs)) = wF t (sI M i a v) := by
  refine up_eq ?_ (fun b hb => wF_same rfl (fun j => by simp [sI, mI, u2, hb]) (fun _ => rfl) (fun _ => rfl) rfl (fun _ => rfl) (fun _ => rfl) (fun _ => rfl))
  rw [wF_o (M := sI M i a v) h hc, ← hf]
  congr 3
  funext j
  simp [sI, mI, u2]
theorem w_sJ {t : Tys} {M : Mm} {a ci i : Nat} {v : Int64} (h : mK M a = ci + 1) (hc : ci < 15) {fs : List Value} (hf : fO ci (fun j => mI M j a) (fun j => if j = i then v else mJ M j a) (fun j => mR M j a) = fs) : va_up (wF t M) a (.inr (ci, fs)) = wF t (sJ M i a v) := by
  refine up_eq ?_ (fun b hb => wF_same rfl (fun _ => rfl) (fun j => by simp [sJ, mJ, u2, hb]) (fun _ => rfl) rfl (fun _ => rfl) (fun _ => rfl) (fun _ => rfl))
  rw [wF_o (M := sJ M i a v) h hc, ← hf]
  congr 3
  funext j
  simp [sJ, mJ, u2]
theorem w_sR {t : Tys} {M : Mm} {a ci i : Nat} {v : Option Nat} (h : mK M a = ci + 1) (hc : ci < 15) {fs : List Value} (hf : fO ci (fun j => mI M j a) (fun j => mJ M j a) (fun j => if j = i then v else mR M j a) = fs) : va_up (wF t M) a (.inr (ci, fs)) = wF t (sR M i a v) := by
  refine up_eq ?_ (fun b hb => wF_same rfl (fun _ => rfl) (fun _ => rfl) (fun j => by simp [sR, mR, u2, hb]) rfl (fun _ => rfl) (fun _ => rfl) (fun _ => rfl))
  rw [wF_o (M := sR M i a v) h hc, ← hf]
  congr 3
  funext j
  simp [sR, mR, u2]
theorem w_tI {t : Tys} {M : Mm} {a k ty j : Nat} {v : Int32} {e : va_E} (h : mK M a = k) (hk : 16 ≤ k) (hty : k % 8 = ty) (he : fA t ty (aN M a) (upd (aI M a) j v) (aJ M a) (aR M a) = e) : va_up (wF t M) a e = wF t (tI M a j v) := by
  refine up_eq ?_ (fun b hb => wF_same rfl (fun _ => rfl) (fun _ => rfl) (fun _ => rfl) rfl (fun i => by simp [tI, aI, x2, hb]) (fun _ => rfl) (fun _ => rfl))
  rw [wF_a (M := tI M a j v) h hk hty, ← he]
  congr 1
  funext i
  simp [tI, aI, x2, upd]
theorem w_tJ {t : Tys} {M : Mm} {a k ty j : Nat} {v : Int64} {e : va_E} (h : mK M a = k) (hk : 16 ≤ k) (hty : k % 8 = ty) (he : fA t ty (aN M a) (aI M a) (vp_updL (aJ M a) j v) (aR M a) = e) : va_up (wF t M) a e = wF t (tJ M a j v) := by
  refine up_eq ?_ (fun b hb => wF_same rfl (fun _ => rfl) (fun _ => rfl) (fun _ => rfl) rfl (fun _ => rfl) (fun i => by simp [tJ, aJ, x2, hb]) (fun _ => rfl))
  rw [wF_a (M := tJ M a j v) h hk hty, ← he]
  congr 1
  funext i
  simp [tJ, aJ, x2, vp_updL]
theorem w_tR {t : Tys} {M : Mm} {a k ty j : Nat} {v : Option Nat} {e : va_E} (h : mK M a = k) (hk : 16 ≤ k) (hty : k % 8 = ty) (he : fA t ty (aN M a) (aI M a) (aJ M a) (va_up (aR M a) j v) = e) : va_up (wF t M) a e = wF t (tR M a j v) := by
  refine up_eq ?_ (fun b hb => wF_same rfl (fun _ => rfl) (fun _ => rfl) (fun _ => rfl) rfl (fun _ => rfl) (fun _ => rfl) (fun i => by simp [tR, aR, x2, hb]))
  rw [wF_a (M := tR M a j v) h hk hty, ← he]
  congr 1
  funext i
  simp [tR, aR, x2, va_up]
theorem w_nw {t : Tys} {M : Mm} {a ci : Nat} (hc : ci < 15) {fs : List Value} (hf : fO ci (fun _ => 0) (fun _ => 0) (fun _ => none) = fs) : va_up (wF t M) a (.inr (ci, fs)) = wF t (nw M a (ci + 1)) := by
  refine up_eq ?_ (fun b hb => wF_same (by simp [nw, mK, va_up, hb]) (fun j => by simp [nw, mI, z2, hb]) (fun j => by simp [nw, mJ, z2, hb]) (fun j => by simp [nw, mR, z2, hb]) rfl (fun _ => rfl) (fun _ => rfl) (fun _ => rfl))
  rw [wF_o (M := nw M a (ci + 1)) (ci := ci) (by simp [nw, mK, va_up]) hc, ← hf]
  simp [nw, mI, mJ, mR, z2]
theorem w_na {t : Tys} {M : Mm} {a k ty n : Nat} (hk : 16 ≤ k) (hty : k % 8 = ty) {e : va_E} (he : fA t ty n (fun _ => 0) (fun _ => 0) (fun _ => none) = e) : va_up (wF t M) a e = wF t (na M a k n) := by
  refine up_eq ?_ (fun b hb => wF_same (by simp [na, mK, va_up, hb]) (fun _ => rfl) (fun _ => rfl) (fun _ => rfl) (by simp [na, aN, va_up, hb]) (fun j => by simp [na, aI, zr, hb]) (fun j => by simp [na, aJ, zr, hb]) (fun j => by simp [na, aR, zr, hb]))
  rw [wF_a (M := na M a k n) (k := k) (by simp [na, mK, va_up]) hk hty, ← he]
  congr 1 <;> first | (funext i; simp [na, aI, aJ, aR, zr]; done) | simp [na, aN, va_up]
/-- the world: what the pool of cells is -/
def Wd (D : va_G) (t : Tys) (A : Nat → Prop) (H0 : Heap) (M : Mm) (L : List Nat) (H : Heap) (locs : List Loc) : Prop :=
  va_P D vwCl (va_pl L (wF t M)) H ∧ va_D A (va_pl L (wF t M)) ∧ va_S A H0 H locs ∧ ∀ a, mK M a ≠ 0 ↔ a ∈ L
def wjU : List Cond := lw_tbl.filter goodWord
theorem wjU_mem {w : Cond} (h : w ∈ lw_tbl) (g : goodWord w = true) : w ∈ wjU := List.mem_filter.mpr ⟨h, g⟩
abbrev Cx : Type := Program × Launch × Env × Room × State × MethodId × Array Value × List Frame × Method × Code × (State → Prop) × va_G × Tys × (Nat → Prop) × Nat
def Z (X : Cx) (M : Mm) (ce sl pc : Nat) (lv : List (Nat × Value)) (st : List Value) : Prop := match X with
  | (p, l, e, R, s, m, args, below, meth, c, Q, D, t, A, nL) => ∀ (L : List Nat) (H : Heap) (locs : List Loc) (ls : Array Slot), lv_has ls nL lv → Wd D t A s.heap M L H locs → W p l e R s m args below meth c H locs ce sl Q (F0 m pc ls st)
def slenL : List Nat := [82, 6, 5, 5, 4, 4, 6, 5, 3, 5, 0]
def sbytL : List (List Int32) := [[115, 111, 117, 114, 99, 101, 32, 108, 97, 103, 32, 109, 97, 114, 107, 115, 32, 97, 102, 116, 101, 114, 32, 103, 114, 111, 117, 112, 32, 117, 110, 105, 111, 110, 32, 100, 101, 108, 97, 121, 32, 104, 111, 108, 100, 32, 106, 111, 105, 110, 32, 102, 114, 111, 109, 32, 116, 111, 32, 119, 105, 110, 100, 111, 119, 32, 115, 105, 122, 101, 32, 115, 116, 101, 112, 32, 97, 108, 105, 103, 110, 32], [115, 111, 117, 114, 99, 101], [117, 110, 105, 111, 110], [100, 101, 108, 97, 121], [104, 111, 108, 100], [106, 111, 105, 110], [119, 105, 110, 100, 111, 119], [115, 116, 97, 114, 116], [101, 110, 100], [32, 105, 100, 108, 101], []]
def slen (i : Nat) : Nat := slenL.getD i 0
def sby (i j : Nat) : Int32 := (sbytL.getD i []).getD j 0
def sIx (i : Nat) : Nat := [165, 420, 421, 423, 425, 427, 428, 442, 444, 446, 448].getD i 0
def sTx (i : Nat) : String := ["source lag marks after group union delay hold join from to window size step align ", "source", "union", "delay", "hold", "join", "window", "start", "end", " idle", ""].getD i ""
def va_AOA (ty : FieldType) (U : State) : Prop := (Cond.arrayOver (.array ty)).before #[] U = true
theorem va_AOA.use {ty : FieldType} {A : Array Value} {U : State} (h : va_AOA ty U) : (Cond.arrayOver (.array ty)).before A U = true := h
theorem va_AOA.moved {ty : FieldType} {u U : State} (hvm : u.vm.Alike U.vm) (h : va_AOA ty u) : va_AOA ty U := by
  obtain ⟨comp, c, k, h1, h2, h3, h4, h5⟩ := arrayOver_specB h
  obtain ⟨k', hk', he⟩ := hvm.2.2 _ _ h3
  have hi : (U.vm.classes.findIdx? fun (x : Class) => match x.kind with | .array component _ => component == comp | _ => false) = some c := by
    have e1 := va_idx_bare U.vm comp
    have e2 := va_idx_bare u.vm comp
    first | rw [hvm.bare_eq] at e2 | rw [← hvm.bare_eq] at e2
    first | exact (e1.symm.trans e2).trans h2 | exact (e2.symm.trans e1).symm.trans h2
  have hkind : k'.kind = .array comp (.array ty) := by rw [he]; exact h4
  have f1 : U.vm.findClass (FieldType.array ty).toString = some comp := by rw [hvm.findClass]; exact h1
  have f2 : U.vm.findClass ("[" ++ (FieldType.array ty).toString) = some c := by rw [hvm.findClass]; exact h5
  unfold va_AOA Cond.before Cond.holds
  simp only [Cond.value]
  rw [f1, Option.bind_some]
  refine (congrArg (fun o : Option Nat => (o.bind (fun c => (U.vm.classes[c]?).map fun (k : Class) => match k.kind with | .array _ ty9 => decide (ty9 = FieldType.array ty) && decide (U.vm.findClass ("[" ++ (FieldType.array ty).toString) = some c) | _ => false) == some true)) hi).trans ?_
  simp [hk', hkind, f2]
/-- the reference's literals, out of all that a call may change -/
def SS (t : Tys) (A : Nat → Prop) (U : State) (H : Heap) : Prop := (∀ i : Nat, i < 11 → va_O "java/lang/String" (sK t i) A U H ∧ va_OF "java/lang/String" "coder" "B" (.int 0) (sK t i) A U H ∧ va_OF "java/lang/String" "value" "[B" (.ref (sV t i)) (sK t i) A U H ∧ va_T .byte (sV t i) (slen i) (fun j => .int (sby i j)) A U H) ∧ va_Z "java/lang/String" "COMPACT_STRINGS" "Z" (.int 1) A U H ∧ va_Zq "jdk/internal/util/Preconditions" "SIOOBE_FORMATTER" "Ljava/util/function/BiFunction;" A U H ∧ ∀ i : Nat, i < 11 → vk_R RX11 (sIx i) (sTx i) (sK t i) U
theorem SS.moved {t : Tys} {A : Nat → Prop} {u U : State} {H : Heap} (hvm : u.vm.Alike U.vm) (hr : ∀ own k tx a, vk_R own k tx a u → vk_R own k tx a U) (h : SS t A u H) : SS t A U H :=
  ⟨fun i hi => ⟨va_O.moved hvm (h.1 i hi).1, va_OF.moved hvm (h.1 i hi).2.1, va_OF.moved hvm (h.1 i hi).2.2.1, va_T.moved hvm (h.1 i hi).2.2.2⟩, va_Z.moved hvm h.2.1, va_Zq.moved hvm h.2.2.1, fun i hi => hr _ _ _ _ (h.2.2.2 i hi)⟩
theorem SS.kept {t : Tys} {A : Nat → Prop} {U : State} {H H1 : Heap} (h : SS t A U H) (hq : ∀ a : Nat, a < H.size → ¬ A a → H1[a]? = H[a]?) : SS t A U H1 :=
  ⟨fun i hi => ⟨(h.1 i hi).1.kept hq, (h.1 i hi).2.1.kept hq, (h.1 i hi).2.2.1.kept hq, (h.1 i hi).2.2.2.kept hq⟩, h.2.1.kept hq, va_Zq.kept h.2.2.1 hq, h.2.2.2⟩
theorem SS.narrow {t : Tys} {A B : Nat → Prop} {U : State} {H : Heap} (h : SS t A U H) (hAB : ∀ q, B q → A q) : SS t B U H :=
  ⟨fun i hi => ⟨(h.1 i hi).1.narrow hAB, (h.1 i hi).2.1.narrow hAB, (h.1 i hi).2.2.1.narrow hAB, (h.1 i hi).2.2.2.narrow hAB⟩, h.2.1.narrow hAB, va_Zq.narrow h.2.2.1 hAB, h.2.2.2⟩
def Ns0 (U : State) : Prop := va_Nw (.methodLinkNest RX1 77 yX10_together RX10) U ∧ va_Nw (.methodLinkNest RX2 42 yX10_together RX10) U ∧ va_Nw (.methodLinkNest RX9 51 yX10_together RX10) U ∧ va_AO RX6 U ∧ va_AOA .int U ∧ va_AOA .long U
theorem Ns0.warm {s U : State} (hW : s.WarmedH U.vm) (h : Ns0 s) : Ns0 U := ⟨va_Nw.warmM hW h.1, va_Nw.warmM hW h.2.1, va_Nw.warmM hW h.2.2.1, va_AO.moved hW.alike h.2.2.2.1, va_AOA.moved hW.alike h.2.2.2.2.1, va_AOA.moved hW.alike h.2.2.2.2.2⟩
theorem Ns0.same {s U : State} (hv : s.vm = U.vm) (h : Ns0 s) : Ns0 U := by
  have e : s.vm.Alike U.vm := by rw [hv]; exact Vm.Alike.refl U.vm
  exact ⟨va_Nw.same rfl hv h.1, va_Nw.same rfl hv h.2.1, va_Nw.same rfl hv h.2.2.1, va_AO.moved e h.2.2.2.1, va_AOA.moved e h.2.2.2.2.1, va_AOA.moved e h.2.2.2.2.2⟩
def Nst (t : Tys) (A : Nat → Prop) (U : State) : Prop := Ns0 U ∧ SS t A U U.heap
theorem Nst.same {t : Tys} {A : Nat → Prop} {s U : State} (hv : s.vm = U.vm) (hh : s.heap = U.heap) (h : Nst t A s) : Nst t A U := by
  have e : s.vm.Alike U.vm := by rw [hv]; exact Vm.Alike.refl U.vm
  refine ⟨h.1.same hv, ?_⟩
  rw [← hh]
  exact h.2.moved e (fun _ _ _ _ q => q.same hv.symm)
theorem Nst.to {t : Tys} {A B : Nat → Prop} {s U : State} (hW : s.WarmedH U.vm) (hk : ∀ a : Nat, a < s.heap.size → ¬ A a → U.heap[a]? = s.heap[a]?) (hF : ∀ q, B q → A q) (h : Nst t A s) : Nst t B U := ⟨h.1.warm hW, ((h.2.kept hk).narrow hF).moved hW.alike (fun _ _ _ _ q => q.warm hW)⟩
def Ok (X : Cx) (cc : ByteArray) (own : String) (rm : Room) : Prop := match X with
  | (p, l, e, R, s, m, args, below, meth, c, Q, D, t, A, nL) => p.tables.exec = Jvm.exec ∧ c.code = cc ∧ c.maxLocals = nL ∧ s.vm.findClass own = some m.cls ∧ (∀ w ∈ wjU, w.before args s = true) ∧ (∀ q, s.heap.size ≤ q → A q) ∧ va_K D vwCl (tysL t) s ∧ meth.locks = false ∧ R = rm ∧ Nst t A s
theorem va_fresh9 {D : va_G} {L : List Nat} {f : Nat → va_E} {e : va_E} {q : Nat} {H : Heap} {A : Nat → Prop} (_ : va_P D vwCl (va_pl L f ++ [(q, e)]) H) (hD : va_D A (va_pl L f ++ [(q, e)])) : q ∉ L := by
  intro hq
  obtain ⟨i, hi⟩ := List.getElem?_of_mem (show (q, f q) ∈ va_pl L f from List.mem_map.mpr ⟨q, hq, rfl⟩)
  have hil := (List.getElem?_eq_some_iff.mp hi).1
  have h1 : (va_pl L f ++ [(q, e)])[i]? = some (q, f q) := by rw [List.getElem?_append_left hil]; exact hi
  have h2 : (va_pl L f ++ [(q, e)])[(va_pl L f).length]? = some (q, e) := by rw [List.getElem?_append_right (Nat.le_refl _)]; simp
  have := hD.1 _ _ _ _ h1 h2 rfl
  omega
section ZR
variable {X : Cx} {cc : ByteArray} {own : String} {rm : Room} {M : Mm} {ce sl pc : Nat} {lv : List (Nat × Value)} {rest : List Value}
theorem z_iadd (hX : Ok X cc own rm) {x y : Int32} (hdg : decode cc pc = .ok (.iadd, 1)) (k : Z X M ce sl (pc + 1) lv (.int (x + y) :: rest)) : Z X M ce sl pc lv (.int y :: .int x :: rest) := by
  obtain ⟨p, l, e, R, s, m, args, below, meth, c, Q, D, t, A, nL⟩ := X
  obtain ⟨hx, hb, hml, hown, hts, hA, hK, hlk, hRm, hNs⟩ := hX
  intro L H locs ls hl hW
  exact lv_iadd hx hb hdg (k L H locs ls hl hW)
theorem z_isub (hX : Ok X cc own rm) {x y : Int32} (hdg : decode cc pc = .ok (.isub, 1)) (k : Z X M ce sl (pc + 1) lv (.int (x - y) :: rest)) : Z X M ce sl pc lv (.int y :: .int x :: rest) := by
  obtain ⟨p, l, e, R, s, m, args, below, meth, c, Q, D, t, A, nL⟩ := X
  obtain ⟨hx, hb, hml, hown, hts, hA, hK, hlk, hRm, hNs⟩ := hX
  intro L H locs ls hl hW
  exact lv_isub hx hb hdg (k L H locs ls hl hW)
theorem z_imul (hX : Ok X cc own rm) {x y : Int32} (hdg : decode cc pc = .ok (.imul, 1)) (k : Z X M ce sl (pc + 1) lv (.int (x * y) :: rest)) : Z X M ce sl pc lv (.int y :: .int x :: rest) := by
  obtain ⟨p, l, e, R, s, m, args, below, meth, c, Q, D, t, A, nL⟩ := X
  obtain ⟨hx, hb, hml, hown, hts, hA, hK, hlk, hRm, hNs⟩ := hX
  intro L H locs ls hl hW
  exact lv_imul hx hb hdg (k L H locs ls hl hW)
theorem z_iand (hX : Ok X cc own rm) {x y : Int32} (hdg : decode cc pc = .ok (.iand, 1)) (k : Z X M ce sl (pc + 1) lv (.int (x &&& y) :: rest)) : Z X M ce sl pc lv (.int y :: .int x :: rest) := by
  obtain ⟨p, l, e, R, s, m, args, below, meth, c, Q, D, t, A, nL⟩ := X
  obtain ⟨hx, hb, hml, hown, hts, hA, hK, hlk, hRm, hNs⟩ := hX
  intro L H locs ls hl hW
  exact lv_iand hx hb hdg (k L H locs ls hl hW)
theorem z_ior (hX : Ok X cc own rm) {x y : Int32} (hdg : decode cc pc = .ok (.ior, 1)) (k : Z X M ce sl (pc + 1) lv (.int (x ||| y) :: rest)) : Z X M ce sl pc lv (.int y :: .int x :: rest) := by
  obtain ⟨p, l, e, R, s, m, args, below, meth, c, Q, D, t, A, nL⟩ := X
  obtain ⟨hx, hb, hml, hown, hts, hA, hK, hlk, hRm, hNs⟩ := hX
  intro L H locs ls hl hW
  exact lv_ior hx hb hdg (k L H locs ls hl hW)
theorem z_ixor (hX : Ok X cc own rm) {x y : Int32} (hdg : decode cc pc = .ok (.ixor, 1)) (k : Z X M ce sl (pc + 1) lv (.int (x ^^^ y) :: rest)) : Z X M ce sl pc lv (.int y :: .int x :: rest) := by
  obtain ⟨p, l, e, R, s, m, args, below, meth, c, Q, D, t, A, nL⟩ := X
  obtain ⟨hx, hb, hml, hown, hts, hA, hK, hlk, hRm, hNs⟩ := hX
  intro L H locs ls hl hW
  exact lv_ixor hx hb hdg (k L H locs ls hl hW)
theorem z_ladd (hX : Ok X cc own rm) {x y : Int64} (hdg : decode cc pc = .ok (.ladd, 1)) (k : Z X M ce sl (pc + 1) lv (.long (x + y) :: rest)) : Z X M ce sl pc lv (.long y :: .long x :: rest) := by
  obtain ⟨p, l, e, R, s, m, args, below, meth, c, Q, D, t, A, nL⟩ := X
  obtain ⟨hx, hb, hml, hown, hts, hA, hK, hlk, hRm, hNs⟩ := hX
  intro L H locs ls hl hW
  exact lv_ladd hx hb hdg (k L H locs ls hl hW)
theorem z_lsub (hX : Ok X cc own rm) {x y : Int64} (hdg : decode cc pc = .ok (.lsub, 1)) (k : Z X M ce sl (pc + 1) lv (.long (x - y) :: rest)) : Z X M ce sl pc lv (.long y :: .long x :: rest) := by
  obtain ⟨p, l, e, R, s, m, args, below, meth, c, Q, D, t, A, nL⟩ := X
  obtain ⟨hx, hb, hml, hown, hts, hA, hK, hlk, hRm, hNs⟩ := hX
  intro L H locs ls hl hW
  exact lv_lsub hx hb hdg (k L H locs ls hl hW)
theorem z_lmul (hX : Ok X cc own rm) {x y : Int64} (hdg : decode cc pc = .ok (.lmul, 1)) (k : Z X M ce sl (pc + 1) lv (.long (x * y) :: rest)) : Z X M ce sl pc lv (.long y :: .long x :: rest) := by
  obtain ⟨p, l, e, R, s, m, args, below, meth, c, Q, D, t, A, nL⟩ := X
  obtain ⟨hx, hb, hml, hown, hts, hA, hK, hlk, hRm, hNs⟩ := hX
  intro L H locs ls hl hW
  exact lv_lmul hx hb hdg (k L H locs ls hl hW)
theorem z_land (hX : Ok X cc own rm) {x y : Int64} (hdg : decode cc pc = .ok (.land, 1)) (k : Z X M ce sl (pc + 1) lv (.long (x &&& y) :: rest)) : Z X M ce sl pc lv (.long y :: .long x :: rest) := by
  obtain ⟨p, l, e, R, s, m, args, below, meth, c, Q, D, t, A, nL⟩ := X
  obtain ⟨hx, hb, hml, hown, hts, hA, hK, hlk, hRm, hNs⟩ := hX
  intro L H locs ls hl hW
  exact lv_land hx hb hdg (k L H locs ls hl hW)
theorem z_lor (hX : Ok X cc own rm) {x y : Int64} (hdg : decode cc pc = .ok (.lor, 1)) (k : Z X M ce sl (pc + 1) lv (.long (x ||| y) :: rest)) : Z X M ce sl pc lv (.long y :: .long x :: rest) := by
  obtain ⟨p, l, e, R, s, m, args, below, meth, c, Q, D, t, A, nL⟩ := X
  obtain ⟨hx, hb, hml, hown, hts, hA, hK, hlk, hRm, hNs⟩ := hX
  intro L H locs ls hl hW
  exact lv_lor hx hb hdg (k L H locs ls hl hW)
theorem z_idiv (hX : Ok X cc own rm) {x y : Int32} (hdg : decode cc pc = .ok (.idiv, 1)) (hne : ¬ y = 0) (k : Z X M ce sl (pc + 1) lv (.int (x / y) :: rest)) : Z X M ce sl pc lv (.int y :: .int x :: rest) := by
  obtain ⟨p, l, e, R, s, m, args, below, meth, c, Q, D, t, A, nL⟩ := X
  obtain ⟨hx, hb, hml, hown, hts, hA, hK, hlk, hRm, hNs⟩ := hX
  intro L H locs ls hl hW
  exact lv_idiv hx hb hdg hne (k L H locs ls hl hW)
theorem z_irem (hX : Ok X cc own rm) {x y : Int32} (hdg : decode cc pc = .ok (.irem, 1)) (hne : ¬ y = 0) (k : Z X M ce sl (pc + 1) lv (.int (x - x / y * y) :: rest)) : Z X M ce sl pc lv (.int y :: .int x :: rest) := by
  obtain ⟨p, l, e, R, s, m, args, below, meth, c, Q, D, t, A, nL⟩ := X
  obtain ⟨hx, hb, hml, hown, hts, hA, hK, hlk, hRm, hNs⟩ := hX
  intro L H locs ls hl hW
  exact lv_irem hx hb hdg hne (k L H locs ls hl hW)
theorem z_ldiv (hX : Ok X cc own rm) {x y : Int64} (hdg : decode cc pc = .ok (.ldiv, 1)) (hne : ¬ y = 0) (k : Z X M ce sl (pc + 1) lv (.long (x / y) :: rest)) : Z X M ce sl pc lv (.long y :: .long x :: rest) := by
  obtain ⟨p, l, e, R, s, m, args, below, meth, c, Q, D, t, A, nL⟩ := X
  obtain ⟨hx, hb, hml, hown, hts, hA, hK, hlk, hRm, hNs⟩ := hX
  intro L H locs ls hl hW
  exact lv_ldiv hx hb hdg hne (k L H locs ls hl hW)
theorem z_lrem (hX : Ok X cc own rm) {x y : Int64} (hdg : decode cc pc = .ok (.lrem, 1)) (hne : ¬ y = 0) (k : Z X M ce sl (pc + 1) lv (.long (x - x / y * y) :: rest)) : Z X M ce sl pc lv (.long y :: .long x :: rest) := by
  obtain ⟨p, l, e, R, s, m, args, below, meth, c, Q, D, t, A, nL⟩ := X
  obtain ⟨hx, hb, hml, hown, hts, hA, hK, hlk, hRm, hNs⟩ := hX
  intro L H locs ls hl hW
  exact lv_lrem hx hb hdg hne (k L H locs ls hl hW)
theorem z_ineg (hX : Ok X cc own rm) {x : Int32} (hdg : decode cc pc = .ok (.ineg, 1)) (k : Z X M ce sl (pc + 1) lv (.int (-x) :: rest)) : Z X M ce sl pc lv (.int x :: rest) := by
  obtain ⟨p, l, e, R, s, m, args, below, meth, c, Q, D, t, A, nL⟩ := X
  obtain ⟨hx, hb, hml, hown, hts, hA, hK, hlk, hRm, hNs⟩ := hX
  intro L H locs ls hl hW
  exact lv_ineg hx hb hdg (k L H locs ls hl hW)
theorem z_lneg (hX : Ok X cc own rm) {x : Int64} (hdg : decode cc pc = .ok (.lneg, 1)) (k : Z X M ce sl (pc + 1) lv (.long (-x) :: rest)) : Z X M ce sl pc lv (.long x :: rest) := by
  obtain ⟨p, l, e, R, s, m, args, below, meth, c, Q, D, t, A, nL⟩ := X
  obtain ⟨hx, hb, hml, hown, hts, hA, hK, hlk, hRm, hNs⟩ := hX
  intro L H locs ls hl hW
  exact lv_lneg hx hb hdg (k L H locs ls hl hW)
theorem z_i2l (hX : Ok X cc own rm) {x : Int32} (hdg : decode cc pc = .ok (.i2l, 1)) (k : Z X M ce sl (pc + 1) lv (.long (x.toInt64) :: rest)) : Z X M ce sl pc lv (.int x :: rest) := by
  obtain ⟨p, l, e, R, s, m, args, below, meth, c, Q, D, t, A, nL⟩ := X
  obtain ⟨hx, hb, hml, hown, hts, hA, hK, hlk, hRm, hNs⟩ := hX
  intro L H locs ls hl hW
  exact lv_i2l hx hb hdg rfl (k L H locs ls hl hW)
theorem z_l2i (hX : Ok X cc own rm) {x : Int64} (hdg : decode cc pc = .ok (.l2i, 1)) (k : Z X M ce sl (pc + 1) lv (.int (x.toInt32) :: rest)) : Z X M ce sl pc lv (.long x :: rest) := by
  obtain ⟨p, l, e, R, s, m, args, below, meth, c, Q, D, t, A, nL⟩ := X
  obtain ⟨hx, hb, hml, hown, hts, hA, hK, hlk, hRm, hNs⟩ := hX
  intro L H locs ls hl hW
  exact lv_l2i hx hb hdg rfl (k L H locs ls hl hW)
theorem z_i2b (hX : Ok X cc own rm) {x : Int32} (hdg : decode cc pc = .ok (.i2b, 1)) (k : Z X M ce sl (pc + 1) lv (.int (x.toInt8.toInt32) :: rest)) : Z X M ce sl pc lv (.int x :: rest) := by
  obtain ⟨p, l, e, R, s, m, args, below, meth, c, Q, D, t, A, nL⟩ := X
  obtain ⟨hx, hb, hml, hown, hts, hA, hK, hlk, hRm, hNs⟩ := hX
  intro L H locs ls hl hW
  exact lv_i2b hx hb hdg rfl (k L H locs ls hl hW)
theorem z_lshl (hX : Ok X cc own rm) {x : Int64} {y : Int32} (hdg : decode cc pc = .ok (.lshl, 1)) (k : Z X M ce sl (pc + 1) lv (.long (x <<< (y.toInt64 &&& 63)) :: rest)) : Z X M ce sl pc lv (.int y :: .long x :: rest) := by
  obtain ⟨p, l, e, R, s, m, args, below, meth, c, Q, D, t, A, nL⟩ := X
  obtain ⟨hx, hb, hml, hown, hts, hA, hK, hlk, hRm, hNs⟩ := hX
  intro L H locs ls hl hW
  exact lv_lshl hx hb hdg rfl (k L H locs ls hl hW)
theorem z_lushr (hX : Ok X cc own rm) {x : Int64} {y : Int32} (hdg : decode cc pc = .ok (.lushr, 1)) (k : Z X M ce sl (pc + 1) lv (.long ((x.toUInt64 >>> (y.toInt64.toUInt64 &&& Int64.toUInt64 63)).toInt64) :: rest)) : Z X M ce sl pc lv (.int y :: .long x :: rest) := by
  obtain ⟨p, l, e, R, s, m, args, below, meth, c, Q, D, t, A, nL⟩ := X
  obtain ⟨hx, hb, hml, hown, hts, hA, hK, hlk, hRm, hNs⟩ := hX
  intro L H locs ls hl hW
  exact lv_lushr hx hb hdg rfl (k L H locs ls hl hW)
theorem z_lshr (hX : Ok X cc own rm) {x : Int64} {y : Int32} (hdg : decode cc pc = .ok (.lshr, 1)) (k : Z X M ce sl (pc + 1) lv (.long (x >>> (y.toInt64 &&& 63)) :: rest)) : Z X M ce sl pc lv (.int y :: .long x :: rest) := by
  obtain ⟨p, l, e, R, s, m, args, below, meth, c, Q, D, t, A, nL⟩ := X
  obtain ⟨hx, hb, hml, hown, hts, hA, hK, hlk, hRm, hNs⟩ := hX
  intro L H locs ls hl hW
  exact lv_lshr hx hb hdg rfl (k L H locs ls hl hW)
theorem z_iconst (hX : Ok X cc own rm) {n : Int} {v : Int32} (hdg : decode cc pc = .ok (.iconst n, 1)) (hv : Int32.ofInt n = v) (k : Z X M ce sl (pc + 1) lv (.int v :: rest)) : Z X M ce sl pc lv rest := by
  obtain ⟨p, l, e, R, s, m, args, below, meth, c, Q, D, t, A, nL⟩ := X
  obtain ⟨hx, hb, hml, hown, hts, hA, hK, hlk, hRm, hNs⟩ := hX
  intro L H locs ls hl hW
  exact lv_iconst hx hb hdg hv (k L H locs ls hl hW)
theorem z_bipush (hX : Ok X cc own rm) {n : Int} {v : Int32} (hdg : decode cc pc = .ok (.bipush n, 2)) (hv : (Int8.ofInt n).toInt32 = v) (k : Z X M ce sl (pc + 2) lv (.int v :: rest)) : Z X M ce sl pc lv rest := by
  obtain ⟨p, l, e, R, s, m, args, below, meth, c, Q, D, t, A, nL⟩ := X
  obtain ⟨hx, hb, hml, hown, hts, hA, hK, hlk, hRm, hNs⟩ := hX
  intro L H locs ls hl hW
  exact lv_bipush hx hb hdg hv (k L H locs ls hl hW)
theorem z_sipush (hX : Ok X cc own rm) {n : Int} {v : Int32} (hdg : decode cc pc = .ok (.sipush n, 3)) (hv : (Int16.ofInt n).toInt32 = v) (k : Z X M ce sl (pc + 3) lv (.int v :: rest)) : Z X M ce sl pc lv rest := by
  obtain ⟨p, l, e, R, s, m, args, below, meth, c, Q, D, t, A, nL⟩ := X
  obtain ⟨hx, hb, hml, hown, hts, hA, hK, hlk, hRm, hNs⟩ := hX
  intro L H locs ls hl hW
  exact lv_sipush hx hb hdg hv (k L H locs ls hl hW)
theorem z_lconst (hX : Ok X cc own rm) {n : Fin 2} {v : Int64} (hdg : decode cc pc = .ok (.lconst n, 1)) (hv : Int64.ofNat (n : Nat) = v) (k : Z X M ce sl (pc + 1) lv (.long v :: rest)) : Z X M ce sl pc lv rest := by
  obtain ⟨p, l, e, R, s, m, args, below, meth, c, Q, D, t, A, nL⟩ := X
  obtain ⟨hx, hb, hml, hown, hts, hA, hK, hlk, hRm, hNs⟩ := hX
  intro L H locs ls hl hW
  exact lv_lconst hx hb hdg hv (k L H locs ls hl hW)
theorem z_ldc (hX : Ok X cc own rm) {idx : Nat} {v : Int32} (hdg : decode cc pc = .ok (.ldc idx, 2)) (hw : Cond.constant own idx v ∈ wjU) (k : Z X M ce sl (pc + 2) lv (.int v :: rest)) : Z X M ce sl pc lv rest := by
  obtain ⟨p, l, e, R, s, m, args, below, meth, c, Q, D, t, A, nL⟩ := X
  obtain ⟨hx, hb, hml, hown, hts, hA, hK, hlk, hRm, hNs⟩ := hX
  intro L H locs ls hl hW
  exact lv_ldc hx hb hown (hts _ hw) hdg (k L H locs ls hl hW)
theorem z_ldcw (hX : Ok X cc own rm) {idx : Nat} {v : Int32} (hdg : decode cc pc = .ok (.ldc_w idx, 3)) (hw : Cond.constant own idx v ∈ wjU) (k : Z X M ce sl (pc + 3) lv (.int v :: rest)) : Z X M ce sl pc lv rest := by
  obtain ⟨p, l, e, R, s, m, args, below, meth, c, Q, D, t, A, nL⟩ := X
  obtain ⟨hx, hb, hml, hown, hts, hA, hK, hlk, hRm, hNs⟩ := hX
  intro L H locs ls hl hW
  exact lv_ldcw hx hb hown (hts _ hw) hdg (k L H locs ls hl hW)
theorem z_ldc2 (hX : Ok X cc own rm) {idx : Nat} {v : Int64} (hdg : decode cc pc = .ok (.ldc2_w idx, 3)) (hw : Cond.constantLong own idx v ∈ wjU) (k : Z X M ce sl (pc + 3) lv (.long v :: rest)) : Z X M ce sl pc lv rest := by
  obtain ⟨p, l, e, R, s, m, args, below, meth, c, Q, D, t, A, nL⟩ := X
  obtain ⟨hx, hb, hml, hown, hts, hA, hK, hlk, hRm, hNs⟩ := hX
  intro L H locs ls hl hW
  exact lv_ldc2 hx hb hown (hts _ hw) hdg (k L H locs ls hl hW)
theorem z_iload_n (hX : Ok X cc own rm) {k0 : Fin 4} {i : Nat} {x : Int32} (hdg : decode cc pc = .ok (.iload_n k0, 1)) (hi : (k0 : Nat) = i) (j : Nat) (hj : lv[j]? = some (i, .int x)) (k : Z X M ce sl (pc + 1) lv (.int x :: rest)) : Z X M ce sl pc lv rest := by
  obtain ⟨p, l, e, R, s, m, args, below, meth, c, Q, D, t, A, nL⟩ := X
  obtain ⟨hx, hb, hml, hown, hts, hA, hK, hlk, hRm, hNs⟩ := hX
  intro L H locs ls hl hW
  exact lv_iload_n hx hb hdg hi (lv_at hl j hj) (k L H locs ls hl hW)
theorem z_iload (hX : Ok X cc own rm) {i : Nat} {x : Int32} (hdg : decode cc pc = .ok (.iload i, 2)) (j : Nat) (hj : lv[j]? = some (i, .int x)) (k : Z X M ce sl (pc + 2) lv (.int x :: rest)) : Z X M ce sl pc lv rest := by
  obtain ⟨p, l, e, R, s, m, args, below, meth, c, Q, D, t, A, nL⟩ := X
  obtain ⟨hx, hb, hml, hown, hts, hA, hK, hlk, hRm, hNs⟩ := hX
  intro L H locs ls hl hW
  exact lv_iload hx hb hdg (lv_at hl j hj) (k L H locs ls hl hW)
theorem z_lload_n (hX : Ok X cc own rm) {k0 : Fin 4} {i : Nat} {x : Int64} (hdg : decode cc pc = .ok (.lload_n k0, 1)) (hi : (k0 : Nat) = i) (j : Nat) (hj : lv[j]? = some (i, .long x)) (k : Z X M ce sl (pc + 1) lv (.long x :: rest)) : Z X M ce sl pc lv rest := by
  obtain ⟨p, l, e, R, s, m, args, below, meth, c, Q, D, t, A, nL⟩ := X
  obtain ⟨hx, hb, hml, hown, hts, hA, hK, hlk, hRm, hNs⟩ := hX
  intro L H locs ls hl hW
  exact lv_lload_n hx hb hdg hi (lv_at hl j hj) (k L H locs ls hl hW)
theorem z_lload (hX : Ok X cc own rm) {i : Nat} {x : Int64} (hdg : decode cc pc = .ok (.lload i, 2)) (j : Nat) (hj : lv[j]? = some (i, .long x)) (k : Z X M ce sl (pc + 2) lv (.long x :: rest)) : Z X M ce sl pc lv rest := by
  obtain ⟨p, l, e, R, s, m, args, below, meth, c, Q, D, t, A, nL⟩ := X
  obtain ⟨hx, hb, hml, hown, hts, hA, hK, hlk, hRm, hNs⟩ := hX
  intro L H locs ls hl hW
  exact lv_lload hx hb hdg (lv_at hl j hj) (k L H locs ls hl hW)
theorem z_aload_n (hX : Ok X cc own rm) {k0 : Fin 4} {i : Nat} {r : Option Nat} (hdg : decode cc pc = .ok (.aload_n k0, 1)) (hi : (k0 : Nat) = i) (j : Nat) (hj : lv[j]? = some (i, va_rf r)) (k : Z X M ce sl (pc + 1) lv (va_rf r :: rest)) : Z X M ce sl pc lv rest := by
  obtain ⟨p, l, e, R, s, m, args, below, meth, c, Q, D, t, A, nL⟩ := X
  obtain ⟨hx, hb, hml, hown, hts, hA, hK, hlk, hRm, hNs⟩ := hX
  intro L H locs ls hl hW
  cases r with
  | none => exact lv_aload_nN hx hb hdg hi (lv_at hl j hj) (k L H locs ls hl hW)
  | some a => exact lv_aload_n hx hb hdg hi (lv_at hl j hj) (k L H locs ls hl hW)
theorem z_aload (hX : Ok X cc own rm) {i : Nat} {r : Option Nat} (hdg : decode cc pc = .ok (.aload i, 2)) (j : Nat) (hj : lv[j]? = some (i, va_rf r)) (k : Z X M ce sl (pc + 2) lv (va_rf r :: rest)) : Z X M ce sl pc lv rest := by
  obtain ⟨p, l, e, R, s, m, args, below, meth, c, Q, D, t, A, nL⟩ := X
  obtain ⟨hx, hb, hml, hown, hts, hA, hK, hlk, hRm, hNs⟩ := hX
  intro L H locs ls hl hW
  cases r with
  | none => exact lv_aloadN hx hb hdg (lv_at hl j hj) (k L H locs ls hl hW)
  | some a => exact lv_aload hx hb hdg (lv_at hl j hj) (k L H locs ls hl hW)
theorem z_istore_n (hX : Ok X cc own rm) {k0 : Fin 4} {i : Nat} {x : Int32} (lv' : List (Nat × Value)) (hdg : decode cc pc = .ok (.istore_n k0, 1)) (hi : (k0 : Nat) = i) (hn : i < X.2.2.2.2.2.2.2.2.2.2.2.2.2.2) (hq : (i, Value.int x) :: lv.filter (fun q => !(q.1 == i) && !(q.1 + 1 == i && q.2.category == 2)) = lv') (k : Z X M ce sl (pc + 1) lv' rest) : Z X M ce sl pc lv (.int x :: rest) := by
  obtain ⟨p, l, e, R, s, m, args, below, meth, c, Q, D, t, A, nL⟩ := X
  obtain ⟨hx, hb, hml, hown, hts, hA, hK, hlk, hRm, hNs⟩ := hX
  intro L H locs ls hl hW
  exact lv_istore_n hx hb hdg hi hl hn hq (fun ls' hl' => k L H locs ls' hl' hW)
theorem z_lstore_n (hX : Ok X cc own rm) {k0 : Fin 4} {i : Nat} {x : Int64} (lv' : List (Nat × Value)) (hdg : decode cc pc = .ok (.lstore_n k0, 1)) (hi : (k0 : Nat) = i) (hn : i + 1 < X.2.2.2.2.2.2.2.2.2.2.2.2.2.2) (hq : (i, Value.long x) :: lv.filter (fun q => !(q.1 == i) && (!(q.1 == i + 1) && !(q.1 + 1 == i && q.2.category == 2))) = lv') (k : Z X M ce sl (pc + 1) lv' rest) : Z X M ce sl pc lv (.long x :: rest) := by
  obtain ⟨p, l, e, R, s, m, args, below, meth, c, Q, D, t, A, nL⟩ := X
  obtain ⟨hx, hb, hml, hown, hts, hA, hK, hlk, hRm, hNs⟩ := hX
  intro L H locs ls hl hW
  exact lv_lstore_n hx hb hdg hi hl hn hq (fun ls' hl' => k L H locs ls' hl' hW)
theorem z_astore_n (hX : Ok X cc own rm) {k0 : Fin 4} {i : Nat} {r : Option Nat} (lv' : List (Nat × Value)) (hdg : decode cc pc = .ok (.astore_n k0, 1)) (hi : (k0 : Nat) = i) (hn : i < X.2.2.2.2.2.2.2.2.2.2.2.2.2.2) (hq : (i, va_rf r) :: lv.filter (fun q => !(q.1 == i) && !(q.1 + 1 == i && q.2.category == 2)) = lv') (k : Z X M ce sl (pc + 1) lv' rest) : Z X M ce sl pc lv (va_rf r :: rest) := by
  obtain ⟨p, l, e, R, s, m, args, below, meth, c, Q, D, t, A, nL⟩ := X
  obtain ⟨hx, hb, hml, hown, hts, hA, hK, hlk, hRm, hNs⟩ := hX
  intro L H locs ls hl hW
  cases r with
  | none => exact lv_astore_nN hx hb hdg hi hl hn hq (fun ls' hl' => k L H locs ls' hl' hW)
  | some a => exact lv_astore_n hx hb hdg hi hl hn hq (fun ls' hl' => k L H locs ls' hl' hW)
theorem z_istore (hX : Ok X cc own rm) {i : Nat} {x : Int32} (lv' : List (Nat × Value)) (hdg : decode cc pc = .ok (.istore i, 2)) (hn : i < X.2.2.2.2.2.2.2.2.2.2.2.2.2.2) (hq : (i, Value.int x) :: lv.filter (fun q => !(q.1 == i) && !(q.1 + 1 == i && q.2.category == 2)) = lv') (k : Z X M ce sl (pc + 2) lv' rest) : Z X M ce sl pc lv (.int x :: rest) := by
  obtain ⟨p, l, e, R, s, m, args, below, meth, c, Q, D, t, A, nL⟩ := X
  obtain ⟨hx, hb, hml, hown, hts, hA, hK, hlk, hRm, hNs⟩ := hX
  intro L H locs ls hl hW
  exact lv_istore hx hb hdg hl hn hq (fun ls' hl' => k L H locs ls' hl' hW)
theorem z_lstore (hX : Ok X cc own rm) {i : Nat} {x : Int64} (lv' : List (Nat × Value)) (hdg : decode cc pc = .ok (.lstore i, 2)) (hn : i + 1 < X.2.2.2.2.2.2.2.2.2.2.2.2.2.2) (hq : (i, Value.long x) :: lv.filter (fun q => !(q.1 == i) && (!(q.1 == i + 1) && !(q.1 + 1 == i && q.2.category == 2))) = lv') (k : Z X M ce sl (pc + 2) lv' rest) : Z X M ce sl pc lv (.long x :: rest) := by
  obtain ⟨p, l, e, R, s, m, args, below, meth, c, Q, D, t, A, nL⟩ := X
  obtain ⟨hx, hb, hml, hown, hts, hA, hK, hlk, hRm, hNs⟩ := hX
  intro L H locs ls hl hW
  exact lv_lstore hx hb hdg hl hn hq (fun ls' hl' => k L H locs ls' hl' hW)
theorem z_astore (hX : Ok X cc own rm) {i : Nat} {r : Option Nat} (lv' : List (Nat × Value)) (hdg : decode cc pc = .ok (.astore i, 2)) (hn : i < X.2.2.2.2.2.2.2.2.2.2.2.2.2.2) (hq : (i, va_rf r) :: lv.filter (fun q => !(q.1 == i) && !(q.1 + 1 == i && q.2.category == 2)) = lv') (k : Z X M ce sl (pc + 2) lv' rest) : Z X M ce sl pc lv (va_rf r :: rest) := by
  obtain ⟨p, l, e, R, s, m, args, below, meth, c, Q, D, t, A, nL⟩ := X
  obtain ⟨hx, hb, hml, hown, hts, hA, hK, hlk, hRm, hNs⟩ := hX
  intro L H locs ls hl hW
  cases r with
  | none => exact lv_astoreN hx hb hdg hl hn hq (fun ls' hl' => k L H locs ls' hl' hW)
  | some a => exact lv_astore hx hb hdg hl hn hq (fun ls' hl' => k L H locs ls' hl' hW)
theorem z_iinc (hX : Ok X cc own rm) {i : Nat} {n : Int} {x v : Int32} (lv' : List (Nat × Value)) (hdg : decode cc pc = .ok (.iinc i n, 3)) (j : Nat) (hj : lv[j]? = some (i, .int x)) (hv : x + Int32.ofInt n = v) (hn : i < X.2.2.2.2.2.2.2.2.2.2.2.2.2.2) (hq : (i, Value.int v) :: lv.filter (fun q => !(q.1 == i) && !(q.1 + 1 == i && q.2.category == 2)) = lv') (k : Z X M ce sl (pc + 3) lv' rest) : Z X M ce sl pc lv rest := by
  obtain ⟨p, l, e, R, s, m, args, below, meth, c, Q, D, t, A, nL⟩ := X
  obtain ⟨hx, hb, hml, hown, hts, hA, hK, hlk, hRm, hNs⟩ := hX
  intro L H locs ls hl hW
  exact lv_iinc hx hb hdg hl hj hv hn hq (fun ls' hl' => k L H locs ls' hl' hW)
theorem z_loc (ks : List Nat) {lv' : List (Nat × Value)} {st : List Value} (hq : lv_pick lv ks = lv') (k : Z X M ce sl pc lv' st) : Z X M ce sl pc lv st := by
  obtain ⟨p, l, e, R, s, m, args, below, meth, c, Q, D, t, A, nL⟩ := X
  intro L H locs ls hl hW
  exact k L H locs ls (lv_sub hl ks hq) hW
theorem z_widen {st : List Value} (ce' sl' : Nat) (h1 : ce ≤ ce') (h2 : sl ≤ sl') (k : Z X M ce' sl' pc lv st) : Z X M ce sl pc lv st := by
  obtain ⟨p, l, e, R, s, m, args, below, meth, c, Q, D, t, A, nL⟩ := X
  intro L H locs ls hl hW
  exact W.widen h1 h2 (k L H locs ls hl hW)
theorem z_dup (hX : Ok X cc own rm) {va : Value} (hdg : decode cc pc = .ok (.dup, 1)) (hva : va.category = 1) (k : Z X M ce sl (pc + 1) lv (va :: va :: rest)) : Z X M ce sl pc lv (va :: rest) := by
  obtain ⟨p, l, e, R, s, m, args, below, meth, c, Q, D, t, A, nL⟩ := X
  obtain ⟨hx, hb, hml, hown, hts, hA, hK, hlk, hRm, hNs⟩ := hX
  intro L H locs ls hl hW
  exact lv_dup hx hb hdg hva (k L H locs ls hl hW)
theorem z_pop (hX : Ok X cc own rm) {va : Value} (hdg : decode cc pc = .ok (.pop, 1)) (hva : va.category = 1) (k : Z X M ce sl (pc + 1) lv rest) : Z X M ce sl pc lv (va :: rest) := by
  obtain ⟨p, l, e, R, s, m, args, below, meth, c, Q, D, t, A, nL⟩ := X
  obtain ⟨hx, hb, hml, hown, hts, hA, hK, hlk, hRm, hNs⟩ := hX
  intro L H locs ls hl hW
  exact lv_pop hx hb hdg hva (k L H locs ls hl hW)
theorem z_dup2_11 (hX : Ok X cc own rm) {va vb : Value} (hdg : decode cc pc = .ok (.dup2, 1)) (hva : va.category = 1) (hvb : vb.category = 1) (k : Z X M ce sl (pc + 1) lv (va :: vb :: va :: vb :: rest)) : Z X M ce sl pc lv (va :: vb :: rest) := by
  obtain ⟨p, l, e, R, s, m, args, below, meth, c, Q, D, t, A, nL⟩ := X
  obtain ⟨hx, hb, hml, hown, hts, hA, hK, hlk, hRm, hNs⟩ := hX
  intro L H locs ls hl hW
  exact lv_dup2_11 hx hb hdg hva hvb (k L H locs ls hl hW)
theorem z_dup2_2 (hX : Ok X cc own rm) {va : Value} (hdg : decode cc pc = .ok (.dup2, 1)) (hva : va.category = 2) (k : Z X M ce sl (pc + 1) lv (va :: va :: rest)) : Z X M ce sl pc lv (va :: rest) := by
  obtain ⟨p, l, e, R, s, m, args, below, meth, c, Q, D, t, A, nL⟩ := X
  obtain ⟨hx, hb, hml, hown, hts, hA, hK, hlk, hRm, hNs⟩ := hX
  intro L H locs ls hl hW
  exact lv_dup2_2 hx hb hdg hva (k L H locs ls hl hW)
theorem z_null (hX : Ok X cc own rm) (hdg : decode cc pc = .ok (.aconst_null, 1)) (k : Z X M ce sl (pc + 1) lv (va_rf none :: rest)) : Z X M ce sl pc lv rest := by
  obtain ⟨p, l, e, R, s, m, args, below, meth, c, Q, D, t, A, nL⟩ := X
  obtain ⟨hx, hb, hml, hown, hts, hA, hK, hlk, hRm, hNs⟩ := hX
  intro L H locs ls hl hW
  exact lv_null hx hb hdg (k L H locs ls hl hW)
theorem z_goto (hX : Ok X cc own rm) {off : Int} {tgt : Nat} (hdg : decode cc pc = .ok (.goto off, 3)) (ht : (pc : Int) + off = (tgt : Int)) (k : Z X M ce sl tgt lv rest) : Z X M ce sl pc lv rest := by
  obtain ⟨p, l, e, R, s, m, args, below, meth, c, Q, D, t, A, nL⟩ := X
  obtain ⟨hx, hb, hml, hown, hts, hA, hK, hlk, hRm, hNs⟩ := hX
  intro L H locs ls hl hW
  exact lv_goto hx hb hdg ht (k L H locs ls hl hW)
theorem z_icmp_eq (hX : Ok X cc own rm) {x y : Int32} {off : Int} {tgt : Nat} (hdg : decode cc pc = .ok (.if_icmp .eq off, 3)) (ht : (pc : Int) + off = (tgt : Int)) (kt : (x = y) → Z X M ce sl tgt lv rest) (kf : (¬ x = y) → Z X M ce sl (pc + 3) lv rest) : Z X M ce sl pc lv (.int y :: .int x :: rest) := by
  obtain ⟨p, l, e, R, s, m, args, below, meth, c, Q, D, t, A, nL⟩ := X
  obtain ⟨hx, hb, hml, hown, hts, hA, hK, hlk, hRm, hNs⟩ := hX
  intro L H locs ls hl hW
  exact lv_icmp_eq hx hb hdg ht (fun h => kt h L H locs ls hl hW) (fun h => kf h L H locs ls hl hW)
theorem z_if_eq (hX : Ok X cc own rm) {x : Int32} {off : Int} {tgt : Nat} (hdg : decode cc pc = .ok (.ifCond .eq off, 3)) (ht : (pc : Int) + off = (tgt : Int)) (kt : (x = 0) → Z X M ce sl tgt lv rest) (kf : (¬ x = 0) → Z X M ce sl (pc + 3) lv rest) : Z X M ce sl pc lv (.int x :: rest) := by
  obtain ⟨p, l, e, R, s, m, args, below, meth, c, Q, D, t, A, nL⟩ := X
  obtain ⟨hx, hb, hml, hown, hts, hA, hK, hlk, hRm, hNs⟩ := hX
  intro L H locs ls hl hW
  exact lv_if_eq hx hb hdg ht (fun h => kt h L H locs ls hl hW) (fun h => kf h L H locs ls hl hW)
theorem z_icmp_ne (hX : Ok X cc own rm) {x y : Int32} {off : Int} {tgt : Nat} (hdg : decode cc pc = .ok (.if_icmp .ne off, 3)) (ht : (pc : Int) + off = (tgt : Int)) (kt : (¬ x = y) → Z X M ce sl tgt lv rest) (kf : (x = y) → Z X M ce sl (pc + 3) lv rest) : Z X M ce sl pc lv (.int y :: .int x :: rest) := by
  obtain ⟨p, l, e, R, s, m, args, below, meth, c, Q, D, t, A, nL⟩ := X
  obtain ⟨hx, hb, hml, hown, hts, hA, hK, hlk, hRm, hNs⟩ := hX
  intro L H locs ls hl hW
  exact lv_icmp_ne hx hb hdg ht (fun h => kt h L H locs ls hl hW) (fun h => kf h L H locs ls hl hW)
theorem z_if_ne (hX : Ok X cc own rm) {x : Int32} {off : Int} {tgt : Nat} (hdg : decode cc pc = .ok (.ifCond .ne off, 3)) (ht : (pc : Int) + off = (tgt : Int)) (kt : (¬ x = 0) → Z X M ce sl tgt lv rest) (kf : (x = 0) → Z X M ce sl (pc + 3) lv rest) : Z X M ce sl pc lv (.int x :: rest) := by
  obtain ⟨p, l, e, R, s, m, args, below, meth, c, Q, D, t, A, nL⟩ := X
  obtain ⟨hx, hb, hml, hown, hts, hA, hK, hlk, hRm, hNs⟩ := hX
  intro L H locs ls hl hW
  exact lv_if_ne hx hb hdg ht (fun h => kt h L H locs ls hl hW) (fun h => kf h L H locs ls hl hW)
theorem z_icmp_lt (hX : Ok X cc own rm) {x y : Int32} {off : Int} {tgt : Nat} (hdg : decode cc pc = .ok (.if_icmp .lt off, 3)) (ht : (pc : Int) + off = (tgt : Int)) (kt : (x < y) → Z X M ce sl tgt lv rest) (kf : (¬ x < y) → Z X M ce sl (pc + 3) lv rest) : Z X M ce sl pc lv (.int y :: .int x :: rest) := by
  obtain ⟨p, l, e, R, s, m, args, below, meth, c, Q, D, t, A, nL⟩ := X
  obtain ⟨hx, hb, hml, hown, hts, hA, hK, hlk, hRm, hNs⟩ := hX
  intro L H locs ls hl hW
  exact lv_icmp_lt hx hb hdg ht (fun h => kt h L H locs ls hl hW) (fun h => kf h L H locs ls hl hW)
theorem z_if_lt (hX : Ok X cc own rm) {x : Int32} {off : Int} {tgt : Nat} (hdg : decode cc pc = .ok (.ifCond .lt off, 3)) (ht : (pc : Int) + off = (tgt : Int)) (kt : (x < 0) → Z X M ce sl tgt lv rest) (kf : (¬ x < 0) → Z X M ce sl (pc + 3) lv rest) : Z X M ce sl pc lv (.int x :: rest) := by
  obtain ⟨p, l, e, R, s, m, args, below, meth, c, Q, D, t, A, nL⟩ := X
  obtain ⟨hx, hb, hml, hown, hts, hA, hK, hlk, hRm, hNs⟩ := hX
  intro L H locs ls hl hW
  exact lv_if_lt hx hb hdg ht (fun h => kt h L H locs ls hl hW) (fun h => kf h L H locs ls hl hW)
theorem z_icmp_ge (hX : Ok X cc own rm) {x y : Int32} {off : Int} {tgt : Nat} (hdg : decode cc pc = .ok (.if_icmp .ge off, 3)) (ht : (pc : Int) + off = (tgt : Int)) (kt : (y ≤ x) → Z X M ce sl tgt lv rest) (kf : (¬ y ≤ x) → Z X M ce sl (pc + 3) lv rest) : Z X M ce sl pc lv (.int y :: .int x :: rest) := by
  obtain ⟨p, l, e, R, s, m, args, below, meth, c, Q, D, t, A, nL⟩ := X
  obtain ⟨hx, hb, hml, hown, hts, hA, hK, hlk, hRm, hNs⟩ := hX
  intro L H locs ls hl hW
  exact lv_icmp_ge hx hb hdg ht (fun h => kt h L H locs ls hl hW) (fun h => kf h L H locs ls hl hW)
theorem z_if_ge (hX : Ok X cc own rm) {x : Int32} {off : Int} {tgt : Nat} (hdg : decode cc pc = .ok (.ifCond .ge off, 3)) (ht : (pc : Int) + off = (tgt : Int)) (kt : (0 ≤ x) → Z X M ce sl tgt lv rest) (kf : (¬ 0 ≤ x) → Z X M ce sl (pc + 3) lv rest) : Z X M ce sl pc lv (.int x :: rest) := by
  obtain ⟨p, l, e, R, s, m, args, below, meth, c, Q, D, t, A, nL⟩ := X
  obtain ⟨hx, hb, hml, hown, hts, hA, hK, hlk, hRm, hNs⟩ := hX
  intro L H locs ls hl hW
  exact lv_if_ge hx hb hdg ht (fun h => kt h L H locs ls hl hW) (fun h => kf h L H locs ls hl hW)
theorem z_icmp_gt (hX : Ok X cc own rm) {x y : Int32} {off : Int} {tgt : Nat} (hdg : decode cc pc = .ok (.if_icmp .gt off, 3)) (ht : (pc : Int) + off = (tgt : Int)) (kt : (y < x) → Z X M ce sl tgt lv rest) (kf : (¬ y < x) → Z X M ce sl (pc + 3) lv rest) : Z X M ce sl pc lv (.int y :: .int x :: rest) := by
  obtain ⟨p, l, e, R, s, m, args, below, meth, c, Q, D, t, A, nL⟩ := X
  obtain ⟨hx, hb, hml, hown, hts, hA, hK, hlk, hRm, hNs⟩ := hX
  intro L H locs ls hl hW
  exact lv_icmp_gt hx hb hdg ht (fun h => kt h L H locs ls hl hW) (fun h => kf h L H locs ls hl hW)
theorem z_if_gt (hX : Ok X cc own rm) {x : Int32} {off : Int} {tgt : Nat} (hdg : decode cc pc = .ok (.ifCond .gt off, 3)) (ht : (pc : Int) + off = (tgt : Int)) (kt : (0 < x) → Z X M ce sl tgt lv rest) (kf : (¬ 0 < x) → Z X M ce sl (pc + 3) lv rest) : Z X M ce sl pc lv (.int x :: rest) := by
  obtain ⟨p, l, e, R, s, m, args, below, meth, c, Q, D, t, A, nL⟩ := X
  obtain ⟨hx, hb, hml, hown, hts, hA, hK, hlk, hRm, hNs⟩ := hX
  intro L H locs ls hl hW
  exact lv_if_gt hx hb hdg ht (fun h => kt h L H locs ls hl hW) (fun h => kf h L H locs ls hl hW)
theorem z_icmp_le (hX : Ok X cc own rm) {x y : Int32} {off : Int} {tgt : Nat} (hdg : decode cc pc = .ok (.if_icmp .le off, 3)) (ht : (pc : Int) + off = (tgt : Int)) (kt : (x ≤ y) → Z X M ce sl tgt lv rest) (kf : (¬ x ≤ y) → Z X M ce sl (pc + 3) lv rest) : Z X M ce sl pc lv (.int y :: .int x :: rest) := by
  obtain ⟨p, l, e, R, s, m, args, below, meth, c, Q, D, t, A, nL⟩ := X
  obtain ⟨hx, hb, hml, hown, hts, hA, hK, hlk, hRm, hNs⟩ := hX
  intro L H locs ls hl hW
  exact lv_icmp_le hx hb hdg ht (fun h => kt h L H locs ls hl hW) (fun h => kf h L H locs ls hl hW)
theorem z_if_le (hX : Ok X cc own rm) {x : Int32} {off : Int} {tgt : Nat} (hdg : decode cc pc = .ok (.ifCond .le off, 3)) (ht : (pc : Int) + off = (tgt : Int)) (kt : (x ≤ 0) → Z X M ce sl tgt lv rest) (kf : (¬ x ≤ 0) → Z X M ce sl (pc + 3) lv rest) : Z X M ce sl pc lv (.int x :: rest) := by
  obtain ⟨p, l, e, R, s, m, args, below, meth, c, Q, D, t, A, nL⟩ := X
  obtain ⟨hx, hb, hml, hown, hts, hA, hK, hlk, hRm, hNs⟩ := hX
  intro L H locs ls hl hW
  exact lv_if_le hx hb hdg ht (fun h => kt h L H locs ls hl hW) (fun h => kf h L H locs ls hl hW)
theorem z_lcmp (hX : Ok X cc own rm) {x y : Int64} (hdg : decode cc pc = .ok (.lcmp, 1)) (k : Z X M ce sl (pc + 1) lv (.int (lg_cmp x y) :: rest)) : Z X M ce sl pc lv (.long y :: .long x :: rest) := by
  obtain ⟨p, l, e, R, s, m, args, below, meth, c, Q, D, t, A, nL⟩ := X
  obtain ⟨hx, hb, hml, hown, hts, hA, hK, hlk, hRm, hNs⟩ := hX
  intro L H locs ls hl hW
  exact W.lcmp hx hb hdg (k L H locs ls hl hW)
theorem z_ifnull (hX : Ok X cc own rm) {r : Option Nat} {off : Int} {tgt : Nat} (hdg : decode cc pc = .ok (.ifnull off, 3)) (ht : (pc : Int) + off = (tgt : Int)) (kt : r = none → Z X M ce sl tgt lv rest) (kf : ∀ a, r = some a → Z X M ce sl (pc + 3) lv rest) : Z X M ce sl pc lv (va_rf r :: rest) := by
  obtain ⟨p, l, e, R, s, m, args, below, meth, c, Q, D, t, A, nL⟩ := X
  obtain ⟨hx, hb, hml, hown, hts, hA, hK, hlk, hRm, hNs⟩ := hX
  intro L H locs ls hl hW
  cases r with
  | none => exact lv_ifnullN hx hb hdg ht (kt rfl L H locs ls hl hW)
  | some a => exact lv_ifnull hx hb hdg (kf a rfl L H locs ls hl hW)
theorem z_ifnonnull (hX : Ok X cc own rm) {r : Option Nat} {off : Int} {tgt : Nat} (hdg : decode cc pc = .ok (.ifnonnull off, 3)) (ht : (pc : Int) + off = (tgt : Int)) (kt : ∀ a, r = some a → Z X M ce sl tgt lv rest) (kf : r = none → Z X M ce sl (pc + 3) lv rest) : Z X M ce sl pc lv (va_rf r :: rest) := by
  obtain ⟨p, l, e, R, s, m, args, below, meth, c, Q, D, t, A, nL⟩ := X
  obtain ⟨hx, hb, hml, hown, hts, hA, hK, hlk, hRm, hNs⟩ := hX
  intro L H locs ls hl hW
  cases r with
  | none => exact lv_ifnonnullN hx hb hdg (kf rfl L H locs ls hl hW)
  | some a => exact lv_ifnonnull hx hb hdg ht (kt a rfl L H locs ls hl hW)
theorem z_acmp_ne (hX : Ok X cc own rm) {rx ry : Option Nat} {off : Int} {tgt : Nat} (hdg : decode cc pc = .ok (.if_acmp .ne off, 3)) (ht : (pc : Int) + off = (tgt : Int)) (kt : ¬ rx = ry → Z X M ce sl tgt lv rest) (kf : rx = ry → Z X M ce sl (pc + 3) lv rest) : Z X M ce sl pc lv (va_rf ry :: va_rf rx :: rest) := by
  obtain ⟨p, l, e, R, s, m, args, below, meth, c, Q, D, t, A, nL⟩ := X
  obtain ⟨hx, hb, hml, hown, hts, hA, hK, hlk, hRm, hNs⟩ := hX
  intro L H locs ls hl hW
  exact lv_acmp_ne hx hb hdg ht (fun h => kt h L H locs ls hl hW) (fun h => kf h L H locs ls hl hW)
theorem z_get (hX : Ok X cc own rm) {ci j idx : Nat} {C : String} {T : u_T} {N a : Nat} {v : Value} (hc : vwCl[ci]? = some (C, T, N)) (hin : ∀ w ∈ u_ws C T N, w ∈ wjU) (hj : j < N) (hcl : ci < 15) (hlink : Cond.fieldLink own idx (T j).1 (T j).2.1 (T j).2.2.1 ∈ wjU) (hv : (fO ci (fun i => mI M i a) (fun i => mJ M i a) (fun i => mR M i a))[j]? = some v) (hdg : decode cc pc = .ok (.getfield idx, 3)) (hk : mK M a = ci + 1) (k : Z X M ce sl (pc + 3) lv (v :: rest)) : Z X M ce sl pc lv (.ref a :: rest) := by
  obtain ⟨p, l, e, R, s, m, args, below, meth, c, Q, D, t, A, nL⟩ := X
  obtain ⟨hx, hb, hml, hown, hts, hA, hK, hlk, hRm, hNs⟩ := hX
  intro L H locs ls hl hW
  obtain ⟨hP, hD, hS, hL⟩ := id hW
  obtain ⟨q0, hq⟩ := va_pl_get (X := []) (f := wF t M) ((hL a).mp (by omega))
  exact va_get hx hb hts hin hown hK hP q0 (hq.trans (by rw [wF_o hk hcl])) hc j hj (hts _ hlink) (fun _ h => h) hv hdg (k L H locs ls hl hW)
theorem z_put (hX : Ok X cc own rm) {ci j idx : Nat} {C : String} {T : u_T} {N a : Nat} {v : Value} {M1 : Mm} {ty0 : Nat → FieldType} {ty : FieldType} (hc : vwCl[ci]? = some (C, T, N)) (hin : ∀ w ∈ u_ws C T N, w ∈ wjU) (hty : ∀ k, k < N → parseFieldDescriptor (T k).2.2.1 = some (ty0 k)) (hnm : ∀ a, a < N → ∀ b, b < N → a ≠ b → (T a).2.1 ≠ (T b).2.1) (hj : j < N) (hcl : ci < 15) (hlen : (fO ci (fun i => mI M i a) (fun i => mJ M i a) (fun i => mR M i a)).length = N) (hlink : Cond.fieldLink own idx (T j).1 (T j).2.1 (T j).2.2.1 ∈ wjU) (hfin : (T j).2.2.2 = false) (hd : parseFieldDescriptor (T j).2.2.1 = some ty) (hn : narrow ty v = v) (hfit : fits ty v = true)
    (hM1 : ∀ t, va_up (wF t M) a (.inr (ci, (fO ci (fun i => mI M i a) (fun i => mJ M i a) (fun i => mR M i a)).set j v)) = wF t M1) (hKM : mK M1 = mK M) (hdg : decode cc pc = .ok (.putfield idx, 3)) (hk : mK M a = ci + 1) (k : Z X M1 ce sl (pc + 3) lv rest) : Z X M ce sl pc lv (v :: .ref a :: rest) := by
  obtain ⟨p, l, e, R, s, m, args, below, meth, c, Q, D, t, A, nL⟩ := X
  obtain ⟨hx, hb, hml, hown, hts, hA, hK, hlk, hRm, hNs⟩ := hX
  intro L H locs ls hl hW
  obtain ⟨hP, hD, hS, hL⟩ := id hW
  have ha : a ∈ L := (hL a).mp (by omega)
  obtain ⟨q0, hq⟩ := va_pl_get (X := []) (f := wF t M) ha
  refine va_put hx hb hts hin ty0 hty hnm hown hK hP hD hS q0 (hq.trans (by rw [wF_o hk hcl])) hc j hj (hts _ hlink) (fun _ h => h) hfin hd hn hfit (by rw [hlen]; exact hj) hdg (fun H1 locs1 hP1 hD1 hS1 => ?_)
  have e : (va_pl L (wF t M)).set q0 (a, .inr (ci, (fO ci (fun i => mI M i a) (fun i => mJ M i a) (fun i => mR M i a)).set j v)) = va_pl L (wF t M1) := by
    have := va_pl_set (X := []) (e := .inr (ci, (fO ci (fun i => mI M i a) (fun i => mJ M i a) (fun i => mR M i a)).set j v)) hD ha hq
    rw [hM1 t] at this
    exact this
  rw [e] at hP1 hD1
  exact k L H1 locs1 ls hl ⟨hP1, hD1, hS1, by rw [hKM]; exact hL⟩
theorem z_putF (hX : Ok X cc own rm) (hini : X.2.2.2.2.2.2.2.2.1.name = "<init>") {ci j idx : Nat} {C : String} {T : u_T} {N a : Nat} {v : Value} {M1 : Mm} {ty0 : Nat → FieldType} {ty : FieldType} (hc : vwCl[ci]? = some (C, T, N)) (hin : ∀ w ∈ u_ws C T N, w ∈ wjU) (hty : ∀ k, k < N → parseFieldDescriptor (T k).2.2.1 = some (ty0 k)) (hnm : ∀ a, a < N → ∀ b, b < N → a ≠ b → (T a).2.1 ≠ (T b).2.1) (hj : j < N) (hcl : ci < 15) (hlen : (fO ci (fun i => mI M i a) (fun i => mJ M i a) (fun i => mR M i a)).length = N) (hlink : Cond.fieldLink own idx (T j).1 (T j).2.1 (T j).2.2.1 ∈ wjU) (hfin : (T j).2.2.2 = true) (hT : (T j).1 = own) (hd : parseFieldDescriptor (T j).2.2.1 = some ty) (hn : narrow ty v = v) (hfit : fits ty v = true)
    (hM1 : ∀ t, va_up (wF t M) a (.inr (ci, (fO ci (fun i => mI M i a) (fun i => mJ M i a) (fun i => mR M i a)).set j v)) = wF t M1) (hKM : mK M1 = mK M) (hdg : decode cc pc = .ok (.putfield idx, 3)) (hk : mK M a = ci + 1) (k : Z X M1 ce sl (pc + 3) lv rest) : Z X M ce sl pc lv (v :: .ref a :: rest) := by
  obtain ⟨p, l, e, R, s, m, args, below, meth, c, Q, D, t, A, nL⟩ := X
  obtain ⟨hx, hb, hml, hown, hts, hA, hK, hlk, hRm, hNs⟩ := hX
  intro L H locs ls hl hW
  obtain ⟨hP, hD, hS, hL⟩ := id hW
  have ha : a ∈ L := (hL a).mp (by omega)
  obtain ⟨q0, hq⟩ := va_pl_get (X := []) (f := wF t M) ha
  refine va_putF hx hb hts hin ty0 hty hnm hown hK hP hD hS q0 (hq.trans (by rw [wF_o hk hcl])) hc j hj (hts _ hlink) (fun _ h => h) hfin hini hT hd hn hfit (by rw [hlen]; exact hj) hdg (fun H1 locs1 hP1 hD1 hS1 => ?_)
  have e : (va_pl L (wF t M)).set q0 (a, .inr (ci, (fO ci (fun i => mI M i a) (fun i => mJ M i a) (fun i => mR M i a)).set j v)) = va_pl L (wF t M1) := by
    have := va_pl_set (X := []) (e := .inr (ci, (fO ci (fun i => mI M i a) (fun i => mJ M i a) (fun i => mR M i a)).set j v)) hD ha hq
    rw [hM1 t] at this
    exact this
  rw [e] at hP1 hD1
  exact k L H1 locs1 ls hl ⟨hP1, hD1, hS1, by rw [hKM]; exact hL⟩
def isA (M : Mm) (a ty : Nat) : Prop := 16 ≤ mK M a ∧ mK M a % 8 = ty
theorem z_iald (hX : Ok X cc own rm) {a : Nat} {i : Int32} (hdg : decode cc pc = .ok (.iaload, 1)) (hk : isA M a 1) (hin : vp_in i (aN M a)) (k : Z X M ce sl (pc + 1) lv (.int (aI M a i.toNatClampNeg) :: rest)) : Z X M ce sl pc lv (.int i :: .ref a :: rest) := by
  obtain ⟨p, l, e, R, s, m, args, below, meth, c, Q, D, t, A, nL⟩ := X
  obtain ⟨hx, hb, hml, hown, hts, hA, hK, hlk, hRm, hNs⟩ := hX
  intro L H locs ls hl hW
  obtain ⟨hP, hD, hS, hL⟩ := id hW
  obtain ⟨q0, hq⟩ := va_pl_get (X := []) (f := wF t M) ((hL a).mp (by have := hk.1; omega))
  exact va_iald hx hb hK hP q0 1 (hq.trans (by rw [wF_a rfl hk.1 hk.2]; rfl)) rfl hin hdg (k L H locs ls hl hW)
theorem z_bald (hX : Ok X cc own rm) {a : Nat} {i : Int32} (hdg : decode cc pc = .ok (.baload, 1)) (hk : isA M a 0) (hin : vp_in i (aN M a)) (k : Z X M ce sl (pc + 1) lv (.int (aI M a i.toNatClampNeg) :: rest)) : Z X M ce sl pc lv (.int i :: .ref a :: rest) := by
  obtain ⟨p, l, e, R, s, m, args, below, meth, c, Q, D, t, A, nL⟩ := X
  obtain ⟨hx, hb, hml, hown, hts, hA, hK, hlk, hRm, hNs⟩ := hX
  intro L H locs ls hl hW
  obtain ⟨hP, hD, hS, hL⟩ := id hW
  obtain ⟨q0, hq⟩ := va_pl_get (X := []) (f := wF t M) ((hL a).mp (by have := hk.1; omega))
  exact va_bald hx hb hK hP q0 0 (hq.trans (by rw [wF_a rfl hk.1 hk.2]; rfl)) rfl hin hdg (k L H locs ls hl hW)
theorem z_zald (hX : Ok X cc own rm) {a : Nat} {i : Int32} (hdg : decode cc pc = .ok (.baload, 1)) (hk : isA M a 3) (hin : vp_in i (aN M a)) (k : Z X M ce sl (pc + 1) lv (.int (aI M a i.toNatClampNeg) :: rest)) : Z X M ce sl pc lv (.int i :: .ref a :: rest) := by
  obtain ⟨p, l, e, R, s, m, args, below, meth, c, Q, D, t, A, nL⟩ := X
  obtain ⟨hx, hb, hml, hown, hts, hA, hK, hlk, hRm, hNs⟩ := hX
  intro L H locs ls hl hW
  obtain ⟨hP, hD, hS, hL⟩ := id hW
  obtain ⟨q0, hq⟩ := va_pl_get (X := []) (f := wF t M) ((hL a).mp (by have := hk.1; omega))
  exact va_zald hx hb hK hP q0 3 (hq.trans (by rw [wF_a rfl hk.1 hk.2]; rfl)) rfl hin hdg (k L H locs ls hl hW)
theorem z_lald (hX : Ok X cc own rm) {a : Nat} {i : Int32} (hdg : decode cc pc = .ok (.laload, 1)) (hk : isA M a 2) (hin : vp_in i (aN M a)) (k : Z X M ce sl (pc + 1) lv (.long (aJ M a i.toNatClampNeg) :: rest)) : Z X M ce sl pc lv (.int i :: .ref a :: rest) := by
  obtain ⟨p, l, e, R, s, m, args, below, meth, c, Q, D, t, A, nL⟩ := X
  obtain ⟨hx, hb, hml, hown, hts, hA, hK, hlk, hRm, hNs⟩ := hX
  intro L H locs ls hl hW
  obtain ⟨hP, hD, hS, hL⟩ := id hW
  obtain ⟨q0, hq⟩ := va_pl_get (X := []) (f := wF t M) ((hL a).mp (by have := hk.1; omega))
  exact va_lald hx hb hK hP q0 2 (hq.trans (by rw [wF_a rfl hk.1 hk.2]; rfl)) rfl hin hdg (k L H locs ls hl hW)
theorem z_aldq (hX : Ok X cc own rm) {a : Nat} {i : Int32} (hdg : decode cc pc = .ok (.aaload, 1)) (hk : isA M a 4) (hin : vp_in i (aN M a)) (k : Z X M ce sl (pc + 1) lv (va_rf (aR M a i.toNatClampNeg) :: rest)) : Z X M ce sl pc lv (.int i :: .ref a :: rest) := by
  obtain ⟨p, l, e, R, s, m, args, below, meth, c, Q, D, t, A, nL⟩ := X
  obtain ⟨hx, hb, hml, hown, hts, hA, hK, hlk, hRm, hNs⟩ := hX
  intro L H locs ls hl hW
  obtain ⟨hP, hD, hS, hL⟩ := id hW
  obtain ⟨q0, hq⟩ := va_pl_get (X := []) (f := wF t M) ((hL a).mp (by have := hk.1; omega))
  exact va_aldq hx hb hK hP q0 4 (hq.trans (by rw [wF_a rfl hk.1 hk.2]; rfl)) rfl hin hdg (k L H locs ls hl hW)
theorem z_iast (hX : Ok X cc own rm) {a : Nat} {i : Int32} {x : Int32} (hdg : decode cc pc = .ok (.iastore, 1)) (hk : isA M a 1) (hin : vp_in i (aN M a)) (k : Z X (tI M a i.toNatClampNeg x) ce sl (pc + 1) lv rest) : Z X M ce sl pc lv (.int x :: .int i :: .ref a :: rest) := by
  obtain ⟨p, l, e, R, s, m, args, below, meth, c, Q, D, t, A, nL⟩ := X
  obtain ⟨hx, hb, hml, hown, hts, hA, hK, hlk, hRm, hNs⟩ := hX
  intro L H locs ls hl hW
  obtain ⟨hP, hD, hS, hL⟩ := id hW
  have ha : a ∈ L := (hL a).mp (by have := hk.1; omega)
  obtain ⟨q0, hq⟩ := va_pl_get (X := []) (f := wF t M) ha
  refine va_iast hx hb hK hP hD hS q0 1 (hq.trans (by rw [wF_a rfl hk.1 hk.2]; rfl)) rfl hin hdg (fun H1 locs1 hP1 hD1 hS1 => ?_)
  have e : (va_pl L (wF t M)).set q0 (a, fA t 1 (aN M a) (upd (aI M a) i.toNatClampNeg x) (aJ M a) (aR M a)) = va_pl L (wF t (tI M a i.toNatClampNeg x)) := by
    have := va_pl_set (X := []) (e := fA t 1 (aN M a) (upd (aI M a) i.toNatClampNeg x) (aJ M a) (aR M a)) hD ha hq
    rw [w_tI (t := t) (j := i.toNatClampNeg) (v := x) rfl hk.1 hk.2 rfl] at this
    exact this
  have hP2 : va_P D vwCl ((va_pl L (wF t M)).set q0 (a, fA t 1 (aN M a) (upd (aI M a) i.toNatClampNeg x) (aJ M a) (aR M a))) H1 := hP1
  have hD2 : va_D A ((va_pl L (wF t M)).set q0 (a, fA t 1 (aN M a) (upd (aI M a) i.toNatClampNeg x) (aJ M a) (aR M a))) := hD1
  rw [e] at hP2 hD2
  exact k L H1 locs1 ls hl ⟨hP2, hD2, hS1, hL⟩
theorem z_bast (hX : Ok X cc own rm) {a : Nat} {i : Int32} {x : Int32} (hdg : decode cc pc = .ok (.bastore, 1)) (hk : isA M a 0) (hin : vp_in i (aN M a)) (k : Z X (tI M a i.toNatClampNeg (vp_nar .byte x)) ce sl (pc + 1) lv rest) : Z X M ce sl pc lv (.int x :: .int i :: .ref a :: rest) := by
  obtain ⟨p, l, e, R, s, m, args, below, meth, c, Q, D, t, A, nL⟩ := X
  obtain ⟨hx, hb, hml, hown, hts, hA, hK, hlk, hRm, hNs⟩ := hX
  intro L H locs ls hl hW
  obtain ⟨hP, hD, hS, hL⟩ := id hW
  have ha : a ∈ L := (hL a).mp (by have := hk.1; omega)
  obtain ⟨q0, hq⟩ := va_pl_get (X := []) (f := wF t M) ha
  refine va_bast hx hb hK hP hD hS q0 0 (hq.trans (by rw [wF_a rfl hk.1 hk.2]; rfl)) rfl hin hdg (fun H1 locs1 hP1 hD1 hS1 => ?_)
  have e : (va_pl L (wF t M)).set q0 (a, fA t 0 (aN M a) (upd (aI M a) i.toNatClampNeg (vp_nar .byte x)) (aJ M a) (aR M a)) = va_pl L (wF t (tI M a i.toNatClampNeg (vp_nar .byte x))) := by
    have := va_pl_set (X := []) (e := fA t 0 (aN M a) (upd (aI M a) i.toNatClampNeg (vp_nar .byte x)) (aJ M a) (aR M a)) hD ha hq
    rw [w_tI (t := t) (j := i.toNatClampNeg) (v := (vp_nar .byte x)) rfl hk.1 hk.2 rfl] at this
    exact this
  have hP2 : va_P D vwCl ((va_pl L (wF t M)).set q0 (a, fA t 0 (aN M a) (upd (aI M a) i.toNatClampNeg (vp_nar .byte x)) (aJ M a) (aR M a))) H1 := hP1
  have hD2 : va_D A ((va_pl L (wF t M)).set q0 (a, fA t 0 (aN M a) (upd (aI M a) i.toNatClampNeg (vp_nar .byte x)) (aJ M a) (aR M a))) := hD1
  rw [e] at hP2 hD2
  exact k L H1 locs1 ls hl ⟨hP2, hD2, hS1, hL⟩
theorem z_zast (hX : Ok X cc own rm) {a : Nat} {i : Int32} {x : Int32} (hdg : decode cc pc = .ok (.bastore, 1)) (hk : isA M a 3) (hin : vp_in i (aN M a)) (k : Z X (tI M a i.toNatClampNeg (vp_nar .boolean x)) ce sl (pc + 1) lv rest) : Z X M ce sl pc lv (.int x :: .int i :: .ref a :: rest) := by
  obtain ⟨p, l, e, R, s, m, args, below, meth, c, Q, D, t, A, nL⟩ := X
  obtain ⟨hx, hb, hml, hown, hts, hA, hK, hlk, hRm, hNs⟩ := hX
  intro L H locs ls hl hW
  obtain ⟨hP, hD, hS, hL⟩ := id hW
  have ha : a ∈ L := (hL a).mp (by have := hk.1; omega)
  obtain ⟨q0, hq⟩ := va_pl_get (X := []) (f := wF t M) ha
  refine va_zast hx hb hK hP hD hS q0 3 (hq.trans (by rw [wF_a rfl hk.1 hk.2]; rfl)) rfl hin hdg (fun H1 locs1 hP1 hD1 hS1 => ?_)
  have e : (va_pl L (wF t M)).set q0 (a, fA t 3 (aN M a) (upd (aI M a) i.toNatClampNeg (vp_nar .boolean x)) (aJ M a) (aR M a)) = va_pl L (wF t (tI M a i.toNatClampNeg (vp_nar .boolean x))) := by
    have := va_pl_set (X := []) (e := fA t 3 (aN M a) (upd (aI M a) i.toNatClampNeg (vp_nar .boolean x)) (aJ M a) (aR M a)) hD ha hq
    rw [w_tI (t := t) (j := i.toNatClampNeg) (v := (vp_nar .boolean x)) rfl hk.1 hk.2 rfl] at this
    exact this
  have hP2 : va_P D vwCl ((va_pl L (wF t M)).set q0 (a, fA t 3 (aN M a) (upd (aI M a) i.toNatClampNeg (vp_nar .boolean x)) (aJ M a) (aR M a))) H1 := hP1
  have hD2 : va_D A ((va_pl L (wF t M)).set q0 (a, fA t 3 (aN M a) (upd (aI M a) i.toNatClampNeg (vp_nar .boolean x)) (aJ M a) (aR M a))) := hD1
  rw [e] at hP2 hD2
  exact k L H1 locs1 ls hl ⟨hP2, hD2, hS1, hL⟩
theorem z_last (hX : Ok X cc own rm) {a : Nat} {i : Int32} {x : Int64} (hdg : decode cc pc = .ok (.lastore, 1)) (hk : isA M a 2) (hin : vp_in i (aN M a)) (k : Z X (tJ M a i.toNatClampNeg x) ce sl (pc + 1) lv rest) : Z X M ce sl pc lv (.long x :: .int i :: .ref a :: rest) := by
  obtain ⟨p, l, e, R, s, m, args, below, meth, c, Q, D, t, A, nL⟩ := X
  obtain ⟨hx, hb, hml, hown, hts, hA, hK, hlk, hRm, hNs⟩ := hX
  intro L H locs ls hl hW
  obtain ⟨hP, hD, hS, hL⟩ := id hW
  have ha : a ∈ L := (hL a).mp (by have := hk.1; omega)
  obtain ⟨q0, hq⟩ := va_pl_get (X := []) (f := wF t M) ha
  refine va_last hx hb hK hP hD hS q0 2 (hq.trans (by rw [wF_a rfl hk.1 hk.2]; rfl)) rfl hin hdg (fun H1 locs1 hP1 hD1 hS1 => ?_)
  have e : (va_pl L (wF t M)).set q0 (a, fA t 2 (aN M a) (aI M a) (vp_updL (aJ M a) i.toNatClampNeg x) (aR M a)) = va_pl L (wF t (tJ M a i.toNatClampNeg x)) := by
    have := va_pl_set (X := []) (e := fA t 2 (aN M a) (aI M a) (vp_updL (aJ M a) i.toNatClampNeg x) (aR M a)) hD ha hq
    rw [w_tJ (t := t) (j := i.toNatClampNeg) (v := x) rfl hk.1 hk.2 rfl] at this
    exact this
  have hP2 : va_P D vwCl ((va_pl L (wF t M)).set q0 (a, fA t 2 (aN M a) (aI M a) (vp_updL (aJ M a) i.toNatClampNeg x) (aR M a))) H1 := hP1
  have hD2 : va_D A ((va_pl L (wF t M)).set q0 (a, fA t 2 (aN M a) (aI M a) (vp_updL (aJ M a) i.toNatClampNeg x) (aR M a))) := hD1
  rw [e] at hP2 hD2
  exact k L H1 locs1 ls hl ⟨hP2, hD2, hS1, hL⟩
theorem z_astq (hX : Ok X cc own rm) {a b : Nat} {i : Int32} (hdg : decode cc pc = .ok (.aastore, 1)) (hk : isA M a 4) (hb7 : mK M b = 7) (hin : vp_in i (aN M a)) (k : Z X (tR M a i.toNatClampNeg (some b)) ce sl (pc + 1) lv rest) : Z X M ce sl pc lv (.ref b :: .int i :: .ref a :: rest) := by
  obtain ⟨p, l, e, R, s, m, args, below, meth, c, Q, D, t, A, nL⟩ := X
  obtain ⟨hx, hb, hml, hown, hts, hA, hK, hlk, hRm, hNs⟩ := hX
  intro L H locs ls hl hW
  obtain ⟨hP, hD, hS, hL⟩ := id hW
  have ha : a ∈ L := (hL a).mp (by have := hk.1; omega)
  obtain ⟨q0, hq⟩ := va_pl_get (X := []) (f := wF t M) ha
  obtain ⟨q1, hq1⟩ := va_pl_get (X := []) (f := wF t M) ((hL b).mp (by omega))
  refine va_astq hx hb hK hP hD hS q0 4 q1 6 (r := (RX6, TX6, 12)) (hq.trans (by rw [wF_a rfl hk.1 hk.2]; rfl)) rfl (hq1.trans (by rw [wF_o (ci := 6) hb7 (by decide)])) rfl hin hdg (fun H1 locs1 hP1 hD1 hS1 => ?_)
  have e : (va_pl L (wF t M)).set q0 (a, fA t 4 (aN M a) (aI M a) (aJ M a) (va_up (aR M a) i.toNatClampNeg (some b))) = va_pl L (wF t (tR M a i.toNatClampNeg (some b))) := by
    have := va_pl_set (X := []) (e := fA t 4 (aN M a) (aI M a) (aJ M a) (va_up (aR M a) i.toNatClampNeg (some b))) hD ha hq
    rw [w_tR (t := t) (j := i.toNatClampNeg) (v := some b) rfl hk.1 hk.2 rfl] at this
    exact this
  have hP2 : va_P D vwCl ((va_pl L (wF t M)).set q0 (a, fA t 4 (aN M a) (aI M a) (aJ M a) (va_up (aR M a) i.toNatClampNeg (some b)))) H1 := hP1
  have hD2 : va_D A ((va_pl L (wF t M)).set q0 (a, fA t 4 (aN M a) (aI M a) (aJ M a) (va_up (aR M a) i.toNatClampNeg (some b)))) := hD1
  rw [e] at hP2 hD2
  exact k L H1 locs1 ls hl ⟨hP2, hD2, hS1, hL⟩
theorem z_alen (hX : Ok X cc own rm) {a ty : Nat} (hdg : decode cc pc = .ok (.arraylength, 1)) (hk : isA M a ty) (hty : ty < 7) (k : Z X M ce sl (pc + 1) lv (.int (nI (aN M a)) :: rest)) : Z X M ce sl pc lv (.ref a :: rest) := by
  obtain ⟨p, l, e, R, s, m, args, below, meth, c, Q, D, t, A, nL⟩ := X
  obtain ⟨hx, hb, hml, hown, hts, hA, hK, hlk, hRm, hNs⟩ := hX
  intro L H locs ls hl hW
  obtain ⟨hP, hD, hS, hL⟩ := id hW
  obtain ⟨q0, hq⟩ := va_pl_get (X := []) (f := wF t M) ((hL a).mp (by have := hk.1; omega))
  have hw := wF_a (t := t) rfl hk.1 hk.2
  rcases (show ty = 0 ∨ ty = 1 ∨ ty = 2 ∨ ty = 3 ∨ ty = 4 ∨ ty = 5 ∨ ty = 6 by omega) with rfl | rfl | rfl | rfl | rfl | rfl | rfl
  · exact va_alen hx hb hK hP q0 0 (x := (aN M a, .inl (aI M a))) (hq.trans (by rw [hw]; rfl)) rfl rfl hdg (k L H locs ls hl hW)
  · exact va_alen hx hb hK hP q0 1 (x := (aN M a, .inl (aI M a))) (hq.trans (by rw [hw]; rfl)) rfl rfl hdg (k L H locs ls hl hW)
  · exact va_alen hx hb hK hP q0 2 (x := (aN M a, .inr (.inl (aJ M a)))) (hq.trans (by rw [hw]; rfl)) rfl rfl hdg (k L H locs ls hl hW)
  · exact va_alen hx hb hK hP q0 3 (x := (aN M a, .inl (aI M a))) (hq.trans (by rw [hw]; rfl)) rfl rfl hdg (k L H locs ls hl hW)
  · exact va_alen hx hb hK hP q0 4 (x := (aN M a, .inr (.inr (.inr (.inr (aR M a)))))) (hq.trans (by rw [hw]; rfl)) rfl rfl hdg (k L H locs ls hl hW)
  · exact va_alen hx hb hK hP q0 5 (x := (aN M a, .inr (.inr (.inr (.inr (aR M a)))))) (hq.trans (by rw [hw]; rfl)) rfl rfl hdg (k L H locs ls hl hW)
  · exact va_alen hx hb hK hP q0 6 (x := (aN M a, .inr (.inr (.inr (.inr (aR M a)))))) (hq.trans (by rw [hw]; rfl)) rfl rfl hdg (k L H locs ls hl hW)
theorem z_new (hX : Ok X cc own rm) {ci idx : Nat} {C : String} {T : u_T} {N : Nat} {ty0 : Nat → FieldType} (hc : vwCl[ci]? = some (C, T, N)) (hin : ∀ w ∈ u_ws C T N, w ∈ wjU) (hty : ∀ k, k < N → parseFieldDescriptor (T k).2.2.1 = some (ty0 k)) (hcl : ci < 15) (h1 : Cond.classLink own idx C ∈ wjU) (h2 : Cond.instantiable C N ∈ wjU) (h3 : Cond.initialized C ∈ wjU) (hfs : ∀ j, j < N → defaultValue (ty0 j) = vp_V (fO ci (fun _ => 0) (fun _ => 0) (fun _ => none)) j) (hdg : decode cc pc = .ok (.new idx, 3)) (hce : ce + 1 ≤ rm.cells) (hsl : sl + N ≤ rm.slots) (k : ∀ q, mK M q = 0 → Z X (nw M q (ci + 1)) (ce + 1) (sl + N) (pc + 3) lv (.ref q :: rest)) : Z X M ce sl pc lv rest := by
  obtain ⟨p, l, e, R, s, m, args, below, meth, c, Q, D, t, A, nL⟩ := X
  obtain ⟨hx, hb, hml, hown, hts, hA, hK, hlk, hRm, hNs⟩ := hX
  intro L H locs ls hl hW
  obtain ⟨hP, hD, hS, hL⟩ := id hW
  subst hRm
  refine va_new hx hb hts hin ty0 hty hown (hts _ h1) (hts _ h2) (hts _ h3) hK hP hD hS hA hc hfs hce hsl hdg (fun q H1 hP1 hD1 hS1 => ?_)
  have hq : q ∉ L := va_fresh9 hP1 hD1
  have e := va_pl_push (f := wF t M) (e := .inr (ci, fO ci (fun _ => 0) (fun _ => 0) (fun _ => none))) hq
  rw [w_nw hcl rfl] at e
  have h0 : mK M q = 0 := Classical.byContradiction (fun h => hq ((hL q).mp h))
  exact k q h0 (L ++ [q]) H1 locs ls hl ⟨e ▸ hP1, e ▸ hD1, hS1, fun a => by
    by_cases ha : a = q
    · subst ha; simp [nw, mK, va_up]
    · simp [nw, mK, va_up, ha]; exact hL a⟩
theorem z_newa (hX : Ok X cc own rm) {atype : ArrayType} {fty : FieldType} {ty kd n : Nat} {x : Int32} (t0 : Nat) (hat : newarray.typeOf atype = fty) (hw : Cond.arrayClass fty ∈ wjU) (hkd : 16 ≤ kd) (hty : kd % 8 = ty) (hn : ¬ x < 0) (hN : x.toNatClampNeg = n) (hbyt : n * componentBytes fty ≤ 536870912) (hdg : decode cc pc = .ok (.newarray atype, 2)) (hce : ce + 1 ≤ rm.cells) (hsl : sl + n ≤ rm.slots)
    (hcl : ∀ (t : Tys) (s : State) (cA : ClassId), s.vm.findClass ("[" ++ fty.toString) = some cA → (∀ q ∈ tysL t, va_RA s q.1 q.2) → ∃ a0 : vp_A, fA t ty n (fun _ => 0) (fun _ => 0) (fun _ => none) = .inl (cA, a0) ∧ ∀ cA, vp_cell cA a0 = arrV cA n (fun _ => defaultValue fty)) (hRA : ∀ (s : State) (cA : ClassId), va_RA s cA fty → s.vm.findClass ("[" ++ fty.toString) = some cA) (a0 : vp_A) (ha0 : ∀ cA : ClassId, vp_cell cA a0 = arrV cA n (fun _ => defaultValue fty)) (ha1 : ∀ (t : Tys), ∃ c0, fA t ty n (fun _ => 0) (fun _ => 0) (fun _ => none) = .inl (c0, a0))
    (k : ∀ q, mK M q = 0 → Z X (na M q kd n) (ce + 1) (sl + n) (pc + 2) lv (.ref q :: rest)) : Z X M ce sl pc lv (.int x :: rest) := by
  obtain ⟨p, l, e, R, s, m, args, below, meth, c, Q, D, t, A, nL⟩ := X
  obtain ⟨hx, hb, hml, hown, hts, hA, hK, hlk, hRm, hNs⟩ := hX
  intro L H locs ls hl hW
  obtain ⟨hP, hD, hS, hL⟩ := id hW
  subst hRm
  refine va_newa hx hb (by rw [hat]; exact hts _ hw) hat hK hP hD hS hA ha0 hn hN hbyt hce hsl hdg (fun q cA H1 hK1 hP1 hD1 hS1 => ?_)
  have hq : q ∉ L := va_fresh9 hP1 hD1
  have hRA1 : va_RA s cA fty := (hK1.2 (tysL t).length (cA, fty) (by simp)).2
  obtain ⟨a1, he, -⟩ := hcl t s cA (hRA s cA hRA1) (fun x hx => by
    obtain ⟨i, hi⟩ := List.getElem?_of_mem hx
    exact (hK.2 i x hi).2)
  obtain ⟨c0, h0⟩ := ha1 t
  have hcA : fA t ty n (fun _ => 0) (fun _ => 0) (fun _ => none) = .inl (cA, a0) := by
    rw [h0] at he ⊢
    cases he
    rfl
  have e := va_pl_push (f := wF t M) (e := .inl (cA, a0)) hq
  rw [w_na (n := n) hkd hty hcA] at e
  have h0 : mK M q = 0 := Classical.byContradiction (fun h => hq ((hL q).mp h))
  exact k q h0 (L ++ [q]) H1 locs ls hl ⟨e ▸ hP1, e ▸ hD1, hS1, fun a => by
    by_cases ha : a = q
    · subst ha; simp [na, mK, va_up]; omega
    · simp [na, mK, va_up, ha]; exact hL a⟩
theorem z_newq (hX : Ok X cc own rm) {idx kd n : Nat} {x : Int32} (hw : Cond.classLink own idx RX6 ∈ wjU) (hkd : 16 ≤ kd) (hty : kd % 8 = 4) (hn : ¬ x < 0) (hN : x.toNatClampNeg = n) (hbyt : n * 4 ≤ 536870912) (hdg : decode cc pc = .ok (.anewarray idx, 3)) (hce : ce + 1 ≤ rm.cells) (hsl : sl + n ≤ rm.slots) (k : ∀ q, mK M q = 0 → Z X (na M q kd n) (ce + 1) (sl + n) (pc + 3) lv (va_rf (some q) :: rest)) : Z X M ce sl pc lv (.int x :: rest) := by
  obtain ⟨p, l, e, R, s, m, args, below, meth, c, Q, D, t, A, nL⟩ := X
  obtain ⟨hx, hb, hml, hown, hts, hA, hK, hlk, hRm, hNs⟩ := hX
  intro L H locs ls hl hW
  obtain ⟨hP, hD, hS, hL⟩ := id hW
  subst hRm
  refine va_newq hx hb hown (hts _ hw) hNs.1.2.2.2.1 hK hP hD hS hA hn hN hbyt hce hsl hdg (fun q cA H1 hK1 hP1 hD1 hS1 => ?_)
  have hq : q ∉ L := va_fresh9 hP1 hD1
  have hRA1 : va_RA s cA (.object RX6) := (hK1.2 (tysL t).length (cA, .object RX6) (by simp)).2
  have hRA2 : va_RA s t.2.2.2.2.1 (.object RX6) := (hK.2 4 _ rfl).2
  have hc1 := va_nmO hRA1 rfl
  have hc2 := va_nmO hRA2 rfl
  have hcA : cA = t.2.2.2.2.1 := Option.some.inj (hc1.symm.trans hc2)
  subst hcA
  have e := va_pl_push (f := wF t M) (e := .inl (t.2.2.2.2.1, n, .inr (.inr (.inr (.inr (fun _ => none)))))) hq
  rw [w_na (t := t) (n := n) hkd hty (e := .inl (t.2.2.2.2.1, n, .inr (.inr (.inr (.inr (fun _ => none)))))) rfl] at e
  have h0 : mK M q = 0 := Classical.byContradiction (fun h => hq ((hL q).mp h))
  exact k q h0 (L ++ [q]) H1 locs ls hl ⟨e ▸ hP1, e ▸ hD1, hS1, fun a => by
    by_cases ha : a = q
    · subst ha; simp [na, mK, va_up]; omega
    · simp [na, mK, va_up, ha]; exact hL a⟩
end ZR
