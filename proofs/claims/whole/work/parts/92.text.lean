/-! the text by itself: tokens, statements, the graph that is told -/
def isLow (c : Nat) : Bool := decide (97 ≤ c) && decide (c ≤ 122)
def isDig (c : Nat) : Bool := decide (48 ≤ c) && decide (c ≤ 57)
def isBl (c : Nat) : Bool := decide (c = 9) || (decide (c = 10) || (decide (c = 13) || decide (c = 32)))
def KWS : List (List Nat) := [[115, 111, 117, 114, 99, 101], [108, 97, 103], [109, 97, 114, 107, 115], [97, 102, 116, 101, 114], [103, 114, 111, 117, 112], [117, 110, 105, 111, 110], [100, 101, 108, 97, 121], [104, 111, 108, 100], [106, 111, 105, 110], [102, 114, 111, 109], [116, 111], [119, 105, 110, 100, 111, 119], [115, 105, 122, 101], [115, 116, 101, 112], [97, 108, 105, 103, 110]]
/-- kind (0 over, 1 none, 2 keyword, 3 name, 4 number, 5 sign), place, the next place, the bytes -/
abbrev Tok : Type := Nat × Nat × Nat × List Nat
def tkk (T : Tok) : Nat := T.1
def tkp (T : Tok) : Nat := T.2.1
def tkn (T : Tok) : Nat := T.2.2.1
def tkw (T : Tok) : List Nat := T.2.2.2
def tokW (p : Nat) (w : List Nat) : Tok := (if 8 < w.length then 1 else if w ∈ KWS then 2 else 3, p, p + w.length, w)
def tokN (p : Nat) (w : List Nat) : Tok := (if 18 < w.length then 1 else 4, p, p + w.length, w)
def tokS (p c : Nat) : Tok := (if c = 61 ∨ c = 59 ∨ c = 45 then 5 else 1, p, p + 1, [c])
def tokAt (p : Nat) (r : List Nat) : Tok := match r with
  | [] => (0, p, p, [])
  | c :: l => if isLow c = true then tokW p ((c :: l).takeWhile isLow) else if isDig c = true then tokN p ((c :: l).takeWhile isDig) else tokS p c
def blk (tp : List Nat) (p : Nat) : Nat := p + ((tp.drop p).takeWhile isBl).length
def a_tok (tp : List Nat) (p : Nat) : Tok := tokAt (blk tp p) (tp.drop (blk tp p))
def a_nx (tp : List Nat) (T : Tok) : Tok := a_tok tp (tkn T)
/-- a fault: its number and its place -/
abbrev Flt : Type := Nat × Nat
def flt {α : Type} (n : Nat) (T : Tok) : Except Flt α := .error (n, tkp T)
def a_mis {α : Type} (T : Tok) : Except Flt α := .error (if tkk T = 1 then 1 else 2, tkp T)
def isKw (k : Nat) (T : Tok) : Bool := decide (tkk T = 2) && decide (KWS[k]? = some (tkw T))
def isSg (c : Nat) (T : Tok) : Bool := decide (tkk T = 5) && decide (tkw T = [c])
/-- a number's worth -/
def dn (w : List Nat) : Nat := w.foldl (fun v c => v * 10 + (c - 48)) 0
def a_kw (tp : List Nat) (k : Nat) (T : Tok) : Except Flt Tok := if isKw k T = true then .ok (a_nx tp T) else a_mis T
def a_sg (tp : List Nat) (c : Nat) (T : Tok) : Except Flt Tok := if isSg c T = true then .ok (a_nx tp T) else a_mis T
def a_num (tp : List Nat) (lo hi : Nat) (T : Tok) : Except Flt (Nat × Tok) := if tkk T = 4 then (if lo ≤ dn (tkw T) ∧ dn (tkw T) ≤ hi then .ok (dn (tkw T), a_nx tp T) else flt 5 T) else a_mis T
def a_sn1 (tp : List Nat) (neg : Bool) (least : Int) (T : Tok) : Except Flt (Int × Tok) := if tkk T = 4 then (if least ≤ (if neg = true then -(dn (tkw T) : Int) else (dn (tkw T) : Int)) then .ok (if neg = true then -(dn (tkw T) : Int) else (dn (tkw T) : Int), a_nx tp T) else flt 5 T) else a_mis T
def a_sn (tp : List Nat) (least : Int) (T : Tok) : Except Flt (Int × Tok) := if isSg 45 T = true then a_sn1 tp true least (a_nx tp T) else a_sn1 tp false least T
def a_fnd (nm : Nat → List Nat) (w : List Nat) : Nat → Option Nat
  | 0 => none
  | n + 1 => match a_fnd nm w n with
    | some s => some s
    | none => if nm n = w then some n else none
def a_find (C : Cfg) (w : List Nat) : Option Nat := a_fnd (cnm C) w (cn C)
/-- one input more -/
def a_inp (tp : List Nat) (C : Cfg) (l : List Nat) (T : Tok) : Except Flt (List Nat × Tok) := if tkk T = 3 then (match a_find C (tkw T) with
    | none => flt 4 T
    | some i => if (ctk C i).isSome = true ∨ i ∈ l then flt 4 T else .ok (l ++ [i], a_nx tp T)) else a_mis T
/-- what a statement tells of a stream: kind, inputs, the two numbers, parts, has a lag, after, group -/
abbrev Slot : Type := Nat × List Nat × Int64 × Int64 × Nat × Bool × Nat × Option Nat
def a_src4 (tp : List Nat) (pt : Nat) (hl : Bool) (lag : Int64) (af : Nat) (T : Tok) : Except Flt (Slot × Tok) := if isKw 4 T = true then (match a_num tp 0 3 (a_nx tp T) with
  | .error e => .error e
  | .ok (g, T1) => .ok ((0, [], lag, 0, pt, hl, af, some g), T1)) else .ok ((0, [], lag, 0, pt, hl, af, none), T)
def a_src3 (tp : List Nat) (pt : Nat) (hl : Bool) (lag : Int64) (T : Tok) : Except Flt (Slot × Tok) := if isKw 3 T = true then (match a_num tp 1 1000 (a_nx tp T) with
  | .error e => .error e
  | .ok (af, T1) => a_src4 tp pt hl lag af T1) else a_src4 tp pt hl lag 0 T
def BIG : Nat := 999999999999999999
def a_src2 (tp : List Nat) (pt : Nat) (T : Tok) : Except Flt (Slot × Tok) := if isKw 1 T = true then (match a_num tp 0 BIG (a_nx tp T) with
  | .error e => .error e
  | .ok (v, T1) => a_src3 tp pt true (Int64.ofNat v) T1) else (match a_kw tp 2 T with
  | .error e => .error e
  | .ok T1 => a_src3 tp pt false 0 T1)
def a_src (tp : List Nat) (T : Tok) : Except Flt (Slot × Tok) := match a_num tp 1 4 T with
  | .error e => .error e
  | .ok (pt, T1) => a_src2 tp pt T1
def a_more (tp : List Nat) (C : Cfg) : Nat → List Nat → Tok → Except Flt (List Nat × Tok)
  | 0, l, T => .ok (l, T)
  | n + 1, l, T => if tkk T = 3 then (match a_inp tp C l T with
    | .error e => .error e
    | .ok (l1, T1) => a_more tp C n l1 T1) else .ok (l, T)
def a_two (tp : List Nat) (C : Cfg) (T : Tok) : Except Flt (List Nat × Tok) := match a_inp tp C [] T with
  | .error e => .error e
  | .ok (l1, T1) => a_inp tp C l1 T1
def a_uni (tp : List Nat) (C : Cfg) (T : Tok) : Except Flt (Slot × Tok) := match a_two tp C T with
  | .error e => .error e
  | .ok (l2, T2) => match a_more tp C 2 l2 T2 with
    | .error e => .error e
    | .ok (l, T3) => .ok ((1, l, 0, 0, 0, false, 0, none), T3)
def a_del (tp : List Nat) (C : Cfg) (T : Tok) : Except Flt (Slot × Tok) := match a_inp tp C [] T with
  | .error e => .error e
  | .ok (l, T1) => match a_num tp 0 BIG T1 with
    | .error e => .error e
    | .ok (v, T2) => .ok ((2, l, Int64.ofNat v, 0, 0, false, 0, none), T2)
def a_hol (tp : List Nat) (C : Cfg) (T : Tok) : Except Flt (Slot × Tok) := match a_inp tp C [] T with
  | .error e => .error e
  | .ok (l, T1) => .ok ((3, l, 0, 0, 0, false, 0, none), T1)
def a_joi4 (tp : List Nat) (l : List Nat) (v : Int) (T : Tok) : Except Flt (Slot × Tok) := match a_kw tp 10 T with
  | .error e => .error e
  | .ok T1 => match a_sn tp v T1 with
    | .error e => .error e
    | .ok (u, T2) => .ok ((4, l, Int64.ofInt v, Int64.ofInt u, 0, false, 0, none), T2)
def a_joi (tp : List Nat) (C : Cfg) (T : Tok) : Except Flt (Slot × Tok) := match a_two tp C T with
  | .error e => .error e
  | .ok (l, T2) => match a_kw tp 9 T2 with
    | .error e => .error e
    | .ok T3 => match a_sn tp (-(BIG : Int)) T3 with
      | .error e => .error e
      | .ok (v, T4) => a_joi4 tp l v T4
def a_win3 (tp : List Nat) (l : List Nat) (size : Nat) (T : Tok) : Except Flt (Slot × Tok) := match a_kw tp 13 T with
  | .error e => .error e
  | .ok T1 => match a_num tp ((size + 3) / 4) size T1 with
    | .error e => .error e
    | .ok (v, T2) => .ok ((5, l, Int64.ofNat size, Int64.ofNat v, 0, false, 0, none), T2)
def a_win (tp : List Nat) (C : Cfg) (T : Tok) : Except Flt (Slot × Tok) := match a_inp tp C [] T with
  | .error e => .error e
  | .ok (l, T1) => match a_kw tp 12 T1 with
    | .error e => .error e
    | .ok T2 => match a_num tp 1 1000000 T2 with
      | .error e => .error e
      | .ok (size, T3) => a_win3 tp l size T3
/-- what stands behind the =, up to the ; -/
def a_body (tp : List Nat) (J W : Nat) (C : Cfg) (T : Tok) : Except Flt (Slot × Tok) :=
  if isKw 0 T = true then a_src tp (a_nx tp T)
  else if isKw 5 T = true then a_uni tp C (a_nx tp T)
  else if isKw 6 T = true then a_del tp C (a_nx tp T)
  else if isKw 7 T = true then a_hol tp C (a_nx tp T)
  else if isKw 8 T = true then (if J = 3 then flt 6 T else a_joi tp C (a_nx tp T))
  else if isKw 11 T = true then (if W = 3 then flt 6 T else a_win tp C (a_nx tp T))
  else a_mis T
def put1 {α : Type} (f : Nat → α) (s : Nat) (v : α) : Nat → α := fun q => if q = s then v else f q
/-- one stream more -/
def a_adds (C : Cfg) (w : List Nat) (x : Slot) : Cfg := (cn C + 1, put1 (ckd C) (cn C) x.1, (fun q => if q = cn C then none else if q ∈ x.2.1 then some (cn C) else ctk C q), put1 (cin C) (cn C) x.2.1, put1 (co1 C) (cn C) x.2.2.1, put1 (co2 C) (cn C) x.2.2.2.1, put1 (cpt C) (cn C) x.2.2.2.2.1, put1 (chl C) (cn C) x.2.2.2.2.2.1, put1 (caf C) (cn C) x.2.2.2.2.2.2.1, put1 (cgr C) (cn C) x.2.2.2.2.2.2.2, csp C, put1 (cnm C) (cn C) w, cbs C)
def a_addg (C : Cfg) (g : Nat) (v : Int64) : Cfg := (cn C, ckd C, ctk C, cin C, co1 C, co2 C, cpt C, chl C, caf C, cgr C, put1 (csp C) g (some v), cnm C, cbs C)
def a_alg2 (tp : List Nat) (C : Cfg) (g : Nat) (T : Tok) : Except Flt (Cfg × Tok) := match a_num tp 0 BIG T with
  | .error e => .error e
  | .ok (v, T1) => match a_sg tp 59 T1 with
    | .error e => .error e
    | .ok T2 => .ok (a_addg C g (Int64.ofNat v), T2)
def a_alg (tp : List Nat) (C : Cfg) (T : Tok) : Except Flt (Cfg × Tok) := if tkk T = 4 then (if dn (tkw T) ≤ 3 then (if (csp C (dn (tkw T))).isSome = true then flt 5 T else a_alg2 tp C (dn (tkw T)) (a_nx tp T)) else flt 5 T) else a_mis T
def a_strm2 (tp : List Nat) (J W : Nat) (C : Cfg) (w : List Nat) (T : Tok) : Except Flt (Nat × Nat × Cfg × Tok) := match a_body tp J W C T with
  | .error e => .error e
  | .ok (x, T1) => match a_sg tp 59 T1 with
    | .error e => .error e
    | .ok T2 => .ok (if x.1 = 4 then J + 1 else J, if x.1 = 5 then W + 1 else W, a_adds C w x, T2)
def a_strm (tp : List Nat) (J W : Nat) (C : Cfg) (T : Tok) : Except Flt (Nat × Nat × Cfg × Tok) := if tkk T = 3 then (match a_find C (tkw T) with
  | some _ => flt 3 T
  | none => if cn C = 12 then flt 6 T else match a_sg tp 61 (a_nx tp T) with
    | .error e => .error e
    | .ok T1 => a_strm2 tp J W C (tkw T) T1) else a_mis T
def a_stm (tp : List Nat) (J W : Nat) (C : Cfg) (T : Tok) : Except Flt (Nat × Nat × Cfg × Tok) := if isKw 14 T = true then (match a_alg tp C (a_nx tp T) with
  | .error e => .error e
  | .ok (C1, T1) => .ok (J, W, C1, T1)) else a_strm tp J W C T
/-- the statements: how many may still come, and whether one came -/
def a_text (tp : List Nat) : Nat → Bool → Nat → Nat → Cfg → Tok → Except Flt Cfg
  | 0, _, _, _, C, T => if tkk T = 0 then .ok C else if isKw 14 T = true then flt 6 T else if tkk T = 3 then (match a_find C (tkw T) with
    | some _ => flt 3 T
    | none => flt 6 T) else a_mis T
  | n + 1, b, J, W, C, T => if b = true ∧ tkk T = 0 then .ok C else match a_stm tp J W C T with
    | .error e => .error e
    | .ok (J1, W1, C1, T1) => a_text tp n true J1 W1 C1 T1
def C0 (S : St) : Cfg := (0, fun _ => 0, fun _ => none, fun _ => [], fun _ => 0, fun _ => 0, fun _ => 0, fun _ => false, fun _ => 0, fun _ => none, fun _ => none, fun _ => [], S)
def a_parse (S : St) (tp : List Nat) : Except Flt Cfg := a_text tp 20 false 0 0 (C0 S) (a_tok tp 0)
def D0 : Dyn := (fun _ => -9000000000000000000, fun _ => false, fun _ _ => 0, fun _ _ => -9000000000000000000, fun _ _ => 0, 0, [], [], 0, fun _ => [], fun _ _ => [], [])
/-- what a token keeps to -/
def TW (T : Tok) : Prop := tkp T ≤ tkn T ∧ tkn T ≤ 600 ∧ (tkk T = 2 ∨ tkk T = 3 → 1 ≤ (tkw T).length ∧ (tkw T).length ≤ 8 ∧ ∀ c ∈ tkw T, 97 ≤ c ∧ c ≤ 122) ∧ (tkk T = 2 → tkw T ∈ KWS) ∧ (tkk T = 3 → ¬ tkw T ∈ KWS) ∧ (tkk T = 4 → (tkw T).length ≤ 18 ∧ ∀ c ∈ tkw T, 48 ≤ c ∧ c ≤ 57) ∧ (tkk T = 5 → tkw T = [61] ∨ tkw T = [59] ∨ tkw T = [45]) ∧ tkk T ≤ 5 ∧ (tkk T = 2 ∨ tkk T = 3 → tkn T = tkp T + (tkw T).length)
theorem tkw_all {P : Nat → Bool} : ∀ (l : List Nat), ∀ c ∈ l.takeWhile P, P c = true := by
  intro l
  induction l with
  | nil => intro c hc; cases hc
  | cons a l ih =>
    intro c hc
    by_cases h : P a = true
    · rw [List.takeWhile_cons, if_pos h] at hc
      rcases List.mem_cons.1 hc with e | e
      · rw [e]; exact h
      · exact ih c e
    · rw [List.takeWhile_cons, if_neg h] at hc; cases hc
theorem tw_len {P : Nat → Bool} (l : List Nat) : (l.takeWhile P).length ≤ l.length := by
  induction l with
  | nil => exact Nat.le_refl _
  | cons a l ih =>
    by_cases h : P a = true
    · rw [List.takeWhile_cons, if_pos h]; simpa using ih
    · rw [List.takeWhile_cons, if_neg h]; exact Nat.zero_le _
theorem isLow_i {c : Nat} (h : isLow c = true) : 97 ≤ c ∧ c ≤ 122 := by simpa [isLow] using h
theorem isDig_i {c : Nat} (h : isDig c = true) : 48 ≤ c ∧ c ≤ 57 := by simpa [isDig] using h
theorem blk_le {tp : List Nat} {p : Nat} (hp : p ≤ tp.length) : blk tp p ≤ tp.length := by
  have h := tw_len (P := isBl) (tp.drop p)
  rw [List.length_drop] at h
  unfold blk; omega
theorem TW_at {p : Nat} {r : List Nat} (h : p + r.length ≤ 600) : TW (tokAt p r) := by
  cases r with
  | nil => simp [tokAt, TW, tkk, tkp, tkn, tkw]; simpa using h
  | cons c l =>
    have h9 : p + (l.length + 1) ≤ 600 := by simpa using h
    by_cases a : isLow c = true
    · have hl := tw_len (P := isLow) (c :: l)
      have ha := tkw_all (P := isLow) (c :: l)
      have h1 : 1 ≤ ((c :: l).takeWhile isLow).length := by rw [List.takeWhile_cons, if_pos a]; simp
      simp only [tokAt, if_pos a]
      generalize (c :: l).takeWhile isLow = w at hl ha h1
      simp only [List.length_cons] at hl
      unfold TW tokW
      simp only [tkk, tkp, tkn, tkw]
      have hL : ∀ c ∈ w, 97 ≤ c ∧ c ≤ 122 := fun c hc => isLow_i (ha c hc)
      by_cases b : 8 < w.length
      · simp only [if_pos b]
        refine ⟨by omega, by omega, fun e => ?_, fun e => ?_, fun e => ?_, fun e => ?_, fun e => ?_, by omega, fun e => ?_⟩ <;> omega
      · simp only [if_neg b]
        by_cases d : w ∈ KWS
        · simp only [if_pos d]
          exact ⟨by omega, by omega, fun _ => ⟨h1, by omega, hL⟩, fun _ => d, fun e => absurd e (by decide), fun e => absurd e (by decide), fun e => absurd e (by decide), by decide, fun _ => trivial⟩
        · simp only [if_neg d]
          exact ⟨by omega, by omega, fun _ => ⟨h1, by omega, hL⟩, fun e => absurd e (by decide), fun _ => d, fun e => absurd e (by decide), fun e => absurd e (by decide), by decide, fun _ => trivial⟩
    · by_cases b : isDig c = true
      · have hl := tw_len (P := isDig) (c :: l)
        have ha := tkw_all (P := isDig) (c :: l)
        simp only [tokAt, if_neg a, if_pos b]
        generalize (c :: l).takeWhile isDig = w at hl ha
        simp only [List.length_cons] at hl
        unfold TW tokN
        simp only [tkk, tkp, tkn, tkw]
        have hL : ∀ c ∈ w, 48 ≤ c ∧ c ≤ 57 := fun c hc => isDig_i (ha c hc)
        by_cases d : 18 < w.length
        · simp only [if_pos d]
          refine ⟨by omega, by omega, fun e => ?_, fun e => ?_, fun e => ?_, fun e => ?_, fun e => ?_, by omega, fun e => ?_⟩ <;> omega
        · simp only [if_neg d]
          exact ⟨by omega, by omega, fun e => absurd e (by decide), fun e => absurd e (by decide), fun e => absurd e (by decide), fun _ => ⟨by omega, hL⟩, fun e => absurd e (by decide), by decide, fun e => absurd e (by decide)⟩
      · simp only [tokAt, if_neg a, if_neg b]
        unfold TW tokS
        simp only [tkk, tkp, tkn, tkw]
        by_cases d : c = 61 ∨ c = 59 ∨ c = 45
        · simp only [if_pos d]
          refine ⟨by omega, by omega, fun e => absurd e (by decide), fun e => absurd e (by decide), fun e => absurd e (by decide), fun e => absurd e (by decide), fun _ => ?_, by decide, fun e => absurd e (by decide)⟩
          rcases d with d | d | d
          · exact Or.inl (by rw [d])
          · exact Or.inr (Or.inl (by rw [d]))
          · exact Or.inr (Or.inr (by rw [d]))
        · simp only [if_neg d]
          refine ⟨by omega, by omega, fun e => ?_, fun e => ?_, fun e => ?_, fun e => ?_, fun e => ?_, by omega, fun e => ?_⟩ <;> omega
theorem TW_tok {tp : List Nat} {p : Nat} (hn : tp.length ≤ 600) (hp : p ≤ tp.length) : TW (a_tok tp p) := by
  have h := blk_le hp
  refine TW_at ?_
  rw [List.length_drop]; omega
theorem tokAt_n {p n : Nat} {r : List Nat} (h : p + r.length = n) : tkn (tokAt p r) ≤ n := by
  cases r with
  | nil => simp [tokAt, tkn]; simpa using Nat.le_of_eq h
  | cons c l =>
    have h9 : p + (l.length + 1) = n := by simpa using h
    by_cases a : isLow c = true
    · have hl := tw_len (P := isLow) (c :: l)
      simp only [List.length_cons] at hl
      simp only [tokAt, if_pos a, tokW, tkn]; omega
    · by_cases b : isDig c = true
      · have hl := tw_len (P := isDig) (c :: l)
        simp only [List.length_cons] at hl
        simp only [tokAt, if_neg a, if_pos b, tokN, tkn]; omega
      · simp only [tokAt, if_neg a, if_neg b, tokS, tkn]; omega
theorem tok_n {tp : List Nat} {p : Nat} (hp : p ≤ tp.length) : tkn (a_tok tp p) ≤ tp.length := by
  have h := blk_le hp
  refine tokAt_n ?_
  rw [List.length_drop]; omega
/-- a token of this tape -/
def TT (tp : List Nat) (T : Tok) : Prop := TW T ∧ tkn T ≤ tp.length
theorem TT_tok {tp : List Nat} {p : Nat} (hn : tp.length ≤ 600) (hp : p ≤ tp.length) : TT tp (a_tok tp p) := ⟨TW_tok hn hp, tok_n hp⟩
theorem TT_nx {tp : List Nat} {T : Tok} (hn : tp.length ≤ 600) (h : TT tp T) : TT tp (a_nx tp T) := TT_tok hn h.2
