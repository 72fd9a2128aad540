theorem cat_i (x : Int32) : (Value.int x).category = 1 := rfl
theorem cat_j (x : Int64) : (Value.long x).category = 2 := rfl
section ZM
variable {X : Cx} {cc : ByteArray} {own : String} {rm : Room} {M : Mm} {ce sl pc : Nat} {lv : List (Nat × Value)} {rest : List Value}
theorem z_lxor (hX : Ok X cc own rm) {x y : Int64} (hdg : decode cc pc = .ok (.lxor, 1)) (k : Z X M ce sl (pc + 1) lv (.long (x ^^^ y) :: rest)) : Z X M ce sl pc lv (.long y :: .long x :: rest) := by
  obtain ⟨p, l, e, R, s, m, args, below, meth, c, Q, D, t, A, nL⟩ := X
  obtain ⟨hx, hb, hml, hown, hts, hA, hK, hlk, hRm, hNs⟩ := hX
  intro L H locs ls hl hW
  exact lv_lxor hx hb hdg (k L H locs ls hl hW)
end ZM
