/-! ===== the law: its script, its end ===== -/
def jSc (X : jX) (G : jG) (b L : Nat) (xs : Nat → Int32) : Prop := match X with
  | (_, _, _, _, s, _, _, _, _, _, _, I, _) => va_X b L xs s s.heap ∧ b < s.heap.size ∧ ∃ A : Nat → Prop, ¬ A b ∧ I = fun ws H locs => va_P (jD G) vwCl ws H ∧ va_D A ws ∧ va_S A s.heap H locs
section JSC
variable {X : jX} {l0 : Launch} {cc : ByteArray} {own : String} {Ts : List Cond} {G : jG} {rm : Room} {nL : Nat} {k n pc : Nat} {ws : va_W} {lv : List (Nat × Value)} {st : List Value}
theorem j_sld (hX : jC X l0 cc own Ts G rm nL) {b L : Nat} {xs : Nat → Int32} (hSc : jSc X G b L xs) {i : Int32} {α : Type} {E : Option α} {u : α} (hg : gi i L E = some u) (hd : decode cc pc = .ok (.iaload, 1)) (kk : E = some u → J X k n ws (pc + 1) lv (.int (xs i.toNatClampNeg) :: st)) : J X k n ws pc lv (.int i :: .ref b :: st) := by
  obtain ⟨p, l, e, R, s, m, args, below, meth, c, Q, I, nL'⟩ := X
  obtain ⟨hx, hb, -, -, hown, hts, hK, hI0, -⟩ := hX
  obtain ⟨hXs, hbl, A, hbA, rfl⟩ := hSc
  intro H locs ls hI hl
  obtain ⟨h0, hg⟩ := gi_some hg
  exact va_sld hx hb hXs hbl hbA hI.2.2 h0 hd (kk hg H locs ls hI hl)
theorem j_slen (hX : jC X l0 cc own Ts G rm nL) {b L : Nat} {xs : Nat → Int32} (hSc : jSc X G b L xs) (hd : decode cc pc = .ok (.arraylength, 1)) (kk : J X k n ws (pc + 1) lv (.int (nI L) :: st)) : J X k n ws pc lv (.ref b :: st) := by
  obtain ⟨p, l, e, R, s, m, args, below, meth, c, Q, I, nL'⟩ := X
  obtain ⟨hx, hb, -, -, hown, hts, hK, hI0, -⟩ := hX
  obtain ⟨hXs, hbl, A, hbA, rfl⟩ := hSc
  intro H locs ls hI hl
  exact va_slen hx hb hXs hbl hbA hI.2.2 hd (kk H locs ls hI hl)
end JSC
