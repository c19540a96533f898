/-! ===== the judgement J: W with world, locals and stack as lists; the machine's own context is one variable ===== -/
abbrev jG : Type := va_G × ClassId × ClassId × ClassId × ClassId × ClassId × ClassId × ClassId
abbrev jD (G : jG) : va_G := G.1
abbrev jcI (G : jG) : ClassId := G.2.1
abbrev jcB (G : jG) : ClassId := G.2.2.1
abbrev jcZ (G : jG) : ClassId := G.2.2.2.1
abbrev jcBeats (G : jG) : ClassId := G.2.2.2.2.1
abbrev jcQueue (G : jG) : ClassId := G.2.2.2.2.2.1
abbrev jcRow (G : jG) : ClassId := G.2.2.2.2.2.2.1
abbrev jcSortRow (G : jG) : ClassId := G.2.2.2.2.2.2.2
abbrev jtys (G : jG) : List (ClassId × FieldType) := [(jcI G, .int), (jcB G, .byte), (jcZ G, .boolean), (jcBeats G, .object "UnsayingDrums$Beats"), (jcQueue G, .object "UnsayingDrums$Queue"), (jcRow G, .object "UnsayingDrums$Row"), (jcSortRow G, .object "UnsayingDrums$SortRow")]
abbrev jK (G : jG) (U : State) : Prop := va_K (jD G) vwCl (jtys G) U
/-- cells -/
abbrev oC (a ci : Nat) (fs : List Value) : Nat × va_E := (a, .inr (ci, fs))
abbrev aI (G : jG) (a n : Nat) (f : Nat → Int32) : Nat × va_E := (a, .inl (jcI G, n, .inl f))
abbrev aB (G : jG) (a n : Nat) (f : Nat → Int32) : Nat × va_E := (a, .inl (jcB G, n, .inl f))
abbrev aZ (G : jG) (a n : Nat) (f : Nat → Int32) : Nat × va_E := (a, .inl (jcZ G, n, .inl f))
abbrev aQ (cA : ClassId) (a n : Nat) (f : Nat → Option Nat) : Nat × va_E := (a, .inl (cA, n, .inr (.inr (.inr (.inr f)))))
/-- guards of the pure functions -/
def gi {α : Type} (i : Int32) (n : Nat) (x : Option α) : Option α := if i < 0 ∨ n ≤ i.toNatClampNeg then none else x
def gz {α : Type} (i : Int32) (x : Option α) : Option α := if i = 0 then none else x
def gzl {α : Type} (i : Int64) (x : Option α) : Option α := if i = 0 then none else x
def gb {α : Type} (v : Int32) (x : Option α) : Option α := if v = 0 ∨ v = 1 then x else none
def gne {α : Type} (i j : Nat) (x : Option α) : Option α := if i = j then none else x
theorem gi_some {α : Type} {i : Int32} {n : Nat} {x : Option α} {u : α} (h : gi i n x = some u) : vp_in i n ∧ x = some u := by
  unfold gi at h
  by_cases c : i < 0 ∨ n ≤ i.toNatClampNeg
  · rw [if_pos c] at h; cases h
  · rw [if_neg c] at h; exact ⟨c, h⟩
theorem gi_ok {α : Type} {i : Int32} {n : Nat} {x : Option α} (h : vp_in i n) : gi i n x = x := if_neg h
theorem gz_some {α : Type} {i : Int32} {x : Option α} {u : α} (h : gz i x = some u) : ¬ i = 0 ∧ x = some u := by
  unfold gz at h
  by_cases c : i = 0
  · rw [if_pos c] at h; cases h
  · rw [if_neg c] at h; exact ⟨c, h⟩
theorem gz_ok {α : Type} {i : Int32} {x : Option α} (h : ¬ i = 0) : gz i x = x := if_neg h
theorem gzl_some {α : Type} {i : Int64} {x : Option α} {u : α} (h : gzl i x = some u) : ¬ i = 0 ∧ x = some u := by
  unfold gzl at h
  by_cases c : i = 0
  · rw [if_pos c] at h; cases h
  · rw [if_neg c] at h; exact ⟨c, h⟩
theorem gzl_ok {α : Type} {i : Int64} {x : Option α} (h : ¬ i = 0) : gzl i x = x := if_neg h
theorem gb_some {α : Type} {v : Int32} {x : Option α} {u : α} (h : gb v x = some u) : (v = 0 ∨ v = 1) ∧ x = some u := by
  unfold gb at h
  by_cases c : v = 0 ∨ v = 1
  · rw [if_pos c] at h; exact ⟨c, h⟩
  · rw [if_neg c] at h; cases h
theorem gb_ok {α : Type} {v : Int32} {x : Option α} (h : v = 0 ∨ v = 1) : gb v x = x := if_pos h
theorem gne_some {α : Type} {i j : Nat} {x : Option α} {u : α} (h : gne i j x = some u) : i ≠ j ∧ x = some u := by
  unfold gne at h
  by_cases c : i = j
  · rw [if_pos c] at h; cases h
  · rw [if_neg c] at h; exact ⟨c, h⟩
theorem gne_ok {α : Type} {i j : Nat} {x : Option α} (h : i ≠ j) : gne i j x = x := if_neg h
theorem bd_some {α β : Type} {x : Option α} {f : α → Option β} {u : β} (h : x.bind f = some u) : ∃ v, x = some v ∧ f v = some u := by
  cases x with
  | none => cases h
  | some v => exact ⟨v, rfl, h⟩
theorem br_p {α : Type} {c : Prop} {d : Decidable c} {a b : Option α} {u : α} (h : (if c then a else b) = some u) (hc : c) : a = some u := by rw [if_pos hc] at h; exact h
theorem br_n {α : Type} {c : Prop} {d : Decidable c} {a b : Option α} {u : α} (h : (if c then a else b) = some u) (hc : ¬ c) : b = some u := by rw [if_neg hc] at h; exact h
theorem nar_z {v : Int32} (h : v = 0 ∨ v = 1) : narrow .boolean (.int v) = .int v := by
  rcases h with rfl | rfl <;> decide +kernel
theorem fit_z {v : Int32} (h : v = 0 ∨ v = 1) : fits .boolean (.int v) = true := by
  rcases h with rfl | rfl <;> decide +kernel
theorem vpn_z {v : Int32} (h : v = 0 ∨ v = 1) : vp_nar .boolean v = v := by
  rcases h with rfl | rfl <;> decide +kernel
/-- the machine's own context -/
abbrev jX : Type := Program × Launch × Env × Room × State × MethodId × Array Value × List Frame × Method × Code × (State → Prop) × (va_W → Heap → List Loc → Prop) × Nat
def J (X : jX) (k n : Nat) (ws : va_W) (pc : Nat) (lv : List (Nat × Value)) (st : List Value) : Prop := match X with
  | (p, l, e, R, s, m, args, below, meth, c, Q, I, nL) => ∀ (H : Heap) (locs : List Loc) (ls : Array Slot), I ws H locs → lv_has ls nL lv → W p l e R s m args below meth c H locs k n Q (F0 m pc ls st)
def jC (X : jX) (l0 : Launch) (cc : ByteArray) (own : String) (Ts : List Cond) (G : jG) (rm : Room) (nL0 : Nat) : Prop := match X with
  | (p, l, _, R, s, m, args, _, _, c, _, I, nL) => p.tables.exec = Jvm.exec ∧ c.code = cc ∧ c.maxLocals = nL0 ∧ nL = nL0 ∧ s.vm.findClass own = some m.cls ∧ (∀ w ∈ Ts, w.before args s = true) ∧ jK G s ∧ (∀ ws H locs, I ws H locs → va_P (jD G) vwCl ws H) ∧ R = rm ∧ l = l0
def jW (X : jX) (G : jG) : Prop := match X with
  | (_, _, _, _, s, _, _, _, _, _, _, I, _) => ∃ A : Nat → Prop, (∀ q, s.heap.size ≤ q → A q) ∧ I = fun ws H locs => va_P (jD G) vwCl ws H ∧ va_D A ws ∧ va_S A s.heap H locs
def jInit (X : jX) : Prop := match X with
  | (_, _, _, _, _, _, _, _, meth, _, _, _, _) => meth.name = "<init>"
section JROWS
variable {X : jX} {l0 : Launch} {cc : ByteArray} {own : String} {Ts : List Cond} {G : jG} {rm : Room} {nL : Nat} {k n pc : Nat} {ws : va_W} {lv : List (Nat × Value)} {st : List Value}
theorem j_lv (ks : List Nat) {lv' : List (Nat × Value)} (h : lv_pick lv ks = lv') (kk : J X k n ws pc lv' st) : J X k n ws pc lv st := by
  obtain ⟨p, l, e, R, s, m, args, below, meth, c, Q, I, nL'⟩ := X
  intro H locs ls hI hl
  exact kk H locs ls hI (lv_sub hl ks h)
theorem j_pc {pc' : Nat} (h : pc = pc') (kk : J X k n ws pc' lv st) : J X k n ws pc lv st := h ▸ kk
theorem j_iconst (hX : jC X l0 cc own Ts G rm nL) {i : Int} {v : Int32} (hd : decode cc pc = .ok (.iconst i, 1)) (hv : Int32.ofInt i = v) (kk : J X k n ws (pc + 1) lv (.int v :: st)) : J X k n ws pc lv st := by
  obtain ⟨p, l, e, R, s, m, args, below, meth, c, Q, I, nL'⟩ := X
  obtain ⟨hx, hb, -⟩ := hX
  intro H locs ls hI hl
  exact lv_iconst hx hb hd hv (kk H locs ls hI hl)
theorem j_bipush (hX : jC X l0 cc own Ts G rm nL) {i : Int} {v : Int32} (hd : decode cc pc = .ok (.bipush i, 2)) (hv : (Int8.ofInt i).toInt32 = v) (kk : J X k n ws (pc + 2) lv (.int v :: st)) : J X k n ws pc lv st := by
  obtain ⟨p, l, e, R, s, m, args, below, meth, c, Q, I, nL'⟩ := X
  obtain ⟨hx, hb, -⟩ := hX
  intro H locs ls hI hl
  exact lv_bipush hx hb hd hv (kk H locs ls hI hl)
theorem j_sipush (hX : jC X l0 cc own Ts G rm nL) {i : Int} {v : Int32} (hd : decode cc pc = .ok (.sipush i, 3)) (hv : (Int16.ofInt i).toInt32 = v) (kk : J X k n ws (pc + 3) lv (.int v :: st)) : J X k n ws pc lv st := by
  obtain ⟨p, l, e, R, s, m, args, below, meth, c, Q, I, nL'⟩ := X
  obtain ⟨hx, hb, -⟩ := hX
  intro H locs ls hI hl
  exact lv_sipush hx hb hd hv (kk H locs ls hI hl)
theorem j_lconst (hX : jC X l0 cc own Ts G rm nL) {i : Fin 2} {v : Int64} (hd : decode cc pc = .ok (.lconst i, 1)) (hv : Int64.ofNat (i : Nat) = v) (kk : J X k n ws (pc + 1) lv (.long v :: st)) : J X k n ws pc lv st := by
  obtain ⟨p, l, e, R, s, m, args, below, meth, c, Q, I, nL'⟩ := X
  obtain ⟨hx, hb, -⟩ := hX
  intro H locs ls hI hl
  exact lv_lconst hx hb hd hv (kk H locs ls hI hl)
theorem j_ldc (hX : jC X l0 cc own Ts G rm nL) {i : Nat} {v : Int32} (hc : Jvm.Cond.constant own i v ∈ Ts) (hd : decode cc pc = .ok (.ldc i, 2)) (kk : J X k n ws (pc + 2) lv (.int v :: st)) : J X k n ws pc lv st := by
  obtain ⟨p, l, e, R, s, m, args, below, meth, c, Q, I, nL'⟩ := X
  obtain ⟨hx, hb, -, -, hown, hts, -⟩ := hX
  intro H locs ls hI hl
  exact lv_ldc hx hb hown (hts _ hc) hd (kk H locs ls hI hl)
theorem j_ldcw (hX : jC X l0 cc own Ts G rm nL) {i : Nat} {v : Int32} (hc : Jvm.Cond.constant own i v ∈ Ts) (hd : decode cc pc = .ok (.ldc_w i, 3)) (kk : J X k n ws (pc + 3) lv (.int v :: st)) : J X k n ws pc lv st := by
  obtain ⟨p, l, e, R, s, m, args, below, meth, c, Q, I, nL'⟩ := X
  obtain ⟨hx, hb, -, -, hown, hts, -⟩ := hX
  intro H locs ls hI hl
  exact lv_ldcw hx hb hown (hts _ hc) hd (kk H locs ls hI hl)
theorem j_ldc2 (hX : jC X l0 cc own Ts G rm nL) {i : Nat} {v : Int64} (hc : Jvm.Cond.constantLong own i v ∈ Ts) (hd : decode cc pc = .ok (.ldc2_w i, 3)) (kk : J X k n ws (pc + 3) lv (.long v :: st)) : J X k n ws pc lv st := by
  obtain ⟨p, l, e, R, s, m, args, below, meth, c, Q, I, nL'⟩ := X
  obtain ⟨hx, hb, -, -, hown, hts, -⟩ := hX
  intro H locs ls hI hl
  exact lv_ldc2 hx hb hown (hts _ hc) hd (kk H locs ls hI hl)
theorem j_iload_n (hX : jC X l0 cc own Ts G rm nL) (q : Nat) {i : Fin 4} {j : Nat} {x : Int32} (hd : decode cc pc = .ok (.iload_n i, 1)) (hi : (i : Nat) = j) (hl0 : lv[q]? = some (j, .int x)) (kk : J X k n ws (pc + 1) lv (.int x :: st)) : J X k n ws pc lv st := by
  obtain ⟨p, l, e, R, s, m, args, below, meth, c, Q, I, nL'⟩ := X
  obtain ⟨hx, hb, -⟩ := hX
  intro H locs ls hI hl
  exact lv_iload_n hx hb hd hi (lv_at hl q hl0) (kk H locs ls hI hl)
theorem j_iload (hX : jC X l0 cc own Ts G rm nL) (q : Nat) {j : Nat} {x : Int32} (hd : decode cc pc = .ok (.iload j, 2)) (hl0 : lv[q]? = some (j, .int x)) (kk : J X k n ws (pc + 2) lv (.int x :: st)) : J X k n ws pc lv st := by
  obtain ⟨p, l, e, R, s, m, args, below, meth, c, Q, I, nL'⟩ := X
  obtain ⟨hx, hb, -⟩ := hX
  intro H locs ls hI hl
  exact lv_iload hx hb hd (lv_at hl q hl0) (kk H locs ls hI hl)
theorem j_lload_n (hX : jC X l0 cc own Ts G rm nL) (q : Nat) {i : Fin 4} {j : Nat} {x : Int64} (hd : decode cc pc = .ok (.lload_n i, 1)) (hi : (i : Nat) = j) (hl0 : lv[q]? = some (j, .long x)) (kk : J X k n ws (pc + 1) lv (.long x :: st)) : J X k n ws pc lv st := by
  obtain ⟨p, l, e, R, s, m, args, below, meth, c, Q, I, nL'⟩ := X
  obtain ⟨hx, hb, -⟩ := hX
  intro H locs ls hI hl
  exact lv_lload_n hx hb hd hi (lv_at hl q hl0) (kk H locs ls hI hl)
theorem j_lload (hX : jC X l0 cc own Ts G rm nL) (q : Nat) {j : Nat} {x : Int64} (hd : decode cc pc = .ok (.lload j, 2)) (hl0 : lv[q]? = some (j, .long x)) (kk : J X k n ws (pc + 2) lv (.long x :: st)) : J X k n ws pc lv st := by
  obtain ⟨p, l, e, R, s, m, args, below, meth, c, Q, I, nL'⟩ := X
  obtain ⟨hx, hb, -⟩ := hX
  intro H locs ls hI hl
  exact lv_lload hx hb hd (lv_at hl q hl0) (kk H locs ls hI hl)
theorem j_aload_n (hX : jC X l0 cc own Ts G rm nL) (q : Nat) {i : Fin 4} {j : Nat} {x : Nat} (hd : decode cc pc = .ok (.aload_n i, 1)) (hi : (i : Nat) = j) (hl0 : lv[q]? = some (j, .ref x)) (kk : J X k n ws (pc + 1) lv (.ref x :: st)) : J X k n ws pc lv st := by
  obtain ⟨p, l, e, R, s, m, args, below, meth, c, Q, I, nL'⟩ := X
  obtain ⟨hx, hb, -⟩ := hX
  intro H locs ls hI hl
  exact lv_aload_n hx hb hd hi (lv_at hl q hl0) (kk H locs ls hI hl)
theorem j_aload (hX : jC X l0 cc own Ts G rm nL) (q : Nat) {j : Nat} {x : Nat} (hd : decode cc pc = .ok (.aload j, 2)) (hl0 : lv[q]? = some (j, .ref x)) (kk : J X k n ws (pc + 2) lv (.ref x :: st)) : J X k n ws pc lv st := by
  obtain ⟨p, l, e, R, s, m, args, below, meth, c, Q, I, nL'⟩ := X
  obtain ⟨hx, hb, -⟩ := hX
  intro H locs ls hI hl
  exact lv_aload hx hb hd (lv_at hl q hl0) (kk H locs ls hI hl)
theorem j_istore_n (hX : jC X l0 cc own Ts G rm nL) {i : Fin 4} {j : Nat} {x : Int32} {lv' : List (Nat × Value)} (hd : decode cc pc = .ok (.istore_n i, 1)) (hi : (i : Nat) = j) (hn : Nat.blt j nL = true) (hl0 : (j, Value.int x) :: lv.filter (fun q => !(q.1 == j) && !(q.1 + 1 == j && q.2.category == 2)) = lv') (kk : J X k n ws (pc + 1) lv' st) : J X k n ws pc lv (.int x :: st) := by
  obtain ⟨p, l, e, R, s, m, args, below, meth, c, Q, I, nL'⟩ := X
  obtain ⟨hx, hb, -, rfl, -⟩ := hX
  intro H locs ls hI hl
  exact lv_istore_n hx hb hd hi hl (Nat.le_of_ble_eq_true hn) hl0 (fun ls' hl' => kk H locs ls' hI hl')
theorem j_istore (hX : jC X l0 cc own Ts G rm nL) {j : Nat} {x : Int32} {lv' : List (Nat × Value)} (hd : decode cc pc = .ok (.istore j, 2)) (hn : Nat.blt j nL = true) (hl0 : (j, Value.int x) :: lv.filter (fun q => !(q.1 == j) && !(q.1 + 1 == j && q.2.category == 2)) = lv') (kk : J X k n ws (pc + 2) lv' st) : J X k n ws pc lv (.int x :: st) := by
  obtain ⟨p, l, e, R, s, m, args, below, meth, c, Q, I, nL'⟩ := X
  obtain ⟨hx, hb, -, rfl, -⟩ := hX
  intro H locs ls hI hl
  exact lv_istore hx hb hd hl (Nat.le_of_ble_eq_true hn) hl0 (fun ls' hl' => kk H locs ls' hI hl')
theorem j_lstore (hX : jC X l0 cc own Ts G rm nL) {j : Nat} {x : Int64} {lv' : List (Nat × Value)} (hd : decode cc pc = .ok (.lstore j, 2)) (hn : Nat.blt (j + 1) nL = true) (hl0 : (j, Value.long x) :: lv.filter (fun q => !(q.1 == j) && (!(q.1 == j + 1) && !(q.1 + 1 == j && q.2.category == 2))) = lv') (kk : J X k n ws (pc + 2) lv' st) : J X k n ws pc lv (.long x :: st) := by
  obtain ⟨p, l, e, R, s, m, args, below, meth, c, Q, I, nL'⟩ := X
  obtain ⟨hx, hb, -, rfl, -⟩ := hX
  intro H locs ls hI hl
  exact lv_lstore hx hb hd hl (Nat.le_of_ble_eq_true hn) hl0 (fun ls' hl' => kk H locs ls' hI hl')
theorem j_astore_n (hX : jC X l0 cc own Ts G rm nL) {i : Fin 4} {j : Nat} {x : Nat} {lv' : List (Nat × Value)} (hd : decode cc pc = .ok (.astore_n i, 1)) (hi : (i : Nat) = j) (hn : Nat.blt j nL = true) (hl0 : (j, Value.ref x) :: lv.filter (fun q => !(q.1 == j) && !(q.1 + 1 == j && q.2.category == 2)) = lv') (kk : J X k n ws (pc + 1) lv' st) : J X k n ws pc lv (.ref x :: st) := by
  obtain ⟨p, l, e, R, s, m, args, below, meth, c, Q, I, nL'⟩ := X
  obtain ⟨hx, hb, -, rfl, -⟩ := hX
  intro H locs ls hI hl
  exact lv_astore_n hx hb hd hi hl (Nat.le_of_ble_eq_true hn) hl0 (fun ls' hl' => kk H locs ls' hI hl')
theorem j_astore (hX : jC X l0 cc own Ts G rm nL) {j : Nat} {x : Nat} {lv' : List (Nat × Value)} (hd : decode cc pc = .ok (.astore j, 2)) (hn : Nat.blt j nL = true) (hl0 : (j, Value.ref x) :: lv.filter (fun q => !(q.1 == j) && !(q.1 + 1 == j && q.2.category == 2)) = lv') (kk : J X k n ws (pc + 2) lv' st) : J X k n ws pc lv (.ref x :: st) := by
  obtain ⟨p, l, e, R, s, m, args, below, meth, c, Q, I, nL'⟩ := X
  obtain ⟨hx, hb, -, rfl, -⟩ := hX
  intro H locs ls hI hl
  exact lv_astore hx hb hd hl (Nat.le_of_ble_eq_true hn) hl0 (fun ls' hl' => kk H locs ls' hI hl')
theorem j_iinc (hX : jC X l0 cc own Ts G rm nL) (q : Nat) {j : Nat} {i : Int} {x v : Int32} {lv' : List (Nat × Value)} (hd : decode cc pc = .ok (.iinc j i, 3)) (hk : lv[q]? = some (j, .int x)) (hv : x + Int32.ofInt i = v) (hn : Nat.blt j nL = true) (hl0 : (j, Value.int v) :: lv.filter (fun q => !(q.1 == j) && !(q.1 + 1 == j && q.2.category == 2)) = lv') (kk : J X k n ws (pc + 3) lv' st) : J X k n ws pc lv st := by
  obtain ⟨p, l, e, R, s, m, args, below, meth, c, Q, I, nL'⟩ := X
  obtain ⟨hx, hb, -, rfl, -⟩ := hX
  intro H locs ls hI hl
  exact lv_iinc hx hb hd hl hk hv (Nat.le_of_ble_eq_true hn) hl0 (fun ls' hl' => kk H locs ls' hI hl')
theorem j_iadd (hX : jC X l0 cc own Ts G rm nL) {x y : Int32} (hd : decode cc pc = .ok (.iadd, 1)) (kk : J X k n ws (pc + 1) lv (.int (x + y) :: st)) : J X k n ws pc lv (.int y :: .int x :: st) := by
  obtain ⟨p, l, e, R, s, m, args, below, meth, c, Q, I, nL'⟩ := X
  obtain ⟨hx, hb, -⟩ := hX
  intro H locs ls hI hl
  exact lv_iadd hx hb hd (kk H locs ls hI hl)
theorem j_isub (hX : jC X l0 cc own Ts G rm nL) {x y : Int32} (hd : decode cc pc = .ok (.isub, 1)) (kk : J X k n ws (pc + 1) lv (.int (x - y) :: st)) : J X k n ws pc lv (.int y :: .int x :: st) := by
  obtain ⟨p, l, e, R, s, m, args, below, meth, c, Q, I, nL'⟩ := X
  obtain ⟨hx, hb, -⟩ := hX
  intro H locs ls hI hl
  exact lv_isub hx hb hd (kk H locs ls hI hl)
theorem j_imul (hX : jC X l0 cc own Ts G rm nL) {x y : Int32} (hd : decode cc pc = .ok (.imul, 1)) (kk : J X k n ws (pc + 1) lv (.int (x * y) :: st)) : J X k n ws pc lv (.int y :: .int x :: st) := by
  obtain ⟨p, l, e, R, s, m, args, below, meth, c, Q, I, nL'⟩ := X
  obtain ⟨hx, hb, -⟩ := hX
  intro H locs ls hI hl
  exact lv_imul hx hb hd (kk H locs ls hI hl)
theorem j_iand (hX : jC X l0 cc own Ts G rm nL) {x y : Int32} (hd : decode cc pc = .ok (.iand, 1)) (kk : J X k n ws (pc + 1) lv (.int (x &&& y) :: st)) : J X k n ws pc lv (.int y :: .int x :: st) := by
  obtain ⟨p, l, e, R, s, m, args, below, meth, c, Q, I, nL'⟩ := X
  obtain ⟨hx, hb, -⟩ := hX
  intro H locs ls hI hl
  exact lv_iand hx hb hd (kk H locs ls hI hl)
theorem j_ladd (hX : jC X l0 cc own Ts G rm nL) {x y : Int64} (hd : decode cc pc = .ok (.ladd, 1)) (kk : J X k n ws (pc + 1) lv (.long (x + y) :: st)) : J X k n ws pc lv (.long y :: .long x :: st) := by
  obtain ⟨p, l, e, R, s, m, args, below, meth, c, Q, I, nL'⟩ := X
  obtain ⟨hx, hb, -⟩ := hX
  intro H locs ls hI hl
  exact lv_ladd hx hb hd (kk H locs ls hI hl)
theorem j_lmul (hX : jC X l0 cc own Ts G rm nL) {x y : Int64} (hd : decode cc pc = .ok (.lmul, 1)) (kk : J X k n ws (pc + 1) lv (.long (x * y) :: st)) : J X k n ws pc lv (.long y :: .long x :: st) := by
  obtain ⟨p, l, e, R, s, m, args, below, meth, c, Q, I, nL'⟩ := X
  obtain ⟨hx, hb, -⟩ := hX
  intro H locs ls hI hl
  exact lv_lmul hx hb hd (kk H locs ls hI hl)
theorem j_land (hX : jC X l0 cc own Ts G rm nL) {x y : Int64} (hd : decode cc pc = .ok (.land, 1)) (kk : J X k n ws (pc + 1) lv (.long (x &&& y) :: st)) : J X k n ws pc lv (.long y :: .long x :: st) := by
  obtain ⟨p, l, e, R, s, m, args, below, meth, c, Q, I, nL'⟩ := X
  obtain ⟨hx, hb, -⟩ := hX
  intro H locs ls hI hl
  exact lv_land hx hb hd (kk H locs ls hI hl)
theorem j_lor (hX : jC X l0 cc own Ts G rm nL) {x y : Int64} (hd : decode cc pc = .ok (.lor, 1)) (kk : J X k n ws (pc + 1) lv (.long (x ||| y) :: st)) : J X k n ws pc lv (.long y :: .long x :: st) := by
  obtain ⟨p, l, e, R, s, m, args, below, meth, c, Q, I, nL'⟩ := X
  obtain ⟨hx, hb, -⟩ := hX
  intro H locs ls hI hl
  exact lv_lor hx hb hd (kk H locs ls hI hl)
theorem j_i2l (hX : jC X l0 cc own Ts G rm nL) {x : Int32} (hd : decode cc pc = .ok (.i2l, 1)) (kk : J X k n ws (pc + 1) lv (.long x.toInt64 :: st)) : J X k n ws pc lv (.int x :: st) := by
  obtain ⟨p, l, e, R, s, m, args, below, meth, c, Q, I, nL'⟩ := X
  obtain ⟨hx, hb, -⟩ := hX
  intro H locs ls hI hl
  exact lv_i2l hx hb hd rfl (kk H locs ls hI hl)
theorem j_l2i (hX : jC X l0 cc own Ts G rm nL) {x : Int64} (hd : decode cc pc = .ok (.l2i, 1)) (kk : J X k n ws (pc + 1) lv (.int x.toInt32 :: st)) : J X k n ws pc lv (.long x :: st) := by
  obtain ⟨p, l, e, R, s, m, args, below, meth, c, Q, I, nL'⟩ := X
  obtain ⟨hx, hb, -⟩ := hX
  intro H locs ls hI hl
  exact lv_l2i hx hb hd rfl (kk H locs ls hI hl)
theorem j_i2b (hX : jC X l0 cc own Ts G rm nL) {x : Int32} (hd : decode cc pc = .ok (.i2b, 1)) (kk : J X k n ws (pc + 1) lv (.int x.toInt8.toInt32 :: st)) : J X k n ws pc lv (.int x :: st) := by
  obtain ⟨p, l, e, R, s, m, args, below, meth, c, Q, I, nL'⟩ := X
  obtain ⟨hx, hb, -⟩ := hX
  intro H locs ls hI hl
  exact lv_i2b hx hb hd rfl (kk H locs ls hI hl)
theorem j_lshl (hX : jC X l0 cc own Ts G rm nL) {x : Int64} {y : Int32} (hd : decode cc pc = .ok (.lshl, 1)) (kk : J X k n ws (pc + 1) lv (.long (x <<< (y.toInt64 &&& 63)) :: st)) : J X k n ws pc lv (.int y :: .long x :: st) := by
  obtain ⟨p, l, e, R, s, m, args, below, meth, c, Q, I, nL'⟩ := X
  obtain ⟨hx, hb, -⟩ := hX
  intro H locs ls hI hl
  exact lv_lshl hx hb hd rfl (kk H locs ls hI hl)
theorem j_lshr (hX : jC X l0 cc own Ts G rm nL) {x : Int64} {y : Int32} (hd : decode cc pc = .ok (.lshr, 1)) (kk : J X k n ws (pc + 1) lv (.long (x >>> (y.toInt64 &&& 63)) :: st)) : J X k n ws pc lv (.int y :: .long x :: st) := by
  obtain ⟨p, l, e, R, s, m, args, below, meth, c, Q, I, nL'⟩ := X
  obtain ⟨hx, hb, -⟩ := hX
  intro H locs ls hI hl
  exact lv_lshr hx hb hd rfl (kk H locs ls hI hl)
theorem j_lushr (hX : jC X l0 cc own Ts G rm nL) {x : Int64} {y : Int32} (hd : decode cc pc = .ok (.lushr, 1)) (kk : J X k n ws (pc + 1) lv (.long ((x.toUInt64 >>> (y.toInt64.toUInt64 &&& Int64.toUInt64 63)).toInt64) :: st)) : J X k n ws pc lv (.int y :: .long x :: st) := by
  obtain ⟨p, l, e, R, s, m, args, below, meth, c, Q, I, nL'⟩ := X
  obtain ⟨hx, hb, -⟩ := hX
  intro H locs ls hI hl
  exact lv_lushr hx hb hd rfl (kk H locs ls hI hl)
theorem j_dup (hX : jC X l0 cc own Ts G rm nL) {va : Value} (hd : decode cc pc = .ok (.dup, 1)) (hv : va.category = 1) (kk : J X k n ws (pc + 1) lv (va :: va :: st)) : J X k n ws pc lv (va :: st) := by
  obtain ⟨p, l, e, R, s, m, args, below, meth, c, Q, I, nL'⟩ := X
  obtain ⟨hx, hb, -⟩ := hX
  intro H locs ls hI hl
  exact lv_dup hx hb hd hv (kk H locs ls hI hl)
theorem j_dup2 (hX : jC X l0 cc own Ts G rm nL) {va vb : Value} (hd : decode cc pc = .ok (.dup2, 1)) (hv : va.category = 1) (hv2 : vb.category = 1) (kk : J X k n ws (pc + 1) lv (va :: vb :: va :: vb :: st)) : J X k n ws pc lv (va :: vb :: st) := by
  obtain ⟨p, l, e, R, s, m, args, below, meth, c, Q, I, nL'⟩ := X
  obtain ⟨hx, hb, -⟩ := hX
  intro H locs ls hI hl
  exact lv_dup2_11 hx hb hd hv hv2 (kk H locs ls hI hl)
theorem j_idiv (hX : jC X l0 cc own Ts G rm nL) {x y : Int32} {α : Type} {E : Option α} {u : α} (hg : gz y E = some u) (hd : decode cc pc = .ok (.idiv, 1)) (kk : E = some u → J X k n ws (pc + 1) lv (.int (x / y) :: st)) : J X k n ws pc lv (.int y :: .int x :: st) := by
  obtain ⟨p, l, e, R, s, m, args, below, meth, c, Q, I, nL'⟩ := X
  obtain ⟨hx, hb, -⟩ := hX
  intro H locs ls hI hl
  obtain ⟨h0, hg⟩ := gz_some hg
  exact lv_idiv hx hb hd h0 (kk hg H locs ls hI hl)
theorem j_irem (hX : jC X l0 cc own Ts G rm nL) {x y : Int32} {α : Type} {E : Option α} {u : α} (hg : gz y E = some u) (hd : decode cc pc = .ok (.irem, 1)) (kk : E = some u → J X k n ws (pc + 1) lv (.int (x - x / y * y) :: st)) : J X k n ws pc lv (.int y :: .int x :: st) := by
  obtain ⟨p, l, e, R, s, m, args, below, meth, c, Q, I, nL'⟩ := X
  obtain ⟨hx, hb, -⟩ := hX
  intro H locs ls hI hl
  obtain ⟨h0, hg⟩ := gz_some hg
  exact lv_irem hx hb hd h0 (kk hg H locs ls hI hl)
theorem j_lrem (hX : jC X l0 cc own Ts G rm nL) {x y : Int64} {α : Type} {E : Option α} {u : α} (hg : gzl y E = some u) (hd : decode cc pc = .ok (.lrem, 1)) (kk : E = some u → J X k n ws (pc + 1) lv (.long (x - x / y * y) :: st)) : J X k n ws pc lv (.long y :: .long x :: st) := by
  obtain ⟨p, l, e, R, s, m, args, below, meth, c, Q, I, nL'⟩ := X
  obtain ⟨hx, hb, -⟩ := hX
  intro H locs ls hI hl
  obtain ⟨h0, hg⟩ := gzl_some hg
  exact lv_lrem hx hb hd h0 (kk hg H locs ls hI hl)
theorem j_pop (hX : jC X l0 cc own Ts G rm nL) {va : Value} (hd : decode cc pc = .ok (.pop, 1)) (hv : va.category = 1) (kk : J X k n ws (pc + 1) lv st) : J X k n ws pc lv (va :: st) := by
  obtain ⟨p, l, e, R, s, m, args, below, meth, c, Q, I, nL'⟩ := X
  obtain ⟨hx, hb, -⟩ := hX
  intro H locs ls hI hl
  exact lv_pop hx hb hd hv (kk H locs ls hI hl)
theorem j_goto (hX : jC X l0 cc own Ts G rm nL) {off : Int} (tgt : Nat) (hd : decode cc pc = .ok (.goto off, 3)) (ht : (pc : Int) + off = (tgt : Int)) (kk : J X k n ws tgt lv st) : J X k n ws pc lv st := by
  obtain ⟨p, l, e, R, s, m, args, below, meth, c, Q, I, nL'⟩ := X
  obtain ⟨hx, hb, -⟩ := hX
  intro H locs ls hI hl
  exact lv_goto hx hb hd ht (kk H locs ls hI hl)
theorem j_if_eq (hX : jC X l0 cc own Ts G rm nL) {x : Int32} {off : Int} (tgt : Nat) {α : Type} {E F : Option α} {u : α} (hg : (if x = 0 then E else F) = some u) (hd : decode cc pc = .ok (.ifCond .eq off, 3)) (ht : (pc : Int) + off = (tgt : Int)) (kt : E = some u → J X k n ws (tgt) lv st) (kf : F = some u → J X k n ws (pc + 3) lv st) : J X k n ws pc lv (.int x :: st) := by
  obtain ⟨p, l, e, R, s, m, args, below, meth, c, Q, I, nL'⟩ := X
  obtain ⟨hx, hb, -⟩ := hX
  intro H locs ls hI hl
  exact lv_if_eq hx hb hd ht (fun hc => kt (br_p hg hc) H locs ls hI hl) (fun hc => kf (br_n hg hc) H locs ls hI hl)
theorem j_if_eqp (hX : jC X l0 cc own Ts G rm nL) {x : Int32} {off : Int} (tgt : Nat) (hd : decode cc pc = .ok (.ifCond .eq off, 3)) (ht : (pc : Int) + off = (tgt : Int)) (kt : x = 0 → J X k n ws tgt lv st) (kf : ¬ x = 0 → J X k n ws (pc + 3) lv st) : J X k n ws pc lv (.int x :: st) := by
  obtain ⟨p, l, e, R, s, m, args, below, meth, c, Q, I, nL'⟩ := X
  obtain ⟨hx, hb, -⟩ := hX
  intro H locs ls hI hl
  exact lv_if_eq hx hb hd ht (fun hc => kt hc H locs ls hI hl) (fun hc => kf hc H locs ls hI hl)
theorem j_icmp_eq (hX : jC X l0 cc own Ts G rm nL) {x y : Int32} {off : Int} (tgt : Nat) {α : Type} {E F : Option α} {u : α} (hg : (if x = y then E else F) = some u) (hd : decode cc pc = .ok (.if_icmp .eq off, 3)) (ht : (pc : Int) + off = (tgt : Int)) (kt : E = some u → J X k n ws (tgt) lv st) (kf : F = some u → J X k n ws (pc + 3) lv st) : J X k n ws pc lv (.int y :: .int x :: st) := by
  obtain ⟨p, l, e, R, s, m, args, below, meth, c, Q, I, nL'⟩ := X
  obtain ⟨hx, hb, -⟩ := hX
  intro H locs ls hI hl
  exact lv_icmp_eq hx hb hd ht (fun hc => kt (br_p hg hc) H locs ls hI hl) (fun hc => kf (br_n hg hc) H locs ls hI hl)
theorem j_icmp_eqp (hX : jC X l0 cc own Ts G rm nL) {x y : Int32} {off : Int} (tgt : Nat) (hd : decode cc pc = .ok (.if_icmp .eq off, 3)) (ht : (pc : Int) + off = (tgt : Int)) (kt : x = y → J X k n ws tgt lv st) (kf : ¬ x = y → J X k n ws (pc + 3) lv st) : J X k n ws pc lv (.int y :: .int x :: st) := by
  obtain ⟨p, l, e, R, s, m, args, below, meth, c, Q, I, nL'⟩ := X
  obtain ⟨hx, hb, -⟩ := hX
  intro H locs ls hI hl
  exact lv_icmp_eq hx hb hd ht (fun hc => kt hc H locs ls hI hl) (fun hc => kf hc H locs ls hI hl)
theorem j_if_ne (hX : jC X l0 cc own Ts G rm nL) {x : Int32} {off : Int} (tgt : Nat) {α : Type} {E F : Option α} {u : α} (hg : (if x = 0 then E else F) = some u) (hd : decode cc pc = .ok (.ifCond .ne off, 3)) (ht : (pc : Int) + off = (tgt : Int)) (kt : E = some u → J X k n ws (pc + 3) lv st) (kf : F = some u → J X k n ws (tgt) lv st) : J X k n ws pc lv (.int x :: st) := by
  obtain ⟨p, l, e, R, s, m, args, below, meth, c, Q, I, nL'⟩ := X
  obtain ⟨hx, hb, -⟩ := hX
  intro H locs ls hI hl
  exact lv_if_ne hx hb hd ht (fun hc => kf (br_n hg hc) H locs ls hI hl) (fun hc => kt (br_p hg hc) H locs ls hI hl)
theorem j_if_nep (hX : jC X l0 cc own Ts G rm nL) {x : Int32} {off : Int} (tgt : Nat) (hd : decode cc pc = .ok (.ifCond .ne off, 3)) (ht : (pc : Int) + off = (tgt : Int)) (kt : ¬ x = 0 → J X k n ws tgt lv st) (kf : x = 0 → J X k n ws (pc + 3) lv st) : J X k n ws pc lv (.int x :: st) := by
  obtain ⟨p, l, e, R, s, m, args, below, meth, c, Q, I, nL'⟩ := X
  obtain ⟨hx, hb, -⟩ := hX
  intro H locs ls hI hl
  exact lv_if_ne hx hb hd ht (fun hc => kt hc H locs ls hI hl) (fun hc => kf hc H locs ls hI hl)
theorem j_icmp_ne (hX : jC X l0 cc own Ts G rm nL) {x y : Int32} {off : Int} (tgt : Nat) {α : Type} {E F : Option α} {u : α} (hg : (if x = y then E else F) = some u) (hd : decode cc pc = .ok (.if_icmp .ne off, 3)) (ht : (pc : Int) + off = (tgt : Int)) (kt : E = some u → J X k n ws (pc + 3) lv st) (kf : F = some u → J X k n ws (tgt) lv st) : J X k n ws pc lv (.int y :: .int x :: st) := by
  obtain ⟨p, l, e, R, s, m, args, below, meth, c, Q, I, nL'⟩ := X
  obtain ⟨hx, hb, -⟩ := hX
  intro H locs ls hI hl
  exact lv_icmp_ne hx hb hd ht (fun hc => kf (br_n hg hc) H locs ls hI hl) (fun hc => kt (br_p hg hc) H locs ls hI hl)
theorem j_icmp_nep (hX : jC X l0 cc own Ts G rm nL) {x y : Int32} {off : Int} (tgt : Nat) (hd : decode cc pc = .ok (.if_icmp .ne off, 3)) (ht : (pc : Int) + off = (tgt : Int)) (kt : ¬ x = y → J X k n ws tgt lv st) (kf : x = y → J X k n ws (pc + 3) lv st) : J X k n ws pc lv (.int y :: .int x :: st) := by
  obtain ⟨p, l, e, R, s, m, args, below, meth, c, Q, I, nL'⟩ := X
  obtain ⟨hx, hb, -⟩ := hX
  intro H locs ls hI hl
  exact lv_icmp_ne hx hb hd ht (fun hc => kt hc H locs ls hI hl) (fun hc => kf hc H locs ls hI hl)
theorem j_if_lt (hX : jC X l0 cc own Ts G rm nL) {x : Int32} {off : Int} (tgt : Nat) {α : Type} {E F : Option α} {u : α} (hg : (if x < 0 then E else F) = some u) (hd : decode cc pc = .ok (.ifCond .lt off, 3)) (ht : (pc : Int) + off = (tgt : Int)) (kt : E = some u → J X k n ws (tgt) lv st) (kf : F = some u → J X k n ws (pc + 3) lv st) : J X k n ws pc lv (.int x :: st) := by
  obtain ⟨p, l, e, R, s, m, args, below, meth, c, Q, I, nL'⟩ := X
  obtain ⟨hx, hb, -⟩ := hX
  intro H locs ls hI hl
  exact lv_if_lt hx hb hd ht (fun hc => kt (br_p hg hc) H locs ls hI hl) (fun hc => kf (br_n hg hc) H locs ls hI hl)
theorem j_if_ltp (hX : jC X l0 cc own Ts G rm nL) {x : Int32} {off : Int} (tgt : Nat) (hd : decode cc pc = .ok (.ifCond .lt off, 3)) (ht : (pc : Int) + off = (tgt : Int)) (kt : x < 0 → J X k n ws tgt lv st) (kf : ¬ x < 0 → J X k n ws (pc + 3) lv st) : J X k n ws pc lv (.int x :: st) := by
  obtain ⟨p, l, e, R, s, m, args, below, meth, c, Q, I, nL'⟩ := X
  obtain ⟨hx, hb, -⟩ := hX
  intro H locs ls hI hl
  exact lv_if_lt hx hb hd ht (fun hc => kt hc H locs ls hI hl) (fun hc => kf hc H locs ls hI hl)
theorem j_icmp_lt (hX : jC X l0 cc own Ts G rm nL) {x y : Int32} {off : Int} (tgt : Nat) {α : Type} {E F : Option α} {u : α} (hg : (if x < y then E else F) = some u) (hd : decode cc pc = .ok (.if_icmp .lt off, 3)) (ht : (pc : Int) + off = (tgt : Int)) (kt : E = some u → J X k n ws (tgt) lv st) (kf : F = some u → J X k n ws (pc + 3) lv st) : J X k n ws pc lv (.int y :: .int x :: st) := by
  obtain ⟨p, l, e, R, s, m, args, below, meth, c, Q, I, nL'⟩ := X
  obtain ⟨hx, hb, -⟩ := hX
  intro H locs ls hI hl
  exact lv_icmp_lt hx hb hd ht (fun hc => kt (br_p hg hc) H locs ls hI hl) (fun hc => kf (br_n hg hc) H locs ls hI hl)
theorem j_icmp_ltp (hX : jC X l0 cc own Ts G rm nL) {x y : Int32} {off : Int} (tgt : Nat) (hd : decode cc pc = .ok (.if_icmp .lt off, 3)) (ht : (pc : Int) + off = (tgt : Int)) (kt : x < y → J X k n ws tgt lv st) (kf : ¬ x < y → J X k n ws (pc + 3) lv st) : J X k n ws pc lv (.int y :: .int x :: st) := by
  obtain ⟨p, l, e, R, s, m, args, below, meth, c, Q, I, nL'⟩ := X
  obtain ⟨hx, hb, -⟩ := hX
  intro H locs ls hI hl
  exact lv_icmp_lt hx hb hd ht (fun hc => kt hc H locs ls hI hl) (fun hc => kf hc H locs ls hI hl)
theorem j_if_ge (hX : jC X l0 cc own Ts G rm nL) {x : Int32} {off : Int} (tgt : Nat) {α : Type} {E F : Option α} {u : α} (hg : (if 0 ≤ x then E else F) = some u) (hd : decode cc pc = .ok (.ifCond .ge off, 3)) (ht : (pc : Int) + off = (tgt : Int)) (kt : E = some u → J X k n ws (tgt) lv st) (kf : F = some u → J X k n ws (pc + 3) lv st) : J X k n ws pc lv (.int x :: st) := by
  obtain ⟨p, l, e, R, s, m, args, below, meth, c, Q, I, nL'⟩ := X
  obtain ⟨hx, hb, -⟩ := hX
  intro H locs ls hI hl
  exact lv_if_ge hx hb hd ht (fun hc => kt (br_p hg hc) H locs ls hI hl) (fun hc => kf (br_n hg hc) H locs ls hI hl)
theorem j_if_gep (hX : jC X l0 cc own Ts G rm nL) {x : Int32} {off : Int} (tgt : Nat) (hd : decode cc pc = .ok (.ifCond .ge off, 3)) (ht : (pc : Int) + off = (tgt : Int)) (kt : 0 ≤ x → J X k n ws tgt lv st) (kf : ¬ 0 ≤ x → J X k n ws (pc + 3) lv st) : J X k n ws pc lv (.int x :: st) := by
  obtain ⟨p, l, e, R, s, m, args, below, meth, c, Q, I, nL'⟩ := X
  obtain ⟨hx, hb, -⟩ := hX
  intro H locs ls hI hl
  exact lv_if_ge hx hb hd ht (fun hc => kt hc H locs ls hI hl) (fun hc => kf hc H locs ls hI hl)
theorem j_icmp_ge (hX : jC X l0 cc own Ts G rm nL) {x y : Int32} {off : Int} (tgt : Nat) {α : Type} {E F : Option α} {u : α} (hg : (if y ≤ x then E else F) = some u) (hd : decode cc pc = .ok (.if_icmp .ge off, 3)) (ht : (pc : Int) + off = (tgt : Int)) (kt : E = some u → J X k n ws (tgt) lv st) (kf : F = some u → J X k n ws (pc + 3) lv st) : J X k n ws pc lv (.int y :: .int x :: st) := by
  obtain ⟨p, l, e, R, s, m, args, below, meth, c, Q, I, nL'⟩ := X
  obtain ⟨hx, hb, -⟩ := hX
  intro H locs ls hI hl
  exact lv_icmp_ge hx hb hd ht (fun hc => kt (br_p hg hc) H locs ls hI hl) (fun hc => kf (br_n hg hc) H locs ls hI hl)
theorem j_icmp_gep (hX : jC X l0 cc own Ts G rm nL) {x y : Int32} {off : Int} (tgt : Nat) (hd : decode cc pc = .ok (.if_icmp .ge off, 3)) (ht : (pc : Int) + off = (tgt : Int)) (kt : y ≤ x → J X k n ws tgt lv st) (kf : ¬ y ≤ x → J X k n ws (pc + 3) lv st) : J X k n ws pc lv (.int y :: .int x :: st) := by
  obtain ⟨p, l, e, R, s, m, args, below, meth, c, Q, I, nL'⟩ := X
  obtain ⟨hx, hb, -⟩ := hX
  intro H locs ls hI hl
  exact lv_icmp_ge hx hb hd ht (fun hc => kt hc H locs ls hI hl) (fun hc => kf hc H locs ls hI hl)
theorem j_if_gt (hX : jC X l0 cc own Ts G rm nL) {x : Int32} {off : Int} (tgt : Nat) {α : Type} {E F : Option α} {u : α} (hg : (if 0 < x then E else F) = some u) (hd : decode cc pc = .ok (.ifCond .gt off, 3)) (ht : (pc : Int) + off = (tgt : Int)) (kt : E = some u → J X k n ws (tgt) lv st) (kf : F = some u → J X k n ws (pc + 3) lv st) : J X k n ws pc lv (.int x :: st) := by
  obtain ⟨p, l, e, R, s, m, args, below, meth, c, Q, I, nL'⟩ := X
  obtain ⟨hx, hb, -⟩ := hX
  intro H locs ls hI hl
  exact lv_if_gt hx hb hd ht (fun hc => kt (br_p hg hc) H locs ls hI hl) (fun hc => kf (br_n hg hc) H locs ls hI hl)
theorem j_if_gtp (hX : jC X l0 cc own Ts G rm nL) {x : Int32} {off : Int} (tgt : Nat) (hd : decode cc pc = .ok (.ifCond .gt off, 3)) (ht : (pc : Int) + off = (tgt : Int)) (kt : 0 < x → J X k n ws tgt lv st) (kf : ¬ 0 < x → J X k n ws (pc + 3) lv st) : J X k n ws pc lv (.int x :: st) := by
  obtain ⟨p, l, e, R, s, m, args, below, meth, c, Q, I, nL'⟩ := X
  obtain ⟨hx, hb, -⟩ := hX
  intro H locs ls hI hl
  exact lv_if_gt hx hb hd ht (fun hc => kt hc H locs ls hI hl) (fun hc => kf hc H locs ls hI hl)
theorem j_icmp_gt (hX : jC X l0 cc own Ts G rm nL) {x y : Int32} {off : Int} (tgt : Nat) {α : Type} {E F : Option α} {u : α} (hg : (if y < x then E else F) = some u) (hd : decode cc pc = .ok (.if_icmp .gt off, 3)) (ht : (pc : Int) + off = (tgt : Int)) (kt : E = some u → J X k n ws (tgt) lv st) (kf : F = some u → J X k n ws (pc + 3) lv st) : J X k n ws pc lv (.int y :: .int x :: st) := by
  obtain ⟨p, l, e, R, s, m, args, below, meth, c, Q, I, nL'⟩ := X
  obtain ⟨hx, hb, -⟩ := hX
  intro H locs ls hI hl
  exact lv_icmp_gt hx hb hd ht (fun hc => kt (br_p hg hc) H locs ls hI hl) (fun hc => kf (br_n hg hc) H locs ls hI hl)
theorem j_icmp_gtp (hX : jC X l0 cc own Ts G rm nL) {x y : Int32} {off : Int} (tgt : Nat) (hd : decode cc pc = .ok (.if_icmp .gt off, 3)) (ht : (pc : Int) + off = (tgt : Int)) (kt : y < x → J X k n ws tgt lv st) (kf : ¬ y < x → J X k n ws (pc + 3) lv st) : J X k n ws pc lv (.int y :: .int x :: st) := by
  obtain ⟨p, l, e, R, s, m, args, below, meth, c, Q, I, nL'⟩ := X
  obtain ⟨hx, hb, -⟩ := hX
  intro H locs ls hI hl
  exact lv_icmp_gt hx hb hd ht (fun hc => kt hc H locs ls hI hl) (fun hc => kf hc H locs ls hI hl)
theorem j_if_le (hX : jC X l0 cc own Ts G rm nL) {x : Int32} {off : Int} (tgt : Nat) {α : Type} {E F : Option α} {u : α} (hg : (if x ≤ 0 then E else F) = some u) (hd : decode cc pc = .ok (.ifCond .le off, 3)) (ht : (pc : Int) + off = (tgt : Int)) (kt : E = some u → J X k n ws (tgt) lv st) (kf : F = some u → J X k n ws (pc + 3) lv st) : J X k n ws pc lv (.int x :: st) := by
  obtain ⟨p, l, e, R, s, m, args, below, meth, c, Q, I, nL'⟩ := X
  obtain ⟨hx, hb, -⟩ := hX
  intro H locs ls hI hl
  exact lv_if_le hx hb hd ht (fun hc => kt (br_p hg hc) H locs ls hI hl) (fun hc => kf (br_n hg hc) H locs ls hI hl)
theorem j_if_lep (hX : jC X l0 cc own Ts G rm nL) {x : Int32} {off : Int} (tgt : Nat) (hd : decode cc pc = .ok (.ifCond .le off, 3)) (ht : (pc : Int) + off = (tgt : Int)) (kt : x ≤ 0 → J X k n ws tgt lv st) (kf : ¬ x ≤ 0 → J X k n ws (pc + 3) lv st) : J X k n ws pc lv (.int x :: st) := by
  obtain ⟨p, l, e, R, s, m, args, below, meth, c, Q, I, nL'⟩ := X
  obtain ⟨hx, hb, -⟩ := hX
  intro H locs ls hI hl
  exact lv_if_le hx hb hd ht (fun hc => kt hc H locs ls hI hl) (fun hc => kf hc H locs ls hI hl)
theorem j_icmp_le (hX : jC X l0 cc own Ts G rm nL) {x y : Int32} {off : Int} (tgt : Nat) {α : Type} {E F : Option α} {u : α} (hg : (if x ≤ y then E else F) = some u) (hd : decode cc pc = .ok (.if_icmp .le off, 3)) (ht : (pc : Int) + off = (tgt : Int)) (kt : E = some u → J X k n ws (tgt) lv st) (kf : F = some u → J X k n ws (pc + 3) lv st) : J X k n ws pc lv (.int y :: .int x :: st) := by
  obtain ⟨p, l, e, R, s, m, args, below, meth, c, Q, I, nL'⟩ := X
  obtain ⟨hx, hb, -⟩ := hX
  intro H locs ls hI hl
  exact lv_icmp_le hx hb hd ht (fun hc => kt (br_p hg hc) H locs ls hI hl) (fun hc => kf (br_n hg hc) H locs ls hI hl)
theorem j_icmp_lep (hX : jC X l0 cc own Ts G rm nL) {x y : Int32} {off : Int} (tgt : Nat) (hd : decode cc pc = .ok (.if_icmp .le off, 3)) (ht : (pc : Int) + off = (tgt : Int)) (kt : x ≤ y → J X k n ws tgt lv st) (kf : ¬ x ≤ y → J X k n ws (pc + 3) lv st) : J X k n ws pc lv (.int y :: .int x :: st) := by
  obtain ⟨p, l, e, R, s, m, args, below, meth, c, Q, I, nL'⟩ := X
  obtain ⟨hx, hb, -⟩ := hX
  intro H locs ls hI hl
  exact lv_icmp_le hx hb hd ht (fun hc => kt hc H locs ls hI hl) (fun hc => kf hc H locs ls hI hl)
theorem j_get (hX : jC X l0 cc own Ts G rm nL) (q0 f : Nat) {a ci : Nat} {fs : List Value} {C : String} {T : u_T} {N idx : Nat} (he : ws[q0]? = some (a, .inr (ci, fs))) (hc : vwCl[ci]? = some (C, T, N)) (hin : ∀ w ∈ u_ws C T N, w ∈ Ts) (hk : Nat.blt f N = true) (hlink : Cond.fieldLink own idx (T f).1 (T f).2.1 (T f).2.2.1 ∈ Ts) {v : Value} (hv : fs[f]? = some v) (hd : decode cc pc = .ok (.getfield idx, 3)) (kk : J X k n ws (pc + 3) lv (v :: st)) : J X k n ws pc lv (.ref a :: st) := by
  obtain ⟨p, l, e, R, s, m, args, below, meth, c, Q, I, nL'⟩ := X
  obtain ⟨hx, hb, -, -, hown, hts, hK, hI0, -⟩ := hX
  intro H locs ls hI hl
  exact va_get hx hb hts hin hown hK (hI0 _ _ _ hI) q0 he hc f (Nat.le_of_ble_eq_true hk) (hts _ hlink) (fun _ h => h) hv hd (kk H locs ls hI hl)
theorem j_put (hX : jC X l0 cc own Ts G rm nL) (hW : jW X G) (q0 f : Nat) {a ci : Nat} {fs : List Value} {C : String} {T : u_T} {N idx : Nat} (he : ws[q0]? = some (a, .inr (ci, fs))) (hc : vwCl[ci]? = some (C, T, N)) (hin : ∀ w ∈ u_ws C T N, w ∈ Ts) (tf : Nat → FieldType) (hty : ∀ k, k < N → parseFieldDescriptor (T k).2.2.1 = some (tf k)) (hnm : ∀ a, a < N → ∀ b, b < N → a ≠ b → (T a).2.1 ≠ (T b).2.1) (hk : Nat.blt f N = true) (hlink : Cond.fieldLink own idx (T f).1 (T f).2.1 (T f).2.2.1 ∈ Ts) (hfin : (T f).2.2.2 = false) {v : Value} (hn : narrow (tf f) v = v) (hfit : fits (tf f) v = true) (hlen : Nat.blt f fs.length = true) (hd : decode cc pc = .ok (.putfield idx, 3)) {ws' : va_W} (hw : ws.set q0 (a, .inr (ci, fs.set f v)) = ws') (kk : J X k n ws' (pc + 3) lv st) : J X k n ws pc lv (v :: .ref a :: st) := by
  obtain ⟨p, l, e, R, s, m, args, below, meth, c, Q, I, nL'⟩ := X
  obtain ⟨hx, hb, -, -, hown, hts, hK, hI0, -⟩ := hX
  obtain ⟨A, hA, rfl⟩ := hW
  subst hw
  intro H locs ls hI hl
  obtain ⟨hP, hD, hS⟩ := hI
  exact va_put hx hb hts hin tf hty hnm hown hK hP hD hS q0 he hc f (Nat.le_of_ble_eq_true hk) (hts _ hlink) (fun _ h => h) hfin (hty f (Nat.le_of_ble_eq_true hk)) hn hfit (Nat.le_of_ble_eq_true hlen) hd (fun H1 locs1 hP1 hD1 hS1 => kk H1 locs1 ls ⟨hP1, hD1, hS1⟩ hl)
theorem j_putF (hX : jC X l0 cc own Ts G rm nL) (hW : jW X G) (hNm : jInit X) (q0 f : Nat) {a ci : Nat} {fs : List Value} {C : String} {T : u_T} {N idx : Nat} (he : ws[q0]? = some (a, .inr (ci, fs))) (hc : vwCl[ci]? = some (C, T, N)) (hin : ∀ w ∈ u_ws C T N, w ∈ Ts) (tf : Nat → FieldType) (hty : ∀ k, k < N → parseFieldDescriptor (T k).2.2.1 = some (tf k)) (hnm : ∀ a, a < N → ∀ b, b < N → a ≠ b → (T a).2.1 ≠ (T b).2.1) (hk : Nat.blt f N = true) (hlink : Cond.fieldLink own idx (T f).1 (T f).2.1 (T f).2.2.1 ∈ Ts) (hfin : (T f).2.2.2 = true) (hdecl : (T f).1 = own) {v : Value} (hn : narrow (tf f) v = v) (hfit : fits (tf f) v = true) (hlen : Nat.blt f fs.length = true) (hd : decode cc pc = .ok (.putfield idx, 3)) {ws' : va_W} (hw : ws.set q0 (a, .inr (ci, fs.set f v)) = ws') (kk : J X k n ws' (pc + 3) lv st) : J X k n ws pc lv (v :: .ref a :: st) := by
  obtain ⟨p, l, e, R, s, m, args, below, meth, c, Q, I, nL'⟩ := X
  obtain ⟨hx, hb, -, -, hown, hts, hK, hI0, -⟩ := hX
  obtain ⟨A, hA, rfl⟩ := hW
  subst hw
  intro H locs ls hJ hl
  obtain ⟨hP, hD, hS⟩ := hJ
  exact va_putF hx hb hts hin tf hty hnm hown hK hP hD hS q0 he hc f (Nat.le_of_ble_eq_true hk) (hts _ hlink) (fun _ h => h) hfin hNm hdecl (hty f (Nat.le_of_ble_eq_true hk)) hn hfit (Nat.le_of_ble_eq_true hlen) hd (fun H1 locs1 hP1 hD1 hS1 => kk H1 locs1 ls ⟨hP1, hD1, hS1⟩ hl)
theorem j_iald (hX : jC X l0 cc own Ts G rm nL) (q0 : Nat) {a N : Nat} {f : Nat → Int32} {i : Int32} (ha : ws[q0]? = some (aI G a N f)) {α : Type} {E : Option α} {u : α} (hg : gi i N E = some u) (hd : decode cc pc = .ok (.iaload, 1)) (kk : E = some u → J X k n ws (pc + 1) lv (.int (f i.toNatClampNeg) :: st)) : J X k n ws pc lv (.int i :: .ref a :: st) := by
  obtain ⟨p, l, e, R, s, m, args, below, meth, c, Q, I, nL'⟩ := X
  obtain ⟨hx, hb, -, -, hown, hts, hK, hI0, -⟩ := hX
  intro H locs ls hI hl
  obtain ⟨h0, hg⟩ := gi_some hg
  exact va_iald hx hb hK (hI0 _ _ _ hI) q0 0 ha rfl h0 hd (kk hg H locs ls hI hl)
theorem j_bald (hX : jC X l0 cc own Ts G rm nL) (q0 : Nat) {a N : Nat} {f : Nat → Int32} {i : Int32} (ha : ws[q0]? = some (aB G a N f)) {α : Type} {E : Option α} {u : α} (hg : gi i N E = some u) (hd : decode cc pc = .ok (.baload, 1)) (kk : E = some u → J X k n ws (pc + 1) lv (.int (f i.toNatClampNeg) :: st)) : J X k n ws pc lv (.int i :: .ref a :: st) := by
  obtain ⟨p, l, e, R, s, m, args, below, meth, c, Q, I, nL'⟩ := X
  obtain ⟨hx, hb, -, -, hown, hts, hK, hI0, -⟩ := hX
  intro H locs ls hI hl
  obtain ⟨h0, hg⟩ := gi_some hg
  exact va_bald hx hb hK (hI0 _ _ _ hI) q0 1 ha rfl h0 hd (kk hg H locs ls hI hl)
theorem j_zald (hX : jC X l0 cc own Ts G rm nL) (q0 : Nat) {a N : Nat} {f : Nat → Int32} {i : Int32} (ha : ws[q0]? = some (aZ G a N f)) {α : Type} {E : Option α} {u : α} (hg : gi i N E = some u) (hd : decode cc pc = .ok (.baload, 1)) (kk : E = some u → J X k n ws (pc + 1) lv (.int (f i.toNatClampNeg) :: st)) : J X k n ws pc lv (.int i :: .ref a :: st) := by
  obtain ⟨p, l, e, R, s, m, args, below, meth, c, Q, I, nL'⟩ := X
  obtain ⟨hx, hb, -, -, hown, hts, hK, hI0, -⟩ := hX
  intro H locs ls hI hl
  obtain ⟨h0, hg⟩ := gi_some hg
  exact va_zald hx hb hK (hI0 _ _ _ hI) q0 2 ha rfl h0 hd (kk hg H locs ls hI hl)
theorem j_aald (hX : jC X l0 cc own Ts G rm nL) (q0 t0 : Nat) {a N : Nat} {cA : ClassId} {C : String} {f : Nat → Nat} {i : Int32} (ha : ws[q0]? = some (aQ cA a N (fun j => some (f j)))) (ht : (jtys G)[t0]? = some (cA, .object C)) {α : Type} {E : Option α} {u : α} (hg : gi i N E = some u) (hd : decode cc pc = .ok (.aaload, 1)) (kk : i.toNatClampNeg < N → E = some u → J X k n ws (pc + 1) lv (.ref (f i.toNatClampNeg) :: st)) : J X k n ws pc lv (.int i :: .ref a :: st) := by
  obtain ⟨p, l, e, R, s, m, args, below, meth, c, Q, I, nL'⟩ := X
  obtain ⟨hx, hb, -, -, hown, hts, hK, hI0, -⟩ := hX
  intro H locs ls hI hl
  obtain ⟨h0, hg⟩ := gi_some hg
  exact va_aldq hx hb hK (hI0 _ _ _ hI) q0 t0 ha ht h0 hd (kk (Nat.not_le.mp fun q => h0 (Or.inr q)) hg H locs ls hI hl)
theorem j_alen (hX : jC X l0 cc own Ts G rm nL) (q0 : Nat) {a N : Nat} {f : Nat → Int32} (ha : ws[q0]? = some (aI G a N f)) (hd : decode cc pc = .ok (.arraylength, 1)) (kk : J X k n ws (pc + 1) lv (.int (nI N) :: st)) : J X k n ws pc lv (.ref a :: st) := by
  obtain ⟨p, l, e, R, s, m, args, below, meth, c, Q, I, nL'⟩ := X
  obtain ⟨hx, hb, -, -, hown, hts, hK, hI0, -⟩ := hX
  intro H locs ls hI hl
  exact va_alen hx hb hK (hI0 _ _ _ hI) q0 0 ha (ty := .int) rfl (v := nI N) rfl hd (kk H locs ls hI hl)
theorem j_iast (hX : jC X l0 cc own Ts G rm nL) (hW : jW X G) (q0 : Nat) {a N : Nat} {f : Nat → Int32} {i x : Int32} (ha : ws[q0]? = some (aI G a N f)) {α : Type} {E : Option α} {u : α} (hg : gi i N E = some u) (hd : decode cc pc = .ok (.iastore, 1)) {ws' : va_W} (hw : ws.set q0 (aI G a N (upd f i.toNatClampNeg x)) = ws') (kk : E = some u → J X k n ws' (pc + 1) lv st) : J X k n ws pc lv (.int x :: .int i :: .ref a :: st) := by
  obtain ⟨p, l, e, R, s, m, args, below, meth, c, Q, I, nL'⟩ := X
  obtain ⟨hx, hb, -, -, hown, hts, hK, hI0, -⟩ := hX
  obtain ⟨A, hA, rfl⟩ := hW
  subst hw
  intro H locs ls hI hl
  obtain ⟨hP, hD, hS⟩ := hI
  obtain ⟨h0, hg⟩ := gi_some hg
  exact va_iast hx hb hK hP hD hS q0 0 ha rfl h0 hd (fun H1 locs1 hP1 hD1 hS1 => kk hg H1 locs1 ls ⟨hP1, hD1, hS1⟩ hl)
theorem j_bast (hX : jC X l0 cc own Ts G rm nL) (hW : jW X G) (q0 : Nat) {a N : Nat} {f : Nat → Int32} {i x : Int32} (ha : ws[q0]? = some (aB G a N f)) {α : Type} {E : Option α} {u : α} (hg : gi i N E = some u) (hd : decode cc pc = .ok (.bastore, 1)) {ws' : va_W} (hw : ws.set q0 (aB G a N (upd f i.toNatClampNeg (vp_nar .byte x))) = ws') (kk : E = some u → J X k n ws' (pc + 1) lv st) : J X k n ws pc lv (.int x :: .int i :: .ref a :: st) := by
  obtain ⟨p, l, e, R, s, m, args, below, meth, c, Q, I, nL'⟩ := X
  obtain ⟨hx, hb, -, -, hown, hts, hK, hI0, -⟩ := hX
  obtain ⟨A, hA, rfl⟩ := hW
  subst hw
  intro H locs ls hI hl
  obtain ⟨hP, hD, hS⟩ := hI
  obtain ⟨h0, hg⟩ := gi_some hg
  exact va_bast hx hb hK hP hD hS q0 1 ha rfl h0 hd (fun H1 locs1 hP1 hD1 hS1 => kk hg H1 locs1 ls ⟨hP1, hD1, hS1⟩ hl)
theorem j_zast (hX : jC X l0 cc own Ts G rm nL) (hW : jW X G) (q0 : Nat) {a N : Nat} {f : Nat → Int32} {i x : Int32} (ha : ws[q0]? = some (aZ G a N f)) {α : Type} {E : Option α} {u : α} (hg : gi i N E = some u) (hd : decode cc pc = .ok (.bastore, 1)) {ws' : va_W} (hw : ws.set q0 (aZ G a N (upd f i.toNatClampNeg (vp_nar .boolean x))) = ws') (kk : E = some u → J X k n ws' (pc + 1) lv st) : J X k n ws pc lv (.int x :: .int i :: .ref a :: st) := by
  obtain ⟨p, l, e, R, s, m, args, below, meth, c, Q, I, nL'⟩ := X
  obtain ⟨hx, hb, -, -, hown, hts, hK, hI0, -⟩ := hX
  obtain ⟨A, hA, rfl⟩ := hW
  subst hw
  intro H locs ls hI hl
  obtain ⟨hP, hD, hS⟩ := hI
  obtain ⟨h0, hg⟩ := gi_some hg
  exact va_zast hx hb hK hP hD hS q0 2 ha rfl h0 hd (fun H1 locs1 hP1 hD1 hS1 => kk hg H1 locs1 ls ⟨hP1, hD1, hS1⟩ hl)
end JROWS
/-! ===== worlds set at several places ===== -/
def setAll : va_W → List Nat → va_W → va_W
  | ws, i :: is, c :: cs => setAll (ws.set i c) is cs
  | ws, _, _ => ws
theorem setAll_in : ∀ (isC : List Nat) (w1 ws : va_W), w1.length = isC.length → ∀ (j : Nat) (q : Nat × va_E), (setAll ws isC w1)[j]? = some q → q ∈ w1 ∨ (ws[j]? = some q ∧ j ∉ isC) := by
  intro isC
  induction isC with
  | nil =>
    intro w1 ws hl j q h
    cases w1 with
    | nil => exact Or.inr ⟨h, List.not_mem_nil⟩
    | cons c cs => simp at hl
  | cons i is ih =>
    intro w1 ws hl j q h
    cases w1 with
    | nil => simp at hl
    | cons c cs =>
      rcases ih cs (ws.set i c) (by simpa using hl) j q h with h1 | ⟨h1, h2⟩
      · exact Or.inl (List.mem_cons_of_mem _ h1)
      · by_cases hj : j = i
        · subst hj
          have hlt : j < (ws.set j c).length := (List.getElem?_eq_some_iff.mp h1).1
          rw [List.length_set] at hlt
          rw [List.getElem?_set_self hlt] at h1
          cases h1
          exact Or.inl List.mem_cons_self
        · rw [List.getElem?_set_ne (Ne.symm hj)] at h1
          exact Or.inr ⟨h1, fun z => (List.mem_cons.mp z).elim hj h2⟩
theorem setAll_fst : ∀ (isC : List Nat) (w1 ws : va_W), (∀ (t i : Nat) (c : Nat × va_E), isC[t]? = some i → w1[t]? = some c → (ws.map Prod.fst)[i]? = some c.1) → (setAll ws isC w1).map Prod.fst = ws.map Prod.fst := by
  intro isC
  induction isC with
  | nil => intro w1 ws _; cases w1 <;> rfl
  | cons i is ih =>
    intro w1 ws h
    cases w1 with
    | nil => rfl
    | cons c cs =>
      have h0 : (ws.map Prod.fst)[i]? = some c.1 := h 0 i c rfl rfl
      have e : (ws.set i c).map Prod.fst = ws.map Prod.fst := by
        rw [List.map_set]
        apply List.ext_getElem?
        intro j
        by_cases hj : j = i
        · subst hj
          have hlt : j < (ws.map Prod.fst).length := (List.getElem?_eq_some_iff.mp h0).1
          rw [List.getElem?_set_self hlt, h0]
        · rw [List.getElem?_set_ne (Ne.symm hj)]
      show (setAll (ws.set i c) is cs).map Prod.fst = _
      rw [ih cs (ws.set i c) (fun t i' c' h1 h2 => by rw [e]; exact h (t + 1) i' c' (by simpa using h1) (by simpa using h2)), e]
theorem setAll_ok {A : Nat → Prop} {D : va_G} {cl : List vw_C} {ws wc w1 : va_W} {H H1 : Heap} (hP : va_P D cl ws H) (hD : va_D A ws) (isC : List Nat) (hC : isC.map (fun i => ws[i]?) = wc.map some) (hadr : w1.map Prod.fst = wc.map Prod.fst)
    (hk : ∀ q : Nat, q < H.size → ¬ va_A wc H.size q → H1[q]? = H[q]?) (hP1 : va_P D cl w1 H1) : va_P D cl (setAll ws isC w1) H1 ∧ va_D A (setAll ws isC w1) := by
  have hlC : isC.length = wc.length := by simpa using congrArg List.length hC
  have hl1 : w1.length = wc.length := by simpa using congrArg List.length hadr
  have hat : ∀ (t i : Nat), isC[t]? = some i → ∃ q, wc[t]? = some q ∧ ws[i]? = some q := by
    intro t i h
    have h1 : (isC.map (fun i => ws[i]?))[t]? = some ws[i]? := by rw [List.getElem?_map, h]; rfl
    rw [hC, List.getElem?_map] at h1
    cases hw : wc[t]? with
    | none => rw [hw] at h1; cases h1
    | some q => rw [hw] at h1; exact ⟨q, rfl, (Option.some.inj h1).symm⟩
  have hf : (setAll ws isC w1).map Prod.fst = ws.map Prod.fst := by
    refine setAll_fst isC w1 ws (fun t i c h1 h2 => ?_)
    obtain ⟨q, g1, g2⟩ := hat t i h1
    have h3 : (w1.map Prod.fst)[t]? = some c.1 := by rw [List.getElem?_map, h2]; rfl
    rw [hadr, List.getElem?_map, g1] at h3
    have h4 : q.1 = c.1 := Option.some.inj h3
    rw [List.getElem?_map, g2, ← h4]; rfl
  have hfst : ∀ (j : Nat) (q : Nat × va_E), (setAll ws isC w1)[j]? = some q → ∃ q0, ws[j]? = some q0 ∧ q0.1 = q.1 := by
    intro j q h
    have h1 : ((setAll ws isC w1).map Prod.fst)[j]? = some q.1 := by rw [List.getElem?_map, h]; rfl
    rw [hf, List.getElem?_map] at h1
    cases hw : ws[j]? with
    | none => rw [hw] at h1; cases h1
    | some q0 => rw [hw] at h1; exact ⟨q0, rfl, Option.some.inj h1⟩
  refine ⟨fun j q h => ?_, fun i j x y hi hj hxy => ?_, fun j q h => ?_⟩
  · rcases setAll_in isC w1 ws (by omega) j q h with h1 | ⟨h1, h2⟩
    · obtain ⟨t, ht⟩ := List.getElem?_of_mem h1
      exact hP1 t q ht
    · have hlt := (hP j q h1).lt
      refine (hP j q h1).kept (hk q.1 hlt (fun z => ?_))
      rcases z with ⟨t, e, z⟩ | z
      · have hlt2 : t < isC.length := by rw [hlC]; exact (List.getElem?_eq_some_iff.mp z).1
        obtain ⟨q', g1, g2⟩ := hat t isC[t] (List.getElem?_eq_getElem hlt2)
        rw [z] at g1
        cases g1
        have := hD.1 j _ q _ h1 g2 rfl
        exact h2 (by rw [this]; exact List.getElem_mem hlt2)
      · omega
  · obtain ⟨x0, a1, a2⟩ := hfst i x hi
    obtain ⟨y0, b1, b2⟩ := hfst j y hj
    exact hD.1 i j x0 y0 a1 b1 (a2.trans (hxy.trans b2.symm))
  · obtain ⟨q0, a1, a2⟩ := hfst j q h
    rw [← a2]
    exact hD.2 j q0 a1
