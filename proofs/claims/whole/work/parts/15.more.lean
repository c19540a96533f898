theorem ix2 {P : Nat → Prop} (h0 : P 0) (h1 : P 1) (w : Nat) (hw : w < 2) : P w := by
  rcases (by omega : w = 0 ∨ w = 1) with rfl | rfl <;> assumption
theorem ix3 {P : Nat → Prop} (h0 : P 0) (h1 : P 1) (h2 : P 2) (w : Nat) (hw : w < 3) : P w := by
  rcases (by omega : w = 0 ∨ w = 1 ∨ w = 2) with rfl | rfl | rfl <;> assumption
theorem ix5 {P : Nat → Prop} (h0 : P 0) (h1 : P 1) (h2 : P 2) (h3 : P 3) (h4 : P 4) (w : Nat) (hw : w < 5) : P w := by
  rcases (by omega : w = 0 ∨ w = 1 ∨ w = 2 ∨ w = 3 ∨ w = 4) with rfl | rfl | rfl | rfl | rfl <;> assumption
theorem ix8 {P : Nat → Prop} (h0 : P 0) (h1 : P 1) (h2 : P 2) (h3 : P 3) (h4 : P 4) (h5 : P 5) (h6 : P 6) (h7 : P 7) (w : Nat) (hw : w < 8) : P w := by
  rcases (by omega : w = 0 ∨ w = 1 ∨ w = 2 ∨ w = 3 ∨ w = 4 ∨ w = 5 ∨ w = 6 ∨ w = 7) with rfl | rfl | rfl | rfl | rfl | rfl | rfl | rfl <;> assumption
theorem sw_case {Gl : Prop} {x : Int32} (kv : Int32) {α : Type} {E F : Option α} {u : α} (hg : (if x = kv then E else F) = some u) (kt : x = kv → E = some u → Gl) (kf : ¬ x = kv → F = some u → Gl) : Gl := by
  by_cases h : x = kv
  · exact kt h (br_p hg h)
  · exact kf h (br_n hg h)
section JSW
variable {X : jX} {l0 : Launch} {cc : ByteArray} {own : String} {Ts : List Cond} {G : jG} {rm : Room} {nL : Nat} {k n pc : Nat} {ws : va_W} {lv : List (Nat × Value)} {st : List Value}
theorem j_tin (hX : jC X l0 cc own Ts G rm nL) {x kv : Int32} (hx : x = kv) (tgt : Nat) {dflt lo hi off : Int} {offs : Array Int} {len : Nat} (hd : decode cc pc = .ok (.tableswitch dflt lo hi offs, len)) (h1 : ¬ kv.toInt < lo) (h2 : ¬ hi < kv.toInt) (ho : offs[(kv.toInt - lo).toNat]? = some off) (ht : (pc : Int) + off = (tgt : Int)) (kk : J X k n ws tgt lv st) : J X k n ws pc lv (.int x :: st) := by
  subst hx
  obtain ⟨p, l, e, R, s, m, args, below, meth, c, Q, I, nL'⟩ := X
  obtain ⟨hx, hb, -⟩ := hX
  intro H locs ls hI hl
  exact lv_tableIn hx hb hd h1 h2 ho ht (kk H locs ls hI hl)
theorem j_tdef (hX : jC X l0 cc own Ts G rm nL) {x : Int32} (ks : List Int32) (tgt : Nat) {dflt lo hi : Int} {offs : Array Int} {len : Nat} (hd : decode cc pc = .ok (.tableswitch dflt lo hi offs, len)) (hh : ∀ q, q < offs.size → offs[q]? = some dflt ∨ Int32.ofInt (lo + q) ∈ ks) (hsz : (offs.size : Int) = hi - lo + 1) (hks : ∀ z ∈ ks, ¬ x = z) (ht : (pc : Int) + dflt = (tgt : Int)) (kk : J X k n ws tgt lv st) : J X k n ws pc lv (.int x :: st) := by
  obtain ⟨p, l, e, R, s, m, args, below, meth, c, Q, I, nL'⟩ := X
  obtain ⟨hx, hb, -⟩ := hX
  intro H locs ls hI hl
  by_cases ho : x.toInt < lo ∨ hi < x.toInt
  · exact lv_tableOut hx hb hd ho ht (kk H locs ls hI hl)
  · have h1 : ¬ x.toInt < lo := fun h => ho (Or.inl h)
    have h2 : ¬ hi < x.toInt := fun h => ho (Or.inr h)
    have hq : (x.toInt - lo).toNat < offs.size := by omega
    rcases hh _ hq with h | h
    · exact lv_tableIn hx hb hd h1 h2 h ht (kk H locs ls hI hl)
    · refine absurd ?_ (hks _ h)
      have e1 : lo + ((x.toInt - lo).toNat : Int) = x.toInt := by omega
      rw [e1, Int32.ofInt_toInt]
theorem j_acopy (hX : jC X l0 cc own Ts G rm nL) (hW : jW X G) (q0 : Nat) (sp dp m0 : Int32) {idx a N : Nat} {f : Nat → Int32} (ha : ws[q0]? = some (aI G a N f)) (h1 : ¬ sp < 0) (h2 : ¬ dp < 0) (h3 : ¬ m0 < 0) (h4 : sp.toNatClampNeg + m0.toNatClampNeg ≤ N) (h5 : dp.toNatClampNeg + m0.toNatClampNeg ≤ N) (w1 : Cond.methodLink own idx arraycopyName ∈ Ts) (w2 : Cond.native arraycopyName ∈ Ts) (w3 : Cond.static arraycopyName ∈ Ts) (w4 : Cond.initialized "java/lang/System" ∈ Ts) (hR : (Nat.ble 1 rm.frames && Nat.ble ((st.map fun v => v.category).sum + (nativeFrameWords "java/lang/System" "arraycopy" 5 + 11)) rm.locals) = true) (hd : decode cc pc = .ok (.invokestatic idx, 3)) {ws' : va_W} (hw : ws.set q0 (aI G a N (va_cpy f f sp.toNatClampNeg dp.toNatClampNeg m0.toNatClampNeg)) = ws') (kk : J X k n ws' (pc + 3) lv st) : J X k n ws pc lv (.int m0 :: .int dp :: .ref a :: .int sp :: .ref a :: st) := by
  obtain ⟨p, l, e, R, s, m, args, below, meth, c, Q, I, nL'⟩ := X
  obtain ⟨hx, hb, hml, hnl, hown, hts, hK, hI0, hRR, hll⟩ := hX
  obtain ⟨A, hA, rfl⟩ := hW
  subst hnl; subst hRR; subst hll; subst hw
  rw [Bool.and_eq_true] at hR
  intro H locs ls hI hl
  obtain ⟨hP, hD, hS⟩ := hI
  exact va_copyi hx hb (hml.trans hl.1.symm) hown (hts _ w1) (hts _ w2) (hts _ w3) (hts _ w4) hK hP hD hS q0 q0 0 0 ha ha rfl rfl rfl h1 h2 h3 h4 h5 (fun _ _ => rfl) (Nat.le_of_ble_eq_true hR.1) (Nat.le_of_ble_eq_true hR.2) hd (fun H1 locs1 hP1 hD1 hS1 => kk H1 locs1 ls ⟨hP1, hD1, hS1⟩ hl)
end JSW
theorem kb_m4 : (Int8.ofInt (-4)).toInt32 = (-4) := by decide +kernel
theorem kb_m3 : (Int8.ofInt (-3)).toInt32 = (-3) := by decide +kernel
theorem kb_m2 : (Int8.ofInt (-2)).toInt32 = (-2) := by decide +kernel
theorem kb_6 : (Int8.ofInt 6).toInt32 = 6 := by decide +kernel
theorem kb_7 : (Int8.ofInt 7).toInt32 = 7 := by decide +kernel
theorem kb_8 : (Int8.ofInt 8).toInt32 = 8 := by decide +kernel
theorem kb_9 : (Int8.ofInt 9).toInt32 = 9 := by decide +kernel
theorem kb_10 : (Int8.ofInt 10).toInt32 = 10 := by decide +kernel
theorem kb_20 : (Int8.ofInt 20).toInt32 = 20 := by decide +kernel
theorem kb_24 : (Int8.ofInt 24).toInt32 = 24 := by decide +kernel
theorem kb_29 : (Int8.ofInt 29).toInt32 = 29 := by decide +kernel
theorem kb_30 : (Int8.ofInt 30).toInt32 = 30 := by decide +kernel
theorem kb_38 : (Int8.ofInt 38).toInt32 = 38 := by decide +kernel
theorem kb_44 : (Int8.ofInt 44).toInt32 = 44 := by decide +kernel
theorem kb_48 : (Int8.ofInt 48).toInt32 = 48 := by decide +kernel
theorem kb_59 : (Int8.ofInt 59).toInt32 = 59 := by decide +kernel
theorem kb_60 : (Int8.ofInt 60).toInt32 = 60 := by decide +kernel
theorem kb_64 : (Int8.ofInt 64).toInt32 = 64 := by decide +kernel
theorem kb_70 : (Int8.ofInt 70).toInt32 = 70 := by decide +kernel
theorem kb_74 : (Int8.ofInt 74).toInt32 = 74 := by decide +kernel
theorem kb_78 : (Int8.ofInt 78).toInt32 = 78 := by decide +kernel
theorem kb_99 : (Int8.ofInt 99).toInt32 = 99 := by decide +kernel
theorem kb_100 : (Int8.ofInt 100).toInt32 = 100 := by decide +kernel
theorem kc_m1 : Int32.ofInt (-1) = (-1) := by decide +kernel
theorem kc_0 : Int32.ofInt 0 = 0 := by decide +kernel
theorem kc_1 : Int32.ofInt 1 = 1 := by decide +kernel
theorem kc_2 : Int32.ofInt 2 = 2 := by decide +kernel
theorem kc_3 : Int32.ofInt 3 = 3 := by decide +kernel
theorem kc_4 : Int32.ofInt 4 = 4 := by decide +kernel
theorem kc_5 : Int32.ofInt 5 = 5 := by decide +kernel
theorem ks_300 : (Int16.ofInt 300).toInt32 = 300 := by decide +kernel
theorem ks_600 : (Int16.ofInt 600).toInt32 = 600 := by decide +kernel
theorem ks_9999 : (Int16.ofInt 9999).toInt32 = 9999 := by decide +kernel
theorem ks_10000 : (Int16.ofInt 10000).toInt32 = 10000 := by decide +kernel
theorem rm_ok {a b c d : Nat} (h1 : a ≤ b) (h2 : c ≤ d) : (Nat.ble a b && Nat.ble c d) = true := by simp [Nat.ble_eq, h1, h2]
