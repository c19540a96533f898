/-! ===== making cells: constructors ===== -/
/-- what the tables say beside the words: arrays over the own classes, private constructors of nest mates -/
def jEx (U : State) : Prop := va_AO "UnsayingDrums$Beats" U ∧ va_AO "UnsayingDrums$Queue" U ∧ va_AO "UnsayingDrums$Row" U ∧ va_AO "UnsayingDrums$SortRow" U ∧ va_Nw (.methodLinkNest "UnsayingDrums" 9 yX9_init "UnsayingDrums") U ∧ va_Nw (.methodLinkNest "UnsayingDrums" 34 yX0_init "UnsayingDrums") U ∧ va_Nw (.methodLinkNest "UnsayingDrums" 41 yX8_init "UnsayingDrums") U
def jEs (X : jX) : Prop := match X with
  | (_, _, _, _, s, _, _, _, _, _, _, _, _) => jEx s
abbrev cwP (G : jG) (av : List Value) (wc : va_W) (sz : Nat) : Array Value → State → Prop := va_Pc av (fun U => U.heap.size = sz ∧ va_P (jD G) vwCl wc U.heap ∧ jK G U ∧ va_D (fun _ => True) wc ∧ jEx U)
abbrev MetC (l : Launch) (G : jG) (y : MethodName) (wsM : List Cond) (rm : Room) (av : List Value) (wc : va_W) (w1 : (Nat → Nat) → va_W) (mc ms : Nat) : Prop := ∀ sz, Met l y wsM rm (cwP G av wc sz) (va_Qv (fun (_ : Nat → Nat) => True) (fun u t => va_P (jD G) vwCl (w1 u) t.heap ∧ va_D (va_A wc sz) (w1 u)) (va_A wc sz)) mc ms (va_A wc sz)
theorem jEx.warm {s U : State} (hW : s.WarmedH U.vm) (h : jEx s) : jEx U := by
  obtain ⟨h1, h2, h3, h4, h5, h6, h7⟩ := h
  exact ⟨h1.moved hW.alike, h2.moved hW.alike, h3.moved hW.alike, h4.moved hW.alike, va_Nw.warmM hW h5, va_Nw.warmM hW h6, va_Nw.warmM hW h7⟩
theorem jEx.calling {U : State} (g : JFrame) (mk : MethodId) (a : Array Value) (h : jEx U) : jEx (U.calling g mk a) := h
theorem cw_blind (G : jG) (av : List Value) (wc : va_W) (sz : Nat) : FrameBlind (cwP G av wc sz) := fun a U g mk q => by
  obtain ⟨q0, q1, qP, qK, qD, qE⟩ := q
  exact ⟨q0, q1, qP, va_K.moved (u := U) (U := U.calling g mk a) (Vm.Alike.refl U.vm) qK, qD, jEx.calling g mk a qE⟩
theorem jK_one {G : jG} {s : State} {cA : ClassId} {ty : FieldType} (t0 : Nat) (c0 : ClassId) (hK : jK G s) (h0 : (jtys G)[t0]? = some (c0, ty)) (hf : s.vm.findClass ("[" ++ ty.toString) = some cA) : cA = c0 := by
  have h1 := (hK.2 t0 _ h0).2
  have h2 : s.vm.findClass ("[" ++ ty.toString) = some c0 := by
    cases ty with
    | object C => obtain ⟨kA, comp, -, -, -, h4⟩ := h1; exact h4
    | _ => exact h1
  exact Option.some.inj (hf.symm.trans h2)
section JALLOC
variable {X : jX} {l0 : Launch} {cc : ByteArray} {own : String} {Ts : List Cond} {G : jG} {rm : Room} {nL : Nat} {k n pc : Nat} {ws : va_W} {lv : List (Nat × Value)} {st : List Value}
theorem j_sub (hW : jW X G) (ps : List Nat) {ws' : va_W} (h : ps.map (fun i => ws[i]?) = ws'.map some) (hn : va_nd ps = true) (kk : J X k n ws' pc lv st) : J X k n ws pc lv st := by
  obtain ⟨p, l, e, R, s, m, args, below, meth, c, Q, I, nL'⟩ := X
  obtain ⟨A, hA, rfl⟩ := hW
  intro H locs ls hI hl
  obtain ⟨hP, hD, hS⟩ := hI
  have hP2 : va_P (jD G) vwCl ws' H := hP.sub ps (by
    have h1 : (ps.map (fun i => ws[i]?)).filterMap id = (ws'.map some).filterMap id := by rw [h]
    simpa [List.filterMap_map] using h1)
  exact kk H locs ls ⟨hP2, hD.sub ps hn h, hS⟩ hl
theorem j_qarr (hW : jW X G) (q0 : Nat) {a N : Nat} {cA : ClassId} {f f' : Nat → Option Nat} (ha : ws[q0]? = some (aQ cA a N f)) (hf : ∀ j, j < N → f j = f' j) {ws' : va_W} (hw : ws.set q0 (aQ cA a N f') = ws') (kk : J X k n ws' pc lv st) : J X k n ws pc lv st := by
  obtain ⟨p, l, e, R, s, m, args, below, meth, c, Q, I, nL'⟩ := X
  obtain ⟨A, hA, rfl⟩ := hW
  subst hw
  intro H locs ls hI hl
  obtain ⟨hP, hD, hS⟩ := hI
  refine kk H locs ls ⟨hP.set hD ha ?_ (fun _ _ => rfl), hD.set ha, hS⟩ hl
  have h1 : H[a]? = some (vp_cell cA (N, .inr (.inr (.inr (.inr f))))) := hP q0 _ ha
  show H[a]? = some (vp_cell cA (N, .inr (.inr (.inr (.inr f')))))
  rw [h1, vp_cell_q, vp_cell_q]
  have h2 : (fun j : Fin N => va_rf (f j.val)) = (fun j : Fin N => va_rf (f' j.val)) := by
    funext j
    rw [hf j.val j.isLt]
  simp only [arrV]
  rw [h2]
theorem j_objInit (hX : jC X l0 cc own Ts G rm nL) {idx a : Nat} (h1 : Cond.methodLink own idx Lib.objectInit ∈ Ts) (h2 : Cond.instanceMethod Lib.objectInit ∈ Ts) (h3 : Cond.code Lib.objectInit ⟨#[0xb1]⟩ 1 none ∈ Ts) (hd : decode cc pc = .ok (.invokespecial idx, 3)) (hR : (Nat.ble 1 rm.frames && Nat.ble ((st.map fun v => v.category).sum + 12) rm.locals) = true) (kk : J X k n ws (pc + 3) lv st) : J X k n ws pc lv (.ref a :: st) := by
  obtain ⟨p, l, e, R, s, m, args, below, meth, c, Q, I, nL'⟩ := X
  obtain ⟨hx, hb, hml, hnl, hown, hts, hK, hI0, hRR, hll⟩ := hX
  subst hnl; subst hRR; subst hll
  rw [Bool.and_eq_true] at hR
  have hR2 := Nat.le_of_ble_eq_true hR.2
  intro H locs ls hI hl
  exact W.objInit hx hb hown (hts _ h1) (hts _ h2) (hts _ h3) (g := F0 m pc ls (.ref a :: st)) rfl (by rw [hml]; exact hl.1) rfl hd (Nat.le_of_ble_eq_true hR.1) (by show 2 * 0 + _ + 12 ≤ _; omega) (kk H locs ls hI hl)
theorem j_new (hX : jC X l0 cc own Ts G rm nL) (hW : jW X G) {C : String} {T : u_T} {N ci idx : Nat} (fs : List Value) (hc : vwCl[ci]? = some (C, T, N)) (hin : ∀ w ∈ u_ws C T N, w ∈ Ts) (tf : Nat → FieldType) (hty : ∀ k, k < N → parseFieldDescriptor (T k).2.2.1 = some (tf k)) (h1 : Cond.classLink own idx C ∈ Ts) (h2 : Cond.instantiable C N ∈ Ts) (h3 : Cond.initialized C ∈ Ts) (hfs : ∀ j, j < N → defaultValue (tf j) = vp_V fs j) (hR : (Nat.ble (k + 1) rm.cells && Nat.ble (n + N) rm.slots) = true) (hd : decode cc pc = .ok (.new idx, 3)) (kk : ∀ q : Nat, J X (k + 1) (n + N) (ws ++ [oC q ci fs]) (pc + 3) lv (.ref q :: st)) : J X k n ws pc lv st := by
  obtain ⟨p, l, e, R, s, m, args, below, meth, c, Q, I, nL'⟩ := X
  obtain ⟨hx, hb, hml, hnl, hown, hts, hK, hI0, hRR, hll⟩ := hX
  obtain ⟨A, hA, rfl⟩ := hW
  subst hnl; subst hRR; subst hll
  rw [Bool.and_eq_true] at hR
  intro H locs ls hI hl
  obtain ⟨hP, hD, hS⟩ := hI
  exact va_new hx hb hts hin tf hty hown (hts _ h1) (hts _ h2) (hts _ h3) hK hP hD hS hA hc hfs (Nat.le_of_ble_eq_true hR.1) (Nat.le_of_ble_eq_true hR.2) hd (fun q H1 hP1 hD1 hS1 => kk q H1 locs ls ⟨hP1, hD1, hS1⟩ hl)
theorem j_newI (hX : jC X l0 cc own Ts G rm nL) (hW : jW X G) {i : Int32} (N : Nat) (h1 : Cond.arrayClass .int ∈ Ts) (hi : ¬ i < 0) (hN : i.toNatClampNeg = N) (hb0 : N * componentBytes .int ≤ 536870912) (hR : k + 1 ≤ rm.cells ∧ n + N ≤ rm.slots) (hd : decode cc pc = .ok (.newarray .int, 2)) (kk : ∀ q : Nat, J X (k + 1) (n + N) (ws ++ [aI G q N (fun _ => 0)]) (pc + 2) lv (.ref q :: st)) : J X k n ws pc lv (.int i :: st) := by
  obtain ⟨p, l, e, R, s, m, args, below, meth, c, Q, I, nL'⟩ := X
  obtain ⟨hx, hb, hml, hnl, hown, hts, hK, hI0, hRR, hll⟩ := hX
  obtain ⟨A, hA, rfl⟩ := hW
  subst hnl; subst hRR; subst hll
  intro H locs ls hI hl
  obtain ⟨hP, hD, hS⟩ := hI
  refine va_newa hx hb (atype := .int) (hts _ h1) (ty := .int) rfl hK hP hD hS hA (a0 := (N, .inl (fun _ => 0))) (fun cA => rfl) hi hN hb0 hR.1 hR.2 hd (fun q cA H1 hK1 hP1 hD1 hS1 => ?_)
  have e1 : cA = jcI G := jK_one 0 _ hK rfl (hK1.2 (jtys G).length (cA, .int) (by rw [List.getElem?_append_right (Nat.le_refl _), Nat.sub_self]; rfl)).2
  subst e1
  exact kk q H1 locs ls ⟨hP1, hD1, hS1⟩ hl
theorem j_newB (hX : jC X l0 cc own Ts G rm nL) (hW : jW X G) {i : Int32} (N : Nat) (h1 : Cond.arrayClass .byte ∈ Ts) (hi : ¬ i < 0) (hN : i.toNatClampNeg = N) (hb0 : N * componentBytes .byte ≤ 536870912) (hR : k + 1 ≤ rm.cells ∧ n + N ≤ rm.slots) (hd : decode cc pc = .ok (.newarray .byte, 2)) (kk : ∀ q : Nat, J X (k + 1) (n + N) (ws ++ [aB G q N (fun _ => 0)]) (pc + 2) lv (.ref q :: st)) : J X k n ws pc lv (.int i :: st) := by
  obtain ⟨p, l, e, R, s, m, args, below, meth, c, Q, I, nL'⟩ := X
  obtain ⟨hx, hb, hml, hnl, hown, hts, hK, hI0, hRR, hll⟩ := hX
  obtain ⟨A, hA, rfl⟩ := hW
  subst hnl; subst hRR; subst hll
  intro H locs ls hI hl
  obtain ⟨hP, hD, hS⟩ := hI
  refine va_newa hx hb (atype := .byte) (hts _ h1) (ty := .byte) rfl hK hP hD hS hA (a0 := (N, .inl (fun _ => 0))) (fun cA => rfl) hi hN hb0 hR.1 hR.2 hd (fun q cA H1 hK1 hP1 hD1 hS1 => ?_)
  have e1 : cA = jcB G := jK_one 1 _ hK rfl (hK1.2 (jtys G).length (cA, .byte) (by rw [List.getElem?_append_right (Nat.le_refl _), Nat.sub_self]; rfl)).2
  subst e1
  exact kk q H1 locs ls ⟨hP1, hD1, hS1⟩ hl
theorem j_newZ (hX : jC X l0 cc own Ts G rm nL) (hW : jW X G) {i : Int32} (N : Nat) (h1 : Cond.arrayClass .boolean ∈ Ts) (hi : ¬ i < 0) (hN : i.toNatClampNeg = N) (hb0 : N * componentBytes .boolean ≤ 536870912) (hR : k + 1 ≤ rm.cells ∧ n + N ≤ rm.slots) (hd : decode cc pc = .ok (.newarray .boolean, 2)) (kk : ∀ q : Nat, J X (k + 1) (n + N) (ws ++ [aZ G q N (fun _ => 0)]) (pc + 2) lv (.ref q :: st)) : J X k n ws pc lv (.int i :: st) := by
  obtain ⟨p, l, e, R, s, m, args, below, meth, c, Q, I, nL'⟩ := X
  obtain ⟨hx, hb, hml, hnl, hown, hts, hK, hI0, hRR, hll⟩ := hX
  obtain ⟨A, hA, rfl⟩ := hW
  subst hnl; subst hRR; subst hll
  intro H locs ls hI hl
  obtain ⟨hP, hD, hS⟩ := hI
  refine va_newa hx hb (atype := .boolean) (hts _ h1) (ty := .boolean) rfl hK hP hD hS hA (a0 := (N, .inl (fun _ => 0))) (fun cA => rfl) hi hN hb0 hR.1 hR.2 hd (fun q cA H1 hK1 hP1 hD1 hS1 => ?_)
  have e1 : cA = jcZ G := jK_one 2 _ hK rfl (hK1.2 (jtys G).length (cA, .boolean) (by rw [List.getElem?_append_right (Nat.le_refl _), Nat.sub_self]; rfl)).2
  subst e1
  exact kk q H1 locs ls ⟨hP1, hD1, hS1⟩ hl
theorem j_newQ (hX : jC X l0 cc own Ts G rm nL) (hW : jW X G) (hE : jEs X) {i : Int32} (N : Nat) {C : String} {idx : Nat} (t0 : Nat) (c0 : ClassId) (h0 : (jtys G)[t0]? = some (c0, .object C)) (h1 : Cond.classLink own idx C ∈ Ts) (hov : ∀ s, jEx s → va_AO C s) (hi : ¬ i < 0) (hN : i.toNatClampNeg = N) (hb0 : N * 4 ≤ 536870912) (hR : k + 1 ≤ rm.cells ∧ n + N ≤ rm.slots) (hd : decode cc pc = .ok (.anewarray idx, 3)) (kk : ∀ q : Nat, J X (k + 1) (n + N) (ws ++ [aQ c0 q N (fun _ => none)]) (pc + 3) lv (.ref q :: st)) : J X k n ws pc lv (.int i :: st) := by
  obtain ⟨p, l, e, R, s, m, args, below, meth, c, Q, I, nL'⟩ := X
  obtain ⟨hx, hb, hml, hnl, hown, hts, hK, hI0, hRR, hll⟩ := hX
  obtain ⟨A, hA, rfl⟩ := hW
  subst hnl; subst hRR; subst hll
  intro H locs ls hI hl
  obtain ⟨hP, hD, hS⟩ := hI
  refine va_newq hx hb hown (hts _ h1) (hov s hE) hK hP hD hS hA hi hN hb0 hR.1 hR.2 hd (fun q cA H1 hK1 hP1 hD1 hS1 => ?_)
  obtain ⟨kA, comp, -, -, -, h4⟩ := (hK1.2 (jtys G).length (cA, .object C) (by rw [List.getElem?_append_right (Nat.le_refl _), Nat.sub_self]; rfl)).2
  have e1 : cA = c0 := jK_one t0 _ hK h0 h4
  subst e1
  exact kk q H1 locs ls ⟨hP1, hD1, hS1⟩ hl
theorem j_aast (hX : jC X l0 cc own Ts G rm nL) (hW : jW X G) (q0 t0 qk ci : Nat) {a N v : Nat} {cA : ClassId} {r : vw_C} {vs : List Value} {f : Nat → Option Nat} {i : Int32} (ha : ws[q0]? = some (aQ cA a N f)) (ht : (jtys G)[t0]? = some (cA, .object r.1)) (hv : ws[qk]? = some (v, .inr (ci, vs))) (hc : vwCl[ci]? = some r) (hin : vp_in i N) (hd : decode cc pc = .ok (.aastore, 1)) {ws' : va_W} (hw : ws.set q0 (aQ cA a N (va_up f i.toNatClampNeg (some v))) = ws') (kk : J X k n ws' (pc + 1) lv st) : J X k n ws pc lv (.ref v :: .int i :: .ref a :: st) := by
  obtain ⟨p, l, e, R, s, m, args, below, meth, c, Q, I, nL'⟩ := X
  obtain ⟨hx, hb, hml, hnl, hown, hts, hK, hI0, hRR, hll⟩ := hX
  obtain ⟨A, hA, rfl⟩ := hW
  subst hw
  intro H locs ls hI hl
  obtain ⟨hP, hD, hS⟩ := hI
  exact va_astq hx hb hK hP hD hS q0 t0 qk ci ha ht hv hc hin hd (fun H1 locs1 hP1 hD1 hS1 => kk H1 locs1 ls ⟨hP1, hD1, hS1⟩ hl)
/-- a constructor's call -/
theorem j_iC (hX : jC X l0 cc own Ts G rm nL) (hW : jW X G) (hE : jEs X) {y : MethodName} {wsM ws2 : List Cond} {rm2 : Room} {bytes : ByteArray} {maxL idx mc ms : Nat} (As : List Value) {b np : Nat} {wc wr : va_W} {w1 : (Nat → Nat) → va_W}
    (hM : MetC l0 G y wsM rm2 (.ref b :: As) wc w1 mc ms) (hT : GoodIn Ts wsM) (hw : wsM = Cond.code y bytes maxL none :: ws2) (hz : rm2.cells = mc ∧ rm2.slots = ms) (hini : Cond.initialized y.cls ∈ Ts) (hlk : Cond.methodLink own idx y ∈ Ts) (hinst : Cond.instanceMethod y ∈ Ts) (hy1 : y.name = "<init>")
    (hdd : y.cls ≠ "java/lang/invoke/MethodHandle" ∧ y.cls ≠ "java/lang/invoke/VarHandle" ∧ (parseMethodDescriptor y.desc).map (fun d => d.parameters.length) = some np) (hnp : As.length = np) (hR : (Nat.ble (rm2.frames + 1) rm.frames && Nat.ble (8 + (maxL + 11) + rm2.locals) rm.locals) = true)
    (isC isR : List Nat) (hC : isC.map (fun i => ws[i]?) = wc.map some) (hndC : va_nd isC = true) (hRr : isR.map (fun i => ws[i]?) = wr.map some) (hnd : va_nd isR = true) (hdis : ∀ i ∈ isR, i ∉ isC) (hd : decode cc pc = .ok (.invokespecial idx, 3)) {stk : List Value} (hs : stk = As.reverse ++ .ref b :: st) (hst : Nat.ble ((st.map fun v => v.category).sum) 8 = true) (hkn : k + mc ≤ rm.cells ∧ n + ms ≤ rm.slots)
    (kk : ∀ u, J X (k + mc) (n + ms) (wr ++ w1 u) (pc + 3) lv st) : J X k n ws pc lv stk := by
  obtain ⟨p, l, e, R, s, m, args, below, meth, c, Q, I, nL'⟩ := X
  obtain ⟨hx, hb, hml, hnl, hown, hts, hK, hI0, hRR, hll⟩ := hX
  obtain ⟨A, hA, rfl⟩ := hW
  subst hnl; subst hRR; subst hll
  rw [Bool.and_eq_true] at hR
  intro H locs ls hI hl
  obtain ⟨hP, hD, hS⟩ := hI
  have hPc : va_P (jD G) vwCl wc H := hP.sub isC (by
    have h1 : (isC.map (fun i => ws[i]?)).filterMap id = (wc.map some).filterMap id := by rw [hC]
    simpa [List.filterMap_map] using h1)
  have hDc := hD.sub isC hndC hC
  have hFc := va_free hD hS hA isC hC
  refine va_callv (va_runI (As := As) (rest := st) ⟨hx, hb, hml, hown, hts⟩ (hM H.size) (cwI np hts hT hw hz.1 hz.2 (hts _ hini) (hts _ hlk) (hts _ hinst) hy1 hdd ⟨Nat.le_of_ble_eq_true hR.1, Nat.le_of_ble_eq_true hR.2⟩) ⟨cw_blind G _ wc H.size, fun U hU hWm => ⟨rfl, by rw [hU], by rw [hU]; exact hPc, va_K.moved hWm.alike hK, hDc.weaken (fun _ _ _ _ => trivial), jEx.warm hWm hE⟩⟩ rfl hnp hl.1 hs (lv_room (Nat.le_of_ble_eq_true hst)) hd hkn) hS (fun q _ h => hFc q h) hFc (fun u t H1 locs1 ht hvm hpost hB hz1 hk1 hS1 => ?_)
  obtain ⟨hP1, hD1⟩ := hB
  rw [ht] at hP1
  obtain ⟨hP2, hD2⟩ := va_join hP hD isC isR hC hRr hnd hdis hk1 hFc hP1 hD1
  exact kk u H1 locs1 ls ⟨hP2, hD2, hS1⟩ hl
/-- a nest mate's private constructor -/
theorem j_iCN (hX : jC X l0 cc own Ts G rm nL) (hW : jW X G) (hE : jEs X) {y : MethodName} {wsM ws2 : List Cond} {rm2 : Room} {bytes : ByteArray} {maxL idx mc ms : Nat} (As : List Value) {b np : Nat} {host : String} {wc wr : va_W} {w1 : (Nat → Nat) → va_W}
    (hM : MetC l0 G y wsM rm2 (.ref b :: As) wc w1 mc ms) (hT : GoodIn Ts wsM) (hw : wsM = Cond.code y bytes maxL none :: ws2) (hz : rm2.cells = mc ∧ rm2.slots = ms) (hini : Cond.initialized y.cls ∈ Ts) (hlk : ∀ s, jEx s → va_Nw (.methodLinkNest own idx y host) s) (hinst : Cond.instanceMethod y ∈ Ts) (hy1 : y.name = "<init>")
    (hdd : y.cls ≠ "java/lang/invoke/MethodHandle" ∧ y.cls ≠ "java/lang/invoke/VarHandle" ∧ (parseMethodDescriptor y.desc).map (fun d => d.parameters.length) = some np) (hnp : As.length = np) (hR : (Nat.ble (rm2.frames + 1) rm.frames && Nat.ble (8 + (maxL + 11) + rm2.locals) rm.locals) = true)
    (isC isR : List Nat) (hC : isC.map (fun i => ws[i]?) = wc.map some) (hndC : va_nd isC = true) (hRr : isR.map (fun i => ws[i]?) = wr.map some) (hnd : va_nd isR = true) (hdis : ∀ i ∈ isR, i ∉ isC) (hd : decode cc pc = .ok (.invokespecial idx, 3)) {stk : List Value} (hs : stk = As.reverse ++ .ref b :: st) (hst : Nat.ble ((st.map fun v => v.category).sum) 8 = true) (hkn : k + mc ≤ rm.cells ∧ n + ms ≤ rm.slots)
    (kk : ∀ u, J X (k + mc) (n + ms) (wr ++ w1 u) (pc + 3) lv st) : J X k n ws pc lv stk := by
  obtain ⟨p, l, e, R, s, m, args, below, meth, c, Q, I, nL'⟩ := X
  obtain ⟨hx, hb, hml, hnl, hown, hts, hK, hI0, hRR, hll⟩ := hX
  obtain ⟨A, hA, rfl⟩ := hW
  subst hnl; subst hRR; subst hll
  rw [Bool.and_eq_true] at hR
  intro H locs ls hI hl
  obtain ⟨hP, hD, hS⟩ := hI
  have hPc : va_P (jD G) vwCl wc H := hP.sub isC (by
    have h1 : (isC.map (fun i => ws[i]?)).filterMap id = (wc.map some).filterMap id := by rw [hC]
    simpa [List.filterMap_map] using h1)
  have hDc := hD.sub isC hndC hC
  have hFc := va_free hD hS hA isC hC
  refine va_callv (va_runIN (As := As) (rest := st) ⟨hx, hb, hml, hown, hts⟩ (hM H.size) ⟨va_cnB np hts hT hw hz.1 hz.2 (hlk s hE) (hts _ hini) hdd ⟨Nat.le_of_ble_eq_true hR.1, Nat.le_of_ble_eq_true hR.2⟩, hy1, hts _ hinst⟩ ⟨cw_blind G _ wc H.size, fun U hU hWm => ⟨rfl, by rw [hU], by rw [hU]; exact hPc, va_K.moved hWm.alike hK, hDc.weaken (fun _ _ _ _ => trivial), jEx.warm hWm hE⟩⟩ rfl hnp hl.1 hs (lv_room (Nat.le_of_ble_eq_true hst)) hd hkn) hS (fun q _ h => hFc q h) hFc (fun u t H1 locs1 ht hvm hpost hB hz1 hk1 hS1 => ?_)
  obtain ⟨hP1, hD1⟩ := hB
  rw [ht] at hP1
  obtain ⟨hP2, hD2⟩ := va_join hP hD isC isR hC hRr hnd hdis hk1 hFc hP1 hD1
  exact kk u H1 locs1 ls ⟨hP2, hD2, hS1⟩ hl
end JALLOC
theorem met_cv {l : Launch} {G : jG} {y : MethodName} {wsM ws2 : List Cond} {rm : Room} {cc : ByteArray} {maxL mc ms : Nat} {av : List Value} {w0 : va_W} {w1 : (Nat → Nat) → va_W} {lv0 : List (Nat × Value)} {own : String} (hy : plainName y.cls = true) (ho : y.cls = own) (hnm : y.name = "<init>") (hw : wsM = Cond.code y cc maxL none :: ws2) (hal : Nat.ble (lg_sl av).length maxL = true) (hlv : lv_args 0 av = lv0)
    (body : ∀ X : jX, jC X l cc own wsM G rm maxL → jW X G → jEs X → jInit X → (∀ pc lv u, decode cc pc = .ok (.return_, 1) → J X mc ms (w1 u) pc lv []) → J X 0 0 w0 0 lv0 []) : MetC l G y wsM rm av w0 w1 mc ms := by
  intro sz
  refine Met.ofW (cc := cc) (maxL := maxL) (ret := none) hy hw ?_
  intro p e s m args below meth c s₁ B hml hv
  obtain ⟨rfl, hsz, hP, hK, hD, hE⟩ := hv
  have hl := lv_entry av (n := maxL) (Nat.le_of_ble_eq_true hal)
  rw [hlv] at hl
  rw [lg_entry_eq]
  have hlocks := B.notSynchronized
  have hin : meth.name = "<init>" := (name_of_methodNamed B.named B.method).1.trans hnm
  subst hsz
  have hX : jC (p, l, e, rm, s, m, av.toArray, below, meth, c, MQ below (va_Qv (fun (_ : Nat → Nat) => True) (fun u t => va_P (jD G) vwCl (w1 u) t.heap ∧ va_D (va_A w0 s.heap.size) (w1 u)) (va_A w0 s.heap.size)) av.toArray s mc ms (va_A w0 s.heap.size), (fun ws H locs => va_P (jD G) vwCl ws H ∧ va_D (va_A w0 s.heap.size) ws ∧ va_S (va_A w0 s.heap.size) s.heap H locs), maxL) l cc own wsM G rm maxL :=
    ⟨B.exec, B.bytes, hml, rfl, ho ▸ findClass_of_methodNamed B.named, atoms_spec (ws := wsM) B.pre, hK, fun ws H locs h => h.1, rfl, rfl⟩
  refine body _ hX ⟨va_A w0 s.heap.size, fun q h => Or.inr h, rfl⟩ hE hin (fun pc lv u hd => ?_) s.heap [] _ ⟨hP, hD.self (sz := s.heap.size), va_S.rf⟩ hl
  intro H locs ls hI hl2
  obtain ⟨hP2, hD2, hS2⟩ := hI
  exact W.vret B.exec B.bytes B.returns (fun t ht hWm => ⟨⟨u, rfl, trivial, by show va_P (jD G) vwCl (w1 u) t.heap; rw [ht]; exact hP2, hD2⟩, hS2.F ht⟩) hS2.2.2 hd
