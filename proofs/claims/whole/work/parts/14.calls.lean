/-! ===== calls: read-only ones (the heap stays), and such as write their own cells ===== -/
abbrev roP (G : jG) (av : List Value) (wc : va_W) : Array Value → State → Prop := va_Pc av (fun U => va_P (jD G) vwCl wc U.heap ∧ jK G U)
abbrev rwP (G : jG) (av : List Value) (wc : va_W) (sz : Nat) : Array Value → State → Prop := va_Pc av (fun U => U.heap.size = sz ∧ va_P (jD G) vwCl wc U.heap ∧ jK G U ∧ va_D (fun _ => True) wc)
abbrev MetRO (l : Launch) (G : jG) (y : MethodName) (wsM : List Cond) (rm : Room) (av : List Value) (wc : va_W) (r : Int32) : Prop := Met l y wsM rm (roP G av wc) (vp_Si (fun x => x = r)) 0 0 (fun _ => False)
abbrev MetRW (l : Launch) (G : jG) (y : MethodName) (wsM : List Cond) (rm : Room) (av : List Value) (wc w1 : va_W) (r : Int32) : Prop := ∀ sz, Met l y wsM rm (rwP G av wc sz) (va_Qi (fun x (_ : Unit) => x = r) (fun _ t => va_P (jD G) vwCl w1 t.heap) (va_A wc sz)) 0 0 (va_A wc sz)
abbrev MetRV (l : Launch) (G : jG) (y : MethodName) (wsM : List Cond) (rm : Room) (av : List Value) (wc w1 : va_W) : Prop := ∀ sz, Met l y wsM rm (rwP G av wc sz) (va_Qv (fun (_ : Unit) => True) (fun _ t => va_P (jD G) vwCl w1 t.heap) (va_A wc sz)) 0 0 (va_A wc sz)
theorem ro_blind (G : jG) (av : List Value) (wc : va_W) : FrameBlind (roP G av wc) := fun a U g mk q => by
  obtain ⟨q0, qP, qK⟩ := q
  exact ⟨q0, qP, va_K.moved (u := U) (U := U.calling g mk a) (Vm.Alike.refl U.vm) qK⟩
theorem rw_blind (G : jG) (av : List Value) (wc : va_W) (sz : Nat) : FrameBlind (rwP G av wc sz) := fun a U g mk q => by
  obtain ⟨q0, q1, qP, qK, qD⟩ := q
  exact ⟨q0, q1, qP, va_K.moved (u := U) (U := U.calling g mk a) (Vm.Alike.refl U.vm) qK, qD⟩
theorem run_ro {p : Program} {l : Launch} {e : Env} {R : Room} {s : State} {m : MethodId} {args : Array Value} {below : List Frame} {meth : Method} {c : Code} {H : Heap} {locs : List Loc} {cells slots : Nat} {Q : State → Prop} {pc : Nat} {ls : Array Slot} {rest st0 : List Value} {a : Array Value} {r : Int32}
    (hr : va_Run p l e R s m args below meth c H locs cells slots 0 0 (F0 m pc ls st0) rest (vp_Si (fun x => x = r) a) (fun _ => False))
    (kk : W p l e R s m args below meth c H locs cells slots Q (F0 m (pc + 3) ls (.int r :: rest))) : W p l e R s m args below meth c H locs cells slots Q (F0 m pc ls st0) := by
  intro T hT X
  obtain ⟨v, st₀, t, T', L, h0, X', hL, e1, e2, ⟨r', hv, hp, hh⟩, st⟩ := hr T hT X
  cases hv
  subst hp
  obtain ⟨t2, a1, b1⟩ := kk T' (by rw [e1, hh, h0]) (Stand.forget X' (fun q h => (hL q h).elim))
  exact ⟨t2, st t2 a1, b1⟩
/-- behind a call that writes: the callee's cells set into the caller's world -/
def jn (G : jG) (ws wc w1 ws' : va_W) : Prop := ∀ (A : Nat → Prop) (H H1 : Heap), va_P (jD G) vwCl ws H → va_D A ws → (∀ q : Nat, q < H.size → ¬ va_A wc H.size q → H1[q]? = H[q]?) → va_P (jD G) vwCl w1 H1 → va_P (jD G) vwCl ws' H1 ∧ va_D A ws'
theorem jn_set {G : jG} {ws wc w1 ws' : va_W} (isC : List Nat) (hC : isC.map (fun i => ws[i]?) = wc.map some) (hadr : w1.map Prod.fst = wc.map Prod.fst) (hws : setAll ws isC w1 = ws') : jn G ws wc w1 ws' := by
  subst hws
  intro A H H1 hP hD hk hP1
  exact setAll_ok hP hD isC hC hadr hk hP1
def cov (isC isR : List Nat) (L : Nat) : Bool := (List.range L).all (fun i => isC.contains i || isR.contains i)
theorem jn_el {G : jG} {ws wc w1 ws' : va_W} (isC isR : List Nat) (L : Nat) (hC : isC.map (fun i => ws[i]?) = wc.map some) (hadr : w1.map Prod.fst = wc.map Prod.fst) (hL : ws'.length = L) (h1 : isC.map (fun i => ws'[i]?) = w1.map some) (h2 : isR.map (fun i => ws'[i]?) = isR.map (fun i => ws[i]?)) (hcov : cov isC isR L = true) : jn G ws wc w1 ws' := by
  intro A H H1 hP hD hk hP1
  have hlC : isC.length = wc.length := by simpa using congrArg List.length hC
  have hl1 : w1.length = wc.length := by simpa using congrArg List.length hadr
  have hat : ∀ (t i : Nat), isC[t]? = some i → ∃ q, wc[t]? = some q ∧ ws[i]? = some q := by
    intro t i h
    have h1 : (isC.map (fun i => ws[i]?))[t]? = some ws[i]? := by rw [List.getElem?_map, h]; rfl
    rw [hC, List.getElem?_map] at h1
    cases hw : wc[t]? with
    | none => rw [hw] at h1; cases h1
    | some q => rw [hw] at h1; exact ⟨q, rfl, (Option.some.inj h1).symm⟩
  have hat1 : ∀ (t i : Nat), isC[t]? = some i → ∃ q, w1[t]? = some q ∧ ws'[i]? = some q := by
    intro t i h
    have h3 : (isC.map (fun i => ws'[i]?))[t]? = some ws'[i]? := by rw [List.getElem?_map, h]; rfl
    rw [h1, List.getElem?_map] at h3
    cases hw : w1[t]? with
    | none => rw [hw] at h3; cases h3
    | some q => rw [hw] at h3; exact ⟨q, rfl, (Option.some.inj h3).symm⟩
  have hR : ∀ i ∈ isR, ws'[i]? = ws[i]? := by
    intro i hi
    obtain ⟨t, ht⟩ := List.getElem?_of_mem hi
    have h3 : (isR.map (fun i => ws'[i]?))[t]? = some ws'[i]? := by rw [List.getElem?_map, ht]; rfl
    rw [h2, List.getElem?_map, ht] at h3
    exact (Option.some.inj h3).symm
  have hin : ∀ (j : Nat) (q : Nat × va_E), ws'[j]? = some q → j ∈ isC ∨ j ∈ isR := by
    intro j q h
    have hlt : j < L := by rw [← hL]; exact (List.getElem?_eq_some_iff.mp h).1
    have h3 := List.all_eq_true.mp hcov j (List.mem_range.mpr hlt)
    simpa using h3
  have hfst : ∀ (j : Nat) (q : Nat × va_E), ws'[j]? = some q → ∃ q0, ws[j]? = some q0 ∧ q0.1 = q.1 := by
    intro j q h
    rcases hin j q h with h3 | h3
    · obtain ⟨t, ht⟩ := List.getElem?_of_mem h3
      obtain ⟨a, a1, a2⟩ := hat t j ht
      obtain ⟨b, b1, b2⟩ := hat1 t j ht
      rw [h] at b2
      cases b2
      refine ⟨a, a2, ?_⟩
      have e1 : (w1.map Prod.fst)[t]? = some q.1 := by rw [List.getElem?_map, b1]; rfl
      rw [hadr, List.getElem?_map, a1] at e1
      exact Option.some.inj e1
    · exact ⟨q, by rw [← hR j h3]; exact h, rfl⟩
  refine ⟨fun j q h => ?_, fun i j x y hi hj hxy => ?_, fun j q h => ?_⟩
  · by_cases hj : j ∈ isC
    · obtain ⟨t, ht⟩ := List.getElem?_of_mem hj
      obtain ⟨b, b1, b2⟩ := hat1 t j ht
      rw [h] at b2
      cases b2
      exact hP1 t q b1
    · have hjR : j ∈ isR := (hin j q h).resolve_left hj
      have h3 : ws[j]? = some q := by rw [← hR j hjR]; exact h
      have hlt := (hP j q h3).lt
      refine (hP j q h3).kept (hk q.1 hlt (fun z => ?_))
      rcases z with ⟨t, e, z⟩ | z
      · have hlt2 : t < isC.length := by rw [hlC]; exact (List.getElem?_eq_some_iff.mp z).1
        obtain ⟨q', g1, g2⟩ := hat t isC[t] (List.getElem?_eq_getElem hlt2)
        rw [z] at g1
        cases g1
        have := hD.1 j _ q _ h3 g2 rfl
        exact hj (by rw [this]; exact List.getElem_mem hlt2)
      · omega
  · obtain ⟨x0, a1, a2⟩ := hfst i x hi
    obtain ⟨y0, b1, b2⟩ := hfst j y hj
    exact hD.1 i j x0 y0 a1 b1 (a2.trans (hxy.trans b2.symm))
  · obtain ⟨q0, a1, a2⟩ := hfst j q h
    rw [← a2]
    exact hD.2 j q0 a1
theorem jn_ax {G : jG} {ws wc w1 ws' : va_W} (isC isR : List Nat) (L : Nat) (h : isC.map (fun i => ws[i]?) = wc.map some ∧ ws'.length = L ∧ isC.map (fun i => ws'[i]?) = w1.map some ∧ isR.map (fun i => ws'[i]?) = isR.map (fun i => ws[i]?)) (hadr : w1.map Prod.fst = wc.map Prod.fst) (hcov : cov isC isR L = true) : jn G ws wc w1 ws' := jn_el isC isR L h.1 hadr h.2.1 h.2.2.1 h.2.2.2 hcov
section JCALLS
variable {X : jX} {l0 : Launch} {cc : ByteArray} {own : String} {Ts : List Cond} {G : jG} {rm : Room} {nL : Nat} {k n pc : Nat} {ws : va_W} {lv : List (Nat × Value)} {st : List Value}
/-- invokevirtual, read-only, an int (or boolean) answer -/
theorem j_vRO (hX : jC X l0 cc own Ts G rm nL) {y : MethodName} {wsM ws2 : List Cond} {rm2 : Room} {bytes : ByteArray} {maxL idx : Nat} {ret : Option FieldType} (As : List Value) {b : Nat} {wc : va_W} {ci np : Nat} {fs : List Value} {C : String} {T : u_T} {N : Nat} {α β : Type} {E : Option β} {F : β → Option α} {u : α} {r : β → Int32}
    (hg : E.bind F = some u) (hM : ∀ v, E = some v → MetRO l0 G y wsM rm2 (.ref b :: As) wc (r v)) (hT : GoodIn Ts (wsV own idx C y wsM)) (hw : wsM = Cond.code y bytes maxL ret :: ws2) (hz : rm2.cells = 0 ∧ rm2.slots = 0)
    (hdd : y.cls = C ∧ y.cls ≠ "java/lang/invoke/MethodHandle" ∧ y.cls ≠ "java/lang/invoke/VarHandle" ∧ (parseMethodDescriptor y.desc).map (fun d => d.parameters.length) = some np) (hnp : As.length = np) (hR : (Nat.ble (rm2.frames + 1) rm.frames && Nat.ble (8 + (maxL + 11) + rm2.locals) rm.locals) = true)
    (isC : List Nat) (hC : isC.filterMap (fun i => ws[i]?) = wc) (he : wc[0]? = some (b, .inr (ci, fs))) (hc : vwCl[ci]? = some (C, T, N)) (hd : decode cc pc = .ok (.invokevirtual idx, 3)) {stk : List Value} (hs : stk = As.reverse ++ .ref b :: st) (hst : Nat.ble ((st.map fun v => v.category).sum) 8 = true) (hkn : k ≤ rm.cells ∧ n ≤ rm.slots)
    (kk : ∀ v, F v = some u → J X k n ws (pc + 3) lv (.int (r v) :: st)) : J X k n ws pc lv stk := by
  obtain ⟨p, l, e, R, s, m, args, below, meth, c, Q, I, nL'⟩ := X
  obtain ⟨hx, hb, hml, hnl, hown, hts, hK, hI0, hRR, hll⟩ := hX
  subst hnl; subst hRR; subst hll
  obtain ⟨v, hE, hF⟩ := bd_some hg
  rw [Bool.and_eq_true] at hR
  intro H locs ls hI hl
  have hPc := (hI0 _ _ _ hI).sub isC hC
  refine run_ro (va_runV (As := As) (rest := st) ⟨hx, hb, hml, hown, hts⟩ (hM v hE) (cwV np hts hT hw hz.1 hz.2 hdd ⟨Nat.le_of_ble_eq_true hR.1, Nat.le_of_ble_eq_true hR.2⟩) ⟨ro_blind G _ wc, va_recv hK hPc hc he, fun U hU hWm => ⟨rfl, by rw [hU]; exact hPc, va_K.moved hWm.alike hK⟩⟩ rfl hnp hl.1 hs (lv_room (Nat.le_of_ble_eq_true hst)) hd ⟨hkn.1, hkn.2⟩) (kk v hF H locs ls hI hl)
/-- invokestatic of the own class, read-only -/
theorem j_sRO (hX : jC X l0 cc own Ts G rm nL) {y : MethodName} {wsM ws2 : List Cond} {rm2 : Room} {bytes : ByteArray} {maxL idx : Nat} {ret : Option FieldType} (As : List Value) {wc : va_W} {np : Nat} {α β : Type} {E : Option β} {F : β → Option α} {u : α} {r : β → Int32}
    (hg : E.bind F = some u) (hM : ∀ v, E = some v → MetRO l0 G y wsM rm2 As wc (r v)) (hT : GoodIn Ts (va_wsS own idx y wsM)) (hw : wsM = Cond.code y bytes maxL ret :: ws2) (hz : rm2.cells = 0 ∧ rm2.slots = 0)
    (hdd : y.cls ≠ "java/lang/invoke/MethodHandle" ∧ y.cls ≠ "java/lang/invoke/VarHandle" ∧ (parseMethodDescriptor y.desc).map (fun d => d.parameters.length) = some np) (hnp : As.length = np) (hR : (Nat.ble (rm2.frames + 1) rm.frames && Nat.ble (8 + (maxL + 11) + rm2.locals) rm.locals) = true)
    (isC : List Nat) (hC : isC.filterMap (fun i => ws[i]?) = wc) (hd : decode cc pc = .ok (.invokestatic idx, 3)) {stk : List Value} (hs : stk = As.reverse ++ st) (hst : Nat.ble ((st.map fun v => v.category).sum) 8 = true) (hkn : k ≤ rm.cells ∧ n ≤ rm.slots)
    (kk : ∀ v, F v = some u → J X k n ws (pc + 3) lv (.int (r v) :: st)) : J X k n ws pc lv stk := by
  obtain ⟨p, l, e, R, s, m, args, below, meth, c, Q, I, nL'⟩ := X
  obtain ⟨hx, hb, hml, hnl, hown, hts, hK, hI0, hRR, hll⟩ := hX
  subst hnl; subst hRR; subst hll
  obtain ⟨v, hE, hF⟩ := bd_some hg
  rw [Bool.and_eq_true] at hR
  have ok : ∀ w ∈ va_wsS own idx y wsM, w.before args s = true := fun w h => hts w (hT w h).1
  intro H locs ls hI hl
  have hPc := (hI0 _ _ _ hI).sub isC hC
  refine run_ro (va_runS (As := As) (rest := st) ⟨hx, hb, hml, hown, hts⟩ (hM v hE) ⟨callB_of np hts (fun w h => hT w (by unfold va_wsS; exact List.mem_append_right _ h)) hw hz.1 hz.2 (ok _ (by simp [va_wsS])) (ok _ (by simp [va_wsS])) hdd ⟨Nat.le_of_ble_eq_true hR.1, Nat.le_of_ble_eq_true hR.2⟩, ok _ (by simp [va_wsS])⟩ ⟨ro_blind G _ wc, fun U hU hWm => ⟨rfl, by rw [hU]; exact hPc, va_K.moved hWm.alike hK⟩⟩ rfl hnp hl.1 hs (lv_room (Nat.le_of_ble_eq_true hst)) hd ⟨hkn.1, hkn.2⟩) (kk v hF H locs ls hI hl)
/-- invokevirtual that writes, an int (or boolean) answer -/
theorem j_vRW (hX : jC X l0 cc own Ts G rm nL) (hW : jW X G) {y : MethodName} {wsM ws2 : List Cond} {rm2 : Room} {bytes : ByteArray} {maxL idx : Nat} {ret : Option FieldType} (As : List Value) {b : Nat} {wc : va_W} {ci np : Nat} {fs : List Value} {C : String} {T : u_T} {N : Nat} {α β : Type} {E : Option β} {F : β → Option α} {u : α} {r : β → Int32} {w1 : β → va_W}
    (hg : E.bind F = some u) (hM : ∀ v, E = some v → MetRW l0 G y wsM rm2 (.ref b :: As) wc (w1 v) (r v)) (hT : GoodIn Ts (wsV own idx C y wsM)) (hw : wsM = Cond.code y bytes maxL ret :: ws2) (hz : rm2.cells = 0 ∧ rm2.slots = 0)
    (hdd : y.cls = C ∧ y.cls ≠ "java/lang/invoke/MethodHandle" ∧ y.cls ≠ "java/lang/invoke/VarHandle" ∧ (parseMethodDescriptor y.desc).map (fun d => d.parameters.length) = some np) (hnp : As.length = np) (hR : (Nat.ble (rm2.frames + 1) rm.frames && Nat.ble (8 + (maxL + 11) + rm2.locals) rm.locals) = true)
    (isC : List Nat) (hC : isC.map (fun i => ws[i]?) = wc.map some) (hnd : va_nd isC = true) (he : wc[0]? = some (b, .inr (ci, fs))) (hc : vwCl[ci]? = some (C, T, N)) (hd : decode cc pc = .ok (.invokevirtual idx, 3)) {stk : List Value} (hs : stk = As.reverse ++ .ref b :: st) (hst : Nat.ble ((st.map fun v => v.category).sum) 8 = true) (hkn : k ≤ rm.cells ∧ n ≤ rm.slots)
    {ws' : β → va_W} (hj : ∀ v, jn G ws wc (w1 v) (ws' v)) (kk : ∀ v, F v = some u → J X k n (ws' v) (pc + 3) lv (.int (r v) :: st)) : J X k n ws pc lv stk := by
  obtain ⟨p, l, e, R, s, m, args, below, meth, c, Q, I, nL'⟩ := X
  obtain ⟨hx, hb, hml, hnl, hown, hts, hK, hI0, hRR, hll⟩ := hX
  obtain ⟨A, hA, rfl⟩ := hW
  subst hnl; subst hRR; subst hll
  obtain ⟨v, hE, hF⟩ := bd_some hg
  rw [Bool.and_eq_true] at hR
  intro H locs ls hI hl
  obtain ⟨hP, hD, hS⟩ := hI
  have hPc : va_P (jD G) vwCl wc H := hP.sub isC (by
    have h1 : (isC.map (fun i => ws[i]?)).filterMap id = (wc.map some).filterMap id := by rw [hC]
    simpa [List.filterMap_map] using h1)
  have hDc := hD.sub isC hnd hC
  have hFc := va_free hD hS hA isC hC
  refine va_calli (va_runV (As := As) (rest := st) ⟨hx, hb, hml, hown, hts⟩ (hM v hE H.size) (cwV np hts hT hw hz.1 hz.2 hdd ⟨Nat.le_of_ble_eq_true hR.1, Nat.le_of_ble_eq_true hR.2⟩) ⟨rw_blind G _ wc H.size, va_recv hK hPc hc he, fun U hU hWm => ⟨rfl, by rw [hU], by rw [hU]; exact hPc, va_K.moved hWm.alike hK, hDc.weaken (fun _ _ _ _ => trivial)⟩⟩ rfl hnp hl.1 hs (lv_room (Nat.le_of_ble_eq_true hst)) hd ⟨hkn.1, hkn.2⟩) hS (fun q _ h => hFc q h) hFc (fun x u' t H1 locs1 ht hvm hpost hB hz1 hk1 hS1 => ?_)
  subst hpost
  rw [ht] at hB
  obtain ⟨hP2, hD2⟩ := hj v _ H H1 hP hD hk1 hB
  exact kk v hF H1 locs1 ls ⟨hP2, hD2, hS1⟩ hl
/-- invokevirtual that writes, void -/
theorem j_vRV (hX : jC X l0 cc own Ts G rm nL) (hW : jW X G) {y : MethodName} {wsM ws2 : List Cond} {rm2 : Room} {bytes : ByteArray} {maxL idx : Nat} {ret : Option FieldType} (As : List Value) {b : Nat} {wc : va_W} {ci np : Nat} {fs : List Value} {C : String} {T : u_T} {N : Nat} {α β : Type} {E : Option β} {F : β → Option α} {u : α} {w1 : β → va_W}
    (hg : E.bind F = some u) (hM : ∀ v, E = some v → MetRV l0 G y wsM rm2 (.ref b :: As) wc (w1 v)) (hT : GoodIn Ts (wsV own idx C y wsM)) (hw : wsM = Cond.code y bytes maxL ret :: ws2) (hz : rm2.cells = 0 ∧ rm2.slots = 0)
    (hdd : y.cls = C ∧ y.cls ≠ "java/lang/invoke/MethodHandle" ∧ y.cls ≠ "java/lang/invoke/VarHandle" ∧ (parseMethodDescriptor y.desc).map (fun d => d.parameters.length) = some np) (hnp : As.length = np) (hR : (Nat.ble (rm2.frames + 1) rm.frames && Nat.ble (8 + (maxL + 11) + rm2.locals) rm.locals) = true)
    (isC : List Nat) (hC : isC.map (fun i => ws[i]?) = wc.map some) (hnd : va_nd isC = true) (he : wc[0]? = some (b, .inr (ci, fs))) (hc : vwCl[ci]? = some (C, T, N)) (hd : decode cc pc = .ok (.invokevirtual idx, 3)) {stk : List Value} (hs : stk = As.reverse ++ .ref b :: st) (hst : Nat.ble ((st.map fun v => v.category).sum) 8 = true) (hkn : k ≤ rm.cells ∧ n ≤ rm.slots)
    {ws' : β → va_W} (hj : ∀ v, jn G ws wc (w1 v) (ws' v)) (kk : ∀ v, F v = some u → J X k n (ws' v) (pc + 3) lv st) : J X k n ws pc lv stk := by
  obtain ⟨p, l, e, R, s, m, args, below, meth, c, Q, I, nL'⟩ := X
  obtain ⟨hx, hb, hml, hnl, hown, hts, hK, hI0, hRR, hll⟩ := hX
  obtain ⟨A, hA, rfl⟩ := hW
  subst hnl; subst hRR; subst hll
  obtain ⟨v, hE, hF⟩ := bd_some hg
  rw [Bool.and_eq_true] at hR
  intro H locs ls hI hl
  obtain ⟨hP, hD, hS⟩ := hI
  have hPc : va_P (jD G) vwCl wc H := hP.sub isC (by
    have h1 : (isC.map (fun i => ws[i]?)).filterMap id = (wc.map some).filterMap id := by rw [hC]
    simpa [List.filterMap_map] using h1)
  have hDc := hD.sub isC hnd hC
  have hFc := va_free hD hS hA isC hC
  refine va_callv (va_runV (As := As) (rest := st) ⟨hx, hb, hml, hown, hts⟩ (hM v hE H.size) (cwV np hts hT hw hz.1 hz.2 hdd ⟨Nat.le_of_ble_eq_true hR.1, Nat.le_of_ble_eq_true hR.2⟩) ⟨rw_blind G _ wc H.size, va_recv hK hPc hc he, fun U hU hWm => ⟨rfl, by rw [hU], by rw [hU]; exact hPc, va_K.moved hWm.alike hK, hDc.weaken (fun _ _ _ _ => trivial)⟩⟩ rfl hnp hl.1 hs (lv_room (Nat.le_of_ble_eq_true hst)) hd ⟨hkn.1, hkn.2⟩) hS (fun q _ h => hFc q h) hFc (fun u' t H1 locs1 ht hvm hpost hB hz1 hk1 hS1 => ?_)
  rw [ht] at hB
  obtain ⟨hP2, hD2⟩ := hj v _ H H1 hP hD hk1 hB
  exact kk v hF H1 locs1 ls ⟨hP2, hD2, hS1⟩ hl
theorem j_max (hX : jC X l0 cc own Ts G rm nL) {idx : Nat} {x y : Int32} (h1 : Cond.methodLink own idx Lib.Math.max.name ∈ Ts) (h2 : Cond.static Lib.Math.max.name ∈ Ts) (h3 : Cond.initialized "java/lang/Math" ∈ Ts) (h4 : Cond.code Lib.Math.max.name Lib.Math.max.code 2 (some .int) ∈ Ts) (hR : (Nat.ble 1 rm.frames && Nat.ble ((st.map fun v => v.category).sum + 13) rm.locals) = true) (hkn : k ≤ rm.cells ∧ n ≤ rm.slots) (hd : decode cc pc = .ok (.invokestatic idx, 3)) (kk : J X k n ws (pc + 3) lv (.int (if x < y then y else x) :: st)) : J X k n ws pc lv (.int y :: .int x :: st) := by
  obtain ⟨p, l, e, R, s, m, args, below, meth, c, Q, I, nL'⟩ := X
  obtain ⟨hx, hb, hml, hnl, hown, hts, hK, hI0, hRR, hll⟩ := hX
  subst hnl; subst hRR; subst hll
  rw [Bool.and_eq_true] at hR
  intro H locs ls hI hl
  exact va_mmax hx hb (hml.trans hl.1.symm) hown (hts _ h1) (hts _ h2) (hts _ h3) (hts _ h4) (Nat.le_of_ble_eq_true hR.1) (Nat.le_of_ble_eq_true hR.2) hkn.1 hkn.2 hd (kk H locs ls hI hl)
theorem j_min (hX : jC X l0 cc own Ts G rm nL) {idx : Nat} {x y : Int32} (h1 : Cond.methodLink own idx Lib.Math.min.name ∈ Ts) (h2 : Cond.static Lib.Math.min.name ∈ Ts) (h3 : Cond.initialized "java/lang/Math" ∈ Ts) (h4 : Cond.code Lib.Math.min.name Lib.Math.min.code 2 (some .int) ∈ Ts) (hR : (Nat.ble 1 rm.frames && Nat.ble ((st.map fun v => v.category).sum + 13) rm.locals) = true) (hkn : k ≤ rm.cells ∧ n ≤ rm.slots) (hd : decode cc pc = .ok (.invokestatic idx, 3)) (kk : J X k n ws (pc + 3) lv (.int (if y < x then y else x) :: st)) : J X k n ws pc lv (.int y :: .int x :: st) := by
  obtain ⟨p, l, e, R, s, m, args, below, meth, c, Q, I, nL'⟩ := X
  obtain ⟨hx, hb, hml, hnl, hown, hts, hK, hI0, hRR, hll⟩ := hX
  subst hnl; subst hRR; subst hll
  rw [Bool.and_eq_true] at hR
  intro H locs ls hI hl
  exact va_mmin hx hb (hml.trans hl.1.symm) hown (hts _ h1) (hts _ h2) (hts _ h3) (hts _ h4) (Nat.le_of_ble_eq_true hR.1) (Nat.le_of_ble_eq_true hR.2) hkn.1 hkn.2 hd (kk H locs ls hI hl)
end JCALLS
/-! ===== a method's entry and end ===== -/
section JENTRY
variable {l : Launch} {G : jG} {y : MethodName} {wsM ws2 : List Cond} {rm : Room} {cc : ByteArray} {maxL : Nat} {av : List Value} {w0 w1 : va_W} {r : Int32} {lv0 : List (Nat × Value)} {own : String}
theorem met_roi (hy : plainName y.cls = true) (ho : y.cls = own) (hw : wsM = Cond.code y cc maxL (some .int) :: ws2) (hal : Nat.ble (lg_sl av).length maxL = true) (hlv : lv_args 0 av = lv0)
    (body : ∀ X : jX, jC X l cc own wsM G rm maxL → (∀ pc lv, decode cc pc = .ok (.ireturn, 1) → J X 0 0 w0 pc lv [.int r]) → J X 0 0 w0 0 lv0 []) : MetRO l G y wsM rm av w0 r := by
  refine Met.ofW (cc := cc) (maxL := maxL) (ret := some .int) hy hw ?_
  intro p e s m args below meth c s₁ B hml hv
  obtain ⟨rfl, hP, hK⟩ := hv
  have hl := lv_entry av (n := maxL) (Nat.le_of_ble_eq_true hal)
  rw [hlv] at hl
  rw [lg_entry_eq]
  have hlocks := B.notSynchronized
  have hX : jC (p, l, e, rm, s, m, av.toArray, below, meth, c, MQ below (vp_Si (fun x => x = r)) av.toArray s 0 0 (fun _ => False), (fun ws H locs => H = s.heap ∧ locs = [] ∧ va_P (jD G) vwCl ws H), maxL) l cc own wsM G rm maxL :=
    ⟨B.exec, B.bytes, hml, rfl, ho ▸ findClass_of_methodNamed B.named, atoms_spec (ws := wsM) B.pre, hK, fun ws H locs h => h.2.2, rfl, rfl⟩
  refine body _ hX (fun pc lv hd => ?_) s.heap [] _ ⟨rfl, rfl, hP⟩ hl
  intro H locs ls hI hl2
  obtain ⟨rfl, rfl, hP2⟩ := hI
  exact W.iret B.exec B.bytes B.returns (fun t ht hWm => ⟨r, rfl, rfl, ht⟩) (fun q h => by cases h) hd
theorem met_roz (hy : plainName y.cls = true) (ho : y.cls = own) (hw : wsM = Cond.code y cc maxL (some .boolean) :: ws2) (hal : Nat.ble (lg_sl av).length maxL = true) (hlv : lv_args 0 av = lv0)
    (body : ∀ X : jX, jC X l cc own wsM G rm maxL → (∀ pc lv, (r = 0 ∨ r = 1) → decode cc pc = .ok (.ireturn, 1) → J X 0 0 w0 pc lv [.int r]) → J X 0 0 w0 0 lv0 []) : MetRO l G y wsM rm av w0 r := by
  refine Met.ofW (cc := cc) (maxL := maxL) (ret := some .boolean) hy hw ?_
  intro p e s m args below meth c s₁ B hml hv
  obtain ⟨rfl, hP, hK⟩ := hv
  have hl := lv_entry av (n := maxL) (Nat.le_of_ble_eq_true hal)
  rw [hlv] at hl
  rw [lg_entry_eq]
  have hlocks := B.notSynchronized
  have hX : jC (p, l, e, rm, s, m, av.toArray, below, meth, c, MQ below (vp_Si (fun x => x = r)) av.toArray s 0 0 (fun _ => False), (fun ws H locs => H = s.heap ∧ locs = [] ∧ va_P (jD G) vwCl ws H), maxL) l cc own wsM G rm maxL :=
    ⟨B.exec, B.bytes, hml, rfl, ho ▸ findClass_of_methodNamed B.named, atoms_spec (ws := wsM) B.pre, hK, fun ws H locs h => h.2.2, rfl, rfl⟩
  refine body _ hX (fun pc lv hr hd => ?_) s.heap [] _ ⟨rfl, rfl, hP⟩ hl
  intro H locs ls hI hl2
  obtain ⟨rfl, rfl, hP2⟩ := hI
  exact W.zret B.exec B.bytes B.returns (nar_z hr) (fun t ht hWm => ⟨r, rfl, rfl, ht⟩) (fun q h => by cases h) hd
theorem met_rwi (hy : plainName y.cls = true) (ho : y.cls = own) (hw : wsM = Cond.code y cc maxL (some .int) :: ws2) (hal : Nat.ble (lg_sl av).length maxL = true) (hlv : lv_args 0 av = lv0)
    (body : ∀ X : jX, jC X l cc own wsM G rm maxL → jW X G → (∀ pc lv, decode cc pc = .ok (.ireturn, 1) → J X 0 0 w1 pc lv [.int r]) → J X 0 0 w0 0 lv0 []) : MetRW l G y wsM rm av w0 w1 r := by
  intro sz
  refine Met.ofW (cc := cc) (maxL := maxL) (ret := some .int) hy hw ?_
  intro p e s m args below meth c s₁ B hml hv
  obtain ⟨rfl, hsz, hP, hK, hD⟩ := hv
  have hl := lv_entry av (n := maxL) (Nat.le_of_ble_eq_true hal)
  rw [hlv] at hl
  rw [lg_entry_eq]
  have hlocks := B.notSynchronized
  subst hsz
  have hX : jC (p, l, e, rm, s, m, av.toArray, below, meth, c, MQ below (va_Qi (fun x (_ : Unit) => x = r) (fun _ t => va_P (jD G) vwCl w1 t.heap) (va_A w0 s.heap.size)) av.toArray s 0 0 (va_A w0 s.heap.size), (fun ws H locs => va_P (jD G) vwCl ws H ∧ va_D (va_A w0 s.heap.size) ws ∧ va_S (va_A w0 s.heap.size) s.heap H locs), maxL) l cc own wsM G rm maxL :=
    ⟨B.exec, B.bytes, hml, rfl, ho ▸ findClass_of_methodNamed B.named, atoms_spec (ws := wsM) B.pre, hK, fun ws H locs h => h.1, rfl, rfl⟩
  refine body _ hX ⟨va_A w0 s.heap.size, fun q h => Or.inr h, rfl⟩ (fun pc lv hd => ?_) s.heap [] _ ⟨hP, hD.self (sz := s.heap.size), va_S.rf⟩ hl
  intro H locs ls hI hl2
  obtain ⟨hP2, hD2, hS2⟩ := hI
  exact W.iret B.exec B.bytes B.returns (fun t ht hWm => ⟨⟨r, (), rfl, rfl, by show va_P (jD G) vwCl w1 t.heap; rw [ht]; exact hP2⟩, hS2.F ht⟩) hS2.2.2 hd
theorem met_rwz (hy : plainName y.cls = true) (ho : y.cls = own) (hw : wsM = Cond.code y cc maxL (some .boolean) :: ws2) (hal : Nat.ble (lg_sl av).length maxL = true) (hlv : lv_args 0 av = lv0)
    (body : ∀ X : jX, jC X l cc own wsM G rm maxL → jW X G → (∀ pc lv, (r = 0 ∨ r = 1) → decode cc pc = .ok (.ireturn, 1) → J X 0 0 w1 pc lv [.int r]) → J X 0 0 w0 0 lv0 []) : MetRW l G y wsM rm av w0 w1 r := by
  intro sz
  refine Met.ofW (cc := cc) (maxL := maxL) (ret := some .boolean) hy hw ?_
  intro p e s m args below meth c s₁ B hml hv
  obtain ⟨rfl, hsz, hP, hK, hD⟩ := hv
  have hl := lv_entry av (n := maxL) (Nat.le_of_ble_eq_true hal)
  rw [hlv] at hl
  rw [lg_entry_eq]
  have hlocks := B.notSynchronized
  subst hsz
  have hX : jC (p, l, e, rm, s, m, av.toArray, below, meth, c, MQ below (va_Qi (fun x (_ : Unit) => x = r) (fun _ t => va_P (jD G) vwCl w1 t.heap) (va_A w0 s.heap.size)) av.toArray s 0 0 (va_A w0 s.heap.size), (fun ws H locs => va_P (jD G) vwCl ws H ∧ va_D (va_A w0 s.heap.size) ws ∧ va_S (va_A w0 s.heap.size) s.heap H locs), maxL) l cc own wsM G rm maxL :=
    ⟨B.exec, B.bytes, hml, rfl, ho ▸ findClass_of_methodNamed B.named, atoms_spec (ws := wsM) B.pre, hK, fun ws H locs h => h.1, rfl, rfl⟩
  refine body _ hX ⟨va_A w0 s.heap.size, fun q h => Or.inr h, rfl⟩ (fun pc lv hr hd => ?_) s.heap [] _ ⟨hP, hD.self (sz := s.heap.size), va_S.rf⟩ hl
  intro H locs ls hI hl2
  obtain ⟨hP2, hD2, hS2⟩ := hI
  exact W.zret B.exec B.bytes B.returns (nar_z hr) (fun t ht hWm => ⟨⟨r, (), rfl, rfl, by show va_P (jD G) vwCl w1 t.heap; rw [ht]; exact hP2⟩, hS2.F ht⟩) hS2.2.2 hd
theorem met_rwv (hy : plainName y.cls = true) (ho : y.cls = own) (hw : wsM = Cond.code y cc maxL none :: ws2) (hal : Nat.ble (lg_sl av).length maxL = true) (hlv : lv_args 0 av = lv0)
    (body : ∀ X : jX, jC X l cc own wsM G rm maxL → jW X G → (∀ pc lv, decode cc pc = .ok (.return_, 1) → J X 0 0 w1 pc lv []) → J X 0 0 w0 0 lv0 []) : MetRV l G y wsM rm av w0 w1 := by
  intro sz
  refine Met.ofW (cc := cc) (maxL := maxL) (ret := none) hy hw ?_
  intro p e s m args below meth c s₁ B hml hv
  obtain ⟨rfl, hsz, hP, hK, hD⟩ := hv
  have hl := lv_entry av (n := maxL) (Nat.le_of_ble_eq_true hal)
  rw [hlv] at hl
  rw [lg_entry_eq]
  have hlocks := B.notSynchronized
  subst hsz
  have hX : jC (p, l, e, rm, s, m, av.toArray, below, meth, c, MQ below (va_Qv (fun (_ : Unit) => True) (fun _ t => va_P (jD G) vwCl w1 t.heap) (va_A w0 s.heap.size)) av.toArray s 0 0 (va_A w0 s.heap.size), (fun ws H locs => va_P (jD G) vwCl ws H ∧ va_D (va_A w0 s.heap.size) ws ∧ va_S (va_A w0 s.heap.size) s.heap H locs), maxL) l cc own wsM G rm maxL :=
    ⟨B.exec, B.bytes, hml, rfl, ho ▸ findClass_of_methodNamed B.named, atoms_spec (ws := wsM) B.pre, hK, fun ws H locs h => h.1, rfl, rfl⟩
  refine body _ hX ⟨va_A w0 s.heap.size, fun q h => Or.inr h, rfl⟩ (fun pc lv hd => ?_) s.heap [] _ ⟨hP, hD.self (sz := s.heap.size), va_S.rf⟩ hl
  intro H locs ls hI hl2
  obtain ⟨hP2, hD2, hS2⟩ := hI
  exact W.vret B.exec B.bytes B.returns (fun t ht hWm => ⟨⟨(), rfl, trivial, by show va_P (jD G) vwCl w1 t.heap; rw [ht]; exact hP2⟩, hS2.F ht⟩) hS2.2.2 hd
end JENTRY
