def R_law : String := "UnsayingDrumsLaw"
def lw_P (b : Addr) (xs : List Int32) (args : Array Value) (s : State) : Prop := args = #[.ref b] ∧ s.IntsAt b xs ∧ xs.length ≤ 2560 ∧ (Jvm.Cond.and given_1 narrow_1).before args s = true
def lw_Q (_ : Array Value) (s : State) (o : Outcome) (t : State) : Prop := o = .returned (some (.int 1)) ∧ Framed s o t [] 600000 7302250
def lw_Z (below : List Frame) (a : Array Value) (s : State) : State → Prop := fun t => ∃ o, t.status = .running ∧ Ended t below o ∧ lw_Q a s o t
/-- the law's own end, with 1 on the stack, nothing written that was there before, its room as the claim has it -/
theorem lw_ret {p : Program} {l : Launch} {e : Env} {s : State} {m : MethodId} {below : List Frame} {meth : Method} {c : Code} {b : Nat} (hx : p.tables.exec = Jvm.exec) (hb : c.code = code) (hr : meth.sig.returnType = ret) (hlocks : meth.locks = false) {pc : Nat} {H : Heap} {ls : Array Slot} (hdg : decode code pc = .ok (.ireturn, 1)) : W p l e room_1 s m #[Value.ref b] below meth c H [] 600000 7302250 (lw_Z below #[Value.ref b] s) (F0 m pc ls [.int 1]) := by
  intro T hT X
  obtain ⟨fs, hret, hrun, hended, hW, hframe⟩ := X.leave (v := some (.int 1)) (hlocks := hlocks) (fun h => by rw [hr] at h; cases h)
  have hmeth' : T.vm.method? m = some meth := X.method'
  refine ⟨T.setFrames fs, ?_, .returned (some (.int 1)), hrun, hended, rfl, ⟨_, rfl⟩, hW, hframe⟩
  jvm_step X.here [X.here.top, hx, hb, hdg, hmeth', hr, ret, narrow_b1]
  (try refine ⟨rfl, ?_⟩); (try refine ⟨rfl, ?_⟩)
  first | (intro acts; rw [hret _ acts rfl rfl rfl]) | rw [hret _ _ rfl rfl rfl]
  exact Steps.refl _
/-- what holds at the law's entry: the machine, the code, the tables' words (any of lw_tbl by 'hts w (by decide +kernel)'), the script of L ints xs at the cell b, what the Statement gives of the start (any of its parts by flat_of_before) -/
def lw_At (p : Program) (s : State) (m : MethodId) (meth : Method) (c : Code) (b L : Nat) (xs : Nat → Int32) : Prop :=
  p.tables.exec = Jvm.exec ∧ c.code = code ∧ meth.sig.returnType = ret ∧ c.maxLocals = 4 ∧ s.vm.findClass R_law = some m.cls ∧ (∀ w ∈ lw_tbl, w.before #[Value.ref b] s = true) ∧ va_X b L xs s s.heap ∧ b < s.heap.size ∧ meth.locks = false ∧ (Jvm.Cond.and given_1 narrow_1).before #[Value.ref b] s = true
set_option maxHeartbeats 40000000 in
set_option maxRecDepth 100000 in
theorem whole_open {p : Program} {e : Env} {s : State} {m : MethodId} {below : List Frame} {meth : Method} {c : Code} (l : Launch) {b L : Nat} {xs : Nat → Int32} (hPM : PureMain L xs) (C0 : lw_At p s m meth c b L xs) : W p l e room_1 s m #[Value.ref b] below meth c s.heap [] 0 0 (lw_Z below #[Value.ref b] s) (entryFrame m ([Value.ref b] : List Value).toArray 4) := by
  obtain ⟨hx, hb, hr, hml, hown, htsT, hXs, hbl, hlocks, hgv⟩ := C0
  have hts : ∀ w ∈ wsL_law, w.before #[Value.ref b] s = true := fun w h => htsT w (wsL_law_in w h)
  have a1 : va_AO "UnsayingDrums$Beats" s := va_AO.of (htsT (.arrayOver (.object "UnsayingDrums$Beats")) (by decide +kernel))
  have a2 : va_AO "UnsayingDrums$Queue" s := va_AO.of (htsT (.arrayOver (.object "UnsayingDrums$Queue")) (by decide +kernel))
  have a3 : va_AO "UnsayingDrums$Row" s := va_AO.of (htsT (.arrayOver (.object "UnsayingDrums$Row")) (by decide +kernel))
  have a4 : va_AO "UnsayingDrums$SortRow" s := va_AO.of (htsT (.arrayOver (.object "UnsayingDrums$SortRow")) (by decide +kernel))
  have n1 : va_Nw (.methodLinkNest "UnsayingDrums" 9 yX9_init "UnsayingDrums") s := va_Nw.of rfl (htsT _ (by decide +kernel))
  have n2 : va_Nw (.methodLinkNest "UnsayingDrums" 34 yX0_init "UnsayingDrums") s := va_Nw.of rfl (htsT _ (by decide +kernel))
  have n3 : va_Nw (.methodLinkNest "UnsayingDrums" 41 yX8_init "UnsayingDrums") s := va_Nw.of rfl (htsT _ (by decide +kernel))
  obtain ⟨G, hK⟩ := law_G hts a1 a2 a3 a4
  obtain ⟨N, v0, v1, v2, hv0, hv1, hv2, hg⟩ := hPM
  have hl := lv_entry ([.ref b]) (n := 4) (Nat.le_of_ble_eq_true rfl)
  rw [lg_entry_eq]
  have hX : jC (p, l, e, room_1, s, m, #[Value.ref b], below, meth, c, lw_Z below #[Value.ref b] s, (fun ws H locs => va_P (jD G) vwCl ws H ∧ va_D (fun q => s.heap.size ≤ q) ws ∧ va_S (fun q => s.heap.size ≤ q) s.heap H locs), 4) l cL_law RL wsL_law G room_1 4 := ⟨hx, hb, hml, rfl, hown, hts, hK, fun _ _ _ h => h.1, rfl, rfl⟩
  have hW : jW (p, l, e, room_1, s, m, #[Value.ref b], below, meth, c, lw_Z below #[Value.ref b] s, (fun ws H locs => va_P (jD G) vwCl ws H ∧ va_D (fun q => s.heap.size ≤ q) ws ∧ va_S (fun q => s.heap.size ≤ q) s.heap H locs), 4) G := ⟨fun q => s.heap.size ≤ q, fun _ h => h, rfl⟩
  have hSc : jSc (p, l, e, room_1, s, m, #[Value.ref b], below, meth, c, lw_Z below #[Value.ref b] s, (fun ws H locs => va_P (jD G) vwCl ws H ∧ va_D (fun q => s.heap.size ≤ q) ws ∧ va_S (fun q => s.heap.size ≤ q) s.heap H locs), 4) G b L xs := ⟨hXs, hbl, fun q => s.heap.size ≤ q, Nat.not_le.mpr hbl, rfl⟩
  have hE : jEs (p, l, e, room_1, s, m, #[Value.ref b], below, meth, c, lw_Z below #[Value.ref b] s, (fun ws H locs => va_P (jD G) vwCl ws H ∧ va_D (fun q => s.heap.size ≤ q) ws ∧ va_S (fun q => s.heap.size ≤ q) s.heap H locs), 4) := ⟨a1, a2, a3, a4, n1, n2, n3⟩
  have hret : ∀ ws pc lv, decode cL_law pc = .ok (.ireturn, 1) → J (p, l, e, room_1, s, m, #[Value.ref b], below, meth, c, lw_Z below #[Value.ref b] s, (fun ws H locs => va_P (jD G) vwCl ws H ∧ va_D (fun q => s.heap.size ≤ q) ws ∧ va_S (fun q => s.heap.size ≤ q) s.heap H locs), 4) 145 3987 ws pc lv [.int 1] := by
    intro ws pc lv hd H locs ls hI hl
    refine va_forget (fun q hq => hI.2.2.2.2 q hq) ?_
    refine W.widen (k := 600000) (n := 7302250) (by omega) (by omega) ?_
    exact lw_ret hx hb hr hlocks hd
  refine open_go (hX := hX) (hW := hW) (hSc := hSc) (hE := hE) (hret := hret) (hv0 := hv0) (hv1 := hv1) (hv2 := hv2) (hg := hg) s.heap [] _ ⟨fun k q h => by simp at h, ⟨fun i j p q h => by simp at h, fun k q h => by simp at h⟩, va_S.rf⟩ hl
