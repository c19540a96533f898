/-! ===== drum, undo, beat, keep, back ===== -/
theorem BR.push {bp bs bm : Nat → Int32} {B : List Be} (h : BR bp bs bm B) (e : Be) : BR (upd bp B.length (nI e.1)) (upd bs B.length (nI e.2.1)) (upd bm B.length (nI e.2.2)) (B ++ [e]) := by
  intro j x hj
  by_cases a : j = B.length
  · subst a
    rw [List.getElem?_append_right (Nat.le_refl _), Nat.sub_self] at hj
    cases hj
    simp [upd]
  · have hl : j < (B ++ [e]).length := (List.getElem?_eq_some_iff.mp hj).1
    rw [List.length_append, List.length_singleton] at hl
    rw [List.getElem?_append_left (by omega)] at hj
    have := h j x hj
    simpa [upd, a] using this
theorem BR.pre {bp bs bm : Nat → Int32} {B C : List Be} (h : BR bp bs bm (B ++ C)) : BR bp bs bm B := by
  intro j x hj
  have hl := (List.getElem?_eq_some_iff.mp hj).1
  exact h j x (by rw [List.getElem?_append_left hl]; exact hj)
theorem bd_old {B : List Be} (e : Be) {k : Nat} (hk : k < B.length) : (B ++ [e]).getD k b0 = B.getD k b0 := by
  rw [List.getD_eq_getElem?_getD, List.getD_eq_getElem?_getD, List.getElem?_append_left hk]
theorem bd_new {B : List Be} (e : Be) : (B ++ [e]).getD B.length b0 = e := by
  rw [List.getD_eq_getElem?_getD, List.getElem?_append_right (Nat.le_refl _), Nat.sub_self]; rfl
theorem SR.push {s : Nat → Int32} {B : List Be} {now : Nat} (h : SR s B now) (e : Be) (hl : B.length < 24) : SR (upd (upd (upd (upd s (2 + 3 * B.length) (nI e.1)) (3 + 3 * B.length) (nI e.2.1)) (4 + 3 * B.length) (nI e.2.2)) 0 (nI (B.length + 1))) (B ++ [e]) now := by
  refine ⟨by simp [upd], ?_, fun k hk => ?_⟩
  · unfold upd
    rw [if_neg (by omega), if_neg (by omega), if_neg (by omega), if_neg (by omega)]
    exact h.2.1
  · rw [List.length_append, List.length_singleton] at hk
    unfold bP bS bM
    by_cases a : k = B.length
    · subst a
      rw [bd_new e]
      unfold upd
      refine ⟨?_, ?_, ?_⟩
      · rw [if_neg (by omega), if_neg (by omega), if_neg (by omega), if_pos rfl]
      · rw [if_neg (by omega), if_neg (by omega), if_pos rfl]
      · rw [if_neg (by omega), if_pos rfl]
    · rw [bd_old e (by omega)]
      have := h.2.2 k (by omega)
      unfold upd
      refine ⟨?_, ?_, ?_⟩
      · rw [if_neg (by omega), if_neg (by omega), if_neg (by omega), if_neg (by omega)]; exact this.1
      · rw [if_neg (by omega), if_neg (by omega), if_neg (by omega), if_neg (by omega)]; exact this.2.1
      · rw [if_neg (by omega), if_neg (by omega), if_neg (by omega), if_neg (by omega)]; exact this.2.2
theorem t_drum {N P S H law : Nat} (hN : 20 < N) {mi book : Nat → Int32} {d : Nat → Nat → Nat} (hh : HOk P S H law mi book d) {bp bs bm s st ac : Nat → Int32} {bz bn sn an : Int32} (h : RBt P bp bs bm bz bn s st sn ac an) (x1 x2 : Int32) :
    ∃ v w, g_X11_drum N (nI P) (nI S) bn bp bs bm bz st sn x1 x2 = some v ∧ g_X12_drum N book s ac an x1 x2 = some w ∧ v.1 = w.1 ∧ RBt P v.2.1 v.2.2.1 v.2.2.2.1 v.2.2.2.2.1 bn w.2.1 v.2.2.2.2.2.1 v.2.2.2.2.2.2 w.2.2.1 w.2.2.2 := by
  obtain ⟨⟨hP1, hP⟩, ⟨hS1, hS⟩, ⟨hH1, hH⟩, hlaw, hdr, hdb, hd0, k0, k1, k2, k3⟩ := hh
  have h' := h
  obtain ⟨B, now, A, hBR, hs, hB, rfl, rfl, hst, hv⟩ := h'
  unfold g_X11_drum g_X12_drum
  rw [pX2_isPlace, pX2_isSort, pX12_isPlace N P book (by omega) (by omega) k0, pX12_isSort N S book (by omega) (by omega) k3]
  cases hx1 : ixB x1 P with
  | false => exact ⟨_, _, rfl, rfl, rfl, h⟩
  | true =>
    cases hx2 : ixB x2 S with
    | false => exact ⟨_, _, rfl, rfl, rfl, h⟩
    | true =>
      obtain ⟨p, hp, rfl⟩ := (ixB_iff (by omega)).mp hx1
      obtain ⟨f, hf, rfl⟩ := (ixB_iff (by omega)).mp hx2
      simp only [Option.bind_some, if_true]
      rw [if_neg (show ¬ (1 : Int32) = 0 by decide), if_neg (show ¬ (1 : Int32) = 0 by decide), if_neg (show ¬ (1 : Int32) = 0 by decide), if_neg (show ¬ (1 : Int32) = 0 by decide)]
      have h24 := hB.1
      rw [show (0 : Int32).toNatClampNeg = 0 from rfl, hs.1]
      have g0 : ∀ {α : Type} (x : Option α), gi 0 74 x = x := fun x => by rw [l0, gi_nI (by omega) (by omega)]
      unfold g_X0_append
      by_cases c : B.length < 24
      · have m2 : (2 : Int32) + 3 * nI B.length = nI (2 + 3 * B.length) := by rw [l2, l3, pk_mul, nI_add]
        have m3 : nI (2 + 3 * B.length) + 1 = nI (3 + 3 * B.length) := by rw [nI_1, show 2 + 3 * B.length + 1 = 3 + 3 * B.length by omega]
        have m4 : nI (2 + 3 * B.length) + 2 = nI (4 + 3 * B.length) := by rw [l2, nI_add, show 2 + 3 * B.length + 2 = 4 + 3 * B.length by omega]
        obtain ⟨st', sn', ac', an', e1, e2, e3⟩ := hst.push (N := N) hN (x := 0) (by omega)
        have e1' : g_X8_append N st sn 0 = some (st', sn') := e1
        have e2' : g_X12_acts N ac an 0 = some (ac', an') := e2
        rw [if_pos (by rw [l24, nlt (by omega) (by omega)]; omega), if_neg (by rw [l24, neq (by omega) (by omega)]; omega), gi_nI c (by omega), gi_nI c (by omega), gi_nI c (by omega), nc (by omega), nI_1]
        simp only [Option.bind_some]
        rw [if_neg (show ¬ (1 : Int32) = 0 by decide), e1', e2', m2, m3, m4, g0, g0, g0, g0, gi_nI (by omega) (by omega), gi_nI (by omega) (by omega), gi_nI (by omega) (by omega), l1, gi_nI (by omega) (by omega), nc (by omega), nc (by omega), nc (by omega), nc (by omega)]
        have u1 : (upd (upd s (2 + 3 * B.length) (nI p)) (3 + 3 * B.length) (nI f)) 1 = nI now := by
          unfold upd
          rw [if_neg (by omega), if_neg (by omega)]; exact hs.2.1
        have u2 : (upd (upd (upd s (2 + 3 * B.length) (nI p)) (3 + 3 * B.length) (nI f)) (4 + 3 * B.length) (nI now)) 0 + nI 1 = nI (B.length + 1) := by
          unfold upd
          rw [if_neg (by omega), if_neg (by omega), if_neg (by omega), hs.1, nI_add]
        rw [u1, u2]
        have r1 := hBR.push (p, f, now)
        have r2 := hs.push (p, f, now) c
        refine ⟨_, _, rfl, rfl, by simp [upd], B ++ [(p, f, now)], now, pushA A 0, r1, r2, ?_, by simp, rfl, e3, ?_⟩
        · refine ⟨by simp; omega, fun e he => ?_, ?_, hB.2.2.2⟩
          · rcases List.mem_append.mp he with z | z
            · exact hB.2.1 e z
            · rw [List.mem_singleton.mp z]; exact ⟨hp, by show f < 8; omega, Nat.le_refl _⟩
          · rw [List.pairwise_append]
            refine ⟨hB.2.2.1, List.pairwise_singleton _ _, fun a ha b hb => ?_⟩
            rw [List.mem_singleton.mp hb]; exact (hB.2.1 a ha).2.2
        · refine VH.push hst.1 (fun _ => ⟨by simp, ?_⟩) (fun z => absurd rfl z)
          rw [List.dropLast_concat]; exact hv
      · rw [if_neg (by rw [l24, nlt (by omega) (by omega)]; omega), if_pos (by rw [l24, neq (by omega) (by omega)]; omega), g0]
        exact ⟨_, _, rfl, rfl, rfl, h⟩
theorem t_undo {N P : Nat} {bp bs bm s st ac : Nat → Int32} {bz bn sn an : Int32} (h : RBt P bp bs bm bz bn s st sn ac an) :
    ∃ v w, g_X11_undo N st bz bn sn = some v ∧ g_X12_undo N ac s an = some w ∧ v.1 = w.1 ∧ RBt P bp bs bm v.2.1 v.2.2.1 w.2.1 st v.2.2.2 ac w.2.2 := by
  have h' := h
  obtain ⟨B, now, A, hBR, hs, hB, rfl, rfl, hst, hv⟩ := h'
  obtain ⟨h8, rfl, rfl, hA, r1, r2⟩ := hst
  unfold g_X11_undo g_X12_undo
  by_cases c : A.length = 0
  · rw [c, if_pos (show nI 0 = 0 from rfl), if_pos (show nI 0 = 0 from rfl)]
    refine ⟨_, _, rfl, rfl, rfl, B, now, A, hBR, hs, hB, rfl, rfl, ⟨h8, by rw [c], by rw [c], hA, r1, r2⟩, hv⟩
  · obtain ⟨A', n, rfl⟩ : ∃ A' n, A = A' ++ [n] := ⟨A.dropLast, A.getLast (fun z => c (by rw [z]; rfl)), (List.dropLast_concat_getLast (fun z => c (by rw [z]; rfl))).symm⟩
    have hl : (A' ++ [n]).length = A'.length + 1 := by simp
    rw [hl] at h8 c ⊢
    rw [List.reverse_append] at hv
    have hv' : VH B now (n :: A'.reverse) := hv
    have q1 : st A'.length = nI n := r1 A'.length n (by simp)
    have q2 : ac A'.length = nI n := r2 A'.length n (by simp)
    have hn := hA n (by simp)
    have p1 : Rp st A' := by have := r1.take A'.length; simpa using this
    have p2 : Rp ac A' := by have := r2.take A'.length; simpa using this
    have hst' : StR st (nI A'.length) ac (nI A'.length) A' := ⟨by omega, rfl, rfl, fun x hx => hA x (List.mem_append_left _ hx), p1, p2⟩
    have nz : ¬ nI (A'.length + 1) = 0 := by rw [l0, neq (by omega) (by omega)]; omega
    unfold g_X8_takeLatest
    rw [if_neg nz, if_neg nz, if_pos (by rw [l1, nle (by omega) (by omega)]; omega), nI_pred, gi_nI (by omega) (by omega), nc (by omega), q1, q2]
    have g0 : ∀ {α : Type} (x : Option α), gi 0 74 x = x := fun x => by rw [l0, gi_nI (by omega) (by omega)]
    have g1 : ∀ {α : Type} (x : Option α), gi 1 74 x = x := fun x => by rw [l1, gi_nI (by omega) (by omega)]
    rw [g0, gi_nI (by omega) (by omega)]
    simp only [Option.bind_some]
    have h24 := hB.1
    have hnow := hB.2.2.2
    unfold g_X12_undo_b44
    rw [g0, g0, g1, g1, gi_nI (by omega) (by omega), gi_nI (by omega) (by omega), nc (by omega), q2, show (0 : Int32).toNatClampNeg = 0 from rfl, show (1 : Int32).toNatClampNeg = 1 from rfl, hs.1]
    by_cases z : n = 0
    · subst z
      obtain ⟨b1, b2⟩ := hv'.1 rfl
      obtain ⟨B', e, rfl⟩ : ∃ B' e, B = B' ++ [e] := ⟨B.dropLast, B.getLast b1, (List.dropLast_concat_getLast b1).symm⟩
      rw [List.dropLast_concat] at b2
      have hl2 : (B' ++ [e]).length = B'.length + 1 := by simp
      rw [if_pos (show nI 0 = 0 from rfl), if_pos (show nI 0 = 0 from rfl), hl2]
      unfold g_X0_dropLatest
      rw [if_neg (by rw [l0, nle (by omega) (by omega)]; omega), nI_pred]
      have u1 : (upd s 0 (nI B'.length)) 1 - nI 0 = nI now := by
        unfold upd
        rw [if_neg (by omega), hs.2.1, nsub (by omega)]; rfl
      rw [u1]
      refine ⟨_, _, rfl, rfl, rfl, B', now, A', hBR.pre, ?_, ?_, rfl, rfl, hst', b2⟩
      · refine ⟨?_, by simp [upd], fun k hk => ?_⟩
        · show upd (upd s 0 (nI B'.length)) 1 (nI now) 0 = _
          unfold upd; rw [if_neg (by omega), if_pos rfl]
        · have := hs.2.2 k (by rw [hl2]; omega)
          unfold bP bS bM at this ⊢
          rw [bd_old e hk] at this
          show upd (upd s 0 (nI B'.length)) 1 (nI now) _ = _ ∧ upd (upd s 0 (nI B'.length)) 1 (nI now) _ = _ ∧ upd (upd s 0 (nI B'.length)) 1 (nI now) _ = _
          unfold upd
          rw [if_neg (by omega), if_neg (by omega), if_neg (by omega), if_neg (by omega), if_neg (by omega), if_neg (by omega)]
          exact this
      · refine ⟨by rw [hl2] at h24; omega, fun x hx => hB.2.1 x (List.mem_append_left _ hx), (List.pairwise_append.mp hB.2.2.1).1, hnow⟩
    · obtain ⟨b1, b2, b3⟩ := hv'.2 z
      have nz2 : ¬ nI n = 0 := by rw [l0, neq (by omega) (by omega)]; omega
      rw [if_neg nz2, if_neg nz2, nsub b1]
      have u0 : nI B.length - 0 = nI B.length := by rw [l0, nsub (by omega)]; rfl
      have u1 : (upd s 0 (nI B.length - 0)) 1 - nI n = nI (now - n) := by
        unfold upd
        rw [if_neg (by omega), hs.2.1, nsub b1]
      rw [u1, u0]
      refine ⟨_, _, rfl, rfl, rfl, B, now - n, A', hBR, ?_, ?_, rfl, rfl, hst', b3⟩
      · refine ⟨?_, by simp [upd], fun k hk => ?_⟩
        · show upd (upd s 0 (nI B.length)) 1 (nI (now - n)) 0 = _
          unfold upd; rw [if_neg (by omega), if_pos rfl]
        · have := hs.2.2 k hk
          show upd (upd s 0 (nI B.length)) 1 (nI (now - n)) _ = _ ∧ upd (upd s 0 (nI B.length)) 1 (nI (now - n)) _ = _ ∧ upd (upd s 0 (nI B.length)) 1 (nI (now - n)) _ = _
          unfold upd
          rw [if_neg (by omega), if_neg (by omega), if_neg (by omega), if_neg (by omega), if_neg (by omega), if_neg (by omega)]
          exact this
      · exact ⟨h24, fun x hx => ⟨(hB.2.1 x hx).1, (hB.2.1 x hx).2.1, b2 x hx⟩, hB.2.2.1, by omega⟩
theorem BR.bd {bp bs bm : Nat → Int32} {B : List Be} (h : BR bp bs bm B) {k : Nat} (hk : k < B.length) : bp k = nI (bP B k) ∧ bs k = nI (bS B k) ∧ bm k = nI (bM B k) := by
  have := h k B[k] (List.getElem?_eq_getElem hk)
  unfold bP bS bM
  rw [List.getD_eq_getElem?_getD, List.getElem?_eq_getElem hk]
  exact this
theorem BR.of_bd {bp bs bm : Nat → Int32} {B : List Be} (h : ∀ k, k < B.length → bp k = nI (bP B k) ∧ bs k = nI (bS B k) ∧ bm k = nI (bM B k)) : BR bp bs bm B := by
  intro j e hj
  have hl := (List.getElem?_eq_some_iff.mp hj).1
  have := h j hl
  unfold bP bS bM at this
  rw [List.getD_eq_getElem?_getD, hj] at this
  exact this
theorem t_beat {N P : Nat} {bp bs bm s st ac : Nat → Int32} {bz bn sn an : Int32} (h : RBt P bp bs bm bz bn s st sn ac an) (x1 x2 : Int32) :
    ∃ v w, g_X11_beat N bp bs bm bz x1 x2 = some v ∧ g_X12_beat N s x1 x2 = some w ∧ v = w := by
  obtain ⟨B, now, A, hBR, hs, hB, rfl, rfl, hst, hv⟩ := h
  have h24 := hB.1
  unfold g_X11_beat g_X12_beat
  rw [pX0_isBeat, show (0 : Int32).toNatClampNeg = 0 from rfl, hs.1, pX12_in0z N B.length (by omega), show (2 : Int32) = nI 3 - 1 from rfl, pX12_in0z N 3 (by omega), show (0 : Int32) = nI 0 from rfl, gi_nI (by omega) (by omega)]
  cases hx1 : ixB x1 B.length with
  | false => exact ⟨_, _, rfl, rfl, rfl⟩
  | true =>
    obtain ⟨k, hk, rfl⟩ := (ixB_iff (by omega)).mp hx1
    have hb := hBR.bd hk
    have hs' := hs.2.2 k hk
    simp only [Option.bind_some, if_true]
    rw [if_neg (show ¬ (1 : Int32) = nI 0 by decide), if_neg (show ¬ (1 : Int32) = nI 0 by decide), gi_nI (by omega) (by omega), nc (by omega), gi_nI (by omega) (by omega), gi_nI (by omega) (by omega)]
    have e3 : nI 3 - 1 = nI 2 := by decide
    cases hx2 : ixB x2 3 with
    | false =>
      have hz := ixB_none hx2 (by omega)
      have z0 : ¬ x2 = nI 0 := fun z => by subst z; revert hz; decide
      have z1 : ¬ x2 = 1 := fun z => by subst z; revert hz; decide
      have z2 : ¬ x2 = nI 3 - 1 := fun z => by subst z; revert hz; decide
      rw [if_neg z0, if_neg z1, if_neg z2]
      exact ⟨_, _, rfl, rfl, rfl⟩
    | true =>
      obtain ⟨j, hj, rfl⟩ := (ixB_iff (by omega)).mp hx2
      have e1 : nI 2 + 3 * nI k + nI j = nI (2 + 3 * k + j) := by rw [l3, pk_mul, nI_add, nI_add]
      simp only [if_true]
      rw [e3, e1, if_neg (show ¬ (1 : Int32) = nI 0 by decide), gi_nI (by omega) (by omega), nc (by omega)]
      rcases (show j = 0 ∨ j = 1 ∨ j = 2 by omega) with rfl | rfl | rfl
      · rw [if_pos rfl, hb.1, Nat.add_zero, hs'.1]; exact ⟨_, _, rfl, rfl, rfl⟩
      · rw [if_neg (by decide), if_pos (show nI 1 = 1 from rfl), hb.2.1, show 2 + 3 * k + 1 = 3 + 3 * k by omega, hs'.2.1]; exact ⟨_, _, rfl, rfl, rfl⟩
      · rw [if_neg (by decide), if_neg (by decide), if_pos rfl, hb.2.2, show 2 + 3 * k + 2 = 4 + 3 * k by omega, hs'.2.2]; exact ⟨_, _, rfl, rfl, rfl⟩
