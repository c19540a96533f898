/-! ===== reading the text: figures, signs, numbers ===== -/
set_option maxRecDepth 100000 in
theorem sb_all : ∀ x : Fin 256, (x.val < 128 → (nI x.val).toInt8.toInt32 = nI x.val) ∧ (128 ≤ x.val → (nI x.val).toInt8.toInt32 < 0 ∧ (nI x.val).toInt8.toInt32 - 48 < 0) := by decide +kernel
theorem sb_lo {x : Nat} (h : x < 128) : (nI x).toInt8.toInt32 = nI x := (sb_all ⟨x, by omega⟩).1 h
theorem sb_hi {x : Nat} (h : 128 ≤ x) (h2 : x < 256) : (nI x).toInt8.toInt32 < 0 ∧ (nI x).toInt8.toInt32 - 48 < 0 := (sb_all ⟨x, h2⟩).2 h
theorem sb_eq {x c : Nat} (hx : x < 256) (hc : c < 128) : (nI x).toInt8.toInt32 = nI c ↔ x = c := by
  by_cases h : x < 128
  · rw [sb_lo h, neq (by omega) (by omega)]
  · have := (sb_hi (by omega) hx).1
    refine ⟨fun z => ?_, fun z => by omega⟩
    rw [z] at this
    exact absurd this (nI_pos (by omega))
def fig (T : List Nat) (a b : Nat) : Option Nat := match T[a]? with
  | none => none
  | some x => if 48 ≤ x ∧ x < 48 + b then some (x - 48) else none
theorem fig_lt {T : List Nat} {a b v : Nat} (h : fig T a b = some v) : v < b ∧ a < T.length ∧ T[a]? = some (v + 48) := by
  unfold fig at h
  cases hx : T[a]? with
  | none => rw [hx] at h; cases h
  | some x =>
    rw [hx] at h
    dsimp only at h
    by_cases c : 48 ≤ x ∧ x < 48 + b
    · rw [if_pos c] at h
      cases h
      exact ⟨by omega, (List.getElem?_eq_some_iff.mp hx).1, by rw [show x - 48 + 48 = x by omega]⟩
    · rw [if_neg c] at h; cases h
/-- what both sides hold of the text -/
def TxR (bt tx : Nat → Int32) (T : List Nat) : Prop := T.length ≤ 300 ∧ (∀ x ∈ T, x < 256) ∧ ∀ (j x : Nat), T[j]? = some x → bt j = (nI x).toInt8.toInt32 ∧ tx j = nI x
theorem RText.tx {bt tx : Nat → Int32} {sz ln : Int32} {T : List Nat} (h : RText bt sz tx ln T) : TxR bt tx T := ⟨h.1, h.2.2.2.1, h.2.2.2.2⟩
section PARSE
variable {N : Nat} {bt tx : Nat → Int32} {T : List Nat}
theorem TxR.at (hT : TxR bt tx T) {a : Nat} (ha : a < T.length) : ∃ x, T[a]? = some x ∧ x < 256 ∧ bt a = (nI x).toInt8.toInt32 ∧ tx a = nI x := by
  have hx : T[a]? = some T[a] := List.getElem?_eq_getElem ha
  exact ⟨T[a], hx, hT.2.1 _ (List.mem_of_getElem? hx), (hT.2.2 a _ hx).1, (hT.2.2 a _ hx).2⟩
theorem tf_none (hT : TxR bt tx T) {a b : Nat} (ha : a ≤ T.length) (hb : b ≤ 10) (h : fig T a b = none) : g_X4_takeFigure N bt (nI T.length) (nI a) (nI b) = some (-1, nI a) := by
  have hl := hT.1
  unfold g_X4_takeFigure
  by_cases c : a < T.length
  · obtain ⟨x, hx, x2, x3, x4⟩ := hT.at c
    rw [if_pos ((nlt (by omega) (by omega)).mpr c), gi_nI (by omega) (by omega), nc (by omega), x3]
    unfold fig at h
    rw [hx] at h
    dsimp only at h
    by_cases y : x < 128
    · rw [sb_lo y, show (48 : Int32) = nI 48 from rfl]
      by_cases z : x < 48
      · rw [if_pos (pk_sneg (by omega) z)]
      · rw [nsub (by omega), if_neg (nI_pos (by omega))]
        have hn : ¬ nI (x - 48) < nI b := by
          rw [nlt (by omega) (by omega)]
          intro w
          rw [if_pos (by omega)] at h
          cases h
        rw [if_neg hn]
    · rw [if_pos (sb_hi (by omega) x2).2]
  · rw [if_neg (by rw [nlt (by omega) (by omega)]; omega)]
theorem tf_some (hT : TxR bt tx T) {a b v : Nat} (hb : b ≤ 10) (h : fig T a b = some v) : g_X4_takeFigure N bt (nI T.length) (nI a) (nI b) = some (nI v, nI (a + 1)) := by
  have hl := hT.1
  obtain ⟨h1, h2, h3⟩ := fig_lt h
  obtain ⟨x, hx, x2, x3, x4⟩ := hT.at h2
  rw [h3] at hx
  cases hx
  unfold g_X4_takeFigure
  rw [if_pos ((nlt (by omega) (by omega)).mpr h2), gi_nI (by omega) (by omega), nc (by omega), x3, sb_lo (by omega), show (48 : Int32) = nI 48 from rfl, nsub (by omega), Nat.add_sub_cancel, if_neg (nI_pos (by omega)), if_pos ((nlt (by omega) (by omega)).mpr h1), nI_1]
theorem ts_yes (hT : TxR bt tx T) {a c : Nat} (hc : c < 128) (h : T[a]? = some c) : g_X4_takesSign N bt (nI T.length) (nI a) (nI c) = some (1, nI (a + 1)) := by
  have hl := hT.1
  have ha := (List.getElem?_eq_some_iff.mp h).1
  unfold g_X4_takesSign
  rw [if_neg (by rw [nle (by omega) (by omega)]; omega), gi_nI (by omega) (by omega), nc (by omega), (hT.2.2 a c h).1, if_pos (sb_lo hc), nI_1]
theorem ts_no (hT : TxR bt tx T) {a c : Nat} (ha : a ≤ T.length) (hc : c < 128) (h : ¬ T[a]? = some c) : g_X4_takesSign N bt (nI T.length) (nI a) (nI c) = some (0, nI a) := by
  have hl := hT.1
  unfold g_X4_takesSign
  by_cases y : a < T.length
  · obtain ⟨x, hx, x2, x3, x4⟩ := hT.at y
    rw [if_neg (by rw [nle (by omega) (by omega)]; omega), gi_nI (by omega) (by omega), nc (by omega), x3, if_neg (fun z => h (by rw [hx, (sb_eq x2 hc).mp z]))]
  · rw [if_pos ((nle (by omega) (by omega)).mpr (by omega))]
theorem ba_some (hT : TxR bt tx T) {a x : Nat} (h : T[a]? = some x) : g_X12_byteAt N tx (nI T.length) (nI a) = some (nI x) := by
  have hl := hT.1
  have ha := (List.getElem?_eq_some_iff.mp h).1
  unfold g_X12_byteAt
  rw [if_neg (by rw [nle (by omega) (by omega)]; omega), gi_nI (by omega) (by omega), nc (by omega), (hT.2.2 a x h).2]
theorem ba_none (hT : TxR bt tx T) {a : Nat} (ha : a ≤ T.length) (h : T[a]? = none) : g_X12_byteAt N tx (nI T.length) (nI a) = some (-1) := by
  have hl := hT.1
  unfold g_X12_byteAt
  rw [if_pos ((nle (by omega) (by omega)).mpr (List.getElem?_eq_none_iff.mp h))]
/-- a byte against a sign, in the reference -/
theorem ba_eq (hT : TxR bt tx T) {a : Nat} (ha : a ≤ T.length) : ∃ z, g_X12_byteAt N tx (nI T.length) (nI a) = some z ∧ ∀ c, c < 128 → (z = nI c ↔ T[a]? = some c) := by
  cases hx : T[a]? with
  | none =>
    refine ⟨-1, ba_none hT ha hx, fun c hc => ⟨fun z => ?_, fun z => by cases z⟩⟩
    exact absurd (show nI c < 0 by rw [← z]; decide) (nI_pos (by omega))
  | some x =>
    have x2 := hT.2.1 x (List.mem_of_getElem? hx)
    refine ⟨nI x, ba_some hT hx, fun c hc => ?_⟩
    rw [neq (by omega) (by omega)]
    exact ⟨fun z => by rw [z], fun z => Option.some.inj z⟩
theorem if_none (hT : TxR bt tx T) {a b : Nat} (ha : a ≤ T.length) (hb : b < 10) (h : fig T a (b + 1) = none) : g_X12_isFigure N tx (nI T.length) (nI a) (nI b) = some 0 := by
  unfold g_X12_isFigure
  have e48 : 48 + nI b = nI (48 + b) := by rw [show (48 : Int32) = nI 48 from rfl, nI_add]
  rw [e48]
  cases hx : T[a]? with
  | none =>
    rw [ba_none hT ha hx]
    rfl
  | some x =>
    have x2 := hT.2.1 x (List.mem_of_getElem? hx)
    rw [ba_some hT hx]
    simp only [Option.bind_some]
    unfold fig at h
    rw [hx] at h
    dsimp only at h
    unfold g_X12_in
    rw [show (48 : Int32) = nI 48 from rfl]
    by_cases c : x < 48
    · rw [if_pos ((nlt (by omega) (by omega)).mpr c)]; rfl
    · rw [if_neg (by rw [nlt (by omega) (by omega)]; omega)]
      by_cases y : 48 + b < x
      · rw [if_pos ((nlt (by omega) (by omega)).mpr y)]; rfl
      · rw [if_pos (by omega)] at h; cases h
theorem if_some (hT : TxR bt tx T) {a b v : Nat} (hb : b < 10) (h : fig T a (b + 1) = some v) : g_X12_isFigure N tx (nI T.length) (nI a) (nI b) = some 1 ∧ g_X12_byteAt N tx (nI T.length) (nI a) = some (nI (v + 48)) := by
  obtain ⟨h1, h2, h3⟩ := fig_lt h
  have e48 : 48 + nI b = nI (48 + b) := by rw [show (48 : Int32) = nI 48 from rfl, nI_add]
  refine ⟨?_, ba_some hT h3⟩
  unfold g_X12_isFigure g_X12_in
  rw [e48, ba_some hT h3]
  simp only [Option.bind_some]
  rw [show (48 : Int32) = nI 48 from rfl, if_neg (by rw [nlt (by omega) (by omega)]; omega), if_neg (by rw [nlt (by omega) (by omega)]; omega)]
  rfl
def num (T : List Nat) (a : Nat) : Option (Nat × Nat) := match fig T a 10 with
  | none => none
  | some v => match fig T (a + 1) 10 with
    | none => some (v, a + 1)
    | some w => some (10 * v + w, a + 2)
theorem num_lt {a v c : Nat} (h : num T a = some (v, c)) : v < 100 ∧ a < c ∧ c ≤ T.length := by
  unfold num at h
  cases h1 : fig T a 10 with
  | none => rw [h1] at h; cases h
  | some x =>
    rw [h1] at h
    dsimp only at h
    have f1 := fig_lt h1
    cases h2 : fig T (a + 1) 10 with
    | none => rw [h2] at h; cases h; omega
    | some y =>
      rw [h2] at h
      have f2 := fig_lt h2
      cases h
      omega
def numsS (T : List Nat) : Nat → Nat → Option (List Nat × Nat)
  | 0, a => some ([], a)
  | m + 1, a => match num T a with
    | none => none
    | some (v, c) => if T[c]? = some (if m = 0 then 59 else 44) then (match numsS T m (c + 1) with
      | none => none
      | some (l, e) => some (v :: l, e)) else none
theorem numsS_ok : ∀ {m a : Nat} {l : List Nat} {e : Nat}, numsS T m a = some (l, e) → a ≤ T.length → l.length = m ∧ (∀ x ∈ l, x < 100) ∧ a + m ≤ e ∧ e ≤ T.length := by
  intro m
  induction m with
  | zero =>
    intro a l e h ha
    unfold numsS at h
    cases h
    exact ⟨rfl, fun x hx => by simp at hx, by omega, ha⟩
  | succ m ih =>
    intro a l e h ha
    unfold numsS at h
    cases h1 : num T a with
    | none => rw [h1] at h; cases h
    | some vc =>
      obtain ⟨v, c⟩ := vc
      rw [h1] at h
      dsimp only at h
      have n1 := num_lt h1
      by_cases y : T[c]? = some (if m = 0 then 59 else 44)
      · rw [if_pos y] at h
        have hc := (List.getElem?_eq_some_iff.mp y).1
        cases h2 : numsS T m (c + 1) with
        | none => rw [h2] at h; cases h
        | some le =>
          obtain ⟨l2, e2⟩ := le
          rw [h2] at h
          cases h
          obtain ⟨q1, q2, q3, q4⟩ := ih h2 (by omega)
          refine ⟨by rw [List.length_cons, q1], fun x hx => ?_, by omega, q4⟩
          rcases List.mem_cons.mp hx with z | z
          · omega
          · exact q2 x z
      · rw [if_neg y] at h; cases h
theorem rn_b58 (hT : TxR bt tx T) {n i m c v : Nat} (hn : n ≤ 3) (him : i + (m + 1) = n) (hc : c ≤ T.length) (hv : v < 100) (rec_2 : AI → Int32 → Int32 → Int32 → Option (Int32 × AI × Int32)) (number : AI) :
    g_X4_readsNumbers_b58 N bt (nI T.length) rec_2 number (nI c) (nI n) (nI i) (nI i) (nI v) = if T[c]? = some (if m = 0 then 59 else 44) then rec_2 (upd number i (nI v)) (nI (c + 1)) (nI n) (nI (i + 1)) else some (0, upd number i (nI v), nI c) := by
  unfold g_X4_readsNumbers_b58
  rw [gi_nI (by omega) (by omega), nc (by omega), l1, nsub (by omega)]
  unfold g_X4_readsNumbers_b74
  by_cases z : m = 0
  · rw [if_pos (by rw [show i = n - 1 by omega]), if_pos z]
    by_cases y : T[c]? = some 59
    · have := ts_yes (N := N) hT (by omega) y
      have h1 : g_X4_takesSign N bt (nI T.length) (nI c) 59 = _ := this
      rw [h1, if_pos y]
      simp only [Option.bind_some]
      rw [if_neg (show ¬ (1 : Int32) = 0 by decide), nI_1]
    · have := ts_no (N := N) hT hc (by omega) y
      have h1 : g_X4_takesSign N bt (nI T.length) (nI c) 59 = _ := this
      rw [h1, if_neg y]
      simp only [Option.bind_some]
      rw [if_pos trivial]
  · rw [if_neg (by rw [neq (by omega) (by omega)]; omega), if_neg z]
    by_cases y : T[c]? = some 44
    · have := ts_yes (N := N) hT (by omega) y
      have h1 : g_X4_takesSign N bt (nI T.length) (nI c) 44 = _ := this
      rw [h1, if_pos y]
      simp only [Option.bind_some]
      rw [if_neg (show ¬ (1 : Int32) = 0 by decide), nI_1]
    · have := ts_no (N := N) hT hc (by omega) y
      have h1 : g_X4_takesSign N bt (nI T.length) (nI c) 44 = _ := this
      rw [h1, if_neg y]
      simp only [Option.bind_some]
      rw [if_pos trivial]
theorem rn_loop (hT : TxR bt tx T) {n : Nat} (hn : n ≤ 3) : ∀ (m i : Nat), i + m = n → ∀ fu, m < fu → ∀ (a : Nat), a ≤ T.length → ∀ (number : AI), ∃ v, g_X4_readsNumbers_L2 N bt (nI T.length) fu number (nI a) (nI n) (nI i) = some v ∧ (numsS T m a = none → v.1 = 0) ∧ ∀ l e, numsS T m a = some (l, e) → v.1 = 1 ∧ v.2.2 = nI e ∧ (∀ k, k < i → v.2.1 k = number k) ∧ ∀ k x, l[k]? = some x → v.2.1 (i + k) = nI x := by
  have hl := hT.1
  have nm1 : ¬ (0 : Int32) ≤ -1 := by decide
  intro m
  induction m with
  | zero =>
    intro i him fu hfu a ha number
    obtain ⟨fv, rfl⟩ : ∃ fv, fu = fv + 1 := ⟨fu - 1, by omega⟩
    refine ⟨(1, number, nI a), ?_, fun h => (by unfold numsS at h; cases h), fun l e h => ?_⟩
    · unfold g_X4_readsNumbers_L2
      rw [if_pos ((nle (by omega) (by omega)).mpr (by omega))]
    · unfold numsS at h
      cases h
      exact ⟨rfl, rfl, fun k _ => rfl, fun k x hk => by simp at hk⟩
  | succ m ih =>
    intro i him fu hfu a ha number
    obtain ⟨fv, rfl⟩ : ∃ fv, fu = fv + 1 := ⟨fu - 1, by omega⟩
    have hgo : ∀ v c, num T a = some (v, c) → ∃ r, (if T[c]? = some (if m = 0 then 59 else 44) then g_X4_readsNumbers_L2 N bt (nI T.length) fv (upd number i (nI v)) (nI (c + 1)) (nI n) (nI (i + 1)) else some (0, upd number i (nI v), nI c)) = some r ∧ (numsS T (m + 1) a = none → r.1 = 0) ∧ ∀ l e, numsS T (m + 1) a = some (l, e) → r.1 = 1 ∧ r.2.2 = nI e ∧ (∀ k, k < i → r.2.1 k = number k) ∧ ∀ k x, l[k]? = some x → r.2.1 (i + k) = nI x := by
      intro v c hv
      have n1 := num_lt hv
      have hS : numsS T (m + 1) a = if T[c]? = some (if m = 0 then 59 else 44) then (match numsS T m (c + 1) with
        | none => none
        | some (l, e) => some (v :: l, e)) else none := by
        conv => lhs; unfold numsS
        rw [hv]
      by_cases y : T[c]? = some (if m = 0 then 59 else 44)
      · have hc := (List.getElem?_eq_some_iff.mp y).1
        obtain ⟨r, r1, r2, r3⟩ := ih (i + 1) (by omega) fv (by omega) (c + 1) (by omega) (upd number i (nI v))
        rw [if_pos y] at hS ⊢
        refine ⟨r, r1, fun h => ?_, fun l e h => ?_⟩
        · rw [hS] at h
          cases h2 : numsS T m (c + 1) with
          | none => exact r2 h2
          | some le => rw [h2] at h; cases h
        · rw [hS] at h
          cases h2 : numsS T m (c + 1) with
          | none => rw [h2] at h; cases h
          | some le =>
            obtain ⟨l2, e2⟩ := le
            rw [h2] at h
            cases h
            obtain ⟨q1, q2, q3, q4⟩ := r3 l2 _ h2
            refine ⟨q1, q2, fun k hk => ?_, fun k x hk => ?_⟩
            · rw [q3 k (by omega), pk_un (by omega)]
            · cases k with
              | zero =>
                rw [List.getElem?_cons_zero] at hk
                cases hk
                rw [Nat.add_zero, q3 i (by omega), pk_us]
              | succ k =>
                rw [List.getElem?_cons_succ] at hk
                rw [show i + (k + 1) = i + 1 + k by omega]
                exact q4 k x hk
      · rw [if_neg y] at hS ⊢
        refine ⟨_, rfl, fun _ => rfl, fun l e h => ?_⟩
        rw [hS] at h
        cases h
    unfold g_X4_readsNumbers_L2
    rw [if_neg (by rw [nle (by omega) (by omega)]; omega), if_neg (by rw [nle (by omega) (by omega)]; omega), l10]
    cases h1 : fig T a 10 with
    | none =>
      rw [tf_none hT ha (by omega) h1]
      simp only [Option.bind_some]
      rw [if_neg nm1]
      have hS : numsS T (m + 1) a = none := by unfold numsS num; rw [h1]
      exact ⟨_, rfl, fun _ => rfl, fun l e h => by rw [hS] at h; cases h⟩
    | some v0 =>
      have f1 := fig_lt h1
      rw [tf_some hT (by omega) h1]
      simp only [Option.bind_some]
      rw [if_pos (nI_pos' (by omega))]
      cases h2 : fig T (a + 1) 10 with
      | none =>
        have hv : num T a = some (v0, a + 1) := by unfold num; rw [h1, h2]
        rw [tf_none hT (by omega) (by omega) h2]
        simp only [Option.bind_some]
        rw [if_neg nm1, rn_b58 hT hn him (by omega) (by omega)]
        exact hgo _ _ hv
      | some w =>
        have f2 := fig_lt h2
        have hv : num T a = some (10 * v0 + w, a + 2) := by unfold num; rw [h1, h2]
        rw [tf_some hT (by omega) h2]
        simp only [Option.bind_some]
        rw [if_pos (nI_pos' (by omega)), pk_mul, nI_add, rn_b58 hT hn him (by omega) (by omega)]
        exact hgo _ _ hv
theorem pX4_readsNumbers (hN : 20 < N) (hT : TxR bt tx T) {n : Nat} (hn : n ≤ 3) {a : Nat} (ha : a ≤ T.length) (number : AI) : ∃ v, g_X4_readsNumbers N bt (nI T.length) number (nI a) (nI n) = some v ∧ (numsS T n a = none → v.1 = 0) ∧ ∀ l e, numsS T n a = some (l, e) → v.1 = 1 ∧ v.2.2 = nI e ∧ ∀ k x, l[k]? = some x → v.2.1 k = nI x := by
  obtain ⟨v, v1, v2, v3⟩ := rn_loop (N := N) hT hn n 0 (by omega) N (by omega) a ha number
  refine ⟨v, v1, v2, fun l e h => ?_⟩
  obtain ⟨q1, q2, q3, q4⟩ := v3 l e h
  exact ⟨q1, q2, fun k x hk => by have := q4 k x hk; rw [Nat.zero_add] at this; exact this⟩
/-- the reference's numbers -/
theorem nm_in (hN : 20 < N) (hT : TxR bt tx T) {a : Nat} (ha : a ≤ T.length) (kk : Int32 → AI → Int32 → Int32 → Int32 → Int32 → Option (Int32 × Int32 × AI)) (told : AI) (x1 x2 : Int32) :
    (num T a = none → g_X12_numbers_L15 N tx (nI T.length) kk N (nI a) told x1 x2 (nI a) 0 = kk (nI a) told x1 x2 (nI a) 0) ∧ ∀ v c, num T a = some (v, c) → g_X12_numbers_L15 N tx (nI T.length) kk N (nI a) told x1 x2 (nI a) 0 = kk (nI c) told x1 x2 (nI a) (nI v) := by
  have hl := hT.1
  obtain ⟨f0, rfl⟩ : ∃ f, N = f + 3 := ⟨N - 3, by omega⟩
  have e2 : nI a + 2 = nI (a + 2) := by rw [l2, nI_add]
  have h1s : ∀ {b v : Nat}, fig T b 10 = some v → g_X12_isFigure (f0 + 3) tx (nI T.length) (nI b) 9 = some 1 ∧ g_X12_byteAt (f0 + 3) tx (nI T.length) (nI b) = some (nI (v + 48)) := fun h => if_some (b := 9) hT (by omega) h
  have h1n : ∀ {b : Nat}, b ≤ T.length → fig T b 10 = none → g_X12_isFigure (f0 + 3) tx (nI T.length) (nI b) 9 = some 0 := fun hb h => if_none (b := 9) hT hb (by omega) h
  cases h1 : fig T a 10 with
  | none =>
    have hnum : num T a = none := by unfold num; rw [h1]
    refine ⟨fun _ => ?_, fun v c h => by rw [hnum] at h; cases h⟩
    unfold g_X12_numbers_L15
    rw [e2, if_neg (by rw [nle (by omega) (by omega)]; omega), h1n ha h1]
    simp only [Option.bind_some]
    rw [if_pos trivial]
  | some v0 =>
    have f1 := fig_lt h1
    have hval : 10 * (0 : Int32) + nI (v0 + 48) - 48 = nI v0 := by
      rw [show 10 * (0 : Int32) = nI 0 from rfl, nI_add, show (48 : Int32) = nI 48 from rfl, nsub (by omega)]
      congr 1
      omega
    have s1 : g_X12_numbers_L15 (f0 + 3) tx (nI T.length) kk (f0 + 3) (nI a) told x1 x2 (nI a) 0 = g_X12_numbers_L15 (f0 + 3) tx (nI T.length) kk (f0 + 2) (nI (a + 1)) told x1 x2 (nI a) (nI v0) := by
      conv => lhs; unfold g_X12_numbers_L15
      rw [e2, if_neg (by rw [nle (by omega) (by omega)]; omega), (h1s h1).1, (h1s h1).2]
      simp only [Option.bind_some]
      rw [if_neg (show ¬ (1 : Int32) = 0 by decide), nI_1, hval]
    cases h2 : fig T (a + 1) 10 with
    | none =>
      have hnum : num T a = some (v0, a + 1) := by unfold num; rw [h1, h2]
      refine ⟨fun h => (by rw [hnum] at h; cases h), fun v c h => ?_⟩
      rw [hnum] at h
      cases h
      rw [s1]
      unfold g_X12_numbers_L15
      rw [e2, if_neg (by rw [nle (by omega) (by omega)]; omega), h1n (by omega) h2]
      simp only [Option.bind_some]
      rw [if_pos trivial]
    | some w =>
      have f2 := fig_lt h2
      have hnum : num T a = some (10 * v0 + w, a + 2) := by unfold num; rw [h1, h2]
      refine ⟨fun h => (by rw [hnum] at h; cases h), fun v c h => ?_⟩
      rw [hnum] at h
      cases h
      have hval2 : 10 * nI v0 + nI (w + 48) - 48 = nI (10 * v0 + w) := by
        rw [l10, pk_mul, nI_add, show (48 : Int32) = nI 48 from rfl, nsub (by omega)]
        congr 1
      have s2 : g_X12_numbers_L15 (f0 + 3) tx (nI T.length) kk (f0 + 2) (nI (a + 1)) told x1 x2 (nI a) (nI v0) = g_X12_numbers_L15 (f0 + 3) tx (nI T.length) kk (f0 + 1) (nI (a + 2)) told x1 x2 (nI a) (nI (10 * v0 + w)) := by
        conv => lhs; unfold g_X12_numbers_L15
        rw [e2, if_neg (by rw [nle (by omega) (by omega)]; omega), (h1s h2).1, (h1s h2).2]
        simp only [Option.bind_some]
        rw [if_neg (show ¬ (1 : Int32) = 0 by decide), nI_1, hval2]
      rw [s1, s2]
      unfold g_X12_numbers_L15
      rw [e2, if_pos ((nle (by omega) (by omega)).mpr (Nat.le_refl _))]
theorem nm_b66 (hT : TxR bt tx T) {n i m a c v : Nat} (hn : n ≤ 3) (him : i + (m + 1) = n) (hac : a < c) (hc : c ≤ T.length) (rec_2 : Int32 → AI → Int32 → Int32 → Option (Int32 × Int32 × AI)) (told : AI) :
    g_X12_numbers_b66 N tx (nI T.length) rec_2 (nI c) told (nI n) (nI i) (nI a) (nI v) = if T[c]? = some (if m = 0 then 59 else 44) then rec_2 (nI (c + 1)) (upd told i (nI v)) (nI n) (nI (i + 1)) else some (0, nI c, upd told i (nI v)) := by
  have hl := hT.1
  obtain ⟨z, z1, z2⟩ := ba_eq (N := N) hT hc
  unfold g_X12_numbers_b66 g_X12_numbers_b104
  rw [gi_nI (by omega) (by omega), nc (by omega), if_neg (by rw [neq (by omega) (by omega)]; omega), z1]
  simp only [Option.bind_some]
  rw [l1, nsub (by omega), nI_add, nI_add]
  by_cases y : m = 0
  · rw [if_pos ((nle (by omega) (by omega)).mpr (by omega)), if_pos y]
    have : z = 59 ↔ T[c]? = some 59 := z2 59 (by omega)
    by_cases w : T[c]? = some 59
    · rw [if_pos w, if_pos (this.mpr w)]
    · rw [if_neg w, if_neg (fun q => w (this.mp q))]
  · rw [if_neg (by rw [nle (by omega) (by omega)]; omega), if_neg y]
    have : z = 44 ↔ T[c]? = some 44 := z2 44 (by omega)
    by_cases w : T[c]? = some 44
    · rw [if_pos w, if_pos (this.mpr w)]
    · rw [if_neg w, if_neg (fun q => w (this.mp q))]
theorem nm_loop (hN : 20 < N) (hT : TxR bt tx T) {n : Nat} (hn : n ≤ 3) : ∀ (m i : Nat), i + m = n → ∀ fu, m < fu → ∀ (a : Nat), a ≤ T.length → ∀ (told : AI), ∃ v, g_X12_numbers_L2 N tx (nI T.length) fu (nI a) told (nI n) (nI i) = some v ∧ (numsS T m a = none → v.1 = 0) ∧ ∀ l e, numsS T m a = some (l, e) → v.1 = 1 ∧ v.2.1 = nI e ∧ (∀ k, k < i → v.2.2 k = told k) ∧ ∀ k x, l[k]? = some x → v.2.2 (i + k) = nI x := by
  have hl := hT.1
  intro m
  induction m with
  | zero =>
    intro i him fu hfu a ha told
    obtain ⟨fv, rfl⟩ : ∃ fv, fu = fv + 1 := ⟨fu - 1, by omega⟩
    refine ⟨(1, nI a, told), ?_, fun h => (by unfold numsS at h; cases h), fun l e h => ?_⟩
    · unfold g_X12_numbers_L2
      rw [if_pos ((nle (by omega) (by omega)).mpr (by omega))]
    · unfold numsS at h
      cases h
      exact ⟨rfl, rfl, fun k _ => rfl, fun k x hk => by simp at hk⟩
  | succ m ih =>
    intro i him fu hfu a ha told
    obtain ⟨fv, rfl⟩ : ∃ fv, fu = fv + 1 := ⟨fu - 1, by omega⟩
    obtain ⟨i1, i2⟩ := nm_in (N := N) hN hT ha (g_X12_numbers_b66 N tx (nI T.length) (g_X12_numbers_L2 N tx (nI T.length) fv)) told (nI n) (nI i)
    unfold g_X12_numbers_L2
    rw [if_neg (by rw [nle (by omega) (by omega)]; omega)]
    cases hv : num T a with
    | none =>
      rw [i1 hv]
      unfold g_X12_numbers_b66
      rw [gi_nI (by omega) (by omega), if_pos rfl]
      have hS : numsS T (m + 1) a = none := by unfold numsS; rw [hv]
      exact ⟨_, rfl, fun _ => rfl, fun l e h => by rw [hS] at h; cases h⟩
    | some vc =>
      obtain ⟨v, c⟩ := vc
      have n1 := num_lt hv
      rw [i2 v c hv, nm_b66 hT hn him (by omega) (by omega)]
      have hS : numsS T (m + 1) a = if T[c]? = some (if m = 0 then 59 else 44) then (match numsS T m (c + 1) with
        | none => none
        | some (l, e) => some (v :: l, e)) else none := by
        conv => lhs; unfold numsS
        rw [hv]
      by_cases y : T[c]? = some (if m = 0 then 59 else 44)
      · have hc := (List.getElem?_eq_some_iff.mp y).1
        obtain ⟨r, r1, r2, r3⟩ := ih (i + 1) (by omega) fv (by omega) (c + 1) (by omega) (upd told i (nI v))
        rw [if_pos y] at hS ⊢
        refine ⟨r, r1, fun h => ?_, fun l e h => ?_⟩
        · rw [hS] at h
          cases h2 : numsS T m (c + 1) with
          | none => exact r2 h2
          | some le => rw [h2] at h; cases h
        · rw [hS] at h
          cases h2 : numsS T m (c + 1) with
          | none => rw [h2] at h; cases h
          | some le =>
            obtain ⟨l2, e2⟩ := le
            rw [h2] at h
            cases h
            obtain ⟨q1, q2, q3, q4⟩ := r3 l2 _ h2
            refine ⟨q1, q2, fun k hk => ?_, fun k x hk => ?_⟩
            · rw [q3 k (by omega), pk_un (by omega)]
            · cases k with
              | zero =>
                rw [List.getElem?_cons_zero] at hk
                cases hk
                rw [Nat.add_zero, q3 i (by omega), pk_us]
              | succ k =>
                rw [List.getElem?_cons_succ] at hk
                rw [show i + (k + 1) = i + 1 + k by omega]
                exact q4 k x hk
      · rw [if_neg y] at hS ⊢
        refine ⟨_, rfl, fun _ => rfl, fun l e h => ?_⟩
        rw [hS] at h
        cases h
theorem pX12_numbers (hN : 20 < N) (hT : TxR bt tx T) {n : Nat} (hn : n ≤ 3) {a : Nat} (ha : a ≤ T.length) (told : AI) : ∃ v, g_X12_numbers N tx (nI T.length) (nI a) told (nI n) = some v ∧ (numsS T n a = none → v.1 = 0) ∧ ∀ l e, numsS T n a = some (l, e) → v.1 = 1 ∧ v.2.1 = nI e ∧ ∀ k x, l[k]? = some x → v.2.2 k = nI x := by
  obtain ⟨v, v1, v2, v3⟩ := nm_loop (N := N) hN hT hn n 0 (by omega) N (by omega) a ha told
  refine ⟨v, v1, v2, fun l e h => ?_⟩
  obtain ⟨q1, q2, q3, q4⟩ := v3 l e h
  exact ⟨q1, q2, fun k x hk => by have := q4 k x hk; rw [Nat.zero_add] at this; exact this⟩
end PARSE
