/-! ===== the small calls ===== -/
theorem pX12_in0z (N P : Nat) (hP2 : P < 2147483648) (x : Int32) : g_X12_in N x 0 (nI P - 1) = some (if ixB x P then 1 else 0) := by
  by_cases hP : 0 < P
  · exact pX12_in0 N P hP hP2 x
  · have e : P = 0 := by omega
    subst e
    unfold g_X12_in
    have e1 : ixB x 0 = false := by
      cases hb : ixB x 0 with
      | false => rfl
      | true =>
        obtain ⟨j, hj, _⟩ := (ixB_iff (by omega)).mp hb
        omega
    by_cases h1 : x < 0
    · simp [h1, e1]
    · have e2 : nI 0 - 1 < x := by
        have h2 : 0 ≤ x := Int32.not_lt.mp h1
        exact Int32.lt_of_lt_of_le (show nI 0 - 1 < 0 by decide) h2
      rw [if_neg h1, if_pos e2, e1]; rfl
theorem ixB_none {x : Int32} {n : Nat} (h : ixB x n = false) (hn : n < 2147483648) : x < 0 ∨ nI n ≤ x := by
  rcases pk_ix x hn with a | a | a
  · exact Or.inl a
  · exact Or.inr a
  · rw [(ixB_iff hn).mpr a] at h; cases h
theorem t_delay {N P S H law : Nat} {mi book : Nat → Int32} {d : Nat → Nat → Nat} (hh : HOk P S H law mi book d) (x1 x2 : Int32) :
    ∃ v w, g_X11_delay N (nI P) mi x1 x2 = some v ∧ g_X12_delay N book x1 x2 = some w ∧ v = w := by
  obtain ⟨⟨hP1, hP⟩, ⟨hS1, hS⟩, ⟨hH1, hH⟩, hlaw, hdr, hdb, hd0, k0, k1, k2, k3⟩ := hh
  unfold g_X11_delay g_X12_delay
  rw [pX2_isPlace, pX2_isPlace, pX12_isPlace N P book (by omega) (by omega) k0, pX12_isPlace N P book (by omega) (by omega) k0]
  cases hx1 : ixB x1 P with
  | false => exact ⟨_, _, rfl, rfl, rfl⟩
  | true =>
    cases hx2 : ixB x2 P with
    | false => exact ⟨_, _, rfl, rfl, rfl⟩
    | true =>
      obtain ⟨a, ha, rfl⟩ := (ixB_iff (by omega)).mp hx1
      obtain ⟨b, hb, rfl⟩ := (ixB_iff (by omega)).mp hx2
      have e1 : 5 + 5 * nI a + nI b = nI (5 + 5 * a + b) := by rw [l5, pk_mul, nI_add, nI_add]
      rw [pX2_minutesBetween N P hdr hP ha hb, e1, gi_nI (by omega) (by omega), nc (by omega), (hdb a b ha hb).1]
      exact ⟨_, _, rfl, rfl, rfl⟩
/-- the book's words on both sides -/
def WR (wso : Nat → Nat → Int32) (wsz : Nat → Int32) (bz : Int32) (book : Nat → Int32) (W : List (List Nat)) : Prop := W.length ≤ 8 ∧ bz = nI W.length ∧ book 4 = nI W.length ∧ ∀ (w : Nat) (l : List Nat), W[w]? = some l → (1 ≤ l.length ∧ l.length ≤ 4) ∧ wsz w = nI l.length ∧ book (30 + w) = nI l.length ∧ ∀ (k x : Nat), l[k]? = some x → x < 8 ∧ wso w k = nI x ∧ book (38 + 4 * w + k) = nI x
theorem pX1_isWord (N P : Nat) (x : Int32) : g_X1_isWord N (nI P) x = some (if ixB x P then 1 else 0) := pX2_isPlace N P x
theorem pX0_isBeat (N P : Nat) (x : Int32) : g_X0_isBeat N (nI P) x = some (if ixB x P then 1 else 0) := pX2_isPlace N P x
theorem t_word {N : Nat} {wso : Nat → Nat → Int32} {wsz book : Nat → Int32} {bz : Int32} {W : List (List Nat)} (hW : WR wso wsz bz book W) (x1 x2 : Int32) :
    ∃ v w, g_X11_word N wso wsz bz x1 x2 = some v ∧ g_X12_word N book x1 x2 = some w ∧ v = w := by
  obtain ⟨h8, rfl, h4, hw⟩ := hW
  unfold g_X11_word g_X12_word
  rw [pX1_isWord, show (4 : Int32).toNatClampNeg = 4 from rfl, h4, pX12_in0z N W.length (by omega), l4, gi_nI (by omega) (by omega)]
  cases hx1 : ixB x1 W.length with
  | false => exact ⟨_, _, rfl, rfl, rfl⟩
  | true =>
    obtain ⟨a, ha, rfl⟩ := (ixB_iff (by omega)).mp hx1
    simp only [Option.bind_some, if_true]
    rw [if_neg (show ¬ (1 : Int32) = 0 by decide), if_neg (show ¬ (1 : Int32) = 0 by decide)]
    by_cases c : (0 : Int32) ≤ x2
    · rw [if_pos c, if_pos c]
      obtain ⟨l, hl⟩ : ∃ l, W[a]? = some l := ⟨_, List.getElem?_eq_getElem ha⟩
      obtain ⟨⟨b1, b2⟩, b3, b4, b5⟩ := hw a l hl
      have e1 : 30 + nI a = nI (30 + a) := by rw [l30, nI_add]
      rw [e1, gi_nI (by omega) (by omega), gi_nI (by omega) (by omega), nc (by omega), nc (by omega), b3, b4]
      by_cases c2 : nI l.length ≤ x2
      · rw [if_pos c2, if_pos c2]; exact ⟨_, _, rfl, rfl, rfl⟩
      · rw [if_neg c2, if_neg c2]
        rcases pk_ix x2 (show l.length < 2 ^ 31 by omega) with z | z | ⟨k, hk, rfl⟩
        · exact absurd z (Int32.not_lt.mpr c)
        · exact absurd z c2
        · obtain ⟨x, hx⟩ : ∃ x, l[k]? = some x := ⟨_, List.getElem?_eq_getElem hk⟩
          obtain ⟨f1, f2, f3⟩ := b5 k x hx
          have e2 : 38 + nI 4 * nI a + nI k = nI (38 + 4 * a + k) := by rw [l38, pk_mul, nI_add, nI_add]
          rw [e2, gi_nI (by omega) (by omega), gi_nI (by omega) (by omega), nc (by omega), nc (by omega), f2, f3]
          exact ⟨_, _, rfl, rfl, rfl⟩
    · rw [if_neg c, if_neg c]; exact ⟨_, _, rfl, rfl, rfl⟩
/-! steps -/
def StR (st : Nat → Int32) (sn : Int32) (ac : Nat → Int32) (an : Int32) (A : List Nat) : Prop := A.length ≤ 8 ∧ sn = nI A.length ∧ an = nI A.length ∧ (∀ x ∈ A, x ≤ 600) ∧ Rp st A ∧ Rp ac A
/-- what the steps undo, from the latest -/
def VH : List Be → Nat → List Nat → Prop
  | _, _, [] => True
  | B, now, n :: l => (n = 0 → B ≠ [] ∧ VH B.dropLast now l) ∧ (n ≠ 0 → n ≤ now ∧ (∀ e ∈ B, e.2.2 ≤ now - n) ∧ VH B (now - n) l)
theorem VH.take {B : List Be} {now : Nat} : ∀ {l : List Nat} (k : Nat), VH B now l → VH B now (l.take k) := by
  intro l
  induction l generalizing B now with
  | nil => intro k h; simp [VH]
  | cons n l ih =>
    intro k h
    cases k with
    | zero => simp [VH]
    | succ k =>
      rw [List.take_succ_cons]
      exact ⟨fun z => ⟨(h.1 z).1, ih k (h.1 z).2⟩, fun z => ⟨(h.2 z).1, (h.2 z).2.1, ih k (h.2 z).2.2⟩⟩
theorem Rp.drop1 {st : Nat → Int32} {A : List Nat} (h : Rp st A) {n : Nat} (hn : A.length ≤ n + 1) : Rp (va_cpy st st 1 0 n) (A.drop 1) := by
  intro j x hj
  rw [List.getElem?_drop] at hj
  have hl := (List.getElem?_eq_some_iff.mp hj).1
  unfold va_cpy
  rw [if_pos (by omega)]
  exact h _ x hj
def pushA (A : List Nat) (x : Nat) : List Nat := if A.length < 8 then A ++ [x] else A.drop 1 ++ [x]
theorem pushA_len {A : List Nat} (h : A.length ≤ 8) (x : Nat) : (pushA A x).length ≤ 8 := by
  unfold pushA
  by_cases a : A.length < 8
  · rw [if_pos a]; simp; omega
  · rw [if_neg a]; simp; omega
theorem pushA_rev {A : List Nat} (h : A.length ≤ 8) (x : Nat) : ∃ k, (pushA A x).reverse = x :: A.reverse.take k := by
  unfold pushA
  by_cases a : A.length < 8
  · rw [if_pos a]; exact ⟨8, by simp [List.take_of_length_le (show A.reverse.length ≤ 8 by simp; omega)]⟩
  · rw [if_neg a]
    refine ⟨7, ?_⟩
    rw [List.reverse_append, List.take_reverse]
    have : A.length - 7 = 1 := by omega
    rw [this]; rfl
theorem pX8_append (N : Nat) {st : Nat → Int32} {A : List Nat} (hr : Rp st A) (h8 : A.length ≤ 8) (x : Nat) : ∃ st', g_X8_append N st (nI A.length) (nI x) = some (st', nI (pushA A x).length) ∧ Rp st' (pushA A x) := by
  unfold g_X8_append pushA
  by_cases a : A.length < 8
  · rw [if_pos a, if_pos (by rw [l8, nlt (by omega) (by omega)]; omega)]
    unfold g_X8_append_b30
    rw [gi_nI (by omega) (by omega), nc (by omega), nI_1]
    refine ⟨_, ?_, hr.push x⟩
    simp
  · rw [if_neg a, if_neg (by rw [l8, nlt (by omega) (by omega)]; omega)]
    unfold g_X8_append_b30
    have hd : (A.drop 1).length = 7 := by simp; omega
    rw [l7, gi_nI (by omega) (by omega), nc (by omega), nI_1]
    have := (hr.drop1 (n := 7) (by omega)).push x
    rw [hd] at this
    refine ⟨_, ?_, this⟩
    rw [List.length_append, hd]; rfl
theorem pX12_acts (N : Nat) (hN : 20 < N) {st : Nat → Int32} {A : List Nat} (hr : Rp st A) (h8 : A.length ≤ 8) (x : Nat) : ∃ st', g_X12_acts N st (nI A.length) (nI x) = some (st', nI (pushA A x).length) ∧ Rp st' (pushA A x) := by
  unfold g_X12_acts pushA
  by_cases a : A.length < 8
  · rw [if_pos a, if_neg (by rw [l8, neq (by omega) (by omega)]; omega)]
    unfold g_X12_acts_b43
    rw [gi_nI (by omega) (by omega), nc (by omega), nI_1]
    refine ⟨_, ?_, hr.push x⟩
    simp
  · rw [if_neg a, if_pos (by rw [l8, neq (by omega) (by omega)]; omega)]
    have hl : A.length = 8 := by omega
    suffices h : ∀ (d j : Nat), j + d = 7 → ∀ fu, d < fu → g_X12_acts_L11 N (g_X12_acts_b37 N) fu (shl st 0 j) (nI A.length) (nI x) (nI j) = g_X12_acts_b37 N (shl st 0 7) (nI A.length) (nI x) by
      have h1 := h 7 0 (by omega) N (by omega)
      rw [shl_0] at h1
      have h1' : g_X12_acts_L11 N (g_X12_acts_b37 N) N st (nI A.length) (nI x) 0 = _ := h1
      rw [h1']
      unfold g_X12_acts_b37 g_X12_acts_b43
      have hd : (A.drop 1).length = 7 := by simp; omega
      rw [l7, gi_nI (by omega) (by omega), nc (by omega), nI_1]
      have h2 := hr.erase 0
      rw [hl] at h2
      have h3 : A.eraseIdx 0 = A.drop 1 := by simp [List.eraseIdx_eq_take_drop_succ]
      rw [h3] at h2
      have h4 := h2.push x
      rw [hd] at h4
      refine ⟨_, ?_, h4⟩
      rw [List.length_append, hd]; rfl
    intro d
    induction d with
    | zero =>
      intro j hj fu hfu
      obtain ⟨fv, rfl⟩ : ∃ fv, fu = fv + 1 := ⟨fu - 1, by omega⟩
      have : j = 7 := by omega
      subst this
      unfold g_X12_acts_L11
      rw [if_pos (by decide)]
    | succ d ih =>
      intro j hj fu hfu
      obtain ⟨fv, rfl⟩ : ∃ fv, fu = fv + 1 := ⟨fu - 1, by omega⟩
      unfold g_X12_acts_L11
      rw [if_neg (by rw [l7, nle (by omega) (by omega)]; omega), nI_1, gi_nI (by omega) (by omega), gi_nI (by omega) (by omega), nc (by omega), nc (by omega), shl_1 st (by omega)]
      exact ih (j + 1) (by omega) fv (by omega)
theorem StR.push {N : Nat} (hN : 20 < N) {st ac : Nat → Int32} {sn an : Int32} {A : List Nat} (h : StR st sn ac an A) {x : Nat} (hx : x ≤ 600) : ∃ st' sn' ac' an', g_X8_append N st sn (nI x) = some (st', sn') ∧ g_X12_acts N ac an (nI x) = some (ac', an') ∧ StR st' sn' ac' an' (pushA A x) := by
  obtain ⟨h8, rfl, rfl, hs, r1, r2⟩ := h
  obtain ⟨st', e1, q1⟩ := pX8_append N r1 h8 x
  obtain ⟨ac', e2, q2⟩ := pX12_acts N hN r2 h8 x
  refine ⟨_, _, _, _, e1, e2, pushA_len h8 x, rfl, rfl, fun y hy => ?_, q1, q2⟩
  unfold pushA at hy
  by_cases a : A.length < 8
  · rw [if_pos a] at hy
    rcases List.mem_append.mp hy with z | z
    · exact hs y z
    · simp at z; omega
  · rw [if_neg a] at hy
    rcases List.mem_append.mp hy with z | z
    · exact hs y (List.mem_of_mem_drop z)
    · simp at z; omega
/-- beats, minute, steps on both sides -/
def RBt (P : Nat) (bp bs bm : Nat → Int32) (bz bn : Int32) (s st : Nat → Int32) (sn : Int32) (ac : Nat → Int32) (an : Int32) : Prop := ∃ (B : List Be) (now : Nat) (A : List Nat), BR bp bs bm B ∧ SR s B now ∧ BOk P B now ∧ bz = nI B.length ∧ bn = nI now ∧ StR st sn ac an A ∧ VH B now A.reverse
theorem VH.push {B : List Be} {now n : Nat} {A : List Nat} (h8 : A.length ≤ 8) (h0 : n = 0 → B ≠ [] ∧ VH B.dropLast now A.reverse) (h1 : n ≠ 0 → n ≤ now ∧ (∀ e ∈ B, e.2.2 ≤ now - n) ∧ VH B (now - n) A.reverse) : VH B now (pushA A n).reverse := by
  obtain ⟨k, hk⟩ := pushA_rev h8 n
  rw [hk]
  exact ⟨fun z => ⟨(h0 z).1, (h0 z).2.take k⟩, fun z => ⟨(h1 z).1, (h1 z).2.1, (h1 z).2.2.take k⟩⟩
theorem t_pass {N P : Nat} (hN : 20 < N) {bp bs bm s st ac : Nat → Int32} {bz bn sn an : Int32} (h : RBt P bp bs bm bz bn s st sn ac an) (x1 : Int32) :
    ∃ v w, g_X11_pass N bn st sn x1 = some v ∧ g_X12_pass N s ac an x1 = some w ∧ v.1 = w.1 ∧ RBt P bp bs bm bz v.2.1 w.2.1 v.2.2.1 v.2.2.2 w.2.2.1 w.2.2.2 := by
  have h' := h
  obtain ⟨B, now, A, hBR, hs, hB, rfl, rfl, hst, hv⟩ := h'
  unfold g_X11_pass g_X12_pass
  have hin : g_X12_in N x1 1 600 = some (if x1 < 1 then 0 else if x1 ≤ 600 then 1 else 0) := by
    unfold g_X12_in
    by_cases a : x1 < 1
    · rw [if_pos a, if_pos a]
    · rw [if_neg a, if_neg a]
      by_cases b : x1 ≤ 600
      · rw [if_neg (Int32.not_lt.mpr b), if_pos b]
      · rw [if_pos (Int32.not_le.mp b), if_neg b]
  rw [hin]
  by_cases a : x1 < 1
  · simp only [a, if_true, Option.bind_some]
    exact ⟨_, _, rfl, rfl, rfl, h⟩
  · by_cases b : x1 ≤ 600
    · simp only [a, b, if_true, if_false, Option.bind_some]
      rw [if_neg (show ¬ (1 : Int32) = 0 by decide)]
      obtain ⟨n, hn1, hn2, rfl⟩ : ∃ n, 1 ≤ n ∧ n ≤ 600 ∧ x1 = nI n := by
        rcases pk_ix x1 (show 601 < 2 ^ 31 by omega) with z | z | ⟨n, hn, rfl⟩
        · exact absurd (Int32.lt_of_lt_of_le z (by decide)) a
        · exact absurd (Int32.lt_of_lt_of_le (show (600 : Int32) < nI 601 by decide) z) (Int32.not_lt.mpr b)
        · refine ⟨n, ?_, by omega, rfl⟩
          rw [l1, nlt (by omega) (by omega)] at a; omega
      have hnow := hB.2.2.2
      obtain ⟨st', sn', ac', an', e1, e2, e3⟩ := hst.push (N := N) hN hn2
      have g1 : ∀ {α : Type} (x : Option α), gi 1 74 x = x := fun x => by rw [l1, gi_nI (by omega) (by omega)]
      simp only [g1]
      rw [show (1 : Int32).toNatClampNeg = 1 from rfl, hs.2.1, nI_add, l9999, e1, e2]
      by_cases c : now + n ≤ 9999
      · rw [if_pos ((nle (by omega) (by omega)).mpr c), if_pos ((nle (by omega) (by omega)).mpr c)]
        refine ⟨_, _, rfl, rfl, by simp [upd], B, now + n, pushA A n, hBR, ?_, ?_, rfl, rfl, e3, ?_⟩
        · refine ⟨?_, by simp [upd], fun k hk => ?_⟩
          · show upd s 1 (nI (now + n)) 0 = _
            unfold upd; rw [if_neg (by omega)]; exact hs.1
          · have := hs.2.2 k hk
            show upd s 1 (nI (now + n)) _ = _ ∧ upd s 1 (nI (now + n)) _ = _ ∧ upd s 1 (nI (now + n)) _ = _
            unfold upd
            rw [if_neg (by omega), if_neg (by omega), if_neg (by omega)]
            exact this
        · exact ⟨hB.1, fun e he => ⟨(hB.2.1 e he).1, (hB.2.1 e he).2.1, by have := (hB.2.1 e he).2.2; omega⟩, hB.2.2.1, c⟩
        · refine VH.push hst.1 (fun z => by omega) (fun _ => ⟨by omega, fun e he => ?_, ?_⟩)
          · have := (hB.2.1 e he).2.2; omega
          · rw [Nat.add_sub_cancel]; exact hv
      · rw [if_neg (fun z => c ((nle (by omega) (by omega)).mp z)), if_neg (fun z => c ((nle (by omega) (by omega)).mp z))]
        exact ⟨_, _, rfl, rfl, rfl, h⟩
    · simp only [a, b, if_true, if_false, Option.bind_some]
      exact ⟨_, _, rfl, rfl, rfl, h⟩
