/-! ===== pure rows: numbers ===== -/
theorem gi_nI {α : Type} {k n : Nat} {x : Option α} (h : k < n) (hn : n < 2147483648) : gi (nI k) n x = x := gi_ok (vp_in_nI h hn)
theorem nc {n : Nat} (h : n < 2147483648) : (nI n).toNatClampNeg = n := nI_clamp h
theorem nle {a b : Nat} (ha : a < 2147483648) (hb : b < 2147483648) : nI a ≤ nI b ↔ a ≤ b := nI_leI ha hb
theorem nlt {a b : Nat} (ha : a < 2147483648) (hb : b < 2147483648) : nI a < nI b ↔ a < b := nI_ltI ha hb
theorem neq {a b : Nat} (ha : a < 2147483648) (hb : b < 2147483648) : nI a = nI b ↔ a = b := nI_eq ha hb
theorem nsub {a b : Nat} (h : b ≤ a) : nI a - nI b = nI (a - b) := pk_sub h
theorem ndec {a : Nat} (h : 0 < a) : nI a + (-1) = nI (a - 1) := sb_m1 h
theorem ndec2 {a : Nat} (h : 0 < a) : nI a - nI 1 = nI (a - 1) := pk_sub h
theorem l0 : (0 : Int32) = nI 0 := rfl
theorem l1 : (1 : Int32) = nI 1 := rfl
theorem l2 : (2 : Int32) = nI 2 := rfl
theorem l3 : (3 : Int32) = nI 3 := rfl
theorem l4 : (4 : Int32) = nI 4 := rfl
theorem l5 : (5 : Int32) = nI 5 := rfl
theorem l6 : (6 : Int32) = nI 6 := rfl
theorem l7 : (7 : Int32) = nI 7 := rfl
theorem l8 : (8 : Int32) = nI 8 := rfl
theorem l9 : (9 : Int32) = nI 9 := rfl
theorem l10 : (10 : Int32) = nI 10 := rfl
theorem l20 : (20 : Int32) = nI 20 := rfl
theorem l24 : (24 : Int32) = nI 24 := rfl
theorem l30 : (30 : Int32) = nI 30 := rfl
theorem l38 : (38 : Int32) = nI 38 := rfl
theorem l60 : (60 : Int32) = nI 60 := rfl
theorem l64 : (64 : Int32) = nI 64 := rfl
theorem l70 : (70 : Int32) = nI 70 := rfl
theorem l74 : (74 : Int32) = nI 74 := rfl
theorem l78 : (78 : Int32) = nI 78 := rfl
theorem l99 : (99 : Int32) = nI 99 := rfl
theorem l100 : (100 : Int32) = nI 100 := rfl
theorem l300 : (300 : Int32) = nI 300 := rfl
theorem l600 : (600 : Int32) = nI 600 := rfl
theorem l9999 : (9999 : Int32) = nI 9999 := rfl
/-- a number that is an index below n -/
def ixB (x : Int32) (n : Nat) : Bool := decide (0 ≤ x) && decide (x < nI n)
theorem ixB_iff {x : Int32} {n : Nat} (hn : n < 2147483648) : ixB x n = true ↔ ∃ j, j < n ∧ x = nI j := by
  unfold ixB
  rw [Bool.and_eq_true, decide_eq_true_iff, decide_eq_true_iff]
  constructor
  · intro ⟨h1, h2⟩
    rcases pk_ix x hn with h | h | h
    · exact absurd h (Int32.not_lt.mpr h1)
    · exact absurd h2 (Int32.not_lt.mpr h)
    · exact h
  · rintro ⟨j, hj, rfl⟩
    exact ⟨nI_pos' (by omega), (nlt (by omega) hn).mpr hj⟩
theorem pX2_isPlace (N P : Nat) (x : Int32) : g_X2_isPlace N (nI P) x = some (if ixB x P then 1 else 0) := by
  unfold g_X2_isPlace ixB
  by_cases h1 : x < 0
  · have : ¬ 0 ≤ x := Int32.not_le.mpr h1
    simp [h1, this]
  · have h1' : 0 ≤ x := Int32.not_lt.mp h1
    by_cases h2 : nI P ≤ x
    · have : ¬ x < nI P := Int32.not_lt.mpr h2
      simp [h1, h2, this]
    · have : x < nI P := Int32.not_le.mp h2
      simp [h1, h2, h1', this]
theorem pX2_isSort (N P : Nat) (x : Int32) : g_X2_isSort N (nI P) x = some (if ixB x P then 1 else 0) := by
  unfold g_X2_isSort ixB
  by_cases h1 : x < 0
  · have : ¬ 0 ≤ x := Int32.not_le.mpr h1
    simp [h1, this]
  · have h1' : 0 ≤ x := Int32.not_lt.mp h1
    by_cases h2 : nI P ≤ x
    · have : ¬ x < nI P := Int32.not_lt.mpr h2
      simp [h1, h2, this]
    · have : x < nI P := Int32.not_le.mp h2
      simp [h1, h2, h1', this]
/-- the reference's 'in' with bounds 0 and P - 1 -/
theorem pX12_in0 (N P : Nat) (hP : 0 < P) (hP2 : P < 2147483648) (x : Int32) : g_X12_in N x 0 (nI P - 1) = some (if ixB x P then 1 else 0) := by
  unfold g_X12_in
  rw [l1, ndec2 hP]
  by_cases h1 : x < 0
  · have : ¬ 0 ≤ x := Int32.not_le.mpr h1
    simp [h1, ixB, this]
  · rw [if_neg h1]
    rcases pk_ix x hP2 with h | h | ⟨j, hj, rfl⟩
    · exact absurd h h1
    · have e1 : ixB x P = false := by
        cases hb : ixB x P with
        | false => rfl
        | true =>
          unfold ixB at hb
          rw [Bool.and_eq_true, decide_eq_true_iff, decide_eq_true_iff] at hb
          exact absurd hb.2 (Int32.not_lt.mpr h)
      have e2 : nI (P - 1) < x := by
        refine Int32.lt_of_lt_of_le ?_ h
        exact (nlt (by omega) hP2).mpr (by omega)
      rw [if_pos e2, e1]; rfl
    · have e1 : ixB (nI j) P = true := (ixB_iff hP2).mpr ⟨j, hj, rfl⟩
      have e2 : ¬ nI (P - 1) < nI j := by rw [nlt (by omega) (by omega)]; omega
      rw [if_neg e2, e1]; rfl
theorem pX12_isPlace (N P : Nat) (book : Nat → Int32) (hP : 0 < P) (hP2 : P < 2147483648) (hb : book 0 = nI P) (x : Int32) : g_X12_isPlace N book x = some (if ixB x P then 1 else 0) := by
  unfold g_X12_isPlace
  rw [show (0 : Int32).toNatClampNeg = 0 from rfl, hb, pX12_in0 N P hP hP2, l0, gi_nI (by omega) (by omega)]
  cases ixB x P <;> rfl
theorem pX12_isSort (N P : Nat) (book : Nat → Int32) (hP : 0 < P) (hP2 : P < 2147483648) (hb : book 3 = nI P) (x : Int32) : g_X12_isSort N book x = some (if ixB x P then 1 else 0) := by
  unfold g_X12_isSort
  rw [show (3 : Int32).toNatClampNeg = 3 from rfl, hb, pX12_in0 N P hP hP2, l3, gi_nI (by omega) (by omega)]
  cases ixB x P <;> rfl
/-- a row of sorts on both sides -/
def RTold (a : Nat → Int32) (n : Int32) (b : Nat → Int32) (m : Int32) (l : List Nat) : Prop := l.length ≤ 8 ∧ n = nI l.length ∧ m = nI l.length ∧ (∀ j (h : j < l.length), a j = nI l[j] ∧ b j = nI l[j]) ∧ ∀ c ∈ l, c < 8
theorem RTold.push {a b : Nat → Int32} {n m : Int32} {l : List Nat} (h : RTold a n b m l) {c : Nat} (hc : c < 8) (hl : l.length < 8) : RTold (upd a l.length (nI c)) (n + 1) (upd b l.length (nI c)) (m + 1) (l ++ [c]) := by
  obtain ⟨h1, rfl, rfl, h4, h5⟩ := h
  refine ⟨by simp; omega, by rw [nI_1]; simp, by rw [nI_1]; simp, fun j hj => ?_, fun z hz => ?_⟩
  · rw [List.length_append, List.length_singleton] at hj
    by_cases e : j = l.length
    · subst e; simp [upd]
    · have hj' : j < l.length := by omega
      have := h4 j hj'
      simp [upd, e, List.getElem_append_left hj', this]
  · rcases List.mem_append.mp hz with h | h
    · exact h5 z h
    · simp at h; omega
theorem t_add (N P : Nat) (hP : 0 < P) (hP8 : P ≤ 8) {book : Nat → Int32} (hb : book 3 = nI P) {a b : Nat → Int32} {n m : Int32} {l : List Nat} (h : RTold a n b m l) (x : Int32) :
    ∃ v w, g_X11_add N (nI P) a n x = some v ∧ g_X12_add N book b m x = some w ∧ v.1 = w.1 ∧ ∃ l', RTold v.2.1 v.2.2 w.2.1 w.2.2 l' := by
  unfold g_X11_add g_X12_add
  rw [pX2_isSort, pX12_isSort N P book hP (by omega) hb]
  cases hx : ixB x P with
  | false => exact ⟨_, _, rfl, rfl, rfl, l, h⟩
  | true =>
    obtain ⟨j, hj, rfl⟩ := (ixB_iff (by omega)).mp hx
    have h' := h
    obtain ⟨h1, rfl, rfl, h4, h5⟩ := h'
    by_cases hl : l.length < 8
    · have e1 : g_X7_append N 8 a (nI l.length) (nI j) = some (1, upd a l.length (nI j), nI l.length + 1) := by
        unfold g_X7_append
        rw [if_pos ((nlt (by omega) (by omega)).mpr hl), gi_nI hl (by omega), nc (by omega)]
      have e2 : ¬ nI l.length = 8 := by rw [l8, neq (by omega) (by omega)]; omega
      have hr := h.push (c := j) (by omega) hl
      refine ⟨(nI l.length + 1, upd a l.length (nI j), nI l.length + 1), (nI l.length + 1, upd b l.length (nI j), nI l.length + 1), ?_, ?_, rfl, l ++ [j], hr⟩
      · simp [e1]
      · simp [e2, gi_nI hl (show (8 : Nat) < 2147483648 by omega), nc (show l.length < 2147483648 by omega)]
    · have e3 : l.length = 8 := by omega
      have e1 : g_X7_append N 8 a (nI l.length) (nI j) = some (0, a, nI l.length) := by
        unfold g_X7_append
        rw [if_neg (by rw [nlt (by omega) (by omega)]; omega)]
      refine ⟨(-3, a, nI l.length), (-3, b, nI l.length), ?_, ?_, rfl, l, h⟩
      · simp [e1]
      · have : nI l.length = 8 := by rw [e3]; rfl
        simp [this]
