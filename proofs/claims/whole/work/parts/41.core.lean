/-! ===== what stands: the class's rows ===== -/
/-- the latest hit and how many there are, over the row from its END -/
def hitF (s t H : Nat) : List (Nat × Nat) → Option Nat × Nat
  | [] => (none, 0)
  | x :: l => if x.1 = s ∧ t < x.2 + H then (some l.length, (hitF s t H l).2 + 1) else hitF s t H l
/-- which one goes -/
def hitO (law s t H : Nat) (l : List (Nat × Nat)) : Option Nat := if law = 2 ∧ (hitF s t H l.reverse).2 < 2 then none else (hitF s t H l.reverse).1
theorem hitF_none {s t H : Nat} {l : List (Nat × Nat)} (h : ∀ x ∈ l, ¬ t < x.2 + H) : hitF s t H l = (none, 0) := by
  induction l with
  | nil => rfl
  | cons x l ih =>
    unfold hitF
    rw [if_neg (fun z => h x List.mem_cons_self z.2)]
    exact ih (fun y hy => h y (List.mem_cons_of_mem _ hy))
theorem hitF_lt {s t H : Nat} : ∀ {l : List (Nat × Nat)} {k : Nat}, (hitF s t H l).1 = some k → k < l.length := by
  intro l
  induction l with
  | nil => intro k h; cases h
  | cons x l ih =>
    intro k h
    unfold hitF at h
    by_cases c : x.1 = s ∧ t < x.2 + H
    · rw [if_pos c] at h; cases h; simp
    · rw [if_neg c] at h; have := ih h; simp; omega
theorem hitO_lt {law s t H : Nat} {l : List (Nat × Nat)} {k : Nat} (h : hitO law s t H l = some k) : k < l.length := by
  unfold hitO at h
  by_cases c : law = 2 ∧ (hitF s t H l.reverse).2 < 2
  · rw [if_pos c] at h; cases h
  · rw [if_neg c] at h; simpa using hitF_lt h
theorem hitF_zero {s t H : Nat} : ∀ {l : List (Nat × Nat)}, (hitF s t H l).2 = 0 ↔ (hitF s t H l).1 = none := by
  intro l
  induction l with
  | nil => simp [hitF]
  | cons x l ih =>
    unfold hitF
    by_cases c : x.1 = s ∧ t < x.2 + H
    · rw [if_pos c]; simp
    · rw [if_neg c]; exact ih
theorem hitF_pos {s t H : Nat} {x : Nat × Nat} {l : List (Nat × Nat)} (h : x.1 = s ∧ t < x.2 + H) : hitF s t H (x :: l) = (some l.length, (hitF s t H l).2 + 1) := if_pos h
theorem hitF_neg {s t H : Nat} {x : Nat × Nat} {l : List (Nat × Nat)} (h : ¬ (x.1 = s ∧ t < x.2 + H)) : hitF s t H (x :: l) = hitF s t H l := if_neg h
/-- what an array holds -/
def Rp (f : Nat → Int32) (l : List Nat) : Prop := ∀ (j x : Nat), l[j]? = some x → f j = nI x
abbrev Tr : Type := Nat × Nat × Int32
abbrev trP (e : Tr) : Nat × Nat := (e.1, e.2.1)
def RowR (so ma he : Nat → Int32) (l : List Tr) : Prop := ∀ (j : Nat) (e : Tr), l[j]? = some e → so j = nI e.1 ∧ he j = nI e.2.1 ∧ ma j = e.2.2
/-- a row as it can be: heard in order, not behind t, small numbers -/
def RowOk (l : List Tr) (t : Nat) : Prop := l.Pairwise (fun a b => a.2.1 ≤ b.2.1) ∧ (∀ e ∈ l, e.2.1 ≤ t) ∧ ∀ e ∈ l, e.1 < 8
def oI (o : Option Nat) : Int32 := match o with
  | none => -1
  | some k => nI k
theorem take_rev_succ {α : Type} {l : List α} {j : Nat} {e : α} (h : l[j]? = some e) : (l.take (j + 1)).reverse = e :: (l.take j).reverse := by
  have : l.take (j + 1) = l.take j ++ [e] := by rw [List.take_succ, h]; rfl
  rw [this]; simp
section UNSAID
variable {N n H law s t : Nat} {so ma he : Nat → Int32} {l : List Tr} {sz : Int32}
theorem us_step (hr : RowR so ma he l) (hok : RowOk l t) (hn : l.length ≤ n) (hn2 : n < 1000) (ht : t < 1000000000) (hH : H < 1000) (hs : s < 8) {j : Nat} {e : Tr} (he0 : l[j]? = some e) (fu : Nat) (x3 x4 x5 : Int32) :
    g_X5_unsaidBy_L31 N n (nI H) (nI law) so sz he (fu + 1) (nI s) (nI t) x3 x4 x5 (nI (j + 1) - 1) =
      if t < e.2.1 + H then (if e.1 = s then (if x4 + 1 = 1 then (if x4 + 1 = x3 then some (nI j) else g_X5_unsaidBy_L31 N n (nI H) (nI law) so sz he fu (nI s) (nI t) x3 (x4 + 1) (nI j) (nI j - 1)) else (if x4 + 1 = x3 then some x5 else g_X5_unsaidBy_L31 N n (nI H) (nI law) so sz he fu (nI s) (nI t) x3 (x4 + 1) x5 (nI j - 1))) else g_X5_unsaidBy_L31 N n (nI H) (nI law) so sz he fu (nI s) (nI t) x3 x4 x5 (nI j - 1)) else some (-1) := by
  have hj : j < l.length := (List.getElem?_eq_some_iff.mp he0).1
  have hm : e ∈ l := List.mem_of_getElem? he0
  obtain ⟨r1, r2, r3⟩ := hr j e he0
  have h1 := hok.2.1 e hm
  have h2 := hok.2.2 e hm
  rw [nI_pred]
  conv => lhs; unfold g_X5_unsaidBy_L31
  rw [if_neg (nI_pos (by omega)), gi_nI (by omega) (by omega), gi_nI (by omega) (by omega), nc (by omega), r1, r2, nsub h1]
  have c1 : nI H ≤ nI (t - e.2.1) ↔ ¬ t < e.2.1 + H := by rw [nle (by omega) (by omega)]; omega
  have c2 : nI e.1 = nI s ↔ e.1 = s := neq (by omega) (by omega)
  have c3 : nI j + (-1) = nI j - 1 := by rw [Int32.sub_eq_add_neg]
  by_cases a : t < e.2.1 + H
  · rw [if_neg (by rw [c1]; simpa using a), if_pos a]
    by_cases b : e.1 = s
    · rw [if_pos (c2.mpr b), if_pos b]
      unfold g_X5_unsaidBy_b82 g_X5_unsaidBy_b93
      rw [c3]
    · rw [if_neg (fun z => b (c2.mp z)), if_neg b]
      unfold g_X5_unsaidBy_b93
      rw [c3]
  · rw [if_pos (by rw [c1]; simpa using a), if_neg a]
theorem us_none (hok : RowOk l t) {j : Nat} {e : Tr} (he0 : l[j]? = some e) (h : ¬ t < e.2.1 + H) : hitF s t H ((l.take j).map trP).reverse = (none, 0) := by
  apply hitF_none
  intro x hx
  rw [List.mem_reverse, List.mem_map] at hx
  obtain ⟨y, hy, rfl⟩ := hx
  obtain ⟨i, hi⟩ := List.getElem?_of_mem hy
  have hij : i < j := by
    have := (List.getElem?_eq_some_iff.mp hi).1
    rw [List.length_take] at this; omega
  rw [List.getElem?_take_of_lt hij] at hi
  have hp := hok.1
  rw [List.pairwise_iff_getElem] at hp
  obtain ⟨hi1, hi2⟩ := List.getElem?_eq_some_iff.mp hi
  obtain ⟨hj1, hj2⟩ := List.getElem?_eq_some_iff.mp he0
  have := hp i j hi1 hj1 hij
  rw [hi2, hj2] at this
  show ¬ t < y.2.1 + H
  omega
theorem us_rev {j : Nat} {e : Tr} (he0 : l[j]? = some e) : ((l.take (j + 1)).map trP).reverse = trP e :: ((l.take j).map trP).reverse := by
  rw [← List.map_reverse, take_rev_succ he0, List.map_cons, List.map_reverse]
theorem us_len {j : Nat} (hj : j ≤ l.length) : (((l.take j).map trP).reverse).length = j := by simp; omega
/-- one hit is enough -/
theorem us_a (hr : RowR so ma he l) (hok : RowOk l t) (hn : l.length ≤ n) (hn2 : n < 1000) (ht : t < 1000000000) (hH : H < 1000) (hs : s < 8) : ∀ (j : Nat), j ≤ l.length → ∀ fu, j < fu → ∀ x5 : Int32,
    g_X5_unsaidBy_L31 N n (nI H) (nI law) so sz he fu (nI s) (nI t) 1 0 x5 (nI j - 1) = some (oI (hitF s t H ((l.take j).map trP).reverse).1) := by
  intro j
  induction j with
  | zero =>
    intro _ fu hfu x5
    obtain ⟨f, rfl⟩ : ∃ f, fu = f + 1 := ⟨fu - 1, by omega⟩
    unfold g_X5_unsaidBy_L31
    rw [if_pos (by decide)]
    rfl
  | succ j ih =>
    intro hj fu hfu x5
    obtain ⟨f, rfl⟩ : ∃ f, fu = f + 1 := ⟨fu - 1, by omega⟩
    obtain ⟨e, he0⟩ : ∃ e, l[j]? = some e := ⟨l[j], List.getElem?_eq_getElem (by omega)⟩
    rw [us_step hr hok hn hn2 ht hH hs he0, us_rev he0]
    by_cases a : t < e.2.1 + H
    · rw [if_pos a]
      by_cases b : e.1 = s
      · rw [if_pos b, if_pos (by decide), if_pos (by decide)]
        rw [hitF_pos (x := trP e) ⟨b, a⟩, us_len (by omega)]
        rfl
      · rw [if_neg b, ih (by omega) f (by omega)]
        rw [hitF_neg (x := trP e) (fun z => b z.1)]
    · rw [if_neg a]
      rw [hitF_neg (x := trP e) (fun z => a z.2), us_none hok he0 a]
      rfl
/-- two are wanted, one has been found -/
theorem us_b (hr : RowR so ma he l) (hok : RowOk l t) (hn : l.length ≤ n) (hn2 : n < 1000) (ht : t < 1000000000) (hH : H < 1000) (hs : s < 8) (k0 : Nat) : ∀ (j : Nat), j ≤ l.length → ∀ fu, j < fu →
    g_X5_unsaidBy_L31 N n (nI H) (nI law) so sz he fu (nI s) (nI t) 2 1 (nI k0) (nI j - 1) = some (if (hitF s t H ((l.take j).map trP).reverse).2 = 0 then -1 else nI k0) := by
  intro j
  induction j with
  | zero =>
    intro _ fu hfu
    obtain ⟨f, rfl⟩ : ∃ f, fu = f + 1 := ⟨fu - 1, by omega⟩
    unfold g_X5_unsaidBy_L31
    rw [if_pos (by decide)]
    rfl
  | succ j ih =>
    intro hj fu hfu
    obtain ⟨f, rfl⟩ : ∃ f, fu = f + 1 := ⟨fu - 1, by omega⟩
    obtain ⟨e, he0⟩ : ∃ e, l[j]? = some e := ⟨l[j], List.getElem?_eq_getElem (by omega)⟩
    rw [us_step hr hok hn hn2 ht hH hs he0, us_rev he0]
    by_cases a : t < e.2.1 + H
    · rw [if_pos a]
      by_cases b : e.1 = s
      · rw [if_pos b, if_neg (by decide), if_pos (by decide)]
        rw [hitF_pos (x := trP e) ⟨b, a⟩]
        simp
      · rw [if_neg b, ih (by omega) f (by omega)]
        rw [hitF_neg (x := trP e) (fun z => b z.1)]
    · rw [if_neg a]
      rw [hitF_neg (x := trP e) (fun z => a z.2), us_none hok he0 a]
      rfl
/-- two are wanted -/
theorem us_c (hr : RowR so ma he l) (hok : RowOk l t) (hn : l.length ≤ n) (hn2 : n < 1000) (ht : t < 1000000000) (hH : H < 1000) (hs : s < 8) : ∀ (j : Nat), j ≤ l.length → ∀ fu, j < fu → ∀ x5 : Int32,
    g_X5_unsaidBy_L31 N n (nI H) (nI law) so sz he fu (nI s) (nI t) 2 0 x5 (nI j - 1) = some (oI (if (hitF s t H ((l.take j).map trP).reverse).2 < 2 then none else (hitF s t H ((l.take j).map trP).reverse).1)) := by
  intro j
  induction j with
  | zero =>
    intro _ fu hfu x5
    obtain ⟨f, rfl⟩ : ∃ f, fu = f + 1 := ⟨fu - 1, by omega⟩
    unfold g_X5_unsaidBy_L31
    rw [if_pos (by decide)]
    rfl
  | succ j ih =>
    intro hj fu hfu x5
    obtain ⟨f, rfl⟩ : ∃ f, fu = f + 1 := ⟨fu - 1, by omega⟩
    obtain ⟨e, he0⟩ : ∃ e, l[j]? = some e := ⟨l[j], List.getElem?_eq_getElem (by omega)⟩
    rw [us_step hr hok hn hn2 ht hH hs he0, us_rev he0]
    by_cases a : t < e.2.1 + H
    · rw [if_pos a]
      by_cases b : e.1 = s
      · rw [if_pos b, if_pos (by decide), if_neg (by decide), show (0 : Int32) + 1 = 1 from by decide, us_b hr hok hn hn2 ht hH hs j j (by omega) f (by omega)]
        rw [hitF_pos (x := trP e) ⟨b, a⟩, us_len (by omega)]
        by_cases z : (hitF s t H ((l.take j).map trP).reverse).2 = 0
        · rw [if_pos z, if_pos (by show _ + 1 < 2; omega)]; rfl
        · rw [if_neg z, if_neg (by show ¬ _ + 1 < 2; omega)]; rfl
      · rw [if_neg b, ih (by omega) f (by omega)]
        rw [hitF_neg (x := trP e) (fun z => b z.1)]
    · rw [if_neg a]
      rw [hitF_neg (x := trP e) (fun z => a z.2), us_none hok he0 a]
      rfl
theorem pX5_unsaidBy (hr : RowR so ma he l) (hok : RowOk l t) (hn : l.length ≤ n) (hn2 : n < 1000) (ht : t < 1000000000) (hH : H < 1000) (hs : s < 8) (hlaw : law < 3) (hN : l.length < N) :
    g_X5_unsaidBy N n (nI H) (nI law) so (nI l.length) he (nI s) (nI t) = some (oI (hitO law s t H (l.map trP))) := by
  unfold g_X5_unsaidBy g_X5_unsaidBy_b16 hitO
  have e1 : (nI law = 2) ↔ law = 2 := by rw [l2]; exact neq (by omega) (by omega)
  by_cases a : law = 2
  · rw [if_pos (e1.mpr a), us_c hr hok hn hn2 ht hH hs l.length (Nat.le_refl _) N hN, List.take_length]
    simp [a]
  · rw [if_neg (fun z => a (e1.mp z)), us_a hr hok hn hn2 ht hH hs l.length (Nat.le_refl _) N hN, List.take_length, if_neg (fun z => a z.1)]
end UNSAID
