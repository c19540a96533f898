/-! ===== hearing, on the class's side ===== -/
def hearC (law H : Nat) (l : List Tr) (e : Tr) : List Tr := match hitO law e.1 e.2.1 H (l.map trP) with
  | none => l ++ [e]
  | some k => if law = 1 then l.take k else l.eraseIdx k
theorem hearC_len {law H : Nat} {l : List Tr} {e : Tr} : (hearC law H l e).length ≤ l.length + 1 := by
  unfold hearC
  cases hitO law e.1 e.2.1 H (l.map trP) with
  | none => simp
  | some k =>
    by_cases a : law = 1
    · simp [a]; omega
    · simp [a, List.length_eraseIdx]; split <;> omega
theorem hearC_mem {law H : Nat} {l : List Tr} {e x : Tr} (h : x ∈ hearC law H l e) : x ∈ l ∨ x = e := by
  unfold hearC at h
  cases hk : hitO law e.1 e.2.1 H (l.map trP) with
  | none => rw [hk] at h; simpa using h
  | some k =>
    rw [hk] at h
    by_cases a : law = 1
    · simp only [a, if_true] at h; exact Or.inl (List.mem_of_mem_take h)
    · simp only [a, if_false] at h; exact Or.inl (List.mem_of_mem_eraseIdx h)
theorem hearC_ok {law H t : Nat} {l : List Tr} {e : Tr} (h : RowOk l t) (ht : e.2.1 = t) (hs : e.1 < 8) : RowOk (hearC law H l e) t := by
  refine ⟨?_, fun x hx => ?_, fun x hx => ?_⟩
  · unfold hearC
    cases hitO law e.1 e.2.1 H (l.map trP) with
    | none =>
      rw [List.pairwise_append]
      refine ⟨h.1, List.pairwise_singleton _ _, fun a ha b hb => ?_⟩
      rw [List.mem_singleton.mp hb, ht]
      exact h.2.1 a ha
    | some k =>
      by_cases a : law = 1
      · simp only [a, if_true]; exact h.1.sublist (List.take_sublist _ _)
      · simp only [a, if_false]; exact h.1.sublist (List.eraseIdx_sublist _ _)
  · rcases hearC_mem hx with a | a
    · exact h.2.1 x a
    · rw [a, ht]; exact Nat.le_refl _
  · rcases hearC_mem hx with a | a
    · exact h.2.2 x a
    · rw [a]; exact hs
theorem RowOk.mono {l : List Tr} {t u : Nat} (h : RowOk l t) (htu : t ≤ u) : RowOk l u := ⟨h.1, fun e he => Nat.le_trans (h.2.1 e he) htu, h.2.2⟩
/-- all from k on, a place to the left, up to m -/
def shl (f : Nat → Int32) (k m : Nat) : Nat → Int32 := fun j => if k ≤ j ∧ j < m then f (j + 1) else f j
theorem shl_0 (f : Nat → Int32) (k : Nat) : shl f k k = f := by
  funext j; unfold shl; rw [if_neg (by omega)]
theorem shl_1 (f : Nat → Int32) {k i : Nat} (h : k ≤ i) : upd (shl f k i) i (shl f k i (i + 1)) = shl f k (i + 1) := by
  funext j
  unfold upd shl
  by_cases a : j = i
  · subst a; rw [if_pos rfl, if_neg (by omega), if_pos (by omega)]
  · by_cases b : k ≤ j ∧ j < i
    · rw [if_neg a, if_pos b, if_pos (by omega)]
    · rw [if_neg a, if_neg b, if_neg (by omega)]
theorem to_loop (N n law : Nat) (so ma he : Nat → Int32) (kk : (Nat → Int32) → (Nat → Int32) → Int32 → (Nat → Int32) → Option ((Nat → Int32) × (Nat → Int32) × Int32 × (Nat → Int32))) (m : Nat) (hm : m + 1 ≤ n) (hn : n < 1000) (k : Nat) :
    ∀ (d i : Nat), k ≤ i → i + d = m → ∀ fu, d < fu → g_X5_takeOut_L19 N n (nI law) kk fu (shl so k i) (shl ma k i) (nI (m + 1)) (shl he k i) (nI i) = kk (shl so k m) (shl ma k m) (nI (m + 1)) (shl he k m) := by
  intro d
  induction d with
  | zero =>
    intro i hki hi fu hfu
    obtain ⟨f, rfl⟩ : ∃ f, fu = f + 1 := ⟨fu - 1, by omega⟩
    unfold g_X5_takeOut_L19
    have : i = m := by omega
    subst this
    rw [nI_pred, if_pos ((nle (by omega) (by omega)).mpr (Nat.le_refl _))]
  | succ d ih =>
    intro i hki hi fu hfu
    obtain ⟨f, rfl⟩ : ∃ f, fu = f + 1 := ⟨fu - 1, by omega⟩
    unfold g_X5_takeOut_L19
    rw [nI_pred, if_neg (by rw [nle (by omega) (by omega)]; omega), nI_1, gi_nI (by omega) (by omega), gi_nI (by omega) (by omega), gi_nI (by omega) (by omega), gi_nI (by omega) (by omega), gi_nI (by omega) (by omega), gi_nI (by omega) (by omega), nc (by omega), nc (by omega), shl_1 so hki, shl_1 ma hki, shl_1 he hki]
    exact ih (i + 1) (by omega) (by omega) f (by omega)
theorem RowR.erase {so ma he : Nat → Int32} {l : List Tr} (h : RowR so ma he l) (k : Nat) : RowR (shl so k (l.length - 1)) (shl ma k (l.length - 1)) (shl he k (l.length - 1)) (l.eraseIdx k) := by
  intro j e hj
  rw [List.getElem?_eraseIdx] at hj
  by_cases a : j < k
  · rw [if_pos a] at hj
    unfold shl
    rw [if_neg (by omega), if_neg (by omega), if_neg (by omega)]
    exact h j e hj
  · rw [if_neg a] at hj
    have hl := (List.getElem?_eq_some_iff.mp hj).1
    unfold shl
    rw [if_pos (by omega), if_pos (by omega), if_pos (by omega)]
    exact h (j + 1) e hj
theorem RowR.take {so ma he : Nat → Int32} {l : List Tr} (h : RowR so ma he l) (k : Nat) : RowR so ma he (l.take k) := by
  intro j e hj
  refine h j e ?_
  rw [List.getElem?_take] at hj
  split at hj
  · exact hj
  · cases hj
theorem RowR.push {so ma he : Nat → Int32} {l : List Tr} (h : RowR so ma he l) (e : Tr) : RowR (upd so l.length (nI e.1)) (upd ma l.length e.2.2) (upd he l.length (nI e.2.1)) (l ++ [e]) := by
  intro j x hj
  by_cases a : j = l.length
  · subst a
    rw [List.getElem?_append_right (Nat.le_refl _), Nat.sub_self] at hj
    cases hj
    simp [upd]
  · have hl : j < (l ++ [e]).length := (List.getElem?_eq_some_iff.mp hj).1
    rw [List.length_append, List.length_singleton] at hl
    rw [List.getElem?_append_left (by omega)] at hj
    have := h j x hj
    simpa [upd, a] using this
section HEAR
variable {N n H law : Nat} {so ma he : Nat → Int32} {l : List Tr}
theorem pX5_takeOut (hr : RowR so ma he l) {k : Nat} (hk : k < l.length) (hn : l.length ≤ n) (hn2 : n < 1000) (hlaw : law < 3) (hN : l.length < N) :
    ∃ so' ma' he', g_X5_takeOut N n (nI law) so ma (nI l.length) he (nI k) = some (so', ma', nI (if law = 1 then l.take k else l.eraseIdx k).length, he') ∧ RowR so' ma' he' (if law = 1 then l.take k else l.eraseIdx k) := by
  unfold g_X5_takeOut
  have e1 : (nI law = 1) ↔ law = 1 := by rw [l1]; exact neq (by omega) (by omega)
  by_cases a : law = 1
  · rw [if_pos (e1.mpr a)]
    simp only [a, if_true]
    refine ⟨so, ma, he, ?_, hr.take k⟩
    rw [List.length_take, Nat.min_eq_left (by omega)]
  · rw [if_neg (fun z => a (e1.mp z))]
    simp only [a, if_false]
    obtain ⟨m, hm⟩ : ∃ m, l.length = m + 1 := ⟨l.length - 1, by omega⟩
    have h1 := to_loop N n law so ma he (g_X5_takeOut_b77 N n (nI law)) m (by omega) hn2 k (m - k) k (Nat.le_refl _) (by omega) N (by omega)
    rw [shl_0, shl_0, shl_0] at h1
    rw [hm, h1]
    have h2 := hr.erase k
    rw [hm] at h2
    refine ⟨_, _, _, ?_, h2⟩
    unfold g_X5_takeOut_b77
    rw [nI_pred, List.length_eraseIdx, if_pos hk, hm]
    rfl
theorem pX5_hear (hr : RowR so ma he l) (e : Tr) (hok : RowOk l e.2.1) (hn : l.length < n) (hn2 : n < 1000) (ht : e.2.1 < 1000000000) (hH : H < 1000) (hs : e.1 < 8) (hlaw : law < 3) (hN : l.length < N) :
    ∃ so' ma' he', g_X5_hear N n (nI H) (nI law) so ma (nI l.length) he (nI e.1) (nI e.2.1) e.2.2 = some (so', ma', nI (hearC law H l e).length, he') ∧ RowR so' ma' he' (hearC law H l e) := by
  unfold g_X5_hear
  rw [pX5_unsaidBy hr hok (by omega) hn2 ht hH hs hlaw hN]
  unfold hearC
  cases hk : hitO law e.1 e.2.1 H (l.map trP) with
  | none =>
    refine ⟨_, _, _, ?_, hr.push e⟩
    simp only [Option.bind_some]
    rw [if_pos (show oI none < 0 by decide), if_neg (by rw [nle (by omega) (by omega)]; omega), gi_nI hn (by omega), gi_nI hn (by omega), gi_nI hn (by omega), nc (by omega), nI_1]
    simp
  | some k =>
    have hkl : k < l.length := by have := hitO_lt hk; simpa using this
    obtain ⟨so', ma', he', h1, h2⟩ := pX5_takeOut (N := N) (n := n) (law := law) hr hkl (by omega) hn2 hlaw hN
    refine ⟨so', ma', he', ?_, h2⟩
    simp only [Option.bind_some]
    rw [if_neg (show ¬ oI (some k) < 0 from nI_pos (by omega)), show oI (some k) = nI k from rfl, h1]
    rfl
end HEAR
