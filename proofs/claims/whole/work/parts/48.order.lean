/-! ===== the order of hearing, by numbers ===== -/
/-- where number k comes among L by W, seen from i -/
def stI (W : Nat → Nat) (L : List Nat) (h : Nat) : Nat → Nat
  | 0 => 0
  | i + 1 => match L[i]? with
    | some x => if W x ≤ h then i + 1 else stI W L h i
    | none => i + 1
def insI (W : Nat → Nat) (L : List Nat) (k : Nat) : List Nat := L.take (stI W L (W k) L.length) ++ k :: L.drop (stI W L (W k) L.length)
def ordI (W : Nat → Nat) (n : Nat) : List Nat := (List.range n).foldl (insI W) []
theorem stI_le (W : Nat → Nat) (L : List Nat) (h : Nat) : ∀ i, stI W L h i ≤ i := by
  intro i
  induction i with
  | zero => exact Nat.le_refl _
  | succ i ih =>
    unfold stI
    split
    · split
      · exact Nat.le_refl _
      · omega
    · exact Nat.le_refl _
/-- behind that place all are heard later -/
theorem stI_hi (W : Nat → Nat) (L : List Nat) (h : Nat) : ∀ i, i ≤ L.length → ∀ j x, stI W L h i ≤ j → j < i → L[j]? = some x → h < W x := by
  intro i
  induction i with
  | zero => intro _ j x _ hj; omega
  | succ i ih =>
    intro hi j x h1 h2 hx
    obtain ⟨y, hy⟩ : ∃ y, L[i]? = some y := ⟨L[i], List.getElem?_eq_getElem (by omega)⟩
    unfold stI at h1
    rw [hy] at h1
    by_cases a : W y ≤ h
    · simp only [a, if_true] at h1; omega
    · simp only [a, if_false] at h1
      by_cases b : j = i
      · subst b; rw [hy] at hx; cases hx; omega
      · exact ih (by omega) j x h1 (by omega) hx
/-- the one ahead of that place is not heard later -/
theorem stI_lo (W : Nat → Nat) (L : List Nat) (h : Nat) : ∀ i, i ≤ L.length → ∀ j, stI W L h i = j + 1 → ∃ x, L[j]? = some x ∧ W x ≤ h := by
  intro i
  induction i with
  | zero => intro _ j hj; cases hj
  | succ i ih =>
    intro hi j hj
    obtain ⟨y, hy⟩ : ∃ y, L[i]? = some y := ⟨L[i], List.getElem?_eq_getElem (by omega)⟩
    unfold stI at hj
    rw [hy] at hj
    by_cases a : W y ≤ h
    · simp only [a, if_true] at hj
      have : i = j := by omega
      subst this
      exact ⟨y, hy, a⟩
    · simp only [a, if_false] at hj
      exact ih (by omega) j hj
theorem insI_mem {W : Nat → Nat} {L : List Nat} {k x : Nat} : x ∈ insI W L k ↔ x = k ∨ x ∈ L := by
  unfold insI
  rw [List.mem_append, List.mem_cons]
  constructor
  · rintro (h | h | h)
    · exact Or.inr (List.mem_of_mem_take h)
    · exact Or.inl h
    · exact Or.inr (List.mem_of_mem_drop h)
  · rintro (h | h)
    · exact Or.inr (Or.inl h)
    · rw [← List.take_append_drop (stI W L (W k) L.length) L, List.mem_append] at h
      rcases h with h | h
      · exact Or.inl h
      · exact Or.inr (Or.inr h)
theorem insI_len (W : Nat → Nat) (L : List Nat) (k : Nat) : (insI W L k).length = L.length + 1 := by
  unfold insI
  have := stI_le W L (W k) L.length
  simp; omega
theorem insI_pw {W M : Nat → Nat} {L : List Nat} {k : Nat} (h : L.Pairwise (ltK W M)) (hk : ∀ x ∈ L, x < k ∧ M x ≤ M k) : (insI W L k).Pairwise (ltK W M) := by
  have hst := stI_le W L (W k) L.length
  unfold insI
  generalize hi : stI W L (W k) L.length = i at hst ⊢
  have hpw := h
  rw [← List.take_append_drop i L, List.pairwise_append] at hpw
  obtain ⟨p1, p2, p3⟩ := hpw
  have hlo : ∀ x ∈ L.take i, ltK W M x k := by
    intro x hx
    obtain ⟨j, hj⟩ := List.getElem?_of_mem hx
    have hji : j < i := by
      have := (List.getElem?_eq_some_iff.mp hj).1
      rw [List.length_take] at this; omega
    rw [List.getElem?_take_of_lt hji] at hj
    obtain ⟨i', rfl⟩ : ∃ i', i = i' + 1 := ⟨i - 1, by omega⟩
    obtain ⟨y, hy, hyw⟩ := stI_lo W L (W k) L.length (Nat.le_refl _) i' hi
    have hwx : W x ≤ W k := by
      by_cases e : j = i'
      · subst e; rw [hy] at hj; cases hj; exact hyw
      · rw [List.pairwise_iff_getElem] at h
        obtain ⟨q1, q2⟩ := List.getElem?_eq_some_iff.mp hj
        obtain ⟨r1, r2⟩ := List.getElem?_eq_some_iff.mp hy
        have := h j i' q1 r1 (by omega)
        rw [q2, r2] at this
        unfold ltK at this; omega
    have := hk x (List.mem_of_mem_take hx)
    unfold ltK; omega
  have hhi : ∀ x ∈ L.drop i, ltK W M k x := by
    intro x hx
    obtain ⟨j, hj⟩ := List.getElem?_of_mem hx
    rw [List.getElem?_drop] at hj
    have hjl := (List.getElem?_eq_some_iff.mp hj).1
    have := stI_hi W L (W k) L.length (Nat.le_refl _) (i + j) x (by rw [hi]; omega) hjl hj
    unfold ltK; omega
  rw [List.pairwise_append]
  refine ⟨p1, List.pairwise_cons.mpr ⟨hhi, p2⟩, fun a ha b hb => ?_⟩
  rcases List.mem_cons.mp hb with rfl | hb
  · exact hlo a ha
  · exact p3 a ha b hb
theorem ordI_spec {W M : Nat → Nat} : ∀ n, (∀ i j, i ≤ j → j < n → M i ≤ M j) → (ordI W n).Pairwise (ltK W M) ∧ (∀ k, k ∈ ordI W n ↔ k < n) ∧ (ordI W n).length = n := by
  intro n
  induction n with
  | zero => intro _; exact ⟨List.Pairwise.nil, fun k => by simp [ordI], rfl⟩
  | succ n ih =>
    intro hM
    obtain ⟨h1, h2, h3⟩ := ih (fun i j hij hj => hM i j hij (by omega))
    have e : ordI W (n + 1) = insI W (ordI W n) n := by
      unfold ordI
      rw [List.range_succ, List.foldl_append]
      rfl
    rw [e]
    refine ⟨insI_pw h1 (fun x hx => ?_), fun k => ?_, by rw [insI_len, h3]⟩
    · have := (h2 x).mp hx
      exact ⟨this, hM x n (by omega) (by omega)⟩
    · rw [insI_mem, h2]; omega
/-- sorted by W: those up to t are the first ones -/
theorem pw_take {W M : Nat → Nat} (t : Nat) : ∀ {L : List Nat}, L.Pairwise (ltK W M) → L.takeWhile (fun k => decide (W k ≤ t)) = L.filter (fun k => decide (W k ≤ t)) := by
  intro L
  induction L with
  | nil => intro _; rfl
  | cons x L ih =>
    intro h
    obtain ⟨h1, h2⟩ := List.pairwise_cons.mp h
    by_cases a : W x ≤ t
    · rw [List.takeWhile_cons_of_pos (by simpa using a), List.filter_cons_of_pos (by simpa using a), ih h2]
    · rw [List.takeWhile_cons_of_neg (by simpa using a), List.filter_cons_of_neg (by simpa using a)]
      symm
      rw [List.filter_eq_nil_iff]
      intro y hy
      have := h1 y hy
      unfold ltK at this
      simp only [decide_eq_true_eq]
      omega
theorem srt_of {W M : Nat → Nat} {n : Nat} (hM : ∀ i j, i ≤ j → j < n → M i ≤ M j) (t : Nat) : Srt W M t n ((ordI W n).takeWhile (fun k => decide (W k ≤ t))) := by
  obtain ⟨h1, h2, h3⟩ := ordI_spec (W := W) n hM
  rw [pw_take t h1]
  refine ⟨h1.sublist List.filter_sublist, fun k => ?_, ?_⟩
  · rw [List.mem_filter, h2]; simp
  · have := List.length_filter_le (fun k => decide (W k ≤ t)) (ordI W n)
    omega
/-- the class's queue is that order -/
theorem stp_map (g : Nat → Qe) (W : Nat → Nat) (hg : ∀ k, (g k).2.2 = W k) (L : List Nat) (h : Nat) : ∀ i, stp (L.map g) h i = stI W L h i := by
  intro i
  induction i with
  | zero => rfl
  | succ i ih =>
    unfold stp stI
    rw [List.getElem?_map]
    cases L[i]? with
    | none => rfl
    | some x => simp only [Option.map_some, hg, ih]
theorem insQ_map (g : Nat → Qe) (W : Nat → Nat) (hg : ∀ k, (g k).2.2 = W k) (L : List Nat) (k : Nat) : insQ (L.map g) (g k) = (insI W L k).map g := by
  unfold insQ insI
  rw [hg, List.length_map, stp_map g W hg, List.map_append, List.map_cons, List.map_take, List.map_drop]
theorem queue_ord (g : Nat → Qe) (W : Nat → Nat) (hg : ∀ k, (g k).2.2 = W k) : ∀ n, ((List.range n).map g).foldl insQ [] = (ordI W n).map g := by
  intro n
  induction n with
  | zero => rfl
  | succ n ih =>
    have e : ordI W (n + 1) = insI W (ordI W n) n := by
      unfold ordI
      rw [List.range_succ, List.foldl_append]
      rfl
    rw [List.range_succ, List.map_append, List.foldl_append, ih, e, ← insQ_map g W hg]
    rfl
