/-! ===== the reference: the next that is heard, and all of them ===== -/
def ltK (w m : Nat → Nat) (i j : Nat) : Prop := w i < w j ∨ (w i = w j ∧ (m i < m j ∨ (m i = m j ∧ i < j)))
theorem ltK_asym {w m : Nat → Nat} {i j : Nat} (h : ltK w m i j) (g : ltK w m j i) : False := by
  unfold ltK at h g; omega
def nxF (w m : Nat → Nat) (hd : Nat → Bool) (t : Nat) : Nat → Option Nat
  | 0 => none
  | k + 1 => if hd k = false ∧ w k ≤ t then (match nxF w m hd t k with
    | none => some k
    | some f => if w k < w f ∨ (w k = w f ∧ m k < m f) then some k else some f) else nxF w m hd t k
theorem nxF_spec (w m : Nat → Nat) (hd : Nat → Bool) (t : Nat) : ∀ n, (nxF w m hd t n = none → ∀ k, k < n → ¬ (hd k = false ∧ w k ≤ t)) ∧ ∀ f, nxF w m hd t n = some f → f < n ∧ hd f = false ∧ w f ≤ t ∧ ∀ k, k < n → hd k = false → w k ≤ t → k = f ∨ ltK w m f k := by
  intro n
  induction n with
  | zero => exact ⟨fun _ k hk => absurd hk (by omega), fun f h => by cases h⟩
  | succ n ih =>
    unfold nxF
    by_cases c : hd n = false ∧ w n ≤ t
    · rw [if_pos c]
      cases hx : nxF w m hd t n with
      | none =>
        refine ⟨fun h => (by cases h), fun f h => ?_⟩
        cases h
        refine ⟨by omega, c.1, c.2, fun k hk h1 h2 => ?_⟩
        by_cases e : k = n
        · exact Or.inl e
        · exact absurd ⟨h1, h2⟩ (ih.1 hx k (by omega))
      | some g =>
        obtain ⟨g1, g2, g3, g4⟩ := ih.2 g hx
        by_cases e : w n < w g ∨ (w n = w g ∧ m n < m g)
        · simp only [e, if_true]
          refine ⟨fun h => (by cases h), fun f h => ?_⟩
          cases h
          refine ⟨by omega, c.1, c.2, fun k hk h1 h2 => ?_⟩
          by_cases e2 : k = n
          · exact Or.inl e2
          · right
            rcases g4 k (by omega) h1 h2 with h3 | h3
            · subst h3; unfold ltK; omega
            · unfold ltK at h3 ⊢; omega
        · simp only [e, if_false]
          refine ⟨fun h => (by cases h), fun f h => ?_⟩
          cases h
          refine ⟨by omega, g2, g3, fun k hk h1 h2 => ?_⟩
          by_cases e2 : k = n
          · right; subst e2; unfold ltK; omega
          · exact g4 k (by omega) h1 h2
    · rw [if_neg c]
      refine ⟨fun h k hk => ?_, fun f h => ?_⟩
      · by_cases e : k = n
        · subst e; exact c
        · exact ih.1 h k (by omega)
      · obtain ⟨g1, g2, g3, g4⟩ := ih.2 f h
        refine ⟨by omega, g2, g3, fun k hk h1 h2 => ?_⟩
        by_cases e : k = n
        · subst e; exact absurd ⟨h1, h2⟩ c
        · exact g4 k (by omega) h1 h2
section MNEXT
variable {N n t : Nat} {mi wh ih : Nat → Int32} {w m : Nat → Nat} {hd : Nat → Bool}
def MW (n : Nat) (mi wh : Nat → Int32) (w m : Nat → Nat) : Prop := ∀ k, k < n → mi k = nI (m k) ∧ wh k = nI (w k) ∧ m k < 1000000 ∧ w k < 1000000
def MH (n : Nat) (ih : Nat → Int32) (hd : Nat → Bool) : Prop := ∀ k, k < n → ih k = if hd k then 1 else 0
theorem oM_some_nonneg {k : Nat} (hk : k < 1000) : ¬ oM (some k) = -4 ∧ 0 ≤ oM (some k) := by
  refine ⟨fun z => ?_, nI_pos' (by omega)⟩
  have h3 : nI k < 0 := by
    have : nI k = -4 := z
    rw [this]; decide
  exact nI_pos (by omega) h3
theorem nx_loop (hW : MW n mi wh w m) (hH : MH n ih hd) (hn : n ≤ 128) (ht : t < 2147483648) : ∀ (d j : Nat), j + d = n → ∀ fu, d < fu → g_X12_next_L5 N mi wh ih (nI n) fu (nI t) (oM (nxF w m hd t j)) (nI j) = some (oM (nxF w m hd t n)) := by
  intro d
  induction d with
  | zero =>
    intro j hj fu hfu
    obtain ⟨fv, rfl⟩ : ∃ fv, fu = fv + 1 := ⟨fu - 1, by omega⟩
    have : j = n := by omega
    subst this
    unfold g_X12_next_L5
    rw [if_pos ((nle (by omega) (by omega)).mpr (Nat.le_refl _))]
  | succ d ihd =>
    intro j hj fu hfu
    obtain ⟨fv, rfl⟩ : ∃ fv, fu = fv + 1 := ⟨fu - 1, by omega⟩
    obtain ⟨a1, a2, a3, a4⟩ := hW j (by omega)
    have ih' := ihd (j + 1) (by omega) fv (by omega)
    have hj0 := hH j (by omega)
    unfold g_X12_next_L5
    rw [if_neg (by rw [nle (by omega) (by omega)]; omega), gi_nI (by omega) (by omega), nc (by omega), hj0, a2]
    cases hb : hd j with
    | true =>
      rw [if_neg (by simp)]
      unfold g_X12_next_b115
      have e1 : nxF w m hd t (j + 1) = nxF w m hd t j := by
        conv => lhs; unfold nxF
        rw [if_neg (by simp [hb])]
      rw [e1] at ih'
      rw [nI_1]
      exact ih'
    | false =>
      rw [if_pos (by simp), gi_nI (by omega) (by omega)]
      by_cases c : w j ≤ t
      · rw [if_neg (by rw [nlt (by omega) (by omega)]; omega)]
        have e1 : nxF w m hd t (j + 1) = (match nxF w m hd t j with
            | none => some j
            | some f => if w j < w f ∨ (w j = w f ∧ m j < m f) then some j else some f) := by
          conv => lhs; unfold nxF
          rw [if_pos ⟨hb, c⟩]
        rw [e1] at ih'
        cases hx : nxF w m hd t j with
        | none =>
          rw [hx] at ih'
          rw [if_neg (show ¬ (0 : Int32) ≤ oM none by decide)]
          obtain ⟨z1, z2, z3, z4⟩ := hW 0 (by omega)
          unfold g_X12_next_b41
          rw [gi_nI (by omega) (by omega), l0, gi_nI (by omega) (by omega), gi_nI (by omega) (by omega), gi_nI (by omega) (by omega), gi_nI (by omega) (by omega), gi_nI (by omega) (by omega)]
          unfold g_X12_next_b91 g_X12_next_b95 g_X12_next_b96
          rw [if_pos (show oM none = -4 from rfl)]
          unfold g_X12_next_b109 g_X12_next_b114 g_X12_next_b115
          rw [nI_1]
          have : g_X12_next_L5 N mi wh ih (nI n) fv (nI t) (nI j) (nI (j + 1)) = some (oM (nxF w m hd t n)) := ih'
          rw [this]
          simp [show oM none = (-4 : Int32) from rfl]
        | some f =>
          rw [hx] at ih'
          obtain ⟨f1, f2, f3, f4⟩ := (nxF_spec w m hd t j).2 f hx
          obtain ⟨o1, o2⟩ := oM_some_nonneg (k := f) (by omega)
          obtain ⟨z1, z2, z3, z4⟩ := hW f (by omega)
          rw [if_pos o2]
          unfold g_X12_next_b41
          rw [show oM (some f) = nI f from rfl] at *
          rw [gi_nI (by omega) (by omega), gi_nI (by omega) (by omega), gi_nI (by omega) (by omega), gi_nI (by omega) (by omega), gi_nI (by omega) (by omega), gi_nI (by omega) (by omega), nc (by omega), nc (by omega), a1, a2, z1, z2]
          unfold g_X12_next_b91 g_X12_next_b95 g_X12_next_b96
          rw [if_neg o1, if_neg o1]
          unfold g_X12_next_b109 g_X12_next_b114 g_X12_next_b115
          rw [nI_1]
          have r1 : nI (w j) < nI (w f) ↔ w j < w f := nlt (by omega) (by omega)
          have r2 : nI (w j) = nI (w f) ↔ w j = w f := neq (by omega) (by omega)
          have r3 : nI (m f) ≤ nI (m j) ↔ m f ≤ m j := nle (by omega) (by omega)
          by_cases q1 : w j < w f
          · rw [if_pos (r1.mpr q1), if_neg (show ¬ (1 : Int32) = 0 by decide)]
            simp only [q1, true_or, if_true] at ih'
            exact ih'
          · rw [if_neg (fun z => q1 (r1.mp z))]
            by_cases q2 : w j = w f
            · rw [if_pos (r2.mpr q2)]
              by_cases q3 : m f ≤ m j
              · rw [if_pos (r3.mpr q3), if_pos (show (0 : Int32) = 0 from rfl)]
                have e5 : (if w j < w f ∨ w j = w f ∧ m j < m f then some j else some f) = some f := if_neg (by omega)
                simp only [e5] at ih'
                exact ih'
              · rw [if_neg (fun z => q3 (r3.mp z)), if_neg (show ¬ (1 : Int32) = 0 by decide)]
                have e5 : (if w j < w f ∨ w j = w f ∧ m j < m f then some j else some f) = some j := if_pos (by omega)
                simp only [e5] at ih'
                exact ih'
            · rw [if_neg (fun z => q2 (r2.mp z)), if_pos (show (0 : Int32) = 0 from rfl)]
              have e5 : (if w j < w f ∨ w j = w f ∧ m j < m f then some j else some f) = some f := if_neg (by omega)
              simp only [e5] at ih'
              exact ih'
      · rw [if_pos (by rw [nlt (by omega) (by omega)]; omega)]
        unfold g_X12_next_b115
        have e1 : nxF w m hd t (j + 1) = nxF w m hd t j := by
          conv => lhs; unfold nxF
          rw [if_neg (fun z => c z.2)]
        rw [e1] at ih'
        rw [nI_1]
        exact ih'
theorem pX12_next (hW : MW n mi wh w m) (hH : MH n ih hd) (hn : n ≤ 128) (ht : t < 2147483648) (hN : n < N) : g_X12_next N mi wh ih (nI n) (nI t) = some (oM (nxF w m hd t n)) := by
  unfold g_X12_next
  exact nx_loop hW hH hn ht n 0 (by omega) N hN
end MNEXT
