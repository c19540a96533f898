/-! ===== spoiled words ===== -/
def Less (l m : List Nat) : Prop := m.length = l.length + 1 ∧ ∃ o, o ≤ l.length ∧ (∀ k, k < o → l[k]? = m[k]?) ∧ ∀ k, o ≤ k → k < l.length → l[k]? = m[k + 1]?
noncomputable def lessB (l m : List Nat) : Bool := @decide (Less l m) (Classical.propDecidable _)
theorem lessB_iff {l m : List Nat} : lessB l m = true ↔ Less l m := @decide_eq_true_iff _ (Classical.propDecidable _)
def bI (b : Bool) : Int32 := if b then 1 else 0
theorem bI_t : bI true = 1 := rfl
theorem bI_f : bI false = 0 := rfl
theorem bI_0 (b : Bool) : bI b = 0 ↔ b = false := by cases b <;> decide
theorem gb_bI (b : Bool) : gb (bI b) (some (bI b)) = some (bI b) := by
  cases b
  · exact if_pos (Or.inl rfl)
  · exact if_pos (Or.inr rfl)
theorem lessB_of {b : Bool} {l m : List Nat} (h : b = true ↔ Less l m) : b = lessB l m := by rw [Bool.eq_iff_iff, h, lessB_iff]
section LESS
variable {N : Nat} {a b : Nat → Int32} {l m : List Nat}
theorem lo_b (ha : Rp a l) (hb : Rp b m) (hl8 : ∀ x ∈ l, x < 8) (hm8 : ∀ x ∈ m, x < 8) (hm4 : m.length ≤ 4) (hlm : m.length = l.length + 1) :
    ∀ (t j : Nat), j + t = l.length → ∀ fu, t < fu → ∃ r : Bool, g_X7_isLessOne_L48 N 4 4 a (nI l.length) b (nI m.length) fu (nI j) = some (bI r) ∧ (r = true ↔ ∀ k, j ≤ k → k < l.length → l[k]? = m[k + 1]?) := by
  intro t
  induction t with
  | zero =>
    intro j hj fu hfu
    obtain ⟨fv, rfl⟩ : ∃ fv, fu = fv + 1 := ⟨fu - 1, by omega⟩
    refine ⟨true, ?_, ⟨fun _ k h1 h2 => by omega, fun _ => rfl⟩⟩
    unfold g_X7_isLessOne_L48
    rw [if_pos ((nle (by omega) (by omega)).mpr (by omega))]
    rfl
  | succ t ih =>
    intro j hj fu hfu
    obtain ⟨fv, rfl⟩ : ∃ fv, fu = fv + 1 := ⟨fu - 1, by omega⟩
    obtain ⟨x, hx⟩ : ∃ x, l[j]? = some x := ⟨_, List.getElem?_eq_getElem (by omega)⟩
    obtain ⟨y, hy⟩ : ∃ y, m[j + 1]? = some y := ⟨_, List.getElem?_eq_getElem (by omega)⟩
    have x8 := hl8 x (List.mem_of_getElem? hx)
    have y8 := hm8 y (List.mem_of_getElem? hy)
    obtain ⟨r, r1, r2⟩ := ih (j + 1) (by omega) fv (by omega)
    unfold g_X7_isLessOne_L48
    rw [if_neg (by rw [nle (by omega) (by omega)]; omega), gi_nI (by omega) (by omega), nI_1, gi_nI (by omega) (by omega), nc (by omega), nc (by omega), ha j x hx, hb _ y hy]
    by_cases e : x = y
    · rw [if_pos (by rw [e]), r1]
      refine ⟨r, rfl, r2.trans ⟨fun h k k1 k2 => ?_, fun h k k1 k2 => h k (by omega) k2⟩⟩
      by_cases z : k = j
      · subst z; rw [hx, hy, e]
      · exact h k (by omega) k2
    · rw [if_neg (fun z => e ((neq (by omega) (by omega)).mp z))]
      refine ⟨false, rfl, ⟨fun h => absurd h (by decide), fun h => ?_⟩⟩
      have := h j (Nat.le_refl _) (by omega)
      rw [hx, hy] at this
      exact absurd (Option.some.inj this) e
theorem lo_a (hN : 20 < N) (ha : Rp a l) (hb : Rp b m) (hl8 : ∀ x ∈ l, x < 8) (hm8 : ∀ x ∈ m, x < 8) (hm4 : m.length ≤ 4) (hlm : m.length = l.length + 1) :
    ∀ (t j : Nat), j + t = l.length → (∀ k, k < j → l[k]? = m[k]?) → ∀ fu, t < fu → g_X7_isLessOne_L17 N 4 4 a (nI l.length) b (nI m.length) (g_X7_isLessOne_b46 N 4 4 a (nI l.length) b (nI m.length)) fu (nI j) = some (bI (lessB l m)) := by
  intro t
  induction t with
  | zero =>
    intro j hj hk fu hfu
    obtain ⟨fv, rfl⟩ : ∃ fv, fu = fv + 1 := ⟨fu - 1, by omega⟩
    obtain ⟨r, r1, r2⟩ := lo_b (N := N) ha hb hl8 hm8 hm4 hlm 0 j (by omega) N (by omega)
    unfold g_X7_isLessOne_L17 g_X7_isLessOne_b46
    rw [if_pos ((nle (by omega) (by omega)).mpr (by omega)), r1]
    have : r = lessB l m := lessB_of ⟨fun h => ⟨hlm, j, by omega, hk, r2.mp h⟩, fun _ => r2.mpr (fun k k1 k2 => by omega)⟩
    rw [this]
  | succ t ih =>
    intro j hj hk fu hfu
    obtain ⟨fv, rfl⟩ : ∃ fv, fu = fv + 1 := ⟨fu - 1, by omega⟩
    obtain ⟨x, hx⟩ : ∃ x, l[j]? = some x := ⟨_, List.getElem?_eq_getElem (by omega)⟩
    obtain ⟨y, hy⟩ : ∃ y, m[j]? = some y := ⟨_, List.getElem?_eq_getElem (by omega)⟩
    have x8 := hl8 x (List.mem_of_getElem? hx)
    have y8 := hm8 y (List.mem_of_getElem? hy)
    unfold g_X7_isLessOne_L17
    rw [if_neg (by rw [nle (by omega) (by omega)]; omega), gi_nI (by omega) (by omega), gi_nI (by omega) (by omega), nc (by omega), ha j x hx, hb _ y hy]
    by_cases e : x = y
    · rw [if_pos (by rw [e]), nI_1]
      refine ih (j + 1) (by omega) (fun k k1 => ?_) fv (by omega)
      by_cases z : k = j
      · subst z; rw [hx, hy, e]
      · exact hk k (by omega)
    · rw [if_neg (fun z => e ((neq (by omega) (by omega)).mp z))]
      unfold g_X7_isLessOne_b46
      obtain ⟨r, r1, r2⟩ := lo_b (N := N) ha hb hl8 hm8 hm4 hlm (t + 1) j (by omega) N (by omega)
      rw [r1]
      have : r = lessB l m := lessB_of ⟨fun h => ⟨hlm, j, by omega, hk, r2.mp h⟩, fun ⟨_, o, o1, o2, o3⟩ => r2.mpr (fun k k1 k2 => o3 k (by
        rcases Nat.lt_or_ge j o with z | z
        · have := o2 j z
          rw [hx, hy] at this
          exact absurd (Option.some.inj this) e
        · omega) k2)⟩
      rw [this]
theorem pX7_isLessOne (hN : 20 < N) (ha : Rp a l) (hb : Rp b m) (hl8 : ∀ x ∈ l, x < 8) (hm8 : ∀ x ∈ m, x < 8) (hl4 : l.length ≤ 4) (hm4 : m.length ≤ 4) : g_X7_isLessOne N 4 4 a (nI l.length) b (nI m.length) = some (bI (lessB l m)) := by
  unfold g_X7_isLessOne
  rw [nI_1]
  by_cases c : l.length + 1 = m.length
  · rw [if_pos (by rw [c])]
    exact lo_a hN ha hb hl8 hm8 hm4 c.symm l.length 0 (by omega) (fun k hk => by omega) N (by omega)
  · rw [if_neg (fun z => c ((neq (by omega) (by omega)).mp z))]
    have : lessB l m = false := by
      cases z : lessB l m with
      | false => rfl
      | true => exact absurd (lessB_iff.mp z).1.symm c
    rw [this]
    rfl
end LESS
/-- the other one's sort that stands at k with o left out -/
abbrev skp (o k : Nat) : Nat := if k < o then k else k + 1
section LACKS
variable {N w f : Nat} {book : Nat → Int32} {l m : List Nat}
theorem lk_in (hw : w < 8) (hf : f < 8) (hwl : ∀ k x, l[k]? = some x → book (38 + 4 * w + k) = nI x) (hwm : ∀ k x, m[k]? = some x → book (38 + 4 * f + k) = nI x) (hl8 : ∀ x ∈ l, x < 8) (hm8 : ∀ x ∈ m, x < 8) (hm4 : m.length ≤ 4) (hlm : m.length = l.length + 1) {o : Nat} (ho : o ≤ l.length) (x4 : Int32) (kk : Int32 → Int32 → Int32 → Int32 → Int32 → Int32 → Option Int32) :
    ∀ (t j : Nat), j + t = l.length → ∀ fu, t < fu → ∀ b : Bool, ∃ r : Bool, g_X12_lacksOne_L43 N book kk fu (nI w) (nI f) (nI l.length) x4 (nI o) (bI b) (nI j) = kk (nI w) (nI f) (nI l.length) x4 (nI o) (bI r) ∧ (r = true ↔ b = true ∧ ∀ k, j ≤ k → k < l.length → l[k]? = m[skp o k]?) := by
  have e38 : ∀ i : Nat, 38 + 4 * nI i = nI (38 + 4 * i) := fun i => by rw [l38, l4, pk_mul, nI_add]
  intro t
  induction t with
  | zero =>
    intro j hj fu hfu b
    obtain ⟨fv, rfl⟩ : ∃ fv, fu = fv + 1 := ⟨fu - 1, by omega⟩
    refine ⟨b, ?_, ⟨fun h => ⟨h, fun k h1 h2 => by omega⟩, fun h => h.1⟩⟩
    unfold g_X12_lacksOne_L43
    rw [if_pos ((nle (by omega) (by omega)).mpr (by omega))]
  | succ t ih =>
    intro j hj fu hfu b
    obtain ⟨fv, rfl⟩ : ∃ fv, fu = fv + 1 := ⟨fu - 1, by omega⟩
    unfold g_X12_lacksOne_L43
    rw [if_neg (by rw [nle (by omega) (by omega)]; omega)]
    unfold g_X12_lacksOne_b94 g_X12_lacksOne_b103 g_X12_lacksOne_b104
    cases b with
    | false =>
      obtain ⟨r, r1, r2⟩ := ih (j + 1) (by omega) fv (by omega) false
      rw [if_pos (show bI false = 0 from rfl), nI_1]
      refine ⟨r, r1, r2.trans ⟨fun h => absurd h.1 (by decide), fun h => absurd h.1 (by decide)⟩⟩
    | true =>
      obtain ⟨x, hx⟩ : ∃ x, l[j]? = some x := ⟨_, List.getElem?_eq_getElem (by omega)⟩
      have hsk : skp o j < m.length := by unfold skp; split <;> omega
      obtain ⟨y, hy⟩ : ∃ y, m[skp o j]? = some y := ⟨_, List.getElem?_eq_getElem hsk⟩
      have x8 := hl8 x (List.mem_of_getElem? hx)
      have y8 := hm8 y (List.mem_of_getElem? hy)
      rw [if_neg (show ¬ bI true = 0 by decide), e38, e38, nI_add, gi_nI (by omega) (by omega), nc (by omega), hwl j x hx]
      have hif : ∀ (F : Int32 → Option Int32), (if nI o ≤ nI j then F (nI j + 1) else F (nI j)) = F (nI (skp o j)) := by
        intro F
        unfold skp
        by_cases z : j < o
        · rw [if_neg (by rw [nle (by omega) (by omega)]; omega), if_pos z]
        · rw [if_pos ((nle (by omega) (by omega)).mpr (by omega)), if_neg z, nI_1]
      have hif' := hif (fun z => gi (nI (38 + 4 * f) + z) 78 (if nI x = book (nI (38 + 4 * f) + z).toNatClampNeg then g_X12_lacksOne_L43 N book kk fv (nI w) (nI f) (nI l.length) x4 (nI o) 1 (nI j + 1) else g_X12_lacksOne_L43 N book kk fv (nI w) (nI f) (nI l.length) x4 (nI o) 0 (nI j + 1)))
      rw [hif']
      rw [nI_add, gi_nI (by omega) (by omega), nc (by omega), hwm _ y hy, nI_1]
      by_cases e : x = y
      · rw [if_pos (by rw [e])]
        obtain ⟨r, r1, r2⟩ := ih (j + 1) (by omega) fv (by omega) true
        refine ⟨r, r1, r2.trans ⟨fun h => ⟨rfl, fun k k1 k2 => ?_⟩, fun h => ⟨rfl, fun k k1 k2 => h.2 k (by omega) k2⟩⟩⟩
        by_cases z : k = j
        · subst z; rw [hx, hy, e]
        · exact h.2 k (by omega) k2
      · rw [if_neg (fun z => e ((neq (by omega) (by omega)).mp z))]
        obtain ⟨r, r1, r2⟩ := ih (j + 1) (by omega) fv (by omega) false
        refine ⟨r, r1, r2.trans ⟨fun h => absurd h.1 (by decide), fun h => ?_⟩⟩
        have := h.2 j (Nat.le_refl _) (by omega)
        rw [hx, hy] at this
        exact absurd (Option.some.inj this) e
theorem lk_out (hN : 20 < N) (hw : w < 8) (hf : f < 8) (hbf : book (30 + f) = nI m.length) (hwl : ∀ k x, l[k]? = some x → book (38 + 4 * w + k) = nI x) (hwm : ∀ k x, m[k]? = some x → book (38 + 4 * f + k) = nI x) (hl8 : ∀ x ∈ l, x < 8) (hm8 : ∀ x ∈ m, x < 8) (hm4 : m.length ≤ 4) (hlm : m.length = l.length + 1) :
    ∀ (t o : Nat), o + t = l.length + 1 → ∀ fu, t < fu → ∀ b : Bool, ∃ r : Bool, g_X12_lacksOne_L16 N book fu (nI w) (nI f) (nI l.length) (bI b) (nI o) = some (bI r) ∧ (r = true ↔ b = true ∨ ∃ q, o ≤ q ∧ q ≤ l.length ∧ ∀ k, k < l.length → l[k]? = m[skp q k]?) := by
  have e30 : 30 + nI f = nI (30 + f) := by rw [l30, nI_add]
  intro t
  induction t with
  | zero =>
    intro o ho fu hfu b
    obtain ⟨fv, rfl⟩ : ∃ fv, fu = fv + 1 := ⟨fu - 1, by omega⟩
    refine ⟨b, ?_, ⟨Or.inl, fun h => h.elim id (fun ⟨q, q1, q2, _⟩ => by omega)⟩⟩
    unfold g_X12_lacksOne_L16
    rw [if_pos ((nlt (by omega) (by omega)).mpr (by omega)), gb_bI]
  | succ t ih =>
    intro o ho fu hfu b
    obtain ⟨fv, rfl⟩ : ∃ fv, fu = fv + 1 := ⟨fu - 1, by omega⟩
    unfold g_X12_lacksOne_L16
    rw [if_neg (by rw [nlt (by omega) (by omega)]; omega), e30, gi_nI (by omega) (by omega), nc (by omega), hbf, nI_1, if_pos (by rw [hlm])]
    obtain ⟨r, r1, r2⟩ := lk_in (N := N) hw hf hwl hwm hl8 hm8 hm4 hlm (show o ≤ l.length by omega) (bI b) (g_X12_lacksOne_b112 N book (g_X12_lacksOne_L16 N book fv)) l.length 0 (by omega) N (by omega) true
    have r1' : g_X12_lacksOne_L43 N book (g_X12_lacksOne_b112 N book (g_X12_lacksOne_L16 N book fv)) N (nI w) (nI f) (nI l.length) (bI b) (nI o) 1 0 = _ := r1
    rw [r1']
    unfold g_X12_lacksOne_b112 g_X12_lacksOne_b122 g_X12_lacksOne_b127
    have e9 : (if bI b = 0 then (if bI r = 0 then g_X12_lacksOne_L16 N book fv (nI w) (nI f) (nI l.length) 0 (nI o + 1) else g_X12_lacksOne_L16 N book fv (nI w) (nI f) (nI l.length) 1 (nI o + 1)) else g_X12_lacksOne_L16 N book fv (nI w) (nI f) (nI l.length) 1 (nI o + 1)) = g_X12_lacksOne_L16 N book fv (nI w) (nI f) (nI l.length) (bI (b || r)) (nI (o + 1)) := by
      rw [nI_1]
      cases b <;> cases r <;> rfl
    rw [e9]
    obtain ⟨r', r3, r4⟩ := ih (o + 1) (by omega) fv (by omega) (b || r)
    refine ⟨r', r3, r4.trans ?_⟩
    rw [Bool.or_eq_true, r2]
    constructor
    · rintro ((h | ⟨_, h⟩) | ⟨q, q1, q2, q3⟩)
      · exact Or.inl h
      · exact Or.inr ⟨o, Nat.le_refl _, by omega, fun k hk => h k (by omega) hk⟩
      · exact Or.inr ⟨q, by omega, q2, q3⟩
    · rintro (h | ⟨q, q1, q2, q3⟩)
      · exact Or.inl (Or.inl h)
      · by_cases z : q = o
        · subst z; exact Or.inl (Or.inr ⟨rfl, fun k _ hk => q3 k hk⟩)
        · exact Or.inr ⟨q, by omega, q2, q3⟩
theorem pX12_lacksOne (hN : 20 < N) (hw : w < 8) (hf : f < 8) (hbw : book (30 + w) = nI l.length) (hbf : book (30 + f) = nI m.length) (hwl : ∀ k x, l[k]? = some x → book (38 + 4 * w + k) = nI x) (hwm : ∀ k x, m[k]? = some x → book (38 + 4 * f + k) = nI x) (hl8 : ∀ x ∈ l, x < 8) (hm8 : ∀ x ∈ m, x < 8) (hl4 : l.length ≤ 4) (hm4 : m.length ≤ 4) : g_X12_lacksOne N book (nI w) (nI f) = some (bI (lessB l m)) := by
  have e30 : ∀ i : Nat, 30 + nI i = nI (30 + i) := fun i => by rw [l30, nI_add]
  unfold g_X12_lacksOne
  rw [e30, gi_nI (by omega) (by omega), nc (by omega), hbw]
  by_cases c : m.length = l.length + 1
  · obtain ⟨r, r1, r2⟩ := lk_out (N := N) hN hw hf hbf hwl hwm hl8 hm8 hm4 c (l.length + 1) 0 (by omega) N (by omega) false
    have r1' : g_X12_lacksOne_L16 N book N (nI w) (nI f) (nI l.length) 0 0 = _ := r1
    rw [r1']
    have : r = lessB l m := lessB_of (r2.trans ⟨fun h => h.elim (fun z => absurd z (by decide)) (fun ⟨q, q1, q2, q3⟩ => ⟨c, q, q2, fun k hk => by
        have := q3 k (by omega); rw [show skp q k = k from if_pos hk] at this; exact this, fun k k1 k2 => by
        have := q3 k k2; rw [show skp q k = k + 1 from if_neg (by omega)] at this; exact this⟩), fun ⟨_, o, o1, o2, o3⟩ => Or.inr ⟨o, by omega, o1, fun k hk => by
        by_cases z : k < o
        · rw [show skp o k = k from if_pos z]; exact o2 k z
        · rw [show skp o k = k + 1 from if_neg z]; exact o3 k (by omega) hk⟩⟩)
    rw [this]
  · have hb : lessB l m = false := by
      cases z : lessB l m with
      | false => rfl
      | true => exact absurd (lessB_iff.mp z).1 c
    obtain ⟨fv, rfl⟩ : ∃ fv, N = fv + 1 := ⟨N - 1, by omega⟩
    unfold g_X12_lacksOne_L16
    rw [if_neg (by rw [l0, nlt (by omega) (by omega)]; omega), e30, gi_nI (by omega) (by omega), nc (by omega), hbf, nI_1, if_neg (fun z => c ((neq (by omega) (by omega)).mp z)), hb]
    exact gb_bI false
end LACKS
noncomputable def spB (W : List (List Nat)) (i j : Nat) : Bool := lessB (W.getD i []) (W.getD j []) || lessB (W.getD j []) (W.getD i [])
def cJ (q : Nat → Bool) : Nat → Nat → Nat
  | _, 0 => 0
  | j, m + 1 => (if q j then 1 else 0) + cJ q (j + 1) m
def fJ (q : Nat → Bool) (v : Nat → Int32) (e : Int32) : Nat → Nat → Int32
  | _, 0 => e
  | j, m + 1 => if q j then v j else fJ q v e (j + 1) m
def cP (q : Nat → Nat → Bool) (n : Nat) : Nat → Nat → Nat
  | _, 0 => 0
  | i, m + 1 => cJ (q i) (i + 1) (n - (i + 1)) + cP q n (i + 1) m
def fP (q : Nat → Nat → Bool) (n : Nat) : Nat → Nat → Int32
  | _, 0 => -4
  | i, m + 1 => fJ (q i) (fun j => nI (10 * i + j)) (fP q n (i + 1) m) (i + 1) (n - (i + 1))
section SPOILED
variable {N : Nat} {wso : Nat → Nat → Int32} {wsz book : Nat → Int32} {bz : Int32} {W : List (List Nat)}
theorem WR.get (hW : WR wso wsz bz book W) {i : Nat} (hi : i < W.length) : i < 8 ∧ Rp (wso i) (W.getD i []) ∧ wsz i = nI (W.getD i []).length ∧ book (30 + i) = nI (W.getD i []).length ∧ (∀ k x, (W.getD i [])[k]? = some x → book (38 + 4 * i + k) = nI x) ∧ (∀ x ∈ W.getD i [], x < 8) ∧ (W.getD i []).length ≤ 4 ∧ 1 ≤ (W.getD i []).length := by
  obtain ⟨h1, h2, h3, h4⟩ := hW
  have hg : W[i]? = some (W.getD i []) := by rw [List.getD_eq_getElem?_getD, List.getElem?_eq_getElem hi]; rfl
  obtain ⟨⟨a1, a2⟩, a3, a4, a5⟩ := h4 i _ hg
  refine ⟨by omega, fun k x hk => (a5 k x hk).2.1, a3, a4, fun k x hk => (a5 k x hk).2.2, fun x hx => ?_, a2, a1⟩
  obtain ⟨k, hk⟩ := List.getElem?_of_mem hx
  exact (a5 k x hk).1
theorem pX1_areSpoiled (hN : 20 < N) (hW : WR wso wsz bz book W) {i j : Nat} (hi : i < W.length) (hj : j < W.length) : g_X1_areSpoiled N wso wsz (nI i) (nI j) = some (bI (spB W i j)) := by
  obtain ⟨i1, i2, i3, i4, i5, i6, i7, i8⟩ := hW.get hi
  obtain ⟨j1, j2, j3, j4, j5, j6, j7, j8⟩ := hW.get hj
  unfold g_X1_areSpoiled g_X1_areSpoiled_b36
  rw [gi_nI i1 (by omega), gi_nI j1 (by omega), gi_nI i1 (by omega), gi_nI j1 (by omega), nc (by omega), nc (by omega), i3, j3, pX7_isLessOne hN i2 j2 i6 j6 i7 j7, pX7_isLessOne hN j2 i2 j6 i6 j7 i7]
  unfold spB
  simp only [Option.bind_some]
  cases lessB (W.getD i []) (W.getD j []) <;> cases lessB (W.getD j []) (W.getD i []) <;> rfl
theorem sp_cj (hN : 20 < N) (hW : WR wso wsz (nI W.length) book W) {i : Nat} (hi : i < W.length) (kk : Int32 → Int32 → Option Int32) : ∀ (m j : Nat), j + m = W.length → ∀ fu, m < fu → ∀ a : Nat, g_X1_howManySpoiled_L16 N wso wsz (nI W.length) kk fu (nI a) (nI i) (nI j) = kk (nI (a + cJ (spB W i) j m)) (nI i) := by
  have h8 := hW.1
  intro m
  induction m with
  | zero =>
    intro j hj fu hfu a
    obtain ⟨fv, rfl⟩ : ∃ fv, fu = fv + 1 := ⟨fu - 1, by omega⟩
    unfold g_X1_howManySpoiled_L16
    rw [if_pos ((nle (by omega) (by omega)).mpr (by omega))]
    rfl
  | succ m ih =>
    intro j hj fu hfu a
    obtain ⟨fv, rfl⟩ : ∃ fv, fu = fv + 1 := ⟨fu - 1, by omega⟩
    unfold g_X1_howManySpoiled_L16
    rw [if_neg (by rw [nle (by omega) (by omega)]; omega), pX1_areSpoiled hN hW hi (by omega)]
    unfold g_X1_howManySpoiled_b36 cJ
    simp only [Option.bind_some]
    rw [nI_1, nI_1]
    cases spB W i j with
    | false => rw [if_pos (show bI false = 0 from rfl), ih (j + 1) (by omega) fv (by omega), if_neg (show ¬ false = true by decide), Nat.zero_add]
    | true => rw [if_neg (show ¬ bI true = 0 by decide), ih (j + 1) (by omega) fv (by omega), if_pos rfl, Nat.add_assoc]
theorem sp_cp (hN : 20 < N) (hW : WR wso wsz (nI W.length) book W) : ∀ (m i : Nat), i + m = W.length → ∀ fu, m < fu → ∀ a : Nat, g_X1_howManySpoiled_L4 N wso wsz (nI W.length) fu (nI a) (nI i) = some (nI (a + cP (spB W) W.length i m)) := by
  have h8 := hW.1
  intro m
  induction m with
  | zero =>
    intro i hi fu hfu a
    obtain ⟨fv, rfl⟩ : ∃ fv, fu = fv + 1 := ⟨fu - 1, by omega⟩
    unfold g_X1_howManySpoiled_L4
    rw [if_pos ((nle (by omega) (by omega)).mpr (by omega))]
    rfl
  | succ m ih =>
    intro i hi fu hfu a
    obtain ⟨fv, rfl⟩ : ∃ fv, fu = fv + 1 := ⟨fu - 1, by omega⟩
    unfold g_X1_howManySpoiled_L4
    rw [if_neg (by rw [nle (by omega) (by omega)]; omega), nI_1, sp_cj hN hW (show i < W.length by omega) _ (W.length - (i + 1)) (i + 1) (by omega) N (by omega)]
    unfold g_X1_howManySpoiled_b42 cP
    rw [nI_1, ih (i + 1) (by omega) fv (by omega), Nat.add_assoc]
theorem sp_fj (hN : 20 < N) (hW : WR wso wsz (nI W.length) book W) {i : Nat} (hi : i < W.length) (kk : Int32 → Option Int32) (e : Int32) (he : kk (nI i) = some e) : ∀ (m j : Nat), j + m = W.length → ∀ fu, m < fu → g_X1_firstSpoiled_L14 N wso wsz (nI W.length) (g_X1_firstSpoiled_b31 N wso wsz (nI W.length)) kk fu (nI i) (nI j) = some (fJ (spB W i) (fun j => nI (10 * i + j)) e j m) := by
  have h8 := hW.1
  intro m
  induction m with
  | zero =>
    intro j hj fu hfu
    obtain ⟨fv, rfl⟩ : ∃ fv, fu = fv + 1 := ⟨fu - 1, by omega⟩
    unfold g_X1_firstSpoiled_L14
    rw [if_pos ((nle (by omega) (by omega)).mpr (by omega)), he]
    rfl
  | succ m ih =>
    intro j hj fu hfu
    obtain ⟨fv, rfl⟩ : ∃ fv, fu = fv + 1 := ⟨fu - 1, by omega⟩
    unfold g_X1_firstSpoiled_L14
    rw [if_neg (by rw [nle (by omega) (by omega)]; omega), pX1_areSpoiled hN hW hi (by omega)]
    unfold fJ
    simp only [Option.bind_some]
    rw [nI_1]
    cases spB W i j with
    | false => rw [if_pos (show bI false = 0 from rfl), ih (j + 1) (by omega) fv (by omega), if_neg (show ¬ false = true by decide)]
    | true =>
      rw [if_neg (show ¬ bI true = 0 by decide), if_pos rfl]
      unfold g_X1_firstSpoiled_b31
      rw [l10, pk_mul, nI_add]
theorem sp_fp (hN : 20 < N) (hW : WR wso wsz (nI W.length) book W) : ∀ (m i : Nat), i + m = W.length → ∀ fu, m < fu → g_X1_firstSpoiled_L2 N wso wsz (nI W.length) (g_X1_firstSpoiled_b31 N wso wsz (nI W.length)) fu (nI i) = some (fP (spB W) W.length i m) := by
  have h8 := hW.1
  intro m
  induction m with
  | zero =>
    intro i hi fu hfu
    obtain ⟨fv, rfl⟩ : ∃ fv, fu = fv + 1 := ⟨fu - 1, by omega⟩
    unfold g_X1_firstSpoiled_L2
    rw [if_pos ((nle (by omega) (by omega)).mpr (by omega))]
    rfl
  | succ m ih =>
    intro i hi fu hfu
    obtain ⟨fv, rfl⟩ : ∃ fv, fu = fv + 1 := ⟨fu - 1, by omega⟩
    unfold g_X1_firstSpoiled_L2
    rw [if_neg (by rw [nle (by omega) (by omega)]; omega), nI_1]
    exact sp_fj hN hW (show i < W.length by omega) _ _ (by unfold g_X1_firstSpoiled_b44; rw [nI_1]; exact ih (i + 1) (by omega) fv (by omega)) (W.length - (i + 1)) (i + 1) (by omega) N (by omega)
/-- the reference, from the last word down -/
theorem sp_rj (hN : 20 < N) (hW : WR wso wsz (nI W.length) book W) {i : Nat} (hi : i < W.length) (x1 : Int32) (e : Int32) (a : Nat) (kk : Int32 → Int32 → Int32 → Int32 → Option Int32) : ∀ (t j : Nat), i + t = j → j < W.length → ∀ fu, t < fu → g_X12_spoiled_L41 N book kk fu x1 (nI (a + cJ (spB W i) (j + 1) (W.length - (j + 1)))) (fJ (spB W i) (fun j => nI (10 * i + j)) e (j + 1) (W.length - (j + 1))) (nI i) (nI j) = kk x1 (nI (a + cJ (spB W i) (i + 1) (W.length - (i + 1)))) (fJ (spB W i) (fun j => nI (10 * i + j)) e (i + 1) (W.length - (i + 1))) (nI i) := by
  have h8 := hW.1
  intro t
  induction t with
  | zero =>
    intro j hj hjl fu hfu
    obtain ⟨fv, rfl⟩ : ∃ fv, fu = fv + 1 := ⟨fu - 1, by omega⟩
    have : i = j := by omega
    subst this
    unfold g_X12_spoiled_L41
    rw [if_pos ((nle (by omega) (by omega)).mpr (by omega))]
  | succ t ih =>
    intro j hj hjl fu hfu
    obtain ⟨fv, rfl⟩ : ∃ fv, fu = fv + 1 := ⟨fu - 1, by omega⟩
    obtain ⟨i1, i2, i3, i4, i5, i6, i7, i8⟩ := hW.get hi
    obtain ⟨j1, j2, j3, j4, j5, j6, j7, j8⟩ := hW.get hjl
    have h9 := ih (j - 1) (by omega) (by omega) fv (by omega)
    rw [show j - 1 + 1 = j by omega] at h9
    have c9 : cJ (spB W i) j (W.length - j) = (if spB W i j then 1 else 0) + cJ (spB W i) (j + 1) (W.length - (j + 1)) := by
      rw [show W.length - j = (W.length - (j + 1)) + 1 by omega]
      rfl
    have f9 : fJ (spB W i) (fun j => nI (10 * i + j)) e j (W.length - j) = if spB W i j then nI (10 * i + j) else fJ (spB W i) (fun j => nI (10 * i + j)) e (j + 1) (W.length - (j + 1)) := by
      rw [show W.length - j = (W.length - (j + 1)) + 1 by omega]
      rfl
    rw [c9, f9] at h9
    rw [← h9]
    conv => lhs; unfold g_X12_spoiled_L41
    rw [if_neg (by rw [nle (by omega) (by omega)]; omega), pX12_lacksOne hN i1 j1 i4 j4 i5 j5 i6 j6 i7 j7, pX12_lacksOne hN j1 i1 j4 i4 j5 i5 j6 i6 j7 i7]
    unfold g_X12_spoiled_b70 g_X12_spoiled_b75 g_X12_spoiled_b88 g_X12_spoiled_b107
    simp only [Option.bind_some]
    have n10 : ((1 : Int32) = 0) = False := eq_false (by decide)
    rw [ndec (by omega), l10, pk_mul, nI_add, nI_1]
    simp only [Int32.add_zero, n10, if_true, if_false]
    have hs : spB W i j = (lessB (W.getD i []) (W.getD j []) || lessB (W.getD j []) (W.getD i [])) := rfl
    rw [hs]
    cases lessB (W.getD i []) (W.getD j []) with
    | true =>
      rw [if_neg (show ¬ bI true = 0 by decide), Bool.true_or, if_pos rfl, if_pos rfl, show a + (1 + cJ (spB W i) (j + 1) (W.length - (j + 1))) = a + cJ (spB W i) (j + 1) (W.length - (j + 1)) + 1 by omega]
    | false =>
      rw [if_pos (show bI false = 0 from rfl), Bool.false_or]
      cases lessB (W.getD j []) (W.getD i []) with
      | true =>
        rw [if_neg (show ¬ bI true = 0 by decide), if_pos rfl, if_pos rfl, show a + (1 + cJ (spB W i) (j + 1) (W.length - (j + 1))) = a + cJ (spB W i) (j + 1) (W.length - (j + 1)) + 1 by omega]
      | false =>
        rw [if_pos (show bI false = 0 from rfl), if_neg (show ¬ false = true by decide), if_neg (show ¬ false = true by decide), Nat.zero_add]
theorem sp_rp (hN : 20 < N) (hW : WR wso wsz (nI W.length) book W) (x1 : Int32) (kk : Int32 → Int32 → Int32 → Option Int32) : ∀ (i : Nat), i ≤ W.length → ∀ fu, i < fu → g_X12_spoiled_L26 N book kk fu x1 (nI (cP (spB W) W.length i (W.length - i))) (fP (spB W) W.length i (W.length - i)) (nI i - 1) = kk x1 (nI (cP (spB W) W.length 0 W.length)) (fP (spB W) W.length 0 W.length) := by
  have h8 := hW.1
  intro i
  induction i with
  | zero =>
    intro hi fu hfu
    obtain ⟨fv, rfl⟩ : ∃ fv, fu = fv + 1 := ⟨fu - 1, by omega⟩
    unfold g_X12_spoiled_L26
    rw [if_pos (by decide)]
    rfl
  | succ i ih =>
    intro hi fu hfu
    obtain ⟨fv, rfl⟩ : ∃ fv, fu = fv + 1 := ⟨fu - 1, by omega⟩
    have g4 : ∀ {α : Type} (z : Option α), gi 4 78 z = z := fun z => by rw [l4, gi_nI (by omega) (by omega)]
    have h9 := ih (by omega) fv (by omega)
    have c9 : cP (spB W) W.length i (W.length - i) = cJ (spB W i) (i + 1) (W.length - (i + 1)) + cP (spB W) W.length (i + 1) (W.length - (i + 1)) := by
      rw [show W.length - i = (W.length - (i + 1)) + 1 by omega]
      rfl
    have f9 : fP (spB W) W.length i (W.length - i) = fJ (spB W i) (fun j => nI (10 * i + j)) (fP (spB W) W.length (i + 1) (W.length - (i + 1))) (i + 1) (W.length - (i + 1)) := by
      rw [show W.length - i = (W.length - (i + 1)) + 1 by omega]
      rfl
    rw [c9, f9] at h9
    unfold g_X12_spoiled_L26
    rw [nI_pred, if_neg (nI_pos (by omega)), g4, show (4 : Int32).toNatClampNeg = 4 from rfl, hW.2.2.1, l1, ndec2 (by omega)]
    have hr := sp_rj (N := N) hN hW (show i < W.length by omega) x1 (fP (spB W) W.length (i + 1) (W.length - (i + 1))) (cP (spB W) W.length (i + 1) (W.length - (i + 1))) (g_X12_spoiled_b114 N book (g_X12_spoiled_L26 N book kk fv)) (W.length - 1 - i) (W.length - 1) (by omega) (by omega) N (by omega)
    rw [show W.length - (W.length - 1 + 1) = 0 by omega] at hr
    have hr' : g_X12_spoiled_L41 N book (g_X12_spoiled_b114 N book (g_X12_spoiled_L26 N book kk fv)) N x1 (nI (cP (spB W) W.length (i + 1) (W.length - (i + 1)))) (fP (spB W) W.length (i + 1) (W.length - (i + 1))) (nI i) (nI (W.length - 1)) = _ := hr
    rw [hr']
    unfold g_X12_spoiled_b114
    rw [show nI i + (-1) = nI i - 1 from by rw [Int32.sub_eq_add_neg], Nat.add_comm]
    exact h9
theorem t_spoiled (hN : 20 < N) (hW : WR wso wsz bz book W) (x1 : Int32) : ∃ v w, g_X11_spoiled N wso wsz bz x1 = some v ∧ g_X12_spoiled N book x1 = some w ∧ v = w := by
  have hb := hW.2.1
  subst hb
  have h8 := hW.1
  have in1 := pX12_in0z N 2 (by omega) x1
  rw [show nI 2 - 1 = 1 from by decide] at in1
  have g4 : ∀ {α : Type} (z : Option α), gi 4 78 z = z := fun z => by rw [l4, gi_nI (by omega) (by omega)]
  have hr := sp_rp (N := N) hN hW x1 (g_X12_spoiled_b120 N book) W.length (Nat.le_refl _) N (by omega)
  rw [Nat.sub_self] at hr
  have hr' : g_X12_spoiled_L26 N book (g_X12_spoiled_b120 N book) N x1 0 (-4) (nI W.length - 1) = _ := hr
  have h1 := sp_cp (N := N) hN hW W.length 0 (by omega) N (by omega) 0
  rw [Nat.zero_add] at h1
  have h1' : g_X1_howManySpoiled_L4 N wso wsz (nI W.length) N 0 0 = _ := h1
  have h2 := sp_fp (N := N) hN hW W.length 0 (by omega) N (by omega)
  have h2' : g_X1_firstSpoiled_L2 N wso wsz (nI W.length) (g_X1_firstSpoiled_b31 N wso wsz (nI W.length)) N 0 = _ := h2
  unfold g_X11_spoiled g_X12_spoiled g_X11_spoiled_b11 g_X1_howManySpoiled g_X1_firstSpoiled
  rw [in1, h1', h2', g4, show (4 : Int32).toNatClampNeg = 4 from rfl, hW.2.2.1, hr']
  unfold g_X12_spoiled_b120
  simp only [Option.bind_some]
  by_cases c0 : x1 = 0
  · subst c0
    rw [if_pos rfl, if_pos rfl, if_neg (by decide)]
    exact ⟨_, _, rfl, rfl, rfl⟩
  · rw [if_neg c0, if_neg c0]
    by_cases c1 : x1 = 1
    · subst c1
      rw [if_pos rfl, if_neg (by decide)]
      exact ⟨_, _, rfl, rfl, rfl⟩
    · rw [if_neg c1]
      have hx : ixB x1 2 = false := by
        cases z : ixB x1 2 with
        | false => rfl
        | true =>
          obtain ⟨j, hj, rfl⟩ := (ixB_iff (by omega)).mp z
          have hj2 : j = 0 ∨ j = 1 := by omega
          rcases hj2 with rfl | rfl
          · exact absurd rfl c0
          · exact absurd rfl c1
      rw [hx, if_neg (show ¬ false = true by decide), if_pos rfl]
      exact ⟨_, _, rfl, rfl, rfl⟩
end SPOILED
