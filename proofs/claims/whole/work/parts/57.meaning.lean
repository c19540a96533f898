/-! ===== words in a row; meaning ===== -/
def hB (R : List Nat) (a : Nat) (wd : List Nat) : Bool := decide (a + wd.length ≤ R.length) && decide ((R.drop a).take wd.length = wd)
theorem drop_cons {α : Type} {l : List α} {j : Nat} {e : α} (h : l[j]? = some e) : l.drop j = e :: l.drop (j + 1) := by
  rw [List.drop_eq_getElem?_toList_append, h]; rfl
theorem ite_and_eq {p q r : Prop} [Decidable p] [Decidable q] [Decidable r] (h : r ↔ p ∧ q) : (if r then (1 : Int32) else 0) = if p then (if q then 1 else 0) else 0 := by
  by_cases a : p
  · by_cases b : q
    · rw [if_pos (h.mpr ⟨a, b⟩), if_pos a, if_pos b]
    · rw [if_neg (fun z => b (h.mp z).2), if_pos a, if_neg b]
  · rw [if_neg (fun z => a (h.mp z).1), if_neg a]
theorem pX5_holdsAt {N nT nA rs : Nat} {so ws : Nat → Int32} {R wd : List Nat} (hso : Rp so R) (hws : Rp ws wd) (hR8 : ∀ x ∈ R, x < 8) (hw8 : ∀ x ∈ wd, x < 8) (hrs : R.length ≤ rs) (hrT : rs ≤ nT) (hT : nT < 1000) (hwA : wd.length ≤ nA) (hA : nA < 1000) (hN : 200 < N) (hw20 : wd.length < 100) {a : Nat} (ha : a < 1000) :
    g_X5_holdsAt N nT nA so (nI rs) ws (nI wd.length) (nI a) (nI R.length) = some (if hB R a wd then 1 else 0) := by
  unfold g_X5_holdsAt hB
  rw [if_neg (nI_pos (by omega)), if_neg (by rw [nlt (by omega) (by omega)]; omega), nI_add]
  by_cases c : a + wd.length ≤ R.length
  · rw [if_pos ((nle (by omega) (by omega)).mpr c), decide_eq_true c, Bool.true_and]
    suffices h : ∀ (m j : Nat), j + m = wd.length → ∀ fu, m < fu → g_X5_holdsAt_L27 N nT nA so (nI rs) ws (nI wd.length) fu (nI a) (nI j) = some (if (R.drop (a + j)).take m = wd.drop j then 1 else 0) by
      have h1 := h wd.length 0 (by omega) N (by omega)
      rw [List.drop_zero, Nat.add_zero] at h1
      have h2 : g_X5_holdsAt_L27 N nT nA so (nI rs) ws (nI wd.length) N (nI a) 0 = _ := h1
      rw [h2]
      simp
    intro m
    induction m with
    | zero =>
      intro j hj fu hfu
      obtain ⟨fv, rfl⟩ : ∃ fv, fu = fv + 1 := ⟨fu - 1, by omega⟩
      have : j = wd.length := by omega
      subst this
      unfold g_X5_holdsAt_L27
      rw [if_pos ((nle (by omega) (by omega)).mpr (Nat.le_refl _)), List.drop_length, List.take_zero, if_pos rfl]
    | succ m ih =>
      intro j hj fu hfu
      obtain ⟨fv, rfl⟩ : ∃ fv, fu = fv + 1 := ⟨fu - 1, by omega⟩
      obtain ⟨y, hy⟩ : ∃ y, wd[j]? = some y := ⟨_, List.getElem?_eq_getElem (by omega)⟩
      obtain ⟨r, hr⟩ : ∃ r, R[a + j]? = some r := ⟨_, List.getElem?_eq_getElem (by omega)⟩
      have y8 := hw8 y (List.mem_of_getElem? hy)
      have r8 := hR8 r (List.mem_of_getElem? hr)
      have ih' := ih (j + 1) (by omega) fv (by omega)
      unfold g_X5_holdsAt_L27
      rw [if_neg (by rw [nle (by omega) (by omega)]; omega), nI_add, gi_nI (by omega) (by omega), gi_nI (by omega) (by omega), nc (by omega), nc (by omega), hso _ r hr, hws _ y hy, drop_cons hr, drop_cons hy, List.take_succ_cons]
      by_cases e : r = y
      · rw [if_pos (by rw [e]), nI_1, ih']
        subst e
        rw [show a + (j + 1) = a + j + 1 by omega]
        simp
      · rw [if_neg (fun z => e ((neq (by omega) (by omega)).mp z)), if_neg (fun z => e (List.cons.inj z).1)]
  · rw [if_neg (fun z => c ((nle (by omega) (by omega)).mp z)), decide_eq_false c, Bool.false_and]
    rfl
/-- stand and sort of the reference hold the sorts R -/
def MS (st so : Nat → Int32) (R : List Nat) : Prop := ∀ (k x : Nat), R[k]? = some x → ∃ i, i < 128 ∧ st k = nI i ∧ so i = nI x
theorem pX12_isNext {N w : Nat} {book so st : Nat → Int32} {R wd : List Nat} (hst : MS st so R) (hR8 : ∀ x ∈ R, x < 8) (hw8 : ∀ x ∈ wd, x < 8) (hw : w < 8) (hb : book (30 + w) = nI wd.length) (hwb : ∀ k x, wd[k]? = some x → book (38 + 4 * w + k) = nI x) (hwl : wd.length ≤ 4) (hRl : R.length ≤ 100) (hN : 200 < N) {a : Nat} (ha : a < 1000) :
    g_X12_isNext N book so st (nI w) (nI a) (nI R.length) = some (if hB R a wd then 1 else 0) := by
  have e30 : 30 + nI w = nI (30 + w) := by rw [l30, nI_add]
  have e38 : 38 + 4 * nI w = nI (38 + 4 * w) := by rw [l38, l4, pk_mul, nI_add]
  have b0 : gb 0 (some (0 : Int32)) = some 0 := if_pos (Or.inl rfl)
  have b1 : gb 1 (some (1 : Int32)) = some 1 := if_pos (Or.inr rfl)
  unfold g_X12_isNext g_X12_isNext_b20 hB
  rw [e30, gi_nI (by omega) (by omega), nc (by omega), hb, nI_add]
  have hz : ∀ fu j, 0 < fu → g_X12_isNext_L25 N book so st fu (nI w) (nI a) 0 (nI j) = some 0 := by
    intro fu j hfu
    obtain ⟨fv, rfl⟩ : ∃ fv, fu = fv + 1 := ⟨fu - 1, by omega⟩
    unfold g_X12_isNext_L25
    rw [e30, gi_nI (by omega) (by omega), nc (by omega), hb]
    by_cases z : nI wd.length ≤ nI j
    · rw [if_pos z, b0]
    · rw [if_neg z, if_pos rfl, b0]
  by_cases c : a + wd.length ≤ R.length
  · rw [if_neg (by rw [nlt (by omega) (by omega)]; omega), decide_eq_true c, Bool.true_and]
    suffices h : ∀ (m j : Nat), j + m = wd.length → ∀ fu, m + 1 < fu → g_X12_isNext_L25 N book so st fu (nI w) (nI a) 1 (nI j) = some (if (R.drop (a + j)).take m = wd.drop j then 1 else 0) by
      have h1 := h wd.length 0 (by omega) N (by omega)
      rw [List.drop_zero, Nat.add_zero] at h1
      have h2 : g_X12_isNext_L25 N book so st N (nI w) (nI a) 1 0 = _ := h1
      rw [h2]
      simp
    intro m
    induction m with
    | zero =>
      intro j hj fu hfu
      obtain ⟨fv, rfl⟩ : ∃ fv, fu = fv + 1 := ⟨fu - 1, by omega⟩
      have : j = wd.length := by omega
      subst this
      unfold g_X12_isNext_L25
      rw [e30, gi_nI (by omega) (by omega), nc (by omega), hb, if_pos ((nle (by omega) (by omega)).mpr (Nat.le_refl _)), List.drop_length, List.take_zero, if_pos rfl, b1]
    | succ m ih =>
      intro j hj fu hfu
      obtain ⟨fv, rfl⟩ : ∃ fv, fu = fv + 1 := ⟨fu - 1, by omega⟩
      obtain ⟨y, hy⟩ : ∃ y, wd[j]? = some y := ⟨_, List.getElem?_eq_getElem (by omega)⟩
      obtain ⟨r, hr⟩ : ∃ r, R[a + j]? = some r := ⟨_, List.getElem?_eq_getElem (by omega)⟩
      have y8 := hw8 y (List.mem_of_getElem? hy)
      have r8 := hR8 r (List.mem_of_getElem? hr)
      obtain ⟨i, hi, q1, q2⟩ := hst _ r hr
      have ih' := ih (j + 1) (by omega) fv (by omega)
      unfold g_X12_isNext_L25
      rw [e30, e38, gi_nI (by omega) (by omega), nc (by omega), hb, if_neg (by rw [nle (by omega) (by omega)]; omega), if_neg (show ¬ (1 : Int32) = 0 by decide), nI_add, nI_add, gi_nI (by omega) (by omega), nc (by omega), q1, gi_nI hi (by omega), gi_nI (by omega) (by omega), nc (by omega), nc (by omega), q2, hwb j y hy, drop_cons hr, drop_cons hy, List.take_succ_cons]
      unfold g_X12_isNext_b80
      by_cases e : r = y
      · rw [if_pos (by rw [e]), nI_1, ih']
        subst e
        rw [show a + (j + 1) = a + j + 1 by omega]
        simp
      · rw [if_neg (fun z => e ((neq (by omega) (by omega)).mp z)), if_neg (fun z => e (List.cons.inj z).1), nI_1, hz fv (j + 1) (by omega)]
  · rw [if_pos (by rw [nlt (by omega) (by omega)]; omega), decide_eq_false c, Bool.false_and]
    exact hz N 0 (by omega)
/-- the longest word that comes next, the first of those -/
def lgS (R : List Nat) (a : Nat) (acc : Option Nat × Nat) (w : Nat) (wd : List Nat) : Option Nat × Nat := if acc.2 < wd.length ∧ hB R a wd = true then (some w, wd.length) else acc
def lgT (R : List Nat) (a : Nat) : List (List Nat) → Nat → Option Nat × Nat → Option Nat × Nat
  | [], _, acc => acc
  | wd :: l, w, acc => lgT R a l (w + 1) (lgS R a acc w wd)
def lgOk (R : List Nat) (a : Nat) (W : List (List Nat)) (acc : Option Nat × Nat) : Prop := (acc.1 = none → acc.2 = 0) ∧ ∀ w, acc.1 = some w → ∃ l, W[w]? = some l ∧ acc.2 = l.length ∧ a + l.length ≤ R.length
theorem lgT_ok {R : List Nat} {a : Nat} {W : List (List Nat)} : ∀ (L : List (List Nat)) (w : Nat) (acc : Option Nat × Nat), W.drop w = L → lgOk R a W acc → lgOk R a W (lgT R a L w acc) := by
  intro L
  induction L with
  | nil => intro w acc _ h; exact h
  | cons wd L ih =>
    intro w acc hd h
    have hw : W[w]? = some wd := by
      have : (W.drop w)[0]? = some wd := by rw [hd]; rfl
      rwa [List.getElem?_drop, Nat.add_zero] at this
    refine ih (w + 1) _ ?_ ?_
    · have : W.drop (w + 1) = (W.drop w).drop 1 := by rw [List.drop_drop]
      rw [this, hd]; rfl
    · unfold lgS
      by_cases c : acc.2 < wd.length ∧ hB R a wd = true
      · rw [if_pos c]
        refine ⟨fun z => (by cases z), fun v hv => ?_⟩
        cases hv
        have := c.2
        unfold hB at this
        rw [Bool.and_eq_true, decide_eq_true_iff] at this
        exact ⟨wd, hw, rfl, this.1⟩
      · rw [if_neg c]; exact h
section MEAN
variable {N : Nat} {wso : Nat → Nat → Int32} {wsz book : Nat → Int32} {bz : Int32} {W : List (List Nat)}
theorem pX1_longestAt {n rs : Nat} {so : Nat → Int32} {R : List Nat} (hN : 200 < N) (hW : WR wso wsz bz book W) (hso : Rp so R) (hR8 : ∀ x ∈ R, x < 8) (hrs : R.length ≤ rs) (hrn : rs ≤ n) (hn : n < 1000) {a : Nat} (ha : a < 1000) :
    g_X1_longestAt N n wso wsz bz so (nI rs) (nI a) (nI R.length) = some (oI (lgT R a W 0 (none, 0)).1) := by
  obtain ⟨h8, rfl, h4, hw⟩ := hW
  unfold g_X1_longestAt
  suffices h : ∀ (m w : Nat), w + m = W.length → ∀ fu, m < fu → ∀ acc : Option Nat × Nat, acc.2 ≤ 4 → g_X1_longestAt_L9 N n wso wsz (nI W.length) so (nI rs) fu (nI a) (nI R.length) (oI acc.1) (nI acc.2) (nI w) = some (oI (lgT R a (W.drop w) w acc).1) by
    have := h W.length 0 (by omega) N (by omega) (none, 0) (by show 0 ≤ 4; omega)
    rw [List.drop_zero] at this
    exact this
  intro m
  induction m with
  | zero =>
    intro w hwm fu hfu acc hacc
    obtain ⟨fv, rfl⟩ : ∃ fv, fu = fv + 1 := ⟨fu - 1, by omega⟩
    have : w = W.length := by omega
    subst this
    unfold g_X1_longestAt_L9
    rw [if_pos ((nle (by omega) (by omega)).mpr (Nat.le_refl _)), List.drop_length]
    rfl
  | succ m ih =>
    intro w hwm fu hfu acc hacc
    obtain ⟨fv, rfl⟩ : ∃ fv, fu = fv + 1 := ⟨fu - 1, by omega⟩
    obtain ⟨wd, hwd⟩ : ∃ wd, W[w]? = some wd := ⟨_, List.getElem?_eq_getElem (by omega)⟩
    obtain ⟨⟨b1, b2⟩, b3, b4, b5⟩ := hw w wd hwd
    have ih' := ih (w + 1) (by omega) fv (by omega)
    have hdr : lgT R a (W.drop w) w acc = lgT R a (W.drop (w + 1)) (w + 1) (lgS R a acc w wd) := by rw [drop_cons hwd]; rfl
    have hws : Rp (wso w) wd := fun k x hk => (b5 k x hk).2.1
    have hw8 : ∀ x ∈ wd, x < 8 := fun x hx => by
      obtain ⟨k, hk⟩ := List.getElem?_of_mem hx
      exact (b5 k x hk).1
    unfold g_X1_longestAt_L9
    rw [if_neg (by rw [nle (by omega) (by omega)]; omega), gi_nI (by omega) (by omega), gi_nI (by omega) (by omega), gi_nI (by omega) (by omega), nc (by omega), b3, pX5_holdsAt hso hws hR8 hw8 hrs hrn hn b2 (by omega) hN (by omega) ha, hdr]
    unfold g_X1_longestAt_b65 lgS
    rw [nI_1]
    by_cases c : acc.2 < wd.length
    · rw [if_neg (by rw [nle (by omega) (by omega)]; omega)]
      cases hb : hB R a wd with
      | true =>
        simp only [Option.bind_some, if_true, c, and_self]
        rw [if_neg (show ¬ (1 : Int32) = 0 by decide)]
        exact ih' (some w, wd.length) b2
      | false =>
        simp only [Option.bind_some, if_true, c, and_false, if_false, Bool.false_eq_true]
        exact ih' acc hacc
    · rw [if_pos ((nle (by omega) (by omega)).mpr (by omega)), if_neg (fun z => c z.1)]
      exact ih' acc hacc
theorem mg_words {s pl so mi wh ih gb st : Nat → Int32} {many sz x3 : Int32} {R : List Nat} {kk : (Nat → Int32) → (Nat → Int32) → (Nat → Int32) → (Nat → Int32) → (Nat → Int32) → (Nat → Int32) → (Nat → Int32) → Int32 → Int32 → Int32 → Int32 → Int32 → Int32 → Int32 → Int32 → Option (Int32 × (Nat → Int32) × (Nat → Int32) × (Nat → Int32) × (Nat → Int32) × (Nat → Int32) × (Nat → Int32) × (Nat → Int32) × Int32 × Int32)} {x6 : Int32} (hN : 200 < N) (hW : WR wso wsz bz book W) (hst : MS st so R) (hR8 : ∀ x ∈ R, x < 8) (hRl : R.length ≤ 100) {a : Nat} (ha : a < 1000) :
    g_X12_meaning_L57 N book s kk N pl so mi wh ih gb st many sz x3 (nI R.length) (nI a) x6 (-4) 0 0 = kk pl so mi wh ih gb st many sz x3 (nI R.length) (nI a) x6 (oM (lgT R a W 0 (none, 0)).1) (nI (lgT R a W 0 (none, 0)).2) := by
  obtain ⟨h8, rfl, h4, hw⟩ := hW
  suffices h : ∀ (m w : Nat), w + m = W.length → ∀ fu, m < fu → ∀ acc : Option Nat × Nat, acc.2 ≤ 4 → g_X12_meaning_L57 N book s kk fu pl so mi wh ih gb st many sz x3 (nI R.length) (nI a) x6 (oM acc.1) (nI acc.2) (nI w) = kk pl so mi wh ih gb st many sz x3 (nI R.length) (nI a) x6 (oM (lgT R a (W.drop w) w acc).1) (nI (lgT R a (W.drop w) w acc).2) by
    have := h W.length 0 (by omega) N (by omega) (none, 0) (by show 0 ≤ 4; omega)
    rw [List.drop_zero] at this
    exact this
  intro m
  induction m with
  | zero =>
    intro w hwm fu hfu acc hacc
    obtain ⟨fv, rfl⟩ : ∃ fv, fu = fv + 1 := ⟨fu - 1, by omega⟩
    have : w = W.length := by omega
    subst this
    unfold g_X12_meaning_L57
    rw [show (4 : Int32).toNatClampNeg = 4 from rfl, h4, l4, gi_nI (by omega) (by omega), if_pos ((nle (by omega) (by omega)).mpr (Nat.le_refl _)), List.drop_length]
    rfl
  | succ m ihm =>
    intro w hwm fu hfu acc hacc
    obtain ⟨fv, rfl⟩ : ∃ fv, fu = fv + 1 := ⟨fu - 1, by omega⟩
    obtain ⟨wd, hwd⟩ : ∃ wd, W[w]? = some wd := ⟨_, List.getElem?_eq_getElem (by omega)⟩
    obtain ⟨⟨b1, b2⟩, b3, b4, b5⟩ := hw w wd hwd
    have ih' := ihm (w + 1) (by omega) fv (by omega)
    have hdr : lgT R a (W.drop w) w acc = lgT R a (W.drop (w + 1)) (w + 1) (lgS R a acc w wd) := by rw [drop_cons hwd]; rfl
    have hw8 : ∀ x ∈ wd, x < 8 := fun x hx => by
      obtain ⟨k, hk⟩ := List.getElem?_of_mem hx
      exact (b5 k x hk).1
    have hnx := pX12_isNext (N := N) (w := w) hst hR8 hw8 (by omega) b4 (fun k x hk => (b5 k x hk).2.2) b2 hRl hN ha
    have e30 : 30 + nI w = nI (30 + w) := by rw [l30, nI_add]
    unfold g_X12_meaning_L57
    rw [show (4 : Int32).toNatClampNeg = 4 from rfl, h4, l4, gi_nI (by omega) (by omega), if_neg (by rw [nle (by omega) (by omega)]; omega), e30, gi_nI (by omega) (by omega), nc (by omega), b4, hnx, hdr]
    unfold g_X12_meaning_b100 g_X12_meaning_b101 g_X12_meaning_b115 g_X12_meaning_b137 lgS
    rw [nI_1, e30, nc (by omega), b4]
    by_cases c : acc.2 < wd.length
    · rw [if_neg (by rw [nle (by omega) (by omega)]; omega)]
      cases hb : hB R a wd with
      | true =>
        simp only [Option.bind_some, if_true, c, and_self]
        rw [if_neg (show ¬ (1 : Int32) = 0 by decide), if_neg (show ¬ (1 : Int32) = 0 by decide), if_neg (show ¬ (1 : Int32) = 0 by decide), gi_nI (by omega) (by omega)]
        exact ih' (some w, wd.length) b2
      | false =>
        simp only [Option.bind_some, if_true, c, and_false, if_false, Bool.false_eq_true]
        exact ih' acc hacc
    · rw [if_pos ((nle (by omega) (by omega)).mpr (by omega)), if_neg (show ¬ (acc.2 < wd.length ∧ hB R a wd = true) from fun z => c z.1)]
      simp only [eq_self, if_true]
      exact ih' acc hacc
theorem mg_read {n rs : Nat} {s pl so mi wh ih gb st : Nat → Int32} {many sz x3 : Int32} {cs : Nat → Int32} {R : List Nat} (hN : 200 < N) (hW : WR wso wsz bz book W) (hst : MS st so R) (hso : Rp cs R) (hR8 : ∀ x ∈ R, x < 8) (hrs : R.length ≤ rs) (hrn : rs ≤ n) (hn : n < 1000) (hRl : R.length ≤ 100) :
    ∀ (m a rd : Nat), R.length ≤ a + m → a ≤ R.length → rd ≤ a → ∀ (fu1 fu2 : Nat), m < fu1 → m < fu2 → ∃ v w, g_X1_wordRead_L9 N n wso wsz bz cs (nI rs) fu1 (nI R.length) x3 (nI rd) (nI a) = some v ∧ g_X12_meaning_L40 N book s fu2 pl so mi wh ih gb st many sz x3 (nI R.length) (nI a) (nI rd) = some w ∧ v = w.1 := by
  intro m
  induction m with
  | zero =>
    intro a rd h1 h2 h3 fu1 fu2 hf1 hf2
    obtain ⟨f1, rfl⟩ : ∃ f, fu1 = f + 1 := ⟨fu1 - 1, by omega⟩
    obtain ⟨f2, rfl⟩ : ∃ f, fu2 = f + 1 := ⟨fu2 - 1, by omega⟩
    unfold g_X1_wordRead_L9 g_X12_meaning_L40
    rw [if_pos ((nle (by omega) (by omega)).mpr (by omega)), if_pos ((nle (by omega) (by omega)).mpr (by omega))]
    exact ⟨_, _, rfl, rfl, rfl⟩
  | succ m ihm =>
    intro a rd h1 h2 h3 fu1 fu2 hf1 hf2
    obtain ⟨f1, rfl⟩ : ∃ f, fu1 = f + 1 := ⟨fu1 - 1, by omega⟩
    obtain ⟨f2, rfl⟩ : ∃ f, fu2 = f + 1 := ⟨fu2 - 1, by omega⟩
    unfold g_X1_wordRead_L9 g_X12_meaning_L40
    by_cases c : R.length ≤ a
    · rw [if_pos ((nle (by omega) (by omega)).mpr c), if_pos ((nle (by omega) (by omega)).mpr c)]
      exact ⟨_, _, rfl, rfl, rfl⟩
    · rw [if_neg (fun z => c ((nle (by omega) (by omega)).mp z)), if_neg (fun z => c ((nle (by omega) (by omega)).mp z)), pX1_longestAt hN hW hso hR8 hrs hrn hn (by omega), mg_words hN hW hst hR8 hRl (by omega)]
      have hok := lgT_ok (R := R) (a := a) (W := W) W 0 (none, 0) rfl ⟨fun _ => rfl, fun w hw => by cases hw⟩
      generalize lgT R a W 0 (none, 0) = r at hok ⊢
      obtain ⟨r1, r2⟩ := r
      unfold g_X12_meaning_b145 g_X12_meaning_b161 g_X12_meaning_b175 g_X12_meaning_b193 g_X1_wordRead_b61
      simp only [Option.bind_some]
      cases r1 with
      | none =>
        rw [if_pos (show oI none < 0 by decide), if_pos (show oM none = -4 from rfl), if_pos (show oM none = -4 from rfl), if_pos (show oM none = -4 from rfl), nI_1, Int32.add_zero]
        exact ihm (a + 1) rd (by omega) (by omega) (by omega) f1 f2 (by omega) (by omega)
      | some w =>
        obtain ⟨l, hl, e2, e3⟩ := hok.2 w rfl
        have hw := hW.2.2.2 w l hl
        have hwl : w < W.length := (List.getElem?_eq_some_iff.mp hl).1
        have h8 := hW.1
        obtain ⟨o1, o2⟩ := oM_some_nonneg (k := w) (by omega)
        rw [if_neg (show ¬ oI (some w) < 0 from nI_pos (by omega)), if_neg o1, if_neg o1, if_neg o1]
        show ∃ v w', (if nI rd = x3 then some (nI w) else gi (nI w) 8 _) = some v ∧ _
        by_cases c2 : nI rd = x3
        · rw [if_pos c2, if_pos c2]
          exact ⟨_, _, rfl, rfl, rfl⟩
        · simp only at e2
          rw [if_neg c2, if_neg c2, gi_nI (by omega) (by omega), show oI (some w) = nI w from rfl, nc (by omega), hw.2.1, e2, nI_1]
          have e4 : (if (1 : Int32) < nI l.length then nI l.length else 1) = nI l.length := by
            by_cases z : 1 < l.length
            · rw [if_pos (by rw [l1, nlt (by omega) (by omega)]; omega)]
            · rw [if_neg (by rw [l1, nlt (by omega) (by omega)]; omega), show l.length = 1 by omega]; rfl
          rw [e4, nI_add]
          exact ihm (a + l.length) (rd + 1) (by omega) (by omega) (by omega) f1 f2 (by omega) (by omega)
end MEAN
theorem t_meaning {N P S H law now : Nat} {mi book bp bs bm s : Nat → Int32} {d : Nat → Nat → Nat} {B : List Be} {wso : Nat → Nat → Int32} {wsz : Nat → Int32} {bz : Int32} {W : List (List Nat)} (hN : 200 < N) (hh : HOk P S H law mi book d) (hW : WR wso wsz bz book W) (hBR : BR bp bs bm B) (hs : SR s B now) (hB : BOk P B now) (qs qd qh so ma he : Nat → Int32) (qz rz rn : Int32) (pl so2 mi2 wh ih gb st : Nat → Int32) (many sz : Int32) (x1 x2 x3 : Int32) :
    ∃ v w, g_X11_meaning N wso wsz bz (nI P) (nI H) (nI law) mi bp bs bm (nI B.length) qs qd qh qz so ma rz he rn x1 x2 x3 = some v ∧ g_X12_meaning N book s pl so2 mi2 wh ih gb st many sz x1 x2 x3 = some w ∧ v.1 = w.1 := by
  have hh' := hh
  obtain ⟨⟨hP1, hP⟩, ⟨hS1, hS⟩, ⟨hH1, hH⟩, hlaw, hdr, hdb, hd0, k0, k1, k2, k3⟩ := hh'
  unfold g_X11_meaning g_X12_meaning
  rw [pX2_isPlace, pX12_isPlace N P book (by omega) (by omega) k0, pX11_isMinute, pX12_isMinute]
  cases hx1 : ixB x1 P with
  | false => exact ⟨_, _, rfl, rfl, rfl⟩
  | true =>
    cases hx2 : ixB x2 10000 with
    | false => exact ⟨_, _, rfl, rfl, rfl⟩
    | true =>
      obtain ⟨p, hp, rfl⟩ := (ixB_iff (by omega)).mp hx1
      obtain ⟨t, ht, rfl⟩ := (ixB_iff (by omega)).mp hx2
      simp only [Option.bind_some, if_true]
      rw [if_neg (show ¬ (1 : Int32) = 0 by decide), if_neg (show ¬ (1 : Int32) = 0 by decide), if_neg (show ¬ (1 : Int32) = 0 by decide), if_neg (show ¬ (1 : Int32) = 0 by decide)]
      by_cases c : (0 : Int32) ≤ x3
      · obtain ⟨v, w, st', h1, h2, h3, h4, h5, h6, h7, h8⟩ := said_both (N := N) hN hh hBR hs hB hp ht qs qd qh so ma he qz rz rn pl so2 mi2 wh ih gb st many sz
        have hlen := stdB_len hB law H d p t
        have h24 := hB.1
        have hsl : (saidB law H d p B t).length ≤ (stdB law H d p B t).length := List.length_filter_le _ _
        rw [if_pos c, if_pos c, h1, h2]
        simp only [Option.bind_some]
        rw [h3, h4]
        simp only [Option.bind_some]
        have hmap : ((saidB law H d p B t).map (bS B)).length = (saidB law H d p B t).length := List.length_map _
        have hmem : ∀ i ∈ saidB law H d p B t, i < B.length := fun i hi => (stdB_mem hB ((List.mem_filter.mp hi).1)).1
        have hms : MS st' w.2.1 ((saidB law H d p B t).map (bS B)) := by
          intro k x hk
          rw [List.getElem?_map] at hk
          cases hi : (saidB law H d p B t)[k]? with
          | none => rw [hi] at hk; cases hk
          | some i =>
            rw [hi] at hk
            cases hk
            have := hmem i (List.mem_of_getElem? hi)
            exact ⟨i, by omega, h7 k i hi, h8 i this⟩
        have hcs : Rp v.2.2.2.2.1 ((saidB law H d p B t).map (bS B)) := by
          intro k x hk
          rw [List.getElem?_map] at hk
          cases hi : (saidB law H d p B t)[k]? with
          | none => rw [hi] at hk; cases hk
          | some i =>
            rw [hi] at hk
            cases hk
            refine h6 k i ?_
            have e := saidB_tw hB law H d p t
            rw [← e] at hi
            have hpre := List.takeWhile_prefix (l := stdB law H d p B t) (fun i => decide (bW d p B i + H ≤ t))
            obtain ⟨r, hr⟩ := hpre
            have hkl := (List.getElem?_eq_some_iff.mp hi).1
            rw [← hr, List.getElem?_append_left hkl]
            exact hi
        have h8' : ∀ x ∈ (saidB law H d p B t).map (bS B), x < 8 := fun x hx => by
          obtain ⟨i, hi, rfl⟩ := List.mem_map.mp hx
          exact (hB.at (hmem i hi)).2.1
        obtain ⟨v', w', e1, e2, e3⟩ := mg_read (N := N) (n := 99) (rs := (stdB law H d p B t).length) (s := s) (pl := w.1) (so := w.2.1) (mi := w.2.2.1) (wh := w.2.2.2.1) (ih := w.2.2.2.2.1) (gb := w.2.2.2.2.2.1) (st := st') (many := w.2.2.2.2.2.2.2.1) (sz := w.2.2.2.2.2.2.2.2) (x3 := x3) hN hW hms hcs h8' (by omega) (by omega) (by omega) (by omega) (saidB law H d p B t).length 0 0 (by omega) (by omega) (by omega) N N (by omega) (by omega)
        rw [hmap] at e1 e2
        unfold g_X1_wordRead
        rw [h5]
        have e1' : g_X1_wordRead_L9 N 99 wso wsz bz v.2.2.2.2.1 (nI (stdB law H d p B t).length) N (nI (saidB law H d p B t).length) x3 0 0 = some v' := e1
        have e2' : g_X12_meaning_L40 N book s N w.1 w.2.1 w.2.2.1 w.2.2.2.1 w.2.2.2.2.1 w.2.2.2.2.2.1 st' w.2.2.2.2.2.2.2.1 w.2.2.2.2.2.2.2.2 x3 (nI (saidB law H d p B t).length) 0 0 = some w' := e2
        rw [e1', e2']
        exact ⟨_, _, rfl, rfl, e3⟩
      · rw [if_neg c, if_neg c]; exact ⟨_, _, rfl, rfl, rfl⟩
