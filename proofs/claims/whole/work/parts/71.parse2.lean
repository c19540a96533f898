/-! ===== reading the text: words ===== -/
/-- the figures of a word, at most k of them, from a on -/
def figs (T : List Nat) : Nat → Nat → List Nat
  | 0, _ => []
  | k + 1, a => match fig T a 8 with
    | none => []
    | some v => v :: figs T k (a + 1)
theorem figs_ok {T : List Nat} : ∀ {k a : Nat}, a ≤ T.length → (figs T k a).length ≤ k ∧ (∀ x ∈ figs T k a, x < 8) ∧ a + (figs T k a).length ≤ T.length := by
  intro k
  induction k with
  | zero => intro a ha; exact ⟨Nat.le_refl _, fun x hx => by simp [figs] at hx, by simp [figs]; omega⟩
  | succ k ih =>
    intro a ha
    unfold figs
    cases h : fig T a 8 with
    | none => exact ⟨by simp, fun x hx => by simp at hx, by simp; omega⟩
    | some v =>
      have f1 := fig_lt h
      obtain ⟨h1, h2, h3⟩ := ih (a := a + 1) (by omega)
      refine ⟨by dsimp only; rw [List.length_cons]; omega, fun x hx => ?_, by dsimp only; rw [List.length_cons]; omega⟩
      rcases List.mem_cons.mp hx with z | z
      · omega
      · exact h2 x z
theorem Rp.snoc {f : Nat → Int32} {l : List Nat} (h : Rp f l) (v : Nat) : Rp (upd f l.length (nI v)) (l ++ [v]) := h.push v
section PWORD
variable {N : Nat} {bt tx : Nat → Int32} {T : List Nat}
theorem rw_loop (hT : TxR bt tx T) : ∀ (k : Nat) (L : List Nat), L.length + k = 4 → ∀ fu, k < fu → ∀ (a : Nat), a ≤ T.length → ∀ (ds : AI), Rp ds L → ∃ ds', g_X4_readsWord_L10 N bt (nI T.length) (g_X4_readsWord_b26 N bt (nI T.length)) (g_X4_readsWord_b44 N bt (nI T.length)) fu ds (nI L.length) (nI a) (nI L.length) = g_X4_readsWord_b44 N bt (nI T.length) ds' (nI (L ++ figs T k a).length) (nI (a + (figs T k a).length)) ∧ Rp ds' (L ++ figs T k a) := by
  have hl := hT.1
  intro k
  induction k with
  | zero =>
    intro L hL fu hfu a ha ds hd
    obtain ⟨fv, rfl⟩ : ∃ fv, fu = fv + 1 := ⟨fu - 1, by omega⟩
    unfold g_X4_readsWord_L10 figs
    rw [if_pos (by rw [l4, nle (by omega) (by omega)]; omega), List.append_nil]
    exact ⟨ds, rfl, hd⟩
  | succ k ih =>
    intro L hL fu hfu a ha ds hd
    obtain ⟨fv, rfl⟩ : ∃ fv, fu = fv + 1 := ⟨fu - 1, by omega⟩
    unfold g_X4_readsWord_L10 figs
    rw [if_neg (by rw [l4, nle (by omega) (by omega)]; omega), l8]
    cases h : fig T a 8 with
    | none =>
      rw [tf_none hT ha (by omega) h]
      simp only [Option.bind_some]
      rw [if_neg (by decide)]
      unfold g_X4_readsWord_b26
      rw [List.append_nil]
      exact ⟨ds, rfl, hd⟩
    | some v =>
      have f1 := fig_lt h
      obtain ⟨ds', h1, h2⟩ := ih (L ++ [v]) (by rw [List.length_append, List.length_singleton]; omega) fv (by omega) (a + 1) (by omega) (upd ds L.length (nI v)) (hd.snoc v)
      rw [List.length_append, List.length_singleton, List.append_assoc, List.singleton_append] at h1
      rw [List.append_assoc, List.singleton_append] at h2
      rw [tf_some hT (by omega) h]
      simp only [Option.bind_some]
      rw [if_pos (nI_pos' (by omega))]
      have ha7 : g_X7_append N 4 ds (nI L.length) (nI v) = some (1, upd ds L.length (nI v), nI (L.length + 1)) := by
        unfold g_X7_append
        rw [if_pos ((nlt (by omega) (by omega)).mpr (by omega)), gi_nI (by omega) (by omega), nc (by omega), nI_1]
      rw [ha7]
      simp only [Option.bind_some]
      rw [nI_1, h1]
      refine ⟨ds', ?_, h2⟩
      rw [List.length_cons, show a + 1 + (figs T k (a + 1)).length = a + ((figs T k (a + 1)).length + 1) by omega]
theorem pX4_readsWord (hN : 20 < N) (hT : TxR bt tx T) {a : Nat} (ha : a ≤ T.length) (ds : AI) (dz : Int32) : ∃ v, g_X4_readsWord N bt (nI T.length) ds dz (nI a) = some v ∧ (¬ (1 ≤ (figs T 4 a).length ∧ T[a + (figs T 4 a).length]? = some 59) → v.1 = 0) ∧ (1 ≤ (figs T 4 a).length ∧ T[a + (figs T 4 a).length]? = some 59 → v.1 = 1 ∧ Rp v.2.1 (figs T 4 a) ∧ v.2.2.1 = nI (figs T 4 a).length ∧ v.2.2.2 = nI (a + (figs T 4 a).length + 1)) := by
  have hl := hT.1
  obtain ⟨f1, f2, f3⟩ := figs_ok (k := 4) ha
  obtain ⟨ds', h1, h2⟩ := rw_loop (N := N) hT 4 [] rfl N (by omega) a ha ds (fun j x hj => by simp at hj)
  rw [List.nil_append] at h1 h2
  have h1' : g_X4_readsWord_L10 N bt (nI T.length) (g_X4_readsWord_b26 N bt (nI T.length)) (g_X4_readsWord_b44 N bt (nI T.length)) N ds 0 (nI a) 0 = _ := h1
  unfold g_X4_readsWord
  rw [h1']
  unfold g_X4_readsWord_b44
  by_cases c : 1 ≤ (figs T 4 a).length
  · rw [if_neg (by rw [l0, nle (by omega) (by omega)]; omega)]
    by_cases y : T[a + (figs T 4 a).length]? = some 59
    · have := ts_yes (N := N) hT (by omega) y
      have e1 : g_X4_takesSign N bt (nI T.length) (nI (a + (figs T 4 a).length)) 59 = _ := this
      rw [e1]
      simp only [Option.bind_some]
      rw [if_neg (show ¬ (1 : Int32) = 0 by decide)]
      exact ⟨_, rfl, fun h => absurd ⟨c, y⟩ h, fun _ => ⟨rfl, h2, rfl, rfl⟩⟩
    · have := ts_no (N := N) hT f3 (by omega) y
      have e1 : g_X4_takesSign N bt (nI T.length) (nI (a + (figs T 4 a).length)) 59 = _ := this
      rw [e1]
      simp only [Option.bind_some]
      rw [if_pos trivial]
      exact ⟨_, rfl, fun _ => rfl, fun h => absurd h.2 y⟩
  · rw [if_pos (by rw [l0, nle (by omega) (by omega)]; omega)]
    exact ⟨_, rfl, fun _ => rfl, fun h => absurd h.1 c⟩
theorem pX7_sameAs (hN : 20 < N) {f g : AI} {l m : List Nat} (hf : Rp f l) (hg : Rp g m) (hl8 : ∀ x ∈ l, x < 8) (hm8 : ∀ x ∈ m, x < 8) (hl4 : l.length ≤ 4) (hm4 : m.length ≤ 4) : g_X7_sameAs N 4 4 f (nI l.length) g (nI m.length) = some (bI (decide (l = m))) := by
  unfold g_X7_sameAs
  by_cases c : l.length = m.length
  · rw [if_pos (by rw [c])]
    have h : ∀ (t j : Nat), j + t = l.length → ∀ fu, t < fu → g_X7_sameAs_L15 N 4 4 f (nI l.length) g (nI m.length) fu (nI j) = some (bI (decide (l.drop j = m.drop j))) := by
      intro t
      induction t with
      | zero =>
        intro j hj fu hfu
        obtain ⟨fv, rfl⟩ : ∃ fv, fu = fv + 1 := ⟨fu - 1, by omega⟩
        unfold g_X7_sameAs_L15
        rw [if_pos ((nle (by omega) (by omega)).mpr (by omega)), List.drop_eq_nil_of_le (by omega), List.drop_eq_nil_of_le (by omega), decide_eq_true rfl]
        rfl
      | succ t ih =>
        intro j hj fu hfu
        obtain ⟨fv, rfl⟩ : ∃ fv, fu = fv + 1 := ⟨fu - 1, by omega⟩
        obtain ⟨x, hx⟩ : ∃ x, l[j]? = some x := ⟨_, List.getElem?_eq_getElem (by omega)⟩
        obtain ⟨y, hy⟩ : ∃ y, m[j]? = some y := ⟨_, List.getElem?_eq_getElem (by omega)⟩
        have x8 := hl8 x (List.mem_of_getElem? hx)
        have y8 := hm8 y (List.mem_of_getElem? hy)
        unfold g_X7_sameAs_L15
        rw [if_neg (by rw [nle (by omega) (by omega)]; omega), gi_nI (by omega) (by omega), gi_nI (by omega) (by omega), nc (by omega), hf j x hx, hg j y hy, drop_cons hx, drop_cons hy, nI_1, ih (j + 1) (by omega) fv (by omega)]
        by_cases e : x = y
        · subst e
          rw [if_pos rfl]
          simp
        · rw [if_neg (fun z => e ((neq (by omega) (by omega)).mp z)), decide_eq_false (fun z => e (List.cons.inj z).1)]
          rfl
    have h1 := h l.length 0 (by omega) N (by omega)
    rw [List.drop_zero, List.drop_zero] at h1
    exact h1
  · rw [if_neg (fun z => c ((neq (by omega) (by omega)).mp z)), decide_eq_false (fun z => c (by rw [z]))]
    rfl
/-- words of the class's book alone -/
def WC (wso : Nat → Nat → Int32) (wsz : Nat → Int32) (W : List (List Nat)) : Prop := ∀ (w : Nat) (l : List Nat), W[w]? = some l → (1 ≤ l.length ∧ l.length ≤ 4) ∧ wsz w = nI l.length ∧ Rp (wso w) l ∧ ∀ x ∈ l, x < 8
theorem pX1_append (hN : 20 < N) {wso : Nat → Nat → Int32} {wsz : Nat → Int32} {W : List (List Nat)} (hW : WC wso wsz W) (h8 : W.length ≤ 8) {g : AI} {m : List Nat} (hg : Rp g m) (hm8 : ∀ x ∈ m, x < 8) (hm1 : 1 ≤ m.length) (hm4 : m.length ≤ 4) : ∃ v, g_X1_append N 4 g (nI m.length) wso wsz (nI W.length) = some v ∧ (W.length = 8 ∨ m ∈ W → v.1 = 0) ∧ (W.length < 8 → ¬ m ∈ W → v.1 = 1 ∧ WC v.2.1 v.2.2.1 (W ++ [m]) ∧ v.2.2.2 = nI (W ++ [m]).length) := by
  unfold g_X1_append
  by_cases c : W.length < 8
  · rw [if_pos (by rw [l8, nlt (by omega) (by omega)]; exact c)]
    have h : ∀ (t j : Nat), j + t = W.length → ∀ fu, t < fu → g_X1_append_L13 N 4 g (nI m.length) (g_X1_append_b42 N 4 g (nI m.length)) fu wso wsz (nI W.length) (nI j) = if m ∈ W.drop j then some (0, wso, wsz, nI W.length) else g_X1_append_b42 N 4 g (nI m.length) wso wsz (nI W.length) := by
      intro t
      induction t with
      | zero =>
        intro j hj fu hfu
        obtain ⟨fv, rfl⟩ : ∃ fv, fu = fv + 1 := ⟨fu - 1, by omega⟩
        unfold g_X1_append_L13
        rw [if_pos ((nle (by omega) (by omega)).mpr (by omega)), List.drop_eq_nil_of_le (by omega), if_neg (by simp)]
      | succ t ih =>
        intro j hj fu hfu
        obtain ⟨fv, rfl⟩ : ∃ fv, fu = fv + 1 := ⟨fu - 1, by omega⟩
        obtain ⟨l, hl⟩ : ∃ x, W[j]? = some x := ⟨_, List.getElem?_eq_getElem (by omega)⟩
        obtain ⟨⟨w1, w2⟩, w3, w4, w5⟩ := hW j l hl
        unfold g_X1_append_L13
        rw [if_neg (by rw [nle (by omega) (by omega)]; omega), gi_nI (by omega) (by omega), nc (by omega), w3, pX7_sameAs hN w4 hg w5 hm8 w2 hm4, drop_cons hl]
        simp only [Option.bind_some]
        by_cases e : l = m
        · rw [decide_eq_true e, if_neg (show ¬ bI true = 0 by decide), if_pos (by rw [e]; exact List.mem_cons_self)]
        · rw [decide_eq_false e, if_pos (show bI false = 0 from rfl), nI_1, ih (j + 1) (by omega) fv (by omega)]
          have h1 : m ∈ l :: W.drop (j + 1) ↔ m ∈ W.drop (j + 1) := by
            rw [List.mem_cons]
            exact ⟨fun z => z.resolve_left (fun y => e y.symm), Or.inr⟩
          by_cases y : m ∈ W.drop (j + 1)
          · rw [if_pos y, if_pos (h1.mpr y)]
          · rw [if_neg y, if_neg (fun z => y (h1.mp z))]
    have h1 := h W.length 0 (by omega) N (by omega)
    have h1' : g_X1_append_L13 N 4 g (nI m.length) (g_X1_append_b42 N 4 g (nI m.length)) N wso wsz (nI W.length) 0 = _ := h1
    rw [h1', List.drop_zero]
    by_cases y : m ∈ W
    · rw [if_pos y]
      exact ⟨_, rfl, fun _ => rfl, fun _ z => absurd y z⟩
    · rw [if_neg y]
      unfold g_X1_append_b42
      obtain ⟨f', c1, c2⟩ := pX7_copyFrom (N := N) (n := 4) (m := 4) hg hm4 hm4 (by omega) (by omega) (by omega) (wso W.length) (wsz W.length)
      rw [gi_nI (by omega) (by omega), nc (by omega), c1]
      simp only [Option.bind_some]
      refine ⟨_, rfl, fun z => z.elim (fun q => by omega) (fun q => absurd q y), fun _ _ => ⟨rfl, fun w l hl => ?_, ?_⟩⟩
      · unfold va_up
        by_cases e : w = W.length
        · subst e
          rw [List.getElem?_append_right (Nat.le_refl _), Nat.sub_self, List.getElem?_cons_zero] at hl
          cases hl
          simp only [if_true]
          exact ⟨⟨hm1, hm4⟩, trivial, c2, hm8⟩
        · simp only [e, if_false]
          refine hW w l ?_
          have hw := (List.getElem?_eq_some_iff.mp hl).1
          rw [List.length_append, List.length_singleton] at hw
          rw [List.getElem?_append_left (by omega)] at hl
          exact hl
      · rw [nI_1, List.length_append, List.length_singleton]
  · rw [if_neg (by rw [l8, nlt (by omega) (by omega)]; exact c)]
    exact ⟨_, rfl, fun _ => rfl, fun z => absurd z c⟩
/-- words in the reference's draft alone -/
def WD (draft : Nat → Int32) (W : List (List Nat)) : Prop := ∀ (w : Nat) (l : List Nat), W[w]? = some l → draft (30 + w) = nI l.length ∧ ∀ (k x : Nat), l[k]? = some x → draft (38 + 4 * w + k) = nI x
theorem tw_in {draft : AI} {i w : Nat} {l m : List Nat} (hi : i < 8) (hw : w < 8) (hl : ∀ k x, l[k]? = some x → draft (38 + 4 * i + k) = nI x) (hm : ∀ k x, m[k]? = some x → draft (38 + 4 * w + k) = nI x) (hmz : draft (30 + w) = nI m.length) (hl8 : ∀ x ∈ l, x < 8) (hm8 : ∀ x ∈ m, x < 8) (hm4 : m.length ≤ 4) (x2 : Int32) (kk : Int32 → Int32 → Int32 → Int32 → Option Int32) (hN : 20 < N) :
    g_X12_isTwice_L40 N draft kk N (nI w) x2 (nI i) (bI (decide (l.length = m.length))) 0 = kk (nI w) x2 (nI i) (bI (decide (l = m))) := by
  have e30 : 30 + nI w = nI (30 + w) := by rw [l30, nI_add]
  have e38 : ∀ i : Nat, 38 + 4 * nI i = nI (38 + 4 * i) := fun i => by rw [l38, l4, pk_mul, nI_add]
  have hz : ∀ t j, j + t = m.length → ∀ fu, t < fu → g_X12_isTwice_L40 N draft kk fu (nI w) x2 (nI i) (bI false) (nI j) = kk (nI w) x2 (nI i) (bI false) := by
    intro t
    induction t with
    | zero =>
      intro j hj fu hfu
      obtain ⟨fv, rfl⟩ : ∃ fv, fu = fv + 1 := ⟨fu - 1, by omega⟩
      unfold g_X12_isTwice_L40
      rw [e30, gi_nI (by omega) (by omega), nc (by omega), hmz, if_pos ((nle (by omega) (by omega)).mpr (by omega))]
    | succ t ih =>
      intro j hj fu hfu
      obtain ⟨fv, rfl⟩ : ∃ fv, fu = fv + 1 := ⟨fu - 1, by omega⟩
      unfold g_X12_isTwice_L40
      rw [e30, gi_nI (by omega) (by omega), nc (by omega), hmz, if_neg (by rw [nle (by omega) (by omega)]; omega), if_pos (show bI false = 0 from rfl)]
      unfold g_X12_isTwice_b94 g_X12_isTwice_b95
      rw [nI_1]
      exact ih (j + 1) (by omega) fv (by omega)
  by_cases c : l.length = m.length
  · rw [decide_eq_true c]
    have h : ∀ (t j : Nat), j + t = m.length → ∀ fu, t < fu → g_X12_isTwice_L40 N draft kk fu (nI w) x2 (nI i) (bI true) (nI j) = kk (nI w) x2 (nI i) (bI (decide (l.drop j = m.drop j))) := by
      intro t
      induction t with
      | zero =>
        intro j hj fu hfu
        obtain ⟨fv, rfl⟩ : ∃ fv, fu = fv + 1 := ⟨fu - 1, by omega⟩
        unfold g_X12_isTwice_L40
        rw [e30, gi_nI (by omega) (by omega), nc (by omega), hmz, if_pos ((nle (by omega) (by omega)).mpr (by omega)), List.drop_eq_nil_of_le (by omega), List.drop_eq_nil_of_le (by omega), decide_eq_true rfl]
      | succ t ih =>
        intro j hj fu hfu
        obtain ⟨fv, rfl⟩ : ∃ fv, fu = fv + 1 := ⟨fu - 1, by omega⟩
        obtain ⟨x, hx⟩ : ∃ x, l[j]? = some x := ⟨_, List.getElem?_eq_getElem (by omega)⟩
        obtain ⟨y, hy⟩ : ∃ y, m[j]? = some y := ⟨_, List.getElem?_eq_getElem (by omega)⟩
        have x8 := hl8 x (List.mem_of_getElem? hx)
        have y8 := hm8 y (List.mem_of_getElem? hy)
        unfold g_X12_isTwice_L40
        rw [e30, gi_nI (by omega) (by omega), nc (by omega), hmz, if_neg (by rw [nle (by omega) (by omega)]; omega), if_neg (show ¬ bI true = 0 by decide), e38, e38, nI_add, nI_add, gi_nI (by omega) (by omega), gi_nI (by omega) (by omega), nc (by omega), nc (by omega), hl j x hx, hm j y hy, drop_cons hx, drop_cons hy]
        unfold g_X12_isTwice_b94 g_X12_isTwice_b95
        rw [nI_1]
        by_cases e : x = y
        · subst e
          rw [if_pos rfl]
          have h9 := ih (j + 1) (by omega) fv (by omega)
          have h9' : g_X12_isTwice_L40 N draft kk fv (nI w) x2 (nI i) 1 (nI (j + 1)) = _ := h9
          rw [h9']
          simp
        · rw [if_neg (fun z => e ((neq (by omega) (by omega)).mp z)), decide_eq_false (fun z => e (List.cons.inj z).1)]
          exact hz t (j + 1) (by omega) fv (by omega)
    have h1 := h m.length 0 (by omega) N (by omega)
    rw [List.drop_zero, List.drop_zero] at h1
    exact h1
  · rw [decide_eq_false c, decide_eq_false (fun z => c (by rw [z]))]
    exact hz m.length 0 (by omega) N (by omega)
theorem pX12_isTwice (hN : 20 < N) {draft : AI} {W : List (List Nat)} {m : List Nat} (hW : WD draft (W ++ [m])) (h8 : W.length < 8) (hW8 : ∀ l ∈ W, l.length ≤ 4 ∧ ∀ x ∈ l, x < 8) (hm8 : ∀ x ∈ m, x < 8) (hm4 : m.length ≤ 4) : g_X12_isTwice N draft (nI W.length) = some (bI (decide (m ∈ W))) := by
  have e30 : ∀ i : Nat, 30 + nI i = nI (30 + i) := fun i => by rw [l30, nI_add]
  obtain ⟨m1, m2⟩ := hW W.length m (by rw [List.getElem?_append_right (Nat.le_refl _), Nat.sub_self]; rfl)
  unfold g_X12_isTwice
  have h : ∀ (t j : Nat), j + t = W.length → ∀ fu, t < fu → ∀ b : Bool, g_X12_isTwice_L4 N draft fu (nI W.length) (bI b) (nI j) = some (bI (b || decide (m ∈ W.drop j))) := by
    intro t
    induction t with
    | zero =>
      intro j hj fu hfu b
      obtain ⟨fv, rfl⟩ : ∃ fv, fu = fv + 1 := ⟨fu - 1, by omega⟩
      unfold g_X12_isTwice_L4
      rw [if_pos ((nle (by omega) (by omega)).mpr (by omega)), List.drop_eq_nil_of_le (by omega), decide_eq_false (by simp), Bool.or_false, gb_bI]
    | succ t ih =>
      intro j hj fu hfu b
      obtain ⟨fv, rfl⟩ : ∃ fv, fu = fv + 1 := ⟨fu - 1, by omega⟩
      obtain ⟨l, hl⟩ : ∃ x, W[j]? = some x := ⟨_, List.getElem?_eq_getElem (by omega)⟩
      obtain ⟨w1, w2⟩ := hW j l (by rw [List.getElem?_append_left (by omega)]; exact hl)
      obtain ⟨w3, w4⟩ := hW8 l (List.mem_of_getElem? hl)
      have hin := tw_in (N := N) (show j < 8 by omega) h8 w2 m2 m1 w4 hm8 hm4 (bI b) (g_X12_isTwice_b103 N draft (g_X12_isTwice_L4 N draft fv)) hN
      unfold g_X12_isTwice_L4
      rw [if_neg (by rw [nle (by omega) (by omega)]; omega), e30, e30, gi_nI (by omega) (by omega), gi_nI (by omega) (by omega), nc (by omega), nc (by omega), w1, m1]
      unfold g_X12_isTwice_b35
      have hif : ∀ (F : Int32 → Option Int32), (if nI l.length = nI m.length then F 1 else F 0) = F (bI (decide (l.length = m.length))) := fun F => by
        by_cases z : l.length = m.length
        · rw [if_pos (by rw [z]), decide_eq_true z]; rfl
        · rw [if_neg (fun w => z ((neq (by omega) (by omega)).mp w)), decide_eq_false z]; rfl
      have hif' := hif (fun z => g_X12_isTwice_L40 N draft (g_X12_isTwice_b103 N draft (g_X12_isTwice_L4 N draft fv)) N (nI W.length) (bI b) (nI j) z 0)
      rw [hif', hin]
      unfold g_X12_isTwice_b103 g_X12_isTwice_b112 g_X12_isTwice_b117
      rw [drop_cons hl, nI_1]
      have e9 : ∀ r : Bool, (if bI b = 0 then (if bI r = 0 then g_X12_isTwice_L4 N draft fv (nI W.length) 0 (nI (j + 1)) else g_X12_isTwice_L4 N draft fv (nI W.length) 1 (nI (j + 1))) else g_X12_isTwice_L4 N draft fv (nI W.length) 1 (nI (j + 1))) = g_X12_isTwice_L4 N draft fv (nI W.length) (bI (b || r)) (nI (j + 1)) := fun r => by
        cases b <;> cases r <;> rfl
      rw [e9, ih (j + 1) (by omega) fv (by omega)]
      have h1 : decide (m ∈ l :: W.drop (j + 1)) = (decide (l = m) || decide (m ∈ W.drop (j + 1))) := by
        rw [Bool.eq_iff_iff, Bool.or_eq_true, decide_eq_true_iff, decide_eq_true_iff, decide_eq_true_iff, List.mem_cons]
        exact ⟨fun z => z.imp (fun y => y.symm) id, fun z => z.imp (fun y => y.symm) id⟩
      rw [h1, Bool.or_assoc]
  have h1 := h W.length 0 (by omega) N (by omega) false
  rw [Bool.false_or, List.drop_zero] at h1
  exact h1
/-- the reference's word: its loop -/
theorem wd_loop (hT : TxR bt tx T) {w : Nat} (hw : w < 8) (kk : AI → Int32 → Int32 → Int32 → Option (Int32 × AI × Int32)) : ∀ (k n : Nat), n + k = 4 → ∀ fu, k < fu → ∀ (a : Nat), a ≤ T.length → ∀ (draft : AI), ∃ draft', g_X12_words_L9 N tx (nI T.length) kk fu draft (nI a) (nI w) (nI n) = kk draft' (nI (a + (figs T k a).length)) (nI w) (nI (n + (figs T k a).length)) ∧ (∀ j x, (figs T k a)[j]? = some x → draft' (38 + 4 * w + n + j) = nI x) ∧ ∀ i, (i < 38 + 4 * w + n ∨ 38 + 4 * w + 4 ≤ i) → draft' i = draft i := by
  have hl := hT.1
  have e38 : 38 + 4 * nI w = nI (38 + 4 * w) := by rw [l38, l4, pk_mul, nI_add]
  intro k
  induction k with
  | zero =>
    intro n hn fu hfu a ha draft
    obtain ⟨fv, rfl⟩ : ∃ fv, fu = fv + 1 := ⟨fu - 1, by omega⟩
    unfold g_X12_words_L9 figs
    rw [if_neg (by rw [l8, nle (by omega) (by omega)]; omega), if_pos (by rw [l4, nle (by omega) (by omega)]; omega)]
    exact ⟨draft, rfl, fun j x hj => by simp at hj, fun i _ => rfl⟩
  | succ k ih =>
    intro n hn fu hfu a ha draft
    obtain ⟨fv, rfl⟩ : ∃ fv, fu = fv + 1 := ⟨fu - 1, by omega⟩
    unfold g_X12_words_L9 figs
    rw [if_neg (by rw [l8, nle (by omega) (by omega)]; omega), if_neg (by rw [l4, nle (by omega) (by omega)]; omega)]
    cases h : fig T a 8 with
    | none =>
      have h1 : g_X12_isFigure N tx (nI T.length) (nI a) 7 = some 0 := if_none (b := 7) hT ha (by omega) h
      rw [h1]
      simp only [Option.bind_some]
      rw [if_pos trivial]
      exact ⟨draft, rfl, fun j x hj => by simp at hj, fun i _ => rfl⟩
    | some v =>
      have f1 := fig_lt h
      have h1 : g_X12_isFigure N tx (nI T.length) (nI a) 7 = some 1 ∧ g_X12_byteAt N tx (nI T.length) (nI a) = some (nI (v + 48)) := if_some (b := 7) hT (by omega) h
      rw [h1.1, h1.2]
      simp only [Option.bind_some]
      rw [if_neg (show ¬ (1 : Int32) = 0 by decide), e38, nI_add, gi_nI (by omega) (by omega), nc (by omega), show (48 : Int32) = nI 48 from rfl, nsub (by omega), Nat.add_sub_cancel, nI_1, nI_1]
      obtain ⟨dr, d1, d2, d3⟩ := ih (n + 1) (by omega) fv (by omega) (a + 1) (by omega) (upd draft (38 + 4 * w + n) (nI v))
      refine ⟨dr, ?_, fun j x hj => ?_, fun i hi => ?_⟩
      · rw [d1, List.length_cons, show a + 1 + (figs T k (a + 1)).length = a + ((figs T k (a + 1)).length + 1) by omega, show n + 1 + (figs T k (a + 1)).length = n + ((figs T k (a + 1)).length + 1) by omega]
      · cases j with
        | zero =>
          rw [List.getElem?_cons_zero] at hj
          cases hj
          rw [d3 _ (Or.inl (by omega)), Nat.add_zero, pk_us]
        | succ j =>
          rw [List.getElem?_cons_succ] at hj
          rw [show 38 + 4 * w + n + (j + 1) = 38 + 4 * w + (n + 1) + j by omega]
          exact d2 j x hj
      · rw [d3 i (by omega), pk_un (by omega)]
theorem pX12_words (hN : 20 < N) (hT : TxR bt tx T) {a : Nat} (ha : a ≤ T.length) {draft : AI} {W : List (List Nat)} (h4 : draft 4 = nI W.length) (h8 : W.length ≤ 8) (hWd : WD draft W) (hW8 : ∀ l ∈ W, l.length ≤ 4 ∧ ∀ x ∈ l, x < 8) :
    ∃ v, g_X12_words N tx (nI T.length) draft (nI a) = some v ∧ (v.1 = 0 ∨ v.1 = 1) ∧ (¬ (1 ≤ (figs T 4 a).length ∧ T[a + (figs T 4 a).length]? = some 59) → v.1 = 0) ∧ (W.length = 8 ∨ figs T 4 a ∈ W → v.1 = 0) ∧ (1 ≤ (figs T 4 a).length ∧ T[a + (figs T 4 a).length]? = some 59 → W.length < 8 → ¬ figs T 4 a ∈ W → v.1 = 1 ∧ v.2.2 = nI (a + (figs T 4 a).length + 1) ∧ WD v.2.1 (W ++ [figs T 4 a]) ∧ v.2.1 4 = nI (W ++ [figs T 4 a]).length ∧ ∀ i, i < 30 → i ≠ 4 ∨ False → v.2.1 i = draft i) ∧ (v.1 = 1 → ∀ i, (i < 30 ∧ i ≠ 4) ∨ 70 ≤ i → v.2.1 i = draft i) := by
  have hl := hT.1
  have g4 : ∀ {α : Type} (z : Option α), gi 4 78 z = z := fun z => by rw [l4, gi_nI (by omega) (by omega)]
  obtain ⟨f1, f2, f3⟩ := figs_ok (k := 4) ha
  unfold g_X12_words
  rw [g4, show (4 : Int32).toNatClampNeg = 4 from rfl, h4]
  by_cases c : W.length < 8
  · obtain ⟨dr, d1, d2, d3⟩ := wd_loop (N := N) hT c (g_X12_words_b69 N tx (nI T.length)) 4 0 (by omega) N (by omega) a ha draft
    have d1' : g_X12_words_L9 N tx (nI T.length) (g_X12_words_b69 N tx (nI T.length)) N draft (nI a) (nI W.length) 0 = _ := d1
    rw [d1', Nat.zero_add]
    unfold g_X12_words_b69
    by_cases y : 1 ≤ (figs T 4 a).length
    · rw [if_neg (nI_ne0 y (by omega))]
      obtain ⟨z, z1, z2⟩ := ba_eq (N := N) hT f3
      rw [z1]
      simp only [Option.bind_some]
      have z59 : z = 59 ↔ T[a + (figs T 4 a).length]? = some 59 := z2 59 (by omega)
      by_cases s : T[a + (figs T 4 a).length]? = some 59
      · have e30 : 30 + nI W.length = nI (30 + W.length) := by rw [l30, nI_add]
        have u4 : upd dr (30 + W.length) (nI (figs T 4 a).length) 4 = nI W.length := by
          rw [pk_un (by omega), d3 4 (Or.inl (by omega)), h4]
        rw [if_pos (z59.mpr s), e30, gi_nI (by omega) (by omega), g4, g4, nc (by omega), show (4 : Int32).toNatClampNeg = 4 from rfl, u4, nI_1]
        have hWD : WD (upd (upd dr (30 + W.length) (nI (figs T 4 a).length)) 4 (nI (W.length + 1))) (W ++ [figs T 4 a]) := by
          intro w l hw
          by_cases e : w = W.length
          · subst e
            rw [List.getElem?_append_right (Nat.le_refl _), Nat.sub_self, List.getElem?_cons_zero] at hw
            cases hw
            refine ⟨by rw [pk_un (by omega), pk_us], fun k x hk => ?_⟩
            have hk4 := (List.getElem?_eq_some_iff.mp hk).1
            rw [pk_un (by omega), pk_un (by omega)]
            exact d2 k x hk
          · have hw1 := (List.getElem?_eq_some_iff.mp hw).1
            rw [List.length_append, List.length_singleton] at hw1
            rw [List.getElem?_append_left (by omega)] at hw
            obtain ⟨q1, q2⟩ := hWd w l hw
            have q3 := (hW8 l (List.mem_of_getElem? hw)).1
            refine ⟨by rw [pk_un (by omega), pk_un (by omega), d3 _ (Or.inl (by omega)), q1], fun k x hk => ?_⟩
            have hk4 := (List.getElem?_eq_some_iff.mp hk).1
            rw [pk_un (by omega), pk_un (by omega), d3 _ (Or.inl (by omega)), q2 k x hk]
        rw [pX12_isTwice hN hWD c hW8 f2 f1]
        simp only [Option.bind_some]
        have hkeep : ∀ i, (i < 30 ∧ i ≠ 4) ∨ 70 ≤ i → upd (upd dr (30 + W.length) (nI (figs T 4 a).length)) 4 (nI (W.length + 1)) i = draft i := fun i hi => by
          rw [pk_un (by omega), pk_un (by omega), d3 i (by omega)]
        by_cases m : figs T 4 a ∈ W
        · rw [decide_eq_true m, if_neg (show ¬ bI true = 0 by decide)]
          exact ⟨_, rfl, Or.inl rfl, fun _ => rfl, fun _ => rfl, fun _ _ q => absurd m q, fun _ => hkeep⟩
        · rw [decide_eq_false m, if_pos (show bI false = 0 from rfl)]
          refine ⟨_, rfl, Or.inr rfl, fun q => absurd ⟨y, s⟩ q, fun q => q.elim (fun r => by omega) (fun r => absurd r m), fun _ _ _ => ⟨rfl, ?_, hWD, ?_, fun i hi hi2 => hkeep i (Or.inl ⟨hi, hi2.resolve_right id⟩)⟩, fun _ => hkeep⟩
          · rw [nI_1]
          · dsimp only
            rw [pk_us, List.length_append, List.length_singleton]
      · rw [if_neg (fun q => s (z59.mp q))]
        exact ⟨_, rfl, Or.inl rfl, fun _ => rfl, fun _ => rfl, fun q => absurd q.2 s, fun q => absurd (show (0 : Int32) = 1 from q) (by decide)⟩
    · rw [if_pos (by rw [show (figs T 4 a).length = 0 by omega]; rfl)]
      exact ⟨_, rfl, Or.inl rfl, fun _ => rfl, fun _ => rfl, fun q => absurd q.1 y, fun q => absurd (show (0 : Int32) = 1 from q) (by decide)⟩
  · obtain ⟨fv, hfv⟩ : ∃ fv, N = fv + 1 := ⟨N - 1, by omega⟩
    have e1 : g_X12_words_L9 N tx (nI T.length) (g_X12_words_b69 N tx (nI T.length)) N draft (nI a) (nI W.length) 0 = some (0, draft, nI a) := by
      conv => lhs; arg 5; rw [hfv]
      unfold g_X12_words_L9
      rw [if_pos (by rw [l8, nle (by omega) (by omega)]; omega)]
      unfold g_X12_words_b69
      rw [if_pos rfl]
    rw [e1]
    exact ⟨_, rfl, Or.inl rfl, fun _ => rfl, fun _ => rfl, fun _ q => absurd q c, fun q => absurd (show (0 : Int32) = 1 from q) (by decide)⟩
end PWORD
