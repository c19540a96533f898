/-! ===== tell, forget ===== -/
/-- what is told of some places, on both sides -/
def ScR (P : Nat) (rso : Nat → Nat → Int32) (rsz : Nat → Int32) (sz : Int32) (pl : Nat → Int32) (tells : Nat → Int32) (tm : Int32) (X : List (Nat × List Nat)) : Prop := X.length ≤ 3 ∧ sz = nI X.length ∧ tm = nI X.length ∧ ∀ (i : Nat) (e : Nat × List Nat), X[i]? = some e → e.1 < P ∧ pl i = nI e.1 ∧ tells (10 * i) = nI e.1 ∧ e.2.length ≤ 8 ∧ rsz i = nI e.2.length ∧ tells (10 * i + 1) = nI e.2.length ∧ ∀ (k x : Nat), e.2[k]? = some x → x < 8 ∧ rso i k = nI x ∧ tells (10 * i + 2 + k) = nI x
theorem pX7_copyFrom {N n m : Nat} {f : Nat → Int32} {l : List Nat} (hf : Rp f l) (hn : l.length ≤ n) (hm : l.length ≤ m) (hn2 : n < 1000) (hm2 : m < 1000) (hN : l.length < N) (g : Nat → Int32) (z : Int32) :
    ∃ g', g_X7_copyFrom N n m f (nI l.length) g z = some (g', nI l.length) ∧ Rp g' l := by
  unfold g_X7_copyFrom
  rw [if_neg (by rw [nlt (by omega) (by omega)]; omega)]
  suffices h : ∀ (d j : Nat), j + d = l.length → ∀ fu, d < fu → ∀ (g : Nat → Int32), (∀ k x, k < j → l[k]? = some x → g k = nI x) → ∃ g', g_X7_copyFrom_L18 N n m f (nI l.length) fu g (nI l.length) (nI j) = some (g', nI l.length) ∧ Rp g' l by
    exact h l.length 0 (by omega) N (by omega) g (fun k x hk => by omega)
  intro d
  induction d with
  | zero =>
    intro j hj fu hfu g hg
    obtain ⟨fv, rfl⟩ : ∃ fv, fu = fv + 1 := ⟨fu - 1, by omega⟩
    have : j = l.length := by omega
    subst this
    unfold g_X7_copyFrom_L18
    rw [if_pos ((nle (by omega) (by omega)).mpr (Nat.le_refl _))]
    exact ⟨g, rfl, fun k x hk => hg k x (List.getElem?_eq_some_iff.mp hk).1 hk⟩
  | succ d ih =>
    intro j hj fu hfu g hg
    obtain ⟨fv, rfl⟩ : ∃ fv, fu = fv + 1 := ⟨fu - 1, by omega⟩
    obtain ⟨x, hx⟩ : ∃ x, l[j]? = some x := ⟨_, List.getElem?_eq_getElem (by omega)⟩
    obtain ⟨g', h1, h2⟩ := ih (j + 1) (by omega) fv (by omega) (upd g j (nI x)) (fun k y hk hy => by
      unfold upd
      by_cases z : k = j
      · subst z; rw [if_pos rfl]; rw [hx] at hy; cases hy; rfl
      · rw [if_neg z]; exact hg k y (by omega) hy)
    refine ⟨g', ?_, h2⟩
    unfold g_X7_copyFrom_L18
    rw [if_neg (by rw [nle (by omega) (by omega)]; omega), gi_nI (by omega) (by omega), gi_nI (by omega) (by omega), nc (by omega), hf j x hx, nI_1]
    exact h1
section TELL
variable {N P : Nat} {rso : Nat → Nat → Int32} {rsz pl tells : Nat → Int32} {sz tm : Int32} {X : List (Nat × List Nat)}
theorem pX6_isTold (hX : ScR P rso rsz sz pl tells tm X) (hP : P ≤ 5) (hN : 20 < N) {p : Nat} (hp : p < P) : g_X6_isTold N sz pl (nI p) = some (if (∃ e ∈ X, e.1 = p) then 1 else 0) := by
  obtain ⟨h3, rfl, rfl, hx⟩ := hX
  unfold g_X6_isTold
  suffices h : ∀ (d j : Nat), j + d = X.length → ∀ fu, d < fu → g_X6_isTold_L2 N (nI X.length) pl fu (nI p) (nI j) = some (if (∃ e ∈ X.drop j, e.1 = p) then 1 else 0) by
    have := h X.length 0 (by omega) N (by omega)
    rw [List.drop_zero] at this
    exact this
  intro d
  induction d with
  | zero =>
    intro j hj fu hfu
    obtain ⟨fv, rfl⟩ : ∃ fv, fu = fv + 1 := ⟨fu - 1, by omega⟩
    have : j = X.length := by omega
    subst this
    unfold g_X6_isTold_L2
    rw [if_pos ((nle (by omega) (by omega)).mpr (Nat.le_refl _)), List.drop_length, if_neg (by rintro ⟨e, he, _⟩; cases he)]
  | succ d ih =>
    intro j hj fu hfu
    obtain ⟨fv, rfl⟩ : ∃ fv, fu = fv + 1 := ⟨fu - 1, by omega⟩
    obtain ⟨e, he⟩ : ∃ e, X[j]? = some e := ⟨_, List.getElem?_eq_getElem (by omega)⟩
    obtain ⟨q1, q2, q3, q4, q5, q6, q7⟩ := hx j e he
    unfold g_X6_isTold_L2
    rw [if_neg (by rw [nle (by omega) (by omega)]; omega), gi_nI (by omega) (by omega), nc (by omega), q2, drop_cons he]
    by_cases c : e.1 = p
    · rw [if_pos (by rw [c]), if_pos ⟨e, List.mem_cons_self, c⟩]
    · rw [if_neg (fun z => c ((neq (by omega) (by omega)).mp z)), nI_1, ih (j + 1) (by omega) fv (by omega)]
      by_cases z : ∃ e ∈ X.drop (j + 1), e.1 = p
      · obtain ⟨y, hy1, hy2⟩ := z
        rw [if_pos ⟨y, hy1, hy2⟩, if_pos ⟨y, List.mem_cons_of_mem _ hy1, hy2⟩]
      · rw [if_neg z, if_neg (fun ⟨y, hy1, hy2⟩ => by
          rcases List.mem_cons.mp hy1 with h | h
          · rw [h] at hy2; exact c hy2
          · exact z ⟨y, h, hy2⟩)]
theorem tl_scan (hX : ScR P rso rsz sz pl tells tm X) (hP : P ≤ 5) {p : Nat} (hp : p < P) (book row : Nat → Int32) (rm : Int32) (kk : (Nat → Int32) → Int32 → Int32 → Option (Int32 × (Nat → Int32) × Int32)) (hN : 20 < N) : g_X12_tell_L12 N book row rm kk N tells tm (nI p) 0 = if (∃ e ∈ X, e.1 = p) then some (-2, tells, tm) else kk tells tm (nI p) := by
  obtain ⟨h3, rfl, rfl, hx⟩ := hX
  suffices h : ∀ (d j : Nat), j + d = X.length → ∀ fu, d < fu → g_X12_tell_L12 N book row rm kk fu tells (nI X.length) (nI p) (nI j) = if (∃ e ∈ X.drop j, e.1 = p) then some (-2, tells, nI X.length) else kk tells (nI X.length) (nI p) by
    have := h X.length 0 (by omega) N (by omega)
    rw [List.drop_zero] at this
    exact this
  intro d
  induction d with
  | zero =>
    intro j hj fu hfu
    obtain ⟨fv, rfl⟩ : ∃ fv, fu = fv + 1 := ⟨fu - 1, by omega⟩
    have : j = X.length := by omega
    subst this
    unfold g_X12_tell_L12
    rw [if_pos ((nle (by omega) (by omega)).mpr (Nat.le_refl _)), List.drop_length, if_neg (by rintro ⟨e, he, _⟩; cases he)]
  | succ d ih =>
    intro j hj fu hfu
    obtain ⟨fv, rfl⟩ : ∃ fv, fu = fv + 1 := ⟨fu - 1, by omega⟩
    obtain ⟨e, he⟩ : ∃ e, X[j]? = some e := ⟨_, List.getElem?_eq_getElem (by omega)⟩
    obtain ⟨q1, q2, q3, q4, q5, q6, q7⟩ := hx j e he
    have e10 : 10 * nI j = nI (10 * j) := by rw [l10, pk_mul]
    unfold g_X12_tell_L12
    rw [if_neg (by rw [nle (by omega) (by omega)]; omega), e10, gi_nI (by omega) (by omega), nc (by omega), q3, drop_cons he]
    by_cases c : e.1 = p
    · rw [if_pos (by rw [c]), if_pos ⟨e, List.mem_cons_self, c⟩]
    · rw [if_neg (fun z => c ((neq (by omega) (by omega)).mp z)), nI_1, ih (j + 1) (by omega) fv (by omega)]
      by_cases z : ∃ e ∈ X.drop (j + 1), e.1 = p
      · obtain ⟨y, hy1, hy2⟩ := z
        rw [if_pos ⟨y, hy1, hy2⟩, if_pos ⟨y, List.mem_cons_of_mem _ hy1, hy2⟩]
      · rw [if_neg z, if_neg (fun ⟨y, hy1, hy2⟩ => by
          rcases List.mem_cons.mp hy1 with h | h
          · rw [h] at hy2; exact c hy2
          · exact z ⟨y, h, hy2⟩)]
theorem tl_copy {i : Nat} (hi : i < 3) {row : Nat → Int32} {l : List Nat} (hr : Rp row l) (hl : l.length ≤ 8) (book : Nat → Int32) (kk : (Nat → Int32) → Int32 → Option (Int32 × (Nat → Int32) × Int32)) : ∀ (d j : Nat), j + d = l.length → ∀ fu, d < fu → ∀ (tl : Nat → Int32), g_X12_tell_L86 N book row (nI l.length) kk fu (blk tl row (10 * i + 2) j) (nI i) (nI j) = kk (blk tl row (10 * i + 2) l.length) (nI i) := by
  intro d
  induction d with
  | zero =>
    intro j hj fu hfu tl
    obtain ⟨fv, rfl⟩ : ∃ fv, fu = fv + 1 := ⟨fu - 1, by omega⟩
    have : j = l.length := by omega
    subst this
    unfold g_X12_tell_L86
    rw [if_pos ((nle (by omega) (by omega)).mpr (Nat.le_refl _))]
  | succ d ih =>
    intro j hj fu hfu tl
    obtain ⟨fv, rfl⟩ : ∃ fv, fu = fv + 1 := ⟨fu - 1, by omega⟩
    have e10 : 10 * nI i + 2 + nI j = nI (10 * i + 2 + j) := by rw [l10, l2, pk_mul, nI_add, nI_add]
    unfold g_X12_tell_L86
    rw [if_neg (by rw [nle (by omega) (by omega)]; omega), e10, gi_nI (by omega) (by omega), gi_nI (by omega) (by omega), nc (by omega), nc (by omega), blk_1, nI_1]
    exact ih (j + 1) (by omega) fv (by omega) tl
theorem t_tell (hN : 20 < N) {S H law : Nat} {mi book : Nat → Int32} {d : Nat → Nat → Nat} (hh : HOk P S H law mi book d) {ts row : Nat → Int32} {tz rm : Int32} {l : List Nat} (hT : RTold ts tz row rm l) (hX : ScR P rso rsz sz pl tells tm X) (x1 : Int32) :
    ∃ v w, g_X11_tell N (nI P) ts tz rso rsz sz pl x1 = some v ∧ g_X12_tell N book row rm tells tm x1 = some w ∧ v.1 = w.1 ∧ ∃ X', ScR P v.2.1 v.2.2.1 v.2.2.2.1 v.2.2.2.2 w.2.1 w.2.2 X' := by
  obtain ⟨⟨hP1, hP⟩, ⟨hS1, hS⟩, ⟨hH1, hH⟩, hlaw, hdr, hdb, hd0, k0, k1, k2, k3⟩ := hh
  unfold g_X11_tell g_X12_tell
  rw [pX2_isPlace, pX12_isPlace N P book (by omega) (by omega) k0]
  cases hx1 : ixB x1 P with
  | false => exact ⟨_, _, rfl, rfl, rfl, X, hX⟩
  | true =>
    obtain ⟨p, hp, rfl⟩ := (ixB_iff (by omega)).mp hx1
    rw [pX6_isTold hX hP hN hp, tl_scan hX hP hp book row rm _ hN]
    simp only [Option.bind_some, if_true]
    rw [if_neg (show ¬ (1 : Int32) = 0 by decide), if_neg (show ¬ (1 : Int32) = 0 by decide)]
    by_cases c : ∃ e ∈ X, e.1 = p
    · rw [if_pos c, if_pos c, if_neg (show ¬ (1 : Int32) = 0 by decide)]
      exact ⟨_, _, rfl, rfl, rfl, X, hX⟩
    · rw [if_neg c, if_neg c, if_pos rfl]
      have hX' := hX
      obtain ⟨h3, rfl, rfl, hx⟩ := hX'
      obtain ⟨t1, rfl, rfl, t4, t5⟩ := hT
      unfold g_X6_append g_X12_tell_b42
      by_cases c3 : X.length < 3
      · have hts : Rp ts l := fun k x hk => by
          have hkl := (List.getElem?_eq_some_iff.mp hk)
          rw [(t4 k hkl.1).1, hkl.2]
        have hrow : Rp row l := fun k x hk => by
          have hkl := (List.getElem?_eq_some_iff.mp hk)
          rw [(t4 k hkl.1).2, hkl.2]
        obtain ⟨g', e1, e2⟩ := pX7_copyFrom (N := N) (n := 8) (m := 8) hts t1 t1 (by omega) (by omega) (by omega) (rso X.length) (rsz X.length)
        have e10 : 10 * nI X.length = nI (10 * X.length) := by rw [l10, pk_mul]
        have e3 := tl_copy (N := N) c3 hrow t1 book (g_X12_tell_b122 N book row (nI l.length)) l.length 0 (by omega) N (by omega) (upd (upd tells (10 * X.length) (nI p)) (10 * X.length + 1) (nI l.length))
        rw [blk_0] at e3
        have e3' : g_X12_tell_L86 N book row (nI l.length) (g_X12_tell_b122 N book row (nI l.length)) N (upd (upd tells (10 * X.length) (nI p)) (10 * X.length + 1) (nI l.length)) (nI X.length) 0 = _ := e3
        rw [if_pos (by rw [l3, nlt (by omega) (by omega)]; omega), if_neg (by rw [l3, neq (by omega) (by omega)]; omega), gi_nI c3 (by omega), gi_nI c3 (by omega), nc (by omega), e1, e10, nI_1 X.length, nI_1 (10 * X.length), gi_nI (by omega) (by omega), gi_nI (by omega) (by omega), nc (by omega), nc (by omega), e3']
        simp only [Option.bind_some]
        rw [if_neg (show ¬ (1 : Int32) = 0 by decide)]
        unfold g_X12_tell_b122
        rw [nI_1]
        refine ⟨_, _, rfl, rfl, rfl, X ++ [(p, l)], by simp; omega, by simp [nI_1], by simp [nI_1], fun i e hi => ?_⟩
        have hl : i < (X ++ [(p, l)]).length := (List.getElem?_eq_some_iff.mp hi).1
        rw [List.length_append, List.length_singleton] at hl
        by_cases a : i = X.length
        · subst a
          rw [List.getElem?_append_right (Nat.le_refl _), Nat.sub_self] at hi
          cases hi
          simp only [va_up, if_true]
          refine ⟨hp, by simp [upd], ?_, t1, trivial, ?_, fun k x hk => ⟨t5 x (List.mem_of_getElem? hk), e2 k x hk, ?_⟩⟩
          · unfold blk upd
            rw [if_neg (by omega), if_neg (by omega), if_pos rfl]
          · unfold blk upd
            rw [if_neg (by omega), if_pos rfl]
          · have hkl := (List.getElem?_eq_some_iff.mp hk).1
            have hkl' : k < l.length := hkl
            unfold blk
            rw [if_pos (by omega), show 10 * X.length + 2 + k - (10 * X.length + 2) = k by omega]
            exact hrow k x hk
        · rw [List.getElem?_append_left (by omega)] at hi
          obtain ⟨q1, q2, q3, q4, q5, q6, q7⟩ := hx i e hi
          simp only [va_up, a, if_false]
          refine ⟨q1, ?_, ?_, q4, q5, ?_, fun k x hk => ⟨(q7 k x hk).1, (q7 k x hk).2.1, ?_⟩⟩
          · unfold upd; rw [if_neg a]; exact q2
          · unfold blk upd
            rw [if_neg (by omega), if_neg (by omega), if_neg (by omega)]; exact q3
          · unfold blk upd
            rw [if_neg (by omega), if_neg (by omega), if_neg (by omega)]; exact q6
          · have hkl := (List.getElem?_eq_some_iff.mp hk).1
            unfold blk upd
            rw [if_neg (by omega), if_neg (by omega), if_neg (by omega)]; exact (q7 k x hk).2.2
      · rw [if_neg (by rw [l3, nlt (by omega) (by omega)]; omega), if_pos (by rw [l3, neq (by omega) (by omega)]; omega)]
        exact ⟨_, _, rfl, rfl, rfl, X, hX⟩
theorem t_forget (hX : ScR P rso rsz sz pl tells tm X) : ∃ v w, g_X11_forget N sz = some v ∧ g_X12_forget N tm = some w ∧ v.1 = w.1 ∧ ∃ X', ScR P rso rsz v.2 pl tells w.2 X' := by
  obtain ⟨h3, rfl, rfl, hx⟩ := hX
  exact ⟨_, _, rfl, rfl, rfl, [], by simp, rfl, rfl, fun i e hi => by simp at hi⟩
end TELL
