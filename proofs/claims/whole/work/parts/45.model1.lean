/-! ===== the reference's rows: beats by their numbers ===== -/
def hearI (law H : Nat) (f : Nat → Nat × Nat) (S : List Nat) (k : Nat) : List Nat := match hitO law (f k).1 (f k).2 H (S.map f) with
  | none => S ++ [k]
  | some i => if law = 1 then S.take i else S.eraseIdx i
def oM (o : Option Nat) : Int32 := match o with
  | none => -4
  | some k => nI k
def MA (n : Nat) (so wh : Nat → Int32) (f : Nat → Nat × Nat) : Prop := ∀ k, k < n → so k = nI (f k).1 ∧ wh k = nI (f k).2 ∧ (f k).1 < 8 ∧ (f k).2 < 1000000
theorem hitF_le {s t H : Nat} : ∀ {l : List (Nat × Nat)}, (hitF s t H l).2 ≤ l.length := by
  intro l
  induction l with
  | nil => exact Nat.le_refl _
  | cons x l ih =>
    unfold hitF
    by_cases c : x.1 = s ∧ t < x.2 + H
    · rw [if_pos c]; show _ + 1 ≤ _; simp; omega
    · rw [if_neg c]; simp; omega
theorem map_take_rev {f : Nat → Nat × Nat} {S : List Nat} {j i : Nat} (h : S[j]? = some i) : ((S.take (j + 1)).map f).reverse = f i :: ((S.take j).map f).reverse := by
  rw [← List.map_reverse, take_rev_succ h, List.map_cons, List.map_reverse]
section MHIT
variable {N n H law k : Nat} {book so wh st : Nat → Int32} {f : Nat → Nat × Nat} {S : List Nat}
theorem mh_loop (hA : MA n so wh f) (hn : n ≤ 128) (hb1 : book 1 = nI H) (hH : H < 1000) (hR : Rp st S) (hS : ∀ i ∈ S, i < n ∧ (f i).2 ≤ (f k).2) (hk : k < n) (hl : S.length < 128) (kk : Int32 → Int32 → Option Int32) :
    ∀ (m j : Nat), j + m = S.length → ∀ fu, m < fu → g_X12_hit_L8 N book so wh st (nI S.length) kk fu (nI k) (oM (hitF (f k).1 (f k).2 H ((S.take j).map f).reverse).1) (nI (hitF (f k).1 (f k).2 H ((S.take j).map f).reverse).2) (nI j) = kk (oM (hitF (f k).1 (f k).2 H (S.map f).reverse).1) (nI (hitF (f k).1 (f k).2 H (S.map f).reverse).2) := by
  intro m
  induction m with
  | zero =>
    intro j hj fu hfu
    obtain ⟨fv, rfl⟩ : ∃ fv, fu = fv + 1 := ⟨fu - 1, by omega⟩
    have : j = S.length := by omega
    subst this
    unfold g_X12_hit_L8
    rw [if_pos ((nle (by omega) (by omega)).mpr (Nat.le_refl _)), List.take_length]
  | succ m ih =>
    intro j hj fu hfu
    obtain ⟨fv, rfl⟩ : ∃ fv, fu = fv + 1 := ⟨fu - 1, by omega⟩
    obtain ⟨i, hi0⟩ : ∃ i, S[j]? = some i := ⟨S[j], List.getElem?_eq_getElem (by omega)⟩
    obtain ⟨c1, c2⟩ := hS i (List.mem_of_getElem? hi0)
    obtain ⟨s1, s2, s3, s4⟩ := hA i c1
    obtain ⟨t1, t2, t3, t4⟩ := hA k hk
    have hc := hitF_le (s := (f k).1) (t := (f k).2) (H := H) (l := ((S.take j).map f).reverse)
    have hlen : (((S.take j).map f).reverse).length = j := by simp; omega
    have ih' := ih (j + 1) (by omega) fv (by omega)
    rw [map_take_rev hi0] at ih'
    unfold g_X12_hit_L8
    rw [if_neg (by rw [nle (by omega) (by omega)]; omega), gi_nI (by omega) (by omega), nc (by omega), hR j i hi0, gi_nI (by omega) (by omega), gi_nI (by omega) (by omega), nc (by omega), nc (by omega), s1, t1]
    have d1 : nI (f i).1 = nI (f k).1 ↔ (f i).1 = (f k).1 := neq (by omega) (by omega)
    by_cases a : (f i).1 = (f k).1
    · rw [if_pos (d1.mpr a), gi_nI (by omega) (by omega), gi_nI (by omega) (by omega), gi_nI (by omega) (by omega), l1, gi_nI (by omega) (by omega), nc (by omega), hb1, s2, t2, nsub c2]
      by_cases b : (f k).2 < (f i).2 + H
      · rw [if_neg (by rw [nle (by omega) (by omega)]; omega)]
        rw [hitF_pos (x := f i) ⟨a, b⟩, hlen] at ih'
        unfold g_X12_hit_b71 g_X12_hit_b84 g_X12_hit_b96
        rw [if_neg (by decide), if_neg (by decide), nI_1, nI_1]
        exact ih'
      · rw [if_pos (by rw [nle (by omega) (by omega)]; omega)]
        rw [hitF_neg (x := f i) (fun z => b z.2)] at ih'
        unfold g_X12_hit_b70 g_X12_hit_b71 g_X12_hit_b84 g_X12_hit_b96
        rw [if_pos rfl, if_pos rfl, l0, nI_add, Nat.add_zero, l1, nI_add]
        exact ih'
    · rw [if_neg (fun z => a (d1.mp z))]
      rw [hitF_neg (x := f i) (fun z => a z.1)] at ih'
      unfold g_X12_hit_b70 g_X12_hit_b71 g_X12_hit_b84 g_X12_hit_b96
      rw [if_pos rfl, if_pos rfl, l0, nI_add, Nat.add_zero, l1, nI_add]
      exact ih'
theorem pX12_hit (hA : MA n so wh f) (hn : n ≤ 128) (hb1 : book 1 = nI H) (hb2 : book 2 = nI law) (hlaw : law < 3) (hH : H < 1000) (hR : Rp st S) (hS : ∀ i ∈ S, i < n ∧ (f i).2 ≤ (f k).2) (hk : k < n) (hl : S.length < 128) (hN : S.length < N) :
    g_X12_hit N book so wh st (nI S.length) (nI k) = some (oM (hitO law (f k).1 (f k).2 H (S.map f))) := by
  unfold g_X12_hit
  have h1 := mh_loop (N := N) hA hn hb1 hH hR hS hk hl (g_X12_hit_b104 N book so wh st (nI S.length)) S.length 0 (by omega) N hN
  rw [List.take_zero] at h1
  have h2 : g_X12_hit_L8 N book so wh st (nI S.length) (g_X12_hit_b104 N book so wh st (nI S.length)) N (nI k) (-4) 0 0 = _ := h1
  rw [h2]
  have hc := hitF_le (s := (f k).1) (t := (f k).2) (H := H) (l := (S.map f).reverse)
  rw [List.length_reverse, List.length_map] at hc
  unfold g_X12_hit_b104 hitO
  rw [show (2 : Int32).toNatClampNeg = 2 from rfl, hb2, l2, gi_nI (by omega) (by omega)]
  have e1 : nI law = nI 2 ↔ law = 2 := neq (by omega) (by omega)
  by_cases a : law = 2
  · rw [if_pos (e1.mpr a)]
    by_cases b : (hitF (f k).1 (f k).2 H (S.map f).reverse).2 < 2
    · rw [if_neg (by rw [nle (by omega) (by omega)]; omega), if_pos ⟨a, b⟩]; rfl
    · rw [if_pos (by rw [nle (by omega) (by omega)]; omega), if_neg (fun z => b z.2)]
  · rw [if_neg (fun z => a (e1.mp z)), if_neg (fun z => a z.1)]
end MHIT
def gmark (gb : Nat → Int32) (L : List Nat) (k : Nat) : Nat → Int32 := fun x => if x ∈ L then nI k else gb x
theorem gmark_1 (gb : Nat → Int32) (L : List Nat) (k y : Nat) : upd (gmark gb L k) y (nI k) = gmark gb (L ++ [y]) k := by
  funext x
  unfold upd gmark
  by_cases a : x = y
  · subst a; simp
  · simp [a]
theorem gmark_0 (gb : Nat → Int32) (k : Nat) : gmark gb [] k = gb := by
  funext x; unfold gmark; simp
section MHEARS
variable {N n H law k : Nat} {book so wh st ih gb : Nat → Int32} {f : Nat → Nat × Nat} {S : List Nat}
theorem ms_mark (hR : Rp st S) (hS : ∀ i ∈ S, i < 128) (hl : S.length < 128) {i b : Nat} (hb : b ≤ S.length) (kk : (Nat → Int32) → (Nat → Int32) → (Nat → Int32) → Int32 → Int32 → Int32 → Option ((Nat → Int32) × (Nat → Int32) × (Nat → Int32) × Int32)) :
    ∀ (d j : Nat), i ≤ j → j + d = b → ∀ fu, d < fu → g_X12_hears_L64 N book so wh kk fu ih (gmark gb ((S.drop i).take (j - i)) k) st (nI S.length) (nI k) (nI i) (nI b) (nI j) = kk ih (gmark gb ((S.drop i).take (b - i)) k) st (nI S.length) (nI i) (nI b) := by
  intro d
  induction d with
  | zero =>
    intro j hij hj fu hfu
    obtain ⟨fv, rfl⟩ : ∃ fv, fu = fv + 1 := ⟨fu - 1, by omega⟩
    have : j = b := by omega
    subst this
    unfold g_X12_hears_L64
    rw [if_pos ((nle (by omega) (by omega)).mpr (Nat.le_refl _))]
  | succ d ihd =>
    intro j hij hj fu hfu
    obtain ⟨fv, rfl⟩ : ∃ fv, fu = fv + 1 := ⟨fu - 1, by omega⟩
    obtain ⟨y, hy0⟩ : ∃ y, S[j]? = some y := ⟨S[j], List.getElem?_eq_getElem (by omega)⟩
    have hy := hS y (List.mem_of_getElem? hy0)
    have e1 : (S.drop i).take (j + 1 - i) = (S.drop i).take (j - i) ++ [y] := by
      rw [show j + 1 - i = (j - i) + 1 by omega, List.take_succ, List.getElem?_drop, show i + (j - i) = j by omega, hy0]
      rfl
    have ih' := ihd (j + 1) (by omega) (by omega) fv (by omega)
    rw [e1, ← gmark_1] at ih'
    unfold g_X12_hears_L64
    rw [if_neg (by rw [nle (by omega) (by omega)]; omega), gi_nI (by omega) (by omega), nc (by omega), hR j y hy0, gi_nI (by omega) (by omega), nc (by omega), nI_1]
    exact ih'
theorem ms_shift (hl : S.length < 128) {i : Nat} (kk : (Nat → Int32) → (Nat → Int32) → (Nat → Int32) → Int32 → Int32 → Int32 → Option ((Nat → Int32) × (Nat → Int32) × (Nat → Int32) × Int32)) :
    ∀ (d j : Nat), i ≤ j → j + 1 + d = S.length → ∀ fu, d < fu → g_X12_hears_L92 N book so wh kk fu ih gb (shl st i j) (nI S.length) (nI i) (nI (i + 1)) (nI (j + 1)) = kk ih gb (shl st i (S.length - 1)) (nI S.length) (nI i) (nI (i + 1)) := by
  intro d
  induction d with
  | zero =>
    intro j hij hj fu hfu
    obtain ⟨fv, rfl⟩ : ∃ fv, fu = fv + 1 := ⟨fu - 1, by omega⟩
    unfold g_X12_hears_L92
    rw [if_pos ((nle (by omega) (by omega)).mpr (by omega)), show j = S.length - 1 by omega]
  | succ d ihd =>
    intro j hij hj fu hfu
    obtain ⟨fv, rfl⟩ : ∃ fv, fu = fv + 1 := ⟨fu - 1, by omega⟩
    have ih' := ihd (j + 1) (by omega) (by omega) fv (by omega)
    rw [← shl_1 st hij] at ih'
    unfold g_X12_hears_L92
    have e1 : nI (j + 1) - nI (i + 1) + nI i = nI j := by rw [nsub (by omega), nI_add, show j + 1 - (i + 1) + i = j by omega]
    rw [if_neg (by rw [nle (by omega) (by omega)]; omega), gi_nI (by omega) (by omega), e1, gi_nI (by omega) (by omega), nc (by omega), nc (by omega), nI_1]
    exact ih'
theorem Rp.erase {st : Nat → Int32} {S : List Nat} (h : Rp st S) (k : Nat) : Rp (shl st k (S.length - 1)) (S.eraseIdx k) := by
  intro j e hj
  rw [List.getElem?_eraseIdx] at hj
  by_cases a : j < k
  · rw [if_pos a] at hj
    unfold shl
    rw [if_neg (by omega)]
    exact h j e hj
  · rw [if_neg a] at hj
    have hl := (List.getElem?_eq_some_iff.mp hj).1
    unfold shl
    rw [if_pos (by omega)]
    exact h (j + 1) e hj
theorem Rp.take {st : Nat → Int32} {S : List Nat} (h : Rp st S) (k : Nat) : Rp st (S.take k) := by
  intro j e hj
  refine h j e ?_
  rw [List.getElem?_take] at hj
  split at hj
  · exact hj
  · cases hj
theorem Rp.push {st : Nat → Int32} {S : List Nat} (h : Rp st S) (e : Nat) : Rp (upd st S.length (nI e)) (S ++ [e]) := by
  intro j x hj
  by_cases a : j = S.length
  · subst a
    rw [List.getElem?_append_right (Nat.le_refl _), Nat.sub_self] at hj
    cases hj
    simp [upd]
  · have hl : j < (S ++ [e]).length := (List.getElem?_eq_some_iff.mp hj).1
    rw [List.length_append, List.length_singleton] at hl
    rw [List.getElem?_append_left (by omega)] at hj
    have := h j x hj
    simpa [upd, a] using this
/-- which go when k is heard -/
def goneI (law H : Nat) (f : Nat → Nat × Nat) (S : List Nat) (k : Nat) : List Nat := match hitO law (f k).1 (f k).2 H (S.map f) with
  | none => []
  | some i => if law = 1 then S.drop i else (S.drop i).take 1
theorem pX12_hears (hA : MA n so wh f) (hn : n ≤ 128) (hb1 : book 1 = nI H) (hb2 : book 2 = nI law) (hlaw : law < 3) (hH : H < 1000) (hR : Rp st S) (hS : ∀ i ∈ S, i < n ∧ (f i).2 ≤ (f k).2) (hk : k < n) (hl : S.length < 128) (hN : S.length < N) :
    ∃ st', g_X12_hears N book so wh ih gb st (nI S.length) (nI k) = some (upd ih k 1, gmark gb (goneI law H f S k) k, st', nI (hearI law H f S k).length) ∧ Rp st' (hearI law H f S k) := by
  unfold g_X12_hears
  rw [pX12_hit hA hn hb1 hb2 hlaw hH hR hS hk hl hN, gi_nI (by omega) (by omega), vpn_z (Or.inr rfl), nc (by omega), show (2 : Int32).toNatClampNeg = 2 from rfl, hb2]
  unfold hearI goneI
  have hS2 : ∀ i ∈ S, i < 128 := fun i hi => by have := (hS i hi).1; omega
  cases hk0 : hitO law (f k).1 (f k).2 H (S.map f) with
  | none =>
    refine ⟨_, ?_, hR.push k⟩
    simp only [Option.bind_some]
    rw [if_pos (show oM none = -4 from rfl), gi_nI hl (by omega), nc (by omega), nI_1, gmark_0]
    simp
  | some i =>
    have hil : i < S.length := by have := hitO_lt hk0; simpa using this
    simp only [Option.bind_some]
    have e1 : nI law = 1 ↔ law = 1 := by rw [l1]; exact neq (by omega) (by omega)
    have e2 : ¬ oM (some i) = -4 := by
      intro z
      have h3 : nI i < 0 := by
        have : nI i = -4 := z
        rw [this]; decide
      exact nI_pos (by omega) h3
    rw [if_neg e2, l2, gi_nI (by omega) (by omega), show oM (some i) = nI i from rfl]
    by_cases a : law = 1
    · rw [if_pos (e1.mpr a)]
      simp only [a, if_true]
      unfold g_X12_hears_b60
      have h1 := ms_mark (N := N) (book := book) (so := so) (wh := wh) (ih := upd ih k 1) (gb := gb) (k := k) hR hS2 hl (i := i) (b := S.length) (Nat.le_refl _) (g_X12_hears_b89 N book so wh) (S.length - i) i (Nat.le_refl _) (by omega) N (by omega)
      rw [Nat.sub_self, List.take_zero, gmark_0] at h1
      rw [h1]
      unfold g_X12_hears_b89
      obtain ⟨N', rfl⟩ : ∃ N', N = N' + 1 := ⟨N - 1, by omega⟩
      unfold g_X12_hears_L92
      rw [if_pos ((nle (by omega) (by omega)).mpr (Nat.le_refl _))]
      unfold g_X12_hears_b125
      rw [nsub (by omega), nsub (by omega), List.take_of_length_le (by simp)]
      refine ⟨st, ?_, hR.take i⟩
      rw [List.length_take, Nat.min_eq_left (by omega), show S.length - (S.length - i) = i by omega]
    · rw [if_neg (fun z => a (e1.mp z))]
      simp only [a, if_false]
      unfold g_X12_hears_b60
      rw [nI_1]
      have h1 := ms_mark (N := N) (book := book) (so := so) (wh := wh) (ih := upd ih k 1) (gb := gb) (k := k) hR hS2 hl (i := i) (b := i + 1) (by omega) (g_X12_hears_b89 N book so wh) 1 i (Nat.le_refl _) (by omega) N (by omega)
      rw [Nat.sub_self, List.take_zero, gmark_0] at h1
      rw [h1]
      unfold g_X12_hears_b89
      have h2 := ms_shift (N := N) (book := book) (so := so) (wh := wh) (st := st) (ih := upd ih k 1) (gb := gmark gb ((S.drop i).take (i + 1 - i)) k) (S := S) hl (i := i) (g_X12_hears_b125 N book so wh) (S.length - 1 - i) i (Nat.le_refl _) (by omega) N (by omega)
      rw [shl_0] at h2
      rw [h2]
      unfold g_X12_hears_b125
      rw [nsub (by omega), nsub (by omega), show i + 1 - i = 1 by omega]
      refine ⟨_, ?_, hR.erase i⟩
      rw [List.length_eraseIdx, if_pos hil]
end MHEARS
