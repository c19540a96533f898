/-! ===== the reference plays ===== -/
/-- the beats that are heard to the minute t, in the order of hearing -/
def Srt (w m : Nat → Nat) (t n : Nat) (L : List Nat) : Prop := L.Pairwise (ltK w m) ∧ (∀ k, k ∈ L ↔ k < n ∧ w k ≤ t) ∧ L.length ≤ n
theorem nx_head {w m : Nat → Nat} {t n : Nat} {pre R : List Nat} (h : Srt w m t n (pre ++ R)) : nxF w m (fun k => decide (k ∈ pre)) t n = R.head? := by
  obtain ⟨h1, h2, h3⟩ := h
  rw [List.pairwise_append] at h1
  obtain ⟨p1, p2, p3⟩ := h1
  have hs := nxF_spec w m (fun k => decide (k ∈ pre)) t n
  have hnin : ∀ r ∈ R, r ∉ pre := fun r hr hp => ltK_asym (p3 r hp r hr) (p3 r hp r hr)
  cases hx : nxF w m (fun k => decide (k ∈ pre)) t n with
  | none =>
    cases R with
    | nil => rfl
    | cons r R' =>
      have hr := (h2 r).mp (List.mem_append_right _ List.mem_cons_self)
      refine absurd ⟨?_, hr.2⟩ (hs.1 hx r hr.1)
      simpa using hnin r List.mem_cons_self
  | some f =>
    obtain ⟨f1, f2, f3, f4⟩ := hs.2 f hx
    have hf : f ∈ pre ++ R := (h2 f).mpr ⟨f1, f3⟩
    have hfR : f ∈ R := by
      rcases List.mem_append.mp hf with z | z
      · simp [z] at f2
      · exact z
    cases R with
    | nil => cases hfR
    | cons r R' =>
      have hr := (h2 r).mp (List.mem_append_right _ List.mem_cons_self)
      have hrn := hnin r List.mem_cons_self
      rcases f4 r hr.1 (by simpa using hrn) hr.2 with z | z
      · rw [z]; rfl
      · rcases List.mem_cons.mp hfR with y | y
        · rw [y]; rfl
        · exact (ltK_asym ((List.pairwise_cons.mp p2).1 f y) z).elim
def runI (law H : Nat) (f : Nat → Nat × Nat) (S R : List Nat) : List Nat := R.foldl (hearI law H f) S
/-- by what each one goes -/
def goneR (law H : Nat) (f : Nat → Nat × Nat) : List Nat → (Nat → Int32) → List Nat → (Nat → Int32)
  | _, gb, [] => gb
  | S, gb, k :: R => goneR law H f (hearI law H f S k) (gmark gb (goneI law H f S k) k) R
theorem hearI_len {law H : Nat} {f : Nat → Nat × Nat} {S : List Nat} {k : Nat} : (hearI law H f S k).length ≤ S.length + 1 := by
  unfold hearI
  cases hitO law (f k).1 (f k).2 H (S.map f) with
  | none => simp
  | some i =>
    by_cases a : law = 1
    · simp [a]; omega
    · simp [a, List.length_eraseIdx]; split <;> omega
theorem hearI_mem {law H : Nat} {f : Nat → Nat × Nat} {S : List Nat} {k x : Nat} (h : x ∈ hearI law H f S k) : x ∈ S ∨ x = k := by
  unfold hearI at h
  cases hk : hitO law (f k).1 (f k).2 H (S.map f) with
  | none => rw [hk] at h; simpa using h
  | some i =>
    rw [hk] at h
    by_cases a : law = 1
    · simp only [a, if_true] at h; exact Or.inl (List.mem_of_mem_take h)
    · simp only [a, if_false] at h; exact Or.inl (List.mem_of_mem_eraseIdx h)
theorem runI_mem {law H : Nat} {f : Nat → Nat × Nat} : ∀ {R S : List Nat} {x : Nat}, x ∈ runI law H f S R → x ∈ S ∨ x ∈ R := by
  intro R
  induction R with
  | nil => intro S x h; exact Or.inl h
  | cons k R ih =>
    intro S x h
    rcases ih (S := hearI law H f S k) h with z | z
    · rcases hearI_mem z with y | y
      · exact Or.inl y
      · exact Or.inr (by rw [y]; exact List.mem_cons_self)
    · exact Or.inr (List.mem_cons_of_mem _ z)
theorem runI_len {law H : Nat} {f : Nat → Nat × Nat} : ∀ {R S : List Nat}, (runI law H f S R).length ≤ S.length + R.length := by
  intro R
  induction R with
  | nil => intro S; exact Nat.le_refl _
  | cons k R ih =>
    intro S
    have h1 := ih (S := hearI law H f S k)
    have h2 := hearI_len (law := law) (H := H) (f := f) (S := S) (k := k)
    show (runI law H f (hearI law H f S k) R).length ≤ _
    rw [List.length_cons]; omega
section MPLAYS
variable {N n H law t : Nat} {book pl so mi wh : Nat → Int32} {f : Nat → Nat × Nat} {m : Nat → Nat}
theorem pl_loop (hA : MA n so wh f) (hW : MW n mi wh (fun k => (f k).2) m) (hn : n < 128) (hb1 : book 1 = nI H) (hb2 : book 2 = nI law) (hlaw : law < 3) (hH : H < 1000) (ht : t < 2147483648) (hN : n + 1 < N) {L : List Nat} (hL : Srt (fun k => (f k).2) m t n L) :
    ∀ (R pre : List Nat), pre ++ R = L → ∀ fu, R.length < fu → ∀ (ih gb st : Nat → Int32), MH n ih (fun k => decide (k ∈ pre)) → Rp st (runI law H f [] pre) →
    ∃ ih' st', g_X12_plays_L72 N book pl so mi (nI n) fu wh ih gb st (nI (runI law H f [] pre).length) (nI t) (oM R.head?) = some (wh, ih', goneR law H f (runI law H f [] pre) gb R, st', nI (runI law H f [] L).length) ∧ Rp st' (runI law H f [] L) := by
  intro R
  induction R with
  | nil =>
    intro pre hp fu hfu ih gb st hI hR
    obtain ⟨fv, rfl⟩ : ∃ fv, fu = fv + 1 := ⟨fu - 1, by simp at hfu; omega⟩
    rw [List.append_nil] at hp
    subst hp
    unfold g_X12_plays_L72
    rw [if_pos (show oM ([] : List Nat).head? = -4 from rfl)]
    exact ⟨ih, st, rfl, hR⟩
  | cons k R ihR =>
    intro pre hp fu hfu ih gb st hI hR
    obtain ⟨fv, rfl⟩ : ∃ fv, fu = fv + 1 := ⟨fu - 1, by simp at hfu; omega⟩
    have hkL : k ∈ L := by rw [← hp]; exact List.mem_append_right _ List.mem_cons_self
    have hk := (hL.2.1 k).mp hkL
    have hlen : pre.length + (R.length + 1) ≤ n := by
      have := hL.2.2
      rw [← hp, List.length_append, List.length_cons] at this
      omega
    have hSl := runI_len (law := law) (H := H) (f := f) (R := pre) (S := [])
    rw [List.length_nil, Nat.zero_add] at hSl
    have hpw := hL.1
    rw [← hp, List.pairwise_append] at hpw
    have hS : ∀ i ∈ runI law H f [] pre, i < n ∧ (f i).2 ≤ (f k).2 := by
      intro i hi
      have hip : i ∈ pre := by
        rcases runI_mem hi with z | z
        · cases z
        · exact z
      have h1 := (hL.2.1 i).mp (by rw [← hp]; exact List.mem_append_left _ hip)
      have h2 := hpw.2.2 i hip k List.mem_cons_self
      unfold ltK at h2
      dsimp only at h2
      exact ⟨h1.1, by omega⟩
    obtain ⟨st', h1, h2⟩ := pX12_hears (N := N) (ih := ih) (gb := gb) hA (by omega) hb1 hb2 hlaw hH hR hS hk.1 (by omega) (by omega)
    have hp' : (pre ++ [k]) ++ R = L := by rw [← hp]; simp
    have hrun : runI law H f [] (pre ++ [k]) = hearI law H f (runI law H f [] pre) k := by
      unfold runI; rw [List.foldl_append]; rfl
    have hI' : MH n (upd ih k 1) (fun x => decide (x ∈ pre ++ [k])) := by
      intro x hx
      unfold upd
      by_cases e : x = k
      · subst e; simp
      · rw [if_neg e, hI x hx]
        simp [e]
    have hnx := pX12_next (N := N) (t := t) (ih := upd ih k 1) hW hI' (by omega) ht (by omega)
    rw [nx_head (pre := pre ++ [k]) (R := R) (by rw [hp']; exact hL)] at hnx
    obtain ⟨ih2, st2, h3, h4⟩ := ihR (pre ++ [k]) hp' fv (by simp at hfu; omega) (upd ih k 1) (gmark gb (goneI law H f (runI law H f [] pre) k) k) st' hI' (by rw [hrun]; exact h2)
    refine ⟨ih2, st2, ?_, h4⟩
    unfold g_X12_plays_L72
    have o1 := (oM_some_nonneg (k := k) (by omega)).1
    rw [if_neg (show ¬ oM (k :: R).head? = -4 from o1), show oM (k :: R).head? = nI k from rfl, h1]
    simp only [Option.bind_some]
    rw [hnx]
    simp only [Option.bind_some]
    rw [hrun] at h3
    rw [h3]
    rfl
theorem pl_init (kk : (Nat → Int32) → (Nat → Int32) → (Nat → Int32) → (Nat → Int32) → Int32 → Int32 → Option ((Nat → Int32) × (Nat → Int32) × (Nat → Int32) × (Nat → Int32) × Int32)) (st : Nat → Int32) (sz x2 : Int32) {p P : Nat} (hp : p < P) (hP : P ≤ 5) {d : Nat → Nat → Nat} {w : Nat → Nat} {pf : Nat → Nat} (hn : n ≤ 128) (hd : ∀ a b, a < P → b < P → book (5 + 5 * a + b) = nI (d a b)) (hpl : ∀ k, k < n → pl k = nI (pf k) ∧ pf k < P ∧ mi k = nI (m k) ∧ w k = m k + d (pf k) p) :
    ∀ (e j : Nat), j + e = n → ∀ fu, e < fu → ∀ (wh ih gb : Nat → Int32), (∀ k, k < j → wh k = nI (w k) ∧ ih k = 0 ∧ gb k = -4) → ∃ wh' ih' gb', (∀ k, k < n → wh' k = nI (w k) ∧ ih' k = 0 ∧ gb' k = -4) ∧ g_X12_plays_L7 N book pl so mi (nI n) kk fu wh ih gb st sz (nI p) x2 (nI j) = kk wh' ih' gb' st sz x2 := by
  intro e
  induction e with
  | zero =>
    intro j hj fu hfu wh ih gb hA
    obtain ⟨fv, rfl⟩ : ∃ fv, fu = fv + 1 := ⟨fu - 1, by omega⟩
    have : j = n := by omega
    subst this
    refine ⟨wh, ih, gb, hA, ?_⟩
    unfold g_X12_plays_L7
    rw [if_pos ((nle (by omega) (by omega)).mpr (Nat.le_refl _))]
  | succ e ihe =>
    intro j hj fu hfu wh ih gb hA
    obtain ⟨fv, rfl⟩ : ∃ fv, fu = fv + 1 := ⟨fu - 1, by omega⟩
    obtain ⟨a1, a2, a3, a4⟩ := hpl j (by omega)
    obtain ⟨wh', ih', gb', h1, h2⟩ := ihe (j + 1) (by omega) fv (by omega) (upd wh j (nI (w j))) (upd ih j 0) (upd gb j (-4)) (fun k hk => by
      unfold upd
      by_cases z : k = j
      · subst z; simp
      · simp only [z, if_false]; exact hA k (by omega))
    refine ⟨wh', ih', gb', h1, ?_⟩
    unfold g_X12_plays_L7
    have e1 : 5 + 5 * nI (pf j) + nI p = nI (5 + 5 * pf j + p) := by rw [l5, pk_mul, nI_add, nI_add]
    rw [if_neg (by rw [nle (by omega) (by omega)]; omega), gi_nI (by omega) (by omega), gi_nI (by omega) (by omega), gi_nI (by omega) (by omega), gi_nI (by omega) (by omega), gi_nI (by omega) (by omega), nc (by omega), a1, e1, gi_nI (by omega) (by omega), nc (by omega), a3, hd _ _ a2 hp, nI_add, ← a4, vpn_z (Or.inl rfl), nI_1]
    exact h2
end MPLAYS
