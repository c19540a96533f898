/-! ===== the reference: playsNow ===== -/
/-- the reference's row s: the beats and the minute -/
def SR (s : Nat → Int32) (B : List Be) (now : Nat) : Prop := s 0 = nI B.length ∧ s 1 = nI now ∧ ∀ k, k < B.length → s (2 + 3 * k) = nI (bP B k) ∧ s (3 + 3 * k) = nI (bS B k) ∧ s (4 + 3 * k) = nI (bM B k)
/-- the beats laid out by numbers -/
def TR (pl so mi : Nat → Int32) (B : List Be) : Prop := ∀ k, k < B.length → pl k = nI (bP B k) ∧ so k = nI (bS B k) ∧ mi k = nI (bM B k)
theorem pX12_tries (N : Nat) (pl so mi : Nat → Int32) {n : Nat} (hn : n < 128) (a b c : Int32) : g_X12_tries N pl so mi (nI n) a b c = some (upd pl n a, upd so n b, upd mi n c, nI (n + 1)) := by
  unfold g_X12_tries
  rw [gi_nI hn (by omega), gi_nI hn (by omega), gi_nI hn (by omega), nc (by omega), nI_1]
theorem pX12_starts {N : Nat} {s : Nat → Int32} {B : List Be} {now : Nat} (hs : SR s B now) (hB : B.length ≤ 24) (hN : B.length < N) (pl so mi : Nat → Int32) (many : Int32) :
    ∃ pl' so' mi', g_X12_starts N s pl so mi many = some (pl', so', mi', nI B.length) ∧ TR pl' so' mi' B := by
  unfold g_X12_starts
  suffices h : ∀ (e j : Nat), j + e = B.length → ∀ fu, e < fu → ∀ (pl so mi : Nat → Int32), (∀ k, k < j → pl k = nI (bP B k) ∧ so k = nI (bS B k) ∧ mi k = nI (bM B k)) → ∃ pl' so' mi', g_X12_starts_L7 N s fu pl so mi (nI j) (nI j) = some (pl', so', mi', nI B.length) ∧ TR pl' so' mi' B by
    exact h B.length 0 (by omega) N hN pl so mi (fun k hk => by omega)
  intro e
  induction e with
  | zero =>
    intro j hj fu hfu pl so mi hA
    obtain ⟨fv, rfl⟩ : ∃ fv, fu = fv + 1 := ⟨fu - 1, by omega⟩
    have : j = B.length := by omega
    subst this
    unfold g_X12_starts_L7
    rw [l0, gi_nI (by omega) (by omega), nc (by omega), hs.1, if_pos ((nle (by omega) (by omega)).mpr (Nat.le_refl _))]
    exact ⟨pl, so, mi, rfl, hA⟩
  | succ e ih =>
    intro j hj fu hfu pl so mi hA
    obtain ⟨fv, rfl⟩ : ∃ fv, fu = fv + 1 := ⟨fu - 1, by omega⟩
    obtain ⟨a1, a2, a3⟩ := hs.2.2 j (by omega)
    obtain ⟨pl', so', mi', h1, h2⟩ := ih (j + 1) (by omega) fv (by omega) (upd pl j (nI (bP B j))) (upd so j (nI (bS B j))) (upd mi j (nI (bM B j))) (fun k hk => by
      unfold upd
      by_cases z : k = j
      · subst z; simp
      · simp only [z, if_false]; exact hA k (by omega))
    refine ⟨pl', so', mi', ?_, h2⟩
    unfold g_X12_starts_L7
    have m2 : (2 : Int32) + 3 * nI j = nI (2 + 3 * j) := by rw [l2, l3, pk_mul, nI_add]
    have m3 : (3 : Int32) + 3 * nI j = nI (3 + 3 * j) := by rw [l3, pk_mul, nI_add]
    have m4 : (4 : Int32) + 3 * nI j = nI (4 + 3 * j) := by rw [l4, l3, pk_mul, nI_add]
    rw [m2, m3, m4, l0, gi_nI (by omega) (by omega), nc (by omega), hs.1, if_neg (by rw [nle (by omega) (by omega)]; omega), gi_nI (by omega) (by omega), gi_nI (by omega) (by omega), gi_nI (by omega) (by omega), nc (by omega), nc (by omega), nc (by omega), a1, a2, a3, pX12_tries N pl so mi (by omega)]
    simp only [Option.bind_some]
    rw [nI_1]
    exact h1
/-- delays in the reference's book -/
def DB (P : Nat) (book : Nat → Int32) (d : Nat → Nat → Nat) : Prop := ∀ a b, a < P → b < P → book (5 + 5 * a + b) = nI (d a b) ∧ d a b ≤ 60
/-- playing any beats (the minutes in order or not) by a sorted list -/
theorem pX12_plays {N P H law p t : Nat} {book pl so mi : Nat → Int32} {d : Nat → Nat → Nat} {B : List Be} (hd : DB P book d) (hp : p < P) (hP : P ≤ 5) (hb1 : book 1 = nI H) (hb2 : book 2 = nI law) (hlaw : law < 3) (hH : H < 1000) (ht : t < 2147483648) (hn : B.length < 128) (hN : B.length + 1 < N) (hT : TR pl so mi B) (hB : ∀ k, k < B.length → bP B k < P ∧ bS B k < 8 ∧ bM B k < 500000) {L : List Nat} (hL : Srt (bW d p B) (bM B) t B.length L) (wh ih gb st : Nat → Int32) (sz : Int32) :
    ∃ wh' ih' gb0 st', g_X12_plays N book pl so mi (nI B.length) wh ih gb st sz (nI p) (nI t) = some (wh', ih', goneR law H (bF d p B) [] gb0 L, st', nI (runI law H (bF d p B) [] L).length) ∧ Rp st' (runI law H (bF d p B) [] L) ∧ MA B.length so wh' (bF d p B) ∧ ∀ k, k < B.length → gb0 k = -4 := by
  unfold g_X12_plays
  obtain ⟨wh', ih', gb', h1, h2⟩ := pl_init (N := N) (n := B.length) (book := book) (pl := pl) (so := so) (mi := mi) (m := bM B) (g_X12_plays_b66 N book pl so mi (nI B.length)) st 0 (nI t) hp hP (d := d) (w := bW d p B) (pf := bP B) (by omega) (fun a b ha hb => (hd a b ha hb).1) (fun k hk => ⟨(hT k hk).1, (hB k hk).1, (hT k hk).2.2, rfl⟩) B.length 0 (by omega) N (by omega) wh ih gb (fun k hk => by omega)
  have h2' : g_X12_plays_L7 N book pl so mi (nI B.length) (g_X12_plays_b66 N book pl so mi (nI B.length)) N wh ih gb st 0 (nI p) (nI t) 0 = _ := h2
  rw [h2']
  have hW60 : ∀ k, k < B.length → bW d p B k < 1000000 := fun k hk => by
    have := (hd _ _ (hB k hk).1 hp).2
    have := (hB k hk).2.2
    unfold bW; omega
  have hA : MA B.length so wh' (bF d p B) := fun k hk => ⟨(hT k hk).2.1, (h1 k hk).1, (hB k hk).2.1, hW60 k hk⟩
  have hW : MW B.length mi wh' (fun k => (bF d p B k).2) (bM B) := fun k hk => ⟨(hT k hk).2.2, (h1 k hk).1, by have := (hB k hk).2.2; omega, hW60 k hk⟩
  have hI : MH B.length ih' (fun k => decide (k ∈ ([] : List Nat))) := fun k hk => by rw [(h1 k hk).2.1]; simp
  have hnx : g_X12_next N mi wh' ih' (nI B.length) (nI t) = some (oM (nxF (bW d p B) (bM B) (fun k => decide (k ∈ ([] : List Nat))) t B.length)) := pX12_next (N := N) (t := t) hW hI (by omega) ht (by omega)
  rw [nx_head (pre := []) (R := L) hL] at hnx
  obtain ⟨ih2, st2, h3, h4⟩ := pl_loop (N := N) (book := book) (pl := pl) (so := so) (mi := mi) (f := bF d p B) (m := bM B) hA hW hn hb1 hb2 hlaw hH ht hN hL L [] rfl N (by have := hL.2.2; omega) ih' gb' st hI (fun j x hj => by simp [runI] at hj)
  refine ⟨wh', ih2, gb', st2, ?_, h4, hA, fun k hk => (h1 k hk).2.2⟩
  unfold g_X12_plays_b66
  rw [hnx]
  simp only [Option.bind_some]
  exact h3
theorem pX12_playsNow {N P H law p t now : Nat} {book s : Nat → Int32} {d : Nat → Nat → Nat} {B : List Be} (hd : DB P book d) (hp : p < P) (hP : P ≤ 5) (hb1 : book 1 = nI H) (hb2 : book 2 = nI law) (hlaw : law < 3) (hH : H < 1000) (ht : t < 2147483648) (hs : SR s B now) (hB : BOk P B now) (hN : 200 < N) (pl so mi wh ih gb st : Nat → Int32) (many sz : Int32) :
    ∃ pl' so' mi' wh' ih' gb' st', g_X12_playsNow N book s pl so mi wh ih gb st many sz (nI p) (nI t) = some (pl', so', mi', wh', ih', gb', st', nI B.length, nI (stdB law H d p B t).length) ∧ TR pl' so' mi' B ∧ Rp st' (stdB law H d p B t) ∧ MA B.length so' wh' (bF d p B) := by
  have hl := hB.1
  obtain ⟨pl', so', mi', h1, h2⟩ := pX12_starts (N := N) hs hl (by omega) pl so mi many
  obtain ⟨wh', ih', gb0, st', h3, h4, h5, h6⟩ := pX12_plays (N := N) (t := t) hd hp hP hb1 hb2 hlaw hH ht (by omega) (by omega) h2 (fun k hk => by
    have := hB.at hk
    have := hB.2.2.2
    exact ⟨by omega, by omega, by omega⟩) (srt_of hB.mono t) wh ih gb st sz
  refine ⟨pl', so', mi', wh', ih', goneR law H (bF d p B) [] gb0 (ordT d p B t), st', ?_, h2, h4, h5⟩
  · unfold g_X12_playsNow
    rw [h1]
    simp only [Option.bind_some]
    rw [h3]
    rfl
