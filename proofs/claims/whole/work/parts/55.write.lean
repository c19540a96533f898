/-! ===== write, wipe, add, noRow, tell, forget ===== -/
def RText (b : Nat → Int32) (sz : Int32) (tx : Nat → Int32) (ln : Int32) (T : List Nat) : Prop := T.length ≤ 300 ∧ sz = nI T.length ∧ ln = nI T.length ∧ (∀ x ∈ T, x < 256) ∧ ∀ (j x : Nat), T[j]? = some x → b j = (nI x).toInt8.toInt32 ∧ tx j = nI x
theorem RText.push {b : Nat → Int32} {sz : Int32} {tx : Nat → Int32} {ln : Int32} {T : List Nat} (h : RText b sz tx ln T) {c : Nat} (hc : c < 256) (hl : T.length < 300) : RText (upd b T.length (nI c).toInt8.toInt32) (sz + 1) (upd tx T.length (nI c)) (ln + 1) (T ++ [c]) := by
  obtain ⟨h1, rfl, rfl, h4, h5⟩ := h
  refine ⟨by simp; omega, by rw [nI_1]; simp, by rw [nI_1]; simp, fun z hz => ?_, fun j x hj => ?_⟩
  · rcases List.mem_append.mp hz with h | h
    · exact h4 z h
    · simp at h; omega
  · by_cases a : j = T.length
    · subst a
      rw [List.getElem?_append_right (Nat.le_refl _), Nat.sub_self] at hj
      cases hj
      simp [upd]
    · have hl : j < (T ++ [c]).length := (List.getElem?_eq_some_iff.mp hj).1
      rw [List.length_append, List.length_singleton] at hl
      rw [List.getElem?_append_left (by omega)] at hj
      have := h5 j x hj
      simpa [upd, a] using this
theorem sh_bits (x : BitVec 64) {s : Nat} (hs : s ≤ 56) : (x.sshiftRight s).setWidth 8 = (x >>> s).setWidth 8 := by
  apply BitVec.eq_of_getLsbD_eq
  intro i hi
  rw [BitVec.getLsbD_setWidth, BitVec.getLsbD_setWidth, BitVec.getLsbD_sshiftRight, BitVec.getLsbD_ushiftRight]
  have h1 : s + i < 64 := by omega
  have h2 : ¬ 64 ≤ i := by omega
  simp [h1, h2]
theorem wsh_u (x : Int64) : ∀ k, k < 8 → ((x.toUInt64 >>> ((nI (8 * k)).toInt64.toUInt64 &&& Int64.toUInt64 63)).toInt64).toBitVec.toNat = x.toBitVec.toNat / 2 ^ (8 * k) := by
  intro k hk
  have h1 : ∀ k, k < 8 → ((nI (8 * k)).toInt64.toUInt64 &&& Int64.toUInt64 63).toNat % 64 = 8 * k := by decide
  have h2 := UInt64.toNat_shiftRight x.toUInt64 ((nI (8 * k)).toInt64.toUInt64 &&& Int64.toUInt64 63)
  rw [h1 k hk, Nat.shiftRight_eq_div_pow] at h2
  exact h2
theorem wsh_s (x : Int64) : ∀ k, k < 8 → (x >>> ((nI (8 * k)).toInt64 &&& 63)).toBitVec = x.toBitVec.sshiftRight (8 * k) := by
  intro k hk
  have h1 : ∀ k, k < 8 → (((nI (8 * k)).toInt64 &&& 63).toBitVec.smod 64).toNat = 8 * k := by decide
  rw [Int64.toBitVec_shiftRight, BitVec.sshiftRight_eq', h1 k hk]
theorem wbyte (x : Int64) {k : Nat} (hk : k < 8) : ∃ b, b < 256 ∧ vp_nar .byte ((((x.toUInt64 >>> ((8 * nI k).toInt64.toUInt64 &&& Int64.toUInt64 63)).toInt64 : Int64).toInt32 : Int32).toInt8.toInt32) = (nI b).toInt8.toInt32 ∧ (((x >>> ((8 * nI k).toInt64 &&& 63)) &&& 255 : Int64).toInt32) = nI b := by
  have e8 : 8 * nI k = nI (8 * k) := by rw [l8, pk_mul]
  rw [e8, pk_vb]
  refine ⟨x.toBitVec.toNat / 2 ^ (8 * k) % 256, Nat.mod_lt _ (by omega), ?_, ?_⟩
  · have h1 : ((x.toUInt64 >>> ((nI (8 * k)).toInt64.toUInt64 &&& Int64.toUInt64 63)).toInt64.toInt32).toInt8 = (nI (x.toBitVec.toNat / 2 ^ (8 * k) % 256)).toInt8 := by
      apply Int8.toBitVec_inj.mp
      apply BitVec.eq_of_toNat_eq
      have e1 : ((x.toUInt64 >>> ((nI (8 * k)).toInt64.toUInt64 &&& Int64.toUInt64 63)).toInt64.toInt32).toInt8.toBitVec.toNat = ((x.toUInt64 >>> ((nI (8 * k)).toInt64.toUInt64 &&& Int64.toUInt64 63)).toInt64).toBitVec.toNat % 2 ^ 32 % 2 ^ 8 := by
        rw [Int32.toBitVec_toInt8, Int64.toBitVec_toInt32, BitVec.signExtend_eq_setWidth_of_le _ (by omega), BitVec.signExtend_eq_setWidth_of_le _ (by omega), BitVec.toNat_setWidth, BitVec.toNat_setWidth]
      have e2 : (nI (x.toBitVec.toNat / 2 ^ (8 * k) % 256)).toInt8.toBitVec.toNat = x.toBitVec.toNat / 2 ^ (8 * k) % 256 % 2 ^ 32 % 2 ^ 8 := by
        rw [Int32.toBitVec_toInt8, BitVec.signExtend_eq_setWidth_of_le _ (by omega), BitVec.toNat_setWidth]
        rfl
      rw [e1, e2, wsh_u x k hk]
      generalize x.toBitVec.toNat / 2 ^ (8 * k) = y
      omega
    rw [h1]
  · apply Int32.toBitVec_inj.mp
    apply BitVec.eq_of_toNat_eq
    have hb := congrArg BitVec.toNat (sh_bits x.toBitVec (s := 8 * k) (by omega))
    rw [BitVec.toNat_setWidth, BitVec.toNat_setWidth, BitVec.toNat_ushiftRight, Nat.shiftRight_eq_div_pow] at hb
    have e1 : (((x >>> ((nI (8 * k)).toInt64 &&& 63)) &&& 255 : Int64).toInt32).toBitVec.toNat = ((x.toBitVec.sshiftRight (8 * k)).toNat &&& 255) % 2 ^ 32 := by
      rw [Int64.toBitVec_toInt32, BitVec.signExtend_eq_setWidth_of_le _ (by omega), BitVec.toNat_setWidth, Int64.toBitVec_and, wsh_s x k hk, BitVec.toNat_and]
      rfl
    have e2 : (nI (x.toBitVec.toNat / 2 ^ (8 * k) % 256)).toBitVec.toNat = x.toBitVec.toNat / 2 ^ (8 * k) % 256 % 2 ^ 32 := rfl
    rw [e1, e2, show 255 = 2 ^ 8 - 1 from rfl, Nat.and_two_pow_sub_one_eq_mod, hb]
theorem wr_loop (N : Nat) (x : Int64) : ∀ (j : Nat), j ≤ 8 → ∀ (fu1 fu2 : Nat), j < fu1 → j < fu2 → ∀ (b tx : Nat → Int32) (T : List Nat), T.length + j ≤ 300 → RText b (nI T.length) tx (nI T.length) T →
    ∃ b' tx' T', g_X9_append_L19 N fu1 b (nI T.length) x (nI j - 1) = some (1, b', nI T'.length) ∧ g_X12_write_L32 N fu2 tx (nI T.length) x (nI j - 1) = some (nI T'.length, tx', nI T'.length) ∧ RText b' (nI T'.length) tx' (nI T'.length) T' := by
  intro j
  induction j with
  | zero =>
    intro _ fu1 fu2 h1 h2 b tx T hl hT
    obtain ⟨f1, rfl⟩ : ∃ f, fu1 = f + 1 := ⟨fu1 - 1, by omega⟩
    obtain ⟨f2, rfl⟩ : ∃ f, fu2 = f + 1 := ⟨fu2 - 1, by omega⟩
    unfold g_X9_append_L19 g_X12_write_L32
    rw [if_pos (by decide), if_pos (by decide)]
    exact ⟨b, tx, T, rfl, rfl, hT⟩
  | succ j ih =>
    intro hj fu1 fu2 h1 h2 b tx T hl hT
    obtain ⟨f1, rfl⟩ : ∃ f, fu1 = f + 1 := ⟨fu1 - 1, by omega⟩
    obtain ⟨f2, rfl⟩ : ∃ f, fu2 = f + 1 := ⟨fu2 - 1, by omega⟩
    obtain ⟨c, hc, e1, e2⟩ := wbyte x (k := j) (by omega)
    have hp := hT.push hc (by omega)
    rw [nI_1] at hp
    have hlen : (T ++ [c]).length = T.length + 1 := by simp
    have ih' := ih (by omega) f1 f2 (by omega) (by omega) _ _ (T ++ [c]) (by rw [hlen]; omega) (by rw [hlen]; exact hp)
    rw [hlen] at ih'
    have c3 : nI j + (-1) = nI j - 1 := by rw [Int32.sub_eq_add_neg]
    unfold g_X9_append_L19 g_X12_write_L32
    rw [nI_pred, if_neg (nI_pos (by omega)), if_neg (nI_pos (by omega)), gi_nI (by omega) (by omega), gi_nI (by omega) (by omega), nc (by omega), e1, e2, nI_1, c3]
    exact ih'
theorem t_write {N : Nat} (hN : 20 < N) {b tx : Nat → Int32} {sz ln : Int32} {T : List Nat} (h : RText b sz tx ln T) (x1 : Int32) (x2 : Int64) :
    ∃ v w, g_X11_write N b sz x1 x2 = some v ∧ g_X12_write N tx ln x1 x2 = some w ∧ v.1 = w.1 ∧ ∃ T', RText v.2.1 v.2.2 w.2.1 w.2.2 T' := by
  have h' := h
  obtain ⟨h1, rfl, rfl, h4, h5⟩ := h'
  unfold g_X11_write g_X12_write
  have hin : g_X12_in N x1 1 8 = some (if x1 < 1 then 0 else if x1 ≤ 8 then 1 else 0) := by
    unfold g_X12_in
    by_cases a : x1 < 1
    · rw [if_pos a, if_pos a]
    · rw [if_neg a, if_neg a]
      by_cases b : x1 ≤ 8
      · rw [if_neg (Int32.not_lt.mpr b), if_pos b]
      · rw [if_pos (Int32.not_le.mp b), if_neg b]
  rw [hin]
  by_cases a : x1 < 1
  · simp only [a, if_true, Option.bind_some]
    exact ⟨_, _, rfl, rfl, rfl, T, h⟩
  · by_cases b : x1 ≤ 8
    · simp only [a, b, if_true, if_false, Option.bind_some]
      rw [if_neg (show ¬ (1 : Int32) = 0 by decide)]
      obtain ⟨n, hn1, hn2, rfl⟩ : ∃ n, 1 ≤ n ∧ n ≤ 8 ∧ x1 = nI n := by
        rcases pk_ix x1 (show 9 < 2 ^ 31 by omega) with z | z | ⟨n, hn, rfl⟩
        · exact absurd (Int32.lt_of_lt_of_le z (by decide)) a
        · exact absurd (Int32.lt_of_lt_of_le (show (8 : Int32) < nI 9 by decide) z) (Int32.not_lt.mpr b)
        · refine ⟨n, ?_, by omega, rfl⟩
          rw [l1, nlt (by omega) (by omega)] at a; omega
      unfold g_X9_append
      rw [nI_add, l300]
      by_cases c : T.length + n ≤ 300
      · rw [if_pos ((nle (by omega) (by omega)).mpr c), if_pos ((nle (by omega) (by omega)).mpr c)]
        obtain ⟨b', tx', T', q1, q2, q3⟩ := wr_loop N x2 n hn2 N N (by omega) (by omega) _ _ T c h
        rw [q1, q2]
        simp only [Option.bind_some]
        rw [if_neg (show ¬ (1 : Int32) = 0 by decide)]
        exact ⟨_, _, rfl, rfl, rfl, T', q3⟩
      · rw [if_neg (fun z => c ((nle (by omega) (by omega)).mp z)), if_neg (fun z => c ((nle (by omega) (by omega)).mp z))]
        exact ⟨_, _, rfl, rfl, rfl, T, h⟩
    · simp only [a, b, if_true, if_false, Option.bind_some]
      exact ⟨_, _, rfl, rfl, rfl, T, h⟩
theorem t_wipe {N : Nat} {b tx : Nat → Int32} {sz ln : Int32} {T : List Nat} (h : RText b sz tx ln T) :
    ∃ v w, g_X11_wipe N sz = some v ∧ g_X12_wipe N ln = some w ∧ v.1 = w.1 ∧ ∃ T', RText b v.2 tx w.2 T' := by
  obtain ⟨h1, rfl, rfl, h4, h5⟩ := h
  exact ⟨_, _, rfl, rfl, rfl, [], by simp, rfl, rfl, fun x hx => by simp at hx, fun j x hj => by simp at hj⟩
theorem t_noRow {N : Nat} {a b : Nat → Int32} {n m : Int32} {l : List Nat} (h : RTold a n b m l) :
    ∃ v w, g_X11_noRow N n = some v ∧ g_X12_noRow N m = some w ∧ v.1 = w.1 ∧ ∃ l', RTold a v.2 b w.2 l' := by
  obtain ⟨h1, rfl, rfl, h4, h5⟩ := h
  exact ⟨_, _, rfl, rfl, rfl, [], by simp, rfl, rfl, fun j hj => absurd hj (by simp), fun x hx => by simp at hx⟩
