/-! ===== the queue: what is heard at a place, in the order of hearing ===== -/
abbrev Qe : Type := Nat × Nat × Nat
def QR (qs qd qh : Nat → Int32) (Q : List Qe) : Prop := ∀ (j : Nat) (e : Qe), Q[j]? = some e → qs j = nI e.1 ∧ qd j = nI e.2.1 ∧ qh j = nI e.2.2
/-- where one that is heard at h comes, seen from i -/
def stp (Q : List Qe) (h : Nat) : Nat → Nat
  | 0 => 0
  | i + 1 => match Q[i]? with
    | some e => if e.2.2 ≤ h then i + 1 else stp Q h i
    | none => i + 1
def insQ (Q : List Qe) (e : Qe) : List Qe := Q.take (stp Q e.2.2 Q.length) ++ e :: Q.drop (stp Q e.2.2 Q.length)
theorem stp_le (Q : List Qe) (h : Nat) : ∀ i, stp Q h i ≤ i := by
  intro i
  induction i with
  | zero => exact Nat.le_refl _
  | succ i ih =>
    unfold stp
    split
    · split
      · exact Nat.le_refl _
      · omega
    · exact Nat.le_refl _
theorem insQ_len (Q : List Qe) (e : Qe) : (insQ Q e).length = Q.length + 1 := by
  unfold insQ
  have := stp_le Q e.2.2 Q.length
  simp; omega
/-- all behind i up to m, a place to the right -/
def shr (f : Nat → Int32) (i m : Nat) : Nat → Int32 := fun j => if i < j ∧ j ≤ m then f (j - 1) else f j
theorem shr_0 (f : Nat → Int32) (m : Nat) : shr f m m = f := by
  funext j; unfold shr; rw [if_neg (by omega)]
theorem shr_at (f : Nat → Int32) {i m : Nat} : shr f (i + 1) m i = f i := by
  unfold shr; rw [if_neg (by omega)]
theorem shr_1 (f : Nat → Int32) {i m : Nat} (h : i + 1 ≤ m) : upd (shr f (i + 1) m) (i + 1) (shr f (i + 1) m i) = shr f i m := by
  funext j
  rw [shr_at]
  unfold upd shr
  by_cases a : j = i + 1
  · subst a; rw [if_pos rfl, if_pos (by omega)]; rfl
  · by_cases b : i + 1 < j ∧ j ≤ m
    · rw [if_neg a, if_pos b, if_pos (by omega)]
    · rw [if_neg a, if_neg b, if_neg (by omega)]
theorem in_loop (N n : Nat) (qs qd qh : Nat → Int32) (Q : List Qe) (hr : QR qs qd qh Q) (hq : ∀ e ∈ Q, e.2.2 < 1000000) (kk : (Nat → Int32) → (Nat → Int32) → (Nat → Int32) → Int32 → Int32 → Int32 → Int32 → Int32 → Option ((Nat → Int32) × (Nat → Int32) × (Nat → Int32) × Int32)) (hn : Q.length < n) (hn2 : n < 1000) (x1 x2 : Int32) (h : Nat) (hh : h < 1000000) :
    ∀ i, i ≤ Q.length → ∀ fu, i < fu → g_X3_insert_L19 N n kk fu (shr qs i Q.length) (shr qd i Q.length) (shr qh i Q.length) (nI Q.length) x1 x2 (nI h) (nI i) = kk (shr qs (stp Q h i) Q.length) (shr qd (stp Q h i) Q.length) (shr qh (stp Q h i) Q.length) (nI Q.length) x1 x2 (nI h) (nI (stp Q h i)) := by
  intro i
  induction i with
  | zero =>
    intro _ fu hfu
    obtain ⟨f, rfl⟩ : ∃ f, fu = f + 1 := ⟨fu - 1, by omega⟩
    unfold g_X3_insert_L19
    rw [if_pos (by decide)]
    rfl
  | succ i ih =>
    intro hi fu hfu
    obtain ⟨f, rfl⟩ : ∃ f, fu = f + 1 := ⟨fu - 1, by omega⟩
    obtain ⟨e, he0⟩ : ∃ e, Q[i]? = some e := ⟨Q[i], List.getElem?_eq_getElem (by omega)⟩
    have hb := hq e (List.mem_of_getElem? he0)
    unfold g_X3_insert_L19
    rw [if_neg (by rw [l0, nle (by omega) (by omega)]; omega), nI_pred, gi_nI (by omega) (by omega), nc (by omega), shr_at, (hr i e he0).2.2]
    have e1 : stp Q h (i + 1) = if e.2.2 ≤ h then i + 1 else stp Q h i := by
      conv => lhs; unfold stp
      rw [he0]
    rw [e1]
    by_cases a : e.2.2 ≤ h
    · rw [if_pos ((nle (by omega) (by omega)).mpr a), if_pos a]
    · rw [if_neg (fun z => a ((nle (by omega) (by omega)).mp z)), if_neg a, gi_nI (by omega) (by omega), gi_nI (by omega) (by omega), gi_nI (by omega) (by omega), gi_nI (by omega) (by omega), gi_nI (by omega) (by omega), gi_nI (by omega) (by omega), nc (by omega), ndec (by omega), Nat.add_sub_cancel]
      have r1 := shr_1 qs (i := i) (m := Q.length) hi
      have r2 := shr_1 qd (i := i) (m := Q.length) hi
      have r3 := shr_1 qh (i := i) (m := Q.length) hi
      rw [shr_at] at r1 r2 r3
      simp only [shr_at]
      rw [(hr i e he0).2.2] at r3
      first | rw [r1, r2, r3] | simp only [r1, r2, r3, (hr i e he0).2.2]
      exact ih (by omega) f (by omega)
theorem QR.ins {qs qd qh : Nat → Int32} {Q : List Qe} (h : QR qs qd qh Q) (e : Qe) {i : Nat} (hi : i ≤ Q.length) : QR (upd (shr qs i Q.length) i (nI e.1)) (upd (shr qd i Q.length) i (nI e.2.1)) (upd (shr qh i Q.length) i (nI e.2.2)) (Q.take i ++ e :: Q.drop i) := by
  intro j x hj
  have hlt : (Q.take i).length = i := by rw [List.length_take]; omega
  by_cases a : j < i
  · rw [List.getElem?_append_left (by omega), List.getElem?_take_of_lt a] at hj
    have := h j x hj
    unfold upd shr
    rw [if_neg (by omega), if_neg (by omega), if_neg (by omega), if_neg (by omega), if_neg (by omega), if_neg (by omega)]
    exact this
  · rw [List.getElem?_append_right (by omega), hlt] at hj
    by_cases b : j = i
    · subst b
      rw [Nat.sub_self] at hj
      cases hj
      simp [upd]
    · obtain ⟨d, rfl⟩ : ∃ d, j = i + (d + 1) := ⟨j - i - 1, by omega⟩
      rw [show i + (d + 1) - i = d + 1 by omega, List.getElem?_cons_succ, List.getElem?_drop] at hj
      have hl := (List.getElem?_eq_some_iff.mp hj).1
      have := h (i + d) x hj
      unfold upd shr
      rw [if_neg (by omega), if_pos (by omega), if_neg (by omega), if_pos (by omega), if_neg (by omega), if_pos (by omega)]
      exact this
theorem pX3_insert (N n : Nat) {qs qd qh : Nat → Int32} {Q : List Qe} (hr : QR qs qd qh Q) (hq : ∀ e ∈ Q, e.2.2 < 1000000) (hn : Q.length < n) (hn2 : n < 1000) (e : Qe) (hh : e.2.2 < 1000000) (hN : Q.length < N) :
    ∃ qs' qd' qh', g_X3_insert N n qs qd qh (nI Q.length) (nI e.1) (nI e.2.1) (nI e.2.2) = some (qs', qd', qh', nI (insQ Q e).length) ∧ QR qs' qd' qh' (insQ Q e) := by
  have hst := stp_le Q e.2.2 Q.length
  refine ⟨_, _, _, ?_, hr.ins e hst⟩
  unfold g_X3_insert
  rw [if_pos ((nlt (by omega) (by omega)).mpr hn)]
  have h1 := in_loop N n qs qd qh Q hr hq (g_X3_insert_b91 N n) hn hn2 (nI e.1) (nI e.2.1) e.2.2 hh Q.length (Nat.le_refl _) N hN
  rw [shr_0, shr_0, shr_0] at h1
  rw [h1]
  unfold g_X3_insert_b91
  rw [gi_nI (by omega) (by omega), gi_nI (by omega) (by omega), gi_nI (by omega) (by omega), nc (by omega), nI_1, insQ_len]
