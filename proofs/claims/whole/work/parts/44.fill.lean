/-! ===== the beats into the queue; hearing the queue ===== -/
abbrev Be : Type := Nat × Nat × Nat
/-- the beats: place, sort, minute -/
def BR (bp bs bm : Nat → Int32) (B : List Be) : Prop := ∀ (j : Nat) (e : Be), B[j]? = some e → bp j = nI e.1 ∧ bs j = nI e.2.1 ∧ bm j = nI e.2.2
def DR (P : Nat) (mi : Nat → Int32) (d : Nat → Nat → Nat) : Prop := ∀ a b, a < P → b < P → mi (a * 5 + b) = nI (d a b) ∧ d a b ≤ 60
def qev (d : Nat → Nat → Nat) (p : Nat) (b : Be) : Qe := (b.2.1, b.2.2, b.2.2 + d b.1 p)
def queueS (d : Nat → Nat → Nat) (p : Nat) (B : List Be) : List Qe := (B.map (qev d p)).foldl insQ []
theorem queueS_len (d : Nat → Nat → Nat) (p : Nat) (B : List Be) : (queueS d p B).length = B.length := by
  unfold queueS
  suffices h : ∀ (E : List Qe) (Q : List Qe), (E.foldl insQ Q).length = Q.length + E.length by
    rw [h]; simp
  intro E
  induction E with
  | nil => intro Q; rfl
  | cons e E ih => intro Q; rw [List.foldl_cons, ih, insQ_len, List.length_cons]; omega
theorem insQ_mem {Q : List Qe} {e x : Qe} : x ∈ insQ Q e ↔ x = e ∨ x ∈ Q := by
  unfold insQ
  rw [List.mem_append, List.mem_cons]
  constructor
  · rintro (h | h | h)
    · exact Or.inr (List.mem_of_mem_take h)
    · exact Or.inl h
    · exact Or.inr (List.mem_of_mem_drop h)
  · rintro (h | h)
    · exact Or.inr (Or.inl h)
    · rw [← List.take_append_drop (stp Q e.2.2 Q.length) Q, List.mem_append] at h
      rcases h with h | h
      · exact Or.inl h
      · exact Or.inr (Or.inr h)
theorem queueS_mem {d : Nat → Nat → Nat} {p : Nat} {B : List Be} {x : Qe} : x ∈ queueS d p B ↔ ∃ b ∈ B, x = qev d p b := by
  unfold queueS
  suffices h : ∀ (E : List Qe) (Q : List Qe), x ∈ E.foldl insQ Q ↔ x ∈ Q ∨ x ∈ E by
    rw [h]; simp [eq_comm]
  intro E
  induction E with
  | nil => intro Q; simp
  | cons e E ih =>
    intro Q
    rw [List.foldl_cons, ih, insQ_mem, List.mem_cons]
    constructor
    · rintro ((h | h) | h)
      · exact Or.inr (Or.inl h)
      · exact Or.inl h
      · exact Or.inr (Or.inr h)
    · rintro (h | h | h)
      · exact Or.inl (Or.inr h)
      · exact Or.inl (Or.inl h)
      · exact Or.inr h
theorem pX2_minutesBetween (N P : Nat) {mi : Nat → Int32} {d : Nat → Nat → Nat} (hd : DR P mi d) (hP : P ≤ 5) {a b : Nat} (ha : a < P) (hb : b < P) : g_X2_minutesBetween N (nI P) mi (nI a) (nI b) = some (nI (d a b)) := by
  unfold g_X2_minutesBetween
  rw [pX2_isPlace, pX2_isPlace, (ixB_iff (by omega)).mpr ⟨a, ha, rfl⟩, (ixB_iff (by omega)).mpr ⟨b, hb, rfl⟩]
  have e1 : nI a * 5 + nI b = nI (a * 5 + b) := by rw [l5, pk_mul, nI_add]
  simp only [Option.bind_some, if_true]
  rw [if_neg (by decide), if_neg (by decide), e1, gi_nI (by omega) (by omega), nc (by omega), (hd a b ha hb).1]
theorem pX3_fillFrom (N n P : Nat) {mi : Nat → Int32} {d : Nat → Nat → Nat} (hd : DR P mi d) (hP : P ≤ 5) {bp bs bm : Nat → Int32} {B : List Be} (hB : BR bp bs bm B) (hb : ∀ e ∈ B, e.1 < P ∧ e.2.2 < 20000) (hn : B.length ≤ n) (hn2 : n < 1000) (hB24 : B.length ≤ 24) (hN : B.length < N) {p : Nat} (hp : p < P) (qs qd qh : Nat → Int32) (qz : Int32) :
    ∃ qs' qd' qh', g_X3_fillFrom N n bp bs bm (nI B.length) (nI P) mi qs qd qh qz (nI p) = some (qs', qd', qh', nI B.length) ∧ QR qs' qd' qh' (queueS d p B) := by
  unfold g_X3_fillFrom
  suffices h : ∀ (m i : Nat), i + m = B.length → ∀ fu, m < fu → ∀ (Q : List Qe) (qs qd qh : Nat → Int32), QR qs qd qh Q → Q.length = i → (∀ e ∈ Q, e.2.2 < 1000000) → ∃ qs' qd' qh', g_X3_fillFrom_L8 N n bp bs bm (nI B.length) (nI P) mi fu qs qd qh (nI i) (nI p) (nI i) = some (qs', qd', qh', nI B.length) ∧ QR qs' qd' qh' (((B.drop i).map (qev d p)).foldl insQ Q) by
    have := h B.length 0 (by omega) N (by omega) [] qs qd qh (fun j e hj => by simp at hj) rfl (fun e he => by simp at he)
    rw [List.drop_zero] at this
    exact this
  intro m
  induction m with
  | zero =>
    intro i hi fu hfu Q qs qd qh hQ hl hq
    obtain ⟨f, rfl⟩ : ∃ f, fu = f + 1 := ⟨fu - 1, by omega⟩
    have : i = B.length := by omega
    subst this
    unfold g_X3_fillFrom_L8
    rw [if_pos ((nle (by omega) (by omega)).mpr (Nat.le_refl _)), List.drop_length]
    exact ⟨qs, qd, qh, rfl, hQ⟩
  | succ m ih =>
    intro i hi fu hfu Q qs qd qh hQ hl hq
    obtain ⟨f, rfl⟩ : ∃ f, fu = f + 1 := ⟨fu - 1, by omega⟩
    obtain ⟨e, he0⟩ : ∃ e, B[i]? = some e := ⟨B[i], List.getElem?_eq_getElem (by omega)⟩
    have hm := List.mem_of_getElem? he0
    obtain ⟨b1, b2, b3⟩ := hB i e he0
    obtain ⟨c1, c2⟩ := hb e hm
    have hd60 := (hd e.1 p c1 hp).2
    obtain ⟨qs', qd', qh', h1, h2⟩ := pX3_insert N n hQ hq (by omega) hn2 (qev d p e) (by show e.2.2 + d e.1 p < 1000000; omega) (by omega)
    have hdrop : (B.drop i).map (qev d p) = qev d p e :: (B.drop (i + 1)).map (qev d p) := by
      rw [← List.map_cons, List.drop_eq_getElem?_toList_append, he0]; rfl
    obtain ⟨rs, rd, rh, h3, h4⟩ := ih (i + 1) (by omega) f (by omega) (insQ Q (qev d p e)) qs' qd' qh' h2 (by rw [insQ_len, hl]) (fun x hx => by
      rcases insQ_mem.mp hx with h | h
      · rw [h]; show e.2.2 + d e.1 p < 1000000; omega
      · exact hq x h)
    refine ⟨rs, rd, rh, ?_, by rw [hdrop]; exact h4⟩
    unfold g_X3_fillFrom_L8
    rw [if_neg (by rw [nle (by omega) (by omega)]; omega), gi_nI (by omega) (by omega), gi_nI (by omega) (by omega), gi_nI (by omega) (by omega), nc (by omega), b1, b2, b3, pX2_minutesBetween N P hd hP c1 hp]
    simp only [Option.bind_some]
    rw [nI_add, ← hl]
    have h1' : g_X3_insert N n qs qd qh (nI Q.length) (nI e.2.1) (nI e.2.2) (nI (e.2.2 + d e.1 p)) = some (qs', qd', qh', nI (insQ Q (qev d p e)).length) := h1
    rw [h1']
    simp only [Option.bind_some]
    rw [insQ_len, hl, nI_1]
    exact h3
/-- the queue's events for the class: sort, heard, and the place in the queue as mark -/
def evQ (Q : List Qe) : List Tr := Q.zipIdx.map (fun z => (z.1.1, z.1.2.2, nI z.2))
def runC (law H : Nat) (l : List Tr) (E : List Tr) : List Tr := E.foldl (hearC law H) l
theorem runC_len {law H : Nat} : ∀ {E l : List Tr}, (runC law H l E).length ≤ l.length + E.length := by
  intro E
  induction E with
  | nil => intro l; exact Nat.le_refl _
  | cons e E ih =>
    intro l
    have h1 := ih (l := hearC law H l e)
    have h2 := hearC_len (law := law) (H := H) (l := l) (e := e)
    show (runC law H (hearC law H l e) E).length ≤ _
    rw [List.length_cons]; omega
/-- how many more are heard to the minute T, from i on -/
def toHear (Q : List Qe) (T i : Nat) : Nat := ((Q.drop i).takeWhile (fun e => decide (e.2.2 ≤ T))).length
theorem pX5_hearTo {N n m H law : Nat} {qs qd qh : Nat → Int32} {Q : List Qe} (hQ : QR qs qd qh Q) (hs : Q.Pairwise (fun a b => a.2.2 ≤ b.2.2)) (hq : ∀ e ∈ Q, e.1 < 8 ∧ e.2.2 < 1000000) (hm : Q.length ≤ m) (hm2 : m < 1000) (hn2 : n < 1000) (hH : H < 1000) (hlaw : law < 3) (T : Nat) (hT : T < 2147483648) :
    ∀ (k i : Nat), i + k = Q.length → k < N → ∀ (so ma he : Nat → Int32) (l : List Tr), RowR so ma he l → (∀ q ∈ Q.drop i, RowOk l q.2.2) → l.length + k ≤ n → l.length + k < N →
    ∃ so' ma' he', g_X5_hearTo N n m (nI H) (nI law) qs qh (nI Q.length) so ma (nI l.length) he (nI i) (nI T) = some (so', ma', nI (runC law H l (((evQ Q).drop i).take (toHear Q T i))).length, he', nI (i + toHear Q T i)) ∧ RowR so' ma' he' (runC law H l (((evQ Q).drop i).take (toHear Q T i))) := by
  intro k i hik hkN so ma he l hr hok hln hlN
  unfold g_X5_hearTo
  suffices h : ∀ (k i : Nat), i + k = Q.length → ∀ fu, k < fu → ∀ (so ma he : Nat → Int32) (l : List Tr), RowR so ma he l → (∀ q ∈ Q.drop i, RowOk l q.2.2) → l.length + k ≤ n → l.length + k < N →
      ∃ so' ma' he', g_X5_hearTo_L0 N n m (nI H) (nI law) qs qh (nI Q.length) fu so ma (nI l.length) he (nI i) (nI T) = some (so', ma', nI (runC law H l (((evQ Q).drop i).take (toHear Q T i))).length, he', nI (i + toHear Q T i)) ∧ RowR so' ma' he' (runC law H l (((evQ Q).drop i).take (toHear Q T i))) by
    exact h k i hik N hkN so ma he l hr hok hln hlN
  clear hik hkN hr hok hln hlN
  clear so ma he l k i
  intro k
  induction k with
  | zero =>
    intro i hi fu hfu so ma he l hr hok hln hlN
    obtain ⟨f, rfl⟩ : ∃ f, fu = f + 1 := ⟨fu - 1, by omega⟩
    have : i = Q.length := by omega
    subst this
    have e0 : toHear Q T Q.length = 0 := by unfold toHear; rw [List.drop_length]; rfl
    rw [e0, List.take_zero]
    unfold g_X5_hearTo_L0
    rw [if_pos ((nle (by omega) (by omega)).mpr (Nat.le_refl _))]
    exact ⟨so, ma, he, rfl, hr⟩
  | succ k ih =>
    intro i hi fu hfu so ma he l hr hok hln hlN
    obtain ⟨f, rfl⟩ : ∃ f, fu = f + 1 := ⟨fu - 1, by omega⟩
    obtain ⟨e, he0⟩ : ∃ e, Q[i]? = some e := ⟨Q[i], List.getElem?_eq_getElem (by omega)⟩
    obtain ⟨q1, q2, q3⟩ := hQ i e he0
    obtain ⟨c1, c2⟩ := hq e (List.mem_of_getElem? he0)
    have hdrop : Q.drop i = e :: Q.drop (i + 1) := by rw [List.drop_eq_getElem?_toList_append, he0]; rfl
    have hevd : (evQ Q).drop i = (e.1, e.2.2, nI i) :: (evQ Q).drop (i + 1) := by
      have : (evQ Q)[i]? = some (e.1, e.2.2, nI i) := by
        unfold evQ
        rw [List.getElem?_map, List.getElem?_zipIdx, he0]
        simp
      rw [List.drop_eq_getElem?_toList_append, this]; rfl
    unfold g_X5_hearTo_L0
    rw [if_neg (by rw [nle (by omega) (by omega)]; omega), gi_nI (by omega) (by omega), nc (by omega), q3]
    by_cases a : e.2.2 ≤ T
    · have e1 : toHear Q T i = toHear Q T (i + 1) + 1 := by
        unfold toHear
        rw [hdrop, List.takeWhile_cons_of_pos (by simpa using a), List.length_cons]
      have hoke : RowOk l e.2.2 := hok e (by rw [hdrop]; exact List.mem_cons_self)
      obtain ⟨so', ma', he', h1, h2⟩ := pX5_hear (N := N) (n := n) (H := H) (law := law) hr (e.1, e.2.2, nI i) hoke (by omega) hn2 (by show e.2.2 < _; omega) hH c1 hlaw (by omega)
      have hlen := hearC_len (law := law) (H := H) (l := l) (e := ((e.1, e.2.2, nI i) : Tr))
      obtain ⟨so2, ma2, he2, h3, h4⟩ := ih (i + 1) (by omega) f (by omega) so' ma' he' (hearC law H l (e.1, e.2.2, nI i)) h2 (fun q hq2 => by
        have h5 := hearC_ok (law := law) (H := H) (e := ((e.1, e.2.2, nI i) : Tr)) hoke rfl c1
        refine h5.mono ?_
        rw [hdrop] at hok
        have h6 := hs
        rw [← List.take_append_drop i Q, hdrop, List.pairwise_append] at h6
        exact (List.pairwise_cons.mp h6.2.1).1 q hq2) (by omega) (by omega)
      rw [if_neg (by rw [nlt (by omega) (by omega)]; omega), gi_nI (by omega) (by omega), gi_nI (by omega) (by omega), q1]
      have h1' : g_X5_hear N n (nI H) (nI law) so ma (nI l.length) he (nI e.1) (nI e.2.2) (nI i) = some (so', ma', nI (hearC law H l (e.1, e.2.2, nI i)).length, he') := h1
      rw [h1']
      simp only [Option.bind_some]
      rw [nI_1, e1, hevd, List.take_succ_cons]
      refine ⟨so2, ma2, he2, ?_, h4⟩
      rw [h3, show i + (toHear Q T (i + 1) + 1) = i + 1 + toHear Q T (i + 1) by omega]
      rfl
    · have e1 : toHear Q T i = 0 := by
        unfold toHear
        rw [hdrop, List.takeWhile_cons_of_neg (by simpa using a)]
        rfl
      rw [e1, List.take_zero, if_pos (by rw [nlt (by omega) (by omega)]; omega)]
      exact ⟨so, ma, he, rfl, hr⟩
