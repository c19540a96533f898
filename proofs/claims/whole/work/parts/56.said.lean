/-! ===== said ===== -/
theorem hearI_sub {law H : Nat} {f : Nat → Nat × Nat} {S : List Nat} {k : Nat} : (hearI law H f S k).Sublist (S ++ [k]) := by
  unfold hearI
  cases hitO law (f k).1 (f k).2 H (S.map f) with
  | none => exact List.Sublist.refl _
  | some i =>
    by_cases a : law = 1
    · simp only [a, if_true]; exact (List.take_sublist _ _).trans (List.sublist_append_left _ _)
    · simp only [a, if_false]; exact (List.eraseIdx_sublist _ _).trans (List.sublist_append_left _ _)
theorem runI_sub {law H : Nat} {f : Nat → Nat × Nat} : ∀ {R S : List Nat}, (runI law H f S R).Sublist (S ++ R) := by
  intro R
  induction R with
  | nil => intro S; rw [List.append_nil]; exact List.Sublist.refl _
  | cons k R ih =>
    intro S
    have h1 := ih (S := hearI law H f S k)
    have h2 := (hearI_sub (law := law) (H := H) (f := f) (S := S) (k := k)).append (List.Sublist.refl R)
    rw [List.append_assoc] at h2
    exact h1.trans h2
theorem stdB_sub (law H : Nat) (d : Nat → Nat → Nat) (p : Nat) (B : List Be) (t : Nat) : (stdB law H d p B t).Sublist (ordT d p B t) := by
  have := runI_sub (law := law) (H := H) (f := bF d p B) (R := ordT d p B t) (S := [])
  rwa [List.nil_append] at this
theorem ordT_sub (d : Nat → Nat → Nat) (p : Nat) (B : List Be) (t : Nat) : (ordT d p B t).Sublist (ordB d p B) := List.takeWhile_sublist _
theorem stdB_len {P now : Nat} {B : List Be} (hB : BOk P B now) (law H : Nat) (d : Nat → Nat → Nat) (p t : Nat) : (stdB law H d p B t).length ≤ 24 := by
  have h1 := (stdB_sub law H d p B t).length_le
  have h2 := (ordT_sub d p B t).length_le
  have h3 := (ordB_spec hB d p).2.2
  have h4 := hB.1
  omega
theorem stdB_pw {P now : Nat} {B : List Be} (hB : BOk P B now) (law H : Nat) (d : Nat → Nat → Nat) (p t : Nat) : (stdB law H d p B t).Pairwise (ltK (bW d p B) (bM B)) :=
  (ordB_spec hB d p).1.sublist ((stdB_sub law H d p B t).trans (ordT_sub d p B t))
theorem stdB_mem {P now : Nat} {B : List Be} (hB : BOk P B now) {law H : Nat} {d : Nat → Nat → Nat} {p t k : Nat} (h : k ∈ stdB law H d p B t) : k < B.length ∧ bW d p B k ≤ t := by
  have h6 := (stdB_sub law H d p B t).subset h
  exact ((srt_of (W := bW d p B) hB.mono t).2.1 k).mp h6
theorem pX5_howManySaid {N n H t : Nat} {so ma he : Nat → Int32} {l : List Tr} (hr : RowR so ma he l) (hl : l.length ≤ n) (hn : n < 1000) (ht : ∀ e ∈ l, e.2.1 ≤ t) (ht2 : t < 1000000) (hH : H < 1000) (hN : n < N) :
    g_X5_howManySaid N n (nI H) (nI l.length) he (nI t) = some (nI (l.takeWhile (fun e => decide (e.2.1 + H ≤ t))).length) := by
  unfold g_X5_howManySaid
  suffices h : ∀ (m j : Nat), j + m = l.length → ∀ fu, m < fu → g_X5_howManySaid_L2 N n (nI H) (nI l.length) he fu (nI t) (nI j) = some (nI (j + ((l.drop j).takeWhile (fun e => decide (e.2.1 + H ≤ t))).length)) by
    have := h l.length 0 (by omega) N (by omega)
    rw [List.drop_zero, Nat.zero_add] at this
    exact this
  intro m
  induction m with
  | zero =>
    intro j hj fu hfu
    obtain ⟨fv, rfl⟩ : ∃ fv, fu = fv + 1 := ⟨fu - 1, by omega⟩
    have : j = l.length := by omega
    subst this
    unfold g_X5_howManySaid_L2
    rw [if_pos ((nle (by omega) (by omega)).mpr (Nat.le_refl _)), List.drop_length]
    rfl
  | succ m ih =>
    intro j hj fu hfu
    obtain ⟨fv, rfl⟩ : ∃ fv, fu = fv + 1 := ⟨fu - 1, by omega⟩
    obtain ⟨e, he0⟩ : ∃ e, l[j]? = some e := ⟨l[j], List.getElem?_eq_getElem (by omega)⟩
    have het := ht e (List.mem_of_getElem? he0)
    have hdrop : l.drop j = e :: l.drop (j + 1) := by rw [List.drop_eq_getElem?_toList_append, he0]; rfl
    unfold g_X5_howManySaid_L2
    rw [if_neg (by rw [nle (by omega) (by omega)]; omega), gi_nI (by omega) (by omega), nc (by omega), (hr j e he0).2.1, nsub het, hdrop]
    by_cases a : e.2.1 + H ≤ t
    · rw [if_neg (by rw [nlt (by omega) (by omega)]; omega), nI_1, ih (j + 1) (by omega) fv (by omega), List.takeWhile_cons_of_pos (by simpa using a), List.length_cons]
      rw [show j + 1 + ((l.drop (j + 1)).takeWhile (fun e => decide (e.2.1 + H ≤ t))).length = j + (((l.drop (j + 1)).takeWhile (fun e => decide (e.2.1 + H ≤ t))).length + 1) by omega]
    · rw [if_pos (by rw [nlt (by omega) (by omega)]; omega), List.takeWhile_cons_of_neg (by simpa using a)]
      rfl
theorem pX12_says {N n H t : Nat} {book so wh : Nat → Int32} {f : Nat → Nat × Nat} {S : List Nat} (hA : MA n so wh f) (hn : n ≤ 128) (hb1 : book 1 = nI H) (hH : H < 1000) (ht : t < 1000000) (hS : ∀ i ∈ S, i < n ∧ (f i).2 ≤ t) (hl : S.length < 128) (hN : 200 < N) {st : Nat → Int32} (hR : Rp st S) :
    ∃ st', g_X12_says N book wh (nI S.length) st (nI t) = some (nI (S.filter (fun i => decide ((f i).2 + H ≤ t))).length, st') ∧ Rp st' (S.filter (fun i => decide ((f i).2 + H ≤ t))) := by
  unfold g_X12_says
  suffices h : ∀ (m j : Nat), j + m = S.length → ∀ fu, m < fu → ∀ (st : Nat → Int32), Rp st ((S.take j).filter (fun i => decide ((f i).2 + H ≤ t))) → (∀ k x, j ≤ k → S[k]? = some x → st k = nI x) → ∃ st', g_X12_says_L4 N book wh (nI S.length) fu st (nI t) (nI ((S.take j).filter (fun i => decide ((f i).2 + H ≤ t))).length) (nI j) = some (nI (S.filter (fun i => decide ((f i).2 + H ≤ t))).length, st') ∧ Rp st' (S.filter (fun i => decide ((f i).2 + H ≤ t))) by
    exact h S.length 0 (by omega) N (by omega) st (fun j x hj => by simp at hj) (fun k x _ hk => hR k x hk)
  intro m
  induction m with
  | zero =>
    intro j hj fu hfu st h1 h2
    obtain ⟨fv, rfl⟩ : ∃ fv, fu = fv + 1 := ⟨fu - 1, by omega⟩
    have : j = S.length := by omega
    subst this
    rw [List.take_length] at h1 ⊢
    unfold g_X12_says_L4
    rw [if_pos ((nle (by omega) (by omega)).mpr (Nat.le_refl _))]
    exact ⟨st, rfl, h1⟩
  | succ m ih =>
    intro j hj fu hfu st h1 h2
    obtain ⟨fv, rfl⟩ : ∃ fv, fu = fv + 1 := ⟨fu - 1, by omega⟩
    obtain ⟨x, hx0⟩ : ∃ x, S[j]? = some x := ⟨S[j], List.getElem?_eq_getElem (by omega)⟩
    obtain ⟨c1, c2⟩ := hS x (List.mem_of_getElem? hx0)
    obtain ⟨s1, s2, s3, s4⟩ := hA x c1
    have hc : ((S.take j).filter (fun i => decide ((f i).2 + H ≤ t))).length ≤ j := by
      have := List.length_filter_le (fun i => decide ((f i).2 + H ≤ t)) (S.take j)
      rw [List.length_take] at this; omega
    have htk : S.take (j + 1) = S.take j ++ [x] := by rw [List.take_succ, hx0]; rfl
    have hih := ih (j + 1) (by omega) fv (by omega)
    rw [htk, List.filter_append] at hih
    unfold g_X12_says_L4
    rw [if_neg (by rw [nle (by omega) (by omega)]; omega), gi_nI (by omega) (by omega), nc (by omega), h2 j x (Nat.le_refl _) hx0, gi_nI (by omega) (by omega), nc (by omega), l1, gi_nI (by omega) (by omega), nc (by omega), hb1, s2, nsub c2]
    unfold g_X12_says_b49
    by_cases a : (f x).2 + H ≤ t
    · rw [List.filter_cons_of_pos (by simpa using a), List.filter_nil, List.length_append, List.length_singleton] at hih
      rw [if_neg (by rw [nlt (by omega) (by omega)]; omega), gi_nI (by omega) (by omega), gi_nI (by omega) (by omega), nc (by omega), nI_add, nI_1]
      refine hih _ (h1.push x) (fun k y hk hy => ?_)
      unfold upd
      rw [if_neg (by omega)]
      exact h2 k y (by omega) hy
    · rw [List.filter_cons_of_neg (by simpa using a), List.filter_nil, List.append_nil] at hih
      rw [if_pos (by rw [nlt (by omega) (by omega)]; omega), nI_1]
      exact hih st h1 (fun k y hk hy => h2 k y (by omega) hy)
/-- those said for good at t -/
def saidB (law H : Nat) (d : Nat → Nat → Nat) (p : Nat) (B : List Be) (t : Nat) : List Nat := (stdB law H d p B t).filter (fun i => decide (bW d p B i + H ≤ t))
theorem saidB_tw {P now : Nat} {B : List Be} (hB : BOk P B now) (law H : Nat) (d : Nat → Nat → Nat) (p t : Nat) : (stdB law H d p B t).takeWhile (fun i => decide (bW d p B i + H ≤ t)) = saidB law H d p B t := by
  unfold saidB
  by_cases h : H ≤ t
  · have := pw_take (t - H) (stdB_pw hB law H d p t)
    have e : (fun k => decide (bW d p B k ≤ t - H)) = (fun i => decide (bW d p B i + H ≤ t)) := by
      funext i
      by_cases z : bW d p B i + H ≤ t
      · rw [decide_eq_true z, decide_eq_true (by omega)]
      · rw [decide_eq_false z, decide_eq_false (by omega)]
    rw [e] at this
    exact this
  · have e : (fun i => decide (bW d p B i + H ≤ t)) = (fun _ => false) := by
      funext i; exact decide_eq_false (by omega)
    rw [e]
    cases stdB law H d p B t with
    | nil => rfl
    | cons x l => simp
theorem row_said {P now : Nat} {B : List Be} (hB : BOk P B now) (law H : Nat) (d : Nat → Nat → Nat) (p t : Nat) : (((stdB law H d p B t).map (phi d p B)).takeWhile (fun e => decide (e.2.1 + H ≤ t))).length = (saidB law H d p B t).length := by
  rw [List.takeWhile_map, List.length_map, ← saidB_tw hB]
  rfl
section SAID
variable {N P S H law now : Nat} {mi book bp bs bm s : Nat → Int32} {d : Nat → Nat → Nat} {B : List Be}
/-- both sides behind 'said' -/
theorem said_both (hN : 200 < N) (hh : HOk P S H law mi book d) (hBR : BR bp bs bm B) (hs : SR s B now) (hB : BOk P B now) {p t : Nat} (hp : p < P) (ht : t < 10000) (qs qd qh so ma he : Nat → Int32) (qz rz rn : Int32) (pl so2 mi2 wh ih gb st : Nat → Int32) (many sz : Int32) :
    ∃ (v : (Nat → Int32) × (Nat → Int32) × (Nat → Int32) × Int32 × (Nat → Int32) × (Nat → Int32) × Int32 × (Nat → Int32) × Int32) (w : (Nat → Int32) × (Nat → Int32) × (Nat → Int32) × (Nat → Int32) × (Nat → Int32) × (Nat → Int32) × (Nat → Int32) × Int32 × Int32) (st' : Nat → Int32),
      g_X11_standAt N (nI P) (nI H) (nI law) mi bp bs bm (nI B.length) qs qd qh qz so ma rz he rn (nI p) (nI t) = some v ∧ g_X12_playsNow N book s pl so2 mi2 wh ih gb st many sz (nI p) (nI t) = some w ∧
      g_X5_howManySaid N 99 (nI H) v.2.2.2.2.2.2.1 v.2.2.2.2.2.2.2.1 (nI t) = some (nI (saidB law H d p B t).length) ∧ g_X12_says N book w.2.2.2.1 w.2.2.2.2.2.2.2.2 w.2.2.2.2.2.2.1 (nI t) = some (nI (saidB law H d p B t).length, st') ∧
      v.2.2.2.2.2.2.1 = nI (stdB law H d p B t).length ∧ (∀ k x, (stdB law H d p B t)[k]? = some x → v.2.2.2.2.1 k = nI (bS B x)) ∧ Rp st' (saidB law H d p B t) ∧ (∀ i, i < B.length → w.2.1 i = nI (bS B i)) := by
  obtain ⟨⟨hP1, hP⟩, ⟨hS1, hS⟩, ⟨hH1, hH⟩, hlaw, hdr, hdb, hd0, k0, k1, k2, k3⟩ := hh
  obtain ⟨qs', qd', qh', so', ma', he', rn', h1, -, h2⟩ := pX11_standAt (N := N) (H := H) (law := law) hdr hP hBR hB (by omega) hlaw hN hp (show t < 2147483648 by omega) qs qd qh so ma he qz rz rn
  obtain ⟨pl', so3, mi', wh', ih', gb', st', h3, -, h4, h5⟩ := pX12_playsNow (N := N) (H := H) (law := law) hdb hp hP k1 k2 hlaw (by omega) (show t < 2147483648 by omega) hs hB hN pl so2 mi2 wh ih gb st many sz
  have hlen := stdB_len hB law H d p t
  have h24 := hB.1
  have e1 := pX5_howManySaid (N := N) (n := 99) (H := H) (t := t) h2 (by rw [List.length_map]; omega) (by omega) (fun e he0 => by
    obtain ⟨x, hx, rfl⟩ := List.mem_map.mp he0
    exact (stdB_mem hB hx).2) (by omega) (by omega) (by omega)
  rw [row_said hB, List.length_map] at e1
  obtain ⟨st2, e2, e3⟩ := pX12_says (N := N) (H := H) (t := t) (S := stdB law H d p B t) h5 (by omega) k1 (by omega) (by omega) (fun i hi => ⟨(stdB_mem hB hi).1, (stdB_mem hB hi).2⟩) (by omega) hN h4
  refine ⟨_, _, st2, h1, h3, e1, e2, rfl, fun k x hx => ?_, e3, fun i hi => (h5 i hi).1⟩
  exact (h2 k (phi d p B x) (by rw [List.getElem?_map, hx]; rfl)).1
theorem t_said (hN : 200 < N) (hh : HOk P S H law mi book d) (hBR : BR bp bs bm B) (hs : SR s B now) (hB : BOk P B now) (qs qd qh so ma he : Nat → Int32) (qz rz rn : Int32) (pl so2 mi2 wh ih gb st : Nat → Int32) (many sz : Int32) (x1 x2 : Int32) :
    ∃ v w, g_X11_said N (nI P) (nI H) (nI law) mi bp bs bm (nI B.length) qs qd qh qz so ma rz he rn x1 x2 = some v ∧ g_X12_said N book s pl so2 mi2 wh ih gb st many sz x1 x2 = some w ∧ v.1 = w.1 := by
  have hh' := hh
  obtain ⟨⟨hP1, hP⟩, ⟨hS1, hS⟩, ⟨hH1, hH⟩, hlaw, hdr, hdb, hd0, k0, k1, k2, k3⟩ := hh'
  unfold g_X11_said g_X12_said
  rw [pX2_isPlace, pX12_isPlace N P book (by omega) (by omega) k0, pX11_isMinute, pX12_isMinute]
  cases hx1 : ixB x1 P with
  | false => exact ⟨_, _, rfl, rfl, rfl⟩
  | true =>
    cases hx2 : ixB x2 10000 with
    | false => exact ⟨_, _, rfl, rfl, rfl⟩
    | true =>
      obtain ⟨p, hp, rfl⟩ := (ixB_iff (by omega)).mp hx1
      obtain ⟨t, ht, rfl⟩ := (ixB_iff (by omega)).mp hx2
      obtain ⟨v, w, st', h1, h2, h3, h4, -⟩ := said_both (N := N) hN hh hBR hs hB hp ht qs qd qh so ma he qz rz rn pl so2 mi2 wh ih gb st many sz
      simp only [Option.bind_some, if_true]
      rw [if_neg (show ¬ (1 : Int32) = 0 by decide), if_neg (show ¬ (1 : Int32) = 0 by decide), if_neg (show ¬ (1 : Int32) = 0 by decide), if_neg (show ¬ (1 : Int32) = 0 by decide), h1, h2]
      simp only [Option.bind_some]
      rw [h3, h4]
      exact ⟨_, _, rfl, rfl, rfl⟩
end SAID
