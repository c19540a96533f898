/-! ===== both sides: what stands at a place at a minute ===== -/
abbrev b0 : Be := (0, 0, 0)
def bP (B : List Be) (k : Nat) : Nat := (B.getD k b0).1
def bS (B : List Be) (k : Nat) : Nat := (B.getD k b0).2.1
def bM (B : List Be) (k : Nat) : Nat := (B.getD k b0).2.2
def bW (d : Nat → Nat → Nat) (p : Nat) (B : List Be) (k : Nat) : Nat := bM B k + d (bP B k) p
def bF (d : Nat → Nat → Nat) (p : Nat) (B : List Be) (k : Nat) : Nat × Nat := (bS B k, bW d p B k)
/-- the order of hearing at p, to the minute t; what stands then -/
def ordB (d : Nat → Nat → Nat) (p : Nat) (B : List Be) : List Nat := ordI (bW d p B) B.length
def ordT (d : Nat → Nat → Nat) (p : Nat) (B : List Be) (t : Nat) : List Nat := (ordB d p B).takeWhile (fun k => decide (bW d p B k ≤ t))
def stdB (law H : Nat) (d : Nat → Nat → Nat) (p : Nat) (B : List Be) (t : Nat) : List Nat := runI law H (bF d p B) [] (ordT d p B t)
def posOf : List Nat → Nat → Nat
  | [], _ => 0
  | x :: L, k => if x = k then 0 else posOf L k + 1
theorem posOf_get : ∀ {L : List Nat}, L.Nodup → ∀ {j x : Nat}, L[j]? = some x → posOf L x = j := by
  intro L
  induction L with
  | nil => intro _ j x h; simp at h
  | cons y L ih =>
    intro hn j x h
    obtain ⟨h1, h2⟩ := List.nodup_cons.mp hn
    unfold posOf
    cases j with
    | zero => simp at h; simp [h]
    | succ j =>
      rw [List.getElem?_cons_succ] at h
      have : y ≠ x := fun e => h1 (by rw [e]; exact List.mem_of_getElem? h)
      rw [if_neg this, ih h2 h]
theorem ltK_nodup {w m : Nat → Nat} {L : List Nat} (h : L.Pairwise (ltK w m)) : L.Nodup := by
  refine h.imp ?_
  intro a b hab e
  subst e
  exact ltK_asym hab hab
theorem B_range (B : List Be) : B = (List.range B.length).map (fun k => B.getD k b0) := by
  apply List.ext_getElem?
  intro j
  rw [List.getElem?_map]
  by_cases h : j < B.length
  · rw [List.getElem?_range h, List.getElem?_eq_getElem h]
    simp [List.getD_eq_getElem?_getD, List.getElem?_eq_getElem h]
  · rw [List.getElem?_eq_none (by omega), List.getElem?_eq_none (by simp; omega)]
    rfl
theorem queueS_ord (d : Nat → Nat → Nat) (p : Nat) (B : List Be) : queueS d p B = (ordB d p B).map (fun k => qev d p (B.getD k b0)) := by
  unfold queueS ordB
  rw [← queue_ord (fun k => qev d p (B.getD k b0)) (bW d p B) (fun k => rfl) B.length]
  conv => lhs; rw [B_range B]
  rw [List.map_map]
  rfl
def phi (d : Nat → Nat → Nat) (p : Nat) (B : List Be) (k : Nat) : Tr := (bS B k, bW d p B k, nI (posOf (ordB d p B) k))
theorem evQ_phi (d : Nat → Nat → Nat) (p : Nat) (B : List Be) (hn : (ordB d p B).Nodup) : evQ (queueS d p B) = (ordB d p B).map (phi d p B) := by
  rw [queueS_ord]
  unfold evQ
  apply List.ext_getElem?
  intro j
  rw [List.getElem?_map, List.getElem?_map, List.getElem?_zipIdx, List.getElem?_map]
  cases h : (ordB d p B)[j]? with
  | none => rfl
  | some x =>
    simp only [Option.map_some, Nat.zero_add]
    unfold phi
    rw [posOf_get hn h]
    rfl
theorem hearC_map {law H : Nat} {f : Nat → Nat × Nat} {φ : Nat → Tr} (hf : ∀ k, trP (φ k) = f k) (S : List Nat) (k : Nat) : hearC law H (S.map φ) (φ k) = (hearI law H f S k).map φ := by
  have e1 : (S.map φ).map trP = S.map f := by
    rw [List.map_map]
    exact List.map_congr_left (fun x _ => hf x)
  have e2 : (φ k).1 = (f k).1 := by rw [← hf k]
  have e3 : (φ k).2.1 = (f k).2 := by rw [← hf k]
  unfold hearC hearI
  rw [e1, e2, e3]
  cases hitO law (f k).1 (f k).2 H (S.map f) with
  | none => simp
  | some i =>
    by_cases a : law = 1
    · simp only [a, if_true, List.map_take]
    · simp only [a, if_false]
      rw [List.eraseIdx_eq_take_drop_succ, List.eraseIdx_eq_take_drop_succ, List.map_append, List.map_take, List.map_drop]
theorem runC_map {law H : Nat} {f : Nat → Nat × Nat} {φ : Nat → Tr} (hf : ∀ k, trP (φ k) = f k) : ∀ (R S : List Nat), runC law H (S.map φ) (R.map φ) = (runI law H f S R).map φ := by
  intro R
  induction R with
  | nil => intro S; rfl
  | cons k R ih =>
    intro S
    show runC law H (hearC law H (S.map φ) (φ k)) (R.map φ) = _
    rw [hearC_map hf]
    exact ih (hearI law H f S k)
theorem takeWhile_len_take {α : Type} (q : α → Bool) (L : List α) : L.take (L.takeWhile q).length = L.takeWhile q := by
  induction L with
  | nil => rfl
  | cons x L ih =>
    by_cases h : q x = true
    · rw [List.takeWhile_cons_of_pos h, List.length_cons, List.take_succ_cons, ih]
    · rw [List.takeWhile_cons_of_neg h]; rfl
/-- what the class's state says of the hills and the beats -/
def BOk (P : Nat) (B : List Be) (now : Nat) : Prop := B.length ≤ 24 ∧ (∀ e ∈ B, e.1 < P ∧ e.2.1 < 8 ∧ e.2.2 ≤ now) ∧ B.Pairwise (fun a b => a.2.2 ≤ b.2.2) ∧ now ≤ 9999
theorem BOk.mono {P : Nat} {B : List Be} {now : Nat} (h : BOk P B now) : ∀ i j, i ≤ j → j < B.length → bM B i ≤ bM B j := by
  intro i j hij hj
  by_cases e : i = j
  · subst e; exact Nat.le_refl _
  · have hp := h.2.2.1
    rw [List.pairwise_iff_getElem] at hp
    have := hp i j (by omega) hj (by omega)
    unfold bM
    rw [List.getD_eq_getElem?_getD, List.getD_eq_getElem?_getD, List.getElem?_eq_getElem (show i < B.length by omega), List.getElem?_eq_getElem hj]
    exact this
theorem BOk.at {P : Nat} {B : List Be} {now : Nat} (h : BOk P B now) {k : Nat} (hk : k < B.length) : bP B k < P ∧ bS B k < 8 ∧ bM B k ≤ now := by
  have := h.2.1 B[k] (List.getElem_mem hk)
  unfold bP bS bM
  rw [List.getD_eq_getElem?_getD, List.getElem?_eq_getElem hk]
  exact this
theorem ordB_spec {P : Nat} {B : List Be} {now : Nat} (h : BOk P B now) (d : Nat → Nat → Nat) (p : Nat) : (ordB d p B).Pairwise (ltK (bW d p B) (bM B)) ∧ (∀ k, k ∈ ordB d p B ↔ k < B.length) ∧ (ordB d p B).length = B.length := ordI_spec (W := bW d p B) B.length h.mono
theorem runI_sub_ord {law H : Nat} {d : Nat → Nat → Nat} {p : Nat} {B : List Be} {t k : Nat} (h : k ∈ stdB law H d p B t) : k ∈ ordT d p B t := by
  rcases runI_mem h with z | z
  · cases z
  · exact z
section CSTAND
variable {N P H law : Nat} {mi bp bs bm : Nat → Int32} {d : Nat → Nat → Nat} {B : List Be} {now : Nat}
theorem queue_sorted (hB : BOk P B now) (p : Nat) : (queueS d p B).Pairwise (fun a b => a.2.2 ≤ b.2.2) := by
  rw [queueS_ord, List.pairwise_map]
  refine (ordB_spec hB d p).1.imp ?_
  intro a b hab
  show bW d p B a ≤ bW d p B b
  unfold ltK at hab; omega
theorem queue_small (hd : DR P mi d) (hB : BOk P B now) {p : Nat} (hp : p < P) : ∀ e ∈ queueS d p B, e.1 < 8 ∧ e.2.2 < 1000000 := by
  intro e he
  obtain ⟨b, hb, rfl⟩ := queueS_mem.mp he
  obtain ⟨h1, h2, h3⟩ := hB.2.1 b hb
  have := (hd b.1 p h1 hp).2
  have := hB.2.2.2
  exact ⟨h2, by show b.2.2 + d b.1 p < _; omega⟩
theorem toHear_ord (p t : Nat) : toHear (queueS d p B) t 0 = (ordT d p B t).length := by
  unfold toHear ordT
  rw [List.drop_zero, queueS_ord, List.takeWhile_map, List.length_map]
  rfl
theorem row_ord (hB : BOk P B now) (p t : Nat) : runC law H [] (((evQ (queueS d p B)).drop 0).take (toHear (queueS d p B) t 0)) = (stdB law H d p B t).map (phi d p B) := by
  rw [List.drop_zero, evQ_phi d p B (ltK_nodup (ordB_spec hB d p).1), toHear_ord, ← List.map_take]
  have e1 : (ordB d p B).take (ordT d p B t).length = ordT d p B t := takeWhile_len_take _ _
  rw [e1]
  exact runC_map (f := bF d p B) (φ := phi d p B) (fun k => rfl) (ordT d p B t) []
/-- THE CLASS: standAt -/
theorem pX11_standAt (hd : DR P mi d) (hP : P ≤ 5) (hBR : BR bp bs bm B) (hB : BOk P B now) (hH : H < 1000) (hlaw : law < 3) (hN : 200 < N) {p t : Nat} (hp : p < P) (ht : t < 2147483648) (qs qd qh so ma he : Nat → Int32) (qz rz rn : Int32) :
    ∃ qs' qd' qh' so' ma' he' rn', g_X11_standAt N (nI P) (nI H) (nI law) mi bp bs bm (nI B.length) qs qd qh qz so ma rz he rn (nI p) (nI t) = some (qs', qd', qh', nI B.length, so', ma', nI (stdB law H d p B t).length, he', rn') ∧ QR qs' qd' qh' (queueS d p B) ∧ RowR so' ma' he' ((stdB law H d p B t).map (phi d p B)) := by
  have hl := hB.1
  obtain ⟨qs', qd', qh', h1, h2⟩ := pX3_fillFrom N 99 P hd hP hBR (fun e he => ⟨(hB.2.1 e he).1, by have := (hB.2.1 e he).2.2; have := hB.2.2.2; omega⟩) (by omega) (by omega) hl (by omega) hp qs qd qh qz
  have hql := queueS_len d p B
  obtain ⟨so', ma', he', h3, h4⟩ := pX5_hearTo (N := N) (n := 99) (m := 99) (H := H) (law := law) h2 (queue_sorted hB p) (queue_small hd hB hp) (by omega) (by omega) (by omega) hH hlaw t ht B.length 0 (by omega) (by omega) so ma he [] (fun j e hj => by simp at hj) (fun q _ => ⟨List.Pairwise.nil, fun e he => by simp at he, fun e he => by simp at he⟩) (by simp; omega) (by simp; omega)
  rw [row_ord hB p t] at h3 h4
  refine ⟨qs', qd', qh', so', ma', he', nI (0 + toHear (queueS d p B) t 0), ?_, h2, h4⟩
  unfold g_X11_standAt
  rw [h1]
  simp only [Option.bind_some]
  unfold g_X5_empty
  simp only [Option.bind_some]
  rw [List.length_map] at h3
  have h3' : g_X5_hearTo N 99 99 (nI H) (nI law) qs' qh' (nI B.length) so ma 0 he 0 (nI t) = some (so', ma', nI (stdB law H d p B t).length, he', nI (0 + toHear (queueS d p B) t 0)) := by
    rw [hql] at h3; exact h3
  rw [h3']
  rfl
end CSTAND
