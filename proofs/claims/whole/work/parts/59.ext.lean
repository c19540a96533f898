/-! ===== one beat more, minutes more: the order of hearing grows at its end ===== -/
theorem Srt.add {W M W' M' : Nat → Nat} {t n : Nat} {L : List Nat} (h : Srt W M t n L) (hW : ∀ k, k < n → W' k = W k) (hM : ∀ k, k < n → M' k = M k) (hn : W' n = t) (hm : ∀ k, k < n → M k ≤ M' n) : Srt W' M' t (n + 1) (L ++ [n]) := by
  obtain ⟨h1, h2, h3⟩ := h
  refine ⟨?_, fun k => ?_, by simp; omega⟩
  · rw [List.pairwise_append]
    refine ⟨?_, List.pairwise_singleton _ _, fun a ha b hb => ?_⟩
    · refine h1.imp_of_mem ?_
      intro a b ha hb hab
      have ha' := ((h2 a).mp ha).1
      have hb' := ((h2 b).mp hb).1
      unfold ltK at hab ⊢
      rw [hW a ha', hW b hb', hM a ha', hM b hb']
      exact hab
    · rw [List.mem_singleton.mp hb]
      obtain ⟨ha', ha2⟩ := (h2 a).mp ha
      have := hm a ha'
      unfold ltK
      rw [hW a ha', hM a ha', hn]
      omega
  · rw [List.mem_append, List.mem_singleton, h2]
    by_cases e : k = n
    · subst e
      constructor
      · intro _; exact ⟨by omega, by omega⟩
      · intro _; exact Or.inr rfl
    · constructor
      · rintro (⟨a, b⟩ | a)
        · exact ⟨by omega, by rw [hW k a]; exact b⟩
        · exact absurd a e
      · rintro ⟨a, b⟩
        have hk : k < n := by omega
        exact Or.inl ⟨hk, by rw [← hW k hk]; exact b⟩
theorem nodup_len : ∀ (n : Nat) (L : List Nat), L.Nodup → (∀ k ∈ L, k < n) → L.length ≤ n := by
  intro n
  induction n with
  | zero =>
    intro L _ h
    cases L with
    | nil => exact Nat.le_refl _
    | cons x L => exact absurd (h x List.mem_cons_self) (by omega)
  | succ n ih =>
    intro L hn h
    have h1 := ih (L.erase n) (hn.erase n) (fun k hk => by
      obtain ⟨a, b⟩ := hn.mem_erase_iff.mp hk
      have := h k b
      omega)
    rw [List.length_erase] at h1
    split at h1 <;> omega
theorem Srt.more {W M : Nat → Nat} {t u n : Nat} {L R : List Nat} (h : Srt W M t n L) (htu : t ≤ u) (hR : R.Pairwise (ltK W M)) (hm : ∀ k, k ∈ R ↔ k < n ∧ t < W k ∧ W k ≤ u) : Srt W M u n (L ++ R) := by
  obtain ⟨h1, h2, h3⟩ := h
  have hp : (L ++ R).Pairwise (ltK W M) := by
    rw [List.pairwise_append]
    refine ⟨h1, hR, fun a ha b hb => ?_⟩
    have := ((h2 a).mp ha).2
    have := ((hm b).mp hb).2.1
    unfold ltK; omega
  have hmem : ∀ k, k ∈ L ++ R ↔ k < n ∧ W k ≤ u := fun k => by
    rw [List.mem_append, h2, hm]
    omega
  exact ⟨hp, hmem, nodup_len n _ (ltK_nodup hp) (fun k hk => ((hmem k).mp hk).1)⟩
theorem tw_app {α : Type} {q : α → Bool} : ∀ {l1 l2 : List α}, (∀ a ∈ l1, q a = true) → (l1 ++ l2).takeWhile q = l1 ++ l2.takeWhile q := by
  intro l1
  induction l1 with
  | nil => intro l2 _; rfl
  | cons x l1 ih =>
    intro l2 h
    rw [List.cons_append, List.takeWhile_cons_of_pos (h x List.mem_cons_self), ih (fun a ha => h a (List.mem_cons_of_mem _ ha)), List.cons_append]
theorem tw_all {α : Type} {q : α → Bool} : ∀ {l : List α} {a : α}, a ∈ l.takeWhile q → q a = true := by
  intro l
  induction l with
  | nil => intro a h; cases h
  | cons x l ih =>
    intro a h
    by_cases c : q x = true
    · rw [List.takeWhile_cons_of_pos c] at h
      rcases List.mem_cons.mp h with z | z
      · rw [z]; exact c
      · exact ih z
    · rw [List.takeWhile_cons_of_neg c] at h; cases h
/-- what is heard behind minute t, to minute u -/
def seg (d : Nat → Nat → Nat) (p : Nat) (B : List Be) (t u : Nat) : List Nat := ((ordB d p B).drop (ordT d p B t).length).takeWhile (fun k => decide (bW d p B k ≤ u))
theorem ordT_take (d : Nat → Nat → Nat) (p : Nat) (B : List Be) (t : Nat) : (ordB d p B).take (ordT d p B t).length = ordT d p B t := takeWhile_len_take _ _
theorem ordT_seg (d : Nat → Nat → Nat) (p : Nat) (B : List Be) {t u : Nat} (htu : t ≤ u) : ordT d p B u = ordT d p B t ++ seg d p B t u := by
  have h1 : ordB d p B = ordT d p B t ++ (ordB d p B).drop (ordT d p B t).length := by
    have := List.take_append_drop (ordT d p B t).length (ordB d p B)
    rw [ordT_take] at this
    exact this.symm
  have h2 : ordT d p B u = (ordT d p B t ++ (ordB d p B).drop (ordT d p B t).length).takeWhile (fun k => decide (bW d p B k ≤ u)) := by
    rw [← h1]; rfl
  rw [h2, tw_app (fun a ha => by
    have := tw_all ha
    simp only [decide_eq_true_eq] at this ⊢
    omega)]
  rfl
theorem ordT_mem {P now : Nat} {B : List Be} (hB : BOk P B now) (d : Nat → Nat → Nat) (p t k : Nat) : k ∈ ordT d p B t ↔ k < B.length ∧ bW d p B k ≤ t := (srt_of (W := bW d p B) hB.mono t).2.1 k
theorem ordT_pw {P now : Nat} {B : List Be} (hB : BOk P B now) (d : Nat → Nat → Nat) (p t : Nat) : (ordT d p B t).Pairwise (ltK (bW d p B) (bM B)) := (srt_of (W := bW d p B) hB.mono t).1
theorem ordT_len {P now : Nat} {B : List Be} (hB : BOk P B now) (d : Nat → Nat → Nat) (p t : Nat) : (ordT d p B t).length ≤ B.length := (srt_of (W := bW d p B) hB.mono t).2.2
theorem seg_mem {P now : Nat} {B : List Be} (hB : BOk P B now) (d : Nat → Nat → Nat) (p : Nat) {t u : Nat} (htu : t ≤ u) {k : Nat} : k ∈ seg d p B t u ↔ k < B.length ∧ t < bW d p B k ∧ bW d p B k ≤ u := by
  have hn : (ordT d p B t ++ seg d p B t u).Nodup := by
    rw [← ordT_seg d p B htu]; exact ltK_nodup (ordT_pw hB d p u)
  constructor
  · intro hk
    have a := (ordT_mem hB d p u k).mp (by rw [ordT_seg d p B htu]; exact List.mem_append_right _ hk)
    have b : ¬ k ∈ ordT d p B t := fun z => (List.pairwise_append.mp hn).2.2 k z k hk rfl
    rw [ordT_mem hB] at b
    omega
  · rintro ⟨a, b, c⟩
    have h := (ordT_mem hB d p u k).mpr ⟨a, c⟩
    rw [ordT_seg d p B htu, List.mem_append] at h
    rcases h with z | z
    · have := ((ordT_mem hB d p t k).mp z).2; omega
    · exact z
theorem seg_pw {P now : Nat} {B : List Be} (hB : BOk P B now) (d : Nat → Nat → Nat) (p t u : Nat) : (seg d p B t u).Pairwise (ltK (bW d p B) (bM B)) :=
  (ordB_spec hB d p).1.sublist ((List.takeWhile_sublist _).trans (List.drop_sublist _ _))
theorem bd_app {B E : List Be} {k : Nat} (hk : k < B.length) : (B ++ E).getD k b0 = B.getD k b0 := by
  rw [List.getD_eq_getElem?_getD, List.getD_eq_getElem?_getD, List.getElem?_append_left hk]
theorem bW_app {d : Nat → Nat → Nat} {p : Nat} {B E : List Be} {k : Nat} (hk : k < B.length) : bW d p (B ++ E) k = bW d p B k := by
  unfold bW bM bP; rw [bd_app hk]
theorem bM_app {B E : List Be} {k : Nat} (hk : k < B.length) : bM (B ++ E) k = bM B k := by
  unfold bM; rw [bd_app hk]
theorem bS_app {B E : List Be} {k : Nat} (hk : k < B.length) : bS (B ++ E) k = bS B k := by
  unfold bS; rw [bd_app hk]
theorem bF_app {d : Nat → Nat → Nat} {p : Nat} {B E : List Be} {k : Nat} (hk : k < B.length) : bF d p (B ++ E) k = bF d p B k := by
  unfold bF; rw [bS_app hk, bW_app hk]
theorem hearI_congr {law H : Nat} {f g : Nat → Nat × Nat} {S : List Nat} {k : Nat} (hS : ∀ i ∈ S, f i = g i) (hk : f k = g k) : hearI law H f S k = hearI law H g S k := by
  unfold hearI
  rw [hk, List.map_congr_left hS]
theorem runI_congr {law H : Nat} {f g : Nat → Nat × Nat} : ∀ {R S : List Nat}, (∀ i ∈ S, f i = g i) → (∀ i ∈ R, f i = g i) → runI law H f S R = runI law H g S R := by
  intro R
  induction R with
  | nil => intro S _ _; rfl
  | cons k R ih =>
    intro S hS hR
    show runI law H f (hearI law H f S k) R = runI law H g (hearI law H g S k) R
    rw [hearI_congr hS (hR k List.mem_cons_self)]
    refine ih (fun i hi => ?_) (fun i hi => hR i (List.mem_cons_of_mem _ hi))
    rcases hearI_mem hi with z | z
    · exact hS i z
    · rw [z]; exact hR k List.mem_cons_self
/-- the beats B and E behind them (all of E heard to t): S stands at t -/
def EX (law H : Nat) (d : Nat → Nat → Nat) (p : Nat) (B E : List Be) (t : Nat) (S : List Nat) : Prop := ∃ L, Srt (bW d p (B ++ E)) (bM (B ++ E)) t (B ++ E).length L ∧ L.length = (ordT d p B t).length + E.length ∧ S = runI law H (bF d p (B ++ E)) [] L
section EXT
variable {law H P now p t u : Nat} {d : Nat → Nat → Nat} {B E : List Be} {S : List Nat}
theorem EX.start (hB : BOk P B now) (law H : Nat) (d : Nat → Nat → Nat) (p t : Nat) : EX law H d p B [] t (stdB law H d p B t) := by
  unfold EX
  rw [List.append_nil]
  exact ⟨ordT d p B t, srt_of (W := bW d p B) hB.mono t, rfl, rfl⟩
theorem EX.more (hB : BOk P B now) (h : EX law H d p B E t S) (htu : t ≤ u) (hE : ∀ k, B.length ≤ k → k < (B ++ E).length → bW d p (B ++ E) k ≤ t) : EX law H d p B E u (runI law H (bF d p (B ++ E)) S (seg d p B t u)) := by
  obtain ⟨L, h1, h2, rfl⟩ := h
  refine ⟨L ++ seg d p B t u, h1.more htu ?_ (fun k => ?_), ?_, ?_⟩
  · refine (seg_pw hB d p t u).imp_of_mem ?_
    intro a b ha hb hab
    have ha' := ((seg_mem hB d p htu).mp ha).1
    have hb' := ((seg_mem hB d p htu).mp hb).1
    unfold ltK at hab ⊢
    rw [bW_app ha', bW_app hb', bM_app ha', bM_app hb']
    exact hab
  · rw [seg_mem hB d p htu]
    constructor
    · rintro ⟨a, b, c⟩
      rw [bW_app a]
      exact ⟨by rw [List.length_append]; omega, b, c⟩
    · rintro ⟨a, b, c⟩
      by_cases z : k < B.length
      · rw [bW_app z] at b c; exact ⟨z, b, c⟩
      · have := hE k (by omega) a; omega
  · have h3 := congrArg List.length (ordT_seg d p B htu)
    rw [List.length_append] at h3
    rw [List.length_append, h2]; omega
  · unfold runI; rw [List.foldl_append]
theorem EX.add (h : EX law H d p B E t S) (e : Be) (he : e.2.2 + d e.1 p = t) (hm : ∀ k, k < (B ++ E).length → bM (B ++ E) k ≤ e.2.2) : EX law H d p B (E ++ [e]) t (hearI law H (bF d p (B ++ (E ++ [e]))) S (B ++ E).length) := by
  obtain ⟨L, h1, h2, rfl⟩ := h
  have e1 : B ++ (E ++ [e]) = (B ++ E) ++ [e] := (List.append_assoc _ _ _).symm
  have hlen : ((B ++ E) ++ [e]).length = (B ++ E).length + 1 := by rw [List.length_append, List.length_singleton]
  refine ⟨L ++ [(B ++ E).length], ?_, ?_, ?_⟩
  · rw [e1, hlen]
    refine h1.add (fun k hk => bW_app hk) (fun k hk => bM_app hk) ?_ (fun k hk => ?_)
    · unfold bW bM bP; rw [bd_new e]; exact he
    · have h3 := hm k hk
      have h4 : bM (B ++ E ++ [e]) (B ++ E).length = e.2.2 := by unfold bM; rw [bd_new e]
      rw [h4]; exact h3
  · simp only [List.length_append, List.length_singleton]; omega
  · have h5 : runI law H (bF d p (B ++ E)) [] L = runI law H (bF d p (B ++ (E ++ [e]))) [] L := runI_congr (fun i hi => by cases hi) (fun i hi => by rw [e1, bF_app ((h1.2.1 i).mp hi).1])
    rw [h5]
    unfold runI
    rw [List.foldl_append]
    rfl
theorem EX.props (h : EX law H d p B E t S) : S.Pairwise (ltK (bW d p (B ++ E)) (bM (B ++ E))) ∧ (∀ k ∈ S, k < (B ++ E).length ∧ bW d p (B ++ E) k ≤ t) ∧ S.length ≤ (ordT d p B t).length + E.length := by
  obtain ⟨L, h1, h2, rfl⟩ := h
  have hs := runI_sub (law := law) (H := H) (f := bF d p (B ++ E)) (R := L) (S := [])
  rw [List.nil_append] at hs
  exact ⟨h1.1.sublist hs, fun k hk => (h1.2.1 k).mp (hs.subset hk), by have := hs.length_le; omega⟩
/-- the class's row of these -/
def phE (d : Nat → Nat → Nat) (p : Nat) (B E : List Be) (k : Nat) : Tr := (bS (B ++ E) k, bW d p (B ++ E) k, if k < B.length then nI (posOf (ordB d p B) k) else -1)
theorem phE_old {k : Nat} (hk : k < B.length) : phE d p B E k = phi d p B k := by
  unfold phE phi
  rw [bS_app hk, bW_app hk, if_pos hk]
theorem phE_nil : phE d p B [] = fun k => (bS B k, bW d p B k, if k < B.length then nI (posOf (ordB d p B) k) else -1) := by
  unfold phE; rw [List.append_nil]
theorem phE_app {e : Be} {k : Nat} (hk : k < (B ++ E).length) : phE d p B (E ++ [e]) k = phE d p B E k := by
  unfold phE
  rw [← List.append_assoc, bS_app hk, bW_app hk]
theorem EX.ok (h : EX law H d p B E t S) (hS8 : ∀ k, k < (B ++ E).length → bS (B ++ E) k < 8) (htu : t ≤ u) : RowOk (S.map (phE d p B E)) u := by
  obtain ⟨h1, h2, h3⟩ := h.props
  refine ⟨?_, fun e he => ?_, fun e he => ?_⟩
  · rw [List.pairwise_map]
    refine h1.imp ?_
    intro a b hab
    show bW d p (B ++ E) a ≤ bW d p (B ++ E) b
    unfold ltK at hab; omega
  · obtain ⟨x, hx, rfl⟩ := List.mem_map.mp he
    have := (h2 x hx).2
    show bW d p (B ++ E) x ≤ u
    omega
  · obtain ⟨x, hx, rfl⟩ := List.mem_map.mp he
    exact hS8 x (h2 x hx).1
theorem cl_start {N n m : Nat} {mi qs qd qh : Nat → Int32} (hd : DR P mi d) (hB : BOk P B now) (hp : p < P) (hQ : QR qs qd qh (queueS d p B)) (hm : 24 ≤ m) (hm2 : m < 1000) (hn : 24 ≤ n) (hn2 : n < 1000) (hH : H < 1000) (hlaw : law < 3) (hN : 200 < N) (ht : t < 2147483648) (so ma he : Nat → Int32) :
    ∃ so' ma' he', g_X5_hearTo N n m (nI H) (nI law) qs qh (nI B.length) so ma 0 he 0 (nI t) = some (so', ma', nI (stdB law H d p B t).length, he', nI (ordT d p B t).length) ∧ RowR so' ma' he' ((stdB law H d p B t).map (phE d p B [])) := by
  have hl := hB.1
  have hql := queueS_len d p B
  obtain ⟨so', ma', he', h3, h4⟩ := pX5_hearTo (N := N) (n := n) (m := m) (H := H) (law := law) hQ (queue_sorted hB p) (queue_small hd hB hp) (by omega) hm2 hn2 hH hlaw t ht B.length 0 (by omega) (by omega) so ma he [] (fun j e hj => by simp at hj) (fun q _ => ⟨List.Pairwise.nil, fun e he => by simp at he, fun e he => by simp at he⟩) (by simp; omega) (by simp; omega)
  rw [row_ord hB p t] at h3 h4
  refine ⟨so', ma', he', ?_, ?_⟩
  · rw [List.length_map, hql, toHear_ord, Nat.zero_add] at h3
    exact h3
  · have : (stdB law H d p B t).map (phE d p B []) = (stdB law H d p B t).map (phi d p B) := List.map_congr_left (fun k hk => phE_old (stdB_mem hB hk).1)
    rw [this]; exact h4
theorem cl_more {N n m : Nat} {mi qs qd qh so ma he : Nat → Int32} (hd : DR P mi d) (hB : BOk P B now) (hp : p < P) (hQ : QR qs qd qh (queueS d p B)) (hm : 24 ≤ m) (hm2 : m < 1000) (hn : 24 + E.length ≤ n) (hn2 : n < 1000) (hH : H < 1000) (hlaw : law < 3) (hN : 200 < N) (hE8 : E.length ≤ 20) (hX : EX law H d p B E t S) (hS8 : ∀ k, k < (B ++ E).length → bS (B ++ E) k < 8) (htu : t ≤ u) (hu : u < 2147483648) (hr : RowR so ma he (S.map (phE d p B E))) :
    ∃ so' ma' he', g_X5_hearTo N n m (nI H) (nI law) qs qh (nI B.length) so ma (nI S.length) he (nI (ordT d p B t).length) (nI u) = some (so', ma', nI (runI law H (bF d p (B ++ E)) S (seg d p B t u)).length, he', nI (ordT d p B u).length) ∧ RowR so' ma' he' ((runI law H (bF d p (B ++ E)) S (seg d p B t u)).map (phE d p B E)) := by
  have hl := hB.1
  have hql := queueS_len d p B
  have hot := ordT_len hB d p t
  obtain ⟨x1, x2, x3⟩ := hX.props
  have hQd : (queueS d p B).drop (ordT d p B t).length = ((ordB d p B).drop (ordT d p B t).length).map (fun k => qev d p (B.getD k b0)) := by rw [queueS_ord, List.map_drop]
  obtain ⟨so', ma', he', h3, h4⟩ := pX5_hearTo (N := N) (n := n) (m := m) (H := H) (law := law) hQ (queue_sorted hB p) (queue_small hd hB hp) (by omega) hm2 hn2 hH hlaw u hu (B.length - (ordT d p B t).length) (ordT d p B t).length (by omega) (by omega) so ma he (S.map (phE d p B E)) hr (fun q hq => by
      rw [hQd] at hq
      obtain ⟨x, hx, rfl⟩ := List.mem_map.mp hq
      refine hX.ok hS8 ?_
      show t ≤ bW d p B x
      have hxo : x ∈ ordB d p B := List.mem_of_mem_drop hx
      have hxn := ((ordB_spec hB d p).2.1 x).mp hxo
      have hnd := ltK_nodup (ordB_spec hB d p).1
      rw [← List.take_append_drop (ordT d p B t).length (ordB d p B), ordT_take] at hnd
      have : ¬ x ∈ ordT d p B t := fun z => (List.pairwise_append.mp hnd).2.2 x z x hx rfl
      rw [ordT_mem hB] at this
      omega) (by rw [List.length_map]; omega) (by rw [List.length_map]; omega)
  have e1 : toHear (queueS d p B) u (ordT d p B t).length = (seg d p B t u).length := by
    unfold toHear seg
    rw [hQd, List.takeWhile_map, List.length_map]
    rfl
  have e2 : ((evQ (queueS d p B)).drop (ordT d p B t).length).take (toHear (queueS d p B) u (ordT d p B t).length) = (seg d p B t u).map (phE d p B E) := by
    rw [e1, evQ_phi d p B (ltK_nodup (ordB_spec hB d p).1), ← List.map_drop, ← List.map_take]
    have e3 : ((ordB d p B).drop (ordT d p B t).length).take (seg d p B t u).length = seg d p B t u := takeWhile_len_take _ _
    rw [e3]
    exact List.map_congr_left (fun k hk => (phE_old ((seg_mem hB d p htu).mp hk).1).symm)
  have e4 : runC law H (S.map (phE d p B E)) ((seg d p B t u).map (phE d p B E)) = (runI law H (bF d p (B ++ E)) S (seg d p B t u)).map (phE d p B E) := runC_map (fun k => rfl) _ _
  rw [e2, e4] at h3 h4
  refine ⟨so', ma', he', ?_, h4⟩
  have h6 := congrArg List.length (ordT_seg d p B htu)
  rw [List.length_append] at h6
  rw [List.length_map, List.length_map, hql, e1, ← h6] at h3
  exact h3
theorem cl_add {N n : Nat} {so ma he : Nat → Int32} (hX : EX law H d p B E t S) (e : Be) (he0 : e.2.2 + d e.1 p = t) (hS8 : ∀ k, k < (B ++ E).length → bS (B ++ E) k < 8) (he8 : e.2.1 < 8) (hn : S.length < n) (hn2 : n < 1000) (hH : H < 1000) (hlaw : law < 3) (hN : S.length < N) (ht : t < 1000000000) (hr : RowR so ma he (S.map (phE d p B E))) :
    ∃ so' ma' he', g_X5_hear N n (nI H) (nI law) so ma (nI S.length) he (nI e.2.1) (nI t) (-1) = some (so', ma', nI (hearI law H (bF d p (B ++ (E ++ [e]))) S (B ++ E).length).length, he') ∧ RowR so' ma' he' ((hearI law H (bF d p (B ++ (E ++ [e]))) S (B ++ E).length).map (phE d p B (E ++ [e]))) := by
  obtain ⟨x1, x2, x3⟩ := hX.props
  have e1 : phE d p B (E ++ [e]) (B ++ E).length = (e.2.1, t, -1) := by
    unfold phE
    rw [← List.append_assoc]
    unfold bS bW bM bP
    rw [bd_new e, he0, if_neg (by rw [List.length_append]; omega)]
  have e2 : S.map (phE d p B E) = S.map (phE d p B (E ++ [e])) := List.map_congr_left (fun k hk => (phE_app (x2 k hk).1).symm)
  have hok : RowOk (S.map (phE d p B E)) t := hX.ok hS8 (Nat.le_refl _)
  obtain ⟨so', ma', he', h1, h2⟩ := pX5_hear (N := N) (n := n) (H := H) (law := law) hr (e.2.1, t, -1) hok (by rw [List.length_map]; exact hn) hn2 ht hH he8 hlaw (by rw [List.length_map]; exact hN)
  have e3 : hearC law H (S.map (phE d p B E)) (e.2.1, t, -1) = (hearI law H (bF d p (B ++ (E ++ [e]))) S (B ++ E).length).map (phE d p B (E ++ [e])) := by
    rw [e2, ← e1]
    exact hearC_map (fun k => rfl) _ _
  rw [e3, List.length_map, List.length_map] at h1
  rw [e3] at h2
  exact ⟨so', ma', he', h1, h2⟩
end EXT
