/-! ===== unsay, open ===== -/
theorem some_ite {g : Option Int32} {p q : Prop} {ip : Decidable p} [iq : Decidable q] (h1 : g = some (@ite _ p ip 1 0)) (h : p ↔ q) : g = some (if q then 1 else 0) := by
  rw [h1]
  by_cases c : p
  · rw [if_pos c, if_pos (h.mp c)]
  · rw [if_neg c, if_neg (fun z => c (h.mpr z))]
theorem posOf_mem : ∀ {L : List Nat} {k : Nat}, k ∈ L → L[posOf L k]? = some k := by
  intro L
  induction L with
  | nil => intro k h; cases h
  | cons x L ih =>
    intro k h
    unfold posOf
    by_cases c : x = k
    · rw [if_pos c, c]; rfl
    · rw [if_neg c, List.getElem?_cons_succ]
      rcases List.mem_cons.mp h with z | z
      · exact absurd z.symm c
      · exact ih z
theorem posOf_lt {L : List Nat} {k : Nat} (h : k ∈ L) : posOf L k < L.length := (List.getElem?_eq_some_iff.mp (posOf_mem h)).1
theorem posOf_inj {L : List Nat} {a b : Nat} (ha : a ∈ L) (hb : b ∈ L) (h : posOf L a = posOf L b) : a = b := by
  have h1 := posOf_mem ha
  rw [h, posOf_mem hb] at h1
  exact (Option.some.inj h1).symm
theorem pX5_holdsMark {N n : Nat} {so ma he : Nat → Int32} {l : List Tr} (hr : RowR so ma he l) (hl : l.length ≤ n) (hn : n < 1000) (hN : n < N) (y : Int32) : g_X5_holdsMark N n ma (nI l.length) y = some (if (∃ e ∈ l, e.2.2 = y) then 1 else 0) := by
  unfold g_X5_holdsMark
  suffices h : ∀ (m j : Nat), j + m = l.length → ∀ fu, m < fu → g_X5_holdsMark_L2 N n ma (nI l.length) fu y (nI j) = some (if (∃ e ∈ l.drop j, e.2.2 = y) then 1 else 0) by
    have := h l.length 0 (by omega) N (by omega)
    rw [List.drop_zero] at this
    exact this
  intro m
  induction m with
  | zero =>
    intro j hj fu hfu
    obtain ⟨fv, rfl⟩ : ∃ fv, fu = fv + 1 := ⟨fu - 1, by omega⟩
    have : j = l.length := by omega
    subst this
    unfold g_X5_holdsMark_L2
    rw [if_pos ((nle (by omega) (by omega)).mpr (Nat.le_refl _)), List.drop_length, if_neg (by rintro ⟨e, he, _⟩; cases he)]
  | succ m ih =>
    intro j hj fu hfu
    obtain ⟨fv, rfl⟩ : ∃ fv, fu = fv + 1 := ⟨fu - 1, by omega⟩
    obtain ⟨e, he0⟩ : ∃ e, l[j]? = some e := ⟨l[j], List.getElem?_eq_getElem (by omega)⟩
    unfold g_X5_holdsMark_L2
    rw [if_neg (by rw [nle (by omega) (by omega)]; omega), gi_nI (by omega) (by omega), nc (by omega), (hr j e he0).2.2, drop_cons he0]
    by_cases c : e.2.2 = y
    · rw [if_pos c, if_pos ⟨e, List.mem_cons_self, c⟩]
    · rw [if_neg c, nI_1, ih (j + 1) (by omega) fv (by omega)]
      by_cases z : ∃ e ∈ l.drop (j + 1), e.2.2 = y
      · obtain ⟨w, hw1, hw2⟩ := z
        rw [if_pos ⟨w, hw1, hw2⟩, if_pos ⟨w, List.mem_cons_of_mem _ hw1, hw2⟩]
      · rw [if_neg z, if_neg (fun ⟨w, hw1, hw2⟩ => by
          rcases List.mem_cons.mp hw1 with h | h
          · rw [h] at hw2; exact c hw2
          · exact z ⟨w, h, hw2⟩)]
theorem goneI_mem {law H : Nat} {f : Nat → Nat × Nat} {S : List Nat} {k x : Nat} (hn : S.Nodup) (hk : k ∉ S) : x ∈ goneI law H f S k ↔ x ∈ S ∧ x ∉ hearI law H f S k := by
  unfold goneI hearI
  cases hitO law (f k).1 (f k).2 H (S.map f) with
  | none =>
    constructor
    · intro h; cases h
    · rintro ⟨a, b⟩; exact absurd (List.mem_append_left _ a) b
  | some i =>
    by_cases a : law = 1
    · simp only [a, if_true]
      rw [← List.take_append_drop i S] at hn
      constructor
      · intro h
        exact ⟨List.mem_of_mem_drop h, fun z => (List.pairwise_append.mp hn).2.2 x z x h rfl⟩
      · rintro ⟨h1, h2⟩
        rw [← List.take_append_drop i S] at h1
        rcases List.mem_append.mp h1 with z | z
        · exact absurd z h2
        · exact z
    · simp only [a, if_false]
      rw [List.eraseIdx_eq_take_drop_succ]
      have e1 : S = S.take i ++ ((S.drop i).take 1 ++ S.drop (i + 1)) := by
        have h1 := List.take_append_drop 1 (S.drop i)
        rw [List.drop_drop] at h1
        have h2 := List.take_append_drop i S
        rw [h1, h2]
      rw [e1] at hn
      obtain ⟨n1, n2, n3⟩ := List.pairwise_append.mp hn
      obtain ⟨m1, m2, m3⟩ := List.pairwise_append.mp n2
      constructor
      · intro h
        refine ⟨by rw [e1]; exact List.mem_append_right _ (List.mem_append_left _ h), fun z => ?_⟩
        rcases List.mem_append.mp z with y | y
        · exact n3 x y x (List.mem_append_left _ h) rfl
        · exact m3 x h x y rfl
      · rintro ⟨h1, h2⟩
        rw [e1] at h1
        rcases List.mem_append.mp h1 with z | z
        · exact absurd (List.mem_append_left _ z) h2
        · rcases List.mem_append.mp z with y | y
          · exact y
          · exact absurd (List.mem_append_right _ y) h2
theorem goneR_app {law H : Nat} {f : Nat → Nat × Nat} : ∀ (R S : List Nat) (gb : Nat → Int32) (k : Nat), goneR law H f S gb (R ++ [k]) = gmark (goneR law H f S gb R) (goneI law H f (runI law H f S R) k) k := by
  intro R
  induction R with
  | nil => intro S gb k; rfl
  | cons x R ih =>
    intro S gb k
    show goneR law H f (hearI law H f S x) (gmark gb (goneI law H f S x) x) (R ++ [k]) = _
    rw [ih]
    rfl
theorem goneR_val {law H : Nat} {f : Nat → Nat × Nat} {x : Nat} : ∀ (R S : List Nat) (gb : Nat → Int32), goneR law H f S gb R x = gb x ∨ ∃ k ∈ R, goneR law H f S gb R x = nI k := by
  intro R
  induction R with
  | nil => intro S gb; exact Or.inl rfl
  | cons y R ih =>
    intro S gb
    have h := ih (hearI law H f S y) (gmark gb (goneI law H f S y) y)
    show goneR law H f (hearI law H f S y) (gmark gb (goneI law H f S y) y) R x = gb x ∨ ∃ k ∈ y :: R, goneR law H f (hearI law H f S y) (gmark gb (goneI law H f S y) y) R x = nI k
    rcases h with h | ⟨k, h1, h2⟩
    · rw [h]
      unfold gmark
      by_cases c : x ∈ goneI law H f S y
      · rw [if_pos c]; exact Or.inr ⟨y, List.mem_cons_self, rfl⟩
      · rw [if_neg c]; exact Or.inl rfl
    · exact Or.inr ⟨k, List.mem_cons_of_mem _ h1, h2⟩
/-- whether x, that stands at p, goes by one of its sort from q now -/
def goB (law H : Nat) (d : Nat → Nat → Nat) (p : Nat) (B : List Be) (now q x : Nat) : Bool := decide (x ∈ stdB law H d p B (now + d q p)) && !decide (x ∈ hearI law H (bF d p (B ++ [(q, bS B x, now)])) (stdB law H d p B (now + d q p)) B.length)
theorem marks {P now : Nat} {B E : List Be} {d : Nat → Nat → Nat} {p : Nat} (hB : BOk P B now) {S : List Nat} {x : Nat} (hx : x < B.length) : (∃ e ∈ S.map (phE d p B E), e.2.2 = nI (posOf (ordB d p B) x)) ↔ x ∈ S := by
  have h24 := hB.1
  have hm := (ordB_spec hB d p).2.1
  have hl := (ordB_spec hB d p).2.2
  have px := posOf_lt ((hm x).mpr hx)
  constructor
  · rintro ⟨e, he, h1⟩
    obtain ⟨k, hk, rfl⟩ := List.mem_map.mp he
    have h2 : (if k < B.length then nI (posOf (ordB d p B) k) else -1) = nI (posOf (ordB d p B) x) := h1
    by_cases c : k < B.length
    · rw [if_pos c] at h2
      have pk := posOf_lt ((hm k).mpr c)
      have h3 := (neq (by omega) (by omega)).mp h2
      rw [← posOf_inj ((hm k).mpr c) ((hm x).mpr hx) h3]
      exact hk
    · rw [if_neg c] at h2
      have : nI (posOf (ordB d p B) x) < 0 := by rw [← h2]; decide
      exact absurd this (nI_pos (by omega))
  · intro h
    refine ⟨phE d p B E x, List.mem_map.mpr ⟨x, h, rfl⟩, ?_⟩
    show (if x < B.length then nI (posOf (ordB d p B) x) else -1) = _
    rw [if_pos hx]
section UNSAY
variable {N P S H law now : Nat} {mi book bp bs bm s : Nat → Int32} {d : Nat → Nat → Nat} {B : List Be}
theorem bS_all {E : List Be} (hB : BOk P B now) (hE : ∀ e ∈ E, e.2.1 < 8) : ∀ k, k < (B ++ E).length → bS (B ++ E) k < 8 := by
  intro k hk
  have h : (B ++ E)[k] ∈ B ++ E := List.getElem_mem hk
  unfold bS
  rw [List.getD_eq_getElem?_getD, List.getElem?_eq_getElem hk]
  rcases List.mem_append.mp h with z | z
  · exact (hB.2.1 _ z).2.1
  · exact hE _ z
theorem pX11_goesBy (hN : 200 < N) (hh : HOk P S H law mi book d) (hB : BOk P B now) {p q x : Nat} (hp : p < P) (hq : q < P) (hx : x < B.length) {qs qd qh : Nat → Int32} (hQ : QR qs qd qh (queueS d p B)) (so ma he : Nat → Int32) (z n : Int32) :
    ∃ v, g_X11_goesBy N (nI P) (nI H) (nI law) mi (nI now) qs qh (nI B.length) so ma z he n (nI p) (nI q) (nI (bS B x)) (nI (posOf (ordB d p B) x)) = some v ∧ v.1 = if goB law H d p B now q x then 1 else 0 := by
  obtain ⟨⟨hP1, hP⟩, ⟨hS1, hS⟩, ⟨hH1, hH⟩, hlaw, hdr, hdb, hd0, k0, k1, k2, k3⟩ := hh
  have h24 := hB.1
  have hnow := hB.2.2.2
  have hd60 := (hdr q p hq hp).2
  have hxs := (hB.at hx).2.1
  unfold g_X11_goesBy
  rw [pX2_minutesBetween N P hdr hP hq hp]
  simp only [Option.bind_some]
  unfold g_X5_empty
  simp only [Option.bind_some]
  rw [nI_add]
  obtain ⟨so1, ma1, he1, e1, r1⟩ := cl_start (N := N) (n := 25) (m := 99) (H := H) (law := law) (t := now + d q p) hdr hB hp hQ (by omega) (by omega) (by omega) (by omega) (by omega) hlaw hN (by omega) so ma he
  have hX := EX.start hB law H d p (now + d q p)
  have hlen := stdB_len hB law H d p (now + d q p)
  have m1 := pX5_holdsMark (N := N) (n := 25) r1 (by rw [List.length_map]; omega) (by omega) (by omega) (nI (posOf (ordB d p B) x))
  rw [List.length_map] at m1
  replace m1 := some_ite m1 (marks hB hx)
  rw [e1]
  simp only [Option.bind_some]
  rw [m1]
  simp only [Option.bind_some]
  by_cases c : x ∈ stdB law H d p B (now + d q p)
  · rw [if_pos c, if_neg (show ¬ (1 : Int32) = 0 by decide)]
    obtain ⟨so2, ma2, he2, e2, r2⟩ := cl_add (N := N) (n := 25) (H := H) (law := law) hX (q, bS B x, now) rfl (bS_all hB (fun e he => by cases he)) hxs (by omega) (by omega) (by omega) hlaw (by omega) (by omega) r1
    have hap : B ++ ([] : List Be) = B := List.append_nil B
    have hap2 : B ++ (([] : List Be) ++ [(q, bS B x, now)]) = B ++ [(q, bS B x, now)] := rfl
    rw [hap, hap2] at e2 r2
    have e2' : g_X5_hear N 25 (nI H) (nI law) so1 ma1 (nI (stdB law H d p B (now + d q p)).length) he1 (nI (bS B x)) (nI (now + d q p)) (-1) = _ := e2
    have hl2 := hearI_len (law := law) (H := H) (f := bF d p (B ++ [(q, bS B x, now)])) (S := stdB law H d p B (now + d q p)) (k := B.length)
    have m2 := pX5_holdsMark (N := N) (n := 25) r2 (by rw [List.length_map]; omega) (by omega) (by omega) (nI (posOf (ordB d p B) x))
    rw [List.length_map] at m2
    replace m2 := some_ite m2 (marks hB hx)
    rw [e2']
    simp only [Option.bind_some]
    rw [m2]
    simp only [Option.bind_some]
    unfold goB
    by_cases c2 : x ∈ hearI law H (bF d p (B ++ [(q, bS B x, now)])) (stdB law H d p B (now + d q p)) B.length
    · rw [if_pos c2, if_neg (show ¬ (1 : Int32) = 0 by decide)]
      exact ⟨_, rfl, by simp [c2]⟩
    · rw [if_neg c2, if_pos rfl]
      exact ⟨_, rfl, by simp [c, c2]⟩
  · rw [if_neg c, if_pos rfl]
    exact ⟨_, rfl, by unfold goB; simp [c]⟩
theorem TR.push {pl so mi : Nat → Int32} {B : List Be} (h : TR pl so mi B) (e : Be) : TR (upd pl B.length (nI e.1)) (upd so B.length (nI e.2.1)) (upd mi B.length (nI e.2.2)) (B ++ [e]) := by
  intro k hk
  rw [List.length_append, List.length_singleton] at hk
  unfold bP bS bM
  by_cases a : k = B.length
  · subst a
    rw [bd_new e]
    simp [upd]
  · have hk' : k < B.length := by omega
    rw [bd_old e hk']
    have := h k hk'
    rw [pk_un a, pk_un a, pk_un a]
    exact this
theorem pX12_goes (hN : 200 < N) (hh : HOk P S H law mi book d) (hs : SR s B now) (hB : BOk P B now) {p q x : Nat} (hp : p < P) (hq : q < P) (hx : x < B.length) (pl so mi2 wh ih gb st : Nat → Int32) (many sz : Int32) :
    ∃ v, g_X12_goes N book s pl so mi2 wh ih gb st many sz (nI p) (nI x) (nI q) = some v ∧ v.1 = if goB law H d p B now q x then 1 else 0 := by
  obtain ⟨⟨hP1, hP⟩, ⟨hS1, hS⟩, ⟨hH1, hH⟩, hlaw, hdr, hdb, hd0, k0, k1, k2, k3⟩ := hh
  have h24 := hB.1
  have hnow := hB.2.2.2
  have hd60 := (hdr q p hq hp).2
  have hxs := (hB.at hx).2.1
  obtain ⟨pl', so', mi', h1, h2⟩ := pX12_starts (N := N) hs h24 (by omega) pl so mi2 many
  unfold g_X12_goes
  rw [h1]
  simp only [Option.bind_some]
  have e5 : 5 + 5 * nI q + nI p = nI (5 + 5 * q + p) := by rw [l5, pk_mul, nI_add, nI_add]
  have g1 : ∀ {α : Type} (z : Option α), gi 1 74 z = z := fun z => by rw [l1, gi_nI (by omega) (by omega)]
  rw [gi_nI (by omega) (by omega), g1, nc (by omega), (h2 x hx).2.1, show (1 : Int32).toNatClampNeg = 1 from rfl, hs.2.1, pX12_tries N pl' so' mi' (by omega)]
  simp only [Option.bind_some]
  rw [g1, e5, gi_nI (by omega) (by omega), nc (by omega), (hdb q p hq hp).1, nI_add]
  have hT := h2.push (q, bS B x, now)
  have hX := (EX.start hB law H d p (now + d q p)).add (q, bS B x, now) rfl (fun k hk => by
    rw [List.append_nil] at hk ⊢
    exact (hB.at hk).2.2)
  have hap : B ++ ([] : List Be) = B := List.append_nil B
  have hap2 : B ++ (([] : List Be) ++ [(q, bS B x, now)]) = B ++ [(q, bS B x, now)] := rfl
  unfold EX at hX
  rw [hap, hap2] at hX
  have hS0 := (EX.start hB law H d p (now + d q p))
  obtain ⟨s1, s2, s3⟩ := hS0.props
  rw [hap] at s1 s2
  -- the list of hearing, by hand: those before, then the new one
  have hsrt : Srt (bW d p (B ++ [(q, bS B x, now)])) (bM (B ++ [(q, bS B x, now)])) (now + d q p) (B ++ [(q, bS B x, now)]).length (ordT d p B (now + d q p) ++ [B.length]) := by
    have hl1 : (B ++ [(q, bS B x, now)]).length = B.length + 1 := by rw [List.length_append, List.length_singleton]
    rw [hl1]
    refine (srt_of (W := bW d p B) hB.mono (now + d q p)).add (fun k hk => bW_app hk) (fun k hk => bM_app hk) ?_ (fun k hk => ?_)
    · unfold bW bM bP; rw [bd_new]
    · have h4 : bM (B ++ [(q, bS B x, now)]) B.length = now := by unfold bM; rw [bd_new]
      rw [h4]; exact (hB.at hk).2.2
  have hlen : (B ++ [(q, bS B x, now)]).length = B.length + 1 := by rw [List.length_append, List.length_singleton]
  obtain ⟨wh', ih', gb0, st', p1, p2, p3, p4⟩ := pX12_plays (N := N) (t := now + d q p) (B := B ++ [(q, bS B x, now)]) hdb hp hP k1 k2 hlaw (by omega) (by omega) (by omega) (by omega) hT (fun k hk => by
    by_cases a : k = B.length
    · subst a
      unfold bP bS bM
      rw [bd_new]
      exact ⟨hq, hxs, by show now < 500000; omega⟩
    · have hk' : k < B.length := by omega
      have := hB.at hk'
      unfold bP bS bM at this ⊢
      rw [bd_old _ hk']
      exact ⟨this.1, this.2.1, by omega⟩) hsrt wh ih gb st sz
  rw [hlen] at p1
  rw [p1]
  simp only [Option.bind_some]
  rw [gi_nI (by omega) (by omega), nI_pred]
  have hrun : runI law H (bF d p (B ++ [(q, bS B x, now)])) [] (ordT d p B (now + d q p)) = stdB law H d p B (now + d q p) := by
    unfold stdB
    exact runI_congr (fun i hi => by cases hi) (fun i hi => bF_app ((ordT_mem hB d p _ i).mp hi).1)
  rw [goneR_app, hrun]
  have hnd : (stdB law H d p B (now + d q p)).Nodup := ltK_nodup s1
  have hnin : B.length ∉ stdB law H d p B (now + d q p) := fun z => by have := (s2 _ z).1; omega
  have hgm := goneI_mem (law := law) (H := H) (f := bF d p (B ++ [(q, bS B x, now)])) (x := x) hnd hnin
  by_cases c : x ∈ goneI law H (bF d p (B ++ [(q, bS B x, now)])) (stdB law H d p B (now + d q p)) B.length
  · have c2 := hgm.mp c
    unfold gmark
    rw [if_pos c, if_pos rfl]
    exact ⟨_, rfl, by unfold goB; simp [c2.1, c2.2]⟩
  · have c2 : goB law H d p B now q x = false := by
      cases hg : goB law H d p B now q x with
      | false => rfl
      | true =>
        unfold goB at hg
        simp only [Bool.and_eq_true, decide_eq_true_eq, Bool.not_eq_true', decide_eq_false_iff_not] at hg
        exact absurd (hgm.mpr hg) c
    unfold gmark
    rw [if_neg c]
    have hne : ¬ goneR law H (bF d p (B ++ [(q, bS B x, now)])) [] gb0 (ordT d p B (now + d q p)) x = nI B.length := by
      rcases goneR_val (law := law) (H := H) (f := bF d p (B ++ [(q, bS B x, now)])) (x := x) (ordT d p B (now + d q p)) [] gb0 with z | ⟨k, z1, z2⟩
      · rw [z, p4 x (by omega)]
        intro y
        have : nI B.length < 0 := by rw [← y]; decide
        exact nI_pos (by omega) this
      · rw [z2]
        intro y
        have h5 := (ordT_mem hB d p _ k).mp z1
        have h6 := (neq (by omega) (by omega)).mp y
        omega
    rw [if_neg hne]
    exact ⟨_, rfl, by rw [c2]; rfl⟩
theorem t_unsay (hN : 200 < N) (hh : HOk P S H law mi book d) (hBR : BR bp bs bm B) (hs : SR s B now) (hB : BOk P B now) (qs qd qh so ma he so4 ma4 he4 : Nat → Int32) (qz rz rn lz ln : Int32) (pl so2 mi2 wh ih gb st : Nat → Int32) (many sz : Int32) (x1 x2 x3 : Int32) :
    ∃ v w, g_X11_unsay N (nI P) (nI H) (nI law) mi bp bs bm (nI B.length) (nI now) qs qd qh qz so ma rz he rn so4 ma4 lz he4 ln x1 x2 x3 = some v ∧ g_X12_unsay N book s pl so2 mi2 wh ih gb st many sz x1 x2 x3 = some w ∧ v.1 = w.1 := by
  have hh' := hh
  obtain ⟨⟨hP1, hP⟩, ⟨hS1, hS⟩, ⟨hH1, hH⟩, hlaw, hdr, hdb, hd0, k0, k1, k2, k3⟩ := hh'
  have hnow := hB.2.2.2
  have h24 := hB.1
  unfold g_X11_unsay g_X12_unsay
  rw [pX2_isPlace, pX12_isPlace N P book (by omega) (by omega) k0, pX2_isPlace, pX12_isPlace N P book (by omega) (by omega) k0]
  have g1 : ∀ {α : Type} (z : Option α), gi 1 74 z = z := fun z => by rw [l1, gi_nI (by omega) (by omega)]
  rw [g1, show (1 : Int32).toNatClampNeg = 1 from rfl, hs.2.1]
  cases hx1 : ixB x1 P with
  | false => exact ⟨_, _, rfl, rfl, rfl⟩
  | true =>
    obtain ⟨p, hp, rfl⟩ := (ixB_iff (by omega)).mp hx1
    simp only [Option.bind_some, if_true]
    rw [if_neg (show ¬ (1 : Int32) = 0 by decide), if_neg (show ¬ (1 : Int32) = 0 by decide)]
    by_cases c : x2 < 0
    · rw [if_pos c, if_neg (Int32.not_le.mpr c)]
      cases hx3 : ixB x3 P with
      | false => exact ⟨_, _, rfl, rfl, rfl⟩
      | true => exact ⟨_, _, rfl, rfl, rfl⟩
    · rw [if_neg c, if_pos (Int32.not_lt.mp c)]
      cases hx3 : ixB x3 P with
      | false => exact ⟨_, _, rfl, rfl, rfl⟩
      | true =>
        obtain ⟨q, hq, rfl⟩ := (ixB_iff (by omega)).mp hx3
        simp only [if_true]
        rw [if_neg (show ¬ (1 : Int32) = 0 by decide), if_neg (show ¬ (1 : Int32) = 0 by decide)]
        obtain ⟨qs', qd', qh', so', ma', he', rn', h1, hQ, h2⟩ := pX11_standAt (N := N) (H := H) (law := law) hdr hP hBR hB (by omega) hlaw hN hp (show now < 2147483648 by omega) qs qd qh so ma he qz rz rn
        obtain ⟨pl', so3, mi', wh', ih', gb', st', h3, -, h4, h5⟩ := pX12_playsNow (N := N) (H := H) (law := law) hdb hp hP k1 k2 hlaw (by omega) (show now < 2147483648 by omega) hs hB hN pl so2 mi2 wh ih gb st many sz
        rw [h1, h3]
        simp only [Option.bind_some]
        have hlen := stdB_len hB law H d p now
        rcases pk_ix x2 (show (stdB law H d p B now).length < 2 ^ 31 by omega) with z | z | ⟨k, hk, rfl⟩
        · exact absurd z c
        · rw [if_neg (Int32.not_lt.mpr z), if_neg (Int32.not_lt.mpr z)]
          exact ⟨_, _, rfl, rfl, rfl⟩
        · obtain ⟨x, hx⟩ : ∃ x, (stdB law H d p B now)[k]? = some x := ⟨_, List.getElem?_eq_getElem hk⟩
          have hxB := (stdB_mem hB (List.mem_of_getElem? hx)).1
          have e1 := h2 k (phi d p B x) (by rw [List.getElem?_map, hx]; rfl)
          rw [if_pos ((nlt (by omega) (by omega)).mpr hk), if_pos ((nlt (by omega) (by omega)).mpr hk), gi_nI (by omega) (by omega), gi_nI (by omega) (by omega), gi_nI (by omega) (by omega), nc (by omega), e1.1, e1.2.2, h4 k x hx]
          obtain ⟨v, v1, v2⟩ := pX11_goesBy (N := N) hN hh hB hp hq hxB hQ so4 ma4 he4 lz ln
          obtain ⟨w, w1, w2⟩ := pX12_goes (N := N) hN hh hs hB hp hq hxB pl' so3 mi' wh' ih' gb' st' (nI B.length) (nI (stdB law H d p B now).length)
          have v1' : g_X11_goesBy N (nI P) (nI H) (nI law) mi (nI now) qs' qh' (nI B.length) so4 ma4 lz he4 ln (nI p) (nI q) (nI (phi d p B x).1) (phi d p B x).2.2 = some v := v1
          rw [v1', w1]
          simp only [Option.bind_some]
          rw [v2, w2]
          cases goB law H d p B now q x with
          | false => exact ⟨_, _, rfl, rfl, rfl⟩
          | true => exact ⟨_, _, rfl, rfl, rfl⟩
/-! open -/
theorem pX11_goesBySome (hN : 200 < N) (hh : HOk P S H law mi book d) (hB : BOk P B now) {p x : Nat} (hp : p < P) (hx : x < B.length) {qs qd qh : Nat → Int32} (hQ : QR qs qd qh (queueS d p B)) (so ma he : Nat → Int32) (z n : Int32) :
    ∃ v, g_X11_goesBySome N (nI P) (nI H) (nI law) mi (nI now) qs qh (nI B.length) so ma z he n (nI p) (nI (bS B x)) (nI (posOf (ordB d p B) x)) = some v ∧ v.1 = if (List.range P).any (fun q => goB law H d p B now q x) then 1 else 0 := by
  unfold g_X11_goesBySome
  have hP := hh.1.2
  suffices h : ∀ (m j : Nat), j + m = P → ∀ fu, m < fu → ∀ (so ma he : Nat → Int32) (z n : Int32), ∃ v, g_X11_goesBySome_L3 N (nI P) (nI H) (nI law) mi (nI now) qs qh (nI B.length) fu so ma z he n (nI p) (nI (bS B x)) (nI (posOf (ordB d p B) x)) (nI j) = some v ∧ v.1 = if (List.range' j m).any (fun q => goB law H d p B now q x) then 1 else 0 by
    rw [List.range_eq_range']
    exact h P 0 (by omega) N (by omega) so ma he z n
  intro m
  induction m with
  | zero =>
    intro j hj fu hfu so ma he z n
    obtain ⟨fv, rfl⟩ : ∃ fv, fu = fv + 1 := ⟨fu - 1, by omega⟩
    unfold g_X11_goesBySome_L3
    rw [if_pos ((nle (by omega) (by omega)).mpr (by omega))]
    exact ⟨_, rfl, rfl⟩
  | succ m ih =>
    intro j hj fu hfu so ma he z n
    obtain ⟨fv, rfl⟩ : ∃ fv, fu = fv + 1 := ⟨fu - 1, by omega⟩
    unfold g_X11_goesBySome_L3
    obtain ⟨v, v1, v2⟩ := pX11_goesBy (N := N) (q := j) hN hh hB hp (by omega) hx hQ so ma he z n
    rw [if_neg (by rw [nle (by omega) (by omega)]; omega), v1]
    simp only [Option.bind_some]
    rw [v2, List.range'_succ, List.any_cons]
    cases hg : goB law H d p B now j x with
    | true => exact ⟨_, rfl, rfl⟩
    | false =>
      simp only [Bool.false_or]
      rw [if_neg (show ¬ (false = true) by decide), if_pos rfl, nI_1]
      exact ih (j + 1) (by omega) fv (by omega) _ _ _ _ _
def cntB (q : Nat → Bool) (l : List Nat) : Nat := (l.filter q).length
theorem op_in {kk : (Nat → Int32) → (Nat → Int32) → (Nat → Int32) → (Nat → Int32) → (Nat → Int32) → (Nat → Int32) → (Nat → Int32) → Int32 → Int32 → Int32 → Int32 → Int32 → Int32 → Int32 → Option (Int32 × (Nat → Int32) × (Nat → Int32) × (Nat → Int32) × (Nat → Int32) × (Nat → Int32) × (Nat → Int32) × (Nat → Int32) × Int32 × Int32)} (hN : 200 < N) (hh : HOk P S H law mi book d) (hs : SR s B now) (hB : BOk P B now) {p k x : Nat} (hp : p < P) (hk : (stdB law H d p B now)[k]? = some x) (x2 x3 : Int32) :
    ∀ (m j : Nat), j + m = P → ∀ fu, m < fu → ∀ (pl so mi2 wh ih gb st : Nat → Int32) (many sz : Int32) (b : Bool), ∃ pl' so' mi' wh' ih' gb' st' many' sz', g_X12_open_L43 N book s kk fu pl so mi2 wh ih gb st many sz (nI p) x2 x3 (nI k) (if b then 1 else 0) (nI j) = kk pl' so' mi' wh' ih' gb' st' many' sz' (nI p) x2 x3 (nI k) (if b || (List.range' j m).any (fun q => goB law H d p B now q x) then 1 else 0) := by
  have hh' := hh
  obtain ⟨⟨hP1, hP⟩, ⟨hS1, hS⟩, ⟨hH1, hH⟩, hlaw, hdr, hdb, hd0, k0, k1, k2, k3⟩ := hh'
  have hnow := hB.2.2.2
  have h24 := hB.1
  have hkl := (List.getElem?_eq_some_iff.mp hk).1
  have hlen := stdB_len hB law H d p now
  have hxB := (stdB_mem hB (List.mem_of_getElem? hk)).1
  have g1 : ∀ {α : Type} (z : Option α), gi 1 74 z = z := fun z => by rw [l1, gi_nI (by omega) (by omega)]
  have g0 : ∀ {α : Type} (z : Option α), gi 0 78 z = z := fun z => by rw [l0, gi_nI (by omega) (by omega)]
  intro m
  induction m with
  | zero =>
    intro j hj fu hfu pl so mi2 wh ih gb st many sz b
    obtain ⟨fv, rfl⟩ : ∃ fv, fu = fv + 1 := ⟨fu - 1, by omega⟩
    unfold g_X12_open_L43
    rw [g0, show (0 : Int32).toNatClampNeg = 0 from rfl, k0, if_pos ((nle (by omega) (by omega)).mpr (by omega))]
    refine ⟨pl, so, mi2, wh, ih, gb, st, many, sz, ?_⟩
    simp
  | succ m ihm =>
    intro j hj fu hfu pl so mi2 wh ih gb st many sz b
    obtain ⟨fv, rfl⟩ : ∃ fv, fu = fv + 1 := ⟨fu - 1, by omega⟩
    obtain ⟨pl', so3, mi', wh', ih', gb', st', h3, -, h4, h5⟩ := pX12_playsNow (N := N) (H := H) (law := law) hdb hp hP k1 k2 hlaw (by omega) (show now < 2147483648 by omega) hs hB hN pl so mi2 wh ih gb st many sz
    obtain ⟨w, w1, w2⟩ := pX12_goes (N := N) (q := j) hN hh hs hB hp (by omega) hxB pl' so3 mi' wh' ih' gb' st' (nI B.length) (nI (stdB law H d p B now).length)
    unfold g_X12_open_L43
    rw [g0, show (0 : Int32).toNatClampNeg = 0 from rfl, k0, if_neg (by rw [nle (by omega) (by omega)]; omega), g1, show (1 : Int32).toNatClampNeg = 1 from rfl, hs.2.1, h3]
    simp only [Option.bind_some]
    rw [List.range'_succ, List.any_cons]
    cases b with
    | true =>
      rw [if_pos rfl, if_neg (show ¬ (1 : Int32) = 0 by decide)]
      unfold g_X12_open_b87 g_X12_open_b92
      rw [nI_1]
      obtain ⟨a1, a2, a3, a4, a5, a6, a7, a8, a9, ha⟩ := ihm (j + 1) (by omega) fv (by omega) pl' so3 mi' wh' ih' gb' st' (nI B.length) (nI (stdB law H d p B now).length) true
      refine ⟨a1, a2, a3, a4, a5, a6, a7, a8, a9, ?_⟩
      rw [if_pos rfl] at ha
      rw [ha]
      simp
    | false =>
      rw [if_neg (show ¬ (false = true) by decide), if_pos rfl, gi_nI (by omega) (by omega), nc (by omega), h4 k x hk, w1]
      simp only [Option.bind_some]
      rw [w2]
      cases hg : goB law H d p B now j x with
      | true =>
        rw [if_pos rfl, if_neg (show ¬ (1 : Int32) = 0 by decide)]
        unfold g_X12_open_b87 g_X12_open_b92
        rw [nI_1]
        obtain ⟨a1, a2, a3, a4, a5, a6, a7, a8, a9, ha⟩ := ihm (j + 1) (by omega) fv (by omega) w.2.1 w.2.2.1 w.2.2.2.1 w.2.2.2.2.1 w.2.2.2.2.2.1 w.2.2.2.2.2.2.1 w.2.2.2.2.2.2.2.1 w.2.2.2.2.2.2.2.2.1 w.2.2.2.2.2.2.2.2.2 true
        refine ⟨a1, a2, a3, a4, a5, a6, a7, a8, a9, ?_⟩
        rw [if_pos rfl] at ha
        rw [ha]
        simp
      | false =>
        rw [if_neg (show ¬ (false = true) by decide), if_pos rfl]
        unfold g_X12_open_b92
        rw [nI_1]
        obtain ⟨a1, a2, a3, a4, a5, a6, a7, a8, a9, ha⟩ := ihm (j + 1) (by omega) fv (by omega) w.2.1 w.2.2.1 w.2.2.2.1 w.2.2.2.2.1 w.2.2.2.2.2.1 w.2.2.2.2.2.2.1 w.2.2.2.2.2.2.2.1 w.2.2.2.2.2.2.2.2.1 w.2.2.2.2.2.2.2.2.2 false
        refine ⟨a1, a2, a3, a4, a5, a6, a7, a8, a9, ?_⟩
        rw [if_neg (show ¬ (false = true) by decide)] at ha
        rw [ha]
        first | rfl | (simp; done)
theorem cntB_step {q : Nat → Bool} {l : List Nat} {k x : Nat} (h : l[k]? = some x) : cntB q (l.take (k + 1)) = cntB q (l.take k) + if q x then 1 else 0 := by
  unfold cntB
  rw [List.take_succ, h, List.filter_append, List.length_append]
  cases hq : q x <;> simp [hq]
theorem cntB_le {q : Nat → Bool} {l : List Nat} : cntB q l ≤ l.length := List.length_filter_le _ _
theorem t_open (hN : 200 < N) (hh : HOk P S H law mi book d) (hBR : BR bp bs bm B) (hs : SR s B now) (hB : BOk P B now) (qs qd qh so ma he so4 ma4 he4 : Nat → Int32) (qz rz rn lz ln : Int32) (pl so2 mi2 wh ih gb st : Nat → Int32) (many sz : Int32) (x1 : Int32) :
    ∃ v w, g_X11_open N (nI P) (nI H) (nI law) mi bp bs bm (nI B.length) (nI now) qs qd qh qz so ma rz he rn so4 ma4 lz he4 ln x1 = some v ∧ g_X12_open N book s pl so2 mi2 wh ih gb st many sz x1 = some w ∧ v.1 = w.1 := by
  have hh' := hh
  obtain ⟨⟨hP1, hP⟩, ⟨hS1, hS⟩, ⟨hH1, hH⟩, hlaw, hdr, hdb, hd0, k0, k1, k2, k3⟩ := hh'
  have hnow := hB.2.2.2
  have h24 := hB.1
  unfold g_X11_open g_X12_open
  rw [pX2_isPlace, pX12_isPlace N P book (by omega) (by omega) k0]
  have g1 : ∀ {α : Type} (z : Option α), gi 1 74 z = z := fun z => by rw [l1, gi_nI (by omega) (by omega)]
  rw [g1, show (1 : Int32).toNatClampNeg = 1 from rfl, hs.2.1]
  cases hx1 : ixB x1 P with
  | false => exact ⟨_, _, rfl, rfl, rfl⟩
  | true =>
    obtain ⟨p, hp, rfl⟩ := (ixB_iff (by omega)).mp hx1
    simp only [Option.bind_some, if_true]
    rw [if_neg (show ¬ (1 : Int32) = 0 by decide), if_neg (show ¬ (1 : Int32) = 0 by decide)]
    obtain ⟨qs', qd', qh', so', ma', he', rn', h1, hQ, h2⟩ := pX11_standAt (N := N) (H := H) (law := law) hdr hP hBR hB (by omega) hlaw hN hp (show now < 2147483648 by omega) qs qd qh so ma he qz rz rn
    obtain ⟨pl', so3, mi', wh', ih', gb', st', h3, -, h4, h5⟩ := pX12_playsNow (N := N) (H := H) (law := law) hdb hp hP k1 k2 hlaw (by omega) (show now < 2147483648 by omega) hs hB hN pl so2 mi2 wh ih gb st many sz
    rw [h1, h3]
    simp only [Option.bind_some]
    have hlen := stdB_len hB law H d p now
    have hA : ∀ (m k : Nat), k + m = (stdB law H d p B now).length → ∀ fu, m < fu → ∀ (so4 ma4 he4 : Nat → Int32) (lz ln : Int32), ∃ v, g_X11_open_L29 N (nI P) (nI H) (nI law) mi bp bs bm (nI B.length) (nI now) fu qs' qd' qh' (nI B.length) so' ma' (nI (stdB law H d p B now).length) he' rn' so4 ma4 lz he4 ln (nI p) (nI (cntB (fun x => (List.range P).any (fun q => goB law H d p B now q x)) ((stdB law H d p B now).take k))) (nI k) = some v ∧ v.1 = nI (cntB (fun x => (List.range P).any (fun q => goB law H d p B now q x)) (stdB law H d p B now)) := by
      intro m
      induction m with
      | zero =>
        intro k hk fu hfu so4 ma4 he4 lz ln
        obtain ⟨fv, rfl⟩ : ∃ fv, fu = fv + 1 := ⟨fu - 1, by omega⟩
        unfold g_X11_open_L29
        rw [if_pos ((nle (by omega) (by omega)).mpr (by omega)), List.take_of_length_le (by omega)]
        exact ⟨_, rfl, rfl⟩
      | succ m ihm =>
        intro k hk fu hfu so4 ma4 he4 lz ln
        obtain ⟨fv, rfl⟩ : ∃ fv, fu = fv + 1 := ⟨fu - 1, by omega⟩
        obtain ⟨x, hx⟩ : ∃ x, (stdB law H d p B now)[k]? = some x := ⟨_, List.getElem?_eq_getElem (by omega)⟩
        have hxB := (stdB_mem hB (List.mem_of_getElem? hx)).1
        have e1 := h2 k (phi d p B x) (by rw [List.getElem?_map, hx]; rfl)
        obtain ⟨v, v1, v2⟩ := pX11_goesBySome (N := N) hN hh hB hp hxB hQ so4 ma4 he4 lz ln
        have v1' : g_X11_goesBySome N (nI P) (nI H) (nI law) mi (nI now) qs' qh' (nI B.length) so4 ma4 lz he4 ln (nI p) (nI (phi d p B x).1) (phi d p B x).2.2 = some v := v1
        have hst := cntB_step (q := fun x => (List.range P).any (fun q => goB law H d p B now q x)) hx
        have ih' := ihm (k + 1) (by omega) fv (by omega)
        rw [hst] at ih'
        unfold g_X11_open_L29
        rw [if_neg (by rw [nle (by omega) (by omega)]; omega), gi_nI (by omega) (by omega), gi_nI (by omega) (by omega), nc (by omega), e1.1, e1.2.2, v1']
        simp only [Option.bind_some]
        rw [v2]
        unfold g_X11_open_b69
        cases hg : (List.range P).any (fun q => goB law H d p B now q x) with
        | false =>
          rw [if_neg (show ¬ (false = true) by decide), if_pos rfl, nI_1]
          simp only [hg, Nat.add_zero, if_false, Bool.false_eq_true] at ih'
          exact ih' _ _ _ _ _
        | true =>
          rw [if_pos rfl, if_neg (show ¬ (1 : Int32) = 0 by decide), nI_1, nI_1]
          simp only [hg, if_true] at ih'
          exact ih' _ _ _ _ _
    have hC : ∀ (m k : Nat), k + m = (stdB law H d p B now).length → ∀ fu, m < fu → ∀ (pl so2 mi2 wh ih gb st : Nat → Int32) (many sz : Int32), ∃ v, g_X12_open_L31 N book s fu pl so2 mi2 wh ih gb st many sz (nI p) (nI (cntB (fun x => (List.range P).any (fun q => goB law H d p B now q x)) ((stdB law H d p B now).take k))) (nI (stdB law H d p B now).length) (nI k) = some v ∧ v.1 = nI (cntB (fun x => (List.range P).any (fun q => goB law H d p B now q x)) (stdB law H d p B now)) := by
      intro m
      induction m with
      | zero =>
        intro k hk fu hfu pl so2 mi2 wh ih gb st many sz
        obtain ⟨fv, rfl⟩ : ∃ fv, fu = fv + 1 := ⟨fu - 1, by omega⟩
        unfold g_X12_open_L31
        rw [if_pos ((nle (by omega) (by omega)).mpr (by omega)), List.take_of_length_le (by omega)]
        exact ⟨_, rfl, rfl⟩
      | succ m ihm =>
        intro k hk fu hfu pl so2 mi2 wh ih gb st many sz
        obtain ⟨fv, rfl⟩ : ∃ fv, fu = fv + 1 := ⟨fu - 1, by omega⟩
        obtain ⟨x, hx⟩ : ∃ x, (stdB law H d p B now)[k]? = some x := ⟨_, List.getElem?_eq_getElem (by omega)⟩
        have hst := cntB_step (q := fun x => (List.range P).any (fun q => goB law H d p B now q x)) hx
        have ih' := ihm (k + 1) (by omega) fv (by omega)
        rw [hst] at ih'
        obtain ⟨a1, a2, a3, a4, a5, a6, a7, a8, a9, ha⟩ := op_in (N := N) (kk := g_X12_open_b100 N book s (g_X12_open_L31 N book s fv)) hN hh hs hB hp hx (nI (cntB (fun x => (List.range P).any (fun q => goB law H d p B now q x)) ((stdB law H d p B now).take k))) (nI (stdB law H d p B now).length) P 0 (by omega) N (by omega) pl so2 mi2 wh ih gb st many sz false
        have ha' : g_X12_open_L43 N book s (g_X12_open_b100 N book s (g_X12_open_L31 N book s fv)) N pl so2 mi2 wh ih gb st many sz (nI p) (nI (cntB (fun x => (List.range P).any (fun q => goB law H d p B now q x)) ((stdB law H d p B now).take k))) (nI (stdB law H d p B now).length) (nI k) 0 0 = _ := ha
        unfold g_X12_open_L31
        rw [if_neg (by rw [nle (by omega) (by omega)]; omega), ha']
        simp only [Bool.false_or]
        rw [← List.range_eq_range']
        unfold g_X12_open_b100 g_X12_open_b111
        cases hg : (List.range P).any (fun q => goB law H d p B now q x) with
        | false =>
          rw [if_neg (show ¬ (false = true) by decide), if_pos rfl, nI_1, l0, nI_add]
          simp only [hg, if_false, Bool.false_eq_true] at ih'
          exact ih' _ _ _ _ _ _ _ _ _
        | true =>
          rw [if_pos rfl, if_neg (show ¬ (1 : Int32) = 0 by decide), nI_1, l1, nI_add]
          simp only [hg, if_true] at ih'
          exact ih' _ _ _ _ _ _ _ _ _
    obtain ⟨v, v1, v2⟩ := hA (stdB law H d p B now).length 0 (by omega) N (by omega) so4 ma4 he4 lz ln
    obtain ⟨w, w1, w2⟩ := hC (stdB law H d p B now).length 0 (by omega) N (by omega) pl' so3 mi' wh' ih' gb' st' (nI B.length) (nI (stdB law H d p B now).length)
    exact ⟨v, w, v1, w1, by rw [v2, w2]⟩
end UNSAY
