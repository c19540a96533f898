/-! ===== takes ===== -/
theorem TR.pre {pl so mi : Nat → Int32} {B : List Be} {e : Be} (h : TR pl so mi (B ++ [e])) : TR pl so mi B := by
  intro k hk
  have := h k (by rw [List.length_append]; omega)
  unfold bP bS bM at this ⊢
  rw [bd_old e hk] at this
  exact this
theorem bd_get {B : List Be} {k : Nat} (hk : k < B.length) : B.getD k b0 = B[k] := by
  rw [List.getD_eq_getElem?_getD, List.getElem?_eq_getElem hk]; rfl
/-- of all of B and E -/
theorem bAll {P now T p : Nat} {B E : List Be} (hB : BOk P B now) (hT : now ≤ T) (hp : p < P) (hE : ∀ e ∈ E, e.1 = p ∧ e.2.1 < 8 ∧ e.2.2 ≤ T) {k : Nat} (hk : k < (B ++ E).length) : bP (B ++ E) k < P ∧ bS (B ++ E) k < 8 ∧ bM (B ++ E) k ≤ T ∧ (B.length ≤ k → bP (B ++ E) k = p) := by
  unfold bP bS bM
  rw [bd_get hk]
  by_cases c : k < B.length
  · rw [List.getElem_append_left c]
    obtain ⟨h1, h2, h3⟩ := hB.2.1 B[k] (List.getElem_mem c)
    exact ⟨h1, h2, by omega, fun z => by omega⟩
  · rw [List.getElem_append_right (by omega)]
    have hk2 : k - B.length < E.length := by rw [List.length_append] at hk; omega
    obtain ⟨h1, h2, h3⟩ := hE (E[k - B.length]) (List.getElem_mem hk2)
    exact ⟨by rw [h1]; exact hp, h2, h3, fun _ => h1⟩
theorem bW_E {P now T p : Nat} {d : Nat → Nat → Nat} {B E : List Be} (hB : BOk P B now) (hT : now ≤ T) (hp : p < P) (hd0 : d p p = 0) (hE : ∀ e ∈ E, e.1 = p ∧ e.2.1 < 8 ∧ e.2.2 ≤ T) : ∀ k, B.length ≤ k → k < (B ++ E).length → bW d p (B ++ E) k ≤ T := by
  intro k h1 h2
  obtain ⟨a, b, c, e⟩ := bAll hB hT hp hE h2
  unfold bW
  rw [e h1, hd0]
  omega
theorem hearI_hit {law H : Nat} {d : Nat → Nat → Nat} {p t : Nat} {B E : List Be} {S : List Nat} {e : Be} (he : e.2.2 + d e.1 p = t) (hS : ∀ k ∈ S, k < (B ++ E).length) : hearI law H (bF d p (B ++ (E ++ [e]))) S (B ++ E).length = match hitO law e.2.1 t H (S.map (bF d p (B ++ E))) with
    | none => S ++ [(B ++ E).length]
    | some i => if law = 1 then S.take i else S.eraseIdx i := by
  have e1 : bF d p (B ++ (E ++ [e])) (B ++ E).length = (e.2.1, t) := by
    rw [← List.append_assoc]
    unfold bF bS bW bM bP
    rw [bd_new e, he]
  have e2 : S.map (bF d p (B ++ (E ++ [e]))) = S.map (bF d p (B ++ E)) := List.map_congr_left (fun k hk => by rw [← List.append_assoc, bF_app (hS k hk)])
  unfold hearI
  rw [e1, e2]
  rfl
section TAKES
variable {N P Sn H law now : Nat} {mi book bp bs bm s : Nat → Int32} {d : Nat → Nat → Nat} {B : List Be}
/-- the reference plays B, E and one beat more at p, at t -/
theorem ref_add (hN : 200 < N) (hh : HOk P Sn H law mi book d) (hB : BOk P B now) {p t : Nat} (hp : p < P) {E : List Be} {S : List Nat} (hE8 : E.length ≤ 20) (hE : ∀ e ∈ E, e.1 = p ∧ e.2.1 < 8 ∧ e.2.2 ≤ t) (ht : now ≤ t) (ht2 : t < 100000) {c : Nat} (hc : c < 8) (hX : EX law H d p B E t S) {pl so mi2 : Nat → Int32} (hT : TR pl so mi2 (B ++ E)) (wh ih gb st : Nat → Int32) (sz : Int32) :
    ∃ wh' ih' gb' st', g_X12_plays N book (upd pl (B ++ E).length (nI p)) (upd so (B ++ E).length (nI c)) (upd mi2 (B ++ E).length (nI t)) (nI ((B ++ E).length + 1)) wh ih gb st sz (nI p) (nI t) = some (wh', ih', gb', st', nI (hearI law H (bF d p (B ++ (E ++ [(p, c, t)]))) S (B ++ E).length).length) ∧ Rp st' (hearI law H (bF d p (B ++ (E ++ [(p, c, t)]))) S (B ++ E).length) ∧ EX law H d p B (E ++ [(p, c, t)]) t (hearI law H (bF d p (B ++ (E ++ [(p, c, t)]))) S (B ++ E).length) ∧ TR (upd pl (B ++ E).length (nI p)) (upd so (B ++ E).length (nI c)) (upd mi2 (B ++ E).length (nI t)) (B ++ (E ++ [(p, c, t)])) := by
  obtain ⟨⟨hP1, hP⟩, ⟨hS1, hS⟩, ⟨hH1, hH⟩, hlaw, hdr, hdb, hd0, k0, k1, k2, k3⟩ := hh
  have h24 := hB.1
  have hT' := hT.push (p, c, t)
  rw [List.append_assoc] at hT'
  have hX' := hX.add (p, c, t) (by show t + d p p = t; rw [hd0 p hp]; omega) (fun k hk => (bAll hB ht hp hE hk).2.2.1)
  have hE' : ∀ e ∈ E ++ [(p, c, t)], e.1 = p ∧ e.2.1 < 8 ∧ e.2.2 ≤ t := fun e he => by
    rcases List.mem_append.mp he with z | z
    · exact hE e z
    · rw [List.mem_singleton.mp z]; exact ⟨rfl, hc, Nat.le_refl _⟩
  have hlen : (B ++ (E ++ [(p, c, t)])).length = (B ++ E).length + 1 := by
    rw [← List.append_assoc, List.length_append, List.length_singleton]
  have hlen2 : (B ++ E).length = B.length + E.length := List.length_append
  have hX'' := hX'
  obtain ⟨L, q1, q2, q3⟩ := hX''
  obtain ⟨wh', ih', gb0, st', p1, p2, p3, p4⟩ := pX12_plays (N := N) (t := t) (B := B ++ (E ++ [(p, c, t)])) hdb hp hP k1 k2 hlaw (by omega) (by omega) (by omega) (by omega) hT' (fun k hk => by
    obtain ⟨a1, a2, a3, a4⟩ := bAll hB ht hp hE' hk
    exact ⟨a1, a2, by omega⟩) q1 wh ih gb st sz
  rw [hlen, ← q3] at p1
  rw [← q3] at p2
  exact ⟨wh', ih', _, st', p1, p2, hX', hT'⟩
theorem tk_step (hN : 200 < N) (hh : HOk P Sn H law mi book d) (hs : SR s B now) (hB : BOk P B now) {p w : Nat} (hp : p < P) (hw : w ≤ 600) {E : List Be} {S : List Nat} {l : List Nat} {row : Nat → Int32} {rm : Int32} (hl8 : l.length ≤ 8) (hE8 : E.length < l.length) (hrow : Rp row l) (hlc : ∀ c ∈ l, c < 8) (hE : ∀ e ∈ E, e.1 = p ∧ e.2.1 < 8 ∧ e.2.2 ≤ now + w) (hX : EX law H d p B E (now + w) S) {c : Nat} (hc : l[E.length]? = some c) {pl so mi2 : Nat → Int32} (hT : TR pl so mi2 (B ++ E)) (kk : (Nat → Int32) → (Nat → Int32) → (Nat → Int32) → (Nat → Int32) → (Nat → Int32) → (Nat → Int32) → (Nat → Int32) → Int32 → Int32 → Int32 → Int32 → Int32 → Option (Int32 × (Nat → Int32) × (Nat → Int32) × (Nat → Int32) × (Nat → Int32) × (Nat → Int32) × (Nat → Int32) × (Nat → Int32) × Int32 × Int32)) (fu : Nat) (wh ih gb st : Nat → Int32) (many sz : Int32) :
    ∃ pl' so' mi' wh' ih' gb' st' sz', TR pl' so' mi' (B ++ (E ++ [(p, c, now + w)])) ∧ g_X12_takes_L42 N book s row rm kk (fu + 1) pl so mi2 wh ih gb st many sz (nI p) (nI (now + w) - 1) (nI E.length) 0 (nI (B ++ E).length) = g_X12_takes_L42 N book s row rm kk fu pl' so' mi' wh' ih' gb' st' (nI ((B ++ E).length + 1)) sz' (nI p) (nI (now + w)) (nI E.length) (if hitO law c (now + w) H (S.map (bF d p (B ++ E))) = none then 1 else 0) (nI (B ++ E).length) := by
  have h24 := hB.1
  have hnow := hB.2.2.2
  have hlen2 : (B ++ E).length = B.length + E.length := List.length_append
  have hc8 := hlc c (List.mem_of_getElem? hc)
  obtain ⟨wh', ih', gb', st', p1, p2, p3, p4⟩ := ref_add (N := N) (t := now + w) hN hh hB hp (by omega) hE (by omega) (by omega) hc8 hX hT wh ih gb st sz
  obtain ⟨x1, x2, x3⟩ := hX.props
  have hd0 := hh.2.2.2.2.2.2.1
  have hit := hearI_hit (law := law) (H := H) (d := d) (p := p) (t := now + w) (B := B) (E := E) (S := S) (e := (p, c, now + w)) (by show now + w + d p p = now + w; rw [hd0 p hp]; omega) (fun k hk => (x2 k hk).1)
  have g1 : ∀ {α : Type} (z : Option α), gi 1 74 z = z := fun z => by rw [l1, gi_nI (by omega) (by omega)]
  have hSl : S.length ≤ 32 := by have := ordT_len hB d p (now + w); omega
  refine ⟨_, _, _, wh', ih', gb', st', nI (hearI law H (bF d p (B ++ (E ++ [(p, c, now + w)]))) S (B ++ E).length).length, p4, ?_⟩
  conv => lhs; unfold g_X12_takes_L42
  rw [if_pos rfl, g1, Int32.sub_add_cancel, show (1 : Int32).toNatClampNeg = 1 from rfl, hs.2.1, l600, nI_add, if_pos ((nle (by omega) (by omega)).mpr (by omega)), gi_nI (by omega) (by omega), nc (by omega), hrow _ _ hc, pX12_tries N pl so mi2 (by omega)]
  simp only [Option.bind_some]
  rw [p1]
  simp only [Option.bind_some]
  have hl2 := hearI_len (law := law) (H := H) (f := bF d p (B ++ (E ++ [(p, c, now + w)]))) (S := S) (k := (B ++ E).length)
  generalize hS2 : hearI law H (bF d p (B ++ (E ++ [(p, c, now + w)]))) S (B ++ E).length = S2 at *
  have hS2l : S2.length ≤ 33 := by omega
  cases hh0 : hitO law c (now + w) H (S.map (bF d p (B ++ E))) with
  | none =>
    have hit' : S2 = S ++ [(B ++ E).length] := by
      have : hitO law (p, c, now + w).2.1 (now + w) H (S.map (bF d p (B ++ E))) = none := hh0
      rw [this] at hit
      exact hit
    have hl3 : S2.length = S.length + 1 := by rw [hit', List.length_append, List.length_singleton]
    rw [if_neg (by rw [l0, nle (by omega) (by omega)]; omega)]
    unfold g_X12_takes_b112
    have e9 : nI S2.length - 1 = nI S.length := by rw [hl3, nI_pred]
    have e10 : st' S.length = nI (B ++ E).length := p2 S.length _ (by rw [hit', List.getElem?_append_right (Nat.le_refl _), Nat.sub_self]; rfl)
    rw [e9, gi_nI (by omega) (by omega), nc (by omega), e10, if_pos rfl, if_neg (by rw [l0, nle (by omega) (by omega)]; omega)]
    unfold g_X12_takes_b130
    rw [if_pos rfl]
  | some i =>
    have hit' : ∀ x ∈ S2, x < (B ++ E).length := by
      have : hitO law (p, c, now + w).2.1 (now + w) H (S.map (bF d p (B ++ E))) = some i := hh0
      rw [this] at hit
      intro x hx
      rw [hit] at hx
      by_cases a : law = 1
      · simp only [a, if_true] at hx; exact (x2 x (List.mem_of_mem_take hx)).1
      · simp only [a, if_false] at hx; exact (x2 x (List.mem_of_mem_eraseIdx hx)).1
    rw [if_neg (show ¬ (some i = none) by simp)]
    by_cases z : S2.length = 0
    · rw [if_pos (by rw [l0, nle (by omega) (by omega)]; omega)]
      unfold g_X12_takes_b112
      have g0 : ∀ {α : Type} (z : Option α), gi 0 128 z = z := fun z => by rw [l0, gi_nI (by omega) (by omega)]
      rw [g0]
      have e11 : nI S2.length ≤ 0 := by rw [z]; decide
      rw [if_pos e11]
      unfold g_X12_takes_b129 g_X12_takes_b130
      rw [ite_self]
    · rw [if_neg (by rw [l0, nle (by omega) (by omega)]; omega)]
      unfold g_X12_takes_b112
      obtain ⟨m, hm⟩ : ∃ m, S2.length = m + 1 := ⟨S2.length - 1, by omega⟩
      obtain ⟨y, hy⟩ : ∃ y, S2[m]? = some y := ⟨_, List.getElem?_eq_getElem (by omega)⟩
      have hyl := hit' y (List.mem_of_getElem? hy)
      have e9 : nI S2.length - 1 = nI m := by rw [hm, nI_pred]
      rw [e9, gi_nI (by omega) (by omega), nc (by omega), p2 m y hy, if_neg (by rw [neq (by omega) (by omega)]; omega)]
      unfold g_X12_takes_b129 g_X12_takes_b130
      rfl
theorem tk_main (hN : 1000 < N) (hh : HOk P Sn H law mi book d) (hs : SR s B now) (hB : BOk P B now) {p : Nat} (hp : p < P) {l : List Nat} {ts row : Nat → Int32} (hl8 : l.length ≤ 8) (hts : Rp ts l) (hrow : Rp row l) (hlc : ∀ c ∈ l, c < 8) {qs qd qh : Nat → Int32} (hQ : QR qs qd qh (queueS d p B)) :
    ∀ (m w : Nat), w + m = 601 → ∀ (E : List Be) (S : List Nat), E.length < l.length → (∀ e ∈ E, e.1 = p ∧ e.2.1 < 8 ∧ e.2.2 ≤ now + w) → EX law H d p B E (now + w) S → ∀ fc, m < fc → ∀ fu, m + 1 < fu → ∀ fg, l.length - E.length < fg + 1 → ∀ (so ma he : Nat → Int32) (rz rn : Int32), (∃ so' ma' he', g_X5_hearTo N 99 99 (nI H) (nI law) qs qh (nI B.length) so ma rz he rn (nI (now + w)) = some (so', ma', nI S.length, he', nI (ordT d p B (now + w)).length) ∧ RowR so' ma' he' (S.map (phE d p B E))) → ∀ (pl so2 mi2 wh ih gb st : Nat → Int32) (many sz : Int32), TR pl so2 mi2 (B ++ E) →
    ∃ v v', g_X11_takes_L52 N (nI P) (nI H) (nI law) mi bp bs bm (nI B.length) (nI now) ts (nI l.length) fc qs qd qh (nI B.length) so ma rz he rn (nI E.length) (nI w) = some v ∧ g_X12_takes_L42 N book s row (nI l.length) (g_X12_takes_b135 N book s row (nI l.length) (g_X12_takes_L25 N book s row (nI l.length) (g_X12_takes_b141 N book s row (nI l.length)) fg)) fu pl so2 mi2 wh ih gb st many sz (nI p) (nI (now + w) - 1) (nI E.length) 0 (nI (B ++ E).length) = some v' ∧ v.1 = v'.1 := by
  have h24 := hB.1
  have hnow := hB.2.2.2
  have hh' := hh
  obtain ⟨⟨hP1, hP⟩, ⟨hS1, hS⟩, ⟨hH1, hH⟩, hlaw, hdr, hdb, hd0, k0, k1, k2, k3⟩ := hh'
  have g1 : ∀ {α : Type} (z : Option α), gi 1 74 z = z := fun z => by rw [l1, gi_nI (by omega) (by omega)]
  intro m
  induction m with
  | zero =>
    intro w hw E S hEl hE hX fc hfc fu hfu fg hfg so ma he rz rn hhr pl so2 mi2 wh ih gb st many sz hT
    obtain ⟨fc', rfl⟩ : ∃ f, fc = f + 1 := ⟨fc - 1, by omega⟩
    obtain ⟨fu', rfl⟩ : ∃ f, fu = f + 1 := ⟨fu - 1, by omega⟩
    unfold g_X11_takes_L52 g_X12_takes_L42
    rw [if_pos (by rw [l600, nlt (by omega) (by omega)]; omega), if_pos rfl, g1, Int32.sub_add_cancel, show (1 : Int32).toNatClampNeg = 1 from rfl, hs.2.1, l600, nI_add, if_neg (by rw [nle (by omega) (by omega)]; omega)]
    exact ⟨_, _, rfl, rfl, rfl⟩
  | succ m ihm =>
    intro w hw E S hEl hE hX fc hfc fu hfu fg hfg so ma he rz rn hhr pl so2 mi2 wh ih gb st many sz hT
    obtain ⟨fc', rfl⟩ : ∃ f, fc = f + 1 := ⟨fc - 1, by omega⟩
    obtain ⟨fu', rfl⟩ : ∃ f, fu = f + 1 := ⟨fu - 1, by omega⟩
    obtain ⟨so', ma', he', e1, r1⟩ := hhr
    obtain ⟨c, hc⟩ : ∃ c, l[E.length]? = some c := ⟨_, List.getElem?_eq_getElem hEl⟩
    have hc8 := hlc c (List.mem_of_getElem? hc)
    have hlen2 : (B ++ E).length = B.length + E.length := List.length_append
    obtain ⟨x1, x2, x3⟩ := hX.props
    have hSl : S.length ≤ 32 := by have := ordT_len hB d p (now + w); omega
    have hS8 : ∀ k, k < (B ++ E).length → bS (B ++ E) k < 8 := fun k hk => (bAll hB (show now ≤ now + w by omega) hp hE hk).2.1
    obtain ⟨pl', so3, mi', wh', ih', gb', st', sz', hT', e2⟩ := tk_step (N := N) (w := w) (by omega) hh hs hB hp (by omega) hl8 hEl hrow hlc hE hX hc hT (g_X12_takes_b135 N book s row (nI l.length) (g_X12_takes_L25 N book s row (nI l.length) (g_X12_takes_b141 N book s row (nI l.length)) fg)) fu' wh ih gb st many sz (rm := nI l.length)
    have hwc : g_X5_unsaidBy N 99 (nI H) (nI law) so' (nI S.length) he' (nI c) (nI (now + w)) = some (oI (hitO law c (now + w) H (S.map (bF d p (B ++ E))))) := by
      have h1 := pX5_unsaidBy (N := N) (n := 99) (H := H) (law := law) (s := c) (t := now + w) r1 (hX.ok hS8 (Nat.le_refl _)) (by rw [List.length_map]; omega) (by omega) (by omega) (by omega) hc8 hlaw (by rw [List.length_map]; omega)
      rw [List.length_map, List.map_map] at h1
      exact h1
    rw [e2]
    conv => enter [1, v, 1, v', 1, 1]; unfold g_X11_takes_L52
    rw [if_neg (by rw [l600, nlt (by omega) (by omega)]; omega), nI_add, e1]
    simp only [Option.bind_some]
    rw [gi_nI (by omega) (by omega), gi_nI (by omega) (by omega), nc (by omega), hts _ _ hc]
    unfold g_X5_wouldCome
    rw [hwc]
    simp only [Option.bind_some]
    have e0 : nI (now + w) = nI (now + (w + 1)) - 1 := by rw [← Nat.add_assoc, nI_pred]
    cases hh0 : hitO law c (now + w) H (S.map (bF d p (B ++ E))) with
    | some i =>
      have hi : i < S.length := by have := hitO_lt hh0; simpa using this
      rw [if_pos (show (0 : Int32) ≤ oI (some i) from nI_pos' (by omega))]
      simp only [Option.bind_some]
      rw [if_pos trivial, if_neg (show ¬ (some i = none) by simp)]
      unfold g_X11_takes_b139
      have hE' : ∀ e ∈ E, e.1 = p ∧ e.2.1 < 8 ∧ e.2.2 ≤ now + (w + 1) := fun e he => ⟨(hE e he).1, (hE e he).2.1, by have := (hE e he).2.2; omega⟩
      have hX2 := hX.more hB (show now + w ≤ now + (w + 1) by omega) (bW_E hB (by omega) hp (hd0 p hp) hE)
      obtain ⟨so4, ma4, he4, e4, r4⟩ := cl_more (N := N) (n := 99) (m := 99) (H := H) (law := law) (u := now + (w + 1)) hdr hB hp hQ (by omega) (by omega) (by omega) (by omega) (by omega) hlaw (by omega) (by omega) hX hS8 (by omega) (by omega) r1
      have h7 := ihm (w + 1) (by omega) E _ hEl hE' hX2 fc' (by omega) fu' (by omega) fg hfg so' ma' he' (nI S.length) (nI (ordT d p B (now + w)).length) ⟨so4, ma4, he4, e4, r4⟩ pl' so3 mi' wh' ih' gb' st' (nI ((B ++ E).length + 1)) sz' (by rw [← List.append_assoc] at hT'; exact hT'.pre)
      rw [nI_1, e0]
      exact h7
    | none =>
      rw [if_neg (show ¬ (0 : Int32) ≤ oI none by decide)]
      simp only [Option.bind_some]
      rw [if_neg (show ¬ (1 : Int32) = 0 by decide), if_pos trivial]
      have he0 : (p, c, now + w).2.2 + d (p, c, now + w).1 p = now + w := by show now + w + d p p = now + w; rw [hd0 p hp]; omega
      obtain ⟨so5, ma5, he5, e5, r5⟩ := cl_add (N := N) (n := 99) (H := H) (law := law) hX (p, c, now + w) he0 hS8 hc8 (by omega) (by omega) (by omega) hlaw (by omega) (by omega) r1
      have e5' : g_X5_hear N 99 (nI H) (nI law) so' ma' (nI S.length) he' (nI c) (nI (now + w)) (-1) = _ := e5
      rw [e5']
      simp only [Option.bind_some]
      have hX3 := hX.add (p, c, now + w) he0 (fun k hk => (bAll hB (show now ≤ now + w by omega) hp hE hk).2.2.1)
      obtain ⟨fu2, rfl⟩ : ∃ f, fu' = f + 1 := ⟨fu' - 1, by omega⟩
      conv => enter [1, v, 1, v', 2, 1, 1]; unfold g_X12_takes_L42
      rw [if_neg (show ¬ (1 : Int32) = 0 by decide)]
      unfold g_X12_takes_b135
      obtain ⟨fg2, rfl⟩ : ∃ f, fg = f + 1 := ⟨fg - 1, by omega⟩
      conv => enter [1, v, 1, v', 2, 1, 1]; unfold g_X12_takes_L25
      rw [nI_1]
      by_cases cl : E.length + 1 < l.length
      · rw [if_pos ((nlt (by omega) (by omega)).mpr cl), if_neg (by rw [nle (by omega) (by omega)]; omega)]
        unfold g_X11_takes_b139
        have hE3 : ∀ e ∈ E ++ [(p, c, now + w)], e.1 = p ∧ e.2.1 < 8 ∧ e.2.2 ≤ now + w := fun e he => by
          rcases List.mem_append.mp he with z | z
          · exact hE e z
          · rw [List.mem_singleton.mp z]; exact ⟨rfl, hc8, Nat.le_refl _⟩
        have hE' : ∀ e ∈ E ++ [(p, c, now + w)], e.1 = p ∧ e.2.1 < 8 ∧ e.2.2 ≤ now + (w + 1) := fun e he => ⟨(hE3 e he).1, (hE3 e he).2.1, by have := (hE3 e he).2.2; omega⟩
        have hX2 := hX3.more hB (show now + w ≤ now + (w + 1) by omega) (bW_E hB (by omega) hp (hd0 p hp) hE3)
        have hS8' : ∀ k, k < (B ++ (E ++ [(p, c, now + w)])).length → bS (B ++ (E ++ [(p, c, now + w)])) k < 8 := fun k hk => (bAll hB (show now ≤ now + w by omega) hp hE3 hk).2.1
        have hEl3 : (E ++ [(p, c, now + w)]).length = E.length + 1 := by rw [List.length_append, List.length_singleton]
        obtain ⟨so4, ma4, he4, e4, r4⟩ := cl_more (N := N) (n := 99) (m := 99) (H := H) (law := law) (u := now + (w + 1)) hdr hB hp hQ (by omega) (by omega) (by omega) (by omega) (by omega) hlaw (by omega) (by omega) hX3 hS8' (by omega) (by omega) r5
        have h7 := ihm (w + 1) (by omega) (E ++ [(p, c, now + w)]) _ (by omega) hE' hX2 fc' (by omega) N (by omega) fg2 (by omega) so5 ma5 he5 (nI (hearI law H (bF d p (B ++ (E ++ [(p, c, now + w)]))) S (B ++ E).length).length) (nI (ordT d p B (now + w)).length) ⟨so4, ma4, he4, e4, r4⟩ pl' so3 mi' wh' ih' gb' st' (nI ((B ++ E).length + 1)) sz' hT'
        have hlen3 : (B ++ (E ++ [(p, c, now + w)])).length = (B ++ E).length + 1 := by rw [← List.append_assoc, List.length_append, List.length_singleton]
        rw [hEl3, hlen3] at h7
        rw [nI_1, e0]
        exact h7
      · rw [if_neg (by rw [nlt (by omega) (by omega)]; omega), if_pos ((nle (by omega) (by omega)).mpr (by omega))]
        unfold g_X12_takes_b141
        rw [if_neg (by rw [l0, neq (by omega) (by omega)]; omega), g1, show (1 : Int32).toNatClampNeg = 1 from rfl, hs.2.1, nsub (by omega), Nat.add_sub_cancel_left]
        exact ⟨_, _, rfl, rfl, rfl⟩
theorem t_takes (hN : 1000 < N) (hh : HOk P Sn H law mi book d) (hBR : BR bp bs bm B) (hs : SR s B now) (hB : BOk P B now) {ts row : Nat → Int32} {tz rm : Int32} {l : List Nat} (hTo : RTold ts tz row rm l) (qs qd qh so ma he : Nat → Int32) (qz rz rn : Int32) (pl so2 mi2 wh ih gb st : Nat → Int32) (many sz : Int32) (x1 : Int32) :
    ∃ v w, g_X11_takes N (nI P) (nI H) (nI law) mi bp bs bm (nI B.length) (nI now) ts tz qs qd qh qz so ma rz he rn x1 = some v ∧ g_X12_takes N book s row rm pl so2 mi2 wh ih gb st many sz x1 = some w ∧ v.1 = w.1 := by
  have hh' := hh
  obtain ⟨⟨hP1, hP⟩, ⟨hS1, hS⟩, ⟨hH1, hH⟩, hlaw, hdr, hdb, hd0, k0, k1, k2, k3⟩ := hh'
  have h24 := hB.1
  have hnow := hB.2.2.2
  obtain ⟨t1, rfl, rfl, t4, t5⟩ := hTo
  have hts : Rp ts l := fun k x hk => by
    have hkl := (List.getElem?_eq_some_iff.mp hk)
    rw [(t4 k hkl.1).1, hkl.2]
  have hrow : Rp row l := fun k x hk => by
    have hkl := (List.getElem?_eq_some_iff.mp hk)
    rw [(t4 k hkl.1).2, hkl.2]
  unfold g_X11_takes g_X12_takes
  rw [pX2_isPlace, pX12_isPlace N P book (by omega) (by omega) k0]
  have g1 : ∀ {α : Type} (z : Option α), gi 1 74 z = z := fun z => by rw [l1, gi_nI (by omega) (by omega)]
  cases hx1 : ixB x1 P with
  | false => exact ⟨_, _, rfl, rfl, rfl⟩
  | true =>
    obtain ⟨p, hp, rfl⟩ := (ixB_iff (by omega)).mp hx1
    simp only [Option.bind_some, if_true]
    rw [if_neg (show ¬ (1 : Int32) = 0 by decide), if_neg (show ¬ (1 : Int32) = 0 by decide)]
    obtain ⟨pl', so', mi', h1, h2⟩ := pX12_starts (N := N) hs h24 (by omega) pl so2 mi2 many
    rw [h1]
    simp only [Option.bind_some]
    obtain ⟨fg, hfg⟩ : ∃ f, N = f + 1 := ⟨N - 1, by omega⟩
    rw [g1, show (1 : Int32).toNatClampNeg = 1 from rfl, hs.2.1]
    by_cases c0 : l.length = 0
    · rw [c0, if_pos (show nI 0 = 0 from rfl)]
      conv => enter [1, v, 1, v', 2, 1, 1]; rw [hfg]; unfold g_X12_takes_L25
      rw [if_pos (show nI 0 ≤ 0 by decide)]
      unfold g_X12_takes_b141
      rw [if_pos (show nI 0 = 0 from rfl)]
      exact ⟨_, _, rfl, rfl, rfl⟩
    · rw [if_neg (by rw [l0, neq (by omega) (by omega)]; omega)]
      obtain ⟨qs', qd', qh', q1, q2⟩ := pX3_fillFrom N 99 P hdr hP hBR (fun e he => ⟨(hB.2.1 e he).1, by have := (hB.2.1 e he).2.2; omega⟩) (by omega) (by omega) h24 (by omega) hp qs qd qh qz
      rw [q1]
      simp only [Option.bind_some]
      unfold g_X5_empty
      simp only [Option.bind_some]
      obtain ⟨so1, ma1, he1, e1, r1⟩ := cl_start (N := N) (n := 99) (m := 99) (H := H) (law := law) (t := now + 0) hdr hB hp q2 (by omega) (by omega) (by omega) (by omega) (by omega) hlaw (by omega) (by omega) so ma he
      have h7 := tk_main (N := N) (bp := bp) (bs := bs) (bm := bm) hN hh hs hB hp t1 hts hrow t5 q2 601 0 (by omega) [] (stdB law H d p B (now + 0)) (by simp; omega) (fun e he => by cases he) (EX.start hB law H d p (now + 0)) N (by omega) N (by omega) fg (by simp; omega) so ma he 0 0 ⟨so1, ma1, he1, e1, r1⟩ pl' so' mi' wh ih gb st (nI B.length) sz (by rw [List.append_nil]; exact h2)
      rw [List.append_nil] at h7
      conv => enter [1, v, 1, v', 2, 1, 1]; rw [hfg]; unfold g_X12_takes_L25
      rw [if_neg (by rw [l0, nle (by omega) (by omega)]; omega), ← hfg]
      exact h7
end TAKES
