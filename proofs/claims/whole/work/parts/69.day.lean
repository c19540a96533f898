/-! ===== days by draws ===== -/
def dayX (z k : Nat) : Nat := 7919 * z + 6151 * k + 1
def dayD (z k : Nat) : Nat := dayX z k * dayX z k % 65521
theorem lN_div {a b : Nat} (ha : a < 2 ^ 63) (hb : b < 2 ^ 63) : lN a / lN b = lN (a / b) := (Int64.ofNat_div ha hb).symm
theorem day_draw {z k : Nat} (hz : z < 10000) (hk : k < 100) : (((((7919 * ((nI z : Int32).toInt64)) + (6151 * ((nI k : Int32).toInt64))) + 1) * (((7919 * ((nI z : Int32).toInt64)) + (6151 * ((nI k : Int32).toInt64))) + 1)) - ((((7919 * ((nI z : Int32).toInt64)) + (6151 * ((nI k : Int32).toInt64))) + 1) * (((7919 * ((nI z : Int32).toInt64)) + (6151 * ((nI k : Int32).toInt64))) + 1)) / 65521 * 65521 : Int64).toInt32 = nI (dayD z k) := by
  have e1 : (7919 * ((nI z : Int32).toInt64)) + (6151 * ((nI k : Int32).toInt64)) + 1 = lN (dayX z k) := by
    rw [nI_l (by omega), nI_l (by omega), show (7919 : Int64) = lN 7919 from rfl, show (6151 : Int64) = lN 6151 from rfl, lN_mul, lN_mul, lN_add, lN_1]
    rfl
  have hx : dayX z k < 80000000 := by unfold dayX; omega
  have hxx : dayX z k * dayX z k < 80000000 * 80000000 := Nat.mul_lt_mul'' hx hx
  have hle : dayX z k * dayX z k / 65521 * 65521 ≤ dayX z k * dayX z k := Nat.div_mul_le_self _ _
  rw [e1, show (65521 : Int64) = lN 65521 from rfl, lN_mul, lN_div (by omega) (by omega), lN_mul, lN_sub hle, lN_i]
  unfold dayD
  have := Nat.div_add_mod (dayX z k * dayX z k) 65521
  congr 1
  omega
def DayOk (P : Nat) (B : List Be) (t : Nat) : Prop := (∀ e ∈ B, e.1 < P ∧ e.2.1 < 8 ∧ e.2.2 ≤ t) ∧ B.Pairwise (fun a b => a.2.2 ≤ b.2.2)
theorem DayOk.push {P : Nat} {B : List Be} {t u : Nat} (h : DayOk P B t) (htu : t ≤ u) {e : Be} (h1 : e.1 < P) (h2 : e.2.1 < 8) (h3 : e.2.2 = u) : DayOk P (B ++ [e]) u := by
  refine ⟨fun x hx => ?_, ?_⟩
  · rcases List.mem_append.mp hx with z | z
    · have := h.1 x z; exact ⟨this.1, this.2.1, by omega⟩
    · rw [List.mem_singleton.mp z]; exact ⟨h1, h2, by omega⟩
  · rw [List.pairwise_append]
    refine ⟨h.2, List.pairwise_singleton _ _, fun a ha b hb => ?_⟩
    rw [List.mem_singleton.mp hb, h3]
    have := (h.1 a ha).2.2
    omega
theorem DayOk.mono {P : Nat} {B : List Be} {t : Nat} (h : DayOk P B t) : ∀ i j, i ≤ j → j < B.length → bM B i ≤ bM B j := by
  intro i j hij hj
  by_cases e : i = j
  · subst e; exact Nat.le_refl _
  · have hp := h.2
    rw [List.pairwise_iff_getElem] at hp
    have := hp i j (by omega) hj (by omega)
    unfold bM
    rw [List.getD_eq_getElem?_getD, List.getD_eq_getElem?_getD, List.getElem?_eq_getElem (show i < B.length by omega), List.getElem?_eq_getElem hj]
    exact this
theorem DayOk.at {P : Nat} {B : List Be} {t : Nat} (h : DayOk P B t) {k : Nat} (hk : k < B.length) : bP B k < P ∧ bS B k < 8 ∧ bM B k ≤ t := by
  have := h.1 B[k] (List.getElem_mem hk)
  unfold bP bS bM
  rw [List.getD_eq_getElem?_getD, List.getElem?_eq_getElem hk]
  exact this
theorem queueS_snoc (d : Nat → Nat → Nat) (p : Nat) (B : List Be) (e : Be) : queueS d p (B ++ [e]) = insQ (queueS d p B) (qev d p e) := by
  unfold queueS
  rw [List.map_append, List.foldl_append]
  rfl
section DAY
variable {N P Sn H law : Nat} {mi book : Nat → Int32} {d : Nat → Nat → Nat} {B : List Be} {p : Nat}
theorem day_cls (hN : 500 < N) (hdr : DR P mi d) (hB : DayOk P B 500) (hl : B.length ≤ 99) (hp : p < P) (hH : H < 1000) (hlaw : law < 3) {qs qd qh : Nat → Int32} (hQ : QR qs qd qh (queueS d p B)) (so ma he : Nat → Int32) :
    ∃ u, g_X5_hearTo N 99 99 (nI H) (nI law) qs qh (nI B.length) so ma 0 he 0 9999 = some u ∧ u.2.2.1 = nI (runI law H (bF d p B) [] (ordB d p B)).length := by
  have hql := queueS_len d p B
  obtain ⟨o1, o2, o3⟩ := ordI_spec (W := bW d p B) B.length hB.mono
  have hsm : ∀ q ∈ queueS d p B, q.1 < 8 ∧ q.2.2 < 1000000 := fun q hq => by
    obtain ⟨b, hb, rfl⟩ := queueS_mem.mp hq
    have h1 := hB.1 b hb
    have h2 := (hdr b.1 p h1.1 hp).2
    exact ⟨h1.2.1, by show b.2.2 + d b.1 p < _; omega⟩
  have hs9 : ∀ q ∈ queueS d p B, q.2.2 ≤ 9999 := fun q hq => by
    obtain ⟨b, hb, rfl⟩ := queueS_mem.mp hq
    have h1 := hB.1 b hb
    have h2 := (hdr b.1 p h1.1 hp).2
    show b.2.2 + d b.1 p ≤ 9999
    omega
  have hso : (queueS d p B).Pairwise (fun a b => a.2.2 ≤ b.2.2) := by
    rw [queueS_ord, List.pairwise_map]
    refine List.Pairwise.imp (fun {a b} h => ?_) o1
    unfold ltK at h
    show bW d p B a ≤ bW d p B b
    omega
  obtain ⟨so1, ma1, he1, h1, h2⟩ := pX5_hearTo (N := N) (n := 99) (m := 99) (H := H) (law := law) hQ hso hsm (by omega) (by omega) (by omega) hH hlaw 9999 (by omega) B.length 0 (by omega) (by omega) so ma he [] (fun j e hj => by simp at hj) (fun q _ => ⟨List.Pairwise.nil, fun e he => by simp at he, fun e he => by simp at he⟩) (by simp; omega) (by simp; omega)
  have e1 : toHear (queueS d p B) 9999 0 = (ordB d p B).length := by
    have : (queueS d p B).takeWhile (fun e => decide (e.2.2 ≤ 9999)) = queueS d p B := by
      have h9 := tw_app (q := fun e : Qe => decide (e.2.2 ≤ 9999)) (l1 := queueS d p B) (l2 := []) (fun a ha => by rw [decide_eq_true_iff]; exact hs9 a ha)
      simpa using h9
    unfold toHear
    rw [List.drop_zero, this, hql]
    exact o3.symm
  have e2 : ((evQ (queueS d p B)).drop 0).take (toHear (queueS d p B) 9999 0) = (ordB d p B).map (phi d p B) := by
    rw [e1, List.drop_zero, evQ_phi d p B (ltK_nodup o1), ← List.map_take, List.take_length]
  have e3 : runC law H [] ((ordB d p B).map (phi d p B)) = (runI law H (bF d p B) [] (ordB d p B)).map (phi d p B) := runC_map (fun k => rfl) _ []
  rw [e2, e3, hql, List.length_map] at h1
  exact ⟨_, h1, rfl⟩
theorem day_ref (hN : 500 < N) (hdb : DB P book d) (hB : DayOk P B 500) (hl : B.length ≤ 99) (hp : p < P) (hP : P ≤ 5) (k1 : book 1 = nI H) (k2 : book 2 = nI law) (hH : H < 1000) (hlaw : law < 3) {pl so mi2 : Nat → Int32} (hT : TR pl so mi2 B) (wh ih gb st : Nat → Int32) (sz : Int32) :
    ∃ u, g_X12_plays N book pl so mi2 (nI B.length) wh ih gb st sz (nI p) 100000 = some u ∧ u.2.2.2.2 = nI (runI law H (bF d p B) [] (ordB d p B)).length := by
  obtain ⟨o1, o2, o3⟩ := ordI_spec (W := bW d p B) B.length hB.mono
  have hsrt : Srt (bW d p B) (bM B) 100000 B.length (ordB d p B) := by
    refine ⟨o1, fun k => ?_, by have : (ordB d p B).length = B.length := o3; omega⟩
    have h1 : k ∈ ordB d p B ↔ k < B.length := o2 k
    rw [h1]
    refine ⟨fun hk => ⟨hk, ?_⟩, fun h => h.1⟩
    have h2 := hB.at hk
    have h3 := (hdb _ p h2.1 hp).2
    unfold bW
    omega
  obtain ⟨wh', ih', gb0, st', p1, p2, p3, p4⟩ := pX12_plays (N := N) (t := 100000) (B := B) (p := p) hdb hp hP k1 k2 hlaw hH (by omega) (by omega) (by omega) hT (fun k hk => by
    have h2 := hB.at hk
    exact ⟨h2.1, h2.2.1, by omega⟩) hsrt wh ih gb st sz
  have p1' : g_X12_plays N book pl so mi2 (nI B.length) wh ih gb st sz (nI p) 100000 = _ := p1
  rw [p1']
  exact ⟨_, rfl, rfl⟩
/-- both loops side by side -/
theorem day_loop (hN : 500 < N) (hh : HOk P Sn H law mi book d) (hp : p < P) {z n : Nat} (hz : z < 10000) (hn : n ≤ 99) :
    ∀ (m k : Nat), k + m = n → ∀ fu1 fu2, m < fu1 → m < fu2 → ∀ (B : List Be) (t : Nat), B.length = k → DayOk P B t → t ≤ 4 * k → ∀ (qs qd qh so ma he : Nat → Int32) (rz rn : Int32) (pl so2 mi2 wh ih gb st : Nat → Int32) (sz : Int32), QR qs qd qh (queueS d p B) → TR pl so2 mi2 B →
    ∃ v w, g_X11_day_L49 N (nI P) (nI Sn) (nI H) (nI law) mi (g_X11_day_b163 N (nI P) (nI Sn) (nI H) (nI law) mi) fu1 qs qd qh (nI k) so ma rz he rn (nI z) (nI n) (nI p) (nI t) (nI k) = some v ∧ g_X12_day_L42 N book (g_X12_day_b132 N book) fu2 pl so2 mi2 wh ih gb st (nI k) sz (nI z) (nI n) (nI p) (nI t) (nI k) = some w ∧ v.1 = w.1 := by
  have hh' := hh
  obtain ⟨⟨hP1, hP⟩, ⟨hS1, hS⟩, ⟨hH1, hH⟩, hlaw, hdr, hdb, hd0, k0, k1, k2, k3⟩ := hh'
  have g0 : ∀ {α : Type} (z : Option α), gi 0 78 z = z := fun z => by rw [l0, gi_nI (by omega) (by omega)]
  have g3 : ∀ {α : Type} (z : Option α), gi 3 78 z = z := fun z => by rw [l3, gi_nI (by omega) (by omega)]
  have z8 : ∀ {α : Type} (z : Option α), gz 8 z = z := fun z => gz_ok (by decide)
  have z64 : ∀ {α : Type} (z : Option α), gz 64 z = z := fun z => gz_ok (by decide)
  have z5 : ∀ {α : Type} (z : Option α), gz 5 z = z := fun z => gz_ok (by decide)
  have zl : ∀ {α : Type} (z : Option α), gzl 65521 z = z := fun z => if_neg (by decide)
  intro m
  induction m with
  | zero =>
    intro k hk fu1 fu2 hf1 hf2 B t hl hB ht qs qd qh so ma he rz rn pl so2 mi2 wh ih gb st sz hQ hT
    obtain ⟨f1, rfl⟩ : ∃ fv, fu1 = fv + 1 := ⟨fu1 - 1, by omega⟩
    obtain ⟨f2, rfl⟩ : ∃ fv, fu2 = fv + 1 := ⟨fu2 - 1, by omega⟩
    have hB5 : DayOk P B 500 := ⟨fun e he => by have := hB.1 e he; exact ⟨this.1, this.2.1, by omega⟩, hB.2⟩
    obtain ⟨u, u1, u2⟩ := day_cls (N := N) (H := H) (law := law) hN hdr hB5 (by omega) hp (by omega) hlaw hQ so ma he
    obtain ⟨w, w1, w2⟩ := day_ref (N := N) (H := H) (law := law) hN hdb hB5 (by omega) hp hP k1 k2 (by omega) hlaw hT wh ih gb st sz
    unfold g_X11_day_L49 g_X12_day_L42
    rw [if_pos ((nle (by omega) (by omega)).mpr (by omega)), if_pos ((nle (by omega) (by omega)).mpr (by omega))]
    unfold g_X11_day_b163 g_X12_day_b132 g_X5_empty
    simp only [Option.bind_some]
    rw [← hl, u1, w1]
    exact ⟨_, _, rfl, rfl, u2.trans w2.symm⟩
  | succ m ihm =>
    intro k hk fu1 fu2 hf1 hf2 B t hl hB ht qs qd qh so ma he rz rn pl so2 mi2 wh ih gb st sz hQ hT
    obtain ⟨f1, rfl⟩ : ∃ fv, fu1 = fv + 1 := ⟨fu1 - 1, by omega⟩
    obtain ⟨f2, rfl⟩ : ∃ fv, fu2 = fv + 1 := ⟨fu2 - 1, by omega⟩
    have hdd := day_draw (z := z) (k := k) hz (by omega)
    have hDl : dayD z k < 65521 := Nat.mod_lt _ (by omega)
    have hr : ∀ {a b : Nat}, a < 100000 → 0 < b → b < 100000 → g_X11_restOf N (nI a) (nI b) = some (nI (a % b)) := fun ha h0 hb => by
      unfold g_X11_restOf
      rw [if_neg (by rw [l0, nle (by omega) (by omega)]; omega), gz_ok (nI_ne0 h0 (by omega)), pk_rem (by omega) h0 (by omega)]
    have hm5 : dayD z k / 64 % 5 < 5 := Nat.mod_lt _ (by omega)
    have hmP : dayD z k % P < P := Nat.mod_lt _ (by omega)
    have hmS : dayD z k / 8 % Sn < Sn := Nat.mod_lt _ (by omega)
    have hd8 : dayD z k / 8 < 100000 := by omega
    have hd64 : dayD z k / 64 < 100000 := by omega
    have hstep : ∀ a : Nat, a ≤ 4 → (k = 0 → a = 0) → ∃ v w, g_X11_day_b103 N (nI P) (nI Sn) (nI H) (nI law) mi (g_X11_day_L49 N (nI P) (nI Sn) (nI H) (nI law) mi (g_X11_day_b163 N (nI P) (nI Sn) (nI H) (nI law) mi) f1) qs qd qh (nI k) so ma rz he rn (nI z) (nI n) (nI p) (nI k) (nI (dayD z k)) (nI t) (nI a) = some v ∧ g_X12_day_b96 N book (g_X12_day_L42 N book (g_X12_day_b132 N book) f2) pl so2 mi2 wh ih gb st (nI k) sz (nI z) (nI n) (nI p) (nI k) (nI (dayD z k)) (nI t) (nI a) = some w ∧ v.1 = w.1 := by
      intro a ha ha0
      have hql := queueS_len d p B
      have hqs : ∀ q ∈ queueS d p B, q.2.2 < 1000000 := fun q hq => by
        obtain ⟨b, hb, rfl⟩ := queueS_mem.mp hq
        have h1 := hB.1 b hb
        have h2 := (hdr b.1 p h1.1 hp).2
        show b.2.2 + d b.1 p < _
        omega
      have hdm := (hdr (dayD z k % P) p hmP hp).2
      obtain ⟨qs', qd', qh', i1, i2⟩ := pX3_insert N 99 hQ hqs (by omega) (by omega) (qev d p (dayD z k % P, dayD z k / 8 % Sn, t + a)) (by show t + a + d (dayD z k % P) p < _; omega) (by omega)
      rw [← queueS_snoc] at i1 i2
      rw [hql, hl, queueS_len, List.length_append, hl] at i1
      have i1' : g_X3_insert N 99 qs qd qh (nI k) (nI (dayD z k / 8 % Sn)) (nI (t + a)) (nI (t + a + d (dayD z k % P) p)) = some (qs', qd', qh', nI (k + 1)) := i1
      have hpush := hT.push (dayD z k % P, dayD z k / 8 % Sn, t + a)
      rw [hl] at hpush
      have hpush' : TR (upd pl k (nI (dayD z k % P))) (upd so2 k (nI (dayD z k / 8 % Sn))) (upd mi2 k (nI (t + a))) (B ++ [(dayD z k % P, dayD z k / 8 % Sn, t + a)]) := hpush
      have htr := pX12_tries N pl so2 mi2 (n := k) (by omega) (nI (dayD z k % P)) (nI (dayD z k / 8 % Sn)) (nI (t + a))
      unfold g_X11_day_b103 g_X12_day_b96
      rw [hr (by omega) (by omega) (by omega)]
      simp only [Option.bind_some]
      rw [z8, g0, show (0 : Int32).toNatClampNeg = 0 from rfl, k0, gz_ok (nI_ne0 (by omega) (by omega)), z8, g3, show (3 : Int32).toNatClampNeg = 3 from rfl, k3, gz_ok (nI_ne0 (by omega) (by omega)), l8, pk_div (by omega) (by omega) (by omega), hr hd8 (by omega) (by omega), pk_rem (by omega) (by omega) (by omega), pk_rem (by omega) (by omega) (by omega), nI_add, htr]
      simp only [Option.bind_some]
      rw [pX2_minutesBetween N P hdr hP hmP hp]
      simp only [Option.bind_some]
      rw [nI_add, i1', nI_1]
      simp only [Option.bind_some]
      exact ihm (k + 1) (by omega) f1 f2 (by omega) (by omega) (B ++ [(dayD z k % P, dayD z k / 8 % Sn, t + a)]) (t + a) (by rw [List.length_append, hl]; rfl) (hB.push (by omega) hmP (show dayD z k / 8 % Sn < 8 by omega) rfl) (by omega) qs' qd' qh' so ma he rz rn _ _ _ wh ih gb st sz i2 hpush'
    unfold g_X11_day_L49 g_X12_day_L42
    have hle : ¬ nI n ≤ nI k := by rw [nle (by omega) (by omega)]; omega
    rw [if_neg hle, if_neg hle, zl, zl, hdd, z64, z64, z5, z5]
    by_cases c : k = 0
    · have ck : nI k = 0 := by rw [c]; rfl
      have h9 := hstep 0 (by omega) (fun _ => rfl)
      rw [if_pos ck, if_pos ck]
      exact h9
    · have h9 := hstep (dayD z k / 64 % 5) (by omega) (fun z => absurd z c)
      rw [if_neg (nI_ne0 (by omega) (by omega)), if_neg (nI_ne0 (by omega) (by omega)), l64, pk_div (by omega) (by omega) (by omega), l5, pk_rem (by omega) (by omega) (by omega)]
      exact h9
theorem t_day (hN : 500 < N) (hh : HOk P Sn H law mi book d) (qs qd qh so ma he : Nat → Int32) (qz rz rn : Int32) (pl so2 mi2 wh ih gb st : Nat → Int32) (many sz : Int32) (x1 x2 x3 : Int32) :
    ∃ v w, g_X11_day N (nI P) (nI Sn) (nI H) (nI law) mi qs qd qh qz so ma rz he rn x1 x2 x3 = some v ∧ g_X12_day N book pl so2 mi2 wh ih gb st many sz x1 x2 x3 = some w ∧ v.1 = w.1 := by
  have hh' := hh
  obtain ⟨⟨hP1, hP⟩, ⟨hS1, hS⟩, ⟨hH1, hH⟩, hlaw, hdr, hdb, hd0, k0, k1, k2, k3⟩ := hh'
  have in1 := pX12_in0z N 10000 (by omega) x1
  rw [show nI 10000 - 1 = 9999 from by decide] at in1
  have n10 : ¬ (1 : Int32) = 0 := by decide
  unfold g_X11_day g_X12_day
  rw [in1]
  cases hx1 : ixB x1 10000 with
  | false =>
    rcases ixB_none hx1 (by omega) with y | y
    · rw [if_pos y]; exact ⟨_, _, rfl, rfl, rfl⟩
    · have y1 : ¬ x1 < 0 := fun q => absurd (Int32.lt_of_le_of_lt y q) (by decide)
      have y2 : (9999 : Int32) < x1 := Int32.lt_of_lt_of_le (by decide) y
      rw [if_neg y1, if_pos y2]; exact ⟨_, _, rfl, rfl, rfl⟩
  | true =>
    obtain ⟨z, hz, rfl⟩ := (ixB_iff (by omega)).mp hx1
    simp only [Option.bind_some, if_true]
    rw [if_neg (nI_pos (by omega)), if_neg (by rw [l9999, nlt (by omega) (by omega)]; omega), if_neg n10]
    have in2 : g_X12_in N x2 1 99 = some (if x2 < 1 then 0 else if 99 < x2 then 0 else 1) := by
      unfold g_X12_in
      by_cases q1 : x2 < 1
      · rw [if_pos q1, if_pos q1]
      · rw [if_neg q1, if_neg q1]
        by_cases q2 : (99 : Int32) < x2
        · rw [if_pos q2, if_pos q2]
        · rw [if_neg q2, if_neg q2]
    rw [in2]
    simp only [Option.bind_some]
    by_cases q1 : x2 < 1
    · rw [if_pos q1, if_pos q1, if_pos rfl]; exact ⟨_, _, rfl, rfl, rfl⟩
    · rw [if_neg q1, if_neg q1]
      by_cases q2 : (99 : Int32) < x2
      · rw [if_pos q2, if_pos q2, if_pos rfl]; exact ⟨_, _, rfl, rfl, rfl⟩
      · rw [if_neg q2, if_neg q2, if_neg n10]
        obtain ⟨n, hn, rfl⟩ : ∃ j, j < 100 ∧ x2 = nI j := by
          rcases pk_ix x2 (n := 100) (by omega) with y | y | y
          · exact absurd (Int32.lt_trans y (by decide)) q1
          · exact absurd (Int32.lt_of_lt_of_le (by decide) y) q2
          · exact y
        rw [pX2_isPlace, pX12_isPlace N P book (by omega) (by omega) k0]
        cases hx3 : ixB x3 P with
        | false => exact ⟨_, _, rfl, rfl, rfl⟩
        | true =>
          obtain ⟨p, hp, rfl⟩ := (ixB_iff (by omega)).mp hx3
          simp only [Option.bind_some, if_true]
          rw [if_neg n10, if_neg n10]
          exact day_loop hN hh hp hz (show n ≤ 99 by omega) n 0 (by omega) N N (by omega) (by omega) [] 0 rfl ⟨fun e he => (by cases he), List.Pairwise.nil⟩ (by omega) qs qd qh so ma he rz rn pl so2 mi2 wh ih gb st sz (fun j e hj => by simp [queueS] at hj) (fun k hk => by simp at hk)
end DAY
