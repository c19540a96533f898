/-! ===== mends and chance ===== -/
abbrev AI : Type := Nat → Int32
abbrev RefO : Type := Option (Int32 × AI × AI × AI × AI × AI × AI × AI × Int32 × Int32)
theorem hB_eq {R l : List Nat} : (hB R 0 l = true ∧ R.length = l.length) ↔ R = l := by
  unfold hB
  rw [Bool.and_eq_true, decide_eq_true_iff, decide_eq_true_iff, List.drop_zero]
  constructor
  · rintro ⟨⟨_, h2⟩, h3⟩
    rw [← h3, List.take_length] at h2
    exact h2
  · rintro rfl
    exact ⟨⟨by omega, List.take_length⟩, rfl⟩
theorem just_eq {N nT : Nat} (hN : 200 < N) (hT : nT < 1000) {ts so : Nat → Int32} {R l : List Nat} (hts : Rp ts l) (hl8 : l.length ≤ 8) (hlc : ∀ c ∈ l, c < 8) (hso : Rp so R) (hR8 : ∀ x ∈ R, x < 8) (hR : R.length ≤ nT) : g_X5_isJust N nT 8 so (nI R.length) ts (nI l.length) = some (if R = l then 1 else 0) := by
  unfold g_X5_isJust
  by_cases c : R.length = l.length
  · rw [if_pos (by rw [c])]
    have h1 := pX5_holdsAt (N := N) (nT := nT) (nA := 8) (rs := R.length) hso hts hR8 hlc (Nat.le_refl _) (by omega) (by omega) hl8 (by omega) hN (by omega) (a := 0) (by omega)
    have h2 : g_X5_holdsAt N nT 8 so (nI R.length) ts (nI l.length) 0 (nI R.length) = _ := h1
    rw [h2]
    simp only [Option.bind_some]
    by_cases e : R = l
    · rw [(hB_eq.mpr e).1, if_pos rfl, if_pos e, if_neg (show ¬ (1 : Int32) = 0 by decide)]
    · have h3 : hB R 0 l = false := by
        cases z : hB R 0 l with
        | false => rfl
        | true => exact absurd (hB_eq.mp ⟨z, c⟩) e
      rw [h3, if_neg (show ¬ false = true by decide), if_neg e, if_pos rfl]
  · rw [if_neg (fun z => c ((neq (by omega) (by omega)).mp z)), if_neg (fun z => c (by rw [z]))]
theorem gb_ite {c : Prop} [Decidable c] : gb (if c then (1 : Int32) else 0) (some (if c then (1 : Int32) else 0)) = some (if c then 1 else 0) := by
  by_cases h : c
  · rw [if_pos h]; exact if_pos (Or.inr rfl)
  · rw [if_neg h]; exact if_pos (Or.inl rfl)
theorem rch_told {N : Nat} (hN : 200 < N) {ts : Nat → Int32} {l : List Nat} (hts : Rp ts l) (hl8 : l.length ≤ 8) (hlc : ∀ c ∈ l, c < 8) : RchC N ts (nI l.length) (-1) (fun R => decide (R = l)) := by
  intro so R hso hR8 hR
  unfold g_X10_isReached
  rw [if_pos rfl, just_eq hN (by omega) hts hl8 hlc hso hR8 hR]
  simp only [Option.bind_some, decide_eq_true_eq]
  exact gb_ite
theorem rch_sort {N : Nat} (hN : 200 < N) {ts : Nat → Int32} {tz : Int32} {c : Nat} (hc : c < 8) : RchC N ts tz (nI c) (fun R => decide (c ∈ R)) := by
  intro so R hso hR8 hR
  unfold g_X10_isReached g_X5_holdsSort
  rw [if_neg (fun z => nI_pos (show c < 2147483648 by omega) (by rw [z]; decide))]
  have h : ∀ (m j : Nat), j + m = R.length → ∀ fu, m < fu → g_X5_holdsSort_L2 N 28 so (nI R.length) fu (nI c) (nI j) = some (if c ∈ R.drop j then 1 else 0) := by
    intro m
    induction m with
    | zero =>
      intro j hj fu hfu
      obtain ⟨fv, rfl⟩ : ∃ fv, fu = fv + 1 := ⟨fu - 1, by omega⟩
      unfold g_X5_holdsSort_L2
      rw [if_pos ((nle (by omega) (by omega)).mpr (by omega)), List.drop_eq_nil_of_le (by omega), if_neg (by simp)]
    | succ m ih =>
      intro j hj fu hfu
      obtain ⟨fv, rfl⟩ : ∃ fv, fu = fv + 1 := ⟨fu - 1, by omega⟩
      obtain ⟨r, hr⟩ : ∃ r, R[j]? = some r := ⟨_, List.getElem?_eq_getElem (by omega)⟩
      have r8 := hR8 r (List.mem_of_getElem? hr)
      unfold g_X5_holdsSort_L2
      rw [if_neg (by rw [nle (by omega) (by omega)]; omega), gi_nI (by omega) (by omega), nc (by omega), hso j r hr, drop_cons hr, nI_1, ih (j + 1) (by omega) fv (by omega)]
      by_cases e : r = c
      · rw [if_pos (by rw [e]), if_pos (by rw [e]; exact List.mem_cons_self)]
      · rw [if_neg (fun z => e ((neq (by omega) (by omega)).mp z))]
        have h1 : c ∈ r :: R.drop (j + 1) ↔ c ∈ R.drop (j + 1) := by
          rw [List.mem_cons]
          exact ⟨fun z => z.resolve_left (fun y => e y.symm), Or.inr⟩
        by_cases y : c ∈ R.drop (j + 1)
        · rw [if_pos y, if_pos (h1.mpr y)]
        · rw [if_neg y, if_neg (fun z => y (h1.mp z))]
  have h1 := h R.length 0 (by omega) N (by omega)
  have h2 : g_X5_holdsSort_L2 N 28 so (nI R.length) N (nI c) 0 = _ := h1
  rw [h2, List.drop_zero]
  simp only [Option.bind_some, decide_eq_true_eq]
  exact gb_ite
theorem pX12_isRow {N : Nat} (hN : 200 < N) {row so st : Nat → Int32} {R l : List Nat} (hst : MS st so R) (hrow : Rp row l) (hR8 : ∀ x ∈ R, x < 8) (hlc : ∀ c ∈ l, c < 8) (hl8 : l.length ≤ 8) (hRl : R.length ≤ 100) : g_X12_isRow N row (nI l.length) so st (nI R.length) = some (if R = l then 1 else 0) := by
  have b0 : gb 0 (some (0 : Int32)) = some 0 := if_pos (Or.inl rfl)
  have b1 : gb 1 (some (1 : Int32)) = some 1 := if_pos (Or.inr rfl)
  have hz : ∀ fu j, 0 < fu → g_X12_isRow_L19 N row (nI l.length) so st (nI R.length) fu 0 (nI j) = some 0 := by
    intro fu j hfu
    obtain ⟨fv, rfl⟩ : ∃ fv, fu = fv + 1 := ⟨fu - 1, by omega⟩
    unfold g_X12_isRow_L19
    rw [if_pos (show (0 : Int32) = 0 from rfl), b0, ite_self]
  unfold g_X12_isRow g_X12_isRow_b16
  by_cases c : R.length = l.length
  · rw [if_pos (by rw [c])]
    have h : ∀ (m j : Nat), j + m = l.length → ∀ fu, m + 1 < fu → g_X12_isRow_L19 N row (nI l.length) so st (nI R.length) fu 1 (nI j) = some (if R.drop j = l.drop j then 1 else 0) := by
      intro m
      induction m with
      | zero =>
        intro j hj fu hfu
        obtain ⟨fv, rfl⟩ : ∃ fv, fu = fv + 1 := ⟨fu - 1, by omega⟩
        unfold g_X12_isRow_L19
        rw [if_pos ((nle (by omega) (by omega)).mpr (by omega)), b1, List.drop_eq_nil_of_le (by omega), List.drop_eq_nil_of_le (by omega), if_pos rfl]
      | succ m ih =>
        intro j hj fu hfu
        obtain ⟨fv, rfl⟩ : ∃ fv, fu = fv + 1 := ⟨fu - 1, by omega⟩
        obtain ⟨y, hy⟩ : ∃ y, l[j]? = some y := ⟨_, List.getElem?_eq_getElem (by omega)⟩
        obtain ⟨r, hr⟩ : ∃ r, R[j]? = some r := ⟨_, List.getElem?_eq_getElem (by omega)⟩
        have y8 := hlc y (List.mem_of_getElem? hy)
        have r8 := hR8 r (List.mem_of_getElem? hr)
        obtain ⟨i, hi, s1, s2⟩ := hst j r hr
        unfold g_X12_isRow_L19
        rw [if_neg (by rw [nle (by omega) (by omega)]; omega), if_neg (show ¬ (1 : Int32) = 0 by decide), gi_nI (by omega) (by omega), nc (by omega), s1, gi_nI (by omega) (by omega), gi_nI (by omega) (by omega), nc (by omega), s2, hrow j y hy, drop_cons hr, drop_cons hy]
        unfold g_X12_isRow_b56
        rw [nI_1]
        by_cases e : r = y
        · subst e
          rw [if_pos rfl, ih (j + 1) (by omega) fv (by omega)]
          simp
        · rw [if_neg (fun z => e ((neq (by omega) (by omega)).mp z)), hz fv (j + 1) (by omega), if_neg (fun z => e (List.cons.inj z).1)]
    have h1 := h l.length 0 (by omega) N (by omega)
    rw [List.drop_zero, List.drop_zero] at h1
    exact h1
  · rw [if_neg (fun z => c ((neq (by omega) (by omega)).mp z)), if_neg (fun z => c (by rw [z]))]
    exact hz N 0 (by omega)
/-- the sorts that stand behind the taps of a code -/
def tapX (law H : Nat) (d : Nat → Nat → Nat) (p : Nat) (B : List Be) (now Sn n x : Nat) : List Nat := soX B (trN law H d p B now ([], stdB law H d p B now) (digs Sn n x))
section MENDS
variable {N P Sn H law now : Nat} {mi book bp bs bm s : Nat → Int32} {d : Nat → Nat → Nat} {B : List Be} {p : Nat}
theorem tap_ok (hh : HOk P Sn H law mi book d) (hB : BOk P B now) (hp : p < P) {n x : Nat} (hn4 : n ≤ 4) : (∀ y ∈ tapX law H d p B now Sn n x, y < 8) ∧ (tapX law H d p B now Sn n x).length ≤ 100 := by
  obtain ⟨⟨hP1, hP⟩, ⟨hS1, hS⟩, ⟨hH1, hH⟩, hlaw, hdr, hdb, hd0, k0, k1, k2, k3⟩ := hh
  have hT : TX law H d p B now (trN law H d p B now ([], stdB law H d p B now) (digs Sn n x)) := TX.many hB hp (hd0 p hp) (fun c hc => by have := digs_lt (show 0 < Sn by omega) n x c hc; omega) (TX.start hB)
  refine ⟨hT.so8 hB hp, ?_⟩
  unfold tapX soX
  rw [List.length_map]
  have h1 := hT.len hB
  have h2 := trN_len (law := law) (H := H) (d := d) (p := p) (B := B) (now := now) (q := digs Sn n x) (X := ([], stdB law H d p B now))
  rw [digs_len] at h2
  have h3 : (([] : List Be), stdB law H d p B now).1.length = 0 := rfl
  omega
theorem tap_ref (hN : 5000 < N) (hh : HOk P Sn H law mi book d) (hs : SR s B now) (hB : BOk P B now) (hp : p < P) {n x : Nat} (hn4 : n ≤ 4) (hx : x < 5000) (pl so mi2 wh ih gb st : Nat → Int32) (many sz : Int32) :
    ∃ v, g_X12_taps N book s pl so mi2 wh ih gb st many sz (nI p) (nI n) (nI x) = some v ∧ v.2.2.2.2.2.2.2.2 = nI (tapX law H d p B now Sn n x).length ∧ MS v.2.2.2.2.2.2.1 v.2.1 (tapX law H d p B now Sn n x) := pX12_taps hN hh hs hB hp hn4 hx pl so mi2 wh ih gb st many sz
theorem cw_tap {rch : List Nat → Bool} (hS : 0 < Sn) (n : Nat) : cw law H d p B now Sn rch n ([], stdB law H d p B now) = sumN (Sn ^ n) (fun x => if rch (tapX law H d p B now Sn n x) then 1 else 0) := (cw_codes hS n _).symm
theorem md_codes (hN : 5000 < N) (hh : HOk P Sn H law mi book d) (hs : SR s B now) (hB : BOk P B now) (hp : p < P) {row : Nat → Int32} {l : List Nat} (hrow : Rp row l) (hl8 : l.length ≤ 8) (hlc : ∀ c ∈ l, c < 8) {n : Nat} (hn4 : n ≤ 4) (kk : AI → AI → AI → AI → AI → AI → AI → Int32 → Int32 → Int32 → Int32 → RefO) :
    ∀ (m x : Nat), x + m = Sn ^ n → ∀ fu, m < fu → ∀ (pl so mi2 wh ih gb st : Nat → Int32) (many sz : Int32),
    ((∃ y, x ≤ y ∧ y < Sn ^ n ∧ tapX law H d p B now Sn n y = l) ∧ ∃ w, g_X12_mends_L19 N book s row (nI l.length) kk fu pl so mi2 wh ih gb st many sz (nI p) (nI n) (nI x) = some w ∧ w.1 = nI n) ∨
    ((∀ y, x ≤ y → y < Sn ^ n → ¬ tapX law H d p B now Sn n y = l) ∧ ∃ (pl' so' mi2' wh' ih' gb' st' : Nat → Int32) (many' sz' : Int32), g_X12_mends_L19 N book s row (nI l.length) kk fu pl so mi2 wh ih gb st many sz (nI p) (nI n) (nI x) = kk pl' so' mi2' wh' ih' gb' st' many' sz' (nI p) (nI n)) := by
  have hh' := hh
  obtain ⟨⟨hP1, hP⟩, ⟨hS1, hS⟩, ⟨hH1, hH⟩, hlaw, hdr, hdb, hd0, k0, k1, k2, k3⟩ := hh'
  have hpw := pow_small hS hn4
  intro m
  induction m with
  | zero =>
    intro x hx fu hfu pl so mi2 wh ih gb st many sz
    obtain ⟨fv, rfl⟩ : ∃ fv, fu = fv + 1 := ⟨fu - 1, by omega⟩
    refine Or.inr ⟨fun y h1 h2 => by omega, pl, so, mi2, wh, ih, gb, st, many, sz, ?_⟩
    unfold g_X12_mends_L19
    rw [pX12_codes (k3 := k3) hN hn4]
    simp only [Option.bind_some]
    rw [if_pos ((nle (by omega) (by omega)).mpr (by omega))]
  | succ m ihm =>
    intro x hx fu hfu pl so mi2 wh ih gb st many sz
    obtain ⟨fv, rfl⟩ : ∃ fv, fu = fv + 1 := ⟨fu - 1, by omega⟩
    obtain ⟨v, v1, v2, v3⟩ := tap_ref (N := N) hN hh hs hB hp hn4 (show x < 5000 by omega) pl so mi2 wh ih gb st many sz
    obtain ⟨o1, o2⟩ := tap_ok (n := n) (x := x) hh hB hp hn4
    have hr := pX12_isRow (N := N) (by omega) v3 hrow o1 hlc hl8 o2
    by_cases c : tapX law H d p B now Sn n x = l
    · refine Or.inl ⟨⟨x, by omega, by omega, c⟩, ?_⟩
      unfold g_X12_mends_L19
      rw [pX12_codes (k3 := k3) hN hn4]
      simp only [Option.bind_some]
      rw [if_neg (by rw [nle (by omega) (by omega)]; omega), v1]
      simp only [Option.bind_some]
      rw [v2, hr, if_pos c]
      simp only [Option.bind_some]
      rw [if_neg (show ¬ (1 : Int32) = 0 by decide)]
      exact ⟨_, rfl, rfl⟩
    · have h9 := ihm (x + 1) (by omega) fv (by omega) v.1 v.2.1 v.2.2.1 v.2.2.2.1 v.2.2.2.2.1 v.2.2.2.2.2.1 v.2.2.2.2.2.2.1 v.2.2.2.2.2.2.2.1 v.2.2.2.2.2.2.2.2
      have e9 : g_X12_mends_L19 N book s row (nI l.length) kk (fv + 1) pl so mi2 wh ih gb st many sz (nI p) (nI n) (nI x) = g_X12_mends_L19 N book s row (nI l.length) kk fv v.1 v.2.1 v.2.2.1 v.2.2.2.1 v.2.2.2.2.1 v.2.2.2.2.2.1 v.2.2.2.2.2.2.1 v.2.2.2.2.2.2.2.1 v.2.2.2.2.2.2.2.2 (nI p) (nI n) (nI (x + 1)) := by
        conv => lhs; unfold g_X12_mends_L19
        rw [pX12_codes (k3 := k3) hN hn4]
        simp only [Option.bind_some]
        rw [if_neg (by rw [nle (by omega) (by omega)]; omega), v1]
        simp only [Option.bind_some]
        rw [v2, hr, if_neg c]
        simp only [Option.bind_some]
        rw [if_pos trivial, nI_1]
      rw [e9]
      rcases h9 with ⟨⟨y, y1, y2, y3⟩, h⟩ | ⟨h1, h2⟩
      · exact Or.inl ⟨⟨y, by omega, y2, y3⟩, h⟩
      · refine Or.inr ⟨fun y y1 y2 y3 => ?_, h2⟩
        by_cases z : y = x
        · subst z; exact c y3
        · exact h1 y (by omega) y2 y3
theorem md_main (hN : 5000 < N) (hh : HOk P Sn H law mi book d) (hBR : BR bp bs bm B) (hs : SR s B now) (hB : BOk P B now) (hp : p < P) {ts row : Nat → Int32} {l : List Nat} (hts : Rp ts l) (hrow : Rp row l) (hl8 : l.length ≤ 8) (hlc : ∀ c ∈ l, c < 8) :
    ∀ (m j : Nat), j + m = 5 → ∀ fu1 fu2, m < fu1 → m < fu2 → ∀ (qs qd qh : Nat → Int32) (qz : Int32) (rs rm : Nat → Nat → Int32) (rz : Nat → Int32) (rh : Nat → Nat → Int32) (rn : Nat → Int32) (pl so mi2 wh ih gb st : Nat → Int32) (many sz : Int32),
    ∃ v w, g_X11_mends_L15 N (nI P) (nI Sn) (nI H) (nI law) mi bp bs bm (nI B.length) (nI now) ts (nI l.length) fu1 qs qd qh qz rs rm rz rh rn (nI p) (nI j) = some v ∧ g_X12_mends_L12 N book s row (nI l.length) fu2 pl so mi2 wh ih gb st many sz (nI p) (nI j) = some w ∧ v.1 = w.1 := by
  have hh' := hh
  obtain ⟨⟨hP1, hP⟩, ⟨hS1, hS⟩, ⟨hH1, hH⟩, hlaw, hdr, hdb, hd0, k0, k1, k2, k3⟩ := hh'
  intro m
  induction m with
  | zero =>
    intro j hj fu1 fu2 hf1 hf2 qs qd qh qz rs rm rz rh rn pl so mi2 wh ih gb st many sz
    obtain ⟨f1, rfl⟩ : ∃ fv, fu1 = fv + 1 := ⟨fu1 - 1, by omega⟩
    obtain ⟨f2, rfl⟩ : ∃ fv, fu2 = fv + 1 := ⟨fu2 - 1, by omega⟩
    have : j = 5 := by omega
    subst this
    unfold g_X11_mends_L15 g_X12_mends_L12
    rw [if_pos (by decide), if_pos (by decide)]
    exact ⟨_, _, rfl, rfl, rfl⟩
  | succ m ihm =>
    intro j hj fu1 fu2 hf1 hf2 qs qd qh qz rs rm rz rh rn pl so mi2 wh ih gb st many sz
    obtain ⟨f1, rfl⟩ : ∃ fv, fu1 = fv + 1 := ⟨fu1 - 1, by omega⟩
    obtain ⟨f2, rfl⟩ : ∃ fv, fu2 = fv + 1 := ⟨fu2 - 1, by omega⟩
    have hpw := pow_small hS (show j ≤ 4 by omega)
    obtain ⟨v, v1, v2⟩ := pX10_countWays (N := N) hN hh hBR hB hp (rch_told (by omega) hts hl8 hlc) (show j ≤ 4 by omega) qs qd qh qz rs rm rz rh rn
    rw [cw_tap (by omega)] at v2
    have hle : sumN (Sn ^ j) (fun x => if decide (tapX law H d p B now Sn j x = l) = true then 1 else 0) ≤ 4096 := by
      have := sumN_le (f := fun x => if decide (tapX law H d p B now Sn j x = l) = true then 1 else 0) (b := 1) (n := Sn ^ j) (fun i _ => by split <;> omega)
      omega
    have hpos := sumN_pos (f := fun x => if decide (tapX law H d p B now Sn j x = l) = true then 1 else 0) (n := Sn ^ j)
    unfold g_X11_mends_L15 g_X12_mends_L12
    rw [if_neg (by rw [l4, nlt (by omega) (by omega)]; omega), if_neg (by rw [l5, nle (by omega) (by omega)]; omega), v1]
    simp only [Option.bind_some]
    rw [v2]
    have h9 := md_codes hN hh hs hB hp hrow hl8 hlc (show j ≤ 4 by omega) (g_X12_mends_b50 N book s row (nI l.length) (g_X12_mends_L12 N book s row (nI l.length) f2)) (Sn ^ j) 0 (by omega) N (by omega) pl so mi2 wh ih gb st many sz
    rcases h9 with ⟨⟨y, y1, y2, y3⟩, w, w1, w2⟩ | ⟨h1, pl', so', mi2', wh', ih', gb', st', many', sz', h2⟩
    · have hgt : 0 < sumN (Sn ^ j) (fun x => if decide (tapX law H d p B now Sn j x = l) = true then 1 else 0) := hpos.mpr ⟨y, y2, by rw [decide_eq_true y3]; decide⟩
      rw [if_neg (by rw [l0, nle (by omega) (by omega)]; omega)]
      have w1' : g_X12_mends_L19 N book s row (nI l.length) (g_X12_mends_b50 N book s row (nI l.length) (g_X12_mends_L12 N book s row (nI l.length) f2)) N pl so mi2 wh ih gb st many sz (nI p) (nI j) 0 = some w := w1
      rw [w1']
      exact ⟨_, _, rfl, rfl, w2.symm⟩
    · have hz : sumN (Sn ^ j) (fun x => if decide (tapX law H d p B now Sn j x = l) = true then 1 else 0) = 0 := by
        rcases Nat.eq_zero_or_pos (sumN (Sn ^ j) (fun x => if decide (tapX law H d p B now Sn j x = l) = true then 1 else 0)) with z | z
        · exact z
        · obtain ⟨i, i1, i2⟩ := hpos.mp z
          rw [decide_eq_false (h1 i (by omega) i1)] at i2
          exact absurd i2 (by decide)
      rw [hz, if_pos (show nI 0 ≤ 0 by decide)]
      have h2' : g_X12_mends_L19 N book s row (nI l.length) (g_X12_mends_b50 N book s row (nI l.length) (g_X12_mends_L12 N book s row (nI l.length) f2)) N pl so mi2 wh ih gb st many sz (nI p) (nI j) 0 = _ := h2
      rw [h2']
      unfold g_X12_mends_b50
      rw [nI_1]
      exact ihm (j + 1) (by omega) f1 f2 (by omega) (by omega) _ _ _ _ _ _ _ _ _ pl' so' mi2' wh' ih' gb' st' many' sz'
theorem t_mends (hN : 5000 < N) (hh : HOk P Sn H law mi book d) (hBR : BR bp bs bm B) (hs : SR s B now) (hB : BOk P B now) {ts row : Nat → Int32} {tz rm0 : Int32} {l : List Nat} (hTo : RTold ts tz row rm0 l) (qs qd qh : Nat → Int32) (qz : Int32) (rs rm : Nat → Nat → Int32) (rz : Nat → Int32) (rh : Nat → Nat → Int32) (rn : Nat → Int32) (pl so mi2 wh ih gb st : Nat → Int32) (many sz : Int32) (x1 : Int32) :
    ∃ v w, g_X11_mends N (nI P) (nI Sn) (nI H) (nI law) mi bp bs bm (nI B.length) (nI now) ts tz qs qd qh qz rs rm rz rh rn x1 = some v ∧ g_X12_mends N book s row rm0 pl so mi2 wh ih gb st many sz x1 = some w ∧ v.1 = w.1 := by
  have hh' := hh
  obtain ⟨⟨hP1, hP⟩, ⟨hS1, hS⟩, ⟨hH1, hH⟩, hlaw, hdr, hdb, hd0, k0, k1, k2, k3⟩ := hh'
  obtain ⟨t1, rfl, rfl, t4, t5⟩ := hTo
  have hts : Rp ts l := fun k x hk => by
    have hkl := (List.getElem?_eq_some_iff.mp hk)
    rw [(t4 k hkl.1).1, hkl.2]
  have hrow : Rp row l := fun k x hk => by
    have hkl := (List.getElem?_eq_some_iff.mp hk)
    rw [(t4 k hkl.1).2, hkl.2]
  unfold g_X11_mends g_X12_mends
  rw [pX2_isPlace, pX12_isPlace N P book (by omega) (by omega) k0]
  cases hx1 : ixB x1 P with
  | false => exact ⟨_, _, rfl, rfl, rfl⟩
  | true =>
    obtain ⟨p, hp, rfl⟩ := (ixB_iff (by omega)).mp hx1
    simp only [Option.bind_some, if_true]
    rw [if_neg (show ¬ (1 : Int32) = 0 by decide), if_neg (show ¬ (1 : Int32) = 0 by decide)]
    exact md_main hN hh hBR hs hB hp hts hrow t1 t5 5 0 (by omega) N N (by omega) (by omega) qs qd qh qz rs rm rz rh rn pl so mi2 wh ih gb st many sz
end MENDS
/-! ===== the greatest common divisor, by both ===== -/
theorem cd_loop (N : Nat) : ∀ (k x y i fu : Nat), y < x → x ≤ 4096 → x * y < 2 ^ k → i + k < 64 → k < fu → g_X11_commonDivisor_L7 N fu (nI x) (nI y) (nI i) = some (nI (Nat.gcd x y)) := by
  intro k
  induction k with
  | zero =>
    intro x y i fu hxy hx hk hi hfu
    obtain ⟨fv, rfl⟩ : ∃ fv, fu = fv + 1 := ⟨fu - 1, by omega⟩
    have hy : y = 0 := by
      rcases Nat.eq_zero_or_pos y with z | z
      · exact z
      · have := Nat.mul_pos (show 0 < x by omega) z
        omega
    subst hy
    unfold g_X11_commonDivisor_L7
    rw [if_neg (by rw [l64, nle (by omega) (by omega)]; omega), if_pos (show nI 0 = 0 from rfl), Nat.gcd_zero_right]
  | succ k ih =>
    intro x y i fu hxy hx hk hi hfu
    obtain ⟨fv, rfl⟩ : ∃ fv, fu = fv + 1 := ⟨fu - 1, by omega⟩
    unfold g_X11_commonDivisor_L7
    rw [if_neg (by rw [l64, nle (by omega) (by omega)]; omega)]
    by_cases z : y = 0
    · subst z
      rw [if_pos (show nI 0 = 0 from rfl), Nat.gcd_zero_right]
    · have hy : 0 < y := by omega
      have hm : x % y < y := Nat.mod_lt _ hy
      have hs : 2 * (x % y) ≤ x := by
        have h1 := Nat.div_add_mod x y
        have h2 : 1 ≤ x / y := (Nat.one_le_div_iff hy).mpr (by omega)
        have h3 : y * 1 ≤ y * (x / y) := Nat.mul_le_mul_left y h2
        omega
      have hp : y * (x % y) < 2 ^ k := by
        have h1 : y * (2 * (x % y)) ≤ y * x := Nat.mul_le_mul_left y hs
        have h2 : y * (2 * (x % y)) = 2 * (y * (x % y)) := by rw [Nat.mul_left_comm]
        have h3 : x * y = y * x := Nat.mul_comm _ _
        rw [Nat.pow_succ] at hk
        omega
      rw [if_neg (nI_ne0 hy (by omega)), gz_ok (nI_ne0 hy (by omega)), pk_rem (by omega) hy (by omega), nI_1, ih y (x % y) (i + 1) fv hm (by omega) hp (by omega) (by omega)]
      rw [Nat.gcd_comm x y, Nat.gcd_rec y x, Nat.gcd_comm (x % y) y]
theorem pX11_commonDivisor {N a b : Nat} (hN : 100 < N) (hb : 0 < b) (hb2 : b ≤ 4096) (ha : a ≤ 4096) : g_X11_commonDivisor N (nI a) (nI b) = some (nI (Nat.gcd a b)) := by
  unfold g_X11_commonDivisor
  obtain ⟨fv, rfl⟩ : ∃ fv, N = fv + 1 := ⟨N - 1, by omega⟩
  unfold g_X11_commonDivisor_L7
  have hm : a % b < b := Nat.mod_lt _ hb
  have hp : b * (a % b) < 2 ^ 25 := by
    have h1 : b * (a % b) ≤ 4096 * 4096 := Nat.mul_le_mul hb2 (by omega)
    omega
  rw [if_neg (by decide), if_neg (nI_ne0 hb (by omega)), gz_ok (nI_ne0 hb (by omega)), pk_rem (by omega) hb (by omega)]
  have h1 := cd_loop (fv + 1) 25 b (a % b) 1 fv hm hb2 hp (by omega) (by omega)
  have h2 : g_X11_commonDivisor_L7 (fv + 1) fv (nI b) (nI (a % b)) (0 + 1) = _ := h1
  rw [h2, Nat.gcd_comm a b, Nat.gcd_rec b a, Nat.gcd_comm (a % b) b]
theorem cd_ref {N : Nat} (book s : Nat → Int32) (kk : AI → AI → AI → AI → AI → AI → AI → Int32 → Int32 → Int32 → Int32 → Int32 → Int32 → RefO) (pl so mi2 wh ih gb st : Nat → Int32) (many sz x4 x5 x6 : Int32) : ∀ (fu a b : Nat), a < fu → a ≤ 4096 → b ≤ 4096 → g_X12_chance_L143 N book s kk fu pl so mi2 wh ih gb st many sz x4 x5 x6 (nI a) (nI b) = kk pl so mi2 wh ih gb st many sz x4 x5 x6 (nI (Nat.gcd a b)) := by
  intro fu
  induction fu with
  | zero => intro a b h; omega
  | succ fu ih =>
    intro a b hf ha hb
    unfold g_X12_chance_L143
    by_cases z : a = 0
    · subst z
      rw [if_pos (show nI 0 = 0 from rfl), Nat.gcd_zero_left]
    · have h0 : 0 < a := by omega
      have hm : b % a < a := Nat.mod_lt _ h0
      rw [if_neg (nI_ne0 h0 (by omega)), gz_ok (nI_ne0 h0 (by omega)), pk_rem (by omega) h0 (by omega), ih (b % a) a (by omega) (by omega) (by omega), Nat.gcd_rec a b]
