/-! ===== chance ===== -/
section CHANCE
variable {N P Sn H law now : Nat} {mi book bp bs bm s : Nat → Int32} {d : Nat → Nat → Nat} {B : List Be} {p : Nat}
theorem ch_in {so st : Nat → Int32} {R : List Nat} (hst : MS st so R) (hR8 : ∀ x ∈ R, x < 8) (hRl : R.length ≤ 100) {c : Nat} (hc : c < 8) (kk : AI → AI → AI → AI → AI → AI → AI → Int32 → Int32 → Int32 → Int32 → Int32 → Int32 → Int32 → Int32 → Int32 → Int32 → RefO) (pl mi2 wh ih gb : Nat → Int32) (many x1 x3 x4 x5 x6 x7 : Int32) :
    ∀ (m j : Nat), j + m = R.length → ∀ fu, m < fu → ∀ (b : Bool), g_X12_chance_L71 N book s kk fu pl so mi2 wh ih gb st many (nI R.length) x1 (nI c) x3 x4 x5 x6 x7 (if b then 1 else 0) (nI j) = kk pl so mi2 wh ih gb st many (nI R.length) x1 (nI c) x3 x4 x5 x6 x7 (if b || decide (c ∈ R.drop j) then 1 else 0) := by
  intro m
  induction m with
  | zero =>
    intro j hj fu hfu b
    obtain ⟨fv, rfl⟩ : ∃ fv, fu = fv + 1 := ⟨fu - 1, by omega⟩
    unfold g_X12_chance_L71
    rw [if_pos ((nle (by omega) (by omega)).mpr (by omega)), List.drop_eq_nil_of_le (by omega), decide_eq_false (by simp), Bool.or_false]
  | succ m ihm =>
    intro j hj fu hfu b
    obtain ⟨fv, rfl⟩ : ∃ fv, fu = fv + 1 := ⟨fu - 1, by omega⟩
    obtain ⟨r, hr⟩ : ∃ r, R[j]? = some r := ⟨_, List.getElem?_eq_getElem (by omega)⟩
    have r8 := hR8 r (List.mem_of_getElem? hr)
    obtain ⟨i, hi, s1, s2⟩ := hst j r hr
    have i1 := ihm (j + 1) (by omega) fv (by omega) true
    rw [if_pos rfl, Bool.true_or, if_pos rfl] at i1
    have i0 := ihm (j + 1) (by omega) fv (by omega) false
    rw [if_neg (by decide), Bool.false_or] at i0
    unfold g_X12_chance_L71
    rw [if_neg (by rw [nle (by omega) (by omega)]; omega), drop_cons hr]
    unfold g_X12_chance_b101 g_X12_chance_b106
    rw [nI_1]
    cases b with
    | true =>
      rw [if_pos rfl, if_neg (show ¬ (1 : Int32) = 0 by decide), i1, Bool.true_or, if_pos rfl]
    | false =>
      rw [if_neg (show ¬ false = true by decide), if_pos rfl, gi_nI (by omega) (by omega), nc (by omega), s1, gi_nI (by omega) (by omega), nc (by omega), s2, Bool.false_or]
      by_cases e : r = c
      · rw [if_pos (by rw [e]), i1, decide_eq_true (show c ∈ r :: R.drop (j + 1) by rw [e]; exact List.mem_cons_self), if_pos rfl]
      · have h1 : c ∈ r :: R.drop (j + 1) ↔ c ∈ R.drop (j + 1) := by
          rw [List.mem_cons]
          exact ⟨fun z => z.resolve_left (fun y => e y.symm), Or.inr⟩
        rw [if_neg (fun z => e ((neq (by omega) (by omega)).mp z)), i0]
        rw [decide_eq_decide.mpr h1]
theorem ch_codes (hN : 5000 < N) (hh : HOk P Sn H law mi book d) (hs : SR s B now) (hB : BOk P B now) (hp : p < P) {c : Nat} (hc : c < 8) {n : Nat} (hn4 : n ≤ 4) (x4 : Int32) (kk : AI → AI → AI → AI → AI → AI → AI → Int32 → Int32 → Int32 → Int32 → Int32 → RefO) :
    ∀ (m x : Nat), x + m = Sn ^ n → ∀ fu, m < fu → ∀ (pl so mi2 wh ih gb st : Nat → Int32) (many sz : Int32), ∃ (pl' so' mi2' wh' ih' gb' st' : Nat → Int32) (many' sz' : Int32),
    g_X12_chance_L50 N book s kk fu pl so mi2 wh ih gb st many sz (nI p) (nI c) (nI n) x4 (nI (Sn ^ n)) (nI (sumN x (fun y => if decide (c ∈ tapX law H d p B now Sn n y) = true then 1 else 0))) (nI x) = kk pl' so' mi2' wh' ih' gb' st' many' sz' x4 (nI (Sn ^ n)) (nI (sumN (Sn ^ n) (fun y => if decide (c ∈ tapX law H d p B now Sn n y) = true then 1 else 0))) := by
  have hh' := hh
  obtain ⟨⟨hP1, hP⟩, ⟨hS1, hS⟩, ⟨hH1, hH⟩, hlaw, hdr, hdb, hd0, k0, k1, k2, k3⟩ := hh'
  have hpw := pow_small hS hn4
  intro m
  induction m with
  | zero =>
    intro x hx fu hfu pl so mi2 wh ih gb st many sz
    obtain ⟨fv, rfl⟩ : ∃ fv, fu = fv + 1 := ⟨fu - 1, by omega⟩
    refine ⟨pl, so, mi2, wh, ih, gb, st, many, sz, ?_⟩
    unfold g_X12_chance_L50
    rw [if_pos ((nle (by omega) (by omega)).mpr (by omega)), show x = Sn ^ n by omega]
  | succ m ihm =>
    intro x hx fu hfu pl so mi2 wh ih gb st many sz
    obtain ⟨fv, rfl⟩ : ∃ fv, fu = fv + 1 := ⟨fu - 1, by omega⟩
    obtain ⟨v, v1, v2, v3⟩ := tap_ref (N := N) hN hh hs hB hp hn4 (show x < 5000 by omega) pl so mi2 wh ih gb st many sz
    obtain ⟨o1, o2⟩ := tap_ok (n := n) (x := x) hh hB hp hn4
    obtain ⟨pl', so', mi2', wh', ih', gb', st', many', sz', h9⟩ := ihm (x + 1) (by omega) fv (by omega) v.1 v.2.1 v.2.2.1 v.2.2.2.1 v.2.2.2.2.1 v.2.2.2.2.2.1 v.2.2.2.2.2.2.1 v.2.2.2.2.2.2.2.1 (nI (tapX law H d p B now Sn n x).length)
    refine ⟨pl', so', mi2', wh', ih', gb', st', many', sz', ?_⟩
    rw [← h9]
    conv => lhs; unfold g_X12_chance_L50
    rw [if_neg (by rw [nle (by omega) (by omega)]; omega), v1]
    simp only [Option.bind_some]
    have hi := ch_in (N := N) (book := book) (s := s) v3 o1 o2 hc (g_X12_chance_b114 N book s (g_X12_chance_L50 N book s kk fv)) v.1 v.2.2.1 v.2.2.2.1 v.2.2.2.2.1 v.2.2.2.2.2.1 v.2.2.2.2.2.2.2.1 (nI p) (nI n) x4 (nI (Sn ^ n)) (nI (sumN x (fun y => if decide (c ∈ tapX law H d p B now Sn n y) = true then 1 else 0))) (nI x) (tapX law H d p B now Sn n x).length 0 (by omega) N (by omega) false
    rw [if_neg (by decide), Bool.false_or, List.drop_zero] at hi
    have hi' : g_X12_chance_L71 N book s (g_X12_chance_b114 N book s (g_X12_chance_L50 N book s kk fv)) N v.1 v.2.1 v.2.2.1 v.2.2.2.1 v.2.2.2.2.1 v.2.2.2.2.2.1 v.2.2.2.2.2.2.1 v.2.2.2.2.2.2.2.1 (nI (tapX law H d p B now Sn n x).length) (nI p) (nI c) (nI n) x4 (nI (Sn ^ n)) (nI (sumN x (fun y => if decide (c ∈ tapX law H d p B now Sn n y) = true then 1 else 0))) (nI x) 0 0 = _ := hi
    rw [v2, hi']
    unfold g_X12_chance_b114 g_X12_chance_b126
    have hsum : sumN (x + 1) (fun y => if decide (c ∈ tapX law H d p B now Sn n y) = true then 1 else 0) = sumN x (fun y => if decide (c ∈ tapX law H d p B now Sn n y) = true then 1 else 0) + if decide (c ∈ tapX law H d p B now Sn n x) = true then 1 else 0 := rfl
    rw [hsum, nI_1]
    by_cases z : c ∈ tapX law H d p B now Sn n x
    · rw [decide_eq_true z, if_pos rfl, if_pos rfl, if_neg (show ¬ (1 : Int32) = 0 by decide), nI_1]
    · rw [decide_eq_false z, if_neg (show ¬ false = true by decide), if_neg (show ¬ false = true by decide), if_pos rfl, l0, nI_add]
theorem ch_pow (hN : 100 < N) {n : Nat} (hn4 : n ≤ 4) (kk : AI → AI → AI → Int32 → (Nat → Nat → Int32) → (Nat → Nat → Int32) → AI → (Nat → Nat → Int32) → AI → Int32 → Int32 → Int32 → Option (Int32 × AI × AI × AI × Int32 × (Nat → Nat → Int32) × (Nat → Nat → Int32) × AI × (Nat → Nat → Int32) × AI)) (a1 a2 a3 a4 : Int32) (bz bn tz : Int32) (ts : AI) (qs qd qh : AI) (qz : Int32) (rs rm : Nat → Nat → Int32) (rz : AI) (rh : Nat → Nat → Int32) (rn : AI) (x4 x5 : Int32) :
    ∀ (m j : Nat), j + m = n → ∀ fu, m < fu → g_X11_chance_L62 N a1 (nI Sn) a2 a3 mi bp bs bm bz bn ts tz kk fu qs qd qh qz rs rm rz rh rn (nI n) x4 x5 (nI (Sn ^ j)) (nI j) = kk qs qd qh qz rs rm rz rh rn x4 x5 (nI (Sn ^ n)) := by
  intro m
  induction m with
  | zero =>
    intro j hj fu hfu
    obtain ⟨fv, rfl⟩ : ∃ fv, fu = fv + 1 := ⟨fu - 1, by omega⟩
    have : j = n := by omega
    subst this
    unfold g_X11_chance_L62
    rw [if_pos ((nle (by omega) (by omega)).mpr (Nat.le_refl _))]
  | succ m ih =>
    intro j hj fu hfu
    obtain ⟨fv, rfl⟩ : ∃ fv, fu = fv + 1 := ⟨fu - 1, by omega⟩
    unfold g_X11_chance_L62
    rw [if_neg (by rw [nle (by omega) (by omega)]; omega), pk_mul, ← Nat.pow_succ, nI_1]
    exact ih (j + 1) (by omega) fv (by omega)
theorem t_chance (hN : 5000 < N) (hh : HOk P Sn H law mi book d) (hBR : BR bp bs bm B) (hs : SR s B now) (hB : BOk P B now) (ts : Nat → Int32) (tz : Int32) (qs qd qh : Nat → Int32) (qz : Int32) (rs rm : Nat → Nat → Int32) (rz : Nat → Int32) (rh : Nat → Nat → Int32) (rn : Nat → Int32) (pl so mi2 wh ih gb st : Nat → Int32) (many sz : Int32) (x1 x2 x3 x4 : Int32) :
    ∃ v w, g_X11_chance N (nI P) (nI Sn) (nI H) (nI law) mi bp bs bm (nI B.length) (nI now) ts tz qs qd qh qz rs rm rz rh rn x1 x2 x3 x4 = some v ∧ g_X12_chance N book s pl so mi2 wh ih gb st many sz x1 x2 x3 x4 = some w ∧ v.1 = w.1 := by
  have hh' := hh
  obtain ⟨⟨hP1, hP⟩, ⟨hS1, hS⟩, ⟨hH1, hH⟩, hlaw, hdr, hdb, hd0, k0, k1, k2, k3⟩ := hh'
  have n10 : ¬ (1 : Int32) = 0 := by decide
  have in4 := pX12_in0z N 5 (by omega) x3
  have in1 := pX12_in0z N 2 (by omega) x4
  rw [show nI 5 - 1 = 4 from by decide] at in4
  rw [show nI 2 - 1 = 1 from by decide] at in1
  unfold g_X11_chance g_X12_chance
  rw [pX2_isPlace, pX12_isPlace N P book (by omega) (by omega) k0, pX2_isSort, pX12_isSort N Sn book (by omega) (by omega) k3, in4, in1]
  cases hx1 : ixB x1 P with
  | false => exact ⟨_, _, rfl, rfl, rfl⟩
  | true =>
    obtain ⟨p, hp, rfl⟩ := (ixB_iff (by omega)).mp hx1
    simp only [Option.bind_some, if_true]
    rw [if_neg n10, if_neg n10]
    cases hx2 : ixB x2 Sn with
    | false => exact ⟨_, _, rfl, rfl, rfl⟩
    | true =>
      obtain ⟨c, hc, rfl⟩ := (ixB_iff (by omega)).mp hx2
      simp only [if_true]
      rw [if_neg n10, if_neg n10]
      cases hx3 : ixB x3 5 with
      | false =>
        rcases ixB_none hx3 (by omega) with z | z
        · rw [if_pos z]; exact ⟨_, _, rfl, rfl, rfl⟩
        · have z1 : ¬ x3 < 0 := fun y => absurd (Int32.lt_of_le_of_lt z y) (by decide)
          have z2 : (4 : Int32) < x3 := Int32.lt_of_lt_of_le (by decide) z
          rw [if_neg z1, if_pos z2]; exact ⟨_, _, rfl, rfl, rfl⟩
      | true =>
        obtain ⟨n, hn, rfl⟩ := (ixB_iff (by omega)).mp hx3
        simp only [if_true]
        rw [if_neg (nI_pos (by omega)), if_neg (by rw [l4, nlt (by omega) (by omega)]; omega), if_neg n10]
        cases hx4 : ixB x4 2 with
        | false =>
          rcases ixB_none hx4 (by omega) with z | z
          · rw [if_pos z]; exact ⟨_, _, rfl, rfl, rfl⟩
          · have z1 : ¬ x4 < 0 := fun y => absurd (Int32.lt_of_le_of_lt z y) (by decide)
            have z2 : ¬ x4 ≤ 1 := fun y => absurd (Int32.le_trans z y) (by decide)
            rw [if_neg z1, if_neg z2]; exact ⟨_, _, rfl, rfl, rfl⟩
        | true =>
          obtain ⟨q, hq, rfl⟩ := (ixB_iff (by omega)).mp hx4
          simp only [if_true]
          rw [if_neg (nI_pos (by omega)), if_pos (by rw [l1, nle (by omega) (by omega)]; omega), if_neg n10]
          have hpw := pow_small hS (show n ≤ 4 by omega)
          have hpp : 0 < Sn ^ n := Nat.pow_pos (by omega)
          obtain ⟨v, v1, v2⟩ := pX10_countWays (N := N) hN hh hBR hB hp (rch_sort (N := N) (ts := ts) (tz := tz) (by omega) (show c < 8 by omega)) (show n ≤ 4 by omega) qs qd qh qz rs rm rz rh rn
          rw [cw_tap (by omega)] at v2
          have hle : sumN (Sn ^ n) (fun x => if decide (c ∈ tapX law H d p B now Sn n x) = true then 1 else 0) ≤ 4096 := by
            have := sumN_le (f := fun x => if decide (c ∈ tapX law H d p B now Sn n x) = true then 1 else 0) (b := 1) (n := Sn ^ n) (fun i _ => by split <;> omega)
            omega
          rw [v1, pX12_codes (k3 := k3) hN (by omega)]
          simp only [Option.bind_some]
          rw [v2]
          have hpow := ch_pow (N := N) (Sn := Sn) (mi := mi) (bp := bp) (bs := bs) (bm := bm) (by omega) (show n ≤ 4 by omega) (g_X11_chance_b86 N (nI P) (nI Sn) (nI H) (nI law) mi bp bs bm (nI B.length) (nI now) ts tz) (nI P) (nI H) (nI law) 0 (nI B.length) (nI now) tz ts v.2.1 v.2.2.1 v.2.2.2.1 v.2.2.2.2.1 v.2.2.2.2.2.1 v.2.2.2.2.2.2.1 v.2.2.2.2.2.2.2.1 v.2.2.2.2.2.2.2.2.1 v.2.2.2.2.2.2.2.2.2 (nI q) (nI (sumN (Sn ^ n) (fun x => if decide (c ∈ tapX law H d p B now Sn n x) = true then 1 else 0))) n 0 (by omega) N (by omega)
          have hpow' : g_X11_chance_L62 N (nI P) (nI Sn) (nI H) (nI law) mi bp bs bm (nI B.length) (nI now) ts tz (g_X11_chance_b86 N (nI P) (nI Sn) (nI H) (nI law) mi bp bs bm (nI B.length) (nI now) ts tz) N v.2.1 v.2.2.1 v.2.2.2.1 v.2.2.2.2.1 v.2.2.2.2.2.1 v.2.2.2.2.2.2.1 v.2.2.2.2.2.2.2.1 v.2.2.2.2.2.2.2.2.1 v.2.2.2.2.2.2.2.2.2 (nI n) (nI q) (nI (sumN (Sn ^ n) (fun x => if decide (c ∈ tapX law H d p B now Sn n x) = true then 1 else 0))) 1 0 = _ := hpow
          rw [hpow']
          obtain ⟨pl', so', mi2', wh', ih', gb', st', many', sz', h9⟩ := ch_codes (N := N) hN hh hs hB hp (show c < 8 by omega) (show n ≤ 4 by omega) (nI q) (g_X12_chance_b135 N book s) (Sn ^ n) 0 (by omega) N (by omega) pl so mi2 wh ih gb st many sz
          have h9' : g_X12_chance_L50 N book s (g_X12_chance_b135 N book s) N pl so mi2 wh ih gb st many sz (nI p) (nI c) (nI n) (nI q) (nI (Sn ^ n)) 0 0 = _ := h9
          rw [h9']
          unfold g_X11_chance_b86 g_X12_chance_b135
          rw [pX11_commonDivisor (by omega) hpp hpw hle, cd_ref book s _ _ _ _ _ _ _ _ _ _ _ _ _ N _ _ (by omega) hle hpw]
          unfold g_X12_chance_b166
          simp only [Option.bind_some]
          have hg : 0 < Nat.gcd (sumN (Sn ^ n) (fun x => if decide (c ∈ tapX law H d p B now Sn n x) = true then 1 else 0)) (Sn ^ n) := Nat.gcd_pos_of_pos_right _ hpp
          have hg2 : Nat.gcd (sumN (Sn ^ n) (fun x => if decide (c ∈ tapX law H d p B now Sn n x) = true then 1 else 0)) (Sn ^ n) ≤ Sn ^ n := Nat.gcd_le_right _ hpp
          rw [if_pos (by rw [l1, nle (by omega) (by omega)]; omega), gz_ok (nI_ne0 hg (by omega)), gz_ok (nI_ne0 hg (by omega)), gz_ok (nI_ne0 hg (by omega)), gz_ok (nI_ne0 hg (by omega))]
          by_cases e : nI q = 0
          · rw [if_pos e, if_pos e]; exact ⟨_, _, rfl, rfl, rfl⟩
          · rw [if_neg e, if_neg e]; exact ⟨_, _, rfl, rfl, rfl⟩
end CHANCE
