/-! ===== the secret beat: all that are tried, by both ===== -/
def cU (c : Nat → Nat) : Nat → Nat → Nat
  | _, 0 => 0
  | i, m + 1 => c i + cU c (i + 1) m
def fU (f : Nat → Int32 → Int32) (e : Int32) : Nat → Nat → Int32
  | _, 0 => e
  | i, m + 1 => f i (fU f e (i + 1) m)
theorem cU_s (c : Nat → Nat) (i m : Nat) : cU c i (m + 1) = c i + cU c (i + 1) m := rfl
theorem fU_s (f : Nat → Int32 → Int32) (e : Int32) (i m : Nat) : fU f e i (m + 1) = f i (fU f e (i + 1) m) := rfl
def CF (n : Nat) (g : Int32 → Int32) : Prop := (n = 0 → ∀ e, g e = e) ∧ (n ≠ 0 → ∀ e e', g e = g e')
theorem CF.up {c : Nat → Nat} {f : Nat → Int32 → Int32} (h : ∀ i, CF (c i) (f i)) : ∀ m i, CF (cU c i m) (fun e => fU f e i m) := by
  intro m
  induction m with
  | zero => intro i; exact ⟨fun _ e => rfl, fun z => absurd rfl z⟩
  | succ m ih =>
    intro i
    have h1 := ih (i + 1)
    refine ⟨fun z e => ?_, fun z e e' => ?_⟩
    · rw [cU_s] at z
      show f i (fU f e (i + 1) m) = e
      rw [(h i).1 (by omega)]
      exact h1.1 (by omega) e
    · rw [cU_s] at z
      show f i (fU f e (i + 1) m) = f i (fU f e' (i + 1) m)
      by_cases y : c i = 0
      · rw [(h i).1 y, (h i).1 y]
        exact h1.2 (by omega) e e'
      · exact (h i).2 y _ _
theorem CF.comp {n1 : Nat} {g1 : Int32 → Int32} (h1 : CF n1 g1) (g2 : Int32 → Int32) (a : Nat) (F : Int32) : (if a + n1 = 0 then g2 (if a = 0 then g1 F else F) else (if a = 0 then g1 F else F)) = if a = 0 then g1 (g2 F) else F := by
  by_cases z : a = 0
  · rw [if_pos z, if_pos z]
    by_cases y : n1 = 0
    · rw [if_pos (by omega), h1.1 y, h1.1 y]
    · rw [if_neg (by omega)]
      exact h1.2 y _ _
  · rw [if_neg z, if_neg z, if_neg (by omega)]
theorem cU_le {c : Nat → Nat} {b : Nat} (h : ∀ i, c i ≤ b) : ∀ m i, cU c i m ≤ m * b := by
  intro m
  induction m with
  | zero => intro i; exact Nat.zero_le _
  | succ m ih =>
    intro i
    have h1 := h i
    have h2 := ih (i + 1)
    rw [cU_s, Nat.succ_mul]
    omega
def qT (law H : Nat) (d : Nat → Nat → Nat) (B : List Be) (now : Nat) (X : List (Nat × List Nat)) (p c t : Nat) : Bool := allSo law H d B now (p, c, t) X
def cT (law H : Nat) (d : Nat → Nat → Nat) (B : List Be) (now : Nat) (X : List (Nat × List Nat)) (p c t : Nat) : Nat := if qT law H d B now X p c t then 1 else 0
def fT (law H : Nat) (d : Nat → Nat → Nat) (B : List Be) (now : Nat) (X : List (Nat × List Nat)) (p c t : Nat) (e : Int32) : Int32 := if qT law H d B now X p c t then nI (100000 * p + 10000 * c + t) else e
def cC (law H : Nat) (d : Nat → Nat → Nat) (B : List Be) (now : Nat) (X : List (Nat × List Nat)) (p c : Nat) : Nat := cU (cT law H d B now X p c) (now - 99) (now + 1 - (now - 99))
def fC (law H : Nat) (d : Nat → Nat → Nat) (B : List Be) (now : Nat) (X : List (Nat × List Nat)) (p c : Nat) (e : Int32) : Int32 := fU (fT law H d B now X p c) e (now - 99) (now + 1 - (now - 99))
def cQ (law H : Nat) (d : Nat → Nat → Nat) (B : List Be) (now : Nat) (X : List (Nat × List Nat)) (Sn p : Nat) : Nat := cU (cC law H d B now X p) 0 Sn
def fQ (law H : Nat) (d : Nat → Nat → Nat) (B : List Be) (now : Nat) (X : List (Nat × List Nat)) (Sn p : Nat) (e : Int32) : Int32 := fU (fC law H d B now X p) e 0 Sn
section SECRET
variable {N P Sn H law now : Nat} {mi book bp bs bm s : Nat → Int32} {d : Nat → Nat → Nat} {B : List Be}
theorem CF_T (X : List (Nat × List Nat)) (p c t : Nat) : CF (cT law H d B now X p c t) (fT law H d B now X p c t) := by
  unfold cT fT
  cases qT law H d B now X p c t with
  | true => exact ⟨fun z => absurd z (by decide), fun _ e e' => rfl⟩
  | false => exact ⟨fun _ e => rfl, fun z => absurd rfl z⟩
theorem CF_C (X : List (Nat × List Nat)) (p c : Nat) : CF (cC law H d B now X p c) (fC law H d B now X p c) := CF.up (CF_T X p c) _ _
theorem CF_Q (X : List (Nat × List Nat)) (p : Nat) : CF (cQ law H d B now X Sn p) (fQ law H d B now X Sn p) := CF.up (CF_C X p) _ _
theorem cT_le (X : List (Nat × List Nat)) (p c t : Nat) : cT law H d B now X p c t ≤ 1 := by
  unfold cT; split <;> omega
theorem cC_le (X : List (Nat × List Nat)) (p c : Nat) : cC law H d B now X p c ≤ 100 := by
  have := cU_le (cT_le (law := law) (H := H) (d := d) (B := B) (now := now) X p c) (now + 1 - (now - 99)) (now - 99)
  unfold cC
  omega
theorem cQ_le (X : List (Nat × List Nat)) (hS : Sn ≤ 8) (p : Nat) : cQ law H d B now X Sn p ≤ 800 := by
  have := cU_le (cC_le (law := law) (H := H) (d := d) (B := B) (now := now) X p) Sn 0
  unfold cQ
  omega
theorem vT (p c t : Nat) : 100000 * nI p + 10000 * nI c + nI t = nI (100000 * p + 10000 * c + t) := by
  rw [show (100000 : Int32) = nI 100000 from rfl, show (10000 : Int32) = nI 10000 from rfl, pk_mul, pk_mul, nI_add, nI_add]
/-- the class, over the minutes -/
theorem sc_t (hN : 5000 < N) (hh : HOk P Sn H law mi book d) (hB : BOk P B now) (hs : SR s B now) {X : List (Nat × List Nat)} {rso : Nat → Nat → Int32} {rsz place tells : Nat → Int32} {sz tm : Int32} (hX : ScR P rso rsz sz place tells tm X) {qs qd qh : Nat → Nat → Int32} {qz : Nat → Int32} (hQ : QsR d B X qs qd qh qz) {p c : Nat} (hp : p < P) (hc : c < Sn) (x1 : Int32) (kk : (Nat → Nat → Int32) → (Nat → Nat → Int32) → (Nat → Nat → Int32) → AI → AI → AI → Int32 → AI → Int32 → Int32 → Int32 → Int32 → Int32 → Int32 → Option ((Nat → Nat → Int32) × (Nat → Nat → Int32) × (Nat → Nat → Int32) × AI × AI × AI × Int32 × AI × Int32 × Int32 × Int32)) :
    ∀ (m t : Nat), t + m = now + 1 → ∀ fu, m < fu → ∀ (a : Nat) (F : Int32), a + m < 1000000 → ∀ (so ma he : Nat → Int32) (tz tn : Int32), ∃ (so' ma' he' : Nat → Int32) (tz' tn' : Int32), g_X6_search_L96 N (nI P) (nI Sn) (nI H) (nI law) mi bp bs bm (nI B.length) (nI now) rso rsz sz place kk fu qs qd qh qz so ma tz he tn (nI a) F x1 (nI p) (nI c) (nI t) = kk qs qd qh qz so' ma' tz' he' tn' (nI (a + cU (cT law H d B now X p c) t m)) (if a = 0 then fU (fT law H d B now X p c) F t m else F) x1 (nI p) (nI c) := by
  have hh' := hh
  obtain ⟨⟨hP1, hP⟩, ⟨hS1, hS⟩, ⟨hH1, hH⟩, hlaw, hdr, hdb, hd0, k0, k1, k2, k3⟩ := hh'
  have h24 := hB.1
  have hnow := hB.2.2.2
  intro m
  induction m with
  | zero =>
    intro t ht fu hfu a F ha so ma he tz tn
    obtain ⟨fv, rfl⟩ : ∃ fv, fu = fv + 1 := ⟨fu - 1, by omega⟩
    refine ⟨so, ma, he, tz, tn, ?_⟩
    unfold g_X6_search_L96
    rw [if_pos ((nlt (by omega) (by omega)).mpr (by omega))]
    show _ = kk qs qd qh qz so ma tz he tn (nI (a + 0)) (if a = 0 then F else F) x1 (nI p) (nI c)
    rw [ite_self]
    rfl
  | succ m ih =>
    intro t ht fu hfu a F ha so ma he tz tn
    obtain ⟨fv, rfl⟩ : ∃ fv, fu = fv + 1 := ⟨fu - 1, by omega⟩
    obtain ⟨v, v1, v2⟩ := pX6_isAllSoBy (N := N) (e := (p, c, t)) (by omega) hh hB hX hQ hp (show c < 8 by omega) (show t ≤ now by omega) so ma he tz tn
    have v1' : g_X6_isAllSoBy N (nI P) (nI H) (nI law) mi (nI now) rso rsz qs qd qh qz sz place so ma tz he tn (nI p) (nI c) (nI t) = some v := v1
    have v2' : v.1 = bI (qT law H d B now X p c t) := v2
    have hcs : cT law H d B now X p c t = if qT law H d B now X p c t then 1 else 0 := rfl
    have hfs : ∀ e, fT law H d B now X p c t e = if qT law H d B now X p c t then nI (100000 * p + 10000 * c + t) else e := fun e => rfl
    rw [cU_s, fU_s, hcs, hfs]
    unfold g_X6_search_L96
    rw [if_neg (by rw [nlt (by omega) (by omega)]; omega), v1']
    simp only [Option.bind_some]
    rw [v2']
    unfold g_X6_search_b147 g_X6_search_b160
    rw [nI_1, nI_1, vT]
    cases qT law H d B now X p c t with
    | false =>
      obtain ⟨so', ma', he', tz', tn', h9⟩ := ih (t + 1) (by omega) fv (by omega) a F (by omega) v.2.1 v.2.2.1 v.2.2.2.2.1 v.2.2.2.1 v.2.2.2.2.2
      refine ⟨so', ma', he', tz', tn', ?_⟩
      rw [if_pos (show bI false = 0 from rfl), h9, if_neg (show ¬ false = true by decide), if_neg (show ¬ false = true by decide), Nat.zero_add]
    | true =>
      rw [if_neg (show ¬ bI true = 0 by decide), if_pos rfl, if_pos rfl]
      by_cases z : a = 0
      · obtain ⟨so', ma', he', tz', tn', h9⟩ := ih (t + 1) (by omega) fv (by omega) (a + 1) (nI (100000 * p + 10000 * c + t)) (by omega) v.2.1 v.2.2.1 v.2.2.2.2.1 v.2.2.2.1 v.2.2.2.2.2
        refine ⟨so', ma', he', tz', tn', ?_⟩
        rw [if_pos (show nI a = 0 by rw [z]; rfl), h9, if_neg (by omega), if_pos z, ← Nat.add_assoc]
      · obtain ⟨so', ma', he', tz', tn', h9⟩ := ih (t + 1) (by omega) fv (by omega) (a + 1) F (by omega) v.2.1 v.2.2.1 v.2.2.2.2.1 v.2.2.2.1 v.2.2.2.2.2
        refine ⟨so', ma', he', tz', tn', ?_⟩
        rw [if_neg (nI_ne0 (by omega) (by omega)), h9, if_neg (by omega), if_neg z, ← Nat.add_assoc]
/-- the class, over the sorts -/
theorem sc_c (hN : 5000 < N) (hh : HOk P Sn H law mi book d) (hB : BOk P B now) (hs : SR s B now) {X : List (Nat × List Nat)} {rso : Nat → Nat → Int32} {rsz place tells : Nat → Int32} {sz tm : Int32} (hX : ScR P rso rsz sz place tells tm X) {qs qd qh : Nat → Nat → Int32} {qz : Nat → Int32} (hQ : QsR d B X qs qd qh qz) {p : Nat} (hp : p < P) (kk : (Nat → Nat → Int32) → (Nat → Nat → Int32) → (Nat → Nat → Int32) → AI → AI → AI → Int32 → AI → Int32 → Int32 → Int32 → Int32 → Int32 → Option ((Nat → Nat → Int32) × (Nat → Nat → Int32) × (Nat → Nat → Int32) × AI × AI × AI × Int32 × AI × Int32 × Int32 × Int32)) :
    ∀ (m c : Nat), c + m = Sn → ∀ fu, m < fu → ∀ (a : Nat) (F : Int32), a + m * 100 < 900000 → ∀ (so ma he : Nat → Int32) (tz tn : Int32), ∃ (so' ma' he' : Nat → Int32) (tz' tn' : Int32), g_X6_search_L82 N (nI P) (nI Sn) (nI H) (nI law) mi bp bs bm (nI B.length) (nI now) rso rsz sz place kk fu qs qd qh qz so ma tz he tn (nI a) F (nI (now - 99)) (nI p) (nI c) = kk qs qd qh qz so' ma' tz' he' tn' (nI (a + cU (cC law H d B now X p) c m)) (if a = 0 then fU (fC law H d B now X p) F c m else F) (nI (now - 99)) (nI p) := by
  have hh' := hh
  obtain ⟨⟨hP1, hP⟩, ⟨hS1, hS⟩, ⟨hH1, hH⟩, hlaw, hdr, hdb, hd0, k0, k1, k2, k3⟩ := hh'
  have h24 := hB.1
  have hnow := hB.2.2.2
  intro m
  induction m with
  | zero =>
    intro c hc fu hfu a F ha so ma he tz tn
    obtain ⟨fv, rfl⟩ : ∃ fv, fu = fv + 1 := ⟨fu - 1, by omega⟩
    refine ⟨so, ma, he, tz, tn, ?_⟩
    unfold g_X6_search_L82
    rw [if_pos ((nle (by omega) (by omega)).mpr (by omega))]
    show _ = kk qs qd qh qz so ma tz he tn (nI (a + 0)) (if a = 0 then F else F) (nI (now - 99)) (nI p)
    rw [ite_self]
    rfl
  | succ m ih =>
    intro c hc fu hfu a F ha so ma he tz tn
    obtain ⟨fv, rfl⟩ : ∃ fv, fu = fv + 1 := ⟨fu - 1, by omega⟩
    have hcl := cC_le (law := law) (H := H) (d := d) (B := B) (now := now) X p c
    have hcf := CF_C (law := law) (H := H) (d := d) (B := B) (now := now) X p c
    unfold g_X6_search_L82
    rw [if_neg (by rw [nle (by omega) (by omega)]; omega)]
    obtain ⟨so1, ma1, he1, tz1, tn1, h1⟩ := sc_t (bp := bp) (bs := bs) (bm := bm) hN hh hB hs hX hQ hp (show c < Sn by omega) (nI (now - 99)) (g_X6_search_b166 N (nI P) (nI Sn) (nI H) (nI law) mi bp bs bm (nI B.length) (nI now) rso rsz sz place (g_X6_search_L82 N (nI P) (nI Sn) (nI H) (nI law) mi bp bs bm (nI B.length) (nI now) rso rsz sz place kk fv)) (now + 1 - (now - 99)) (now - 99) (by omega) N (by omega) a F (by omega) so ma he tz tn
    rw [h1]
    unfold g_X6_search_b166
    rw [nI_1]
    obtain ⟨so', ma', he', tz', tn', h9⟩ := ih (c + 1) (by omega) fv (by omega) (a + cC law H d B now X p c) (if a = 0 then fC law H d B now X p c F else F) (by omega) so1 ma1 he1 tz1 tn1
    refine ⟨so', ma', he', tz', tn', ?_⟩
    have h9' := h9
    rw [hcf.comp (fun e => fU (fC law H d B now X p) e (c + 1) m) a F] at h9'
    rw [cU_s, fU_s, ← Nat.add_assoc]
    exact h9'
/-- the class, over the places -/
theorem sc_p (hN : 5000 < N) (hh : HOk P Sn H law mi book d) (hB : BOk P B now) (hs : SR s B now) {X : List (Nat × List Nat)} {rso : Nat → Nat → Int32} {rsz place tells : Nat → Int32} {sz tm : Int32} (hX : ScR P rso rsz sz place tells tm X) {qs qd qh : Nat → Nat → Int32} {qz : Nat → Int32} (hQ : QsR d B X qs qd qh qz) :
    ∀ (m p : Nat), p + m = P → ∀ fu, m < fu → ∀ (a : Nat) (F : Int32), a + m * 800 < 800000 → ∀ (so ma he : Nat → Int32) (tz tn : Int32), ∃ v, g_X6_search_L69 N (nI P) (nI Sn) (nI H) (nI law) mi bp bs bm (nI B.length) (nI now) rso rsz sz place fu qs qd qh qz so ma tz he tn (nI a) F (nI (now - 99)) (nI p) = some v ∧ v.2.2.2.2.2.2.2.2.2.1 = nI (a + cU (cQ law H d B now X Sn) p m) ∧ v.2.2.2.2.2.2.2.2.2.2 = if a = 0 then fU (fQ law H d B now X Sn) F p m else F := by
  have hh' := hh
  obtain ⟨⟨hP1, hP⟩, ⟨hS1, hS⟩, ⟨hH1, hH⟩, hlaw, hdr, hdb, hd0, k0, k1, k2, k3⟩ := hh'
  have h24 := hB.1
  have hnow := hB.2.2.2
  intro m
  induction m with
  | zero =>
    intro p hp fu hfu a F ha so ma he tz tn
    obtain ⟨fv, rfl⟩ : ∃ fv, fu = fv + 1 := ⟨fu - 1, by omega⟩
    unfold g_X6_search_L69
    rw [if_pos ((nle (by omega) (by omega)).mpr (by omega))]
    refine ⟨_, rfl, rfl, ?_⟩
    show F = if a = 0 then F else F
    rw [ite_self]
  | succ m ih =>
    intro p hp fu hfu a F ha so ma he tz tn
    obtain ⟨fv, rfl⟩ : ∃ fv, fu = fv + 1 := ⟨fu - 1, by omega⟩
    have hcl := cQ_le (law := law) (H := H) (d := d) (B := B) (now := now) (Sn := Sn) X hS p
    have hcf := CF_Q (law := law) (H := H) (d := d) (B := B) (now := now) (Sn := Sn) X p
    unfold g_X6_search_L69
    rw [if_neg (by rw [nle (by omega) (by omega)]; omega)]
    obtain ⟨so1, ma1, he1, tz1, tn1, h1⟩ := sc_c (bp := bp) (bs := bs) (bm := bm) hN hh hB hs hX hQ (show p < P by omega) (g_X6_search_b172 N (nI P) (nI Sn) (nI H) (nI law) mi bp bs bm (nI B.length) (nI now) rso rsz sz place (g_X6_search_L69 N (nI P) (nI Sn) (nI H) (nI law) mi bp bs bm (nI B.length) (nI now) rso rsz sz place fv)) Sn 0 (by omega) N (by omega) a F (by omega) so ma he tz tn
    have h1' : g_X6_search_L82 N (nI P) (nI Sn) (nI H) (nI law) mi bp bs bm (nI B.length) (nI now) rso rsz sz place (g_X6_search_b172 N (nI P) (nI Sn) (nI H) (nI law) mi bp bs bm (nI B.length) (nI now) rso rsz sz place (g_X6_search_L69 N (nI P) (nI Sn) (nI H) (nI law) mi bp bs bm (nI B.length) (nI now) rso rsz sz place fv)) N qs qd qh qz so ma tz he tn (nI a) F (nI (now - 99)) (nI p) 0 = _ := h1
    rw [h1']
    unfold g_X6_search_b172
    rw [nI_1]
    obtain ⟨v, v1, v2, v3⟩ := ih (p + 1) (by omega) fv (by omega) (a + cQ law H d B now X Sn p) (if a = 0 then fQ law H d B now X Sn p F else F) (by omega) so1 ma1 he1 tz1 tn1
    refine ⟨v, v1, ?_, ?_⟩
    · rw [v2, cU_s, ← Nat.add_assoc]
    · rw [v3, hcf.comp (fun e => fU (fQ law H d B now X Sn) e (p + 1) m) a F, fU_s]
theorem pX6_search (hN : 5000 < N) (hh : HOk P Sn H law mi book d) (hB : BOk P B now) (hs : SR s B now) {X : List (Nat × List Nat)} {rso : Nat → Nat → Int32} {rsz place tells : Nat → Int32} {sz tm : Int32} (hX : ScR P rso rsz sz place tells tm X) (hBR : BR bp bs bm B) (qs qd qh : Nat → Nat → Int32) (qz : Nat → Int32) (so ma he : Nat → Int32) (tz tn f0 f1 : Int32) :
    ∃ v, g_X6_search N (nI P) (nI Sn) (nI H) (nI law) mi bp bs bm (nI B.length) (nI now) rso rsz sz place qs qd qh qz so ma tz he tn f0 f1 = some v ∧ v.2.2.2.2.2.2.2.2.2.1 = nI (cU (cQ law H d B now X Sn) 0 P) ∧ v.2.2.2.2.2.2.2.2.2.2 = fU (fQ law H d B now X Sn) (-4) 0 P := by
  have hh' := hh
  obtain ⟨⟨hP1, hP⟩, ⟨hS1, hS⟩, ⟨hH1, hH⟩, hlaw, hdr, hdb, hd0, k0, k1, k2, k3⟩ := hh'
  have h24 := hB.1
  have hnow := hB.2.2.2
  have hX' := hX
  obtain ⟨x1, rfl, rfl, x4⟩ := hX'
  unfold g_X6_search
  suffices h : ∀ (m i : Nat), i + m = X.length → ∀ fu, m < fu → ∀ (qs qd qh : Nat → Nat → Int32) (qz : Nat → Int32), (∀ (k : Nat) (x : Nat × List Nat), k < i → X[k]? = some x → QR (qs k) (qd k) (qh k) (queueS d x.1 B) ∧ qz k = nI B.length) → ∃ v, g_X6_search_L2 N (nI P) (nI Sn) (nI H) (nI law) mi bp bs bm (nI B.length) (nI now) rso rsz (nI X.length) place (g_X6_search_b39 N (nI P) (nI Sn) (nI H) (nI law) mi bp bs bm (nI B.length) (nI now) rso rsz (nI X.length) place) fu qs qd qh qz so ma tz he tn f0 f1 (nI i) = some v ∧ v.2.2.2.2.2.2.2.2.2.1 = nI (cU (cQ law H d B now X Sn) 0 P) ∧ v.2.2.2.2.2.2.2.2.2.2 = fU (fQ law H d B now X Sn) (-4) 0 P by
    exact h X.length 0 (by omega) N (by omega) qs qd qh qz (fun k x hk => by omega)
  intro m
  induction m with
  | zero =>
    intro i hi fu hfu qs qd qh qz hA
    obtain ⟨fv, rfl⟩ : ∃ fv, fu = fv + 1 := ⟨fu - 1, by omega⟩
    have hQ : QsR d B X qs qd qh qz := fun k x hk => hA k x (by have := (List.getElem?_eq_some_iff.mp hk).1; omega) hk
    unfold g_X6_search_L2 g_X6_search_b39
    rw [if_pos ((nle (by omega) (by omega)).mpr (by omega))]
    have hlo : (if (0 : Int32) < nI now - 100 + 1 then nI now - 100 + 1 else 0) = nI (now - 99) := by
      have e1 : nI now - 100 + 1 = nI now - nI 99 := by
        rw [Int32.sub_eq_add_neg, Int32.add_assoc, Int32.sub_eq_add_neg]; rfl
      rw [e1]
      by_cases z : 99 ≤ now
      · rw [nsub z]
        by_cases y : now = 99
        · rw [y]; rfl
        · rw [if_pos (by rw [l0, nlt (by omega) (by omega)]; omega)]
      · have h1 : nI now - nI 99 < 0 := pk_sneg (by omega) (by omega)
        rw [if_neg (fun y => Int32.lt_irrefl (Int32.lt_trans h1 y)), show now - 99 = 0 by omega]
        rfl
    rw [hlo]
    have h9 := sc_p (bp := bp) (bs := bs) (bm := bm) hN hh hB hs hX hQ P 0 (by omega) N (by omega) 0 (-4) (by omega) so ma he tz tn
    obtain ⟨v, v1, v2, v3⟩ := h9
    rw [Nat.zero_add] at v2
    rw [if_pos rfl] at v3
    exact ⟨v, v1, v2, v3⟩
  | succ m ih =>
    intro i hi fu hfu qs qd qh qz hA
    obtain ⟨fv, rfl⟩ : ∃ fv, fu = fv + 1 := ⟨fu - 1, by omega⟩
    obtain ⟨x, hx⟩ : ∃ x, X[i]? = some x := ⟨_, List.getElem?_eq_getElem (by omega)⟩
    obtain ⟨y1, y2, y3, y4, y5, y6, y7⟩ := x4 i x hx
    obtain ⟨qs', qd', qh', q1, q2⟩ := pX3_fillFrom N 24 P hdr hP hBR (fun e he => ⟨(hB.2.1 e he).1, by have := (hB.2.1 e he).2.2; omega⟩) (by omega) (by omega) h24 (by omega) y1 (qs i) (qd i) (qh i) (qz i)
    unfold g_X6_search_L2
    rw [if_neg (by rw [nle (by omega) (by omega)]; omega), gi_nI (by omega) (by omega), gi_nI (by omega) (by omega), nc (by omega), y2, q1]
    simp only [Option.bind_some]
    rw [nI_1]
    refine ih (i + 1) (by omega) fv (by omega) _ _ _ _ (fun k z hk hz => ?_)
    unfold va_up
    by_cases e : k = i
    · subst e
      rw [hx] at hz
      cases hz
      simp only [if_true]
      exact ⟨q2, trivial⟩
    · simp only [e, if_false]
      exact hA k z (by omega) hz
/-- the reference, from the latest minute down -/
theorem sr_t (hN : 5000 < N) (hh : HOk P Sn H law mi book d) (hB : BOk P B now) (hs : SR s B now) {X : List (Nat × List Nat)} {rso : Nat → Nat → Int32} {rsz place tells : Nat → Int32} {sz tm : Int32} (hX : ScR P rso rsz sz place tells tm X) {p c : Nat} (hp : p < P) (hc : c < Sn) (x1 : Int32) (a : Nat) (e : Int32) (kk : AI → AI → AI → AI → AI → AI → AI → Int32 → Int32 → Int32 → Int32 → Int32 → Int32 → Int32 → RefO) :
    ∀ (w u : Nat), now - 99 + w = u → u ≤ now + 1 → ∀ fu, w < fu → ∀ (pl so mi2 wh ih gb st : Nat → Int32) (many stz : Int32), ∃ (pl' so' mi2' wh' ih' gb' st' : Nat → Int32) (many' stz' : Int32), g_X12_secret_L54 N book s tells tm kk fu pl so mi2 wh ih gb st many stz x1 (nI (a + cU (cT law H d B now X p c) u (now + 1 - u))) (fU (fT law H d B now X p c) e u (now + 1 - u)) (nI p) (nI c) (nI u - 1) = kk pl' so' mi2' wh' ih' gb' st' many' stz' x1 (nI (a + cC law H d B now X p c)) (fC law H d B now X p c e) (nI p) (nI c) := by
  have hh' := hh
  obtain ⟨⟨hP1, hP⟩, ⟨hS1, hS⟩, ⟨hH1, hH⟩, hlaw, hdr, hdb, hd0, k0, k1, k2, k3⟩ := hh'
  have h24 := hB.1
  have hnow := hB.2.2.2
  have g1 : ∀ {α : Type} (z : Option α), gi 1 74 z = z := fun z => by rw [l1, gi_nI (by omega) (by omega)]
  intro w
  induction w with
  | zero =>
    intro u hu hu2 fu hfu pl so mi2 wh ih gb st many stz
    obtain ⟨fv, rfl⟩ : ∃ fv, fu = fv + 1 := ⟨fu - 1, by omega⟩
    refine ⟨pl, so, mi2, wh, ih, gb, st, many, stz, ?_⟩
    rw [Nat.add_zero] at hu
    unfold g_X12_secret_L54
    by_cases z : now - 99 = 0
    · rw [← hu, z, if_pos (by decide)]
      unfold cC fC
      rw [z]
    · rw [← hu, l1, nsub (by omega), if_neg (nI_pos (by omega)), ← l1, g1, show (1 : Int32).toNatClampNeg = 1 from rfl, hs.2.1, l100, nsub (by omega), if_pos ((nle (by omega) (by omega)).mpr (by omega))]
      rfl
  | succ w ihw =>
    intro u hu hu2 fu hfu pl so mi2 wh ih gb st many stz
    obtain ⟨fv, rfl⟩ : ∃ fv, fu = fv + 1 := ⟨fu - 1, by omega⟩
    obtain ⟨t, rfl⟩ : ∃ t, u = t + 1 := ⟨u - 1, by omega⟩
    have hsx : ¬ nI t ≤ nI now - nI 100 := by
      by_cases z : 100 ≤ now
      · rw [nsub z, nle (by omega) (by omega)]; omega
      · have h1 : nI now - nI 100 < 0 := pk_sneg (by omega) (by omega)
        exact fun y => nI_pos (show t < 2147483648 by omega) (Int32.lt_of_le_of_lt y h1)
    obtain ⟨pl1, so1, mi1, h1, h2⟩ := pX12_starts (N := N) hs h24 (by omega) pl so mi2 many
    have h3 := pX12_tries N pl1 so1 mi1 (n := B.length) (by omega) (nI p) (nI c) (nI t)
    have hT := h2.push (p, c, t)
    have hT' : TR (upd pl1 B.length (nI p)) (upd so1 B.length (nI c)) (upd mi1 B.length (nI t)) (B ++ [(p, c, t)]) := hT
    obtain ⟨v, v1, v2⟩ := pX12_isSo (N := N) (e := (p, c, t)) (by omega) hh hB hs hX hp (show c < 8 by omega) (show t ≤ now by omega) hT' wh ih gb st stz
    have hbl : (B ++ [(p, c, t)]).length = B.length + 1 := by simp
    rw [hbl] at v1
    have v2' : v.1 = bI (qT law H d B now X p c t) := v2
    obtain ⟨pl', so', mi2', wh', ih', gb', st', many', stz', h9⟩ := ihw t (by omega) (by omega) fv (by omega) (upd pl1 B.length (nI p)) (upd so1 B.length (nI c)) (upd mi1 B.length (nI t)) v.2.1 v.2.2.1 v.2.2.2.1 v.2.2.2.2.1 (nI (B.length + 1)) v.2.2.2.2.2
    refine ⟨pl', so', mi2', wh', ih', gb', st', many', stz', ?_⟩
    rw [← h9]
    have hcs : cT law H d B now X p c t = if qT law H d B now X p c t then 1 else 0 := rfl
    have hfs : ∀ e, fT law H d B now X p c t e = if qT law H d B now X p c t then nI (100000 * p + 10000 * c + t) else e := fun e => rfl
    rw [show now + 1 - t = (now + 1 - (t + 1)) + 1 by omega, cU_s, fU_s, hcs, hfs]
    conv => lhs; unfold g_X12_secret_L54
    rw [nI_pred, if_neg (nI_pos (by omega)), g1, show (1 : Int32).toNatClampNeg = 1 from rfl, hs.2.1, l100, if_neg hsx, h1]
    simp only [Option.bind_some]
    rw [h3]
    simp only [Option.bind_some]
    rw [v1]
    simp only [Option.bind_some]
    rw [v2']
    unfold g_X12_secret_b104 g_X12_secret_b130
    rw [vT, show nI t + (-1) = nI t - 1 from by rw [Int32.sub_eq_add_neg], nI_1, l0, nI_add]
    cases qT law H d B now X p c t with
    | true =>
      rw [if_neg (show ¬ bI true = nI 0 by decide), if_neg (show ¬ bI true = nI 0 by decide), if_pos rfl, if_pos rfl]
      rw [show a + (1 + cU (cT law H d B now X p c) (t + 1) (now + 1 - (t + 1))) = a + cU (cT law H d B now X p c) (t + 1) (now + 1 - (t + 1)) + 1 by omega]
    | false =>
      rw [if_pos (show bI false = nI 0 from rfl), if_pos (show bI false = nI 0 from rfl), if_neg (show ¬ false = true by decide), if_neg (show ¬ false = true by decide), Nat.zero_add]
      rfl
/-- the reference, from the last sort down -/
theorem sr_c (hN : 5000 < N) (hh : HOk P Sn H law mi book d) (hB : BOk P B now) (hs : SR s B now) {X : List (Nat × List Nat)} {rso : Nat → Nat → Int32} {rsz place tells : Nat → Int32} {sz tm : Int32} (hX : ScR P rso rsz sz place tells tm X) {p : Nat} (hp : p < P) (x1 : Int32) (a : Nat) (e : Int32) (kk : AI → AI → AI → AI → AI → AI → AI → Int32 → Int32 → Int32 → Int32 → Int32 → Int32 → RefO) :
    ∀ (u : Nat), u ≤ Sn → ∀ fu, u < fu → ∀ (pl so mi2 wh ih gb st : Nat → Int32) (many stz : Int32), ∃ (pl' so' mi2' wh' ih' gb' st' : Nat → Int32) (many' stz' : Int32), g_X12_secret_L41 N book s tells tm kk fu pl so mi2 wh ih gb st many stz x1 (nI (a + cU (cC law H d B now X p) u (Sn - u))) (fU (fC law H d B now X p) e u (Sn - u)) (nI p) (nI u - 1) = kk pl' so' mi2' wh' ih' gb' st' many' stz' x1 (nI (a + cQ law H d B now X Sn p)) (fQ law H d B now X Sn p e) (nI p) := by
  have hh' := hh
  obtain ⟨⟨hP1, hP⟩, ⟨hS1, hS⟩, ⟨hH1, hH⟩, hlaw, hdr, hdb, hd0, k0, k1, k2, k3⟩ := hh'
  have h24 := hB.1
  have hnow := hB.2.2.2
  have g1 : ∀ {α : Type} (z : Option α), gi 1 74 z = z := fun z => by rw [l1, gi_nI (by omega) (by omega)]
  intro u
  induction u with
  | zero =>
    intro hu fu hfu pl so mi2 wh ih gb st many stz
    obtain ⟨fv, rfl⟩ : ∃ fv, fu = fv + 1 := ⟨fu - 1, by omega⟩
    refine ⟨pl, so, mi2, wh, ih, gb, st, many, stz, ?_⟩
    unfold g_X12_secret_L41
    rw [if_pos (by decide)]
    rfl
  | succ c ihu =>
    intro hu fu hfu pl so mi2 wh ih gb st many stz
    obtain ⟨fv, rfl⟩ : ∃ fv, fu = fv + 1 := ⟨fu - 1, by omega⟩
    have e9 : cU (cC law H d B now X p) c (Sn - c) = cC law H d B now X p c + cU (cC law H d B now X p) (c + 1) (Sn - (c + 1)) := by rw [show Sn - c = (Sn - (c + 1)) + 1 by omega, cU_s]
    have f9 : fU (fC law H d B now X p) e c (Sn - c) = fC law H d B now X p c (fU (fC law H d B now X p) e (c + 1) (Sn - (c + 1))) := by rw [show Sn - c = (Sn - (c + 1)) + 1 by omega, fU_s]
    obtain ⟨pl1, so1, mi1, wh1, ih1, gb1, st1, many1, stz1, h1⟩ := sr_t hN hh hB hs hX hp (show c < Sn by omega) x1 (a + cU (cC law H d B now X p) (c + 1) (Sn - (c + 1))) (fU (fC law H d B now X p) e (c + 1) (Sn - (c + 1))) (g_X12_secret_b137 N book s tells tm (g_X12_secret_L41 N book s tells tm kk fv)) (now + 1 - (now - 99)) (now + 1) (by omega) (Nat.le_refl _) N (by omega) pl so mi2 wh ih gb st many stz
    rw [Nat.sub_self, nI_pred] at h1
    have h1' : g_X12_secret_L54 N book s tells tm (g_X12_secret_b137 N book s tells tm (g_X12_secret_L41 N book s tells tm kk fv)) N pl so mi2 wh ih gb st many stz x1 (nI (a + cU (cC law H d B now X p) (c + 1) (Sn - (c + 1)))) (fU (fC law H d B now X p) e (c + 1) (Sn - (c + 1))) (nI p) (nI c) (nI now) = _ := h1
    obtain ⟨pl', so', mi2', wh', ih', gb', st', many', stz', h9⟩ := ihu (by omega) fv (by omega) pl1 so1 mi1 wh1 ih1 gb1 st1 many1 stz1
    refine ⟨pl', so', mi2', wh', ih', gb', st', many', stz', ?_⟩
    unfold g_X12_secret_L41
    rw [nI_pred, if_neg (nI_pos (by omega)), g1, show (1 : Int32).toNatClampNeg = 1 from rfl, hs.2.1, h1']
    unfold g_X12_secret_b137
    rw [show nI c + (-1) = nI c - 1 from by rw [Int32.sub_eq_add_neg]]
    rw [e9, f9] at h9
    rw [← h9, show a + cU (cC law H d B now X p) (c + 1) (Sn - (c + 1)) + cC law H d B now X p c = a + (cC law H d B now X p c + cU (cC law H d B now X p) (c + 1) (Sn - (c + 1))) by omega]
/-- the reference, from the last place down -/
theorem sr_p (hN : 5000 < N) (hh : HOk P Sn H law mi book d) (hB : BOk P B now) (hs : SR s B now) {X : List (Nat × List Nat)} {rso : Nat → Nat → Int32} {rsz place tells : Nat → Int32} {sz tm : Int32} (hX : ScR P rso rsz sz place tells tm X) (x1 : Int32) (kk : AI → AI → AI → AI → AI → AI → AI → Int32 → Int32 → Int32 → Int32 → Int32 → RefO) :
    ∀ (u : Nat), u ≤ P → ∀ fu, u < fu → ∀ (pl so mi2 wh ih gb st : Nat → Int32) (many stz : Int32), ∃ (pl' so' mi2' wh' ih' gb' st' : Nat → Int32) (many' stz' : Int32), g_X12_secret_L26 N book s tells tm kk fu pl so mi2 wh ih gb st many stz x1 (nI (cU (cQ law H d B now X Sn) u (P - u))) (fU (fQ law H d B now X Sn) (-4) u (P - u)) (nI u - 1) = kk pl' so' mi2' wh' ih' gb' st' many' stz' x1 (nI (cU (cQ law H d B now X Sn) 0 P)) (fU (fQ law H d B now X Sn) (-4) 0 P) := by
  have hh' := hh
  obtain ⟨⟨hP1, hP⟩, ⟨hS1, hS⟩, ⟨hH1, hH⟩, hlaw, hdr, hdb, hd0, k0, k1, k2, k3⟩ := hh'
  have h24 := hB.1
  have hnow := hB.2.2.2
  have g3 : ∀ {α : Type} (z : Option α), gi 3 78 z = z := fun z => by rw [l3, gi_nI (by omega) (by omega)]
  intro u
  induction u with
  | zero =>
    intro hu fu hfu pl so mi2 wh ih gb st many stz
    obtain ⟨fv, rfl⟩ : ∃ fv, fu = fv + 1 := ⟨fu - 1, by omega⟩
    refine ⟨pl, so, mi2, wh, ih, gb, st, many, stz, ?_⟩
    unfold g_X12_secret_L26
    rw [if_pos (by decide)]
    rfl
  | succ p ihu =>
    intro hu fu hfu pl so mi2 wh ih gb st many stz
    obtain ⟨fv, rfl⟩ : ∃ fv, fu = fv + 1 := ⟨fu - 1, by omega⟩
    have e9 : cU (cQ law H d B now X Sn) p (P - p) = cQ law H d B now X Sn p + cU (cQ law H d B now X Sn) (p + 1) (P - (p + 1)) := by rw [show P - p = (P - (p + 1)) + 1 by omega, cU_s]
    have f9 : fU (fQ law H d B now X Sn) (-4) p (P - p) = fQ law H d B now X Sn p (fU (fQ law H d B now X Sn) (-4) (p + 1) (P - (p + 1))) := by rw [show P - p = (P - (p + 1)) + 1 by omega, fU_s]
    obtain ⟨pl1, so1, mi1, wh1, ih1, gb1, st1, many1, stz1, h1⟩ := sr_c hN hh hB hs hX (show p < P by omega) x1 (cU (cQ law H d B now X Sn) (p + 1) (P - (p + 1))) (fU (fQ law H d B now X Sn) (-4) (p + 1) (P - (p + 1))) (g_X12_secret_b143 N book s tells tm (g_X12_secret_L26 N book s tells tm kk fv)) Sn (Nat.le_refl _) N (by omega) pl so mi2 wh ih gb st many stz
    rw [Nat.sub_self] at h1
    have h1' : g_X12_secret_L41 N book s tells tm (g_X12_secret_b143 N book s tells tm (g_X12_secret_L26 N book s tells tm kk fv)) N pl so mi2 wh ih gb st many stz x1 (nI (cU (cQ law H d B now X Sn) (p + 1) (P - (p + 1)))) (fU (fQ law H d B now X Sn) (-4) (p + 1) (P - (p + 1))) (nI p) (nI Sn - 1) = _ := h1
    obtain ⟨pl', so', mi2', wh', ih', gb', st', many', stz', h9⟩ := ihu (by omega) fv (by omega) pl1 so1 mi1 wh1 ih1 gb1 st1 many1 stz1
    refine ⟨pl', so', mi2', wh', ih', gb', st', many', stz', ?_⟩
    unfold g_X12_secret_L26
    rw [nI_pred, if_neg (nI_pos (by omega)), g3, show (3 : Int32).toNatClampNeg = 3 from rfl, k3, h1']
    unfold g_X12_secret_b143
    rw [show nI p + (-1) = nI p - 1 from by rw [Int32.sub_eq_add_neg]]
    rw [e9, f9] at h9
    rw [← h9, Nat.add_comm]
theorem t_secret (hN : 5000 < N) (hh : HOk P Sn H law mi book d) (hB : BOk P B now) (hs : SR s B now) {X : List (Nat × List Nat)} {rso : Nat → Nat → Int32} {rsz place tells : Nat → Int32} {sz tm : Int32} (hX : ScR P rso rsz sz place tells tm X) (hBR : BR bp bs bm B) (qs qd qh : Nat → Nat → Int32) (qz : Nat → Int32) (so ma he : Nat → Int32) (tz tn f0 f1 : Int32) (pl so2 mi2 wh ih gb st : Nat → Int32) (many stz : Int32) (x1 : Int32) :
    ∃ v w, g_X11_secret N (nI P) (nI Sn) (nI H) (nI law) mi bp bs bm (nI B.length) (nI now) rso rsz sz place qs qd qh qz so ma tz he tn f0 f1 x1 = some v ∧ g_X12_secret N book s tells tm pl so2 mi2 wh ih gb st many stz x1 = some w ∧ v.1 = w.1 := by
  have hh' := hh
  obtain ⟨⟨hP1, hP⟩, ⟨hS1, hS⟩, ⟨hH1, hH⟩, hlaw, hdr, hdb, hd0, k0, k1, k2, k3⟩ := hh'
  have h24 := hB.1
  have hnow := hB.2.2.2
  have in1 := pX12_in0z N 2 (by omega) x1
  rw [show nI 2 - 1 = 1 from by decide] at in1
  have g0 : ∀ {α : Type} (z : Option α), gi 0 78 z = z := fun z => by rw [l0, gi_nI (by omega) (by omega)]
  obtain ⟨v, v1, v2, v3⟩ := pX6_search (bp := bp) (bs := bs) (bm := bm) hN hh hB hs hX hBR qs qd qh qz so ma he tz tn f0 f1
  obtain ⟨pl', so', mi2', wh', ih', gb', st', many', stz', h9⟩ := sr_p hN hh hB hs hX x1 (g_X12_secret_b149 N book s tells tm) P (Nat.le_refl _) N (by omega) pl so2 mi2 wh ih gb st many stz
  rw [Nat.sub_self] at h9
  have h9' : g_X12_secret_L26 N book s tells tm (g_X12_secret_b149 N book s tells tm) N pl so2 mi2 wh ih gb st many stz x1 0 (-4) (nI P - 1) = _ := h9
  unfold g_X11_secret g_X12_secret g_X11_secret_b11
  rw [in1, v1, g0, show (0 : Int32).toNatClampNeg = 0 from rfl, k0, h9']
  unfold g_X12_secret_b149
  simp only [Option.bind_some]
  rw [v2, v3]
  by_cases c0 : x1 = 0
  · subst c0
    rw [if_pos rfl, if_pos rfl, if_neg (by decide)]
    exact ⟨_, _, rfl, rfl, rfl⟩
  · rw [if_neg c0, if_neg c0, if_neg c0]
    by_cases c1 : x1 = 1
    · subst c1
      rw [if_pos rfl, if_neg (by decide)]
      exact ⟨_, _, rfl, rfl, rfl⟩
    · rw [if_neg c1]
      have hx : ixB x1 2 = false := by
        cases z : ixB x1 2 with
        | false => rfl
        | true =>
          obtain ⟨j, hj, rfl⟩ := (ixB_iff (by omega)).mp z
          have hj2 : j = 0 ∨ j = 1 := by omega
          rcases hj2 with rfl | rfl
          · exact absurd rfl c0
          · exact absurd rfl c1
      rw [hx, if_neg (show ¬ false = true by decide), if_pos rfl]
      exact ⟨_, _, rfl, rfl, rfl⟩
end SECRET
