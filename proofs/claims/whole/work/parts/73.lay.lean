/-! ===== fault and lay ===== -/
section READS
variable {N : Nat} {bt tx : Nat → Int32} {T : List Nat}
theorem reads_loop (hN : 20 < N) (hT : TxR bt tx T) : ∀ (m a i : Nat), T.length ≤ a + m → a ≤ T.length → i ≤ a → ∀ fu1 fu2, m < fu1 → m < fu2 → ∀ (P Sn H law : Nat) (xt : Bool) (mi draft : Nat → Int32) (d : Nat → Nat → Nat) (wso : Nat → Nat → Int32) (wsz : Nat → Int32) (bz : Int32) (W : List (List Nat)), PS P Sn H law xt mi draft d wso wsz bz W → ∀ (ds number told : AI) (dz : Int32),
    ∃ v w, g_X4_firstFault_L14 N bt (nI T.length) fu1 wso wsz bz (nI P) (nI Sn) (nI H) (nI law) (bI xt) mi ds dz number (nI a) (nI i) = some v ∧ g_X12_reads_L72 N tx (nI T.length) fu2 draft (nI a) told = some w ∧ v.1 = w.1 ∧ (v.1 = -4 → ∃ (P Sn H law : Nat) (xt : Bool) (d : Nat → Nat → Nat) (W : List (List Nat)), v.2.2.2.2.1 = nI P ∧ v.2.2.2.2.2.1 = nI Sn ∧ v.2.2.2.2.2.2.1 = nI H ∧ v.2.2.2.2.2.2.2.1 = nI law ∧ PS P Sn H law xt (v.2.2.2.2.2.2.2.2.2.1) w.2.1 d v.2.1 v.2.2.1 v.2.2.2.1 W) := by
  have hl := hT.1
  intro m
  induction m with
  | zero =>
    intro a i hm ha hi fu1 fu2 hf1 hf2 P Sn H law xt mi draft d wso wsz bz W hS ds number told dz
    obtain ⟨f1, rfl⟩ : ∃ fv, fu1 = fv + 1 := ⟨fu1 - 1, by omega⟩
    obtain ⟨f2, rfl⟩ : ∃ fv, fu2 = fv + 1 := ⟨fu2 - 1, by omega⟩
    unfold g_X4_firstFault_L14 g_X12_reads_L72
    rw [if_pos (show nI T.length ≤ nI a from (nle (by omega) (by omega)).mpr (by omega)), if_pos (show nI T.length ≤ nI a from (nle (by omega) (by omega)).mpr (by omega)), ite_self]
    exact ⟨_, _, rfl, rfl, rfl, fun _ => ⟨P, Sn, H, law, xt, d, W, rfl, rfl, rfl, rfl, hS⟩⟩
  | succ m ih =>
    intro a i hm ha hi fu1 fu2 hf1 hf2 P Sn H law xt mi draft d wso wsz bz W hS ds number told dz
    obtain ⟨f1, rfl⟩ : ∃ fv, fu1 = fv + 1 := ⟨fu1 - 1, by omega⟩
    obtain ⟨f2, rfl⟩ : ∃ fv, fu2 = fv + 1 := ⟨fu2 - 1, by omega⟩
    unfold g_X4_firstFault_L14 g_X12_reads_L72
    by_cases c : T.length ≤ a
    · rw [if_pos (show nI T.length ≤ nI a from (nle (by omega) (by omega)).mpr c), if_pos (show nI T.length ≤ nI a from (nle (by omega) (by omega)).mpr c), ite_self]
      exact ⟨_, _, rfl, rfl, rfl, fun _ => ⟨P, Sn, H, law, xt, d, W, rfl, rfl, rfl, rfl, hS⟩⟩
    · rw [if_neg (show ¬ (300 : Int32) ≤ nI i from fun z => absurd ((nle (a := 300) (by omega) (by omega)).mp z) (by omega)), if_neg (by rw [nle (by omega) (by omega)]; exact c), if_neg (by rw [nle (by omega) (by omega)]; exact c)]
      obtain ⟨v, w, v1, w1, hR⟩ := item_both (N := N) hN hT (show a < T.length by omega) hS ds number told dz
      rw [v1, w1]
      simp only [Option.bind_some]
      rcases hR with ⟨r1, r2⟩ | ⟨r1, r2, P', Sn', H', law', xt', d', W', e, e1, e2, e3, e4, e5, e6, e7, e8, e9, e10⟩
      · rw [if_pos r1, if_pos r2]
        refine ⟨_, _, rfl, rfl, rfl, fun z => ?_⟩
        have z' : nI a = -4 := z
        exact absurd (show nI a < 0 by rw [z']; decide) (nI_pos (by omega))
      · rw [if_neg (by rw [r1]; decide), if_neg (by rw [r2]; decide), e3, e4, e5, e6, e7, e8, e9, nI_1]
        exact ih e (i + 1) (by omega) e2 (by omega) f1 f2 (by omega) (by omega) P' Sn' H' law' xt' _ _ d' _ _ _ W' e10 _ _ _ _
/-- the delays of a new text -/
abbrev d3 : Nat → Nat → Nat := fun a b => if a = b then 0 else 3
theorem cl_in (kk : Int32 → Int32 → Int32 → Int32 → Int32 → Int32 → AI → Int32 → Option (Int32 × Int32 × Int32 × Int32 × Int32 × Int32 × AI)) (x1 x2 x3 x4 x5 x6 : Int32) {a : Nat} (ha : a < 5) : ∀ (t b : Nat), b + t = 5 → ∀ fu, t < fu → ∀ mi : AI, ∃ mi' : AI, g_X2_clear_L44 N kk fu x1 x2 x3 x4 x5 x6 mi (nI a) (nI b) = kk x1 x2 x3 x4 x5 x6 mi' (nI a) ∧ (∀ c, b ≤ c → c < 5 → mi' (a * 5 + c) = nI (d3 a c)) ∧ ∀ j, j < a * 5 + b ∨ a * 5 + 5 ≤ j → mi' j = mi j := by
  intro t
  induction t with
  | zero =>
    intro b hb fu hfu mi
    obtain ⟨fv, rfl⟩ : ∃ fv, fu = fv + 1 := ⟨fu - 1, by omega⟩
    unfold g_X2_clear_L44
    rw [if_pos (by rw [l5, nle (by omega) (by omega)]; omega)]
    exact ⟨mi, rfl, fun c h1 h2 => by omega, fun j _ => rfl⟩
  | succ t ih =>
    intro b hb fu hfu mi
    obtain ⟨fv, rfl⟩ : ∃ fv, fu = fv + 1 := ⟨fu - 1, by omega⟩
    have e1 : nI a * 5 + nI b = nI (a * 5 + b) := by rw [l5, pk_mul, nI_add]
    obtain ⟨mi', q1, q2, q3⟩ := ih (b + 1) (by omega) fv (by omega) (upd mi (a * 5 + b) (nI (d3 a b)))
    refine ⟨mi', ?_, fun c h1 h2 => ?_, fun j hj => ?_⟩
    · unfold g_X2_clear_L44
      rw [if_neg (by rw [l5, nle (by omega) (by omega)]; omega), e1]
      unfold g_X2_clear_b68
      rw [gi_nI (by omega) (by omega), gi_nI (by omega) (by omega), nc (by omega), nI_1]
      by_cases z : a = b
      · rw [if_pos (by rw [z])]
        have : nI (d3 a b) = 0 := by unfold d3; rw [if_pos z]; rfl
        rw [this] at q1
        exact q1
      · rw [if_neg (fun y => z ((neq (by omega) (by omega)).mp y))]
        have : nI (d3 a b) = 3 := by unfold d3; rw [if_neg z]; rfl
        rw [this] at q1
        exact q1
    · by_cases z : c = b
      · subst z
        rw [q3 _ (by omega), pk_us]
      · exact q2 c (by omega) h2
    · rw [q3 j (by omega), pk_un (by omega)]
theorem cl_out (hN : 20 < N) (x1 x2 x3 x4 x5 x6 : Int32) : ∀ (t a : Nat), a + t = 5 → ∀ fu, t < fu → ∀ mi : AI, (∀ i j, i < a → j < 5 → mi (i * 5 + j) = nI (d3 i j)) → ∃ mi' : AI, g_X2_clear_L37 N fu x1 x2 x3 x4 x5 x6 mi (nI a) = some (x1, x2, x3, x4, x5, x6, mi') ∧ ∀ i j, i < 5 → j < 5 → mi' (i * 5 + j) = nI (d3 i j) := by
  intro t
  induction t with
  | zero =>
    intro a ha fu hfu mi hm
    obtain ⟨fv, rfl⟩ : ∃ fv, fu = fv + 1 := ⟨fu - 1, by omega⟩
    unfold g_X2_clear_L37
    rw [if_pos (by rw [l5, nle (by omega) (by omega)]; omega)]
    exact ⟨mi, rfl, fun i j hi hj => hm i j (by omega) hj⟩
  | succ t ih =>
    intro a ha fu hfu mi hm
    obtain ⟨fv, rfl⟩ : ∃ fv, fu = fv + 1 := ⟨fu - 1, by omega⟩
    obtain ⟨m1, q1, q2, q3⟩ := cl_in (N := N) (g_X2_clear_b75 N (g_X2_clear_L37 N fv)) x1 x2 x3 x4 x5 x6 (show a < 5 by omega) 5 0 (by omega) N (by omega) mi
    have q1' : g_X2_clear_L44 N (g_X2_clear_b75 N (g_X2_clear_L37 N fv)) N x1 x2 x3 x4 x5 x6 mi (nI a) 0 = _ := q1
    unfold g_X2_clear_L37
    rw [if_neg (by rw [l5, nle (by omega) (by omega)]; omega), q1']
    unfold g_X2_clear_b75
    rw [nI_1]
    refine ih (a + 1) (by omega) fv (by omega) m1 (fun i j hi hj => ?_)
    by_cases z : i = a
    · subst z; exact q2 j (by omega) hj
    · rw [q3 _ (by omega)]; exact hm i j (by omega) hj
theorem pX2_clear (hN : 20 < N) (x1 x2 x3 x4 x5 x6 : Int32) (mi : AI) : ∃ mi' : AI, g_X2_clear N x1 x2 x3 x4 x5 x6 mi = some (0, 2, 8, 20, 0, 0, mi') ∧ DR 5 mi' d3 := by
  obtain ⟨mi', h1, h2⟩ := cl_out (N := N) hN 0 2 8 20 0 0 5 0 (by omega) N (by omega) mi (fun i j hi => by omega)
  refine ⟨mi', h1, fun a b ha hb => ⟨h2 a b ha hb, ?_⟩⟩
  unfold d3; split <;> omega
/-- the reference's new draft -/
def drI (k : Nat) : Nat := if (5 ≤ k ∧ k ≤ 29) ∧ (k - 5) % 6 ≠ 0 then 3 else 0
theorem rd_init (kk : AI → Int32 → AI → Option (Int32 × AI × Int32 × AI)) (at0 : Int32) (told : AI) : ∀ (t k : Nat), k + t = 78 → ∀ fu, t < fu → ∀ draft : AI, (∀ i, i < k → draft i = nI (drI i)) → ∃ draft' : AI, g_X12_reads_L2 N tx (nI T.length) kk fu draft at0 told (nI k) = kk draft' at0 told ∧ ∀ i, i < 78 → draft' i = nI (drI i) := by
  have z6 : ∀ {α : Type} (z : Option α), gz 6 z = z := fun z => gz_ok (by decide)
  intro t
  induction t with
  | zero =>
    intro k hk fu hfu draft hd
    obtain ⟨fv, rfl⟩ : ∃ fv, fu = fv + 1 := ⟨fu - 1, by omega⟩
    unfold g_X12_reads_L2
    rw [if_pos (by rw [l78, nle (by omega) (by omega)]; omega)]
    exact ⟨draft, rfl, fun i hi => hd i (by omega)⟩
  | succ t ih =>
    intro k hk fu hfu draft hd
    obtain ⟨fv, rfl⟩ : ∃ fv, fu = fv + 1 := ⟨fu - 1, by omega⟩
    obtain ⟨dr, q1, q2⟩ := ih (k + 1) (by omega) fv (by omega) (upd draft k (nI (drI k))) (fun i hi => by
      by_cases z : i = k
      · subst z; rw [pk_us]
      · rw [pk_un z]; exact hd i (by omega))
    refine ⟨dr, ?_, q2⟩
    unfold g_X12_reads_L2
    rw [if_neg (by rw [l78, nle (by omega) (by omega)]; omega)]
    unfold g_X12_in g_X12_reads_b36 g_X12_reads_b37
    rw [gi_nI (by omega) (by omega), gi_nI (by omega) (by omega), nc (by omega), nI_1]
    by_cases c1 : k < 5
    · rw [if_pos (show nI k < 5 from (nlt (b := 5) (by omega) (by omega)).mpr c1)]
      simp only [Option.bind_some, if_true]
      rw [show nI (drI k) = 0 from by unfold drI; rw [if_neg (by omega)]; rfl] at q1
      exact q1
    · rw [if_neg (show ¬ nI k < 5 from fun z => c1 ((nlt (b := 5) (by omega) (by omega)).mp z))]
      by_cases c2 : 29 < k
      · rw [if_pos (show (29 : Int32) < nI k from (nlt (a := 29) (by omega) (by omega)).mpr c2)]
        simp only [Option.bind_some, if_true]
        rw [show nI (drI k) = 0 from by unfold drI; rw [if_neg (by omega)]; rfl] at q1
        exact q1
      · rw [if_neg (show ¬ (29 : Int32) < nI k from fun z => c2 ((nlt (a := 29) (by omega) (by omega)).mp z))]
        simp only [Option.bind_some]
        rw [if_neg (show ¬ (1 : Int32) = 0 by decide), z6, l5, nsub (by omega), l6, pk_rem (by omega) (by omega) (by omega)]
        by_cases c3 : (k - 5) % 6 = 0
        · rw [if_pos (by rw [c3]; rfl)]
          rw [show nI (drI k) = 0 from by unfold drI; rw [if_neg (by omega)]; rfl] at q1
          exact q1
        · rw [if_neg (nI_ne0 (by omega) (by omega))]
          rw [show nI (drI k) = 3 from by unfold drI; rw [if_pos (by omega)]; rfl] at q1
          exact q1
theorem reads_both (hN : 400 < N) (hT : TxR bt tx T) (wso : Nat → Nat → Int32) (wsz : Nat → Int32) (x1 x2 x3 x4 x5 x6 dz at1 at2 : Int32) (mi ds number draft told : AI) :
    ∃ v w, g_X4_firstFault N bt (nI T.length) wso wsz x1 x2 x3 x4 x5 x6 mi ds dz number at1 = some v ∧ g_X12_reads N tx (nI T.length) draft at2 told = some w ∧ v.1 = w.1 ∧ (v.1 = -4 → ∃ (P Sn H law : Nat) (xt : Bool) (d : Nat → Nat → Nat) (W : List (List Nat)), v.2.2.2.2.1 = nI P ∧ v.2.2.2.2.2.1 = nI Sn ∧ v.2.2.2.2.2.2.1 = nI H ∧ v.2.2.2.2.2.2.2.1 = nI law ∧ PS P Sn H law xt (v.2.2.2.2.2.2.2.2.2.1) w.2.1 d v.2.1 v.2.2.1 v.2.2.2.1 W) := by
  have hl := hT.1
  obtain ⟨mi', c1, c2⟩ := pX2_clear (N := N) (by omega) x1 x2 x3 x4 x5 x6 mi
  obtain ⟨dr, r1, r2⟩ := rd_init (N := N) (tx := tx) (T := T) (g_X12_reads_b44 N tx (nI T.length)) at2 told 78 0 (by omega) N (by omega) draft (fun i hi => by omega)
  have r1' : g_X12_reads_L2 N tx (nI T.length) (g_X12_reads_b44 N tx (nI T.length)) N draft at2 told 0 = _ := r1
  have g0 : ∀ {α : Type} (z : Option α), gi 0 78 z = z := fun z => by rw [l0, gi_nI (by omega) (by omega)]
  have g1 : ∀ {α : Type} (z : Option α), gi 1 78 z = z := fun z => by rw [l1, gi_nI (by omega) (by omega)]
  have g3 : ∀ {α : Type} (z : Option α), gi 3 78 z = z := fun z => by rw [l3, gi_nI (by omega) (by omega)]
  unfold g_X4_firstFault g_X12_reads
  rw [c1, r1']
  unfold g_X12_reads_b44
  rw [g0, g1, g3, show (0 : Int32).toNatClampNeg = 0 from rfl, show (1 : Int32).toNatClampNeg = 1 from rfl, show (3 : Int32).toNatClampNeg = 3 from rfl]
  simp only [Option.bind_some]
  have hS : PS 2 8 20 0 false mi' (upd (upd (upd dr 0 2) 1 20) 3 8) d3 wso wsz 0 [] := by
    refine ⟨by omega, by omega, by omega, by omega, c2, fun a b ha hb => ?_, fun a _ => if_pos rfl, ?_, ?_, ?_, ?_, ?_, by simp, rfl, ?_, fun w l hw => by simp at hw, fun w l hw => by simp at hw⟩
    · rw [pk_un (by omega), pk_un (by omega), pk_un (by omega), r2 _ (by omega)]
      unfold drI d3
      by_cases z : a = b
      · rw [if_neg (by omega), if_pos z]; exact ⟨rfl, by omega⟩
      · rw [if_pos (by omega), if_neg z]; exact ⟨rfl, by omega⟩
    · rw [pk_un (by omega), pk_un (by omega), pk_us]; rfl
    · rw [pk_un (by omega), pk_us]; rfl
    · rw [pk_un (by omega), pk_un (by omega), pk_un (by omega), r2 _ (by omega)]; rfl
    · rw [pk_us]; rfl
    · rw [pk_un (by omega), pk_un (by omega), pk_un (by omega), r2 _ (by omega)]; rfl
    · rw [pk_un (by omega), pk_un (by omega), pk_un (by omega), r2 _ (by omega)]; rfl
  have h9 := reads_loop (N := N) (by omega) hT 300 0 0 (by omega) (by omega) (by omega) N N (by omega) (by omega) 2 8 20 0 false mi' (upd (upd (upd dr 0 2) 1 20) 3 8) d3 wso wsz 0 [] hS ds number told dz
  exact h9
theorem t_fault (hN : 400 < N) {sz ln : Int32} (hT : RText bt sz tx ln T) (wso : Nat → Nat → Int32) (wsz : Nat → Int32) (x1 x2 x3 x4 x5 x6 dz at1 at2 : Int32) (mi ds number draft told : AI) :
    ∃ v w, g_X11_fault N bt sz wso wsz x1 x2 x3 x4 x5 x6 mi ds dz number at1 = some v ∧ g_X12_fault N tx ln draft at2 told = some w ∧ v.1 = w.1 := by
  have hx := hT.tx
  obtain ⟨_, rfl, rfl, _⟩ := hT
  obtain ⟨v, w, v1, w1, h1, _⟩ := reads_both (N := N) hN hx wso wsz x1 x2 x3 x4 x5 x6 dz at1 at2 mi ds number draft told
  unfold g_X11_fault g_X12_fault
  rw [v1, w1]
  exact ⟨_, _, rfl, rfl, h1⟩
/-- the class's hills, copied -/
theorem bk_copy (hN : 20 < N) {fso : Nat → Nat → Int32} {fsz : Nat → Int32} {W : List (List Nat)} (hW : WC fso fsz W) (h8 : W.length ≤ 8) : ∀ (t j : Nat), j + t = W.length → ∀ fu, t < fu → ∀ (gso : Nat → Nat → Int32) (gsz : Nat → Int32), (∀ w l, w < j → W[w]? = some l → gsz w = nI l.length ∧ Rp (gso w) l) → ∃ (gso' : Nat → Nat → Int32) (gsz' : Nat → Int32), g_X1_copyFrom_L10 N fso fsz (nI W.length) fu gso gsz (nI W.length) (nI j) = some (gso', gsz', nI W.length) ∧ WC gso' gsz' W := by
  intro t
  induction t with
  | zero =>
    intro j hj fu hfu gso gsz hA
    obtain ⟨fv, rfl⟩ : ∃ fv, fu = fv + 1 := ⟨fu - 1, by omega⟩
    unfold g_X1_copyFrom_L10
    rw [if_pos ((nle (by omega) (by omega)).mpr (by omega))]
    refine ⟨gso, gsz, rfl, fun w l hw => ?_⟩
    obtain ⟨q1, q2, q3, q4⟩ := hW w l hw
    obtain ⟨r1, r2⟩ := hA w l (by have := (List.getElem?_eq_some_iff.mp hw).1; omega) hw
    exact ⟨q1, r1, r2, q4⟩
  | succ t ih =>
    intro j hj fu hfu gso gsz hA
    obtain ⟨fv, rfl⟩ : ∃ fv, fu = fv + 1 := ⟨fu - 1, by omega⟩
    obtain ⟨l, hl⟩ : ∃ x, W[j]? = some x := ⟨_, List.getElem?_eq_getElem (by omega)⟩
    obtain ⟨q1, q2, q3, q4⟩ := hW j l hl
    obtain ⟨f', c1, c2⟩ := pX7_copyFrom (N := N) (n := 4) (m := 4) q3 q1.2 q1.2 (by omega) (by omega) (by omega) (gso j) (gsz j)
    unfold g_X1_copyFrom_L10
    rw [if_neg (by rw [nle (by omega) (by omega)]; omega), gi_nI (by omega) (by omega), gi_nI (by omega) (by omega), nc (by omega), q2, c1]
    simp only [Option.bind_some]
    rw [nI_1]
    refine ih (j + 1) (by omega) fv (by omega) _ _ (fun w m hw hm => ?_)
    unfold va_up
    by_cases z : w = j
    · subst z
      rw [hl] at hm
      cases hm
      simp only [if_true]
      exact ⟨trivial, c2⟩
    · simp only [z, if_false]
      exact hA w m (by omega) hm
theorem mn_copy (fso : Nat → Nat → Int32) (fsz : Nat → Int32) (fz f1 f2 f3 f4 : Int32) (fm : AI) (gso : Nat → Nat → Int32) (gsz : Nat → Int32) (gz0 g1 g2 g3 g4 : Int32) : ∀ (t j : Nat), j + t = 25 → ∀ fu, t < fu → ∀ gm : AI, (∀ i, i < j → gm i = fm i) → ∃ gm' : AI, g_X2_copyFrom_L45 N fso fsz fz f1 f2 f3 f4 fm fu gso gsz gz0 g1 g2 g3 g4 gm (nI j) = some (gso, gsz, gz0, g1, g2, g3, g4, gm') ∧ ∀ i, i < 25 → gm' i = fm i := by
  intro t
  induction t with
  | zero =>
    intro j hj fu hfu gm hA
    obtain ⟨fv, rfl⟩ : ∃ fv, fu = fv + 1 := ⟨fu - 1, by omega⟩
    unfold g_X2_copyFrom_L45
    rw [if_pos ((nle (by omega) (by omega)).mpr (by omega))]
    exact ⟨gm, rfl, fun i hi => hA i (by omega)⟩
  | succ t ih =>
    intro j hj fu hfu gm hA
    obtain ⟨fv, rfl⟩ : ∃ fv, fu = fv + 1 := ⟨fu - 1, by omega⟩
    unfold g_X2_copyFrom_L45
    rw [if_neg (by rw [nle (by omega) (by omega)]; omega), gi_nI (by omega) (by omega), gi_nI (by omega) (by omega), nc (by omega), nI_1]
    refine ih (j + 1) (by omega) fv (by omega) _ (fun i hi => ?_)
    by_cases z : i = j
    · subst z; rw [pk_us]
    · rw [pk_un z]; exact hA i (by omega)
theorem pX2_copyFrom (hN : 50 < N) {fso : Nat → Nat → Int32} {fsz fm : Nat → Int32} {W : List (List Nat)} {d : Nat → Nat → Nat} (hW : WC fso fsz W) (h8 : W.length ≤ 8) (hd : DR 5 fm d) (f1 f2 f3 f4 : Int32) (gso : Nat → Nat → Int32) (gsz : Nat → Int32) (gz0 g1 g2 g3 g4 : Int32) (gm : AI) : ∃ (gso' : Nat → Nat → Int32) (gsz' gm' : Nat → Int32), g_X2_copyFrom N fso fsz (nI W.length) f1 f2 f3 f4 fm gso gsz gz0 g1 g2 g3 g4 gm = some (gso', gsz', nI W.length, f1, f2, f3, f4, gm') ∧ WC gso' gsz' W ∧ DR 5 gm' d := by
  obtain ⟨gso', gsz', q1, q2⟩ := bk_copy (N := N) (by omega) hW h8 W.length 0 (by omega) N (by omega) gso gsz (fun w l hw => by omega)
  have q1' : g_X1_copyFrom_L10 N fso fsz (nI W.length) N gso gsz (nI W.length) 0 = _ := q1
  obtain ⟨gm', r1, r2⟩ := mn_copy (N := N) fso fsz (nI W.length) f1 f2 f3 f4 fm gso' gsz' (nI W.length) f1 f2 f3 f4 25 0 (by omega) N (by omega) gm (fun i hi => by omega)
  have r1' : g_X2_copyFrom_L45 N fso fsz (nI W.length) f1 f2 f3 f4 fm N gso' gsz' (nI W.length) f1 f2 f3 f4 gm 0 = _ := r1
  unfold g_X2_copyFrom g_X1_copyFrom
  rw [q1']
  simp only [Option.bind_some]
  rw [r1']
  refine ⟨gso', gsz', gm', rfl, q2, fun a b ha hb => ?_⟩
  rw [r2 _ (by omega)]
  exact hd a b ha hb
theorem ly_loop (draft : AI) (kk : AI → AI → Int32 → Int32 → Int32 → Int32 → Option (AI × AI × Int32 × Int32 × Int32 × Int32)) (s : AI) (y1 y2 y3 y4 : Int32) : ∀ (t k : Nat), k + t = 78 → ∀ fu, t < fu → ∀ book : AI, (∀ i, i < k → book i = draft i) → ∃ book' : AI, g_X12_lays_L2 N draft kk fu book s y1 y2 y3 y4 (nI k) = kk book' s y1 y2 y3 y4 ∧ ∀ i, i < 78 → book' i = draft i := by
  intro t
  induction t with
  | zero =>
    intro k hk fu hfu book hA
    obtain ⟨fv, rfl⟩ : ∃ fv, fu = fv + 1 := ⟨fu - 1, by omega⟩
    unfold g_X12_lays_L2
    rw [if_pos (by rw [l78, nle (by omega) (by omega)]; omega)]
    exact ⟨book, rfl, fun i hi => hA i (by omega)⟩
  | succ t ih =>
    intro k hk fu hfu book hA
    obtain ⟨fv, rfl⟩ : ∃ fv, fu = fv + 1 := ⟨fu - 1, by omega⟩
    unfold g_X12_lays_L2
    rw [if_neg (by rw [l78, nle (by omega) (by omega)]; omega), gi_nI (by omega) (by omega), gi_nI (by omega) (by omega), nc (by omega), nI_1]
    refine ih (k + 1) (by omega) fv (by omega) _ (fun i hi => ?_)
    by_cases z : i = k
    · subst z; rw [pk_us]
    · rw [pk_un z]; exact hA i (by omega)
theorem pX12_lays (hN : 100 < N) (draft book s : AI) (y1 y2 y3 y4 : Int32) : ∃ book' : AI, g_X12_lays N draft book s y1 y2 y3 y4 = some (book', upd (upd s 0 0) 1 0, 0, 0, 0, 0) ∧ ∀ i, i < 78 → book' i = draft i := by
  obtain ⟨book', h1, h2⟩ := ly_loop (N := N) draft (g_X12_lays_b26 N draft) s y1 y2 y3 y4 78 0 (by omega) N (by omega) book (fun i hi => by omega)
  have h1' : g_X12_lays_L2 N draft (g_X12_lays_b26 N draft) N book s y1 y2 y3 y4 0 = _ := h1
  have g0 : ∀ {α : Type} (z : Option α), gi 0 74 z = z := fun z => by rw [l0, gi_nI (by omega) (by omega)]
  have g1 : ∀ {α : Type} (z : Option α), gi 1 74 z = z := fun z => by rw [l1, gi_nI (by omega) (by omega)]
  unfold g_X12_lays
  rw [h1']
  unfold g_X12_lays_b26
  rw [g0, g1, show (0 : Int32).toNatClampNeg = 0 from rfl, show (1 : Int32).toNatClampNeg = 1 from rfl]
  exact ⟨book', rfl, h2⟩
theorem PS.book {P Sn H law : Nat} {xt : Bool} {mi draft mi' book : Nat → Int32} {d : Nat → Nat → Nat} {wso wso' : Nat → Nat → Int32} {wsz wsz' : Nat → Int32} {bz : Int32} {W : List (List Nat)} (h : PS P Sn H law xt mi draft d wso wsz bz W) (hm : DR 5 mi' d) (hw : WC wso' wsz' W) (hb : ∀ i, i < 78 → book i = draft i) : PS P Sn H law xt mi' book d wso' wsz' (nI W.length) W := by
  obtain ⟨h1, h2, h3, h4, h5, h6, h7, h8, h9, h10, h11, h12, h13, h14, h15, h16, h17⟩ := h
  refine ⟨h1, h2, h3, h4, hm, fun a b ha hb2 => by rw [hb _ (by omega)]; exact h6 a b ha hb2, h7, (hb 0 (by omega)).trans h8, (hb 1 (by omega)).trans h9, (hb 2 (by omega)).trans h10, (hb 3 (by omega)).trans h11, (hb 70 (by omega)).trans h12, h13, rfl, (hb 4 (by omega)).trans h15, hw, fun w l hw2 => ?_⟩
  obtain ⟨q1, q2⟩ := h17 w l hw2
  have q3 := (h16 w l hw2).1.2
  have q4 := (List.getElem?_eq_some_iff.mp hw2).1
  refine ⟨by rw [hb _ (by omega)]; exact q1, fun k x hk => ?_⟩
  have hk4 := (List.getElem?_eq_some_iff.mp hk).1
  rw [hb _ (by omega)]
  exact q2 k x hk
/-- what is laid, on both sides -/
def LaidR (pl so ho la : Int32) (mi book : Nat → Int32) (wso : Nat → Nat → Int32) (wsz : Nat → Int32) (bz : Int32) (P : Nat) : Prop := ∃ (Sn H law : Nat) (d : Nat → Nat → Nat) (W : List (List Nat)), pl = nI P ∧ so = nI Sn ∧ ho = nI H ∧ la = nI law ∧ HOk P Sn H law mi book d ∧ WR wso wsz bz book W
theorem SR.zero (s : Nat → Int32) : SR (upd (upd s 0 0) 1 0) [] 0 := ⟨by rw [pk_un (by omega), pk_us]; rfl, by rw [pk_us]; rfl, fun k hk => by simp at hk⟩
theorem t_layB (hN : 400 < N) {sz ln : Int32} (hT : RText bt sz tx ln T) (wso : Nat → Nat → Int32) (wsz : Nat → Int32) (x1 x2 x3 x4 x5 x6 dz at1 at2 : Int32) (mi ds number draft told : AI) (lso : Nat → Nat → Int32) (lsz : Nat → Int32) (lz l1' l2' l3' l4' : Int32) (lm : AI) (z1 z2 z3 z4 z5 z6 : Int32) (book s : AI) (y1 y2 y3 y4 : Int32) :
    ∃ v w, g_X11_lay N bt sz wso wsz x1 x2 x3 x4 x5 x6 mi ds dz number at1 lso lsz lz l1' l2' l3' l4' lm z1 z2 z3 z4 z5 z6 = some v ∧ g_X12_lay N tx ln book draft s y1 y2 y3 y4 at2 told = some w ∧ v.1 = w.1 ∧
    ((∃ (a1 a2 : Nat → Nat → Int32) (a3 a4 a5 a6 a7 a8 a9 : Nat → Int32) (c1 c2 c3 c4 c5 c6 c7 c8 c9 c10 c11 c12 c13 : Int32) (P : Nat), v = (c1, a1, a3, c2, c3, c4, c5, c6, c7, a4, a5, c8, a6, c9, lso, lsz, lz, l1', l2', l3', l4', lm, z1, z2, z3, z4, z5, z6) ∧ w = (c10, book, a7, s, y1, y2, y3, y4, c11, a8)) ∨
    (∃ (a1 a2 : Nat → Nat → Int32) (a3 a4 a5 a6 a7 a8 a9 a10 a11 : Nat → Int32) (c1 c2 c3 c4 c5 c6 c7 c8 c9 c10 c11 c12 c13 c14 c15 c16 : Int32) (P : Nat), v = (c1, a1, a3, c2, c3, c4, c5, c6, c7, a4, a5, c8, a6, c9, a2, a9, c12, c13, c14, c15, c16, a10, 0, 0, 0, 0, 0, 0) ∧ w = (c10, a11, a7, upd (upd s 0 0) 1 0, 0, 0, 0, 0, c11, a8) ∧ LaidR c13 c14 c15 c16 a10 a11 a2 a9 c12 P)) := by
  have hx := hT.tx
  obtain ⟨_, rfl, rfl, _⟩ := hT
  have g0 : ∀ {α : Type} (z : Option α), gi 0 78 z = z := fun z => by rw [l0, gi_nI (by omega) (by omega)]
  obtain ⟨v, w, v1, w1, h1, h2⟩ := reads_both (N := N) hN hx wso wsz x1 x2 x3 x4 x5 x6 dz at1 at2 mi ds number draft told
  unfold g_X11_lay g_X12_lay
  rw [v1, w1]
  simp only [Option.bind_some]
  by_cases c : v.1 = -4
  · obtain ⟨P, Sn, H, law, xt, d, W, e1, e2, e3, e4, hS⟩ := h2 c
    have hS' := hS
    obtain ⟨s1, s2, s3, s4, s5, s6, s7, s8, s9, s10, s11, s12, s13, s14, s15, s16, s17⟩ := hS'
    obtain ⟨gso', gsz', gm', q1, q2, q3⟩ := pX2_copyFrom (N := N) (by omega) s16 s13 s5 (nI P) (nI Sn) (nI H) (nI law) lso lsz lz l1' l2' l3' l4' lm
    obtain ⟨book', b1, b2⟩ := pX12_lays (N := N) (by omega) w.2.1 book s y1 y2 y3 y4
    have hF := hS.book q3 q2 b2
    rw [if_pos c, if_pos (h1 ▸ c), e1, e2, e3, e4, s14, q1, b1]
    simp only [Option.bind_some]
    rw [g0, show (0 : Int32).toNatClampNeg = 0 from rfl]
    refine ⟨_, _, rfl, rfl, ?_, Or.inr ⟨v.2.1, gso', v.2.2.1, _, _, _, w.2.1, _, gsz', gm', book', _, _, _, _, _, _, _, _, _, _, _, _, _, _, _, _, P, rfl, rfl, Sn, H, law, d, W, rfl, rfl, rfl, rfl, hF.hok, hF.wr⟩⟩
    exact ((b2 0 (by omega)).trans s8).symm
  · rw [if_neg c, if_neg (fun z => c (h1.trans z))]
    exact ⟨_, _, rfl, rfl, rfl, Or.inl ⟨v.2.1, fun _ _ => 0, v.2.2.1, _, _, _, w.2.1, _, fun _ => 0, _, _, _, _, _, _, _, _, _, _, _, 0, 0, 0, rfl, rfl⟩⟩
end READS
