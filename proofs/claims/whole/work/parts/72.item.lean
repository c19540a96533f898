/-! ===== reading the text: items, by both ===== -/
def PS (P Sn H law : Nat) (xt : Bool) (mi draft : Nat → Int32) (d : Nat → Nat → Nat) (wso : Nat → Nat → Int32) (wsz : Nat → Int32) (bz : Int32) (W : List (List Nat)) : Prop := (1 ≤ P ∧ P ≤ 5) ∧ (2 ≤ Sn ∧ Sn ≤ 8) ∧ (1 ≤ H ∧ H ≤ 60) ∧ law < 3 ∧ DR 5 mi d ∧ DB 5 draft d ∧ (∀ a, a < 5 → d a a = 0) ∧ draft 0 = nI P ∧ draft 1 = nI H ∧ draft 2 = nI law ∧ draft 3 = nI Sn ∧ draft 70 = bI xt ∧ W.length ≤ 8 ∧ bz = nI W.length ∧ draft 4 = nI W.length ∧ WC wso wsz W ∧ WD draft W
theorem PS.hok {P Sn H law : Nat} {xt : Bool} {mi draft : Nat → Int32} {d : Nat → Nat → Nat} {wso : Nat → Nat → Int32} {wsz : Nat → Int32} {bz : Int32} {W : List (List Nat)} (h : PS P Sn H law xt mi draft d wso wsz bz W) : HOk P Sn H law mi draft d := by
  obtain ⟨h1, h2, h3, h4, h5, h6, h7, h8, h9, h10, h11, h12, h13, h14, h15, h16, h17⟩ := h
  exact ⟨h1, h2, h3, h4, fun a b ha hb => h5 a b (by omega) (by omega), fun a b ha hb => h6 a b (by omega) (by omega), fun a ha => h7 a (by omega), h8, h9, h10, h11⟩
theorem PS.wr {P Sn H law : Nat} {xt : Bool} {mi draft : Nat → Int32} {d : Nat → Nat → Nat} {wso : Nat → Nat → Int32} {wsz : Nat → Int32} {bz : Int32} {W : List (List Nat)} (h : PS P Sn H law xt mi draft d wso wsz bz W) : WR wso wsz bz draft W := by
  obtain ⟨h1, h2, h3, h4, h5, h6, h7, h8, h9, h10, h11, h12, h13, h14, h15, h16, h17⟩ := h
  refine ⟨h13, h14, h15, fun w l hw => ?_⟩
  obtain ⟨q1, q2, q3, q4⟩ := h16 w l hw
  obtain ⟨r1, r2⟩ := h17 w l hw
  exact ⟨q1, q2, r1, fun k x hk => ⟨q4 x (List.mem_of_getElem? hk), q3 k x hk, r2 k x hk⟩⟩
theorem WC.all {wso : Nat → Nat → Int32} {wsz : Nat → Int32} {W : List (List Nat)} (h : WC wso wsz W) : ∀ l ∈ W, l.length ≤ 4 ∧ ∀ x ∈ l, x < 8 := fun l hl => by
  obtain ⟨w, hw⟩ := List.getElem?_of_mem hl
  obtain ⟨q1, q2, q3, q4⟩ := h w l hw
  exact ⟨q1.2, q4⟩
theorem DB.low {draft : Nat → Int32} {d : Nat → Nat → Nat} (h : DB 5 draft d) {i : Nat} (hi : i < 5 ∨ 30 ≤ i) (v : Int32) : DB 5 (upd draft i v) d := fun a b ha hb => by
  rw [pk_un (by omega)]
  exact h a b ha hb
theorem WD.low {draft : Nat → Int32} {W : List (List Nat)} (h : WD draft W) (h8 : W.length ≤ 8) (h4 : ∀ l ∈ W, l.length ≤ 4 ∧ ∀ x ∈ l, x < 8) {i : Nat} (hi : i < 30 ∨ 70 ≤ i) (v : Int32) : WD (upd draft i v) W := fun w l hw => by
  obtain ⟨q1, q2⟩ := h w l hw
  have hwl := (List.getElem?_eq_some_iff.mp hw).1
  have hl4 := (h4 l (List.mem_of_getElem? hw)).1
  refine ⟨by rw [pk_un (by omega)]; exact q1, fun k x hk => ?_⟩
  have hk4 := (List.getElem?_eq_some_iff.mp hk).1
  rw [pk_un (by omega)]
  exact q2 k x hk
def ItemR (T : List Nat) (a : Nat) (v : Int32 × (Nat → Nat → Int32) × AI × Int32 × Int32 × Int32 × Int32 × Int32 × Int32 × AI × AI × Int32 × AI × Int32) (w : Int32 × AI × Int32 × AI) : Prop := (v.1 = 0 ∧ w.1 = 0) ∨ (v.1 = 1 ∧ w.1 = 1 ∧ ∃ (P Sn H law : Nat) (xt : Bool) (d : Nat → Nat → Nat) (W : List (List Nat)) (e : Nat), a < e ∧ e ≤ T.length ∧ v.2.2.2.2.2.2.2.2.2.2.2.2.2 = nI e ∧ w.2.2.1 = nI e ∧ v.2.2.2.2.1 = nI P ∧ v.2.2.2.2.2.1 = nI Sn ∧ v.2.2.2.2.2.2.1 = nI H ∧ v.2.2.2.2.2.2.2.1 = nI law ∧ v.2.2.2.2.2.2.2.2.1 = bI xt ∧ PS P Sn H law xt (v.2.2.2.2.2.2.2.2.2.1) w.2.1 d v.2.1 v.2.2.1 v.2.2.2.1 W)
theorem sb_is {x c : Nat} {k : Int32} (hk : k = nI c) (hx : x < 256) (hc : c < 128) : (nI x).toInt8.toInt32 = k ↔ x = c := by rw [hk]; exact sb_eq hx hc
theorem nI_is {x c : Nat} {k : Int32} (hk : k = nI c) (hx : x < 256) (hc : c < 128) : nI x = k ↔ x = c := by rw [hk]; exact neq (by omega) (by omega)
theorem ixB_nI {p P : Nat} (hp : p < 1000) (hP : P < 1000) : ixB (nI p) P = decide (p < P) := by
  rw [Bool.eq_iff_iff, ixB_iff (by omega), decide_eq_true_iff]
  constructor
  · rintro ⟨j, h1, h2⟩
    rw [neq (by omega) (by omega)] at h2
    omega
  · intro h
    exact ⟨p, h, rfl⟩
section ITEM
variable {N : Nat} {bt tx : Nat → Int32} {T : List Nat}
theorem numsS_one {a : Nat} (ha : a ≤ T.length) : numsS T 1 a = none ∨ ∃ x e, numsS T 1 a = some ([x], e) ∧ x < 100 ∧ a + 1 ≤ e ∧ e ≤ T.length := by
  cases h : numsS T 1 a with
  | none => exact Or.inl rfl
  | some le =>
    obtain ⟨l, e⟩ := le
    obtain ⟨q1, q2, q3, q4⟩ := numsS_ok h ha
    obtain ⟨x, rfl⟩ := List.length_eq_one_iff.mp q1
    exact Or.inr ⟨x, e, rfl, q2 x List.mem_cons_self, q3, q4⟩
theorem numsS_three {a : Nat} (ha : a ≤ T.length) : numsS T 3 a = none ∨ ∃ x y z e, numsS T 3 a = some ([x, y, z], e) ∧ x < 100 ∧ y < 100 ∧ z < 100 ∧ a + 3 ≤ e ∧ e ≤ T.length := by
  cases h : numsS T 3 a with
  | none => exact Or.inl rfl
  | some le =>
    obtain ⟨l, e⟩ := le
    obtain ⟨q1, q2, q3, q4⟩ := numsS_ok h ha
    obtain ⟨x, y, z, rfl⟩ : ∃ x y z, l = [x, y, z] := by
      match l, q1 with
      | [x, y, z], _ => exact ⟨x, y, z, rfl⟩
    exact Or.inr ⟨x, y, z, e, rfl, q2 x (by simp), q2 y (by simp), q2 z (by simp), q3, q4⟩
/-- one number, by the class -/
theorem c_one (hN : 20 < N) (hT : TxR bt tx T) {a : Nat} (ha : a ≤ T.length) (number : AI) : ∃ v, g_X4_readsNumbers N bt (nI T.length) number (nI a) 1 = some v ∧ (numsS T 1 a = none → v.1 = 0) ∧ ∀ x e, numsS T 1 a = some ([x], e) → v.1 = 1 ∧ v.2.2 = nI e ∧ v.2.1 0 = nI x := by
  obtain ⟨v, v1, v2, v3⟩ := pX4_readsNumbers (N := N) (n := 1) hN hT (by omega) ha number
  exact ⟨v, v1, v2, fun x e h => ⟨(v3 _ _ h).1, (v3 _ _ h).2.1, (v3 _ _ h).2.2 0 x rfl⟩⟩
theorem r_one (hN : 20 < N) (hT : TxR bt tx T) {a : Nat} (ha : a ≤ T.length) (draft told : AI) {i lo hi : Nat} (hi78 : i < 78) (hlo : lo < 100) (hhi : hi < 100) : ∃ w, g_X12_one N tx (nI T.length) draft (nI a) told (nI i) (nI lo) (nI hi) = some w ∧ (w.1 = 0 ∨ w.1 = 1) ∧ (numsS T 1 a = none → w.1 = 0) ∧ ∀ x e, numsS T 1 a = some ([x], e) → x < 100 → (¬ (lo ≤ x ∧ x ≤ hi) → w.1 = 0) ∧ (lo ≤ x ∧ x ≤ hi → w.1 = 1 ∧ w.2.1 = upd draft i (nI x) ∧ w.2.2.1 = nI e) := by
  have g0 : ∀ {α : Type} (z : Option α), gi 0 3 z = z := fun z => by rw [l0, gi_nI (by omega) (by omega)]
  obtain ⟨v, v1, v2, v3⟩ := pX12_numbers (N := N) (n := 1) hN hT (by omega) ha told
  have v1' : g_X12_numbers N tx (nI T.length) (nI a) told 1 = some v := v1
  unfold g_X12_one
  rw [v1']
  simp only [Option.bind_some]
  rcases numsS_one ha with h | ⟨x, e, h, hx, _, _⟩
  · rw [if_pos (v2 h)]
    exact ⟨_, rfl, Or.inl rfl, fun _ => rfl, fun x e h2 => by rw [h] at h2; cases h2⟩
  · obtain ⟨q1, q2, q3⟩ := v3 _ _ h
    have q3' := q3 0 x rfl
    rw [if_neg (by rw [q1]; decide), g0, show (0 : Int32).toNatClampNeg = 0 from rfl, q3']
    unfold g_X12_in
    by_cases c1 : x < lo
    · rw [if_pos ((nlt (by omega) (by omega)).mpr c1)]
      simp only [Option.bind_some]
      rw [if_pos trivial]
      exact ⟨_, rfl, Or.inl rfl, fun _ => rfl, fun y e2 h2 _ => by rw [h] at h2; cases h2; exact ⟨fun _ => rfl, fun z => by omega⟩⟩
    · rw [if_neg (by rw [nlt (by omega) (by omega)]; omega)]
      by_cases c2 : hi < x
      · rw [if_pos ((nlt (by omega) (by omega)).mpr c2)]
        simp only [Option.bind_some]
        rw [if_pos trivial]
        exact ⟨_, rfl, Or.inl rfl, fun _ => rfl, fun y e2 h2 _ => by rw [h] at h2; cases h2; exact ⟨fun _ => rfl, fun z => by omega⟩⟩
      · rw [if_neg (by rw [nlt (by omega) (by omega)]; omega)]
        simp only [Option.bind_some]
        rw [if_neg (show ¬ (1 : Int32) = 0 by decide), g0, gi_nI hi78 (by omega), nc (by omega)]
        exact ⟨_, rfl, Or.inr rfl, fun h2 => (by rw [h] at h2; cases h2), fun y e2 h2 _ => by rw [h] at h2; cases h2; exact ⟨fun z => absurd ⟨by omega, by omega⟩ z, fun _ => ⟨rfl, rfl, q2⟩⟩⟩
theorem gb_01 {α : Type} {k : Int32} (h : k = 0 ∨ k = 1) (z : Option α) : gb k z = z := if_pos h
theorem item_both (hN : 20 < N) (hT : TxR bt tx T) {a : Nat} (ha : a < T.length) {P Sn H law : Nat} {xt : Bool} {mi draft : Nat → Int32} {d : Nat → Nat → Nat} {wso : Nat → Nat → Int32} {wsz : Nat → Int32} {bz : Int32} {W : List (List Nat)} (hS : PS P Sn H law xt mi draft d wso wsz bz W) (ds number told : AI) (dz : Int32) :
    ∃ v w, g_X4_readsItem N bt (nI T.length) wso wsz bz (nI P) (nI Sn) (nI H) (nI law) (bI xt) mi ds dz number (nI a) = some v ∧ g_X12_item N tx (nI T.length) draft (nI a) told = some w ∧ ItemR T a v w := by
  have hS' := hS
  obtain ⟨h1, h2, h3, h4, h5, h6, h7, h8, h9, h10, h11, h12, h13, rfl, h15, h16, h17⟩ := hS'
  have hl := hT.1
  have hwl := h16.all
  have n10 : ¬ (1 : Int32) = 0 := by decide
  have g0 : ∀ {α : Type} (z : Option α), gi 0 3 z = z := fun z => by rw [l0, gi_nI (by omega) (by omega)]
  have g1 : ∀ {α : Type} (z : Option α), gi 1 3 z = z := fun z => by rw [l1, gi_nI (by omega) (by omega)]
  have g2 : ∀ {α : Type} (z : Option α), gi 2 3 z = z := fun z => by rw [l2, gi_nI (by omega) (by omega)]
  have g70 : ∀ {α : Type} (z : Option α), gi 70 78 z = z := fun z => by rw [l70, gi_nI (by omega) (by omega)]
  have g078 : ∀ {α : Type} (z : Option α), gi 0 78 z = z := fun z => by rw [l0, gi_nI (by omega) (by omega)]
  obtain ⟨x, hx, x2, x3, x4⟩ := hT.at ha
  have ha1 : a + 1 ≤ T.length := ha
  unfold g_X4_readsItem g_X12_item
  rw [if_pos ((nlt (by omega) (by omega)).mpr ha), gi_nI (by omega) (by omega), nc (by omega), x3, ba_some hT hx, nI_1]
  simp only [Option.bind_some]
  by_cases c102 : x = 102
  · rw [if_pos ((sb_is (k := 102) (c := 102) rfl x2 (by omega)).mpr c102), if_pos ((nI_is (k := 102) (c := 102) rfl x2 (by omega)).mpr c102)]
    obtain ⟨v, v1, v2, v3⟩ := c_one (N := N) hN hT ha1 number
    obtain ⟨w, w1, w0, w2, w3⟩ := r_one (N := N) hN hT ha1 draft told (i := 3) (lo := 2) (hi := 8) (by omega) (by omega) (by omega)
    have w1' : g_X12_one N tx (nI T.length) draft (nI (a + 1)) told 3 2 8 = some w := w1
    rw [v1, w1']
    simp only [Option.bind_some]
    rw [gb_01 w0]
    rcases numsS_one ha1 with hn | ⟨y, e, hn, hy, he1, he2⟩
    · rw [if_pos (v2 hn)]
      exact ⟨_, _, rfl, rfl, Or.inl ⟨rfl, w2 hn⟩⟩
    · obtain ⟨q1, q2, q3⟩ := v3 y e hn
      obtain ⟨r1, r2⟩ := w3 y e hn hy
      rw [if_neg (by rw [q1]; exact n10), g0, show (0 : Int32).toNatClampNeg = 0 from rfl, q3]
      unfold g_X2_setSorts
      by_cases y1 : y < 2
      · rw [if_pos (show nI y < 2 from (nlt (b := 2) (by omega) (by omega)).mpr y1)]
        simp only [Option.bind_some, if_true]
        exact ⟨_, _, rfl, rfl, Or.inl ⟨rfl, r1 (by omega)⟩⟩
      · rw [if_neg (show ¬ nI y < 2 from fun z => y1 ((nlt (b := 2) (by omega) (by omega)).mp z))]
        by_cases y2 : y ≤ 8
        · rw [if_pos (show nI y ≤ 8 from (nle (b := 8) (by omega) (by omega)).mpr y2)]
          simp only [Option.bind_some]
          rw [if_neg n10]
          obtain ⟨s1, s2, s3⟩ := r2 ⟨by omega, y2⟩
          refine ⟨_, _, rfl, rfl, Or.inr ⟨rfl, s1, P, y, H, law, xt, d, W, e, by omega, he2, q2, s3, rfl, rfl, rfl, rfl, rfl, ?_⟩⟩
          show PS P y H law xt mi w.2.1 d wso wsz (nI W.length) W
          rw [s2]
          exact ⟨h1, ⟨by omega, y2⟩, h3, h4, h5, h6.low (by omega) _, h7, (pk_un (by omega)).trans h8, (pk_un (by omega)).trans h9, (pk_un (by omega)).trans h10, pk_us, (pk_un (by omega)).trans h12, h13, rfl, (pk_un (by omega)).trans h15, h16, h17.low h13 hwl (by omega) _⟩
        · rw [if_neg (show ¬ nI y ≤ 8 from fun z => y2 ((nle (b := 8) (by omega) (by omega)).mp z))]
          simp only [Option.bind_some, if_true]
          exact ⟨_, _, rfl, rfl, Or.inl ⟨rfl, r1 (by omega)⟩⟩
  rw [if_neg (fun z => c102 ((sb_is (k := 102) (c := 102) rfl x2 (by omega)).mp z)), if_neg (fun z => c102 ((nI_is (k := 102) (c := 102) rfl x2 (by omega)).mp z))]
  by_cases c104 : x = 104
  · rw [if_pos ((sb_is (k := 104) (c := 104) rfl x2 (by omega)).mpr c104), if_pos ((nI_is (k := 104) (c := 104) rfl x2 (by omega)).mpr c104)]
    obtain ⟨v, v1, v2, v3⟩ := c_one (N := N) hN hT ha1 number
    obtain ⟨w, w1, w0, w2, w3⟩ := r_one (N := N) hN hT ha1 draft told (i := 1) (lo := 1) (hi := 60) (by omega) (by omega) (by omega)
    have w1' : g_X12_one N tx (nI T.length) draft (nI (a + 1)) told 1 1 60 = some w := w1
    rw [v1, w1']
    simp only [Option.bind_some]
    rw [gb_01 w0]
    rcases numsS_one ha1 with hn | ⟨y, e, hn, hy, he1, he2⟩
    · rw [if_pos (v2 hn)]
      exact ⟨_, _, rfl, rfl, Or.inl ⟨rfl, w2 hn⟩⟩
    · obtain ⟨q1, q2, q3⟩ := v3 y e hn
      obtain ⟨r1, r2⟩ := w3 y e hn hy
      rw [if_neg (by rw [q1]; exact n10), g0, show (0 : Int32).toNatClampNeg = 0 from rfl, q3]
      unfold g_X2_setHour
      by_cases y1 : y < 1
      · rw [if_pos (show nI y < 1 from (nlt (b := 1) (by omega) (by omega)).mpr y1)]
        simp only [Option.bind_some, if_true]
        exact ⟨_, _, rfl, rfl, Or.inl ⟨rfl, r1 (by omega)⟩⟩
      · rw [if_neg (show ¬ nI y < 1 from fun z => y1 ((nlt (b := 1) (by omega) (by omega)).mp z))]
        by_cases y2 : y ≤ 60
        · rw [if_pos (show nI y ≤ 60 from (nle (b := 60) (by omega) (by omega)).mpr y2)]
          simp only [Option.bind_some]
          rw [if_neg n10]
          obtain ⟨s1, s2, s3⟩ := r2 ⟨by omega, y2⟩
          refine ⟨_, _, rfl, rfl, Or.inr ⟨rfl, s1, P, Sn, y, law, xt, d, W, e, by omega, he2, q2, s3, rfl, rfl, rfl, rfl, rfl, ?_⟩⟩
          show PS P Sn y law xt mi w.2.1 d wso wsz (nI W.length) W
          rw [s2]
          exact ⟨h1, h2, ⟨by omega, y2⟩, h4, h5, h6.low (by omega) _, h7, (pk_un (by omega)).trans h8, pk_us, (pk_un (by omega)).trans h10, (pk_un (by omega)).trans h11, (pk_un (by omega)).trans h12, h13, rfl, (pk_un (by omega)).trans h15, h16, h17.low h13 hwl (by omega) _⟩
        · rw [if_neg (show ¬ nI y ≤ 60 from fun z => y2 ((nle (b := 60) (by omega) (by omega)).mp z))]
          simp only [Option.bind_some, if_true]
          exact ⟨_, _, rfl, rfl, Or.inl ⟨rfl, r1 (by omega)⟩⟩
  rw [if_neg (fun z => c104 ((sb_is (k := 104) (c := 104) rfl x2 (by omega)).mp z)), if_neg (fun z => c104 ((nI_is (k := 104) (c := 104) rfl x2 (by omega)).mp z))]
  by_cases c108 : x = 108
  · rw [if_pos ((sb_is (k := 108) (c := 108) rfl x2 (by omega)).mpr c108), if_pos ((nI_is (k := 108) (c := 108) rfl x2 (by omega)).mpr c108)]
    obtain ⟨v, v1, v2, v3⟩ := c_one (N := N) hN hT ha1 number
    obtain ⟨w, w1, w0, w2, w3⟩ := r_one (N := N) hN hT ha1 draft told (i := 2) (lo := 0) (hi := 2) (by omega) (by omega) (by omega)
    have w1' : g_X12_one N tx (nI T.length) draft (nI (a + 1)) told 2 0 2 = some w := w1
    rw [v1, w1']
    simp only [Option.bind_some]
    rw [gb_01 w0]
    rcases numsS_one ha1 with hn | ⟨y, e, hn, hy, he1, he2⟩
    · rw [if_pos (v2 hn)]
      exact ⟨_, _, rfl, rfl, Or.inl ⟨rfl, w2 hn⟩⟩
    · obtain ⟨q1, q2, q3⟩ := v3 y e hn
      obtain ⟨r1, r2⟩ := w3 y e hn hy
      rw [if_neg (by rw [q1]; exact n10), g0, show (0 : Int32).toNatClampNeg = 0 from rfl, q3]
      unfold g_X2_setLaw
      by_cases y1 : y < 0
      · rw [if_pos (show nI y < 0 from (nlt (b := 0) (by omega) (by omega)).mpr y1)]
        simp only [Option.bind_some, if_true]
        exact ⟨_, _, rfl, rfl, Or.inl ⟨rfl, r1 (by omega)⟩⟩
      · rw [if_neg (show ¬ nI y < 0 from fun z => y1 ((nlt (b := 0) (by omega) (by omega)).mp z))]
        by_cases y2 : y ≤ 2
        · rw [if_pos (show nI y ≤ 2 from (nle (b := 2) (by omega) (by omega)).mpr y2)]
          simp only [Option.bind_some]
          rw [if_neg n10]
          obtain ⟨s1, s2, s3⟩ := r2 ⟨by omega, y2⟩
          refine ⟨_, _, rfl, rfl, Or.inr ⟨rfl, s1, P, Sn, H, y, xt, d, W, e, by omega, he2, q2, s3, rfl, rfl, rfl, rfl, rfl, ?_⟩⟩
          show PS P Sn H y xt mi w.2.1 d wso wsz (nI W.length) W
          rw [s2]
          exact ⟨h1, h2, h3, (by omega), h5, h6.low (by omega) _, h7, (pk_un (by omega)).trans h8, (pk_un (by omega)).trans h9, pk_us, (pk_un (by omega)).trans h11, (pk_un (by omega)).trans h12, h13, rfl, (pk_un (by omega)).trans h15, h16, h17.low h13 hwl (by omega) _⟩
        · rw [if_neg (show ¬ nI y ≤ 2 from fun z => y2 ((nle (b := 2) (by omega) (by omega)).mp z))]
          simp only [Option.bind_some, if_true]
          exact ⟨_, _, rfl, rfl, Or.inl ⟨rfl, r1 (by omega)⟩⟩
  rw [if_neg (fun z => c108 ((sb_is (k := 108) (c := 108) rfl x2 (by omega)).mp z)), if_neg (fun z => c108 ((nI_is (k := 108) (c := 108) rfl x2 (by omega)).mp z))]
  by_cases c112 : x = 112
  · rw [if_pos ((sb_is (k := 112) (c := 112) rfl x2 (by omega)).mpr c112), if_pos ((nI_is (k := 112) (c := 112) rfl x2 (by omega)).mpr c112), g70, show (70 : Int32).toNatClampNeg = 70 from rfl, h12]
    obtain ⟨v, v1, v2, v3⟩ := c_one (N := N) hN hT ha1 number
    rw [v1]
    simp only [Option.bind_some]
    cases xt with
    | true =>
      rw [if_neg (show ¬ bI true = 0 by decide)]
      rcases numsS_one ha1 with hn | ⟨y, e, hn, hy, he1, he2⟩
      · rw [if_pos (v2 hn)]
        exact ⟨_, _, rfl, rfl, Or.inl ⟨rfl, rfl⟩⟩
      · obtain ⟨q1, q2, q3⟩ := v3 y e hn
        rw [if_neg (by rw [q1]; exact n10), g0]
        unfold g_X2_setPlaces
        rw [if_neg (show ¬ bI true = 0 by decide), ite_self, ite_self]
        exact ⟨_, _, rfl, rfl, Or.inl ⟨rfl, rfl⟩⟩
    | false =>
      obtain ⟨w, w1, w0, w2, w3⟩ := r_one (N := N) hN hT ha1 draft told (i := 0) (lo := 1) (hi := 5) (by omega) (by omega) (by omega)
      have w1' : g_X12_one N tx (nI T.length) draft (nI (a + 1)) told 0 1 5 = some w := w1
      rw [if_pos (show bI false = 0 from rfl), w1']
      simp only [Option.bind_some]
      rcases numsS_one ha1 with hn | ⟨y, e, hn, hy, he1, he2⟩
      · rw [if_pos (v2 hn), if_pos (w2 hn)]
        exact ⟨_, _, rfl, rfl, Or.inl ⟨rfl, rfl⟩⟩
      · obtain ⟨q1, q2, q3⟩ := v3 y e hn
        obtain ⟨r1, r2⟩ := w3 y e hn hy
        rw [if_neg (by rw [q1]; exact n10), g0, show (0 : Int32).toNatClampNeg = 0 from rfl, q3]
        unfold g_X2_setPlaces
        by_cases y1 : y < 1
        · rw [if_pos (show nI y < 1 from (nlt (b := 1) (by omega) (by omega)).mpr y1), if_pos (r1 (by omega))]
          simp only [Option.bind_some, if_true]
          exact ⟨_, _, rfl, rfl, Or.inl ⟨rfl, rfl⟩⟩
        · rw [if_neg (show ¬ nI y < 1 from fun z => y1 ((nlt (b := 1) (by omega) (by omega)).mp z))]
          by_cases y2 : 5 < y
          · rw [if_pos (show (5 : Int32) < nI y from (nlt (a := 5) (by omega) (by omega)).mpr y2), if_pos (r1 (by omega))]
            simp only [Option.bind_some, if_true]
            exact ⟨_, _, rfl, rfl, Or.inl ⟨rfl, rfl⟩⟩
          · obtain ⟨s1, s2, s3⟩ := r2 ⟨by omega, by omega⟩
            rw [if_neg (show ¬ (5 : Int32) < nI y from fun z => y2 ((nlt (a := 5) (by omega) (by omega)).mp z)), if_pos (show bI false = 0 from rfl), if_neg (by rw [s1]; exact n10)]
            simp only [Option.bind_some]
            rw [if_neg n10]
            refine ⟨_, _, rfl, rfl, Or.inr ⟨rfl, rfl, y, Sn, H, law, false, d, W, e, by omega, he2, q2, s3, rfl, rfl, rfl, rfl, rfl, ?_⟩⟩
            show PS y Sn H law false mi w.2.1 d wso wsz (nI W.length) W
            rw [s2]
            exact ⟨⟨by omega, by omega⟩, h2, h3, h4, h5, h6.low (by omega) _, h7, pk_us, (pk_un (by omega)).trans h9, (pk_un (by omega)).trans h10, (pk_un (by omega)).trans h11, (pk_un (by omega)).trans h12, h13, rfl, (pk_un (by omega)).trans h15, h16, h17.low h13 hwl (by omega) _⟩
  rw [if_neg (fun z => c112 ((sb_is (k := 112) (c := 112) rfl x2 (by omega)).mp z)), if_neg (fun z => c112 ((nI_is (k := 112) (c := 112) rfl x2 (by omega)).mp z))]
  by_cases c119 : x = 119
  · rw [if_pos ((sb_is (k := 119) (c := 119) rfl x2 (by omega)).mpr c119), if_pos ((nI_is (k := 119) (c := 119) rfl x2 (by omega)).mpr c119)]
    obtain ⟨v, v1, v2, v3⟩ := pX4_readsWord (N := N) hN hT ha1 ds dz
    obtain ⟨w, w1, w0, w2, w3, w4, w5⟩ := pX12_words (N := N) hN hT ha1 h15 h13 h17 hwl
    obtain ⟨f1, f2, f3⟩ := figs_ok (k := 4) ha1
    rw [v1, w1]
    simp only [Option.bind_some]
    rw [gb_01 w0]
    by_cases y : 1 ≤ (figs T 4 (a + 1)).length ∧ T[a + 1 + (figs T 4 (a + 1)).length]? = some 59
    · obtain ⟨q1, q2, q3, q4⟩ := v3 y
      obtain ⟨u, u1, u2, u3⟩ := pX1_append (N := N) hN h16 h13 q2 f2 y.1 f1
      rw [if_neg (by rw [q1]; exact n10), q3, u1]
      simp only [Option.bind_some]
      by_cases z : W.length < 8 ∧ ¬ figs T 4 (a + 1) ∈ W
      · have z1 := z.1
        obtain ⟨s1, s2, s3⟩ := u3 z.1 z.2
        obtain ⟨t1, t2, t3, t4, t5⟩ := w4 y z.1 z.2
        have t6 := w5 t1
        have hlt := (List.getElem?_eq_some_iff.mp y.2).1
        rw [if_neg (by rw [s1]; exact n10)]
        refine ⟨_, _, rfl, rfl, Or.inr ⟨rfl, t1, P, Sn, H, law, xt, d, W ++ [figs T 4 (a + 1)], a + 1 + (figs T 4 (a + 1)).length + 1, by omega, by omega, q4, t2, rfl, rfl, rfl, rfl, rfl, ?_⟩⟩
        refine ⟨h1, h2, h3, h4, h5, fun i j hi hj => ?_, h7, (t6 0 (by omega)).trans h8, (t6 1 (by omega)).trans h9, (t6 2 (by omega)).trans h10, (t6 3 (by omega)).trans h11, (t6 70 (by omega)).trans h12, by rw [List.length_append, List.length_singleton]; omega, s3, t4, s2, t3⟩
        show w.2.1 (5 + 5 * i + j) = nI (d i j) ∧ d i j ≤ 60
        rw [t6 _ (by omega)]
        exact h6 i j hi hj
      · have z' : W.length = 8 ∨ figs T 4 (a + 1) ∈ W := by
          by_cases z1 : W.length < 8
          · exact Or.inr (by
              by_cases z2 : figs T 4 (a + 1) ∈ W
              · exact z2
              · exact absurd ⟨z1, z2⟩ z)
          · exact Or.inl (by omega)
        rw [if_pos (u2 z')]
        exact ⟨_, _, rfl, rfl, Or.inl ⟨rfl, w3 z'⟩⟩
    · rw [if_pos (v2 y)]
      exact ⟨_, _, rfl, rfl, Or.inl ⟨rfl, w2 y⟩⟩
  rw [if_neg (fun z => c119 ((sb_is (k := 119) (c := 119) rfl x2 (by omega)).mp z)), if_neg (fun z => c119 ((nI_is (k := 119) (c := 119) rfl x2 (by omega)).mp z))]
  by_cases c120 : x = 120
  · rw [if_pos ((sb_is (k := 120) (c := 120) rfl x2 (by omega)).mpr c120), if_pos ((nI_is (k := 120) (c := 120) rfl x2 (by omega)).mpr c120)]
    obtain ⟨v, v1, v2, v3⟩ := pX4_readsNumbers (N := N) (n := 3) hN hT (by omega) ha1 number
    obtain ⟨w, w1, w2, w3⟩ := pX12_numbers (N := N) (n := 3) hN hT (by omega) ha1 told
    have v1' : g_X4_readsNumbers N bt (nI T.length) number (nI (a + 1)) 3 = some v := v1
    have w1' : g_X12_numbers N tx (nI T.length) (nI (a + 1)) told 3 = some w := w1
    unfold g_X12_crosses
    rw [v1', w1']
    simp only [Option.bind_some]
    rcases numsS_three ha1 with hn | ⟨p, q, r, e, hn, hp, hq, hr, he1, he2⟩
    · rw [if_pos (v2 hn), if_pos (w2 hn)]
      exact ⟨_, _, rfl, rfl, Or.inl ⟨rfl, rfl⟩⟩
    · obtain ⟨a1, a2, a3⟩ := v3 _ _ hn
      obtain ⟨b1, b2, b3⟩ := w3 _ _ hn
      have p0 := a3 0 p rfl
      have p1 := a3 1 q rfl
      have p2 := a3 2 r rfl
      have r0 := b3 0 p rfl
      have r1 := b3 1 q rfl
      have r2 := b3 2 r rfl
      rw [if_neg (by rw [a1]; exact n10), if_neg (by rw [b1]; exact n10)]
      rw [show (0 : Int32).toNatClampNeg = 0 from rfl, show (1 : Int32).toNatClampNeg = 1 from rfl, show (2 : Int32).toNatClampNeg = 2 from rfl, show (70 : Int32).toNatClampNeg = 70 from rfl, p0, p1, p2, r0, r1, r2, h8]
      simp only [g0, g1, g2, g70, g078]
      unfold g_X2_setMinutes
      rw [pX2_isPlace, pX2_isPlace, ixB_nI (by omega) (by omega), ixB_nI (by omega) (by omega)]
      simp only [Option.bind_some]
      by_cases k1 : p < P
      · rw [decide_eq_true k1, if_pos rfl, if_neg n10, if_neg (fun z => absurd ((nle (a := P) (b := p) (by omega) (by omega)).mp z) (by omega))]
        by_cases k2 : q < P
        · rw [decide_eq_true k2, if_pos rfl, if_neg n10, if_neg (fun z => absurd ((nle (a := P) (b := q) (by omega) (by omega)).mp z) (by omega))]
          by_cases k3 : p = q
          · rw [if_pos (by rw [k3]), if_pos (by rw [k3])]
            exact ⟨_, _, rfl, rfl, Or.inl ⟨rfl, rfl⟩⟩
          · rw [if_neg (fun z => k3 ((neq (by omega) (by omega)).mp z)), if_neg (fun z => k3 ((neq (by omega) (by omega)).mp z)), if_neg (nI_pos (by omega))]
            by_cases k4 : r ≤ 60
            · rw [if_pos (show nI r ≤ 60 from (nle (b := 60) (by omega) (by omega)).mpr k4), if_pos (show nI r ≤ 60 from (nle (b := 60) (by omega) (by omega)).mpr k4)]
              have e1 : nI p * 5 + nI q = nI (p * 5 + q) := by rw [l5, pk_mul, nI_add]
              have e2 : nI q * 5 + nI p = nI (q * 5 + p) := by rw [l5, pk_mul, nI_add]
              have e3 : 5 + 5 * nI p + nI q = nI (5 + 5 * p + q) := by rw [l5, pk_mul, nI_add, nI_add]
              have e4 : 5 + 5 * nI q + nI p = nI (5 + 5 * q + p) := by rw [l5, pk_mul, nI_add, nI_add]
              rw [e1, e2, e3, e4, gi_nI (by omega) (by omega), gi_nI (by omega) (by omega), gi_nI (by omega) (by omega), gi_nI (by omega) (by omega), nc (by omega), nc (by omega), nc (by omega), nc (by omega)]
              simp only [Option.bind_some]
              rw [if_neg n10]
              refine ⟨_, _, rfl, rfl, Or.inr ⟨rfl, rfl, P, Sn, H, law, true, fun i j => if (i = p ∧ j = q) ∨ (i = q ∧ j = p) then r else d i j, W, e, by omega, he2, a2, b2, rfl, rfl, rfl, rfl, rfl, ?_⟩⟩
              refine ⟨h1, h2, h3, h4, fun i j hi hj => ?_, fun i j hi hj => ?_, fun i hi => ?_, ?_, ?_, ?_, ?_, ?_, h13, rfl, ?_, h16, ?_⟩
              · have hdd := h5 i j hi hj
                dsimp only
                by_cases m1 : i = q ∧ j = p
                · rw [if_pos (Or.inr m1), m1.1, m1.2, pk_us]; exact ⟨rfl, k4⟩
                · by_cases m2 : i = p ∧ j = q
                  · rw [if_pos (Or.inl m2), pk_un (by omega), m2.1, m2.2, pk_us]; exact ⟨rfl, k4⟩
                  · rw [if_neg (fun z => z.elim m2 m1), pk_un (by omega), pk_un (by omega)]; exact hdd
              · have hdd := h6 i j hi hj
                dsimp only
                rw [pk_un (by omega)]
                by_cases m1 : i = q ∧ j = p
                · rw [if_pos (Or.inr m1), m1.1, m1.2, pk_us]; exact ⟨rfl, k4⟩
                · by_cases m2 : i = p ∧ j = q
                  · rw [if_pos (Or.inl m2), pk_un (by omega), m2.1, m2.2, pk_us]; exact ⟨rfl, k4⟩
                  · rw [if_neg (fun z => z.elim m2 m1), pk_un (by omega), pk_un (by omega)]; exact hdd
              · dsimp only
                rw [if_neg (by omega)]
                exact h7 i hi
              · dsimp only; rw [pk_un (by omega), pk_un (by omega), pk_un (by omega)]; exact h8
              · dsimp only; rw [pk_un (by omega), pk_un (by omega), pk_un (by omega)]; exact h9
              · dsimp only; rw [pk_un (by omega), pk_un (by omega), pk_un (by omega)]; exact h10
              · dsimp only; rw [pk_un (by omega), pk_un (by omega), pk_un (by omega)]; exact h11
              · dsimp only; rw [pk_us]; rfl
              · dsimp only; rw [pk_un (by omega), pk_un (by omega), pk_un (by omega)]; exact h15
              · exact ((h17.low h13 hwl (by omega) _).low h13 hwl (by omega) _).low h13 hwl (by omega) _
            · rw [if_neg (show ¬ nI r ≤ 60 from fun z => k4 ((nle (b := 60) (by omega) (by omega)).mp z)), if_neg (show ¬ nI r ≤ 60 from fun z => k4 ((nle (b := 60) (by omega) (by omega)).mp z))]
              exact ⟨_, _, rfl, rfl, Or.inl ⟨rfl, rfl⟩⟩
        · rw [decide_eq_false k2, if_neg (show ¬ false = true by decide), if_pos rfl, if_pos (show nI P ≤ nI q from (nle (by omega) (by omega)).mpr (by omega))]
          exact ⟨_, _, rfl, rfl, Or.inl ⟨rfl, rfl⟩⟩
      · rw [decide_eq_false k1, if_neg (show ¬ false = true by decide), if_pos rfl, if_pos (show nI P ≤ nI p from (nle (by omega) (by omega)).mpr (by omega))]
        exact ⟨_, _, rfl, rfl, Or.inl ⟨rfl, rfl⟩⟩
  rw [if_neg (fun z => c120 ((sb_is (k := 120) (c := 120) rfl x2 (by omega)).mp z)), if_neg (fun z => c120 ((nI_is (k := 120) (c := 120) rfl x2 (by omega)).mp z))]
  exact ⟨_, _, rfl, rfl, Or.inl ⟨rfl, rfl⟩⟩
end ITEM
