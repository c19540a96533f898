/-! ===== keep, back, count ===== -/
/-- what is kept -/
def KR (P : Nat) (kp ks km : Nat → Nat → Int32) (kz kn : Nat → Int32) (kc : Int32) (kept : Nat → Int32) (kx : Int32) (K : List (List Be × Nat)) : Prop := K.length ≤ 2 ∧ kc = nI K.length ∧ kx = nI K.length ∧ ∀ (i : Nat) (e : List Be × Nat), K[i]? = some e → BR (kp i) (ks i) (km i) e.1 ∧ kz i = nI e.1.length ∧ kn i = nI e.2 ∧ BOk P e.1 e.2 ∧ SR (fun k => kept (74 * i + k)) e.1 e.2
theorem pX0_copyFrom {N : Nat} {fp fs fm : Nat → Int32} {B : List Be} (h : BR fp fs fm B) (h24 : B.length ≤ 24) (hN : 30 < N) (nw : Int32) (p s m : Nat → Int32) (z n0 : Int32) :
    ∃ p' s' m', g_X0_copyFrom N fp fs fm (nI B.length) nw p s m z n0 = some (p', s', m', nI B.length, nw) ∧ BR p' s' m' B := by
  unfold g_X0_copyFrom
  suffices hh : ∀ (d j : Nat), j + d = B.length → ∀ fu, d < fu → ∀ (p s m : Nat → Int32), (∀ k, k < j → p k = nI (bP B k) ∧ s k = nI (bS B k) ∧ m k = nI (bM B k)) → ∃ p' s' m', g_X0_copyFrom_L18 N fp fs fm (nI B.length) nw fu p s m (nI B.length) nw (nI j) = some (p', s', m', nI B.length, nw) ∧ BR p' s' m' B by
    exact hh B.length 0 (by omega) N (by omega) p s m (fun k hk => by omega)
  intro d
  induction d with
  | zero =>
    intro j hj fu hfu p s m hA
    obtain ⟨fv, rfl⟩ : ∃ fv, fu = fv + 1 := ⟨fu - 1, by omega⟩
    have : j = B.length := by omega
    subst this
    unfold g_X0_copyFrom_L18
    rw [if_pos ((nle (by omega) (by omega)).mpr (Nat.le_refl _))]
    exact ⟨p, s, m, rfl, BR.of_bd hA⟩
  | succ d ih =>
    intro j hj fu hfu p s m hA
    obtain ⟨fv, rfl⟩ : ∃ fv, fu = fv + 1 := ⟨fu - 1, by omega⟩
    obtain ⟨b1, b2, b3⟩ := h.bd (k := j) (by omega)
    obtain ⟨p', s', m', h1, h2⟩ := ih (j + 1) (by omega) fv (by omega) (upd p j (nI (bP B j))) (upd s j (nI (bS B j))) (upd m j (nI (bM B j))) (fun k hk => by
      unfold upd
      by_cases z : k = j
      · subst z; simp
      · simp only [z, if_false]; exact hA k (by omega))
    refine ⟨p', s', m', ?_, h2⟩
    unfold g_X0_copyFrom_L18
    rw [if_neg (by rw [nle (by omega) (by omega)]; omega), gi_nI (by omega) (by omega), gi_nI (by omega) (by omega), gi_nI (by omega) (by omega), gi_nI (by omega) (by omega), gi_nI (by omega) (by omega), gi_nI (by omega) (by omega), nc (by omega), b1, b2, b3, nI_1]
    exact h1
def blk (f g : Nat → Int32) (o m : Nat) : Nat → Int32 := fun j => if o ≤ j ∧ j < o + m then g (j - o) else f j
theorem blk_0 (f g : Nat → Int32) (o : Nat) : blk f g o 0 = f := by
  funext j; unfold blk; rw [if_neg (by omega)]
theorem blk_1 (f g : Nat → Int32) (o m : Nat) : upd (blk f g o m) (o + m) (g m) = blk f g o (m + 1) := by
  funext j
  unfold upd blk
  by_cases a : j = o + m
  · subst a; rw [if_pos rfl, if_pos (by omega), show o + m - o = m by omega]
  · by_cases b : o ≤ j ∧ j < o + m
    · rw [if_neg a, if_pos b, if_pos (by omega)]
    · rw [if_neg a, if_neg b, if_neg (by omega)]
theorem l148 : (148 : Int32) = nI 148 := rfl
theorem kp_loop (N : Nat) (s : Nat → Int32) (kk : (Nat → Int32) → Int32 → Option (Int32 × (Nat → Int32) × Int32)) (kept : Nat → Int32) {i : Nat} (hi : i < 2) : ∀ (d j : Nat), j + d = 74 → ∀ fu, d < fu → g_X12_keep_L13 N s kk fu (blk kept s (74 * i) j) (nI i) (nI j) = kk (blk kept s (74 * i) 74) (nI i) := by
  intro d
  induction d with
  | zero =>
    intro j hj fu hfu
    obtain ⟨fv, rfl⟩ : ∃ fv, fu = fv + 1 := ⟨fu - 1, by omega⟩
    have : j = 74 := by omega
    subst this
    unfold g_X12_keep_L13
    rw [if_pos (by decide)]
  | succ d ih =>
    intro j hj fu hfu
    obtain ⟨fv, rfl⟩ : ∃ fv, fu = fv + 1 := ⟨fu - 1, by omega⟩
    unfold g_X12_keep_L13
    have e1 : nI 74 * nI i + nI j = nI (74 * i + j) := by rw [pk_mul, nI_add]
    rw [l74, if_neg (by rw [nle (by omega) (by omega)]; omega), e1, gi_nI (by omega) (by omega), gi_nI (by omega) (by omega), nc (by omega), nc (by omega), blk_1, nI_1]
    exact ih (j + 1) (by omega) fv (by omega)
theorem bk_loop (N : Nat) (kept : Nat → Int32) (kk : (Nat → Int32) → Int32 → Int32 → Option (Int32 × (Nat → Int32) × Int32 × Int32)) (s : Nat → Int32) (an : Int32) {i : Nat} (hi : i < 2) : ∀ (d j : Nat), j + d = 74 → ∀ fu, d < fu → g_X12_back_L22 N kept kk fu (blk s (fun k => kept (74 * i + k)) 0 j) (nI i) an (nI j) = kk (blk s (fun k => kept (74 * i + k)) 0 74) (nI i) an := by
  intro d
  induction d with
  | zero =>
    intro j hj fu hfu
    obtain ⟨fv, rfl⟩ : ∃ fv, fu = fv + 1 := ⟨fu - 1, by omega⟩
    have : j = 74 := by omega
    subst this
    unfold g_X12_back_L22
    rw [if_pos (by decide)]
  | succ d ih =>
    intro j hj fu hfu
    obtain ⟨fv, rfl⟩ : ∃ fv, fu = fv + 1 := ⟨fu - 1, by omega⟩
    unfold g_X12_back_L22
    have e1 : nI 74 * nI i + nI j = nI (74 * i + j) := by rw [pk_mul, nI_add]
    have e2 := blk_1 s (fun k => kept (74 * i + k)) 0 j
    rw [Nat.zero_add] at e2
    rw [l74, if_neg (by rw [nle (by omega) (by omega)]; omega), e1, gi_nI (by omega) (by omega), gi_nI (by omega) (by omega), nc (by omega), nc (by omega), e2, nI_1]
    exact ih (j + 1) (by omega) fv (by omega)
theorem SR.congr {s s' : Nat → Int32} {B : List Be} {now : Nat} (h : SR s B now) (hl : B.length ≤ 24) (he : ∀ k, k < 74 → s' k = s k) : SR s' B now := by
  refine ⟨by rw [he 0 (by omega)]; exact h.1, by rw [he 1 (by omega)]; exact h.2.1, fun k hk => ?_⟩
  rw [he _ (by omega), he _ (by omega), he _ (by omega)]
  exact h.2.2 k hk
theorem t_keep {N P : Nat} (hN : 200 < N) {bp bs bm s st ac : Nat → Int32} {bz bn sn an : Int32} (h : RBt P bp bs bm bz bn s st sn ac an) {kp ks km : Nat → Nat → Int32} {kz kn kept : Nat → Int32} {kc kx : Int32} {K : List (List Be × Nat)} (hK : KR P kp ks km kz kn kc kept kx K) :
    ∃ v w, g_X11_keep N bp bs bm bz bn kp ks km kz kn kc = some v ∧ g_X12_keep N s kept kx = some w ∧ v.1 = w.1 ∧ ∃ K', KR P v.2.1 v.2.2.1 v.2.2.2.1 v.2.2.2.2.1 v.2.2.2.2.2.1 v.2.2.2.2.2.2 w.2.1 w.2.2 K' := by
  have hK' := hK
  obtain ⟨h2, rfl, rfl, hk⟩ := hK'
  obtain ⟨B, now, A, hBR, hs, hB, rfl, rfl, hst, hv⟩ := h
  unfold g_X11_keep g_X12_keep
  by_cases c : K.length < 2
  · obtain ⟨p', s', m', e1, e2⟩ := pX0_copyFrom (N := N) hBR hB.1 (by omega) (nI now) (kp K.length) (ks K.length) (km K.length) (kz K.length) (kn K.length)
    have e3 := kp_loop N s (g_X12_keep_b45 N s) kept c 74 0 (by omega) N (by omega)
    rw [blk_0] at e3
    have e3' : g_X12_keep_L13 N s (g_X12_keep_b45 N s) N kept (nI K.length) 0 = _ := e3
    rw [if_pos (by rw [l2, nlt (by omega) (by omega)]; omega), if_neg (by rw [l2, neq (by omega) (by omega)]; omega), gi_nI c (by omega), nc (by omega), e1, e3']
    unfold g_X12_keep_b45
    refine ⟨_, _, rfl, rfl, rfl, K ++ [(B, now)], by simp; omega, by simp [nI_1], by simp [nI_1], fun i e hi => ?_⟩
    have hl : i < (K ++ [(B, now)]).length := (List.getElem?_eq_some_iff.mp hi).1
    rw [List.length_append, List.length_singleton] at hl
    by_cases a : i = K.length
    · subst a
      rw [List.getElem?_append_right (Nat.le_refl _), Nat.sub_self] at hi
      cases hi
      simp only [va_up, if_true]
      refine ⟨e2, trivial, trivial, hB, hs.congr hB.1 (fun k hk => ?_)⟩
      unfold blk
      rw [if_pos (by omega), show 74 * K.length + k - 74 * K.length = k by omega]
    · rw [List.getElem?_append_left (by omega)] at hi
      obtain ⟨q1, q2, q3, q4, q5⟩ := hk i e hi
      simp only [va_up, a, if_false]
      refine ⟨q1, q2, q3, q4, q5.congr q4.1 (fun k hk => ?_)⟩
      unfold blk
      rw [if_neg (by omega)]
  · rw [if_neg (by rw [l2, nlt (by omega) (by omega)]; omega), if_pos (by rw [l2, neq (by omega) (by omega)]; omega)]
    exact ⟨_, _, rfl, rfl, rfl, K, hK⟩
theorem t_back {N P : Nat} (hN : 200 < N) {bp bs bm s st ac : Nat → Int32} {bz bn sn an : Int32} (h : RBt P bp bs bm bz bn s st sn ac an) {kp ks km : Nat → Nat → Int32} {kz kn kept : Nat → Int32} {kc kx : Int32} {K : List (List Be × Nat)} (hK : KR P kp ks km kz kn kc kept kx K) :
    ∃ v w, g_X11_back N kp ks km kz kn bp bs bm bz bn sn kc = some v ∧ g_X12_back N kept s kx an = some w ∧ v.1 = w.1 ∧ RBt P v.2.1 v.2.2.1 v.2.2.2.1 v.2.2.2.2.1 v.2.2.2.2.2.1 w.2.1 st v.2.2.2.2.2.2.1 ac w.2.2.2 ∧ ∃ K', KR P kp ks km kz kn v.2.2.2.2.2.2.2 kept w.2.2.1 K' := by
  have hK' := hK
  obtain ⟨h2, rfl, rfl, hk⟩ := hK'
  have h' := h
  obtain ⟨B, now, A, hBR, hs, hB, rfl, rfl, hst, hv⟩ := h'
  unfold g_X11_back g_X12_back
  by_cases c : K.length = 0
  · rw [c, if_neg (show ¬ (1 : Int32) ≤ nI 0 by decide), if_pos (show nI 0 = 0 from rfl)]
    refine ⟨_, _, rfl, rfl, rfl, h, K, h2, by rw [c], by rw [c], hk⟩
  · obtain ⟨i, hi⟩ : ∃ i, K.length = i + 1 := ⟨K.length - 1, by omega⟩
    obtain ⟨e, he⟩ : ∃ e, K[i]? = some e := ⟨_, List.getElem?_eq_getElem (by omega)⟩
    obtain ⟨q1, q2, q3, q4, q5⟩ := hk i e he
    obtain ⟨p', s', m', e1, e2⟩ := pX0_copyFrom (N := N) q1 q4.1 (by omega) (nI e.2) bp bs bm (nI B.length) (nI now)
    have e3 := bk_loop N kept (g_X12_back_b54 N kept) s an (show i < 2 by omega) 74 0 (by omega) N (by omega)
    rw [blk_0] at e3
    have e3' : g_X12_back_L22 N kept (g_X12_back_b54 N kept) N s (nI i) an 0 = _ := e3
    rw [hi, nI_pred, if_pos (by rw [l1, nle (by omega) (by omega)]; omega), if_neg (by rw [l0, neq (by omega) (by omega)]; omega), gi_nI (by omega) (by omega), nc (by omega), q2, q3, e1, e3']
    unfold g_X12_back_b54
    refine ⟨_, _, rfl, rfl, rfl, ⟨e.1, e.2, [], e2, q5.congr q4.1 (fun k hk => ?_), q4, rfl, rfl, ⟨by simp, rfl, rfl, fun x hx => by simp at hx, fun j x hj => by simp at hj, fun j x hj => by simp at hj⟩, trivial⟩, K.take i, by simp; omega, by simp; rw [Nat.min_eq_left (by omega)], by simp; rw [Nat.min_eq_left (by omega)], fun j x hj => ?_⟩
    · show blk s (fun k => kept (74 * i + k)) 0 74 k = kept (74 * i + k)
      unfold blk
      rw [if_pos (by omega), Nat.sub_zero]
    · rw [List.getElem?_take] at hj
      split at hj
      · exact hk j x hj
      · cases hj
theorem t_count {N P S H law : Nat} {mi book : Nat → Int32} {d : Nat → Nat → Nat} (hh : HOk P S H law mi book d) {bp bs bm s st ac : Nat → Int32} {bz bn sn an : Int32} (h : RBt P bp bs bm bz bn s st sn ac an) {tz ln wz rz rm sz tm kc kx : Int32} (h1 : tz = ln) (h2 : book 4 = wz) (h3 : rz = rm) (h4 : sz = tm) (h5 : kc = kx) (x1 : Int32) :
    ∃ v w, g_X11_count N tz wz (nI P) (nI S) bz bn sn rz sz kc x1 = some v ∧ g_X12_count N ln book s kx an rm tm x1 = some w ∧ v = w := by
  obtain ⟨⟨hP1, hP⟩, ⟨hS1, hS⟩, ⟨hH1, hH⟩, hlaw, hdr, hdb, hd0, k0, k1, k2, k3⟩ := hh
  obtain ⟨B, now, A, hBR, hs, hB, rfl, rfl, hst, hv⟩ := h
  obtain ⟨q1, rfl, rfl, q2, q3, q4⟩ := hst
  subst h1 h2 h3 h4 h5
  unfold g_X11_count g_X12_count g_X12_count_b73 g_X12_count_b129
  have e10 : (9 : Int32) = nI 10 - 1 := rfl
  have hin : g_X12_in N x1 0 9 = some (if ixB x1 10 then 1 else 0) := by rw [e10]; exact pX12_in0z N 10 (by omega) x1
  rw [hin]
  have g0 : ∀ {α : Type} (x : Option α), gi 0 74 x = x := fun x => by rw [l0, gi_nI (by omega) (by omega)]
  have g1 : ∀ {α : Type} (x : Option α), gi 1 74 x = x := fun x => by rw [l1, gi_nI (by omega) (by omega)]
  have g2 : ∀ {α : Type} (x : Option α), gi 0 78 x = x := fun x => by rw [l0, gi_nI (by omega) (by omega)]
  have g3 : ∀ {α : Type} (x : Option α), gi 3 78 x = x := fun x => by rw [l3, gi_nI (by omega) (by omega)]
  have g4 : ∀ {α : Type} (x : Option α), gi 4 78 x = x := fun x => by rw [l4, gi_nI (by omega) (by omega)]
  rw [g0, g1, g2, g3, g4, show (0 : Int32).toNatClampNeg = 0 from rfl, show (1 : Int32).toNatClampNeg = 1 from rfl, show (3 : Int32).toNatClampNeg = 3 from rfl, show (4 : Int32).toNatClampNeg = 4 from rfl, k0, k3, hs.1, hs.2.1]
  cases hx : ixB x1 10 with
  | false =>
    have hz := ixB_none hx (by omega)
    have z : ∀ j, j < 10 → ¬ x1 = nI j := fun j hj e => by
      rw [(ixB_iff (by omega)).mpr ⟨j, hj, e⟩] at hx; cases hx
    rw [if_neg (show ¬ x1 = 0 from z 0 (by omega)), if_neg (show ¬ x1 = 1 from z 1 (by omega)), if_neg (show ¬ x1 = 2 from z 2 (by omega)), if_neg (show ¬ x1 = 3 from z 3 (by omega)), if_neg (show ¬ x1 = 4 from z 4 (by omega)), if_neg (show ¬ x1 = 5 from z 5 (by omega)), if_neg (show ¬ x1 = 6 from z 6 (by omega)), if_neg (show ¬ x1 = 7 from z 7 (by omega)), if_neg (show ¬ x1 = 8 from z 8 (by omega)), if_neg (show ¬ x1 = 9 from z 9 (by omega))]
    exact ⟨_, _, rfl, rfl, rfl⟩
  | true =>
    obtain ⟨j, hj, rfl⟩ := (ixB_iff (by omega)).mp hx
    rcases (show j = 0 ∨ j = 1 ∨ j = 2 ∨ j = 3 ∨ j = 4 ∨ j = 5 ∨ j = 6 ∨ j = 7 ∨ j = 8 ∨ j = 9 by omega) with rfl | rfl | rfl | rfl | rfl | rfl | rfl | rfl | rfl | rfl <;> exact ⟨_, _, rfl, rfl, rfl⟩
