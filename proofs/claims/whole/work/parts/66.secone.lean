/-! ===== one beat more, drummed at some earlier minute ===== -/
/-- whether the k-th is heard ahead of a beat of minute t that is heard at h -/
def ahB (d : Nat → Nat → Nat) (p : Nat) (B : List Be) (t h k : Nat) : Bool := decide (bW d p B k < h) || (decide (bW d p B k = h) && decide (bM B k ≤ t))
def secA (d : Nat → Nat → Nat) (p : Nat) (B : List Be) (t h : Nat) : List Nat := (ordB d p B).takeWhile (ahB d p B t h)
def secR (d : Nat → Nat → Nat) (p : Nat) (B : List Be) (now t h : Nat) : List Nat := ((ordB d p B).drop (secA d p B t h).length).takeWhile (fun k => decide (bW d p B k ≤ now))
def secL (d : Nat → Nat → Nat) (p : Nat) (B : List Be) (now : Nat) (e : Be) : List Nat := if e.2.2 + d e.1 p ≤ now then secA d p B e.2.2 (e.2.2 + d e.1 p) ++ B.length :: secR d p B now e.2.2 (e.2.2 + d e.1 p) else ordT d p B now
def secS (law H : Nat) (d : Nat → Nat → Nat) (p : Nat) (B : List Be) (now : Nat) (e : Be) : List Nat := (runI law H (bF d p (B ++ [e])) [] (secL d p B now e)).map (bS (B ++ [e]))
section SECONE
variable {P now : Nat} {B : List Be} {d : Nat → Nat → Nat} {p : Nat}
theorem ahB_iff {t h k : Nat} : ahB d p B t h k = true ↔ bW d p B k < h ∨ (bW d p B k = h ∧ bM B k ≤ t) := by
  unfold ahB
  rw [Bool.or_eq_true, Bool.and_eq_true, decide_eq_true_iff, decide_eq_true_iff, decide_eq_true_iff]
theorem secA_take (t h : Nat) : (ordB d p B).take (secA d p B t h).length = secA d p B t h := takeWhile_len_take _ _
theorem secA_drop (t h : Nat) : ordB d p B = secA d p B t h ++ (ordB d p B).drop (secA d p B t h).length := by
  conv => lhs; rw [← List.take_append_drop (secA d p B t h).length (ordB d p B), secA_take]
theorem secA_all {t h k : Nat} (hk : k ∈ secA d p B t h) : bW d p B k < h ∨ (bW d p B k = h ∧ bM B k ≤ t) := ahB_iff.mp (tw_all hk)
/-- those behind the ones ahead are not ahead -/
theorem tw_rest {α : Type} {q : α → Bool} {r : α → α → Prop} (hq : ∀ a b, r a b → q b = true → q a = true) : ∀ {l : List α}, l.Pairwise r → ∀ x ∈ l.drop (l.takeWhile q).length, q x = false := by
  intro l
  induction l with
  | nil => intro _ x hx; simp at hx
  | cons a l ih =>
    intro hp x hx
    rw [List.pairwise_cons] at hp
    cases ha : q a with
    | true =>
      rw [List.takeWhile_cons_of_pos ha, List.length_cons, List.drop_succ_cons] at hx
      exact ih hp.2 x hx
    | false =>
      rw [List.takeWhile_cons_of_neg (by rw [ha]; decide), List.length_nil, List.drop_zero] at hx
      rcases List.mem_cons.mp hx with z | z
      · rw [z]; exact ha
      · cases hx' : q x with
        | false => rfl
        | true => rw [hq a x (hp.1 x z) hx'] at ha; exact absurd ha (by decide)
theorem secD_not (hB : BOk P B now) {t h k : Nat} (hk : k ∈ (ordB d p B).drop (secA d p B t h).length) : h < bW d p B k ∨ (bW d p B k = h ∧ t < bM B k) := by
  have := tw_rest (q := ahB d p B t h) (r := ltK (bW d p B) (bM B)) (fun a b hab hb => by
    rw [ahB_iff] at hb ⊢
    unfold ltK at hab
    omega) (ordB_spec hB d p).1 k hk
  have h2 : ¬ (bW d p B k < h ∨ (bW d p B k = h ∧ bM B k ≤ t)) := fun z => by rw [ahB_iff.mpr z] at this; exact absurd this (by decide)
  omega
theorem secAR (hB : BOk P B now) {t h : Nat} (hh : h ≤ now) : ordT d p B now = secA d p B t h ++ secR d p B now t h := by
  unfold ordT secR
  conv => lhs; rw [secA_drop (d := d) (p := p) (B := B) t h]
  exact tw_app (fun a ha => by
    rw [decide_eq_true_iff]
    have := secA_all ha
    omega)
theorem secR_not (hB : BOk P B now) {t h k : Nat} (hk : k ∈ secR d p B now t h) : h < bW d p B k ∨ (bW d p B k = h ∧ t < bM B k) := secD_not hB ((List.takeWhile_sublist _).subset hk)
theorem bd_one (e : Be) : (B ++ [e]).getD B.length b0 = e := bd_new e
theorem secL_srt (hB : BOk P B now) (e : Be) : Srt (bW d p (B ++ [e])) (bM (B ++ [e])) now (B ++ [e]).length (secL d p B now e) := by
  have hlen : (B ++ [e]).length = B.length + 1 := by simp
  have eW : bW d p (B ++ [e]) B.length = e.2.2 + d e.1 p := by unfold bW bM bP; rw [bd_one]
  have eM : bM (B ++ [e]) B.length = e.2.2 := by unfold bM; rw [bd_one]
  have hot := ordT_pw hB d p now
  have hol := ordT_len hB d p now
  unfold secL
  by_cases c : e.2.2 + d e.1 p ≤ now
  · rw [if_pos c]
    have hAR := secAR (d := d) (p := p) (t := e.2.2) hB c
    have hmem : ∀ k, (k ∈ secA d p B e.2.2 (e.2.2 + d e.1 p) ∨ k ∈ secR d p B now e.2.2 (e.2.2 + d e.1 p)) ↔ k < B.length ∧ bW d p B k ≤ now := fun k => by
      rw [← ordT_mem hB d p now k, hAR, List.mem_append]
    rw [hAR, List.pairwise_append] at hot
    obtain ⟨hA, hR, hX⟩ := hot
    refine ⟨?_, fun k => ?_, ?_⟩
    · rw [List.pairwise_append, List.pairwise_cons]
      have lt_old : ∀ {a b : Nat}, a < B.length → b < B.length → ltK (bW d p B) (bM B) a b → ltK (bW d p (B ++ [e])) (bM (B ++ [e])) a b := fun ha hb h => by
        unfold ltK at h ⊢
        rw [bW_app ha, bW_app hb, bM_app ha, bM_app hb]
        exact h
      refine ⟨hA.imp_of_mem (fun ha hb h => lt_old ((hmem _).mp (Or.inl ha)).1 ((hmem _).mp (Or.inl hb)).1 h), ⟨fun b hb => ?_, hR.imp_of_mem (fun ha hb h => lt_old ((hmem _).mp (Or.inr ha)).1 ((hmem _).mp (Or.inr hb)).1 h)⟩, fun a ha b hb => ?_⟩
      · have hbl := ((hmem b).mp (Or.inr hb)).1
        have := secR_not hB hb
        unfold ltK
        rw [eW, eM, bW_app hbl, bM_app hbl]
        omega
      · have hal := ((hmem a).mp (Or.inl ha)).1
        rcases List.mem_cons.mp hb with z | z
        · subst z
          have := secA_all ha
          unfold ltK
          rw [eW, eM, bW_app hal, bM_app hal]
          omega
        · exact lt_old hal ((hmem b).mp (Or.inr z)).1 (hX a ha b z)
    · rw [List.mem_append, List.mem_cons, hlen]
      constructor
      · rintro (z | z | z)
        · have := (hmem k).mp (Or.inl z); rw [bW_app this.1]; omega
        · subst z; rw [eW]; omega
        · have := (hmem k).mp (Or.inr z); rw [bW_app this.1]; omega
      · intro ⟨k1, k2⟩
        by_cases z : k = B.length
        · exact Or.inr (Or.inl z)
        · have hk : k < B.length := by omega
          rw [bW_app hk] at k2
          rcases (hmem k).mpr ⟨hk, k2⟩ with y | y
          · exact Or.inl y
          · exact Or.inr (Or.inr y)
    · have h1 := congrArg List.length hAR
      rw [List.length_append] at h1
      rw [List.length_append, List.length_cons, hlen]
      omega
  · rw [if_neg c]
    have hmem := ordT_mem hB d p now
    refine ⟨hot.imp_of_mem (fun {a b} ha hb h => ?_), fun k => ?_, by omega⟩
    · have hal := ((hmem a).mp ha).1
      have hbl := ((hmem b).mp hb).1
      unfold ltK at h ⊢
      rw [bW_app hal, bW_app hbl, bM_app hal, bM_app hbl]
      exact h
    · rw [hmem, hlen]
      constructor
      · intro ⟨k1, k2⟩; rw [bW_app k1]; omega
      · intro ⟨k1, k2⟩
        by_cases z : k = B.length
        · subst z; rw [eW] at k2; omega
        · have hk : k < B.length := by omega
          rw [bW_app hk] at k2
          exact ⟨hk, k2⟩
theorem secL_len (hB : BOk P B now) (e : Be) : (secL d p B now e).length ≤ 25 := by
  have := (secL_srt (d := d) (p := p) hB e).2.2
  have := hB.1
  simp at *; omega
theorem secS_ok {law H : Nat} (hB : BOk P B now) {e : Be} (he : e.2.1 < 8) : (∀ x ∈ secS law H d p B now e, x < 8) ∧ (secS law H d p B now e).length ≤ 25 := by
  have hl := secL_len (d := d) (p := p) hB e
  unfold secS
  refine ⟨fun x hx => ?_, ?_⟩
  · obtain ⟨k, hk, rfl⟩ := List.mem_map.mp hx
    rcases runI_mem hk with z | z
    · cases z
    · exact bS_all hB (fun y hy => by rw [List.mem_singleton.mp hy]; exact he) k (((secL_srt (d := d) (p := p) hB e).2.1 k).mp z).1
  · rw [List.length_map]
    have := runI_len (law := law) (H := H) (f := bF d p (B ++ [e])) (R := secL d p B now e) (S := [])
    rw [List.length_nil] at this
    omega
/-- how many more are ahead, from i on -/
def toAhead (Q : List Qe) (t h i : Nat) : Nat := ((Q.drop i).takeWhile (fun e => decide (e.2.2 < h) || (decide (e.2.2 = h) && decide (e.2.1 ≤ t)))).length
theorem pX3_isAhead {N m : Nat} {qs qd qh : Nat → Int32} {Q : List Qe} (hQ : QR qs qd qh Q) {i : Nat} {e : Qe} (he : Q[i]? = some e) (hq : e.2.1 < 1000000 ∧ e.2.2 < 1000000) (hm : i < m) (hm2 : m < 1000) {t h : Nat} (ht : t < 1000000) (hh : h < 1000000) : g_X3_isAhead N m qd qh (nI i) (nI t) (nI h) = some (bI (decide (e.2.2 < h) || (decide (e.2.2 = h) && decide (e.2.1 ≤ t)))) := by
  obtain ⟨q1, q2, q3⟩ := hQ i e he
  unfold g_X3_isAhead g_X3_isAhead_b30
  rw [gi_nI hm (by omega), gi_nI hm (by omega), gi_nI hm (by omega), nc (by omega), q2, q3]
  by_cases c1 : e.2.2 < h
  · rw [if_pos ((nlt (by omega) (by omega)).mpr c1), decide_eq_true c1, Bool.true_or]; rfl
  · rw [if_neg (fun z => c1 ((nlt (by omega) (by omega)).mp z)), decide_eq_false c1, Bool.false_or]
    by_cases c2 : e.2.2 = h
    · rw [if_pos (by rw [c2]), decide_eq_true c2, Bool.true_and]
      by_cases c3 : e.2.1 ≤ t
      · rw [if_neg (by rw [nlt (by omega) (by omega)]; omega), decide_eq_true c3]; rfl
      · rw [if_pos ((nlt (by omega) (by omega)).mpr (by omega)), decide_eq_false c3]; rfl
    · rw [if_neg (fun z => c2 ((neq (by omega) (by omega)).mp z)), decide_eq_false c2, Bool.false_and]; rfl
theorem pX5_hearAhead {N n m H law : Nat} {qs qd qh : Nat → Int32} {Q : List Qe} (hQ : QR qs qd qh Q) (hs : Q.Pairwise (fun a b => a.2.2 ≤ b.2.2)) (hq : ∀ e ∈ Q, e.1 < 8 ∧ e.2.2 < 1000000) (hqd : ∀ e ∈ Q, e.2.1 < 1000000) (hm : Q.length ≤ m) (hm2 : m < 1000) (hn2 : n < 1000) (hH : H < 1000) (hlaw : law < 3) {t h : Nat} (ht : t < 1000000) (hh : h < 1000000) :
    ∀ (k i : Nat), i + k = Q.length → ∀ fu, k < fu → ∀ (so ma he : Nat → Int32) (l : List Tr), RowR so ma he l → (∀ q ∈ Q.drop i, RowOk l q.2.2) → l.length + k ≤ n → l.length + k < N →
    ∃ so' ma' he', g_X5_hearAhead_L0 N n m (nI H) (nI law) qs qd qh (nI Q.length) fu so ma (nI l.length) he (nI i) (nI t) (nI h) = some (so', ma', nI (runC law H l (((evQ Q).drop i).take (toAhead Q t h i))).length, he', nI (i + toAhead Q t h i)) ∧ RowR so' ma' he' (runC law H l (((evQ Q).drop i).take (toAhead Q t h i))) := by
  intro k
  induction k with
  | zero =>
    intro i hi fu hfu so ma he l hr hok hln hlN
    obtain ⟨f, rfl⟩ : ∃ f, fu = f + 1 := ⟨fu - 1, by omega⟩
    have : i = Q.length := by omega
    subst this
    have e0 : toAhead Q t h Q.length = 0 := by unfold toAhead; rw [List.drop_length]; rfl
    rw [e0, List.take_zero]
    unfold g_X5_hearAhead_L0
    rw [if_pos ((nle (by omega) (by omega)).mpr (Nat.le_refl _))]
    exact ⟨so, ma, he, rfl, hr⟩
  | succ k ih =>
    intro i hi fu hfu so ma he l hr hok hln hlN
    obtain ⟨f, rfl⟩ : ∃ f, fu = f + 1 := ⟨fu - 1, by omega⟩
    obtain ⟨e, he0⟩ : ∃ e, Q[i]? = some e := ⟨Q[i], List.getElem?_eq_getElem (by omega)⟩
    obtain ⟨q1, q2, q3⟩ := hQ i e he0
    obtain ⟨c1, c2⟩ := hq e (List.mem_of_getElem? he0)
    have c3 := hqd e (List.mem_of_getElem? he0)
    have hdrop : Q.drop i = e :: Q.drop (i + 1) := by rw [List.drop_eq_getElem?_toList_append, he0]; rfl
    have hevd : (evQ Q).drop i = (e.1, e.2.2, nI i) :: (evQ Q).drop (i + 1) := by
      have : (evQ Q)[i]? = some (e.1, e.2.2, nI i) := by
        unfold evQ
        rw [List.getElem?_map, List.getElem?_zipIdx, he0]
        simp
      rw [List.drop_eq_getElem?_toList_append, this]; rfl
    unfold g_X5_hearAhead_L0
    rw [if_neg (by rw [nle (by omega) (by omega)]; omega), pX3_isAhead (N := N) hQ he0 ⟨c3, c2⟩ (by omega) hm2 ht hh]
    simp only [Option.bind_some]
    cases a : decide (e.2.2 < h) || (decide (e.2.2 = h) && decide (e.2.1 ≤ t)) with
    | true =>
      have e1 : toAhead Q t h i = toAhead Q t h (i + 1) + 1 := by
        unfold toAhead
        rw [hdrop, List.takeWhile_cons_of_pos (by exact a), List.length_cons]
      have hoke : RowOk l e.2.2 := hok e (by rw [hdrop]; exact List.mem_cons_self)
      obtain ⟨so', ma', he', h1, h2⟩ := pX5_hear (N := N) (n := n) (H := H) (law := law) hr (e.1, e.2.2, nI i) hoke (by omega) hn2 (by show e.2.2 < _; omega) hH c1 hlaw (by omega)
      have hlen := hearC_len (law := law) (H := H) (l := l) (e := ((e.1, e.2.2, nI i) : Tr))
      obtain ⟨so2, ma2, he2, h3, h4⟩ := ih (i + 1) (by omega) f (by omega) so' ma' he' (hearC law H l (e.1, e.2.2, nI i)) h2 (fun q hq2 => by
        have h5 := hearC_ok (law := law) (H := H) (e := ((e.1, e.2.2, nI i) : Tr)) hoke rfl c1
        refine h5.mono ?_
        rw [hdrop] at hok
        have h6 := hs
        rw [← List.take_append_drop i Q, hdrop, List.pairwise_append] at h6
        exact (List.pairwise_cons.mp h6.2.1).1 q hq2) (by omega) (by omega)
      rw [if_neg (show ¬ bI true = 0 by decide), gi_nI (by omega) (by omega), gi_nI (by omega) (by omega), nc (by omega), q1, q3]
      have h1' : g_X5_hear N n (nI H) (nI law) so ma (nI l.length) he (nI e.1) (nI e.2.2) (nI i) = some (so', ma', nI (hearC law H l (e.1, e.2.2, nI i)).length, he') := h1
      rw [h1']
      simp only [Option.bind_some]
      rw [nI_1, e1, hevd, List.take_succ_cons]
      refine ⟨so2, ma2, he2, ?_, h4⟩
      rw [h3, show i + (toAhead Q t h (i + 1) + 1) = i + 1 + toAhead Q t h (i + 1) by omega]
      rfl
    | false =>
      have e1 : toAhead Q t h i = 0 := by
        unfold toAhead
        rw [hdrop, List.takeWhile_cons_of_neg (by rw [a]; decide)]
        rfl
      rw [e1, List.take_zero, if_pos (show bI false = 0 from rfl)]
      exact ⟨so, ma, he, rfl, hr⟩
end SECONE
