/-! ===== rows tried: by numbers ===== -/
def sumN : Nat → (Nat → Nat) → Nat
  | 0, _ => 0
  | n + 1, f => sumN n f + f n
theorem sumN_congr {f g : Nat → Nat} : ∀ {n : Nat}, (∀ i, i < n → f i = g i) → sumN n f = sumN n g := by
  intro n
  induction n with
  | zero => intro _; rfl
  | succ n ih =>
    intro h
    unfold sumN
    rw [ih (fun i hi => h i (by omega)), h n (by omega)]
theorem sumN_zero : ∀ {n : Nat}, sumN n (fun _ => 0) = 0 := by
  intro n
  induction n with
  | zero => rfl
  | succ n ih =>
    show sumN n (fun _ => 0) + 0 = 0
    rw [ih]
theorem sumN_app {f : Nat → Nat} (a : Nat) : ∀ (b : Nat), sumN (a + b) f = sumN a f + sumN b (fun i => f (a + i)) := by
  intro b
  induction b with
  | zero => rfl
  | succ b ih =>
    rw [← Nat.add_assoc]
    show sumN (a + b) f + f (a + b) = sumN a f + (sumN b (fun i => f (a + i)) + f (a + b))
    rw [ih]; omega
theorem sumN_two {f g : Nat → Nat} : ∀ (n : Nat), sumN n f + sumN n g = sumN n (fun i => f i + g i) := by
  intro n
  induction n with
  | zero => rfl
  | succ n ih =>
    show sumN n f + f n + (sumN n g + g n) = sumN n (fun i => f i + g i) + (f n + g n)
    rw [← ih]; omega
theorem sumN_dm {F : Nat → Nat → Nat} {k : Nat} (hk : 0 < k) : ∀ (m : Nat), sumN (m * k) (fun x => F (x % k) (x / k)) = sumN k (fun c => sumN m (fun q => F c q)) := by
  intro m
  induction m with
  | zero =>
    rw [Nat.zero_mul]
    show 0 = sumN k (fun c => 0)
    rw [sumN_zero]
  | succ m ih =>
    rw [Nat.succ_mul, sumN_app, ih]
    have h1 : sumN k (fun i => F ((m * k + i) % k) ((m * k + i) / k)) = sumN k (fun c => F c m) := by
      apply sumN_congr
      intro i hi
      have e1 : (m * k + i) % k = i := by rw [Nat.add_comm, Nat.add_mul_mod_self_right, Nat.mod_eq_of_lt hi]
      have e2 : (m * k + i) / k = m := by rw [Nat.add_comm, Nat.add_mul_div_right _ _ hk, Nat.div_eq_of_lt hi, Nat.zero_add]
      rw [e1, e2]
    rw [h1, sumN_two]
    rfl
theorem sumN_le {f : Nat → Nat} {b : Nat} : ∀ {n : Nat}, (∀ i, i < n → f i ≤ b) → sumN n f ≤ n * b := by
  intro n
  induction n with
  | zero => intro _; exact Nat.zero_le _
  | succ n ih =>
    intro h
    have h1 := ih (fun i hi => h i (by omega))
    have h2 := h n (by omega)
    unfold sumN
    rw [Nat.succ_mul]; omega
theorem sumN_pos {f : Nat → Nat} : ∀ {n : Nat}, 0 < sumN n f ↔ ∃ i, i < n ∧ 0 < f i := by
  intro n
  induction n with
  | zero => exact ⟨fun h => absurd h (by show ¬ 0 < 0; omega), fun ⟨i, hi, _⟩ => by omega⟩
  | succ n ih =>
    unfold sumN
    constructor
    · intro h
      by_cases c : 0 < f n
      · exact ⟨n, by omega, c⟩
      · obtain ⟨i, hi, h2⟩ := ih.mp (by omega)
        exact ⟨i, by omega, h2⟩
    · rintro ⟨i, hi, h2⟩
      by_cases c : i = n
      · subst c; omega
      · have := ih.mpr ⟨i, by omega, h2⟩; omega
def digs (k : Nat) : Nat → Nat → List Nat
  | 0, _ => []
  | n + 1, x => (x % k) :: digs k n (x / k)
theorem digs_len (k : Nat) : ∀ (n x : Nat), (digs k n x).length = n := by
  intro n
  induction n with
  | zero => intro x; rfl
  | succ n ih => intro x; unfold digs; rw [List.length_cons, ih]
theorem digs_lt {k : Nat} (hk : 0 < k) : ∀ (n x : Nat), ∀ c ∈ digs k n x, c < k := by
  intro n
  induction n with
  | zero => intro x c h; cases h
  | succ n ih =>
    intro x c h
    unfold digs at h
    rcases List.mem_cons.mp h with z | z
    · rw [z]; exact Nat.mod_lt _ hk
    · exact ih _ c z
/-- one beat tried behind those tried -/
def tr1 (law H : Nat) (d : Nat → Nat → Nat) (p : Nat) (B : List Be) (now : Nat) (X : List Be × List Nat) (c : Nat) : List Be × List Nat := (X.1 ++ [(p, c, now + X.1.length)], hearI law H (bF d p (B ++ (X.1 ++ [(p, c, now + X.1.length)]))) (runI law H (bF d p (B ++ X.1)) X.2 (seg d p B (now + (X.1.length - 1)) (now + X.1.length))) (B ++ X.1).length)
def trN (law H : Nat) (d : Nat → Nat → Nat) (p : Nat) (B : List Be) (now : Nat) (X : List Be × List Nat) (q : List Nat) : List Be × List Nat := q.foldl (tr1 law H d p B now) X
/-- the sorts that stand -/
def soX (B : List Be) (X : List Be × List Nat) : List Nat := X.2.map (bS (B ++ X.1))
def cw (law H : Nat) (d : Nat → Nat → Nat) (p : Nat) (B : List Be) (now Sn : Nat) (rch : List Nat → Bool) : Nat → List Be × List Nat → Nat
  | 0, X => if rch (soX B X) then 1 else 0
  | r + 1, X => sumN Sn (fun c => cw law H d p B now Sn rch r (tr1 law H d p B now X c))
theorem cw_codes {law H : Nat} {d : Nat → Nat → Nat} {p : Nat} {B : List Be} {now Sn : Nat} {rch : List Nat → Bool} (hS : 0 < Sn) : ∀ (r : Nat) (X : List Be × List Nat), sumN (Sn ^ r) (fun x => if rch (soX B (trN law H d p B now X (digs Sn r x))) then 1 else 0) = cw law H d p B now Sn rch r X := by
  intro r
  induction r with
  | zero =>
    intro X
    show 0 + _ = _
    rw [Nat.zero_add]
    rfl
  | succ r ih =>
    intro X
    unfold cw
    rw [Nat.pow_succ]
    have h1 := sumN_dm (F := fun c q => if rch (soX B (trN law H d p B now (tr1 law H d p B now X c) (digs Sn r q))) then 1 else 0) hS (Sn ^ r)
    have h2 : sumN (Sn ^ r * Sn) (fun x => if rch (soX B (trN law H d p B now X (digs Sn (r + 1) x))) then 1 else 0) = _ := h1
    rw [h2]
    apply sumN_congr
    intro c _
    exact ih (tr1 law H d p B now X c)
theorem cw_le {law H : Nat} {d : Nat → Nat → Nat} {p : Nat} {B : List Be} {now Sn : Nat} {rch : List Nat → Bool} : ∀ (r : Nat) (X : List Be × List Nat), cw law H d p B now Sn rch r X ≤ Sn ^ r := by
  intro r
  induction r with
  | zero =>
    intro X
    unfold cw
    split
    · exact Nat.le_refl _
    · exact Nat.zero_le _
  | succ r ih =>
    intro X
    unfold cw
    rw [Nat.pow_succ, Nat.mul_comm]
    exact sumN_le (fun c _ => ih _)
theorem pow_small {S r : Nat} (hS : S ≤ 8) (hr : r ≤ 4) : S ^ r ≤ 4096 := by
  have h1 : S ^ r ≤ 8 ^ r := Nat.pow_le_pow_left hS r
  have h2 : 8 ^ r ≤ 8 ^ 4 := Nat.pow_le_pow_right (by omega) hr
  have h3 : (8 : Nat) ^ 4 = 4096 := by decide
  omega
/-- what is known of those tried -/
def TX (law H : Nat) (d : Nat → Nat → Nat) (p : Nat) (B : List Be) (now : Nat) (X : List Be × List Nat) : Prop := (∀ e ∈ X.1, e.1 = p ∧ e.2.1 < 8 ∧ e.2.2 ≤ now + (X.1.length - 1)) ∧ EX law H d p B X.1 (now + (X.1.length - 1)) X.2
section WAYS
variable {N P Sn H law now : Nat} {mi book bp bs bm s : Nat → Int32} {d : Nat → Nat → Nat} {B : List Be} {p : Nat}
theorem TX.start (hB : BOk P B now) : TX law H d p B now ([], stdB law H d p B now) := ⟨fun e he => (by cases he), EX.start hB law H d p now⟩
theorem TX.mid (hB : BOk P B now) (hp : p < P) (hd0 : d p p = 0) {X : List Be × List Nat} (h : TX law H d p B now X) : EX law H d p B X.1 (now + X.1.length) (runI law H (bF d p (B ++ X.1)) X.2 (seg d p B (now + (X.1.length - 1)) (now + X.1.length))) := h.2.more hB (by omega) (bW_E hB (by omega) hp hd0 h.1)
theorem TX.step (hB : BOk P B now) (hp : p < P) (hd0 : d p p = 0) {X : List Be × List Nat} (h : TX law H d p B now X) {c : Nat} (hc : c < 8) : TX law H d p B now (tr1 law H d p B now X c) := by
  have hm := h.mid hB hp hd0
  have h1 : ∀ e ∈ X.1, e.1 = p ∧ e.2.1 < 8 ∧ e.2.2 ≤ now + X.1.length := fun e he => ⟨(h.1 e he).1, (h.1 e he).2.1, by have := (h.1 e he).2.2; omega⟩
  have ha := hm.add (p, c, now + X.1.length) (by show now + X.1.length + d p p = _; rw [hd0]; omega) (fun k hk => (bAll hB (show now ≤ now + X.1.length by omega) hp h1 hk).2.2.1)
  have e1 : now + ((X.1 ++ [(p, c, now + X.1.length)]).length - 1) = now + X.1.length := by rw [List.length_append, List.length_singleton]; omega
  unfold TX tr1
  dsimp only
  rw [e1]
  refine ⟨fun e he => ?_, ha⟩
  rcases List.mem_append.mp he with z | z
  · exact h1 e z
  · rw [List.mem_singleton.mp z]; exact ⟨rfl, hc, Nat.le_refl _⟩
theorem TX.many (hB : BOk P B now) (hp : p < P) (hd0 : d p p = 0) : ∀ {q : List Nat} {X : List Be × List Nat}, (∀ c ∈ q, c < 8) → TX law H d p B now X → TX law H d p B now (trN law H d p B now X q) := by
  intro q
  induction q with
  | nil => intro X _ h; exact h
  | cons c q ih =>
    intro X hq h
    exact ih (fun x hx => hq x (List.mem_cons_of_mem _ hx)) (h.step hB hp hd0 (hq c List.mem_cons_self))
theorem TX.b8 (hB : BOk P B now) (hp : p < P) {X : List Be × List Nat} (h : TX law H d p B now X) : ∀ k, k < (B ++ X.1).length → bS (B ++ X.1) k < 8 := fun k hk => (bAll hB (show now ≤ now + (X.1.length - 1) by omega) hp h.1 hk).2.1
theorem TX.so8 (hB : BOk P B now) (hp : p < P) {X : List Be × List Nat} (h : TX law H d p B now X) : ∀ x ∈ soX B X, x < 8 := by
  intro x hx
  obtain ⟨k, hk, rfl⟩ := List.mem_map.mp hx
  exact h.b8 hB hp k (h.2.props.2.1 k hk).1
theorem TX.len (hB : BOk P B now) {X : List Be × List Nat} (h : TX law H d p B now X) : X.2.length ≤ 24 + X.1.length := by
  have h1 := h.2.props.2.2
  have h2 := ordT_len hB d p (now + (X.1.length - 1))
  have h3 := hB.1
  omega
theorem trN_len {q : List Nat} : ∀ {X : List Be × List Nat}, (trN law H d p B now X q).1.length = X.1.length + q.length := by
  induction q with
  | nil => intro X; rfl
  | cons c q ih =>
    intro X
    show (trN law H d p B now (tr1 law H d p B now X c) q).1.length = _
    rw [ih]
    unfold tr1
    simp; omega
theorem RowR.so {so ma he : Nat → Int32} {X : List Be × List Nat} (h : RowR so ma he (X.2.map (phE d p B X.1))) : Rp so (soX B X) := by
  intro j x hj
  unfold soX at hj
  rw [List.getElem?_map] at hj
  cases hk : X.2[j]? with
  | none => rw [hk] at hj; cases hj
  | some k =>
    rw [hk] at hj
    cases hj
    exact (h j (phE d p B X.1 k) (by rw [List.getElem?_map, hk]; rfl)).1
theorem pX5_copyFrom {n m : Nat} {fs fm fh : Nat → Int32} {l : List Tr} (hf : RowR fs fm fh l) (hn : l.length ≤ n) (hm : l.length ≤ m) (hn2 : n < 1000) (hm2 : m < 1000) (hN : 200 + l.length < N) (nx : Int32) (gs gm gh : Nat → Int32) (gz0 gn : Int32) :
    ∃ gs' gm' gh', g_X5_copyFrom N n m fs fm (nI l.length) fh nx gs gm gz0 gh gn = some (gs', gm', nI l.length, gh', nx) ∧ RowR gs' gm' gh' l := by
  unfold g_X5_copyFrom
  rw [if_neg (by rw [nlt (by omega) (by omega)]; omega)]
  suffices h : ∀ (d j : Nat), j + d = l.length → ∀ fu, d < fu → ∀ (gs gm gh : Nat → Int32), (∀ k e, k < j → l[k]? = some e → gs k = nI e.1 ∧ gh k = nI e.2.1 ∧ gm k = e.2.2) → ∃ gs' gm' gh', g_X5_copyFrom_L26 N n m fs fm (nI l.length) fh nx fu gs gm (nI l.length) gh nx (nI j) = some (gs', gm', nI l.length, gh', nx) ∧ RowR gs' gm' gh' l by
    exact h l.length 0 (by omega) N (by omega) gs gm gh (fun k e hk => by omega)
  intro d
  induction d with
  | zero =>
    intro j hj fu hfu gs gm gh hA
    obtain ⟨fv, rfl⟩ : ∃ fv, fu = fv + 1 := ⟨fu - 1, by omega⟩
    have : j = l.length := by omega
    subst this
    unfold g_X5_copyFrom_L26
    rw [if_pos ((nle (by omega) (by omega)).mpr (Nat.le_refl _))]
    exact ⟨gs, gm, gh, rfl, fun k e hk => hA k e (List.getElem?_eq_some_iff.mp hk).1 hk⟩
  | succ d ih =>
    intro j hj fu hfu gs gm gh hA
    obtain ⟨fv, rfl⟩ : ∃ fv, fu = fv + 1 := ⟨fu - 1, by omega⟩
    obtain ⟨e, he⟩ : ∃ e, l[j]? = some e := ⟨_, List.getElem?_eq_getElem (by omega)⟩
    obtain ⟨f1, f2, f3⟩ := hf j e he
    obtain ⟨gs', gm', gh', h1, h2⟩ := ih (j + 1) (by omega) fv (by omega) (upd gs j (nI e.1)) (upd gm j e.2.2) (upd gh j (nI e.2.1)) (fun k x hk hx => by
      unfold upd
      by_cases z : k = j
      · subst z; rw [he] at hx; cases hx; simp
      · simp only [z, if_false]; exact hA k x (by omega) hx)
    refine ⟨gs', gm', gh', ?_, h2⟩
    unfold g_X5_copyFrom_L26
    rw [if_neg (by rw [nle (by omega) (by omega)]; omega), gi_nI (by omega) (by omega), gi_nI (by omega) (by omega), gi_nI (by omega) (by omega), gi_nI (by omega) (by omega), gi_nI (by omega) (by omega), gi_nI (by omega) (by omega), nc (by omega), f1, f2, f3, nI_1]
    exact h1
/-- whether what stands is such, by the class -/
def RchC (N : Nat) (ts : Nat → Int32) (tz x3 : Int32) (rch : List Nat → Bool) : Prop := ∀ (so : Nat → Int32) (R : List Nat), Rp so R → (∀ x ∈ R, x < 8) → R.length ≤ 28 → g_X10_isReached N 28 ts tz so (nI R.length) x3 = some (if rch R then 1 else 0)
theorem pX10_waysFrom (hN : 5000 < N) (hh : HOk P Sn H law mi book d) (hB : BOk P B now) (hp : p < P) {qs qd qh : Nat → Int32} (hQ : QR qs qd qh (queueS d p B)) {ts : Nat → Int32} {tz x3 : Int32} {rch : List Nat → Bool} (hr : RchC N ts tz x3 rch) {n : Nat} (hn4 : n ≤ 4) :
    ∀ (r : Nat) (dp : Nat), r < dp → ∀ (X : List Be × List Nat), X.1.length + r = n → TX law H d p B now X → ∀ (rs rm : Nat → Nat → Int32) (rz : Nat → Int32) (rh : Nat → Nat → Int32) (rn : Nat → Int32), RowR (rs X.1.length) (rm X.1.length) (rh X.1.length) (X.2.map (phE d p B X.1)) → rz X.1.length = nI X.2.length → rn X.1.length = nI (ordT d p B (now + (X.1.length - 1))).length →
    ∃ v, g_X10_waysFrom N (nI Sn) (nI H) (nI law) (nI now) ts tz qs qh (nI B.length) dp rs rm rz rh rn (nI X.1.length) (nI n) x3 = some v ∧ v.1 = nI (cw law H d p B now Sn rch r X) ∧ ∀ i, i < X.1.length → v.2.1 i = rs i ∧ v.2.2.1 i = rm i ∧ v.2.2.2.1 i = rz i ∧ v.2.2.2.2.1 i = rh i ∧ v.2.2.2.2.2 i = rn i := by
  have hh' := hh
  obtain ⟨⟨hP1, hP⟩, ⟨hS1, hS⟩, ⟨hH1, hH⟩, hlaw, hdr, hdb, hd0, k0, k1, k2, k3⟩ := hh'
  have h24 := hB.1
  have hnow := hB.2.2.2
  intro r
  induction r with
  | zero =>
    intro dp hdp X hX hT rs rm rz rh rn h1 h2 h3
    obtain ⟨dq, rfl⟩ : ∃ f, dp = f + 1 := ⟨dp - 1, by omega⟩
    have hl := hT.len hB
    have h4 := hr (rs X.1.length) (soX B X) h1.so (hT.so8 hB hp) (by unfold soX; rw [List.length_map]; omega)
    have h5 : (soX B X).length = X.2.length := by unfold soX; rw [List.length_map]
    unfold g_X10_waysFrom
    rw [if_neg (nI_pos (by omega)), if_pos (by rw [l4, nle (by omega) (by omega)]; omega), gi_nI (by omega) (by omega), if_pos ((nle (by omega) (by omega)).mpr (by omega))]
    unfold g_X10_waysFrom_b29
    rw [h5] at h4
    rw [nc (by omega), h2, h4]
    simp only [Option.bind_some]
    unfold cw
    cases rch (soX B X) with
    | false => exact ⟨_, rfl, rfl, fun i _ => ⟨rfl, rfl, rfl, rfl, rfl⟩⟩
    | true => exact ⟨_, rfl, rfl, fun i _ => ⟨rfl, rfl, rfl, rfl, rfl⟩⟩
  | succ r ih =>
    intro dp hdp X hX hT rs rm rz rh rn h1 h2 h3
    obtain ⟨dq, rfl⟩ : ∃ f, dp = f + 1 := ⟨dp - 1, by omega⟩
    have hl := hT.len hB
    have hmid := hT.mid hB hp (hd0 p hp)
    obtain ⟨so1, ma1, he1, e1, r1⟩ := cl_more (N := N) (n := 28) (m := 24) (H := H) (law := law) (u := now + X.1.length) hdr hB hp hQ (by omega) (by omega) (by omega) (by omega) (by omega) hlaw (by omega) (by omega) hT.2 (hT.b8 hB hp) (by omega) (by omega) h1
    unfold g_X10_waysFrom
    rw [if_neg (nI_pos (by omega)), if_pos (by rw [l4, nle (by omega) (by omega)]; omega), gi_nI (by omega) (by omega), if_neg (by rw [nle (by omega) (by omega)]; omega), if_neg (by rw [l4, neq (by omega) (by omega)]; omega), nc (by omega), h2, h3, nI_add, e1]
    simp only [Option.bind_some]
    rw [nI_1, gi_nI (by omega) (by omega), nc (by omega)]
    obtain ⟨m1, m2, m3⟩ := hmid.props
    have hml : (runI law H (bF d p (B ++ X.1)) X.2 (seg d p B (now + (X.1.length - 1)) (now + X.1.length))).length ≤ 24 + X.1.length := by
      have := ordT_len hB d p (now + X.1.length); omega
    suffices hL : ∀ (k c : Nat), c + k = Sn → ∀ fu, k < fu → ∀ (rs rm : Nat → Nat → Int32) (rz : Nat → Int32) (rh : Nat → Nat → Int32) (rn : Nat → Int32), RowR (rs X.1.length) (rm X.1.length) (rh X.1.length) ((runI law H (bF d p (B ++ X.1)) X.2 (seg d p B (now + (X.1.length - 1)) (now + X.1.length))).map (phE d p B X.1)) → rz X.1.length = nI (runI law H (bF d p (B ++ X.1)) X.2 (seg d p B (now + (X.1.length - 1)) (now + X.1.length))).length → rn X.1.length = nI (ordT d p B (now + X.1.length)).length → ∃ v, g_X10_waysFrom_L83 N (nI Sn) (nI H) (nI law) (nI now) ts tz qs qh (nI B.length) (g_X10_waysFrom N (nI Sn) (nI H) (nI law) (nI now) ts tz qs qh (nI B.length) dq) fu rs rm rz rh rn (nI X.1.length) (nI n) x3 X.1.length (nI (now + X.1.length)) (X.1.length + 1) (nI (sumN c (fun c => cw law H d p B now Sn rch r (tr1 law H d p B now X c)))) (nI c) = some v ∧ v.1 = nI (cw law H d p B now Sn rch (r + 1) X) ∧ ∀ i, i < X.1.length → v.2.1 i = rs i ∧ v.2.2.1 i = rm i ∧ v.2.2.2.1 i = rz i ∧ v.2.2.2.2.1 i = rh i ∧ v.2.2.2.2.2 i = rn i by
      obtain ⟨v, v1, v2, v3⟩ := hL Sn 0 (by omega) N (by omega) (va_up rs X.1.length so1) (va_up rm X.1.length ma1) (va_up rz X.1.length (nI (runI law H (bF d p (B ++ X.1)) X.2 (seg d p B (now + (X.1.length - 1)) (now + X.1.length))).length)) (va_up rh X.1.length he1) (va_up rn X.1.length (nI (ordT d p B (now + X.1.length)).length)) (by simp only [va_up, if_true]; exact r1) (by simp only [va_up, if_true]) (by simp only [va_up, if_true])
      refine ⟨v, v1, v2, fun i hi => ?_⟩
      have h9 := v3 i hi
      have hne : ¬ i = X.1.length := by omega
      simp only [va_up, hne, if_false] at h9
      exact h9
    intro k
    induction k with
    | zero =>
      intro c hc fu hfu rs rm rz rh rn q1 q2 q3
      obtain ⟨fv, rfl⟩ : ∃ fv, fu = fv + 1 := ⟨fu - 1, by omega⟩
      have hcs : c = Sn := by omega
      unfold g_X10_waysFrom_L83
      rw [if_pos ((nle (by omega) (by omega)).mpr (by omega)), hcs]
      exact ⟨_, rfl, rfl, fun i _ => ⟨rfl, rfl, rfl, rfl, rfl⟩⟩
    | succ k ihk =>
      intro c hc fu hfu rs rm rz rh rn q1 q2 q3
      obtain ⟨fv, rfl⟩ : ∃ fv, fu = fv + 1 := ⟨fu - 1, by omega⟩
      obtain ⟨gs, gm, gh, c1, c2⟩ := pX5_copyFrom (N := N) (n := 28) (m := 28) q1 (by rw [List.length_map]; omega) (by rw [List.length_map]; omega) (by omega) (by omega) (by rw [List.length_map]; omega) (rn X.1.length) (rs (X.1.length + 1)) (rm (X.1.length + 1)) (rh (X.1.length + 1)) (rz (X.1.length + 1)) (rn (X.1.length + 1))
      rw [List.length_map] at c1
      have hbs : ∀ k, k < (B ++ X.1).length → bS (B ++ X.1) k < 8 := hT.b8 hB hp
      obtain ⟨so2, ma2, he2, a1, a2⟩ := cl_add (N := N) (n := 28) (H := H) (law := law) hmid (p, c, now + X.1.length) (by show now + X.1.length + d p p = _; rw [hd0 p hp]; omega) hbs (by show c < 8; omega) (by omega) (by omega) (by omega) hlaw (by omega) (by omega) c2
      have a1' : g_X5_hear N 28 (nI H) (nI law) gs gm (nI (runI law H (bF d p (B ++ X.1)) X.2 (seg d p B (now + (X.1.length - 1)) (now + X.1.length))).length) gh (nI c) (nI (now + X.1.length)) (-1) = _ := a1
      have hT' := hT.step hB hp (hd0 p hp) (show c < 8 by omega)
      have hlt : (tr1 law H d p B now X c).1.length = X.1.length + 1 := by unfold tr1; simp
      have hne : ¬ X.1.length + 1 = X.1.length := by omega
      obtain ⟨w, w1, w2, w3⟩ := ih dq (by omega) (tr1 law H d p B now X c) (by rw [hlt]; omega) hT' (va_up (va_up rs (X.1.length + 1) gs) (X.1.length + 1) so2) (va_up (va_up rm (X.1.length + 1) gm) (X.1.length + 1) ma2) (va_up (va_up rz (X.1.length + 1) (nI (runI law H (bF d p (B ++ X.1)) X.2 (seg d p B (now + (X.1.length - 1)) (now + X.1.length))).length)) (X.1.length + 1) (nI (tr1 law H d p B now X c).2.length)) (va_up (va_up rh (X.1.length + 1) gh) (X.1.length + 1) he2) (va_up rn (X.1.length + 1) (rn X.1.length)) (by rw [hlt]; simp only [va_up, if_true]; exact a2) (by rw [hlt]; simp only [va_up, if_true]) (by rw [hlt]; simp only [va_up, if_true]; rw [q3]; rfl)
      rw [hlt] at w1 w3
      have w3' := w3 X.1.length (by omega)
      have hne2 : ¬ X.1.length = X.1.length + 1 := by omega
      simp only [va_up, hne2, if_false] at w3'
      obtain ⟨y1, y2, y3, y4, y5⟩ := w3'
      obtain ⟨v, v1, v2, v3⟩ := ihk (c + 1) (by omega) fv (by omega) w.2.1 w.2.2.1 w.2.2.2.1 w.2.2.2.2.1 w.2.2.2.2.2 (by rw [y1, y2, y4]; exact q1) (by rw [y3]; exact q2) (by rw [y5]; exact q3)
      refine ⟨v, ?_, v2, fun i hi => ?_⟩
      · unfold g_X10_waysFrom_L83
        rw [if_neg (by rw [nle (by omega) (by omega)]; omega)]
        unfold gne
        rw [if_neg hne, q2, c1]
        simp only [Option.bind_some, va_up, if_true]
        rw [a1']
        simp only [Option.bind_some]
        rw [nI_1]
        have w1' : g_X10_waysFrom N (nI Sn) (nI H) (nI law) (nI now) ts tz qs qh (nI B.length) dq (va_up (va_up rs (X.1.length + 1) gs) (X.1.length + 1) so2) (va_up (va_up rm (X.1.length + 1) gm) (X.1.length + 1) ma2) (va_up (va_up rz (X.1.length + 1) (nI (runI law H (bF d p (B ++ X.1)) X.2 (seg d p B (now + (X.1.length - 1)) (now + X.1.length))).length)) (X.1.length + 1) (nI (hearI law H (bF d p (B ++ (X.1 ++ [(p, c, now + X.1.length)]))) (runI law H (bF d p (B ++ X.1)) X.2 (seg d p B (now + (X.1.length - 1)) (now + X.1.length))) (B ++ X.1).length).length)) (va_up (va_up rh (X.1.length + 1) gh) (X.1.length + 1) he2) (va_up rn (X.1.length + 1) (rn X.1.length)) (nI (X.1.length + 1)) (nI n) x3 = some w := w1
        rw [w1']
        simp only [Option.bind_some]
        rw [w2, nI_add, nI_1]
        exact v1
      · have h9 := v3 i hi
        have h10 := w3 i (by omega)
        have hne3 : ¬ i = X.1.length + 1 := by omega
        simp only [va_up, hne3, if_false] at h10
        exact ⟨h9.1.trans h10.1, h9.2.1.trans h10.2.1, h9.2.2.1.trans h10.2.2.1, h9.2.2.2.1.trans h10.2.2.2.1, h9.2.2.2.2.trans h10.2.2.2.2⟩
theorem pX10_countWays (hN : 5000 < N) (hh : HOk P Sn H law mi book d) (hBR : BR bp bs bm B) (hB : BOk P B now) (hp : p < P) {ts : Nat → Int32} {tz x3 : Int32} {rch : List Nat → Bool} (hr : RchC N ts tz x3 rch) {n : Nat} (hn4 : n ≤ 4) (qs qd qh : Nat → Int32) (qz : Int32) (rs rm : Nat → Nat → Int32) (rz : Nat → Int32) (rh : Nat → Nat → Int32) (rn : Nat → Int32) :
    ∃ v, g_X10_countWays N (nI P) (nI Sn) (nI H) (nI law) mi bp bs bm (nI B.length) (nI now) ts tz qs qd qh qz rs rm rz rh rn (nI p) (nI n) x3 = some v ∧ v.1 = nI (cw law H d p B now Sn rch n ([], stdB law H d p B now)) := by
  have hh' := hh
  obtain ⟨⟨hP1, hP⟩, ⟨hS1, hS⟩, ⟨hH1, hH⟩, hlaw, hdr, hdb, hd0, k0, k1, k2, k3⟩ := hh'
  have h24 := hB.1
  have hnow := hB.2.2.2
  obtain ⟨qs', qd', qh', q1, q2⟩ := pX3_fillFrom N 24 P hdr hP hBR (fun e he => ⟨(hB.2.1 e he).1, by have := (hB.2.1 e he).2.2; omega⟩) (by omega) (by omega) h24 (by omega) hp qs qd qh qz
  have g0 : ∀ {α : Type} (z : Option α), gi 0 5 z = z := fun z => by rw [l0, gi_nI (by omega) (by omega)]
  unfold g_X10_countWays
  rw [q1]
  simp only [Option.bind_some]
  rw [g0]
  unfold g_X5_empty
  simp only [Option.bind_some]
  rw [g0, show (0 : Int32).toNatClampNeg = 0 from rfl]
  obtain ⟨so1, ma1, he1, e1, r1⟩ := cl_start (N := N) (n := 28) (m := 24) (H := H) (law := law) (t := now) hdr hB hp q2 (by omega) (by omega) (by omega) (by omega) (by omega) hlaw (by omega) (by omega) (rs 0) (rm 0) (rh 0)
  simp only [va_up, if_true]
  rw [e1]
  simp only [Option.bind_some]
  obtain ⟨v, v1, v2, v3⟩ := pX10_waysFrom (N := N) hN hh hB hp q2 hr hn4 n 6 (by omega) ([], stdB law H d p B now) (by show 0 + n = n; omega) (TX.start hB) (va_up rs 0 so1) (va_up rm 0 ma1) (va_up (va_up rz 0 0) 0 (nI (stdB law H d p B now).length)) (va_up rh 0 he1) (va_up (va_up rn 0 0) 0 (nI (ordT d p B now).length)) (by show RowR (va_up rs 0 so1 0) (va_up rm 0 ma1 0) (va_up rh 0 he1 0) _; simp only [va_up, if_true]; exact r1) (by show va_up (va_up rz 0 0) 0 _ 0 = _; simp only [va_up, if_true]) (by show va_up (va_up rn 0 0) 0 _ 0 = _; simp only [va_up, if_true]; rfl)
  have v1' : g_X10_waysFrom N (nI Sn) (nI H) (nI law) (nI now) ts tz qs' qh' (nI B.length) 6 (va_up rs 0 so1) (va_up rm 0 ma1) (va_up (va_up rz 0 0) 0 (nI (stdB law H d p B now).length)) (va_up rh 0 he1) (va_up (va_up rn 0 0) 0 (nI (ordT d p B now).length)) 0 (nI n) x3 = some v := v1
  rw [v1']
  exact ⟨_, rfl, v2⟩
theorem pX12_codes (hN : 5000 < N) {k3 : book 3 = nI Sn} {n : Nat} (hn4 : n ≤ 4) : g_X12_codes N book (nI n) = some (nI (Sn ^ n)) := by
  unfold g_X12_codes
  have g3 : ∀ {α : Type} (z : Option α), gi 3 78 z = z := fun z => by rw [l3, gi_nI (by omega) (by omega)]
  suffices h : ∀ (m j : Nat), j + m = n → ∀ fu, m < fu → g_X12_codes_L4 N book fu (nI n) (nI (Sn ^ j)) (nI j) = some (nI (Sn ^ n)) by
    exact h n 0 (by omega) N (by omega)
  intro m
  induction m with
  | zero =>
    intro j hj fu hfu
    obtain ⟨fv, rfl⟩ : ∃ fv, fu = fv + 1 := ⟨fu - 1, by omega⟩
    have : j = n := by omega
    subst this
    unfold g_X12_codes_L4
    rw [if_pos ((nle (by omega) (by omega)).mpr (Nat.le_refl _))]
  | succ m ih =>
    intro j hj fu hfu
    obtain ⟨fv, rfl⟩ : ∃ fv, fu = fv + 1 := ⟨fu - 1, by omega⟩
    unfold g_X12_codes_L4
    rw [if_neg (by rw [nle (by omega) (by omega)]; omega), g3, show (3 : Int32).toNatClampNeg = 3 from rfl, k3, pk_mul, ← Nat.pow_succ, nI_1]
    exact ih (j + 1) (by omega) fv (by omega)
/-- stand and sort behind taps -/
theorem pX12_taps (hN : 5000 < N) (hh : HOk P Sn H law mi book d) (hs : SR s B now) (hB : BOk P B now) (hp : p < P) {n x : Nat} (hn4 : n ≤ 4) (hx : x < 5000) (pl so mi2 wh ih gb st : Nat → Int32) (many sz : Int32) :
    ∃ v, g_X12_taps N book s pl so mi2 wh ih gb st many sz (nI p) (nI n) (nI x) = some v ∧ v.2.2.2.2.2.2.2.2 = nI (soX B (trN law H d p B now ([], stdB law H d p B now) (digs Sn n x))).length ∧ MS v.2.2.2.2.2.2.1 v.2.1 (soX B (trN law H d p B now ([], stdB law H d p B now) (digs Sn n x))) := by
  have hh' := hh
  obtain ⟨⟨hP1, hP⟩, ⟨hS1, hS⟩, ⟨hH1, hH⟩, hlaw, hdr, hdb, hd0, k0, k1, k2, k3⟩ := hh'
  have h24 := hB.1
  have hnow := hB.2.2.2
  have g3 : ∀ {α : Type} (z : Option α), gi 3 78 z = z := fun z => by rw [l3, gi_nI (by omega) (by omega)]
  have g1 : ∀ {α : Type} (z : Option α), gi 1 74 z = z := fun z => by rw [l1, gi_nI (by omega) (by omega)]
  obtain ⟨pl', so', mi', h1, h2⟩ := pX12_starts (N := N) hs h24 (by omega) pl so mi2 many
  unfold g_X12_taps
  rw [h1]
  simp only [Option.bind_some]
  suffices h : ∀ (m x : Nat), x < 5000 → ∀ (X : List Be × List Nat), X.1.length + m = n → TX law H d p B now X → ∀ fu, m < fu → ∀ (pl so mi2 : Nat → Int32), TR pl so mi2 (B ++ X.1) → ∃ v, g_X12_taps_L10 N book s (g_X12_taps_b56 N book s) fu pl so mi2 wh ih gb st (nI (B ++ X.1).length) sz (nI p) (nI n) (nI x) (nI X.1.length) = some v ∧ v.2.2.2.2.2.2.2.2 = nI (soX B (trN law H d p B now X (digs Sn m x))).length ∧ MS v.2.2.2.2.2.2.1 v.2.1 (soX B (trN law H d p B now X (digs Sn m x))) by
    have h9 := h n x hx ([], stdB law H d p B now) (by show 0 + n = n; omega) (TX.start hB) N (by omega) pl' so' mi' (by show TR pl' so' mi' (B ++ []); rw [List.append_nil]; exact h2)
    have e9 : B ++ (([] : List Be), stdB law H d p B now).1 = B := List.append_nil B
    rw [e9] at h9
    exact h9
  intro m
  induction m with
  | zero =>
    intro x hx X hX hT fu hfu pl so mi2 hTR
    obtain ⟨fv, rfl⟩ : ∃ fv, fu = fv + 1 := ⟨fu - 1, by omega⟩
    have hlen2 : (B ++ X.1).length = B.length + X.1.length := List.length_append
    have hT2 := hT.2
    obtain ⟨L, q1, q2, q3⟩ := hT2
    obtain ⟨wh', ih', gb0, st', p1, p2, p3, p4⟩ := pX12_plays (N := N) (t := now + (X.1.length - 1)) (B := B ++ X.1) hdb hp hP k1 k2 hlaw (by omega) (by omega) (by omega) (by omega) hTR (fun k hk => by
      obtain ⟨a1, a2, a3, a4⟩ := bAll hB (show now ≤ now + (X.1.length - 1) by omega) hp hT.1 hk
      exact ⟨a1, a2, by omega⟩) q1 wh ih gb st sz
    rw [← q3] at p1 p2
    have ht0 : ∀ {α : Type} (y : Int32 → Option α), (if nI n ≤ 0 then y 0 else y (nI n - 1)) = y (nI (n - 1)) := fun y => by
      by_cases z : n = 0
      · rw [z, if_pos (by decide)]; rfl
      · rw [if_neg (by rw [l0, nle (by omega) (by omega)]; omega), l1, nsub (by omega)]
    unfold g_X12_taps_L10
    rw [if_pos ((nle (by omega) (by omega)).mpr (by omega))]
    unfold g_X12_taps_b56
    rw [g1, show (1 : Int32).toNatClampNeg = 1 from rfl, hs.2.1]
    have ht1 := ht0 (fun z => g_X12_taps_b75 N book s pl so mi2 wh ih gb st (nI (B ++ X.1).length) sz (nI p) (nI now) z)
    rw [ht1]
    unfold g_X12_taps_b75
    have hnX : n = X.1.length := by omega
    rw [nI_add, hnX, p1]
    refine ⟨_, rfl, ?_, ?_⟩
    · show nI X.2.length = _
      unfold digs trN soX; rw [List.length_map]; rfl
    · intro k y hk
      have hk' : (X.2.map (bS (B ++ X.1)))[k]? = some y := hk
      rw [List.getElem?_map] at hk'
      cases hz : X.2[k]? with
      | none => rw [hz] at hk'; cases hk'
      | some i =>
        rw [hz] at hk'
        cases hk'
        have hi := (hT.2.props.2.1 i (List.mem_of_getElem? hz)).1
        exact ⟨i, by omega, p2 k i hz, (hTR i hi).2.1⟩
  | succ m ihm =>
    intro x hx X hX hT fu hfu pl so mi2 hTR
    obtain ⟨fv, rfl⟩ : ∃ fv, fu = fv + 1 := ⟨fu - 1, by omega⟩
    have hlen2 : (B ++ X.1).length = B.length + X.1.length := List.length_append
    have hmod : x % Sn < Sn := Nat.mod_lt _ (by omega)
    have hT' := hT.step hB hp (hd0 p hp) (show x % Sn < 8 by omega)
    have hpush := hTR.push (p, x % Sn, now + X.1.length)
    rw [List.append_assoc] at hpush
    have hlt : (tr1 law H d p B now X (x % Sn)).1.length = X.1.length + 1 := by unfold tr1; simp
    have hlt2 : (B ++ (tr1 law H d p B now X (x % Sn)).1).length = (B ++ X.1).length + 1 := by rw [List.length_append, hlt, hlen2]; omega
    have hdv : x / Sn < 5000 := by have := Nat.div_le_self x Sn; omega
    have h9 := ihm (x / Sn) hdv (tr1 law H d p B now X (x % Sn)) (by rw [hlt]; omega) hT' fv (by omega) _ _ _ hpush
    rw [hlt, hlt2] at h9
    unfold g_X12_taps_L10
    rw [if_neg (by rw [nle (by omega) (by omega)]; omega), g3, show (3 : Int32).toNatClampNeg = 3 from rfl, k3, gz_ok (nI_ne0 (by omega) (by omega)), g1, show (1 : Int32).toNatClampNeg = 1 from rfl, hs.2.1, pk_rem (by omega) (by omega) (by omega), nI_add, pX12_tries N pl so mi2 (by omega)]
    simp only [Option.bind_some]
    rw [g3, gz_ok (nI_ne0 (by omega) (by omega)), pk_div (by omega) (by omega) (by omega), nI_1]
    exact h9
end WAYS
