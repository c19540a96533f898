/-! ===== whether a told row stands, with one beat more: by both ===== -/
theorem gb_bIz {α : Type} (b : Bool) (z : Option α) : gb (bI b) z = z := by
  cases b
  · exact if_pos (Or.inl rfl)
  · exact if_pos (Or.inr rfl)
section SECSO
variable {N P Sn H law now : Nat} {mi book : Nat → Int32} {d : Nat → Nat → Nat} {B : List Be} {p : Nat}
theorem q_ord (hB : BOk P B now) : (queueS d p B).drop 0 = (ordB d p B).map (fun k => qev d p (B.getD k b0)) := by rw [List.drop_zero, queueS_ord]
theorem ahead_len (hB : BOk P B now) (t h : Nat) : toAhead (queueS d p B) t h 0 = (secA d p B t h).length := by
  unfold toAhead secA
  rw [q_ord hB, List.takeWhile_map, List.length_map]
  rfl
theorem rest_len (hB : BOk P B now) (t h : Nat) : toHear (queueS d p B) now (secA d p B t h).length = (secR d p B now t h).length := by
  unfold toHear secR
  rw [queueS_ord, ← List.map_drop, List.takeWhile_map, List.length_map]
  rfl
theorem row_so {so ma he : Nat → Int32} {e : Be} {S : List Nat} (h : RowR so ma he (S.map (phE d p B [e]))) : Rp so (S.map (bS (B ++ [e]))) := RowR.so (X := ([e], S)) h
/-- the class's row behind hearAhead, hear and hearTo -/
theorem sec_row (hN : 200 < N) (hdr : DR P mi d) (hB : BOk P B now) (hp : p < P) (hH : H < 1000) (hlaw : law < 3) (hd60 : ∀ a b, a < P → b < P → d a b ≤ 60) {qs qd qh : Nat → Int32} (hQ : QR qs qd qh (queueS d p B)) {e : Be} (he1 : e.1 < P) (he2 : e.2.1 < 8) (het : e.2.2 ≤ now) (hc : e.2.2 + d e.1 p ≤ now) (so ma he : Nat → Int32) :
    ∃ v, g_X5_hearAhead N 25 24 (nI H) (nI law) qs qd qh (nI B.length) so ma 0 he 0 (nI e.2.2) (nI (e.2.2 + d e.1 p)) = some v ∧ ∃ w, g_X5_hear N 25 (nI H) (nI law) v.1 v.2.1 v.2.2.1 v.2.2.2.1 (nI e.2.1) (nI (e.2.2 + d e.1 p)) (-1) = some w ∧ ∃ u, g_X5_hearTo N 25 24 (nI H) (nI law) qs qh (nI B.length) w.1 w.2.1 w.2.2.1 w.2.2.2 v.2.2.2.2 (nI now) = some u ∧ u.2.2.1 = nI (secS law H d p B now e).length ∧ Rp u.1 (secS law H d p B now e) := by
  have h24 := hB.1
  have hnow := hB.2.2.2
  have hql := queueS_len d p B
  have hnd := ltK_nodup (ordB_spec hB d p).1
  have hev := evQ_phi d p B hnd
  have hn1 : e.2.2 + d e.1 p < 1000000 := by have := hd60 e.1 p he1 hp; omega
  have hAR := secAR (d := d) (p := p) (t := e.2.2) hB hc
  have hARl := congrArg List.length hAR
  rw [List.length_append] at hARl
  have hol := ordT_len hB d p now
  have hAo : ∀ k ∈ secA d p B e.2.2 (e.2.2 + d e.1 p), k < B.length := fun k hk => ((ordT_mem hB d p now k).mp (by rw [hAR]; exact List.mem_append_left _ hk)).1
  have hRo : ∀ k ∈ secR d p B now e.2.2 (e.2.2 + d e.1 p), k < B.length := fun k hk => ((ordT_mem hB d p now k).mp (by rw [hAR]; exact List.mem_append_right _ hk)).1
  have hqd : ∀ q ∈ queueS d p B, q.2.1 < 1000000 := fun q hq => by
    obtain ⟨b, hb, rfl⟩ := queueS_mem.mp hq
    have := (hB.2.1 b hb).2.2
    show b.2.2 < _
    omega
  obtain ⟨so1, ma1, he1', h3, h4⟩ := pX5_hearAhead (N := N) (n := 25) (m := 24) (H := H) (law := law) hQ (queue_sorted hB p) (queue_small hdr hB hp) hqd (by omega) (by omega) (by omega) hH hlaw (show e.2.2 < 1000000 by omega) hn1 B.length 0 (by omega) N (by omega) so ma he [] (fun j x hj => by simp at hj) (fun q _ => ⟨List.Pairwise.nil, fun x hx => by simp at hx, fun x hx => by simp at hx⟩) (by simp; omega) (by simp; omega)
  have eA : ((evQ (queueS d p B)).drop 0).take (toAhead (queueS d p B) e.2.2 (e.2.2 + d e.1 p) 0) = (secA d p B e.2.2 (e.2.2 + d e.1 p)).map (phE d p B [e]) := by
    rw [ahead_len hB, List.drop_zero, hev, ← List.map_take, secA_take]
    exact List.map_congr_left (fun k hk => (phE_old (hAo k hk)).symm)
  have eA2 : runC law H [] ((secA d p B e.2.2 (e.2.2 + d e.1 p)).map (phE d p B [e])) = (runI law H (bF d p (B ++ [e])) [] (secA d p B e.2.2 (e.2.2 + d e.1 p))).map (phE d p B [e]) := runC_map (fun k => rfl) _ []
  rw [eA, eA2] at h3 h4
  rw [List.length_map, hql, ahead_len hB, Nat.zero_add] at h3
  -- what is known of the row so far
  have hSA : ∀ k ∈ runI law H (bF d p (B ++ [e])) [] (secA d p B e.2.2 (e.2.2 + d e.1 p)), k ∈ secA d p B e.2.2 (e.2.2 + d e.1 p) := fun k hk => by
    rcases runI_mem hk with z | z
    · cases z
    · exact z
  have hb8 : ∀ k, k < (B ++ [e]).length → bS (B ++ [e]) k < 8 := bS_all hB (fun y hy => by rw [List.mem_singleton.mp hy]; exact he2)
  have hbl : (B ++ [e]).length = B.length + 1 := by simp
  have hSl := runI_len (law := law) (H := H) (f := bF d p (B ++ [e])) (R := secA d p B e.2.2 (e.2.2 + d e.1 p)) (S := [])
  rw [List.length_nil, Nat.zero_add] at hSl
  have hsrt := secL_srt (d := d) (p := p) hB e
  unfold secL at hsrt
  rw [if_pos hc] at hsrt
  have hpwA : (secA d p B e.2.2 (e.2.2 + d e.1 p)).Pairwise (ltK (bW d p (B ++ [e])) (bM (B ++ [e]))) := (List.pairwise_append.mp hsrt.1).1
  have hok1 : RowOk ((runI law H (bF d p (B ++ [e])) [] (secA d p B e.2.2 (e.2.2 + d e.1 p))).map (phE d p B [e])) (e.2.2 + d e.1 p) := by
    refine ⟨?_, fun x hx => ?_, fun x hx => ?_⟩
    · rw [List.pairwise_map]
      have hsub : (runI law H (bF d p (B ++ [e])) [] (secA d p B e.2.2 (e.2.2 + d e.1 p))).Sublist ([] ++ secA d p B e.2.2 (e.2.2 + d e.1 p)) := runI_sub
      rw [List.nil_append] at hsub
      refine (hpwA.sublist hsub).imp (fun {a b} h => ?_)
      unfold ltK at h
      show bW d p (B ++ [e]) a ≤ bW d p (B ++ [e]) b
      omega
    · obtain ⟨k, hk, rfl⟩ := List.mem_map.mp hx
      have h5 := secA_all (hSA k hk)
      show bW d p (B ++ [e]) k ≤ _
      rw [bW_app (hAo k (hSA k hk))]
      omega
    · obtain ⟨k, hk, rfl⟩ := List.mem_map.mp hx
      exact hb8 k (by have := hAo k (hSA k hk); omega)
  have ephn : phE d p B [e] B.length = (e.2.1, e.2.2 + d e.1 p, -1) := by
    unfold phE bS bW bM bP
    rw [bd_one, if_neg (Nat.lt_irrefl _)]
  obtain ⟨so2, ma2, he2', h5, h6⟩ := pX5_hear (N := N) (n := 25) (H := H) (law := law) h4 (phE d p B [e] B.length) (by rw [ephn]; exact hok1) (by rw [List.length_map]; omega) (by omega) (by rw [ephn]; show e.2.2 + d e.1 p < _; omega) hH (by rw [ephn]; exact he2) hlaw (by rw [List.length_map]; omega)
  have eH : hearC law H ((runI law H (bF d p (B ++ [e])) [] (secA d p B e.2.2 (e.2.2 + d e.1 p))).map (phE d p B [e])) (phE d p B [e] B.length) = (hearI law H (bF d p (B ++ [e])) (runI law H (bF d p (B ++ [e])) [] (secA d p B e.2.2 (e.2.2 + d e.1 p))) B.length).map (phE d p B [e]) := hearC_map (fun k => rfl) _ _
  have hok2 : RowOk ((hearI law H (bF d p (B ++ [e])) (runI law H (bF d p (B ++ [e])) [] (secA d p B e.2.2 (e.2.2 + d e.1 p))) B.length).map (phE d p B [e])) (e.2.2 + d e.1 p) := by
    rw [← eH]
    exact hearC_ok hok1 (by rw [ephn]) (by rw [ephn]; exact he2)
  rw [eH] at h5 h6
  rw [List.length_map, List.length_map, ephn] at h5
  have hHl := hearI_len (law := law) (H := H) (f := bF d p (B ++ [e])) (S := runI law H (bF d p (B ++ [e])) [] (secA d p B e.2.2 (e.2.2 + d e.1 p))) (k := B.length)
  obtain ⟨so3, ma3, he3', h7, h8⟩ := pX5_hearTo (N := N) (n := 25) (m := 24) (H := H) (law := law) hQ (queue_sorted hB p) (queue_small hdr hB hp) (by omega) (by omega) (by omega) hH hlaw now (by omega) (B.length - (secA d p B e.2.2 (e.2.2 + d e.1 p)).length) (secA d p B e.2.2 (e.2.2 + d e.1 p)).length (by omega) (by omega) so2 ma2 he2' _ h6 (fun q hq => by
      rw [queueS_ord, ← List.map_drop] at hq
      obtain ⟨x, hx, rfl⟩ := List.mem_map.mp hq
      refine hok2.mono ?_
      show _ ≤ bW d p B x
      have := secD_not hB hx
      omega) (by rw [List.length_map]; omega) (by rw [List.length_map]; omega)
  have eR : ((evQ (queueS d p B)).drop (secA d p B e.2.2 (e.2.2 + d e.1 p)).length).take (toHear (queueS d p B) now (secA d p B e.2.2 (e.2.2 + d e.1 p)).length) = (secR d p B now e.2.2 (e.2.2 + d e.1 p)).map (phE d p B [e]) := by
    rw [rest_len hB, hev, ← List.map_drop, ← List.map_take]
    have e3 : ((ordB d p B).drop (secA d p B e.2.2 (e.2.2 + d e.1 p)).length).take (secR d p B now e.2.2 (e.2.2 + d e.1 p)).length = secR d p B now e.2.2 (e.2.2 + d e.1 p) := takeWhile_len_take _ _
    rw [e3]
    exact List.map_congr_left (fun k hk => (phE_old (hRo k hk)).symm)
  have eR2 : runC law H ((hearI law H (bF d p (B ++ [e])) (runI law H (bF d p (B ++ [e])) [] (secA d p B e.2.2 (e.2.2 + d e.1 p))) B.length).map (phE d p B [e])) ((secR d p B now e.2.2 (e.2.2 + d e.1 p)).map (phE d p B [e])) = (runI law H (bF d p (B ++ [e])) [] (secL d p B now e)).map (phE d p B [e]) := by
    rw [runC_map (f := bF d p (B ++ [e])) (fun k => rfl)]
    unfold secL
    rw [if_pos hc]
    unfold runI
    rw [List.foldl_append]
    rfl
  rw [eR, eR2] at h7 h8
  have h9 := row_so h8
  rw [hql, List.length_map, List.length_map] at h7
  refine ⟨_, h3, _, h5, _, h7, ?_, h9⟩
  show nI _ = nI _
  unfold secS
  rw [List.length_map]
theorem sec_row2 (hN : 200 < N) (hdr : DR P mi d) (hB : BOk P B now) (hp : p < P) (hH : H < 1000) (hlaw : law < 3) {qs qd qh : Nat → Int32} (hQ : QR qs qd qh (queueS d p B)) {e : Be} (hc : ¬ e.2.2 + d e.1 p ≤ now) (so ma he : Nat → Int32) :
    ∃ u, g_X5_hearTo N 25 24 (nI H) (nI law) qs qh (nI B.length) so ma 0 he 0 (nI now) = some u ∧ u.2.2.1 = nI (secS law H d p B now e).length ∧ Rp u.1 (secS law H d p B now e) := by
  have hnow := hB.2.2.2
  obtain ⟨so1, ma1, he1, h1, h2⟩ := cl_start (N := N) (n := 25) (m := 24) (H := H) (law := law) (t := now) hdr hB hp hQ (by omega) (by omega) (by omega) (by omega) hH hlaw hN (by omega) so ma he
  have eS : secS law H d p B now e = (stdB law H d p B now).map (bS B) := by
    unfold secS secL stdB
    rw [if_neg hc]
    have e1 : runI law H (bF d p (B ++ [e])) [] (ordT d p B now) = runI law H (bF d p B) [] (ordT d p B now) := runI_congr (fun i hi => by cases hi) (fun i hi => bF_app ((ordT_mem hB d p now i).mp hi).1)
    rw [e1]
    refine List.map_congr_left (fun k hk => bS_app ?_)
    rcases runI_mem hk with z | z
    · cases z
    · exact ((ordT_mem hB d p now k).mp z).1
  refine ⟨_, h1, ?_, ?_⟩
  · rw [eS, List.length_map]
  · rw [eS]
    have h3 := RowR.so (X := ([], stdB law H d p B now)) h2
    unfold soX at h3
    have e2 : B ++ (([] : List Be), stdB law H d p B now).1 = B := List.append_nil B
    rw [e2] at h3
    exact h3
theorem pX6_isSoBy (hN : 200 < N) (hh : HOk P Sn H law mi book d) (hB : BOk P B now) {i : Nat} (hi : i < 3) {x : Nat × List Nat} (hxp : x.1 < P) (hx8 : x.2.length ≤ 8) {rso : Nat → Nat → Int32} {rsz : Nat → Int32} (hrz : rsz i = nI x.2.length) (hrr : Rp (rso i) x.2) (hrc : ∀ c ∈ x.2, c < 8) {qs qd qh : Nat → Nat → Int32} {qz : Nat → Int32} (hQ : QR (qs i) (qd i) (qh i) (queueS d x.1 B)) (hqz : qz i = nI B.length) {e : Be} (he1 : e.1 < P) (he2 : e.2.1 < 8) (het : e.2.2 ≤ now) (so ma he : Nat → Int32) (tz tn : Int32) :
    ∃ v, g_X6_isSoBy N (nI H) (nI law) (nI now) rso rsz qs qd qh qz so ma tz he tn (nI i) (nI e.2.1) (nI e.2.2) (nI (e.2.2 + d e.1 x.1)) = some v ∧ v.1 = bI (decide (secS law H d x.1 B now e = x.2)) := by
  obtain ⟨⟨hP1, hP⟩, ⟨hS1, hS⟩, ⟨hH1, hH⟩, hlaw, hdr, hdb, hd0, k0, k1, k2, k3⟩ := hh
  have hnow := hB.2.2.2
  obtain ⟨o1, o2⟩ := secS_ok (law := law) (H := H) (d := d) (p := x.1) hB he2
  have hjb : ∀ (so' : Nat → Int32), Rp so' (secS law H d x.1 B now e) → g_X5_isJust N 25 8 so' (nI (secS law H d x.1 B now e).length) (rso i) (nI x.2.length) = some (bI (decide (secS law H d x.1 B now e = x.2))) := fun so' hr => by
    rw [just_eq hN (by omega) hrr hx8 hrc hr o1 o2]
    unfold bI
    simp only [decide_eq_true_eq]
  have hd60 := (hdr e.1 x.1 he1 hxp).2
  unfold g_X6_isSoBy g_X5_empty
  simp only [Option.bind_some]
  by_cases c : e.2.2 + d e.1 x.1 ≤ now
  · rw [if_neg (by rw [nlt (by omega) (by omega)]; omega), gi_nI hi (by omega), nc (by omega), hqz]
    obtain ⟨v, v1, w, w1, u, u1, u2, u3⟩ := sec_row (N := N) (H := H) (law := law) hN hdr hB hxp (by omega) hlaw (fun a b ha hb => (hdr a b ha hb).2) hQ he1 he2 het c so ma he
    rw [v1]
    simp only [Option.bind_some]
    rw [w1]
    simp only [Option.bind_some]
    unfold g_X6_isSoBy_b46
    rw [gi_nI hi (by omega), nc (by omega), hqz, u1]
    simp only [Option.bind_some]
    rw [gi_nI hi (by omega), hrz, u2, hjb _ u3]
    simp only [Option.bind_some]
    rw [gb_bIz]
    exact ⟨_, rfl, rfl⟩
  · rw [if_pos ((nlt (by omega) (by omega)).mpr (by omega))]
    obtain ⟨u, u1, u2, u3⟩ := sec_row2 (N := N) (H := H) (law := law) hN hdr hB hxp (by omega) hlaw hQ c so ma he
    unfold g_X6_isSoBy_b46
    rw [gi_nI hi (by omega), nc (by omega), hqz, u1]
    simp only [Option.bind_some]
    rw [gi_nI hi (by omega), hrz, u2, hjb _ u3]
    simp only [Option.bind_some]
    rw [gb_bIz]
    exact ⟨_, rfl, rfl⟩
/-- all that is told, with the one beat more -/
def allSo (law H : Nat) (d : Nat → Nat → Nat) (B : List Be) (now : Nat) (e : Be) (X : List (Nat × List Nat)) : Bool := X.all (fun x => decide (secS law H d x.1 B now e = x.2))
def QsR (d : Nat → Nat → Nat) (B : List Be) (X : List (Nat × List Nat)) (qs qd qh : Nat → Nat → Int32) (qz : Nat → Int32) : Prop := ∀ (i : Nat) (x : Nat × List Nat), X[i]? = some x → QR (qs i) (qd i) (qh i) (queueS d x.1 B) ∧ qz i = nI B.length
theorem all_cons {e : Be} {x : Nat × List Nat} {X : List (Nat × List Nat)} : allSo law H d B now e (x :: X) = (decide (secS law H d x.1 B now e = x.2) && allSo law H d B now e X) := rfl
theorem pX6_isAllSoBy (hN : 200 < N) (hh : HOk P Sn H law mi book d) (hB : BOk P B now) {X : List (Nat × List Nat)} {rso : Nat → Nat → Int32} {rsz pl tells : Nat → Int32} {sz tm : Int32} (hX : ScR P rso rsz sz pl tells tm X) {qs qd qh : Nat → Nat → Int32} {qz : Nat → Int32} (hQ : QsR d B X qs qd qh qz) {e : Be} (he1 : e.1 < P) (he2 : e.2.1 < 8) (het : e.2.2 ≤ now) (so ma he : Nat → Int32) (tz tn : Int32) :
    ∃ v, g_X6_isAllSoBy N (nI P) (nI H) (nI law) mi (nI now) rso rsz qs qd qh qz sz pl so ma tz he tn (nI e.1) (nI e.2.1) (nI e.2.2) = some v ∧ v.1 = bI (allSo law H d B now e X) := by
  have hh' := hh
  obtain ⟨⟨hP1, hP⟩, ⟨hS1, hS⟩, ⟨hH1, hH⟩, hlaw, hdr, hdb, hd0, k0, k1, k2, k3⟩ := hh'
  obtain ⟨x1, rfl, rfl, x4⟩ := hX
  unfold g_X6_isAllSoBy
  suffices h : ∀ (m i : Nat), i + m = X.length → ∀ fu, m < fu → ∀ (so ma he : Nat → Int32) (tz tn : Int32), ∃ v, g_X6_isAllSoBy_L3 N (nI P) (nI H) (nI law) mi (nI now) rso rsz qs qd qh qz (nI X.length) pl fu so ma tz he tn (nI e.1) (nI e.2.1) (nI e.2.2) (nI i) = some v ∧ v.1 = bI (allSo law H d B now e (X.drop i)) by
    have := h X.length 0 (by omega) N (by omega) so ma he tz tn
    rw [List.drop_zero] at this
    exact this
  intro m
  induction m with
  | zero =>
    intro i hi fu hfu so ma he tz tn
    obtain ⟨fv, rfl⟩ : ∃ fv, fu = fv + 1 := ⟨fu - 1, by omega⟩
    unfold g_X6_isAllSoBy_L3
    rw [if_pos ((nle (by omega) (by omega)).mpr (by omega)), List.drop_eq_nil_of_le (by omega)]
    exact ⟨_, rfl, rfl⟩
  | succ m ih =>
    intro i hi fu hfu so ma he tz tn
    obtain ⟨fv, rfl⟩ : ∃ fv, fu = fv + 1 := ⟨fu - 1, by omega⟩
    obtain ⟨x, hx⟩ : ∃ x, X[i]? = some x := ⟨_, List.getElem?_eq_getElem (by omega)⟩
    obtain ⟨y1, y2, y3, y4, y5, y6, y7⟩ := x4 i x hx
    obtain ⟨q1, q2⟩ := hQ i x hx
    obtain ⟨v, v1, v2⟩ := pX6_isSoBy (N := N) hN hh hB (show i < 3 by omega) y1 y4 y5 (fun k c hk => (y7 k c hk).2.1) (fun c hc => by
      obtain ⟨k, hk⟩ := List.getElem?_of_mem hc
      exact (y7 k c hk).1) q1 q2 he1 he2 het so ma he tz tn
    unfold g_X6_isAllSoBy_L3
    rw [if_neg (by rw [nle (by omega) (by omega)]; omega), gi_nI (by omega) (by omega), nc (by omega), y2, pX2_minutesBetween N P hdr hP he1 y1]
    simp only [Option.bind_some]
    rw [nI_add, v1]
    simp only [Option.bind_some]
    rw [v2, drop_cons hx, all_cons]
    cases decide (secS law H d x.1 B now e = x.2) with
    | false =>
      rw [if_pos (show bI false = 0 from rfl), Bool.false_and]
      exact ⟨_, rfl, rfl⟩
    | true =>
      rw [if_neg (show ¬ bI true = 0 by decide), Bool.true_and, nI_1]
      exact ih (i + 1) (by omega) fv (by omega) _ _ _ _ _
/-- the reference -/
theorem so_in {X : List (Nat × List Nat)} {rso : Nat → Nat → Int32} {rsz place tells : Nat → Int32} {sz tm : Int32} (hX : ScR P rso rsz sz place tells tm X) {i : Nat} {x : Nat × List Nat} (hx : X[i]? = some x) {R : List Nat} (s pl so mi2 : Nat → Int32) (many : Int32) {st : Nat → Int32} (hst : MS st so R) (hR8 : ∀ c ∈ R, c < 8) (hRl : R.length ≤ 100) (wh ih gb : Nat → Int32) (kk : AI → AI → AI → AI → Int32 → Int32 → Int32 → Option (Int32 × AI × AI × AI × AI × Int32)) (hN : 200 < N) :
    g_X12_isSo_L61 N book s tells tm pl so mi2 many kk N wh ih gb st (nI R.length) (bI (decide (R.length = x.2.length))) (nI i) 0 = kk wh ih gb st (nI R.length) (bI (decide (R = x.2))) (nI i) := by
  obtain ⟨x1, rfl, rfl, x4⟩ := hX
  obtain ⟨y1, y2, y3, y4, y5, y6, y7⟩ := x4 i x hx
  have hi : i < X.length := (List.getElem?_eq_some_iff.mp hx).1
  have e10 : ∀ k : Nat, 10 * nI i + nI k = nI (10 * i + k) := fun k => by rw [l10, pk_mul, nI_add]
  have e101 : 10 * nI i + 1 = nI (10 * i + 1) := e10 1
  have e102 : 10 * nI i + 2 = nI (10 * i + 2) := e10 2
  have hz : ∀ fu j, 0 < fu → g_X12_isSo_L61 N book s tells (nI X.length) pl so mi2 many kk fu wh ih gb st (nI R.length) (bI false) (nI i) (nI j) = kk wh ih gb st (nI R.length) (bI false) (nI i) := by
    intro fu j hfu
    obtain ⟨fv, rfl⟩ : ∃ fv, fu = fv + 1 := ⟨fu - 1, by omega⟩
    unfold g_X12_isSo_L61
    rw [e101, gi_nI (by omega) (by omega), if_pos (show bI false = 0 from rfl), ite_self]
  by_cases c : R.length = x.2.length
  · rw [decide_eq_true c]
    have h : ∀ (m j : Nat), j + m = x.2.length → ∀ fu, m + 1 < fu → g_X12_isSo_L61 N book s tells (nI X.length) pl so mi2 many kk fu wh ih gb st (nI R.length) (bI true) (nI i) (nI j) = kk wh ih gb st (nI R.length) (bI (decide (R.drop j = x.2.drop j))) (nI i) := by
      intro m
      induction m with
      | zero =>
        intro j hj fu hfu
        obtain ⟨fv, rfl⟩ : ∃ fv, fu = fv + 1 := ⟨fu - 1, by omega⟩
        unfold g_X12_isSo_L61
        rw [e101, gi_nI (by omega) (by omega), nc (by omega), y6, if_pos ((nle (by omega) (by omega)).mpr (by omega)), List.drop_eq_nil_of_le (by omega), List.drop_eq_nil_of_le (by omega), decide_eq_true rfl]
      | succ m ihm =>
        intro j hj fu hfu
        obtain ⟨fv, rfl⟩ : ∃ fv, fu = fv + 1 := ⟨fu - 1, by omega⟩
        obtain ⟨y, hy⟩ : ∃ y, x.2[j]? = some y := ⟨_, List.getElem?_eq_getElem (by omega)⟩
        obtain ⟨r, hr⟩ : ∃ r, R[j]? = some r := ⟨_, List.getElem?_eq_getElem (by omega)⟩
        obtain ⟨y8, _, y9⟩ := y7 j y hy
        have r8 := hR8 r (List.mem_of_getElem? hr)
        obtain ⟨q, hq, s1, s2⟩ := hst j r hr
        unfold g_X12_isSo_L61
        rw [e101, e102, nI_add, gi_nI (by omega) (by omega), nc (by omega), y6, if_neg (by rw [nle (by omega) (by omega)]; omega), if_neg (show ¬ bI true = 0 by decide), gi_nI (by omega) (by omega), nc (by omega), s1, gi_nI (by omega) (by omega), gi_nI (by omega) (by omega), nc (by omega), nc (by omega), s2, y9, drop_cons hr, drop_cons hy]
        unfold g_X12_isSo_b112
        rw [nI_1]
        by_cases z : r = y
        · subst z
          rw [if_pos rfl]
          have h9 := ihm (j + 1) (by omega) fv (by omega)
          have h9' : g_X12_isSo_L61 N book s tells (nI X.length) pl so mi2 many kk fv wh ih gb st (nI R.length) 1 (nI i) (nI (j + 1)) = _ := h9
          rw [h9']
          simp
        · rw [if_neg (fun w => z ((neq (by omega) (by omega)).mp w)), decide_eq_false (fun w => z (List.cons.inj w).1)]
          exact hz fv (j + 1) (by omega)
    have h1 := h x.2.length 0 (by omega) N (by omega)
    rw [List.drop_zero, List.drop_zero] at h1
    exact h1
  · rw [decide_eq_false c, decide_eq_false (fun z => c (by rw [z]))]
    exact hz N 0 (by omega)
theorem pX12_isSo (hN : 200 < N) (hh : HOk P Sn H law mi book d) (hB : BOk P B now) {s : Nat → Int32} (hs : SR s B now) {X : List (Nat × List Nat)} {rso : Nat → Nat → Int32} {rsz place tells : Nat → Int32} {sz tm : Int32} (hX : ScR P rso rsz sz place tells tm X) {e : Be} (he1 : e.1 < P) (he2 : e.2.1 < 8) (het : e.2.2 ≤ now) {pl so mi2 : Nat → Int32} (hT : TR pl so mi2 (B ++ [e])) (wh ih gb st : Nat → Int32) (tz : Int32) :
    ∃ v, g_X12_isSo N book s tells tm pl so mi2 (nI (B ++ [e]).length) wh ih gb st tz = some v ∧ v.1 = bI (allSo law H d B now e X) := by
  have hh' := hh
  obtain ⟨⟨hP1, hP⟩, ⟨hS1, hS⟩, ⟨hH1, hH⟩, hlaw, hdr, hdb, hd0, k0, k1, k2, k3⟩ := hh'
  have h24 := hB.1
  have hnow := hB.2.2.2
  have hX' := hX
  obtain ⟨x1, rfl, rfl, x4⟩ := hX'
  have hbl : (B ++ [e]).length = B.length + 1 := by simp
  have g1 : ∀ {α : Type} (z : Option α), gi 1 74 z = z := fun z => by rw [l1, gi_nI (by omega) (by omega)]
  have hBall : ∀ k, k < (B ++ [e]).length → bP (B ++ [e]) k < P ∧ bS (B ++ [e]) k < 8 ∧ bM (B ++ [e]) k < 500000 := fun k hk => by
    by_cases z : k = B.length
    · subst z
      unfold bP bS bM
      rw [bd_one]
      exact ⟨he1, he2, by omega⟩
    · have hkl : k < B.length := by omega
      have := hB.at hkl
      unfold bP bS bM at this ⊢
      rw [bd_app hkl]
      exact ⟨this.1, this.2.1, by omega⟩
  unfold g_X12_isSo
  suffices h : ∀ (m i : Nat), i + m = X.length → ∀ fu, m < fu → ∀ (b : Bool) (wh ih gb st : Nat → Int32) (tz : Int32), ∃ v, g_X12_isSo_L4 N book s tells (nI X.length) pl so mi2 (nI (B ++ [e]).length) fu wh ih gb st tz (bI b) (nI i) = some v ∧ v.1 = bI (b && allSo law H d B now e (X.drop i)) by
    have := h X.length 0 (by omega) N (by omega) true wh ih gb st tz
    rw [List.drop_zero, Bool.true_and] at this
    exact this
  intro m
  induction m with
  | zero =>
    intro i hi fu hfu b wh ih gb st tz
    obtain ⟨fv, rfl⟩ : ∃ fv, fu = fv + 1 := ⟨fu - 1, by omega⟩
    unfold g_X12_isSo_L4
    rw [if_pos ((nle (by omega) (by omega)).mpr (by omega)), List.drop_eq_nil_of_le (by omega), gb_bIz]
    refine ⟨_, rfl, ?_⟩
    cases b <;> rfl
  | succ m ihm =>
    intro i hi fu hfu b wh ih gb st tz
    obtain ⟨fv, rfl⟩ : ∃ fv, fu = fv + 1 := ⟨fu - 1, by omega⟩
    obtain ⟨x, hx⟩ : ∃ x, X[i]? = some x := ⟨_, List.getElem?_eq_getElem (by omega)⟩
    obtain ⟨y1, y2, y3, y4, y5, y6, y7⟩ := x4 i x hx
    unfold g_X12_isSo_L4
    rw [if_neg (by rw [nle (by omega) (by omega)]; omega)]
    cases b with
    | false =>
      rw [if_pos (show bI false = 0 from rfl), gb_bIz, Bool.false_and]
      exact ⟨_, rfl, rfl⟩
    | true =>
      rw [if_neg (show ¬ bI true = 0 by decide), l10, pk_mul, gi_nI (by omega) (by omega), g1, nc (by omega), y3, show (1 : Int32).toNatClampNeg = 1 from rfl, hs.2.1]
      obtain ⟨wh', ih', gb0, st', p1, p2, p3, p4⟩ := pX12_plays (N := N) (t := now) (B := B ++ [e]) (p := x.1) hdb y1 hP k1 k2 hlaw (by omega) (by omega) (by omega) (by omega) hT hBall (secL_srt hB e) wh ih gb st tz
      rw [p1]
      simp only [Option.bind_some]
      have hsl : (runI law H (bF d x.1 (B ++ [e])) [] (secL d x.1 B now e)).length = (secS law H d x.1 B now e).length := by unfold secS; rw [List.length_map]
      have hms : MS st' so (secS law H d x.1 B now e) := fun k y hk => by
        unfold secS at hk
        rw [List.getElem?_map] at hk
        cases hz : (runI law H (bF d x.1 (B ++ [e])) [] (secL d x.1 B now e))[k]? with
        | none => rw [hz] at hk; cases hk
        | some q =>
          rw [hz] at hk
          cases hk
          have hqm := List.mem_of_getElem? hz
          have hq : q < (B ++ [e]).length := by
            rcases runI_mem hqm with w | w
            · cases w
            · exact (((secL_srt (d := d) (p := x.1) hB e).2.1 q).mp w).1
          exact ⟨q, by omega, p2 k q hz, (hT q hq).2.1⟩
      obtain ⟨o1, o2⟩ := secS_ok (law := law) (H := H) (d := d) (p := x.1) hB he2
      rw [l1, nI_add, gi_nI (by omega) (by omega), nc (by omega), y6, hsl]
      unfold g_X12_isSo_b58
      have hin := so_in (N := N) (book := book) hX hx s pl so mi2 (nI (B ++ [e]).length) hms o1 (by omega) wh' ih' (goneR law H (bF d x.1 (B ++ [e])) [] gb0 (secL d x.1 B now e)) (g_X12_isSo_b119 N book s tells (nI X.length) pl so mi2 (nI (B ++ [e]).length) (g_X12_isSo_L4 N book s tells (nI X.length) pl so mi2 (nI (B ++ [e]).length) fv)) hN
      have hif : ∀ {α : Type} (F : Int32 → Option α), (if nI (secS law H d x.1 B now e).length = nI x.2.length then F (nI 1) else F 0) = F (bI (decide ((secS law H d x.1 B now e).length = x.2.length))) := fun F => by
        by_cases z : (secS law H d x.1 B now e).length = x.2.length
        · rw [if_pos (by rw [z]), decide_eq_true z]; rfl
        · rw [if_neg (fun w => z ((neq (by omega) (by omega)).mp w)), decide_eq_false z]; rfl
      have hif' := hif (fun z => g_X12_isSo_L61 N book s tells (nI X.length) pl so mi2 (nI (B ++ [e]).length) (g_X12_isSo_b119 N book s tells (nI X.length) pl so mi2 (nI (B ++ [e]).length) (g_X12_isSo_L4 N book s tells (nI X.length) pl so mi2 (nI (B ++ [e]).length) fv)) N wh' ih' (goneR law H (bF d x.1 (B ++ [e])) [] gb0 (secL d x.1 B now e)) st' (nI (secS law H d x.1 B now e).length) z (nI i) 0)
      rw [hif', hin]
      unfold g_X12_isSo_b119
      rw [nI_1, drop_cons hx, all_cons, Bool.true_and]
      exact ihm (i + 1) (by omega) fv (by omega) _ _ _ _ _ _
end SECSO
