/-! ===== promise 12: stands ===== -/
def HOk (P S H law : Nat) (mi book : Nat → Int32) (d : Nat → Nat → Nat) : Prop := (1 ≤ P ∧ P ≤ 5) ∧ (2 ≤ S ∧ S ≤ 8) ∧ (1 ≤ H ∧ H ≤ 60) ∧ law < 3 ∧ DR P mi d ∧ DB P book d ∧ (∀ a, a < P → d a a = 0) ∧ book 0 = nI P ∧ book 1 = nI H ∧ book 2 = nI law ∧ book 3 = nI S
theorem pX11_isMinute (N : Nat) (x : Int32) : g_X11_isMinute N x = some (if ixB x 10000 then 1 else 0) := by
  unfold g_X11_isMinute
  rcases pk_ix x (show 10000 < 2 ^ 31 by omega) with h | h | ⟨j, hj, rfl⟩
  · have e1 : ixB x 10000 = false := by
      cases hb : ixB x 10000 with
      | false => rfl
      | true =>
        unfold ixB at hb
        rw [Bool.and_eq_true, decide_eq_true_iff, decide_eq_true_iff] at hb
        exact absurd h (Int32.not_lt.mpr hb.1)
    rw [if_pos h, e1]; rfl
  · have e1 : ixB x 10000 = false := by
      cases hb : ixB x 10000 with
      | false => rfl
      | true =>
        unfold ixB at hb
        rw [Bool.and_eq_true, decide_eq_true_iff, decide_eq_true_iff] at hb
        exact absurd h (Int32.not_le.mpr hb.2)
    have h0 : ¬ x < 0 := fun z => absurd (Int32.lt_of_lt_of_le (show (0 : Int32) < nI 10000 by decide) h) (Int32.not_lt.mpr (Int32.le_of_lt z))
    have h1 : 9999 < x := Int32.lt_of_lt_of_le (show (9999 : Int32) < nI 10000 by decide) h
    rw [if_neg h0, if_pos h1, e1]; rfl
  · have e1 : ixB (nI j) 10000 = true := (ixB_iff (by omega)).mpr ⟨j, hj, rfl⟩
    rw [if_neg (nI_pos (by omega)), if_neg (by rw [l9999, nlt (by omega) (by omega)]; omega), e1]; rfl
theorem pX12_isMinute (N : Nat) (x : Int32) : g_X12_isMinute N x = some (if ixB x 10000 then 1 else 0) := by
  unfold g_X12_isMinute
  have h := pX12_in0 N 10000 (by omega) (by omega) x
  have e : nI 10000 - 1 = 9999 := by decide
  rw [e] at h
  rw [h]
  cases ixB x 10000 <;> rfl
theorem neg1 {x : Int32} (h1 : -1 ≤ x) (h2 : x < 0) : x = -1 := by
  rw [Int32.le_iff_toInt_le] at h1
  rw [Int32.lt_iff_toInt_lt] at h2
  apply Int32.toInt_inj.mp
  have e1 : (-1 : Int32).toInt = -1 := by decide
  have e2 : (0 : Int32).toInt = 0 := by decide
  rw [e1] at h1 ⊢
  rw [e2] at h2
  omega
theorem t_stands {N P S H law now : Nat} {mi book bp bs bm s : Nat → Int32} {d : Nat → Nat → Nat} {B : List Be} (hN : 200 < N) (hh : HOk P S H law mi book d) (hBR : BR bp bs bm B) (hs : SR s B now) (hB : BOk P B now) (qs qd qh so ma he : Nat → Int32) (qz rz rn : Int32) (pl so2 mi2 wh ih gb st : Nat → Int32) (many sz : Int32) (x1 x2 x3 : Int32) :
    ∃ v w, g_X11_stands N (nI P) (nI H) (nI law) mi bp bs bm (nI B.length) qs qd qh qz so ma rz he rn x1 x2 x3 = some v ∧ g_X12_stands N book s pl so2 mi2 wh ih gb st many sz x1 x2 x3 = some w ∧ v.1 = w.1 := by
  obtain ⟨⟨hP1, hP⟩, ⟨hS1, hS⟩, ⟨hH1, hH⟩, hlaw, hdr, hdb, hd0, k0, k1, k2, k3⟩ := hh
  unfold g_X11_stands g_X12_stands
  rw [pX2_isPlace, pX12_isPlace N P book (by omega) (by omega) k0, pX11_isMinute, pX12_isMinute]
  cases hx1 : ixB x1 P with
  | false => exact ⟨_, _, rfl, rfl, rfl⟩
  | true =>
    cases hx2 : ixB x2 10000 with
    | false => exact ⟨_, _, rfl, rfl, rfl⟩
    | true =>
      obtain ⟨p, hp, rfl⟩ := (ixB_iff (by omega)).mp hx1
      obtain ⟨t, ht, rfl⟩ := (ixB_iff (by omega)).mp hx2
      simp only [Option.bind_some, if_true]
      rw [if_neg (show ¬ (1 : Int32) = 0 by decide), if_neg (show ¬ (1 : Int32) = 0 by decide), if_neg (show ¬ (1 : Int32) = 0 by decide), if_neg (show ¬ (1 : Int32) = 0 by decide)]
      by_cases c : (-1 : Int32) ≤ x3
      · rw [if_pos c, if_pos c]
        obtain ⟨qs', qd', qh', so', ma', he', rn', h1, -, h2⟩ := pX11_standAt (N := N) (H := H) (law := law) hdr hP hBR hB (by omega) hlaw hN hp (show t < 2147483648 by omega) qs qd qh so ma he qz rz rn
        obtain ⟨pl', so3, mi', wh', ih', gb', st', h3, -, h4, h5⟩ := pX12_playsNow (N := N) (H := H) (law := law) hdb hp hP k1 k2 hlaw (by omega) (show t < 2147483648 by omega) hs hB hN pl so2 mi2 wh ih gb st many sz
        rw [h1, h3]
        simp only [Option.bind_some]
        by_cases c2 : x3 = -1
        · rw [if_pos c2, if_pos c2]; exact ⟨_, _, rfl, rfl, rfl⟩
        · rw [if_neg c2, if_neg c2]
          have hlen : (stdB law H d p B t).length ≤ 24 := by
            have h6 := runI_len (law := law) (H := H) (f := bF d p B) (R := ordT d p B t) (S := [])
            have h7 := (srt_of (W := bW d p B) hB.mono t).2.2
            have h8 := hB.1
            have h9 : (ordT d p B t).length ≤ B.length := h7
            unfold stdB
            simp at h6; omega
          by_cases c3 : nI (stdB law H d p B t).length ≤ x3
          · rw [if_pos c3, if_pos c3]; exact ⟨_, _, rfl, rfl, rfl⟩
          · rw [if_neg c3, if_neg c3]
            have h0 : ¬ x3 < 0 := fun z => c2 (neg1 c z)
            rcases pk_ix x3 (show (stdB law H d p B t).length < 2 ^ 31 by omega) with z | z | ⟨k, hk, rfl⟩
            · exact absurd z h0
            · exact absurd z c3
            · obtain ⟨i, hi⟩ : ∃ i, (stdB law H d p B t)[k]? = some i := ⟨_, List.getElem?_eq_getElem hk⟩
              have hiB : i < B.length := by
                have h6 := runI_sub_ord (List.mem_of_getElem? hi)
                exact ((srt_of (W := bW d p B) hB.mono t).2.1 i).mp h6 |>.1
              have e1 := (h2 k (phi d p B i) (by rw [List.getElem?_map, hi]; rfl)).1
              have e2 := h4 k i hi
              have e3 := (h5 i hiB).1
              have h8 := hB.1
              rw [gi_nI (by omega) (by omega), gi_nI (by omega) (by omega), nc (by omega), e1, e2, gi_nI (by omega) (by omega), nc (by omega), e3]
              exact ⟨_, _, rfl, rfl, rfl⟩
      · rw [if_neg c, if_neg c]; exact ⟨_, _, rfl, rfl, rfl⟩
