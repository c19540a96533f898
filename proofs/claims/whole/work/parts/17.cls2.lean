abbrev w_X2_minutesBetween (G : jG) (q_this : Nat) (q_this_minutes : Nat) (v_this_book : Value) (v_this_sorts : Value) (v_this_hour : Value) (v_this_law : Value) (v_this_minutesTold : Value) (f_this_places : Int32) (f_this_minutes : (Nat → Int32)) : va_W := [oC q_this 2 [v_this_book, .int f_this_places, v_this_sorts, v_this_hour, v_this_law, v_this_minutesTold, .ref q_this_minutes], aI G q_this_minutes 25 f_this_minutes]
def g_X2_minutesBetween (N : Nat) (f_this_places : Int32) (f_this_minutes : (Nat → Int32)) (x1 : Int32) (x2 : Int32) : Option (Int32) := (g_X2_isPlace N f_this_places x1).bind fun v2 => if v2 = 0 then some 0 else (g_X2_isPlace N f_this_places x2).bind fun v10 => if v10 = 0 then some 0 else gi ((x1 * 5) + x2) 25 (some (f_this_minutes ((x1 * 5) + x2 : Int32).toNatClampNeg))
set_option maxHeartbeats 4000000 in
set_option maxRecDepth 100000 in
theorem c_X2_minutesBetween (l : Launch) (G : jG) (N : Nat) (q_this : Nat) (q_this_minutes : Nat) (v_this_book : Value) (v_this_sorts : Value) (v_this_hour : Value) (v_this_law : Value) (v_this_minutesTold : Value) (f_this_places : Int32) (f_this_minutes : (Nat → Int32)) (x1 : Int32) (x2 : Int32) (u : Int32) (hu : g_X2_minutesBetween N f_this_places f_this_minutes x1 x2 = some u) : MetRO l G yX2_minutesBetween wsX2_minutesBetween ({ frames := 1, cells := 0, slots := 0, locals := 21 } : Room) [.ref q_this, .int x1, .int x2] (w_X2_minutesBetween G q_this q_this_minutes v_this_book v_this_sorts v_this_hour v_this_law v_this_minutesTold f_this_places f_this_minutes) u := by
  refine met_roi (cc := cX2_minutesBetween) (maxL := 3) (lv0 := [(0, .ref q_this), (1, .int x1), (2, .int x2)]) (by decide) rfl rfl rfl rfl (fun X hX hret => ?_)
  have hinX2 : ∀ w ∈ u_ws RX2 TX2 7, w ∈ wsX2_minutesBetween := by decide +kernel
  have hf_X2_minutes_18 : Cond.fieldLink RX2 18 (TX2 6).1 (TX2 6).2.1 (TX2 6).2.2.1 ∈ wsX2_minutesBetween := by decide +kernel
  have hg := hu
  unfold g_X2_minutesBetween at hg
  refine j_aload_n hX 0 dX2_minutesBetween_0 rfl rfl ?_
  refine j_iload_n hX 1 dX2_minutesBetween_1 rfl rfl ?_
  refine j_vRO hX (r := fun v => v) [.int x1] hg (fun v hv => c_X2_isPlace l G N q_this v_this_book v_this_sorts v_this_hour v_this_law v_this_minutesTold (.ref q_this_minutes) f_this_places x1 v hv) gX2_minutesBetween_X2_isPlace rfl ⟨rfl, rfl⟩ ⟨rfl, by decide, by decide, rfl⟩ rfl rfl [0] rfl rfl rfl dX2_minutesBetween_2 rfl rfl ⟨Nat.zero_le _, Nat.zero_le _⟩ (fun v2 hg => ?_)
  refine j_if_eq hX 29 hg dX2_minutesBetween_5 (by decide) (fun hg => ?_) (fun hg => ?_)
  · refine j_iconst hX dX2_minutesBetween_29 kc_0 ?_
    cases hg
    exact hret _ _ dX2_minutesBetween_30
  · refine j_aload_n hX 0 dX2_minutesBetween_8 rfl rfl ?_
    refine j_iload_n hX 2 dX2_minutesBetween_9 rfl rfl ?_
    refine j_vRO hX (r := fun v => v) [.int x2] hg (fun v hv => c_X2_isPlace l G N q_this v_this_book v_this_sorts v_this_hour v_this_law v_this_minutesTold (.ref q_this_minutes) f_this_places x2 v hv) gX2_minutesBetween_X2_isPlace rfl ⟨rfl, rfl⟩ ⟨rfl, by decide, by decide, rfl⟩ rfl rfl [0] rfl rfl rfl dX2_minutesBetween_10 rfl rfl ⟨Nat.zero_le _, Nat.zero_le _⟩ (fun v10 hg => ?_)
    refine j_if_eq hX 29 hg dX2_minutesBetween_13 (by decide) (fun hg => ?_) (fun hg => ?_)
    · refine j_iconst hX dX2_minutesBetween_29 kc_0 ?_
      cases hg
      exact hret _ _ dX2_minutesBetween_30
    · refine j_aload_n hX 0 dX2_minutesBetween_16 rfl rfl ?_
      refine j_get hX 0 6 rfl rfl hinX2 rfl hf_X2_minutes_18 rfl dX2_minutesBetween_17 ?_
      refine j_iload_n hX 1 dX2_minutesBetween_20 rfl rfl ?_
      refine j_iconst hX dX2_minutesBetween_21 kc_5 ?_
      refine j_imul hX dX2_minutesBetween_22 ?_
      refine j_iload_n hX 2 dX2_minutesBetween_23 rfl rfl ?_
      refine j_iadd hX dX2_minutesBetween_24 ?_
      refine j_iald hX 1 rfl hg dX2_minutesBetween_25 (fun hg => ?_)
      refine j_goto hX 30 dX2_minutesBetween_26 (by decide) ?_
      cases hg
      exact hret _ _ dX2_minutesBetween_30
abbrev w_X11_delay (G : jG) (q_this : Nat) (q_this_laid : Nat) (q_this_laid_minutes : Nat) (v_this_text : Value) (v_this_reader : Value) (v_this_beats : Value) (v_this_steps : Value) (v_this_kept : Value) (v_this_keptSize : Value) (v_this_told : Value) (v_this_secrets : Value) (v_this_trials : Value) (v_this_queue : Value) (v_this_row : Value) (v_this_later : Value) (v_this_laid_book : Value) (v_this_laid_sorts : Value) (v_this_laid_hour : Value) (v_this_laid_law : Value) (v_this_laid_minutesTold : Value) (f_this_laid_places : Int32) (f_this_laid_minutes : (Nat → Int32)) : va_W := [oC q_this 11 [v_this_text, v_this_reader, .ref q_this_laid, v_this_beats, v_this_steps, v_this_kept, v_this_keptSize, v_this_told, v_this_secrets, v_this_trials, v_this_queue, v_this_row, v_this_later], oC q_this_laid 2 [v_this_laid_book, .int f_this_laid_places, v_this_laid_sorts, v_this_laid_hour, v_this_laid_law, v_this_laid_minutesTold, .ref q_this_laid_minutes], aI G q_this_laid_minutes 25 f_this_laid_minutes]
def g_X11_delay (N : Nat) (f_this_laid_places : Int32) (f_this_laid_minutes : (Nat → Int32)) (x1 : Int32) (x2 : Int32) : Option (Int32) := (g_X2_isPlace N f_this_laid_places x1).bind fun v5 => if v5 = 0 then some (-1) else (g_X2_isPlace N f_this_laid_places x2).bind fun v16 => if v16 = 0 then some (-1) else (g_X2_minutesBetween N f_this_laid_places f_this_laid_minutes x1 x2).bind fun v30 => some v30
set_option maxHeartbeats 4000000 in
set_option maxRecDepth 100000 in
theorem c_X11_delay (l : Launch) (G : jG) (N : Nat) (q_this : Nat) (q_this_laid : Nat) (q_this_laid_minutes : Nat) (v_this_text : Value) (v_this_reader : Value) (v_this_beats : Value) (v_this_steps : Value) (v_this_kept : Value) (v_this_keptSize : Value) (v_this_told : Value) (v_this_secrets : Value) (v_this_trials : Value) (v_this_queue : Value) (v_this_row : Value) (v_this_later : Value) (v_this_laid_book : Value) (v_this_laid_sorts : Value) (v_this_laid_hour : Value) (v_this_laid_law : Value) (v_this_laid_minutesTold : Value) (f_this_laid_places : Int32) (f_this_laid_minutes : (Nat → Int32)) (x1 : Int32) (x2 : Int32) (u : Int32) (hu : g_X11_delay N f_this_laid_places f_this_laid_minutes x1 x2 = some u) : MetRO l G yX11_delay wsX11_delay ({ frames := 2, cells := 0, slots := 0, locals := 43 } : Room) [.ref q_this, .int x1, .int x2] (w_X11_delay G q_this q_this_laid q_this_laid_minutes v_this_text v_this_reader v_this_beats v_this_steps v_this_kept v_this_keptSize v_this_told v_this_secrets v_this_trials v_this_queue v_this_row v_this_later v_this_laid_book v_this_laid_sorts v_this_laid_hour v_this_laid_law v_this_laid_minutesTold f_this_laid_places f_this_laid_minutes) u := by
  refine met_roi (cc := cX11_delay) (maxL := 3) (lv0 := [(0, .ref q_this), (1, .int x1), (2, .int x2)]) (by decide) rfl rfl rfl rfl (fun X hX hret => ?_)
  have hinX11 : ∀ w ∈ u_ws RX11 TX11 13, w ∈ wsX11_delay := by decide +kernel
  have hf_X11_laid_28 : Cond.fieldLink RX11 28 (TX11 2).1 (TX11 2).2.1 (TX11 2).2.2.1 ∈ wsX11_delay := by decide +kernel
  have hg := hu
  unfold g_X11_delay at hg
  refine j_aload_n hX 0 dX11_delay_0 rfl rfl ?_
  refine j_get hX 0 2 rfl rfl hinX11 rfl hf_X11_laid_28 rfl dX11_delay_1 ?_
  refine j_iload_n hX 1 dX11_delay_4 rfl rfl ?_
  refine j_vRO hX (r := fun v => v) [.int x1] hg (fun v hv => c_X2_isPlace l G N q_this_laid v_this_laid_book v_this_laid_sorts v_this_laid_hour v_this_laid_law v_this_laid_minutesTold (.ref q_this_laid_minutes) f_this_laid_places x1 v hv) gX11_delay_X2_isPlace rfl ⟨rfl, rfl⟩ ⟨rfl, by decide, by decide, rfl⟩ rfl rfl [1] rfl rfl rfl dX11_delay_5 rfl rfl ⟨Nat.zero_le _, Nat.zero_le _⟩ (fun v5 hg => ?_)
  refine j_if_eq hX 22 hg dX11_delay_8 (by decide) (fun hg => ?_) (fun hg => ?_)
  · refine j_iconst hX dX11_delay_22 kc_m1 ?_
    cases hg
    exact hret _ _ dX11_delay_23
  · refine j_aload_n hX 0 dX11_delay_11 rfl rfl ?_
    refine j_get hX 0 2 rfl rfl hinX11 rfl hf_X11_laid_28 rfl dX11_delay_12 ?_
    refine j_iload_n hX 2 dX11_delay_15 rfl rfl ?_
    refine j_vRO hX (r := fun v => v) [.int x2] hg (fun v hv => c_X2_isPlace l G N q_this_laid v_this_laid_book v_this_laid_sorts v_this_laid_hour v_this_laid_law v_this_laid_minutesTold (.ref q_this_laid_minutes) f_this_laid_places x2 v hv) gX11_delay_X2_isPlace rfl ⟨rfl, rfl⟩ ⟨rfl, by decide, by decide, rfl⟩ rfl rfl [1] rfl rfl rfl dX11_delay_16 rfl rfl ⟨Nat.zero_le _, Nat.zero_le _⟩ (fun v16 hg => ?_)
    refine j_if_ne hX 24 hg dX11_delay_19 (by decide) (fun hg => ?_) (fun hg => ?_)
    · refine j_iconst hX dX11_delay_22 kc_m1 ?_
      cases hg
      exact hret _ _ dX11_delay_23
    · refine j_aload_n hX 0 dX11_delay_24 rfl rfl ?_
      refine j_get hX 0 2 rfl rfl hinX11 rfl hf_X11_laid_28 rfl dX11_delay_25 ?_
      refine j_iload_n hX 1 dX11_delay_28 rfl rfl ?_
      refine j_iload_n hX 2 dX11_delay_29 rfl rfl ?_
      refine j_vRO hX (r := fun v => v) [.int x1, .int x2] hg (fun v hv => c_X2_minutesBetween l G N q_this_laid q_this_laid_minutes v_this_laid_book v_this_laid_sorts v_this_laid_hour v_this_laid_law v_this_laid_minutesTold f_this_laid_places f_this_laid_minutes x1 x2 v hv) gX11_delay_X2_minutesBetween rfl ⟨rfl, rfl⟩ ⟨rfl, by decide, by decide, rfl⟩ rfl rfl [1, 2] rfl rfl rfl dX11_delay_30 rfl rfl ⟨Nat.zero_le _, Nat.zero_le _⟩ (fun v30 hg => ?_)
      cases hg
      exact hret _ _ dX11_delay_33
abbrev w_X1_isWord (G : jG) (q_this : Nat) (v_this_words : Value) (f_this_size : Int32) : va_W := [oC q_this 1 [v_this_words, .int f_this_size]]
def g_X1_isWord (N : Nat) (f_this_size : Int32) (x1 : Int32) : Option (Int32) := if x1 < 0 then some 0 else if f_this_size ≤ x1 then some 0 else some 1
set_option maxHeartbeats 4000000 in
set_option maxRecDepth 100000 in
theorem c_X1_isWord (l : Launch) (G : jG) (N : Nat) (q_this : Nat) (v_this_words : Value) (f_this_size : Int32) (x1 : Int32) (u : Int32) (hu : g_X1_isWord N f_this_size x1 = some u) : MetRO l G yX1_isWord wsX1_isWord ({ frames := 0, cells := 0, slots := 0, locals := 0 } : Room) [.ref q_this, .int x1] (w_X1_isWord G q_this v_this_words f_this_size) u := by
  refine met_roz (cc := cX1_isWord) (maxL := 2) (lv0 := [(0, .ref q_this), (1, .int x1)]) (by decide) rfl rfl rfl rfl (fun X hX hret => ?_)
  have hinX1 : ∀ w ∈ u_ws RX1 TX1 2, w ∈ wsX1_isWord := by decide +kernel
  have hf_X1_size_20 : Cond.fieldLink RX1 20 (TX1 1).1 (TX1 1).2.1 (TX1 1).2.2.1 ∈ wsX1_isWord := by decide +kernel
  have hg := hu
  unfold g_X1_isWord at hg
  refine j_iload_n hX 1 dX1_isWord_0 rfl rfl ?_
  refine j_if_lt hX 16 hg dX1_isWord_1 (by decide) (fun hg => ?_) (fun hg => ?_)
  · refine j_iconst hX dX1_isWord_16 kc_0 ?_
    cases hg
    exact hret _ _ (Or.inl rfl) dX1_isWord_17
  · refine j_iload_n hX 1 dX1_isWord_4 rfl rfl ?_
    refine j_aload_n hX 0 dX1_isWord_5 rfl rfl ?_
    refine j_get hX 0 1 rfl rfl hinX1 rfl hf_X1_size_20 rfl dX1_isWord_6 ?_
    refine j_icmp_ge hX 16 hg dX1_isWord_9 (by decide) (fun hg => ?_) (fun hg => ?_)
    · refine j_iconst hX dX1_isWord_16 kc_0 ?_
      cases hg
      exact hret _ _ (Or.inl rfl) dX1_isWord_17
    · refine j_iconst hX dX1_isWord_12 kc_1 ?_
      refine j_goto hX 17 dX1_isWord_13 (by decide) ?_
      cases hg
      exact hret _ _ (Or.inr rfl) dX1_isWord_17
abbrev w_X11_word (G : jG) (q_this : Nat) (q_this_laid : Nat) (q_this_laid_book : Nat) (q_this_laid_book_words : Nat) (q_this_laid_book_words_E : Nat → Nat) (q_this_laid_book_words_E_sort : Nat → Nat) (v_this_text : Value) (v_this_reader : Value) (v_this_beats : Value) (v_this_steps : Value) (v_this_kept : Value) (v_this_keptSize : Value) (v_this_told : Value) (v_this_secrets : Value) (v_this_trials : Value) (v_this_queue : Value) (v_this_row : Value) (v_this_later : Value) (v_this_laid_places : Value) (v_this_laid_sorts : Value) (v_this_laid_hour : Value) (v_this_laid_law : Value) (v_this_laid_minutesTold : Value) (v_this_laid_minutes : Value) (f_this_laid_book_words_E_sort : (Nat → Nat → Int32)) (f_this_laid_book_words_E_size : (Nat → Int32)) (f_this_laid_book_size : Int32) : va_W := [oC q_this 11 [v_this_text, v_this_reader, .ref q_this_laid, v_this_beats, v_this_steps, v_this_kept, v_this_keptSize, v_this_told, v_this_secrets, v_this_trials, v_this_queue, v_this_row, v_this_later], oC q_this_laid 2 [.ref q_this_laid_book, v_this_laid_places, v_this_laid_sorts, v_this_laid_hour, v_this_laid_law, v_this_laid_minutesTold, v_this_laid_minutes], oC q_this_laid_book 1 [.ref q_this_laid_book_words, .int f_this_laid_book_size], aQ (jcSortRow G) q_this_laid_book_words 8 (fun j => some (q_this_laid_book_words_E j)), oC (q_this_laid_book_words_E 0) 7 [.ref (q_this_laid_book_words_E_sort 0), .int (f_this_laid_book_words_E_size 0)], aI G (q_this_laid_book_words_E_sort 0) 4 (f_this_laid_book_words_E_sort 0), oC (q_this_laid_book_words_E 1) 7 [.ref (q_this_laid_book_words_E_sort 1), .int (f_this_laid_book_words_E_size 1)], aI G (q_this_laid_book_words_E_sort 1) 4 (f_this_laid_book_words_E_sort 1), oC (q_this_laid_book_words_E 2) 7 [.ref (q_this_laid_book_words_E_sort 2), .int (f_this_laid_book_words_E_size 2)], aI G (q_this_laid_book_words_E_sort 2) 4 (f_this_laid_book_words_E_sort 2), oC (q_this_laid_book_words_E 3) 7 [.ref (q_this_laid_book_words_E_sort 3), .int (f_this_laid_book_words_E_size 3)], aI G (q_this_laid_book_words_E_sort 3) 4 (f_this_laid_book_words_E_sort 3), oC (q_this_laid_book_words_E 4) 7 [.ref (q_this_laid_book_words_E_sort 4), .int (f_this_laid_book_words_E_size 4)], aI G (q_this_laid_book_words_E_sort 4) 4 (f_this_laid_book_words_E_sort 4), oC (q_this_laid_book_words_E 5) 7 [.ref (q_this_laid_book_words_E_sort 5), .int (f_this_laid_book_words_E_size 5)], aI G (q_this_laid_book_words_E_sort 5) 4 (f_this_laid_book_words_E_sort 5), oC (q_this_laid_book_words_E 6) 7 [.ref (q_this_laid_book_words_E_sort 6), .int (f_this_laid_book_words_E_size 6)], aI G (q_this_laid_book_words_E_sort 6) 4 (f_this_laid_book_words_E_sort 6), oC (q_this_laid_book_words_E 7) 7 [.ref (q_this_laid_book_words_E_sort 7), .int (f_this_laid_book_words_E_size 7)], aI G (q_this_laid_book_words_E_sort 7) 4 (f_this_laid_book_words_E_sort 7)]
def g_X11_word (N : Nat) (f_this_laid_book_words_E_sort : (Nat → Nat → Int32)) (f_this_laid_book_words_E_size : (Nat → Int32)) (f_this_laid_book_size : Int32) (x1 : Int32) (x2 : Int32) : Option (Int32) := (g_X1_isWord N f_this_laid_book_size x1).bind fun v8 => if v8 = 0 then some (-1) else if (0 : Int32) ≤ x2 then gi x1 8 (if (f_this_laid_book_words_E_size x1.toNatClampNeg) ≤ x2 then some (-4) else gi x2 4 (some ((f_this_laid_book_words_E_sort x1.toNatClampNeg) x2.toNatClampNeg))) else some (-1)
set_option maxHeartbeats 4000000 in
set_option maxRecDepth 100000 in
theorem c_X11_word (l : Launch) (G : jG) (N : Nat) (q_this : Nat) (q_this_laid : Nat) (q_this_laid_book : Nat) (q_this_laid_book_words : Nat) (q_this_laid_book_words_E : Nat → Nat) (q_this_laid_book_words_E_sort : Nat → Nat) (v_this_text : Value) (v_this_reader : Value) (v_this_beats : Value) (v_this_steps : Value) (v_this_kept : Value) (v_this_keptSize : Value) (v_this_told : Value) (v_this_secrets : Value) (v_this_trials : Value) (v_this_queue : Value) (v_this_row : Value) (v_this_later : Value) (v_this_laid_places : Value) (v_this_laid_sorts : Value) (v_this_laid_hour : Value) (v_this_laid_law : Value) (v_this_laid_minutesTold : Value) (v_this_laid_minutes : Value) (f_this_laid_book_words_E_sort : (Nat → Nat → Int32)) (f_this_laid_book_words_E_size : (Nat → Int32)) (f_this_laid_book_size : Int32) (x1 : Int32) (x2 : Int32) (u : Int32) (hu : g_X11_word N f_this_laid_book_words_E_sort f_this_laid_book_words_E_size f_this_laid_book_size x1 x2 = some u) : MetRO l G yX11_word wsX11_word ({ frames := 1, cells := 0, slots := 0, locals := 21 } : Room) [.ref q_this, .int x1, .int x2] (w_X11_word G q_this q_this_laid q_this_laid_book q_this_laid_book_words q_this_laid_book_words_E q_this_laid_book_words_E_sort v_this_text v_this_reader v_this_beats v_this_steps v_this_kept v_this_keptSize v_this_told v_this_secrets v_this_trials v_this_queue v_this_row v_this_later v_this_laid_places v_this_laid_sorts v_this_laid_hour v_this_laid_law v_this_laid_minutesTold v_this_laid_minutes f_this_laid_book_words_E_sort f_this_laid_book_words_E_size f_this_laid_book_size) u := by
  refine met_roi (cc := cX11_word) (maxL := 4) (lv0 := [(0, .ref q_this), (1, .int x1), (2, .int x2)]) (by decide) rfl rfl rfl rfl (fun X hX hret => ?_)
  have hinX11 : ∀ w ∈ u_ws RX11 TX11 13, w ∈ wsX11_word := by decide +kernel
  have hinX1 : ∀ w ∈ u_ws RX1 TX1 2, w ∈ wsX11_word := by decide +kernel
  have hinX2 : ∀ w ∈ u_ws RX2 TX2 7, w ∈ wsX11_word := by decide +kernel
  have hinX7 : ∀ w ∈ u_ws RX7 TX7 2, w ∈ wsX11_word := by decide +kernel
  have hf_X11_laid_28 : Cond.fieldLink RX11 28 (TX11 2).1 (TX11 2).2.1 (TX11 2).2.2.1 ∈ wsX11_word := by decide +kernel
  have hf_X1_words_145 : Cond.fieldLink RX11 145 (TX1 0).1 (TX1 0).2.1 (TX1 0).2.2.1 ∈ wsX11_word := by decide +kernel
  have hf_X2_book_136 : Cond.fieldLink RX11 136 (TX2 0).1 (TX2 0).2.1 (TX2 0).2.2.1 ∈ wsX11_word := by decide +kernel
  have hf_X7_size_119 : Cond.fieldLink RX11 119 (TX7 1).1 (TX7 1).2.1 (TX7 1).2.2.1 ∈ wsX11_word := by decide +kernel
  have hf_X7_sort_149 : Cond.fieldLink RX11 149 (TX7 0).1 (TX7 0).2.1 (TX7 0).2.2.1 ∈ wsX11_word := by decide +kernel
  have hg := hu
  unfold g_X11_word at hg
  refine j_aload_n hX 0 dX11_word_0 rfl rfl ?_
  refine j_get hX 0 2 rfl rfl hinX11 rfl hf_X11_laid_28 rfl dX11_word_1 ?_
  refine j_get hX 1 0 rfl rfl hinX2 rfl hf_X2_book_136 rfl dX11_word_4 ?_
  refine j_iload_n hX 1 dX11_word_7 rfl rfl ?_
  refine j_vRO hX (r := fun v => v) [.int x1] hg (fun v hv => c_X1_isWord l G N q_this_laid_book (.ref q_this_laid_book_words) f_this_laid_book_size x1 v hv) gX11_word_X1_isWord rfl ⟨rfl, rfl⟩ ⟨rfl, by decide, by decide, rfl⟩ rfl rfl [2] rfl rfl rfl dX11_word_8 rfl rfl ⟨Nat.zero_le _, Nat.zero_le _⟩ (fun v8 hg => ?_)
  refine j_if_eq hX 18 hg dX11_word_11 (by decide) (fun hg => ?_) (fun hg => ?_)
  · refine j_iconst hX dX11_word_18 kc_m1 ?_
    cases hg
    exact hret _ _ dX11_word_19
  · refine j_iload_n hX 2 dX11_word_14 rfl rfl ?_
    refine j_if_ge hX 20 hg dX11_word_15 (by decide) (fun hg => ?_) (fun hg => ?_)
    · refine j_aload_n hX 0 dX11_word_20 rfl rfl ?_
      refine j_get hX 0 2 rfl rfl hinX11 rfl hf_X11_laid_28 rfl dX11_word_21 ?_
      refine j_get hX 1 0 rfl rfl hinX2 rfl hf_X2_book_136 rfl dX11_word_24 ?_
      refine j_get hX 2 0 rfl rfl hinX1 rfl hf_X1_words_145 rfl dX11_word_27 ?_
      refine j_iload_n hX 1 dX11_word_30 rfl rfl ?_
      refine j_aald hX 3 6 rfl rfl hg dX11_word_31 (fun hw31 hg => ?_)
      refine j_astore_n hX (lv' := [(3, .ref (q_this_laid_book_words_E x1.toNatClampNeg)), (0, .ref q_this), (1, .int x1), (2, .int x2)]) dX11_word_32 rfl rfl rfl ?_
      refine j_iload_n hX 3 dX11_word_33 rfl rfl ?_
      refine j_aload_n hX 0 dX11_word_34 rfl rfl ?_
      refine j_get hX (4 + 2 * x1.toNatClampNeg) 1 (ix8 (P := fun w => (w_X11_word G q_this q_this_laid q_this_laid_book q_this_laid_book_words q_this_laid_book_words_E q_this_laid_book_words_E_sort v_this_text v_this_reader v_this_beats v_this_steps v_this_kept v_this_keptSize v_this_told v_this_secrets v_this_trials v_this_queue v_this_row v_this_later v_this_laid_places v_this_laid_sorts v_this_laid_hour v_this_laid_law v_this_laid_minutesTold v_this_laid_minutes f_this_laid_book_words_E_sort f_this_laid_book_words_E_size f_this_laid_book_size)[4 + 2 * w]? = some (oC (q_this_laid_book_words_E w) 7 [.ref (q_this_laid_book_words_E_sort w), .int (f_this_laid_book_words_E_size w)])) rfl rfl rfl rfl rfl rfl rfl rfl _ hw31) rfl hinX7 rfl hf_X7_size_119 rfl dX11_word_35 ?_
      refine j_icmp_ge hX 50 hg dX11_word_38 (by decide) (fun hg => ?_) (fun hg => ?_)
      · refine j_bipush hX dX11_word_50 kb_m4 ?_
        cases hg
        exact hret _ _ dX11_word_52
      · refine j_aload_n hX 0 dX11_word_41 rfl rfl ?_
        refine j_get hX (4 + 2 * x1.toNatClampNeg) 0 (ix8 (P := fun w => (w_X11_word G q_this q_this_laid q_this_laid_book q_this_laid_book_words q_this_laid_book_words_E q_this_laid_book_words_E_sort v_this_text v_this_reader v_this_beats v_this_steps v_this_kept v_this_keptSize v_this_told v_this_secrets v_this_trials v_this_queue v_this_row v_this_later v_this_laid_places v_this_laid_sorts v_this_laid_hour v_this_laid_law v_this_laid_minutesTold v_this_laid_minutes f_this_laid_book_words_E_sort f_this_laid_book_words_E_size f_this_laid_book_size)[4 + 2 * w]? = some (oC (q_this_laid_book_words_E w) 7 [.ref (q_this_laid_book_words_E_sort w), .int (f_this_laid_book_words_E_size w)])) rfl rfl rfl rfl rfl rfl rfl rfl _ hw31) rfl hinX7 rfl hf_X7_sort_149 rfl dX11_word_42 ?_
        refine j_iload_n hX 3 dX11_word_45 rfl rfl ?_
        refine j_iald hX (5 + 2 * x1.toNatClampNeg) (ix8 (P := fun w => (w_X11_word G q_this q_this_laid q_this_laid_book q_this_laid_book_words q_this_laid_book_words_E q_this_laid_book_words_E_sort v_this_text v_this_reader v_this_beats v_this_steps v_this_kept v_this_keptSize v_this_told v_this_secrets v_this_trials v_this_queue v_this_row v_this_later v_this_laid_places v_this_laid_sorts v_this_laid_hour v_this_laid_law v_this_laid_minutesTold v_this_laid_minutes f_this_laid_book_words_E_sort f_this_laid_book_words_E_size f_this_laid_book_size)[5 + 2 * w]? = some (aI G (q_this_laid_book_words_E_sort w) 4 (f_this_laid_book_words_E_sort w))) rfl rfl rfl rfl rfl rfl rfl rfl _ hw31) hg dX11_word_46 (fun hg => ?_)
        refine j_goto hX 52 dX11_word_47 (by decide) ?_
        cases hg
        exact hret _ _ dX11_word_52
    · refine j_iconst hX dX11_word_18 kc_m1 ?_
      cases hg
      exact hret _ _ dX11_word_19
abbrev w_X0_append (G : jG) (q_this : Nat) (q_this_place : Nat) (q_this_sort : Nat) (q_this_minute : Nat) (f_this_place : (Nat → Int32)) (f_this_sort : (Nat → Int32)) (f_this_minute : (Nat → Int32)) (f_this_size : Int32) (f_this_now : Int32) : va_W := [oC q_this 0 [.ref q_this_place, .ref q_this_sort, .ref q_this_minute, .int f_this_size, .int f_this_now], aI G q_this_place 24 f_this_place, aI G q_this_sort 24 f_this_sort, aI G q_this_minute 24 f_this_minute]
def g_X0_append (N : Nat) (f_this_now : Int32) (f_this_place : (Nat → Int32)) (f_this_sort : (Nat → Int32)) (f_this_minute : (Nat → Int32)) (f_this_size : Int32) (x1 : Int32) (x2 : Int32) : Option (Int32 × (Nat → Int32) × (Nat → Int32) × (Nat → Int32) × Int32) := if f_this_size < 24 then gi f_this_size 24 (gi f_this_size 24 (gi f_this_size 24 (some (1, upd f_this_place f_this_size.toNatClampNeg x1, upd f_this_sort f_this_size.toNatClampNeg x2, upd f_this_minute f_this_size.toNatClampNeg f_this_now, f_this_size + 1)))) else some (0, f_this_place, f_this_sort, f_this_minute, f_this_size)
set_option maxHeartbeats 4000000 in
set_option maxRecDepth 100000 in
theorem c_X0_append (l : Launch) (G : jG) (N : Nat) (q_this : Nat) (q_this_place : Nat) (q_this_sort : Nat) (q_this_minute : Nat) (f_this_place : (Nat → Int32)) (f_this_sort : (Nat → Int32)) (f_this_minute : (Nat → Int32)) (f_this_size : Int32) (f_this_now : Int32) (x1 : Int32) (x2 : Int32) (u : Int32 × (Nat → Int32) × (Nat → Int32) × (Nat → Int32) × Int32) (hu : g_X0_append N f_this_now f_this_place f_this_sort f_this_minute f_this_size x1 x2 = some u) : MetRW l G yX0_append wsX0_append ({ frames := 0, cells := 0, slots := 0, locals := 0 } : Room) [.ref q_this, .int x1, .int x2] (w_X0_append G q_this q_this_place q_this_sort q_this_minute f_this_place f_this_sort f_this_minute f_this_size f_this_now) (w_X0_append G q_this q_this_place q_this_sort q_this_minute u.2.1 u.2.2.1 u.2.2.2.1 u.2.2.2.2 f_this_now) u.1 := by
  refine met_rwz (cc := cX0_append) (maxL := 3) (lv0 := [(0, .ref q_this), (1, .int x1), (2, .int x2)]) (by decide) rfl rfl rfl rfl (fun X hX hW hret => ?_)
  have hinX0 : ∀ w ∈ u_ws RX0 TX0 5, w ∈ wsX0_append := by decide +kernel
  have hf_X0_minute_18 : Cond.fieldLink RX0 18 (TX0 2).1 (TX0 2).2.1 (TX0 2).2.2.1 ∈ wsX0_append := by decide +kernel
  have hf_X0_now_25 : Cond.fieldLink RX0 25 (TX0 4).1 (TX0 4).2.1 (TX0 4).2.2.1 ∈ wsX0_append := by decide +kernel
  have hf_X0_place_9 : Cond.fieldLink RX0 9 (TX0 0).1 (TX0 0).2.1 (TX0 0).2.2.1 ∈ wsX0_append := by decide +kernel
  have hf_X0_size_21 : Cond.fieldLink RX0 21 (TX0 3).1 (TX0 3).2.1 (TX0 3).2.2.1 ∈ wsX0_append := by decide +kernel
  have hf_X0_sort_15 : Cond.fieldLink RX0 15 (TX0 1).1 (TX0 1).2.1 (TX0 1).2.2.1 ∈ wsX0_append := by decide +kernel
  have hg := hu
  unfold g_X0_append at hg
  refine j_aload_n hX 0 dX0_append_0 rfl rfl ?_
  refine j_get hX 0 3 rfl rfl hinX0 rfl hf_X0_size_21 rfl dX0_append_1 ?_
  refine j_bipush hX dX0_append_4 kb_24 ?_
  refine j_icmp_lt hX 11 hg dX0_append_6 (by decide) (fun hg => ?_) (fun hg => ?_)
  · refine j_aload_n hX 0 dX0_append_11 rfl rfl ?_
    refine j_get hX 0 0 rfl rfl hinX0 rfl hf_X0_place_9 rfl dX0_append_12 ?_
    refine j_aload_n hX 0 dX0_append_15 rfl rfl ?_
    refine j_get hX 0 3 rfl rfl hinX0 rfl hf_X0_size_21 rfl dX0_append_16 ?_
    refine j_iload_n hX 1 dX0_append_19 rfl rfl ?_
    refine j_iast hX hW 1 rfl hg dX0_append_20 (ws' := (w_X0_append G q_this q_this_place q_this_sort q_this_minute (upd f_this_place f_this_size.toNatClampNeg x1) f_this_sort f_this_minute f_this_size f_this_now)) rfl (fun hg => ?_)
    refine j_aload_n hX 0 dX0_append_21 rfl rfl ?_
    refine j_get hX 0 1 rfl rfl hinX0 rfl hf_X0_sort_15 rfl dX0_append_22 ?_
    refine j_aload_n hX 0 dX0_append_25 rfl rfl ?_
    refine j_get hX 0 3 rfl rfl hinX0 rfl hf_X0_size_21 rfl dX0_append_26 ?_
    refine j_iload_n hX 2 dX0_append_29 rfl rfl ?_
    refine j_iast hX hW 2 rfl hg dX0_append_30 (ws' := (w_X0_append G q_this q_this_place q_this_sort q_this_minute (upd f_this_place f_this_size.toNatClampNeg x1) (upd f_this_sort f_this_size.toNatClampNeg x2) f_this_minute f_this_size f_this_now)) rfl (fun hg => ?_)
    refine j_aload_n hX 0 dX0_append_31 rfl rfl ?_
    refine j_get hX 0 2 rfl rfl hinX0 rfl hf_X0_minute_18 rfl dX0_append_32 ?_
    refine j_aload_n hX 0 dX0_append_35 rfl rfl ?_
    refine j_get hX 0 3 rfl rfl hinX0 rfl hf_X0_size_21 rfl dX0_append_36 ?_
    refine j_aload_n hX 0 dX0_append_39 rfl rfl ?_
    refine j_get hX 0 4 rfl rfl hinX0 rfl hf_X0_now_25 rfl dX0_append_40 ?_
    refine j_iast hX hW 3 rfl hg dX0_append_43 (ws' := (w_X0_append G q_this q_this_place q_this_sort q_this_minute (upd f_this_place f_this_size.toNatClampNeg x1) (upd f_this_sort f_this_size.toNatClampNeg x2) (upd f_this_minute f_this_size.toNatClampNeg f_this_now) f_this_size f_this_now)) rfl (fun hg => ?_)
    refine j_aload_n hX 0 dX0_append_44 rfl rfl ?_
    refine j_dup hX dX0_append_45 rfl ?_
    refine j_get hX 0 3 rfl rfl hinX0 rfl hf_X0_size_21 rfl dX0_append_46 ?_
    refine j_iconst hX dX0_append_49 kc_1 ?_
    refine j_iadd hX dX0_append_50 ?_
    refine j_put hX hW 0 3 rfl rfl hinX0 tyX0 tyX0_ok nmX0 rfl hf_X0_size_21 rfl rfl rfl rfl dX0_append_51 (ws' := (w_X0_append G q_this q_this_place q_this_sort q_this_minute (upd f_this_place f_this_size.toNatClampNeg x1) (upd f_this_sort f_this_size.toNatClampNeg x2) (upd f_this_minute f_this_size.toNatClampNeg f_this_now) (f_this_size + 1) f_this_now)) rfl ?_
    refine j_iconst hX dX0_append_54 kc_1 ?_
    cases hg
    exact hret _ _ (Or.inr rfl) dX0_append_55
  · refine j_iconst hX dX0_append_9 kc_0 ?_
    cases hg
    exact hret _ _ (Or.inl rfl) dX0_append_10
abbrev w_X2_isSort (G : jG) (q_this : Nat) (v_this_book : Value) (v_this_places : Value) (v_this_hour : Value) (v_this_law : Value) (v_this_minutesTold : Value) (v_this_minutes : Value) (f_this_sorts : Int32) : va_W := [oC q_this 2 [v_this_book, v_this_places, .int f_this_sorts, v_this_hour, v_this_law, v_this_minutesTold, v_this_minutes]]
def g_X2_isSort (N : Nat) (f_this_sorts : Int32) (x1 : Int32) : Option (Int32) := if x1 < 0 then some 0 else if f_this_sorts ≤ x1 then some 0 else some 1
set_option maxHeartbeats 4000000 in
set_option maxRecDepth 100000 in
theorem c_X2_isSort (l : Launch) (G : jG) (N : Nat) (q_this : Nat) (v_this_book : Value) (v_this_places : Value) (v_this_hour : Value) (v_this_law : Value) (v_this_minutesTold : Value) (v_this_minutes : Value) (f_this_sorts : Int32) (x1 : Int32) (u : Int32) (hu : g_X2_isSort N f_this_sorts x1 = some u) : MetRO l G yX2_isSort wsX2_isSort ({ frames := 0, cells := 0, slots := 0, locals := 0 } : Room) [.ref q_this, .int x1] (w_X2_isSort G q_this v_this_book v_this_places v_this_hour v_this_law v_this_minutesTold v_this_minutes f_this_sorts) u := by
  refine met_roz (cc := cX2_isSort) (maxL := 2) (lv0 := [(0, .ref q_this), (1, .int x1)]) (by decide) rfl rfl rfl rfl (fun X hX hret => ?_)
  have hinX2 : ∀ w ∈ u_ws RX2 TX2 7, w ∈ wsX2_isSort := by decide +kernel
  have hf_X2_sorts_32 : Cond.fieldLink RX2 32 (TX2 2).1 (TX2 2).2.1 (TX2 2).2.2.1 ∈ wsX2_isSort := by decide +kernel
  have hg := hu
  unfold g_X2_isSort at hg
  refine j_iload_n hX 1 dX2_isSort_0 rfl rfl ?_
  refine j_if_lt hX 16 hg dX2_isSort_1 (by decide) (fun hg => ?_) (fun hg => ?_)
  · refine j_iconst hX dX2_isSort_16 kc_0 ?_
    cases hg
    exact hret _ _ (Or.inl rfl) dX2_isSort_17
  · refine j_iload_n hX 1 dX2_isSort_4 rfl rfl ?_
    refine j_aload_n hX 0 dX2_isSort_5 rfl rfl ?_
    refine j_get hX 0 2 rfl rfl hinX2 rfl hf_X2_sorts_32 rfl dX2_isSort_6 ?_
    refine j_icmp_ge hX 16 hg dX2_isSort_9 (by decide) (fun hg => ?_) (fun hg => ?_)
    · refine j_iconst hX dX2_isSort_16 kc_0 ?_
      cases hg
      exact hret _ _ (Or.inl rfl) dX2_isSort_17
    · refine j_iconst hX dX2_isSort_12 kc_1 ?_
      refine j_goto hX 17 dX2_isSort_13 (by decide) ?_
      cases hg
      exact hret _ _ (Or.inr rfl) dX2_isSort_17
abbrev w_X8_append (G : jG) (q_this : Nat) (q_this_step : Nat) (f_this_step : (Nat → Int32)) (f_this_size : Int32) : va_W := [oC q_this 8 [.ref q_this_step, .int f_this_size], aI G q_this_step 8 f_this_step]
def g_X8_append_b30 (N : Nat) (f_this_step : (Nat → Int32)) (f_this_size : Int32) (x1 : Int32) : Option ((Nat → Int32) × Int32) := gi f_this_size 8 (some (upd f_this_step f_this_size.toNatClampNeg x1, f_this_size + 1))
def g_X8_append (N : Nat) (f_this_step : (Nat → Int32)) (f_this_size : Int32) (x1 : Int32) : Option ((Nat → Int32) × Int32) := if f_this_size < 8 then g_X8_append_b30 N f_this_step f_this_size x1 else g_X8_append_b30 N (va_cpy f_this_step f_this_step 1 0 7) 7 x1
set_option maxHeartbeats 4000000 in
set_option maxRecDepth 100000 in
theorem c_X8_append (l : Launch) (G : jG) (N : Nat) (q_this : Nat) (q_this_step : Nat) (f_this_step : (Nat → Int32)) (f_this_size : Int32) (x1 : Int32) (u : (Nat → Int32) × Int32) (hu : g_X8_append N f_this_step f_this_size x1 = some u) : MetRV l G yX8_append wsX8_append ({ frames := 1, cells := 0, slots := 0, locals := 40 } : Room) [.ref q_this, .int x1] (w_X8_append G q_this q_this_step f_this_step f_this_size) (w_X8_append G q_this q_this_step u.1 u.2) := by
  refine met_rwv (cc := cX8_append) (maxL := 2) (lv0 := [(0, .ref q_this), (1, .int x1)]) (by decide) rfl rfl rfl rfl (fun X hX hW hret => ?_)
  have hinX8 : ∀ w ∈ u_ws RX8 TX8 2, w ∈ wsX8_append := by decide +kernel
  have hf_X8_size_15 : Cond.fieldLink RX8 15 (TX8 1).1 (TX8 1).2.1 (TX8 1).2.2.1 ∈ wsX8_append := by decide +kernel
  have hf_X8_step_9 : Cond.fieldLink RX8 9 (TX8 0).1 (TX8 0).2.1 (TX8 0).2.2.1 ∈ wsX8_append := by decide +kernel
  have B30 : ∀ (f_this_step : (Nat → Int32)) (f_this_size : Int32) (x1 : Int32), g_X8_append_b30 N f_this_step f_this_size x1 = some u → J X 0 0 (w_X8_append G q_this q_this_step f_this_step f_this_size) 30 [(0, .ref q_this), (1, .int x1)] [] := by
    intro f_this_step f_this_size x1 hg
    unfold g_X8_append_b30 at hg
    refine j_aload_n hX 0 dX8_append_30 rfl rfl ?_
    refine j_get hX 0 0 rfl rfl hinX8 rfl hf_X8_step_9 rfl dX8_append_31 ?_
    refine j_aload_n hX 0 dX8_append_34 rfl rfl ?_
    refine j_get hX 0 1 rfl rfl hinX8 rfl hf_X8_size_15 rfl dX8_append_35 ?_
    refine j_iload_n hX 1 dX8_append_38 rfl rfl ?_
    refine j_iast hX hW 1 rfl hg dX8_append_39 (ws' := (w_X8_append G q_this q_this_step (upd f_this_step f_this_size.toNatClampNeg x1) f_this_size)) rfl (fun hg => ?_)
    refine j_aload_n hX 0 dX8_append_40 rfl rfl ?_
    refine j_dup hX dX8_append_41 rfl ?_
    refine j_get hX 0 1 rfl rfl hinX8 rfl hf_X8_size_15 rfl dX8_append_42 ?_
    refine j_iconst hX dX8_append_45 kc_1 ?_
    refine j_iadd hX dX8_append_46 ?_
    refine j_put hX hW 0 1 rfl rfl hinX8 tyX8 tyX8_ok nmX8 rfl hf_X8_size_15 rfl rfl rfl rfl dX8_append_47 (ws' := (w_X8_append G q_this q_this_step (upd f_this_step f_this_size.toNatClampNeg x1) (f_this_size + 1))) rfl ?_
    cases hg
    exact hret _ _ dX8_append_50
  have hg := hu
  unfold g_X8_append at hg
  refine j_aload_n hX 0 dX8_append_0 rfl rfl ?_
  refine j_get hX 0 1 rfl rfl hinX8 rfl hf_X8_size_15 rfl dX8_append_1 ?_
  refine j_bipush hX dX8_append_4 kb_8 ?_
  refine j_icmp_lt hX 30 hg dX8_append_6 (by decide) (fun hg => ?_) (fun hg => ?_)
  · exact B30 _ _ _ hg
  · refine j_aload_n hX 0 dX8_append_9 rfl rfl ?_
    refine j_get hX 0 0 rfl rfl hinX8 rfl hf_X8_step_9 rfl dX8_append_10 ?_
    refine j_iconst hX dX8_append_13 kc_1 ?_
    refine j_aload_n hX 0 dX8_append_14 rfl rfl ?_
    refine j_get hX 0 0 rfl rfl hinX8 rfl hf_X8_step_9 rfl dX8_append_15 ?_
    refine j_iconst hX dX8_append_18 kc_0 ?_
    refine j_bipush hX dX8_append_19 kb_7 ?_
    refine j_acopy hX hW 1 1 0 7 rfl (by decide) (by decide) (by decide) (by decide) (by decide) (by decide +kernel) (by decide +kernel) (by decide +kernel) (by decide +kernel) (by decide +kernel) dX8_append_21 (ws' := (w_X8_append G q_this q_this_step (va_cpy f_this_step f_this_step 1 0 7) f_this_size)) rfl ?_
    refine j_aload_n hX 0 dX8_append_24 rfl rfl ?_
    refine j_bipush hX dX8_append_25 kb_7 ?_
    refine j_put hX hW 0 1 rfl rfl hinX8 tyX8 tyX8_ok nmX8 rfl hf_X8_size_15 rfl rfl rfl rfl dX8_append_27 (ws' := (w_X8_append G q_this q_this_step (va_cpy f_this_step f_this_step 1 0 7) 7)) rfl ?_
    exact B30 _ _ _ hg
abbrev w_X11_drum (G : jG) (q_this : Nat) (q_this_laid : Nat) (q_this_beats : Nat) (q_this_beats_place : Nat) (q_this_beats_sort : Nat) (q_this_beats_minute : Nat) (q_this_steps : Nat) (q_this_steps_step : Nat) (v_this_text : Value) (v_this_reader : Value) (v_this_kept : Value) (v_this_keptSize : Value) (v_this_told : Value) (v_this_secrets : Value) (v_this_trials : Value) (v_this_queue : Value) (v_this_row : Value) (v_this_later : Value) (v_this_laid_book : Value) (v_this_laid_hour : Value) (v_this_laid_law : Value) (v_this_laid_minutesTold : Value) (v_this_laid_minutes : Value) (f_this_laid_places : Int32) (f_this_laid_sorts : Int32) (f_this_beats_place : (Nat → Int32)) (f_this_beats_sort : (Nat → Int32)) (f_this_beats_minute : (Nat → Int32)) (f_this_beats_size : Int32) (f_this_beats_now : Int32) (f_this_steps_step : (Nat → Int32)) (f_this_steps_size : Int32) : va_W := [oC q_this 11 [v_this_text, v_this_reader, .ref q_this_laid, .ref q_this_beats, .ref q_this_steps, v_this_kept, v_this_keptSize, v_this_told, v_this_secrets, v_this_trials, v_this_queue, v_this_row, v_this_later], oC q_this_laid 2 [v_this_laid_book, .int f_this_laid_places, .int f_this_laid_sorts, v_this_laid_hour, v_this_laid_law, v_this_laid_minutesTold, v_this_laid_minutes], oC q_this_beats 0 [.ref q_this_beats_place, .ref q_this_beats_sort, .ref q_this_beats_minute, .int f_this_beats_size, .int f_this_beats_now], aI G q_this_beats_place 24 f_this_beats_place, aI G q_this_beats_sort 24 f_this_beats_sort, aI G q_this_beats_minute 24 f_this_beats_minute, oC q_this_steps 8 [.ref q_this_steps_step, .int f_this_steps_size], aI G q_this_steps_step 8 f_this_steps_step]
def g_X11_drum (N : Nat) (f_this_laid_places : Int32) (f_this_laid_sorts : Int32) (f_this_beats_now : Int32) (f_this_beats_place : (Nat → Int32)) (f_this_beats_sort : (Nat → Int32)) (f_this_beats_minute : (Nat → Int32)) (f_this_beats_size : Int32) (f_this_steps_step : (Nat → Int32)) (f_this_steps_size : Int32) (x1 : Int32) (x2 : Int32) : Option (Int32 × (Nat → Int32) × (Nat → Int32) × (Nat → Int32) × Int32 × (Nat → Int32) × Int32) := (g_X2_isPlace N f_this_laid_places x1).bind fun v5 => if v5 = 0 then some ((-1), f_this_beats_place, f_this_beats_sort, f_this_beats_minute, f_this_beats_size, f_this_steps_step, f_this_steps_size) else (g_X2_isSort N f_this_laid_sorts x2).bind fun v16 => if v16 = 0 then some ((-1), f_this_beats_place, f_this_beats_sort, f_this_beats_minute, f_this_beats_size, f_this_steps_step, f_this_steps_size) else (g_X0_append N f_this_beats_now f_this_beats_place f_this_beats_sort f_this_beats_minute f_this_beats_size x1 x2).bind fun v30 => if v30.1 = 0 then some ((-3), v30.2.1, v30.2.2.1, v30.2.2.2.1, v30.2.2.2.2, f_this_steps_step, f_this_steps_size) else (g_X8_append N f_this_steps_step f_this_steps_size 0).bind fun v44 => some (v30.2.2.2.2, v30.2.1, v30.2.2.1, v30.2.2.2.1, v30.2.2.2.2, v44.1, v44.2)
set_option maxHeartbeats 4000000 in
set_option maxRecDepth 100000 in
theorem c_X11_drum (l : Launch) (G : jG) (N : Nat) (q_this : Nat) (q_this_laid : Nat) (q_this_beats : Nat) (q_this_beats_place : Nat) (q_this_beats_sort : Nat) (q_this_beats_minute : Nat) (q_this_steps : Nat) (q_this_steps_step : Nat) (v_this_text : Value) (v_this_reader : Value) (v_this_kept : Value) (v_this_keptSize : Value) (v_this_told : Value) (v_this_secrets : Value) (v_this_trials : Value) (v_this_queue : Value) (v_this_row : Value) (v_this_later : Value) (v_this_laid_book : Value) (v_this_laid_hour : Value) (v_this_laid_law : Value) (v_this_laid_minutesTold : Value) (v_this_laid_minutes : Value) (f_this_laid_places : Int32) (f_this_laid_sorts : Int32) (f_this_beats_place : (Nat → Int32)) (f_this_beats_sort : (Nat → Int32)) (f_this_beats_minute : (Nat → Int32)) (f_this_beats_size : Int32) (f_this_beats_now : Int32) (f_this_steps_step : (Nat → Int32)) (f_this_steps_size : Int32) (x1 : Int32) (x2 : Int32) (u : Int32 × (Nat → Int32) × (Nat → Int32) × (Nat → Int32) × Int32 × (Nat → Int32) × Int32) (hu : g_X11_drum N f_this_laid_places f_this_laid_sorts f_this_beats_now f_this_beats_place f_this_beats_sort f_this_beats_minute f_this_beats_size f_this_steps_step f_this_steps_size x1 x2 = some u) : MetRW l G yX11_drum wsX11_drum ({ frames := 2, cells := 0, slots := 0, locals := 61 } : Room) [.ref q_this, .int x1, .int x2] (w_X11_drum G q_this q_this_laid q_this_beats q_this_beats_place q_this_beats_sort q_this_beats_minute q_this_steps q_this_steps_step v_this_text v_this_reader v_this_kept v_this_keptSize v_this_told v_this_secrets v_this_trials v_this_queue v_this_row v_this_later v_this_laid_book v_this_laid_hour v_this_laid_law v_this_laid_minutesTold v_this_laid_minutes f_this_laid_places f_this_laid_sorts f_this_beats_place f_this_beats_sort f_this_beats_minute f_this_beats_size f_this_beats_now f_this_steps_step f_this_steps_size) (w_X11_drum G q_this q_this_laid q_this_beats q_this_beats_place q_this_beats_sort q_this_beats_minute q_this_steps q_this_steps_step v_this_text v_this_reader v_this_kept v_this_keptSize v_this_told v_this_secrets v_this_trials v_this_queue v_this_row v_this_later v_this_laid_book v_this_laid_hour v_this_laid_law v_this_laid_minutesTold v_this_laid_minutes f_this_laid_places f_this_laid_sorts u.2.1 u.2.2.1 u.2.2.2.1 u.2.2.2.2.1 f_this_beats_now u.2.2.2.2.2.1 u.2.2.2.2.2.2) u.1 := by
  refine met_rwi (cc := cX11_drum) (maxL := 3) (lv0 := [(0, .ref q_this), (1, .int x1), (2, .int x2)]) (by decide) rfl rfl rfl rfl (fun X hX hW hret => ?_)
  have hinX11 : ∀ w ∈ u_ws RX11 TX11 13, w ∈ wsX11_drum := by decide +kernel
  have hinX0 : ∀ w ∈ u_ws RX0 TX0 5, w ∈ wsX11_drum := by decide +kernel
  have hf_X11_beats_35 : Cond.fieldLink RX11 35 (TX11 3).1 (TX11 3).2.1 (TX11 3).2.2.1 ∈ wsX11_drum := by decide +kernel
  have hf_X11_laid_28 : Cond.fieldLink RX11 28 (TX11 2).1 (TX11 2).2.1 (TX11 2).2.2.1 ∈ wsX11_drum := by decide +kernel
  have hf_X11_steps_42 : Cond.fieldLink RX11 42 (TX11 4).1 (TX11 4).2.1 (TX11 4).2.2.1 ∈ wsX11_drum := by decide +kernel
  have hf_X0_size_115 : Cond.fieldLink RX11 115 (TX0 3).1 (TX0 3).2.1 (TX0 3).2.2.1 ∈ wsX11_drum := by decide +kernel
  have hg := hu
  unfold g_X11_drum at hg
  refine j_aload_n hX 0 dX11_drum_0 rfl rfl ?_
  refine j_get hX 0 2 rfl rfl hinX11 rfl hf_X11_laid_28 rfl dX11_drum_1 ?_
  refine j_iload_n hX 1 dX11_drum_4 rfl rfl ?_
  refine j_vRO hX (r := fun v => v) [.int x1] hg (fun v hv => c_X2_isPlace l G N q_this_laid v_this_laid_book (.int f_this_laid_sorts) v_this_laid_hour v_this_laid_law v_this_laid_minutesTold v_this_laid_minutes f_this_laid_places x1 v hv) gX11_drum_X2_isPlace rfl ⟨rfl, rfl⟩ ⟨rfl, by decide, by decide, rfl⟩ rfl rfl [1] rfl rfl rfl dX11_drum_5 rfl rfl ⟨Nat.zero_le _, Nat.zero_le _⟩ (fun v5 hg => ?_)
  refine j_if_eq hX 22 hg dX11_drum_8 (by decide) (fun hg => ?_) (fun hg => ?_)
  · refine j_iconst hX dX11_drum_22 kc_m1 ?_
    cases hg
    exact hret _ _ dX11_drum_23
  · refine j_aload_n hX 0 dX11_drum_11 rfl rfl ?_
    refine j_get hX 0 2 rfl rfl hinX11 rfl hf_X11_laid_28 rfl dX11_drum_12 ?_
    refine j_iload_n hX 2 dX11_drum_15 rfl rfl ?_
    refine j_vRO hX (r := fun v => v) [.int x2] hg (fun v hv => c_X2_isSort l G N q_this_laid v_this_laid_book (.int f_this_laid_places) v_this_laid_hour v_this_laid_law v_this_laid_minutesTold v_this_laid_minutes f_this_laid_sorts x2 v hv) gX11_drum_X2_isSort rfl ⟨rfl, rfl⟩ ⟨rfl, by decide, by decide, rfl⟩ rfl rfl [1] rfl rfl rfl dX11_drum_16 rfl rfl ⟨Nat.zero_le _, Nat.zero_le _⟩ (fun v16 hg => ?_)
    refine j_if_ne hX 24 hg dX11_drum_19 (by decide) (fun hg => ?_) (fun hg => ?_)
    · refine j_iconst hX dX11_drum_22 kc_m1 ?_
      cases hg
      exact hret _ _ dX11_drum_23
    · refine j_aload_n hX 0 dX11_drum_24 rfl rfl ?_
      refine j_get hX 0 3 rfl rfl hinX11 rfl hf_X11_beats_35 rfl dX11_drum_25 ?_
      refine j_iload_n hX 1 dX11_drum_28 rfl rfl ?_
      refine j_iload_n hX 2 dX11_drum_29 rfl rfl ?_
      refine j_vRW hX hW (r := fun v => v.1) (w1 := fun v => (w_X0_append G q_this_beats q_this_beats_place q_this_beats_sort q_this_beats_minute v.2.1 v.2.2.1 v.2.2.2.1 v.2.2.2.2 f_this_beats_now)) (ws' := fun v => (w_X11_drum G q_this q_this_laid q_this_beats q_this_beats_place q_this_beats_sort q_this_beats_minute q_this_steps q_this_steps_step v_this_text v_this_reader v_this_kept v_this_keptSize v_this_told v_this_secrets v_this_trials v_this_queue v_this_row v_this_later v_this_laid_book v_this_laid_hour v_this_laid_law v_this_laid_minutesTold v_this_laid_minutes f_this_laid_places f_this_laid_sorts v.2.1 v.2.2.1 v.2.2.2.1 v.2.2.2.2 f_this_beats_now f_this_steps_step f_this_steps_size)) [.int x1, .int x2] hg (fun v hv => c_X0_append l G N q_this_beats q_this_beats_place q_this_beats_sort q_this_beats_minute f_this_beats_place f_this_beats_sort f_this_beats_minute f_this_beats_size f_this_beats_now x1 x2 v hv) gX11_drum_X0_append rfl ⟨rfl, rfl⟩ ⟨rfl, by decide, by decide, rfl⟩ rfl rfl [2, 3, 4, 5] rfl (by decide +kernel) rfl rfl dX11_drum_30 rfl rfl ⟨Nat.zero_le _, Nat.zero_le _⟩ (fun _ => jn_set [2, 3, 4, 5] rfl rfl rfl) (fun v30 hg => ?_)
      refine j_if_ne hX 39 hg dX11_drum_33 (by decide) (fun hg => ?_) (fun hg => ?_)
      · refine j_bipush hX dX11_drum_36 kb_m3 ?_
        cases hg
        exact hret _ _ dX11_drum_38
      · refine j_aload_n hX 0 dX11_drum_39 rfl rfl ?_
        refine j_get hX 0 4 rfl rfl hinX11 rfl hf_X11_steps_42 rfl dX11_drum_40 ?_
        refine j_iconst hX dX11_drum_43 kc_0 ?_
        refine j_vRV hX hW (w1 := fun v => (w_X8_append G q_this_steps q_this_steps_step v.1 v.2)) (ws' := fun v => (w_X11_drum G q_this q_this_laid q_this_beats q_this_beats_place q_this_beats_sort q_this_beats_minute q_this_steps q_this_steps_step v_this_text v_this_reader v_this_kept v_this_keptSize v_this_told v_this_secrets v_this_trials v_this_queue v_this_row v_this_later v_this_laid_book v_this_laid_hour v_this_laid_law v_this_laid_minutesTold v_this_laid_minutes f_this_laid_places f_this_laid_sorts v30.2.1 v30.2.2.1 v30.2.2.2.1 v30.2.2.2.2 f_this_beats_now v.1 v.2)) [.int 0] hg (fun v hv => c_X8_append l G N q_this_steps q_this_steps_step f_this_steps_step f_this_steps_size 0 v hv) gX11_drum_X8_append rfl ⟨rfl, rfl⟩ ⟨rfl, by decide, by decide, rfl⟩ rfl rfl [6, 7] rfl (by decide +kernel) rfl rfl dX11_drum_44 rfl rfl ⟨Nat.zero_le _, Nat.zero_le _⟩ (fun _ => jn_set [6, 7] rfl rfl rfl) (fun v44 hg => ?_)
        refine j_aload_n hX 0 dX11_drum_47 rfl rfl ?_
        refine j_get hX 0 3 rfl rfl hinX11 rfl hf_X11_beats_35 rfl dX11_drum_48 ?_
        refine j_get hX 2 3 rfl rfl hinX0 rfl hf_X0_size_115 rfl dX11_drum_51 ?_
        cases hg
        exact hret _ _ dX11_drum_54
abbrev w_X11_pass (G : jG) (q_this : Nat) (q_this_beats : Nat) (q_this_steps : Nat) (q_this_steps_step : Nat) (v_this_text : Value) (v_this_reader : Value) (v_this_laid : Value) (v_this_kept : Value) (v_this_keptSize : Value) (v_this_told : Value) (v_this_secrets : Value) (v_this_trials : Value) (v_this_queue : Value) (v_this_row : Value) (v_this_later : Value) (v_this_beats_place : Value) (v_this_beats_sort : Value) (v_this_beats_minute : Value) (v_this_beats_size : Value) (f_this_beats_now : Int32) (f_this_steps_step : (Nat → Int32)) (f_this_steps_size : Int32) : va_W := [oC q_this 11 [v_this_text, v_this_reader, v_this_laid, .ref q_this_beats, .ref q_this_steps, v_this_kept, v_this_keptSize, v_this_told, v_this_secrets, v_this_trials, v_this_queue, v_this_row, v_this_later], oC q_this_beats 0 [v_this_beats_place, v_this_beats_sort, v_this_beats_minute, v_this_beats_size, .int f_this_beats_now], oC q_this_steps 8 [.ref q_this_steps_step, .int f_this_steps_size], aI G q_this_steps_step 8 f_this_steps_step]
def g_X11_pass (N : Nat) (f_this_beats_now : Int32) (f_this_steps_step : (Nat → Int32)) (f_this_steps_size : Int32) (x1 : Int32) : Option (Int32 × Int32 × (Nat → Int32) × Int32) := if x1 < 1 then some ((-1), f_this_beats_now, f_this_steps_step, f_this_steps_size) else if x1 ≤ 600 then if (f_this_beats_now + x1) ≤ 9999 then (g_X8_append N f_this_steps_step f_this_steps_size x1).bind fun v50 => some (f_this_beats_now + x1, f_this_beats_now + x1, v50.1, v50.2) else some ((-2), f_this_beats_now, f_this_steps_step, f_this_steps_size) else some ((-1), f_this_beats_now, f_this_steps_step, f_this_steps_size)
set_option maxHeartbeats 4000000 in
set_option maxRecDepth 100000 in
theorem c_X11_pass (l : Launch) (G : jG) (N : Nat) (q_this : Nat) (q_this_beats : Nat) (q_this_steps : Nat) (q_this_steps_step : Nat) (v_this_text : Value) (v_this_reader : Value) (v_this_laid : Value) (v_this_kept : Value) (v_this_keptSize : Value) (v_this_told : Value) (v_this_secrets : Value) (v_this_trials : Value) (v_this_queue : Value) (v_this_row : Value) (v_this_later : Value) (v_this_beats_place : Value) (v_this_beats_sort : Value) (v_this_beats_minute : Value) (v_this_beats_size : Value) (f_this_beats_now : Int32) (f_this_steps_step : (Nat → Int32)) (f_this_steps_size : Int32) (x1 : Int32) (u : Int32 × Int32 × (Nat → Int32) × Int32) (hu : g_X11_pass N f_this_beats_now f_this_steps_step f_this_steps_size x1 = some u) : MetRW l G yX11_pass wsX11_pass ({ frames := 2, cells := 0, slots := 0, locals := 61 } : Room) [.ref q_this, .int x1] (w_X11_pass G q_this q_this_beats q_this_steps q_this_steps_step v_this_text v_this_reader v_this_laid v_this_kept v_this_keptSize v_this_told v_this_secrets v_this_trials v_this_queue v_this_row v_this_later v_this_beats_place v_this_beats_sort v_this_beats_minute v_this_beats_size f_this_beats_now f_this_steps_step f_this_steps_size) (w_X11_pass G q_this q_this_beats q_this_steps q_this_steps_step v_this_text v_this_reader v_this_laid v_this_kept v_this_keptSize v_this_told v_this_secrets v_this_trials v_this_queue v_this_row v_this_later v_this_beats_place v_this_beats_sort v_this_beats_minute v_this_beats_size u.2.1 u.2.2.1 u.2.2.2) u.1 := by
  refine met_rwi (cc := cX11_pass) (maxL := 2) (lv0 := [(0, .ref q_this), (1, .int x1)]) (by decide) rfl rfl rfl rfl (fun X hX hW hret => ?_)
  have hinX11 : ∀ w ∈ u_ws RX11 TX11 13, w ∈ wsX11_pass := by decide +kernel
  have hinX0 : ∀ w ∈ u_ws RX0 TX0 5, w ∈ wsX11_pass := by decide +kernel
  have hf_X11_beats_35 : Cond.fieldLink RX11 35 (TX11 3).1 (TX11 3).2.1 (TX11 3).2.2.1 ∈ wsX11_pass := by decide +kernel
  have hf_X11_steps_42 : Cond.fieldLink RX11 42 (TX11 4).1 (TX11 4).2.1 (TX11 4).2.2.1 ∈ wsX11_pass := by decide +kernel
  have hf_X0_now_116 : Cond.fieldLink RX11 116 (TX0 4).1 (TX0 4).2.1 (TX0 4).2.2.1 ∈ wsX11_pass := by decide +kernel
  have hg := hu
  unfold g_X11_pass at hg
  refine j_iload_n hX 1 dX11_pass_0 rfl rfl ?_
  refine j_iconst hX dX11_pass_1 kc_1 ?_
  refine j_icmp_lt hX 12 hg dX11_pass_2 (by decide) (fun hg => ?_) (fun hg => ?_)
  · refine j_iconst hX dX11_pass_12 kc_m1 ?_
    cases hg
    exact hret _ _ dX11_pass_13
  · refine j_iload_n hX 1 dX11_pass_5 rfl rfl ?_
    refine j_sipush hX dX11_pass_6 ks_600 ?_
    refine j_icmp_le hX 14 hg dX11_pass_9 (by decide) (fun hg => ?_) (fun hg => ?_)
    · refine j_aload_n hX 0 dX11_pass_14 rfl rfl ?_
      refine j_get hX 0 3 rfl rfl hinX11 rfl hf_X11_beats_35 rfl dX11_pass_15 ?_
      refine j_get hX 1 4 rfl rfl hinX0 rfl hf_X0_now_116 rfl dX11_pass_18 ?_
      refine j_iload_n hX 1 dX11_pass_21 rfl rfl ?_
      refine j_iadd hX dX11_pass_22 ?_
      refine j_sipush hX dX11_pass_23 ks_9999 ?_
      refine j_icmp_le hX 32 hg dX11_pass_26 (by decide) (fun hg => ?_) (fun hg => ?_)
      · refine j_aload_n hX 0 dX11_pass_32 rfl rfl ?_
        refine j_get hX 0 3 rfl rfl hinX11 rfl hf_X11_beats_35 rfl dX11_pass_33 ?_
        refine j_dup hX dX11_pass_36 rfl ?_
        refine j_get hX 1 4 rfl rfl hinX0 rfl hf_X0_now_116 rfl dX11_pass_37 ?_
        refine j_iload_n hX 1 dX11_pass_40 rfl rfl ?_
        refine j_iadd hX dX11_pass_41 ?_
        refine j_put hX hW 1 4 rfl rfl hinX0 tyX0 tyX0_ok nmX0 rfl hf_X0_now_116 rfl rfl rfl rfl dX11_pass_42 (ws' := (w_X11_pass G q_this q_this_beats q_this_steps q_this_steps_step v_this_text v_this_reader v_this_laid v_this_kept v_this_keptSize v_this_told v_this_secrets v_this_trials v_this_queue v_this_row v_this_later v_this_beats_place v_this_beats_sort v_this_beats_minute v_this_beats_size (f_this_beats_now + x1) f_this_steps_step f_this_steps_size)) rfl ?_
        refine j_aload_n hX 0 dX11_pass_45 rfl rfl ?_
        refine j_get hX 0 4 rfl rfl hinX11 rfl hf_X11_steps_42 rfl dX11_pass_46 ?_
        refine j_iload_n hX 1 dX11_pass_49 rfl rfl ?_
        refine j_vRV hX hW (w1 := fun v => (w_X8_append G q_this_steps q_this_steps_step v.1 v.2)) (ws' := fun v => (w_X11_pass G q_this q_this_beats q_this_steps q_this_steps_step v_this_text v_this_reader v_this_laid v_this_kept v_this_keptSize v_this_told v_this_secrets v_this_trials v_this_queue v_this_row v_this_later v_this_beats_place v_this_beats_sort v_this_beats_minute v_this_beats_size (f_this_beats_now + x1) v.1 v.2)) [.int x1] hg (fun v hv => c_X8_append l G N q_this_steps q_this_steps_step f_this_steps_step f_this_steps_size x1 v hv) gX11_pass_X8_append rfl ⟨rfl, rfl⟩ ⟨rfl, by decide, by decide, rfl⟩ rfl rfl [2, 3] rfl (by decide +kernel) rfl rfl dX11_pass_50 rfl rfl ⟨Nat.zero_le _, Nat.zero_le _⟩ (fun _ => jn_set [2, 3] rfl rfl rfl) (fun v50 hg => ?_)
        refine j_aload_n hX 0 dX11_pass_53 rfl rfl ?_
        refine j_get hX 0 3 rfl rfl hinX11 rfl hf_X11_beats_35 rfl dX11_pass_54 ?_
        refine j_get hX 1 4 rfl rfl hinX0 rfl hf_X0_now_116 rfl dX11_pass_57 ?_
        cases hg
        exact hret _ _ dX11_pass_60
      · refine j_bipush hX dX11_pass_29 kb_m2 ?_
        cases hg
        exact hret _ _ dX11_pass_31
    · refine j_iconst hX dX11_pass_12 kc_m1 ?_
      cases hg
      exact hret _ _ dX11_pass_13
abbrev w_X0_dropLatest (G : jG) (q_this : Nat) (v_this_place : Value) (v_this_sort : Value) (v_this_minute : Value) (v_this_now : Value) (f_this_size : Int32) : va_W := [oC q_this 0 [v_this_place, v_this_sort, v_this_minute, .int f_this_size, v_this_now]]
def g_X0_dropLatest (N : Nat) (f_this_size : Int32) : Option (Int32) := if f_this_size ≤ 0 then some f_this_size else some (f_this_size - 1)
set_option maxHeartbeats 4000000 in
set_option maxRecDepth 100000 in
theorem c_X0_dropLatest (l : Launch) (G : jG) (N : Nat) (q_this : Nat) (v_this_place : Value) (v_this_sort : Value) (v_this_minute : Value) (v_this_now : Value) (f_this_size : Int32) (u : Int32) (hu : g_X0_dropLatest N f_this_size = some u) : MetRV l G yX0_dropLatest wsX0_dropLatest ({ frames := 0, cells := 0, slots := 0, locals := 0 } : Room) [.ref q_this] (w_X0_dropLatest G q_this v_this_place v_this_sort v_this_minute v_this_now f_this_size) (w_X0_dropLatest G q_this v_this_place v_this_sort v_this_minute v_this_now u) := by
  refine met_rwv (cc := cX0_dropLatest) (maxL := 1) (lv0 := [(0, .ref q_this)]) (by decide) rfl rfl rfl rfl (fun X hX hW hret => ?_)
  have hinX0 : ∀ w ∈ u_ws RX0 TX0 5, w ∈ wsX0_dropLatest := by decide +kernel
  have hf_X0_size_21 : Cond.fieldLink RX0 21 (TX0 3).1 (TX0 3).2.1 (TX0 3).2.2.1 ∈ wsX0_dropLatest := by decide +kernel
  have hg := hu
  unfold g_X0_dropLatest at hg
  refine j_aload_n hX 0 dX0_dropLatest_0 rfl rfl ?_
  refine j_get hX 0 3 rfl rfl hinX0 rfl hf_X0_size_21 rfl dX0_dropLatest_1 ?_
  refine j_if_le hX 17 hg dX0_dropLatest_4 (by decide) (fun hg => ?_) (fun hg => ?_)
  · cases hg
    exact hret _ _ dX0_dropLatest_17
  · refine j_aload_n hX 0 dX0_dropLatest_7 rfl rfl ?_
    refine j_dup hX dX0_dropLatest_8 rfl ?_
    refine j_get hX 0 3 rfl rfl hinX0 rfl hf_X0_size_21 rfl dX0_dropLatest_9 ?_
    refine j_iconst hX dX0_dropLatest_12 kc_1 ?_
    refine j_isub hX dX0_dropLatest_13 ?_
    refine j_put hX hW 0 3 rfl rfl hinX0 tyX0 tyX0_ok nmX0 rfl hf_X0_size_21 rfl rfl rfl rfl dX0_dropLatest_14 (ws' := (w_X0_dropLatest G q_this v_this_place v_this_sort v_this_minute v_this_now (f_this_size - 1))) rfl ?_
    cases hg
    exact hret _ _ dX0_dropLatest_17
abbrev w_X8_takeLatest (G : jG) (q_this : Nat) (q_this_step : Nat) (f_this_step : (Nat → Int32)) (f_this_size : Int32) : va_W := [oC q_this 8 [.ref q_this_step, .int f_this_size], aI G q_this_step 8 f_this_step]
def g_X8_takeLatest (N : Nat) (f_this_step : (Nat → Int32)) (f_this_size : Int32) : Option (Int32 × Int32) := if (1 : Int32) ≤ f_this_size then gi (f_this_size - 1) 8 (some (f_this_step (f_this_size - 1 : Int32).toNatClampNeg, f_this_size - 1)) else some (0, f_this_size)
set_option maxHeartbeats 4000000 in
set_option maxRecDepth 100000 in
theorem c_X8_takeLatest (l : Launch) (G : jG) (N : Nat) (q_this : Nat) (q_this_step : Nat) (f_this_step : (Nat → Int32)) (f_this_size : Int32) (u : Int32 × Int32) (hu : g_X8_takeLatest N f_this_step f_this_size = some u) : MetRW l G yX8_takeLatest wsX8_takeLatest ({ frames := 0, cells := 0, slots := 0, locals := 0 } : Room) [.ref q_this] (w_X8_takeLatest G q_this q_this_step f_this_step f_this_size) (w_X8_takeLatest G q_this q_this_step f_this_step u.2) u.1 := by
  refine met_rwi (cc := cX8_takeLatest) (maxL := 1) (lv0 := [(0, .ref q_this)]) (by decide) rfl rfl rfl rfl (fun X hX hW hret => ?_)
  have hinX8 : ∀ w ∈ u_ws RX8 TX8 2, w ∈ wsX8_takeLatest := by decide +kernel
  have hf_X8_size_15 : Cond.fieldLink RX8 15 (TX8 1).1 (TX8 1).2.1 (TX8 1).2.2.1 ∈ wsX8_takeLatest := by decide +kernel
  have hf_X8_step_9 : Cond.fieldLink RX8 9 (TX8 0).1 (TX8 0).2.1 (TX8 0).2.2.1 ∈ wsX8_takeLatest := by decide +kernel
  have hg := hu
  unfold g_X8_takeLatest at hg
  refine j_aload_n hX 0 dX8_takeLatest_0 rfl rfl ?_
  refine j_get hX 0 1 rfl rfl hinX8 rfl hf_X8_size_15 rfl dX8_takeLatest_1 ?_
  refine j_iconst hX dX8_takeLatest_4 kc_1 ?_
  refine j_icmp_ge hX 10 hg dX8_takeLatest_5 (by decide) (fun hg => ?_) (fun hg => ?_)
  · refine j_aload_n hX 0 dX8_takeLatest_10 rfl rfl ?_
    refine j_dup hX dX8_takeLatest_11 rfl ?_
    refine j_get hX 0 1 rfl rfl hinX8 rfl hf_X8_size_15 rfl dX8_takeLatest_12 ?_
    refine j_iconst hX dX8_takeLatest_15 kc_1 ?_
    refine j_isub hX dX8_takeLatest_16 ?_
    refine j_put hX hW 0 1 rfl rfl hinX8 tyX8 tyX8_ok nmX8 rfl hf_X8_size_15 rfl rfl rfl rfl dX8_takeLatest_17 (ws' := (w_X8_takeLatest G q_this q_this_step f_this_step (f_this_size - 1))) rfl ?_
    refine j_aload_n hX 0 dX8_takeLatest_20 rfl rfl ?_
    refine j_get hX 0 0 rfl rfl hinX8 rfl hf_X8_step_9 rfl dX8_takeLatest_21 ?_
    refine j_aload_n hX 0 dX8_takeLatest_24 rfl rfl ?_
    refine j_get hX 0 1 rfl rfl hinX8 rfl hf_X8_size_15 rfl dX8_takeLatest_25 ?_
    refine j_iald hX 1 rfl hg dX8_takeLatest_28 (fun hg => ?_)
    cases hg
    exact hret _ _ dX8_takeLatest_29
  · refine j_iconst hX dX8_takeLatest_8 kc_0 ?_
    cases hg
    exact hret _ _ dX8_takeLatest_9
abbrev w_X11_undo (G : jG) (q_this : Nat) (q_this_beats : Nat) (q_this_steps : Nat) (q_this_steps_step : Nat) (v_this_text : Value) (v_this_reader : Value) (v_this_laid : Value) (v_this_kept : Value) (v_this_keptSize : Value) (v_this_told : Value) (v_this_secrets : Value) (v_this_trials : Value) (v_this_queue : Value) (v_this_row : Value) (v_this_later : Value) (v_this_beats_place : Value) (v_this_beats_sort : Value) (v_this_beats_minute : Value) (f_this_beats_size : Int32) (f_this_beats_now : Int32) (f_this_steps_step : (Nat → Int32)) (f_this_steps_size : Int32) : va_W := [oC q_this 11 [v_this_text, v_this_reader, v_this_laid, .ref q_this_beats, .ref q_this_steps, v_this_kept, v_this_keptSize, v_this_told, v_this_secrets, v_this_trials, v_this_queue, v_this_row, v_this_later], oC q_this_beats 0 [v_this_beats_place, v_this_beats_sort, v_this_beats_minute, .int f_this_beats_size, .int f_this_beats_now], oC q_this_steps 8 [.ref q_this_steps_step, .int f_this_steps_size], aI G q_this_steps_step 8 f_this_steps_step]
def g_X11_undo (N : Nat) (f_this_steps_step : (Nat → Int32)) (f_this_beats_size : Int32) (f_this_beats_now : Int32) (f_this_steps_size : Int32) : Option (Int32 × Int32 × Int32 × Int32) := if f_this_steps_size = 0 then some ((-2), f_this_beats_size, f_this_beats_now, f_this_steps_size) else (g_X8_takeLatest N f_this_steps_step f_this_steps_size).bind fun v17 => if v17.1 = 0 then (g_X0_dropLatest N f_this_beats_size).bind fun v29 => some (v17.2, v29, f_this_beats_now, v17.2) else some (v17.2, f_this_beats_size, f_this_beats_now - v17.1, v17.2)
set_option maxHeartbeats 4000000 in
set_option maxRecDepth 100000 in
theorem c_X11_undo (l : Launch) (G : jG) (N : Nat) (q_this : Nat) (q_this_beats : Nat) (q_this_steps : Nat) (q_this_steps_step : Nat) (v_this_text : Value) (v_this_reader : Value) (v_this_laid : Value) (v_this_kept : Value) (v_this_keptSize : Value) (v_this_told : Value) (v_this_secrets : Value) (v_this_trials : Value) (v_this_queue : Value) (v_this_row : Value) (v_this_later : Value) (v_this_beats_place : Value) (v_this_beats_sort : Value) (v_this_beats_minute : Value) (f_this_beats_size : Int32) (f_this_beats_now : Int32) (f_this_steps_step : (Nat → Int32)) (f_this_steps_size : Int32) (u : Int32 × Int32 × Int32 × Int32) (hu : g_X11_undo N f_this_steps_step f_this_beats_size f_this_beats_now f_this_steps_size = some u) : MetRW l G yX11_undo wsX11_undo ({ frames := 1, cells := 0, slots := 0, locals := 20 } : Room) [.ref q_this] (w_X11_undo G q_this q_this_beats q_this_steps q_this_steps_step v_this_text v_this_reader v_this_laid v_this_kept v_this_keptSize v_this_told v_this_secrets v_this_trials v_this_queue v_this_row v_this_later v_this_beats_place v_this_beats_sort v_this_beats_minute f_this_beats_size f_this_beats_now f_this_steps_step f_this_steps_size) (w_X11_undo G q_this q_this_beats q_this_steps q_this_steps_step v_this_text v_this_reader v_this_laid v_this_kept v_this_keptSize v_this_told v_this_secrets v_this_trials v_this_queue v_this_row v_this_later v_this_beats_place v_this_beats_sort v_this_beats_minute u.2.1 u.2.2.1 f_this_steps_step u.2.2.2) u.1 := by
  refine met_rwi (cc := cX11_undo) (maxL := 2) (lv0 := [(0, .ref q_this)]) (by decide) rfl rfl rfl rfl (fun X hX hW hret => ?_)
  have hinX11 : ∀ w ∈ u_ws RX11 TX11 13, w ∈ wsX11_undo := by decide +kernel
  have hinX0 : ∀ w ∈ u_ws RX0 TX0 5, w ∈ wsX11_undo := by decide +kernel
  have hinX8 : ∀ w ∈ u_ws RX8 TX8 2, w ∈ wsX11_undo := by decide +kernel
  have hf_X11_beats_35 : Cond.fieldLink RX11 35 (TX11 3).1 (TX11 3).2.1 (TX11 3).2.2.1 ∈ wsX11_undo := by decide +kernel
  have hf_X11_steps_42 : Cond.fieldLink RX11 42 (TX11 4).1 (TX11 4).2.1 (TX11 4).2.2.1 ∈ wsX11_undo := by decide +kernel
  have hf_X0_now_116 : Cond.fieldLink RX11 116 (TX0 4).1 (TX0 4).2.1 (TX0 4).2.2.1 ∈ wsX11_undo := by decide +kernel
  have hf_X8_size_121 : Cond.fieldLink RX11 121 (TX8 1).1 (TX8 1).2.1 (TX8 1).2.2.1 ∈ wsX11_undo := by decide +kernel
  have hg := hu
  unfold g_X11_undo at hg
  refine j_aload_n hX 0 dX11_undo_0 rfl rfl ?_
  refine j_get hX 0 4 rfl rfl hinX11 rfl hf_X11_steps_42 rfl dX11_undo_1 ?_
  refine j_get hX 2 1 rfl rfl hinX8 rfl hf_X8_size_121 rfl dX11_undo_4 ?_
  refine j_if_ne hX 13 hg dX11_undo_7 (by decide) (fun hg => ?_) (fun hg => ?_)
  · refine j_bipush hX dX11_undo_10 kb_m2 ?_
    cases hg
    exact hret _ _ dX11_undo_12
  · refine j_aload_n hX 0 dX11_undo_13 rfl rfl ?_
    refine j_get hX 0 4 rfl rfl hinX11 rfl hf_X11_steps_42 rfl dX11_undo_14 ?_
    refine j_vRW hX hW (r := fun v => v.1) (w1 := fun v => (w_X8_takeLatest G q_this_steps q_this_steps_step f_this_steps_step v.2)) (ws' := fun v => (w_X11_undo G q_this q_this_beats q_this_steps q_this_steps_step v_this_text v_this_reader v_this_laid v_this_kept v_this_keptSize v_this_told v_this_secrets v_this_trials v_this_queue v_this_row v_this_later v_this_beats_place v_this_beats_sort v_this_beats_minute f_this_beats_size f_this_beats_now f_this_steps_step v.2)) [] hg (fun v hv => c_X8_takeLatest l G N q_this_steps q_this_steps_step f_this_steps_step f_this_steps_size v hv) gX11_undo_X8_takeLatest rfl ⟨rfl, rfl⟩ ⟨rfl, by decide, by decide, rfl⟩ rfl rfl [2, 3] rfl (by decide +kernel) rfl rfl dX11_undo_17 rfl rfl ⟨Nat.zero_le _, Nat.zero_le _⟩ (fun _ => jn_set [2, 3] rfl rfl rfl) (fun v17 hg => ?_)
    refine j_istore_n hX (lv' := [(1, .int v17.1), (0, .ref q_this)]) dX11_undo_20 rfl rfl rfl ?_
    refine j_iload_n hX 0 dX11_undo_21 rfl rfl ?_
    refine j_if_ne hX 35 hg dX11_undo_22 (by decide) (fun hg => ?_) (fun hg => ?_)
    · refine j_aload_n hX 1 dX11_undo_25 rfl rfl ?_
      refine j_get hX 0 3 rfl rfl hinX11 rfl hf_X11_beats_35 rfl dX11_undo_26 ?_
      refine j_vRV hX hW (w1 := fun v => (w_X0_dropLatest G q_this_beats v_this_beats_place v_this_beats_sort v_this_beats_minute (.int f_this_beats_now) v)) (ws' := fun v => (w_X11_undo G q_this q_this_beats q_this_steps q_this_steps_step v_this_text v_this_reader v_this_laid v_this_kept v_this_keptSize v_this_told v_this_secrets v_this_trials v_this_queue v_this_row v_this_later v_this_beats_place v_this_beats_sort v_this_beats_minute v f_this_beats_now f_this_steps_step v17.2)) [] hg (fun v hv => c_X0_dropLatest l G N q_this_beats v_this_beats_place v_this_beats_sort v_this_beats_minute (.int f_this_beats_now) f_this_beats_size v hv) gX11_undo_X0_dropLatest rfl ⟨rfl, rfl⟩ ⟨rfl, by decide, by decide, rfl⟩ rfl rfl [1] rfl (by decide +kernel) rfl rfl dX11_undo_29 rfl rfl ⟨Nat.zero_le _, Nat.zero_le _⟩ (fun _ => jn_set [1] rfl rfl rfl) (fun v29 hg => ?_)
      refine j_goto hX 48 dX11_undo_32 (by decide) ?_
      refine j_aload_n hX 1 dX11_undo_48 rfl rfl ?_
      refine j_get hX 0 4 rfl rfl hinX11 rfl hf_X11_steps_42 rfl dX11_undo_49 ?_
      refine j_get hX 2 1 rfl rfl hinX8 rfl hf_X8_size_121 rfl dX11_undo_52 ?_
      cases hg
      exact hret _ _ dX11_undo_55
    · refine j_aload_n hX 1 dX11_undo_35 rfl rfl ?_
      refine j_get hX 0 3 rfl rfl hinX11 rfl hf_X11_beats_35 rfl dX11_undo_36 ?_
      refine j_dup hX dX11_undo_39 rfl ?_
      refine j_get hX 1 4 rfl rfl hinX0 rfl hf_X0_now_116 rfl dX11_undo_40 ?_
      refine j_iload_n hX 0 dX11_undo_43 rfl rfl ?_
      refine j_isub hX dX11_undo_44 ?_
      refine j_put hX hW 1 4 rfl rfl hinX0 tyX0 tyX0_ok nmX0 rfl hf_X0_now_116 rfl rfl rfl rfl dX11_undo_45 (ws' := (w_X11_undo G q_this q_this_beats q_this_steps q_this_steps_step v_this_text v_this_reader v_this_laid v_this_kept v_this_keptSize v_this_told v_this_secrets v_this_trials v_this_queue v_this_row v_this_later v_this_beats_place v_this_beats_sort v_this_beats_minute f_this_beats_size (f_this_beats_now - v17.1) f_this_steps_step v17.2)) rfl ?_
      refine j_aload_n hX 1 dX11_undo_48 rfl rfl ?_
      refine j_get hX 0 4 rfl rfl hinX11 rfl hf_X11_steps_42 rfl dX11_undo_49 ?_
      refine j_get hX 2 1 rfl rfl hinX8 rfl hf_X8_size_121 rfl dX11_undo_52 ?_
      cases hg
      exact hret _ _ dX11_undo_55
abbrev w_X0_isBeat (G : jG) (q_this : Nat) (v_this_place : Value) (v_this_sort : Value) (v_this_minute : Value) (v_this_now : Value) (f_this_size : Int32) : va_W := [oC q_this 0 [v_this_place, v_this_sort, v_this_minute, .int f_this_size, v_this_now]]
def g_X0_isBeat (N : Nat) (f_this_size : Int32) (x1 : Int32) : Option (Int32) := if x1 < 0 then some 0 else if f_this_size ≤ x1 then some 0 else some 1
set_option maxHeartbeats 4000000 in
set_option maxRecDepth 100000 in
theorem c_X0_isBeat (l : Launch) (G : jG) (N : Nat) (q_this : Nat) (v_this_place : Value) (v_this_sort : Value) (v_this_minute : Value) (v_this_now : Value) (f_this_size : Int32) (x1 : Int32) (u : Int32) (hu : g_X0_isBeat N f_this_size x1 = some u) : MetRO l G yX0_isBeat wsX0_isBeat ({ frames := 0, cells := 0, slots := 0, locals := 0 } : Room) [.ref q_this, .int x1] (w_X0_isBeat G q_this v_this_place v_this_sort v_this_minute v_this_now f_this_size) u := by
  refine met_roz (cc := cX0_isBeat) (maxL := 2) (lv0 := [(0, .ref q_this), (1, .int x1)]) (by decide) rfl rfl rfl rfl (fun X hX hret => ?_)
  have hinX0 : ∀ w ∈ u_ws RX0 TX0 5, w ∈ wsX0_isBeat := by decide +kernel
  have hf_X0_size_21 : Cond.fieldLink RX0 21 (TX0 3).1 (TX0 3).2.1 (TX0 3).2.2.1 ∈ wsX0_isBeat := by decide +kernel
  have hg := hu
  unfold g_X0_isBeat at hg
  refine j_iload_n hX 1 dX0_isBeat_0 rfl rfl ?_
  refine j_if_lt hX 16 hg dX0_isBeat_1 (by decide) (fun hg => ?_) (fun hg => ?_)
  · refine j_iconst hX dX0_isBeat_16 kc_0 ?_
    cases hg
    exact hret _ _ (Or.inl rfl) dX0_isBeat_17
  · refine j_iload_n hX 1 dX0_isBeat_4 rfl rfl ?_
    refine j_aload_n hX 0 dX0_isBeat_5 rfl rfl ?_
    refine j_get hX 0 3 rfl rfl hinX0 rfl hf_X0_size_21 rfl dX0_isBeat_6 ?_
    refine j_icmp_ge hX 16 hg dX0_isBeat_9 (by decide) (fun hg => ?_) (fun hg => ?_)
    · refine j_iconst hX dX0_isBeat_16 kc_0 ?_
      cases hg
      exact hret _ _ (Or.inl rfl) dX0_isBeat_17
    · refine j_iconst hX dX0_isBeat_12 kc_1 ?_
      refine j_goto hX 17 dX0_isBeat_13 (by decide) ?_
      cases hg
      exact hret _ _ (Or.inr rfl) dX0_isBeat_17
abbrev w_X11_beat (G : jG) (q_this : Nat) (q_this_beats : Nat) (q_this_beats_place : Nat) (q_this_beats_sort : Nat) (q_this_beats_minute : Nat) (v_this_text : Value) (v_this_reader : Value) (v_this_laid : Value) (v_this_steps : Value) (v_this_kept : Value) (v_this_keptSize : Value) (v_this_told : Value) (v_this_secrets : Value) (v_this_trials : Value) (v_this_queue : Value) (v_this_row : Value) (v_this_later : Value) (v_this_beats_now : Value) (f_this_beats_place : (Nat → Int32)) (f_this_beats_sort : (Nat → Int32)) (f_this_beats_minute : (Nat → Int32)) (f_this_beats_size : Int32) : va_W := [oC q_this 11 [v_this_text, v_this_reader, v_this_laid, .ref q_this_beats, v_this_steps, v_this_kept, v_this_keptSize, v_this_told, v_this_secrets, v_this_trials, v_this_queue, v_this_row, v_this_later], oC q_this_beats 0 [.ref q_this_beats_place, .ref q_this_beats_sort, .ref q_this_beats_minute, .int f_this_beats_size, v_this_beats_now], aI G q_this_beats_place 24 f_this_beats_place, aI G q_this_beats_sort 24 f_this_beats_sort, aI G q_this_beats_minute 24 f_this_beats_minute]
def g_X11_beat (N : Nat) (f_this_beats_place : (Nat → Int32)) (f_this_beats_sort : (Nat → Int32)) (f_this_beats_minute : (Nat → Int32)) (f_this_beats_size : Int32) (x1 : Int32) (x2 : Int32) : Option (Int32) := (g_X0_isBeat N f_this_beats_size x1).bind fun v5 => if v5 = 0 then some (-1) else if x2 = 0 then gi x1 24 (some (f_this_beats_place x1.toNatClampNeg)) else if x2 = 1 then gi x1 24 (some (f_this_beats_sort x1.toNatClampNeg)) else if x2 = 2 then gi x1 24 (some (f_this_beats_minute x1.toNatClampNeg)) else some (-1)
set_option maxHeartbeats 4000000 in
set_option maxRecDepth 100000 in
theorem c_X11_beat (l : Launch) (G : jG) (N : Nat) (q_this : Nat) (q_this_beats : Nat) (q_this_beats_place : Nat) (q_this_beats_sort : Nat) (q_this_beats_minute : Nat) (v_this_text : Value) (v_this_reader : Value) (v_this_laid : Value) (v_this_steps : Value) (v_this_kept : Value) (v_this_keptSize : Value) (v_this_told : Value) (v_this_secrets : Value) (v_this_trials : Value) (v_this_queue : Value) (v_this_row : Value) (v_this_later : Value) (v_this_beats_now : Value) (f_this_beats_place : (Nat → Int32)) (f_this_beats_sort : (Nat → Int32)) (f_this_beats_minute : (Nat → Int32)) (f_this_beats_size : Int32) (x1 : Int32) (x2 : Int32) (u : Int32) (hu : g_X11_beat N f_this_beats_place f_this_beats_sort f_this_beats_minute f_this_beats_size x1 x2 = some u) : MetRO l G yX11_beat wsX11_beat ({ frames := 1, cells := 0, slots := 0, locals := 21 } : Room) [.ref q_this, .int x1, .int x2] (w_X11_beat G q_this q_this_beats q_this_beats_place q_this_beats_sort q_this_beats_minute v_this_text v_this_reader v_this_laid v_this_steps v_this_kept v_this_keptSize v_this_told v_this_secrets v_this_trials v_this_queue v_this_row v_this_later v_this_beats_now f_this_beats_place f_this_beats_sort f_this_beats_minute f_this_beats_size) u := by
  refine met_roi (cc := cX11_beat) (maxL := 3) (lv0 := [(0, .ref q_this), (1, .int x1), (2, .int x2)]) (by decide) rfl rfl rfl rfl (fun X hX hret => ?_)
  have hinX11 : ∀ w ∈ u_ws RX11 TX11 13, w ∈ wsX11_beat := by decide +kernel
  have hinX0 : ∀ w ∈ u_ws RX0 TX0 5, w ∈ wsX11_beat := by decide +kernel
  have hf_X11_beats_35 : Cond.fieldLink RX11 35 (TX11 3).1 (TX11 3).2.1 (TX11 3).2.2.1 ∈ wsX11_beat := by decide +kernel
  have hf_X0_minute_174 : Cond.fieldLink RX11 174 (TX0 2).1 (TX0 2).2.1 (TX0 2).2.2.1 ∈ wsX11_beat := by decide +kernel
  have hf_X0_place_170 : Cond.fieldLink RX11 170 (TX0 0).1 (TX0 0).2.1 (TX0 0).2.2.1 ∈ wsX11_beat := by decide +kernel
  have hf_X0_sort_173 : Cond.fieldLink RX11 173 (TX0 1).1 (TX0 1).2.1 (TX0 1).2.2.1 ∈ wsX11_beat := by decide +kernel
  have hg := hu
  unfold g_X11_beat at hg
  refine j_aload_n hX 0 dX11_beat_0 rfl rfl ?_
  refine j_get hX 0 3 rfl rfl hinX11 rfl hf_X11_beats_35 rfl dX11_beat_1 ?_
  refine j_iload_n hX 1 dX11_beat_4 rfl rfl ?_
  refine j_vRO hX (r := fun v => v) [.int x1] hg (fun v hv => c_X0_isBeat l G N q_this_beats (.ref q_this_beats_place) (.ref q_this_beats_sort) (.ref q_this_beats_minute) v_this_beats_now f_this_beats_size x1 v hv) gX11_beat_X0_isBeat rfl ⟨rfl, rfl⟩ ⟨rfl, by decide, by decide, rfl⟩ rfl rfl [1] rfl rfl rfl dX11_beat_5 rfl rfl ⟨Nat.zero_le _, Nat.zero_le _⟩ (fun v5 hg => ?_)
  refine j_if_ne hX 13 hg dX11_beat_8 (by decide) (fun hg => ?_) (fun hg => ?_)
  · refine j_iconst hX dX11_beat_11 kc_m1 ?_
    cases hg
    exact hret _ _ dX11_beat_12
  · refine j_iload_n hX 2 dX11_beat_13 rfl rfl ?_
    refine sw_case (x := x2) 0 hg (fun hx hg => ?_) (fun hx0 hg => ?_)
    · refine j_tin hX hx 40 (off := 26) dX11_beat_14 (by decide +kernel) (by decide +kernel) (by decide +kernel) (by decide) ?_
      refine j_aload_n hX 0 dX11_beat_40 rfl rfl ?_
      refine j_get hX 0 3 rfl rfl hinX11 rfl hf_X11_beats_35 rfl dX11_beat_41 ?_
      refine j_get hX 1 0 rfl rfl hinX0 rfl hf_X0_place_170 rfl dX11_beat_44 ?_
      refine j_iload_n hX 1 dX11_beat_47 rfl rfl ?_
      refine j_iald hX 2 rfl hg dX11_beat_48 (fun hg => ?_)
      cases hg
      exact hret _ _ dX11_beat_49
    refine sw_case (x := x2) 1 hg (fun hx hg => ?_) (fun hx1 hg => ?_)
    · refine j_tin hX hx 50 (off := 36) dX11_beat_14 (by decide +kernel) (by decide +kernel) (by decide +kernel) (by decide) ?_
      refine j_aload_n hX 0 dX11_beat_50 rfl rfl ?_
      refine j_get hX 0 3 rfl rfl hinX11 rfl hf_X11_beats_35 rfl dX11_beat_51 ?_
      refine j_get hX 1 1 rfl rfl hinX0 rfl hf_X0_sort_173 rfl dX11_beat_54 ?_
      refine j_iload_n hX 1 dX11_beat_57 rfl rfl ?_
      refine j_iald hX 3 rfl hg dX11_beat_58 (fun hg => ?_)
      cases hg
      exact hret _ _ dX11_beat_59
    refine sw_case (x := x2) 2 hg (fun hx hg => ?_) (fun hx2 hg => ?_)
    · refine j_tin hX hx 60 (off := 46) dX11_beat_14 (by decide +kernel) (by decide +kernel) (by decide +kernel) (by decide) ?_
      refine j_aload_n hX 0 dX11_beat_60 rfl rfl ?_
      refine j_get hX 0 3 rfl rfl hinX11 rfl hf_X11_beats_35 rfl dX11_beat_61 ?_
      refine j_get hX 1 2 rfl rfl hinX0 rfl hf_X0_minute_174 rfl dX11_beat_64 ?_
      refine j_iload_n hX 1 dX11_beat_67 rfl rfl ?_
      refine j_iald hX 4 rfl hg dX11_beat_68 (fun hg => ?_)
      cases hg
      exact hret _ _ dX11_beat_69
    refine j_tdef hX [0, 1, 2] 70 dX11_beat_14 (by decide +kernel) (by decide +kernel) (fun z hz => by simp only [List.mem_cons, List.not_mem_nil, or_false] at hz; rcases hz with rfl | rfl | rfl <;> assumption) (by decide) ?_
    refine j_iconst hX dX11_beat_70 kc_m1 ?_
    cases hg
    exact hret _ _ dX11_beat_71
abbrev w_X11_isMinute (G : jG) : va_W := []
def g_X11_isMinute (N : Nat) (x0 : Int32) : Option (Int32) := if x0 < 0 then some 0 else if (9999 : Int32) < x0 then some 0 else some 1
set_option maxHeartbeats 4000000 in
set_option maxRecDepth 100000 in
theorem c_X11_isMinute (l : Launch) (G : jG) (N : Nat) (x0 : Int32) (u : Int32) (hu : g_X11_isMinute N x0 = some u) : MetRO l G yX11_isMinute wsX11_isMinute ({ frames := 0, cells := 0, slots := 0, locals := 0 } : Room) [.int x0] (w_X11_isMinute G ) u := by
  refine met_roz (cc := cX11_isMinute) (maxL := 1) (lv0 := [(0, .int x0)]) (by decide) rfl rfl rfl rfl (fun X hX hret => ?_)
  have hg := hu
  unfold g_X11_isMinute at hg
  refine j_iload_n hX 0 dX11_isMinute_0 rfl rfl ?_
  refine j_if_lt hX 15 hg dX11_isMinute_1 (by decide) (fun hg => ?_) (fun hg => ?_)
  · refine j_iconst hX dX11_isMinute_15 kc_0 ?_
    cases hg
    exact hret _ _ (Or.inl rfl) dX11_isMinute_16
  · refine j_iload_n hX 0 dX11_isMinute_4 rfl rfl ?_
    refine j_sipush hX dX11_isMinute_5 ks_9999 ?_
    refine j_icmp_gt hX 15 hg dX11_isMinute_8 (by decide) (fun hg => ?_) (fun hg => ?_)
    · refine j_iconst hX dX11_isMinute_15 kc_0 ?_
      cases hg
      exact hret _ _ (Or.inl rfl) dX11_isMinute_16
    · refine j_iconst hX dX11_isMinute_11 kc_1 ?_
      refine j_goto hX 16 dX11_isMinute_12 (by decide) ?_
      cases hg
      exact hret _ _ (Or.inr rfl) dX11_isMinute_16
abbrev w_X3_insert (G : jG) (q_this : Nat) (q_this_sort : Nat) (q_this_drummed : Nat) (q_this_heard : Nat) (n_this : Nat) (f_this_sort : (Nat → Int32)) (f_this_drummed : (Nat → Int32)) (f_this_heard : (Nat → Int32)) (f_this_size : Int32) : va_W := [oC q_this 3 [.ref q_this_sort, .ref q_this_drummed, .ref q_this_heard, .int f_this_size], aI G q_this_sort n_this f_this_sort, aI G q_this_drummed n_this f_this_drummed, aI G q_this_heard n_this f_this_heard]
def g_X3_insert_b91 (N : Nat) (n_this : Nat) (f_this_sort : (Nat → Int32)) (f_this_drummed : (Nat → Int32)) (f_this_heard : (Nat → Int32)) (f_this_size : Int32) (x1 : Int32) (x2 : Int32) (x3 : Int32) (x4 : Int32) : Option ((Nat → Int32) × (Nat → Int32) × (Nat → Int32) × Int32) := gi x4 n_this (gi x4 n_this (gi x4 n_this (some (upd f_this_sort x4.toNatClampNeg x1, upd f_this_drummed x4.toNatClampNeg x2, upd f_this_heard x4.toNatClampNeg x3, f_this_size + 1))))
def g_X3_insert_L19 (N : Nat) (n_this : Nat) (k_91 : (Nat → Int32) → (Nat → Int32) → (Nat → Int32) → Int32 → Int32 → Int32 → Int32 → Int32 → Option ((Nat → Int32) × (Nat → Int32) × (Nat → Int32) × Int32)) : Nat → (Nat → Int32) → (Nat → Int32) → (Nat → Int32) → Int32 → Int32 → Int32 → Int32 → Int32 → Option ((Nat → Int32) × (Nat → Int32) × (Nat → Int32) × Int32)
  | 0, _, _, _, _, _, _, _, _ => none
  | fu + 1, f_this_sort, f_this_drummed, f_this_heard, f_this_size, x1, x2, x3, x4 => if x4 ≤ 0 then k_91 f_this_sort f_this_drummed f_this_heard f_this_size x1 x2 x3 x4 else gi (x4 - 1) n_this (if (f_this_heard (x4 - 1 : Int32).toNatClampNeg) ≤ x3 then k_91 f_this_sort f_this_drummed f_this_heard f_this_size x1 x2 x3 x4 else gi (x4 - 1) n_this (gi x4 n_this (gi (x4 - 1) n_this (gi x4 n_this (gi (x4 - 1) n_this (gi x4 n_this (g_X3_insert_L19 N n_this k_91 fu (upd f_this_sort x4.toNatClampNeg (f_this_sort (x4 - 1 : Int32).toNatClampNeg)) (upd f_this_drummed x4.toNatClampNeg (f_this_drummed (x4 - 1 : Int32).toNatClampNeg)) (upd f_this_heard x4.toNatClampNeg (f_this_heard (x4 - 1 : Int32).toNatClampNeg)) f_this_size x1 x2 x3 (x4 + (-1)))))))))
def g_X3_insert (N : Nat) (n_this : Nat) (f_this_sort : (Nat → Int32)) (f_this_drummed : (Nat → Int32)) (f_this_heard : (Nat → Int32)) (f_this_size : Int32) (x1 : Int32) (x2 : Int32) (x3 : Int32) : Option ((Nat → Int32) × (Nat → Int32) × (Nat → Int32) × Int32) := if f_this_size < (nI n_this) then g_X3_insert_L19 N n_this (g_X3_insert_b91 N n_this) N f_this_sort f_this_drummed f_this_heard f_this_size x1 x2 x3 f_this_size else some (f_this_sort, f_this_drummed, f_this_heard, f_this_size)
set_option maxHeartbeats 4000000 in
set_option maxRecDepth 100000 in
theorem c_X3_insert (l : Launch) (G : jG) (N : Nat) (q_this : Nat) (q_this_sort : Nat) (q_this_drummed : Nat) (q_this_heard : Nat) (n_this : Nat) (f_this_sort : (Nat → Int32)) (f_this_drummed : (Nat → Int32)) (f_this_heard : (Nat → Int32)) (f_this_size : Int32) (x1 : Int32) (x2 : Int32) (x3 : Int32) (u : (Nat → Int32) × (Nat → Int32) × (Nat → Int32) × Int32) (hu : g_X3_insert N n_this f_this_sort f_this_drummed f_this_heard f_this_size x1 x2 x3 = some u) : MetRV l G yX3_insert wsX3_insert ({ frames := 0, cells := 0, slots := 0, locals := 0 } : Room) [.ref q_this, .int x1, .int x2, .int x3] (w_X3_insert G q_this q_this_sort q_this_drummed q_this_heard n_this f_this_sort f_this_drummed f_this_heard f_this_size) (w_X3_insert G q_this q_this_sort q_this_drummed q_this_heard n_this u.1 u.2.1 u.2.2.1 u.2.2.2) := by
  refine met_rwv (cc := cX3_insert) (maxL := 5) (lv0 := [(0, .ref q_this), (1, .int x1), (2, .int x2), (3, .int x3)]) (by decide) rfl rfl rfl rfl (fun X hX hW hret => ?_)
  have hinX3 : ∀ w ∈ u_ws RX3 TX3 4, w ∈ wsX3_insert := by decide +kernel
  have hf_X3_drummed_13 : Cond.fieldLink RX3 13 (TX3 1).1 (TX3 1).2.1 (TX3 1).2.2.1 ∈ wsX3_insert := by decide +kernel
  have hf_X3_heard_16 : Cond.fieldLink RX3 16 (TX3 2).1 (TX3 2).2.1 (TX3 2).2.2.1 ∈ wsX3_insert := by decide +kernel
  have hf_X3_size_19 : Cond.fieldLink RX3 19 (TX3 3).1 (TX3 3).2.1 (TX3 3).2.2.1 ∈ wsX3_insert := by decide +kernel
  have hf_X3_sort_7 : Cond.fieldLink RX3 7 (TX3 0).1 (TX3 0).2.1 (TX3 0).2.2.1 ∈ wsX3_insert := by decide +kernel
  have B91 : ∀ (f_this_sort : (Nat → Int32)) (f_this_drummed : (Nat → Int32)) (f_this_heard : (Nat → Int32)) (f_this_size : Int32) (x1 : Int32) (x2 : Int32) (x3 : Int32) (x4 : Int32), g_X3_insert_b91 N n_this f_this_sort f_this_drummed f_this_heard f_this_size x1 x2 x3 x4 = some u → J X 0 0 (w_X3_insert G q_this q_this_sort q_this_drummed q_this_heard n_this f_this_sort f_this_drummed f_this_heard f_this_size) 91 [(0, .ref q_this), (1, .int x1), (2, .int x2), (3, .int x3), (4, .int x4)] [] := by
    intro f_this_sort f_this_drummed f_this_heard f_this_size x1 x2 x3 x4 hg
    unfold g_X3_insert_b91 at hg
    refine j_aload_n hX 0 dX3_insert_91 rfl rfl ?_
    refine j_get hX 0 0 rfl rfl hinX3 rfl hf_X3_sort_7 rfl dX3_insert_92 ?_
    refine j_iload hX 4 dX3_insert_95 rfl ?_
    refine j_iload_n hX 1 dX3_insert_97 rfl rfl ?_
    refine j_iast hX hW 1 rfl hg dX3_insert_98 (ws' := (w_X3_insert G q_this q_this_sort q_this_drummed q_this_heard n_this (upd f_this_sort x4.toNatClampNeg x1) f_this_drummed f_this_heard f_this_size)) rfl (fun hg => ?_)
    refine j_aload_n hX 0 dX3_insert_99 rfl rfl ?_
    refine j_get hX 0 1 rfl rfl hinX3 rfl hf_X3_drummed_13 rfl dX3_insert_100 ?_
    refine j_iload hX 4 dX3_insert_103 rfl ?_
    refine j_iload_n hX 2 dX3_insert_105 rfl rfl ?_
    refine j_iast hX hW 2 rfl hg dX3_insert_106 (ws' := (w_X3_insert G q_this q_this_sort q_this_drummed q_this_heard n_this (upd f_this_sort x4.toNatClampNeg x1) (upd f_this_drummed x4.toNatClampNeg x2) f_this_heard f_this_size)) rfl (fun hg => ?_)
    refine j_aload_n hX 0 dX3_insert_107 rfl rfl ?_
    refine j_get hX 0 2 rfl rfl hinX3 rfl hf_X3_heard_16 rfl dX3_insert_108 ?_
    refine j_iload hX 4 dX3_insert_111 rfl ?_
    refine j_iload_n hX 3 dX3_insert_113 rfl rfl ?_
    refine j_iast hX hW 3 rfl hg dX3_insert_114 (ws' := (w_X3_insert G q_this q_this_sort q_this_drummed q_this_heard n_this (upd f_this_sort x4.toNatClampNeg x1) (upd f_this_drummed x4.toNatClampNeg x2) (upd f_this_heard x4.toNatClampNeg x3) f_this_size)) rfl (fun hg => ?_)
    refine j_aload_n hX 0 dX3_insert_115 rfl rfl ?_
    refine j_dup hX dX3_insert_116 rfl ?_
    refine j_get hX 0 3 rfl rfl hinX3 rfl hf_X3_size_19 rfl dX3_insert_117 ?_
    refine j_iconst hX dX3_insert_120 kc_1 ?_
    refine j_iadd hX dX3_insert_121 ?_
    refine j_put hX hW 0 3 rfl rfl hinX3 tyX3 tyX3_ok nmX3 rfl hf_X3_size_19 rfl rfl rfl rfl dX3_insert_122 (ws' := (w_X3_insert G q_this q_this_sort q_this_drummed q_this_heard n_this (upd f_this_sort x4.toNatClampNeg x1) (upd f_this_drummed x4.toNatClampNeg x2) (upd f_this_heard x4.toNatClampNeg x3) (f_this_size + 1))) rfl ?_
    cases hg
    exact hret _ _ dX3_insert_125
  have L19 : ∀ (fu19 : Nat), ∀ (f_this_sort : (Nat → Int32)) (f_this_drummed : (Nat → Int32)) (f_this_heard : (Nat → Int32)) (f_this_size : Int32) (x1 : Int32) (x2 : Int32) (x3 : Int32) (x4 : Int32), g_X3_insert_L19 N n_this (g_X3_insert_b91 N n_this) fu19 f_this_sort f_this_drummed f_this_heard f_this_size x1 x2 x3 x4 = some u → J X 0 0 (w_X3_insert G q_this q_this_sort q_this_drummed q_this_heard n_this f_this_sort f_this_drummed f_this_heard f_this_size) 19 [(0, .ref q_this), (1, .int x1), (2, .int x2), (3, .int x3), (4, .int x4)] [] := by
    intro fu19
    induction fu19 with
    | zero => intro f_this_sort f_this_drummed f_this_heard f_this_size x1 x2 x3 x4 hg; exact nomatch hg
    | succ fu19 ih19 =>
      intro f_this_sort f_this_drummed f_this_heard f_this_size x1 x2 x3 x4 hg
      unfold g_X3_insert_L19 at hg
      refine j_iload hX 4 dX3_insert_19 rfl ?_
      refine j_if_le hX 91 hg dX3_insert_21 (by decide) (fun hg => ?_) (fun hg => ?_)
      · exact B91 _ _ _ _ _ _ _ _ hg
      · refine j_aload_n hX 0 dX3_insert_24 rfl rfl ?_
        refine j_get hX 0 2 rfl rfl hinX3 rfl hf_X3_heard_16 rfl dX3_insert_25 ?_
        refine j_iload hX 4 dX3_insert_28 rfl ?_
        refine j_iconst hX dX3_insert_30 kc_1 ?_
        refine j_isub hX dX3_insert_31 ?_
        refine j_iald hX 3 rfl hg dX3_insert_32 (fun hg => ?_)
        refine j_iload_n hX 3 dX3_insert_33 rfl rfl ?_
        refine j_icmp_le hX 91 hg dX3_insert_34 (by decide) (fun hg => ?_) (fun hg => ?_)
        · exact B91 _ _ _ _ _ _ _ _ hg
        · refine j_aload_n hX 0 dX3_insert_37 rfl rfl ?_
          refine j_get hX 0 0 rfl rfl hinX3 rfl hf_X3_sort_7 rfl dX3_insert_38 ?_
          refine j_iload hX 4 dX3_insert_41 rfl ?_
          refine j_aload_n hX 0 dX3_insert_43 rfl rfl ?_
          refine j_get hX 0 0 rfl rfl hinX3 rfl hf_X3_sort_7 rfl dX3_insert_44 ?_
          refine j_iload hX 4 dX3_insert_47 rfl ?_
          refine j_iconst hX dX3_insert_49 kc_1 ?_
          refine j_isub hX dX3_insert_50 ?_
          refine j_iald hX 1 rfl hg dX3_insert_51 (fun hg => ?_)
          refine j_iast hX hW 1 rfl hg dX3_insert_52 (ws' := (w_X3_insert G q_this q_this_sort q_this_drummed q_this_heard n_this (upd f_this_sort x4.toNatClampNeg (f_this_sort (x4 - 1 : Int32).toNatClampNeg)) f_this_drummed f_this_heard f_this_size)) rfl (fun hg => ?_)
          refine j_aload_n hX 0 dX3_insert_53 rfl rfl ?_
          refine j_get hX 0 1 rfl rfl hinX3 rfl hf_X3_drummed_13 rfl dX3_insert_54 ?_
          refine j_iload hX 4 dX3_insert_57 rfl ?_
          refine j_aload_n hX 0 dX3_insert_59 rfl rfl ?_
          refine j_get hX 0 1 rfl rfl hinX3 rfl hf_X3_drummed_13 rfl dX3_insert_60 ?_
          refine j_iload hX 4 dX3_insert_63 rfl ?_
          refine j_iconst hX dX3_insert_65 kc_1 ?_
          refine j_isub hX dX3_insert_66 ?_
          refine j_iald hX 2 rfl hg dX3_insert_67 (fun hg => ?_)
          refine j_iast hX hW 2 rfl hg dX3_insert_68 (ws' := (w_X3_insert G q_this q_this_sort q_this_drummed q_this_heard n_this (upd f_this_sort x4.toNatClampNeg (f_this_sort (x4 - 1 : Int32).toNatClampNeg)) (upd f_this_drummed x4.toNatClampNeg (f_this_drummed (x4 - 1 : Int32).toNatClampNeg)) f_this_heard f_this_size)) rfl (fun hg => ?_)
          refine j_aload_n hX 0 dX3_insert_69 rfl rfl ?_
          refine j_get hX 0 2 rfl rfl hinX3 rfl hf_X3_heard_16 rfl dX3_insert_70 ?_
          refine j_iload hX 4 dX3_insert_73 rfl ?_
          refine j_aload_n hX 0 dX3_insert_75 rfl rfl ?_
          refine j_get hX 0 2 rfl rfl hinX3 rfl hf_X3_heard_16 rfl dX3_insert_76 ?_
          refine j_iload hX 4 dX3_insert_79 rfl ?_
          refine j_iconst hX dX3_insert_81 kc_1 ?_
          refine j_isub hX dX3_insert_82 ?_
          refine j_iald hX 3 rfl hg dX3_insert_83 (fun hg => ?_)
          refine j_iast hX hW 3 rfl hg dX3_insert_84 (ws' := (w_X3_insert G q_this q_this_sort q_this_drummed q_this_heard n_this (upd f_this_sort x4.toNatClampNeg (f_this_sort (x4 - 1 : Int32).toNatClampNeg)) (upd f_this_drummed x4.toNatClampNeg (f_this_drummed (x4 - 1 : Int32).toNatClampNeg)) (upd f_this_heard x4.toNatClampNeg (f_this_heard (x4 - 1 : Int32).toNatClampNeg)) f_this_size)) rfl (fun hg => ?_)
          refine j_iinc hX 4 (v := x4 + (-1)) (lv' := [(4, .int (x4 + (-1))), (0, .ref q_this), (1, .int x1), (2, .int x2), (3, .int x3)]) dX3_insert_85 rfl (by rw [kc_m1]) rfl rfl ?_
          refine j_goto hX 19 dX3_insert_88 (by decide) ?_
          refine j_lv [1, 2, 3, 4, 0] rfl ?_
          exact ih19 _ _ _ _ _ _ _ _ hg
  have hg := hu
  unfold g_X3_insert at hg
  refine j_aload_n hX 0 dX3_insert_0 rfl rfl ?_
  refine j_get hX 0 3 rfl rfl hinX3 rfl hf_X3_size_19 rfl dX3_insert_1 ?_
  refine j_aload_n hX 0 dX3_insert_4 rfl rfl ?_
  refine j_get hX 0 2 rfl rfl hinX3 rfl hf_X3_heard_16 rfl dX3_insert_5 ?_
  refine j_alen hX 3 rfl dX3_insert_8 ?_
  refine j_icmp_lt hX 13 hg dX3_insert_9 (by decide) (fun hg => ?_) (fun hg => ?_)
  · refine j_aload_n hX 0 dX3_insert_13 rfl rfl ?_
    refine j_get hX 0 3 rfl rfl hinX3 rfl hf_X3_size_19 rfl dX3_insert_14 ?_
    refine j_istore hX (lv' := [(4, .int f_this_size), (0, .ref q_this), (1, .int x1), (2, .int x2), (3, .int x3)]) dX3_insert_17 rfl rfl ?_
    refine j_lv [1, 2, 3, 4, 0] rfl ?_
    exact L19 N _ _ _ _ _ _ _ _ hg
  · cases hg
    exact hret _ _ dX3_insert_12
abbrev w_X3_fillFrom (G : jG) (q_this : Nat) (q_this_sort : Nat) (q_this_drummed : Nat) (q_this_heard : Nat) (q_a1 : Nat) (q_a1_place : Nat) (q_a1_sort : Nat) (q_a1_minute : Nat) (q_a2 : Nat) (q_a2_minutes : Nat) (v_a1_now : Value) (v_a2_book : Value) (v_a2_sorts : Value) (v_a2_hour : Value) (v_a2_law : Value) (v_a2_minutesTold : Value) (n_this : Nat) (f_this_sort : (Nat → Int32)) (f_this_drummed : (Nat → Int32)) (f_this_heard : (Nat → Int32)) (f_this_size : Int32) (f_a1_place : (Nat → Int32)) (f_a1_sort : (Nat → Int32)) (f_a1_minute : (Nat → Int32)) (f_a1_size : Int32) (f_a2_places : Int32) (f_a2_minutes : (Nat → Int32)) : va_W := [oC q_this 3 [.ref q_this_sort, .ref q_this_drummed, .ref q_this_heard, .int f_this_size], aI G q_this_sort n_this f_this_sort, aI G q_this_drummed n_this f_this_drummed, aI G q_this_heard n_this f_this_heard, oC q_a1 0 [.ref q_a1_place, .ref q_a1_sort, .ref q_a1_minute, .int f_a1_size, v_a1_now], aI G q_a1_place 24 f_a1_place, aI G q_a1_sort 24 f_a1_sort, aI G q_a1_minute 24 f_a1_minute, oC q_a2 2 [v_a2_book, .int f_a2_places, v_a2_sorts, v_a2_hour, v_a2_law, v_a2_minutesTold, .ref q_a2_minutes], aI G q_a2_minutes 25 f_a2_minutes]
def g_X3_fillFrom_L8 (N : Nat) (n_this : Nat) (f_a1_place : (Nat → Int32)) (f_a1_sort : (Nat → Int32)) (f_a1_minute : (Nat → Int32)) (f_a1_size : Int32) (f_a2_places : Int32) (f_a2_minutes : (Nat → Int32)) : Nat → (Nat → Int32) → (Nat → Int32) → (Nat → Int32) → Int32 → Int32 → Int32 → Option ((Nat → Int32) × (Nat → Int32) × (Nat → Int32) × Int32)
  | 0, _, _, _, _, _, _ => none
  | fu + 1, f_this_sort, f_this_drummed, f_this_heard, f_this_size, x3, x4 => if f_a1_size ≤ x4 then some (f_this_sort, f_this_drummed, f_this_heard, f_this_size) else gi x4 24 (gi x4 24 (gi x4 24 ((g_X2_minutesBetween N f_a2_places f_a2_minutes (f_a1_place x4.toNatClampNeg) x3).bind fun v47 => (g_X3_insert N n_this f_this_sort f_this_drummed f_this_heard f_this_size (f_a1_sort x4.toNatClampNeg) (f_a1_minute x4.toNatClampNeg) ((f_a1_minute x4.toNatClampNeg) + v47)).bind fun v51 => g_X3_fillFrom_L8 N n_this f_a1_place f_a1_sort f_a1_minute f_a1_size f_a2_places f_a2_minutes fu v51.1 v51.2.1 v51.2.2.1 v51.2.2.2 x3 (x4 + 1))))
def g_X3_fillFrom (N : Nat) (n_this : Nat) (f_a1_place : (Nat → Int32)) (f_a1_sort : (Nat → Int32)) (f_a1_minute : (Nat → Int32)) (f_a1_size : Int32) (f_a2_places : Int32) (f_a2_minutes : (Nat → Int32)) (f_this_sort : (Nat → Int32)) (f_this_drummed : (Nat → Int32)) (f_this_heard : (Nat → Int32)) (f_this_size : Int32) (x3 : Int32) : Option ((Nat → Int32) × (Nat → Int32) × (Nat → Int32) × Int32) := g_X3_fillFrom_L8 N n_this f_a1_place f_a1_sort f_a1_minute f_a1_size f_a2_places f_a2_minutes N f_this_sort f_this_drummed f_this_heard 0 x3 0
set_option maxHeartbeats 4000000 in
set_option maxRecDepth 100000 in
theorem c_X3_fillFrom (l : Launch) (G : jG) (N : Nat) (q_this : Nat) (q_this_sort : Nat) (q_this_drummed : Nat) (q_this_heard : Nat) (q_a1 : Nat) (q_a1_place : Nat) (q_a1_sort : Nat) (q_a1_minute : Nat) (q_a2 : Nat) (q_a2_minutes : Nat) (v_a1_now : Value) (v_a2_book : Value) (v_a2_sorts : Value) (v_a2_hour : Value) (v_a2_law : Value) (v_a2_minutesTold : Value) (n_this : Nat) (f_this_sort : (Nat → Int32)) (f_this_drummed : (Nat → Int32)) (f_this_heard : (Nat → Int32)) (f_this_size : Int32) (f_a1_place : (Nat → Int32)) (f_a1_sort : (Nat → Int32)) (f_a1_minute : (Nat → Int32)) (f_a1_size : Int32) (f_a2_places : Int32) (f_a2_minutes : (Nat → Int32)) (x3 : Int32) (u : (Nat → Int32) × (Nat → Int32) × (Nat → Int32) × Int32) (hu : g_X3_fillFrom N n_this f_a1_place f_a1_sort f_a1_minute f_a1_size f_a2_places f_a2_minutes f_this_sort f_this_drummed f_this_heard f_this_size x3 = some u) : MetRV l G yX3_fillFrom wsX3_fillFrom ({ frames := 2, cells := 0, slots := 0, locals := 43 } : Room) [.ref q_this, .ref q_a1, .ref q_a2, .int x3] (w_X3_fillFrom G q_this q_this_sort q_this_drummed q_this_heard q_a1 q_a1_place q_a1_sort q_a1_minute q_a2 q_a2_minutes v_a1_now v_a2_book v_a2_sorts v_a2_hour v_a2_law v_a2_minutesTold n_this f_this_sort f_this_drummed f_this_heard f_this_size f_a1_place f_a1_sort f_a1_minute f_a1_size f_a2_places f_a2_minutes) (w_X3_fillFrom G q_this q_this_sort q_this_drummed q_this_heard q_a1 q_a1_place q_a1_sort q_a1_minute q_a2 q_a2_minutes v_a1_now v_a2_book v_a2_sorts v_a2_hour v_a2_law v_a2_minutesTold n_this u.1 u.2.1 u.2.2.1 u.2.2.2 f_a1_place f_a1_sort f_a1_minute f_a1_size f_a2_places f_a2_minutes) := by
  refine met_rwv (cc := cX3_fillFrom) (maxL := 6) (lv0 := [(0, .ref q_this), (1, .ref q_a1), (2, .ref q_a2), (3, .int x3)]) (by decide) rfl rfl rfl rfl (fun X hX hW hret => ?_)
  have hinX0 : ∀ w ∈ u_ws RX0 TX0 5, w ∈ wsX3_fillFrom := by decide +kernel
  have hinX3 : ∀ w ∈ u_ws RX3 TX3 4, w ∈ wsX3_fillFrom := by decide +kernel
  have hf_X0_minute_26 : Cond.fieldLink RX3 26 (TX0 2).1 (TX0 2).2.1 (TX0 2).2.2.1 ∈ wsX3_fillFrom := by decide +kernel
  have hf_X0_place_30 : Cond.fieldLink RX3 30 (TX0 0).1 (TX0 0).2.1 (TX0 0).2.2.1 ∈ wsX3_fillFrom := by decide +kernel
  have hf_X0_size_23 : Cond.fieldLink RX3 23 (TX0 3).1 (TX0 3).2.1 (TX0 3).2.2.1 ∈ wsX3_fillFrom := by decide +kernel
  have hf_X0_sort_29 : Cond.fieldLink RX3 29 (TX0 1).1 (TX0 1).2.1 (TX0 1).2.2.1 ∈ wsX3_fillFrom := by decide +kernel
  have hf_X3_size_19 : Cond.fieldLink RX3 19 (TX3 3).1 (TX3 3).2.1 (TX3 3).2.2.1 ∈ wsX3_fillFrom := by decide +kernel
  have L8 : ∀ (fu8 : Nat), ∀ (f_this_sort : (Nat → Int32)) (f_this_drummed : (Nat → Int32)) (f_this_heard : (Nat → Int32)) (f_this_size : Int32) (x3 : Int32) (x4 : Int32), g_X3_fillFrom_L8 N n_this f_a1_place f_a1_sort f_a1_minute f_a1_size f_a2_places f_a2_minutes fu8 f_this_sort f_this_drummed f_this_heard f_this_size x3 x4 = some u → J X 0 0 (w_X3_fillFrom G q_this q_this_sort q_this_drummed q_this_heard q_a1 q_a1_place q_a1_sort q_a1_minute q_a2 q_a2_minutes v_a1_now v_a2_book v_a2_sorts v_a2_hour v_a2_law v_a2_minutesTold n_this f_this_sort f_this_drummed f_this_heard f_this_size f_a1_place f_a1_sort f_a1_minute f_a1_size f_a2_places f_a2_minutes) 8 [(0, .ref q_this), (1, .ref q_a1), (2, .ref q_a2), (3, .int x3), (4, .int x4)] [] := by
    intro fu8
    induction fu8 with
    | zero => intro f_this_sort f_this_drummed f_this_heard f_this_size x3 x4 hg; exact nomatch hg
    | succ fu8 ih8 =>
      intro f_this_sort f_this_drummed f_this_heard f_this_size x3 x4 hg
      unfold g_X3_fillFrom_L8 at hg
      refine j_iload hX 4 dX3_fillFrom_8 rfl ?_
      refine j_aload_n hX 1 dX3_fillFrom_10 rfl rfl ?_
      refine j_get hX 4 3 rfl rfl hinX0 rfl hf_X0_size_23 rfl dX3_fillFrom_11 ?_
      refine j_icmp_ge hX 60 hg dX3_fillFrom_14 (by decide) (fun hg => ?_) (fun hg => ?_)
      · cases hg
        exact hret _ _ dX3_fillFrom_60
      · refine j_aload_n hX 1 dX3_fillFrom_17 rfl rfl ?_
        refine j_get hX 4 2 rfl rfl hinX0 rfl hf_X0_minute_26 rfl dX3_fillFrom_18 ?_
        refine j_iload hX 4 dX3_fillFrom_21 rfl ?_
        refine j_iald hX 7 rfl hg dX3_fillFrom_23 (fun hg => ?_)
        refine j_istore hX (lv' := [(5, .int (f_a1_minute x4.toNatClampNeg)), (0, .ref q_this), (1, .ref q_a1), (2, .ref q_a2), (3, .int x3), (4, .int x4)]) dX3_fillFrom_24 rfl rfl ?_
        refine j_aload_n hX 1 dX3_fillFrom_26 rfl rfl ?_
        refine j_aload_n hX 2 dX3_fillFrom_27 rfl rfl ?_
        refine j_get hX 4 1 rfl rfl hinX0 rfl hf_X0_sort_29 rfl dX3_fillFrom_28 ?_
        refine j_iload hX 5 dX3_fillFrom_31 rfl ?_
        refine j_iald hX 6 rfl hg dX3_fillFrom_33 (fun hg => ?_)
        refine j_iload hX 0 dX3_fillFrom_34 rfl ?_
        refine j_iload hX 0 dX3_fillFrom_36 rfl ?_
        refine j_aload_n hX 3 dX3_fillFrom_38 rfl rfl ?_
        refine j_aload_n hX 2 dX3_fillFrom_39 rfl rfl ?_
        refine j_get hX 4 0 rfl rfl hinX0 rfl hf_X0_place_30 rfl dX3_fillFrom_40 ?_
        refine j_iload hX 5 dX3_fillFrom_43 rfl ?_
        refine j_iald hX 5 rfl hg dX3_fillFrom_45 (fun hg => ?_)
        refine j_iload_n hX 4 dX3_fillFrom_46 rfl rfl ?_
        refine j_vRO hX (r := fun v => v) [.int (f_a1_place x4.toNatClampNeg), .int x3] hg (fun v hv => c_X2_minutesBetween l G N q_a2 q_a2_minutes v_a2_book v_a2_sorts v_a2_hour v_a2_law v_a2_minutesTold f_a2_places f_a2_minutes (f_a1_place x4.toNatClampNeg) x3 v hv) gX3_fillFrom_X2_minutesBetween rfl ⟨rfl, rfl⟩ ⟨rfl, by decide, by decide, rfl⟩ rfl rfl [8, 9] rfl rfl rfl dX3_fillFrom_47 rfl rfl ⟨Nat.zero_le _, Nat.zero_le _⟩ (fun v47 hg => ?_)
        refine j_iadd hX dX3_fillFrom_50 ?_
        refine j_vRV hX hW (w1 := fun v => (w_X3_insert G q_this q_this_sort q_this_drummed q_this_heard n_this v.1 v.2.1 v.2.2.1 v.2.2.2)) (ws' := fun v => (w_X3_fillFrom G q_this q_this_sort q_this_drummed q_this_heard q_a1 q_a1_place q_a1_sort q_a1_minute q_a2 q_a2_minutes v_a1_now v_a2_book v_a2_sorts v_a2_hour v_a2_law v_a2_minutesTold n_this v.1 v.2.1 v.2.2.1 v.2.2.2 f_a1_place f_a1_sort f_a1_minute f_a1_size f_a2_places f_a2_minutes)) [.int (f_a1_sort x4.toNatClampNeg), .int (f_a1_minute x4.toNatClampNeg), .int ((f_a1_minute x4.toNatClampNeg) + v47)] hg (fun v hv => c_X3_insert l G N q_this q_this_sort q_this_drummed q_this_heard n_this f_this_sort f_this_drummed f_this_heard f_this_size (f_a1_sort x4.toNatClampNeg) (f_a1_minute x4.toNatClampNeg) ((f_a1_minute x4.toNatClampNeg) + v47) v hv) gX3_fillFrom_X3_insert rfl ⟨rfl, rfl⟩ ⟨rfl, by decide, by decide, rfl⟩ rfl rfl [0, 1, 2, 3] rfl (by decide +kernel) rfl rfl dX3_fillFrom_51 rfl rfl ⟨Nat.zero_le _, Nat.zero_le _⟩ (fun _ => jn_set [0, 1, 2, 3] rfl rfl rfl) (fun v51 hg => ?_)
        refine j_iinc hX 5 (v := x4 + 1) (lv' := [(4, .int (x4 + 1)), (5, .int (f_a1_minute x4.toNatClampNeg)), (0, .ref q_this), (1, .ref q_a1), (2, .ref q_a2), (3, .int x3)]) dX3_fillFrom_54 rfl (by rw [kc_1]) rfl rfl ?_
        refine j_goto hX 8 dX3_fillFrom_57 (by decide) ?_
        refine j_lv [2, 3, 4, 5, 0] rfl ?_
        exact ih8 _ _ _ _ _ _ hg
  have hg := hu
  unfold g_X3_fillFrom at hg
  refine j_aload_n hX 0 dX3_fillFrom_0 rfl rfl ?_
  refine j_iconst hX dX3_fillFrom_1 kc_0 ?_
  refine j_put hX hW 0 3 rfl rfl hinX3 tyX3 tyX3_ok nmX3 rfl hf_X3_size_19 rfl rfl rfl rfl dX3_fillFrom_2 (ws' := (w_X3_fillFrom G q_this q_this_sort q_this_drummed q_this_heard q_a1 q_a1_place q_a1_sort q_a1_minute q_a2 q_a2_minutes v_a1_now v_a2_book v_a2_sorts v_a2_hour v_a2_law v_a2_minutesTold n_this f_this_sort f_this_drummed f_this_heard 0 f_a1_place f_a1_sort f_a1_minute f_a1_size f_a2_places f_a2_minutes)) rfl ?_
  refine j_iconst hX dX3_fillFrom_5 kc_0 ?_
  refine j_istore hX (lv' := [(4, .int 0), (0, .ref q_this), (1, .ref q_a1), (2, .ref q_a2), (3, .int x3)]) dX3_fillFrom_6 rfl rfl ?_
  refine j_lv [1, 2, 3, 4, 0] rfl ?_
  exact L8 N _ _ _ _ _ _ hg
abbrev w_X5_empty (G : jG) (q_this : Nat) (v_this_sort : Value) (v_this_mark : Value) (v_this_heard : Value) (v_this_hills : Value) (n_this : Nat) (f_this_size : Int32) (f_this_next : Int32) : va_W := [oC q_this 5 [v_this_sort, v_this_mark, .int f_this_size, v_this_heard, v_this_hills, .int f_this_next]]
def g_X5_empty (N : Nat) (n_this : Nat) (f_this_size : Int32) (f_this_next : Int32) : Option (Int32 × Int32) := some (0, 0)
set_option maxHeartbeats 4000000 in
set_option maxRecDepth 100000 in
theorem c_X5_empty (l : Launch) (G : jG) (N : Nat) (q_this : Nat) (v_this_sort : Value) (v_this_mark : Value) (v_this_heard : Value) (v_this_hills : Value) (n_this : Nat) (f_this_size : Int32) (f_this_next : Int32) (u : Int32 × Int32) (hu : g_X5_empty N n_this f_this_size f_this_next = some u) : MetRV l G yX5_empty wsX5_empty ({ frames := 0, cells := 0, slots := 0, locals := 0 } : Room) [.ref q_this] (w_X5_empty G q_this v_this_sort v_this_mark v_this_heard v_this_hills n_this f_this_size f_this_next) (w_X5_empty G q_this v_this_sort v_this_mark v_this_heard v_this_hills n_this u.1 u.2) := by
  refine met_rwv (cc := cX5_empty) (maxL := 1) (lv0 := [(0, .ref q_this)]) (by decide) rfl rfl rfl rfl (fun X hX hW hret => ?_)
  have hinX5 : ∀ w ∈ u_ws RX5 TX5 6, w ∈ wsX5_empty := by decide +kernel
  have hf_X5_next_29 : Cond.fieldLink RX5 29 (TX5 5).1 (TX5 5).2.1 (TX5 5).2.2.1 ∈ wsX5_empty := by decide +kernel
  have hf_X5_size_25 : Cond.fieldLink RX5 25 (TX5 2).1 (TX5 2).2.1 (TX5 2).2.2.1 ∈ wsX5_empty := by decide +kernel
  have hg := hu
  unfold g_X5_empty at hg
  refine j_aload_n hX 0 dX5_empty_0 rfl rfl ?_
  refine j_iconst hX dX5_empty_1 kc_0 ?_
  refine j_put hX hW 0 2 rfl rfl hinX5 tyX5 tyX5_ok nmX5 rfl hf_X5_size_25 rfl rfl rfl rfl dX5_empty_2 (ws' := (w_X5_empty G q_this v_this_sort v_this_mark v_this_heard v_this_hills n_this 0 f_this_next)) rfl ?_
  refine j_aload_n hX 0 dX5_empty_5 rfl rfl ?_
  refine j_iconst hX dX5_empty_6 kc_0 ?_
  refine j_put hX hW 0 5 rfl rfl hinX5 tyX5 tyX5_ok nmX5 rfl hf_X5_next_29 rfl rfl rfl rfl dX5_empty_7 (ws' := (w_X5_empty G q_this v_this_sort v_this_mark v_this_heard v_this_hills n_this 0 0)) rfl ?_
  cases hg
  exact hret _ _ dX5_empty_10
abbrev w_X5_takeOut (G : jG) (q_this : Nat) (q_this_sort : Nat) (q_this_mark : Nat) (q_this_heard : Nat) (q_this_hills : Nat) (v_this_next : Value) (v_this_hills_book : Value) (v_this_hills_places : Value) (v_this_hills_sorts : Value) (v_this_hills_hour : Value) (v_this_hills_minutesTold : Value) (v_this_hills_minutes : Value) (n_this : Nat) (f_this_hills_law : Int32) (f_this_sort : (Nat → Int32)) (f_this_mark : (Nat → Int32)) (f_this_size : Int32) (f_this_heard : (Nat → Int32)) : va_W := [oC q_this 5 [.ref q_this_sort, .ref q_this_mark, .int f_this_size, .ref q_this_heard, .ref q_this_hills, v_this_next], aI G q_this_sort n_this f_this_sort, aI G q_this_mark n_this f_this_mark, aI G q_this_heard n_this f_this_heard, oC q_this_hills 2 [v_this_hills_book, v_this_hills_places, v_this_hills_sorts, v_this_hills_hour, .int f_this_hills_law, v_this_hills_minutesTold, v_this_hills_minutes]]
def g_X5_takeOut_b77 (N : Nat) (n_this : Nat) (f_this_hills_law : Int32) (f_this_sort : (Nat → Int32)) (f_this_mark : (Nat → Int32)) (f_this_size : Int32) (f_this_heard : (Nat → Int32)) : Option ((Nat → Int32) × (Nat → Int32) × Int32 × (Nat → Int32)) := some (f_this_sort, f_this_mark, f_this_size - 1, f_this_heard)
def g_X5_takeOut_L19 (N : Nat) (n_this : Nat) (f_this_hills_law : Int32) (k_77 : (Nat → Int32) → (Nat → Int32) → Int32 → (Nat → Int32) → Option ((Nat → Int32) × (Nat → Int32) × Int32 × (Nat → Int32))) : Nat → (Nat → Int32) → (Nat → Int32) → Int32 → (Nat → Int32) → Int32 → Option ((Nat → Int32) × (Nat → Int32) × Int32 × (Nat → Int32))
  | 0, _, _, _, _, _ => none
  | fu + 1, f_this_sort, f_this_mark, f_this_size, f_this_heard, x2 => if (f_this_size - 1) ≤ x2 then k_77 f_this_sort f_this_mark f_this_size f_this_heard else gi (x2 + 1) n_this (gi x2 n_this (gi (x2 + 1) n_this (gi x2 n_this (gi (x2 + 1) n_this (gi x2 n_this (g_X5_takeOut_L19 N n_this f_this_hills_law k_77 fu (upd f_this_sort x2.toNatClampNeg (f_this_sort (x2 + 1 : Int32).toNatClampNeg)) (upd f_this_mark x2.toNatClampNeg (f_this_mark (x2 + 1 : Int32).toNatClampNeg)) f_this_size (upd f_this_heard x2.toNatClampNeg (f_this_heard (x2 + 1 : Int32).toNatClampNeg)) (x2 + 1)))))))
def g_X5_takeOut (N : Nat) (n_this : Nat) (f_this_hills_law : Int32) (f_this_sort : (Nat → Int32)) (f_this_mark : (Nat → Int32)) (f_this_size : Int32) (f_this_heard : (Nat → Int32)) (x1 : Int32) : Option ((Nat → Int32) × (Nat → Int32) × Int32 × (Nat → Int32)) := if f_this_hills_law = 1 then some (f_this_sort, f_this_mark, x1, f_this_heard) else g_X5_takeOut_L19 N n_this f_this_hills_law (g_X5_takeOut_b77 N n_this f_this_hills_law) N f_this_sort f_this_mark f_this_size f_this_heard x1
set_option maxHeartbeats 4000000 in
set_option maxRecDepth 100000 in
theorem c_X5_takeOut (l : Launch) (G : jG) (N : Nat) (q_this : Nat) (q_this_sort : Nat) (q_this_mark : Nat) (q_this_heard : Nat) (q_this_hills : Nat) (v_this_next : Value) (v_this_hills_book : Value) (v_this_hills_places : Value) (v_this_hills_sorts : Value) (v_this_hills_hour : Value) (v_this_hills_minutesTold : Value) (v_this_hills_minutes : Value) (n_this : Nat) (f_this_hills_law : Int32) (f_this_sort : (Nat → Int32)) (f_this_mark : (Nat → Int32)) (f_this_size : Int32) (f_this_heard : (Nat → Int32)) (x1 : Int32) (u : (Nat → Int32) × (Nat → Int32) × Int32 × (Nat → Int32)) (hu : g_X5_takeOut N n_this f_this_hills_law f_this_sort f_this_mark f_this_size f_this_heard x1 = some u) : MetRV l G yX5_takeOut wsX5_takeOut ({ frames := 0, cells := 0, slots := 0, locals := 0 } : Room) [.ref q_this, .int x1] (w_X5_takeOut G q_this q_this_sort q_this_mark q_this_heard q_this_hills v_this_next v_this_hills_book v_this_hills_places v_this_hills_sorts v_this_hills_hour v_this_hills_minutesTold v_this_hills_minutes n_this f_this_hills_law f_this_sort f_this_mark f_this_size f_this_heard) (w_X5_takeOut G q_this q_this_sort q_this_mark q_this_heard q_this_hills v_this_next v_this_hills_book v_this_hills_places v_this_hills_sorts v_this_hills_hour v_this_hills_minutesTold v_this_hills_minutes n_this f_this_hills_law u.1 u.2.1 u.2.2.1 u.2.2.2) := by
  refine met_rwv (cc := cX5_takeOut) (maxL := 3) (lv0 := [(0, .ref q_this), (1, .int x1)]) (by decide) rfl rfl rfl rfl (fun X hX hW hret => ?_)
  have hinX2 : ∀ w ∈ u_ws RX2 TX2 7, w ∈ wsX5_takeOut := by decide +kernel
  have hinX5 : ∀ w ∈ u_ws RX5 TX5 6, w ∈ wsX5_takeOut := by decide +kernel
  have hf_X2_law_58 : Cond.fieldLink RX5 58 (TX2 4).1 (TX2 4).2.1 (TX2 4).2.2.1 ∈ wsX5_takeOut := by decide +kernel
  have hf_X5_heard_22 : Cond.fieldLink RX5 22 (TX5 3).1 (TX5 3).2.1 (TX5 3).2.2.1 ∈ wsX5_takeOut := by decide +kernel
  have hf_X5_hills_9 : Cond.fieldLink RX5 9 (TX5 4).1 (TX5 4).2.1 (TX5 4).2.2.1 ∈ wsX5_takeOut := by decide +kernel
  have hf_X5_mark_19 : Cond.fieldLink RX5 19 (TX5 1).1 (TX5 1).2.1 (TX5 1).2.2.1 ∈ wsX5_takeOut := by decide +kernel
  have hf_X5_size_25 : Cond.fieldLink RX5 25 (TX5 2).1 (TX5 2).2.1 (TX5 2).2.2.1 ∈ wsX5_takeOut := by decide +kernel
  have hf_X5_sort_15 : Cond.fieldLink RX5 15 (TX5 0).1 (TX5 0).2.1 (TX5 0).2.2.1 ∈ wsX5_takeOut := by decide +kernel
  have B77 : ∀ (f_this_sort : (Nat → Int32)) (f_this_mark : (Nat → Int32)) (f_this_size : Int32) (f_this_heard : (Nat → Int32)), g_X5_takeOut_b77 N n_this f_this_hills_law f_this_sort f_this_mark f_this_size f_this_heard = some u → J X 0 0 (w_X5_takeOut G q_this q_this_sort q_this_mark q_this_heard q_this_hills v_this_next v_this_hills_book v_this_hills_places v_this_hills_sorts v_this_hills_hour v_this_hills_minutesTold v_this_hills_minutes n_this f_this_hills_law f_this_sort f_this_mark f_this_size f_this_heard) 77 [(0, .ref q_this)] [] := by
    intro f_this_sort f_this_mark f_this_size f_this_heard hg
    unfold g_X5_takeOut_b77 at hg
    refine j_aload_n hX 0 dX5_takeOut_77 rfl rfl ?_
    refine j_dup hX dX5_takeOut_78 rfl ?_
    refine j_get hX 0 2 rfl rfl hinX5 rfl hf_X5_size_25 rfl dX5_takeOut_79 ?_
    refine j_iconst hX dX5_takeOut_82 kc_1 ?_
    refine j_isub hX dX5_takeOut_83 ?_
    refine j_put hX hW 0 2 rfl rfl hinX5 tyX5 tyX5_ok nmX5 rfl hf_X5_size_25 rfl rfl rfl rfl dX5_takeOut_84 (ws' := (w_X5_takeOut G q_this q_this_sort q_this_mark q_this_heard q_this_hills v_this_next v_this_hills_book v_this_hills_places v_this_hills_sorts v_this_hills_hour v_this_hills_minutesTold v_this_hills_minutes n_this f_this_hills_law f_this_sort f_this_mark (f_this_size - 1) f_this_heard)) rfl ?_
    cases hg
    exact hret _ _ dX5_takeOut_87
  have L19 : ∀ (fu19 : Nat), ∀ (f_this_sort : (Nat → Int32)) (f_this_mark : (Nat → Int32)) (f_this_size : Int32) (f_this_heard : (Nat → Int32)) (x2 : Int32), g_X5_takeOut_L19 N n_this f_this_hills_law (g_X5_takeOut_b77 N n_this f_this_hills_law) fu19 f_this_sort f_this_mark f_this_size f_this_heard x2 = some u → J X 0 0 (w_X5_takeOut G q_this q_this_sort q_this_mark q_this_heard q_this_hills v_this_next v_this_hills_book v_this_hills_places v_this_hills_sorts v_this_hills_hour v_this_hills_minutesTold v_this_hills_minutes n_this f_this_hills_law f_this_sort f_this_mark f_this_size f_this_heard) 19 [(0, .ref q_this), (2, .int x2)] [] := by
    intro fu19
    induction fu19 with
    | zero => intro f_this_sort f_this_mark f_this_size f_this_heard x2 hg; exact nomatch hg
    | succ fu19 ih19 =>
      intro f_this_sort f_this_mark f_this_size f_this_heard x2 hg
      unfold g_X5_takeOut_L19 at hg
      refine j_iload_n hX 1 dX5_takeOut_19 rfl rfl ?_
      refine j_aload_n hX 0 dX5_takeOut_20 rfl rfl ?_
      refine j_get hX 0 2 rfl rfl hinX5 rfl hf_X5_size_25 rfl dX5_takeOut_21 ?_
      refine j_iconst hX dX5_takeOut_24 kc_1 ?_
      refine j_isub hX dX5_takeOut_25 ?_
      refine j_icmp_ge hX 77 hg dX5_takeOut_26 (by decide) (fun hg => ?_) (fun hg => ?_)
      · refine j_lv [0] rfl ?_
        exact B77 _ _ _ _ hg
      · refine j_aload_n hX 0 dX5_takeOut_29 rfl rfl ?_
        refine j_get hX 0 0 rfl rfl hinX5 rfl hf_X5_sort_15 rfl dX5_takeOut_30 ?_
        refine j_iload_n hX 1 dX5_takeOut_33 rfl rfl ?_
        refine j_aload_n hX 0 dX5_takeOut_34 rfl rfl ?_
        refine j_get hX 0 0 rfl rfl hinX5 rfl hf_X5_sort_15 rfl dX5_takeOut_35 ?_
        refine j_iload_n hX 1 dX5_takeOut_38 rfl rfl ?_
        refine j_iconst hX dX5_takeOut_39 kc_1 ?_
        refine j_iadd hX dX5_takeOut_40 ?_
        refine j_iald hX 1 rfl hg dX5_takeOut_41 (fun hg => ?_)
        refine j_iast hX hW 1 rfl hg dX5_takeOut_42 (ws' := (w_X5_takeOut G q_this q_this_sort q_this_mark q_this_heard q_this_hills v_this_next v_this_hills_book v_this_hills_places v_this_hills_sorts v_this_hills_hour v_this_hills_minutesTold v_this_hills_minutes n_this f_this_hills_law (upd f_this_sort x2.toNatClampNeg (f_this_sort (x2 + 1 : Int32).toNatClampNeg)) f_this_mark f_this_size f_this_heard)) rfl (fun hg => ?_)
        refine j_aload_n hX 0 dX5_takeOut_43 rfl rfl ?_
        refine j_get hX 0 1 rfl rfl hinX5 rfl hf_X5_mark_19 rfl dX5_takeOut_44 ?_
        refine j_iload_n hX 1 dX5_takeOut_47 rfl rfl ?_
        refine j_aload_n hX 0 dX5_takeOut_48 rfl rfl ?_
        refine j_get hX 0 1 rfl rfl hinX5 rfl hf_X5_mark_19 rfl dX5_takeOut_49 ?_
        refine j_iload_n hX 1 dX5_takeOut_52 rfl rfl ?_
        refine j_iconst hX dX5_takeOut_53 kc_1 ?_
        refine j_iadd hX dX5_takeOut_54 ?_
        refine j_iald hX 2 rfl hg dX5_takeOut_55 (fun hg => ?_)
        refine j_iast hX hW 2 rfl hg dX5_takeOut_56 (ws' := (w_X5_takeOut G q_this q_this_sort q_this_mark q_this_heard q_this_hills v_this_next v_this_hills_book v_this_hills_places v_this_hills_sorts v_this_hills_hour v_this_hills_minutesTold v_this_hills_minutes n_this f_this_hills_law (upd f_this_sort x2.toNatClampNeg (f_this_sort (x2 + 1 : Int32).toNatClampNeg)) (upd f_this_mark x2.toNatClampNeg (f_this_mark (x2 + 1 : Int32).toNatClampNeg)) f_this_size f_this_heard)) rfl (fun hg => ?_)
        refine j_aload_n hX 0 dX5_takeOut_57 rfl rfl ?_
        refine j_get hX 0 3 rfl rfl hinX5 rfl hf_X5_heard_22 rfl dX5_takeOut_58 ?_
        refine j_iload_n hX 1 dX5_takeOut_61 rfl rfl ?_
        refine j_aload_n hX 0 dX5_takeOut_62 rfl rfl ?_
        refine j_get hX 0 3 rfl rfl hinX5 rfl hf_X5_heard_22 rfl dX5_takeOut_63 ?_
        refine j_iload_n hX 1 dX5_takeOut_66 rfl rfl ?_
        refine j_iconst hX dX5_takeOut_67 kc_1 ?_
        refine j_iadd hX dX5_takeOut_68 ?_
        refine j_iald hX 3 rfl hg dX5_takeOut_69 (fun hg => ?_)
        refine j_iast hX hW 3 rfl hg dX5_takeOut_70 (ws' := (w_X5_takeOut G q_this q_this_sort q_this_mark q_this_heard q_this_hills v_this_next v_this_hills_book v_this_hills_places v_this_hills_sorts v_this_hills_hour v_this_hills_minutesTold v_this_hills_minutes n_this f_this_hills_law (upd f_this_sort x2.toNatClampNeg (f_this_sort (x2 + 1 : Int32).toNatClampNeg)) (upd f_this_mark x2.toNatClampNeg (f_this_mark (x2 + 1 : Int32).toNatClampNeg)) f_this_size (upd f_this_heard x2.toNatClampNeg (f_this_heard (x2 + 1 : Int32).toNatClampNeg)))) rfl (fun hg => ?_)
        refine j_iinc hX 1 (v := x2 + 1) (lv' := [(2, .int (x2 + 1)), (0, .ref q_this)]) dX5_takeOut_71 rfl (by rw [kc_1]) rfl rfl ?_
        refine j_goto hX 19 dX5_takeOut_74 (by decide) ?_
        refine j_lv [1, 0] rfl ?_
        exact ih19 _ _ _ _ _ hg
  have hg := hu
  unfold g_X5_takeOut at hg
  refine j_aload_n hX 0 dX5_takeOut_0 rfl rfl ?_
  refine j_get hX 0 4 rfl rfl hinX5 rfl hf_X5_hills_9 rfl dX5_takeOut_1 ?_
  refine j_get hX 4 4 rfl rfl hinX2 rfl hf_X2_law_58 rfl dX5_takeOut_4 ?_
  refine j_iconst hX dX5_takeOut_7 kc_1 ?_
  refine j_icmp_ne hX 17 hg dX5_takeOut_8 (by decide) (fun hg => ?_) (fun hg => ?_)
  · refine j_aload_n hX 0 dX5_takeOut_11 rfl rfl ?_
    refine j_iload_n hX 1 dX5_takeOut_12 rfl rfl ?_
    refine j_put hX hW 0 2 rfl rfl hinX5 tyX5 tyX5_ok nmX5 rfl hf_X5_size_25 rfl rfl rfl rfl dX5_takeOut_13 (ws' := (w_X5_takeOut G q_this q_this_sort q_this_mark q_this_heard q_this_hills v_this_next v_this_hills_book v_this_hills_places v_this_hills_sorts v_this_hills_hour v_this_hills_minutesTold v_this_hills_minutes n_this f_this_hills_law f_this_sort f_this_mark x1 f_this_heard)) rfl ?_
    cases hg
    exact hret _ _ dX5_takeOut_16
  · refine j_iload_n hX 1 dX5_takeOut_17 rfl rfl ?_
    refine j_istore_n hX (lv' := [(2, .int x1), (0, .ref q_this), (1, .int x1)]) dX5_takeOut_18 rfl rfl rfl ?_
    refine j_lv [1, 0] rfl ?_
    exact L19 N _ _ _ _ _ hg
abbrev w_X5_unsaidBy (G : jG) (q_this : Nat) (q_this_sort : Nat) (q_this_heard : Nat) (q_this_hills : Nat) (v_this_mark : Value) (v_this_next : Value) (v_this_hills_book : Value) (v_this_hills_places : Value) (v_this_hills_sorts : Value) (v_this_hills_minutesTold : Value) (v_this_hills_minutes : Value) (n_this : Nat) (f_this_hills_hour : Int32) (f_this_hills_law : Int32) (f_this_sort : (Nat → Int32)) (f_this_size : Int32) (f_this_heard : (Nat → Int32)) : va_W := [oC q_this 5 [.ref q_this_sort, v_this_mark, .int f_this_size, .ref q_this_heard, .ref q_this_hills, v_this_next], aI G q_this_sort n_this f_this_sort, aI G q_this_heard n_this f_this_heard, oC q_this_hills 2 [v_this_hills_book, v_this_hills_places, v_this_hills_sorts, .int f_this_hills_hour, .int f_this_hills_law, v_this_hills_minutesTold, v_this_hills_minutes]]
def g_X5_unsaidBy_b93 (N : Nat) (n_this : Nat) (f_this_hills_hour : Int32) (f_this_hills_law : Int32) (f_this_sort : (Nat → Int32)) (f_this_size : Int32) (f_this_heard : (Nat → Int32)) (rec_31 : Int32 → Int32 → Int32 → Int32 → Int32 → Int32 → Option (Int32)) (x1 : Int32) (x2 : Int32) (x3 : Int32) (x4 : Int32) (x5 : Int32) (x6 : Int32) : Option (Int32) := rec_31 x1 x2 x3 x4 x5 (x6 + (-1))
def g_X5_unsaidBy_b82 (N : Nat) (n_this : Nat) (f_this_hills_hour : Int32) (f_this_hills_law : Int32) (f_this_sort : (Nat → Int32)) (f_this_size : Int32) (f_this_heard : (Nat → Int32)) (rec_31 : Int32 → Int32 → Int32 → Int32 → Int32 → Int32 → Option (Int32)) (x1 : Int32) (x2 : Int32) (x3 : Int32) (x4 : Int32) (x6 : Int32) (s0 : Int32) : Option (Int32) := if x4 = x3 then some s0 else g_X5_unsaidBy_b93 N n_this f_this_hills_hour f_this_hills_law f_this_sort f_this_size f_this_heard rec_31 x1 x2 x3 x4 s0 x6
def g_X5_unsaidBy_L31 (N : Nat) (n_this : Nat) (f_this_hills_hour : Int32) (f_this_hills_law : Int32) (f_this_sort : (Nat → Int32)) (f_this_size : Int32) (f_this_heard : (Nat → Int32)) : Nat → Int32 → Int32 → Int32 → Int32 → Int32 → Int32 → Option (Int32)
  | 0, _, _, _, _, _, _ => none
  | fu + 1, x1, x2, x3, x4, x5, x6 => if x6 < 0 then some (-1) else gi x6 n_this (if f_this_hills_hour ≤ (x2 - (f_this_heard x6.toNatClampNeg)) then some (-1) else gi x6 n_this (if (f_this_sort x6.toNatClampNeg) = x1 then if (x4 + 1) = 1 then g_X5_unsaidBy_b82 N n_this f_this_hills_hour f_this_hills_law f_this_sort f_this_size f_this_heard (g_X5_unsaidBy_L31 N n_this f_this_hills_hour f_this_hills_law f_this_sort f_this_size f_this_heard fu) x1 x2 x3 (x4 + 1) x6 x6 else g_X5_unsaidBy_b82 N n_this f_this_hills_hour f_this_hills_law f_this_sort f_this_size f_this_heard (g_X5_unsaidBy_L31 N n_this f_this_hills_hour f_this_hills_law f_this_sort f_this_size f_this_heard fu) x1 x2 x3 (x4 + 1) x6 x5 else g_X5_unsaidBy_b93 N n_this f_this_hills_hour f_this_hills_law f_this_sort f_this_size f_this_heard (g_X5_unsaidBy_L31 N n_this f_this_hills_hour f_this_hills_law f_this_sort f_this_size f_this_heard fu) x1 x2 x3 x4 x5 x6))
def g_X5_unsaidBy_b16 (N : Nat) (n_this : Nat) (f_this_hills_hour : Int32) (f_this_hills_law : Int32) (f_this_sort : (Nat → Int32)) (f_this_size : Int32) (f_this_heard : (Nat → Int32)) (x1 : Int32) (x2 : Int32) (s0 : Int32) : Option (Int32) := g_X5_unsaidBy_L31 N n_this f_this_hills_hour f_this_hills_law f_this_sort f_this_size f_this_heard N x1 x2 s0 0 (-1) (f_this_size - 1)
def g_X5_unsaidBy (N : Nat) (n_this : Nat) (f_this_hills_hour : Int32) (f_this_hills_law : Int32) (f_this_sort : (Nat → Int32)) (f_this_size : Int32) (f_this_heard : (Nat → Int32)) (x1 : Int32) (x2 : Int32) : Option (Int32) := if f_this_hills_law = 2 then g_X5_unsaidBy_b16 N n_this f_this_hills_hour f_this_hills_law f_this_sort f_this_size f_this_heard x1 x2 2 else g_X5_unsaidBy_b16 N n_this f_this_hills_hour f_this_hills_law f_this_sort f_this_size f_this_heard x1 x2 1
set_option maxHeartbeats 4000000 in
set_option maxRecDepth 100000 in
theorem c_X5_unsaidBy (l : Launch) (G : jG) (N : Nat) (q_this : Nat) (q_this_sort : Nat) (q_this_heard : Nat) (q_this_hills : Nat) (v_this_mark : Value) (v_this_next : Value) (v_this_hills_book : Value) (v_this_hills_places : Value) (v_this_hills_sorts : Value) (v_this_hills_minutesTold : Value) (v_this_hills_minutes : Value) (n_this : Nat) (f_this_hills_hour : Int32) (f_this_hills_law : Int32) (f_this_sort : (Nat → Int32)) (f_this_size : Int32) (f_this_heard : (Nat → Int32)) (x1 : Int32) (x2 : Int32) (u : Int32) (hu : g_X5_unsaidBy N n_this f_this_hills_hour f_this_hills_law f_this_sort f_this_size f_this_heard x1 x2 = some u) : MetRO l G yX5_unsaidBy wsX5_unsaidBy ({ frames := 0, cells := 0, slots := 0, locals := 0 } : Room) [.ref q_this, .int x1, .int x2] (w_X5_unsaidBy G q_this q_this_sort q_this_heard q_this_hills v_this_mark v_this_next v_this_hills_book v_this_hills_places v_this_hills_sorts v_this_hills_minutesTold v_this_hills_minutes n_this f_this_hills_hour f_this_hills_law f_this_sort f_this_size f_this_heard) u := by
  refine met_roi (cc := cX5_unsaidBy) (maxL := 7) (lv0 := [(0, .ref q_this), (1, .int x1), (2, .int x2)]) (by decide) rfl rfl rfl rfl (fun X hX hret => ?_)
  have hinX2 : ∀ w ∈ u_ws RX2 TX2 7, w ∈ wsX5_unsaidBy := by decide +kernel
  have hinX5 : ∀ w ∈ u_ws RX5 TX5 6, w ∈ wsX5_unsaidBy := by decide +kernel
  have hf_X2_hour_63 : Cond.fieldLink RX5 63 (TX2 3).1 (TX2 3).2.1 (TX2 3).2.2.1 ∈ wsX5_unsaidBy := by decide +kernel
  have hf_X2_law_58 : Cond.fieldLink RX5 58 (TX2 4).1 (TX2 4).2.1 (TX2 4).2.2.1 ∈ wsX5_unsaidBy := by decide +kernel
  have hf_X5_heard_22 : Cond.fieldLink RX5 22 (TX5 3).1 (TX5 3).2.1 (TX5 3).2.2.1 ∈ wsX5_unsaidBy := by decide +kernel
  have hf_X5_hills_9 : Cond.fieldLink RX5 9 (TX5 4).1 (TX5 4).2.1 (TX5 4).2.2.1 ∈ wsX5_unsaidBy := by decide +kernel
  have hf_X5_size_25 : Cond.fieldLink RX5 25 (TX5 2).1 (TX5 2).2.1 (TX5 2).2.2.1 ∈ wsX5_unsaidBy := by decide +kernel
  have hf_X5_sort_15 : Cond.fieldLink RX5 15 (TX5 0).1 (TX5 0).2.1 (TX5 0).2.2.1 ∈ wsX5_unsaidBy := by decide +kernel
  have L31 : ∀ (fu31 : Nat), ∀ (x1 : Int32) (x2 : Int32) (x3 : Int32) (x4 : Int32) (x5 : Int32) (x6 : Int32), g_X5_unsaidBy_L31 N n_this f_this_hills_hour f_this_hills_law f_this_sort f_this_size f_this_heard fu31 x1 x2 x3 x4 x5 x6 = some u → J X 0 0 (w_X5_unsaidBy G q_this q_this_sort q_this_heard q_this_hills v_this_mark v_this_next v_this_hills_book v_this_hills_places v_this_hills_sorts v_this_hills_minutesTold v_this_hills_minutes n_this f_this_hills_hour f_this_hills_law f_this_sort f_this_size f_this_heard) 31 [(0, .ref q_this), (1, .int x1), (2, .int x2), (3, .int x3), (4, .int x4), (5, .int x5), (6, .int x6)] [] := by
    intro fu31
    induction fu31 with
    | zero => intro x1 x2 x3 x4 x5 x6 hg; exact nomatch hg
    | succ fu31 ih31 =>
      have B93 : ∀ (x1 : Int32) (x2 : Int32) (x3 : Int32) (x4 : Int32) (x5 : Int32) (x6 : Int32), g_X5_unsaidBy_b93 N n_this f_this_hills_hour f_this_hills_law f_this_sort f_this_size f_this_heard (g_X5_unsaidBy_L31 N n_this f_this_hills_hour f_this_hills_law f_this_sort f_this_size f_this_heard fu31) x1 x2 x3 x4 x5 x6 = some u → J X 0 0 (w_X5_unsaidBy G q_this q_this_sort q_this_heard q_this_hills v_this_mark v_this_next v_this_hills_book v_this_hills_places v_this_hills_sorts v_this_hills_minutesTold v_this_hills_minutes n_this f_this_hills_hour f_this_hills_law f_this_sort f_this_size f_this_heard) 93 [(0, .ref q_this), (1, .int x1), (2, .int x2), (3, .int x3), (4, .int x4), (5, .int x5), (6, .int x6)] [] := by
        intro x1 x2 x3 x4 x5 x6 hg
        unfold g_X5_unsaidBy_b93 at hg
        refine j_iinc hX 6 (v := x6 + (-1)) (lv' := [(6, .int (x6 + (-1))), (0, .ref q_this), (1, .int x1), (2, .int x2), (3, .int x3), (4, .int x4), (5, .int x5)]) dX5_unsaidBy_93 rfl (by rw [kc_m1]) rfl rfl ?_
        refine j_goto hX 31 dX5_unsaidBy_96 (by decide) ?_
        refine j_lv [1, 2, 3, 4, 5, 6, 0] rfl ?_
        exact ih31 _ _ _ _ _ _ hg
      have B82 : ∀ (x1 : Int32) (x2 : Int32) (x3 : Int32) (x4 : Int32) (x6 : Int32) (s0 : Int32), g_X5_unsaidBy_b82 N n_this f_this_hills_hour f_this_hills_law f_this_sort f_this_size f_this_heard (g_X5_unsaidBy_L31 N n_this f_this_hills_hour f_this_hills_law f_this_sort f_this_size f_this_heard fu31) x1 x2 x3 x4 x6 s0 = some u → J X 0 0 (w_X5_unsaidBy G q_this q_this_sort q_this_heard q_this_hills v_this_mark v_this_next v_this_hills_book v_this_hills_places v_this_hills_sorts v_this_hills_minutesTold v_this_hills_minutes n_this f_this_hills_hour f_this_hills_law f_this_sort f_this_size f_this_heard) 82 [(0, .ref q_this), (1, .int x1), (2, .int x2), (3, .int x3), (4, .int x4), (6, .int x6)] [.int s0] := by
        intro x1 x2 x3 x4 x6 s0 hg
        unfold g_X5_unsaidBy_b82 at hg
        refine j_istore hX (lv' := [(5, .int s0), (0, .ref q_this), (1, .int x1), (2, .int x2), (3, .int x3), (4, .int x4), (6, .int x6)]) dX5_unsaidBy_82 rfl rfl ?_
        refine j_iload hX 5 dX5_unsaidBy_84 rfl ?_
        refine j_iload_n hX 4 dX5_unsaidBy_86 rfl rfl ?_
        refine j_icmp_ne hX 93 hg dX5_unsaidBy_87 (by decide) (fun hg => ?_) (fun hg => ?_)
        · refine j_iload hX 0 dX5_unsaidBy_90 rfl ?_
          cases hg
          exact hret _ _ dX5_unsaidBy_92
        · refine j_lv [1, 2, 3, 4, 5, 0, 6] rfl ?_
          exact B93 _ _ _ _ _ _ hg
      intro x1 x2 x3 x4 x5 x6 hg
      unfold g_X5_unsaidBy_L31 at hg
      refine j_iload hX 6 dX5_unsaidBy_31 rfl ?_
      refine j_if_lt hX 99 hg dX5_unsaidBy_33 (by decide) (fun hg => ?_) (fun hg => ?_)
      · refine j_iconst hX dX5_unsaidBy_99 kc_m1 ?_
        cases hg
        exact hret _ _ dX5_unsaidBy_100
      · refine j_iload_n hX 2 dX5_unsaidBy_36 rfl rfl ?_
        refine j_aload_n hX 0 dX5_unsaidBy_37 rfl rfl ?_
        refine j_get hX 0 3 rfl rfl hinX5 rfl hf_X5_heard_22 rfl dX5_unsaidBy_38 ?_
        refine j_iload hX 6 dX5_unsaidBy_41 rfl ?_
        refine j_iald hX 2 rfl hg dX5_unsaidBy_43 (fun hg => ?_)
        refine j_isub hX dX5_unsaidBy_44 ?_
        refine j_aload_n hX 0 dX5_unsaidBy_45 rfl rfl ?_
        refine j_get hX 0 4 rfl rfl hinX5 rfl hf_X5_hills_9 rfl dX5_unsaidBy_46 ?_
        refine j_get hX 3 3 rfl rfl hinX2 rfl hf_X2_hour_63 rfl dX5_unsaidBy_49 ?_
        refine j_icmp_ge hX 99 hg dX5_unsaidBy_52 (by decide) (fun hg => ?_) (fun hg => ?_)
        · refine j_iconst hX dX5_unsaidBy_99 kc_m1 ?_
          cases hg
          exact hret _ _ dX5_unsaidBy_100
        · refine j_aload_n hX 0 dX5_unsaidBy_55 rfl rfl ?_
          refine j_get hX 0 0 rfl rfl hinX5 rfl hf_X5_sort_15 rfl dX5_unsaidBy_56 ?_
          refine j_iload hX 6 dX5_unsaidBy_59 rfl ?_
          refine j_iald hX 1 rfl hg dX5_unsaidBy_61 (fun hg => ?_)
          refine j_iload_n hX 1 dX5_unsaidBy_62 rfl rfl ?_
          refine j_icmp_ne hX 93 hg dX5_unsaidBy_63 (by decide) (fun hg => ?_) (fun hg => ?_)
          · refine j_iinc hX 4 (v := x4 + 1) (lv' := [(4, .int (x4 + 1)), (0, .ref q_this), (1, .int x1), (2, .int x2), (3, .int x3), (5, .int x5), (6, .int x6)]) dX5_unsaidBy_66 rfl (by rw [kc_1]) rfl rfl ?_
            refine j_iload hX 0 dX5_unsaidBy_69 rfl ?_
            refine j_iconst hX dX5_unsaidBy_71 kc_1 ?_
            refine j_icmp_ne hX 80 hg dX5_unsaidBy_72 (by decide) (fun hg => ?_) (fun hg => ?_)
            · refine j_iload hX 6 dX5_unsaidBy_75 rfl ?_
              refine j_goto hX 82 dX5_unsaidBy_77 (by decide) ?_
              refine j_lv [1, 2, 3, 4, 0, 6] rfl ?_
              exact B82 _ _ _ _ _ _ hg
            · refine j_iload hX 5 dX5_unsaidBy_80 rfl ?_
              refine j_lv [1, 2, 3, 4, 0, 6] rfl ?_
              exact B82 _ _ _ _ _ _ hg
          · exact B93 _ _ _ _ _ _ hg
  have B16 : ∀ (x1 : Int32) (x2 : Int32) (s0 : Int32), g_X5_unsaidBy_b16 N n_this f_this_hills_hour f_this_hills_law f_this_sort f_this_size f_this_heard x1 x2 s0 = some u → J X 0 0 (w_X5_unsaidBy G q_this q_this_sort q_this_heard q_this_hills v_this_mark v_this_next v_this_hills_book v_this_hills_places v_this_hills_sorts v_this_hills_minutesTold v_this_hills_minutes n_this f_this_hills_hour f_this_hills_law f_this_sort f_this_size f_this_heard) 16 [(0, .ref q_this), (1, .int x1), (2, .int x2)] [.int s0] := by
    intro x1 x2 s0 hg
    unfold g_X5_unsaidBy_b16 at hg
    refine j_istore_n hX (lv' := [(3, .int s0), (0, .ref q_this), (1, .int x1), (2, .int x2)]) dX5_unsaidBy_16 rfl rfl rfl ?_
    refine j_iconst hX dX5_unsaidBy_17 kc_0 ?_
    refine j_istore hX (lv' := [(4, .int 0), (3, .int s0), (0, .ref q_this), (1, .int x1), (2, .int x2)]) dX5_unsaidBy_18 rfl rfl ?_
    refine j_iconst hX dX5_unsaidBy_20 kc_m1 ?_
    refine j_istore hX (lv' := [(5, .int (-1)), (4, .int 0), (3, .int s0), (0, .ref q_this), (1, .int x1), (2, .int x2)]) dX5_unsaidBy_21 rfl rfl ?_
    refine j_aload_n hX 3 dX5_unsaidBy_23 rfl rfl ?_
    refine j_get hX 0 2 rfl rfl hinX5 rfl hf_X5_size_25 rfl dX5_unsaidBy_24 ?_
    refine j_iconst hX dX5_unsaidBy_27 kc_1 ?_
    refine j_isub hX dX5_unsaidBy_28 ?_
    refine j_istore hX (lv' := [(6, .int (f_this_size - 1)), (5, .int (-1)), (4, .int 0), (3, .int s0), (0, .ref q_this), (1, .int x1), (2, .int x2)]) dX5_unsaidBy_29 rfl rfl ?_
    refine j_lv [4, 5, 6, 3, 2, 1, 0] rfl ?_
    exact L31 N _ _ _ _ _ _ hg
  have hg := hu
  unfold g_X5_unsaidBy at hg
  refine j_aload_n hX 0 dX5_unsaidBy_0 rfl rfl ?_
  refine j_get hX 0 4 rfl rfl hinX5 rfl hf_X5_hills_9 rfl dX5_unsaidBy_1 ?_
  refine j_get hX 3 4 rfl rfl hinX2 rfl hf_X2_law_58 rfl dX5_unsaidBy_4 ?_
  refine j_iconst hX dX5_unsaidBy_7 kc_2 ?_
  refine j_icmp_ne hX 15 hg dX5_unsaidBy_8 (by decide) (fun hg => ?_) (fun hg => ?_)
  · refine j_iconst hX dX5_unsaidBy_11 kc_2 ?_
    refine j_goto hX 16 dX5_unsaidBy_12 (by decide) ?_
    exact B16 _ _ _ hg
  · refine j_iconst hX dX5_unsaidBy_15 kc_1 ?_
    exact B16 _ _ _ hg
abbrev w_X5_hear (G : jG) (q_this : Nat) (q_this_sort : Nat) (q_this_mark : Nat) (q_this_heard : Nat) (q_this_hills : Nat) (v_this_next : Value) (v_this_hills_book : Value) (v_this_hills_places : Value) (v_this_hills_sorts : Value) (v_this_hills_minutesTold : Value) (v_this_hills_minutes : Value) (n_this : Nat) (f_this_hills_hour : Int32) (f_this_hills_law : Int32) (f_this_sort : (Nat → Int32)) (f_this_mark : (Nat → Int32)) (f_this_size : Int32) (f_this_heard : (Nat → Int32)) : va_W := [oC q_this 5 [.ref q_this_sort, .ref q_this_mark, .int f_this_size, .ref q_this_heard, .ref q_this_hills, v_this_next], aI G q_this_sort n_this f_this_sort, aI G q_this_mark n_this f_this_mark, aI G q_this_heard n_this f_this_heard, oC q_this_hills 2 [v_this_hills_book, v_this_hills_places, v_this_hills_sorts, .int f_this_hills_hour, .int f_this_hills_law, v_this_hills_minutesTold, v_this_hills_minutes]]
def g_X5_hear (N : Nat) (n_this : Nat) (f_this_hills_hour : Int32) (f_this_hills_law : Int32) (f_this_sort : (Nat → Int32)) (f_this_mark : (Nat → Int32)) (f_this_size : Int32) (f_this_heard : (Nat → Int32)) (x1 : Int32) (x2 : Int32) (x3 : Int32) : Option ((Nat → Int32) × (Nat → Int32) × Int32 × (Nat → Int32)) := (g_X5_unsaidBy N n_this f_this_hills_hour f_this_hills_law f_this_sort f_this_size f_this_heard x1 x2).bind fun v3 => if v3 < 0 then if (nI n_this) ≤ f_this_size then some (f_this_sort, f_this_mark, f_this_size, f_this_heard) else gi f_this_size n_this (gi f_this_size n_this (gi f_this_size n_this (some (upd f_this_sort f_this_size.toNatClampNeg x1, upd f_this_mark f_this_size.toNatClampNeg x3, f_this_size + 1, upd f_this_heard f_this_size.toNatClampNeg x2)))) else (g_X5_takeOut N n_this f_this_hills_law f_this_sort f_this_mark f_this_size f_this_heard v3).bind fun v16 => some (v16.1, v16.2.1, v16.2.2.1, v16.2.2.2)
set_option maxHeartbeats 4000000 in
set_option maxRecDepth 100000 in
theorem c_X5_hear (l : Launch) (G : jG) (N : Nat) (q_this : Nat) (q_this_sort : Nat) (q_this_mark : Nat) (q_this_heard : Nat) (q_this_hills : Nat) (v_this_next : Value) (v_this_hills_book : Value) (v_this_hills_places : Value) (v_this_hills_sorts : Value) (v_this_hills_minutesTold : Value) (v_this_hills_minutes : Value) (n_this : Nat) (f_this_hills_hour : Int32) (f_this_hills_law : Int32) (f_this_sort : (Nat → Int32)) (f_this_mark : (Nat → Int32)) (f_this_size : Int32) (f_this_heard : (Nat → Int32)) (x1 : Int32) (x2 : Int32) (x3 : Int32) (u : (Nat → Int32) × (Nat → Int32) × Int32 × (Nat → Int32)) (hu : g_X5_hear N n_this f_this_hills_hour f_this_hills_law f_this_sort f_this_mark f_this_size f_this_heard x1 x2 x3 = some u) : MetRV l G yX5_hear wsX5_hear ({ frames := 1, cells := 0, slots := 0, locals := 26 } : Room) [.ref q_this, .int x1, .int x2, .int x3] (w_X5_hear G q_this q_this_sort q_this_mark q_this_heard q_this_hills v_this_next v_this_hills_book v_this_hills_places v_this_hills_sorts v_this_hills_minutesTold v_this_hills_minutes n_this f_this_hills_hour f_this_hills_law f_this_sort f_this_mark f_this_size f_this_heard) (w_X5_hear G q_this q_this_sort q_this_mark q_this_heard q_this_hills v_this_next v_this_hills_book v_this_hills_places v_this_hills_sorts v_this_hills_minutesTold v_this_hills_minutes n_this f_this_hills_hour f_this_hills_law u.1 u.2.1 u.2.2.1 u.2.2.2) := by
  refine met_rwv (cc := cX5_hear) (maxL := 5) (lv0 := [(0, .ref q_this), (1, .int x1), (2, .int x2), (3, .int x3)]) (by decide) rfl rfl rfl rfl (fun X hX hW hret => ?_)
  have hinX5 : ∀ w ∈ u_ws RX5 TX5 6, w ∈ wsX5_hear := by decide +kernel
  have hf_X5_heard_22 : Cond.fieldLink RX5 22 (TX5 3).1 (TX5 3).2.1 (TX5 3).2.2.1 ∈ wsX5_hear := by decide +kernel
  have hf_X5_mark_19 : Cond.fieldLink RX5 19 (TX5 1).1 (TX5 1).2.1 (TX5 1).2.2.1 ∈ wsX5_hear := by decide +kernel
  have hf_X5_size_25 : Cond.fieldLink RX5 25 (TX5 2).1 (TX5 2).2.1 (TX5 2).2.2.1 ∈ wsX5_hear := by decide +kernel
  have hf_X5_sort_15 : Cond.fieldLink RX5 15 (TX5 0).1 (TX5 0).2.1 (TX5 0).2.2.1 ∈ wsX5_hear := by decide +kernel
  have hg := hu
  unfold g_X5_hear at hg
  refine j_aload_n hX 0 dX5_hear_0 rfl rfl ?_
  refine j_iload_n hX 1 dX5_hear_1 rfl rfl ?_
  refine j_iload_n hX 2 dX5_hear_2 rfl rfl ?_
  refine j_vRO hX (r := fun v => v) [.int x1, .int x2] hg (fun v hv => c_X5_unsaidBy l G N q_this q_this_sort q_this_heard q_this_hills (.ref q_this_mark) v_this_next v_this_hills_book v_this_hills_places v_this_hills_sorts v_this_hills_minutesTold v_this_hills_minutes n_this f_this_hills_hour f_this_hills_law f_this_sort f_this_size f_this_heard x1 x2 v hv) gX5_hear_X5_unsaidBy rfl ⟨rfl, rfl⟩ ⟨rfl, by decide, by decide, rfl⟩ rfl rfl [0, 1, 3, 4] rfl rfl rfl dX5_hear_3 rfl rfl ⟨Nat.zero_le _, Nat.zero_le _⟩ (fun v3 hg => ?_)
  refine j_istore hX (lv' := [(4, .int v3), (0, .ref q_this), (1, .int x1), (2, .int x2), (3, .int x3)]) dX5_hear_6 rfl rfl ?_
  refine j_iload hX 0 dX5_hear_8 rfl ?_
  refine j_if_lt hX 22 hg dX5_hear_10 (by decide) (fun hg => ?_) (fun hg => ?_)
  · refine j_aload_n hX 1 dX5_hear_22 rfl rfl ?_
    refine j_get hX 0 2 rfl rfl hinX5 rfl hf_X5_size_25 rfl dX5_hear_23 ?_
    refine j_aload_n hX 1 dX5_hear_26 rfl rfl ?_
    refine j_get hX 0 0 rfl rfl hinX5 rfl hf_X5_sort_15 rfl dX5_hear_27 ?_
    refine j_alen hX 1 rfl dX5_hear_30 ?_
    refine j_icmp_ge hX 74 hg dX5_hear_31 (by decide) (fun hg => ?_) (fun hg => ?_)
    · cases hg
      exact hret _ _ dX5_hear_74
    · refine j_aload_n hX 1 dX5_hear_34 rfl rfl ?_
      refine j_get hX 0 0 rfl rfl hinX5 rfl hf_X5_sort_15 rfl dX5_hear_35 ?_
      refine j_aload_n hX 1 dX5_hear_38 rfl rfl ?_
      refine j_get hX 0 2 rfl rfl hinX5 rfl hf_X5_size_25 rfl dX5_hear_39 ?_
      refine j_iload_n hX 2 dX5_hear_42 rfl rfl ?_
      refine j_iast hX hW 1 rfl hg dX5_hear_43 (ws' := (w_X5_hear G q_this q_this_sort q_this_mark q_this_heard q_this_hills v_this_next v_this_hills_book v_this_hills_places v_this_hills_sorts v_this_hills_minutesTold v_this_hills_minutes n_this f_this_hills_hour f_this_hills_law (upd f_this_sort f_this_size.toNatClampNeg x1) f_this_mark f_this_size f_this_heard)) rfl (fun hg => ?_)
      refine j_aload_n hX 1 dX5_hear_44 rfl rfl ?_
      refine j_get hX 0 1 rfl rfl hinX5 rfl hf_X5_mark_19 rfl dX5_hear_45 ?_
      refine j_aload_n hX 1 dX5_hear_48 rfl rfl ?_
      refine j_get hX 0 2 rfl rfl hinX5 rfl hf_X5_size_25 rfl dX5_hear_49 ?_
      refine j_iload_n hX 4 dX5_hear_52 rfl rfl ?_
      refine j_iast hX hW 2 rfl hg dX5_hear_53 (ws' := (w_X5_hear G q_this q_this_sort q_this_mark q_this_heard q_this_hills v_this_next v_this_hills_book v_this_hills_places v_this_hills_sorts v_this_hills_minutesTold v_this_hills_minutes n_this f_this_hills_hour f_this_hills_law (upd f_this_sort f_this_size.toNatClampNeg x1) (upd f_this_mark f_this_size.toNatClampNeg x3) f_this_size f_this_heard)) rfl (fun hg => ?_)
      refine j_aload_n hX 1 dX5_hear_54 rfl rfl ?_
      refine j_get hX 0 3 rfl rfl hinX5 rfl hf_X5_heard_22 rfl dX5_hear_55 ?_
      refine j_aload_n hX 1 dX5_hear_58 rfl rfl ?_
      refine j_get hX 0 2 rfl rfl hinX5 rfl hf_X5_size_25 rfl dX5_hear_59 ?_
      refine j_iload_n hX 3 dX5_hear_62 rfl rfl ?_
      refine j_iast hX hW 3 rfl hg dX5_hear_63 (ws' := (w_X5_hear G q_this q_this_sort q_this_mark q_this_heard q_this_hills v_this_next v_this_hills_book v_this_hills_places v_this_hills_sorts v_this_hills_minutesTold v_this_hills_minutes n_this f_this_hills_hour f_this_hills_law (upd f_this_sort f_this_size.toNatClampNeg x1) (upd f_this_mark f_this_size.toNatClampNeg x3) f_this_size (upd f_this_heard f_this_size.toNatClampNeg x2))) rfl (fun hg => ?_)
      refine j_aload_n hX 1 dX5_hear_64 rfl rfl ?_
      refine j_dup hX dX5_hear_65 rfl ?_
      refine j_get hX 0 2 rfl rfl hinX5 rfl hf_X5_size_25 rfl dX5_hear_66 ?_
      refine j_iconst hX dX5_hear_69 kc_1 ?_
      refine j_iadd hX dX5_hear_70 ?_
      refine j_put hX hW 0 2 rfl rfl hinX5 tyX5 tyX5_ok nmX5 rfl hf_X5_size_25 rfl rfl rfl rfl dX5_hear_71 (ws' := (w_X5_hear G q_this q_this_sort q_this_mark q_this_heard q_this_hills v_this_next v_this_hills_book v_this_hills_places v_this_hills_sorts v_this_hills_minutesTold v_this_hills_minutes n_this f_this_hills_hour f_this_hills_law (upd f_this_sort f_this_size.toNatClampNeg x1) (upd f_this_mark f_this_size.toNatClampNeg x3) (f_this_size + 1) (upd f_this_heard f_this_size.toNatClampNeg x2))) rfl ?_
      cases hg
      exact hret _ _ dX5_hear_74
  · refine j_aload_n hX 1 dX5_hear_13 rfl rfl ?_
    refine j_iload hX 0 dX5_hear_14 rfl ?_
    refine j_vRV hX hW (w1 := fun v => (w_X5_takeOut G q_this q_this_sort q_this_mark q_this_heard q_this_hills v_this_next v_this_hills_book v_this_hills_places v_this_hills_sorts (.int f_this_hills_hour) v_this_hills_minutesTold v_this_hills_minutes n_this f_this_hills_law v.1 v.2.1 v.2.2.1 v.2.2.2)) (ws' := fun v => (w_X5_hear G q_this q_this_sort q_this_mark q_this_heard q_this_hills v_this_next v_this_hills_book v_this_hills_places v_this_hills_sorts v_this_hills_minutesTold v_this_hills_minutes n_this f_this_hills_hour f_this_hills_law v.1 v.2.1 v.2.2.1 v.2.2.2)) [.int v3] hg (fun v hv => c_X5_takeOut l G N q_this q_this_sort q_this_mark q_this_heard q_this_hills v_this_next v_this_hills_book v_this_hills_places v_this_hills_sorts (.int f_this_hills_hour) v_this_hills_minutesTold v_this_hills_minutes n_this f_this_hills_law f_this_sort f_this_mark f_this_size f_this_heard v3 v hv) gX5_hear_X5_takeOut rfl ⟨rfl, rfl⟩ ⟨rfl, by decide, by decide, rfl⟩ rfl rfl [0, 1, 2, 3, 4] rfl (by decide +kernel) rfl rfl dX5_hear_16 rfl rfl ⟨Nat.zero_le _, Nat.zero_le _⟩ (fun _ => jn_set [0, 1, 2, 3, 4] rfl rfl rfl) (fun v16 hg => ?_)
    refine j_goto hX 74 dX5_hear_19 (by decide) ?_
    cases hg
    exact hret _ _ dX5_hear_74
abbrev w_X5_hearTo (G : jG) (q_this : Nat) (q_this_sort : Nat) (q_this_mark : Nat) (q_this_heard : Nat) (q_this_hills : Nat) (q_a1 : Nat) (q_a1_sort : Nat) (q_a1_heard : Nat) (v_this_hills_book : Value) (v_this_hills_places : Value) (v_this_hills_sorts : Value) (v_this_hills_minutesTold : Value) (v_this_hills_minutes : Value) (v_a1_drummed : Value) (n_this : Nat) (n_a1 : Nat) (f_this_hills_hour : Int32) (f_this_hills_law : Int32) (f_this_sort : (Nat → Int32)) (f_this_mark : (Nat → Int32)) (f_this_size : Int32) (f_this_heard : (Nat → Int32)) (f_this_next : Int32) (f_a1_sort : (Nat → Int32)) (f_a1_heard : (Nat → Int32)) (f_a1_size : Int32) : va_W := [oC q_this 5 [.ref q_this_sort, .ref q_this_mark, .int f_this_size, .ref q_this_heard, .ref q_this_hills, .int f_this_next], aI G q_this_sort n_this f_this_sort, aI G q_this_mark n_this f_this_mark, aI G q_this_heard n_this f_this_heard, oC q_this_hills 2 [v_this_hills_book, v_this_hills_places, v_this_hills_sorts, .int f_this_hills_hour, .int f_this_hills_law, v_this_hills_minutesTold, v_this_hills_minutes], oC q_a1 3 [.ref q_a1_sort, v_a1_drummed, .ref q_a1_heard, .int f_a1_size], aI G q_a1_sort n_a1 f_a1_sort, aI G q_a1_heard n_a1 f_a1_heard]
def g_X5_hearTo_L0 (N : Nat) (n_this : Nat) (n_a1 : Nat) (f_this_hills_hour : Int32) (f_this_hills_law : Int32) (f_a1_sort : (Nat → Int32)) (f_a1_heard : (Nat → Int32)) (f_a1_size : Int32) : Nat → (Nat → Int32) → (Nat → Int32) → Int32 → (Nat → Int32) → Int32 → Int32 → Option ((Nat → Int32) × (Nat → Int32) × Int32 × (Nat → Int32) × Int32)
  | 0, _, _, _, _, _, _ => none
  | fu + 1, f_this_sort, f_this_mark, f_this_size, f_this_heard, f_this_next, x2 => if f_a1_size ≤ f_this_next then some (f_this_sort, f_this_mark, f_this_size, f_this_heard, f_this_next) else gi f_this_next n_a1 (if x2 < (f_a1_heard f_this_next.toNatClampNeg) then some (f_this_sort, f_this_mark, f_this_size, f_this_heard, f_this_next) else gi f_this_next n_a1 (gi f_this_next n_a1 ((g_X5_hear N n_this f_this_hills_hour f_this_hills_law f_this_sort f_this_mark f_this_size f_this_heard (f_a1_sort f_this_next.toNatClampNeg) (f_a1_heard f_this_next.toNatClampNeg) f_this_next).bind fun v47 => g_X5_hearTo_L0 N n_this n_a1 f_this_hills_hour f_this_hills_law f_a1_sort f_a1_heard f_a1_size fu v47.1 v47.2.1 v47.2.2.1 v47.2.2.2 (f_this_next + 1) x2)))
def g_X5_hearTo (N : Nat) (n_this : Nat) (n_a1 : Nat) (f_this_hills_hour : Int32) (f_this_hills_law : Int32) (f_a1_sort : (Nat → Int32)) (f_a1_heard : (Nat → Int32)) (f_a1_size : Int32) (f_this_sort : (Nat → Int32)) (f_this_mark : (Nat → Int32)) (f_this_size : Int32) (f_this_heard : (Nat → Int32)) (f_this_next : Int32) (x2 : Int32) : Option ((Nat → Int32) × (Nat → Int32) × Int32 × (Nat → Int32) × Int32) := g_X5_hearTo_L0 N n_this n_a1 f_this_hills_hour f_this_hills_law f_a1_sort f_a1_heard f_a1_size N f_this_sort f_this_mark f_this_size f_this_heard f_this_next x2
set_option maxHeartbeats 4000000 in
set_option maxRecDepth 100000 in
theorem c_X5_hearTo (l : Launch) (G : jG) (N : Nat) (q_this : Nat) (q_this_sort : Nat) (q_this_mark : Nat) (q_this_heard : Nat) (q_this_hills : Nat) (q_a1 : Nat) (q_a1_sort : Nat) (q_a1_heard : Nat) (v_this_hills_book : Value) (v_this_hills_places : Value) (v_this_hills_sorts : Value) (v_this_hills_minutesTold : Value) (v_this_hills_minutes : Value) (v_a1_drummed : Value) (n_this : Nat) (n_a1 : Nat) (f_this_hills_hour : Int32) (f_this_hills_law : Int32) (f_this_sort : (Nat → Int32)) (f_this_mark : (Nat → Int32)) (f_this_size : Int32) (f_this_heard : (Nat → Int32)) (f_this_next : Int32) (f_a1_sort : (Nat → Int32)) (f_a1_heard : (Nat → Int32)) (f_a1_size : Int32) (x2 : Int32) (u : (Nat → Int32) × (Nat → Int32) × Int32 × (Nat → Int32) × Int32) (hu : g_X5_hearTo N n_this n_a1 f_this_hills_hour f_this_hills_law f_a1_sort f_a1_heard f_a1_size f_this_sort f_this_mark f_this_size f_this_heard f_this_next x2 = some u) : MetRV l G yX5_hearTo wsX5_hearTo ({ frames := 2, cells := 0, slots := 0, locals := 50 } : Room) [.ref q_this, .ref q_a1, .int x2] (w_X5_hearTo G q_this q_this_sort q_this_mark q_this_heard q_this_hills q_a1 q_a1_sort q_a1_heard v_this_hills_book v_this_hills_places v_this_hills_sorts v_this_hills_minutesTold v_this_hills_minutes v_a1_drummed n_this n_a1 f_this_hills_hour f_this_hills_law f_this_sort f_this_mark f_this_size f_this_heard f_this_next f_a1_sort f_a1_heard f_a1_size) (w_X5_hearTo G q_this q_this_sort q_this_mark q_this_heard q_this_hills q_a1 q_a1_sort q_a1_heard v_this_hills_book v_this_hills_places v_this_hills_sorts v_this_hills_minutesTold v_this_hills_minutes v_a1_drummed n_this n_a1 f_this_hills_hour f_this_hills_law u.1 u.2.1 u.2.2.1 u.2.2.2.1 u.2.2.2.2 f_a1_sort f_a1_heard f_a1_size) := by
  refine met_rwv (cc := cX5_hearTo) (maxL := 3) (lv0 := [(0, .ref q_this), (1, .ref q_a1), (2, .int x2)]) (by decide) rfl rfl rfl rfl (fun X hX hW hret => ?_)
  have hinX3 : ∀ w ∈ u_ws RX3 TX3 4, w ∈ wsX5_hearTo := by decide +kernel
  have hinX5 : ∀ w ∈ u_ws RX5 TX5 6, w ∈ wsX5_hearTo := by decide +kernel
  have hf_X3_heard_41 : Cond.fieldLink RX5 41 (TX3 2).1 (TX3 2).2.1 (TX3 2).2.2.1 ∈ wsX5_hearTo := by decide +kernel
  have hf_X3_size_38 : Cond.fieldLink RX5 38 (TX3 3).1 (TX3 3).2.1 (TX3 3).2.2.1 ∈ wsX5_hearTo := by decide +kernel
  have hf_X3_sort_42 : Cond.fieldLink RX5 42 (TX3 0).1 (TX3 0).2.1 (TX3 0).2.2.1 ∈ wsX5_hearTo := by decide +kernel
  have hf_X5_next_29 : Cond.fieldLink RX5 29 (TX5 5).1 (TX5 5).2.1 (TX5 5).2.2.1 ∈ wsX5_hearTo := by decide +kernel
  have L0 : ∀ (fu0 : Nat), ∀ (f_this_sort : (Nat → Int32)) (f_this_mark : (Nat → Int32)) (f_this_size : Int32) (f_this_heard : (Nat → Int32)) (f_this_next : Int32) (x2 : Int32), g_X5_hearTo_L0 N n_this n_a1 f_this_hills_hour f_this_hills_law f_a1_sort f_a1_heard f_a1_size fu0 f_this_sort f_this_mark f_this_size f_this_heard f_this_next x2 = some u → J X 0 0 (w_X5_hearTo G q_this q_this_sort q_this_mark q_this_heard q_this_hills q_a1 q_a1_sort q_a1_heard v_this_hills_book v_this_hills_places v_this_hills_sorts v_this_hills_minutesTold v_this_hills_minutes v_a1_drummed n_this n_a1 f_this_hills_hour f_this_hills_law f_this_sort f_this_mark f_this_size f_this_heard f_this_next f_a1_sort f_a1_heard f_a1_size) 0 [(0, .ref q_this), (1, .ref q_a1), (2, .int x2)] [] := by
    intro fu0
    induction fu0 with
    | zero => intro f_this_sort f_this_mark f_this_size f_this_heard f_this_next x2 hg; exact nomatch hg
    | succ fu0 ih0 =>
      intro f_this_sort f_this_mark f_this_size f_this_heard f_this_next x2 hg
      unfold g_X5_hearTo_L0 at hg
      refine j_aload_n hX 0 dX5_hearTo_0 rfl rfl ?_
      refine j_get hX 0 5 rfl rfl hinX5 rfl hf_X5_next_29 rfl dX5_hearTo_1 ?_
      refine j_aload_n hX 1 dX5_hearTo_4 rfl rfl ?_
      refine j_get hX 5 3 rfl rfl hinX3 rfl hf_X3_size_38 rfl dX5_hearTo_5 ?_
      refine j_icmp_ge hX 63 hg dX5_hearTo_8 (by decide) (fun hg => ?_) (fun hg => ?_)
      · cases hg
        exact hret _ _ dX5_hearTo_63
      · refine j_aload_n hX 1 dX5_hearTo_11 rfl rfl ?_
        refine j_get hX 5 2 rfl rfl hinX3 rfl hf_X3_heard_41 rfl dX5_hearTo_12 ?_
        refine j_aload_n hX 0 dX5_hearTo_15 rfl rfl ?_
        refine j_get hX 0 5 rfl rfl hinX5 rfl hf_X5_next_29 rfl dX5_hearTo_16 ?_
        refine j_iald hX 7 rfl hg dX5_hearTo_19 (fun hg => ?_)
        refine j_iload_n hX 2 dX5_hearTo_20 rfl rfl ?_
        refine j_icmp_gt hX 63 hg dX5_hearTo_21 (by decide) (fun hg => ?_) (fun hg => ?_)
        · cases hg
          exact hret _ _ dX5_hearTo_63
        · refine j_aload_n hX 0 dX5_hearTo_24 rfl rfl ?_
          refine j_aload_n hX 1 dX5_hearTo_25 rfl rfl ?_
          refine j_get hX 5 0 rfl rfl hinX3 rfl hf_X3_sort_42 rfl dX5_hearTo_26 ?_
          refine j_aload_n hX 0 dX5_hearTo_29 rfl rfl ?_
          refine j_get hX 0 5 rfl rfl hinX5 rfl hf_X5_next_29 rfl dX5_hearTo_30 ?_
          refine j_iald hX 6 rfl hg dX5_hearTo_33 (fun hg => ?_)
          refine j_aload_n hX 1 dX5_hearTo_34 rfl rfl ?_
          refine j_get hX 5 2 rfl rfl hinX3 rfl hf_X3_heard_41 rfl dX5_hearTo_35 ?_
          refine j_aload_n hX 0 dX5_hearTo_38 rfl rfl ?_
          refine j_get hX 0 5 rfl rfl hinX5 rfl hf_X5_next_29 rfl dX5_hearTo_39 ?_
          refine j_iald hX 7 rfl hg dX5_hearTo_42 (fun hg => ?_)
          refine j_aload_n hX 0 dX5_hearTo_43 rfl rfl ?_
          refine j_get hX 0 5 rfl rfl hinX5 rfl hf_X5_next_29 rfl dX5_hearTo_44 ?_
          refine j_vRV hX hW (w1 := fun v => (w_X5_hear G q_this q_this_sort q_this_mark q_this_heard q_this_hills (.int f_this_next) v_this_hills_book v_this_hills_places v_this_hills_sorts v_this_hills_minutesTold v_this_hills_minutes n_this f_this_hills_hour f_this_hills_law v.1 v.2.1 v.2.2.1 v.2.2.2)) (ws' := fun v => (w_X5_hearTo G q_this q_this_sort q_this_mark q_this_heard q_this_hills q_a1 q_a1_sort q_a1_heard v_this_hills_book v_this_hills_places v_this_hills_sorts v_this_hills_minutesTold v_this_hills_minutes v_a1_drummed n_this n_a1 f_this_hills_hour f_this_hills_law v.1 v.2.1 v.2.2.1 v.2.2.2 f_this_next f_a1_sort f_a1_heard f_a1_size)) [.int (f_a1_sort f_this_next.toNatClampNeg), .int (f_a1_heard f_this_next.toNatClampNeg), .int f_this_next] hg (fun v hv => c_X5_hear l G N q_this q_this_sort q_this_mark q_this_heard q_this_hills (.int f_this_next) v_this_hills_book v_this_hills_places v_this_hills_sorts v_this_hills_minutesTold v_this_hills_minutes n_this f_this_hills_hour f_this_hills_law f_this_sort f_this_mark f_this_size f_this_heard (f_a1_sort f_this_next.toNatClampNeg) (f_a1_heard f_this_next.toNatClampNeg) f_this_next v hv) gX5_hearTo_X5_hear rfl ⟨rfl, rfl⟩ ⟨rfl, by decide, by decide, rfl⟩ rfl rfl [0, 1, 2, 3, 4] rfl (by decide +kernel) rfl rfl dX5_hearTo_47 rfl rfl ⟨Nat.zero_le _, Nat.zero_le _⟩ (fun _ => jn_set [0, 1, 2, 3, 4] rfl rfl rfl) (fun v47 hg => ?_)
          refine j_aload_n hX 0 dX5_hearTo_50 rfl rfl ?_
          refine j_dup hX dX5_hearTo_51 rfl ?_
          refine j_get hX 0 5 rfl rfl hinX5 rfl hf_X5_next_29 rfl dX5_hearTo_52 ?_
          refine j_iconst hX dX5_hearTo_55 kc_1 ?_
          refine j_iadd hX dX5_hearTo_56 ?_
          refine j_put hX hW 0 5 rfl rfl hinX5 tyX5 tyX5_ok nmX5 rfl hf_X5_next_29 rfl rfl rfl rfl dX5_hearTo_57 (ws' := (w_X5_hearTo G q_this q_this_sort q_this_mark q_this_heard q_this_hills q_a1 q_a1_sort q_a1_heard v_this_hills_book v_this_hills_places v_this_hills_sorts v_this_hills_minutesTold v_this_hills_minutes v_a1_drummed n_this n_a1 f_this_hills_hour f_this_hills_law v47.1 v47.2.1 v47.2.2.1 v47.2.2.2 (f_this_next + 1) f_a1_sort f_a1_heard f_a1_size)) rfl ?_
          refine j_goto hX 0 dX5_hearTo_60 (by decide) ?_
          exact ih0 _ _ _ _ _ _ hg
  have hg := hu
  unfold g_X5_hearTo at hg
  exact L0 N _ _ _ _ _ _ hg
abbrev w_X11_standAt (G : jG) (q_this : Nat) (q_this_laid : Nat) (q_this_laid_minutes : Nat) (q_this_beats : Nat) (q_this_beats_place : Nat) (q_this_beats_sort : Nat) (q_this_beats_minute : Nat) (q_this_queue : Nat) (q_this_queue_sort : Nat) (q_this_queue_drummed : Nat) (q_this_queue_heard : Nat) (q_this_row : Nat) (q_this_row_sort : Nat) (q_this_row_mark : Nat) (q_this_row_heard : Nat) (v_this_text : Value) (v_this_reader : Value) (v_this_steps : Value) (v_this_kept : Value) (v_this_keptSize : Value) (v_this_told : Value) (v_this_secrets : Value) (v_this_trials : Value) (v_this_later : Value) (v_this_laid_book : Value) (v_this_laid_sorts : Value) (v_this_laid_minutesTold : Value) (v_this_beats_now : Value) (f_this_laid_places : Int32) (f_this_laid_hour : Int32) (f_this_laid_law : Int32) (f_this_laid_minutes : (Nat → Int32)) (f_this_beats_place : (Nat → Int32)) (f_this_beats_sort : (Nat → Int32)) (f_this_beats_minute : (Nat → Int32)) (f_this_beats_size : Int32) (f_this_queue_sort : (Nat → Int32)) (f_this_queue_drummed : (Nat → Int32)) (f_this_queue_heard : (Nat → Int32)) (f_this_queue_size : Int32) (f_this_row_sort : (Nat → Int32)) (f_this_row_mark : (Nat → Int32)) (f_this_row_size : Int32) (f_this_row_heard : (Nat → Int32)) (f_this_row_next : Int32) : va_W := [oC q_this 11 [v_this_text, v_this_reader, .ref q_this_laid, .ref q_this_beats, v_this_steps, v_this_kept, v_this_keptSize, v_this_told, v_this_secrets, v_this_trials, .ref q_this_queue, .ref q_this_row, v_this_later], oC q_this_laid 2 [v_this_laid_book, .int f_this_laid_places, v_this_laid_sorts, .int f_this_laid_hour, .int f_this_laid_law, v_this_laid_minutesTold, .ref q_this_laid_minutes], aI G q_this_laid_minutes 25 f_this_laid_minutes, oC q_this_beats 0 [.ref q_this_beats_place, .ref q_this_beats_sort, .ref q_this_beats_minute, .int f_this_beats_size, v_this_beats_now], aI G q_this_beats_place 24 f_this_beats_place, aI G q_this_beats_sort 24 f_this_beats_sort, aI G q_this_beats_minute 24 f_this_beats_minute, oC q_this_queue 3 [.ref q_this_queue_sort, .ref q_this_queue_drummed, .ref q_this_queue_heard, .int f_this_queue_size], aI G q_this_queue_sort 99 f_this_queue_sort, aI G q_this_queue_drummed 99 f_this_queue_drummed, aI G q_this_queue_heard 99 f_this_queue_heard, oC q_this_row 5 [.ref q_this_row_sort, .ref q_this_row_mark, .int f_this_row_size, .ref q_this_row_heard, .ref q_this_laid, .int f_this_row_next], aI G q_this_row_sort 99 f_this_row_sort, aI G q_this_row_mark 99 f_this_row_mark, aI G q_this_row_heard 99 f_this_row_heard]
def g_X11_standAt (N : Nat) (f_this_laid_places : Int32) (f_this_laid_hour : Int32) (f_this_laid_law : Int32) (f_this_laid_minutes : (Nat → Int32)) (f_this_beats_place : (Nat → Int32)) (f_this_beats_sort : (Nat → Int32)) (f_this_beats_minute : (Nat → Int32)) (f_this_beats_size : Int32) (f_this_queue_sort : (Nat → Int32)) (f_this_queue_drummed : (Nat → Int32)) (f_this_queue_heard : (Nat → Int32)) (f_this_queue_size : Int32) (f_this_row_sort : (Nat → Int32)) (f_this_row_mark : (Nat → Int32)) (f_this_row_size : Int32) (f_this_row_heard : (Nat → Int32)) (f_this_row_next : Int32) (x1 : Int32) (x2 : Int32) : Option ((Nat → Int32) × (Nat → Int32) × (Nat → Int32) × Int32 × (Nat → Int32) × (Nat → Int32) × Int32 × (Nat → Int32) × Int32) := (g_X3_fillFrom N 99 f_this_beats_place f_this_beats_sort f_this_beats_minute f_this_beats_size f_this_laid_places f_this_laid_minutes f_this_queue_sort f_this_queue_drummed f_this_queue_heard f_this_queue_size x1).bind fun v13 => (g_X5_empty N 99 f_this_row_size f_this_row_next).bind fun v20 => (g_X5_hearTo N 99 99 f_this_laid_hour f_this_laid_law v13.1 v13.2.2.1 v13.2.2.2 f_this_row_sort f_this_row_mark v20.1 f_this_row_heard v20.2 x2).bind fun v32 => some (v13.1, v13.2.1, v13.2.2.1, v13.2.2.2, v32.1, v32.2.1, v32.2.2.1, v32.2.2.2.1, v32.2.2.2.2)
set_option maxRecDepth 100000 in
theorem ax_X11_standAt_13 (c0 c1 c2 c3 c4 c5 c6 c7 c8 c9 c10 c11 c12 c13 c14 d0 d1 d2 d3 d4 d5 d6 d7 d8 d9 : Nat × va_E) : [7, 8, 9, 10, 3, 4, 5, 6, 1, 2].map (fun i => ([c0, c1, c2, c3, c4, c5, c6, c7, c8, c9, c10, c11, c12, c13, c14] : va_W)[i]?) = List.map some ([c7, c8, c9, c10, c3, c4, c5, c6, c1, c2] : va_W) ∧ ([c0, d8, d9, d4, d5, d6, d7, d0, d1, d2, d3, c11, c12, c13, c14] : va_W).length = 15 ∧ [7, 8, 9, 10, 3, 4, 5, 6, 1, 2].map (fun i => ([c0, d8, d9, d4, d5, d6, d7, d0, d1, d2, d3, c11, c12, c13, c14] : va_W)[i]?) = List.map some ([d0, d1, d2, d3, d4, d5, d6, d7, d8, d9] : va_W) ∧ ([0, 11, 12, 13, 14] : List Nat).map (fun i => ([c0, d8, d9, d4, d5, d6, d7, d0, d1, d2, d3, c11, c12, c13, c14] : va_W)[i]?) = ([0, 11, 12, 13, 14] : List Nat).map (fun i => ([c0, c1, c2, c3, c4, c5, c6, c7, c8, c9, c10, c11, c12, c13, c14] : va_W)[i]?) := ⟨rfl, rfl, rfl, rfl⟩
set_option maxRecDepth 100000 in
theorem ax_X11_standAt_13c (c0 c1 c2 c3 c4 c5 c6 c7 c8 c9 c10 c11 c12 c13 c14 : Nat × va_E) : [7, 8, 9, 10, 3, 4, 5, 6, 1, 2].map (fun i => ([c0, c1, c2, c3, c4, c5, c6, c7, c8, c9, c10, c11, c12, c13, c14] : va_W)[i]?) = List.map some ([c7, c8, c9, c10, c3, c4, c5, c6, c1, c2] : va_W) := rfl
set_option maxHeartbeats 4000000 in
set_option maxRecDepth 100000 in
theorem c_X11_standAt (l : Launch) (G : jG) (N : Nat) (q_this : Nat) (q_this_laid : Nat) (q_this_laid_minutes : Nat) (q_this_beats : Nat) (q_this_beats_place : Nat) (q_this_beats_sort : Nat) (q_this_beats_minute : Nat) (q_this_queue : Nat) (q_this_queue_sort : Nat) (q_this_queue_drummed : Nat) (q_this_queue_heard : Nat) (q_this_row : Nat) (q_this_row_sort : Nat) (q_this_row_mark : Nat) (q_this_row_heard : Nat) (v_this_text : Value) (v_this_reader : Value) (v_this_steps : Value) (v_this_kept : Value) (v_this_keptSize : Value) (v_this_told : Value) (v_this_secrets : Value) (v_this_trials : Value) (v_this_later : Value) (v_this_laid_book : Value) (v_this_laid_sorts : Value) (v_this_laid_minutesTold : Value) (v_this_beats_now : Value) (f_this_laid_places : Int32) (f_this_laid_hour : Int32) (f_this_laid_law : Int32) (f_this_laid_minutes : (Nat → Int32)) (f_this_beats_place : (Nat → Int32)) (f_this_beats_sort : (Nat → Int32)) (f_this_beats_minute : (Nat → Int32)) (f_this_beats_size : Int32) (f_this_queue_sort : (Nat → Int32)) (f_this_queue_drummed : (Nat → Int32)) (f_this_queue_heard : (Nat → Int32)) (f_this_queue_size : Int32) (f_this_row_sort : (Nat → Int32)) (f_this_row_mark : (Nat → Int32)) (f_this_row_size : Int32) (f_this_row_heard : (Nat → Int32)) (f_this_row_next : Int32) (x1 : Int32) (x2 : Int32) (u : (Nat → Int32) × (Nat → Int32) × (Nat → Int32) × Int32 × (Nat → Int32) × (Nat → Int32) × Int32 × (Nat → Int32) × Int32) (hu : g_X11_standAt N f_this_laid_places f_this_laid_hour f_this_laid_law f_this_laid_minutes f_this_beats_place f_this_beats_sort f_this_beats_minute f_this_beats_size f_this_queue_sort f_this_queue_drummed f_this_queue_heard f_this_queue_size f_this_row_sort f_this_row_mark f_this_row_size f_this_row_heard f_this_row_next x1 x2 = some u) : MetRV l G yX11_standAt wsX11_standAt ({ frames := 3, cells := 0, slots := 0, locals := 72 } : Room) [.ref q_this, .int x1, .int x2] (w_X11_standAt G q_this q_this_laid q_this_laid_minutes q_this_beats q_this_beats_place q_this_beats_sort q_this_beats_minute q_this_queue q_this_queue_sort q_this_queue_drummed q_this_queue_heard q_this_row q_this_row_sort q_this_row_mark q_this_row_heard v_this_text v_this_reader v_this_steps v_this_kept v_this_keptSize v_this_told v_this_secrets v_this_trials v_this_later v_this_laid_book v_this_laid_sorts v_this_laid_minutesTold v_this_beats_now f_this_laid_places f_this_laid_hour f_this_laid_law f_this_laid_minutes f_this_beats_place f_this_beats_sort f_this_beats_minute f_this_beats_size f_this_queue_sort f_this_queue_drummed f_this_queue_heard f_this_queue_size f_this_row_sort f_this_row_mark f_this_row_size f_this_row_heard f_this_row_next) (w_X11_standAt G q_this q_this_laid q_this_laid_minutes q_this_beats q_this_beats_place q_this_beats_sort q_this_beats_minute q_this_queue q_this_queue_sort q_this_queue_drummed q_this_queue_heard q_this_row q_this_row_sort q_this_row_mark q_this_row_heard v_this_text v_this_reader v_this_steps v_this_kept v_this_keptSize v_this_told v_this_secrets v_this_trials v_this_later v_this_laid_book v_this_laid_sorts v_this_laid_minutesTold v_this_beats_now f_this_laid_places f_this_laid_hour f_this_laid_law f_this_laid_minutes f_this_beats_place f_this_beats_sort f_this_beats_minute f_this_beats_size u.1 u.2.1 u.2.2.1 u.2.2.2.1 u.2.2.2.2.1 u.2.2.2.2.2.1 u.2.2.2.2.2.2.1 u.2.2.2.2.2.2.2.1 u.2.2.2.2.2.2.2.2) := by
  refine met_rwv (cc := cX11_standAt) (maxL := 3) (lv0 := [(0, .ref q_this), (1, .int x1), (2, .int x2)]) (by decide) rfl rfl rfl rfl (fun X hX hW hret => ?_)
  have hinX11 : ∀ w ∈ u_ws RX11 TX11 13, w ∈ wsX11_standAt := by decide +kernel
  have hf_X11_beats_35 : Cond.fieldLink RX11 35 (TX11 3).1 (TX11 3).2.1 (TX11 3).2.2.1 ∈ wsX11_standAt := by decide +kernel
  have hf_X11_laid_28 : Cond.fieldLink RX11 28 (TX11 2).1 (TX11 2).2.1 (TX11 2).2.2.1 ∈ wsX11_standAt := by decide +kernel
  have hf_X11_queue_80 : Cond.fieldLink RX11 80 (TX11 10).1 (TX11 10).2.1 (TX11 10).2.2.1 ∈ wsX11_standAt := by decide +kernel
  have hf_X11_row_89 : Cond.fieldLink RX11 89 (TX11 11).1 (TX11 11).2.1 (TX11 11).2.2.1 ∈ wsX11_standAt := by decide +kernel
  have hg := hu
  unfold g_X11_standAt at hg
  refine j_aload_n hX 0 dX11_standAt_0 rfl rfl ?_
  refine j_get hX 0 10 rfl rfl hinX11 rfl hf_X11_queue_80 rfl dX11_standAt_1 ?_
  refine j_aload_n hX 0 dX11_standAt_4 rfl rfl ?_
  refine j_get hX 0 3 rfl rfl hinX11 rfl hf_X11_beats_35 rfl dX11_standAt_5 ?_
  refine j_aload_n hX 0 dX11_standAt_8 rfl rfl ?_
  refine j_get hX 0 2 rfl rfl hinX11 rfl hf_X11_laid_28 rfl dX11_standAt_9 ?_
  refine j_iload_n hX 1 dX11_standAt_12 rfl rfl ?_
  refine j_vRV hX hW (w1 := fun v => (w_X3_fillFrom G q_this_queue q_this_queue_sort q_this_queue_drummed q_this_queue_heard q_this_beats q_this_beats_place q_this_beats_sort q_this_beats_minute q_this_laid q_this_laid_minutes v_this_beats_now v_this_laid_book v_this_laid_sorts (.int f_this_laid_hour) (.int f_this_laid_law) v_this_laid_minutesTold 99 v.1 v.2.1 v.2.2.1 v.2.2.2 f_this_beats_place f_this_beats_sort f_this_beats_minute f_this_beats_size f_this_laid_places f_this_laid_minutes)) (ws' := fun v => (w_X11_standAt G q_this q_this_laid q_this_laid_minutes q_this_beats q_this_beats_place q_this_beats_sort q_this_beats_minute q_this_queue q_this_queue_sort q_this_queue_drummed q_this_queue_heard q_this_row q_this_row_sort q_this_row_mark q_this_row_heard v_this_text v_this_reader v_this_steps v_this_kept v_this_keptSize v_this_told v_this_secrets v_this_trials v_this_later v_this_laid_book v_this_laid_sorts v_this_laid_minutesTold v_this_beats_now f_this_laid_places f_this_laid_hour f_this_laid_law f_this_laid_minutes f_this_beats_place f_this_beats_sort f_this_beats_minute f_this_beats_size v.1 v.2.1 v.2.2.1 v.2.2.2 f_this_row_sort f_this_row_mark f_this_row_size f_this_row_heard f_this_row_next)) [.ref q_this_beats, .ref q_this_laid, .int x1] hg (fun v hv => c_X3_fillFrom l G N q_this_queue q_this_queue_sort q_this_queue_drummed q_this_queue_heard q_this_beats q_this_beats_place q_this_beats_sort q_this_beats_minute q_this_laid q_this_laid_minutes v_this_beats_now v_this_laid_book v_this_laid_sorts (.int f_this_laid_hour) (.int f_this_laid_law) v_this_laid_minutesTold 99 f_this_queue_sort f_this_queue_drummed f_this_queue_heard f_this_queue_size f_this_beats_place f_this_beats_sort f_this_beats_minute f_this_beats_size f_this_laid_places f_this_laid_minutes x1 v hv) gX11_standAt_X3_fillFrom rfl ⟨rfl, rfl⟩ ⟨rfl, by decide, by decide, rfl⟩ rfl rfl [7, 8, 9, 10, 3, 4, 5, 6, 1, 2] (ax_X11_standAt_13c _ _ _ _ _ _ _ _ _ _ _ _ _ _ _) (by decide +kernel) rfl rfl dX11_standAt_13 rfl rfl ⟨Nat.zero_le _, Nat.zero_le _⟩ (fun _ => jn_ax [7, 8, 9, 10, 3, 4, 5, 6, 1, 2] ([0, 11, 12, 13, 14] : List Nat) 15 (ax_X11_standAt_13 _ _ _ _ _ _ _ _ _ _ _ _ _ _ _ _ _ _ _ _ _ _ _ _ _) rfl (by decide +kernel)) (fun v13 hg => ?_)
  refine j_aload_n hX 0 dX11_standAt_16 rfl rfl ?_
  refine j_get hX 0 11 rfl rfl hinX11 rfl hf_X11_row_89 rfl dX11_standAt_17 ?_
  refine j_vRV hX hW (w1 := fun v => (w_X5_empty G q_this_row (.ref q_this_row_sort) (.ref q_this_row_mark) (.ref q_this_row_heard) (.ref q_this_laid) 99 v.1 v.2)) (ws' := fun v => (w_X11_standAt G q_this q_this_laid q_this_laid_minutes q_this_beats q_this_beats_place q_this_beats_sort q_this_beats_minute q_this_queue q_this_queue_sort q_this_queue_drummed q_this_queue_heard q_this_row q_this_row_sort q_this_row_mark q_this_row_heard v_this_text v_this_reader v_this_steps v_this_kept v_this_keptSize v_this_told v_this_secrets v_this_trials v_this_later v_this_laid_book v_this_laid_sorts v_this_laid_minutesTold v_this_beats_now f_this_laid_places f_this_laid_hour f_this_laid_law f_this_laid_minutes f_this_beats_place f_this_beats_sort f_this_beats_minute f_this_beats_size v13.1 v13.2.1 v13.2.2.1 v13.2.2.2 f_this_row_sort f_this_row_mark v.1 f_this_row_heard v.2)) [] hg (fun v hv => c_X5_empty l G N q_this_row (.ref q_this_row_sort) (.ref q_this_row_mark) (.ref q_this_row_heard) (.ref q_this_laid) 99 f_this_row_size f_this_row_next v hv) gX11_standAt_X5_empty rfl ⟨rfl, rfl⟩ ⟨rfl, by decide, by decide, rfl⟩ rfl rfl [11] rfl (by decide +kernel) rfl rfl dX11_standAt_20 rfl rfl ⟨Nat.zero_le _, Nat.zero_le _⟩ (fun _ => jn_set [11] rfl rfl rfl) (fun v20 hg => ?_)
  refine j_aload_n hX 0 dX11_standAt_23 rfl rfl ?_
  refine j_get hX 0 11 rfl rfl hinX11 rfl hf_X11_row_89 rfl dX11_standAt_24 ?_
  refine j_aload_n hX 0 dX11_standAt_27 rfl rfl ?_
  refine j_get hX 0 10 rfl rfl hinX11 rfl hf_X11_queue_80 rfl dX11_standAt_28 ?_
  refine j_iload_n hX 2 dX11_standAt_31 rfl rfl ?_
  refine j_vRV hX hW (w1 := fun v => (w_X5_hearTo G q_this_row q_this_row_sort q_this_row_mark q_this_row_heard q_this_laid q_this_queue q_this_queue_sort q_this_queue_heard v_this_laid_book (.int f_this_laid_places) v_this_laid_sorts v_this_laid_minutesTold (.ref q_this_laid_minutes) (.ref q_this_queue_drummed) 99 99 f_this_laid_hour f_this_laid_law v.1 v.2.1 v.2.2.1 v.2.2.2.1 v.2.2.2.2 v13.1 v13.2.2.1 v13.2.2.2)) (ws' := fun v => (w_X11_standAt G q_this q_this_laid q_this_laid_minutes q_this_beats q_this_beats_place q_this_beats_sort q_this_beats_minute q_this_queue q_this_queue_sort q_this_queue_drummed q_this_queue_heard q_this_row q_this_row_sort q_this_row_mark q_this_row_heard v_this_text v_this_reader v_this_steps v_this_kept v_this_keptSize v_this_told v_this_secrets v_this_trials v_this_later v_this_laid_book v_this_laid_sorts v_this_laid_minutesTold v_this_beats_now f_this_laid_places f_this_laid_hour f_this_laid_law f_this_laid_minutes f_this_beats_place f_this_beats_sort f_this_beats_minute f_this_beats_size v13.1 v13.2.1 v13.2.2.1 v13.2.2.2 v.1 v.2.1 v.2.2.1 v.2.2.2.1 v.2.2.2.2)) [.ref q_this_queue, .int x2] hg (fun v hv => c_X5_hearTo l G N q_this_row q_this_row_sort q_this_row_mark q_this_row_heard q_this_laid q_this_queue q_this_queue_sort q_this_queue_heard v_this_laid_book (.int f_this_laid_places) v_this_laid_sorts v_this_laid_minutesTold (.ref q_this_laid_minutes) (.ref q_this_queue_drummed) 99 99 f_this_laid_hour f_this_laid_law f_this_row_sort f_this_row_mark v20.1 f_this_row_heard v20.2 v13.1 v13.2.2.1 v13.2.2.2 x2 v hv) gX11_standAt_X5_hearTo rfl ⟨rfl, rfl⟩ ⟨rfl, by decide, by decide, rfl⟩ rfl rfl [11, 12, 13, 14, 1, 7, 8, 10] rfl (by decide +kernel) rfl rfl dX11_standAt_32 rfl rfl ⟨Nat.zero_le _, Nat.zero_le _⟩ (fun _ => jn_set [11, 12, 13, 14, 1, 7, 8, 10] rfl rfl rfl) (fun v32 hg => ?_)
  cases hg
  exact hret _ _ dX11_standAt_35
abbrev w_X11_stands (G : jG) (q_this : Nat) (q_this_laid : Nat) (q_this_laid_minutes : Nat) (q_this_beats : Nat) (q_this_beats_place : Nat) (q_this_beats_sort : Nat) (q_this_beats_minute : Nat) (q_this_queue : Nat) (q_this_queue_sort : Nat) (q_this_queue_drummed : Nat) (q_this_queue_heard : Nat) (q_this_row : Nat) (q_this_row_sort : Nat) (q_this_row_mark : Nat) (q_this_row_heard : Nat) (v_this_text : Value) (v_this_reader : Value) (v_this_steps : Value) (v_this_kept : Value) (v_this_keptSize : Value) (v_this_told : Value) (v_this_secrets : Value) (v_this_trials : Value) (v_this_later : Value) (v_this_laid_book : Value) (v_this_laid_sorts : Value) (v_this_laid_minutesTold : Value) (v_this_beats_now : Value) (f_this_laid_places : Int32) (f_this_laid_hour : Int32) (f_this_laid_law : Int32) (f_this_laid_minutes : (Nat → Int32)) (f_this_beats_place : (Nat → Int32)) (f_this_beats_sort : (Nat → Int32)) (f_this_beats_minute : (Nat → Int32)) (f_this_beats_size : Int32) (f_this_queue_sort : (Nat → Int32)) (f_this_queue_drummed : (Nat → Int32)) (f_this_queue_heard : (Nat → Int32)) (f_this_queue_size : Int32) (f_this_row_sort : (Nat → Int32)) (f_this_row_mark : (Nat → Int32)) (f_this_row_size : Int32) (f_this_row_heard : (Nat → Int32)) (f_this_row_next : Int32) : va_W := [oC q_this 11 [v_this_text, v_this_reader, .ref q_this_laid, .ref q_this_beats, v_this_steps, v_this_kept, v_this_keptSize, v_this_told, v_this_secrets, v_this_trials, .ref q_this_queue, .ref q_this_row, v_this_later], oC q_this_laid 2 [v_this_laid_book, .int f_this_laid_places, v_this_laid_sorts, .int f_this_laid_hour, .int f_this_laid_law, v_this_laid_minutesTold, .ref q_this_laid_minutes], aI G q_this_laid_minutes 25 f_this_laid_minutes, oC q_this_beats 0 [.ref q_this_beats_place, .ref q_this_beats_sort, .ref q_this_beats_minute, .int f_this_beats_size, v_this_beats_now], aI G q_this_beats_place 24 f_this_beats_place, aI G q_this_beats_sort 24 f_this_beats_sort, aI G q_this_beats_minute 24 f_this_beats_minute, oC q_this_queue 3 [.ref q_this_queue_sort, .ref q_this_queue_drummed, .ref q_this_queue_heard, .int f_this_queue_size], aI G q_this_queue_sort 99 f_this_queue_sort, aI G q_this_queue_drummed 99 f_this_queue_drummed, aI G q_this_queue_heard 99 f_this_queue_heard, oC q_this_row 5 [.ref q_this_row_sort, .ref q_this_row_mark, .int f_this_row_size, .ref q_this_row_heard, .ref q_this_laid, .int f_this_row_next], aI G q_this_row_sort 99 f_this_row_sort, aI G q_this_row_mark 99 f_this_row_mark, aI G q_this_row_heard 99 f_this_row_heard]
def g_X11_stands (N : Nat) (f_this_laid_places : Int32) (f_this_laid_hour : Int32) (f_this_laid_law : Int32) (f_this_laid_minutes : (Nat → Int32)) (f_this_beats_place : (Nat → Int32)) (f_this_beats_sort : (Nat → Int32)) (f_this_beats_minute : (Nat → Int32)) (f_this_beats_size : Int32) (f_this_queue_sort : (Nat → Int32)) (f_this_queue_drummed : (Nat → Int32)) (f_this_queue_heard : (Nat → Int32)) (f_this_queue_size : Int32) (f_this_row_sort : (Nat → Int32)) (f_this_row_mark : (Nat → Int32)) (f_this_row_size : Int32) (f_this_row_heard : (Nat → Int32)) (f_this_row_next : Int32) (x1 : Int32) (x2 : Int32) (x3 : Int32) : Option (Int32 × (Nat → Int32) × (Nat → Int32) × (Nat → Int32) × Int32 × (Nat → Int32) × (Nat → Int32) × Int32 × (Nat → Int32) × Int32) := (g_X2_isPlace N f_this_laid_places x1).bind fun v5 => if v5 = 0 then some ((-1), f_this_queue_sort, f_this_queue_drummed, f_this_queue_heard, f_this_queue_size, f_this_row_sort, f_this_row_mark, f_this_row_size, f_this_row_heard, f_this_row_next) else (g_X11_isMinute N x2).bind fun v12 => if v12 = 0 then some ((-1), f_this_queue_sort, f_this_queue_drummed, f_this_queue_heard, f_this_queue_size, f_this_row_sort, f_this_row_mark, f_this_row_size, f_this_row_heard, f_this_row_next) else if (-1 : Int32) ≤ x3 then (g_X11_standAt N f_this_laid_places f_this_laid_hour f_this_laid_law f_this_laid_minutes f_this_beats_place f_this_beats_sort f_this_beats_minute f_this_beats_size f_this_queue_sort f_this_queue_drummed f_this_queue_heard f_this_queue_size f_this_row_sort f_this_row_mark f_this_row_size f_this_row_heard f_this_row_next x1 x2).bind fun v28 => if x3 = (-1) then some (v28.2.2.2.2.2.2.1, v28.1, v28.2.1, v28.2.2.1, v28.2.2.2.1, v28.2.2.2.2.1, v28.2.2.2.2.2.1, v28.2.2.2.2.2.2.1, v28.2.2.2.2.2.2.2.1, v28.2.2.2.2.2.2.2.2) else if v28.2.2.2.2.2.2.1 ≤ x3 then some ((-4), v28.1, v28.2.1, v28.2.2.1, v28.2.2.2.1, v28.2.2.2.2.1, v28.2.2.2.2.2.1, v28.2.2.2.2.2.2.1, v28.2.2.2.2.2.2.2.1, v28.2.2.2.2.2.2.2.2) else gi x3 99 (some (v28.2.2.2.2.1 x3.toNatClampNeg, v28.1, v28.2.1, v28.2.2.1, v28.2.2.2.1, v28.2.2.2.2.1, v28.2.2.2.2.2.1, v28.2.2.2.2.2.2.1, v28.2.2.2.2.2.2.2.1, v28.2.2.2.2.2.2.2.2)) else some ((-1), f_this_queue_sort, f_this_queue_drummed, f_this_queue_heard, f_this_queue_size, f_this_row_sort, f_this_row_mark, f_this_row_size, f_this_row_heard, f_this_row_next)
set_option maxRecDepth 100000 in
theorem ax_X11_stands_28 (c0 c1 c2 c3 c4 c5 c6 c7 c8 c9 c10 c11 c12 c13 c14 d0 d1 d2 d3 d4 d5 d6 d7 d8 d9 d10 d11 d12 d13 d14 : Nat × va_E) : [0, 1, 2, 3, 4, 5, 6, 7, 8, 9, 10, 11, 12, 13, 14].map (fun i => ([c0, c1, c2, c3, c4, c5, c6, c7, c8, c9, c10, c11, c12, c13, c14] : va_W)[i]?) = List.map some ([c0, c1, c2, c3, c4, c5, c6, c7, c8, c9, c10, c11, c12, c13, c14] : va_W) ∧ ([d0, d1, d2, d3, d4, d5, d6, d7, d8, d9, d10, d11, d12, d13, d14] : va_W).length = 15 ∧ [0, 1, 2, 3, 4, 5, 6, 7, 8, 9, 10, 11, 12, 13, 14].map (fun i => ([d0, d1, d2, d3, d4, d5, d6, d7, d8, d9, d10, d11, d12, d13, d14] : va_W)[i]?) = List.map some ([d0, d1, d2, d3, d4, d5, d6, d7, d8, d9, d10, d11, d12, d13, d14] : va_W) ∧ ([] : List Nat).map (fun i => ([d0, d1, d2, d3, d4, d5, d6, d7, d8, d9, d10, d11, d12, d13, d14] : va_W)[i]?) = ([] : List Nat).map (fun i => ([c0, c1, c2, c3, c4, c5, c6, c7, c8, c9, c10, c11, c12, c13, c14] : va_W)[i]?) := ⟨rfl, rfl, rfl, rfl⟩
set_option maxRecDepth 100000 in
theorem ax_X11_stands_28c (c0 c1 c2 c3 c4 c5 c6 c7 c8 c9 c10 c11 c12 c13 c14 : Nat × va_E) : [0, 1, 2, 3, 4, 5, 6, 7, 8, 9, 10, 11, 12, 13, 14].map (fun i => ([c0, c1, c2, c3, c4, c5, c6, c7, c8, c9, c10, c11, c12, c13, c14] : va_W)[i]?) = List.map some ([c0, c1, c2, c3, c4, c5, c6, c7, c8, c9, c10, c11, c12, c13, c14] : va_W) := rfl
set_option maxHeartbeats 4000000 in
set_option maxRecDepth 100000 in
theorem c_X11_stands (l : Launch) (G : jG) (N : Nat) (q_this : Nat) (q_this_laid : Nat) (q_this_laid_minutes : Nat) (q_this_beats : Nat) (q_this_beats_place : Nat) (q_this_beats_sort : Nat) (q_this_beats_minute : Nat) (q_this_queue : Nat) (q_this_queue_sort : Nat) (q_this_queue_drummed : Nat) (q_this_queue_heard : Nat) (q_this_row : Nat) (q_this_row_sort : Nat) (q_this_row_mark : Nat) (q_this_row_heard : Nat) (v_this_text : Value) (v_this_reader : Value) (v_this_steps : Value) (v_this_kept : Value) (v_this_keptSize : Value) (v_this_told : Value) (v_this_secrets : Value) (v_this_trials : Value) (v_this_later : Value) (v_this_laid_book : Value) (v_this_laid_sorts : Value) (v_this_laid_minutesTold : Value) (v_this_beats_now : Value) (f_this_laid_places : Int32) (f_this_laid_hour : Int32) (f_this_laid_law : Int32) (f_this_laid_minutes : (Nat → Int32)) (f_this_beats_place : (Nat → Int32)) (f_this_beats_sort : (Nat → Int32)) (f_this_beats_minute : (Nat → Int32)) (f_this_beats_size : Int32) (f_this_queue_sort : (Nat → Int32)) (f_this_queue_drummed : (Nat → Int32)) (f_this_queue_heard : (Nat → Int32)) (f_this_queue_size : Int32) (f_this_row_sort : (Nat → Int32)) (f_this_row_mark : (Nat → Int32)) (f_this_row_size : Int32) (f_this_row_heard : (Nat → Int32)) (f_this_row_next : Int32) (x1 : Int32) (x2 : Int32) (x3 : Int32) (u : Int32 × (Nat → Int32) × (Nat → Int32) × (Nat → Int32) × Int32 × (Nat → Int32) × (Nat → Int32) × Int32 × (Nat → Int32) × Int32) (hu : g_X11_stands N f_this_laid_places f_this_laid_hour f_this_laid_law f_this_laid_minutes f_this_beats_place f_this_beats_sort f_this_beats_minute f_this_beats_size f_this_queue_sort f_this_queue_drummed f_this_queue_heard f_this_queue_size f_this_row_sort f_this_row_mark f_this_row_size f_this_row_heard f_this_row_next x1 x2 x3 = some u) : MetRW l G yX11_stands wsX11_stands ({ frames := 4, cells := 0, slots := 0, locals := 94 } : Room) [.ref q_this, .int x1, .int x2, .int x3] (w_X11_stands G q_this q_this_laid q_this_laid_minutes q_this_beats q_this_beats_place q_this_beats_sort q_this_beats_minute q_this_queue q_this_queue_sort q_this_queue_drummed q_this_queue_heard q_this_row q_this_row_sort q_this_row_mark q_this_row_heard v_this_text v_this_reader v_this_steps v_this_kept v_this_keptSize v_this_told v_this_secrets v_this_trials v_this_later v_this_laid_book v_this_laid_sorts v_this_laid_minutesTold v_this_beats_now f_this_laid_places f_this_laid_hour f_this_laid_law f_this_laid_minutes f_this_beats_place f_this_beats_sort f_this_beats_minute f_this_beats_size f_this_queue_sort f_this_queue_drummed f_this_queue_heard f_this_queue_size f_this_row_sort f_this_row_mark f_this_row_size f_this_row_heard f_this_row_next) (w_X11_stands G q_this q_this_laid q_this_laid_minutes q_this_beats q_this_beats_place q_this_beats_sort q_this_beats_minute q_this_queue q_this_queue_sort q_this_queue_drummed q_this_queue_heard q_this_row q_this_row_sort q_this_row_mark q_this_row_heard v_this_text v_this_reader v_this_steps v_this_kept v_this_keptSize v_this_told v_this_secrets v_this_trials v_this_later v_this_laid_book v_this_laid_sorts v_this_laid_minutesTold v_this_beats_now f_this_laid_places f_this_laid_hour f_this_laid_law f_this_laid_minutes f_this_beats_place f_this_beats_sort f_this_beats_minute f_this_beats_size u.2.1 u.2.2.1 u.2.2.2.1 u.2.2.2.2.1 u.2.2.2.2.2.1 u.2.2.2.2.2.2.1 u.2.2.2.2.2.2.2.1 u.2.2.2.2.2.2.2.2.1 u.2.2.2.2.2.2.2.2.2) u.1 := by
  refine met_rwi (cc := cX11_stands) (maxL := 4) (lv0 := [(0, .ref q_this), (1, .int x1), (2, .int x2), (3, .int x3)]) (by decide) rfl rfl rfl rfl (fun X hX hW hret => ?_)
  have hinX11 : ∀ w ∈ u_ws RX11 TX11 13, w ∈ wsX11_stands := by decide +kernel
  have hinX5 : ∀ w ∈ u_ws RX5 TX5 6, w ∈ wsX11_stands := by decide +kernel
  have hf_X11_laid_28 : Cond.fieldLink RX11 28 (TX11 2).1 (TX11 2).2.1 (TX11 2).2.2.1 ∈ wsX11_stands := by decide +kernel
  have hf_X11_row_89 : Cond.fieldLink RX11 89 (TX11 11).1 (TX11 11).2.1 (TX11 11).2.2.1 ∈ wsX11_stands := by decide +kernel
  have hf_X5_size_184 : Cond.fieldLink RX11 184 (TX5 2).1 (TX5 2).2.1 (TX5 2).2.2.1 ∈ wsX11_stands := by decide +kernel
  have hf_X5_sort_185 : Cond.fieldLink RX11 185 (TX5 0).1 (TX5 0).2.1 (TX5 0).2.2.1 ∈ wsX11_stands := by decide +kernel
  have hg := hu
  unfold g_X11_stands at hg
  refine j_aload_n hX 0 dX11_stands_0 rfl rfl ?_
  refine j_get hX 0 2 rfl rfl hinX11 rfl hf_X11_laid_28 rfl dX11_stands_1 ?_
  refine j_iload_n hX 1 dX11_stands_4 rfl rfl ?_
  refine j_vRO hX (r := fun v => v) [.int x1] hg (fun v hv => c_X2_isPlace l G N q_this_laid v_this_laid_book v_this_laid_sorts (.int f_this_laid_hour) (.int f_this_laid_law) v_this_laid_minutesTold (.ref q_this_laid_minutes) f_this_laid_places x1 v hv) gX11_stands_X2_isPlace rfl ⟨rfl, rfl⟩ ⟨rfl, by decide, by decide, rfl⟩ rfl rfl [1] rfl rfl rfl dX11_stands_5 rfl rfl ⟨Nat.zero_le _, Nat.zero_le _⟩ (fun v5 hg => ?_)
  refine j_if_eq hX 23 hg dX11_stands_8 (by decide) (fun hg => ?_) (fun hg => ?_)
  · refine j_iconst hX dX11_stands_23 kc_m1 ?_
    cases hg
    exact hret _ _ dX11_stands_24
  · refine j_iload_n hX 2 dX11_stands_11 rfl rfl ?_
    refine j_sRO hX (r := fun v => v) [.int x2] hg (fun v hv => c_X11_isMinute l G N x2 v hv) gX11_stands_X11_isMinute rfl ⟨rfl, rfl⟩ ⟨by decide, by decide, rfl⟩ rfl rfl [] rfl dX11_stands_12 rfl rfl ⟨Nat.zero_le _, Nat.zero_le _⟩ (fun v12 hg => ?_)
    refine j_if_eq hX 23 hg dX11_stands_15 (by decide) (fun hg => ?_) (fun hg => ?_)
    · refine j_iconst hX dX11_stands_23 kc_m1 ?_
      cases hg
      exact hret _ _ dX11_stands_24
    · refine j_iload_n hX 3 dX11_stands_18 rfl rfl ?_
      refine j_iconst hX dX11_stands_19 kc_m1 ?_
      refine j_icmp_ge hX 25 hg dX11_stands_20 (by decide) (fun hg => ?_) (fun hg => ?_)
      · refine j_aload_n hX 0 dX11_stands_25 rfl rfl ?_
        refine j_iload_n hX 1 dX11_stands_26 rfl rfl ?_
        refine j_iload_n hX 2 dX11_stands_27 rfl rfl ?_
        refine j_vRV hX hW (w1 := fun v => (w_X11_standAt G q_this q_this_laid q_this_laid_minutes q_this_beats q_this_beats_place q_this_beats_sort q_this_beats_minute q_this_queue q_this_queue_sort q_this_queue_drummed q_this_queue_heard q_this_row q_this_row_sort q_this_row_mark q_this_row_heard v_this_text v_this_reader v_this_steps v_this_kept v_this_keptSize v_this_told v_this_secrets v_this_trials v_this_later v_this_laid_book v_this_laid_sorts v_this_laid_minutesTold v_this_beats_now f_this_laid_places f_this_laid_hour f_this_laid_law f_this_laid_minutes f_this_beats_place f_this_beats_sort f_this_beats_minute f_this_beats_size v.1 v.2.1 v.2.2.1 v.2.2.2.1 v.2.2.2.2.1 v.2.2.2.2.2.1 v.2.2.2.2.2.2.1 v.2.2.2.2.2.2.2.1 v.2.2.2.2.2.2.2.2)) (ws' := fun v => (w_X11_stands G q_this q_this_laid q_this_laid_minutes q_this_beats q_this_beats_place q_this_beats_sort q_this_beats_minute q_this_queue q_this_queue_sort q_this_queue_drummed q_this_queue_heard q_this_row q_this_row_sort q_this_row_mark q_this_row_heard v_this_text v_this_reader v_this_steps v_this_kept v_this_keptSize v_this_told v_this_secrets v_this_trials v_this_later v_this_laid_book v_this_laid_sorts v_this_laid_minutesTold v_this_beats_now f_this_laid_places f_this_laid_hour f_this_laid_law f_this_laid_minutes f_this_beats_place f_this_beats_sort f_this_beats_minute f_this_beats_size v.1 v.2.1 v.2.2.1 v.2.2.2.1 v.2.2.2.2.1 v.2.2.2.2.2.1 v.2.2.2.2.2.2.1 v.2.2.2.2.2.2.2.1 v.2.2.2.2.2.2.2.2)) [.int x1, .int x2] hg (fun v hv => c_X11_standAt l G N q_this q_this_laid q_this_laid_minutes q_this_beats q_this_beats_place q_this_beats_sort q_this_beats_minute q_this_queue q_this_queue_sort q_this_queue_drummed q_this_queue_heard q_this_row q_this_row_sort q_this_row_mark q_this_row_heard v_this_text v_this_reader v_this_steps v_this_kept v_this_keptSize v_this_told v_this_secrets v_this_trials v_this_later v_this_laid_book v_this_laid_sorts v_this_laid_minutesTold v_this_beats_now f_this_laid_places f_this_laid_hour f_this_laid_law f_this_laid_minutes f_this_beats_place f_this_beats_sort f_this_beats_minute f_this_beats_size f_this_queue_sort f_this_queue_drummed f_this_queue_heard f_this_queue_size f_this_row_sort f_this_row_mark f_this_row_size f_this_row_heard f_this_row_next x1 x2 v hv) gX11_stands_X11_standAt rfl ⟨rfl, rfl⟩ ⟨rfl, by decide, by decide, rfl⟩ rfl rfl [0, 1, 2, 3, 4, 5, 6, 7, 8, 9, 10, 11, 12, 13, 14] (ax_X11_stands_28c _ _ _ _ _ _ _ _ _ _ _ _ _ _ _) (by decide +kernel) rfl rfl dX11_stands_28 rfl rfl ⟨Nat.zero_le _, Nat.zero_le _⟩ (fun _ => jn_ax [0, 1, 2, 3, 4, 5, 6, 7, 8, 9, 10, 11, 12, 13, 14] ([] : List Nat) 15 (ax_X11_stands_28 _ _ _ _ _ _ _ _ _ _ _ _ _ _ _ _ _ _ _ _ _ _ _ _ _ _ _ _ _ _) rfl (by decide +kernel)) (fun v28 hg => ?_)
        refine j_iload_n hX 3 dX11_stands_31 rfl rfl ?_
        refine j_iconst hX dX11_stands_32 kc_m1 ?_
        refine j_icmp_ne hX 44 hg dX11_stands_33 (by decide) (fun hg => ?_) (fun hg => ?_)
        · refine j_aload_n hX 0 dX11_stands_36 rfl rfl ?_
          refine j_get hX 0 11 rfl rfl hinX11 rfl hf_X11_row_89 rfl dX11_stands_37 ?_
          refine j_get hX 11 2 rfl rfl hinX5 rfl hf_X5_size_184 rfl dX11_stands_40 ?_
          cases hg
          exact hret _ _ dX11_stands_43
        · refine j_iload_n hX 3 dX11_stands_44 rfl rfl ?_
          refine j_aload_n hX 0 dX11_stands_45 rfl rfl ?_
          refine j_get hX 0 11 rfl rfl hinX11 rfl hf_X11_row_89 rfl dX11_stands_46 ?_
          refine j_get hX 11 2 rfl rfl hinX5 rfl hf_X5_size_184 rfl dX11_stands_49 ?_
          refine j_icmp_ge hX 67 hg dX11_stands_52 (by decide) (fun hg => ?_) (fun hg => ?_)
          · refine j_bipush hX dX11_stands_67 kb_m4 ?_
            cases hg
            exact hret _ _ dX11_stands_69
          · refine j_aload_n hX 0 dX11_stands_55 rfl rfl ?_
            refine j_get hX 0 11 rfl rfl hinX11 rfl hf_X11_row_89 rfl dX11_stands_56 ?_
            refine j_get hX 11 0 rfl rfl hinX5 rfl hf_X5_sort_185 rfl dX11_stands_59 ?_
            refine j_iload_n hX 3 dX11_stands_62 rfl rfl ?_
            refine j_iald hX 12 rfl hg dX11_stands_63 (fun hg => ?_)
            refine j_goto hX 69 dX11_stands_64 (by decide) ?_
            cases hg
            exact hret _ _ dX11_stands_69
      · refine j_iconst hX dX11_stands_23 kc_m1 ?_
        cases hg
        exact hret _ _ dX11_stands_24
