abbrev w_X9_append (G : jG) (q_this : Nat) (q_this_bytes : Nat) (f_this_bytes : (Nat → Int32)) (f_this_size : Int32) : va_W := [oC q_this 9 [.ref q_this_bytes, .int f_this_size], aB G q_this_bytes 300 f_this_bytes]
def g_X9_append_L19 (N : Nat) : Nat → (Nat → Int32) → Int32 → Int64 → Int32 → Option (Int32 × (Nat → Int32) × Int32)
  | 0, _, _, _, _ => none
  | fu + 1, f_this_bytes, f_this_size, x2, x4 => if x4 < 0 then some (1, f_this_bytes, f_this_size) else gi f_this_size 300 (g_X9_append_L19 N fu (upd f_this_bytes f_this_size.toNatClampNeg (vp_nar .byte ((((x2.toUInt64 >>> ((8 * x4).toInt64.toUInt64 &&& Int64.toUInt64 63)).toInt64 : Int64).toInt32 : Int32).toInt8.toInt32))) (f_this_size + 1) x2 (x4 + (-1)))
def g_X9_append (N : Nat) (f_this_bytes : (Nat → Int32)) (f_this_size : Int32) (x1 : Int32) (x2 : Int64) : Option (Int32 × (Nat → Int32) × Int32) := if (f_this_size + x1) ≤ 300 then g_X9_append_L19 N N f_this_bytes f_this_size x2 (x1 - 1) else some (0, f_this_bytes, f_this_size)
set_option maxHeartbeats 4000000 in
set_option maxRecDepth 100000 in
theorem c_X9_append (l : Launch) (G : jG) (N : Nat) (q_this : Nat) (q_this_bytes : Nat) (f_this_bytes : (Nat → Int32)) (f_this_size : Int32) (x1 : Int32) (x2 : Int64) (u : Int32 × (Nat → Int32) × Int32) (hu : g_X9_append N f_this_bytes f_this_size x1 x2 = some u) : MetRW l G yX9_append wsX9_append ({ frames := 0, cells := 0, slots := 0, locals := 0 } : Room) [.ref q_this, .int x1, .long x2] (w_X9_append G q_this q_this_bytes f_this_bytes f_this_size) (w_X9_append G q_this q_this_bytes u.2.1 u.2.2) u.1 := by
  refine met_rwz (cc := cX9_append) (maxL := 5) (lv0 := [(0, .ref q_this), (1, .int x1), (2, .long x2)]) (by decide) rfl rfl rfl rfl (fun X hX hW hret => ?_)
  have hinX9 : ∀ w ∈ u_ws RX9 TX9 2, w ∈ wsX9_append := by decide +kernel
  have hf_X9_bytes_9 : Cond.fieldLink RX9 9 (TX9 0).1 (TX9 0).2.1 (TX9 0).2.2.1 ∈ wsX9_append := by decide +kernel
  have hf_X9_size_15 : Cond.fieldLink RX9 15 (TX9 1).1 (TX9 1).2.1 (TX9 1).2.2.1 ∈ wsX9_append := by decide +kernel
  have L19 : ∀ (fu19 : Nat), ∀ (f_this_bytes : (Nat → Int32)) (f_this_size : Int32) (x2 : Int64) (x4 : Int32), g_X9_append_L19 N fu19 f_this_bytes f_this_size x2 x4 = some u → J X 0 0 (w_X9_append G q_this q_this_bytes f_this_bytes f_this_size) 19 [(0, .ref q_this), (2, .long x2), (4, .int x4)] [] := by
    intro fu19
    induction fu19 with
    | zero => intro f_this_bytes f_this_size x2 x4 hg; exact nomatch hg
    | succ fu19 ih19 =>
      intro f_this_bytes f_this_size x2 x4 hg
      unfold g_X9_append_L19 at hg
      refine j_iload hX 2 dX9_append_19 rfl ?_
      refine j_if_lt hX 58 hg dX9_append_21 (by decide) (fun hg => ?_) (fun hg => ?_)
      · refine j_iconst hX dX9_append_58 kc_1 ?_
        cases hg
        exact hret _ _ (Or.inr rfl) dX9_append_59
      · refine j_aload_n hX 0 dX9_append_24 rfl rfl ?_
        refine j_get hX 0 0 rfl rfl hinX9 rfl hf_X9_bytes_9 rfl dX9_append_25 ?_
        refine j_aload_n hX 0 dX9_append_28 rfl rfl ?_
        refine j_get hX 0 1 rfl rfl hinX9 rfl hf_X9_size_15 rfl dX9_append_29 ?_
        refine j_lload_n hX 1 dX9_append_32 rfl rfl ?_
        refine j_bipush hX dX9_append_33 kb_8 ?_
        refine j_iload hX 2 dX9_append_35 rfl ?_
        refine j_imul hX dX9_append_37 ?_
        refine j_lushr hX dX9_append_38 ?_
        refine j_l2i hX dX9_append_39 ?_
        refine j_i2b hX dX9_append_40 ?_
        refine j_bast hX hW 1 rfl hg dX9_append_41 (ws' := (w_X9_append G q_this q_this_bytes (upd f_this_bytes f_this_size.toNatClampNeg (vp_nar .byte ((((x2.toUInt64 >>> ((8 * x4).toInt64.toUInt64 &&& Int64.toUInt64 63)).toInt64 : Int64).toInt32 : Int32).toInt8.toInt32))) f_this_size)) rfl (fun hg => ?_)
        refine j_aload_n hX 0 dX9_append_42 rfl rfl ?_
        refine j_dup hX dX9_append_43 rfl ?_
        refine j_get hX 0 1 rfl rfl hinX9 rfl hf_X9_size_15 rfl dX9_append_44 ?_
        refine j_iconst hX dX9_append_47 kc_1 ?_
        refine j_iadd hX dX9_append_48 ?_
        refine j_put hX hW 0 1 rfl rfl hinX9 tyX9 tyX9_ok nmX9 rfl hf_X9_size_15 rfl rfl rfl rfl dX9_append_49 (ws' := (w_X9_append G q_this q_this_bytes (upd f_this_bytes f_this_size.toNatClampNeg (vp_nar .byte ((((x2.toUInt64 >>> ((8 * x4).toInt64.toUInt64 &&& Int64.toUInt64 63)).toInt64 : Int64).toInt32 : Int32).toInt8.toInt32))) (f_this_size + 1))) rfl ?_
        refine j_iinc hX 2 (v := x4 + (-1)) (lv' := [(4, .int (x4 + (-1))), (0, .ref q_this), (2, .long x2)]) dX9_append_52 rfl (by rw [kc_m1]) rfl rfl ?_
        refine j_goto hX 19 dX9_append_55 (by decide) ?_
        refine j_lv [1, 2, 0] rfl ?_
        exact ih19 _ _ _ _ hg
  have hg := hu
  unfold g_X9_append at hg
  refine j_aload_n hX 0 dX9_append_0 rfl rfl ?_
  refine j_get hX 0 1 rfl rfl hinX9 rfl hf_X9_size_15 rfl dX9_append_1 ?_
  refine j_iload_n hX 1 dX9_append_4 rfl rfl ?_
  refine j_iadd hX dX9_append_5 ?_
  refine j_sipush hX dX9_append_6 ks_300 ?_
  refine j_icmp_le hX 14 hg dX9_append_9 (by decide) (fun hg => ?_) (fun hg => ?_)
  · refine j_iload_n hX 1 dX9_append_14 rfl rfl ?_
    refine j_iconst hX dX9_append_15 kc_1 ?_
    refine j_isub hX dX9_append_16 ?_
    refine j_istore hX (lv' := [(4, .int (x1 - 1)), (0, .ref q_this), (1, .int x1), (2, .long x2)]) dX9_append_17 rfl rfl ?_
    refine j_lv [1, 3, 0] rfl ?_
    exact L19 N _ _ _ _ hg
  · refine j_iconst hX dX9_append_12 kc_0 ?_
    cases hg
    exact hret _ _ (Or.inl rfl) dX9_append_13
abbrev w_X11_write (G : jG) (q_this : Nat) (q_this_text : Nat) (q_this_text_bytes : Nat) (v_this_reader : Value) (v_this_laid : Value) (v_this_beats : Value) (v_this_steps : Value) (v_this_kept : Value) (v_this_keptSize : Value) (v_this_told : Value) (v_this_secrets : Value) (v_this_trials : Value) (v_this_queue : Value) (v_this_row : Value) (v_this_later : Value) (f_this_text_bytes : (Nat → Int32)) (f_this_text_size : Int32) : va_W := [oC q_this 11 [.ref q_this_text, v_this_reader, v_this_laid, v_this_beats, v_this_steps, v_this_kept, v_this_keptSize, v_this_told, v_this_secrets, v_this_trials, v_this_queue, v_this_row, v_this_later], oC q_this_text 9 [.ref q_this_text_bytes, .int f_this_text_size], aB G q_this_text_bytes 300 f_this_text_bytes]
def g_X11_write (N : Nat) (f_this_text_bytes : (Nat → Int32)) (f_this_text_size : Int32) (x1 : Int32) (x2 : Int64) : Option (Int32 × (Nat → Int32) × Int32) := if x1 < 1 then some ((-1), f_this_text_bytes, f_this_text_size) else if x1 ≤ 8 then (g_X9_append N f_this_text_bytes f_this_text_size x1 x2).bind fun v19 => if v19.1 = 0 then some ((-3), v19.2.1, v19.2.2) else some (v19.2.2, v19.2.1, v19.2.2) else some ((-1), f_this_text_bytes, f_this_text_size)
set_option maxHeartbeats 4000000 in
set_option maxRecDepth 100000 in
theorem c_X11_write (l : Launch) (G : jG) (N : Nat) (q_this : Nat) (q_this_text : Nat) (q_this_text_bytes : Nat) (v_this_reader : Value) (v_this_laid : Value) (v_this_beats : Value) (v_this_steps : Value) (v_this_kept : Value) (v_this_keptSize : Value) (v_this_told : Value) (v_this_secrets : Value) (v_this_trials : Value) (v_this_queue : Value) (v_this_row : Value) (v_this_later : Value) (f_this_text_bytes : (Nat → Int32)) (f_this_text_size : Int32) (x1 : Int32) (x2 : Int64) (u : Int32 × (Nat → Int32) × Int32) (hu : g_X11_write N f_this_text_bytes f_this_text_size x1 x2 = some u) : MetRW l G yX11_write wsX11_write ({ frames := 1, cells := 0, slots := 0, locals := 24 } : Room) [.ref q_this, .int x1, .long x2] (w_X11_write G q_this q_this_text q_this_text_bytes v_this_reader v_this_laid v_this_beats v_this_steps v_this_kept v_this_keptSize v_this_told v_this_secrets v_this_trials v_this_queue v_this_row v_this_later f_this_text_bytes f_this_text_size) (w_X11_write G q_this q_this_text q_this_text_bytes v_this_reader v_this_laid v_this_beats v_this_steps v_this_kept v_this_keptSize v_this_told v_this_secrets v_this_trials v_this_queue v_this_row v_this_later u.2.1 u.2.2) u.1 := by
  refine met_rwi (cc := cX11_write) (maxL := 4) (lv0 := [(0, .ref q_this), (1, .int x1), (2, .long x2)]) (by decide) rfl rfl rfl rfl (fun X hX hW hret => ?_)
  have hinX11 : ∀ w ∈ u_ws RX11 TX11 13, w ∈ wsX11_write := by decide +kernel
  have hinX9 : ∀ w ∈ u_ws RX9 TX9 2, w ∈ wsX11_write := by decide +kernel
  have hf_X11_text_10 : Cond.fieldLink RX11 10 (TX11 0).1 (TX11 0).2.1 (TX11 0).2.2.1 ∈ wsX11_write := by decide +kernel
  have hf_X9_size_100 : Cond.fieldLink RX11 100 (TX9 1).1 (TX9 1).2.1 (TX9 1).2.2.1 ∈ wsX11_write := by decide +kernel
  have hg := hu
  unfold g_X11_write at hg
  refine j_iload_n hX 1 dX11_write_0 rfl rfl ?_
  refine j_iconst hX dX11_write_1 kc_1 ?_
  refine j_icmp_lt hX 11 hg dX11_write_2 (by decide) (fun hg => ?_) (fun hg => ?_)
  · refine j_iconst hX dX11_write_11 kc_m1 ?_
    cases hg
    exact hret _ _ dX11_write_12
  · refine j_iload_n hX 1 dX11_write_5 rfl rfl ?_
    refine j_bipush hX dX11_write_6 kb_8 ?_
    refine j_icmp_le hX 13 hg dX11_write_8 (by decide) (fun hg => ?_) (fun hg => ?_)
    · refine j_aload_n hX 0 dX11_write_13 rfl rfl ?_
      refine j_get hX 0 0 rfl rfl hinX11 rfl hf_X11_text_10 rfl dX11_write_14 ?_
      refine j_iload_n hX 1 dX11_write_17 rfl rfl ?_
      refine j_lload_n hX 2 dX11_write_18 rfl rfl ?_
      refine j_vRW hX hW (r := fun v => v.1) (w1 := fun v => (w_X9_append G q_this_text q_this_text_bytes v.2.1 v.2.2)) (ws' := fun v => (w_X11_write G q_this q_this_text q_this_text_bytes v_this_reader v_this_laid v_this_beats v_this_steps v_this_kept v_this_keptSize v_this_told v_this_secrets v_this_trials v_this_queue v_this_row v_this_later v.2.1 v.2.2)) [.int x1, .long x2] hg (fun v hv => c_X9_append l G N q_this_text q_this_text_bytes f_this_text_bytes f_this_text_size x1 x2 v hv) gX11_write_X9_append rfl ⟨rfl, rfl⟩ ⟨rfl, by decide, by decide, rfl⟩ rfl rfl [1, 2] rfl (by decide +kernel) rfl rfl dX11_write_19 rfl rfl ⟨Nat.zero_le _, Nat.zero_le _⟩ (fun _ => jn_set [1, 2] rfl rfl rfl) (fun v19 hg => ?_)
      refine j_if_eq hX 35 hg dX11_write_22 (by decide) (fun hg => ?_) (fun hg => ?_)
      · refine j_bipush hX dX11_write_35 kb_m3 ?_
        cases hg
        exact hret _ _ dX11_write_37
      · refine j_aload_n hX 0 dX11_write_25 rfl rfl ?_
        refine j_get hX 0 0 rfl rfl hinX11 rfl hf_X11_text_10 rfl dX11_write_26 ?_
        refine j_get hX 1 1 rfl rfl hinX9 rfl hf_X9_size_100 rfl dX11_write_29 ?_
        refine j_goto hX 37 dX11_write_32 (by decide) ?_
        cases hg
        exact hret _ _ dX11_write_37
    · refine j_iconst hX dX11_write_11 kc_m1 ?_
      cases hg
      exact hret _ _ dX11_write_12
abbrev w_X11_wipe (G : jG) (q_this : Nat) (q_this_text : Nat) (v_this_reader : Value) (v_this_laid : Value) (v_this_beats : Value) (v_this_steps : Value) (v_this_kept : Value) (v_this_keptSize : Value) (v_this_told : Value) (v_this_secrets : Value) (v_this_trials : Value) (v_this_queue : Value) (v_this_row : Value) (v_this_later : Value) (v_this_text_bytes : Value) (f_this_text_size : Int32) : va_W := [oC q_this 11 [.ref q_this_text, v_this_reader, v_this_laid, v_this_beats, v_this_steps, v_this_kept, v_this_keptSize, v_this_told, v_this_secrets, v_this_trials, v_this_queue, v_this_row, v_this_later], oC q_this_text 9 [v_this_text_bytes, .int f_this_text_size]]
def g_X11_wipe (N : Nat) (f_this_text_size : Int32) : Option (Int32 × Int32) := some (f_this_text_size, 0)
set_option maxHeartbeats 4000000 in
set_option maxRecDepth 100000 in
theorem c_X11_wipe (l : Launch) (G : jG) (N : Nat) (q_this : Nat) (q_this_text : Nat) (v_this_reader : Value) (v_this_laid : Value) (v_this_beats : Value) (v_this_steps : Value) (v_this_kept : Value) (v_this_keptSize : Value) (v_this_told : Value) (v_this_secrets : Value) (v_this_trials : Value) (v_this_queue : Value) (v_this_row : Value) (v_this_later : Value) (v_this_text_bytes : Value) (f_this_text_size : Int32) (u : Int32 × Int32) (hu : g_X11_wipe N f_this_text_size = some u) : MetRW l G yX11_wipe wsX11_wipe ({ frames := 0, cells := 0, slots := 0, locals := 0 } : Room) [.ref q_this] (w_X11_wipe G q_this q_this_text v_this_reader v_this_laid v_this_beats v_this_steps v_this_kept v_this_keptSize v_this_told v_this_secrets v_this_trials v_this_queue v_this_row v_this_later v_this_text_bytes f_this_text_size) (w_X11_wipe G q_this q_this_text v_this_reader v_this_laid v_this_beats v_this_steps v_this_kept v_this_keptSize v_this_told v_this_secrets v_this_trials v_this_queue v_this_row v_this_later v_this_text_bytes u.2) u.1 := by
  refine met_rwi (cc := cX11_wipe) (maxL := 2) (lv0 := [(0, .ref q_this)]) (by decide) rfl rfl rfl rfl (fun X hX hW hret => ?_)
  have hinX11 : ∀ w ∈ u_ws RX11 TX11 13, w ∈ wsX11_wipe := by decide +kernel
  have hinX9 : ∀ w ∈ u_ws RX9 TX9 2, w ∈ wsX11_wipe := by decide +kernel
  have hf_X11_text_10 : Cond.fieldLink RX11 10 (TX11 0).1 (TX11 0).2.1 (TX11 0).2.2.1 ∈ wsX11_wipe := by decide +kernel
  have hf_X9_size_100 : Cond.fieldLink RX11 100 (TX9 1).1 (TX9 1).2.1 (TX9 1).2.2.1 ∈ wsX11_wipe := by decide +kernel
  have hg := hu
  unfold g_X11_wipe at hg
  refine j_aload_n hX 0 dX11_wipe_0 rfl rfl ?_
  refine j_get hX 0 0 rfl rfl hinX11 rfl hf_X11_text_10 rfl dX11_wipe_1 ?_
  refine j_get hX 1 1 rfl rfl hinX9 rfl hf_X9_size_100 rfl dX11_wipe_4 ?_
  refine j_istore_n hX (lv' := [(1, .int f_this_text_size), (0, .ref q_this)]) dX11_wipe_7 rfl rfl rfl ?_
  refine j_aload_n hX 1 dX11_wipe_8 rfl rfl ?_
  refine j_get hX 0 0 rfl rfl hinX11 rfl hf_X11_text_10 rfl dX11_wipe_9 ?_
  refine j_iconst hX dX11_wipe_12 kc_0 ?_
  refine j_put hX hW 1 1 rfl rfl hinX9 tyX9 tyX9_ok nmX9 rfl hf_X9_size_100 rfl rfl rfl rfl dX11_wipe_13 (ws' := (w_X11_wipe G q_this q_this_text v_this_reader v_this_laid v_this_beats v_this_steps v_this_kept v_this_keptSize v_this_told v_this_secrets v_this_trials v_this_queue v_this_row v_this_later v_this_text_bytes 0)) rfl ?_
  refine j_iload_n hX 0 dX11_wipe_16 rfl rfl ?_
  cases hg
  exact hret _ _ dX11_wipe_17
abbrev w_X2_clear (G : jG) (q_this : Nat) (q_this_book : Nat) (q_this_minutes : Nat) (v_this_book_words : Value) (f_this_book_size : Int32) (f_this_places : Int32) (f_this_sorts : Int32) (f_this_hour : Int32) (f_this_law : Int32) (f_this_minutesTold : Int32) (f_this_minutes : (Nat → Int32)) : va_W := [oC q_this 2 [.ref q_this_book, .int f_this_places, .int f_this_sorts, .int f_this_hour, .int f_this_law, .int f_this_minutesTold, .ref q_this_minutes], oC q_this_book 1 [v_this_book_words, .int f_this_book_size], aI G q_this_minutes 25 f_this_minutes]
def g_X2_clear_b75 (N : Nat) (rec_37 : Int32 → Int32 → Int32 → Int32 → Int32 → Int32 → (Nat → Int32) → Int32 → Option (Int32 × Int32 × Int32 × Int32 × Int32 × Int32 × (Nat → Int32))) (f_this_book_size : Int32) (f_this_places : Int32) (f_this_sorts : Int32) (f_this_hour : Int32) (f_this_law : Int32) (f_this_minutesTold : Int32) (f_this_minutes : (Nat → Int32)) (x1 : Int32) : Option (Int32 × Int32 × Int32 × Int32 × Int32 × Int32 × (Nat → Int32)) := rec_37 f_this_book_size f_this_places f_this_sorts f_this_hour f_this_law f_this_minutesTold f_this_minutes (x1 + 1)
def g_X2_clear_b68 (N : Nat) (rec_44 : Int32 → Int32 → Int32 → Int32 → Int32 → Int32 → (Nat → Int32) → Int32 → Int32 → Option (Int32 × Int32 × Int32 × Int32 × Int32 × Int32 × (Nat → Int32))) (f_this_book_size : Int32) (f_this_places : Int32) (f_this_sorts : Int32) (f_this_hour : Int32) (f_this_law : Int32) (f_this_minutesTold : Int32) (f_this_minutes : (Nat → Int32)) (x1 : Int32) (x2 : Int32) (s1 : Int32) (s2 : Int32) : Option (Int32 × Int32 × Int32 × Int32 × Int32 × Int32 × (Nat → Int32)) := gi s1 25 (rec_44 f_this_book_size f_this_places f_this_sorts f_this_hour f_this_law f_this_minutesTold (upd f_this_minutes s1.toNatClampNeg s2) x1 (x2 + 1))
def g_X2_clear_L44 (N : Nat) (k_75 : Int32 → Int32 → Int32 → Int32 → Int32 → Int32 → (Nat → Int32) → Int32 → Option (Int32 × Int32 × Int32 × Int32 × Int32 × Int32 × (Nat → Int32))) : Nat → Int32 → Int32 → Int32 → Int32 → Int32 → Int32 → (Nat → Int32) → Int32 → Int32 → Option (Int32 × Int32 × Int32 × Int32 × Int32 × Int32 × (Nat → Int32))
  | 0, _, _, _, _, _, _, _, _, _ => none
  | fu + 1, f_this_book_size, f_this_places, f_this_sorts, f_this_hour, f_this_law, f_this_minutesTold, f_this_minutes, x1, x2 => if (5 : Int32) ≤ x2 then k_75 f_this_book_size f_this_places f_this_sorts f_this_hour f_this_law f_this_minutesTold f_this_minutes x1 else if x1 = x2 then g_X2_clear_b68 N (g_X2_clear_L44 N k_75 fu) f_this_book_size f_this_places f_this_sorts f_this_hour f_this_law f_this_minutesTold f_this_minutes x1 x2 ((x1 * 5) + x2) 0 else g_X2_clear_b68 N (g_X2_clear_L44 N k_75 fu) f_this_book_size f_this_places f_this_sorts f_this_hour f_this_law f_this_minutesTold f_this_minutes x1 x2 ((x1 * 5) + x2) 3
def g_X2_clear_L37 (N : Nat) : Nat → Int32 → Int32 → Int32 → Int32 → Int32 → Int32 → (Nat → Int32) → Int32 → Option (Int32 × Int32 × Int32 × Int32 × Int32 × Int32 × (Nat → Int32))
  | 0, _, _, _, _, _, _, _, _ => none
  | fu + 1, f_this_book_size, f_this_places, f_this_sorts, f_this_hour, f_this_law, f_this_minutesTold, f_this_minutes, x1 => if (5 : Int32) ≤ x1 then some (f_this_book_size, f_this_places, f_this_sorts, f_this_hour, f_this_law, f_this_minutesTold, f_this_minutes) else g_X2_clear_L44 N (g_X2_clear_b75 N (g_X2_clear_L37 N fu)) N f_this_book_size f_this_places f_this_sorts f_this_hour f_this_law f_this_minutesTold f_this_minutes x1 0
def g_X2_clear (N : Nat) (f_this_book_size : Int32) (f_this_places : Int32) (f_this_sorts : Int32) (f_this_hour : Int32) (f_this_law : Int32) (f_this_minutesTold : Int32) (f_this_minutes : (Nat → Int32)) : Option (Int32 × Int32 × Int32 × Int32 × Int32 × Int32 × (Nat → Int32)) := g_X2_clear_L37 N N 0 2 8 20 0 0 f_this_minutes 0
set_option maxHeartbeats 4000000 in
set_option maxRecDepth 100000 in
theorem c_X2_clear (l : Launch) (G : jG) (N : Nat) (q_this : Nat) (q_this_book : Nat) (q_this_minutes : Nat) (v_this_book_words : Value) (f_this_book_size : Int32) (f_this_places : Int32) (f_this_sorts : Int32) (f_this_hour : Int32) (f_this_law : Int32) (f_this_minutesTold : Int32) (f_this_minutes : (Nat → Int32)) (u : Int32 × Int32 × Int32 × Int32 × Int32 × Int32 × (Nat → Int32)) (hu : g_X2_clear N f_this_book_size f_this_places f_this_sorts f_this_hour f_this_law f_this_minutesTold f_this_minutes = some u) : MetRV l G yX2_clear wsX2_clear ({ frames := 0, cells := 0, slots := 0, locals := 0 } : Room) [.ref q_this] (w_X2_clear G q_this q_this_book q_this_minutes v_this_book_words f_this_book_size f_this_places f_this_sorts f_this_hour f_this_law f_this_minutesTold f_this_minutes) (w_X2_clear G q_this q_this_book q_this_minutes v_this_book_words u.1 u.2.1 u.2.2.1 u.2.2.2.1 u.2.2.2.2.1 u.2.2.2.2.2.1 u.2.2.2.2.2.2) := by
  refine met_rwv (cc := cX2_clear) (maxL := 3) (lv0 := [(0, .ref q_this)]) (by decide) rfl rfl rfl rfl (fun X hX hW hret => ?_)
  have hinX1 : ∀ w ∈ u_ws RX1 TX1 2, w ∈ wsX2_clear := by decide +kernel
  have hinX2 : ∀ w ∈ u_ws RX2 TX2 7, w ∈ wsX2_clear := by decide +kernel
  have hf_X1_size_25 : Cond.fieldLink RX2 25 (TX1 1).1 (TX1 1).2.1 (TX1 1).2.2.1 ∈ wsX2_clear := by decide +kernel
  have hf_X2_book_12 : Cond.fieldLink RX2 12 (TX2 0).1 (TX2 0).2.1 (TX2 0).2.2.1 ∈ wsX2_clear := by decide +kernel
  have hf_X2_hour_35 : Cond.fieldLink RX2 35 (TX2 3).1 (TX2 3).2.1 (TX2 3).2.2.1 ∈ wsX2_clear := by decide +kernel
  have hf_X2_law_38 : Cond.fieldLink RX2 38 (TX2 4).1 (TX2 4).2.1 (TX2 4).2.2.1 ∈ wsX2_clear := by decide +kernel
  have hf_X2_minutes_18 : Cond.fieldLink RX2 18 (TX2 6).1 (TX2 6).2.1 (TX2 6).2.2.1 ∈ wsX2_clear := by decide +kernel
  have hf_X2_minutesTold_41 : Cond.fieldLink RX2 41 (TX2 5).1 (TX2 5).2.1 (TX2 5).2.2.1 ∈ wsX2_clear := by decide +kernel
  have hf_X2_places_29 : Cond.fieldLink RX2 29 (TX2 1).1 (TX2 1).2.1 (TX2 1).2.2.1 ∈ wsX2_clear := by decide +kernel
  have hf_X2_sorts_32 : Cond.fieldLink RX2 32 (TX2 2).1 (TX2 2).2.1 (TX2 2).2.2.1 ∈ wsX2_clear := by decide +kernel
  have L37 : ∀ (fu37 : Nat), ∀ (f_this_book_size : Int32) (f_this_places : Int32) (f_this_sorts : Int32) (f_this_hour : Int32) (f_this_law : Int32) (f_this_minutesTold : Int32) (f_this_minutes : (Nat → Int32)) (x1 : Int32), g_X2_clear_L37 N fu37 f_this_book_size f_this_places f_this_sorts f_this_hour f_this_law f_this_minutesTold f_this_minutes x1 = some u → J X 0 0 (w_X2_clear G q_this q_this_book q_this_minutes v_this_book_words f_this_book_size f_this_places f_this_sorts f_this_hour f_this_law f_this_minutesTold f_this_minutes) 37 [(0, .ref q_this), (1, .int x1)] [] := by
    intro fu37
    induction fu37 with
    | zero => intro f_this_book_size f_this_places f_this_sorts f_this_hour f_this_law f_this_minutesTold f_this_minutes x1 hg; exact nomatch hg
    | succ fu37 ih37 =>
      have B75 : ∀ (f_this_book_size : Int32) (f_this_places : Int32) (f_this_sorts : Int32) (f_this_hour : Int32) (f_this_law : Int32) (f_this_minutesTold : Int32) (f_this_minutes : (Nat → Int32)) (x1 : Int32), g_X2_clear_b75 N (g_X2_clear_L37 N fu37) f_this_book_size f_this_places f_this_sorts f_this_hour f_this_law f_this_minutesTold f_this_minutes x1 = some u → J X 0 0 (w_X2_clear G q_this q_this_book q_this_minutes v_this_book_words f_this_book_size f_this_places f_this_sorts f_this_hour f_this_law f_this_minutesTold f_this_minutes) 75 [(0, .ref q_this), (1, .int x1)] [] := by
        intro f_this_book_size f_this_places f_this_sorts f_this_hour f_this_law f_this_minutesTold f_this_minutes x1 hg
        unfold g_X2_clear_b75 at hg
        refine j_iinc hX 1 (v := x1 + 1) (lv' := [(1, .int (x1 + 1)), (0, .ref q_this)]) dX2_clear_75 rfl (by rw [kc_1]) rfl rfl ?_
        refine j_goto hX 37 dX2_clear_78 (by decide) ?_
        refine j_lv [1, 0] rfl ?_
        exact ih37 _ _ _ _ _ _ _ _ hg
      have L44 : ∀ (fu44 : Nat), ∀ (f_this_book_size : Int32) (f_this_places : Int32) (f_this_sorts : Int32) (f_this_hour : Int32) (f_this_law : Int32) (f_this_minutesTold : Int32) (f_this_minutes : (Nat → Int32)) (x1 : Int32) (x2 : Int32), g_X2_clear_L44 N (g_X2_clear_b75 N (g_X2_clear_L37 N fu37)) fu44 f_this_book_size f_this_places f_this_sorts f_this_hour f_this_law f_this_minutesTold f_this_minutes x1 x2 = some u → J X 0 0 (w_X2_clear G q_this q_this_book q_this_minutes v_this_book_words f_this_book_size f_this_places f_this_sorts f_this_hour f_this_law f_this_minutesTold f_this_minutes) 44 [(0, .ref q_this), (1, .int x1), (2, .int x2)] [] := by
        intro fu44
        induction fu44 with
        | zero => intro f_this_book_size f_this_places f_this_sorts f_this_hour f_this_law f_this_minutesTold f_this_minutes x1 x2 hg; exact nomatch hg
        | succ fu44 ih44 =>
          have B68 : ∀ (f_this_book_size : Int32) (f_this_places : Int32) (f_this_sorts : Int32) (f_this_hour : Int32) (f_this_law : Int32) (f_this_minutesTold : Int32) (f_this_minutes : (Nat → Int32)) (x1 : Int32) (x2 : Int32) (s1 : Int32) (s2 : Int32), g_X2_clear_b68 N (g_X2_clear_L44 N (g_X2_clear_b75 N (g_X2_clear_L37 N fu37)) fu44) f_this_book_size f_this_places f_this_sorts f_this_hour f_this_law f_this_minutesTold f_this_minutes x1 x2 s1 s2 = some u → J X 0 0 (w_X2_clear G q_this q_this_book q_this_minutes v_this_book_words f_this_book_size f_this_places f_this_sorts f_this_hour f_this_law f_this_minutesTold f_this_minutes) 68 [(0, .ref q_this), (1, .int x1), (2, .int x2)] [.int s2, .int s1, .ref q_this_minutes] := by
            intro f_this_book_size f_this_places f_this_sorts f_this_hour f_this_law f_this_minutesTold f_this_minutes x1 x2 s1 s2 hg
            unfold g_X2_clear_b68 at hg
            refine j_iast hX hW 2 rfl hg dX2_clear_68 (ws' := (w_X2_clear G q_this q_this_book q_this_minutes v_this_book_words f_this_book_size f_this_places f_this_sorts f_this_hour f_this_law f_this_minutesTold (upd f_this_minutes s1.toNatClampNeg s2))) rfl (fun hg => ?_)
            refine j_iinc hX 2 (v := x2 + 1) (lv' := [(2, .int (x2 + 1)), (0, .ref q_this), (1, .int x1)]) dX2_clear_69 rfl (by rw [kc_1]) rfl rfl ?_
            refine j_goto hX 44 dX2_clear_72 (by decide) ?_
            refine j_lv [1, 2, 0] rfl ?_
            exact ih44 _ _ _ _ _ _ _ _ _ hg
          intro f_this_book_size f_this_places f_this_sorts f_this_hour f_this_law f_this_minutesTold f_this_minutes x1 x2 hg
          unfold g_X2_clear_L44 at hg
          refine j_iload_n hX 2 dX2_clear_44 rfl rfl ?_
          refine j_iconst hX dX2_clear_45 kc_5 ?_
          refine j_icmp_ge hX 75 hg dX2_clear_46 (by decide) (fun hg => ?_) (fun hg => ?_)
          · refine j_lv [0, 1] rfl ?_
            exact B75 _ _ _ _ _ _ _ _ hg
          · refine j_aload_n hX 0 dX2_clear_49 rfl rfl ?_
            refine j_get hX 0 6 rfl rfl hinX2 rfl hf_X2_minutes_18 rfl dX2_clear_50 ?_
            refine j_iload_n hX 1 dX2_clear_53 rfl rfl ?_
            refine j_iconst hX dX2_clear_54 kc_5 ?_
            refine j_imul hX dX2_clear_55 ?_
            refine j_iload_n hX 2 dX2_clear_56 rfl rfl ?_
            refine j_iadd hX dX2_clear_57 ?_
            refine j_iload_n hX 1 dX2_clear_58 rfl rfl ?_
            refine j_iload_n hX 2 dX2_clear_59 rfl rfl ?_
            refine j_icmp_ne hX 67 hg dX2_clear_60 (by decide) (fun hg => ?_) (fun hg => ?_)
            · refine j_iconst hX dX2_clear_63 kc_0 ?_
              refine j_goto hX 68 dX2_clear_64 (by decide) ?_
              exact B68 _ _ _ _ _ _ _ _ _ _ _ hg
            · refine j_iconst hX dX2_clear_67 kc_3 ?_
              exact B68 _ _ _ _ _ _ _ _ _ _ _ hg
      intro f_this_book_size f_this_places f_this_sorts f_this_hour f_this_law f_this_minutesTold f_this_minutes x1 hg
      unfold g_X2_clear_L37 at hg
      refine j_iload_n hX 1 dX2_clear_37 rfl rfl ?_
      refine j_iconst hX dX2_clear_38 kc_5 ?_
      refine j_icmp_ge hX 81 hg dX2_clear_39 (by decide) (fun hg => ?_) (fun hg => ?_)
      · cases hg
        exact hret _ _ dX2_clear_81
      · refine j_iconst hX dX2_clear_42 kc_0 ?_
        refine j_istore_n hX (lv' := [(2, .int 0), (0, .ref q_this), (1, .int x1)]) dX2_clear_43 rfl rfl rfl ?_
        refine j_lv [1, 2, 0] rfl ?_
        exact L44 N _ _ _ _ _ _ _ _ _ hg
  have hg := hu
  unfold g_X2_clear at hg
  refine j_aload_n hX 0 dX2_clear_0 rfl rfl ?_
  refine j_get hX 0 0 rfl rfl hinX2 rfl hf_X2_book_12 rfl dX2_clear_1 ?_
  refine j_iconst hX dX2_clear_4 kc_0 ?_
  refine j_put hX hW 1 1 rfl rfl hinX1 tyX1 tyX1_ok nmX1 rfl hf_X1_size_25 rfl rfl rfl rfl dX2_clear_5 (ws' := (w_X2_clear G q_this q_this_book q_this_minutes v_this_book_words 0 f_this_places f_this_sorts f_this_hour f_this_law f_this_minutesTold f_this_minutes)) rfl ?_
  refine j_aload_n hX 0 dX2_clear_8 rfl rfl ?_
  refine j_iconst hX dX2_clear_9 kc_2 ?_
  refine j_put hX hW 0 1 rfl rfl hinX2 tyX2 tyX2_ok nmX2 rfl hf_X2_places_29 rfl rfl rfl rfl dX2_clear_10 (ws' := (w_X2_clear G q_this q_this_book q_this_minutes v_this_book_words 0 2 f_this_sorts f_this_hour f_this_law f_this_minutesTold f_this_minutes)) rfl ?_
  refine j_aload_n hX 0 dX2_clear_13 rfl rfl ?_
  refine j_bipush hX dX2_clear_14 kb_8 ?_
  refine j_put hX hW 0 2 rfl rfl hinX2 tyX2 tyX2_ok nmX2 rfl hf_X2_sorts_32 rfl rfl rfl rfl dX2_clear_16 (ws' := (w_X2_clear G q_this q_this_book q_this_minutes v_this_book_words 0 2 8 f_this_hour f_this_law f_this_minutesTold f_this_minutes)) rfl ?_
  refine j_aload_n hX 0 dX2_clear_19 rfl rfl ?_
  refine j_bipush hX dX2_clear_20 kb_20 ?_
  refine j_put hX hW 0 3 rfl rfl hinX2 tyX2 tyX2_ok nmX2 rfl hf_X2_hour_35 rfl rfl rfl rfl dX2_clear_22 (ws' := (w_X2_clear G q_this q_this_book q_this_minutes v_this_book_words 0 2 8 20 f_this_law f_this_minutesTold f_this_minutes)) rfl ?_
  refine j_aload_n hX 0 dX2_clear_25 rfl rfl ?_
  refine j_iconst hX dX2_clear_26 kc_0 ?_
  refine j_put hX hW 0 4 rfl rfl hinX2 tyX2 tyX2_ok nmX2 rfl hf_X2_law_38 rfl rfl rfl rfl dX2_clear_27 (ws' := (w_X2_clear G q_this q_this_book q_this_minutes v_this_book_words 0 2 8 20 0 f_this_minutesTold f_this_minutes)) rfl ?_
  refine j_aload_n hX 0 dX2_clear_30 rfl rfl ?_
  refine j_iconst hX dX2_clear_31 kc_0 ?_
  refine j_put hX hW 0 5 rfl rfl hinX2 tyX2 tyX2_ok nmX2 rfl hf_X2_minutesTold_41 rfl (nar_z (Or.inl rfl)) (fit_z (Or.inl rfl)) rfl dX2_clear_32 (ws' := (w_X2_clear G q_this q_this_book q_this_minutes v_this_book_words 0 2 8 20 0 0 f_this_minutes)) rfl ?_
  refine j_iconst hX dX2_clear_35 kc_0 ?_
  refine j_istore_n hX (lv' := [(1, .int 0), (0, .ref q_this)]) dX2_clear_36 rfl rfl rfl ?_
  refine j_lv [1, 0] rfl ?_
  exact L37 N _ _ _ _ _ _ _ _ hg
abbrev w_X7_copyFrom (G : jG) (q_this : Nat) (q_this_sort : Nat) (q_a1 : Nat) (q_a1_sort : Nat) (n_this : Nat) (n_a1 : Nat) (f_this_sort : (Nat → Int32)) (f_this_size : Int32) (f_a1_sort : (Nat → Int32)) (f_a1_size : Int32) : va_W := [oC q_this 7 [.ref q_this_sort, .int f_this_size], aI G q_this_sort n_this f_this_sort, oC q_a1 7 [.ref q_a1_sort, .int f_a1_size], aI G q_a1_sort n_a1 f_a1_sort]
def g_X7_copyFrom_L18 (N : Nat) (n_this : Nat) (n_a1 : Nat) (f_a1_sort : (Nat → Int32)) (f_a1_size : Int32) : Nat → (Nat → Int32) → Int32 → Int32 → Option ((Nat → Int32) × Int32)
  | 0, _, _, _ => none
  | fu + 1, f_this_sort, f_this_size, x2 => if f_this_size ≤ x2 then some (f_this_sort, f_this_size) else gi x2 n_a1 (gi x2 n_this (g_X7_copyFrom_L18 N n_this n_a1 f_a1_sort f_a1_size fu (upd f_this_sort x2.toNatClampNeg (f_a1_sort x2.toNatClampNeg)) f_this_size (x2 + 1)))
def g_X7_copyFrom (N : Nat) (n_this : Nat) (n_a1 : Nat) (f_a1_sort : (Nat → Int32)) (f_a1_size : Int32) (f_this_sort : (Nat → Int32)) (f_this_size : Int32) : Option ((Nat → Int32) × Int32) := g_X7_copyFrom_L18 N n_this n_a1 f_a1_sort f_a1_size N f_this_sort (if (nI n_this) < f_a1_size then (nI n_this) else f_a1_size) 0
set_option maxHeartbeats 4000000 in
set_option maxRecDepth 100000 in
theorem c_X7_copyFrom (l : Launch) (G : jG) (N : Nat) (q_this : Nat) (q_this_sort : Nat) (q_a1 : Nat) (q_a1_sort : Nat) (n_this : Nat) (n_a1 : Nat) (f_this_sort : (Nat → Int32)) (f_this_size : Int32) (f_a1_sort : (Nat → Int32)) (f_a1_size : Int32) (u : (Nat → Int32) × Int32) (hu : g_X7_copyFrom N n_this n_a1 f_a1_sort f_a1_size f_this_sort f_this_size = some u) : MetRV l G yX7_copyFrom wsX7_copyFrom ({ frames := 1, cells := 0, slots := 0, locals := 14 } : Room) [.ref q_this, .ref q_a1] (w_X7_copyFrom G q_this q_this_sort q_a1 q_a1_sort n_this n_a1 f_this_sort f_this_size f_a1_sort f_a1_size) (w_X7_copyFrom G q_this q_this_sort q_a1 q_a1_sort n_this n_a1 u.1 u.2 f_a1_sort f_a1_size) := by
  refine met_rwv (cc := cX7_copyFrom) (maxL := 3) (lv0 := [(0, .ref q_this), (1, .ref q_a1)]) (by decide) rfl rfl rfl rfl (fun X hX hW hret => ?_)
  have hinX7 : ∀ w ∈ u_ws RX7 TX7 2, w ∈ wsX7_copyFrom := by decide +kernel
  have hf_X7_size_13 : Cond.fieldLink RX7 13 (TX7 1).1 (TX7 1).2.1 (TX7 1).2.2.1 ∈ wsX7_copyFrom := by decide +kernel
  have hf_X7_sort_7 : Cond.fieldLink RX7 7 (TX7 0).1 (TX7 0).2.1 (TX7 0).2.2.1 ∈ wsX7_copyFrom := by decide +kernel
  have L18 : ∀ (fu18 : Nat), ∀ (f_this_sort : (Nat → Int32)) (f_this_size : Int32) (x2 : Int32), g_X7_copyFrom_L18 N n_this n_a1 f_a1_sort f_a1_size fu18 f_this_sort f_this_size x2 = some u → J X 0 0 (w_X7_copyFrom G q_this q_this_sort q_a1 q_a1_sort n_this n_a1 f_this_sort f_this_size f_a1_sort f_a1_size) 18 [(0, .ref q_this), (1, .ref q_a1), (2, .int x2)] [] := by
    intro fu18
    induction fu18 with
    | zero => intro f_this_sort f_this_size x2 hg; exact nomatch hg
    | succ fu18 ih18 =>
      intro f_this_sort f_this_size x2 hg
      unfold g_X7_copyFrom_L18 at hg
      refine j_iload_n hX 2 dX7_copyFrom_18 rfl rfl ?_
      refine j_aload_n hX 0 dX7_copyFrom_19 rfl rfl ?_
      refine j_get hX 0 1 rfl rfl hinX7 rfl hf_X7_size_13 rfl dX7_copyFrom_20 ?_
      refine j_icmp_ge hX 44 hg dX7_copyFrom_23 (by decide) (fun hg => ?_) (fun hg => ?_)
      · cases hg
        exact hret _ _ dX7_copyFrom_44
      · refine j_aload_n hX 0 dX7_copyFrom_26 rfl rfl ?_
        refine j_get hX 0 0 rfl rfl hinX7 rfl hf_X7_sort_7 rfl dX7_copyFrom_27 ?_
        refine j_iload_n hX 2 dX7_copyFrom_30 rfl rfl ?_
        refine j_aload_n hX 1 dX7_copyFrom_31 rfl rfl ?_
        refine j_get hX 2 0 rfl rfl hinX7 rfl hf_X7_sort_7 rfl dX7_copyFrom_32 ?_
        refine j_iload_n hX 2 dX7_copyFrom_35 rfl rfl ?_
        refine j_iald hX 3 rfl hg dX7_copyFrom_36 (fun hg => ?_)
        refine j_iast hX hW 1 rfl hg dX7_copyFrom_37 (ws' := (w_X7_copyFrom G q_this q_this_sort q_a1 q_a1_sort n_this n_a1 (upd f_this_sort x2.toNatClampNeg (f_a1_sort x2.toNatClampNeg)) f_this_size f_a1_sort f_a1_size)) rfl (fun hg => ?_)
        refine j_iinc hX 2 (v := x2 + 1) (lv' := [(2, .int (x2 + 1)), (0, .ref q_this), (1, .ref q_a1)]) dX7_copyFrom_38 rfl (by rw [kc_1]) rfl rfl ?_
        refine j_goto hX 18 dX7_copyFrom_41 (by decide) ?_
        refine j_lv [1, 2, 0] rfl ?_
        exact ih18 _ _ _ hg
  have hg := hu
  unfold g_X7_copyFrom at hg
  refine j_aload_n hX 0 dX7_copyFrom_0 rfl rfl ?_
  refine j_aload_n hX 1 dX7_copyFrom_1 rfl rfl ?_
  refine j_get hX 2 1 rfl rfl hinX7 rfl hf_X7_size_13 rfl dX7_copyFrom_2 ?_
  refine j_aload_n hX 0 dX7_copyFrom_5 rfl rfl ?_
  refine j_get hX 0 0 rfl rfl hinX7 rfl hf_X7_sort_7 rfl dX7_copyFrom_6 ?_
  refine j_alen hX 1 rfl dX7_copyFrom_9 ?_
  refine j_min hX (by decide +kernel) (by decide +kernel) (by decide +kernel) (by decide +kernel) rfl ⟨Nat.le_refl _, Nat.le_refl _⟩ dX7_copyFrom_10 ?_
  refine j_put hX hW 0 1 rfl rfl hinX7 tyX7 tyX7_ok nmX7 rfl hf_X7_size_13 rfl rfl rfl rfl dX7_copyFrom_13 (ws' := (w_X7_copyFrom G q_this q_this_sort q_a1 q_a1_sort n_this n_a1 f_this_sort (if (nI n_this) < f_a1_size then (nI n_this) else f_a1_size) f_a1_sort f_a1_size)) rfl ?_
  refine j_iconst hX dX7_copyFrom_16 kc_0 ?_
  refine j_istore_n hX (lv' := [(2, .int 0), (0, .ref q_this), (1, .ref q_a1)]) dX7_copyFrom_17 rfl rfl rfl ?_
  refine j_lv [1, 2, 0] rfl ?_
  exact L18 N _ _ _ hg
abbrev w_X7_sameAs (G : jG) (q_this : Nat) (q_this_sort : Nat) (q_a1 : Nat) (q_a1_sort : Nat) (n_this : Nat) (n_a1 : Nat) (f_this_sort : (Nat → Int32)) (f_this_size : Int32) (f_a1_sort : (Nat → Int32)) (f_a1_size : Int32) : va_W := [oC q_this 7 [.ref q_this_sort, .int f_this_size], aI G q_this_sort n_this f_this_sort, oC q_a1 7 [.ref q_a1_sort, .int f_a1_size], aI G q_a1_sort n_a1 f_a1_sort]
def g_X7_sameAs_L15 (N : Nat) (n_this : Nat) (n_a1 : Nat) (f_this_sort : (Nat → Int32)) (f_this_size : Int32) (f_a1_sort : (Nat → Int32)) (f_a1_size : Int32) : Nat → Int32 → Option (Int32)
  | 0, _ => none
  | fu + 1, x2 => if f_this_size ≤ x2 then some 1 else gi x2 n_this (gi x2 n_a1 (if (f_this_sort x2.toNatClampNeg) = (f_a1_sort x2.toNatClampNeg) then g_X7_sameAs_L15 N n_this n_a1 f_this_sort f_this_size f_a1_sort f_a1_size fu (x2 + 1) else some 0))
def g_X7_sameAs (N : Nat) (n_this : Nat) (n_a1 : Nat) (f_this_sort : (Nat → Int32)) (f_this_size : Int32) (f_a1_sort : (Nat → Int32)) (f_a1_size : Int32) : Option (Int32) := if f_this_size = f_a1_size then g_X7_sameAs_L15 N n_this n_a1 f_this_sort f_this_size f_a1_sort f_a1_size N 0 else some 0
set_option maxHeartbeats 4000000 in
set_option maxRecDepth 100000 in
theorem c_X7_sameAs (l : Launch) (G : jG) (N : Nat) (q_this : Nat) (q_this_sort : Nat) (q_a1 : Nat) (q_a1_sort : Nat) (n_this : Nat) (n_a1 : Nat) (f_this_sort : (Nat → Int32)) (f_this_size : Int32) (f_a1_sort : (Nat → Int32)) (f_a1_size : Int32) (u : Int32) (hu : g_X7_sameAs N n_this n_a1 f_this_sort f_this_size f_a1_sort f_a1_size = some u) : MetRO l G yX7_sameAs wsX7_sameAs ({ frames := 0, cells := 0, slots := 0, locals := 0 } : Room) [.ref q_this, .ref q_a1] (w_X7_sameAs G q_this q_this_sort q_a1 q_a1_sort n_this n_a1 f_this_sort f_this_size f_a1_sort f_a1_size) u := by
  refine met_roz (cc := cX7_sameAs) (maxL := 3) (lv0 := [(0, .ref q_this), (1, .ref q_a1)]) (by decide) rfl rfl rfl rfl (fun X hX hret => ?_)
  have hinX7 : ∀ w ∈ u_ws RX7 TX7 2, w ∈ wsX7_sameAs := by decide +kernel
  have hf_X7_size_13 : Cond.fieldLink RX7 13 (TX7 1).1 (TX7 1).2.1 (TX7 1).2.2.1 ∈ wsX7_sameAs := by decide +kernel
  have hf_X7_sort_7 : Cond.fieldLink RX7 7 (TX7 0).1 (TX7 0).2.1 (TX7 0).2.2.1 ∈ wsX7_sameAs := by decide +kernel
  have L15 : ∀ (fu15 : Nat), ∀ (x2 : Int32), g_X7_sameAs_L15 N n_this n_a1 f_this_sort f_this_size f_a1_sort f_a1_size fu15 x2 = some u → J X 0 0 (w_X7_sameAs G q_this q_this_sort q_a1 q_a1_sort n_this n_a1 f_this_sort f_this_size f_a1_sort f_a1_size) 15 [(0, .ref q_this), (1, .ref q_a1), (2, .int x2)] [] := by
    intro fu15
    induction fu15 with
    | zero => intro x2 hg; exact nomatch hg
    | succ fu15 ih15 =>
      intro x2 hg
      unfold g_X7_sameAs_L15 at hg
      refine j_iload_n hX 2 dX7_sameAs_15 rfl rfl ?_
      refine j_aload_n hX 0 dX7_sameAs_16 rfl rfl ?_
      refine j_get hX 0 1 rfl rfl hinX7 rfl hf_X7_size_13 rfl dX7_sameAs_17 ?_
      refine j_icmp_ge hX 46 hg dX7_sameAs_20 (by decide) (fun hg => ?_) (fun hg => ?_)
      · refine j_iconst hX dX7_sameAs_46 kc_1 ?_
        cases hg
        exact hret _ _ (Or.inr rfl) dX7_sameAs_47
      · refine j_aload_n hX 0 dX7_sameAs_23 rfl rfl ?_
        refine j_get hX 0 0 rfl rfl hinX7 rfl hf_X7_sort_7 rfl dX7_sameAs_24 ?_
        refine j_iload_n hX 2 dX7_sameAs_27 rfl rfl ?_
        refine j_iald hX 1 rfl hg dX7_sameAs_28 (fun hg => ?_)
        refine j_aload_n hX 1 dX7_sameAs_29 rfl rfl ?_
        refine j_get hX 2 0 rfl rfl hinX7 rfl hf_X7_sort_7 rfl dX7_sameAs_30 ?_
        refine j_iload_n hX 2 dX7_sameAs_33 rfl rfl ?_
        refine j_iald hX 3 rfl hg dX7_sameAs_34 (fun hg => ?_)
        refine j_icmp_eq hX 40 hg dX7_sameAs_35 (by decide) (fun hg => ?_) (fun hg => ?_)
        · refine j_iinc hX 2 (v := x2 + 1) (lv' := [(2, .int (x2 + 1)), (0, .ref q_this), (1, .ref q_a1)]) dX7_sameAs_40 rfl (by rw [kc_1]) rfl rfl ?_
          refine j_goto hX 15 dX7_sameAs_43 (by decide) ?_
          refine j_lv [1, 2, 0] rfl ?_
          exact ih15 _ hg
        · refine j_iconst hX dX7_sameAs_38 kc_0 ?_
          cases hg
          exact hret _ _ (Or.inl rfl) dX7_sameAs_39
  have hg := hu
  unfold g_X7_sameAs at hg
  refine j_aload_n hX 0 dX7_sameAs_0 rfl rfl ?_
  refine j_get hX 0 1 rfl rfl hinX7 rfl hf_X7_size_13 rfl dX7_sameAs_1 ?_
  refine j_aload_n hX 1 dX7_sameAs_4 rfl rfl ?_
  refine j_get hX 2 1 rfl rfl hinX7 rfl hf_X7_size_13 rfl dX7_sameAs_5 ?_
  refine j_icmp_eq hX 13 hg dX7_sameAs_8 (by decide) (fun hg => ?_) (fun hg => ?_)
  · refine j_iconst hX dX7_sameAs_13 kc_0 ?_
    refine j_istore_n hX (lv' := [(2, .int 0), (0, .ref q_this), (1, .ref q_a1)]) dX7_sameAs_14 rfl rfl rfl ?_
    refine j_lv [1, 2, 0] rfl ?_
    exact L15 N _ hg
  · refine j_iconst hX dX7_sameAs_11 kc_0 ?_
    cases hg
    exact hret _ _ (Or.inl rfl) dX7_sameAs_12
abbrev w_X1_append (G : jG) (q_this : Nat) (q_this_words : Nat) (q_this_words_E : Nat → Nat) (q_this_words_E_sort : Nat → Nat) (q_a1 : Nat) (q_a1_sort : Nat) (n_a1 : Nat) (f_this_words_E_sort : (Nat → Nat → Int32)) (f_this_words_E_size : (Nat → Int32)) (f_this_size : Int32) (f_a1_sort : (Nat → Int32)) (f_a1_size : Int32) : va_W := [oC q_this 1 [.ref q_this_words, .int f_this_size], aQ (jcSortRow G) q_this_words 8 (fun j => some (q_this_words_E j)), oC (q_this_words_E 0) 7 [.ref (q_this_words_E_sort 0), .int (f_this_words_E_size 0)], aI G (q_this_words_E_sort 0) 4 (f_this_words_E_sort 0), oC (q_this_words_E 1) 7 [.ref (q_this_words_E_sort 1), .int (f_this_words_E_size 1)], aI G (q_this_words_E_sort 1) 4 (f_this_words_E_sort 1), oC (q_this_words_E 2) 7 [.ref (q_this_words_E_sort 2), .int (f_this_words_E_size 2)], aI G (q_this_words_E_sort 2) 4 (f_this_words_E_sort 2), oC (q_this_words_E 3) 7 [.ref (q_this_words_E_sort 3), .int (f_this_words_E_size 3)], aI G (q_this_words_E_sort 3) 4 (f_this_words_E_sort 3), oC (q_this_words_E 4) 7 [.ref (q_this_words_E_sort 4), .int (f_this_words_E_size 4)], aI G (q_this_words_E_sort 4) 4 (f_this_words_E_sort 4), oC (q_this_words_E 5) 7 [.ref (q_this_words_E_sort 5), .int (f_this_words_E_size 5)], aI G (q_this_words_E_sort 5) 4 (f_this_words_E_sort 5), oC (q_this_words_E 6) 7 [.ref (q_this_words_E_sort 6), .int (f_this_words_E_size 6)], aI G (q_this_words_E_sort 6) 4 (f_this_words_E_sort 6), oC (q_this_words_E 7) 7 [.ref (q_this_words_E_sort 7), .int (f_this_words_E_size 7)], aI G (q_this_words_E_sort 7) 4 (f_this_words_E_sort 7), oC q_a1 7 [.ref q_a1_sort, .int f_a1_size], aI G q_a1_sort n_a1 f_a1_sort]
def g_X1_append_b42 (N : Nat) (n_a1 : Nat) (f_a1_sort : (Nat → Int32)) (f_a1_size : Int32) (f_this_words_E_sort : (Nat → Nat → Int32)) (f_this_words_E_size : (Nat → Int32)) (f_this_size : Int32) : Option (Int32 × (Nat → Nat → Int32) × (Nat → Int32) × Int32) := gi f_this_size 8 ((g_X7_copyFrom N 4 n_a1 f_a1_sort f_a1_size (f_this_words_E_sort f_this_size.toNatClampNeg) (f_this_words_E_size f_this_size.toNatClampNeg)).bind fun v52 => some (1, va_up f_this_words_E_sort f_this_size.toNatClampNeg v52.1, va_up f_this_words_E_size f_this_size.toNatClampNeg v52.2, f_this_size + 1))
def g_X1_append_L13 (N : Nat) (n_a1 : Nat) (f_a1_sort : (Nat → Int32)) (f_a1_size : Int32) (k_42 : (Nat → Nat → Int32) → (Nat → Int32) → Int32 → Option (Int32 × (Nat → Nat → Int32) × (Nat → Int32) × Int32)) : Nat → (Nat → Nat → Int32) → (Nat → Int32) → Int32 → Int32 → Option (Int32 × (Nat → Nat → Int32) × (Nat → Int32) × Int32)
  | 0, _, _, _, _ => none
  | fu + 1, f_this_words_E_sort, f_this_words_E_size, f_this_size, x2 => if f_this_size ≤ x2 then k_42 f_this_words_E_sort f_this_words_E_size f_this_size else gi x2 8 ((g_X7_sameAs N 4 n_a1 (f_this_words_E_sort x2.toNatClampNeg) (f_this_words_E_size x2.toNatClampNeg) f_a1_sort f_a1_size).bind fun v28 => if v28 = 0 then g_X1_append_L13 N n_a1 f_a1_sort f_a1_size k_42 fu f_this_words_E_sort f_this_words_E_size f_this_size (x2 + 1) else some (0, f_this_words_E_sort, f_this_words_E_size, f_this_size))
def g_X1_append (N : Nat) (n_a1 : Nat) (f_a1_sort : (Nat → Int32)) (f_a1_size : Int32) (f_this_words_E_sort : (Nat → Nat → Int32)) (f_this_words_E_size : (Nat → Int32)) (f_this_size : Int32) : Option (Int32 × (Nat → Nat → Int32) × (Nat → Int32) × Int32) := if f_this_size < 8 then g_X1_append_L13 N n_a1 f_a1_sort f_a1_size (g_X1_append_b42 N n_a1 f_a1_sort f_a1_size) N f_this_words_E_sort f_this_words_E_size f_this_size 0 else some (0, f_this_words_E_sort, f_this_words_E_size, f_this_size)
set_option maxHeartbeats 4000000 in
set_option maxRecDepth 100000 in
theorem c_X1_append (l : Launch) (G : jG) (N : Nat) (q_this : Nat) (q_this_words : Nat) (q_this_words_E : Nat → Nat) (q_this_words_E_sort : Nat → Nat) (q_a1 : Nat) (q_a1_sort : Nat) (n_a1 : Nat) (f_this_words_E_sort : (Nat → Nat → Int32)) (f_this_words_E_size : (Nat → Int32)) (f_this_size : Int32) (f_a1_sort : (Nat → Int32)) (f_a1_size : Int32) (u : Int32 × (Nat → Nat → Int32) × (Nat → Int32) × Int32) (hu : g_X1_append N n_a1 f_a1_sort f_a1_size f_this_words_E_sort f_this_words_E_size f_this_size = some u) : MetRW l G yX1_append wsX1_append ({ frames := 2, cells := 0, slots := 0, locals := 36 } : Room) [.ref q_this, .ref q_a1] (w_X1_append G q_this q_this_words q_this_words_E q_this_words_E_sort q_a1 q_a1_sort n_a1 f_this_words_E_sort f_this_words_E_size f_this_size f_a1_sort f_a1_size) (w_X1_append G q_this q_this_words q_this_words_E q_this_words_E_sort q_a1 q_a1_sort n_a1 u.2.1 u.2.2.1 u.2.2.2 f_a1_sort f_a1_size) u.1 := by
  refine met_rwz (cc := cX1_append) (maxL := 3) (lv0 := [(0, .ref q_this), (1, .ref q_a1)]) (by decide) rfl rfl rfl rfl (fun X hX hW hret => ?_)
  have hinX1 : ∀ w ∈ u_ws RX1 TX1 2, w ∈ wsX1_append := by decide +kernel
  have hf_X1_size_20 : Cond.fieldLink RX1 20 (TX1 1).1 (TX1 1).2.1 (TX1 1).2.2.1 ∈ wsX1_append := by decide +kernel
  have hf_X1_words_11 : Cond.fieldLink RX1 11 (TX1 0).1 (TX1 0).2.1 (TX1 0).2.2.1 ∈ wsX1_append := by decide +kernel
  have B42 : ∀ (f_this_words_E_sort : (Nat → Nat → Int32)) (f_this_words_E_size : (Nat → Int32)) (f_this_size : Int32), g_X1_append_b42 N n_a1 f_a1_sort f_a1_size f_this_words_E_sort f_this_words_E_size f_this_size = some u → J X 0 0 (w_X1_append G q_this q_this_words q_this_words_E q_this_words_E_sort q_a1 q_a1_sort n_a1 f_this_words_E_sort f_this_words_E_size f_this_size f_a1_sort f_a1_size) 42 [(0, .ref q_this), (1, .ref q_a1)] [] := by
    intro f_this_words_E_sort f_this_words_E_size f_this_size hg
    unfold g_X1_append_b42 at hg
    refine j_aload_n hX 0 dX1_append_42 rfl rfl ?_
    refine j_get hX 0 0 rfl rfl hinX1 rfl hf_X1_words_11 rfl dX1_append_43 ?_
    refine j_aload_n hX 0 dX1_append_46 rfl rfl ?_
    refine j_get hX 0 1 rfl rfl hinX1 rfl hf_X1_size_20 rfl dX1_append_47 ?_
    refine j_aald hX 1 6 rfl rfl hg dX1_append_50 (fun hw50 hg => ?_)
    refine j_aload_n hX 1 dX1_append_51 rfl rfl ?_
    refine j_vRV hX hW (w1 := fun v => (w_X7_copyFrom G (q_this_words_E f_this_size.toNatClampNeg) (q_this_words_E_sort f_this_size.toNatClampNeg) q_a1 q_a1_sort 4 n_a1 v.1 v.2 f_a1_sort f_a1_size)) (ws' := fun v => (w_X1_append G q_this q_this_words q_this_words_E q_this_words_E_sort q_a1 q_a1_sort n_a1 (va_up f_this_words_E_sort f_this_size.toNatClampNeg v.1) (va_up f_this_words_E_size f_this_size.toNatClampNeg v.2) f_this_size f_a1_sort f_a1_size)) [.ref q_a1] hg (fun v hv => c_X7_copyFrom l G N (q_this_words_E f_this_size.toNatClampNeg) (q_this_words_E_sort f_this_size.toNatClampNeg) q_a1 q_a1_sort 4 n_a1 (f_this_words_E_sort f_this_size.toNatClampNeg) (f_this_words_E_size f_this_size.toNatClampNeg) f_a1_sort f_a1_size v hv) gX1_append_X7_copyFrom rfl ⟨rfl, rfl⟩ ⟨rfl, by decide, by decide, rfl⟩ rfl rfl [2 + 2 * f_this_size.toNatClampNeg, 3 + 2 * f_this_size.toNatClampNeg, 18, 19] (ix8 (P := fun w => [2 + 2 * w, 3 + 2 * w, 18, 19].map (fun i => (w_X1_append G q_this q_this_words q_this_words_E q_this_words_E_sort q_a1 q_a1_sort n_a1 f_this_words_E_sort f_this_words_E_size f_this_size f_a1_sort f_a1_size)[i]?) = List.map some (w_X7_copyFrom G (q_this_words_E w) (q_this_words_E_sort w) q_a1 q_a1_sort 4 n_a1 (f_this_words_E_sort w) (f_this_words_E_size w) f_a1_sort f_a1_size)) rfl rfl rfl rfl rfl rfl rfl rfl _ hw50) (ix8 (P := fun w => va_nd [2 + 2 * w, 3 + 2 * w, 18, 19] = true) rfl rfl rfl rfl rfl rfl rfl rfl _ hw50) rfl rfl dX1_append_52 rfl rfl ⟨Nat.zero_le _, Nat.zero_le _⟩ (fun v => jn_set _ (ix8 (P := fun w => [2 + 2 * w, 3 + 2 * w, 18, 19].map (fun i => (w_X1_append G q_this q_this_words q_this_words_E q_this_words_E_sort q_a1 q_a1_sort n_a1 f_this_words_E_sort f_this_words_E_size f_this_size f_a1_sort f_a1_size)[i]?) = List.map some (w_X7_copyFrom G (q_this_words_E w) (q_this_words_E_sort w) q_a1 q_a1_sort 4 n_a1 (f_this_words_E_sort w) (f_this_words_E_size w) f_a1_sort f_a1_size)) rfl rfl rfl rfl rfl rfl rfl rfl _ hw50) rfl (ix8 (P := fun w => setAll (w_X1_append G q_this q_this_words q_this_words_E q_this_words_E_sort q_a1 q_a1_sort n_a1 f_this_words_E_sort f_this_words_E_size f_this_size f_a1_sort f_a1_size) [2 + 2 * w, 3 + 2 * w, 18, 19] (w_X7_copyFrom G (q_this_words_E w) (q_this_words_E_sort w) q_a1 q_a1_sort 4 n_a1 v.1 v.2 f_a1_sort f_a1_size) = (w_X1_append G q_this q_this_words q_this_words_E q_this_words_E_sort q_a1 q_a1_sort n_a1 (va_up f_this_words_E_sort w v.1) (va_up f_this_words_E_size w v.2) f_this_size f_a1_sort f_a1_size)) rfl rfl rfl rfl rfl rfl rfl rfl _ hw50)) (fun v52 hg => ?_)
    refine j_aload_n hX 0 dX1_append_55 rfl rfl ?_
    refine j_dup hX dX1_append_56 rfl ?_
    refine j_get hX 0 1 rfl rfl hinX1 rfl hf_X1_size_20 rfl dX1_append_57 ?_
    refine j_iconst hX dX1_append_60 kc_1 ?_
    refine j_iadd hX dX1_append_61 ?_
    refine j_put hX hW 0 1 rfl rfl hinX1 tyX1 tyX1_ok nmX1 rfl hf_X1_size_20 rfl rfl rfl rfl dX1_append_62 (ws' := (w_X1_append G q_this q_this_words q_this_words_E q_this_words_E_sort q_a1 q_a1_sort n_a1 (va_up f_this_words_E_sort f_this_size.toNatClampNeg v52.1) (va_up f_this_words_E_size f_this_size.toNatClampNeg v52.2) (f_this_size + 1) f_a1_sort f_a1_size)) rfl ?_
    refine j_iconst hX dX1_append_65 kc_1 ?_
    cases hg
    exact hret _ _ (Or.inr rfl) dX1_append_66
  have L13 : ∀ (fu13 : Nat), ∀ (f_this_words_E_sort : (Nat → Nat → Int32)) (f_this_words_E_size : (Nat → Int32)) (f_this_size : Int32) (x2 : Int32), g_X1_append_L13 N n_a1 f_a1_sort f_a1_size (g_X1_append_b42 N n_a1 f_a1_sort f_a1_size) fu13 f_this_words_E_sort f_this_words_E_size f_this_size x2 = some u → J X 0 0 (w_X1_append G q_this q_this_words q_this_words_E q_this_words_E_sort q_a1 q_a1_sort n_a1 f_this_words_E_sort f_this_words_E_size f_this_size f_a1_sort f_a1_size) 13 [(0, .ref q_this), (1, .ref q_a1), (2, .int x2)] [] := by
    intro fu13
    induction fu13 with
    | zero => intro f_this_words_E_sort f_this_words_E_size f_this_size x2 hg; exact nomatch hg
    | succ fu13 ih13 =>
      intro f_this_words_E_sort f_this_words_E_size f_this_size x2 hg
      unfold g_X1_append_L13 at hg
      refine j_iload_n hX 2 dX1_append_13 rfl rfl ?_
      refine j_aload_n hX 0 dX1_append_14 rfl rfl ?_
      refine j_get hX 0 1 rfl rfl hinX1 rfl hf_X1_size_20 rfl dX1_append_15 ?_
      refine j_icmp_ge hX 42 hg dX1_append_18 (by decide) (fun hg => ?_) (fun hg => ?_)
      · refine j_lv [0, 1] rfl ?_
        exact B42 _ _ _ hg
      · refine j_aload_n hX 0 dX1_append_21 rfl rfl ?_
        refine j_get hX 0 0 rfl rfl hinX1 rfl hf_X1_words_11 rfl dX1_append_22 ?_
        refine j_iload_n hX 2 dX1_append_25 rfl rfl ?_
        refine j_aald hX 1 6 rfl rfl hg dX1_append_26 (fun hw26 hg => ?_)
        refine j_aload_n hX 1 dX1_append_27 rfl rfl ?_
        refine j_vRO hX (r := fun v => v) [.ref q_a1] hg (fun v hv => c_X7_sameAs l G N (q_this_words_E x2.toNatClampNeg) (q_this_words_E_sort x2.toNatClampNeg) q_a1 q_a1_sort 4 n_a1 (f_this_words_E_sort x2.toNatClampNeg) (f_this_words_E_size x2.toNatClampNeg) f_a1_sort f_a1_size v hv) gX1_append_X7_sameAs rfl ⟨rfl, rfl⟩ ⟨rfl, by decide, by decide, rfl⟩ rfl rfl [2 + 2 * x2.toNatClampNeg, 3 + 2 * x2.toNatClampNeg, 18, 19] (ix8 (P := fun w => [2 + 2 * w, 3 + 2 * w, 18, 19].filterMap (fun i => (w_X1_append G q_this q_this_words q_this_words_E q_this_words_E_sort q_a1 q_a1_sort n_a1 f_this_words_E_sort f_this_words_E_size f_this_size f_a1_sort f_a1_size)[i]?) = (w_X7_sameAs G (q_this_words_E w) (q_this_words_E_sort w) q_a1 q_a1_sort 4 n_a1 (f_this_words_E_sort w) (f_this_words_E_size w) f_a1_sort f_a1_size)) rfl rfl rfl rfl rfl rfl rfl rfl _ hw26) rfl rfl dX1_append_28 rfl rfl ⟨Nat.zero_le _, Nat.zero_le _⟩ (fun v28 hg => ?_)
        refine j_if_eq hX 36 hg dX1_append_31 (by decide) (fun hg => ?_) (fun hg => ?_)
        · refine j_iinc hX 2 (v := x2 + 1) (lv' := [(2, .int (x2 + 1)), (0, .ref q_this), (1, .ref q_a1)]) dX1_append_36 rfl (by rw [kc_1]) rfl rfl ?_
          refine j_goto hX 13 dX1_append_39 (by decide) ?_
          refine j_lv [1, 2, 0] rfl ?_
          exact ih13 _ _ _ _ hg
        · refine j_iconst hX dX1_append_34 kc_0 ?_
          cases hg
          exact hret _ _ (Or.inl rfl) dX1_append_35
  have hg := hu
  unfold g_X1_append at hg
  refine j_aload_n hX 0 dX1_append_0 rfl rfl ?_
  refine j_get hX 0 1 rfl rfl hinX1 rfl hf_X1_size_20 rfl dX1_append_1 ?_
  refine j_bipush hX dX1_append_4 kb_8 ?_
  refine j_icmp_lt hX 11 hg dX1_append_6 (by decide) (fun hg => ?_) (fun hg => ?_)
  · refine j_iconst hX dX1_append_11 kc_0 ?_
    refine j_istore_n hX (lv' := [(2, .int 0), (0, .ref q_this), (1, .ref q_a1)]) dX1_append_12 rfl rfl rfl ?_
    refine j_lv [1, 2, 0] rfl ?_
    exact L13 N _ _ _ _ hg
  · refine j_iconst hX dX1_append_9 kc_0 ?_
    cases hg
    exact hret _ _ (Or.inl rfl) dX1_append_10
abbrev w_X2_setHour (G : jG) (q_this : Nat) (v_this_book : Value) (v_this_places : Value) (v_this_sorts : Value) (v_this_law : Value) (v_this_minutesTold : Value) (v_this_minutes : Value) (f_this_hour : Int32) : va_W := [oC q_this 2 [v_this_book, v_this_places, v_this_sorts, .int f_this_hour, v_this_law, v_this_minutesTold, v_this_minutes]]
def g_X2_setHour (N : Nat) (f_this_hour : Int32) (x1 : Int32) : Option (Int32 × Int32) := if x1 < 1 then some (0, f_this_hour) else if x1 ≤ 60 then some (1, x1) else some (0, f_this_hour)
set_option maxHeartbeats 4000000 in
set_option maxRecDepth 100000 in
theorem c_X2_setHour (l : Launch) (G : jG) (N : Nat) (q_this : Nat) (v_this_book : Value) (v_this_places : Value) (v_this_sorts : Value) (v_this_law : Value) (v_this_minutesTold : Value) (v_this_minutes : Value) (f_this_hour : Int32) (x1 : Int32) (u : Int32 × Int32) (hu : g_X2_setHour N f_this_hour x1 = some u) : MetRW l G yX2_setHour wsX2_setHour ({ frames := 0, cells := 0, slots := 0, locals := 0 } : Room) [.ref q_this, .int x1] (w_X2_setHour G q_this v_this_book v_this_places v_this_sorts v_this_law v_this_minutesTold v_this_minutes f_this_hour) (w_X2_setHour G q_this v_this_book v_this_places v_this_sorts v_this_law v_this_minutesTold v_this_minutes u.2) u.1 := by
  refine met_rwz (cc := cX2_setHour) (maxL := 2) (lv0 := [(0, .ref q_this), (1, .int x1)]) (by decide) rfl rfl rfl rfl (fun X hX hW hret => ?_)
  have hinX2 : ∀ w ∈ u_ws RX2 TX2 7, w ∈ wsX2_setHour := by decide +kernel
  have hf_X2_hour_35 : Cond.fieldLink RX2 35 (TX2 3).1 (TX2 3).2.1 (TX2 3).2.2.1 ∈ wsX2_setHour := by decide +kernel
  have hg := hu
  unfold g_X2_setHour at hg
  refine j_iload_n hX 1 dX2_setHour_0 rfl rfl ?_
  refine j_iconst hX dX2_setHour_1 kc_1 ?_
  refine j_icmp_lt hX 11 hg dX2_setHour_2 (by decide) (fun hg => ?_) (fun hg => ?_)
  · refine j_iconst hX dX2_setHour_11 kc_0 ?_
    cases hg
    exact hret _ _ (Or.inl rfl) dX2_setHour_12
  · refine j_iload_n hX 1 dX2_setHour_5 rfl rfl ?_
    refine j_bipush hX dX2_setHour_6 kb_60 ?_
    refine j_icmp_le hX 13 hg dX2_setHour_8 (by decide) (fun hg => ?_) (fun hg => ?_)
    · refine j_aload_n hX 0 dX2_setHour_13 rfl rfl ?_
      refine j_iload_n hX 1 dX2_setHour_14 rfl rfl ?_
      refine j_put hX hW 0 3 rfl rfl hinX2 tyX2 tyX2_ok nmX2 rfl hf_X2_hour_35 rfl rfl rfl rfl dX2_setHour_15 (ws' := (w_X2_setHour G q_this v_this_book v_this_places v_this_sorts v_this_law v_this_minutesTold v_this_minutes x1)) rfl ?_
      refine j_iconst hX dX2_setHour_18 kc_1 ?_
      cases hg
      exact hret _ _ (Or.inr rfl) dX2_setHour_19
    · refine j_iconst hX dX2_setHour_11 kc_0 ?_
      cases hg
      exact hret _ _ (Or.inl rfl) dX2_setHour_12
abbrev w_X2_setLaw (G : jG) (q_this : Nat) (v_this_book : Value) (v_this_places : Value) (v_this_sorts : Value) (v_this_hour : Value) (v_this_minutesTold : Value) (v_this_minutes : Value) (f_this_law : Int32) : va_W := [oC q_this 2 [v_this_book, v_this_places, v_this_sorts, v_this_hour, .int f_this_law, v_this_minutesTold, v_this_minutes]]
def g_X2_setLaw (N : Nat) (f_this_law : Int32) (x1 : Int32) : Option (Int32 × Int32) := if x1 < 0 then some (0, f_this_law) else if x1 ≤ 2 then some (1, x1) else some (0, f_this_law)
set_option maxHeartbeats 4000000 in
set_option maxRecDepth 100000 in
theorem c_X2_setLaw (l : Launch) (G : jG) (N : Nat) (q_this : Nat) (v_this_book : Value) (v_this_places : Value) (v_this_sorts : Value) (v_this_hour : Value) (v_this_minutesTold : Value) (v_this_minutes : Value) (f_this_law : Int32) (x1 : Int32) (u : Int32 × Int32) (hu : g_X2_setLaw N f_this_law x1 = some u) : MetRW l G yX2_setLaw wsX2_setLaw ({ frames := 0, cells := 0, slots := 0, locals := 0 } : Room) [.ref q_this, .int x1] (w_X2_setLaw G q_this v_this_book v_this_places v_this_sorts v_this_hour v_this_minutesTold v_this_minutes f_this_law) (w_X2_setLaw G q_this v_this_book v_this_places v_this_sorts v_this_hour v_this_minutesTold v_this_minutes u.2) u.1 := by
  refine met_rwz (cc := cX2_setLaw) (maxL := 2) (lv0 := [(0, .ref q_this), (1, .int x1)]) (by decide) rfl rfl rfl rfl (fun X hX hW hret => ?_)
  have hinX2 : ∀ w ∈ u_ws RX2 TX2 7, w ∈ wsX2_setLaw := by decide +kernel
  have hf_X2_law_38 : Cond.fieldLink RX2 38 (TX2 4).1 (TX2 4).2.1 (TX2 4).2.2.1 ∈ wsX2_setLaw := by decide +kernel
  have hg := hu
  unfold g_X2_setLaw at hg
  refine j_iload_n hX 1 dX2_setLaw_0 rfl rfl ?_
  refine j_if_lt hX 9 hg dX2_setLaw_1 (by decide) (fun hg => ?_) (fun hg => ?_)
  · refine j_iconst hX dX2_setLaw_9 kc_0 ?_
    cases hg
    exact hret _ _ (Or.inl rfl) dX2_setLaw_10
  · refine j_iload_n hX 1 dX2_setLaw_4 rfl rfl ?_
    refine j_iconst hX dX2_setLaw_5 kc_2 ?_
    refine j_icmp_le hX 11 hg dX2_setLaw_6 (by decide) (fun hg => ?_) (fun hg => ?_)
    · refine j_aload_n hX 0 dX2_setLaw_11 rfl rfl ?_
      refine j_iload_n hX 1 dX2_setLaw_12 rfl rfl ?_
      refine j_put hX hW 0 4 rfl rfl hinX2 tyX2 tyX2_ok nmX2 rfl hf_X2_law_38 rfl rfl rfl rfl dX2_setLaw_13 (ws' := (w_X2_setLaw G q_this v_this_book v_this_places v_this_sorts v_this_hour v_this_minutesTold v_this_minutes x1)) rfl ?_
      refine j_iconst hX dX2_setLaw_16 kc_1 ?_
      cases hg
      exact hret _ _ (Or.inr rfl) dX2_setLaw_17
    · refine j_iconst hX dX2_setLaw_9 kc_0 ?_
      cases hg
      exact hret _ _ (Or.inl rfl) dX2_setLaw_10
abbrev w_X2_isPlace (G : jG) (q_this : Nat) (v_this_book : Value) (v_this_sorts : Value) (v_this_hour : Value) (v_this_law : Value) (v_this_minutesTold : Value) (v_this_minutes : Value) (f_this_places : Int32) : va_W := [oC q_this 2 [v_this_book, .int f_this_places, v_this_sorts, v_this_hour, v_this_law, v_this_minutesTold, v_this_minutes]]
def g_X2_isPlace (N : Nat) (f_this_places : Int32) (x1 : Int32) : Option (Int32) := if x1 < 0 then some 0 else if f_this_places ≤ x1 then some 0 else some 1
set_option maxHeartbeats 4000000 in
set_option maxRecDepth 100000 in
theorem c_X2_isPlace (l : Launch) (G : jG) (N : Nat) (q_this : Nat) (v_this_book : Value) (v_this_sorts : Value) (v_this_hour : Value) (v_this_law : Value) (v_this_minutesTold : Value) (v_this_minutes : Value) (f_this_places : Int32) (x1 : Int32) (u : Int32) (hu : g_X2_isPlace N f_this_places x1 = some u) : MetRO l G yX2_isPlace wsX2_isPlace ({ frames := 0, cells := 0, slots := 0, locals := 0 } : Room) [.ref q_this, .int x1] (w_X2_isPlace G q_this v_this_book v_this_sorts v_this_hour v_this_law v_this_minutesTold v_this_minutes f_this_places) u := by
  refine met_roz (cc := cX2_isPlace) (maxL := 2) (lv0 := [(0, .ref q_this), (1, .int x1)]) (by decide) rfl rfl rfl rfl (fun X hX hret => ?_)
  have hinX2 : ∀ w ∈ u_ws RX2 TX2 7, w ∈ wsX2_isPlace := by decide +kernel
  have hf_X2_places_29 : Cond.fieldLink RX2 29 (TX2 1).1 (TX2 1).2.1 (TX2 1).2.2.1 ∈ wsX2_isPlace := by decide +kernel
  have hg := hu
  unfold g_X2_isPlace at hg
  refine j_iload_n hX 1 dX2_isPlace_0 rfl rfl ?_
  refine j_if_lt hX 16 hg dX2_isPlace_1 (by decide) (fun hg => ?_) (fun hg => ?_)
  · refine j_iconst hX dX2_isPlace_16 kc_0 ?_
    cases hg
    exact hret _ _ (Or.inl rfl) dX2_isPlace_17
  · refine j_iload_n hX 1 dX2_isPlace_4 rfl rfl ?_
    refine j_aload_n hX 0 dX2_isPlace_5 rfl rfl ?_
    refine j_get hX 0 1 rfl rfl hinX2 rfl hf_X2_places_29 rfl dX2_isPlace_6 ?_
    refine j_icmp_ge hX 16 hg dX2_isPlace_9 (by decide) (fun hg => ?_) (fun hg => ?_)
    · refine j_iconst hX dX2_isPlace_16 kc_0 ?_
      cases hg
      exact hret _ _ (Or.inl rfl) dX2_isPlace_17
    · refine j_iconst hX dX2_isPlace_12 kc_1 ?_
      refine j_goto hX 17 dX2_isPlace_13 (by decide) ?_
      cases hg
      exact hret _ _ (Or.inr rfl) dX2_isPlace_17
abbrev w_X2_setMinutes (G : jG) (q_this : Nat) (q_this_minutes : Nat) (v_this_book : Value) (v_this_sorts : Value) (v_this_hour : Value) (v_this_law : Value) (f_this_places : Int32) (f_this_minutesTold : Int32) (f_this_minutes : (Nat → Int32)) : va_W := [oC q_this 2 [v_this_book, .int f_this_places, v_this_sorts, v_this_hour, v_this_law, .int f_this_minutesTold, .ref q_this_minutes], aI G q_this_minutes 25 f_this_minutes]
def g_X2_setMinutes (N : Nat) (f_this_places : Int32) (f_this_minutesTold : Int32) (f_this_minutes : (Nat → Int32)) (x1 : Int32) (x2 : Int32) (x3 : Int32) : Option (Int32 × Int32 × (Nat → Int32)) := (g_X2_isPlace N f_this_places x1).bind fun v2 => if v2 = 0 then some (0, f_this_minutesTold, f_this_minutes) else (g_X2_isPlace N f_this_places x2).bind fun v10 => if v10 = 0 then some (0, f_this_minutesTold, f_this_minutes) else if x1 = x2 then some (0, f_this_minutesTold, f_this_minutes) else if x3 < 0 then some (0, f_this_minutesTold, f_this_minutes) else if x3 ≤ 60 then gi ((x1 * 5) + x2) 25 (gi ((x2 * 5) + x1) 25 (some (1, 1, upd (upd f_this_minutes ((x1 * 5) + x2 : Int32).toNatClampNeg x3) ((x2 * 5) + x1 : Int32).toNatClampNeg x3))) else some (0, f_this_minutesTold, f_this_minutes)
set_option maxHeartbeats 4000000 in
set_option maxRecDepth 100000 in
theorem c_X2_setMinutes (l : Launch) (G : jG) (N : Nat) (q_this : Nat) (q_this_minutes : Nat) (v_this_book : Value) (v_this_sorts : Value) (v_this_hour : Value) (v_this_law : Value) (f_this_places : Int32) (f_this_minutesTold : Int32) (f_this_minutes : (Nat → Int32)) (x1 : Int32) (x2 : Int32) (x3 : Int32) (u : Int32 × Int32 × (Nat → Int32)) (hu : g_X2_setMinutes N f_this_places f_this_minutesTold f_this_minutes x1 x2 x3 = some u) : MetRW l G yX2_setMinutes wsX2_setMinutes ({ frames := 1, cells := 0, slots := 0, locals := 21 } : Room) [.ref q_this, .int x1, .int x2, .int x3] (w_X2_setMinutes G q_this q_this_minutes v_this_book v_this_sorts v_this_hour v_this_law f_this_places f_this_minutesTold f_this_minutes) (w_X2_setMinutes G q_this q_this_minutes v_this_book v_this_sorts v_this_hour v_this_law f_this_places u.2.1 u.2.2) u.1 := by
  refine met_rwz (cc := cX2_setMinutes) (maxL := 4) (lv0 := [(0, .ref q_this), (1, .int x1), (2, .int x2), (3, .int x3)]) (by decide) rfl rfl rfl rfl (fun X hX hW hret => ?_)
  have hinX2 : ∀ w ∈ u_ws RX2 TX2 7, w ∈ wsX2_setMinutes := by decide +kernel
  have hf_X2_minutes_18 : Cond.fieldLink RX2 18 (TX2 6).1 (TX2 6).2.1 (TX2 6).2.2.1 ∈ wsX2_setMinutes := by decide +kernel
  have hf_X2_minutesTold_41 : Cond.fieldLink RX2 41 (TX2 5).1 (TX2 5).2.1 (TX2 5).2.2.1 ∈ wsX2_setMinutes := by decide +kernel
  have hg := hu
  unfold g_X2_setMinutes at hg
  refine j_aload_n hX 0 dX2_setMinutes_0 rfl rfl ?_
  refine j_iload_n hX 1 dX2_setMinutes_1 rfl rfl ?_
  refine j_vRO hX (r := fun v => v) [.int x1] hg (fun v hv => c_X2_isPlace l G N q_this v_this_book v_this_sorts v_this_hour v_this_law (.int f_this_minutesTold) (.ref q_this_minutes) f_this_places x1 v hv) gX2_setMinutes_X2_isPlace rfl ⟨rfl, rfl⟩ ⟨rfl, by decide, by decide, rfl⟩ rfl rfl [0] rfl rfl rfl dX2_setMinutes_2 rfl rfl ⟨Nat.zero_le _, Nat.zero_le _⟩ (fun v2 hg => ?_)
  refine j_if_eq hX 31 hg dX2_setMinutes_5 (by decide) (fun hg => ?_) (fun hg => ?_)
  · refine j_iconst hX dX2_setMinutes_31 kc_0 ?_
    cases hg
    exact hret _ _ (Or.inl rfl) dX2_setMinutes_32
  · refine j_aload_n hX 0 dX2_setMinutes_8 rfl rfl ?_
    refine j_iload_n hX 2 dX2_setMinutes_9 rfl rfl ?_
    refine j_vRO hX (r := fun v => v) [.int x2] hg (fun v hv => c_X2_isPlace l G N q_this v_this_book v_this_sorts v_this_hour v_this_law (.int f_this_minutesTold) (.ref q_this_minutes) f_this_places x2 v hv) gX2_setMinutes_X2_isPlace rfl ⟨rfl, rfl⟩ ⟨rfl, by decide, by decide, rfl⟩ rfl rfl [0] rfl rfl rfl dX2_setMinutes_10 rfl rfl ⟨Nat.zero_le _, Nat.zero_le _⟩ (fun v10 hg => ?_)
    refine j_if_eq hX 31 hg dX2_setMinutes_13 (by decide) (fun hg => ?_) (fun hg => ?_)
    · refine j_iconst hX dX2_setMinutes_31 kc_0 ?_
      cases hg
      exact hret _ _ (Or.inl rfl) dX2_setMinutes_32
    · refine j_iload_n hX 1 dX2_setMinutes_16 rfl rfl ?_
      refine j_iload_n hX 2 dX2_setMinutes_17 rfl rfl ?_
      refine j_icmp_eq hX 31 hg dX2_setMinutes_18 (by decide) (fun hg => ?_) (fun hg => ?_)
      · refine j_iconst hX dX2_setMinutes_31 kc_0 ?_
        cases hg
        exact hret _ _ (Or.inl rfl) dX2_setMinutes_32
      · refine j_iload_n hX 3 dX2_setMinutes_21 rfl rfl ?_
        refine j_if_lt hX 31 hg dX2_setMinutes_22 (by decide) (fun hg => ?_) (fun hg => ?_)
        · refine j_iconst hX dX2_setMinutes_31 kc_0 ?_
          cases hg
          exact hret _ _ (Or.inl rfl) dX2_setMinutes_32
        · refine j_iload_n hX 3 dX2_setMinutes_25 rfl rfl ?_
          refine j_bipush hX dX2_setMinutes_26 kb_60 ?_
          refine j_icmp_le hX 33 hg dX2_setMinutes_28 (by decide) (fun hg => ?_) (fun hg => ?_)
          · refine j_aload_n hX 0 dX2_setMinutes_33 rfl rfl ?_
            refine j_get hX 0 6 rfl rfl hinX2 rfl hf_X2_minutes_18 rfl dX2_setMinutes_34 ?_
            refine j_iload_n hX 1 dX2_setMinutes_37 rfl rfl ?_
            refine j_iconst hX dX2_setMinutes_38 kc_5 ?_
            refine j_imul hX dX2_setMinutes_39 ?_
            refine j_iload_n hX 2 dX2_setMinutes_40 rfl rfl ?_
            refine j_iadd hX dX2_setMinutes_41 ?_
            refine j_iload_n hX 3 dX2_setMinutes_42 rfl rfl ?_
            refine j_iast hX hW 1 rfl hg dX2_setMinutes_43 (ws' := (w_X2_setMinutes G q_this q_this_minutes v_this_book v_this_sorts v_this_hour v_this_law f_this_places f_this_minutesTold (upd f_this_minutes ((x1 * 5) + x2 : Int32).toNatClampNeg x3))) rfl (fun hg => ?_)
            refine j_aload_n hX 0 dX2_setMinutes_44 rfl rfl ?_
            refine j_get hX 0 6 rfl rfl hinX2 rfl hf_X2_minutes_18 rfl dX2_setMinutes_45 ?_
            refine j_iload_n hX 2 dX2_setMinutes_48 rfl rfl ?_
            refine j_iconst hX dX2_setMinutes_49 kc_5 ?_
            refine j_imul hX dX2_setMinutes_50 ?_
            refine j_iload_n hX 1 dX2_setMinutes_51 rfl rfl ?_
            refine j_iadd hX dX2_setMinutes_52 ?_
            refine j_iload_n hX 3 dX2_setMinutes_53 rfl rfl ?_
            refine j_iast hX hW 1 rfl hg dX2_setMinutes_54 (ws' := (w_X2_setMinutes G q_this q_this_minutes v_this_book v_this_sorts v_this_hour v_this_law f_this_places f_this_minutesTold (upd (upd f_this_minutes ((x1 * 5) + x2 : Int32).toNatClampNeg x3) ((x2 * 5) + x1 : Int32).toNatClampNeg x3))) rfl (fun hg => ?_)
            refine j_aload_n hX 0 dX2_setMinutes_55 rfl rfl ?_
            refine j_iconst hX dX2_setMinutes_56 kc_1 ?_
            refine j_put hX hW 0 5 rfl rfl hinX2 tyX2 tyX2_ok nmX2 rfl hf_X2_minutesTold_41 rfl (nar_z (Or.inr rfl)) (fit_z (Or.inr rfl)) rfl dX2_setMinutes_57 (ws' := (w_X2_setMinutes G q_this q_this_minutes v_this_book v_this_sorts v_this_hour v_this_law f_this_places 1 (upd (upd f_this_minutes ((x1 * 5) + x2 : Int32).toNatClampNeg x3) ((x2 * 5) + x1 : Int32).toNatClampNeg x3))) rfl ?_
            refine j_iconst hX dX2_setMinutes_60 kc_1 ?_
            cases hg
            exact hret _ _ (Or.inr rfl) dX2_setMinutes_61
          · refine j_iconst hX dX2_setMinutes_31 kc_0 ?_
            cases hg
            exact hret _ _ (Or.inl rfl) dX2_setMinutes_32
abbrev w_X2_setPlaces (G : jG) (q_this : Nat) (v_this_book : Value) (v_this_sorts : Value) (v_this_hour : Value) (v_this_law : Value) (v_this_minutes : Value) (f_this_places : Int32) (f_this_minutesTold : Int32) : va_W := [oC q_this 2 [v_this_book, .int f_this_places, v_this_sorts, v_this_hour, v_this_law, .int f_this_minutesTold, v_this_minutes]]
def g_X2_setPlaces (N : Nat) (f_this_minutesTold : Int32) (f_this_places : Int32) (x1 : Int32) : Option (Int32 × Int32) := if x1 < 1 then some (0, f_this_places) else if (5 : Int32) < x1 then some (0, f_this_places) else if f_this_minutesTold = 0 then some (1, x1) else some (0, f_this_places)
set_option maxHeartbeats 4000000 in
set_option maxRecDepth 100000 in
theorem c_X2_setPlaces (l : Launch) (G : jG) (N : Nat) (q_this : Nat) (v_this_book : Value) (v_this_sorts : Value) (v_this_hour : Value) (v_this_law : Value) (v_this_minutes : Value) (f_this_places : Int32) (f_this_minutesTold : Int32) (x1 : Int32) (u : Int32 × Int32) (hu : g_X2_setPlaces N f_this_minutesTold f_this_places x1 = some u) : MetRW l G yX2_setPlaces wsX2_setPlaces ({ frames := 0, cells := 0, slots := 0, locals := 0 } : Room) [.ref q_this, .int x1] (w_X2_setPlaces G q_this v_this_book v_this_sorts v_this_hour v_this_law v_this_minutes f_this_places f_this_minutesTold) (w_X2_setPlaces G q_this v_this_book v_this_sorts v_this_hour v_this_law v_this_minutes u.2 f_this_minutesTold) u.1 := by
  refine met_rwz (cc := cX2_setPlaces) (maxL := 2) (lv0 := [(0, .ref q_this), (1, .int x1)]) (by decide) rfl rfl rfl rfl (fun X hX hW hret => ?_)
  have hinX2 : ∀ w ∈ u_ws RX2 TX2 7, w ∈ wsX2_setPlaces := by decide +kernel
  have hf_X2_minutesTold_41 : Cond.fieldLink RX2 41 (TX2 5).1 (TX2 5).2.1 (TX2 5).2.2.1 ∈ wsX2_setPlaces := by decide +kernel
  have hf_X2_places_29 : Cond.fieldLink RX2 29 (TX2 1).1 (TX2 1).2.1 (TX2 1).2.2.1 ∈ wsX2_setPlaces := by decide +kernel
  have hg := hu
  unfold g_X2_setPlaces at hg
  refine j_iload_n hX 1 dX2_setPlaces_0 rfl rfl ?_
  refine j_iconst hX dX2_setPlaces_1 kc_1 ?_
  refine j_icmp_lt hX 17 hg dX2_setPlaces_2 (by decide) (fun hg => ?_) (fun hg => ?_)
  · refine j_iconst hX dX2_setPlaces_17 kc_0 ?_
    cases hg
    exact hret _ _ (Or.inl rfl) dX2_setPlaces_18
  · refine j_iload_n hX 1 dX2_setPlaces_5 rfl rfl ?_
    refine j_iconst hX dX2_setPlaces_6 kc_5 ?_
    refine j_icmp_gt hX 17 hg dX2_setPlaces_7 (by decide) (fun hg => ?_) (fun hg => ?_)
    · refine j_iconst hX dX2_setPlaces_17 kc_0 ?_
      cases hg
      exact hret _ _ (Or.inl rfl) dX2_setPlaces_18
    · refine j_aload_n hX 0 dX2_setPlaces_10 rfl rfl ?_
      refine j_get hX 0 5 rfl rfl hinX2 rfl hf_X2_minutesTold_41 rfl dX2_setPlaces_11 ?_
      refine j_if_eq hX 19 hg dX2_setPlaces_14 (by decide) (fun hg => ?_) (fun hg => ?_)
      · refine j_aload_n hX 0 dX2_setPlaces_19 rfl rfl ?_
        refine j_iload_n hX 1 dX2_setPlaces_20 rfl rfl ?_
        refine j_put hX hW 0 1 rfl rfl hinX2 tyX2 tyX2_ok nmX2 rfl hf_X2_places_29 rfl rfl rfl rfl dX2_setPlaces_21 (ws' := (w_X2_setPlaces G q_this v_this_book v_this_sorts v_this_hour v_this_law v_this_minutes x1 f_this_minutesTold)) rfl ?_
        refine j_iconst hX dX2_setPlaces_24 kc_1 ?_
        cases hg
        exact hret _ _ (Or.inr rfl) dX2_setPlaces_25
      · refine j_iconst hX dX2_setPlaces_17 kc_0 ?_
        cases hg
        exact hret _ _ (Or.inl rfl) dX2_setPlaces_18
abbrev w_X2_setSorts (G : jG) (q_this : Nat) (v_this_book : Value) (v_this_places : Value) (v_this_hour : Value) (v_this_law : Value) (v_this_minutesTold : Value) (v_this_minutes : Value) (f_this_sorts : Int32) : va_W := [oC q_this 2 [v_this_book, v_this_places, .int f_this_sorts, v_this_hour, v_this_law, v_this_minutesTold, v_this_minutes]]
def g_X2_setSorts (N : Nat) (f_this_sorts : Int32) (x1 : Int32) : Option (Int32 × Int32) := if x1 < 2 then some (0, f_this_sorts) else if x1 ≤ 8 then some (1, x1) else some (0, f_this_sorts)
set_option maxHeartbeats 4000000 in
set_option maxRecDepth 100000 in
theorem c_X2_setSorts (l : Launch) (G : jG) (N : Nat) (q_this : Nat) (v_this_book : Value) (v_this_places : Value) (v_this_hour : Value) (v_this_law : Value) (v_this_minutesTold : Value) (v_this_minutes : Value) (f_this_sorts : Int32) (x1 : Int32) (u : Int32 × Int32) (hu : g_X2_setSorts N f_this_sorts x1 = some u) : MetRW l G yX2_setSorts wsX2_setSorts ({ frames := 0, cells := 0, slots := 0, locals := 0 } : Room) [.ref q_this, .int x1] (w_X2_setSorts G q_this v_this_book v_this_places v_this_hour v_this_law v_this_minutesTold v_this_minutes f_this_sorts) (w_X2_setSorts G q_this v_this_book v_this_places v_this_hour v_this_law v_this_minutesTold v_this_minutes u.2) u.1 := by
  refine met_rwz (cc := cX2_setSorts) (maxL := 2) (lv0 := [(0, .ref q_this), (1, .int x1)]) (by decide) rfl rfl rfl rfl (fun X hX hW hret => ?_)
  have hinX2 : ∀ w ∈ u_ws RX2 TX2 7, w ∈ wsX2_setSorts := by decide +kernel
  have hf_X2_sorts_32 : Cond.fieldLink RX2 32 (TX2 2).1 (TX2 2).2.1 (TX2 2).2.2.1 ∈ wsX2_setSorts := by decide +kernel
  have hg := hu
  unfold g_X2_setSorts at hg
  refine j_iload_n hX 1 dX2_setSorts_0 rfl rfl ?_
  refine j_iconst hX dX2_setSorts_1 kc_2 ?_
  refine j_icmp_lt hX 11 hg dX2_setSorts_2 (by decide) (fun hg => ?_) (fun hg => ?_)
  · refine j_iconst hX dX2_setSorts_11 kc_0 ?_
    cases hg
    exact hret _ _ (Or.inl rfl) dX2_setSorts_12
  · refine j_iload_n hX 1 dX2_setSorts_5 rfl rfl ?_
    refine j_bipush hX dX2_setSorts_6 kb_8 ?_
    refine j_icmp_le hX 13 hg dX2_setSorts_8 (by decide) (fun hg => ?_) (fun hg => ?_)
    · refine j_aload_n hX 0 dX2_setSorts_13 rfl rfl ?_
      refine j_iload_n hX 1 dX2_setSorts_14 rfl rfl ?_
      refine j_put hX hW 0 2 rfl rfl hinX2 tyX2 tyX2_ok nmX2 rfl hf_X2_sorts_32 rfl rfl rfl rfl dX2_setSorts_15 (ws' := (w_X2_setSorts G q_this v_this_book v_this_places v_this_hour v_this_law v_this_minutesTold v_this_minutes x1)) rfl ?_
      refine j_iconst hX dX2_setSorts_18 kc_1 ?_
      cases hg
      exact hret _ _ (Or.inr rfl) dX2_setSorts_19
    · refine j_iconst hX dX2_setSorts_11 kc_0 ?_
      cases hg
      exact hret _ _ (Or.inl rfl) dX2_setSorts_12
abbrev w_X4_takeFigure (G : jG) (q_this : Nat) (q_this_text : Nat) (q_this_text_bytes : Nat) (v_this_hills : Value) (v_this_number : Value) (v_this_draft : Value) (f_this_text_bytes : (Nat → Int32)) (f_this_text_size : Int32) (f_this_at : Int32) : va_W := [oC q_this 4 [v_this_hills, .ref q_this_text, v_this_number, v_this_draft, .int f_this_at], oC q_this_text 9 [.ref q_this_text_bytes, .int f_this_text_size], aB G q_this_text_bytes 300 f_this_text_bytes]
def g_X4_takeFigure (N : Nat) (f_this_text_bytes : (Nat → Int32)) (f_this_text_size : Int32) (f_this_at : Int32) (x1 : Int32) : Option (Int32 × Int32) := if f_this_at < f_this_text_size then gi f_this_at 300 (if ((f_this_text_bytes f_this_at.toNatClampNeg) - 48) < 0 then some ((-1), f_this_at) else if ((f_this_text_bytes f_this_at.toNatClampNeg) - 48) < x1 then some ((f_this_text_bytes f_this_at.toNatClampNeg) - 48, f_this_at + 1) else some ((-1), f_this_at)) else some ((-1), f_this_at)
set_option maxHeartbeats 4000000 in
set_option maxRecDepth 100000 in
theorem c_X4_takeFigure (l : Launch) (G : jG) (N : Nat) (q_this : Nat) (q_this_text : Nat) (q_this_text_bytes : Nat) (v_this_hills : Value) (v_this_number : Value) (v_this_draft : Value) (f_this_text_bytes : (Nat → Int32)) (f_this_text_size : Int32) (f_this_at : Int32) (x1 : Int32) (u : Int32 × Int32) (hu : g_X4_takeFigure N f_this_text_bytes f_this_text_size f_this_at x1 = some u) : MetRW l G yX4_takeFigure wsX4_takeFigure ({ frames := 0, cells := 0, slots := 0, locals := 0 } : Room) [.ref q_this, .int x1] (w_X4_takeFigure G q_this q_this_text q_this_text_bytes v_this_hills v_this_number v_this_draft f_this_text_bytes f_this_text_size f_this_at) (w_X4_takeFigure G q_this q_this_text q_this_text_bytes v_this_hills v_this_number v_this_draft f_this_text_bytes f_this_text_size u.2) u.1 := by
  refine met_rwi (cc := cX4_takeFigure) (maxL := 3) (lv0 := [(0, .ref q_this), (1, .int x1)]) (by decide) rfl rfl rfl rfl (fun X hX hW hret => ?_)
  have hinX4 : ∀ w ∈ u_ws RX4 TX4 5, w ∈ wsX4_takeFigure := by decide +kernel
  have hinX9 : ∀ w ∈ u_ws RX9 TX9 2, w ∈ wsX4_takeFigure := by decide +kernel
  have hf_X4_at_38 : Cond.fieldLink RX4 38 (TX4 4).1 (TX4 4).2.1 (TX4 4).2.2.1 ∈ wsX4_takeFigure := by decide +kernel
  have hf_X4_text_31 : Cond.fieldLink RX4 31 (TX4 1).1 (TX4 1).2.1 (TX4 1).2.2.1 ∈ wsX4_takeFigure := by decide +kernel
  have hf_X9_bytes_51 : Cond.fieldLink RX4 51 (TX9 0).1 (TX9 0).2.1 (TX9 0).2.2.1 ∈ wsX4_takeFigure := by decide +kernel
  have hf_X9_size_42 : Cond.fieldLink RX4 42 (TX9 1).1 (TX9 1).2.1 (TX9 1).2.2.1 ∈ wsX4_takeFigure := by decide +kernel
  have hg := hu
  unfold g_X4_takeFigure at hg
  refine j_aload_n hX 0 dX4_takeFigure_0 rfl rfl ?_
  refine j_get hX 0 4 rfl rfl hinX4 rfl hf_X4_at_38 rfl dX4_takeFigure_1 ?_
  refine j_aload_n hX 0 dX4_takeFigure_4 rfl rfl ?_
  refine j_get hX 0 1 rfl rfl hinX4 rfl hf_X4_text_31 rfl dX4_takeFigure_5 ?_
  refine j_get hX 1 1 rfl rfl hinX9 rfl hf_X9_size_42 rfl dX4_takeFigure_8 ?_
  refine j_icmp_lt hX 16 hg dX4_takeFigure_11 (by decide) (fun hg => ?_) (fun hg => ?_)
  · refine j_aload_n hX 0 dX4_takeFigure_16 rfl rfl ?_
    refine j_get hX 0 1 rfl rfl hinX4 rfl hf_X4_text_31 rfl dX4_takeFigure_17 ?_
    refine j_get hX 1 0 rfl rfl hinX9 rfl hf_X9_bytes_51 rfl dX4_takeFigure_20 ?_
    refine j_aload_n hX 0 dX4_takeFigure_23 rfl rfl ?_
    refine j_get hX 0 4 rfl rfl hinX4 rfl hf_X4_at_38 rfl dX4_takeFigure_24 ?_
    refine j_bald hX 2 rfl hg dX4_takeFigure_27 (fun hg => ?_)
    refine j_bipush hX dX4_takeFigure_28 kb_48 ?_
    refine j_isub hX dX4_takeFigure_30 ?_
    refine j_istore_n hX (lv' := [(2, .int ((f_this_text_bytes f_this_at.toNatClampNeg) - 48)), (0, .ref q_this), (1, .int x1)]) dX4_takeFigure_31 rfl rfl rfl ?_
    refine j_iload_n hX 0 dX4_takeFigure_32 rfl rfl ?_
    refine j_if_lt hX 41 hg dX4_takeFigure_33 (by decide) (fun hg => ?_) (fun hg => ?_)
    · refine j_iconst hX dX4_takeFigure_41 kc_m1 ?_
      cases hg
      exact hret _ _ dX4_takeFigure_42
    · refine j_iload_n hX 0 dX4_takeFigure_36 rfl rfl ?_
      refine j_iload_n hX 2 dX4_takeFigure_37 rfl rfl ?_
      refine j_icmp_lt hX 43 hg dX4_takeFigure_38 (by decide) (fun hg => ?_) (fun hg => ?_)
      · refine j_aload_n hX 1 dX4_takeFigure_43 rfl rfl ?_
        refine j_dup hX dX4_takeFigure_44 rfl ?_
        refine j_get hX 0 4 rfl rfl hinX4 rfl hf_X4_at_38 rfl dX4_takeFigure_45 ?_
        refine j_iconst hX dX4_takeFigure_48 kc_1 ?_
        refine j_iadd hX dX4_takeFigure_49 ?_
        refine j_put hX hW 0 4 rfl rfl hinX4 tyX4 tyX4_ok nmX4 rfl hf_X4_at_38 rfl rfl rfl rfl dX4_takeFigure_50 (ws' := (w_X4_takeFigure G q_this q_this_text q_this_text_bytes v_this_hills v_this_number v_this_draft f_this_text_bytes f_this_text_size (f_this_at + 1))) rfl ?_
        refine j_iload_n hX 0 dX4_takeFigure_53 rfl rfl ?_
        cases hg
        exact hret _ _ dX4_takeFigure_54
      · refine j_iconst hX dX4_takeFigure_41 kc_m1 ?_
        cases hg
        exact hret _ _ dX4_takeFigure_42
  · refine j_iconst hX dX4_takeFigure_14 kc_m1 ?_
    cases hg
    exact hret _ _ dX4_takeFigure_15
abbrev w_X4_takesSign (G : jG) (q_this : Nat) (q_this_text : Nat) (q_this_text_bytes : Nat) (v_this_hills : Value) (v_this_number : Value) (v_this_draft : Value) (f_this_text_bytes : (Nat → Int32)) (f_this_text_size : Int32) (f_this_at : Int32) : va_W := [oC q_this 4 [v_this_hills, .ref q_this_text, v_this_number, v_this_draft, .int f_this_at], oC q_this_text 9 [.ref q_this_text_bytes, .int f_this_text_size], aB G q_this_text_bytes 300 f_this_text_bytes]
def g_X4_takesSign (N : Nat) (f_this_text_bytes : (Nat → Int32)) (f_this_text_size : Int32) (f_this_at : Int32) (x1 : Int32) : Option (Int32 × Int32) := if f_this_text_size ≤ f_this_at then some (0, f_this_at) else gi f_this_at 300 (if (f_this_text_bytes f_this_at.toNatClampNeg) = x1 then some (1, f_this_at + 1) else some (0, f_this_at))
set_option maxHeartbeats 4000000 in
set_option maxRecDepth 100000 in
theorem c_X4_takesSign (l : Launch) (G : jG) (N : Nat) (q_this : Nat) (q_this_text : Nat) (q_this_text_bytes : Nat) (v_this_hills : Value) (v_this_number : Value) (v_this_draft : Value) (f_this_text_bytes : (Nat → Int32)) (f_this_text_size : Int32) (f_this_at : Int32) (x1 : Int32) (u : Int32 × Int32) (hu : g_X4_takesSign N f_this_text_bytes f_this_text_size f_this_at x1 = some u) : MetRW l G yX4_takesSign wsX4_takesSign ({ frames := 0, cells := 0, slots := 0, locals := 0 } : Room) [.ref q_this, .int x1] (w_X4_takesSign G q_this q_this_text q_this_text_bytes v_this_hills v_this_number v_this_draft f_this_text_bytes f_this_text_size f_this_at) (w_X4_takesSign G q_this q_this_text q_this_text_bytes v_this_hills v_this_number v_this_draft f_this_text_bytes f_this_text_size u.2) u.1 := by
  refine met_rwz (cc := cX4_takesSign) (maxL := 2) (lv0 := [(0, .ref q_this), (1, .int x1)]) (by decide) rfl rfl rfl rfl (fun X hX hW hret => ?_)
  have hinX4 : ∀ w ∈ u_ws RX4 TX4 5, w ∈ wsX4_takesSign := by decide +kernel
  have hinX9 : ∀ w ∈ u_ws RX9 TX9 2, w ∈ wsX4_takesSign := by decide +kernel
  have hf_X4_at_38 : Cond.fieldLink RX4 38 (TX4 4).1 (TX4 4).2.1 (TX4 4).2.2.1 ∈ wsX4_takesSign := by decide +kernel
  have hf_X4_text_31 : Cond.fieldLink RX4 31 (TX4 1).1 (TX4 1).2.1 (TX4 1).2.2.1 ∈ wsX4_takesSign := by decide +kernel
  have hf_X9_bytes_51 : Cond.fieldLink RX4 51 (TX9 0).1 (TX9 0).2.1 (TX9 0).2.2.1 ∈ wsX4_takesSign := by decide +kernel
  have hf_X9_size_42 : Cond.fieldLink RX4 42 (TX9 1).1 (TX9 1).2.1 (TX9 1).2.2.1 ∈ wsX4_takesSign := by decide +kernel
  have hg := hu
  unfold g_X4_takesSign at hg
  refine j_aload_n hX 0 dX4_takesSign_0 rfl rfl ?_
  refine j_get hX 0 4 rfl rfl hinX4 rfl hf_X4_at_38 rfl dX4_takesSign_1 ?_
  refine j_aload_n hX 0 dX4_takesSign_4 rfl rfl ?_
  refine j_get hX 0 1 rfl rfl hinX4 rfl hf_X4_text_31 rfl dX4_takesSign_5 ?_
  refine j_get hX 1 1 rfl rfl hinX9 rfl hf_X9_size_42 rfl dX4_takesSign_8 ?_
  refine j_icmp_ge hX 30 hg dX4_takesSign_11 (by decide) (fun hg => ?_) (fun hg => ?_)
  · refine j_iconst hX dX4_takesSign_30 kc_0 ?_
    cases hg
    exact hret _ _ (Or.inl rfl) dX4_takesSign_31
  · refine j_aload_n hX 0 dX4_takesSign_14 rfl rfl ?_
    refine j_get hX 0 1 rfl rfl hinX4 rfl hf_X4_text_31 rfl dX4_takesSign_15 ?_
    refine j_get hX 1 0 rfl rfl hinX9 rfl hf_X9_bytes_51 rfl dX4_takesSign_18 ?_
    refine j_aload_n hX 0 dX4_takesSign_21 rfl rfl ?_
    refine j_get hX 0 4 rfl rfl hinX4 rfl hf_X4_at_38 rfl dX4_takesSign_22 ?_
    refine j_bald hX 2 rfl hg dX4_takesSign_25 (fun hg => ?_)
    refine j_iload_n hX 1 dX4_takesSign_26 rfl rfl ?_
    refine j_icmp_eq hX 32 hg dX4_takesSign_27 (by decide) (fun hg => ?_) (fun hg => ?_)
    · refine j_aload_n hX 0 dX4_takesSign_32 rfl rfl ?_
      refine j_dup hX dX4_takesSign_33 rfl ?_
      refine j_get hX 0 4 rfl rfl hinX4 rfl hf_X4_at_38 rfl dX4_takesSign_34 ?_
      refine j_iconst hX dX4_takesSign_37 kc_1 ?_
      refine j_iadd hX dX4_takesSign_38 ?_
      refine j_put hX hW 0 4 rfl rfl hinX4 tyX4 tyX4_ok nmX4 rfl hf_X4_at_38 rfl rfl rfl rfl dX4_takesSign_39 (ws' := (w_X4_takesSign G q_this q_this_text q_this_text_bytes v_this_hills v_this_number v_this_draft f_this_text_bytes f_this_text_size (f_this_at + 1))) rfl ?_
      refine j_iconst hX dX4_takesSign_42 kc_1 ?_
      cases hg
      exact hret _ _ (Or.inr rfl) dX4_takesSign_43
    · refine j_iconst hX dX4_takesSign_30 kc_0 ?_
      cases hg
      exact hret _ _ (Or.inl rfl) dX4_takesSign_31
abbrev w_X4_readsNumbers (G : jG) (q_this : Nat) (q_this_text : Nat) (q_this_text_bytes : Nat) (q_this_number : Nat) (v_this_hills : Value) (v_this_draft : Value) (f_this_text_bytes : (Nat → Int32)) (f_this_text_size : Int32) (f_this_number : (Nat → Int32)) (f_this_at : Int32) : va_W := [oC q_this 4 [v_this_hills, .ref q_this_text, .ref q_this_number, v_this_draft, .int f_this_at], oC q_this_text 9 [.ref q_this_text_bytes, .int f_this_text_size], aB G q_this_text_bytes 300 f_this_text_bytes, aI G q_this_number 3 f_this_number]
def g_X4_readsNumbers_b74 (N : Nat) (f_this_text_bytes : (Nat → Int32)) (f_this_text_size : Int32) (rec_2 : (Nat → Int32) → Int32 → Int32 → Int32 → Option (Int32 × (Nat → Int32) × Int32)) (f_this_number : (Nat → Int32)) (f_this_at : Int32) (x1 : Int32) (x2 : Int32) (s1 : Int32) : Option (Int32 × (Nat → Int32) × Int32) := (g_X4_takesSign N f_this_text_bytes f_this_text_size f_this_at s1).bind fun v74 => if v74.1 = 0 then some (0, f_this_number, v74.2) else rec_2 f_this_number v74.2 x1 (x2 + 1)
def g_X4_readsNumbers_b58 (N : Nat) (f_this_text_bytes : (Nat → Int32)) (f_this_text_size : Int32) (rec_2 : (Nat → Int32) → Int32 → Int32 → Int32 → Option (Int32 × (Nat → Int32) × Int32)) (f_this_number : (Nat → Int32)) (f_this_at : Int32) (x1 : Int32) (x2 : Int32) (s1 : Int32) (s2 : Int32) : Option (Int32 × (Nat → Int32) × Int32) := gi s1 3 (if x2 = (x1 - 1) then g_X4_readsNumbers_b74 N f_this_text_bytes f_this_text_size rec_2 (upd f_this_number s1.toNatClampNeg s2) f_this_at x1 x2 59 else g_X4_readsNumbers_b74 N f_this_text_bytes f_this_text_size rec_2 (upd f_this_number s1.toNatClampNeg s2) f_this_at x1 x2 44)
def g_X4_readsNumbers_L2 (N : Nat) (f_this_text_bytes : (Nat → Int32)) (f_this_text_size : Int32) : Nat → (Nat → Int32) → Int32 → Int32 → Int32 → Option (Int32 × (Nat → Int32) × Int32)
  | 0, _, _, _, _ => none
  | fu + 1, f_this_number, f_this_at, x1, x2 => if x1 ≤ x2 then some (1, f_this_number, f_this_at) else if (nI 3) ≤ x2 then some (1, f_this_number, f_this_at) else (g_X4_takeFigure N f_this_text_bytes f_this_text_size f_this_at 10).bind fun v19 => if (0 : Int32) ≤ v19.1 then (g_X4_takeFigure N f_this_text_bytes f_this_text_size v19.2 10).bind fun v32 => if (0 : Int32) ≤ v32.1 then g_X4_readsNumbers_b58 N f_this_text_bytes f_this_text_size (g_X4_readsNumbers_L2 N f_this_text_bytes f_this_text_size fu) f_this_number v32.2 x1 x2 x2 ((10 * v19.1) + v32.1) else g_X4_readsNumbers_b58 N f_this_text_bytes f_this_text_size (g_X4_readsNumbers_L2 N f_this_text_bytes f_this_text_size fu) f_this_number v32.2 x1 x2 x2 v19.1 else some (0, f_this_number, v19.2)
def g_X4_readsNumbers (N : Nat) (f_this_text_bytes : (Nat → Int32)) (f_this_text_size : Int32) (f_this_number : (Nat → Int32)) (f_this_at : Int32) (x1 : Int32) : Option (Int32 × (Nat → Int32) × Int32) := g_X4_readsNumbers_L2 N f_this_text_bytes f_this_text_size N f_this_number f_this_at x1 0
set_option maxHeartbeats 4000000 in
set_option maxRecDepth 100000 in
theorem c_X4_readsNumbers (l : Launch) (G : jG) (N : Nat) (q_this : Nat) (q_this_text : Nat) (q_this_text_bytes : Nat) (q_this_number : Nat) (v_this_hills : Value) (v_this_draft : Value) (f_this_text_bytes : (Nat → Int32)) (f_this_text_size : Int32) (f_this_number : (Nat → Int32)) (f_this_at : Int32) (x1 : Int32) (u : Int32 × (Nat → Int32) × Int32) (hu : g_X4_readsNumbers N f_this_text_bytes f_this_text_size f_this_number f_this_at x1 = some u) : MetRW l G yX4_readsNumbers wsX4_readsNumbers ({ frames := 1, cells := 0, slots := 0, locals := 22 } : Room) [.ref q_this, .int x1] (w_X4_readsNumbers G q_this q_this_text q_this_text_bytes q_this_number v_this_hills v_this_draft f_this_text_bytes f_this_text_size f_this_number f_this_at) (w_X4_readsNumbers G q_this q_this_text q_this_text_bytes q_this_number v_this_hills v_this_draft f_this_text_bytes f_this_text_size u.2.1 u.2.2) u.1 := by
  refine met_rwz (cc := cX4_readsNumbers) (maxL := 5) (lv0 := [(0, .ref q_this), (1, .int x1)]) (by decide) rfl rfl rfl rfl (fun X hX hW hret => ?_)
  have hinX4 : ∀ w ∈ u_ws RX4 TX4 5, w ∈ wsX4_readsNumbers := by decide +kernel
  have hf_X4_number_18 : Cond.fieldLink RX4 18 (TX4 2).1 (TX4 2).2.1 (TX4 2).2.2.1 ∈ wsX4_readsNumbers := by decide +kernel
  have L2 : ∀ (fu2 : Nat), ∀ (f_this_number : (Nat → Int32)) (f_this_at : Int32) (x1 : Int32) (x2 : Int32), g_X4_readsNumbers_L2 N f_this_text_bytes f_this_text_size fu2 f_this_number f_this_at x1 x2 = some u → J X 0 0 (w_X4_readsNumbers G q_this q_this_text q_this_text_bytes q_this_number v_this_hills v_this_draft f_this_text_bytes f_this_text_size f_this_number f_this_at) 2 [(0, .ref q_this), (1, .int x1), (2, .int x2)] [] := by
    intro fu2
    induction fu2 with
    | zero => intro f_this_number f_this_at x1 x2 hg; exact nomatch hg
    | succ fu2 ih2 =>
      have B74 : ∀ (f_this_number : (Nat → Int32)) (f_this_at : Int32) (x1 : Int32) (x2 : Int32) (s1 : Int32), g_X4_readsNumbers_b74 N f_this_text_bytes f_this_text_size (g_X4_readsNumbers_L2 N f_this_text_bytes f_this_text_size fu2) f_this_number f_this_at x1 x2 s1 = some u → J X 0 0 (w_X4_readsNumbers G q_this q_this_text q_this_text_bytes q_this_number v_this_hills v_this_draft f_this_text_bytes f_this_text_size f_this_number f_this_at) 74 [(0, .ref q_this), (1, .int x1), (2, .int x2)] [.int s1, .ref q_this] := by
        intro f_this_number f_this_at x1 x2 s1 hg
        unfold g_X4_readsNumbers_b74 at hg
        refine j_vRW hX hW (r := fun v => v.1) (w1 := fun v => (w_X4_takesSign G q_this q_this_text q_this_text_bytes v_this_hills (.ref q_this_number) v_this_draft f_this_text_bytes f_this_text_size v.2)) (ws' := fun v => (w_X4_readsNumbers G q_this q_this_text q_this_text_bytes q_this_number v_this_hills v_this_draft f_this_text_bytes f_this_text_size f_this_number v.2)) [.int s1] hg (fun v hv => c_X4_takesSign l G N q_this q_this_text q_this_text_bytes v_this_hills (.ref q_this_number) v_this_draft f_this_text_bytes f_this_text_size f_this_at s1 v hv) gX4_readsNumbers_X4_takesSign rfl ⟨rfl, rfl⟩ ⟨rfl, by decide, by decide, rfl⟩ rfl rfl [0, 1, 2] rfl (by decide +kernel) rfl rfl dX4_readsNumbers_74 rfl rfl ⟨Nat.zero_le _, Nat.zero_le _⟩ (fun _ => jn_set [0, 1, 2] rfl rfl rfl) (fun v74 hg => ?_)
        refine j_if_ne hX 82 hg dX4_readsNumbers_77 (by decide) (fun hg => ?_) (fun hg => ?_)
        · refine j_iconst hX dX4_readsNumbers_80 kc_0 ?_
          cases hg
          exact hret _ _ (Or.inl rfl) dX4_readsNumbers_81
        · refine j_iinc hX 2 (v := x2 + 1) (lv' := [(2, .int (x2 + 1)), (0, .ref q_this), (1, .int x1)]) dX4_readsNumbers_82 rfl (by rw [kc_1]) rfl rfl ?_
          refine j_goto hX 2 dX4_readsNumbers_85 (by decide) ?_
          refine j_lv [1, 2, 0] rfl ?_
          exact ih2 _ _ _ _ hg
      have B58 : ∀ (f_this_number : (Nat → Int32)) (f_this_at : Int32) (x1 : Int32) (x2 : Int32) (s1 : Int32) (s2 : Int32), g_X4_readsNumbers_b58 N f_this_text_bytes f_this_text_size (g_X4_readsNumbers_L2 N f_this_text_bytes f_this_text_size fu2) f_this_number f_this_at x1 x2 s1 s2 = some u → J X 0 0 (w_X4_readsNumbers G q_this q_this_text q_this_text_bytes q_this_number v_this_hills v_this_draft f_this_text_bytes f_this_text_size f_this_number f_this_at) 58 [(0, .ref q_this), (1, .int x1), (2, .int x2)] [.int s2, .int s1, .ref q_this_number] := by
        intro f_this_number f_this_at x1 x2 s1 s2 hg
        unfold g_X4_readsNumbers_b58 at hg
        refine j_iast hX hW 3 rfl hg dX4_readsNumbers_58 (ws' := (w_X4_readsNumbers G q_this q_this_text q_this_text_bytes q_this_number v_this_hills v_this_draft f_this_text_bytes f_this_text_size (upd f_this_number s1.toNatClampNeg s2) f_this_at)) rfl (fun hg => ?_)
        refine j_aload_n hX 0 dX4_readsNumbers_59 rfl rfl ?_
        refine j_iload_n hX 2 dX4_readsNumbers_60 rfl rfl ?_
        refine j_iload_n hX 1 dX4_readsNumbers_61 rfl rfl ?_
        refine j_iconst hX dX4_readsNumbers_62 kc_1 ?_
        refine j_isub hX dX4_readsNumbers_63 ?_
        refine j_icmp_ne hX 72 hg dX4_readsNumbers_64 (by decide) (fun hg => ?_) (fun hg => ?_)
        · refine j_bipush hX dX4_readsNumbers_67 kb_59 ?_
          refine j_goto hX 74 dX4_readsNumbers_69 (by decide) ?_
          exact B74 _ _ _ _ _ hg
        · refine j_bipush hX dX4_readsNumbers_72 kb_44 ?_
          exact B74 _ _ _ _ _ hg
      intro f_this_number f_this_at x1 x2 hg
      unfold g_X4_readsNumbers_L2 at hg
      refine j_iload_n hX 2 dX4_readsNumbers_2 rfl rfl ?_
      refine j_iload_n hX 1 dX4_readsNumbers_3 rfl rfl ?_
      refine j_icmp_ge hX 88 hg dX4_readsNumbers_4 (by decide) (fun hg => ?_) (fun hg => ?_)
      · refine j_iconst hX dX4_readsNumbers_88 kc_1 ?_
        cases hg
        exact hret _ _ (Or.inr rfl) dX4_readsNumbers_89
      · refine j_iload_n hX 2 dX4_readsNumbers_7 rfl rfl ?_
        refine j_aload_n hX 0 dX4_readsNumbers_8 rfl rfl ?_
        refine j_get hX 0 2 rfl rfl hinX4 rfl hf_X4_number_18 rfl dX4_readsNumbers_9 ?_
        refine j_alen hX 3 rfl dX4_readsNumbers_12 ?_
        refine j_icmp_ge hX 88 hg dX4_readsNumbers_13 (by decide) (fun hg => ?_) (fun hg => ?_)
        · refine j_iconst hX dX4_readsNumbers_88 kc_1 ?_
          cases hg
          exact hret _ _ (Or.inr rfl) dX4_readsNumbers_89
        · refine j_aload_n hX 0 dX4_readsNumbers_16 rfl rfl ?_
          refine j_bipush hX dX4_readsNumbers_17 kb_10 ?_
          refine j_vRW hX hW (r := fun v => v.1) (w1 := fun v => (w_X4_takeFigure G q_this q_this_text q_this_text_bytes v_this_hills (.ref q_this_number) v_this_draft f_this_text_bytes f_this_text_size v.2)) (ws' := fun v => (w_X4_readsNumbers G q_this q_this_text q_this_text_bytes q_this_number v_this_hills v_this_draft f_this_text_bytes f_this_text_size f_this_number v.2)) [.int 10] hg (fun v hv => c_X4_takeFigure l G N q_this q_this_text q_this_text_bytes v_this_hills (.ref q_this_number) v_this_draft f_this_text_bytes f_this_text_size f_this_at 10 v hv) gX4_readsNumbers_X4_takeFigure rfl ⟨rfl, rfl⟩ ⟨rfl, by decide, by decide, rfl⟩ rfl rfl [0, 1, 2] rfl (by decide +kernel) rfl rfl dX4_readsNumbers_19 rfl rfl ⟨Nat.zero_le _, Nat.zero_le _⟩ (fun _ => jn_set [0, 1, 2] rfl rfl rfl) (fun v19 hg => ?_)
          refine j_istore_n hX (lv' := [(3, .int v19.1), (0, .ref q_this), (1, .int x1), (2, .int x2)]) dX4_readsNumbers_22 rfl rfl rfl ?_
          refine j_iload_n hX 0 dX4_readsNumbers_23 rfl rfl ?_
          refine j_if_ge hX 29 hg dX4_readsNumbers_24 (by decide) (fun hg => ?_) (fun hg => ?_)
          · refine j_aload_n hX 1 dX4_readsNumbers_29 rfl rfl ?_
            refine j_bipush hX dX4_readsNumbers_30 kb_10 ?_
            refine j_vRW hX hW (r := fun v => v.1) (w1 := fun v => (w_X4_takeFigure G q_this q_this_text q_this_text_bytes v_this_hills (.ref q_this_number) v_this_draft f_this_text_bytes f_this_text_size v.2)) (ws' := fun v => (w_X4_readsNumbers G q_this q_this_text q_this_text_bytes q_this_number v_this_hills v_this_draft f_this_text_bytes f_this_text_size f_this_number v.2)) [.int 10] hg (fun v hv => c_X4_takeFigure l G N q_this q_this_text q_this_text_bytes v_this_hills (.ref q_this_number) v_this_draft f_this_text_bytes f_this_text_size v19.2 10 v hv) gX4_readsNumbers_X4_takeFigure rfl ⟨rfl, rfl⟩ ⟨rfl, by decide, by decide, rfl⟩ rfl rfl [0, 1, 2] rfl (by decide +kernel) rfl rfl dX4_readsNumbers_32 rfl rfl ⟨Nat.zero_le _, Nat.zero_le _⟩ (fun _ => jn_set [0, 1, 2] rfl rfl rfl) (fun v32 hg => ?_)
            refine j_istore hX (lv' := [(4, .int v32.1), (3, .int v19.1), (0, .ref q_this), (1, .int x1), (2, .int x2)]) dX4_readsNumbers_35 rfl rfl ?_
            refine j_aload_n hX 2 dX4_readsNumbers_37 rfl rfl ?_
            refine j_get hX 0 2 rfl rfl hinX4 rfl hf_X4_number_18 rfl dX4_readsNumbers_38 ?_
            refine j_iload_n hX 4 dX4_readsNumbers_41 rfl rfl ?_
            refine j_iload hX 0 dX4_readsNumbers_42 rfl ?_
            refine j_if_ge hX 51 hg dX4_readsNumbers_44 (by decide) (fun hg => ?_) (fun hg => ?_)
            · refine j_bipush hX dX4_readsNumbers_51 kb_10 ?_
              refine j_iload_n hX 1 dX4_readsNumbers_53 rfl rfl ?_
              refine j_imul hX dX4_readsNumbers_54 ?_
              refine j_iload hX 0 dX4_readsNumbers_55 rfl ?_
              refine j_iadd hX dX4_readsNumbers_57 ?_
              refine j_lv [2, 3, 4] rfl ?_
              exact B58 _ _ _ _ _ _ hg
            · refine j_iload_n hX 1 dX4_readsNumbers_47 rfl rfl ?_
              refine j_goto hX 58 dX4_readsNumbers_48 (by decide) ?_
              refine j_lv [2, 3, 4] rfl ?_
              exact B58 _ _ _ _ _ _ hg
          · refine j_iconst hX dX4_readsNumbers_27 kc_0 ?_
            cases hg
            exact hret _ _ (Or.inl rfl) dX4_readsNumbers_28
  have hg := hu
  unfold g_X4_readsNumbers at hg
  refine j_iconst hX dX4_readsNumbers_0 kc_0 ?_
  refine j_istore_n hX (lv' := [(2, .int 0), (0, .ref q_this), (1, .int x1)]) dX4_readsNumbers_1 rfl rfl rfl ?_
  refine j_lv [1, 2, 0] rfl ?_
  exact L2 N _ _ _ _ hg
abbrev w_X7_append (G : jG) (q_this : Nat) (q_this_sort : Nat) (n_this : Nat) (f_this_sort : (Nat → Int32)) (f_this_size : Int32) : va_W := [oC q_this 7 [.ref q_this_sort, .int f_this_size], aI G q_this_sort n_this f_this_sort]
def g_X7_append (N : Nat) (n_this : Nat) (f_this_sort : (Nat → Int32)) (f_this_size : Int32) (x1 : Int32) : Option (Int32 × (Nat → Int32) × Int32) := if f_this_size < (nI n_this) then gi f_this_size n_this (some (1, upd f_this_sort f_this_size.toNatClampNeg x1, f_this_size + 1)) else some (0, f_this_sort, f_this_size)
set_option maxHeartbeats 4000000 in
set_option maxRecDepth 100000 in
theorem c_X7_append (l : Launch) (G : jG) (N : Nat) (q_this : Nat) (q_this_sort : Nat) (n_this : Nat) (f_this_sort : (Nat → Int32)) (f_this_size : Int32) (x1 : Int32) (u : Int32 × (Nat → Int32) × Int32) (hu : g_X7_append N n_this f_this_sort f_this_size x1 = some u) : MetRW l G yX7_append wsX7_append ({ frames := 0, cells := 0, slots := 0, locals := 0 } : Room) [.ref q_this, .int x1] (w_X7_append G q_this q_this_sort n_this f_this_sort f_this_size) (w_X7_append G q_this q_this_sort n_this u.2.1 u.2.2) u.1 := by
  refine met_rwz (cc := cX7_append) (maxL := 2) (lv0 := [(0, .ref q_this), (1, .int x1)]) (by decide) rfl rfl rfl rfl (fun X hX hW hret => ?_)
  have hinX7 : ∀ w ∈ u_ws RX7 TX7 2, w ∈ wsX7_append := by decide +kernel
  have hf_X7_size_13 : Cond.fieldLink RX7 13 (TX7 1).1 (TX7 1).2.1 (TX7 1).2.2.1 ∈ wsX7_append := by decide +kernel
  have hf_X7_sort_7 : Cond.fieldLink RX7 7 (TX7 0).1 (TX7 0).2.1 (TX7 0).2.2.1 ∈ wsX7_append := by decide +kernel
  have hg := hu
  unfold g_X7_append at hg
  refine j_aload_n hX 0 dX7_append_0 rfl rfl ?_
  refine j_get hX 0 1 rfl rfl hinX7 rfl hf_X7_size_13 rfl dX7_append_1 ?_
  refine j_aload_n hX 0 dX7_append_4 rfl rfl ?_
  refine j_get hX 0 0 rfl rfl hinX7 rfl hf_X7_sort_7 rfl dX7_append_5 ?_
  refine j_alen hX 1 rfl dX7_append_8 ?_
  refine j_icmp_lt hX 14 hg dX7_append_9 (by decide) (fun hg => ?_) (fun hg => ?_)
  · refine j_aload_n hX 0 dX7_append_14 rfl rfl ?_
    refine j_get hX 0 0 rfl rfl hinX7 rfl hf_X7_sort_7 rfl dX7_append_15 ?_
    refine j_aload_n hX 0 dX7_append_18 rfl rfl ?_
    refine j_get hX 0 1 rfl rfl hinX7 rfl hf_X7_size_13 rfl dX7_append_19 ?_
    refine j_iload_n hX 1 dX7_append_22 rfl rfl ?_
    refine j_iast hX hW 1 rfl hg dX7_append_23 (ws' := (w_X7_append G q_this q_this_sort n_this (upd f_this_sort f_this_size.toNatClampNeg x1) f_this_size)) rfl (fun hg => ?_)
    refine j_aload_n hX 0 dX7_append_24 rfl rfl ?_
    refine j_dup hX dX7_append_25 rfl ?_
    refine j_get hX 0 1 rfl rfl hinX7 rfl hf_X7_size_13 rfl dX7_append_26 ?_
    refine j_iconst hX dX7_append_29 kc_1 ?_
    refine j_iadd hX dX7_append_30 ?_
    refine j_put hX hW 0 1 rfl rfl hinX7 tyX7 tyX7_ok nmX7 rfl hf_X7_size_13 rfl rfl rfl rfl dX7_append_31 (ws' := (w_X7_append G q_this q_this_sort n_this (upd f_this_sort f_this_size.toNatClampNeg x1) (f_this_size + 1))) rfl ?_
    refine j_iconst hX dX7_append_34 kc_1 ?_
    cases hg
    exact hret _ _ (Or.inr rfl) dX7_append_35
  · refine j_iconst hX dX7_append_12 kc_0 ?_
    cases hg
    exact hret _ _ (Or.inl rfl) dX7_append_13
abbrev w_X4_readsWord (G : jG) (q_this : Nat) (q_this_text : Nat) (q_this_text_bytes : Nat) (q_this_draft : Nat) (q_this_draft_sort : Nat) (v_this_hills : Value) (v_this_number : Value) (f_this_text_bytes : (Nat → Int32)) (f_this_text_size : Int32) (f_this_draft_sort : (Nat → Int32)) (f_this_draft_size : Int32) (f_this_at : Int32) : va_W := [oC q_this 4 [v_this_hills, .ref q_this_text, v_this_number, .ref q_this_draft, .int f_this_at], oC q_this_text 9 [.ref q_this_text_bytes, .int f_this_text_size], aB G q_this_text_bytes 300 f_this_text_bytes, oC q_this_draft 7 [.ref q_this_draft_sort, .int f_this_draft_size], aI G q_this_draft_sort 4 f_this_draft_sort]
def g_X4_readsWord_b44 (N : Nat) (f_this_text_bytes : (Nat → Int32)) (f_this_text_size : Int32) (f_this_draft_sort : (Nat → Int32)) (f_this_draft_size : Int32) (f_this_at : Int32) : Option (Int32 × (Nat → Int32) × Int32 × Int32) := if f_this_draft_size ≤ 0 then some (0, f_this_draft_sort, f_this_draft_size, f_this_at) else (g_X4_takesSign N f_this_text_bytes f_this_text_size f_this_at 59).bind fun v57 => if v57.1 = 0 then some (0, f_this_draft_sort, f_this_draft_size, v57.2) else some (1, f_this_draft_sort, f_this_draft_size, v57.2)
def g_X4_readsWord_b26 (N : Nat) (f_this_text_bytes : (Nat → Int32)) (f_this_text_size : Int32) (f_this_draft_sort : (Nat → Int32)) (f_this_draft_size : Int32) (f_this_at : Int32) : Option (Int32 × (Nat → Int32) × Int32 × Int32) := g_X4_readsWord_b44 N f_this_text_bytes f_this_text_size f_this_draft_sort f_this_draft_size f_this_at
def g_X4_readsWord_L10 (N : Nat) (f_this_text_bytes : (Nat → Int32)) (f_this_text_size : Int32) (k_26 : (Nat → Int32) → Int32 → Int32 → Option (Int32 × (Nat → Int32) × Int32 × Int32)) (k_44 : (Nat → Int32) → Int32 → Int32 → Option (Int32 × (Nat → Int32) × Int32 × Int32)) : Nat → (Nat → Int32) → Int32 → Int32 → Int32 → Option (Int32 × (Nat → Int32) × Int32 × Int32)
  | 0, _, _, _, _ => none
  | fu + 1, f_this_draft_sort, f_this_draft_size, f_this_at, x1 => if (4 : Int32) ≤ x1 then k_44 f_this_draft_sort f_this_draft_size f_this_at else (g_X4_takeFigure N f_this_text_bytes f_this_text_size f_this_at 8).bind fun v18 => if (0 : Int32) ≤ v18.1 then (g_X7_append N 4 f_this_draft_sort f_this_draft_size v18.1).bind fun v34 => g_X4_readsWord_L10 N f_this_text_bytes f_this_text_size k_26 k_44 fu v34.2.1 v34.2.2 v18.2 (x1 + 1) else k_26 f_this_draft_sort f_this_draft_size v18.2
def g_X4_readsWord (N : Nat) (f_this_text_bytes : (Nat → Int32)) (f_this_text_size : Int32) (f_this_draft_sort : (Nat → Int32)) (f_this_draft_size : Int32) (f_this_at : Int32) : Option (Int32 × (Nat → Int32) × Int32 × Int32) := g_X4_readsWord_L10 N f_this_text_bytes f_this_text_size (g_X4_readsWord_b26 N f_this_text_bytes f_this_text_size) (g_X4_readsWord_b44 N f_this_text_bytes f_this_text_size) N f_this_draft_sort 0 f_this_at 0
set_option maxHeartbeats 4000000 in
set_option maxRecDepth 100000 in
theorem c_X4_readsWord (l : Launch) (G : jG) (N : Nat) (q_this : Nat) (q_this_text : Nat) (q_this_text_bytes : Nat) (q_this_draft : Nat) (q_this_draft_sort : Nat) (v_this_hills : Value) (v_this_number : Value) (f_this_text_bytes : (Nat → Int32)) (f_this_text_size : Int32) (f_this_draft_sort : (Nat → Int32)) (f_this_draft_size : Int32) (f_this_at : Int32) (u : Int32 × (Nat → Int32) × Int32 × Int32) (hu : g_X4_readsWord N f_this_text_bytes f_this_text_size f_this_draft_sort f_this_draft_size f_this_at = some u) : MetRW l G yX4_readsWord wsX4_readsWord ({ frames := 1, cells := 0, slots := 0, locals := 22 } : Room) [.ref q_this] (w_X4_readsWord G q_this q_this_text q_this_text_bytes q_this_draft q_this_draft_sort v_this_hills v_this_number f_this_text_bytes f_this_text_size f_this_draft_sort f_this_draft_size f_this_at) (w_X4_readsWord G q_this q_this_text q_this_text_bytes q_this_draft q_this_draft_sort v_this_hills v_this_number f_this_text_bytes f_this_text_size u.2.1 u.2.2.1 u.2.2.2) u.1 := by
  refine met_rwz (cc := cX4_readsWord) (maxL := 3) (lv0 := [(0, .ref q_this)]) (by decide) rfl rfl rfl rfl (fun X hX hW hret => ?_)
  have hinX4 : ∀ w ∈ u_ws RX4 TX4 5, w ∈ wsX4_readsWord := by decide +kernel
  have hinX7 : ∀ w ∈ u_ws RX7 TX7 2, w ∈ wsX4_readsWord := by decide +kernel
  have hf_X4_draft_27 : Cond.fieldLink RX4 27 (TX4 3).1 (TX4 3).2.1 (TX4 3).2.2.1 ∈ wsX4_readsWord := by decide +kernel
  have hf_X7_size_96 : Cond.fieldLink RX4 96 (TX7 1).1 (TX7 1).2.1 (TX7 1).2.2.1 ∈ wsX4_readsWord := by decide +kernel
  have B44 : ∀ (f_this_draft_sort : (Nat → Int32)) (f_this_draft_size : Int32) (f_this_at : Int32), g_X4_readsWord_b44 N f_this_text_bytes f_this_text_size f_this_draft_sort f_this_draft_size f_this_at = some u → J X 0 0 (w_X4_readsWord G q_this q_this_text q_this_text_bytes q_this_draft q_this_draft_sort v_this_hills v_this_number f_this_text_bytes f_this_text_size f_this_draft_sort f_this_draft_size f_this_at) 44 [(0, .ref q_this)] [] := by
    intro f_this_draft_sort f_this_draft_size f_this_at hg
    unfold g_X4_readsWord_b44 at hg
    refine j_aload_n hX 0 dX4_readsWord_44 rfl rfl ?_
    refine j_get hX 0 3 rfl rfl hinX4 rfl hf_X4_draft_27 rfl dX4_readsWord_45 ?_
    refine j_get hX 3 1 rfl rfl hinX7 rfl hf_X7_size_96 rfl dX4_readsWord_48 ?_
    refine j_if_le hX 67 hg dX4_readsWord_51 (by decide) (fun hg => ?_) (fun hg => ?_)
    · refine j_iconst hX dX4_readsWord_67 kc_0 ?_
      cases hg
      exact hret _ _ (Or.inl rfl) dX4_readsWord_68
    · refine j_aload_n hX 0 dX4_readsWord_54 rfl rfl ?_
      refine j_bipush hX dX4_readsWord_55 kb_59 ?_
      refine j_vRW hX hW (r := fun v => v.1) (w1 := fun v => (w_X4_takesSign G q_this q_this_text q_this_text_bytes v_this_hills v_this_number (.ref q_this_draft) f_this_text_bytes f_this_text_size v.2)) (ws' := fun v => (w_X4_readsWord G q_this q_this_text q_this_text_bytes q_this_draft q_this_draft_sort v_this_hills v_this_number f_this_text_bytes f_this_text_size f_this_draft_sort f_this_draft_size v.2)) [.int 59] hg (fun v hv => c_X4_takesSign l G N q_this q_this_text q_this_text_bytes v_this_hills v_this_number (.ref q_this_draft) f_this_text_bytes f_this_text_size f_this_at 59 v hv) gX4_readsWord_X4_takesSign rfl ⟨rfl, rfl⟩ ⟨rfl, by decide, by decide, rfl⟩ rfl rfl [0, 1, 2] rfl (by decide +kernel) rfl rfl dX4_readsWord_57 rfl rfl ⟨Nat.zero_le _, Nat.zero_le _⟩ (fun _ => jn_set [0, 1, 2] rfl rfl rfl) (fun v57 hg => ?_)
      refine j_if_eq hX 67 hg dX4_readsWord_60 (by decide) (fun hg => ?_) (fun hg => ?_)
      · refine j_iconst hX dX4_readsWord_67 kc_0 ?_
        cases hg
        exact hret _ _ (Or.inl rfl) dX4_readsWord_68
      · refine j_iconst hX dX4_readsWord_63 kc_1 ?_
        refine j_goto hX 68 dX4_readsWord_64 (by decide) ?_
        cases hg
        exact hret _ _ (Or.inr rfl) dX4_readsWord_68
  have B26 : ∀ (f_this_draft_sort : (Nat → Int32)) (f_this_draft_size : Int32) (f_this_at : Int32), g_X4_readsWord_b26 N f_this_text_bytes f_this_text_size f_this_draft_sort f_this_draft_size f_this_at = some u → J X 0 0 (w_X4_readsWord G q_this q_this_text q_this_text_bytes q_this_draft q_this_draft_sort v_this_hills v_this_number f_this_text_bytes f_this_text_size f_this_draft_sort f_this_draft_size f_this_at) 26 [(0, .ref q_this)] [] := by
    intro f_this_draft_sort f_this_draft_size f_this_at hg
    unfold g_X4_readsWord_b26 at hg
    refine j_goto hX 44 dX4_readsWord_26 (by decide) ?_
    exact B44 _ _ _ hg
  have L10 : ∀ (fu10 : Nat), ∀ (f_this_draft_sort : (Nat → Int32)) (f_this_draft_size : Int32) (f_this_at : Int32) (x1 : Int32), g_X4_readsWord_L10 N f_this_text_bytes f_this_text_size (g_X4_readsWord_b26 N f_this_text_bytes f_this_text_size) (g_X4_readsWord_b44 N f_this_text_bytes f_this_text_size) fu10 f_this_draft_sort f_this_draft_size f_this_at x1 = some u → J X 0 0 (w_X4_readsWord G q_this q_this_text q_this_text_bytes q_this_draft q_this_draft_sort v_this_hills v_this_number f_this_text_bytes f_this_text_size f_this_draft_sort f_this_draft_size f_this_at) 10 [(0, .ref q_this), (1, .int x1)] [] := by
    intro fu10
    induction fu10 with
    | zero => intro f_this_draft_sort f_this_draft_size f_this_at x1 hg; exact nomatch hg
    | succ fu10 ih10 =>
      intro f_this_draft_sort f_this_draft_size f_this_at x1 hg
      unfold g_X4_readsWord_L10 at hg
      refine j_iload_n hX 1 dX4_readsWord_10 rfl rfl ?_
      refine j_iconst hX dX4_readsWord_11 kc_4 ?_
      refine j_icmp_ge hX 44 hg dX4_readsWord_12 (by decide) (fun hg => ?_) (fun hg => ?_)
      · refine j_lv [0] rfl ?_
        exact B44 _ _ _ hg
      · refine j_aload_n hX 0 dX4_readsWord_15 rfl rfl ?_
        refine j_bipush hX dX4_readsWord_16 kb_8 ?_
        refine j_vRW hX hW (r := fun v => v.1) (w1 := fun v => (w_X4_takeFigure G q_this q_this_text q_this_text_bytes v_this_hills v_this_number (.ref q_this_draft) f_this_text_bytes f_this_text_size v.2)) (ws' := fun v => (w_X4_readsWord G q_this q_this_text q_this_text_bytes q_this_draft q_this_draft_sort v_this_hills v_this_number f_this_text_bytes f_this_text_size f_this_draft_sort f_this_draft_size v.2)) [.int 8] hg (fun v hv => c_X4_takeFigure l G N q_this q_this_text q_this_text_bytes v_this_hills v_this_number (.ref q_this_draft) f_this_text_bytes f_this_text_size f_this_at 8 v hv) gX4_readsWord_X4_takeFigure rfl ⟨rfl, rfl⟩ ⟨rfl, by decide, by decide, rfl⟩ rfl rfl [0, 1, 2] rfl (by decide +kernel) rfl rfl dX4_readsWord_18 rfl rfl ⟨Nat.zero_le _, Nat.zero_le _⟩ (fun _ => jn_set [0, 1, 2] rfl rfl rfl) (fun v18 hg => ?_)
        refine j_istore_n hX (lv' := [(2, .int v18.1), (0, .ref q_this), (1, .int x1)]) dX4_readsWord_21 rfl rfl rfl ?_
        refine j_iload_n hX 0 dX4_readsWord_22 rfl rfl ?_
        refine j_if_ge hX 29 hg dX4_readsWord_23 (by decide) (fun hg => ?_) (fun hg => ?_)
        · refine j_aload_n hX 1 dX4_readsWord_29 rfl rfl ?_
          refine j_get hX 0 3 rfl rfl hinX4 rfl hf_X4_draft_27 rfl dX4_readsWord_30 ?_
          refine j_iload_n hX 0 dX4_readsWord_33 rfl rfl ?_
          refine j_vRW hX hW (r := fun v => v.1) (w1 := fun v => (w_X7_append G q_this_draft q_this_draft_sort 4 v.2.1 v.2.2)) (ws' := fun v => (w_X4_readsWord G q_this q_this_text q_this_text_bytes q_this_draft q_this_draft_sort v_this_hills v_this_number f_this_text_bytes f_this_text_size v.2.1 v.2.2 v18.2)) [.int v18.1] hg (fun v hv => c_X7_append l G N q_this_draft q_this_draft_sort 4 f_this_draft_sort f_this_draft_size v18.1 v hv) gX4_readsWord_X7_append rfl ⟨rfl, rfl⟩ ⟨rfl, by decide, by decide, rfl⟩ rfl rfl [3, 4] rfl (by decide +kernel) rfl rfl dX4_readsWord_34 rfl rfl ⟨Nat.zero_le _, Nat.zero_le _⟩ (fun _ => jn_set [3, 4] rfl rfl rfl) (fun v34 hg => ?_)
          refine j_pop hX dX4_readsWord_37 rfl ?_
          refine j_iinc hX 2 (v := x1 + 1) (lv' := [(1, .int (x1 + 1)), (2, .int v18.1), (0, .ref q_this)]) dX4_readsWord_38 rfl (by rw [kc_1]) rfl rfl ?_
          refine j_goto hX 10 dX4_readsWord_41 (by decide) ?_
          refine j_lv [2, 0] rfl ?_
          exact ih10 _ _ _ _ hg
        · refine j_lv [1] rfl ?_
          exact B26 _ _ _ hg
  have hg := hu
  unfold g_X4_readsWord at hg
  refine j_aload_n hX 0 dX4_readsWord_0 rfl rfl ?_
  refine j_get hX 0 3 rfl rfl hinX4 rfl hf_X4_draft_27 rfl dX4_readsWord_1 ?_
  refine j_iconst hX dX4_readsWord_4 kc_0 ?_
  refine j_put hX hW 3 1 rfl rfl hinX7 tyX7 tyX7_ok nmX7 rfl hf_X7_size_96 rfl rfl rfl rfl dX4_readsWord_5 (ws' := (w_X4_readsWord G q_this q_this_text q_this_text_bytes q_this_draft q_this_draft_sort v_this_hills v_this_number f_this_text_bytes f_this_text_size f_this_draft_sort 0 f_this_at)) rfl ?_
  refine j_iconst hX dX4_readsWord_8 kc_0 ?_
  refine j_istore_n hX (lv' := [(1, .int 0), (0, .ref q_this)]) dX4_readsWord_9 rfl rfl rfl ?_
  refine j_lv [1, 0] rfl ?_
  exact L10 N _ _ _ _ hg
abbrev w_X4_readsItem (G : jG) (q_this : Nat) (q_this_hills : Nat) (q_this_hills_book : Nat) (q_this_hills_book_words : Nat) (q_this_hills_book_words_E : Nat → Nat) (q_this_hills_book_words_E_sort : Nat → Nat) (q_this_hills_minutes : Nat) (q_this_text : Nat) (q_this_text_bytes : Nat) (q_this_number : Nat) (q_this_draft : Nat) (q_this_draft_sort : Nat) (f_this_hills_book_words_E_sort : (Nat → Nat → Int32)) (f_this_hills_book_words_E_size : (Nat → Int32)) (f_this_hills_book_size : Int32) (f_this_hills_places : Int32) (f_this_hills_sorts : Int32) (f_this_hills_hour : Int32) (f_this_hills_law : Int32) (f_this_hills_minutesTold : Int32) (f_this_hills_minutes : (Nat → Int32)) (f_this_text_bytes : (Nat → Int32)) (f_this_text_size : Int32) (f_this_draft_sort : (Nat → Int32)) (f_this_draft_size : Int32) (f_this_number : (Nat → Int32)) (f_this_at : Int32) : va_W := [oC q_this 4 [.ref q_this_hills, .ref q_this_text, .ref q_this_number, .ref q_this_draft, .int f_this_at], oC q_this_hills 2 [.ref q_this_hills_book, .int f_this_hills_places, .int f_this_hills_sorts, .int f_this_hills_hour, .int f_this_hills_law, .int f_this_hills_minutesTold, .ref q_this_hills_minutes], oC q_this_hills_book 1 [.ref q_this_hills_book_words, .int f_this_hills_book_size], aQ (jcSortRow G) q_this_hills_book_words 8 (fun j => some (q_this_hills_book_words_E j)), oC (q_this_hills_book_words_E 0) 7 [.ref (q_this_hills_book_words_E_sort 0), .int (f_this_hills_book_words_E_size 0)], aI G (q_this_hills_book_words_E_sort 0) 4 (f_this_hills_book_words_E_sort 0), oC (q_this_hills_book_words_E 1) 7 [.ref (q_this_hills_book_words_E_sort 1), .int (f_this_hills_book_words_E_size 1)], aI G (q_this_hills_book_words_E_sort 1) 4 (f_this_hills_book_words_E_sort 1), oC (q_this_hills_book_words_E 2) 7 [.ref (q_this_hills_book_words_E_sort 2), .int (f_this_hills_book_words_E_size 2)], aI G (q_this_hills_book_words_E_sort 2) 4 (f_this_hills_book_words_E_sort 2), oC (q_this_hills_book_words_E 3) 7 [.ref (q_this_hills_book_words_E_sort 3), .int (f_this_hills_book_words_E_size 3)], aI G (q_this_hills_book_words_E_sort 3) 4 (f_this_hills_book_words_E_sort 3), oC (q_this_hills_book_words_E 4) 7 [.ref (q_this_hills_book_words_E_sort 4), .int (f_this_hills_book_words_E_size 4)], aI G (q_this_hills_book_words_E_sort 4) 4 (f_this_hills_book_words_E_sort 4), oC (q_this_hills_book_words_E 5) 7 [.ref (q_this_hills_book_words_E_sort 5), .int (f_this_hills_book_words_E_size 5)], aI G (q_this_hills_book_words_E_sort 5) 4 (f_this_hills_book_words_E_sort 5), oC (q_this_hills_book_words_E 6) 7 [.ref (q_this_hills_book_words_E_sort 6), .int (f_this_hills_book_words_E_size 6)], aI G (q_this_hills_book_words_E_sort 6) 4 (f_this_hills_book_words_E_sort 6), oC (q_this_hills_book_words_E 7) 7 [.ref (q_this_hills_book_words_E_sort 7), .int (f_this_hills_book_words_E_size 7)], aI G (q_this_hills_book_words_E_sort 7) 4 (f_this_hills_book_words_E_sort 7), aI G q_this_hills_minutes 25 f_this_hills_minutes, oC q_this_text 9 [.ref q_this_text_bytes, .int f_this_text_size], aB G q_this_text_bytes 300 f_this_text_bytes, aI G q_this_number 3 f_this_number, oC q_this_draft 7 [.ref q_this_draft_sort, .int f_this_draft_size], aI G q_this_draft_sort 4 f_this_draft_sort]
def g_X4_readsItem (N : Nat) (f_this_text_bytes : (Nat → Int32)) (f_this_text_size : Int32) (f_this_hills_book_words_E_sort : (Nat → Nat → Int32)) (f_this_hills_book_words_E_size : (Nat → Int32)) (f_this_hills_book_size : Int32) (f_this_hills_places : Int32) (f_this_hills_sorts : Int32) (f_this_hills_hour : Int32) (f_this_hills_law : Int32) (f_this_hills_minutesTold : Int32) (f_this_hills_minutes : (Nat → Int32)) (f_this_draft_sort : (Nat → Int32)) (f_this_draft_size : Int32) (f_this_number : (Nat → Int32)) (f_this_at : Int32) : Option (Int32 × (Nat → Nat → Int32) × (Nat → Int32) × Int32 × Int32 × Int32 × Int32 × Int32 × Int32 × (Nat → Int32) × (Nat → Int32) × Int32 × (Nat → Int32) × Int32) := if f_this_at < f_this_text_size then gi f_this_at 300 (if (f_this_text_bytes f_this_at.toNatClampNeg) = 102 then (g_X4_readsNumbers N f_this_text_bytes f_this_text_size f_this_number (f_this_at + 1) 1).bind fun v266 => if v266.1 = 0 then some (0, f_this_hills_book_words_E_sort, f_this_hills_book_words_E_size, f_this_hills_book_size, f_this_hills_places, f_this_hills_sorts, f_this_hills_hour, f_this_hills_law, f_this_hills_minutesTold, f_this_hills_minutes, f_this_draft_sort, f_this_draft_size, v266.2.1, v266.2.2) else gi 0 3 ((g_X2_setSorts N f_this_hills_sorts (v266.2.1 (0 : Int32).toNatClampNeg)).bind fun v282 => if v282.1 = 0 then some (0, f_this_hills_book_words_E_sort, f_this_hills_book_words_E_size, f_this_hills_book_size, f_this_hills_places, v282.2, f_this_hills_hour, f_this_hills_law, f_this_hills_minutesTold, f_this_hills_minutes, f_this_draft_sort, f_this_draft_size, v266.2.1, v266.2.2) else some (1, f_this_hills_book_words_E_sort, f_this_hills_book_words_E_size, f_this_hills_book_size, f_this_hills_places, v282.2, f_this_hills_hour, f_this_hills_law, f_this_hills_minutesTold, f_this_hills_minutes, f_this_draft_sort, f_this_draft_size, v266.2.1, v266.2.2)) else if (f_this_text_bytes f_this_at.toNatClampNeg) = 104 then (g_X4_readsNumbers N f_this_text_bytes f_this_text_size f_this_number (f_this_at + 1) 1).bind fun v206 => if v206.1 = 0 then some (0, f_this_hills_book_words_E_sort, f_this_hills_book_words_E_size, f_this_hills_book_size, f_this_hills_places, f_this_hills_sorts, f_this_hills_hour, f_this_hills_law, f_this_hills_minutesTold, f_this_hills_minutes, f_this_draft_sort, f_this_draft_size, v206.2.1, v206.2.2) else gi 0 3 ((g_X2_setHour N f_this_hills_hour (v206.2.1 (0 : Int32).toNatClampNeg)).bind fun v222 => if v222.1 = 0 then some (0, f_this_hills_book_words_E_sort, f_this_hills_book_words_E_size, f_this_hills_book_size, f_this_hills_places, f_this_hills_sorts, v222.2, f_this_hills_law, f_this_hills_minutesTold, f_this_hills_minutes, f_this_draft_sort, f_this_draft_size, v206.2.1, v206.2.2) else some (1, f_this_hills_book_words_E_sort, f_this_hills_book_words_E_size, f_this_hills_book_size, f_this_hills_places, f_this_hills_sorts, v222.2, f_this_hills_law, f_this_hills_minutesTold, f_this_hills_minutes, f_this_draft_sort, f_this_draft_size, v206.2.1, v206.2.2)) else if (f_this_text_bytes f_this_at.toNatClampNeg) = 108 then (g_X4_readsNumbers N f_this_text_bytes f_this_text_size f_this_number (f_this_at + 1) 1).bind fun v236 => if v236.1 = 0 then some (0, f_this_hills_book_words_E_sort, f_this_hills_book_words_E_size, f_this_hills_book_size, f_this_hills_places, f_this_hills_sorts, f_this_hills_hour, f_this_hills_law, f_this_hills_minutesTold, f_this_hills_minutes, f_this_draft_sort, f_this_draft_size, v236.2.1, v236.2.2) else gi 0 3 ((g_X2_setLaw N f_this_hills_law (v236.2.1 (0 : Int32).toNatClampNeg)).bind fun v252 => if v252.1 = 0 then some (0, f_this_hills_book_words_E_sort, f_this_hills_book_words_E_size, f_this_hills_book_size, f_this_hills_places, f_this_hills_sorts, f_this_hills_hour, v252.2, f_this_hills_minutesTold, f_this_hills_minutes, f_this_draft_sort, f_this_draft_size, v236.2.1, v236.2.2) else some (1, f_this_hills_book_words_E_sort, f_this_hills_book_words_E_size, f_this_hills_book_size, f_this_hills_places, f_this_hills_sorts, f_this_hills_hour, v252.2, f_this_hills_minutesTold, f_this_hills_minutes, f_this_draft_sort, f_this_draft_size, v236.2.1, v236.2.2)) else if (f_this_text_bytes f_this_at.toNatClampNeg) = 112 then (g_X4_readsNumbers N f_this_text_bytes f_this_text_size f_this_number (f_this_at + 1) 1).bind fun v134 => if v134.1 = 0 then some (0, f_this_hills_book_words_E_sort, f_this_hills_book_words_E_size, f_this_hills_book_size, f_this_hills_places, f_this_hills_sorts, f_this_hills_hour, f_this_hills_law, f_this_hills_minutesTold, f_this_hills_minutes, f_this_draft_sort, f_this_draft_size, v134.2.1, v134.2.2) else gi 0 3 ((g_X2_setPlaces N f_this_hills_minutesTold f_this_hills_places (v134.2.1 (0 : Int32).toNatClampNeg)).bind fun v150 => if v150.1 = 0 then some (0, f_this_hills_book_words_E_sort, f_this_hills_book_words_E_size, f_this_hills_book_size, v150.2, f_this_hills_sorts, f_this_hills_hour, f_this_hills_law, f_this_hills_minutesTold, f_this_hills_minutes, f_this_draft_sort, f_this_draft_size, v134.2.1, v134.2.2) else some (1, f_this_hills_book_words_E_sort, f_this_hills_book_words_E_size, f_this_hills_book_size, v150.2, f_this_hills_sorts, f_this_hills_hour, f_this_hills_law, f_this_hills_minutesTold, f_this_hills_minutes, f_this_draft_sort, f_this_draft_size, v134.2.1, v134.2.2)) else if (f_this_text_bytes f_this_at.toNatClampNeg) = 119 then (g_X4_readsWord N f_this_text_bytes f_this_text_size f_this_draft_sort f_this_draft_size (f_this_at + 1)).bind fun v295 => if v295.1 = 0 then some (0, f_this_hills_book_words_E_sort, f_this_hills_book_words_E_size, f_this_hills_book_size, f_this_hills_places, f_this_hills_sorts, f_this_hills_hour, f_this_hills_law, f_this_hills_minutesTold, f_this_hills_minutes, v295.2.1, v295.2.2.1, f_this_number, v295.2.2.2) else (g_X1_append N 4 v295.2.1 v295.2.2.1 f_this_hills_book_words_E_sort f_this_hills_book_words_E_size f_this_hills_book_size).bind fun v312 => if v312.1 = 0 then some (0, v312.2.1, v312.2.2.1, v312.2.2.2, f_this_hills_places, f_this_hills_sorts, f_this_hills_hour, f_this_hills_law, f_this_hills_minutesTold, f_this_hills_minutes, v295.2.1, v295.2.2.1, f_this_number, v295.2.2.2) else some (1, v312.2.1, v312.2.2.1, v312.2.2.2, f_this_hills_places, f_this_hills_sorts, f_this_hills_hour, f_this_hills_law, f_this_hills_minutesTold, f_this_hills_minutes, v295.2.1, v295.2.2.1, f_this_number, v295.2.2.2) else if (f_this_text_bytes f_this_at.toNatClampNeg) = 120 then (g_X4_readsNumbers N f_this_text_bytes f_this_text_size f_this_number (f_this_at + 1) 3).bind fun v164 => if v164.1 = 0 then some (0, f_this_hills_book_words_E_sort, f_this_hills_book_words_E_size, f_this_hills_book_size, f_this_hills_places, f_this_hills_sorts, f_this_hills_hour, f_this_hills_law, f_this_hills_minutesTold, f_this_hills_minutes, f_this_draft_sort, f_this_draft_size, v164.2.1, v164.2.2) else gi 0 3 (gi 1 3 (gi 2 3 ((g_X2_setMinutes N f_this_hills_places f_this_hills_minutesTold f_this_hills_minutes (v164.2.1 (0 : Int32).toNatClampNeg) (v164.2.1 (1 : Int32).toNatClampNeg) (v164.2.1 (2 : Int32).toNatClampNeg)).bind fun v192 => if v192.1 = 0 then some (0, f_this_hills_book_words_E_sort, f_this_hills_book_words_E_size, f_this_hills_book_size, f_this_hills_places, f_this_hills_sorts, f_this_hills_hour, f_this_hills_law, v192.2.1, v192.2.2, f_this_draft_sort, f_this_draft_size, v164.2.1, v164.2.2) else some (1, f_this_hills_book_words_E_sort, f_this_hills_book_words_E_size, f_this_hills_book_size, f_this_hills_places, f_this_hills_sorts, f_this_hills_hour, f_this_hills_law, v192.2.1, v192.2.2, f_this_draft_sort, f_this_draft_size, v164.2.1, v164.2.2)))) else some (0, f_this_hills_book_words_E_sort, f_this_hills_book_words_E_size, f_this_hills_book_size, f_this_hills_places, f_this_hills_sorts, f_this_hills_hour, f_this_hills_law, f_this_hills_minutesTold, f_this_hills_minutes, f_this_draft_sort, f_this_draft_size, f_this_number, f_this_at + 1)) else some (0, f_this_hills_book_words_E_sort, f_this_hills_book_words_E_size, f_this_hills_book_size, f_this_hills_places, f_this_hills_sorts, f_this_hills_hour, f_this_hills_law, f_this_hills_minutesTold, f_this_hills_minutes, f_this_draft_sort, f_this_draft_size, f_this_number, f_this_at)
set_option maxRecDepth 100000 in
theorem ax_X4_readsItem_312 (c0 c1 c2 c3 c4 c5 c6 c7 c8 c9 c10 c11 c12 c13 c14 c15 c16 c17 c18 c19 c20 c21 c22 c23 c24 c25 d0 d1 d2 d3 d4 d5 d6 d7 d8 d9 d10 d11 d12 d13 d14 d15 d16 d17 d18 d19 : Nat × va_E) : [2, 3, 4, 5, 6, 7, 8, 9, 10, 11, 12, 13, 14, 15, 16, 17, 18, 19, 24, 25].map (fun i => ([c0, c1, c2, c3, c4, c5, c6, c7, c8, c9, c10, c11, c12, c13, c14, c15, c16, c17, c18, c19, c20, c21, c22, c23, c24, c25] : va_W)[i]?) = List.map some ([c2, c3, c4, c5, c6, c7, c8, c9, c10, c11, c12, c13, c14, c15, c16, c17, c18, c19, c24, c25] : va_W) ∧ ([c0, c1, d0, d1, d2, d3, d4, d5, d6, d7, d8, d9, d10, d11, d12, d13, d14, d15, d16, d17, c20, c21, c22, c23, d18, d19] : va_W).length = 26 ∧ [2, 3, 4, 5, 6, 7, 8, 9, 10, 11, 12, 13, 14, 15, 16, 17, 18, 19, 24, 25].map (fun i => ([c0, c1, d0, d1, d2, d3, d4, d5, d6, d7, d8, d9, d10, d11, d12, d13, d14, d15, d16, d17, c20, c21, c22, c23, d18, d19] : va_W)[i]?) = List.map some ([d0, d1, d2, d3, d4, d5, d6, d7, d8, d9, d10, d11, d12, d13, d14, d15, d16, d17, d18, d19] : va_W) ∧ ([0, 1, 20, 21, 22, 23] : List Nat).map (fun i => ([c0, c1, d0, d1, d2, d3, d4, d5, d6, d7, d8, d9, d10, d11, d12, d13, d14, d15, d16, d17, c20, c21, c22, c23, d18, d19] : va_W)[i]?) = ([0, 1, 20, 21, 22, 23] : List Nat).map (fun i => ([c0, c1, c2, c3, c4, c5, c6, c7, c8, c9, c10, c11, c12, c13, c14, c15, c16, c17, c18, c19, c20, c21, c22, c23, c24, c25] : va_W)[i]?) := ⟨rfl, rfl, rfl, rfl⟩
set_option maxRecDepth 100000 in
theorem ax_X4_readsItem_312c (c0 c1 c2 c3 c4 c5 c6 c7 c8 c9 c10 c11 c12 c13 c14 c15 c16 c17 c18 c19 c20 c21 c22 c23 c24 c25 : Nat × va_E) : [2, 3, 4, 5, 6, 7, 8, 9, 10, 11, 12, 13, 14, 15, 16, 17, 18, 19, 24, 25].map (fun i => ([c0, c1, c2, c3, c4, c5, c6, c7, c8, c9, c10, c11, c12, c13, c14, c15, c16, c17, c18, c19, c20, c21, c22, c23, c24, c25] : va_W)[i]?) = List.map some ([c2, c3, c4, c5, c6, c7, c8, c9, c10, c11, c12, c13, c14, c15, c16, c17, c18, c19, c24, c25] : va_W) := rfl
set_option maxHeartbeats 4000000 in
set_option maxRecDepth 100000 in
theorem c_X4_readsItem (l : Launch) (G : jG) (N : Nat) (q_this : Nat) (q_this_hills : Nat) (q_this_hills_book : Nat) (q_this_hills_book_words : Nat) (q_this_hills_book_words_E : Nat → Nat) (q_this_hills_book_words_E_sort : Nat → Nat) (q_this_hills_minutes : Nat) (q_this_text : Nat) (q_this_text_bytes : Nat) (q_this_number : Nat) (q_this_draft : Nat) (q_this_draft_sort : Nat) (f_this_hills_book_words_E_sort : (Nat → Nat → Int32)) (f_this_hills_book_words_E_size : (Nat → Int32)) (f_this_hills_book_size : Int32) (f_this_hills_places : Int32) (f_this_hills_sorts : Int32) (f_this_hills_hour : Int32) (f_this_hills_law : Int32) (f_this_hills_minutesTold : Int32) (f_this_hills_minutes : (Nat → Int32)) (f_this_text_bytes : (Nat → Int32)) (f_this_text_size : Int32) (f_this_draft_sort : (Nat → Int32)) (f_this_draft_size : Int32) (f_this_number : (Nat → Int32)) (f_this_at : Int32) (u : Int32 × (Nat → Nat → Int32) × (Nat → Int32) × Int32 × Int32 × Int32 × Int32 × Int32 × Int32 × (Nat → Int32) × (Nat → Int32) × Int32 × (Nat → Int32) × Int32) (hu : g_X4_readsItem N f_this_text_bytes f_this_text_size f_this_hills_book_words_E_sort f_this_hills_book_words_E_size f_this_hills_book_size f_this_hills_places f_this_hills_sorts f_this_hills_hour f_this_hills_law f_this_hills_minutesTold f_this_hills_minutes f_this_draft_sort f_this_draft_size f_this_number f_this_at = some u) : MetRW l G yX4_readsItem wsX4_readsItem ({ frames := 3, cells := 0, slots := 0, locals := 58 } : Room) [.ref q_this] (w_X4_readsItem G q_this q_this_hills q_this_hills_book q_this_hills_book_words q_this_hills_book_words_E q_this_hills_book_words_E_sort q_this_hills_minutes q_this_text q_this_text_bytes q_this_number q_this_draft q_this_draft_sort f_this_hills_book_words_E_sort f_this_hills_book_words_E_size f_this_hills_book_size f_this_hills_places f_this_hills_sorts f_this_hills_hour f_this_hills_law f_this_hills_minutesTold f_this_hills_minutes f_this_text_bytes f_this_text_size f_this_draft_sort f_this_draft_size f_this_number f_this_at) (w_X4_readsItem G q_this q_this_hills q_this_hills_book q_this_hills_book_words q_this_hills_book_words_E q_this_hills_book_words_E_sort q_this_hills_minutes q_this_text q_this_text_bytes q_this_number q_this_draft q_this_draft_sort u.2.1 u.2.2.1 u.2.2.2.1 u.2.2.2.2.1 u.2.2.2.2.2.1 u.2.2.2.2.2.2.1 u.2.2.2.2.2.2.2.1 u.2.2.2.2.2.2.2.2.1 u.2.2.2.2.2.2.2.2.2.1 f_this_text_bytes f_this_text_size u.2.2.2.2.2.2.2.2.2.2.1 u.2.2.2.2.2.2.2.2.2.2.2.1 u.2.2.2.2.2.2.2.2.2.2.2.2.1 u.2.2.2.2.2.2.2.2.2.2.2.2.2) u.1 := by
  refine met_rwz (cc := cX4_readsItem) (maxL := 2) (lv0 := [(0, .ref q_this)]) (by decide) rfl rfl rfl rfl (fun X hX hW hret => ?_)
  have hinX2 : ∀ w ∈ u_ws RX2 TX2 7, w ∈ wsX4_readsItem := by decide +kernel
  have hinX4 : ∀ w ∈ u_ws RX4 TX4 5, w ∈ wsX4_readsItem := by decide +kernel
  have hinX9 : ∀ w ∈ u_ws RX9 TX9 2, w ∈ wsX4_readsItem := by decide +kernel
  have hf_X2_book_78 : Cond.fieldLink RX4 78 (TX2 0).1 (TX2 0).2.1 (TX2 0).2.2.1 ∈ wsX4_readsItem := by decide +kernel
  have hf_X4_at_38 : Cond.fieldLink RX4 38 (TX4 4).1 (TX4 4).2.1 (TX4 4).2.2.1 ∈ wsX4_readsItem := by decide +kernel
  have hf_X4_draft_27 : Cond.fieldLink RX4 27 (TX4 3).1 (TX4 3).2.1 (TX4 3).2.2.1 ∈ wsX4_readsItem := by decide +kernel
  have hf_X4_hills_12 : Cond.fieldLink RX4 12 (TX4 0).1 (TX4 0).2.1 (TX4 0).2.2.1 ∈ wsX4_readsItem := by decide +kernel
  have hf_X4_number_18 : Cond.fieldLink RX4 18 (TX4 2).1 (TX4 2).2.1 (TX4 2).2.2.1 ∈ wsX4_readsItem := by decide +kernel
  have hf_X4_text_31 : Cond.fieldLink RX4 31 (TX4 1).1 (TX4 1).2.1 (TX4 1).2.2.1 ∈ wsX4_readsItem := by decide +kernel
  have hf_X9_bytes_51 : Cond.fieldLink RX4 51 (TX9 0).1 (TX9 0).2.1 (TX9 0).2.2.1 ∈ wsX4_readsItem := by decide +kernel
  have hf_X9_size_42 : Cond.fieldLink RX4 42 (TX9 1).1 (TX9 1).2.1 (TX9 1).2.2.1 ∈ wsX4_readsItem := by decide +kernel
  have hg := hu
  unfold g_X4_readsItem at hg
  refine j_aload_n hX 0 dX4_readsItem_0 rfl rfl ?_
  refine j_get hX 0 4 rfl rfl hinX4 rfl hf_X4_at_38 rfl dX4_readsItem_1 ?_
  refine j_aload_n hX 0 dX4_readsItem_4 rfl rfl ?_
  refine j_get hX 0 1 rfl rfl hinX4 rfl hf_X4_text_31 rfl dX4_readsItem_5 ?_
  refine j_get hX 21 1 rfl rfl hinX9 rfl hf_X9_size_42 rfl dX4_readsItem_8 ?_
  refine j_icmp_lt hX 16 hg dX4_readsItem_11 (by decide) (fun hg => ?_) (fun hg => ?_)
  · refine j_aload_n hX 0 dX4_readsItem_16 rfl rfl ?_
    refine j_get hX 0 1 rfl rfl hinX4 rfl hf_X4_text_31 rfl dX4_readsItem_17 ?_
    refine j_get hX 21 0 rfl rfl hinX9 rfl hf_X9_bytes_51 rfl dX4_readsItem_20 ?_
    refine j_aload_n hX 0 dX4_readsItem_23 rfl rfl ?_
    refine j_get hX 0 4 rfl rfl hinX4 rfl hf_X4_at_38 rfl dX4_readsItem_24 ?_
    refine j_bald hX 22 rfl hg dX4_readsItem_27 (fun hg => ?_)
    refine j_istore_n hX (lv' := [(1, .int (f_this_text_bytes f_this_at.toNatClampNeg)), (0, .ref q_this)]) dX4_readsItem_28 rfl rfl rfl ?_
    refine j_aload_n hX 1 dX4_readsItem_29 rfl rfl ?_
    refine j_dup hX dX4_readsItem_30 rfl ?_
    refine j_get hX 0 4 rfl rfl hinX4 rfl hf_X4_at_38 rfl dX4_readsItem_31 ?_
    refine j_iconst hX dX4_readsItem_34 kc_1 ?_
    refine j_iadd hX dX4_readsItem_35 ?_
    refine j_put hX hW 0 4 rfl rfl hinX4 tyX4 tyX4_ok nmX4 rfl hf_X4_at_38 rfl rfl rfl rfl dX4_readsItem_36 (ws' := (w_X4_readsItem G q_this q_this_hills q_this_hills_book q_this_hills_book_words q_this_hills_book_words_E q_this_hills_book_words_E_sort q_this_hills_minutes q_this_text q_this_text_bytes q_this_number q_this_draft q_this_draft_sort f_this_hills_book_words_E_sort f_this_hills_book_words_E_size f_this_hills_book_size f_this_hills_places f_this_hills_sorts f_this_hills_hour f_this_hills_law f_this_hills_minutesTold f_this_hills_minutes f_this_text_bytes f_this_text_size f_this_draft_sort f_this_draft_size f_this_number (f_this_at + 1))) rfl ?_
    refine j_iload_n hX 0 dX4_readsItem_39 rfl rfl ?_
    refine sw_case (x := f_this_text_bytes f_this_at.toNatClampNeg) 102 hg (fun hx hg => ?_) (fun hx102 hg => ?_)
    · refine j_tin hX hx 264 (off := 224) dX4_readsItem_40 (by decide +kernel) (by decide +kernel) (by decide +kernel) (by decide) ?_
      refine j_aload_n hX 1 dX4_readsItem_264 rfl rfl ?_
      refine j_iconst hX dX4_readsItem_265 kc_1 ?_
      refine j_vRW hX hW (r := fun v => v.1) (w1 := fun v => (w_X4_readsNumbers G q_this q_this_text q_this_text_bytes q_this_number (.ref q_this_hills) (.ref q_this_draft) f_this_text_bytes f_this_text_size v.2.1 v.2.2)) (ws' := fun v => (w_X4_readsItem G q_this q_this_hills q_this_hills_book q_this_hills_book_words q_this_hills_book_words_E q_this_hills_book_words_E_sort q_this_hills_minutes q_this_text q_this_text_bytes q_this_number q_this_draft q_this_draft_sort f_this_hills_book_words_E_sort f_this_hills_book_words_E_size f_this_hills_book_size f_this_hills_places f_this_hills_sorts f_this_hills_hour f_this_hills_law f_this_hills_minutesTold f_this_hills_minutes f_this_text_bytes f_this_text_size f_this_draft_sort f_this_draft_size v.2.1 v.2.2)) [.int 1] hg (fun v hv => c_X4_readsNumbers l G N q_this q_this_text q_this_text_bytes q_this_number (.ref q_this_hills) (.ref q_this_draft) f_this_text_bytes f_this_text_size f_this_number (f_this_at + 1) 1 v hv) gX4_readsItem_X4_readsNumbers rfl ⟨rfl, rfl⟩ ⟨rfl, by decide, by decide, rfl⟩ rfl rfl [0, 21, 22, 23] rfl (by decide +kernel) rfl rfl dX4_readsItem_266 rfl rfl ⟨Nat.zero_le _, Nat.zero_le _⟩ (fun _ => jn_set [0, 21, 22, 23] rfl rfl rfl) (fun v266 hg => ?_)
      refine j_if_eq hX 292 hg dX4_readsItem_269 (by decide) (fun hg => ?_) (fun hg => ?_)
      · refine j_iconst hX dX4_readsItem_292 kc_0 ?_
        cases hg
        exact hret _ _ (Or.inl rfl) dX4_readsItem_293
      · refine j_aload_n hX 1 dX4_readsItem_272 rfl rfl ?_
        refine j_get hX 0 0 rfl rfl hinX4 rfl hf_X4_hills_12 rfl dX4_readsItem_273 ?_
        refine j_aload_n hX 1 dX4_readsItem_276 rfl rfl ?_
        refine j_get hX 0 2 rfl rfl hinX4 rfl hf_X4_number_18 rfl dX4_readsItem_277 ?_
        refine j_iconst hX dX4_readsItem_280 kc_0 ?_
        refine j_iald hX 23 rfl hg dX4_readsItem_281 (fun hg => ?_)
        refine j_vRW hX hW (r := fun v => v.1) (w1 := fun v => (w_X2_setSorts G q_this_hills (.ref q_this_hills_book) (.int f_this_hills_places) (.int f_this_hills_hour) (.int f_this_hills_law) (.int f_this_hills_minutesTold) (.ref q_this_hills_minutes) v.2)) (ws' := fun v => (w_X4_readsItem G q_this q_this_hills q_this_hills_book q_this_hills_book_words q_this_hills_book_words_E q_this_hills_book_words_E_sort q_this_hills_minutes q_this_text q_this_text_bytes q_this_number q_this_draft q_this_draft_sort f_this_hills_book_words_E_sort f_this_hills_book_words_E_size f_this_hills_book_size f_this_hills_places v.2 f_this_hills_hour f_this_hills_law f_this_hills_minutesTold f_this_hills_minutes f_this_text_bytes f_this_text_size f_this_draft_sort f_this_draft_size v266.2.1 v266.2.2)) [.int (v266.2.1 (0 : Int32).toNatClampNeg)] hg (fun v hv => c_X2_setSorts l G N q_this_hills (.ref q_this_hills_book) (.int f_this_hills_places) (.int f_this_hills_hour) (.int f_this_hills_law) (.int f_this_hills_minutesTold) (.ref q_this_hills_minutes) f_this_hills_sorts (v266.2.1 (0 : Int32).toNatClampNeg) v hv) gX4_readsItem_X2_setSorts rfl ⟨rfl, rfl⟩ ⟨rfl, by decide, by decide, rfl⟩ rfl rfl [1] rfl (by decide +kernel) rfl rfl dX4_readsItem_282 rfl rfl ⟨Nat.zero_le _, Nat.zero_le _⟩ (fun _ => jn_set [1] rfl rfl rfl) (fun v282 hg => ?_)
        refine j_if_eq hX 292 hg dX4_readsItem_285 (by decide) (fun hg => ?_) (fun hg => ?_)
        · refine j_iconst hX dX4_readsItem_292 kc_0 ?_
          cases hg
          exact hret _ _ (Or.inl rfl) dX4_readsItem_293
        · refine j_iconst hX dX4_readsItem_288 kc_1 ?_
          refine j_goto hX 293 dX4_readsItem_289 (by decide) ?_
          cases hg
          exact hret _ _ (Or.inr rfl) dX4_readsItem_293
    refine sw_case (x := f_this_text_bytes f_this_at.toNatClampNeg) 104 hg (fun hx hg => ?_) (fun hx104 hg => ?_)
    · refine j_tin hX hx 204 (off := 164) dX4_readsItem_40 (by decide +kernel) (by decide +kernel) (by decide +kernel) (by decide) ?_
      refine j_aload_n hX 1 dX4_readsItem_204 rfl rfl ?_
      refine j_iconst hX dX4_readsItem_205 kc_1 ?_
      refine j_vRW hX hW (r := fun v => v.1) (w1 := fun v => (w_X4_readsNumbers G q_this q_this_text q_this_text_bytes q_this_number (.ref q_this_hills) (.ref q_this_draft) f_this_text_bytes f_this_text_size v.2.1 v.2.2)) (ws' := fun v => (w_X4_readsItem G q_this q_this_hills q_this_hills_book q_this_hills_book_words q_this_hills_book_words_E q_this_hills_book_words_E_sort q_this_hills_minutes q_this_text q_this_text_bytes q_this_number q_this_draft q_this_draft_sort f_this_hills_book_words_E_sort f_this_hills_book_words_E_size f_this_hills_book_size f_this_hills_places f_this_hills_sorts f_this_hills_hour f_this_hills_law f_this_hills_minutesTold f_this_hills_minutes f_this_text_bytes f_this_text_size f_this_draft_sort f_this_draft_size v.2.1 v.2.2)) [.int 1] hg (fun v hv => c_X4_readsNumbers l G N q_this q_this_text q_this_text_bytes q_this_number (.ref q_this_hills) (.ref q_this_draft) f_this_text_bytes f_this_text_size f_this_number (f_this_at + 1) 1 v hv) gX4_readsItem_X4_readsNumbers rfl ⟨rfl, rfl⟩ ⟨rfl, by decide, by decide, rfl⟩ rfl rfl [0, 21, 22, 23] rfl (by decide +kernel) rfl rfl dX4_readsItem_206 rfl rfl ⟨Nat.zero_le _, Nat.zero_le _⟩ (fun _ => jn_set [0, 21, 22, 23] rfl rfl rfl) (fun v206 hg => ?_)
      refine j_if_eq hX 232 hg dX4_readsItem_209 (by decide) (fun hg => ?_) (fun hg => ?_)
      · refine j_iconst hX dX4_readsItem_232 kc_0 ?_
        cases hg
        exact hret _ _ (Or.inl rfl) dX4_readsItem_233
      · refine j_aload_n hX 1 dX4_readsItem_212 rfl rfl ?_
        refine j_get hX 0 0 rfl rfl hinX4 rfl hf_X4_hills_12 rfl dX4_readsItem_213 ?_
        refine j_aload_n hX 1 dX4_readsItem_216 rfl rfl ?_
        refine j_get hX 0 2 rfl rfl hinX4 rfl hf_X4_number_18 rfl dX4_readsItem_217 ?_
        refine j_iconst hX dX4_readsItem_220 kc_0 ?_
        refine j_iald hX 23 rfl hg dX4_readsItem_221 (fun hg => ?_)
        refine j_vRW hX hW (r := fun v => v.1) (w1 := fun v => (w_X2_setHour G q_this_hills (.ref q_this_hills_book) (.int f_this_hills_places) (.int f_this_hills_sorts) (.int f_this_hills_law) (.int f_this_hills_minutesTold) (.ref q_this_hills_minutes) v.2)) (ws' := fun v => (w_X4_readsItem G q_this q_this_hills q_this_hills_book q_this_hills_book_words q_this_hills_book_words_E q_this_hills_book_words_E_sort q_this_hills_minutes q_this_text q_this_text_bytes q_this_number q_this_draft q_this_draft_sort f_this_hills_book_words_E_sort f_this_hills_book_words_E_size f_this_hills_book_size f_this_hills_places f_this_hills_sorts v.2 f_this_hills_law f_this_hills_minutesTold f_this_hills_minutes f_this_text_bytes f_this_text_size f_this_draft_sort f_this_draft_size v206.2.1 v206.2.2)) [.int (v206.2.1 (0 : Int32).toNatClampNeg)] hg (fun v hv => c_X2_setHour l G N q_this_hills (.ref q_this_hills_book) (.int f_this_hills_places) (.int f_this_hills_sorts) (.int f_this_hills_law) (.int f_this_hills_minutesTold) (.ref q_this_hills_minutes) f_this_hills_hour (v206.2.1 (0 : Int32).toNatClampNeg) v hv) gX4_readsItem_X2_setHour rfl ⟨rfl, rfl⟩ ⟨rfl, by decide, by decide, rfl⟩ rfl rfl [1] rfl (by decide +kernel) rfl rfl dX4_readsItem_222 rfl rfl ⟨Nat.zero_le _, Nat.zero_le _⟩ (fun _ => jn_set [1] rfl rfl rfl) (fun v222 hg => ?_)
        refine j_if_eq hX 232 hg dX4_readsItem_225 (by decide) (fun hg => ?_) (fun hg => ?_)
        · refine j_iconst hX dX4_readsItem_232 kc_0 ?_
          cases hg
          exact hret _ _ (Or.inl rfl) dX4_readsItem_233
        · refine j_iconst hX dX4_readsItem_228 kc_1 ?_
          refine j_goto hX 233 dX4_readsItem_229 (by decide) ?_
          cases hg
          exact hret _ _ (Or.inr rfl) dX4_readsItem_233
    refine sw_case (x := f_this_text_bytes f_this_at.toNatClampNeg) 108 hg (fun hx hg => ?_) (fun hx108 hg => ?_)
    · refine j_tin hX hx 234 (off := 194) dX4_readsItem_40 (by decide +kernel) (by decide +kernel) (by decide +kernel) (by decide) ?_
      refine j_aload_n hX 1 dX4_readsItem_234 rfl rfl ?_
      refine j_iconst hX dX4_readsItem_235 kc_1 ?_
      refine j_vRW hX hW (r := fun v => v.1) (w1 := fun v => (w_X4_readsNumbers G q_this q_this_text q_this_text_bytes q_this_number (.ref q_this_hills) (.ref q_this_draft) f_this_text_bytes f_this_text_size v.2.1 v.2.2)) (ws' := fun v => (w_X4_readsItem G q_this q_this_hills q_this_hills_book q_this_hills_book_words q_this_hills_book_words_E q_this_hills_book_words_E_sort q_this_hills_minutes q_this_text q_this_text_bytes q_this_number q_this_draft q_this_draft_sort f_this_hills_book_words_E_sort f_this_hills_book_words_E_size f_this_hills_book_size f_this_hills_places f_this_hills_sorts f_this_hills_hour f_this_hills_law f_this_hills_minutesTold f_this_hills_minutes f_this_text_bytes f_this_text_size f_this_draft_sort f_this_draft_size v.2.1 v.2.2)) [.int 1] hg (fun v hv => c_X4_readsNumbers l G N q_this q_this_text q_this_text_bytes q_this_number (.ref q_this_hills) (.ref q_this_draft) f_this_text_bytes f_this_text_size f_this_number (f_this_at + 1) 1 v hv) gX4_readsItem_X4_readsNumbers rfl ⟨rfl, rfl⟩ ⟨rfl, by decide, by decide, rfl⟩ rfl rfl [0, 21, 22, 23] rfl (by decide +kernel) rfl rfl dX4_readsItem_236 rfl rfl ⟨Nat.zero_le _, Nat.zero_le _⟩ (fun _ => jn_set [0, 21, 22, 23] rfl rfl rfl) (fun v236 hg => ?_)
      refine j_if_eq hX 262 hg dX4_readsItem_239 (by decide) (fun hg => ?_) (fun hg => ?_)
      · refine j_iconst hX dX4_readsItem_262 kc_0 ?_
        cases hg
        exact hret _ _ (Or.inl rfl) dX4_readsItem_263
      · refine j_aload_n hX 1 dX4_readsItem_242 rfl rfl ?_
        refine j_get hX 0 0 rfl rfl hinX4 rfl hf_X4_hills_12 rfl dX4_readsItem_243 ?_
        refine j_aload_n hX 1 dX4_readsItem_246 rfl rfl ?_
        refine j_get hX 0 2 rfl rfl hinX4 rfl hf_X4_number_18 rfl dX4_readsItem_247 ?_
        refine j_iconst hX dX4_readsItem_250 kc_0 ?_
        refine j_iald hX 23 rfl hg dX4_readsItem_251 (fun hg => ?_)
        refine j_vRW hX hW (r := fun v => v.1) (w1 := fun v => (w_X2_setLaw G q_this_hills (.ref q_this_hills_book) (.int f_this_hills_places) (.int f_this_hills_sorts) (.int f_this_hills_hour) (.int f_this_hills_minutesTold) (.ref q_this_hills_minutes) v.2)) (ws' := fun v => (w_X4_readsItem G q_this q_this_hills q_this_hills_book q_this_hills_book_words q_this_hills_book_words_E q_this_hills_book_words_E_sort q_this_hills_minutes q_this_text q_this_text_bytes q_this_number q_this_draft q_this_draft_sort f_this_hills_book_words_E_sort f_this_hills_book_words_E_size f_this_hills_book_size f_this_hills_places f_this_hills_sorts f_this_hills_hour v.2 f_this_hills_minutesTold f_this_hills_minutes f_this_text_bytes f_this_text_size f_this_draft_sort f_this_draft_size v236.2.1 v236.2.2)) [.int (v236.2.1 (0 : Int32).toNatClampNeg)] hg (fun v hv => c_X2_setLaw l G N q_this_hills (.ref q_this_hills_book) (.int f_this_hills_places) (.int f_this_hills_sorts) (.int f_this_hills_hour) (.int f_this_hills_minutesTold) (.ref q_this_hills_minutes) f_this_hills_law (v236.2.1 (0 : Int32).toNatClampNeg) v hv) gX4_readsItem_X2_setLaw rfl ⟨rfl, rfl⟩ ⟨rfl, by decide, by decide, rfl⟩ rfl rfl [1] rfl (by decide +kernel) rfl rfl dX4_readsItem_252 rfl rfl ⟨Nat.zero_le _, Nat.zero_le _⟩ (fun _ => jn_set [1] rfl rfl rfl) (fun v252 hg => ?_)
        refine j_if_eq hX 262 hg dX4_readsItem_255 (by decide) (fun hg => ?_) (fun hg => ?_)
        · refine j_iconst hX dX4_readsItem_262 kc_0 ?_
          cases hg
          exact hret _ _ (Or.inl rfl) dX4_readsItem_263
        · refine j_iconst hX dX4_readsItem_258 kc_1 ?_
          refine j_goto hX 263 dX4_readsItem_259 (by decide) ?_
          cases hg
          exact hret _ _ (Or.inr rfl) dX4_readsItem_263
    refine sw_case (x := f_this_text_bytes f_this_at.toNatClampNeg) 112 hg (fun hx hg => ?_) (fun hx112 hg => ?_)
    · refine j_tin hX hx 132 (off := 92) dX4_readsItem_40 (by decide +kernel) (by decide +kernel) (by decide +kernel) (by decide) ?_
      refine j_aload_n hX 1 dX4_readsItem_132 rfl rfl ?_
      refine j_iconst hX dX4_readsItem_133 kc_1 ?_
      refine j_vRW hX hW (r := fun v => v.1) (w1 := fun v => (w_X4_readsNumbers G q_this q_this_text q_this_text_bytes q_this_number (.ref q_this_hills) (.ref q_this_draft) f_this_text_bytes f_this_text_size v.2.1 v.2.2)) (ws' := fun v => (w_X4_readsItem G q_this q_this_hills q_this_hills_book q_this_hills_book_words q_this_hills_book_words_E q_this_hills_book_words_E_sort q_this_hills_minutes q_this_text q_this_text_bytes q_this_number q_this_draft q_this_draft_sort f_this_hills_book_words_E_sort f_this_hills_book_words_E_size f_this_hills_book_size f_this_hills_places f_this_hills_sorts f_this_hills_hour f_this_hills_law f_this_hills_minutesTold f_this_hills_minutes f_this_text_bytes f_this_text_size f_this_draft_sort f_this_draft_size v.2.1 v.2.2)) [.int 1] hg (fun v hv => c_X4_readsNumbers l G N q_this q_this_text q_this_text_bytes q_this_number (.ref q_this_hills) (.ref q_this_draft) f_this_text_bytes f_this_text_size f_this_number (f_this_at + 1) 1 v hv) gX4_readsItem_X4_readsNumbers rfl ⟨rfl, rfl⟩ ⟨rfl, by decide, by decide, rfl⟩ rfl rfl [0, 21, 22, 23] rfl (by decide +kernel) rfl rfl dX4_readsItem_134 rfl rfl ⟨Nat.zero_le _, Nat.zero_le _⟩ (fun _ => jn_set [0, 21, 22, 23] rfl rfl rfl) (fun v134 hg => ?_)
      refine j_if_eq hX 160 hg dX4_readsItem_137 (by decide) (fun hg => ?_) (fun hg => ?_)
      · refine j_iconst hX dX4_readsItem_160 kc_0 ?_
        cases hg
        exact hret _ _ (Or.inl rfl) dX4_readsItem_161
      · refine j_aload_n hX 1 dX4_readsItem_140 rfl rfl ?_
        refine j_get hX 0 0 rfl rfl hinX4 rfl hf_X4_hills_12 rfl dX4_readsItem_141 ?_
        refine j_aload_n hX 1 dX4_readsItem_144 rfl rfl ?_
        refine j_get hX 0 2 rfl rfl hinX4 rfl hf_X4_number_18 rfl dX4_readsItem_145 ?_
        refine j_iconst hX dX4_readsItem_148 kc_0 ?_
        refine j_iald hX 23 rfl hg dX4_readsItem_149 (fun hg => ?_)
        refine j_vRW hX hW (r := fun v => v.1) (w1 := fun v => (w_X2_setPlaces G q_this_hills (.ref q_this_hills_book) (.int f_this_hills_sorts) (.int f_this_hills_hour) (.int f_this_hills_law) (.ref q_this_hills_minutes) v.2 f_this_hills_minutesTold)) (ws' := fun v => (w_X4_readsItem G q_this q_this_hills q_this_hills_book q_this_hills_book_words q_this_hills_book_words_E q_this_hills_book_words_E_sort q_this_hills_minutes q_this_text q_this_text_bytes q_this_number q_this_draft q_this_draft_sort f_this_hills_book_words_E_sort f_this_hills_book_words_E_size f_this_hills_book_size v.2 f_this_hills_sorts f_this_hills_hour f_this_hills_law f_this_hills_minutesTold f_this_hills_minutes f_this_text_bytes f_this_text_size f_this_draft_sort f_this_draft_size v134.2.1 v134.2.2)) [.int (v134.2.1 (0 : Int32).toNatClampNeg)] hg (fun v hv => c_X2_setPlaces l G N q_this_hills (.ref q_this_hills_book) (.int f_this_hills_sorts) (.int f_this_hills_hour) (.int f_this_hills_law) (.ref q_this_hills_minutes) f_this_hills_places f_this_hills_minutesTold (v134.2.1 (0 : Int32).toNatClampNeg) v hv) gX4_readsItem_X2_setPlaces rfl ⟨rfl, rfl⟩ ⟨rfl, by decide, by decide, rfl⟩ rfl rfl [1] rfl (by decide +kernel) rfl rfl dX4_readsItem_150 rfl rfl ⟨Nat.zero_le _, Nat.zero_le _⟩ (fun _ => jn_set [1] rfl rfl rfl) (fun v150 hg => ?_)
        refine j_if_eq hX 160 hg dX4_readsItem_153 (by decide) (fun hg => ?_) (fun hg => ?_)
        · refine j_iconst hX dX4_readsItem_160 kc_0 ?_
          cases hg
          exact hret _ _ (Or.inl rfl) dX4_readsItem_161
        · refine j_iconst hX dX4_readsItem_156 kc_1 ?_
          refine j_goto hX 161 dX4_readsItem_157 (by decide) ?_
          cases hg
          exact hret _ _ (Or.inr rfl) dX4_readsItem_161
    refine sw_case (x := f_this_text_bytes f_this_at.toNatClampNeg) 119 hg (fun hx hg => ?_) (fun hx119 hg => ?_)
    · refine j_tin hX hx 294 (off := 254) dX4_readsItem_40 (by decide +kernel) (by decide +kernel) (by decide +kernel) (by decide) ?_
      refine j_aload_n hX 1 dX4_readsItem_294 rfl rfl ?_
      refine j_vRW hX hW (r := fun v => v.1) (w1 := fun v => (w_X4_readsWord G q_this q_this_text q_this_text_bytes q_this_draft q_this_draft_sort (.ref q_this_hills) (.ref q_this_number) f_this_text_bytes f_this_text_size v.2.1 v.2.2.1 v.2.2.2)) (ws' := fun v => (w_X4_readsItem G q_this q_this_hills q_this_hills_book q_this_hills_book_words q_this_hills_book_words_E q_this_hills_book_words_E_sort q_this_hills_minutes q_this_text q_this_text_bytes q_this_number q_this_draft q_this_draft_sort f_this_hills_book_words_E_sort f_this_hills_book_words_E_size f_this_hills_book_size f_this_hills_places f_this_hills_sorts f_this_hills_hour f_this_hills_law f_this_hills_minutesTold f_this_hills_minutes f_this_text_bytes f_this_text_size v.2.1 v.2.2.1 f_this_number v.2.2.2)) [] hg (fun v hv => c_X4_readsWord l G N q_this q_this_text q_this_text_bytes q_this_draft q_this_draft_sort (.ref q_this_hills) (.ref q_this_number) f_this_text_bytes f_this_text_size f_this_draft_sort f_this_draft_size (f_this_at + 1) v hv) gX4_readsItem_X4_readsWord rfl ⟨rfl, rfl⟩ ⟨rfl, by decide, by decide, rfl⟩ rfl rfl [0, 21, 22, 24, 25] rfl (by decide +kernel) rfl rfl dX4_readsItem_295 rfl rfl ⟨Nat.zero_le _, Nat.zero_le _⟩ (fun _ => jn_set [0, 21, 22, 24, 25] rfl rfl rfl) (fun v295 hg => ?_)
      refine j_if_eq hX 322 hg dX4_readsItem_298 (by decide) (fun hg => ?_) (fun hg => ?_)
      · refine j_iconst hX dX4_readsItem_322 kc_0 ?_
        cases hg
        exact hret _ _ (Or.inl rfl) dX4_readsItem_323
      · refine j_aload_n hX 1 dX4_readsItem_301 rfl rfl ?_
        refine j_get hX 0 0 rfl rfl hinX4 rfl hf_X4_hills_12 rfl dX4_readsItem_302 ?_
        refine j_get hX 1 0 rfl rfl hinX2 rfl hf_X2_book_78 rfl dX4_readsItem_305 ?_
        refine j_aload_n hX 1 dX4_readsItem_308 rfl rfl ?_
        refine j_get hX 0 3 rfl rfl hinX4 rfl hf_X4_draft_27 rfl dX4_readsItem_309 ?_
        refine j_vRW hX hW (r := fun v => v.1) (w1 := fun v => (w_X1_append G q_this_hills_book q_this_hills_book_words q_this_hills_book_words_E q_this_hills_book_words_E_sort q_this_draft q_this_draft_sort 4 v.2.1 v.2.2.1 v.2.2.2 v295.2.1 v295.2.2.1)) (ws' := fun v => (w_X4_readsItem G q_this q_this_hills q_this_hills_book q_this_hills_book_words q_this_hills_book_words_E q_this_hills_book_words_E_sort q_this_hills_minutes q_this_text q_this_text_bytes q_this_number q_this_draft q_this_draft_sort v.2.1 v.2.2.1 v.2.2.2 f_this_hills_places f_this_hills_sorts f_this_hills_hour f_this_hills_law f_this_hills_minutesTold f_this_hills_minutes f_this_text_bytes f_this_text_size v295.2.1 v295.2.2.1 f_this_number v295.2.2.2)) [.ref q_this_draft] hg (fun v hv => c_X1_append l G N q_this_hills_book q_this_hills_book_words q_this_hills_book_words_E q_this_hills_book_words_E_sort q_this_draft q_this_draft_sort 4 f_this_hills_book_words_E_sort f_this_hills_book_words_E_size f_this_hills_book_size v295.2.1 v295.2.2.1 v hv) gX4_readsItem_X1_append rfl ⟨rfl, rfl⟩ ⟨rfl, by decide, by decide, rfl⟩ rfl rfl [2, 3, 4, 5, 6, 7, 8, 9, 10, 11, 12, 13, 14, 15, 16, 17, 18, 19, 24, 25] (ax_X4_readsItem_312c _ _ _ _ _ _ _ _ _ _ _ _ _ _ _ _ _ _ _ _ _ _ _ _ _ _) (by decide +kernel) rfl rfl dX4_readsItem_312 rfl rfl ⟨Nat.zero_le _, Nat.zero_le _⟩ (fun _ => jn_ax [2, 3, 4, 5, 6, 7, 8, 9, 10, 11, 12, 13, 14, 15, 16, 17, 18, 19, 24, 25] ([0, 1, 20, 21, 22, 23] : List Nat) 26 (ax_X4_readsItem_312 _ _ _ _ _ _ _ _ _ _ _ _ _ _ _ _ _ _ _ _ _ _ _ _ _ _ _ _ _ _ _ _ _ _ _ _ _ _ _ _ _ _ _ _ _ _) rfl (by decide +kernel)) (fun v312 hg => ?_)
        refine j_if_eq hX 322 hg dX4_readsItem_315 (by decide) (fun hg => ?_) (fun hg => ?_)
        · refine j_iconst hX dX4_readsItem_322 kc_0 ?_
          cases hg
          exact hret _ _ (Or.inl rfl) dX4_readsItem_323
        · refine j_iconst hX dX4_readsItem_318 kc_1 ?_
          refine j_goto hX 323 dX4_readsItem_319 (by decide) ?_
          cases hg
          exact hret _ _ (Or.inr rfl) dX4_readsItem_323
    refine sw_case (x := f_this_text_bytes f_this_at.toNatClampNeg) 120 hg (fun hx hg => ?_) (fun hx120 hg => ?_)
    · refine j_tin hX hx 162 (off := 122) dX4_readsItem_40 (by decide +kernel) (by decide +kernel) (by decide +kernel) (by decide) ?_
      refine j_aload_n hX 1 dX4_readsItem_162 rfl rfl ?_
      refine j_iconst hX dX4_readsItem_163 kc_3 ?_
      refine j_vRW hX hW (r := fun v => v.1) (w1 := fun v => (w_X4_readsNumbers G q_this q_this_text q_this_text_bytes q_this_number (.ref q_this_hills) (.ref q_this_draft) f_this_text_bytes f_this_text_size v.2.1 v.2.2)) (ws' := fun v => (w_X4_readsItem G q_this q_this_hills q_this_hills_book q_this_hills_book_words q_this_hills_book_words_E q_this_hills_book_words_E_sort q_this_hills_minutes q_this_text q_this_text_bytes q_this_number q_this_draft q_this_draft_sort f_this_hills_book_words_E_sort f_this_hills_book_words_E_size f_this_hills_book_size f_this_hills_places f_this_hills_sorts f_this_hills_hour f_this_hills_law f_this_hills_minutesTold f_this_hills_minutes f_this_text_bytes f_this_text_size f_this_draft_sort f_this_draft_size v.2.1 v.2.2)) [.int 3] hg (fun v hv => c_X4_readsNumbers l G N q_this q_this_text q_this_text_bytes q_this_number (.ref q_this_hills) (.ref q_this_draft) f_this_text_bytes f_this_text_size f_this_number (f_this_at + 1) 3 v hv) gX4_readsItem_X4_readsNumbers rfl ⟨rfl, rfl⟩ ⟨rfl, by decide, by decide, rfl⟩ rfl rfl [0, 21, 22, 23] rfl (by decide +kernel) rfl rfl dX4_readsItem_164 rfl rfl ⟨Nat.zero_le _, Nat.zero_le _⟩ (fun _ => jn_set [0, 21, 22, 23] rfl rfl rfl) (fun v164 hg => ?_)
      refine j_if_eq hX 202 hg dX4_readsItem_167 (by decide) (fun hg => ?_) (fun hg => ?_)
      · refine j_iconst hX dX4_readsItem_202 kc_0 ?_
        cases hg
        exact hret _ _ (Or.inl rfl) dX4_readsItem_203
      · refine j_aload_n hX 1 dX4_readsItem_170 rfl rfl ?_
        refine j_get hX 0 0 rfl rfl hinX4 rfl hf_X4_hills_12 rfl dX4_readsItem_171 ?_
        refine j_aload_n hX 1 dX4_readsItem_174 rfl rfl ?_
        refine j_get hX 0 2 rfl rfl hinX4 rfl hf_X4_number_18 rfl dX4_readsItem_175 ?_
        refine j_iconst hX dX4_readsItem_178 kc_0 ?_
        refine j_iald hX 23 rfl hg dX4_readsItem_179 (fun hg => ?_)
        refine j_aload_n hX 1 dX4_readsItem_180 rfl rfl ?_
        refine j_get hX 0 2 rfl rfl hinX4 rfl hf_X4_number_18 rfl dX4_readsItem_181 ?_
        refine j_iconst hX dX4_readsItem_184 kc_1 ?_
        refine j_iald hX 23 rfl hg dX4_readsItem_185 (fun hg => ?_)
        refine j_aload_n hX 1 dX4_readsItem_186 rfl rfl ?_
        refine j_get hX 0 2 rfl rfl hinX4 rfl hf_X4_number_18 rfl dX4_readsItem_187 ?_
        refine j_iconst hX dX4_readsItem_190 kc_2 ?_
        refine j_iald hX 23 rfl hg dX4_readsItem_191 (fun hg => ?_)
        refine j_vRW hX hW (r := fun v => v.1) (w1 := fun v => (w_X2_setMinutes G q_this_hills q_this_hills_minutes (.ref q_this_hills_book) (.int f_this_hills_sorts) (.int f_this_hills_hour) (.int f_this_hills_law) f_this_hills_places v.2.1 v.2.2)) (ws' := fun v => (w_X4_readsItem G q_this q_this_hills q_this_hills_book q_this_hills_book_words q_this_hills_book_words_E q_this_hills_book_words_E_sort q_this_hills_minutes q_this_text q_this_text_bytes q_this_number q_this_draft q_this_draft_sort f_this_hills_book_words_E_sort f_this_hills_book_words_E_size f_this_hills_book_size f_this_hills_places f_this_hills_sorts f_this_hills_hour f_this_hills_law v.2.1 v.2.2 f_this_text_bytes f_this_text_size f_this_draft_sort f_this_draft_size v164.2.1 v164.2.2)) [.int (v164.2.1 (0 : Int32).toNatClampNeg), .int (v164.2.1 (1 : Int32).toNatClampNeg), .int (v164.2.1 (2 : Int32).toNatClampNeg)] hg (fun v hv => c_X2_setMinutes l G N q_this_hills q_this_hills_minutes (.ref q_this_hills_book) (.int f_this_hills_sorts) (.int f_this_hills_hour) (.int f_this_hills_law) f_this_hills_places f_this_hills_minutesTold f_this_hills_minutes (v164.2.1 (0 : Int32).toNatClampNeg) (v164.2.1 (1 : Int32).toNatClampNeg) (v164.2.1 (2 : Int32).toNatClampNeg) v hv) gX4_readsItem_X2_setMinutes rfl ⟨rfl, rfl⟩ ⟨rfl, by decide, by decide, rfl⟩ rfl rfl [1, 20] rfl (by decide +kernel) rfl rfl dX4_readsItem_192 rfl rfl ⟨Nat.zero_le _, Nat.zero_le _⟩ (fun _ => jn_set [1, 20] rfl rfl rfl) (fun v192 hg => ?_)
        refine j_if_eq hX 202 hg dX4_readsItem_195 (by decide) (fun hg => ?_) (fun hg => ?_)
        · refine j_iconst hX dX4_readsItem_202 kc_0 ?_
          cases hg
          exact hret _ _ (Or.inl rfl) dX4_readsItem_203
        · refine j_iconst hX dX4_readsItem_198 kc_1 ?_
          refine j_goto hX 203 dX4_readsItem_199 (by decide) ?_
          cases hg
          exact hret _ _ (Or.inr rfl) dX4_readsItem_203
    refine j_tdef hX [102, 104, 108, 112, 119, 120] 324 dX4_readsItem_40 (by decide +kernel) (by decide +kernel) (fun z hz => by simp only [List.mem_cons, List.not_mem_nil, or_false] at hz; rcases hz with rfl | rfl | rfl | rfl | rfl | rfl <;> assumption) (by decide) ?_
    refine j_iconst hX dX4_readsItem_324 kc_0 ?_
    cases hg
    exact hret _ _ (Or.inl rfl) dX4_readsItem_325
  · refine j_iconst hX dX4_readsItem_14 kc_0 ?_
    cases hg
    exact hret _ _ (Or.inl rfl) dX4_readsItem_15
abbrev w_X4_firstFault (G : jG) (q_this : Nat) (q_this_hills : Nat) (q_this_hills_book : Nat) (q_this_hills_book_words : Nat) (q_this_hills_book_words_E : Nat → Nat) (q_this_hills_book_words_E_sort : Nat → Nat) (q_this_hills_minutes : Nat) (q_this_text : Nat) (q_this_text_bytes : Nat) (q_this_number : Nat) (q_this_draft : Nat) (q_this_draft_sort : Nat) (f_this_hills_book_words_E_sort : (Nat → Nat → Int32)) (f_this_hills_book_words_E_size : (Nat → Int32)) (f_this_hills_book_size : Int32) (f_this_hills_places : Int32) (f_this_hills_sorts : Int32) (f_this_hills_hour : Int32) (f_this_hills_law : Int32) (f_this_hills_minutesTold : Int32) (f_this_hills_minutes : (Nat → Int32)) (f_this_text_bytes : (Nat → Int32)) (f_this_text_size : Int32) (f_this_draft_sort : (Nat → Int32)) (f_this_draft_size : Int32) (f_this_number : (Nat → Int32)) (f_this_at : Int32) : va_W := [oC q_this 4 [.ref q_this_hills, .ref q_this_text, .ref q_this_number, .ref q_this_draft, .int f_this_at], oC q_this_hills 2 [.ref q_this_hills_book, .int f_this_hills_places, .int f_this_hills_sorts, .int f_this_hills_hour, .int f_this_hills_law, .int f_this_hills_minutesTold, .ref q_this_hills_minutes], oC q_this_hills_book 1 [.ref q_this_hills_book_words, .int f_this_hills_book_size], aQ (jcSortRow G) q_this_hills_book_words 8 (fun j => some (q_this_hills_book_words_E j)), oC (q_this_hills_book_words_E 0) 7 [.ref (q_this_hills_book_words_E_sort 0), .int (f_this_hills_book_words_E_size 0)], aI G (q_this_hills_book_words_E_sort 0) 4 (f_this_hills_book_words_E_sort 0), oC (q_this_hills_book_words_E 1) 7 [.ref (q_this_hills_book_words_E_sort 1), .int (f_this_hills_book_words_E_size 1)], aI G (q_this_hills_book_words_E_sort 1) 4 (f_this_hills_book_words_E_sort 1), oC (q_this_hills_book_words_E 2) 7 [.ref (q_this_hills_book_words_E_sort 2), .int (f_this_hills_book_words_E_size 2)], aI G (q_this_hills_book_words_E_sort 2) 4 (f_this_hills_book_words_E_sort 2), oC (q_this_hills_book_words_E 3) 7 [.ref (q_this_hills_book_words_E_sort 3), .int (f_this_hills_book_words_E_size 3)], aI G (q_this_hills_book_words_E_sort 3) 4 (f_this_hills_book_words_E_sort 3), oC (q_this_hills_book_words_E 4) 7 [.ref (q_this_hills_book_words_E_sort 4), .int (f_this_hills_book_words_E_size 4)], aI G (q_this_hills_book_words_E_sort 4) 4 (f_this_hills_book_words_E_sort 4), oC (q_this_hills_book_words_E 5) 7 [.ref (q_this_hills_book_words_E_sort 5), .int (f_this_hills_book_words_E_size 5)], aI G (q_this_hills_book_words_E_sort 5) 4 (f_this_hills_book_words_E_sort 5), oC (q_this_hills_book_words_E 6) 7 [.ref (q_this_hills_book_words_E_sort 6), .int (f_this_hills_book_words_E_size 6)], aI G (q_this_hills_book_words_E_sort 6) 4 (f_this_hills_book_words_E_sort 6), oC (q_this_hills_book_words_E 7) 7 [.ref (q_this_hills_book_words_E_sort 7), .int (f_this_hills_book_words_E_size 7)], aI G (q_this_hills_book_words_E_sort 7) 4 (f_this_hills_book_words_E_sort 7), aI G q_this_hills_minutes 25 f_this_hills_minutes, oC q_this_text 9 [.ref q_this_text_bytes, .int f_this_text_size], aB G q_this_text_bytes 300 f_this_text_bytes, aI G q_this_number 3 f_this_number, oC q_this_draft 7 [.ref q_this_draft_sort, .int f_this_draft_size], aI G q_this_draft_sort 4 f_this_draft_sort]
def g_X4_firstFault_L14 (N : Nat) (f_this_text_bytes : (Nat → Int32)) (f_this_text_size : Int32) : Nat → (Nat → Nat → Int32) → (Nat → Int32) → Int32 → Int32 → Int32 → Int32 → Int32 → Int32 → (Nat → Int32) → (Nat → Int32) → Int32 → (Nat → Int32) → Int32 → Int32 → Option (Int32 × (Nat → Nat → Int32) × (Nat → Int32) × Int32 × Int32 × Int32 × Int32 × Int32 × Int32 × (Nat → Int32) × (Nat → Int32) × Int32 × (Nat → Int32) × Int32)
  | 0, _, _, _, _, _, _, _, _, _, _, _, _, _, _ => none
  | fu + 1, f_this_hills_book_words_E_sort, f_this_hills_book_words_E_size, f_this_hills_book_size, f_this_hills_places, f_this_hills_sorts, f_this_hills_hour, f_this_hills_law, f_this_hills_minutesTold, f_this_hills_minutes, f_this_draft_sort, f_this_draft_size, f_this_number, f_this_at, x1 => if (300 : Int32) ≤ x1 then some ((-4), f_this_hills_book_words_E_sort, f_this_hills_book_words_E_size, f_this_hills_book_size, f_this_hills_places, f_this_hills_sorts, f_this_hills_hour, f_this_hills_law, f_this_hills_minutesTold, f_this_hills_minutes, f_this_draft_sort, f_this_draft_size, f_this_number, f_this_at) else if f_this_text_size ≤ f_this_at then some ((-4), f_this_hills_book_words_E_sort, f_this_hills_book_words_E_size, f_this_hills_book_size, f_this_hills_places, f_this_hills_sorts, f_this_hills_hour, f_this_hills_law, f_this_hills_minutesTold, f_this_hills_minutes, f_this_draft_sort, f_this_draft_size, f_this_number, f_this_at) else (g_X4_readsItem N f_this_text_bytes f_this_text_size f_this_hills_book_words_E_sort f_this_hills_book_words_E_size f_this_hills_book_size f_this_hills_places f_this_hills_sorts f_this_hills_hour f_this_hills_law f_this_hills_minutesTold f_this_hills_minutes f_this_draft_sort f_this_draft_size f_this_number f_this_at).bind fun v41 => if v41.1 = 0 then some (f_this_at, v41.2.1, v41.2.2.1, v41.2.2.2.1, v41.2.2.2.2.1, v41.2.2.2.2.2.1, v41.2.2.2.2.2.2.1, v41.2.2.2.2.2.2.2.1, v41.2.2.2.2.2.2.2.2.1, v41.2.2.2.2.2.2.2.2.2.1, v41.2.2.2.2.2.2.2.2.2.2.1, v41.2.2.2.2.2.2.2.2.2.2.2.1, v41.2.2.2.2.2.2.2.2.2.2.2.2.1, v41.2.2.2.2.2.2.2.2.2.2.2.2.2) else g_X4_firstFault_L14 N f_this_text_bytes f_this_text_size fu v41.2.1 v41.2.2.1 v41.2.2.2.1 v41.2.2.2.2.1 v41.2.2.2.2.2.1 v41.2.2.2.2.2.2.1 v41.2.2.2.2.2.2.2.1 v41.2.2.2.2.2.2.2.2.1 v41.2.2.2.2.2.2.2.2.2.1 v41.2.2.2.2.2.2.2.2.2.2.1 v41.2.2.2.2.2.2.2.2.2.2.2.1 v41.2.2.2.2.2.2.2.2.2.2.2.2.1 v41.2.2.2.2.2.2.2.2.2.2.2.2.2 (x1 + 1)
def g_X4_firstFault (N : Nat) (f_this_text_bytes : (Nat → Int32)) (f_this_text_size : Int32) (f_this_hills_book_words_E_sort : (Nat → Nat → Int32)) (f_this_hills_book_words_E_size : (Nat → Int32)) (f_this_hills_book_size : Int32) (f_this_hills_places : Int32) (f_this_hills_sorts : Int32) (f_this_hills_hour : Int32) (f_this_hills_law : Int32) (f_this_hills_minutesTold : Int32) (f_this_hills_minutes : (Nat → Int32)) (f_this_draft_sort : (Nat → Int32)) (f_this_draft_size : Int32) (f_this_number : (Nat → Int32)) (f_this_at : Int32) : Option (Int32 × (Nat → Nat → Int32) × (Nat → Int32) × Int32 × Int32 × Int32 × Int32 × Int32 × Int32 × (Nat → Int32) × (Nat → Int32) × Int32 × (Nat → Int32) × Int32) := (g_X2_clear N f_this_hills_book_size f_this_hills_places f_this_hills_sorts f_this_hills_hour f_this_hills_law f_this_hills_minutesTold f_this_hills_minutes).bind fun v4 => g_X4_firstFault_L14 N f_this_text_bytes f_this_text_size N f_this_hills_book_words_E_sort f_this_hills_book_words_E_size v4.1 v4.2.1 v4.2.2.1 v4.2.2.2.1 v4.2.2.2.2.1 v4.2.2.2.2.2.1 v4.2.2.2.2.2.2 f_this_draft_sort f_this_draft_size f_this_number 0 0
set_option maxRecDepth 100000 in
theorem ax_X4_firstFault_41 (c0 c1 c2 c3 c4 c5 c6 c7 c8 c9 c10 c11 c12 c13 c14 c15 c16 c17 c18 c19 c20 c21 c22 c23 c24 c25 d0 d1 d2 d3 d4 d5 d6 d7 d8 d9 d10 d11 d12 d13 d14 d15 d16 d17 d18 d19 d20 d21 d22 d23 d24 d25 : Nat × va_E) : [0, 1, 2, 3, 4, 5, 6, 7, 8, 9, 10, 11, 12, 13, 14, 15, 16, 17, 18, 19, 20, 21, 22, 23, 24, 25].map (fun i => ([c0, c1, c2, c3, c4, c5, c6, c7, c8, c9, c10, c11, c12, c13, c14, c15, c16, c17, c18, c19, c20, c21, c22, c23, c24, c25] : va_W)[i]?) = List.map some ([c0, c1, c2, c3, c4, c5, c6, c7, c8, c9, c10, c11, c12, c13, c14, c15, c16, c17, c18, c19, c20, c21, c22, c23, c24, c25] : va_W) ∧ ([d0, d1, d2, d3, d4, d5, d6, d7, d8, d9, d10, d11, d12, d13, d14, d15, d16, d17, d18, d19, d20, d21, d22, d23, d24, d25] : va_W).length = 26 ∧ [0, 1, 2, 3, 4, 5, 6, 7, 8, 9, 10, 11, 12, 13, 14, 15, 16, 17, 18, 19, 20, 21, 22, 23, 24, 25].map (fun i => ([d0, d1, d2, d3, d4, d5, d6, d7, d8, d9, d10, d11, d12, d13, d14, d15, d16, d17, d18, d19, d20, d21, d22, d23, d24, d25] : va_W)[i]?) = List.map some ([d0, d1, d2, d3, d4, d5, d6, d7, d8, d9, d10, d11, d12, d13, d14, d15, d16, d17, d18, d19, d20, d21, d22, d23, d24, d25] : va_W) ∧ ([] : List Nat).map (fun i => ([d0, d1, d2, d3, d4, d5, d6, d7, d8, d9, d10, d11, d12, d13, d14, d15, d16, d17, d18, d19, d20, d21, d22, d23, d24, d25] : va_W)[i]?) = ([] : List Nat).map (fun i => ([c0, c1, c2, c3, c4, c5, c6, c7, c8, c9, c10, c11, c12, c13, c14, c15, c16, c17, c18, c19, c20, c21, c22, c23, c24, c25] : va_W)[i]?) := ⟨rfl, rfl, rfl, rfl⟩
set_option maxRecDepth 100000 in
theorem ax_X4_firstFault_41c (c0 c1 c2 c3 c4 c5 c6 c7 c8 c9 c10 c11 c12 c13 c14 c15 c16 c17 c18 c19 c20 c21 c22 c23 c24 c25 : Nat × va_E) : [0, 1, 2, 3, 4, 5, 6, 7, 8, 9, 10, 11, 12, 13, 14, 15, 16, 17, 18, 19, 20, 21, 22, 23, 24, 25].map (fun i => ([c0, c1, c2, c3, c4, c5, c6, c7, c8, c9, c10, c11, c12, c13, c14, c15, c16, c17, c18, c19, c20, c21, c22, c23, c24, c25] : va_W)[i]?) = List.map some ([c0, c1, c2, c3, c4, c5, c6, c7, c8, c9, c10, c11, c12, c13, c14, c15, c16, c17, c18, c19, c20, c21, c22, c23, c24, c25] : va_W) := rfl
set_option maxHeartbeats 4000000 in
set_option maxRecDepth 100000 in
theorem c_X4_firstFault (l : Launch) (G : jG) (N : Nat) (q_this : Nat) (q_this_hills : Nat) (q_this_hills_book : Nat) (q_this_hills_book_words : Nat) (q_this_hills_book_words_E : Nat → Nat) (q_this_hills_book_words_E_sort : Nat → Nat) (q_this_hills_minutes : Nat) (q_this_text : Nat) (q_this_text_bytes : Nat) (q_this_number : Nat) (q_this_draft : Nat) (q_this_draft_sort : Nat) (f_this_hills_book_words_E_sort : (Nat → Nat → Int32)) (f_this_hills_book_words_E_size : (Nat → Int32)) (f_this_hills_book_size : Int32) (f_this_hills_places : Int32) (f_this_hills_sorts : Int32) (f_this_hills_hour : Int32) (f_this_hills_law : Int32) (f_this_hills_minutesTold : Int32) (f_this_hills_minutes : (Nat → Int32)) (f_this_text_bytes : (Nat → Int32)) (f_this_text_size : Int32) (f_this_draft_sort : (Nat → Int32)) (f_this_draft_size : Int32) (f_this_number : (Nat → Int32)) (f_this_at : Int32) (u : Int32 × (Nat → Nat → Int32) × (Nat → Int32) × Int32 × Int32 × Int32 × Int32 × Int32 × Int32 × (Nat → Int32) × (Nat → Int32) × Int32 × (Nat → Int32) × Int32) (hu : g_X4_firstFault N f_this_text_bytes f_this_text_size f_this_hills_book_words_E_sort f_this_hills_book_words_E_size f_this_hills_book_size f_this_hills_places f_this_hills_sorts f_this_hills_hour f_this_hills_law f_this_hills_minutesTold f_this_hills_minutes f_this_draft_sort f_this_draft_size f_this_number f_this_at = some u) : MetRW l G yX4_firstFault wsX4_firstFault ({ frames := 4, cells := 0, slots := 0, locals := 79 } : Room) [.ref q_this] (w_X4_firstFault G q_this q_this_hills q_this_hills_book q_this_hills_book_words q_this_hills_book_words_E q_this_hills_book_words_E_sort q_this_hills_minutes q_this_text q_this_text_bytes q_this_number q_this_draft q_this_draft_sort f_this_hills_book_words_E_sort f_this_hills_book_words_E_size f_this_hills_book_size f_this_hills_places f_this_hills_sorts f_this_hills_hour f_this_hills_law f_this_hills_minutesTold f_this_hills_minutes f_this_text_bytes f_this_text_size f_this_draft_sort f_this_draft_size f_this_number f_this_at) (w_X4_firstFault G q_this q_this_hills q_this_hills_book q_this_hills_book_words q_this_hills_book_words_E q_this_hills_book_words_E_sort q_this_hills_minutes q_this_text q_this_text_bytes q_this_number q_this_draft q_this_draft_sort u.2.1 u.2.2.1 u.2.2.2.1 u.2.2.2.2.1 u.2.2.2.2.2.1 u.2.2.2.2.2.2.1 u.2.2.2.2.2.2.2.1 u.2.2.2.2.2.2.2.2.1 u.2.2.2.2.2.2.2.2.2.1 f_this_text_bytes f_this_text_size u.2.2.2.2.2.2.2.2.2.2.1 u.2.2.2.2.2.2.2.2.2.2.2.1 u.2.2.2.2.2.2.2.2.2.2.2.2.1 u.2.2.2.2.2.2.2.2.2.2.2.2.2) u.1 := by
  refine met_rwi (cc := cX4_firstFault) (maxL := 3) (lv0 := [(0, .ref q_this)]) (by decide) rfl rfl rfl rfl (fun X hX hW hret => ?_)
  have hinX4 : ∀ w ∈ u_ws RX4 TX4 5, w ∈ wsX4_firstFault := by decide +kernel
  have hinX9 : ∀ w ∈ u_ws RX9 TX9 2, w ∈ wsX4_firstFault := by decide +kernel
  have hf_X4_at_38 : Cond.fieldLink RX4 38 (TX4 4).1 (TX4 4).2.1 (TX4 4).2.2.1 ∈ wsX4_firstFault := by decide +kernel
  have hf_X4_hills_12 : Cond.fieldLink RX4 12 (TX4 0).1 (TX4 0).2.1 (TX4 0).2.2.1 ∈ wsX4_firstFault := by decide +kernel
  have hf_X4_text_31 : Cond.fieldLink RX4 31 (TX4 1).1 (TX4 1).2.1 (TX4 1).2.2.1 ∈ wsX4_firstFault := by decide +kernel
  have hf_X9_size_42 : Cond.fieldLink RX4 42 (TX9 1).1 (TX9 1).2.1 (TX9 1).2.2.1 ∈ wsX4_firstFault := by decide +kernel
  have L14 : ∀ (fu14 : Nat), ∀ (f_this_hills_book_words_E_sort : (Nat → Nat → Int32)) (f_this_hills_book_words_E_size : (Nat → Int32)) (f_this_hills_book_size : Int32) (f_this_hills_places : Int32) (f_this_hills_sorts : Int32) (f_this_hills_hour : Int32) (f_this_hills_law : Int32) (f_this_hills_minutesTold : Int32) (f_this_hills_minutes : (Nat → Int32)) (f_this_draft_sort : (Nat → Int32)) (f_this_draft_size : Int32) (f_this_number : (Nat → Int32)) (f_this_at : Int32) (x1 : Int32), g_X4_firstFault_L14 N f_this_text_bytes f_this_text_size fu14 f_this_hills_book_words_E_sort f_this_hills_book_words_E_size f_this_hills_book_size f_this_hills_places f_this_hills_sorts f_this_hills_hour f_this_hills_law f_this_hills_minutesTold f_this_hills_minutes f_this_draft_sort f_this_draft_size f_this_number f_this_at x1 = some u → J X 0 0 (w_X4_firstFault G q_this q_this_hills q_this_hills_book q_this_hills_book_words q_this_hills_book_words_E q_this_hills_book_words_E_sort q_this_hills_minutes q_this_text q_this_text_bytes q_this_number q_this_draft q_this_draft_sort f_this_hills_book_words_E_sort f_this_hills_book_words_E_size f_this_hills_book_size f_this_hills_places f_this_hills_sorts f_this_hills_hour f_this_hills_law f_this_hills_minutesTold f_this_hills_minutes f_this_text_bytes f_this_text_size f_this_draft_sort f_this_draft_size f_this_number f_this_at) 14 [(0, .ref q_this), (1, .int x1)] [] := by
    intro fu14
    induction fu14 with
    | zero => intro f_this_hills_book_words_E_sort f_this_hills_book_words_E_size f_this_hills_book_size f_this_hills_places f_this_hills_sorts f_this_hills_hour f_this_hills_law f_this_hills_minutesTold f_this_hills_minutes f_this_draft_sort f_this_draft_size f_this_number f_this_at x1 hg; exact nomatch hg
    | succ fu14 ih14 =>
      intro f_this_hills_book_words_E_sort f_this_hills_book_words_E_size f_this_hills_book_size f_this_hills_places f_this_hills_sorts f_this_hills_hour f_this_hills_law f_this_hills_minutesTold f_this_hills_minutes f_this_draft_sort f_this_draft_size f_this_number f_this_at x1 hg
      unfold g_X4_firstFault_L14 at hg
      refine j_iload_n hX 1 dX4_firstFault_14 rfl rfl ?_
      refine j_sipush hX dX4_firstFault_15 ks_300 ?_
      refine j_icmp_ge hX 55 hg dX4_firstFault_18 (by decide) (fun hg => ?_) (fun hg => ?_)
      · refine j_bipush hX dX4_firstFault_55 kb_m4 ?_
        cases hg
        exact hret _ _ dX4_firstFault_57
      · refine j_aload_n hX 0 dX4_firstFault_21 rfl rfl ?_
        refine j_get hX 0 4 rfl rfl hinX4 rfl hf_X4_at_38 rfl dX4_firstFault_22 ?_
        refine j_aload_n hX 0 dX4_firstFault_25 rfl rfl ?_
        refine j_get hX 0 1 rfl rfl hinX4 rfl hf_X4_text_31 rfl dX4_firstFault_26 ?_
        refine j_get hX 21 1 rfl rfl hinX9 rfl hf_X9_size_42 rfl dX4_firstFault_29 ?_
        refine j_icmp_ge hX 55 hg dX4_firstFault_32 (by decide) (fun hg => ?_) (fun hg => ?_)
        · refine j_bipush hX dX4_firstFault_55 kb_m4 ?_
          cases hg
          exact hret _ _ dX4_firstFault_57
        · refine j_aload_n hX 0 dX4_firstFault_35 rfl rfl ?_
          refine j_get hX 0 4 rfl rfl hinX4 rfl hf_X4_at_38 rfl dX4_firstFault_36 ?_
          refine j_istore_n hX (lv' := [(2, .int f_this_at), (0, .ref q_this), (1, .int x1)]) dX4_firstFault_39 rfl rfl rfl ?_
          refine j_aload_n hX 1 dX4_firstFault_40 rfl rfl ?_
          refine j_vRW hX hW (r := fun v => v.1) (w1 := fun v => (w_X4_readsItem G q_this q_this_hills q_this_hills_book q_this_hills_book_words q_this_hills_book_words_E q_this_hills_book_words_E_sort q_this_hills_minutes q_this_text q_this_text_bytes q_this_number q_this_draft q_this_draft_sort v.2.1 v.2.2.1 v.2.2.2.1 v.2.2.2.2.1 v.2.2.2.2.2.1 v.2.2.2.2.2.2.1 v.2.2.2.2.2.2.2.1 v.2.2.2.2.2.2.2.2.1 v.2.2.2.2.2.2.2.2.2.1 f_this_text_bytes f_this_text_size v.2.2.2.2.2.2.2.2.2.2.1 v.2.2.2.2.2.2.2.2.2.2.2.1 v.2.2.2.2.2.2.2.2.2.2.2.2.1 v.2.2.2.2.2.2.2.2.2.2.2.2.2)) (ws' := fun v => (w_X4_firstFault G q_this q_this_hills q_this_hills_book q_this_hills_book_words q_this_hills_book_words_E q_this_hills_book_words_E_sort q_this_hills_minutes q_this_text q_this_text_bytes q_this_number q_this_draft q_this_draft_sort v.2.1 v.2.2.1 v.2.2.2.1 v.2.2.2.2.1 v.2.2.2.2.2.1 v.2.2.2.2.2.2.1 v.2.2.2.2.2.2.2.1 v.2.2.2.2.2.2.2.2.1 v.2.2.2.2.2.2.2.2.2.1 f_this_text_bytes f_this_text_size v.2.2.2.2.2.2.2.2.2.2.1 v.2.2.2.2.2.2.2.2.2.2.2.1 v.2.2.2.2.2.2.2.2.2.2.2.2.1 v.2.2.2.2.2.2.2.2.2.2.2.2.2)) [] hg (fun v hv => c_X4_readsItem l G N q_this q_this_hills q_this_hills_book q_this_hills_book_words q_this_hills_book_words_E q_this_hills_book_words_E_sort q_this_hills_minutes q_this_text q_this_text_bytes q_this_number q_this_draft q_this_draft_sort f_this_hills_book_words_E_sort f_this_hills_book_words_E_size f_this_hills_book_size f_this_hills_places f_this_hills_sorts f_this_hills_hour f_this_hills_law f_this_hills_minutesTold f_this_hills_minutes f_this_text_bytes f_this_text_size f_this_draft_sort f_this_draft_size f_this_number f_this_at v hv) gX4_firstFault_X4_readsItem rfl ⟨rfl, rfl⟩ ⟨rfl, by decide, by decide, rfl⟩ rfl rfl [0, 1, 2, 3, 4, 5, 6, 7, 8, 9, 10, 11, 12, 13, 14, 15, 16, 17, 18, 19, 20, 21, 22, 23, 24, 25] (ax_X4_firstFault_41c _ _ _ _ _ _ _ _ _ _ _ _ _ _ _ _ _ _ _ _ _ _ _ _ _ _) (by decide +kernel) rfl rfl dX4_firstFault_41 rfl rfl ⟨Nat.zero_le _, Nat.zero_le _⟩ (fun _ => jn_ax [0, 1, 2, 3, 4, 5, 6, 7, 8, 9, 10, 11, 12, 13, 14, 15, 16, 17, 18, 19, 20, 21, 22, 23, 24, 25] ([] : List Nat) 26 (ax_X4_firstFault_41 _ _ _ _ _ _ _ _ _ _ _ _ _ _ _ _ _ _ _ _ _ _ _ _ _ _ _ _ _ _ _ _ _ _ _ _ _ _ _ _ _ _ _ _ _ _ _ _ _ _ _ _) rfl (by decide +kernel)) (fun v41 hg => ?_)
          refine j_if_ne hX 49 hg dX4_firstFault_44 (by decide) (fun hg => ?_) (fun hg => ?_)
          · refine j_iload_n hX 0 dX4_firstFault_47 rfl rfl ?_
            cases hg
            exact hret _ _ dX4_firstFault_48
          · refine j_iinc hX 2 (v := x1 + 1) (lv' := [(1, .int (x1 + 1)), (2, .int f_this_at), (0, .ref q_this)]) dX4_firstFault_49 rfl (by rw [kc_1]) rfl rfl ?_
            refine j_goto hX 14 dX4_firstFault_52 (by decide) ?_
            refine j_lv [2, 0] rfl ?_
            exact ih14 _ _ _ _ _ _ _ _ _ _ _ _ _ _ hg
  have hg := hu
  unfold g_X4_firstFault at hg
  refine j_aload_n hX 0 dX4_firstFault_0 rfl rfl ?_
  refine j_get hX 0 0 rfl rfl hinX4 rfl hf_X4_hills_12 rfl dX4_firstFault_1 ?_
  refine j_vRV hX hW (w1 := fun v => (w_X2_clear G q_this_hills q_this_hills_book q_this_hills_minutes (.ref q_this_hills_book_words) v.1 v.2.1 v.2.2.1 v.2.2.2.1 v.2.2.2.2.1 v.2.2.2.2.2.1 v.2.2.2.2.2.2)) (ws' := fun v => (w_X4_firstFault G q_this q_this_hills q_this_hills_book q_this_hills_book_words q_this_hills_book_words_E q_this_hills_book_words_E_sort q_this_hills_minutes q_this_text q_this_text_bytes q_this_number q_this_draft q_this_draft_sort f_this_hills_book_words_E_sort f_this_hills_book_words_E_size v.1 v.2.1 v.2.2.1 v.2.2.2.1 v.2.2.2.2.1 v.2.2.2.2.2.1 v.2.2.2.2.2.2 f_this_text_bytes f_this_text_size f_this_draft_sort f_this_draft_size f_this_number f_this_at)) [] hg (fun v hv => c_X2_clear l G N q_this_hills q_this_hills_book q_this_hills_minutes (.ref q_this_hills_book_words) f_this_hills_book_size f_this_hills_places f_this_hills_sorts f_this_hills_hour f_this_hills_law f_this_hills_minutesTold f_this_hills_minutes v hv) gX4_firstFault_X2_clear rfl ⟨rfl, rfl⟩ ⟨rfl, by decide, by decide, rfl⟩ rfl rfl [1, 2, 20] rfl (by decide +kernel) rfl rfl dX4_firstFault_4 rfl rfl ⟨Nat.zero_le _, Nat.zero_le _⟩ (fun _ => jn_set [1, 2, 20] rfl rfl rfl) (fun v4 hg => ?_)
  refine j_aload_n hX 0 dX4_firstFault_7 rfl rfl ?_
  refine j_iconst hX dX4_firstFault_8 kc_0 ?_
  refine j_put hX hW 0 4 rfl rfl hinX4 tyX4 tyX4_ok nmX4 rfl hf_X4_at_38 rfl rfl rfl rfl dX4_firstFault_9 (ws' := (w_X4_firstFault G q_this q_this_hills q_this_hills_book q_this_hills_book_words q_this_hills_book_words_E q_this_hills_book_words_E_sort q_this_hills_minutes q_this_text q_this_text_bytes q_this_number q_this_draft q_this_draft_sort f_this_hills_book_words_E_sort f_this_hills_book_words_E_size v4.1 v4.2.1 v4.2.2.1 v4.2.2.2.1 v4.2.2.2.2.1 v4.2.2.2.2.2.1 v4.2.2.2.2.2.2 f_this_text_bytes f_this_text_size f_this_draft_sort f_this_draft_size f_this_number 0)) rfl ?_
  refine j_iconst hX dX4_firstFault_12 kc_0 ?_
  refine j_istore_n hX (lv' := [(1, .int 0), (0, .ref q_this)]) dX4_firstFault_13 rfl rfl rfl ?_
  refine j_lv [1, 0] rfl ?_
  exact L14 N _ _ _ _ _ _ _ _ _ _ _ _ _ _ hg
abbrev w_X11_fault (G : jG) (q_this : Nat) (q_this_text : Nat) (q_this_text_bytes : Nat) (q_this_reader : Nat) (q_this_reader_hills : Nat) (q_this_reader_hills_book : Nat) (q_this_reader_hills_book_words : Nat) (q_this_reader_hills_book_words_E : Nat → Nat) (q_this_reader_hills_book_words_E_sort : Nat → Nat) (q_this_reader_hills_minutes : Nat) (q_this_reader_number : Nat) (q_this_reader_draft : Nat) (q_this_reader_draft_sort : Nat) (v_this_laid : Value) (v_this_beats : Value) (v_this_steps : Value) (v_this_kept : Value) (v_this_keptSize : Value) (v_this_told : Value) (v_this_secrets : Value) (v_this_trials : Value) (v_this_queue : Value) (v_this_row : Value) (v_this_later : Value) (f_this_text_bytes : (Nat → Int32)) (f_this_text_size : Int32) (f_this_reader_hills_book_words_E_sort : (Nat → Nat → Int32)) (f_this_reader_hills_book_words_E_size : (Nat → Int32)) (f_this_reader_hills_book_size : Int32) (f_this_reader_hills_places : Int32) (f_this_reader_hills_sorts : Int32) (f_this_reader_hills_hour : Int32) (f_this_reader_hills_law : Int32) (f_this_reader_hills_minutesTold : Int32) (f_this_reader_hills_minutes : (Nat → Int32)) (f_this_reader_draft_sort : (Nat → Int32)) (f_this_reader_draft_size : Int32) (f_this_reader_number : (Nat → Int32)) (f_this_reader_at : Int32) : va_W := [oC q_this 11 [.ref q_this_text, .ref q_this_reader, v_this_laid, v_this_beats, v_this_steps, v_this_kept, v_this_keptSize, v_this_told, v_this_secrets, v_this_trials, v_this_queue, v_this_row, v_this_later], oC q_this_text 9 [.ref q_this_text_bytes, .int f_this_text_size], aB G q_this_text_bytes 300 f_this_text_bytes, oC q_this_reader 4 [.ref q_this_reader_hills, .ref q_this_text, .ref q_this_reader_number, .ref q_this_reader_draft, .int f_this_reader_at], oC q_this_reader_hills 2 [.ref q_this_reader_hills_book, .int f_this_reader_hills_places, .int f_this_reader_hills_sorts, .int f_this_reader_hills_hour, .int f_this_reader_hills_law, .int f_this_reader_hills_minutesTold, .ref q_this_reader_hills_minutes], oC q_this_reader_hills_book 1 [.ref q_this_reader_hills_book_words, .int f_this_reader_hills_book_size], aQ (jcSortRow G) q_this_reader_hills_book_words 8 (fun j => some (q_this_reader_hills_book_words_E j)), oC (q_this_reader_hills_book_words_E 0) 7 [.ref (q_this_reader_hills_book_words_E_sort 0), .int (f_this_reader_hills_book_words_E_size 0)], aI G (q_this_reader_hills_book_words_E_sort 0) 4 (f_this_reader_hills_book_words_E_sort 0), oC (q_this_reader_hills_book_words_E 1) 7 [.ref (q_this_reader_hills_book_words_E_sort 1), .int (f_this_reader_hills_book_words_E_size 1)], aI G (q_this_reader_hills_book_words_E_sort 1) 4 (f_this_reader_hills_book_words_E_sort 1), oC (q_this_reader_hills_book_words_E 2) 7 [.ref (q_this_reader_hills_book_words_E_sort 2), .int (f_this_reader_hills_book_words_E_size 2)], aI G (q_this_reader_hills_book_words_E_sort 2) 4 (f_this_reader_hills_book_words_E_sort 2), oC (q_this_reader_hills_book_words_E 3) 7 [.ref (q_this_reader_hills_book_words_E_sort 3), .int (f_this_reader_hills_book_words_E_size 3)], aI G (q_this_reader_hills_book_words_E_sort 3) 4 (f_this_reader_hills_book_words_E_sort 3), oC (q_this_reader_hills_book_words_E 4) 7 [.ref (q_this_reader_hills_book_words_E_sort 4), .int (f_this_reader_hills_book_words_E_size 4)], aI G (q_this_reader_hills_book_words_E_sort 4) 4 (f_this_reader_hills_book_words_E_sort 4), oC (q_this_reader_hills_book_words_E 5) 7 [.ref (q_this_reader_hills_book_words_E_sort 5), .int (f_this_reader_hills_book_words_E_size 5)], aI G (q_this_reader_hills_book_words_E_sort 5) 4 (f_this_reader_hills_book_words_E_sort 5), oC (q_this_reader_hills_book_words_E 6) 7 [.ref (q_this_reader_hills_book_words_E_sort 6), .int (f_this_reader_hills_book_words_E_size 6)], aI G (q_this_reader_hills_book_words_E_sort 6) 4 (f_this_reader_hills_book_words_E_sort 6), oC (q_this_reader_hills_book_words_E 7) 7 [.ref (q_this_reader_hills_book_words_E_sort 7), .int (f_this_reader_hills_book_words_E_size 7)], aI G (q_this_reader_hills_book_words_E_sort 7) 4 (f_this_reader_hills_book_words_E_sort 7), aI G q_this_reader_hills_minutes 25 f_this_reader_hills_minutes, aI G q_this_reader_number 3 f_this_reader_number, oC q_this_reader_draft 7 [.ref q_this_reader_draft_sort, .int f_this_reader_draft_size], aI G q_this_reader_draft_sort 4 f_this_reader_draft_sort]
def g_X11_fault (N : Nat) (f_this_text_bytes : (Nat → Int32)) (f_this_text_size : Int32) (f_this_reader_hills_book_words_E_sort : (Nat → Nat → Int32)) (f_this_reader_hills_book_words_E_size : (Nat → Int32)) (f_this_reader_hills_book_size : Int32) (f_this_reader_hills_places : Int32) (f_this_reader_hills_sorts : Int32) (f_this_reader_hills_hour : Int32) (f_this_reader_hills_law : Int32) (f_this_reader_hills_minutesTold : Int32) (f_this_reader_hills_minutes : (Nat → Int32)) (f_this_reader_draft_sort : (Nat → Int32)) (f_this_reader_draft_size : Int32) (f_this_reader_number : (Nat → Int32)) (f_this_reader_at : Int32) : Option (Int32 × (Nat → Nat → Int32) × (Nat → Int32) × Int32 × Int32 × Int32 × Int32 × Int32 × Int32 × (Nat → Int32) × (Nat → Int32) × Int32 × (Nat → Int32) × Int32) := (g_X4_firstFault N f_this_text_bytes f_this_text_size f_this_reader_hills_book_words_E_sort f_this_reader_hills_book_words_E_size f_this_reader_hills_book_size f_this_reader_hills_places f_this_reader_hills_sorts f_this_reader_hills_hour f_this_reader_hills_law f_this_reader_hills_minutesTold f_this_reader_hills_minutes f_this_reader_draft_sort f_this_reader_draft_size f_this_reader_number f_this_reader_at).bind fun v4 => some (v4.1, v4.2.1, v4.2.2.1, v4.2.2.2.1, v4.2.2.2.2.1, v4.2.2.2.2.2.1, v4.2.2.2.2.2.2.1, v4.2.2.2.2.2.2.2.1, v4.2.2.2.2.2.2.2.2.1, v4.2.2.2.2.2.2.2.2.2.1, v4.2.2.2.2.2.2.2.2.2.2.1, v4.2.2.2.2.2.2.2.2.2.2.2.1, v4.2.2.2.2.2.2.2.2.2.2.2.2.1, v4.2.2.2.2.2.2.2.2.2.2.2.2.2)
set_option maxRecDepth 100000 in
theorem ax_X11_fault_4 (c0 c1 c2 c3 c4 c5 c6 c7 c8 c9 c10 c11 c12 c13 c14 c15 c16 c17 c18 c19 c20 c21 c22 c23 c24 c25 c26 d0 d1 d2 d3 d4 d5 d6 d7 d8 d9 d10 d11 d12 d13 d14 d15 d16 d17 d18 d19 d20 d21 d22 d23 d24 d25 : Nat × va_E) : [3, 4, 5, 6, 7, 8, 9, 10, 11, 12, 13, 14, 15, 16, 17, 18, 19, 20, 21, 22, 23, 1, 2, 24, 25, 26].map (fun i => ([c0, c1, c2, c3, c4, c5, c6, c7, c8, c9, c10, c11, c12, c13, c14, c15, c16, c17, c18, c19, c20, c21, c22, c23, c24, c25, c26] : va_W)[i]?) = List.map some ([c3, c4, c5, c6, c7, c8, c9, c10, c11, c12, c13, c14, c15, c16, c17, c18, c19, c20, c21, c22, c23, c1, c2, c24, c25, c26] : va_W) ∧ ([c0, d21, d22, d0, d1, d2, d3, d4, d5, d6, d7, d8, d9, d10, d11, d12, d13, d14, d15, d16, d17, d18, d19, d20, d23, d24, d25] : va_W).length = 27 ∧ [3, 4, 5, 6, 7, 8, 9, 10, 11, 12, 13, 14, 15, 16, 17, 18, 19, 20, 21, 22, 23, 1, 2, 24, 25, 26].map (fun i => ([c0, d21, d22, d0, d1, d2, d3, d4, d5, d6, d7, d8, d9, d10, d11, d12, d13, d14, d15, d16, d17, d18, d19, d20, d23, d24, d25] : va_W)[i]?) = List.map some ([d0, d1, d2, d3, d4, d5, d6, d7, d8, d9, d10, d11, d12, d13, d14, d15, d16, d17, d18, d19, d20, d21, d22, d23, d24, d25] : va_W) ∧ ([0] : List Nat).map (fun i => ([c0, d21, d22, d0, d1, d2, d3, d4, d5, d6, d7, d8, d9, d10, d11, d12, d13, d14, d15, d16, d17, d18, d19, d20, d23, d24, d25] : va_W)[i]?) = ([0] : List Nat).map (fun i => ([c0, c1, c2, c3, c4, c5, c6, c7, c8, c9, c10, c11, c12, c13, c14, c15, c16, c17, c18, c19, c20, c21, c22, c23, c24, c25, c26] : va_W)[i]?) := ⟨rfl, rfl, rfl, rfl⟩
set_option maxRecDepth 100000 in
theorem ax_X11_fault_4c (c0 c1 c2 c3 c4 c5 c6 c7 c8 c9 c10 c11 c12 c13 c14 c15 c16 c17 c18 c19 c20 c21 c22 c23 c24 c25 c26 : Nat × va_E) : [3, 4, 5, 6, 7, 8, 9, 10, 11, 12, 13, 14, 15, 16, 17, 18, 19, 20, 21, 22, 23, 1, 2, 24, 25, 26].map (fun i => ([c0, c1, c2, c3, c4, c5, c6, c7, c8, c9, c10, c11, c12, c13, c14, c15, c16, c17, c18, c19, c20, c21, c22, c23, c24, c25, c26] : va_W)[i]?) = List.map some ([c3, c4, c5, c6, c7, c8, c9, c10, c11, c12, c13, c14, c15, c16, c17, c18, c19, c20, c21, c22, c23, c1, c2, c24, c25, c26] : va_W) := rfl
set_option maxHeartbeats 4000000 in
set_option maxRecDepth 100000 in
theorem c_X11_fault (l : Launch) (G : jG) (N : Nat) (q_this : Nat) (q_this_text : Nat) (q_this_text_bytes : Nat) (q_this_reader : Nat) (q_this_reader_hills : Nat) (q_this_reader_hills_book : Nat) (q_this_reader_hills_book_words : Nat) (q_this_reader_hills_book_words_E : Nat → Nat) (q_this_reader_hills_book_words_E_sort : Nat → Nat) (q_this_reader_hills_minutes : Nat) (q_this_reader_number : Nat) (q_this_reader_draft : Nat) (q_this_reader_draft_sort : Nat) (v_this_laid : Value) (v_this_beats : Value) (v_this_steps : Value) (v_this_kept : Value) (v_this_keptSize : Value) (v_this_told : Value) (v_this_secrets : Value) (v_this_trials : Value) (v_this_queue : Value) (v_this_row : Value) (v_this_later : Value) (f_this_text_bytes : (Nat → Int32)) (f_this_text_size : Int32) (f_this_reader_hills_book_words_E_sort : (Nat → Nat → Int32)) (f_this_reader_hills_book_words_E_size : (Nat → Int32)) (f_this_reader_hills_book_size : Int32) (f_this_reader_hills_places : Int32) (f_this_reader_hills_sorts : Int32) (f_this_reader_hills_hour : Int32) (f_this_reader_hills_law : Int32) (f_this_reader_hills_minutesTold : Int32) (f_this_reader_hills_minutes : (Nat → Int32)) (f_this_reader_draft_sort : (Nat → Int32)) (f_this_reader_draft_size : Int32) (f_this_reader_number : (Nat → Int32)) (f_this_reader_at : Int32) (u : Int32 × (Nat → Nat → Int32) × (Nat → Int32) × Int32 × Int32 × Int32 × Int32 × Int32 × Int32 × (Nat → Int32) × (Nat → Int32) × Int32 × (Nat → Int32) × Int32) (hu : g_X11_fault N f_this_text_bytes f_this_text_size f_this_reader_hills_book_words_E_sort f_this_reader_hills_book_words_E_size f_this_reader_hills_book_size f_this_reader_hills_places f_this_reader_hills_sorts f_this_reader_hills_hour f_this_reader_hills_law f_this_reader_hills_minutesTold f_this_reader_hills_minutes f_this_reader_draft_sort f_this_reader_draft_size f_this_reader_number f_this_reader_at = some u) : MetRW l G yX11_fault wsX11_fault ({ frames := 5, cells := 0, slots := 0, locals := 101 } : Room) [.ref q_this] (w_X11_fault G q_this q_this_text q_this_text_bytes q_this_reader q_this_reader_hills q_this_reader_hills_book q_this_reader_hills_book_words q_this_reader_hills_book_words_E q_this_reader_hills_book_words_E_sort q_this_reader_hills_minutes q_this_reader_number q_this_reader_draft q_this_reader_draft_sort v_this_laid v_this_beats v_this_steps v_this_kept v_this_keptSize v_this_told v_this_secrets v_this_trials v_this_queue v_this_row v_this_later f_this_text_bytes f_this_text_size f_this_reader_hills_book_words_E_sort f_this_reader_hills_book_words_E_size f_this_reader_hills_book_size f_this_reader_hills_places f_this_reader_hills_sorts f_this_reader_hills_hour f_this_reader_hills_law f_this_reader_hills_minutesTold f_this_reader_hills_minutes f_this_reader_draft_sort f_this_reader_draft_size f_this_reader_number f_this_reader_at) (w_X11_fault G q_this q_this_text q_this_text_bytes q_this_reader q_this_reader_hills q_this_reader_hills_book q_this_reader_hills_book_words q_this_reader_hills_book_words_E q_this_reader_hills_book_words_E_sort q_this_reader_hills_minutes q_this_reader_number q_this_reader_draft q_this_reader_draft_sort v_this_laid v_this_beats v_this_steps v_this_kept v_this_keptSize v_this_told v_this_secrets v_this_trials v_this_queue v_this_row v_this_later f_this_text_bytes f_this_text_size u.2.1 u.2.2.1 u.2.2.2.1 u.2.2.2.2.1 u.2.2.2.2.2.1 u.2.2.2.2.2.2.1 u.2.2.2.2.2.2.2.1 u.2.2.2.2.2.2.2.2.1 u.2.2.2.2.2.2.2.2.2.1 u.2.2.2.2.2.2.2.2.2.2.1 u.2.2.2.2.2.2.2.2.2.2.2.1 u.2.2.2.2.2.2.2.2.2.2.2.2.1 u.2.2.2.2.2.2.2.2.2.2.2.2.2) u.1 := by
  refine met_rwi (cc := cX11_fault) (maxL := 1) (lv0 := [(0, .ref q_this)]) (by decide) rfl rfl rfl rfl (fun X hX hW hret => ?_)
  have hinX11 : ∀ w ∈ u_ws RX11 TX11 13, w ∈ wsX11_fault := by decide +kernel
  have hf_X11_reader_21 : Cond.fieldLink RX11 21 (TX11 1).1 (TX11 1).2.1 (TX11 1).2.2.1 ∈ wsX11_fault := by decide +kernel
  have hg := hu
  unfold g_X11_fault at hg
  refine j_aload_n hX 0 dX11_fault_0 rfl rfl ?_
  refine j_get hX 0 1 rfl rfl hinX11 rfl hf_X11_reader_21 rfl dX11_fault_1 ?_
  refine j_vRW hX hW (r := fun v => v.1) (w1 := fun v => (w_X4_firstFault G q_this_reader q_this_reader_hills q_this_reader_hills_book q_this_reader_hills_book_words q_this_reader_hills_book_words_E q_this_reader_hills_book_words_E_sort q_this_reader_hills_minutes q_this_text q_this_text_bytes q_this_reader_number q_this_reader_draft q_this_reader_draft_sort v.2.1 v.2.2.1 v.2.2.2.1 v.2.2.2.2.1 v.2.2.2.2.2.1 v.2.2.2.2.2.2.1 v.2.2.2.2.2.2.2.1 v.2.2.2.2.2.2.2.2.1 v.2.2.2.2.2.2.2.2.2.1 f_this_text_bytes f_this_text_size v.2.2.2.2.2.2.2.2.2.2.1 v.2.2.2.2.2.2.2.2.2.2.2.1 v.2.2.2.2.2.2.2.2.2.2.2.2.1 v.2.2.2.2.2.2.2.2.2.2.2.2.2)) (ws' := fun v => (w_X11_fault G q_this q_this_text q_this_text_bytes q_this_reader q_this_reader_hills q_this_reader_hills_book q_this_reader_hills_book_words q_this_reader_hills_book_words_E q_this_reader_hills_book_words_E_sort q_this_reader_hills_minutes q_this_reader_number q_this_reader_draft q_this_reader_draft_sort v_this_laid v_this_beats v_this_steps v_this_kept v_this_keptSize v_this_told v_this_secrets v_this_trials v_this_queue v_this_row v_this_later f_this_text_bytes f_this_text_size v.2.1 v.2.2.1 v.2.2.2.1 v.2.2.2.2.1 v.2.2.2.2.2.1 v.2.2.2.2.2.2.1 v.2.2.2.2.2.2.2.1 v.2.2.2.2.2.2.2.2.1 v.2.2.2.2.2.2.2.2.2.1 v.2.2.2.2.2.2.2.2.2.2.1 v.2.2.2.2.2.2.2.2.2.2.2.1 v.2.2.2.2.2.2.2.2.2.2.2.2.1 v.2.2.2.2.2.2.2.2.2.2.2.2.2)) [] hg (fun v hv => c_X4_firstFault l G N q_this_reader q_this_reader_hills q_this_reader_hills_book q_this_reader_hills_book_words q_this_reader_hills_book_words_E q_this_reader_hills_book_words_E_sort q_this_reader_hills_minutes q_this_text q_this_text_bytes q_this_reader_number q_this_reader_draft q_this_reader_draft_sort f_this_reader_hills_book_words_E_sort f_this_reader_hills_book_words_E_size f_this_reader_hills_book_size f_this_reader_hills_places f_this_reader_hills_sorts f_this_reader_hills_hour f_this_reader_hills_law f_this_reader_hills_minutesTold f_this_reader_hills_minutes f_this_text_bytes f_this_text_size f_this_reader_draft_sort f_this_reader_draft_size f_this_reader_number f_this_reader_at v hv) gX11_fault_X4_firstFault rfl ⟨rfl, rfl⟩ ⟨rfl, by decide, by decide, rfl⟩ rfl rfl [3, 4, 5, 6, 7, 8, 9, 10, 11, 12, 13, 14, 15, 16, 17, 18, 19, 20, 21, 22, 23, 1, 2, 24, 25, 26] (ax_X11_fault_4c _ _ _ _ _ _ _ _ _ _ _ _ _ _ _ _ _ _ _ _ _ _ _ _ _ _ _) (by decide +kernel) rfl rfl dX11_fault_4 rfl rfl ⟨Nat.zero_le _, Nat.zero_le _⟩ (fun _ => jn_ax [3, 4, 5, 6, 7, 8, 9, 10, 11, 12, 13, 14, 15, 16, 17, 18, 19, 20, 21, 22, 23, 1, 2, 24, 25, 26] ([0] : List Nat) 27 (ax_X11_fault_4 _ _ _ _ _ _ _ _ _ _ _ _ _ _ _ _ _ _ _ _ _ _ _ _ _ _ _ _ _ _ _ _ _ _ _ _ _ _ _ _ _ _ _ _ _ _ _ _ _ _ _ _ _) rfl (by decide +kernel)) (fun v4 hg => ?_)
  cases hg
  exact hret _ _ dX11_fault_7
abbrev w_X1_copyFrom (G : jG) (q_this : Nat) (q_this_words : Nat) (q_this_words_E : Nat → Nat) (q_this_words_E_sort : Nat → Nat) (q_a1 : Nat) (q_a1_words : Nat) (q_a1_words_E : Nat → Nat) (q_a1_words_E_sort : Nat → Nat) (f_this_words_E_sort : (Nat → Nat → Int32)) (f_this_words_E_size : (Nat → Int32)) (f_this_size : Int32) (f_a1_words_E_sort : (Nat → Nat → Int32)) (f_a1_words_E_size : (Nat → Int32)) (f_a1_size : Int32) : va_W := [oC q_this 1 [.ref q_this_words, .int f_this_size], aQ (jcSortRow G) q_this_words 8 (fun j => some (q_this_words_E j)), oC (q_this_words_E 0) 7 [.ref (q_this_words_E_sort 0), .int (f_this_words_E_size 0)], aI G (q_this_words_E_sort 0) 4 (f_this_words_E_sort 0), oC (q_this_words_E 1) 7 [.ref (q_this_words_E_sort 1), .int (f_this_words_E_size 1)], aI G (q_this_words_E_sort 1) 4 (f_this_words_E_sort 1), oC (q_this_words_E 2) 7 [.ref (q_this_words_E_sort 2), .int (f_this_words_E_size 2)], aI G (q_this_words_E_sort 2) 4 (f_this_words_E_sort 2), oC (q_this_words_E 3) 7 [.ref (q_this_words_E_sort 3), .int (f_this_words_E_size 3)], aI G (q_this_words_E_sort 3) 4 (f_this_words_E_sort 3), oC (q_this_words_E 4) 7 [.ref (q_this_words_E_sort 4), .int (f_this_words_E_size 4)], aI G (q_this_words_E_sort 4) 4 (f_this_words_E_sort 4), oC (q_this_words_E 5) 7 [.ref (q_this_words_E_sort 5), .int (f_this_words_E_size 5)], aI G (q_this_words_E_sort 5) 4 (f_this_words_E_sort 5), oC (q_this_words_E 6) 7 [.ref (q_this_words_E_sort 6), .int (f_this_words_E_size 6)], aI G (q_this_words_E_sort 6) 4 (f_this_words_E_sort 6), oC (q_this_words_E 7) 7 [.ref (q_this_words_E_sort 7), .int (f_this_words_E_size 7)], aI G (q_this_words_E_sort 7) 4 (f_this_words_E_sort 7), oC q_a1 1 [.ref q_a1_words, .int f_a1_size], aQ (jcSortRow G) q_a1_words 8 (fun j => some (q_a1_words_E j)), oC (q_a1_words_E 0) 7 [.ref (q_a1_words_E_sort 0), .int (f_a1_words_E_size 0)], aI G (q_a1_words_E_sort 0) 4 (f_a1_words_E_sort 0), oC (q_a1_words_E 1) 7 [.ref (q_a1_words_E_sort 1), .int (f_a1_words_E_size 1)], aI G (q_a1_words_E_sort 1) 4 (f_a1_words_E_sort 1), oC (q_a1_words_E 2) 7 [.ref (q_a1_words_E_sort 2), .int (f_a1_words_E_size 2)], aI G (q_a1_words_E_sort 2) 4 (f_a1_words_E_sort 2), oC (q_a1_words_E 3) 7 [.ref (q_a1_words_E_sort 3), .int (f_a1_words_E_size 3)], aI G (q_a1_words_E_sort 3) 4 (f_a1_words_E_sort 3), oC (q_a1_words_E 4) 7 [.ref (q_a1_words_E_sort 4), .int (f_a1_words_E_size 4)], aI G (q_a1_words_E_sort 4) 4 (f_a1_words_E_sort 4), oC (q_a1_words_E 5) 7 [.ref (q_a1_words_E_sort 5), .int (f_a1_words_E_size 5)], aI G (q_a1_words_E_sort 5) 4 (f_a1_words_E_sort 5), oC (q_a1_words_E 6) 7 [.ref (q_a1_words_E_sort 6), .int (f_a1_words_E_size 6)], aI G (q_a1_words_E_sort 6) 4 (f_a1_words_E_sort 6), oC (q_a1_words_E 7) 7 [.ref (q_a1_words_E_sort 7), .int (f_a1_words_E_size 7)], aI G (q_a1_words_E_sort 7) 4 (f_a1_words_E_sort 7)]
def g_X1_copyFrom_L10 (N : Nat) (f_a1_words_E_sort : (Nat → Nat → Int32)) (f_a1_words_E_size : (Nat → Int32)) (f_a1_size : Int32) : Nat → (Nat → Nat → Int32) → (Nat → Int32) → Int32 → Int32 → Option ((Nat → Nat → Int32) × (Nat → Int32) × Int32)
  | 0, _, _, _, _ => none
  | fu + 1, f_this_words_E_sort, f_this_words_E_size, f_this_size, x2 => if f_this_size ≤ x2 then some (f_this_words_E_sort, f_this_words_E_size, f_this_size) else gi x2 8 (gi x2 8 ((g_X7_copyFrom N 4 4 (f_a1_words_E_sort x2.toNatClampNeg) (f_a1_words_E_size x2.toNatClampNeg) (f_this_words_E_sort x2.toNatClampNeg) (f_this_words_E_size x2.toNatClampNeg)).bind fun v30 => g_X1_copyFrom_L10 N f_a1_words_E_sort f_a1_words_E_size f_a1_size fu (va_up f_this_words_E_sort x2.toNatClampNeg v30.1) (va_up f_this_words_E_size x2.toNatClampNeg v30.2) f_this_size (x2 + 1)))
def g_X1_copyFrom (N : Nat) (f_a1_words_E_sort : (Nat → Nat → Int32)) (f_a1_words_E_size : (Nat → Int32)) (f_a1_size : Int32) (f_this_words_E_sort : (Nat → Nat → Int32)) (f_this_words_E_size : (Nat → Int32)) (f_this_size : Int32) : Option ((Nat → Nat → Int32) × (Nat → Int32) × Int32) := g_X1_copyFrom_L10 N f_a1_words_E_sort f_a1_words_E_size f_a1_size N f_this_words_E_sort f_this_words_E_size f_a1_size 0
set_option maxHeartbeats 4000000 in
set_option maxRecDepth 100000 in
theorem c_X1_copyFrom (l : Launch) (G : jG) (N : Nat) (q_this : Nat) (q_this_words : Nat) (q_this_words_E : Nat → Nat) (q_this_words_E_sort : Nat → Nat) (q_a1 : Nat) (q_a1_words : Nat) (q_a1_words_E : Nat → Nat) (q_a1_words_E_sort : Nat → Nat) (f_this_words_E_sort : (Nat → Nat → Int32)) (f_this_words_E_size : (Nat → Int32)) (f_this_size : Int32) (f_a1_words_E_sort : (Nat → Nat → Int32)) (f_a1_words_E_size : (Nat → Int32)) (f_a1_size : Int32) (u : (Nat → Nat → Int32) × (Nat → Int32) × Int32) (hu : g_X1_copyFrom N f_a1_words_E_sort f_a1_words_E_size f_a1_size f_this_words_E_sort f_this_words_E_size f_this_size = some u) : MetRV l G yX1_copyFrom wsX1_copyFrom ({ frames := 2, cells := 0, slots := 0, locals := 36 } : Room) [.ref q_this, .ref q_a1] (w_X1_copyFrom G q_this q_this_words q_this_words_E q_this_words_E_sort q_a1 q_a1_words q_a1_words_E q_a1_words_E_sort f_this_words_E_sort f_this_words_E_size f_this_size f_a1_words_E_sort f_a1_words_E_size f_a1_size) (w_X1_copyFrom G q_this q_this_words q_this_words_E q_this_words_E_sort q_a1 q_a1_words q_a1_words_E q_a1_words_E_sort u.1 u.2.1 u.2.2 f_a1_words_E_sort f_a1_words_E_size f_a1_size) := by
  refine met_rwv (cc := cX1_copyFrom) (maxL := 3) (lv0 := [(0, .ref q_this), (1, .ref q_a1)]) (by decide) rfl rfl rfl rfl (fun X hX hW hret => ?_)
  have hinX1 : ∀ w ∈ u_ws RX1 TX1 2, w ∈ wsX1_copyFrom := by decide +kernel
  have hf_X1_size_20 : Cond.fieldLink RX1 20 (TX1 1).1 (TX1 1).2.1 (TX1 1).2.2.1 ∈ wsX1_copyFrom := by decide +kernel
  have hf_X1_words_11 : Cond.fieldLink RX1 11 (TX1 0).1 (TX1 0).2.1 (TX1 0).2.2.1 ∈ wsX1_copyFrom := by decide +kernel
  have L10 : ∀ (fu10 : Nat), ∀ (f_this_words_E_sort : (Nat → Nat → Int32)) (f_this_words_E_size : (Nat → Int32)) (f_this_size : Int32) (x2 : Int32), g_X1_copyFrom_L10 N f_a1_words_E_sort f_a1_words_E_size f_a1_size fu10 f_this_words_E_sort f_this_words_E_size f_this_size x2 = some u → J X 0 0 (w_X1_copyFrom G q_this q_this_words q_this_words_E q_this_words_E_sort q_a1 q_a1_words q_a1_words_E q_a1_words_E_sort f_this_words_E_sort f_this_words_E_size f_this_size f_a1_words_E_sort f_a1_words_E_size f_a1_size) 10 [(0, .ref q_this), (1, .ref q_a1), (2, .int x2)] [] := by
    intro fu10
    induction fu10 with
    | zero => intro f_this_words_E_sort f_this_words_E_size f_this_size x2 hg; exact nomatch hg
    | succ fu10 ih10 =>
      intro f_this_words_E_sort f_this_words_E_size f_this_size x2 hg
      unfold g_X1_copyFrom_L10 at hg
      refine j_iload_n hX 2 dX1_copyFrom_10 rfl rfl ?_
      refine j_aload_n hX 0 dX1_copyFrom_11 rfl rfl ?_
      refine j_get hX 0 1 rfl rfl hinX1 rfl hf_X1_size_20 rfl dX1_copyFrom_12 ?_
      refine j_icmp_ge hX 39 hg dX1_copyFrom_15 (by decide) (fun hg => ?_) (fun hg => ?_)
      · cases hg
        exact hret _ _ dX1_copyFrom_39
      · refine j_aload_n hX 0 dX1_copyFrom_18 rfl rfl ?_
        refine j_get hX 0 0 rfl rfl hinX1 rfl hf_X1_words_11 rfl dX1_copyFrom_19 ?_
        refine j_iload_n hX 2 dX1_copyFrom_22 rfl rfl ?_
        refine j_aald hX 1 6 rfl rfl hg dX1_copyFrom_23 (fun hw23 hg => ?_)
        refine j_aload_n hX 1 dX1_copyFrom_24 rfl rfl ?_
        refine j_get hX 18 0 rfl rfl hinX1 rfl hf_X1_words_11 rfl dX1_copyFrom_25 ?_
        refine j_iload_n hX 2 dX1_copyFrom_28 rfl rfl ?_
        refine j_aald hX 19 6 rfl rfl hg dX1_copyFrom_29 (fun hw29 hg => ?_)
        refine j_vRV hX hW (w1 := fun v => (w_X7_copyFrom G (q_this_words_E x2.toNatClampNeg) (q_this_words_E_sort x2.toNatClampNeg) (q_a1_words_E x2.toNatClampNeg) (q_a1_words_E_sort x2.toNatClampNeg) 4 4 v.1 v.2 (f_a1_words_E_sort x2.toNatClampNeg) (f_a1_words_E_size x2.toNatClampNeg))) (ws' := fun v => (w_X1_copyFrom G q_this q_this_words q_this_words_E q_this_words_E_sort q_a1 q_a1_words q_a1_words_E q_a1_words_E_sort (va_up f_this_words_E_sort x2.toNatClampNeg v.1) (va_up f_this_words_E_size x2.toNatClampNeg v.2) f_this_size f_a1_words_E_sort f_a1_words_E_size f_a1_size)) [.ref (q_a1_words_E x2.toNatClampNeg)] hg (fun v hv => c_X7_copyFrom l G N (q_this_words_E x2.toNatClampNeg) (q_this_words_E_sort x2.toNatClampNeg) (q_a1_words_E x2.toNatClampNeg) (q_a1_words_E_sort x2.toNatClampNeg) 4 4 (f_this_words_E_sort x2.toNatClampNeg) (f_this_words_E_size x2.toNatClampNeg) (f_a1_words_E_sort x2.toNatClampNeg) (f_a1_words_E_size x2.toNatClampNeg) v hv) gX1_copyFrom_X7_copyFrom rfl ⟨rfl, rfl⟩ ⟨rfl, by decide, by decide, rfl⟩ rfl rfl [2 + 2 * x2.toNatClampNeg, 3 + 2 * x2.toNatClampNeg, 20 + 2 * x2.toNatClampNeg, 21 + 2 * x2.toNatClampNeg] (ix8 (P := fun w => [2 + 2 * w, 3 + 2 * w, 20 + 2 * w, 21 + 2 * w].map (fun i => (w_X1_copyFrom G q_this q_this_words q_this_words_E q_this_words_E_sort q_a1 q_a1_words q_a1_words_E q_a1_words_E_sort f_this_words_E_sort f_this_words_E_size f_this_size f_a1_words_E_sort f_a1_words_E_size f_a1_size)[i]?) = List.map some (w_X7_copyFrom G (q_this_words_E w) (q_this_words_E_sort w) (q_a1_words_E w) (q_a1_words_E_sort w) 4 4 (f_this_words_E_sort w) (f_this_words_E_size w) (f_a1_words_E_sort w) (f_a1_words_E_size w))) rfl rfl rfl rfl rfl rfl rfl rfl _ hw23) (ix8 (P := fun w => va_nd [2 + 2 * w, 3 + 2 * w, 20 + 2 * w, 21 + 2 * w] = true) rfl rfl rfl rfl rfl rfl rfl rfl _ hw23) rfl rfl dX1_copyFrom_30 rfl rfl ⟨Nat.zero_le _, Nat.zero_le _⟩ (fun v => jn_set _ (ix8 (P := fun w => [2 + 2 * w, 3 + 2 * w, 20 + 2 * w, 21 + 2 * w].map (fun i => (w_X1_copyFrom G q_this q_this_words q_this_words_E q_this_words_E_sort q_a1 q_a1_words q_a1_words_E q_a1_words_E_sort f_this_words_E_sort f_this_words_E_size f_this_size f_a1_words_E_sort f_a1_words_E_size f_a1_size)[i]?) = List.map some (w_X7_copyFrom G (q_this_words_E w) (q_this_words_E_sort w) (q_a1_words_E w) (q_a1_words_E_sort w) 4 4 (f_this_words_E_sort w) (f_this_words_E_size w) (f_a1_words_E_sort w) (f_a1_words_E_size w))) rfl rfl rfl rfl rfl rfl rfl rfl _ hw23) rfl (ix8 (P := fun w => setAll (w_X1_copyFrom G q_this q_this_words q_this_words_E q_this_words_E_sort q_a1 q_a1_words q_a1_words_E q_a1_words_E_sort f_this_words_E_sort f_this_words_E_size f_this_size f_a1_words_E_sort f_a1_words_E_size f_a1_size) [2 + 2 * w, 3 + 2 * w, 20 + 2 * w, 21 + 2 * w] (w_X7_copyFrom G (q_this_words_E w) (q_this_words_E_sort w) (q_a1_words_E w) (q_a1_words_E_sort w) 4 4 v.1 v.2 (f_a1_words_E_sort w) (f_a1_words_E_size w)) = (w_X1_copyFrom G q_this q_this_words q_this_words_E q_this_words_E_sort q_a1 q_a1_words q_a1_words_E q_a1_words_E_sort (va_up f_this_words_E_sort w v.1) (va_up f_this_words_E_size w v.2) f_this_size f_a1_words_E_sort f_a1_words_E_size f_a1_size)) rfl rfl rfl rfl rfl rfl rfl rfl _ hw23)) (fun v30 hg => ?_)
        refine j_iinc hX 2 (v := x2 + 1) (lv' := [(2, .int (x2 + 1)), (0, .ref q_this), (1, .ref q_a1)]) dX1_copyFrom_33 rfl (by rw [kc_1]) rfl rfl ?_
        refine j_goto hX 10 dX1_copyFrom_36 (by decide) ?_
        refine j_lv [1, 2, 0] rfl ?_
        exact ih10 _ _ _ _ hg
  have hg := hu
  unfold g_X1_copyFrom at hg
  refine j_aload_n hX 0 dX1_copyFrom_0 rfl rfl ?_
  refine j_aload_n hX 1 dX1_copyFrom_1 rfl rfl ?_
  refine j_get hX 18 1 rfl rfl hinX1 rfl hf_X1_size_20 rfl dX1_copyFrom_2 ?_
  refine j_put hX hW 0 1 rfl rfl hinX1 tyX1 tyX1_ok nmX1 rfl hf_X1_size_20 rfl rfl rfl rfl dX1_copyFrom_5 (ws' := (w_X1_copyFrom G q_this q_this_words q_this_words_E q_this_words_E_sort q_a1 q_a1_words q_a1_words_E q_a1_words_E_sort f_this_words_E_sort f_this_words_E_size f_a1_size f_a1_words_E_sort f_a1_words_E_size f_a1_size)) rfl ?_
  refine j_iconst hX dX1_copyFrom_8 kc_0 ?_
  refine j_istore_n hX (lv' := [(2, .int 0), (0, .ref q_this), (1, .ref q_a1)]) dX1_copyFrom_9 rfl rfl rfl ?_
  refine j_lv [1, 2, 0] rfl ?_
  exact L10 N _ _ _ _ hg
abbrev w_X2_copyFrom (G : jG) (q_this : Nat) (q_this_book : Nat) (q_this_book_words : Nat) (q_this_book_words_E : Nat → Nat) (q_this_book_words_E_sort : Nat → Nat) (q_this_minutes : Nat) (q_a1 : Nat) (q_a1_book : Nat) (q_a1_book_words : Nat) (q_a1_book_words_E : Nat → Nat) (q_a1_book_words_E_sort : Nat → Nat) (q_a1_minutes : Nat) (v_this_minutesTold : Value) (v_a1_minutesTold : Value) (f_this_book_words_E_sort : (Nat → Nat → Int32)) (f_this_book_words_E_size : (Nat → Int32)) (f_this_book_size : Int32) (f_this_places : Int32) (f_this_sorts : Int32) (f_this_hour : Int32) (f_this_law : Int32) (f_this_minutes : (Nat → Int32)) (f_a1_book_words_E_sort : (Nat → Nat → Int32)) (f_a1_book_words_E_size : (Nat → Int32)) (f_a1_book_size : Int32) (f_a1_places : Int32) (f_a1_sorts : Int32) (f_a1_hour : Int32) (f_a1_law : Int32) (f_a1_minutes : (Nat → Int32)) : va_W := [oC q_this 2 [.ref q_this_book, .int f_this_places, .int f_this_sorts, .int f_this_hour, .int f_this_law, v_this_minutesTold, .ref q_this_minutes], oC q_this_book 1 [.ref q_this_book_words, .int f_this_book_size], aQ (jcSortRow G) q_this_book_words 8 (fun j => some (q_this_book_words_E j)), oC (q_this_book_words_E 0) 7 [.ref (q_this_book_words_E_sort 0), .int (f_this_book_words_E_size 0)], aI G (q_this_book_words_E_sort 0) 4 (f_this_book_words_E_sort 0), oC (q_this_book_words_E 1) 7 [.ref (q_this_book_words_E_sort 1), .int (f_this_book_words_E_size 1)], aI G (q_this_book_words_E_sort 1) 4 (f_this_book_words_E_sort 1), oC (q_this_book_words_E 2) 7 [.ref (q_this_book_words_E_sort 2), .int (f_this_book_words_E_size 2)], aI G (q_this_book_words_E_sort 2) 4 (f_this_book_words_E_sort 2), oC (q_this_book_words_E 3) 7 [.ref (q_this_book_words_E_sort 3), .int (f_this_book_words_E_size 3)], aI G (q_this_book_words_E_sort 3) 4 (f_this_book_words_E_sort 3), oC (q_this_book_words_E 4) 7 [.ref (q_this_book_words_E_sort 4), .int (f_this_book_words_E_size 4)], aI G (q_this_book_words_E_sort 4) 4 (f_this_book_words_E_sort 4), oC (q_this_book_words_E 5) 7 [.ref (q_this_book_words_E_sort 5), .int (f_this_book_words_E_size 5)], aI G (q_this_book_words_E_sort 5) 4 (f_this_book_words_E_sort 5), oC (q_this_book_words_E 6) 7 [.ref (q_this_book_words_E_sort 6), .int (f_this_book_words_E_size 6)], aI G (q_this_book_words_E_sort 6) 4 (f_this_book_words_E_sort 6), oC (q_this_book_words_E 7) 7 [.ref (q_this_book_words_E_sort 7), .int (f_this_book_words_E_size 7)], aI G (q_this_book_words_E_sort 7) 4 (f_this_book_words_E_sort 7), aI G q_this_minutes 25 f_this_minutes, oC q_a1 2 [.ref q_a1_book, .int f_a1_places, .int f_a1_sorts, .int f_a1_hour, .int f_a1_law, v_a1_minutesTold, .ref q_a1_minutes], oC q_a1_book 1 [.ref q_a1_book_words, .int f_a1_book_size], aQ (jcSortRow G) q_a1_book_words 8 (fun j => some (q_a1_book_words_E j)), oC (q_a1_book_words_E 0) 7 [.ref (q_a1_book_words_E_sort 0), .int (f_a1_book_words_E_size 0)], aI G (q_a1_book_words_E_sort 0) 4 (f_a1_book_words_E_sort 0), oC (q_a1_book_words_E 1) 7 [.ref (q_a1_book_words_E_sort 1), .int (f_a1_book_words_E_size 1)], aI G (q_a1_book_words_E_sort 1) 4 (f_a1_book_words_E_sort 1), oC (q_a1_book_words_E 2) 7 [.ref (q_a1_book_words_E_sort 2), .int (f_a1_book_words_E_size 2)], aI G (q_a1_book_words_E_sort 2) 4 (f_a1_book_words_E_sort 2), oC (q_a1_book_words_E 3) 7 [.ref (q_a1_book_words_E_sort 3), .int (f_a1_book_words_E_size 3)], aI G (q_a1_book_words_E_sort 3) 4 (f_a1_book_words_E_sort 3), oC (q_a1_book_words_E 4) 7 [.ref (q_a1_book_words_E_sort 4), .int (f_a1_book_words_E_size 4)], aI G (q_a1_book_words_E_sort 4) 4 (f_a1_book_words_E_sort 4), oC (q_a1_book_words_E 5) 7 [.ref (q_a1_book_words_E_sort 5), .int (f_a1_book_words_E_size 5)], aI G (q_a1_book_words_E_sort 5) 4 (f_a1_book_words_E_sort 5), oC (q_a1_book_words_E 6) 7 [.ref (q_a1_book_words_E_sort 6), .int (f_a1_book_words_E_size 6)], aI G (q_a1_book_words_E_sort 6) 4 (f_a1_book_words_E_sort 6), oC (q_a1_book_words_E 7) 7 [.ref (q_a1_book_words_E_sort 7), .int (f_a1_book_words_E_size 7)], aI G (q_a1_book_words_E_sort 7) 4 (f_a1_book_words_E_sort 7), aI G q_a1_minutes 25 f_a1_minutes]
def g_X2_copyFrom_L45 (N : Nat) (f_a1_book_words_E_sort : (Nat → Nat → Int32)) (f_a1_book_words_E_size : (Nat → Int32)) (f_a1_book_size : Int32) (f_a1_places : Int32) (f_a1_sorts : Int32) (f_a1_hour : Int32) (f_a1_law : Int32) (f_a1_minutes : (Nat → Int32)) : Nat → (Nat → Nat → Int32) → (Nat → Int32) → Int32 → Int32 → Int32 → Int32 → Int32 → (Nat → Int32) → Int32 → Option ((Nat → Nat → Int32) × (Nat → Int32) × Int32 × Int32 × Int32 × Int32 × Int32 × (Nat → Int32))
  | 0, _, _, _, _, _, _, _, _, _ => none
  | fu + 1, f_this_book_words_E_sort, f_this_book_words_E_size, f_this_book_size, f_this_places, f_this_sorts, f_this_hour, f_this_law, f_this_minutes, x2 => if (nI 25) ≤ x2 then some (f_this_book_words_E_sort, f_this_book_words_E_size, f_this_book_size, f_this_places, f_this_sorts, f_this_hour, f_this_law, f_this_minutes) else gi x2 25 (gi x2 25 (g_X2_copyFrom_L45 N f_a1_book_words_E_sort f_a1_book_words_E_size f_a1_book_size f_a1_places f_a1_sorts f_a1_hour f_a1_law f_a1_minutes fu f_this_book_words_E_sort f_this_book_words_E_size f_this_book_size f_this_places f_this_sorts f_this_hour f_this_law (upd f_this_minutes x2.toNatClampNeg (f_a1_minutes x2.toNatClampNeg)) (x2 + 1)))
def g_X2_copyFrom (N : Nat) (f_a1_book_words_E_sort : (Nat → Nat → Int32)) (f_a1_book_words_E_size : (Nat → Int32)) (f_a1_book_size : Int32) (f_a1_places : Int32) (f_a1_sorts : Int32) (f_a1_hour : Int32) (f_a1_law : Int32) (f_a1_minutes : (Nat → Int32)) (f_this_book_words_E_sort : (Nat → Nat → Int32)) (f_this_book_words_E_size : (Nat → Int32)) (f_this_book_size : Int32) (f_this_places : Int32) (f_this_sorts : Int32) (f_this_hour : Int32) (f_this_law : Int32) (f_this_minutes : (Nat → Int32)) : Option ((Nat → Nat → Int32) × (Nat → Int32) × Int32 × Int32 × Int32 × Int32 × Int32 × (Nat → Int32)) := (g_X1_copyFrom N f_a1_book_words_E_sort f_a1_book_words_E_size f_a1_book_size f_this_book_words_E_sort f_this_book_words_E_size f_this_book_size).bind fun v8 => g_X2_copyFrom_L45 N f_a1_book_words_E_sort f_a1_book_words_E_size f_a1_book_size f_a1_places f_a1_sorts f_a1_hour f_a1_law f_a1_minutes N v8.1 v8.2.1 v8.2.2 f_a1_places f_a1_sorts f_a1_hour f_a1_law f_this_minutes 0
set_option maxRecDepth 100000 in
theorem ax_X2_copyFrom_8 (c0 c1 c2 c3 c4 c5 c6 c7 c8 c9 c10 c11 c12 c13 c14 c15 c16 c17 c18 c19 c20 c21 c22 c23 c24 c25 c26 c27 c28 c29 c30 c31 c32 c33 c34 c35 c36 c37 c38 c39 d0 d1 d2 d3 d4 d5 d6 d7 d8 d9 d10 d11 d12 d13 d14 d15 d16 d17 d18 d19 d20 d21 d22 d23 d24 d25 d26 d27 d28 d29 d30 d31 d32 d33 d34 d35 : Nat × va_E) : [1, 2, 3, 4, 5, 6, 7, 8, 9, 10, 11, 12, 13, 14, 15, 16, 17, 18, 21, 22, 23, 24, 25, 26, 27, 28, 29, 30, 31, 32, 33, 34, 35, 36, 37, 38].map (fun i => ([c0, c1, c2, c3, c4, c5, c6, c7, c8, c9, c10, c11, c12, c13, c14, c15, c16, c17, c18, c19, c20, c21, c22, c23, c24, c25, c26, c27, c28, c29, c30, c31, c32, c33, c34, c35, c36, c37, c38, c39] : va_W)[i]?) = List.map some ([c1, c2, c3, c4, c5, c6, c7, c8, c9, c10, c11, c12, c13, c14, c15, c16, c17, c18, c21, c22, c23, c24, c25, c26, c27, c28, c29, c30, c31, c32, c33, c34, c35, c36, c37, c38] : va_W) ∧ ([c0, d0, d1, d2, d3, d4, d5, d6, d7, d8, d9, d10, d11, d12, d13, d14, d15, d16, d17, c19, c20, d18, d19, d20, d21, d22, d23, d24, d25, d26, d27, d28, d29, d30, d31, d32, d33, d34, d35, c39] : va_W).length = 40 ∧ [1, 2, 3, 4, 5, 6, 7, 8, 9, 10, 11, 12, 13, 14, 15, 16, 17, 18, 21, 22, 23, 24, 25, 26, 27, 28, 29, 30, 31, 32, 33, 34, 35, 36, 37, 38].map (fun i => ([c0, d0, d1, d2, d3, d4, d5, d6, d7, d8, d9, d10, d11, d12, d13, d14, d15, d16, d17, c19, c20, d18, d19, d20, d21, d22, d23, d24, d25, d26, d27, d28, d29, d30, d31, d32, d33, d34, d35, c39] : va_W)[i]?) = List.map some ([d0, d1, d2, d3, d4, d5, d6, d7, d8, d9, d10, d11, d12, d13, d14, d15, d16, d17, d18, d19, d20, d21, d22, d23, d24, d25, d26, d27, d28, d29, d30, d31, d32, d33, d34, d35] : va_W) ∧ ([0, 19, 20, 39] : List Nat).map (fun i => ([c0, d0, d1, d2, d3, d4, d5, d6, d7, d8, d9, d10, d11, d12, d13, d14, d15, d16, d17, c19, c20, d18, d19, d20, d21, d22, d23, d24, d25, d26, d27, d28, d29, d30, d31, d32, d33, d34, d35, c39] : va_W)[i]?) = ([0, 19, 20, 39] : List Nat).map (fun i => ([c0, c1, c2, c3, c4, c5, c6, c7, c8, c9, c10, c11, c12, c13, c14, c15, c16, c17, c18, c19, c20, c21, c22, c23, c24, c25, c26, c27, c28, c29, c30, c31, c32, c33, c34, c35, c36, c37, c38, c39] : va_W)[i]?) := ⟨rfl, rfl, rfl, rfl⟩
set_option maxRecDepth 100000 in
theorem ax_X2_copyFrom_8c (c0 c1 c2 c3 c4 c5 c6 c7 c8 c9 c10 c11 c12 c13 c14 c15 c16 c17 c18 c19 c20 c21 c22 c23 c24 c25 c26 c27 c28 c29 c30 c31 c32 c33 c34 c35 c36 c37 c38 c39 : Nat × va_E) : [1, 2, 3, 4, 5, 6, 7, 8, 9, 10, 11, 12, 13, 14, 15, 16, 17, 18, 21, 22, 23, 24, 25, 26, 27, 28, 29, 30, 31, 32, 33, 34, 35, 36, 37, 38].map (fun i => ([c0, c1, c2, c3, c4, c5, c6, c7, c8, c9, c10, c11, c12, c13, c14, c15, c16, c17, c18, c19, c20, c21, c22, c23, c24, c25, c26, c27, c28, c29, c30, c31, c32, c33, c34, c35, c36, c37, c38, c39] : va_W)[i]?) = List.map some ([c1, c2, c3, c4, c5, c6, c7, c8, c9, c10, c11, c12, c13, c14, c15, c16, c17, c18, c21, c22, c23, c24, c25, c26, c27, c28, c29, c30, c31, c32, c33, c34, c35, c36, c37, c38] : va_W) := rfl
set_option maxHeartbeats 4000000 in
set_option maxRecDepth 100000 in
theorem c_X2_copyFrom (l : Launch) (G : jG) (N : Nat) (q_this : Nat) (q_this_book : Nat) (q_this_book_words : Nat) (q_this_book_words_E : Nat → Nat) (q_this_book_words_E_sort : Nat → Nat) (q_this_minutes : Nat) (q_a1 : Nat) (q_a1_book : Nat) (q_a1_book_words : Nat) (q_a1_book_words_E : Nat → Nat) (q_a1_book_words_E_sort : Nat → Nat) (q_a1_minutes : Nat) (v_this_minutesTold : Value) (v_a1_minutesTold : Value) (f_this_book_words_E_sort : (Nat → Nat → Int32)) (f_this_book_words_E_size : (Nat → Int32)) (f_this_book_size : Int32) (f_this_places : Int32) (f_this_sorts : Int32) (f_this_hour : Int32) (f_this_law : Int32) (f_this_minutes : (Nat → Int32)) (f_a1_book_words_E_sort : (Nat → Nat → Int32)) (f_a1_book_words_E_size : (Nat → Int32)) (f_a1_book_size : Int32) (f_a1_places : Int32) (f_a1_sorts : Int32) (f_a1_hour : Int32) (f_a1_law : Int32) (f_a1_minutes : (Nat → Int32)) (u : (Nat → Nat → Int32) × (Nat → Int32) × Int32 × Int32 × Int32 × Int32 × Int32 × (Nat → Int32)) (hu : g_X2_copyFrom N f_a1_book_words_E_sort f_a1_book_words_E_size f_a1_book_size f_a1_places f_a1_sorts f_a1_hour f_a1_law f_a1_minutes f_this_book_words_E_sort f_this_book_words_E_size f_this_book_size f_this_places f_this_sorts f_this_hour f_this_law f_this_minutes = some u) : MetRV l G yX2_copyFrom wsX2_copyFrom ({ frames := 3, cells := 0, slots := 0, locals := 58 } : Room) [.ref q_this, .ref q_a1] (w_X2_copyFrom G q_this q_this_book q_this_book_words q_this_book_words_E q_this_book_words_E_sort q_this_minutes q_a1 q_a1_book q_a1_book_words q_a1_book_words_E q_a1_book_words_E_sort q_a1_minutes v_this_minutesTold v_a1_minutesTold f_this_book_words_E_sort f_this_book_words_E_size f_this_book_size f_this_places f_this_sorts f_this_hour f_this_law f_this_minutes f_a1_book_words_E_sort f_a1_book_words_E_size f_a1_book_size f_a1_places f_a1_sorts f_a1_hour f_a1_law f_a1_minutes) (w_X2_copyFrom G q_this q_this_book q_this_book_words q_this_book_words_E q_this_book_words_E_sort q_this_minutes q_a1 q_a1_book q_a1_book_words q_a1_book_words_E q_a1_book_words_E_sort q_a1_minutes v_this_minutesTold v_a1_minutesTold u.1 u.2.1 u.2.2.1 u.2.2.2.1 u.2.2.2.2.1 u.2.2.2.2.2.1 u.2.2.2.2.2.2.1 u.2.2.2.2.2.2.2 f_a1_book_words_E_sort f_a1_book_words_E_size f_a1_book_size f_a1_places f_a1_sorts f_a1_hour f_a1_law f_a1_minutes) := by
  refine met_rwv (cc := cX2_copyFrom) (maxL := 3) (lv0 := [(0, .ref q_this), (1, .ref q_a1)]) (by decide) rfl rfl rfl rfl (fun X hX hW hret => ?_)
  have hinX2 : ∀ w ∈ u_ws RX2 TX2 7, w ∈ wsX2_copyFrom := by decide +kernel
  have hf_X2_book_12 : Cond.fieldLink RX2 12 (TX2 0).1 (TX2 0).2.1 (TX2 0).2.2.1 ∈ wsX2_copyFrom := by decide +kernel
  have hf_X2_hour_35 : Cond.fieldLink RX2 35 (TX2 3).1 (TX2 3).2.1 (TX2 3).2.2.1 ∈ wsX2_copyFrom := by decide +kernel
  have hf_X2_law_38 : Cond.fieldLink RX2 38 (TX2 4).1 (TX2 4).2.1 (TX2 4).2.2.1 ∈ wsX2_copyFrom := by decide +kernel
  have hf_X2_minutes_18 : Cond.fieldLink RX2 18 (TX2 6).1 (TX2 6).2.1 (TX2 6).2.2.1 ∈ wsX2_copyFrom := by decide +kernel
  have hf_X2_places_29 : Cond.fieldLink RX2 29 (TX2 1).1 (TX2 1).2.1 (TX2 1).2.2.1 ∈ wsX2_copyFrom := by decide +kernel
  have hf_X2_sorts_32 : Cond.fieldLink RX2 32 (TX2 2).1 (TX2 2).2.1 (TX2 2).2.2.1 ∈ wsX2_copyFrom := by decide +kernel
  have L45 : ∀ (fu45 : Nat), ∀ (f_this_book_words_E_sort : (Nat → Nat → Int32)) (f_this_book_words_E_size : (Nat → Int32)) (f_this_book_size : Int32) (f_this_places : Int32) (f_this_sorts : Int32) (f_this_hour : Int32) (f_this_law : Int32) (f_this_minutes : (Nat → Int32)) (x2 : Int32), g_X2_copyFrom_L45 N f_a1_book_words_E_sort f_a1_book_words_E_size f_a1_book_size f_a1_places f_a1_sorts f_a1_hour f_a1_law f_a1_minutes fu45 f_this_book_words_E_sort f_this_book_words_E_size f_this_book_size f_this_places f_this_sorts f_this_hour f_this_law f_this_minutes x2 = some u → J X 0 0 (w_X2_copyFrom G q_this q_this_book q_this_book_words q_this_book_words_E q_this_book_words_E_sort q_this_minutes q_a1 q_a1_book q_a1_book_words q_a1_book_words_E q_a1_book_words_E_sort q_a1_minutes v_this_minutesTold v_a1_minutesTold f_this_book_words_E_sort f_this_book_words_E_size f_this_book_size f_this_places f_this_sorts f_this_hour f_this_law f_this_minutes f_a1_book_words_E_sort f_a1_book_words_E_size f_a1_book_size f_a1_places f_a1_sorts f_a1_hour f_a1_law f_a1_minutes) 45 [(0, .ref q_this), (1, .ref q_a1), (2, .int x2)] [] := by
    intro fu45
    induction fu45 with
    | zero => intro f_this_book_words_E_sort f_this_book_words_E_size f_this_book_size f_this_places f_this_sorts f_this_hour f_this_law f_this_minutes x2 hg; exact nomatch hg
    | succ fu45 ih45 =>
      intro f_this_book_words_E_sort f_this_book_words_E_size f_this_book_size f_this_places f_this_sorts f_this_hour f_this_law f_this_minutes x2 hg
      unfold g_X2_copyFrom_L45 at hg
      refine j_iload_n hX 2 dX2_copyFrom_45 rfl rfl ?_
      refine j_aload_n hX 0 dX2_copyFrom_46 rfl rfl ?_
      refine j_get hX 0 6 rfl rfl hinX2 rfl hf_X2_minutes_18 rfl dX2_copyFrom_47 ?_
      refine j_alen hX 19 rfl dX2_copyFrom_50 ?_
      refine j_icmp_ge hX 72 hg dX2_copyFrom_51 (by decide) (fun hg => ?_) (fun hg => ?_)
      · cases hg
        exact hret _ _ dX2_copyFrom_72
      · refine j_aload_n hX 0 dX2_copyFrom_54 rfl rfl ?_
        refine j_get hX 0 6 rfl rfl hinX2 rfl hf_X2_minutes_18 rfl dX2_copyFrom_55 ?_
        refine j_iload_n hX 2 dX2_copyFrom_58 rfl rfl ?_
        refine j_aload_n hX 1 dX2_copyFrom_59 rfl rfl ?_
        refine j_get hX 20 6 rfl rfl hinX2 rfl hf_X2_minutes_18 rfl dX2_copyFrom_60 ?_
        refine j_iload_n hX 2 dX2_copyFrom_63 rfl rfl ?_
        refine j_iald hX 39 rfl hg dX2_copyFrom_64 (fun hg => ?_)
        refine j_iast hX hW 19 rfl hg dX2_copyFrom_65 (ws' := (w_X2_copyFrom G q_this q_this_book q_this_book_words q_this_book_words_E q_this_book_words_E_sort q_this_minutes q_a1 q_a1_book q_a1_book_words q_a1_book_words_E q_a1_book_words_E_sort q_a1_minutes v_this_minutesTold v_a1_minutesTold f_this_book_words_E_sort f_this_book_words_E_size f_this_book_size f_this_places f_this_sorts f_this_hour f_this_law (upd f_this_minutes x2.toNatClampNeg (f_a1_minutes x2.toNatClampNeg)) f_a1_book_words_E_sort f_a1_book_words_E_size f_a1_book_size f_a1_places f_a1_sorts f_a1_hour f_a1_law f_a1_minutes)) rfl (fun hg => ?_)
        refine j_iinc hX 2 (v := x2 + 1) (lv' := [(2, .int (x2 + 1)), (0, .ref q_this), (1, .ref q_a1)]) dX2_copyFrom_66 rfl (by rw [kc_1]) rfl rfl ?_
        refine j_goto hX 45 dX2_copyFrom_69 (by decide) ?_
        refine j_lv [1, 2, 0] rfl ?_
        exact ih45 _ _ _ _ _ _ _ _ _ hg
  have hg := hu
  unfold g_X2_copyFrom at hg
  refine j_aload_n hX 0 dX2_copyFrom_0 rfl rfl ?_
  refine j_get hX 0 0 rfl rfl hinX2 rfl hf_X2_book_12 rfl dX2_copyFrom_1 ?_
  refine j_aload_n hX 1 dX2_copyFrom_4 rfl rfl ?_
  refine j_get hX 20 0 rfl rfl hinX2 rfl hf_X2_book_12 rfl dX2_copyFrom_5 ?_
  refine j_vRV hX hW (w1 := fun v => (w_X1_copyFrom G q_this_book q_this_book_words q_this_book_words_E q_this_book_words_E_sort q_a1_book q_a1_book_words q_a1_book_words_E q_a1_book_words_E_sort v.1 v.2.1 v.2.2 f_a1_book_words_E_sort f_a1_book_words_E_size f_a1_book_size)) (ws' := fun v => (w_X2_copyFrom G q_this q_this_book q_this_book_words q_this_book_words_E q_this_book_words_E_sort q_this_minutes q_a1 q_a1_book q_a1_book_words q_a1_book_words_E q_a1_book_words_E_sort q_a1_minutes v_this_minutesTold v_a1_minutesTold v.1 v.2.1 v.2.2 f_this_places f_this_sorts f_this_hour f_this_law f_this_minutes f_a1_book_words_E_sort f_a1_book_words_E_size f_a1_book_size f_a1_places f_a1_sorts f_a1_hour f_a1_law f_a1_minutes)) [.ref q_a1_book] hg (fun v hv => c_X1_copyFrom l G N q_this_book q_this_book_words q_this_book_words_E q_this_book_words_E_sort q_a1_book q_a1_book_words q_a1_book_words_E q_a1_book_words_E_sort f_this_book_words_E_sort f_this_book_words_E_size f_this_book_size f_a1_book_words_E_sort f_a1_book_words_E_size f_a1_book_size v hv) gX2_copyFrom_X1_copyFrom rfl ⟨rfl, rfl⟩ ⟨rfl, by decide, by decide, rfl⟩ rfl rfl [1, 2, 3, 4, 5, 6, 7, 8, 9, 10, 11, 12, 13, 14, 15, 16, 17, 18, 21, 22, 23, 24, 25, 26, 27, 28, 29, 30, 31, 32, 33, 34, 35, 36, 37, 38] (ax_X2_copyFrom_8c _ _ _ _ _ _ _ _ _ _ _ _ _ _ _ _ _ _ _ _ _ _ _ _ _ _ _ _ _ _ _ _ _ _ _ _ _ _ _ _) (by decide +kernel) rfl rfl dX2_copyFrom_8 rfl rfl ⟨Nat.zero_le _, Nat.zero_le _⟩ (fun _ => jn_ax [1, 2, 3, 4, 5, 6, 7, 8, 9, 10, 11, 12, 13, 14, 15, 16, 17, 18, 21, 22, 23, 24, 25, 26, 27, 28, 29, 30, 31, 32, 33, 34, 35, 36, 37, 38] ([0, 19, 20, 39] : List Nat) 40 (ax_X2_copyFrom_8 _ _ _ _ _ _ _ _ _ _ _ _ _ _ _ _ _ _ _ _ _ _ _ _ _ _ _ _ _ _ _ _ _ _ _ _ _ _ _ _ _ _ _ _ _ _ _ _ _ _ _ _ _ _ _ _ _ _ _ _ _ _ _ _ _ _ _ _ _ _ _ _ _ _ _ _) rfl (by decide +kernel)) (fun v8 hg => ?_)
  refine j_aload_n hX 0 dX2_copyFrom_11 rfl rfl ?_
  refine j_aload_n hX 1 dX2_copyFrom_12 rfl rfl ?_
  refine j_get hX 20 1 rfl rfl hinX2 rfl hf_X2_places_29 rfl dX2_copyFrom_13 ?_
  refine j_put hX hW 0 1 rfl rfl hinX2 tyX2 tyX2_ok nmX2 rfl hf_X2_places_29 rfl rfl rfl rfl dX2_copyFrom_16 (ws' := (w_X2_copyFrom G q_this q_this_book q_this_book_words q_this_book_words_E q_this_book_words_E_sort q_this_minutes q_a1 q_a1_book q_a1_book_words q_a1_book_words_E q_a1_book_words_E_sort q_a1_minutes v_this_minutesTold v_a1_minutesTold v8.1 v8.2.1 v8.2.2 f_a1_places f_this_sorts f_this_hour f_this_law f_this_minutes f_a1_book_words_E_sort f_a1_book_words_E_size f_a1_book_size f_a1_places f_a1_sorts f_a1_hour f_a1_law f_a1_minutes)) rfl ?_
  refine j_aload_n hX 0 dX2_copyFrom_19 rfl rfl ?_
  refine j_aload_n hX 1 dX2_copyFrom_20 rfl rfl ?_
  refine j_get hX 20 2 rfl rfl hinX2 rfl hf_X2_sorts_32 rfl dX2_copyFrom_21 ?_
  refine j_put hX hW 0 2 rfl rfl hinX2 tyX2 tyX2_ok nmX2 rfl hf_X2_sorts_32 rfl rfl rfl rfl dX2_copyFrom_24 (ws' := (w_X2_copyFrom G q_this q_this_book q_this_book_words q_this_book_words_E q_this_book_words_E_sort q_this_minutes q_a1 q_a1_book q_a1_book_words q_a1_book_words_E q_a1_book_words_E_sort q_a1_minutes v_this_minutesTold v_a1_minutesTold v8.1 v8.2.1 v8.2.2 f_a1_places f_a1_sorts f_this_hour f_this_law f_this_minutes f_a1_book_words_E_sort f_a1_book_words_E_size f_a1_book_size f_a1_places f_a1_sorts f_a1_hour f_a1_law f_a1_minutes)) rfl ?_
  refine j_aload_n hX 0 dX2_copyFrom_27 rfl rfl ?_
  refine j_aload_n hX 1 dX2_copyFrom_28 rfl rfl ?_
  refine j_get hX 20 3 rfl rfl hinX2 rfl hf_X2_hour_35 rfl dX2_copyFrom_29 ?_
  refine j_put hX hW 0 3 rfl rfl hinX2 tyX2 tyX2_ok nmX2 rfl hf_X2_hour_35 rfl rfl rfl rfl dX2_copyFrom_32 (ws' := (w_X2_copyFrom G q_this q_this_book q_this_book_words q_this_book_words_E q_this_book_words_E_sort q_this_minutes q_a1 q_a1_book q_a1_book_words q_a1_book_words_E q_a1_book_words_E_sort q_a1_minutes v_this_minutesTold v_a1_minutesTold v8.1 v8.2.1 v8.2.2 f_a1_places f_a1_sorts f_a1_hour f_this_law f_this_minutes f_a1_book_words_E_sort f_a1_book_words_E_size f_a1_book_size f_a1_places f_a1_sorts f_a1_hour f_a1_law f_a1_minutes)) rfl ?_
  refine j_aload_n hX 0 dX2_copyFrom_35 rfl rfl ?_
  refine j_aload_n hX 1 dX2_copyFrom_36 rfl rfl ?_
  refine j_get hX 20 4 rfl rfl hinX2 rfl hf_X2_law_38 rfl dX2_copyFrom_37 ?_
  refine j_put hX hW 0 4 rfl rfl hinX2 tyX2 tyX2_ok nmX2 rfl hf_X2_law_38 rfl rfl rfl rfl dX2_copyFrom_40 (ws' := (w_X2_copyFrom G q_this q_this_book q_this_book_words q_this_book_words_E q_this_book_words_E_sort q_this_minutes q_a1 q_a1_book q_a1_book_words q_a1_book_words_E q_a1_book_words_E_sort q_a1_minutes v_this_minutesTold v_a1_minutesTold v8.1 v8.2.1 v8.2.2 f_a1_places f_a1_sorts f_a1_hour f_a1_law f_this_minutes f_a1_book_words_E_sort f_a1_book_words_E_size f_a1_book_size f_a1_places f_a1_sorts f_a1_hour f_a1_law f_a1_minutes)) rfl ?_
  refine j_iconst hX dX2_copyFrom_43 kc_0 ?_
  refine j_istore_n hX (lv' := [(2, .int 0), (0, .ref q_this), (1, .ref q_a1)]) dX2_copyFrom_44 rfl rfl rfl ?_
  refine j_lv [1, 2, 0] rfl ?_
  exact L45 N _ _ _ _ _ _ _ _ _ hg
abbrev w_X11_lay (G : jG) (q_this : Nat) (q_this_text : Nat) (q_this_text_bytes : Nat) (q_this_reader : Nat) (q_this_reader_hills : Nat) (q_this_reader_hills_book : Nat) (q_this_reader_hills_book_words : Nat) (q_this_reader_hills_book_words_E : Nat → Nat) (q_this_reader_hills_book_words_E_sort : Nat → Nat) (q_this_reader_hills_minutes : Nat) (q_this_reader_number : Nat) (q_this_reader_draft : Nat) (q_this_reader_draft_sort : Nat) (q_this_laid : Nat) (q_this_laid_book : Nat) (q_this_laid_book_words : Nat) (q_this_laid_book_words_E : Nat → Nat) (q_this_laid_book_words_E_sort : Nat → Nat) (q_this_laid_minutes : Nat) (q_this_beats : Nat) (q_this_steps : Nat) (q_this_told : Nat) (q_this_secrets : Nat) (v_this_kept : Value) (v_this_trials : Value) (v_this_queue : Value) (v_this_row : Value) (v_this_later : Value) (v_this_laid_minutesTold : Value) (v_this_beats_place : Value) (v_this_beats_sort : Value) (v_this_beats_minute : Value) (v_this_steps_step : Value) (v_this_told_sort : Value) (v_this_secrets_found : Value) (v_this_secrets_first : Value) (v_this_secrets_place : Value) (v_this_secrets_rows : Value) (v_this_secrets_queues : Value) (v_this_secrets_trial : Value) (f_this_text_bytes : (Nat → Int32)) (f_this_text_size : Int32) (f_this_reader_hills_book_words_E_sort : (Nat → Nat → Int32)) (f_this_reader_hills_book_words_E_size : (Nat → Int32)) (f_this_reader_hills_book_size : Int32) (f_this_reader_hills_places : Int32) (f_this_reader_hills_sorts : Int32) (f_this_reader_hills_hour : Int32) (f_this_reader_hills_law : Int32) (f_this_reader_hills_minutesTold : Int32) (f_this_reader_hills_minutes : (Nat → Int32)) (f_this_reader_draft_sort : (Nat → Int32)) (f_this_reader_draft_size : Int32) (f_this_reader_number : (Nat → Int32)) (f_this_reader_at : Int32) (f_this_laid_book_words_E_sort : (Nat → Nat → Int32)) (f_this_laid_book_words_E_size : (Nat → Int32)) (f_this_laid_book_size : Int32) (f_this_laid_places : Int32) (f_this_laid_sorts : Int32) (f_this_laid_hour : Int32) (f_this_laid_law : Int32) (f_this_laid_minutes : (Nat → Int32)) (f_this_beats_size : Int32) (f_this_beats_now : Int32) (f_this_steps_size : Int32) (f_this_told_size : Int32) (f_this_secrets_size : Int32) (f_this_keptSize : Int32) : va_W := [oC q_this 11 [.ref q_this_text, .ref q_this_reader, .ref q_this_laid, .ref q_this_beats, .ref q_this_steps, v_this_kept, .int f_this_keptSize, .ref q_this_told, .ref q_this_secrets, v_this_trials, v_this_queue, v_this_row, v_this_later], oC q_this_text 9 [.ref q_this_text_bytes, .int f_this_text_size], aB G q_this_text_bytes 300 f_this_text_bytes, oC q_this_reader 4 [.ref q_this_reader_hills, .ref q_this_text, .ref q_this_reader_number, .ref q_this_reader_draft, .int f_this_reader_at], oC q_this_reader_hills 2 [.ref q_this_reader_hills_book, .int f_this_reader_hills_places, .int f_this_reader_hills_sorts, .int f_this_reader_hills_hour, .int f_this_reader_hills_law, .int f_this_reader_hills_minutesTold, .ref q_this_reader_hills_minutes], oC q_this_reader_hills_book 1 [.ref q_this_reader_hills_book_words, .int f_this_reader_hills_book_size], aQ (jcSortRow G) q_this_reader_hills_book_words 8 (fun j => some (q_this_reader_hills_book_words_E j)), oC (q_this_reader_hills_book_words_E 0) 7 [.ref (q_this_reader_hills_book_words_E_sort 0), .int (f_this_reader_hills_book_words_E_size 0)], aI G (q_this_reader_hills_book_words_E_sort 0) 4 (f_this_reader_hills_book_words_E_sort 0), oC (q_this_reader_hills_book_words_E 1) 7 [.ref (q_this_reader_hills_book_words_E_sort 1), .int (f_this_reader_hills_book_words_E_size 1)], aI G (q_this_reader_hills_book_words_E_sort 1) 4 (f_this_reader_hills_book_words_E_sort 1), oC (q_this_reader_hills_book_words_E 2) 7 [.ref (q_this_reader_hills_book_words_E_sort 2), .int (f_this_reader_hills_book_words_E_size 2)], aI G (q_this_reader_hills_book_words_E_sort 2) 4 (f_this_reader_hills_book_words_E_sort 2), oC (q_this_reader_hills_book_words_E 3) 7 [.ref (q_this_reader_hills_book_words_E_sort 3), .int (f_this_reader_hills_book_words_E_size 3)], aI G (q_this_reader_hills_book_words_E_sort 3) 4 (f_this_reader_hills_book_words_E_sort 3), oC (q_this_reader_hills_book_words_E 4) 7 [.ref (q_this_reader_hills_book_words_E_sort 4), .int (f_this_reader_hills_book_words_E_size 4)], aI G (q_this_reader_hills_book_words_E_sort 4) 4 (f_this_reader_hills_book_words_E_sort 4), oC (q_this_reader_hills_book_words_E 5) 7 [.ref (q_this_reader_hills_book_words_E_sort 5), .int (f_this_reader_hills_book_words_E_size 5)], aI G (q_this_reader_hills_book_words_E_sort 5) 4 (f_this_reader_hills_book_words_E_sort 5), oC (q_this_reader_hills_book_words_E 6) 7 [.ref (q_this_reader_hills_book_words_E_sort 6), .int (f_this_reader_hills_book_words_E_size 6)], aI G (q_this_reader_hills_book_words_E_sort 6) 4 (f_this_reader_hills_book_words_E_sort 6), oC (q_this_reader_hills_book_words_E 7) 7 [.ref (q_this_reader_hills_book_words_E_sort 7), .int (f_this_reader_hills_book_words_E_size 7)], aI G (q_this_reader_hills_book_words_E_sort 7) 4 (f_this_reader_hills_book_words_E_sort 7), aI G q_this_reader_hills_minutes 25 f_this_reader_hills_minutes, aI G q_this_reader_number 3 f_this_reader_number, oC q_this_reader_draft 7 [.ref q_this_reader_draft_sort, .int f_this_reader_draft_size], aI G q_this_reader_draft_sort 4 f_this_reader_draft_sort, oC q_this_laid 2 [.ref q_this_laid_book, .int f_this_laid_places, .int f_this_laid_sorts, .int f_this_laid_hour, .int f_this_laid_law, v_this_laid_minutesTold, .ref q_this_laid_minutes], oC q_this_laid_book 1 [.ref q_this_laid_book_words, .int f_this_laid_book_size], aQ (jcSortRow G) q_this_laid_book_words 8 (fun j => some (q_this_laid_book_words_E j)), oC (q_this_laid_book_words_E 0) 7 [.ref (q_this_laid_book_words_E_sort 0), .int (f_this_laid_book_words_E_size 0)], aI G (q_this_laid_book_words_E_sort 0) 4 (f_this_laid_book_words_E_sort 0), oC (q_this_laid_book_words_E 1) 7 [.ref (q_this_laid_book_words_E_sort 1), .int (f_this_laid_book_words_E_size 1)], aI G (q_this_laid_book_words_E_sort 1) 4 (f_this_laid_book_words_E_sort 1), oC (q_this_laid_book_words_E 2) 7 [.ref (q_this_laid_book_words_E_sort 2), .int (f_this_laid_book_words_E_size 2)], aI G (q_this_laid_book_words_E_sort 2) 4 (f_this_laid_book_words_E_sort 2), oC (q_this_laid_book_words_E 3) 7 [.ref (q_this_laid_book_words_E_sort 3), .int (f_this_laid_book_words_E_size 3)], aI G (q_this_laid_book_words_E_sort 3) 4 (f_this_laid_book_words_E_sort 3), oC (q_this_laid_book_words_E 4) 7 [.ref (q_this_laid_book_words_E_sort 4), .int (f_this_laid_book_words_E_size 4)], aI G (q_this_laid_book_words_E_sort 4) 4 (f_this_laid_book_words_E_sort 4), oC (q_this_laid_book_words_E 5) 7 [.ref (q_this_laid_book_words_E_sort 5), .int (f_this_laid_book_words_E_size 5)], aI G (q_this_laid_book_words_E_sort 5) 4 (f_this_laid_book_words_E_sort 5), oC (q_this_laid_book_words_E 6) 7 [.ref (q_this_laid_book_words_E_sort 6), .int (f_this_laid_book_words_E_size 6)], aI G (q_this_laid_book_words_E_sort 6) 4 (f_this_laid_book_words_E_sort 6), oC (q_this_laid_book_words_E 7) 7 [.ref (q_this_laid_book_words_E_sort 7), .int (f_this_laid_book_words_E_size 7)], aI G (q_this_laid_book_words_E_sort 7) 4 (f_this_laid_book_words_E_sort 7), aI G q_this_laid_minutes 25 f_this_laid_minutes, oC q_this_beats 0 [v_this_beats_place, v_this_beats_sort, v_this_beats_minute, .int f_this_beats_size, .int f_this_beats_now], oC q_this_steps 8 [v_this_steps_step, .int f_this_steps_size], oC q_this_told 7 [v_this_told_sort, .int f_this_told_size], oC q_this_secrets 6 [.int f_this_secrets_size, v_this_secrets_found, v_this_secrets_first, .ref q_this_laid, .ref q_this_beats, v_this_secrets_place, v_this_secrets_rows, v_this_secrets_queues, v_this_secrets_trial]]
def g_X11_lay (N : Nat) (f_this_text_bytes : (Nat → Int32)) (f_this_text_size : Int32) (f_this_reader_hills_book_words_E_sort : (Nat → Nat → Int32)) (f_this_reader_hills_book_words_E_size : (Nat → Int32)) (f_this_reader_hills_book_size : Int32) (f_this_reader_hills_places : Int32) (f_this_reader_hills_sorts : Int32) (f_this_reader_hills_hour : Int32) (f_this_reader_hills_law : Int32) (f_this_reader_hills_minutesTold : Int32) (f_this_reader_hills_minutes : (Nat → Int32)) (f_this_reader_draft_sort : (Nat → Int32)) (f_this_reader_draft_size : Int32) (f_this_reader_number : (Nat → Int32)) (f_this_reader_at : Int32) (f_this_laid_book_words_E_sort : (Nat → Nat → Int32)) (f_this_laid_book_words_E_size : (Nat → Int32)) (f_this_laid_book_size : Int32) (f_this_laid_places : Int32) (f_this_laid_sorts : Int32) (f_this_laid_hour : Int32) (f_this_laid_law : Int32) (f_this_laid_minutes : (Nat → Int32)) (f_this_beats_size : Int32) (f_this_beats_now : Int32) (f_this_steps_size : Int32) (f_this_told_size : Int32) (f_this_secrets_size : Int32) (f_this_keptSize : Int32) : Option (Int32 × (Nat → Nat → Int32) × (Nat → Int32) × Int32 × Int32 × Int32 × Int32 × Int32 × Int32 × (Nat → Int32) × (Nat → Int32) × Int32 × (Nat → Int32) × Int32 × (Nat → Nat → Int32) × (Nat → Int32) × Int32 × Int32 × Int32 × Int32 × Int32 × (Nat → Int32) × Int32 × Int32 × Int32 × Int32 × Int32 × Int32) := (g_X4_firstFault N f_this_text_bytes f_this_text_size f_this_reader_hills_book_words_E_sort f_this_reader_hills_book_words_E_size f_this_reader_hills_book_size f_this_reader_hills_places f_this_reader_hills_sorts f_this_reader_hills_hour f_this_reader_hills_law f_this_reader_hills_minutesTold f_this_reader_hills_minutes f_this_reader_draft_sort f_this_reader_draft_size f_this_reader_number f_this_reader_at).bind fun v4 => if v4.1 = (-4) then (g_X2_copyFrom N v4.2.1 v4.2.2.1 v4.2.2.2.1 v4.2.2.2.2.1 v4.2.2.2.2.2.1 v4.2.2.2.2.2.2.1 v4.2.2.2.2.2.2.2.1 v4.2.2.2.2.2.2.2.2.2.1 f_this_laid_book_words_E_sort f_this_laid_book_words_E_size f_this_laid_book_size f_this_laid_places f_this_laid_sorts f_this_laid_hour f_this_laid_law f_this_laid_minutes).bind fun v26 => some (v26.2.2.2.1, v4.2.1, v4.2.2.1, v4.2.2.2.1, v4.2.2.2.2.1, v4.2.2.2.2.2.1, v4.2.2.2.2.2.2.1, v4.2.2.2.2.2.2.2.1, v4.2.2.2.2.2.2.2.2.1, v4.2.2.2.2.2.2.2.2.2.1, v4.2.2.2.2.2.2.2.2.2.2.1, v4.2.2.2.2.2.2.2.2.2.2.2.1, v4.2.2.2.2.2.2.2.2.2.2.2.2.1, v4.2.2.2.2.2.2.2.2.2.2.2.2.2, v26.1, v26.2.1, v26.2.2.1, v26.2.2.2.1, v26.2.2.2.2.1, v26.2.2.2.2.2.1, v26.2.2.2.2.2.2.1, v26.2.2.2.2.2.2.2, 0, 0, 0, 0, 0, 0) else some ((-2), v4.2.1, v4.2.2.1, v4.2.2.2.1, v4.2.2.2.2.1, v4.2.2.2.2.2.1, v4.2.2.2.2.2.2.1, v4.2.2.2.2.2.2.2.1, v4.2.2.2.2.2.2.2.2.1, v4.2.2.2.2.2.2.2.2.2.1, v4.2.2.2.2.2.2.2.2.2.2.1, v4.2.2.2.2.2.2.2.2.2.2.2.1, v4.2.2.2.2.2.2.2.2.2.2.2.2.1, v4.2.2.2.2.2.2.2.2.2.2.2.2.2, f_this_laid_book_words_E_sort, f_this_laid_book_words_E_size, f_this_laid_book_size, f_this_laid_places, f_this_laid_sorts, f_this_laid_hour, f_this_laid_law, f_this_laid_minutes, f_this_beats_size, f_this_beats_now, f_this_steps_size, f_this_told_size, f_this_secrets_size, f_this_keptSize)
set_option maxRecDepth 100000 in
theorem ax_X11_lay_4 (c0 c1 c2 c3 c4 c5 c6 c7 c8 c9 c10 c11 c12 c13 c14 c15 c16 c17 c18 c19 c20 c21 c22 c23 c24 c25 c26 c27 c28 c29 c30 c31 c32 c33 c34 c35 c36 c37 c38 c39 c40 c41 c42 c43 c44 c45 c46 c47 c48 c49 c50 d0 d1 d2 d3 d4 d5 d6 d7 d8 d9 d10 d11 d12 d13 d14 d15 d16 d17 d18 d19 d20 d21 d22 d23 d24 d25 : Nat × va_E) : [3, 4, 5, 6, 7, 8, 9, 10, 11, 12, 13, 14, 15, 16, 17, 18, 19, 20, 21, 22, 23, 1, 2, 24, 25, 26].map (fun i => ([c0, c1, c2, c3, c4, c5, c6, c7, c8, c9, c10, c11, c12, c13, c14, c15, c16, c17, c18, c19, c20, c21, c22, c23, c24, c25, c26, c27, c28, c29, c30, c31, c32, c33, c34, c35, c36, c37, c38, c39, c40, c41, c42, c43, c44, c45, c46, c47, c48, c49, c50] : va_W)[i]?) = List.map some ([c3, c4, c5, c6, c7, c8, c9, c10, c11, c12, c13, c14, c15, c16, c17, c18, c19, c20, c21, c22, c23, c1, c2, c24, c25, c26] : va_W) ∧ ([c0, d21, d22, d0, d1, d2, d3, d4, d5, d6, d7, d8, d9, d10, d11, d12, d13, d14, d15, d16, d17, d18, d19, d20, d23, d24, d25, c27, c28, c29, c30, c31, c32, c33, c34, c35, c36, c37, c38, c39, c40, c41, c42, c43, c44, c45, c46, c47, c48, c49, c50] : va_W).length = 51 ∧ [3, 4, 5, 6, 7, 8, 9, 10, 11, 12, 13, 14, 15, 16, 17, 18, 19, 20, 21, 22, 23, 1, 2, 24, 25, 26].map (fun i => ([c0, d21, d22, d0, d1, d2, d3, d4, d5, d6, d7, d8, d9, d10, d11, d12, d13, d14, d15, d16, d17, d18, d19, d20, d23, d24, d25, c27, c28, c29, c30, c31, c32, c33, c34, c35, c36, c37, c38, c39, c40, c41, c42, c43, c44, c45, c46, c47, c48, c49, c50] : va_W)[i]?) = List.map some ([d0, d1, d2, d3, d4, d5, d6, d7, d8, d9, d10, d11, d12, d13, d14, d15, d16, d17, d18, d19, d20, d21, d22, d23, d24, d25] : va_W) ∧ ([0, 27, 28, 29, 30, 31, 32, 33, 34, 35, 36, 37, 38, 39, 40, 41, 42, 43, 44, 45, 46, 47, 48, 49, 50] : List Nat).map (fun i => ([c0, d21, d22, d0, d1, d2, d3, d4, d5, d6, d7, d8, d9, d10, d11, d12, d13, d14, d15, d16, d17, d18, d19, d20, d23, d24, d25, c27, c28, c29, c30, c31, c32, c33, c34, c35, c36, c37, c38, c39, c40, c41, c42, c43, c44, c45, c46, c47, c48, c49, c50] : va_W)[i]?) = ([0, 27, 28, 29, 30, 31, 32, 33, 34, 35, 36, 37, 38, 39, 40, 41, 42, 43, 44, 45, 46, 47, 48, 49, 50] : List Nat).map (fun i => ([c0, c1, c2, c3, c4, c5, c6, c7, c8, c9, c10, c11, c12, c13, c14, c15, c16, c17, c18, c19, c20, c21, c22, c23, c24, c25, c26, c27, c28, c29, c30, c31, c32, c33, c34, c35, c36, c37, c38, c39, c40, c41, c42, c43, c44, c45, c46, c47, c48, c49, c50] : va_W)[i]?) := ⟨rfl, rfl, rfl, rfl⟩
set_option maxRecDepth 100000 in
theorem ax_X11_lay_4c (c0 c1 c2 c3 c4 c5 c6 c7 c8 c9 c10 c11 c12 c13 c14 c15 c16 c17 c18 c19 c20 c21 c22 c23 c24 c25 c26 c27 c28 c29 c30 c31 c32 c33 c34 c35 c36 c37 c38 c39 c40 c41 c42 c43 c44 c45 c46 c47 c48 c49 c50 : Nat × va_E) : [3, 4, 5, 6, 7, 8, 9, 10, 11, 12, 13, 14, 15, 16, 17, 18, 19, 20, 21, 22, 23, 1, 2, 24, 25, 26].map (fun i => ([c0, c1, c2, c3, c4, c5, c6, c7, c8, c9, c10, c11, c12, c13, c14, c15, c16, c17, c18, c19, c20, c21, c22, c23, c24, c25, c26, c27, c28, c29, c30, c31, c32, c33, c34, c35, c36, c37, c38, c39, c40, c41, c42, c43, c44, c45, c46, c47, c48, c49, c50] : va_W)[i]?) = List.map some ([c3, c4, c5, c6, c7, c8, c9, c10, c11, c12, c13, c14, c15, c16, c17, c18, c19, c20, c21, c22, c23, c1, c2, c24, c25, c26] : va_W) := rfl
set_option maxRecDepth 100000 in
theorem ax_X11_lay_26 (c0 c1 c2 c3 c4 c5 c6 c7 c8 c9 c10 c11 c12 c13 c14 c15 c16 c17 c18 c19 c20 c21 c22 c23 c24 c25 c26 c27 c28 c29 c30 c31 c32 c33 c34 c35 c36 c37 c38 c39 c40 c41 c42 c43 c44 c45 c46 c47 c48 c49 c50 d0 d1 d2 d3 d4 d5 d6 d7 d8 d9 d10 d11 d12 d13 d14 d15 d16 d17 d18 d19 d20 d21 d22 d23 d24 d25 d26 d27 d28 d29 d30 d31 d32 d33 d34 d35 d36 d37 d38 d39 : Nat × va_E) : [27, 28, 29, 30, 31, 32, 33, 34, 35, 36, 37, 38, 39, 40, 41, 42, 43, 44, 45, 46, 4, 5, 6, 7, 8, 9, 10, 11, 12, 13, 14, 15, 16, 17, 18, 19, 20, 21, 22, 23].map (fun i => ([c0, c1, c2, c3, c4, c5, c6, c7, c8, c9, c10, c11, c12, c13, c14, c15, c16, c17, c18, c19, c20, c21, c22, c23, c24, c25, c26, c27, c28, c29, c30, c31, c32, c33, c34, c35, c36, c37, c38, c39, c40, c41, c42, c43, c44, c45, c46, c47, c48, c49, c50] : va_W)[i]?) = List.map some ([c27, c28, c29, c30, c31, c32, c33, c34, c35, c36, c37, c38, c39, c40, c41, c42, c43, c44, c45, c46, c4, c5, c6, c7, c8, c9, c10, c11, c12, c13, c14, c15, c16, c17, c18, c19, c20, c21, c22, c23] : va_W) ∧ ([c0, c1, c2, c3, d20, d21, d22, d23, d24, d25, d26, d27, d28, d29, d30, d31, d32, d33, d34, d35, d36, d37, d38, d39, c24, c25, c26, d0, d1, d2, d3, d4, d5, d6, d7, d8, d9, d10, d11, d12, d13, d14, d15, d16, d17, d18, d19, c47, c48, c49, c50] : va_W).length = 51 ∧ [27, 28, 29, 30, 31, 32, 33, 34, 35, 36, 37, 38, 39, 40, 41, 42, 43, 44, 45, 46, 4, 5, 6, 7, 8, 9, 10, 11, 12, 13, 14, 15, 16, 17, 18, 19, 20, 21, 22, 23].map (fun i => ([c0, c1, c2, c3, d20, d21, d22, d23, d24, d25, d26, d27, d28, d29, d30, d31, d32, d33, d34, d35, d36, d37, d38, d39, c24, c25, c26, d0, d1, d2, d3, d4, d5, d6, d7, d8, d9, d10, d11, d12, d13, d14, d15, d16, d17, d18, d19, c47, c48, c49, c50] : va_W)[i]?) = List.map some ([d0, d1, d2, d3, d4, d5, d6, d7, d8, d9, d10, d11, d12, d13, d14, d15, d16, d17, d18, d19, d20, d21, d22, d23, d24, d25, d26, d27, d28, d29, d30, d31, d32, d33, d34, d35, d36, d37, d38, d39] : va_W) ∧ ([0, 1, 2, 3, 24, 25, 26, 47, 48, 49, 50] : List Nat).map (fun i => ([c0, c1, c2, c3, d20, d21, d22, d23, d24, d25, d26, d27, d28, d29, d30, d31, d32, d33, d34, d35, d36, d37, d38, d39, c24, c25, c26, d0, d1, d2, d3, d4, d5, d6, d7, d8, d9, d10, d11, d12, d13, d14, d15, d16, d17, d18, d19, c47, c48, c49, c50] : va_W)[i]?) = ([0, 1, 2, 3, 24, 25, 26, 47, 48, 49, 50] : List Nat).map (fun i => ([c0, c1, c2, c3, c4, c5, c6, c7, c8, c9, c10, c11, c12, c13, c14, c15, c16, c17, c18, c19, c20, c21, c22, c23, c24, c25, c26, c27, c28, c29, c30, c31, c32, c33, c34, c35, c36, c37, c38, c39, c40, c41, c42, c43, c44, c45, c46, c47, c48, c49, c50] : va_W)[i]?) := ⟨rfl, rfl, rfl, rfl⟩
set_option maxRecDepth 100000 in
theorem ax_X11_lay_26c (c0 c1 c2 c3 c4 c5 c6 c7 c8 c9 c10 c11 c12 c13 c14 c15 c16 c17 c18 c19 c20 c21 c22 c23 c24 c25 c26 c27 c28 c29 c30 c31 c32 c33 c34 c35 c36 c37 c38 c39 c40 c41 c42 c43 c44 c45 c46 c47 c48 c49 c50 : Nat × va_E) : [27, 28, 29, 30, 31, 32, 33, 34, 35, 36, 37, 38, 39, 40, 41, 42, 43, 44, 45, 46, 4, 5, 6, 7, 8, 9, 10, 11, 12, 13, 14, 15, 16, 17, 18, 19, 20, 21, 22, 23].map (fun i => ([c0, c1, c2, c3, c4, c5, c6, c7, c8, c9, c10, c11, c12, c13, c14, c15, c16, c17, c18, c19, c20, c21, c22, c23, c24, c25, c26, c27, c28, c29, c30, c31, c32, c33, c34, c35, c36, c37, c38, c39, c40, c41, c42, c43, c44, c45, c46, c47, c48, c49, c50] : va_W)[i]?) = List.map some ([c27, c28, c29, c30, c31, c32, c33, c34, c35, c36, c37, c38, c39, c40, c41, c42, c43, c44, c45, c46, c4, c5, c6, c7, c8, c9, c10, c11, c12, c13, c14, c15, c16, c17, c18, c19, c20, c21, c22, c23] : va_W) := rfl
set_option maxHeartbeats 4000000 in
set_option maxRecDepth 100000 in
theorem c_X11_lay (l : Launch) (G : jG) (N : Nat) (q_this : Nat) (q_this_text : Nat) (q_this_text_bytes : Nat) (q_this_reader : Nat) (q_this_reader_hills : Nat) (q_this_reader_hills_book : Nat) (q_this_reader_hills_book_words : Nat) (q_this_reader_hills_book_words_E : Nat → Nat) (q_this_reader_hills_book_words_E_sort : Nat → Nat) (q_this_reader_hills_minutes : Nat) (q_this_reader_number : Nat) (q_this_reader_draft : Nat) (q_this_reader_draft_sort : Nat) (q_this_laid : Nat) (q_this_laid_book : Nat) (q_this_laid_book_words : Nat) (q_this_laid_book_words_E : Nat → Nat) (q_this_laid_book_words_E_sort : Nat → Nat) (q_this_laid_minutes : Nat) (q_this_beats : Nat) (q_this_steps : Nat) (q_this_told : Nat) (q_this_secrets : Nat) (v_this_kept : Value) (v_this_trials : Value) (v_this_queue : Value) (v_this_row : Value) (v_this_later : Value) (v_this_laid_minutesTold : Value) (v_this_beats_place : Value) (v_this_beats_sort : Value) (v_this_beats_minute : Value) (v_this_steps_step : Value) (v_this_told_sort : Value) (v_this_secrets_found : Value) (v_this_secrets_first : Value) (v_this_secrets_place : Value) (v_this_secrets_rows : Value) (v_this_secrets_queues : Value) (v_this_secrets_trial : Value) (f_this_text_bytes : (Nat → Int32)) (f_this_text_size : Int32) (f_this_reader_hills_book_words_E_sort : (Nat → Nat → Int32)) (f_this_reader_hills_book_words_E_size : (Nat → Int32)) (f_this_reader_hills_book_size : Int32) (f_this_reader_hills_places : Int32) (f_this_reader_hills_sorts : Int32) (f_this_reader_hills_hour : Int32) (f_this_reader_hills_law : Int32) (f_this_reader_hills_minutesTold : Int32) (f_this_reader_hills_minutes : (Nat → Int32)) (f_this_reader_draft_sort : (Nat → Int32)) (f_this_reader_draft_size : Int32) (f_this_reader_number : (Nat → Int32)) (f_this_reader_at : Int32) (f_this_laid_book_words_E_sort : (Nat → Nat → Int32)) (f_this_laid_book_words_E_size : (Nat → Int32)) (f_this_laid_book_size : Int32) (f_this_laid_places : Int32) (f_this_laid_sorts : Int32) (f_this_laid_hour : Int32) (f_this_laid_law : Int32) (f_this_laid_minutes : (Nat → Int32)) (f_this_beats_size : Int32) (f_this_beats_now : Int32) (f_this_steps_size : Int32) (f_this_told_size : Int32) (f_this_secrets_size : Int32) (f_this_keptSize : Int32) (u : Int32 × (Nat → Nat → Int32) × (Nat → Int32) × Int32 × Int32 × Int32 × Int32 × Int32 × Int32 × (Nat → Int32) × (Nat → Int32) × Int32 × (Nat → Int32) × Int32 × (Nat → Nat → Int32) × (Nat → Int32) × Int32 × Int32 × Int32 × Int32 × Int32 × (Nat → Int32) × Int32 × Int32 × Int32 × Int32 × Int32 × Int32) (hu : g_X11_lay N f_this_text_bytes f_this_text_size f_this_reader_hills_book_words_E_sort f_this_reader_hills_book_words_E_size f_this_reader_hills_book_size f_this_reader_hills_places f_this_reader_hills_sorts f_this_reader_hills_hour f_this_reader_hills_law f_this_reader_hills_minutesTold f_this_reader_hills_minutes f_this_reader_draft_sort f_this_reader_draft_size f_this_reader_number f_this_reader_at f_this_laid_book_words_E_sort f_this_laid_book_words_E_size f_this_laid_book_size f_this_laid_places f_this_laid_sorts f_this_laid_hour f_this_laid_law f_this_laid_minutes f_this_beats_size f_this_beats_now f_this_steps_size f_this_told_size f_this_secrets_size f_this_keptSize = some u) : MetRW l G yX11_lay wsX11_lay ({ frames := 5, cells := 0, slots := 0, locals := 101 } : Room) [.ref q_this] (w_X11_lay G q_this q_this_text q_this_text_bytes q_this_reader q_this_reader_hills q_this_reader_hills_book q_this_reader_hills_book_words q_this_reader_hills_book_words_E q_this_reader_hills_book_words_E_sort q_this_reader_hills_minutes q_this_reader_number q_this_reader_draft q_this_reader_draft_sort q_this_laid q_this_laid_book q_this_laid_book_words q_this_laid_book_words_E q_this_laid_book_words_E_sort q_this_laid_minutes q_this_beats q_this_steps q_this_told q_this_secrets v_this_kept v_this_trials v_this_queue v_this_row v_this_later v_this_laid_minutesTold v_this_beats_place v_this_beats_sort v_this_beats_minute v_this_steps_step v_this_told_sort v_this_secrets_found v_this_secrets_first v_this_secrets_place v_this_secrets_rows v_this_secrets_queues v_this_secrets_trial f_this_text_bytes f_this_text_size f_this_reader_hills_book_words_E_sort f_this_reader_hills_book_words_E_size f_this_reader_hills_book_size f_this_reader_hills_places f_this_reader_hills_sorts f_this_reader_hills_hour f_this_reader_hills_law f_this_reader_hills_minutesTold f_this_reader_hills_minutes f_this_reader_draft_sort f_this_reader_draft_size f_this_reader_number f_this_reader_at f_this_laid_book_words_E_sort f_this_laid_book_words_E_size f_this_laid_book_size f_this_laid_places f_this_laid_sorts f_this_laid_hour f_this_laid_law f_this_laid_minutes f_this_beats_size f_this_beats_now f_this_steps_size f_this_told_size f_this_secrets_size f_this_keptSize) (w_X11_lay G q_this q_this_text q_this_text_bytes q_this_reader q_this_reader_hills q_this_reader_hills_book q_this_reader_hills_book_words q_this_reader_hills_book_words_E q_this_reader_hills_book_words_E_sort q_this_reader_hills_minutes q_this_reader_number q_this_reader_draft q_this_reader_draft_sort q_this_laid q_this_laid_book q_this_laid_book_words q_this_laid_book_words_E q_this_laid_book_words_E_sort q_this_laid_minutes q_this_beats q_this_steps q_this_told q_this_secrets v_this_kept v_this_trials v_this_queue v_this_row v_this_later v_this_laid_minutesTold v_this_beats_place v_this_beats_sort v_this_beats_minute v_this_steps_step v_this_told_sort v_this_secrets_found v_this_secrets_first v_this_secrets_place v_this_secrets_rows v_this_secrets_queues v_this_secrets_trial f_this_text_bytes f_this_text_size u.2.1 u.2.2.1 u.2.2.2.1 u.2.2.2.2.1 u.2.2.2.2.2.1 u.2.2.2.2.2.2.1 u.2.2.2.2.2.2.2.1 u.2.2.2.2.2.2.2.2.1 u.2.2.2.2.2.2.2.2.2.1 u.2.2.2.2.2.2.2.2.2.2.1 u.2.2.2.2.2.2.2.2.2.2.2.1 u.2.2.2.2.2.2.2.2.2.2.2.2.1 u.2.2.2.2.2.2.2.2.2.2.2.2.2.1 u.2.2.2.2.2.2.2.2.2.2.2.2.2.2.1 u.2.2.2.2.2.2.2.2.2.2.2.2.2.2.2.1 u.2.2.2.2.2.2.2.2.2.2.2.2.2.2.2.2.1 u.2.2.2.2.2.2.2.2.2.2.2.2.2.2.2.2.2.1 u.2.2.2.2.2.2.2.2.2.2.2.2.2.2.2.2.2.2.1 u.2.2.2.2.2.2.2.2.2.2.2.2.2.2.2.2.2.2.2.1 u.2.2.2.2.2.2.2.2.2.2.2.2.2.2.2.2.2.2.2.2.1 u.2.2.2.2.2.2.2.2.2.2.2.2.2.2.2.2.2.2.2.2.2.1 u.2.2.2.2.2.2.2.2.2.2.2.2.2.2.2.2.2.2.2.2.2.2.1 u.2.2.2.2.2.2.2.2.2.2.2.2.2.2.2.2.2.2.2.2.2.2.2.1 u.2.2.2.2.2.2.2.2.2.2.2.2.2.2.2.2.2.2.2.2.2.2.2.2.1 u.2.2.2.2.2.2.2.2.2.2.2.2.2.2.2.2.2.2.2.2.2.2.2.2.2.1 u.2.2.2.2.2.2.2.2.2.2.2.2.2.2.2.2.2.2.2.2.2.2.2.2.2.2.1 u.2.2.2.2.2.2.2.2.2.2.2.2.2.2.2.2.2.2.2.2.2.2.2.2.2.2.2) u.1 := by
  refine met_rwi (cc := cX11_lay) (maxL := 1) (lv0 := [(0, .ref q_this)]) (by decide) rfl rfl rfl rfl (fun X hX hW hret => ?_)
  have hinX11 : ∀ w ∈ u_ws RX11 TX11 13, w ∈ wsX11_lay := by decide +kernel
  have hinX0 : ∀ w ∈ u_ws RX0 TX0 5, w ∈ wsX11_lay := by decide +kernel
  have hinX2 : ∀ w ∈ u_ws RX2 TX2 7, w ∈ wsX11_lay := by decide +kernel
  have hinX4 : ∀ w ∈ u_ws RX4 TX4 5, w ∈ wsX11_lay := by decide +kernel
  have hinX6 : ∀ w ∈ u_ws RX6 TX6 9, w ∈ wsX11_lay := by decide +kernel
  have hinX7 : ∀ w ∈ u_ws RX7 TX7 2, w ∈ wsX11_lay := by decide +kernel
  have hinX8 : ∀ w ∈ u_ws RX8 TX8 2, w ∈ wsX11_lay := by decide +kernel
  have hf_X11_beats_35 : Cond.fieldLink RX11 35 (TX11 3).1 (TX11 3).2.1 (TX11 3).2.2.1 ∈ wsX11_lay := by decide +kernel
  have hf_X11_keptSize_122 : Cond.fieldLink RX11 122 (TX11 6).1 (TX11 6).2.1 (TX11 6).2.2.1 ∈ wsX11_lay := by decide +kernel
  have hf_X11_laid_28 : Cond.fieldLink RX11 28 (TX11 2).1 (TX11 2).2.1 (TX11 2).2.2.1 ∈ wsX11_lay := by decide +kernel
  have hf_X11_reader_21 : Cond.fieldLink RX11 21 (TX11 1).1 (TX11 1).2.1 (TX11 1).2.2.1 ∈ wsX11_lay := by decide +kernel
  have hf_X11_secrets_64 : Cond.fieldLink RX11 64 (TX11 8).1 (TX11 8).2.1 (TX11 8).2.2.1 ∈ wsX11_lay := by decide +kernel
  have hf_X11_steps_42 : Cond.fieldLink RX11 42 (TX11 4).1 (TX11 4).2.1 (TX11 4).2.2.1 ∈ wsX11_lay := by decide +kernel
  have hf_X11_told_55 : Cond.fieldLink RX11 55 (TX11 7).1 (TX11 7).2.1 (TX11 7).2.2.1 ∈ wsX11_lay := by decide +kernel
  have hf_X0_now_116 : Cond.fieldLink RX11 116 (TX0 4).1 (TX0 4).2.1 (TX0 4).2.2.1 ∈ wsX11_lay := by decide +kernel
  have hf_X0_size_115 : Cond.fieldLink RX11 115 (TX0 3).1 (TX0 3).2.1 (TX0 3).2.2.1 ∈ wsX11_lay := by decide +kernel
  have hf_X2_places_125 : Cond.fieldLink RX11 125 (TX2 1).1 (TX2 1).2.1 (TX2 1).2.2.1 ∈ wsX11_lay := by decide +kernel
  have hf_X4_hills_108 : Cond.fieldLink RX11 108 (TX4 0).1 (TX4 0).2.1 (TX4 0).2.2.1 ∈ wsX11_lay := by decide +kernel
  have hf_X6_size_120 : Cond.fieldLink RX11 120 (TX6 0).1 (TX6 0).2.1 (TX6 0).2.2.1 ∈ wsX11_lay := by decide +kernel
  have hf_X7_size_119 : Cond.fieldLink RX11 119 (TX7 1).1 (TX7 1).2.1 (TX7 1).2.2.1 ∈ wsX11_lay := by decide +kernel
  have hf_X8_size_121 : Cond.fieldLink RX11 121 (TX8 1).1 (TX8 1).2.1 (TX8 1).2.2.1 ∈ wsX11_lay := by decide +kernel
  have hg := hu
  unfold g_X11_lay at hg
  refine j_aload_n hX 0 dX11_lay_0 rfl rfl ?_
  refine j_get hX 0 1 rfl rfl hinX11 rfl hf_X11_reader_21 rfl dX11_lay_1 ?_
  refine j_vRW hX hW (r := fun v => v.1) (w1 := fun v => (w_X4_firstFault G q_this_reader q_this_reader_hills q_this_reader_hills_book q_this_reader_hills_book_words q_this_reader_hills_book_words_E q_this_reader_hills_book_words_E_sort q_this_reader_hills_minutes q_this_text q_this_text_bytes q_this_reader_number q_this_reader_draft q_this_reader_draft_sort v.2.1 v.2.2.1 v.2.2.2.1 v.2.2.2.2.1 v.2.2.2.2.2.1 v.2.2.2.2.2.2.1 v.2.2.2.2.2.2.2.1 v.2.2.2.2.2.2.2.2.1 v.2.2.2.2.2.2.2.2.2.1 f_this_text_bytes f_this_text_size v.2.2.2.2.2.2.2.2.2.2.1 v.2.2.2.2.2.2.2.2.2.2.2.1 v.2.2.2.2.2.2.2.2.2.2.2.2.1 v.2.2.2.2.2.2.2.2.2.2.2.2.2)) (ws' := fun v => (w_X11_lay G q_this q_this_text q_this_text_bytes q_this_reader q_this_reader_hills q_this_reader_hills_book q_this_reader_hills_book_words q_this_reader_hills_book_words_E q_this_reader_hills_book_words_E_sort q_this_reader_hills_minutes q_this_reader_number q_this_reader_draft q_this_reader_draft_sort q_this_laid q_this_laid_book q_this_laid_book_words q_this_laid_book_words_E q_this_laid_book_words_E_sort q_this_laid_minutes q_this_beats q_this_steps q_this_told q_this_secrets v_this_kept v_this_trials v_this_queue v_this_row v_this_later v_this_laid_minutesTold v_this_beats_place v_this_beats_sort v_this_beats_minute v_this_steps_step v_this_told_sort v_this_secrets_found v_this_secrets_first v_this_secrets_place v_this_secrets_rows v_this_secrets_queues v_this_secrets_trial f_this_text_bytes f_this_text_size v.2.1 v.2.2.1 v.2.2.2.1 v.2.2.2.2.1 v.2.2.2.2.2.1 v.2.2.2.2.2.2.1 v.2.2.2.2.2.2.2.1 v.2.2.2.2.2.2.2.2.1 v.2.2.2.2.2.2.2.2.2.1 v.2.2.2.2.2.2.2.2.2.2.1 v.2.2.2.2.2.2.2.2.2.2.2.1 v.2.2.2.2.2.2.2.2.2.2.2.2.1 v.2.2.2.2.2.2.2.2.2.2.2.2.2 f_this_laid_book_words_E_sort f_this_laid_book_words_E_size f_this_laid_book_size f_this_laid_places f_this_laid_sorts f_this_laid_hour f_this_laid_law f_this_laid_minutes f_this_beats_size f_this_beats_now f_this_steps_size f_this_told_size f_this_secrets_size f_this_keptSize)) [] hg (fun v hv => c_X4_firstFault l G N q_this_reader q_this_reader_hills q_this_reader_hills_book q_this_reader_hills_book_words q_this_reader_hills_book_words_E q_this_reader_hills_book_words_E_sort q_this_reader_hills_minutes q_this_text q_this_text_bytes q_this_reader_number q_this_reader_draft q_this_reader_draft_sort f_this_reader_hills_book_words_E_sort f_this_reader_hills_book_words_E_size f_this_reader_hills_book_size f_this_reader_hills_places f_this_reader_hills_sorts f_this_reader_hills_hour f_this_reader_hills_law f_this_reader_hills_minutesTold f_this_reader_hills_minutes f_this_text_bytes f_this_text_size f_this_reader_draft_sort f_this_reader_draft_size f_this_reader_number f_this_reader_at v hv) gX11_lay_X4_firstFault rfl ⟨rfl, rfl⟩ ⟨rfl, by decide, by decide, rfl⟩ rfl rfl [3, 4, 5, 6, 7, 8, 9, 10, 11, 12, 13, 14, 15, 16, 17, 18, 19, 20, 21, 22, 23, 1, 2, 24, 25, 26] (ax_X11_lay_4c _ _ _ _ _ _ _ _ _ _ _ _ _ _ _ _ _ _ _ _ _ _ _ _ _ _ _ _ _ _ _ _ _ _ _ _ _ _ _ _ _ _ _ _ _ _ _ _ _ _ _) (by decide +kernel) rfl rfl dX11_lay_4 rfl rfl ⟨Nat.zero_le _, Nat.zero_le _⟩ (fun _ => jn_ax [3, 4, 5, 6, 7, 8, 9, 10, 11, 12, 13, 14, 15, 16, 17, 18, 19, 20, 21, 22, 23, 1, 2, 24, 25, 26] ([0, 27, 28, 29, 30, 31, 32, 33, 34, 35, 36, 37, 38, 39, 40, 41, 42, 43, 44, 45, 46, 47, 48, 49, 50] : List Nat) 51 (ax_X11_lay_4 _ _ _ _ _ _ _ _ _ _ _ _ _ _ _ _ _ _ _ _ _ _ _ _ _ _ _ _ _ _ _ _ _ _ _ _ _ _ _ _ _ _ _ _ _ _ _ _ _ _ _ _ _ _ _ _ _ _ _ _ _ _ _ _ _ _ _ _ _ _ _ _ _ _ _ _ _) rfl (by decide +kernel)) (fun v4 hg => ?_)
  refine j_bipush hX dX11_lay_7 kb_m4 ?_
  refine j_icmp_eq hX 15 hg dX11_lay_9 (by decide) (fun hg => ?_) (fun hg => ?_)
  · refine j_aload_n hX 0 dX11_lay_15 rfl rfl ?_
    refine j_get hX 0 2 rfl rfl hinX11 rfl hf_X11_laid_28 rfl dX11_lay_16 ?_
    refine j_aload_n hX 0 dX11_lay_19 rfl rfl ?_
    refine j_get hX 0 1 rfl rfl hinX11 rfl hf_X11_reader_21 rfl dX11_lay_20 ?_
    refine j_get hX 3 0 rfl rfl hinX4 rfl hf_X4_hills_108 rfl dX11_lay_23 ?_
    refine j_vRV hX hW (w1 := fun v => (w_X2_copyFrom G q_this_laid q_this_laid_book q_this_laid_book_words q_this_laid_book_words_E q_this_laid_book_words_E_sort q_this_laid_minutes q_this_reader_hills q_this_reader_hills_book q_this_reader_hills_book_words q_this_reader_hills_book_words_E q_this_reader_hills_book_words_E_sort q_this_reader_hills_minutes v_this_laid_minutesTold (.int v4.2.2.2.2.2.2.2.2.1) v.1 v.2.1 v.2.2.1 v.2.2.2.1 v.2.2.2.2.1 v.2.2.2.2.2.1 v.2.2.2.2.2.2.1 v.2.2.2.2.2.2.2 v4.2.1 v4.2.2.1 v4.2.2.2.1 v4.2.2.2.2.1 v4.2.2.2.2.2.1 v4.2.2.2.2.2.2.1 v4.2.2.2.2.2.2.2.1 v4.2.2.2.2.2.2.2.2.2.1)) (ws' := fun v => (w_X11_lay G q_this q_this_text q_this_text_bytes q_this_reader q_this_reader_hills q_this_reader_hills_book q_this_reader_hills_book_words q_this_reader_hills_book_words_E q_this_reader_hills_book_words_E_sort q_this_reader_hills_minutes q_this_reader_number q_this_reader_draft q_this_reader_draft_sort q_this_laid q_this_laid_book q_this_laid_book_words q_this_laid_book_words_E q_this_laid_book_words_E_sort q_this_laid_minutes q_this_beats q_this_steps q_this_told q_this_secrets v_this_kept v_this_trials v_this_queue v_this_row v_this_later v_this_laid_minutesTold v_this_beats_place v_this_beats_sort v_this_beats_minute v_this_steps_step v_this_told_sort v_this_secrets_found v_this_secrets_first v_this_secrets_place v_this_secrets_rows v_this_secrets_queues v_this_secrets_trial f_this_text_bytes f_this_text_size v4.2.1 v4.2.2.1 v4.2.2.2.1 v4.2.2.2.2.1 v4.2.2.2.2.2.1 v4.2.2.2.2.2.2.1 v4.2.2.2.2.2.2.2.1 v4.2.2.2.2.2.2.2.2.1 v4.2.2.2.2.2.2.2.2.2.1 v4.2.2.2.2.2.2.2.2.2.2.1 v4.2.2.2.2.2.2.2.2.2.2.2.1 v4.2.2.2.2.2.2.2.2.2.2.2.2.1 v4.2.2.2.2.2.2.2.2.2.2.2.2.2 v.1 v.2.1 v.2.2.1 v.2.2.2.1 v.2.2.2.2.1 v.2.2.2.2.2.1 v.2.2.2.2.2.2.1 v.2.2.2.2.2.2.2 f_this_beats_size f_this_beats_now f_this_steps_size f_this_told_size f_this_secrets_size f_this_keptSize)) [.ref q_this_reader_hills] hg (fun v hv => c_X2_copyFrom l G N q_this_laid q_this_laid_book q_this_laid_book_words q_this_laid_book_words_E q_this_laid_book_words_E_sort q_this_laid_minutes q_this_reader_hills q_this_reader_hills_book q_this_reader_hills_book_words q_this_reader_hills_book_words_E q_this_reader_hills_book_words_E_sort q_this_reader_hills_minutes v_this_laid_minutesTold (.int v4.2.2.2.2.2.2.2.2.1) f_this_laid_book_words_E_sort f_this_laid_book_words_E_size f_this_laid_book_size f_this_laid_places f_this_laid_sorts f_this_laid_hour f_this_laid_law f_this_laid_minutes v4.2.1 v4.2.2.1 v4.2.2.2.1 v4.2.2.2.2.1 v4.2.2.2.2.2.1 v4.2.2.2.2.2.2.1 v4.2.2.2.2.2.2.2.1 v4.2.2.2.2.2.2.2.2.2.1 v hv) gX11_lay_X2_copyFrom rfl ⟨rfl, rfl⟩ ⟨rfl, by decide, by decide, rfl⟩ rfl rfl [27, 28, 29, 30, 31, 32, 33, 34, 35, 36, 37, 38, 39, 40, 41, 42, 43, 44, 45, 46, 4, 5, 6, 7, 8, 9, 10, 11, 12, 13, 14, 15, 16, 17, 18, 19, 20, 21, 22, 23] (ax_X11_lay_26c _ _ _ _ _ _ _ _ _ _ _ _ _ _ _ _ _ _ _ _ _ _ _ _ _ _ _ _ _ _ _ _ _ _ _ _ _ _ _ _ _ _ _ _ _ _ _ _ _ _ _) (by decide +kernel) rfl rfl dX11_lay_26 rfl rfl ⟨Nat.zero_le _, Nat.zero_le _⟩ (fun _ => jn_ax [27, 28, 29, 30, 31, 32, 33, 34, 35, 36, 37, 38, 39, 40, 41, 42, 43, 44, 45, 46, 4, 5, 6, 7, 8, 9, 10, 11, 12, 13, 14, 15, 16, 17, 18, 19, 20, 21, 22, 23] ([0, 1, 2, 3, 24, 25, 26, 47, 48, 49, 50] : List Nat) 51 (ax_X11_lay_26 _ _ _ _ _ _ _ _ _ _ _ _ _ _ _ _ _ _ _ _ _ _ _ _ _ _ _ _ _ _ _ _ _ _ _ _ _ _ _ _ _ _ _ _ _ _ _ _ _ _ _ _ _ _ _ _ _ _ _ _ _ _ _ _ _ _ _ _ _ _ _ _ _ _ _ _ _ _ _ _ _ _ _ _ _ _ _ _ _ _ _) rfl (by decide +kernel)) (fun v26 hg => ?_)
    refine j_aload_n hX 0 dX11_lay_29 rfl rfl ?_
    refine j_get hX 0 3 rfl rfl hinX11 rfl hf_X11_beats_35 rfl dX11_lay_30 ?_
    refine j_iconst hX dX11_lay_33 kc_0 ?_
    refine j_put hX hW 47 3 rfl rfl hinX0 tyX0 tyX0_ok nmX0 rfl hf_X0_size_115 rfl rfl rfl rfl dX11_lay_34 (ws' := (w_X11_lay G q_this q_this_text q_this_text_bytes q_this_reader q_this_reader_hills q_this_reader_hills_book q_this_reader_hills_book_words q_this_reader_hills_book_words_E q_this_reader_hills_book_words_E_sort q_this_reader_hills_minutes q_this_reader_number q_this_reader_draft q_this_reader_draft_sort q_this_laid q_this_laid_book q_this_laid_book_words q_this_laid_book_words_E q_this_laid_book_words_E_sort q_this_laid_minutes q_this_beats q_this_steps q_this_told q_this_secrets v_this_kept v_this_trials v_this_queue v_this_row v_this_later v_this_laid_minutesTold v_this_beats_place v_this_beats_sort v_this_beats_minute v_this_steps_step v_this_told_sort v_this_secrets_found v_this_secrets_first v_this_secrets_place v_this_secrets_rows v_this_secrets_queues v_this_secrets_trial f_this_text_bytes f_this_text_size v4.2.1 v4.2.2.1 v4.2.2.2.1 v4.2.2.2.2.1 v4.2.2.2.2.2.1 v4.2.2.2.2.2.2.1 v4.2.2.2.2.2.2.2.1 v4.2.2.2.2.2.2.2.2.1 v4.2.2.2.2.2.2.2.2.2.1 v4.2.2.2.2.2.2.2.2.2.2.1 v4.2.2.2.2.2.2.2.2.2.2.2.1 v4.2.2.2.2.2.2.2.2.2.2.2.2.1 v4.2.2.2.2.2.2.2.2.2.2.2.2.2 v26.1 v26.2.1 v26.2.2.1 v26.2.2.2.1 v26.2.2.2.2.1 v26.2.2.2.2.2.1 v26.2.2.2.2.2.2.1 v26.2.2.2.2.2.2.2 0 f_this_beats_now f_this_steps_size f_this_told_size f_this_secrets_size f_this_keptSize)) rfl ?_
    refine j_aload_n hX 0 dX11_lay_37 rfl rfl ?_
    refine j_get hX 0 3 rfl rfl hinX11 rfl hf_X11_beats_35 rfl dX11_lay_38 ?_
    refine j_iconst hX dX11_lay_41 kc_0 ?_
    refine j_put hX hW 47 4 rfl rfl hinX0 tyX0 tyX0_ok nmX0 rfl hf_X0_now_116 rfl rfl rfl rfl dX11_lay_42 (ws' := (w_X11_lay G q_this q_this_text q_this_text_bytes q_this_reader q_this_reader_hills q_this_reader_hills_book q_this_reader_hills_book_words q_this_reader_hills_book_words_E q_this_reader_hills_book_words_E_sort q_this_reader_hills_minutes q_this_reader_number q_this_reader_draft q_this_reader_draft_sort q_this_laid q_this_laid_book q_this_laid_book_words q_this_laid_book_words_E q_this_laid_book_words_E_sort q_this_laid_minutes q_this_beats q_this_steps q_this_told q_this_secrets v_this_kept v_this_trials v_this_queue v_this_row v_this_later v_this_laid_minutesTold v_this_beats_place v_this_beats_sort v_this_beats_minute v_this_steps_step v_this_told_sort v_this_secrets_found v_this_secrets_first v_this_secrets_place v_this_secrets_rows v_this_secrets_queues v_this_secrets_trial f_this_text_bytes f_this_text_size v4.2.1 v4.2.2.1 v4.2.2.2.1 v4.2.2.2.2.1 v4.2.2.2.2.2.1 v4.2.2.2.2.2.2.1 v4.2.2.2.2.2.2.2.1 v4.2.2.2.2.2.2.2.2.1 v4.2.2.2.2.2.2.2.2.2.1 v4.2.2.2.2.2.2.2.2.2.2.1 v4.2.2.2.2.2.2.2.2.2.2.2.1 v4.2.2.2.2.2.2.2.2.2.2.2.2.1 v4.2.2.2.2.2.2.2.2.2.2.2.2.2 v26.1 v26.2.1 v26.2.2.1 v26.2.2.2.1 v26.2.2.2.2.1 v26.2.2.2.2.2.1 v26.2.2.2.2.2.2.1 v26.2.2.2.2.2.2.2 0 0 f_this_steps_size f_this_told_size f_this_secrets_size f_this_keptSize)) rfl ?_
    refine j_aload_n hX 0 dX11_lay_45 rfl rfl ?_
    refine j_get hX 0 7 rfl rfl hinX11 rfl hf_X11_told_55 rfl dX11_lay_46 ?_
    refine j_iconst hX dX11_lay_49 kc_0 ?_
    refine j_put hX hW 49 1 rfl rfl hinX7 tyX7 tyX7_ok nmX7 rfl hf_X7_size_119 rfl rfl rfl rfl dX11_lay_50 (ws' := (w_X11_lay G q_this q_this_text q_this_text_bytes q_this_reader q_this_reader_hills q_this_reader_hills_book q_this_reader_hills_book_words q_this_reader_hills_book_words_E q_this_reader_hills_book_words_E_sort q_this_reader_hills_minutes q_this_reader_number q_this_reader_draft q_this_reader_draft_sort q_this_laid q_this_laid_book q_this_laid_book_words q_this_laid_book_words_E q_this_laid_book_words_E_sort q_this_laid_minutes q_this_beats q_this_steps q_this_told q_this_secrets v_this_kept v_this_trials v_this_queue v_this_row v_this_later v_this_laid_minutesTold v_this_beats_place v_this_beats_sort v_this_beats_minute v_this_steps_step v_this_told_sort v_this_secrets_found v_this_secrets_first v_this_secrets_place v_this_secrets_rows v_this_secrets_queues v_this_secrets_trial f_this_text_bytes f_this_text_size v4.2.1 v4.2.2.1 v4.2.2.2.1 v4.2.2.2.2.1 v4.2.2.2.2.2.1 v4.2.2.2.2.2.2.1 v4.2.2.2.2.2.2.2.1 v4.2.2.2.2.2.2.2.2.1 v4.2.2.2.2.2.2.2.2.2.1 v4.2.2.2.2.2.2.2.2.2.2.1 v4.2.2.2.2.2.2.2.2.2.2.2.1 v4.2.2.2.2.2.2.2.2.2.2.2.2.1 v4.2.2.2.2.2.2.2.2.2.2.2.2.2 v26.1 v26.2.1 v26.2.2.1 v26.2.2.2.1 v26.2.2.2.2.1 v26.2.2.2.2.2.1 v26.2.2.2.2.2.2.1 v26.2.2.2.2.2.2.2 0 0 f_this_steps_size 0 f_this_secrets_size f_this_keptSize)) rfl ?_
    refine j_aload_n hX 0 dX11_lay_53 rfl rfl ?_
    refine j_get hX 0 8 rfl rfl hinX11 rfl hf_X11_secrets_64 rfl dX11_lay_54 ?_
    refine j_iconst hX dX11_lay_57 kc_0 ?_
    refine j_put hX hW 50 0 rfl rfl hinX6 tyX6 tyX6_ok nmX6 rfl hf_X6_size_120 rfl rfl rfl rfl dX11_lay_58 (ws' := (w_X11_lay G q_this q_this_text q_this_text_bytes q_this_reader q_this_reader_hills q_this_reader_hills_book q_this_reader_hills_book_words q_this_reader_hills_book_words_E q_this_reader_hills_book_words_E_sort q_this_reader_hills_minutes q_this_reader_number q_this_reader_draft q_this_reader_draft_sort q_this_laid q_this_laid_book q_this_laid_book_words q_this_laid_book_words_E q_this_laid_book_words_E_sort q_this_laid_minutes q_this_beats q_this_steps q_this_told q_this_secrets v_this_kept v_this_trials v_this_queue v_this_row v_this_later v_this_laid_minutesTold v_this_beats_place v_this_beats_sort v_this_beats_minute v_this_steps_step v_this_told_sort v_this_secrets_found v_this_secrets_first v_this_secrets_place v_this_secrets_rows v_this_secrets_queues v_this_secrets_trial f_this_text_bytes f_this_text_size v4.2.1 v4.2.2.1 v4.2.2.2.1 v4.2.2.2.2.1 v4.2.2.2.2.2.1 v4.2.2.2.2.2.2.1 v4.2.2.2.2.2.2.2.1 v4.2.2.2.2.2.2.2.2.1 v4.2.2.2.2.2.2.2.2.2.1 v4.2.2.2.2.2.2.2.2.2.2.1 v4.2.2.2.2.2.2.2.2.2.2.2.1 v4.2.2.2.2.2.2.2.2.2.2.2.2.1 v4.2.2.2.2.2.2.2.2.2.2.2.2.2 v26.1 v26.2.1 v26.2.2.1 v26.2.2.2.1 v26.2.2.2.2.1 v26.2.2.2.2.2.1 v26.2.2.2.2.2.2.1 v26.2.2.2.2.2.2.2 0 0 f_this_steps_size 0 0 f_this_keptSize)) rfl ?_
    refine j_aload_n hX 0 dX11_lay_61 rfl rfl ?_
    refine j_get hX 0 4 rfl rfl hinX11 rfl hf_X11_steps_42 rfl dX11_lay_62 ?_
    refine j_iconst hX dX11_lay_65 kc_0 ?_
    refine j_put hX hW 48 1 rfl rfl hinX8 tyX8 tyX8_ok nmX8 rfl hf_X8_size_121 rfl rfl rfl rfl dX11_lay_66 (ws' := (w_X11_lay G q_this q_this_text q_this_text_bytes q_this_reader q_this_reader_hills q_this_reader_hills_book q_this_reader_hills_book_words q_this_reader_hills_book_words_E q_this_reader_hills_book_words_E_sort q_this_reader_hills_minutes q_this_reader_number q_this_reader_draft q_this_reader_draft_sort q_this_laid q_this_laid_book q_this_laid_book_words q_this_laid_book_words_E q_this_laid_book_words_E_sort q_this_laid_minutes q_this_beats q_this_steps q_this_told q_this_secrets v_this_kept v_this_trials v_this_queue v_this_row v_this_later v_this_laid_minutesTold v_this_beats_place v_this_beats_sort v_this_beats_minute v_this_steps_step v_this_told_sort v_this_secrets_found v_this_secrets_first v_this_secrets_place v_this_secrets_rows v_this_secrets_queues v_this_secrets_trial f_this_text_bytes f_this_text_size v4.2.1 v4.2.2.1 v4.2.2.2.1 v4.2.2.2.2.1 v4.2.2.2.2.2.1 v4.2.2.2.2.2.2.1 v4.2.2.2.2.2.2.2.1 v4.2.2.2.2.2.2.2.2.1 v4.2.2.2.2.2.2.2.2.2.1 v4.2.2.2.2.2.2.2.2.2.2.1 v4.2.2.2.2.2.2.2.2.2.2.2.1 v4.2.2.2.2.2.2.2.2.2.2.2.2.1 v4.2.2.2.2.2.2.2.2.2.2.2.2.2 v26.1 v26.2.1 v26.2.2.1 v26.2.2.2.1 v26.2.2.2.2.1 v26.2.2.2.2.2.1 v26.2.2.2.2.2.2.1 v26.2.2.2.2.2.2.2 0 0 0 0 0 f_this_keptSize)) rfl ?_
    refine j_aload_n hX 0 dX11_lay_69 rfl rfl ?_
    refine j_iconst hX dX11_lay_70 kc_0 ?_
    refine j_put hX hW 0 6 rfl rfl hinX11 tyX11 tyX11_ok nmX11 rfl hf_X11_keptSize_122 rfl rfl rfl rfl dX11_lay_71 (ws' := (w_X11_lay G q_this q_this_text q_this_text_bytes q_this_reader q_this_reader_hills q_this_reader_hills_book q_this_reader_hills_book_words q_this_reader_hills_book_words_E q_this_reader_hills_book_words_E_sort q_this_reader_hills_minutes q_this_reader_number q_this_reader_draft q_this_reader_draft_sort q_this_laid q_this_laid_book q_this_laid_book_words q_this_laid_book_words_E q_this_laid_book_words_E_sort q_this_laid_minutes q_this_beats q_this_steps q_this_told q_this_secrets v_this_kept v_this_trials v_this_queue v_this_row v_this_later v_this_laid_minutesTold v_this_beats_place v_this_beats_sort v_this_beats_minute v_this_steps_step v_this_told_sort v_this_secrets_found v_this_secrets_first v_this_secrets_place v_this_secrets_rows v_this_secrets_queues v_this_secrets_trial f_this_text_bytes f_this_text_size v4.2.1 v4.2.2.1 v4.2.2.2.1 v4.2.2.2.2.1 v4.2.2.2.2.2.1 v4.2.2.2.2.2.2.1 v4.2.2.2.2.2.2.2.1 v4.2.2.2.2.2.2.2.2.1 v4.2.2.2.2.2.2.2.2.2.1 v4.2.2.2.2.2.2.2.2.2.2.1 v4.2.2.2.2.2.2.2.2.2.2.2.1 v4.2.2.2.2.2.2.2.2.2.2.2.2.1 v4.2.2.2.2.2.2.2.2.2.2.2.2.2 v26.1 v26.2.1 v26.2.2.1 v26.2.2.2.1 v26.2.2.2.2.1 v26.2.2.2.2.2.1 v26.2.2.2.2.2.2.1 v26.2.2.2.2.2.2.2 0 0 0 0 0 0)) rfl ?_
    refine j_aload_n hX 0 dX11_lay_74 rfl rfl ?_
    refine j_get hX 0 2 rfl rfl hinX11 rfl hf_X11_laid_28 rfl dX11_lay_75 ?_
    refine j_get hX 27 1 rfl rfl hinX2 rfl hf_X2_places_125 rfl dX11_lay_78 ?_
    cases hg
    exact hret _ _ dX11_lay_81
  · refine j_bipush hX dX11_lay_12 kb_m2 ?_
    cases hg
    exact hret _ _ dX11_lay_14
