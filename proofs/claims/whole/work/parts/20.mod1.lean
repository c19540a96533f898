abbrev w_X12_in (G : jG) : va_W := []
def g_X12_in (N : Nat) (x0 : Int32) (x1 : Int32) (x2 : Int32) : Option (Int32) := if x0 < x1 then some 0 else if x2 < x0 then some 0 else some 1
set_option maxHeartbeats 4000000 in
set_option maxRecDepth 100000 in
theorem c_X12_in (l : Launch) (G : jG) (N : Nat) (x0 : Int32) (x1 : Int32) (x2 : Int32) (u : Int32) (hu : g_X12_in N x0 x1 x2 = some u) : MetRO l G yX12_in wsX12_in ({ frames := 0, cells := 0, slots := 0, locals := 0 } : Room) [.int x0, .int x1, .int x2] (w_X12_in G ) u := by
  refine met_roz (cc := cX12_in) (maxL := 3) (lv0 := [(0, .int x0), (1, .int x1), (2, .int x2)]) (by decide) rfl rfl rfl rfl (fun X hX hret => ?_)
  have hg := hu
  unfold g_X12_in at hg
  refine j_iload_n hX 0 dX12_in_0 rfl rfl ?_
  refine j_iload_n hX 1 dX12_in_1 rfl rfl ?_
  refine j_icmp_lt hX 14 hg dX12_in_2 (by decide) (fun hg => ?_) (fun hg => ?_)
  · refine j_iconst hX dX12_in_14 kc_0 ?_
    cases hg
    exact hret _ _ (Or.inl rfl) dX12_in_15
  · refine j_iload_n hX 0 dX12_in_5 rfl rfl ?_
    refine j_iload_n hX 2 dX12_in_6 rfl rfl ?_
    refine j_icmp_gt hX 14 hg dX12_in_7 (by decide) (fun hg => ?_) (fun hg => ?_)
    · refine j_iconst hX dX12_in_14 kc_0 ?_
      cases hg
      exact hret _ _ (Or.inl rfl) dX12_in_15
    · refine j_iconst hX dX12_in_10 kc_1 ?_
      refine j_goto hX 15 dX12_in_11 (by decide) ?_
      cases hg
      exact hret _ _ (Or.inr rfl) dX12_in_15
abbrev w_X12_isPlace (G : jG) (q_this : Nat) (q_this_book : Nat) (v_this_text : Value) (v_this_length : Value) (v_this_draft : Value) (v_this_s : Value) (v_this_kept : Value) (v_this_keptMany : Value) (v_this_acts : Value) (v_this_actMany : Value) (v_this_row : Value) (v_this_rowMany : Value) (v_this_tells : Value) (v_this_tellMany : Value) (v_this_at : Value) (v_this_told : Value) (v_this_place : Value) (v_this_sort : Value) (v_this_minute : Value) (v_this_when : Value) (v_this_isHeard : Value) (v_this_goneBy : Value) (v_this_stand : Value) (v_this_many : Value) (v_this_standing : Value) (f_this_book : (Nat → Int32)) : va_W := [oC q_this 12 [v_this_text, v_this_length, .ref q_this_book, v_this_draft, v_this_s, v_this_kept, v_this_keptMany, v_this_acts, v_this_actMany, v_this_row, v_this_rowMany, v_this_tells, v_this_tellMany, v_this_at, v_this_told, v_this_place, v_this_sort, v_this_minute, v_this_when, v_this_isHeard, v_this_goneBy, v_this_stand, v_this_many, v_this_standing], aI G q_this_book 78 f_this_book]
def g_X12_isPlace (N : Nat) (f_this_book : (Nat → Int32)) (x1 : Int32) : Option (Int32) := gi 0 78 ((g_X12_in N x1 0 ((f_this_book (0 : Int32).toNatClampNeg) - 1)).bind fun v10 => gb v10 (some v10))
set_option maxHeartbeats 4000000 in
set_option maxRecDepth 100000 in
theorem c_X12_isPlace (l : Launch) (G : jG) (N : Nat) (q_this : Nat) (q_this_book : Nat) (v_this_text : Value) (v_this_length : Value) (v_this_draft : Value) (v_this_s : Value) (v_this_kept : Value) (v_this_keptMany : Value) (v_this_acts : Value) (v_this_actMany : Value) (v_this_row : Value) (v_this_rowMany : Value) (v_this_tells : Value) (v_this_tellMany : Value) (v_this_at : Value) (v_this_told : Value) (v_this_place : Value) (v_this_sort : Value) (v_this_minute : Value) (v_this_when : Value) (v_this_isHeard : Value) (v_this_goneBy : Value) (v_this_stand : Value) (v_this_many : Value) (v_this_standing : Value) (f_this_book : (Nat → Int32)) (x1 : Int32) (u : Int32) (hu : g_X12_isPlace N f_this_book x1 = some u) : MetRO l G yX12_isPlace wsX12_isPlace ({ frames := 1, cells := 0, slots := 0, locals := 22 } : Room) [.ref q_this, .int x1] (w_X12_isPlace G q_this q_this_book v_this_text v_this_length v_this_draft v_this_s v_this_kept v_this_keptMany v_this_acts v_this_actMany v_this_row v_this_rowMany v_this_tells v_this_tellMany v_this_at v_this_told v_this_place v_this_sort v_this_minute v_this_when v_this_isHeard v_this_goneBy v_this_stand v_this_many v_this_standing f_this_book) u := by
  refine met_roz (cc := cX12_isPlace) (maxL := 2) (lv0 := [(0, .ref q_this), (1, .int x1)]) (by decide) rfl rfl rfl rfl (fun X hX hret => ?_)
  have hinX12 : ∀ w ∈ u_ws RX12 TX12 24, w ∈ wsX12_isPlace := by decide +kernel
  have hf_X12_book_13 : Cond.fieldLink RX12 13 (TX12 2).1 (TX12 2).2.1 (TX12 2).2.2.1 ∈ wsX12_isPlace := by decide +kernel
  have hg := hu
  unfold g_X12_isPlace at hg
  refine j_iload_n hX 1 dX12_isPlace_0 rfl rfl ?_
  refine j_iconst hX dX12_isPlace_1 kc_0 ?_
  refine j_aload_n hX 0 dX12_isPlace_2 rfl rfl ?_
  refine j_get hX 0 2 rfl rfl hinX12 rfl hf_X12_book_13 rfl dX12_isPlace_3 ?_
  refine j_iconst hX dX12_isPlace_6 kc_0 ?_
  refine j_iald hX 1 rfl hg dX12_isPlace_7 (fun hg => ?_)
  refine j_iconst hX dX12_isPlace_8 kc_1 ?_
  refine j_isub hX dX12_isPlace_9 ?_
  refine j_sRO hX (r := fun v => v) [.int x1, .int 0, .int ((f_this_book (0 : Int32).toNatClampNeg) - 1)] hg (fun v hv => c_X12_in l G N x1 0 ((f_this_book (0 : Int32).toNatClampNeg) - 1) v hv) gX12_isPlace_X12_in rfl ⟨rfl, rfl⟩ ⟨by decide, by decide, rfl⟩ rfl rfl [] rfl dX12_isPlace_10 rfl rfl ⟨Nat.zero_le _, Nat.zero_le _⟩ (fun v10 hg => ?_)
  obtain ⟨hb, hg⟩ := gb_some hg
  cases hg
  exact hret _ _ hb dX12_isPlace_13
abbrev w_X12_isSort (G : jG) (q_this : Nat) (q_this_book : Nat) (v_this_text : Value) (v_this_length : Value) (v_this_draft : Value) (v_this_s : Value) (v_this_kept : Value) (v_this_keptMany : Value) (v_this_acts : Value) (v_this_actMany : Value) (v_this_row : Value) (v_this_rowMany : Value) (v_this_tells : Value) (v_this_tellMany : Value) (v_this_at : Value) (v_this_told : Value) (v_this_place : Value) (v_this_sort : Value) (v_this_minute : Value) (v_this_when : Value) (v_this_isHeard : Value) (v_this_goneBy : Value) (v_this_stand : Value) (v_this_many : Value) (v_this_standing : Value) (f_this_book : (Nat → Int32)) : va_W := [oC q_this 12 [v_this_text, v_this_length, .ref q_this_book, v_this_draft, v_this_s, v_this_kept, v_this_keptMany, v_this_acts, v_this_actMany, v_this_row, v_this_rowMany, v_this_tells, v_this_tellMany, v_this_at, v_this_told, v_this_place, v_this_sort, v_this_minute, v_this_when, v_this_isHeard, v_this_goneBy, v_this_stand, v_this_many, v_this_standing], aI G q_this_book 78 f_this_book]
def g_X12_isSort (N : Nat) (f_this_book : (Nat → Int32)) (x1 : Int32) : Option (Int32) := gi 3 78 ((g_X12_in N x1 0 ((f_this_book (3 : Int32).toNatClampNeg) - 1)).bind fun v10 => gb v10 (some v10))
set_option maxHeartbeats 4000000 in
set_option maxRecDepth 100000 in
theorem c_X12_isSort (l : Launch) (G : jG) (N : Nat) (q_this : Nat) (q_this_book : Nat) (v_this_text : Value) (v_this_length : Value) (v_this_draft : Value) (v_this_s : Value) (v_this_kept : Value) (v_this_keptMany : Value) (v_this_acts : Value) (v_this_actMany : Value) (v_this_row : Value) (v_this_rowMany : Value) (v_this_tells : Value) (v_this_tellMany : Value) (v_this_at : Value) (v_this_told : Value) (v_this_place : Value) (v_this_sort : Value) (v_this_minute : Value) (v_this_when : Value) (v_this_isHeard : Value) (v_this_goneBy : Value) (v_this_stand : Value) (v_this_many : Value) (v_this_standing : Value) (f_this_book : (Nat → Int32)) (x1 : Int32) (u : Int32) (hu : g_X12_isSort N f_this_book x1 = some u) : MetRO l G yX12_isSort wsX12_isSort ({ frames := 1, cells := 0, slots := 0, locals := 22 } : Room) [.ref q_this, .int x1] (w_X12_isSort G q_this q_this_book v_this_text v_this_length v_this_draft v_this_s v_this_kept v_this_keptMany v_this_acts v_this_actMany v_this_row v_this_rowMany v_this_tells v_this_tellMany v_this_at v_this_told v_this_place v_this_sort v_this_minute v_this_when v_this_isHeard v_this_goneBy v_this_stand v_this_many v_this_standing f_this_book) u := by
  refine met_roz (cc := cX12_isSort) (maxL := 2) (lv0 := [(0, .ref q_this), (1, .int x1)]) (by decide) rfl rfl rfl rfl (fun X hX hret => ?_)
  have hinX12 : ∀ w ∈ u_ws RX12 TX12 24, w ∈ wsX12_isSort := by decide +kernel
  have hf_X12_book_13 : Cond.fieldLink RX12 13 (TX12 2).1 (TX12 2).2.1 (TX12 2).2.2.1 ∈ wsX12_isSort := by decide +kernel
  have hg := hu
  unfold g_X12_isSort at hg
  refine j_iload_n hX 1 dX12_isSort_0 rfl rfl ?_
  refine j_iconst hX dX12_isSort_1 kc_0 ?_
  refine j_aload_n hX 0 dX12_isSort_2 rfl rfl ?_
  refine j_get hX 0 2 rfl rfl hinX12 rfl hf_X12_book_13 rfl dX12_isSort_3 ?_
  refine j_iconst hX dX12_isSort_6 kc_3 ?_
  refine j_iald hX 1 rfl hg dX12_isSort_7 (fun hg => ?_)
  refine j_iconst hX dX12_isSort_8 kc_1 ?_
  refine j_isub hX dX12_isSort_9 ?_
  refine j_sRO hX (r := fun v => v) [.int x1, .int 0, .int ((f_this_book (3 : Int32).toNatClampNeg) - 1)] hg (fun v hv => c_X12_in l G N x1 0 ((f_this_book (3 : Int32).toNatClampNeg) - 1) v hv) gX12_isSort_X12_in rfl ⟨rfl, rfl⟩ ⟨by decide, by decide, rfl⟩ rfl rfl [] rfl dX12_isSort_10 rfl rfl ⟨Nat.zero_le _, Nat.zero_le _⟩ (fun v10 hg => ?_)
  obtain ⟨hb, hg⟩ := gb_some hg
  cases hg
  exact hret _ _ hb dX12_isSort_13
abbrev w_X12_isMinute (G : jG) : va_W := []
def g_X12_isMinute (N : Nat) (x0 : Int32) : Option (Int32) := (g_X12_in N x0 0 9999).bind fun v5 => gb v5 (some v5)
set_option maxHeartbeats 4000000 in
set_option maxRecDepth 100000 in
theorem c_X12_isMinute (l : Launch) (G : jG) (N : Nat) (x0 : Int32) (u : Int32) (hu : g_X12_isMinute N x0 = some u) : MetRO l G yX12_isMinute wsX12_isMinute ({ frames := 1, cells := 0, slots := 0, locals := 22 } : Room) [.int x0] (w_X12_isMinute G ) u := by
  refine met_roz (cc := cX12_isMinute) (maxL := 1) (lv0 := [(0, .int x0)]) (by decide) rfl rfl rfl rfl (fun X hX hret => ?_)
  have hg := hu
  unfold g_X12_isMinute at hg
  refine j_iload_n hX 0 dX12_isMinute_0 rfl rfl ?_
  refine j_iconst hX dX12_isMinute_1 kc_0 ?_
  refine j_sipush hX dX12_isMinute_2 ks_9999 ?_
  refine j_sRO hX (r := fun v => v) [.int x0, .int 0, .int 9999] hg (fun v hv => c_X12_in l G N x0 0 9999 v hv) gX12_isMinute_X12_in rfl ⟨rfl, rfl⟩ ⟨by decide, by decide, rfl⟩ rfl rfl [] rfl dX12_isMinute_5 rfl rfl ⟨Nat.zero_le _, Nat.zero_le _⟩ (fun v5 hg => ?_)
  obtain ⟨hb, hg⟩ := gb_some hg
  cases hg
  exact hret _ _ hb dX12_isMinute_8
abbrev w_X12_write (G : jG) (q_this : Nat) (q_this_text : Nat) (v_this_book : Value) (v_this_draft : Value) (v_this_s : Value) (v_this_kept : Value) (v_this_keptMany : Value) (v_this_acts : Value) (v_this_actMany : Value) (v_this_row : Value) (v_this_rowMany : Value) (v_this_tells : Value) (v_this_tellMany : Value) (v_this_at : Value) (v_this_told : Value) (v_this_place : Value) (v_this_sort : Value) (v_this_minute : Value) (v_this_when : Value) (v_this_isHeard : Value) (v_this_goneBy : Value) (v_this_stand : Value) (v_this_many : Value) (v_this_standing : Value) (f_this_text : (Nat → Int32)) (f_this_length : Int32) : va_W := [oC q_this 12 [.ref q_this_text, .int f_this_length, v_this_book, v_this_draft, v_this_s, v_this_kept, v_this_keptMany, v_this_acts, v_this_actMany, v_this_row, v_this_rowMany, v_this_tells, v_this_tellMany, v_this_at, v_this_told, v_this_place, v_this_sort, v_this_minute, v_this_when, v_this_isHeard, v_this_goneBy, v_this_stand, v_this_many, v_this_standing], aI G q_this_text 300 f_this_text]
def g_X12_write_L32 (N : Nat) : Nat → (Nat → Int32) → Int32 → Int64 → Int32 → Option (Int32 × (Nat → Int32) × Int32)
  | 0, _, _, _, _ => none
  | fu + 1, f_this_text, f_this_length, x2, x4 => if x4 < 0 then some (f_this_length, f_this_text, f_this_length) else gi f_this_length 300 (g_X12_write_L32 N fu (upd f_this_text f_this_length.toNatClampNeg (((x2 >>> ((8 * x4).toInt64 &&& 63)) &&& 255 : Int64).toInt32)) (f_this_length + 1) x2 (x4 + (-1)))
def g_X12_write (N : Nat) (f_this_text : (Nat → Int32)) (f_this_length : Int32) (x1 : Int32) (x2 : Int64) : Option (Int32 × (Nat → Int32) × Int32) := (g_X12_in N x1 1 8).bind fun v4 => if v4 = 0 then some ((-1), f_this_text, f_this_length) else if (f_this_length + x1) ≤ 300 then g_X12_write_L32 N N f_this_text f_this_length x2 (x1 - 1) else some ((-3), f_this_text, f_this_length)
set_option maxHeartbeats 4000000 in
set_option maxRecDepth 100000 in
theorem c_X12_write (l : Launch) (G : jG) (N : Nat) (q_this : Nat) (q_this_text : Nat) (v_this_book : Value) (v_this_draft : Value) (v_this_s : Value) (v_this_kept : Value) (v_this_keptMany : Value) (v_this_acts : Value) (v_this_actMany : Value) (v_this_row : Value) (v_this_rowMany : Value) (v_this_tells : Value) (v_this_tellMany : Value) (v_this_at : Value) (v_this_told : Value) (v_this_place : Value) (v_this_sort : Value) (v_this_minute : Value) (v_this_when : Value) (v_this_isHeard : Value) (v_this_goneBy : Value) (v_this_stand : Value) (v_this_many : Value) (v_this_standing : Value) (f_this_text : (Nat → Int32)) (f_this_length : Int32) (x1 : Int32) (x2 : Int64) (u : Int32 × (Nat → Int32) × Int32) (hu : g_X12_write N f_this_text f_this_length x1 x2 = some u) : MetRW l G yX12_write wsX12_write ({ frames := 1, cells := 0, slots := 0, locals := 22 } : Room) [.ref q_this, .int x1, .long x2] (w_X12_write G q_this q_this_text v_this_book v_this_draft v_this_s v_this_kept v_this_keptMany v_this_acts v_this_actMany v_this_row v_this_rowMany v_this_tells v_this_tellMany v_this_at v_this_told v_this_place v_this_sort v_this_minute v_this_when v_this_isHeard v_this_goneBy v_this_stand v_this_many v_this_standing f_this_text f_this_length) (w_X12_write G q_this q_this_text v_this_book v_this_draft v_this_s v_this_kept v_this_keptMany v_this_acts v_this_actMany v_this_row v_this_rowMany v_this_tells v_this_tellMany v_this_at v_this_told v_this_place v_this_sort v_this_minute v_this_when v_this_isHeard v_this_goneBy v_this_stand v_this_many v_this_standing u.2.1 u.2.2) u.1 := by
  refine met_rwi (cc := cX12_write) (maxL := 5) (lv0 := [(0, .ref q_this), (1, .int x1), (2, .long x2)]) (by decide) rfl rfl rfl rfl (fun X hX hW hret => ?_)
  have hinX12 : ∀ w ∈ u_ws RX12 TX12 24, w ∈ wsX12_write := by decide +kernel
  have hf_X12_length_70 : Cond.fieldLink RX12 70 (TX12 1).1 (TX12 1).2.1 (TX12 1).2.2.1 ∈ wsX12_write := by decide +kernel
  have hf_X12_text_7 : Cond.fieldLink RX12 7 (TX12 0).1 (TX12 0).2.1 (TX12 0).2.2.1 ∈ wsX12_write := by decide +kernel
  have L32 : ∀ (fu32 : Nat), ∀ (f_this_text : (Nat → Int32)) (f_this_length : Int32) (x2 : Int64) (x4 : Int32), g_X12_write_L32 N fu32 f_this_text f_this_length x2 x4 = some u → J X 0 0 (w_X12_write G q_this q_this_text v_this_book v_this_draft v_this_s v_this_kept v_this_keptMany v_this_acts v_this_actMany v_this_row v_this_rowMany v_this_tells v_this_tellMany v_this_at v_this_told v_this_place v_this_sort v_this_minute v_this_when v_this_isHeard v_this_goneBy v_this_stand v_this_many v_this_standing f_this_text f_this_length) 32 [(0, .ref q_this), (2, .long x2), (4, .int x4)] [] := by
    intro fu32
    induction fu32 with
    | zero => intro f_this_text f_this_length x2 x4 hg; exact nomatch hg
    | succ fu32 ih32 =>
      intro f_this_text f_this_length x2 x4 hg
      unfold g_X12_write_L32 at hg
      refine j_iload hX 2 dX12_write_32 rfl ?_
      refine j_if_lt hX 74 hg dX12_write_34 (by decide) (fun hg => ?_) (fun hg => ?_)
      · refine j_aload_n hX 0 dX12_write_74 rfl rfl ?_
        refine j_get hX 0 1 rfl rfl hinX12 rfl hf_X12_length_70 rfl dX12_write_75 ?_
        cases hg
        exact hret _ _ dX12_write_78
      · refine j_aload_n hX 0 dX12_write_37 rfl rfl ?_
        refine j_get hX 0 0 rfl rfl hinX12 rfl hf_X12_text_7 rfl dX12_write_38 ?_
        refine j_aload_n hX 0 dX12_write_41 rfl rfl ?_
        refine j_get hX 0 1 rfl rfl hinX12 rfl hf_X12_length_70 rfl dX12_write_42 ?_
        refine j_lload_n hX 1 dX12_write_45 rfl rfl ?_
        refine j_bipush hX dX12_write_46 kb_8 ?_
        refine j_iload hX 2 dX12_write_48 rfl ?_
        refine j_imul hX dX12_write_50 ?_
        refine j_lshr hX dX12_write_51 ?_
        refine j_ldc2 hX (v := 255) (by decide +kernel) dX12_write_52 ?_
        refine j_land hX dX12_write_55 ?_
        refine j_l2i hX dX12_write_56 ?_
        refine j_iast hX hW 1 rfl hg dX12_write_57 (ws' := (w_X12_write G q_this q_this_text v_this_book v_this_draft v_this_s v_this_kept v_this_keptMany v_this_acts v_this_actMany v_this_row v_this_rowMany v_this_tells v_this_tellMany v_this_at v_this_told v_this_place v_this_sort v_this_minute v_this_when v_this_isHeard v_this_goneBy v_this_stand v_this_many v_this_standing (upd f_this_text f_this_length.toNatClampNeg (((x2 >>> ((8 * x4).toInt64 &&& 63)) &&& 255 : Int64).toInt32)) f_this_length)) rfl (fun hg => ?_)
        refine j_aload_n hX 0 dX12_write_58 rfl rfl ?_
        refine j_dup hX dX12_write_59 rfl ?_
        refine j_get hX 0 1 rfl rfl hinX12 rfl hf_X12_length_70 rfl dX12_write_60 ?_
        refine j_iconst hX dX12_write_63 kc_1 ?_
        refine j_iadd hX dX12_write_64 ?_
        refine j_put hX hW 0 1 rfl rfl hinX12 tyX12 tyX12_ok nmX12 rfl hf_X12_length_70 rfl rfl rfl rfl dX12_write_65 (ws' := (w_X12_write G q_this q_this_text v_this_book v_this_draft v_this_s v_this_kept v_this_keptMany v_this_acts v_this_actMany v_this_row v_this_rowMany v_this_tells v_this_tellMany v_this_at v_this_told v_this_place v_this_sort v_this_minute v_this_when v_this_isHeard v_this_goneBy v_this_stand v_this_many v_this_standing (upd f_this_text f_this_length.toNatClampNeg (((x2 >>> ((8 * x4).toInt64 &&& 63)) &&& 255 : Int64).toInt32)) (f_this_length + 1))) rfl ?_
        refine j_iinc hX 2 (v := x4 + (-1)) (lv' := [(4, .int (x4 + (-1))), (0, .ref q_this), (2, .long x2)]) dX12_write_68 rfl (by rw [kc_m1]) rfl rfl ?_
        refine j_goto hX 32 dX12_write_71 (by decide) ?_
        refine j_lv [1, 2, 0] rfl ?_
        exact ih32 _ _ _ _ hg
  have hg := hu
  unfold g_X12_write at hg
  refine j_iload_n hX 1 dX12_write_0 rfl rfl ?_
  refine j_iconst hX dX12_write_1 kc_1 ?_
  refine j_bipush hX dX12_write_2 kb_8 ?_
  refine j_sRO hX (r := fun v => v) [.int x1, .int 1, .int 8] hg (fun v hv => c_X12_in l G N x1 1 8 v hv) gX12_write_X12_in rfl ⟨rfl, rfl⟩ ⟨by decide, by decide, rfl⟩ rfl rfl [] rfl dX12_write_4 rfl rfl ⟨Nat.zero_le _, Nat.zero_le _⟩ (fun v4 hg => ?_)
  refine j_if_ne hX 12 hg dX12_write_7 (by decide) (fun hg => ?_) (fun hg => ?_)
  · refine j_iconst hX dX12_write_10 kc_m1 ?_
    cases hg
    exact hret _ _ dX12_write_11
  · refine j_aload_n hX 0 dX12_write_12 rfl rfl ?_
    refine j_get hX 0 1 rfl rfl hinX12 rfl hf_X12_length_70 rfl dX12_write_13 ?_
    refine j_iload_n hX 1 dX12_write_16 rfl rfl ?_
    refine j_iadd hX dX12_write_17 ?_
    refine j_sipush hX dX12_write_18 ks_300 ?_
    refine j_icmp_le hX 27 hg dX12_write_21 (by decide) (fun hg => ?_) (fun hg => ?_)
    · refine j_iload_n hX 1 dX12_write_27 rfl rfl ?_
      refine j_iconst hX dX12_write_28 kc_1 ?_
      refine j_isub hX dX12_write_29 ?_
      refine j_istore hX (lv' := [(4, .int (x1 - 1)), (0, .ref q_this), (1, .int x1), (2, .long x2)]) dX12_write_30 rfl rfl ?_
      refine j_lv [1, 3, 0] rfl ?_
      exact L32 N _ _ _ _ hg
    · refine j_bipush hX dX12_write_24 kb_m3 ?_
      cases hg
      exact hret _ _ dX12_write_26
abbrev w_X12_wipe (G : jG) (q_this : Nat) (v_this_text : Value) (v_this_book : Value) (v_this_draft : Value) (v_this_s : Value) (v_this_kept : Value) (v_this_keptMany : Value) (v_this_acts : Value) (v_this_actMany : Value) (v_this_row : Value) (v_this_rowMany : Value) (v_this_tells : Value) (v_this_tellMany : Value) (v_this_at : Value) (v_this_told : Value) (v_this_place : Value) (v_this_sort : Value) (v_this_minute : Value) (v_this_when : Value) (v_this_isHeard : Value) (v_this_goneBy : Value) (v_this_stand : Value) (v_this_many : Value) (v_this_standing : Value) (f_this_length : Int32) : va_W := [oC q_this 12 [v_this_text, .int f_this_length, v_this_book, v_this_draft, v_this_s, v_this_kept, v_this_keptMany, v_this_acts, v_this_actMany, v_this_row, v_this_rowMany, v_this_tells, v_this_tellMany, v_this_at, v_this_told, v_this_place, v_this_sort, v_this_minute, v_this_when, v_this_isHeard, v_this_goneBy, v_this_stand, v_this_many, v_this_standing]]
def g_X12_wipe (N : Nat) (f_this_length : Int32) : Option (Int32 × Int32) := some (f_this_length, 0)
set_option maxHeartbeats 4000000 in
set_option maxRecDepth 100000 in
theorem c_X12_wipe (l : Launch) (G : jG) (N : Nat) (q_this : Nat) (v_this_text : Value) (v_this_book : Value) (v_this_draft : Value) (v_this_s : Value) (v_this_kept : Value) (v_this_keptMany : Value) (v_this_acts : Value) (v_this_actMany : Value) (v_this_row : Value) (v_this_rowMany : Value) (v_this_tells : Value) (v_this_tellMany : Value) (v_this_at : Value) (v_this_told : Value) (v_this_place : Value) (v_this_sort : Value) (v_this_minute : Value) (v_this_when : Value) (v_this_isHeard : Value) (v_this_goneBy : Value) (v_this_stand : Value) (v_this_many : Value) (v_this_standing : Value) (f_this_length : Int32) (u : Int32 × Int32) (hu : g_X12_wipe N f_this_length = some u) : MetRW l G yX12_wipe wsX12_wipe ({ frames := 0, cells := 0, slots := 0, locals := 0 } : Room) [.ref q_this] (w_X12_wipe G q_this v_this_text v_this_book v_this_draft v_this_s v_this_kept v_this_keptMany v_this_acts v_this_actMany v_this_row v_this_rowMany v_this_tells v_this_tellMany v_this_at v_this_told v_this_place v_this_sort v_this_minute v_this_when v_this_isHeard v_this_goneBy v_this_stand v_this_many v_this_standing f_this_length) (w_X12_wipe G q_this v_this_text v_this_book v_this_draft v_this_s v_this_kept v_this_keptMany v_this_acts v_this_actMany v_this_row v_this_rowMany v_this_tells v_this_tellMany v_this_at v_this_told v_this_place v_this_sort v_this_minute v_this_when v_this_isHeard v_this_goneBy v_this_stand v_this_many v_this_standing u.2) u.1 := by
  refine met_rwi (cc := cX12_wipe) (maxL := 2) (lv0 := [(0, .ref q_this)]) (by decide) rfl rfl rfl rfl (fun X hX hW hret => ?_)
  have hinX12 : ∀ w ∈ u_ws RX12 TX12 24, w ∈ wsX12_wipe := by decide +kernel
  have hf_X12_length_70 : Cond.fieldLink RX12 70 (TX12 1).1 (TX12 1).2.1 (TX12 1).2.2.1 ∈ wsX12_wipe := by decide +kernel
  have hg := hu
  unfold g_X12_wipe at hg
  refine j_aload_n hX 0 dX12_wipe_0 rfl rfl ?_
  refine j_get hX 0 1 rfl rfl hinX12 rfl hf_X12_length_70 rfl dX12_wipe_1 ?_
  refine j_istore_n hX (lv' := [(1, .int f_this_length), (0, .ref q_this)]) dX12_wipe_4 rfl rfl rfl ?_
  refine j_aload_n hX 1 dX12_wipe_5 rfl rfl ?_
  refine j_iconst hX dX12_wipe_6 kc_0 ?_
  refine j_put hX hW 0 1 rfl rfl hinX12 tyX12 tyX12_ok nmX12 rfl hf_X12_length_70 rfl rfl rfl rfl dX12_wipe_7 (ws' := (w_X12_wipe G q_this v_this_text v_this_book v_this_draft v_this_s v_this_kept v_this_keptMany v_this_acts v_this_actMany v_this_row v_this_rowMany v_this_tells v_this_tellMany v_this_at v_this_told v_this_place v_this_sort v_this_minute v_this_when v_this_isHeard v_this_goneBy v_this_stand v_this_many v_this_standing 0)) rfl ?_
  refine j_iload_n hX 0 dX12_wipe_10 rfl rfl ?_
  cases hg
  exact hret _ _ dX12_wipe_11
abbrev w_X12_byteAt (G : jG) (q_this : Nat) (q_this_text : Nat) (v_this_book : Value) (v_this_draft : Value) (v_this_s : Value) (v_this_kept : Value) (v_this_keptMany : Value) (v_this_acts : Value) (v_this_actMany : Value) (v_this_row : Value) (v_this_rowMany : Value) (v_this_tells : Value) (v_this_tellMany : Value) (v_this_at : Value) (v_this_told : Value) (v_this_place : Value) (v_this_sort : Value) (v_this_minute : Value) (v_this_when : Value) (v_this_isHeard : Value) (v_this_goneBy : Value) (v_this_stand : Value) (v_this_many : Value) (v_this_standing : Value) (f_this_text : (Nat → Int32)) (f_this_length : Int32) : va_W := [oC q_this 12 [.ref q_this_text, .int f_this_length, v_this_book, v_this_draft, v_this_s, v_this_kept, v_this_keptMany, v_this_acts, v_this_actMany, v_this_row, v_this_rowMany, v_this_tells, v_this_tellMany, v_this_at, v_this_told, v_this_place, v_this_sort, v_this_minute, v_this_when, v_this_isHeard, v_this_goneBy, v_this_stand, v_this_many, v_this_standing], aI G q_this_text 300 f_this_text]
def g_X12_byteAt (N : Nat) (f_this_text : (Nat → Int32)) (f_this_length : Int32) (x1 : Int32) : Option (Int32) := if f_this_length ≤ x1 then some (-1) else gi x1 300 (some (f_this_text x1.toNatClampNeg))
set_option maxHeartbeats 4000000 in
set_option maxRecDepth 100000 in
theorem c_X12_byteAt (l : Launch) (G : jG) (N : Nat) (q_this : Nat) (q_this_text : Nat) (v_this_book : Value) (v_this_draft : Value) (v_this_s : Value) (v_this_kept : Value) (v_this_keptMany : Value) (v_this_acts : Value) (v_this_actMany : Value) (v_this_row : Value) (v_this_rowMany : Value) (v_this_tells : Value) (v_this_tellMany : Value) (v_this_at : Value) (v_this_told : Value) (v_this_place : Value) (v_this_sort : Value) (v_this_minute : Value) (v_this_when : Value) (v_this_isHeard : Value) (v_this_goneBy : Value) (v_this_stand : Value) (v_this_many : Value) (v_this_standing : Value) (f_this_text : (Nat → Int32)) (f_this_length : Int32) (x1 : Int32) (u : Int32) (hu : g_X12_byteAt N f_this_text f_this_length x1 = some u) : MetRO l G yX12_byteAt wsX12_byteAt ({ frames := 0, cells := 0, slots := 0, locals := 0 } : Room) [.ref q_this, .int x1] (w_X12_byteAt G q_this q_this_text v_this_book v_this_draft v_this_s v_this_kept v_this_keptMany v_this_acts v_this_actMany v_this_row v_this_rowMany v_this_tells v_this_tellMany v_this_at v_this_told v_this_place v_this_sort v_this_minute v_this_when v_this_isHeard v_this_goneBy v_this_stand v_this_many v_this_standing f_this_text f_this_length) u := by
  refine met_roi (cc := cX12_byteAt) (maxL := 2) (lv0 := [(0, .ref q_this), (1, .int x1)]) (by decide) rfl rfl rfl rfl (fun X hX hret => ?_)
  have hinX12 : ∀ w ∈ u_ws RX12 TX12 24, w ∈ wsX12_byteAt := by decide +kernel
  have hf_X12_length_70 : Cond.fieldLink RX12 70 (TX12 1).1 (TX12 1).2.1 (TX12 1).2.2.1 ∈ wsX12_byteAt := by decide +kernel
  have hf_X12_text_7 : Cond.fieldLink RX12 7 (TX12 0).1 (TX12 0).2.1 (TX12 0).2.2.1 ∈ wsX12_byteAt := by decide +kernel
  have hg := hu
  unfold g_X12_byteAt at hg
  refine j_iload_n hX 1 dX12_byteAt_0 rfl rfl ?_
  refine j_aload_n hX 0 dX12_byteAt_1 rfl rfl ?_
  refine j_get hX 0 1 rfl rfl hinX12 rfl hf_X12_length_70 rfl dX12_byteAt_2 ?_
  refine j_icmp_ge hX 17 hg dX12_byteAt_5 (by decide) (fun hg => ?_) (fun hg => ?_)
  · refine j_iconst hX dX12_byteAt_17 kc_m1 ?_
    cases hg
    exact hret _ _ dX12_byteAt_18
  · refine j_aload_n hX 0 dX12_byteAt_8 rfl rfl ?_
    refine j_get hX 0 0 rfl rfl hinX12 rfl hf_X12_text_7 rfl dX12_byteAt_9 ?_
    refine j_iload_n hX 1 dX12_byteAt_12 rfl rfl ?_
    refine j_iald hX 1 rfl hg dX12_byteAt_13 (fun hg => ?_)
    refine j_goto hX 18 dX12_byteAt_14 (by decide) ?_
    cases hg
    exact hret _ _ dX12_byteAt_18
abbrev w_X12_isFigure (G : jG) (q_this : Nat) (q_this_text : Nat) (v_this_book : Value) (v_this_draft : Value) (v_this_s : Value) (v_this_kept : Value) (v_this_keptMany : Value) (v_this_acts : Value) (v_this_actMany : Value) (v_this_row : Value) (v_this_rowMany : Value) (v_this_tells : Value) (v_this_tellMany : Value) (v_this_told : Value) (v_this_place : Value) (v_this_sort : Value) (v_this_minute : Value) (v_this_when : Value) (v_this_isHeard : Value) (v_this_goneBy : Value) (v_this_stand : Value) (v_this_many : Value) (v_this_standing : Value) (f_this_text : (Nat → Int32)) (f_this_length : Int32) (f_this_at : Int32) : va_W := [oC q_this 12 [.ref q_this_text, .int f_this_length, v_this_book, v_this_draft, v_this_s, v_this_kept, v_this_keptMany, v_this_acts, v_this_actMany, v_this_row, v_this_rowMany, v_this_tells, v_this_tellMany, .int f_this_at, v_this_told, v_this_place, v_this_sort, v_this_minute, v_this_when, v_this_isHeard, v_this_goneBy, v_this_stand, v_this_many, v_this_standing], aI G q_this_text 300 f_this_text]
def g_X12_isFigure (N : Nat) (f_this_text : (Nat → Int32)) (f_this_length : Int32) (f_this_at : Int32) (x1 : Int32) : Option (Int32) := (g_X12_byteAt N f_this_text f_this_length f_this_at).bind fun v5 => (g_X12_in N v5 48 (48 + x1)).bind fun v14 => gb v14 (some v14)
set_option maxHeartbeats 4000000 in
set_option maxRecDepth 100000 in
theorem c_X12_isFigure (l : Launch) (G : jG) (N : Nat) (q_this : Nat) (q_this_text : Nat) (v_this_book : Value) (v_this_draft : Value) (v_this_s : Value) (v_this_kept : Value) (v_this_keptMany : Value) (v_this_acts : Value) (v_this_actMany : Value) (v_this_row : Value) (v_this_rowMany : Value) (v_this_tells : Value) (v_this_tellMany : Value) (v_this_told : Value) (v_this_place : Value) (v_this_sort : Value) (v_this_minute : Value) (v_this_when : Value) (v_this_isHeard : Value) (v_this_goneBy : Value) (v_this_stand : Value) (v_this_many : Value) (v_this_standing : Value) (f_this_text : (Nat → Int32)) (f_this_length : Int32) (f_this_at : Int32) (x1 : Int32) (u : Int32) (hu : g_X12_isFigure N f_this_text f_this_length f_this_at x1 = some u) : MetRO l G yX12_isFigure wsX12_isFigure ({ frames := 1, cells := 0, slots := 0, locals := 22 } : Room) [.ref q_this, .int x1] (w_X12_isFigure G q_this q_this_text v_this_book v_this_draft v_this_s v_this_kept v_this_keptMany v_this_acts v_this_actMany v_this_row v_this_rowMany v_this_tells v_this_tellMany v_this_told v_this_place v_this_sort v_this_minute v_this_when v_this_isHeard v_this_goneBy v_this_stand v_this_many v_this_standing f_this_text f_this_length f_this_at) u := by
  refine met_roz (cc := cX12_isFigure) (maxL := 2) (lv0 := [(0, .ref q_this), (1, .int x1)]) (by decide) rfl rfl rfl rfl (fun X hX hret => ?_)
  have hinX12 : ∀ w ∈ u_ws RX12 TX12 24, w ∈ wsX12_isFigure := by decide +kernel
  have hf_X12_at_76 : Cond.fieldLink RX12 76 (TX12 13).1 (TX12 13).2.1 (TX12 13).2.2.1 ∈ wsX12_isFigure := by decide +kernel
  have hg := hu
  unfold g_X12_isFigure at hg
  refine j_aload_n hX 0 dX12_isFigure_0 rfl rfl ?_
  refine j_aload_n hX 0 dX12_isFigure_1 rfl rfl ?_
  refine j_get hX 0 13 rfl rfl hinX12 rfl hf_X12_at_76 rfl dX12_isFigure_2 ?_
  refine j_vRO hX (r := fun v => v) [.int f_this_at] hg (fun v hv => c_X12_byteAt l G N q_this q_this_text v_this_book v_this_draft v_this_s v_this_kept v_this_keptMany v_this_acts v_this_actMany v_this_row v_this_rowMany v_this_tells v_this_tellMany (.int f_this_at) v_this_told v_this_place v_this_sort v_this_minute v_this_when v_this_isHeard v_this_goneBy v_this_stand v_this_many v_this_standing f_this_text f_this_length f_this_at v hv) gX12_isFigure_X12_byteAt rfl ⟨rfl, rfl⟩ ⟨rfl, by decide, by decide, rfl⟩ rfl rfl [0, 1] rfl rfl rfl dX12_isFigure_5 rfl rfl ⟨Nat.zero_le _, Nat.zero_le _⟩ (fun v5 hg => ?_)
  refine j_bipush hX dX12_isFigure_8 kb_48 ?_
  refine j_bipush hX dX12_isFigure_10 kb_48 ?_
  refine j_iload_n hX 1 dX12_isFigure_12 rfl rfl ?_
  refine j_iadd hX dX12_isFigure_13 ?_
  refine j_sRO hX (r := fun v => v) [.int v5, .int 48, .int (48 + x1)] hg (fun v hv => c_X12_in l G N v5 48 (48 + x1) v hv) gX12_isFigure_X12_in rfl ⟨rfl, rfl⟩ ⟨by decide, by decide, rfl⟩ rfl rfl [] rfl dX12_isFigure_14 rfl rfl ⟨Nat.zero_le _, Nat.zero_le _⟩ (fun v14 hg => ?_)
  obtain ⟨hb, hg⟩ := gb_some hg
  cases hg
  exact hret _ _ hb dX12_isFigure_17
abbrev w_X12_numbers (G : jG) (q_this : Nat) (q_this_text : Nat) (q_this_told : Nat) (v_this_book : Value) (v_this_draft : Value) (v_this_s : Value) (v_this_kept : Value) (v_this_keptMany : Value) (v_this_acts : Value) (v_this_actMany : Value) (v_this_row : Value) (v_this_rowMany : Value) (v_this_tells : Value) (v_this_tellMany : Value) (v_this_place : Value) (v_this_sort : Value) (v_this_minute : Value) (v_this_when : Value) (v_this_isHeard : Value) (v_this_goneBy : Value) (v_this_stand : Value) (v_this_many : Value) (v_this_standing : Value) (f_this_text : (Nat → Int32)) (f_this_length : Int32) (f_this_at : Int32) (f_this_told : (Nat → Int32)) : va_W := [oC q_this 12 [.ref q_this_text, .int f_this_length, v_this_book, v_this_draft, v_this_s, v_this_kept, v_this_keptMany, v_this_acts, v_this_actMany, v_this_row, v_this_rowMany, v_this_tells, v_this_tellMany, .int f_this_at, .ref q_this_told, v_this_place, v_this_sort, v_this_minute, v_this_when, v_this_isHeard, v_this_goneBy, v_this_stand, v_this_many, v_this_standing], aI G q_this_text 300 f_this_text, aI G q_this_told 3 f_this_told]
def g_X12_numbers_b104 (N : Nat) (f_this_text : (Nat → Int32)) (f_this_length : Int32) (rec_2 : Int32 → (Nat → Int32) → Int32 → Int32 → Option (Int32 × Int32 × (Nat → Int32))) (f_this_at : Int32) (f_this_told : (Nat → Int32)) (x1 : Int32) (x2 : Int32) (s0 : Int32) (s1 : Int32) : Option (Int32 × Int32 × (Nat → Int32)) := if s0 = s1 then rec_2 (f_this_at + 1) f_this_told x1 (x2 + 1) else some (0, f_this_at, f_this_told)
def g_X12_numbers_b66 (N : Nat) (f_this_text : (Nat → Int32)) (f_this_length : Int32) (rec_2 : Int32 → (Nat → Int32) → Int32 → Int32 → Option (Int32 × Int32 × (Nat → Int32))) (f_this_at : Int32) (f_this_told : (Nat → Int32)) (x1 : Int32) (x2 : Int32) (x3 : Int32) (x4 : Int32) : Option (Int32 × Int32 × (Nat → Int32)) := gi x2 3 (if f_this_at = x3 then some (0, f_this_at, upd f_this_told x2.toNatClampNeg x4) else (g_X12_byteAt N f_this_text f_this_length f_this_at).bind fun v87 => if (x1 - 1) ≤ x2 then g_X12_numbers_b104 N f_this_text f_this_length rec_2 f_this_at (upd f_this_told x2.toNatClampNeg x4) x1 x2 v87 59 else g_X12_numbers_b104 N f_this_text f_this_length rec_2 f_this_at (upd f_this_told x2.toNatClampNeg x4) x1 x2 v87 44)
def g_X12_numbers_L15 (N : Nat) (f_this_text : (Nat → Int32)) (f_this_length : Int32) (k_66 : Int32 → (Nat → Int32) → Int32 → Int32 → Int32 → Int32 → Option (Int32 × Int32 × (Nat → Int32))) : Nat → Int32 → (Nat → Int32) → Int32 → Int32 → Int32 → Int32 → Option (Int32 × Int32 × (Nat → Int32))
  | 0, _, _, _, _, _, _ => none
  | fu + 1, f_this_at, f_this_told, x1, x2, x3, x4 => if (x3 + 2) ≤ f_this_at then k_66 f_this_at f_this_told x1 x2 x3 x4 else (g_X12_isFigure N f_this_text f_this_length f_this_at 9).bind fun v28 => if v28 = 0 then k_66 f_this_at f_this_told x1 x2 x3 x4 else (g_X12_byteAt N f_this_text f_this_length f_this_at).bind fun v44 => g_X12_numbers_L15 N f_this_text f_this_length k_66 fu (f_this_at + 1) f_this_told x1 x2 x3 (((10 * x4) + v44) - 48)
def g_X12_numbers_L2 (N : Nat) (f_this_text : (Nat → Int32)) (f_this_length : Int32) : Nat → Int32 → (Nat → Int32) → Int32 → Int32 → Option (Int32 × Int32 × (Nat → Int32))
  | 0, _, _, _, _ => none
  | fu + 1, f_this_at, f_this_told, x1, x2 => if x1 ≤ x2 then some (1, f_this_at, f_this_told) else g_X12_numbers_L15 N f_this_text f_this_length (g_X12_numbers_b66 N f_this_text f_this_length (g_X12_numbers_L2 N f_this_text f_this_length fu)) N f_this_at f_this_told x1 x2 f_this_at 0
def g_X12_numbers (N : Nat) (f_this_text : (Nat → Int32)) (f_this_length : Int32) (f_this_at : Int32) (f_this_told : (Nat → Int32)) (x1 : Int32) : Option (Int32 × Int32 × (Nat → Int32)) := g_X12_numbers_L2 N f_this_text f_this_length N f_this_at f_this_told x1 0
set_option maxHeartbeats 4000000 in
set_option maxRecDepth 100000 in
theorem c_X12_numbers (l : Launch) (G : jG) (N : Nat) (q_this : Nat) (q_this_text : Nat) (q_this_told : Nat) (v_this_book : Value) (v_this_draft : Value) (v_this_s : Value) (v_this_kept : Value) (v_this_keptMany : Value) (v_this_acts : Value) (v_this_actMany : Value) (v_this_row : Value) (v_this_rowMany : Value) (v_this_tells : Value) (v_this_tellMany : Value) (v_this_place : Value) (v_this_sort : Value) (v_this_minute : Value) (v_this_when : Value) (v_this_isHeard : Value) (v_this_goneBy : Value) (v_this_stand : Value) (v_this_many : Value) (v_this_standing : Value) (f_this_text : (Nat → Int32)) (f_this_length : Int32) (f_this_at : Int32) (f_this_told : (Nat → Int32)) (x1 : Int32) (u : Int32 × Int32 × (Nat → Int32)) (hu : g_X12_numbers N f_this_text f_this_length f_this_at f_this_told x1 = some u) : MetRW l G yX12_numbers wsX12_numbers ({ frames := 2, cells := 0, slots := 0, locals := 43 } : Room) [.ref q_this, .int x1] (w_X12_numbers G q_this q_this_text q_this_told v_this_book v_this_draft v_this_s v_this_kept v_this_keptMany v_this_acts v_this_actMany v_this_row v_this_rowMany v_this_tells v_this_tellMany v_this_place v_this_sort v_this_minute v_this_when v_this_isHeard v_this_goneBy v_this_stand v_this_many v_this_standing f_this_text f_this_length f_this_at f_this_told) (w_X12_numbers G q_this q_this_text q_this_told v_this_book v_this_draft v_this_s v_this_kept v_this_keptMany v_this_acts v_this_actMany v_this_row v_this_rowMany v_this_tells v_this_tellMany v_this_place v_this_sort v_this_minute v_this_when v_this_isHeard v_this_goneBy v_this_stand v_this_many v_this_standing f_this_text f_this_length u.2.1 u.2.2) u.1 := by
  refine met_rwz (cc := cX12_numbers) (maxL := 5) (lv0 := [(0, .ref q_this), (1, .int x1)]) (by decide) rfl rfl rfl rfl (fun X hX hW hret => ?_)
  have hinX12 : ∀ w ∈ u_ws RX12 TX12 24, w ∈ wsX12_numbers := by decide +kernel
  have hf_X12_at_76 : Cond.fieldLink RX12 76 (TX12 13).1 (TX12 13).2.1 (TX12 13).2.2.1 ∈ wsX12_numbers := by decide +kernel
  have hf_X12_told_34 : Cond.fieldLink RX12 34 (TX12 14).1 (TX12 14).2.1 (TX12 14).2.2.1 ∈ wsX12_numbers := by decide +kernel
  have L2 : ∀ (fu2 : Nat), ∀ (f_this_at : Int32) (f_this_told : (Nat → Int32)) (x1 : Int32) (x2 : Int32), g_X12_numbers_L2 N f_this_text f_this_length fu2 f_this_at f_this_told x1 x2 = some u → J X 0 0 (w_X12_numbers G q_this q_this_text q_this_told v_this_book v_this_draft v_this_s v_this_kept v_this_keptMany v_this_acts v_this_actMany v_this_row v_this_rowMany v_this_tells v_this_tellMany v_this_place v_this_sort v_this_minute v_this_when v_this_isHeard v_this_goneBy v_this_stand v_this_many v_this_standing f_this_text f_this_length f_this_at f_this_told) 2 [(0, .ref q_this), (1, .int x1), (2, .int x2)] [] := by
    intro fu2
    induction fu2 with
    | zero => intro f_this_at f_this_told x1 x2 hg; exact nomatch hg
    | succ fu2 ih2 =>
      have B104 : ∀ (f_this_at : Int32) (f_this_told : (Nat → Int32)) (x1 : Int32) (x2 : Int32) (s0 : Int32) (s1 : Int32), g_X12_numbers_b104 N f_this_text f_this_length (g_X12_numbers_L2 N f_this_text f_this_length fu2) f_this_at f_this_told x1 x2 s0 s1 = some u → J X 0 0 (w_X12_numbers G q_this q_this_text q_this_told v_this_book v_this_draft v_this_s v_this_kept v_this_keptMany v_this_acts v_this_actMany v_this_row v_this_rowMany v_this_tells v_this_tellMany v_this_place v_this_sort v_this_minute v_this_when v_this_isHeard v_this_goneBy v_this_stand v_this_many v_this_standing f_this_text f_this_length f_this_at f_this_told) 104 [(0, .ref q_this), (1, .int x1), (2, .int x2)] [.int s1, .int s0] := by
        intro f_this_at f_this_told x1 x2 s0 s1 hg
        unfold g_X12_numbers_b104 at hg
        refine j_icmp_eq hX 109 hg dX12_numbers_104 (by decide) (fun hg => ?_) (fun hg => ?_)
        · refine j_aload_n hX 0 dX12_numbers_109 rfl rfl ?_
          refine j_dup hX dX12_numbers_110 rfl ?_
          refine j_get hX 0 13 rfl rfl hinX12 rfl hf_X12_at_76 rfl dX12_numbers_111 ?_
          refine j_iconst hX dX12_numbers_114 kc_1 ?_
          refine j_iadd hX dX12_numbers_115 ?_
          refine j_put hX hW 0 13 rfl rfl hinX12 tyX12 tyX12_ok nmX12 rfl hf_X12_at_76 rfl rfl rfl rfl dX12_numbers_116 (ws' := (w_X12_numbers G q_this q_this_text q_this_told v_this_book v_this_draft v_this_s v_this_kept v_this_keptMany v_this_acts v_this_actMany v_this_row v_this_rowMany v_this_tells v_this_tellMany v_this_place v_this_sort v_this_minute v_this_when v_this_isHeard v_this_goneBy v_this_stand v_this_many v_this_standing f_this_text f_this_length (f_this_at + 1) f_this_told)) rfl ?_
          refine j_iinc hX 2 (v := x2 + 1) (lv' := [(2, .int (x2 + 1)), (0, .ref q_this), (1, .int x1)]) dX12_numbers_119 rfl (by rw [kc_1]) rfl rfl ?_
          refine j_goto hX 2 dX12_numbers_122 (by decide) ?_
          refine j_lv [1, 2, 0] rfl ?_
          exact ih2 _ _ _ _ hg
        · refine j_iconst hX dX12_numbers_107 kc_0 ?_
          cases hg
          exact hret _ _ (Or.inl rfl) dX12_numbers_108
      have B66 : ∀ (f_this_at : Int32) (f_this_told : (Nat → Int32)) (x1 : Int32) (x2 : Int32) (x3 : Int32) (x4 : Int32), g_X12_numbers_b66 N f_this_text f_this_length (g_X12_numbers_L2 N f_this_text f_this_length fu2) f_this_at f_this_told x1 x2 x3 x4 = some u → J X 0 0 (w_X12_numbers G q_this q_this_text q_this_told v_this_book v_this_draft v_this_s v_this_kept v_this_keptMany v_this_acts v_this_actMany v_this_row v_this_rowMany v_this_tells v_this_tellMany v_this_place v_this_sort v_this_minute v_this_when v_this_isHeard v_this_goneBy v_this_stand v_this_many v_this_standing f_this_text f_this_length f_this_at f_this_told) 66 [(0, .ref q_this), (1, .int x1), (2, .int x2), (3, .int x3), (4, .int x4)] [] := by
        intro f_this_at f_this_told x1 x2 x3 x4 hg
        unfold g_X12_numbers_b66 at hg
        refine j_aload_n hX 0 dX12_numbers_66 rfl rfl ?_
        refine j_get hX 0 14 rfl rfl hinX12 rfl hf_X12_told_34 rfl dX12_numbers_67 ?_
        refine j_iload_n hX 2 dX12_numbers_70 rfl rfl ?_
        refine j_iload hX 4 dX12_numbers_71 rfl ?_
        refine j_iast hX hW 2 rfl hg dX12_numbers_73 (ws' := (w_X12_numbers G q_this q_this_text q_this_told v_this_book v_this_draft v_this_s v_this_kept v_this_keptMany v_this_acts v_this_actMany v_this_row v_this_rowMany v_this_tells v_this_tellMany v_this_place v_this_sort v_this_minute v_this_when v_this_isHeard v_this_goneBy v_this_stand v_this_many v_this_standing f_this_text f_this_length f_this_at (upd f_this_told x2.toNatClampNeg x4))) rfl (fun hg => ?_)
        refine j_aload_n hX 0 dX12_numbers_74 rfl rfl ?_
        refine j_get hX 0 13 rfl rfl hinX12 rfl hf_X12_at_76 rfl dX12_numbers_75 ?_
        refine j_iload_n hX 3 dX12_numbers_78 rfl rfl ?_
        refine j_icmp_eq hX 107 hg dX12_numbers_79 (by decide) (fun hg => ?_) (fun hg => ?_)
        · refine j_iconst hX dX12_numbers_107 kc_0 ?_
          cases hg
          exact hret _ _ (Or.inl rfl) dX12_numbers_108
        · refine j_aload_n hX 0 dX12_numbers_82 rfl rfl ?_
          refine j_aload_n hX 0 dX12_numbers_83 rfl rfl ?_
          refine j_get hX 0 13 rfl rfl hinX12 rfl hf_X12_at_76 rfl dX12_numbers_84 ?_
          refine j_vRO hX (r := fun v => v) [.int f_this_at] hg (fun v hv => c_X12_byteAt l G N q_this q_this_text v_this_book v_this_draft v_this_s v_this_kept v_this_keptMany v_this_acts v_this_actMany v_this_row v_this_rowMany v_this_tells v_this_tellMany (.int f_this_at) (.ref q_this_told) v_this_place v_this_sort v_this_minute v_this_when v_this_isHeard v_this_goneBy v_this_stand v_this_many v_this_standing f_this_text f_this_length f_this_at v hv) gX12_numbers_X12_byteAt rfl ⟨rfl, rfl⟩ ⟨rfl, by decide, by decide, rfl⟩ rfl rfl [0, 1] rfl rfl rfl dX12_numbers_87 rfl rfl ⟨Nat.zero_le _, Nat.zero_le _⟩ (fun v87 hg => ?_)
          refine j_iload_n hX 2 dX12_numbers_90 rfl rfl ?_
          refine j_iload_n hX 1 dX12_numbers_91 rfl rfl ?_
          refine j_iconst hX dX12_numbers_92 kc_1 ?_
          refine j_isub hX dX12_numbers_93 ?_
          refine j_icmp_ge hX 102 hg dX12_numbers_94 (by decide) (fun hg => ?_) (fun hg => ?_)
          · refine j_bipush hX dX12_numbers_102 kb_59 ?_
            refine j_lv [0, 1, 2] rfl ?_
            exact B104 _ _ _ _ _ _ hg
          · refine j_bipush hX dX12_numbers_97 kb_44 ?_
            refine j_goto hX 104 dX12_numbers_99 (by decide) ?_
            refine j_lv [0, 1, 2] rfl ?_
            exact B104 _ _ _ _ _ _ hg
      have L15 : ∀ (fu15 : Nat), ∀ (f_this_at : Int32) (f_this_told : (Nat → Int32)) (x1 : Int32) (x2 : Int32) (x3 : Int32) (x4 : Int32), g_X12_numbers_L15 N f_this_text f_this_length (g_X12_numbers_b66 N f_this_text f_this_length (g_X12_numbers_L2 N f_this_text f_this_length fu2)) fu15 f_this_at f_this_told x1 x2 x3 x4 = some u → J X 0 0 (w_X12_numbers G q_this q_this_text q_this_told v_this_book v_this_draft v_this_s v_this_kept v_this_keptMany v_this_acts v_this_actMany v_this_row v_this_rowMany v_this_tells v_this_tellMany v_this_place v_this_sort v_this_minute v_this_when v_this_isHeard v_this_goneBy v_this_stand v_this_many v_this_standing f_this_text f_this_length f_this_at f_this_told) 15 [(0, .ref q_this), (1, .int x1), (2, .int x2), (3, .int x3), (4, .int x4)] [] := by
        intro fu15
        induction fu15 with
        | zero => intro f_this_at f_this_told x1 x2 x3 x4 hg; exact nomatch hg
        | succ fu15 ih15 =>
          intro f_this_at f_this_told x1 x2 x3 x4 hg
          unfold g_X12_numbers_L15 at hg
          refine j_aload_n hX 0 dX12_numbers_15 rfl rfl ?_
          refine j_get hX 0 13 rfl rfl hinX12 rfl hf_X12_at_76 rfl dX12_numbers_16 ?_
          refine j_iload_n hX 3 dX12_numbers_19 rfl rfl ?_
          refine j_iconst hX dX12_numbers_20 kc_2 ?_
          refine j_iadd hX dX12_numbers_21 ?_
          refine j_icmp_ge hX 66 hg dX12_numbers_22 (by decide) (fun hg => ?_) (fun hg => ?_)
          · exact B66 _ _ _ _ _ _ hg
          · refine j_aload_n hX 0 dX12_numbers_25 rfl rfl ?_
            refine j_bipush hX dX12_numbers_26 kb_9 ?_
            refine j_vRO hX (r := fun v => v) [.int 9] hg (fun v hv => c_X12_isFigure l G N q_this q_this_text v_this_book v_this_draft v_this_s v_this_kept v_this_keptMany v_this_acts v_this_actMany v_this_row v_this_rowMany v_this_tells v_this_tellMany (.ref q_this_told) v_this_place v_this_sort v_this_minute v_this_when v_this_isHeard v_this_goneBy v_this_stand v_this_many v_this_standing f_this_text f_this_length f_this_at 9 v hv) gX12_numbers_X12_isFigure rfl ⟨rfl, rfl⟩ ⟨rfl, by decide, by decide, rfl⟩ rfl rfl [0, 1] rfl rfl rfl dX12_numbers_28 rfl rfl ⟨Nat.zero_le _, Nat.zero_le _⟩ (fun v28 hg => ?_)
            refine j_if_eq hX 66 hg dX12_numbers_31 (by decide) (fun hg => ?_) (fun hg => ?_)
            · exact B66 _ _ _ _ _ _ hg
            · refine j_bipush hX dX12_numbers_34 kb_10 ?_
              refine j_iload hX 4 dX12_numbers_36 rfl ?_
              refine j_imul hX dX12_numbers_38 ?_
              refine j_aload_n hX 0 dX12_numbers_39 rfl rfl ?_
              refine j_aload_n hX 0 dX12_numbers_40 rfl rfl ?_
              refine j_get hX 0 13 rfl rfl hinX12 rfl hf_X12_at_76 rfl dX12_numbers_41 ?_
              refine j_vRO hX (r := fun v => v) [.int f_this_at] hg (fun v hv => c_X12_byteAt l G N q_this q_this_text v_this_book v_this_draft v_this_s v_this_kept v_this_keptMany v_this_acts v_this_actMany v_this_row v_this_rowMany v_this_tells v_this_tellMany (.int f_this_at) (.ref q_this_told) v_this_place v_this_sort v_this_minute v_this_when v_this_isHeard v_this_goneBy v_this_stand v_this_many v_this_standing f_this_text f_this_length f_this_at v hv) gX12_numbers_X12_byteAt rfl ⟨rfl, rfl⟩ ⟨rfl, by decide, by decide, rfl⟩ rfl rfl [0, 1] rfl rfl rfl dX12_numbers_44 rfl rfl ⟨Nat.zero_le _, Nat.zero_le _⟩ (fun v44 hg => ?_)
              refine j_iadd hX dX12_numbers_47 ?_
              refine j_bipush hX dX12_numbers_48 kb_48 ?_
              refine j_isub hX dX12_numbers_50 ?_
              refine j_istore hX (lv' := [(4, .int (((10 * x4) + v44) - 48)), (0, .ref q_this), (1, .int x1), (2, .int x2), (3, .int x3)]) dX12_numbers_51 rfl rfl ?_
              refine j_aload_n hX 1 dX12_numbers_53 rfl rfl ?_
              refine j_dup hX dX12_numbers_54 rfl ?_
              refine j_get hX 0 13 rfl rfl hinX12 rfl hf_X12_at_76 rfl dX12_numbers_55 ?_
              refine j_iconst hX dX12_numbers_58 kc_1 ?_
              refine j_iadd hX dX12_numbers_59 ?_
              refine j_put hX hW 0 13 rfl rfl hinX12 tyX12 tyX12_ok nmX12 rfl hf_X12_at_76 rfl rfl rfl rfl dX12_numbers_60 (ws' := (w_X12_numbers G q_this q_this_text q_this_told v_this_book v_this_draft v_this_s v_this_kept v_this_keptMany v_this_acts v_this_actMany v_this_row v_this_rowMany v_this_tells v_this_tellMany v_this_place v_this_sort v_this_minute v_this_when v_this_isHeard v_this_goneBy v_this_stand v_this_many v_this_standing f_this_text f_this_length (f_this_at + 1) f_this_told)) rfl ?_
              refine j_goto hX 15 dX12_numbers_63 (by decide) ?_
              refine j_lv [1, 2, 3, 4, 0] rfl ?_
              exact ih15 _ _ _ _ _ _ hg
      intro f_this_at f_this_told x1 x2 hg
      unfold g_X12_numbers_L2 at hg
      refine j_iload_n hX 2 dX12_numbers_2 rfl rfl ?_
      refine j_iload_n hX 1 dX12_numbers_3 rfl rfl ?_
      refine j_icmp_ge hX 125 hg dX12_numbers_4 (by decide) (fun hg => ?_) (fun hg => ?_)
      · refine j_iconst hX dX12_numbers_125 kc_1 ?_
        cases hg
        exact hret _ _ (Or.inr rfl) dX12_numbers_126
      · refine j_aload_n hX 0 dX12_numbers_7 rfl rfl ?_
        refine j_get hX 0 13 rfl rfl hinX12 rfl hf_X12_at_76 rfl dX12_numbers_8 ?_
        refine j_istore_n hX (lv' := [(3, .int f_this_at), (0, .ref q_this), (1, .int x1), (2, .int x2)]) dX12_numbers_11 rfl rfl rfl ?_
        refine j_iconst hX dX12_numbers_12 kc_0 ?_
        refine j_istore hX (lv' := [(4, .int 0), (3, .int f_this_at), (0, .ref q_this), (1, .int x1), (2, .int x2)]) dX12_numbers_13 rfl rfl ?_
        refine j_lv [2, 3, 4, 1, 0] rfl ?_
        exact L15 N _ _ _ _ _ _ hg
  have hg := hu
  unfold g_X12_numbers at hg
  refine j_iconst hX dX12_numbers_0 kc_0 ?_
  refine j_istore_n hX (lv' := [(2, .int 0), (0, .ref q_this), (1, .int x1)]) dX12_numbers_1 rfl rfl rfl ?_
  refine j_lv [1, 2, 0] rfl ?_
  exact L2 N _ _ _ _ hg
abbrev w_X12_one (G : jG) (q_this : Nat) (q_this_text : Nat) (q_this_draft : Nat) (q_this_told : Nat) (v_this_book : Value) (v_this_s : Value) (v_this_kept : Value) (v_this_keptMany : Value) (v_this_acts : Value) (v_this_actMany : Value) (v_this_row : Value) (v_this_rowMany : Value) (v_this_tells : Value) (v_this_tellMany : Value) (v_this_place : Value) (v_this_sort : Value) (v_this_minute : Value) (v_this_when : Value) (v_this_isHeard : Value) (v_this_goneBy : Value) (v_this_stand : Value) (v_this_many : Value) (v_this_standing : Value) (f_this_text : (Nat → Int32)) (f_this_length : Int32) (f_this_draft : (Nat → Int32)) (f_this_at : Int32) (f_this_told : (Nat → Int32)) : va_W := [oC q_this 12 [.ref q_this_text, .int f_this_length, v_this_book, .ref q_this_draft, v_this_s, v_this_kept, v_this_keptMany, v_this_acts, v_this_actMany, v_this_row, v_this_rowMany, v_this_tells, v_this_tellMany, .int f_this_at, .ref q_this_told, v_this_place, v_this_sort, v_this_minute, v_this_when, v_this_isHeard, v_this_goneBy, v_this_stand, v_this_many, v_this_standing], aI G q_this_text 300 f_this_text, aI G q_this_draft 78 f_this_draft, aI G q_this_told 3 f_this_told]
def g_X12_one (N : Nat) (f_this_text : (Nat → Int32)) (f_this_length : Int32) (f_this_draft : (Nat → Int32)) (f_this_at : Int32) (f_this_told : (Nat → Int32)) (x1 : Int32) (x2 : Int32) (x3 : Int32) : Option (Int32 × (Nat → Int32) × Int32 × (Nat → Int32)) := (g_X12_numbers N f_this_text f_this_length f_this_at f_this_told 1).bind fun v2 => if v2.1 = 0 then some (0, f_this_draft, v2.2.1, v2.2.2) else gi 0 3 ((g_X12_in N (v2.2.2 (0 : Int32).toNatClampNeg) x2 x3).bind fun v16 => if v16 = 0 then some (0, f_this_draft, v2.2.1, v2.2.2) else gi 0 3 (gi x1 78 (some (1, upd f_this_draft x1.toNatClampNeg (v2.2.2 (0 : Int32).toNatClampNeg), v2.2.1, v2.2.2))))
set_option maxHeartbeats 4000000 in
set_option maxRecDepth 100000 in
theorem c_X12_one (l : Launch) (G : jG) (N : Nat) (q_this : Nat) (q_this_text : Nat) (q_this_draft : Nat) (q_this_told : Nat) (v_this_book : Value) (v_this_s : Value) (v_this_kept : Value) (v_this_keptMany : Value) (v_this_acts : Value) (v_this_actMany : Value) (v_this_row : Value) (v_this_rowMany : Value) (v_this_tells : Value) (v_this_tellMany : Value) (v_this_place : Value) (v_this_sort : Value) (v_this_minute : Value) (v_this_when : Value) (v_this_isHeard : Value) (v_this_goneBy : Value) (v_this_stand : Value) (v_this_many : Value) (v_this_standing : Value) (f_this_text : (Nat → Int32)) (f_this_length : Int32) (f_this_draft : (Nat → Int32)) (f_this_at : Int32) (f_this_told : (Nat → Int32)) (x1 : Int32) (x2 : Int32) (x3 : Int32) (u : Int32 × (Nat → Int32) × Int32 × (Nat → Int32)) (hu : g_X12_one N f_this_text f_this_length f_this_draft f_this_at f_this_told x1 x2 x3 = some u) : MetRW l G yX12_one wsX12_one ({ frames := 3, cells := 0, slots := 0, locals := 67 } : Room) [.ref q_this, .int x1, .int x2, .int x3] (w_X12_one G q_this q_this_text q_this_draft q_this_told v_this_book v_this_s v_this_kept v_this_keptMany v_this_acts v_this_actMany v_this_row v_this_rowMany v_this_tells v_this_tellMany v_this_place v_this_sort v_this_minute v_this_when v_this_isHeard v_this_goneBy v_this_stand v_this_many v_this_standing f_this_text f_this_length f_this_draft f_this_at f_this_told) (w_X12_one G q_this q_this_text q_this_draft q_this_told v_this_book v_this_s v_this_kept v_this_keptMany v_this_acts v_this_actMany v_this_row v_this_rowMany v_this_tells v_this_tellMany v_this_place v_this_sort v_this_minute v_this_when v_this_isHeard v_this_goneBy v_this_stand v_this_many v_this_standing f_this_text f_this_length u.2.1 u.2.2.1 u.2.2.2) u.1 := by
  refine met_rwz (cc := cX12_one) (maxL := 4) (lv0 := [(0, .ref q_this), (1, .int x1), (2, .int x2), (3, .int x3)]) (by decide) rfl rfl rfl rfl (fun X hX hW hret => ?_)
  have hinX12 : ∀ w ∈ u_ws RX12 TX12 24, w ∈ wsX12_one := by decide +kernel
  have hf_X12_draft_16 : Cond.fieldLink RX12 16 (TX12 3).1 (TX12 3).2.1 (TX12 3).2.2.1 ∈ wsX12_one := by decide +kernel
  have hf_X12_told_34 : Cond.fieldLink RX12 34 (TX12 14).1 (TX12 14).2.1 (TX12 14).2.2.1 ∈ wsX12_one := by decide +kernel
  have hg := hu
  unfold g_X12_one at hg
  refine j_aload_n hX 0 dX12_one_0 rfl rfl ?_
  refine j_iconst hX dX12_one_1 kc_1 ?_
  refine j_vRW hX hW (r := fun v => v.1) (w1 := fun v => (w_X12_numbers G q_this q_this_text q_this_told v_this_book (.ref q_this_draft) v_this_s v_this_kept v_this_keptMany v_this_acts v_this_actMany v_this_row v_this_rowMany v_this_tells v_this_tellMany v_this_place v_this_sort v_this_minute v_this_when v_this_isHeard v_this_goneBy v_this_stand v_this_many v_this_standing f_this_text f_this_length v.2.1 v.2.2)) (ws' := fun v => (w_X12_one G q_this q_this_text q_this_draft q_this_told v_this_book v_this_s v_this_kept v_this_keptMany v_this_acts v_this_actMany v_this_row v_this_rowMany v_this_tells v_this_tellMany v_this_place v_this_sort v_this_minute v_this_when v_this_isHeard v_this_goneBy v_this_stand v_this_many v_this_standing f_this_text f_this_length f_this_draft v.2.1 v.2.2)) [.int 1] hg (fun v hv => c_X12_numbers l G N q_this q_this_text q_this_told v_this_book (.ref q_this_draft) v_this_s v_this_kept v_this_keptMany v_this_acts v_this_actMany v_this_row v_this_rowMany v_this_tells v_this_tellMany v_this_place v_this_sort v_this_minute v_this_when v_this_isHeard v_this_goneBy v_this_stand v_this_many v_this_standing f_this_text f_this_length f_this_at f_this_told 1 v hv) gX12_one_X12_numbers rfl ⟨rfl, rfl⟩ ⟨rfl, by decide, by decide, rfl⟩ rfl rfl [0, 1, 3] rfl (by decide +kernel) rfl rfl dX12_one_2 rfl rfl ⟨Nat.zero_le _, Nat.zero_le _⟩ (fun _ => jn_set [0, 1, 3] rfl rfl rfl) (fun v2 hg => ?_)
  refine j_if_eq hX 22 hg dX12_one_5 (by decide) (fun hg => ?_) (fun hg => ?_)
  · refine j_iconst hX dX12_one_22 kc_0 ?_
    cases hg
    exact hret _ _ (Or.inl rfl) dX12_one_23
  · refine j_aload_n hX 0 dX12_one_8 rfl rfl ?_
    refine j_get hX 0 14 rfl rfl hinX12 rfl hf_X12_told_34 rfl dX12_one_9 ?_
    refine j_iconst hX dX12_one_12 kc_0 ?_
    refine j_iald hX 3 rfl hg dX12_one_13 (fun hg => ?_)
    refine j_iload_n hX 2 dX12_one_14 rfl rfl ?_
    refine j_iload_n hX 3 dX12_one_15 rfl rfl ?_
    refine j_sRO hX (r := fun v => v) [.int (v2.2.2 (0 : Int32).toNatClampNeg), .int x2, .int x3] hg (fun v hv => c_X12_in l G N (v2.2.2 (0 : Int32).toNatClampNeg) x2 x3 v hv) gX12_one_X12_in rfl ⟨rfl, rfl⟩ ⟨by decide, by decide, rfl⟩ rfl rfl [] rfl dX12_one_16 rfl rfl ⟨Nat.zero_le _, Nat.zero_le _⟩ (fun v16 hg => ?_)
    refine j_if_ne hX 24 hg dX12_one_19 (by decide) (fun hg => ?_) (fun hg => ?_)
    · refine j_iconst hX dX12_one_22 kc_0 ?_
      cases hg
      exact hret _ _ (Or.inl rfl) dX12_one_23
    · refine j_aload_n hX 0 dX12_one_24 rfl rfl ?_
      refine j_get hX 0 3 rfl rfl hinX12 rfl hf_X12_draft_16 rfl dX12_one_25 ?_
      refine j_iload_n hX 1 dX12_one_28 rfl rfl ?_
      refine j_aload_n hX 0 dX12_one_29 rfl rfl ?_
      refine j_get hX 0 14 rfl rfl hinX12 rfl hf_X12_told_34 rfl dX12_one_30 ?_
      refine j_iconst hX dX12_one_33 kc_0 ?_
      refine j_iald hX 3 rfl hg dX12_one_34 (fun hg => ?_)
      refine j_iast hX hW 2 rfl hg dX12_one_35 (ws' := (w_X12_one G q_this q_this_text q_this_draft q_this_told v_this_book v_this_s v_this_kept v_this_keptMany v_this_acts v_this_actMany v_this_row v_this_rowMany v_this_tells v_this_tellMany v_this_place v_this_sort v_this_minute v_this_when v_this_isHeard v_this_goneBy v_this_stand v_this_many v_this_standing f_this_text f_this_length (upd f_this_draft x1.toNatClampNeg (v2.2.2 (0 : Int32).toNatClampNeg)) v2.2.1 v2.2.2)) rfl (fun hg => ?_)
      refine j_iconst hX dX12_one_36 kc_1 ?_
      cases hg
      exact hret _ _ (Or.inr rfl) dX12_one_37
abbrev w_X12_crosses (G : jG) (q_this : Nat) (q_this_text : Nat) (q_this_draft : Nat) (q_this_told : Nat) (v_this_book : Value) (v_this_s : Value) (v_this_kept : Value) (v_this_keptMany : Value) (v_this_acts : Value) (v_this_actMany : Value) (v_this_row : Value) (v_this_rowMany : Value) (v_this_tells : Value) (v_this_tellMany : Value) (v_this_place : Value) (v_this_sort : Value) (v_this_minute : Value) (v_this_when : Value) (v_this_isHeard : Value) (v_this_goneBy : Value) (v_this_stand : Value) (v_this_many : Value) (v_this_standing : Value) (f_this_text : (Nat → Int32)) (f_this_length : Int32) (f_this_draft : (Nat → Int32)) (f_this_at : Int32) (f_this_told : (Nat → Int32)) : va_W := [oC q_this 12 [.ref q_this_text, .int f_this_length, v_this_book, .ref q_this_draft, v_this_s, v_this_kept, v_this_keptMany, v_this_acts, v_this_actMany, v_this_row, v_this_rowMany, v_this_tells, v_this_tellMany, .int f_this_at, .ref q_this_told, v_this_place, v_this_sort, v_this_minute, v_this_when, v_this_isHeard, v_this_goneBy, v_this_stand, v_this_many, v_this_standing], aI G q_this_text 300 f_this_text, aI G q_this_draft 78 f_this_draft, aI G q_this_told 3 f_this_told]
def g_X12_crosses (N : Nat) (f_this_text : (Nat → Int32)) (f_this_length : Int32) (f_this_draft : (Nat → Int32)) (f_this_at : Int32) (f_this_told : (Nat → Int32)) : Option (Int32 × (Nat → Int32) × Int32 × (Nat → Int32)) := (g_X12_numbers N f_this_text f_this_length f_this_at f_this_told 3).bind fun v2 => if v2.1 = 0 then some (0, f_this_draft, v2.2.1, v2.2.2) else gi 0 3 (gi 0 78 (if (f_this_draft (0 : Int32).toNatClampNeg) ≤ (v2.2.2 (0 : Int32).toNatClampNeg) then some (0, f_this_draft, v2.2.1, v2.2.2) else gi 1 3 (gi 0 78 (if (f_this_draft (0 : Int32).toNatClampNeg) ≤ (v2.2.2 (1 : Int32).toNatClampNeg) then some (0, f_this_draft, v2.2.1, v2.2.2) else gi 0 3 (gi 1 3 (if (v2.2.2 (0 : Int32).toNatClampNeg) = (v2.2.2 (1 : Int32).toNatClampNeg) then some (0, f_this_draft, v2.2.1, v2.2.2) else gi 2 3 (if (v2.2.2 (2 : Int32).toNatClampNeg) ≤ 60 then gi 0 3 (gi 1 3 (gi 2 3 (gi ((5 + (5 * (v2.2.2 (0 : Int32).toNatClampNeg))) + (v2.2.2 (1 : Int32).toNatClampNeg)) 78 (gi 1 3 (gi 0 3 (gi 2 3 (gi ((5 + (5 * (v2.2.2 (1 : Int32).toNatClampNeg))) + (v2.2.2 (0 : Int32).toNatClampNeg)) 78 (gi 70 78 (some (1, upd (upd (upd f_this_draft ((5 + (5 * (v2.2.2 (0 : Int32).toNatClampNeg))) + (v2.2.2 (1 : Int32).toNatClampNeg) : Int32).toNatClampNeg (v2.2.2 (2 : Int32).toNatClampNeg)) ((5 + (5 * (v2.2.2 (1 : Int32).toNatClampNeg))) + (v2.2.2 (0 : Int32).toNatClampNeg) : Int32).toNatClampNeg (v2.2.2 (2 : Int32).toNatClampNeg)) (70 : Int32).toNatClampNeg 1, v2.2.1, v2.2.2)))))))))) else some (0, f_this_draft, v2.2.1, v2.2.2))))))))
set_option maxHeartbeats 4000000 in
set_option maxRecDepth 100000 in
theorem c_X12_crosses (l : Launch) (G : jG) (N : Nat) (q_this : Nat) (q_this_text : Nat) (q_this_draft : Nat) (q_this_told : Nat) (v_this_book : Value) (v_this_s : Value) (v_this_kept : Value) (v_this_keptMany : Value) (v_this_acts : Value) (v_this_actMany : Value) (v_this_row : Value) (v_this_rowMany : Value) (v_this_tells : Value) (v_this_tellMany : Value) (v_this_place : Value) (v_this_sort : Value) (v_this_minute : Value) (v_this_when : Value) (v_this_isHeard : Value) (v_this_goneBy : Value) (v_this_stand : Value) (v_this_many : Value) (v_this_standing : Value) (f_this_text : (Nat → Int32)) (f_this_length : Int32) (f_this_draft : (Nat → Int32)) (f_this_at : Int32) (f_this_told : (Nat → Int32)) (u : Int32 × (Nat → Int32) × Int32 × (Nat → Int32)) (hu : g_X12_crosses N f_this_text f_this_length f_this_draft f_this_at f_this_told = some u) : MetRW l G yX12_crosses wsX12_crosses ({ frames := 3, cells := 0, slots := 0, locals := 67 } : Room) [.ref q_this] (w_X12_crosses G q_this q_this_text q_this_draft q_this_told v_this_book v_this_s v_this_kept v_this_keptMany v_this_acts v_this_actMany v_this_row v_this_rowMany v_this_tells v_this_tellMany v_this_place v_this_sort v_this_minute v_this_when v_this_isHeard v_this_goneBy v_this_stand v_this_many v_this_standing f_this_text f_this_length f_this_draft f_this_at f_this_told) (w_X12_crosses G q_this q_this_text q_this_draft q_this_told v_this_book v_this_s v_this_kept v_this_keptMany v_this_acts v_this_actMany v_this_row v_this_rowMany v_this_tells v_this_tellMany v_this_place v_this_sort v_this_minute v_this_when v_this_isHeard v_this_goneBy v_this_stand v_this_many v_this_standing f_this_text f_this_length u.2.1 u.2.2.1 u.2.2.2) u.1 := by
  refine met_rwz (cc := cX12_crosses) (maxL := 1) (lv0 := [(0, .ref q_this)]) (by decide) rfl rfl rfl rfl (fun X hX hW hret => ?_)
  have hinX12 : ∀ w ∈ u_ws RX12 TX12 24, w ∈ wsX12_crosses := by decide +kernel
  have hf_X12_draft_16 : Cond.fieldLink RX12 16 (TX12 3).1 (TX12 3).2.1 (TX12 3).2.2.1 ∈ wsX12_crosses := by decide +kernel
  have hf_X12_told_34 : Cond.fieldLink RX12 34 (TX12 14).1 (TX12 14).2.1 (TX12 14).2.2.1 ∈ wsX12_crosses := by decide +kernel
  have hg := hu
  unfold g_X12_crosses at hg
  refine j_aload_n hX 0 dX12_crosses_0 rfl rfl ?_
  refine j_iconst hX dX12_crosses_1 kc_3 ?_
  refine j_vRW hX hW (r := fun v => v.1) (w1 := fun v => (w_X12_numbers G q_this q_this_text q_this_told v_this_book (.ref q_this_draft) v_this_s v_this_kept v_this_keptMany v_this_acts v_this_actMany v_this_row v_this_rowMany v_this_tells v_this_tellMany v_this_place v_this_sort v_this_minute v_this_when v_this_isHeard v_this_goneBy v_this_stand v_this_many v_this_standing f_this_text f_this_length v.2.1 v.2.2)) (ws' := fun v => (w_X12_crosses G q_this q_this_text q_this_draft q_this_told v_this_book v_this_s v_this_kept v_this_keptMany v_this_acts v_this_actMany v_this_row v_this_rowMany v_this_tells v_this_tellMany v_this_place v_this_sort v_this_minute v_this_when v_this_isHeard v_this_goneBy v_this_stand v_this_many v_this_standing f_this_text f_this_length f_this_draft v.2.1 v.2.2)) [.int 3] hg (fun v hv => c_X12_numbers l G N q_this q_this_text q_this_told v_this_book (.ref q_this_draft) v_this_s v_this_kept v_this_keptMany v_this_acts v_this_actMany v_this_row v_this_rowMany v_this_tells v_this_tellMany v_this_place v_this_sort v_this_minute v_this_when v_this_isHeard v_this_goneBy v_this_stand v_this_many v_this_standing f_this_text f_this_length f_this_at f_this_told 3 v hv) gX12_crosses_X12_numbers rfl ⟨rfl, rfl⟩ ⟨rfl, by decide, by decide, rfl⟩ rfl rfl [0, 1, 3] rfl (by decide +kernel) rfl rfl dX12_crosses_2 rfl rfl ⟨Nat.zero_le _, Nat.zero_le _⟩ (fun _ => jn_set [0, 1, 3] rfl rfl rfl) (fun v2 hg => ?_)
  refine j_if_eq hX 64 hg dX12_crosses_5 (by decide) (fun hg => ?_) (fun hg => ?_)
  · refine j_iconst hX dX12_crosses_64 kc_0 ?_
    cases hg
    exact hret _ _ (Or.inl rfl) dX12_crosses_65
  · refine j_aload_n hX 0 dX12_crosses_8 rfl rfl ?_
    refine j_get hX 0 14 rfl rfl hinX12 rfl hf_X12_told_34 rfl dX12_crosses_9 ?_
    refine j_iconst hX dX12_crosses_12 kc_0 ?_
    refine j_iald hX 3 rfl hg dX12_crosses_13 (fun hg => ?_)
    refine j_aload_n hX 0 dX12_crosses_14 rfl rfl ?_
    refine j_get hX 0 3 rfl rfl hinX12 rfl hf_X12_draft_16 rfl dX12_crosses_15 ?_
    refine j_iconst hX dX12_crosses_18 kc_0 ?_
    refine j_iald hX 2 rfl hg dX12_crosses_19 (fun hg => ?_)
    refine j_icmp_ge hX 64 hg dX12_crosses_20 (by decide) (fun hg => ?_) (fun hg => ?_)
    · refine j_iconst hX dX12_crosses_64 kc_0 ?_
      cases hg
      exact hret _ _ (Or.inl rfl) dX12_crosses_65
    · refine j_aload_n hX 0 dX12_crosses_23 rfl rfl ?_
      refine j_get hX 0 14 rfl rfl hinX12 rfl hf_X12_told_34 rfl dX12_crosses_24 ?_
      refine j_iconst hX dX12_crosses_27 kc_1 ?_
      refine j_iald hX 3 rfl hg dX12_crosses_28 (fun hg => ?_)
      refine j_aload_n hX 0 dX12_crosses_29 rfl rfl ?_
      refine j_get hX 0 3 rfl rfl hinX12 rfl hf_X12_draft_16 rfl dX12_crosses_30 ?_
      refine j_iconst hX dX12_crosses_33 kc_0 ?_
      refine j_iald hX 2 rfl hg dX12_crosses_34 (fun hg => ?_)
      refine j_icmp_ge hX 64 hg dX12_crosses_35 (by decide) (fun hg => ?_) (fun hg => ?_)
      · refine j_iconst hX dX12_crosses_64 kc_0 ?_
        cases hg
        exact hret _ _ (Or.inl rfl) dX12_crosses_65
      · refine j_aload_n hX 0 dX12_crosses_38 rfl rfl ?_
        refine j_get hX 0 14 rfl rfl hinX12 rfl hf_X12_told_34 rfl dX12_crosses_39 ?_
        refine j_iconst hX dX12_crosses_42 kc_0 ?_
        refine j_iald hX 3 rfl hg dX12_crosses_43 (fun hg => ?_)
        refine j_aload_n hX 0 dX12_crosses_44 rfl rfl ?_
        refine j_get hX 0 14 rfl rfl hinX12 rfl hf_X12_told_34 rfl dX12_crosses_45 ?_
        refine j_iconst hX dX12_crosses_48 kc_1 ?_
        refine j_iald hX 3 rfl hg dX12_crosses_49 (fun hg => ?_)
        refine j_icmp_eq hX 64 hg dX12_crosses_50 (by decide) (fun hg => ?_) (fun hg => ?_)
        · refine j_iconst hX dX12_crosses_64 kc_0 ?_
          cases hg
          exact hret _ _ (Or.inl rfl) dX12_crosses_65
        · refine j_aload_n hX 0 dX12_crosses_53 rfl rfl ?_
          refine j_get hX 0 14 rfl rfl hinX12 rfl hf_X12_told_34 rfl dX12_crosses_54 ?_
          refine j_iconst hX dX12_crosses_57 kc_2 ?_
          refine j_iald hX 3 rfl hg dX12_crosses_58 (fun hg => ?_)
          refine j_bipush hX dX12_crosses_59 kb_60 ?_
          refine j_icmp_le hX 66 hg dX12_crosses_61 (by decide) (fun hg => ?_) (fun hg => ?_)
          · refine j_aload_n hX 0 dX12_crosses_66 rfl rfl ?_
            refine j_get hX 0 3 rfl rfl hinX12 rfl hf_X12_draft_16 rfl dX12_crosses_67 ?_
            refine j_iconst hX dX12_crosses_70 kc_5 ?_
            refine j_iconst hX dX12_crosses_71 kc_5 ?_
            refine j_aload_n hX 0 dX12_crosses_72 rfl rfl ?_
            refine j_get hX 0 14 rfl rfl hinX12 rfl hf_X12_told_34 rfl dX12_crosses_73 ?_
            refine j_iconst hX dX12_crosses_76 kc_0 ?_
            refine j_iald hX 3 rfl hg dX12_crosses_77 (fun hg => ?_)
            refine j_imul hX dX12_crosses_78 ?_
            refine j_iadd hX dX12_crosses_79 ?_
            refine j_aload_n hX 0 dX12_crosses_80 rfl rfl ?_
            refine j_get hX 0 14 rfl rfl hinX12 rfl hf_X12_told_34 rfl dX12_crosses_81 ?_
            refine j_iconst hX dX12_crosses_84 kc_1 ?_
            refine j_iald hX 3 rfl hg dX12_crosses_85 (fun hg => ?_)
            refine j_iadd hX dX12_crosses_86 ?_
            refine j_aload_n hX 0 dX12_crosses_87 rfl rfl ?_
            refine j_get hX 0 14 rfl rfl hinX12 rfl hf_X12_told_34 rfl dX12_crosses_88 ?_
            refine j_iconst hX dX12_crosses_91 kc_2 ?_
            refine j_iald hX 3 rfl hg dX12_crosses_92 (fun hg => ?_)
            refine j_iast hX hW 2 rfl hg dX12_crosses_93 (ws' := (w_X12_crosses G q_this q_this_text q_this_draft q_this_told v_this_book v_this_s v_this_kept v_this_keptMany v_this_acts v_this_actMany v_this_row v_this_rowMany v_this_tells v_this_tellMany v_this_place v_this_sort v_this_minute v_this_when v_this_isHeard v_this_goneBy v_this_stand v_this_many v_this_standing f_this_text f_this_length (upd f_this_draft ((5 + (5 * (v2.2.2 (0 : Int32).toNatClampNeg))) + (v2.2.2 (1 : Int32).toNatClampNeg) : Int32).toNatClampNeg (v2.2.2 (2 : Int32).toNatClampNeg)) v2.2.1 v2.2.2)) rfl (fun hg => ?_)
            refine j_aload_n hX 0 dX12_crosses_94 rfl rfl ?_
            refine j_get hX 0 3 rfl rfl hinX12 rfl hf_X12_draft_16 rfl dX12_crosses_95 ?_
            refine j_iconst hX dX12_crosses_98 kc_5 ?_
            refine j_iconst hX dX12_crosses_99 kc_5 ?_
            refine j_aload_n hX 0 dX12_crosses_100 rfl rfl ?_
            refine j_get hX 0 14 rfl rfl hinX12 rfl hf_X12_told_34 rfl dX12_crosses_101 ?_
            refine j_iconst hX dX12_crosses_104 kc_1 ?_
            refine j_iald hX 3 rfl hg dX12_crosses_105 (fun hg => ?_)
            refine j_imul hX dX12_crosses_106 ?_
            refine j_iadd hX dX12_crosses_107 ?_
            refine j_aload_n hX 0 dX12_crosses_108 rfl rfl ?_
            refine j_get hX 0 14 rfl rfl hinX12 rfl hf_X12_told_34 rfl dX12_crosses_109 ?_
            refine j_iconst hX dX12_crosses_112 kc_0 ?_
            refine j_iald hX 3 rfl hg dX12_crosses_113 (fun hg => ?_)
            refine j_iadd hX dX12_crosses_114 ?_
            refine j_aload_n hX 0 dX12_crosses_115 rfl rfl ?_
            refine j_get hX 0 14 rfl rfl hinX12 rfl hf_X12_told_34 rfl dX12_crosses_116 ?_
            refine j_iconst hX dX12_crosses_119 kc_2 ?_
            refine j_iald hX 3 rfl hg dX12_crosses_120 (fun hg => ?_)
            refine j_iast hX hW 2 rfl hg dX12_crosses_121 (ws' := (w_X12_crosses G q_this q_this_text q_this_draft q_this_told v_this_book v_this_s v_this_kept v_this_keptMany v_this_acts v_this_actMany v_this_row v_this_rowMany v_this_tells v_this_tellMany v_this_place v_this_sort v_this_minute v_this_when v_this_isHeard v_this_goneBy v_this_stand v_this_many v_this_standing f_this_text f_this_length (upd (upd f_this_draft ((5 + (5 * (v2.2.2 (0 : Int32).toNatClampNeg))) + (v2.2.2 (1 : Int32).toNatClampNeg) : Int32).toNatClampNeg (v2.2.2 (2 : Int32).toNatClampNeg)) ((5 + (5 * (v2.2.2 (1 : Int32).toNatClampNeg))) + (v2.2.2 (0 : Int32).toNatClampNeg) : Int32).toNatClampNeg (v2.2.2 (2 : Int32).toNatClampNeg)) v2.2.1 v2.2.2)) rfl (fun hg => ?_)
            refine j_aload_n hX 0 dX12_crosses_122 rfl rfl ?_
            refine j_get hX 0 3 rfl rfl hinX12 rfl hf_X12_draft_16 rfl dX12_crosses_123 ?_
            refine j_bipush hX dX12_crosses_126 kb_70 ?_
            refine j_iconst hX dX12_crosses_128 kc_1 ?_
            refine j_iast hX hW 2 rfl hg dX12_crosses_129 (ws' := (w_X12_crosses G q_this q_this_text q_this_draft q_this_told v_this_book v_this_s v_this_kept v_this_keptMany v_this_acts v_this_actMany v_this_row v_this_rowMany v_this_tells v_this_tellMany v_this_place v_this_sort v_this_minute v_this_when v_this_isHeard v_this_goneBy v_this_stand v_this_many v_this_standing f_this_text f_this_length (upd (upd (upd f_this_draft ((5 + (5 * (v2.2.2 (0 : Int32).toNatClampNeg))) + (v2.2.2 (1 : Int32).toNatClampNeg) : Int32).toNatClampNeg (v2.2.2 (2 : Int32).toNatClampNeg)) ((5 + (5 * (v2.2.2 (1 : Int32).toNatClampNeg))) + (v2.2.2 (0 : Int32).toNatClampNeg) : Int32).toNatClampNeg (v2.2.2 (2 : Int32).toNatClampNeg)) (70 : Int32).toNatClampNeg 1) v2.2.1 v2.2.2)) rfl (fun hg => ?_)
            refine j_iconst hX dX12_crosses_130 kc_1 ?_
            cases hg
            exact hret _ _ (Or.inr rfl) dX12_crosses_131
          · refine j_iconst hX dX12_crosses_64 kc_0 ?_
            cases hg
            exact hret _ _ (Or.inl rfl) dX12_crosses_65
abbrev w_X12_isTwice (G : jG) (q_this : Nat) (q_this_draft : Nat) (v_this_text : Value) (v_this_length : Value) (v_this_book : Value) (v_this_s : Value) (v_this_kept : Value) (v_this_keptMany : Value) (v_this_acts : Value) (v_this_actMany : Value) (v_this_row : Value) (v_this_rowMany : Value) (v_this_tells : Value) (v_this_tellMany : Value) (v_this_at : Value) (v_this_told : Value) (v_this_place : Value) (v_this_sort : Value) (v_this_minute : Value) (v_this_when : Value) (v_this_isHeard : Value) (v_this_goneBy : Value) (v_this_stand : Value) (v_this_many : Value) (v_this_standing : Value) (f_this_draft : (Nat → Int32)) : va_W := [oC q_this 12 [v_this_text, v_this_length, v_this_book, .ref q_this_draft, v_this_s, v_this_kept, v_this_keptMany, v_this_acts, v_this_actMany, v_this_row, v_this_rowMany, v_this_tells, v_this_tellMany, v_this_at, v_this_told, v_this_place, v_this_sort, v_this_minute, v_this_when, v_this_isHeard, v_this_goneBy, v_this_stand, v_this_many, v_this_standing], aI G q_this_draft 78 f_this_draft]
def g_X12_isTwice_b117 (N : Nat) (f_this_draft : (Nat → Int32)) (rec_4 : Int32 → Int32 → Int32 → Option (Int32)) (x1 : Int32) (x3 : Int32) (s0 : Int32) : Option (Int32) := rec_4 x1 s0 (x3 + 1)
def g_X12_isTwice_b112 (N : Nat) (f_this_draft : (Nat → Int32)) (rec_4 : Int32 → Int32 → Int32 → Option (Int32)) (x1 : Int32) (x3 : Int32) : Option (Int32) := g_X12_isTwice_b117 N f_this_draft rec_4 x1 x3 1
def g_X12_isTwice_b103 (N : Nat) (f_this_draft : (Nat → Int32)) (rec_4 : Int32 → Int32 → Int32 → Option (Int32)) (x1 : Int32) (x2 : Int32) (x3 : Int32) (x4 : Int32) : Option (Int32) := if x2 = 0 then if x4 = 0 then g_X12_isTwice_b117 N f_this_draft rec_4 x1 x3 0 else g_X12_isTwice_b112 N f_this_draft rec_4 x1 x3 else g_X12_isTwice_b112 N f_this_draft rec_4 x1 x3
def g_X12_isTwice_b95 (N : Nat) (f_this_draft : (Nat → Int32)) (rec_40 : Int32 → Int32 → Int32 → Int32 → Int32 → Option (Int32)) (x1 : Int32) (x2 : Int32) (x3 : Int32) (x5 : Int32) (s0 : Int32) : Option (Int32) := rec_40 x1 x2 x3 s0 (x5 + 1)
def g_X12_isTwice_b94 (N : Nat) (f_this_draft : (Nat → Int32)) (rec_40 : Int32 → Int32 → Int32 → Int32 → Int32 → Option (Int32)) (x1 : Int32) (x2 : Int32) (x3 : Int32) (x5 : Int32) : Option (Int32) := g_X12_isTwice_b95 N f_this_draft rec_40 x1 x2 x3 x5 0
def g_X12_isTwice_L40 (N : Nat) (f_this_draft : (Nat → Int32)) (k_103 : Int32 → Int32 → Int32 → Int32 → Option (Int32)) : Nat → Int32 → Int32 → Int32 → Int32 → Int32 → Option (Int32)
  | 0, _, _, _, _, _ => none
  | fu + 1, x1, x2, x3, x4, x5 => gi (30 + x1) 78 (if (f_this_draft (30 + x1 : Int32).toNatClampNeg) ≤ x5 then k_103 x1 x2 x3 x4 else if x4 = 0 then g_X12_isTwice_b94 N f_this_draft (g_X12_isTwice_L40 N f_this_draft k_103 fu) x1 x2 x3 x5 else gi ((38 + (4 * x3)) + x5) 78 (gi ((38 + (4 * x1)) + x5) 78 (if (f_this_draft ((38 + (4 * x3)) + x5 : Int32).toNatClampNeg) = (f_this_draft ((38 + (4 * x1)) + x5 : Int32).toNatClampNeg) then g_X12_isTwice_b95 N f_this_draft (g_X12_isTwice_L40 N f_this_draft k_103 fu) x1 x2 x3 x5 1 else g_X12_isTwice_b94 N f_this_draft (g_X12_isTwice_L40 N f_this_draft k_103 fu) x1 x2 x3 x5)))
def g_X12_isTwice_b35 (N : Nat) (f_this_draft : (Nat → Int32)) (rec_4 : Int32 → Int32 → Int32 → Option (Int32)) (x1 : Int32) (x2 : Int32) (x3 : Int32) (s0 : Int32) : Option (Int32) := g_X12_isTwice_L40 N f_this_draft (g_X12_isTwice_b103 N f_this_draft rec_4) N x1 x2 x3 s0 0
def g_X12_isTwice_L4 (N : Nat) (f_this_draft : (Nat → Int32)) : Nat → Int32 → Int32 → Int32 → Option (Int32)
  | 0, _, _, _ => none
  | fu + 1, x1, x2, x3 => if x1 ≤ x3 then gb x2 (some x2) else gi (30 + x3) 78 (gi (30 + x1) 78 (if (f_this_draft (30 + x3 : Int32).toNatClampNeg) = (f_this_draft (30 + x1 : Int32).toNatClampNeg) then g_X12_isTwice_b35 N f_this_draft (g_X12_isTwice_L4 N f_this_draft fu) x1 x2 x3 1 else g_X12_isTwice_b35 N f_this_draft (g_X12_isTwice_L4 N f_this_draft fu) x1 x2 x3 0))
def g_X12_isTwice (N : Nat) (f_this_draft : (Nat → Int32)) (x1 : Int32) : Option (Int32) := g_X12_isTwice_L4 N f_this_draft N x1 0 0
set_option maxHeartbeats 4000000 in
set_option maxRecDepth 100000 in
theorem c_X12_isTwice (l : Launch) (G : jG) (N : Nat) (q_this : Nat) (q_this_draft : Nat) (v_this_text : Value) (v_this_length : Value) (v_this_book : Value) (v_this_s : Value) (v_this_kept : Value) (v_this_keptMany : Value) (v_this_acts : Value) (v_this_actMany : Value) (v_this_row : Value) (v_this_rowMany : Value) (v_this_tells : Value) (v_this_tellMany : Value) (v_this_at : Value) (v_this_told : Value) (v_this_place : Value) (v_this_sort : Value) (v_this_minute : Value) (v_this_when : Value) (v_this_isHeard : Value) (v_this_goneBy : Value) (v_this_stand : Value) (v_this_many : Value) (v_this_standing : Value) (f_this_draft : (Nat → Int32)) (x1 : Int32) (u : Int32) (hu : g_X12_isTwice N f_this_draft x1 = some u) : MetRO l G yX12_isTwice wsX12_isTwice ({ frames := 0, cells := 0, slots := 0, locals := 0 } : Room) [.ref q_this, .int x1] (w_X12_isTwice G q_this q_this_draft v_this_text v_this_length v_this_book v_this_s v_this_kept v_this_keptMany v_this_acts v_this_actMany v_this_row v_this_rowMany v_this_tells v_this_tellMany v_this_at v_this_told v_this_place v_this_sort v_this_minute v_this_when v_this_isHeard v_this_goneBy v_this_stand v_this_many v_this_standing f_this_draft) u := by
  refine met_roz (cc := cX12_isTwice) (maxL := 6) (lv0 := [(0, .ref q_this), (1, .int x1)]) (by decide) rfl rfl rfl rfl (fun X hX hret => ?_)
  have hinX12 : ∀ w ∈ u_ws RX12 TX12 24, w ∈ wsX12_isTwice := by decide +kernel
  have hf_X12_draft_16 : Cond.fieldLink RX12 16 (TX12 3).1 (TX12 3).2.1 (TX12 3).2.2.1 ∈ wsX12_isTwice := by decide +kernel
  have L4 : ∀ (fu4 : Nat), ∀ (x1 : Int32) (x2 : Int32) (x3 : Int32), g_X12_isTwice_L4 N f_this_draft fu4 x1 x2 x3 = some u → J X 0 0 (w_X12_isTwice G q_this q_this_draft v_this_text v_this_length v_this_book v_this_s v_this_kept v_this_keptMany v_this_acts v_this_actMany v_this_row v_this_rowMany v_this_tells v_this_tellMany v_this_at v_this_told v_this_place v_this_sort v_this_minute v_this_when v_this_isHeard v_this_goneBy v_this_stand v_this_many v_this_standing f_this_draft) 4 [(0, .ref q_this), (1, .int x1), (2, .int x2), (3, .int x3)] [] := by
    intro fu4
    induction fu4 with
    | zero => intro x1 x2 x3 hg; exact nomatch hg
    | succ fu4 ih4 =>
      have B117 : ∀ (x1 : Int32) (x3 : Int32) (s0 : Int32), g_X12_isTwice_b117 N f_this_draft (g_X12_isTwice_L4 N f_this_draft fu4) x1 x3 s0 = some u → J X 0 0 (w_X12_isTwice G q_this q_this_draft v_this_text v_this_length v_this_book v_this_s v_this_kept v_this_keptMany v_this_acts v_this_actMany v_this_row v_this_rowMany v_this_tells v_this_tellMany v_this_at v_this_told v_this_place v_this_sort v_this_minute v_this_when v_this_isHeard v_this_goneBy v_this_stand v_this_many v_this_standing f_this_draft) 117 [(0, .ref q_this), (1, .int x1), (3, .int x3)] [.int s0] := by
        intro x1 x3 s0 hg
        unfold g_X12_isTwice_b117 at hg
        refine j_istore_n hX (lv' := [(2, .int s0), (0, .ref q_this), (1, .int x1), (3, .int x3)]) dX12_isTwice_117 rfl rfl rfl ?_
        refine j_iinc hX 3 (v := x3 + 1) (lv' := [(3, .int (x3 + 1)), (2, .int s0), (0, .ref q_this), (1, .int x1)]) dX12_isTwice_118 rfl (by rw [kc_1]) rfl rfl ?_
        refine j_goto hX 4 dX12_isTwice_121 (by decide) ?_
        refine j_lv [2, 3, 1, 0] rfl ?_
        exact ih4 _ _ _ hg
      have B112 : ∀ (x1 : Int32) (x3 : Int32), g_X12_isTwice_b112 N f_this_draft (g_X12_isTwice_L4 N f_this_draft fu4) x1 x3 = some u → J X 0 0 (w_X12_isTwice G q_this q_this_draft v_this_text v_this_length v_this_book v_this_s v_this_kept v_this_keptMany v_this_acts v_this_actMany v_this_row v_this_rowMany v_this_tells v_this_tellMany v_this_at v_this_told v_this_place v_this_sort v_this_minute v_this_when v_this_isHeard v_this_goneBy v_this_stand v_this_many v_this_standing f_this_draft) 112 [(0, .ref q_this), (1, .int x1), (3, .int x3)] [] := by
        intro x1 x3 hg
        unfold g_X12_isTwice_b112 at hg
        refine j_iconst hX dX12_isTwice_112 kc_1 ?_
        refine j_goto hX 117 dX12_isTwice_113 (by decide) ?_
        exact B117 _ _ _ hg
      have B103 : ∀ (x1 : Int32) (x2 : Int32) (x3 : Int32) (x4 : Int32), g_X12_isTwice_b103 N f_this_draft (g_X12_isTwice_L4 N f_this_draft fu4) x1 x2 x3 x4 = some u → J X 0 0 (w_X12_isTwice G q_this q_this_draft v_this_text v_this_length v_this_book v_this_s v_this_kept v_this_keptMany v_this_acts v_this_actMany v_this_row v_this_rowMany v_this_tells v_this_tellMany v_this_at v_this_told v_this_place v_this_sort v_this_minute v_this_when v_this_isHeard v_this_goneBy v_this_stand v_this_many v_this_standing f_this_draft) 103 [(0, .ref q_this), (1, .int x1), (2, .int x2), (3, .int x3), (4, .int x4)] [] := by
        intro x1 x2 x3 x4 hg
        unfold g_X12_isTwice_b103 at hg
        refine j_iload_n hX 2 dX12_isTwice_103 rfl rfl ?_
        refine j_if_ne hX 112 hg dX12_isTwice_104 (by decide) (fun hg => ?_) (fun hg => ?_)
        · refine j_iload hX 4 dX12_isTwice_107 rfl ?_
          refine j_if_eq hX 116 hg dX12_isTwice_109 (by decide) (fun hg => ?_) (fun hg => ?_)
          · refine j_iconst hX dX12_isTwice_116 kc_0 ?_
            refine j_lv [0, 1, 3] rfl ?_
            exact B117 _ _ _ hg
          · refine j_lv [0, 1, 3] rfl ?_
            exact B112 _ _ hg
        · refine j_lv [0, 1, 3] rfl ?_
          exact B112 _ _ hg
      have L40 : ∀ (fu40 : Nat), ∀ (x1 : Int32) (x2 : Int32) (x3 : Int32) (x4 : Int32) (x5 : Int32), g_X12_isTwice_L40 N f_this_draft (g_X12_isTwice_b103 N f_this_draft (g_X12_isTwice_L4 N f_this_draft fu4)) fu40 x1 x2 x3 x4 x5 = some u → J X 0 0 (w_X12_isTwice G q_this q_this_draft v_this_text v_this_length v_this_book v_this_s v_this_kept v_this_keptMany v_this_acts v_this_actMany v_this_row v_this_rowMany v_this_tells v_this_tellMany v_this_at v_this_told v_this_place v_this_sort v_this_minute v_this_when v_this_isHeard v_this_goneBy v_this_stand v_this_many v_this_standing f_this_draft) 40 [(0, .ref q_this), (1, .int x1), (2, .int x2), (3, .int x3), (4, .int x4), (5, .int x5)] [] := by
        intro fu40
        induction fu40 with
        | zero => intro x1 x2 x3 x4 x5 hg; exact nomatch hg
        | succ fu40 ih40 =>
          have B95 : ∀ (x1 : Int32) (x2 : Int32) (x3 : Int32) (x5 : Int32) (s0 : Int32), g_X12_isTwice_b95 N f_this_draft (g_X12_isTwice_L40 N f_this_draft (g_X12_isTwice_b103 N f_this_draft (g_X12_isTwice_L4 N f_this_draft fu4)) fu40) x1 x2 x3 x5 s0 = some u → J X 0 0 (w_X12_isTwice G q_this q_this_draft v_this_text v_this_length v_this_book v_this_s v_this_kept v_this_keptMany v_this_acts v_this_actMany v_this_row v_this_rowMany v_this_tells v_this_tellMany v_this_at v_this_told v_this_place v_this_sort v_this_minute v_this_when v_this_isHeard v_this_goneBy v_this_stand v_this_many v_this_standing f_this_draft) 95 [(0, .ref q_this), (1, .int x1), (2, .int x2), (3, .int x3), (5, .int x5)] [.int s0] := by
            intro x1 x2 x3 x5 s0 hg
            unfold g_X12_isTwice_b95 at hg
            refine j_istore hX (lv' := [(4, .int s0), (0, .ref q_this), (1, .int x1), (2, .int x2), (3, .int x3), (5, .int x5)]) dX12_isTwice_95 rfl rfl ?_
            refine j_iinc hX 5 (v := x5 + 1) (lv' := [(5, .int (x5 + 1)), (4, .int s0), (0, .ref q_this), (1, .int x1), (2, .int x2), (3, .int x3)]) dX12_isTwice_97 rfl (by rw [kc_1]) rfl rfl ?_
            refine j_goto hX 40 dX12_isTwice_100 (by decide) ?_
            refine j_lv [2, 3, 4, 5, 1, 0] rfl ?_
            exact ih40 _ _ _ _ _ hg
          have B94 : ∀ (x1 : Int32) (x2 : Int32) (x3 : Int32) (x5 : Int32), g_X12_isTwice_b94 N f_this_draft (g_X12_isTwice_L40 N f_this_draft (g_X12_isTwice_b103 N f_this_draft (g_X12_isTwice_L4 N f_this_draft fu4)) fu40) x1 x2 x3 x5 = some u → J X 0 0 (w_X12_isTwice G q_this q_this_draft v_this_text v_this_length v_this_book v_this_s v_this_kept v_this_keptMany v_this_acts v_this_actMany v_this_row v_this_rowMany v_this_tells v_this_tellMany v_this_at v_this_told v_this_place v_this_sort v_this_minute v_this_when v_this_isHeard v_this_goneBy v_this_stand v_this_many v_this_standing f_this_draft) 94 [(0, .ref q_this), (1, .int x1), (2, .int x2), (3, .int x3), (5, .int x5)] [] := by
            intro x1 x2 x3 x5 hg
            unfold g_X12_isTwice_b94 at hg
            refine j_iconst hX dX12_isTwice_94 kc_0 ?_
            exact B95 _ _ _ _ _ hg
          intro x1 x2 x3 x4 x5 hg
          unfold g_X12_isTwice_L40 at hg
          refine j_iload hX 5 dX12_isTwice_40 rfl ?_
          refine j_aload_n hX 0 dX12_isTwice_42 rfl rfl ?_
          refine j_get hX 0 3 rfl rfl hinX12 rfl hf_X12_draft_16 rfl dX12_isTwice_43 ?_
          refine j_bipush hX dX12_isTwice_46 kb_30 ?_
          refine j_iload_n hX 1 dX12_isTwice_48 rfl rfl ?_
          refine j_iadd hX dX12_isTwice_49 ?_
          refine j_iald hX 1 rfl hg dX12_isTwice_50 (fun hg => ?_)
          refine j_icmp_ge hX 103 hg dX12_isTwice_51 (by decide) (fun hg => ?_) (fun hg => ?_)
          · refine j_lv [0, 1, 2, 3, 4] rfl ?_
            exact B103 _ _ _ _ hg
          · refine j_iload hX 4 dX12_isTwice_54 rfl ?_
            refine j_if_eq hX 94 hg dX12_isTwice_56 (by decide) (fun hg => ?_) (fun hg => ?_)
            · refine j_lv [0, 1, 2, 3, 5] rfl ?_
              exact B94 _ _ _ _ hg
            · refine j_aload_n hX 0 dX12_isTwice_59 rfl rfl ?_
              refine j_get hX 0 3 rfl rfl hinX12 rfl hf_X12_draft_16 rfl dX12_isTwice_60 ?_
              refine j_bipush hX dX12_isTwice_63 kb_38 ?_
              refine j_iconst hX dX12_isTwice_65 kc_4 ?_
              refine j_iload_n hX 3 dX12_isTwice_66 rfl rfl ?_
              refine j_imul hX dX12_isTwice_67 ?_
              refine j_iadd hX dX12_isTwice_68 ?_
              refine j_iload hX 5 dX12_isTwice_69 rfl ?_
              refine j_iadd hX dX12_isTwice_71 ?_
              refine j_iald hX 1 rfl hg dX12_isTwice_72 (fun hg => ?_)
              refine j_aload_n hX 0 dX12_isTwice_73 rfl rfl ?_
              refine j_get hX 0 3 rfl rfl hinX12 rfl hf_X12_draft_16 rfl dX12_isTwice_74 ?_
              refine j_bipush hX dX12_isTwice_77 kb_38 ?_
              refine j_iconst hX dX12_isTwice_79 kc_4 ?_
              refine j_iload_n hX 1 dX12_isTwice_80 rfl rfl ?_
              refine j_imul hX dX12_isTwice_81 ?_
              refine j_iadd hX dX12_isTwice_82 ?_
              refine j_iload hX 5 dX12_isTwice_83 rfl ?_
              refine j_iadd hX dX12_isTwice_85 ?_
              refine j_iald hX 1 rfl hg dX12_isTwice_86 (fun hg => ?_)
              refine j_icmp_ne hX 94 hg dX12_isTwice_87 (by decide) (fun hg => ?_) (fun hg => ?_)
              · refine j_iconst hX dX12_isTwice_90 kc_1 ?_
                refine j_goto hX 95 dX12_isTwice_91 (by decide) ?_
                refine j_lv [0, 1, 2, 3, 5] rfl ?_
                exact B95 _ _ _ _ _ hg
              · refine j_lv [0, 1, 2, 3, 5] rfl ?_
                exact B94 _ _ _ _ hg
      have B35 : ∀ (x1 : Int32) (x2 : Int32) (x3 : Int32) (s0 : Int32), g_X12_isTwice_b35 N f_this_draft (g_X12_isTwice_L4 N f_this_draft fu4) x1 x2 x3 s0 = some u → J X 0 0 (w_X12_isTwice G q_this q_this_draft v_this_text v_this_length v_this_book v_this_s v_this_kept v_this_keptMany v_this_acts v_this_actMany v_this_row v_this_rowMany v_this_tells v_this_tellMany v_this_at v_this_told v_this_place v_this_sort v_this_minute v_this_when v_this_isHeard v_this_goneBy v_this_stand v_this_many v_this_standing f_this_draft) 35 [(0, .ref q_this), (1, .int x1), (2, .int x2), (3, .int x3)] [.int s0] := by
        intro x1 x2 x3 s0 hg
        unfold g_X12_isTwice_b35 at hg
        refine j_istore hX (lv' := [(4, .int s0), (0, .ref q_this), (1, .int x1), (2, .int x2), (3, .int x3)]) dX12_isTwice_35 rfl rfl ?_
        refine j_iconst hX dX12_isTwice_37 kc_0 ?_
        refine j_istore hX (lv' := [(5, .int 0), (4, .int s0), (0, .ref q_this), (1, .int x1), (2, .int x2), (3, .int x3)]) dX12_isTwice_38 rfl rfl ?_
        refine j_lv [2, 3, 4, 5, 1, 0] rfl ?_
        exact L40 N _ _ _ _ _ hg
      intro x1 x2 x3 hg
      unfold g_X12_isTwice_L4 at hg
      refine j_iload_n hX 3 dX12_isTwice_4 rfl rfl ?_
      refine j_iload_n hX 1 dX12_isTwice_5 rfl rfl ?_
      refine j_icmp_ge hX 124 hg dX12_isTwice_6 (by decide) (fun hg => ?_) (fun hg => ?_)
      · refine j_iload_n hX 2 dX12_isTwice_124 rfl rfl ?_
        obtain ⟨hb, hg⟩ := gb_some hg
        cases hg
        exact hret _ _ hb dX12_isTwice_125
      · refine j_aload_n hX 0 dX12_isTwice_9 rfl rfl ?_
        refine j_get hX 0 3 rfl rfl hinX12 rfl hf_X12_draft_16 rfl dX12_isTwice_10 ?_
        refine j_bipush hX dX12_isTwice_13 kb_30 ?_
        refine j_iload_n hX 3 dX12_isTwice_15 rfl rfl ?_
        refine j_iadd hX dX12_isTwice_16 ?_
        refine j_iald hX 1 rfl hg dX12_isTwice_17 (fun hg => ?_)
        refine j_aload_n hX 0 dX12_isTwice_18 rfl rfl ?_
        refine j_get hX 0 3 rfl rfl hinX12 rfl hf_X12_draft_16 rfl dX12_isTwice_19 ?_
        refine j_bipush hX dX12_isTwice_22 kb_30 ?_
        refine j_iload_n hX 1 dX12_isTwice_24 rfl rfl ?_
        refine j_iadd hX dX12_isTwice_25 ?_
        refine j_iald hX 1 rfl hg dX12_isTwice_26 (fun hg => ?_)
        refine j_icmp_ne hX 34 hg dX12_isTwice_27 (by decide) (fun hg => ?_) (fun hg => ?_)
        · refine j_iconst hX dX12_isTwice_30 kc_1 ?_
          refine j_goto hX 35 dX12_isTwice_31 (by decide) ?_
          exact B35 _ _ _ _ hg
        · refine j_iconst hX dX12_isTwice_34 kc_0 ?_
          exact B35 _ _ _ _ hg
  have hg := hu
  unfold g_X12_isTwice at hg
  refine j_iconst hX dX12_isTwice_0 kc_0 ?_
  refine j_istore_n hX (lv' := [(2, .int 0), (0, .ref q_this), (1, .int x1)]) dX12_isTwice_1 rfl rfl rfl ?_
  refine j_iconst hX dX12_isTwice_2 kc_0 ?_
  refine j_istore_n hX (lv' := [(3, .int 0), (2, .int 0), (0, .ref q_this), (1, .int x1)]) dX12_isTwice_3 rfl rfl rfl ?_
  refine j_lv [2, 3, 1, 0] rfl ?_
  exact L4 N _ _ _ hg
abbrev w_X12_words (G : jG) (q_this : Nat) (q_this_text : Nat) (q_this_draft : Nat) (v_this_book : Value) (v_this_s : Value) (v_this_kept : Value) (v_this_keptMany : Value) (v_this_acts : Value) (v_this_actMany : Value) (v_this_row : Value) (v_this_rowMany : Value) (v_this_tells : Value) (v_this_tellMany : Value) (v_this_told : Value) (v_this_place : Value) (v_this_sort : Value) (v_this_minute : Value) (v_this_when : Value) (v_this_isHeard : Value) (v_this_goneBy : Value) (v_this_stand : Value) (v_this_many : Value) (v_this_standing : Value) (f_this_text : (Nat → Int32)) (f_this_length : Int32) (f_this_draft : (Nat → Int32)) (f_this_at : Int32) : va_W := [oC q_this 12 [.ref q_this_text, .int f_this_length, v_this_book, .ref q_this_draft, v_this_s, v_this_kept, v_this_keptMany, v_this_acts, v_this_actMany, v_this_row, v_this_rowMany, v_this_tells, v_this_tellMany, .int f_this_at, v_this_told, v_this_place, v_this_sort, v_this_minute, v_this_when, v_this_isHeard, v_this_goneBy, v_this_stand, v_this_many, v_this_standing], aI G q_this_text 300 f_this_text, aI G q_this_draft 78 f_this_draft]
def g_X12_words_b69 (N : Nat) (f_this_text : (Nat → Int32)) (f_this_length : Int32) (f_this_draft : (Nat → Int32)) (f_this_at : Int32) (x1 : Int32) (x2 : Int32) : Option (Int32 × (Nat → Int32) × Int32) := if x2 = 0 then some (0, f_this_draft, f_this_at) else (g_X12_byteAt N f_this_text f_this_length f_this_at).bind fun v78 => if v78 = 59 then gi (30 + x1) 78 (gi 4 78 (gi 4 78 ((g_X12_isTwice N (upd (upd f_this_draft (30 + x1 : Int32).toNatClampNeg x2) (4 : Int32).toNatClampNeg (((upd f_this_draft (30 + x1 : Int32).toNatClampNeg x2) (4 : Int32).toNatClampNeg) + 1)) x1).bind fun v120 => if v120 = 0 then some (1, upd (upd f_this_draft (30 + x1 : Int32).toNatClampNeg x2) (4 : Int32).toNatClampNeg (((upd f_this_draft (30 + x1 : Int32).toNatClampNeg x2) (4 : Int32).toNatClampNeg) + 1), f_this_at + 1) else some (0, upd (upd f_this_draft (30 + x1 : Int32).toNatClampNeg x2) (4 : Int32).toNatClampNeg (((upd f_this_draft (30 + x1 : Int32).toNatClampNeg x2) (4 : Int32).toNatClampNeg) + 1), f_this_at + 1)))) else some (0, f_this_draft, f_this_at)
def g_X12_words_L9 (N : Nat) (f_this_text : (Nat → Int32)) (f_this_length : Int32) (k_69 : (Nat → Int32) → Int32 → Int32 → Int32 → Option (Int32 × (Nat → Int32) × Int32)) : Nat → (Nat → Int32) → Int32 → Int32 → Int32 → Option (Int32 × (Nat → Int32) × Int32)
  | 0, _, _, _, _ => none
  | fu + 1, f_this_draft, f_this_at, x1, x2 => if (8 : Int32) ≤ x1 then k_69 f_this_draft f_this_at x1 x2 else if (4 : Int32) ≤ x2 then k_69 f_this_draft f_this_at x1 x2 else (g_X12_isFigure N f_this_text f_this_length f_this_at 7).bind fun v23 => if v23 = 0 then k_69 f_this_draft f_this_at x1 x2 else (g_X12_byteAt N f_this_text f_this_length f_this_at).bind fun v46 => gi ((38 + (4 * x1)) + x2) 78 (g_X12_words_L9 N f_this_text f_this_length k_69 fu (upd f_this_draft ((38 + (4 * x1)) + x2 : Int32).toNatClampNeg (v46 - 48)) (f_this_at + 1) x1 (x2 + 1))
def g_X12_words (N : Nat) (f_this_text : (Nat → Int32)) (f_this_length : Int32) (f_this_draft : (Nat → Int32)) (f_this_at : Int32) : Option (Int32 × (Nat → Int32) × Int32) := gi 4 78 (g_X12_words_L9 N f_this_text f_this_length (g_X12_words_b69 N f_this_text f_this_length) N f_this_draft f_this_at (f_this_draft (4 : Int32).toNatClampNeg) 0)
set_option maxHeartbeats 4000000 in
set_option maxRecDepth 100000 in
theorem c_X12_words (l : Launch) (G : jG) (N : Nat) (q_this : Nat) (q_this_text : Nat) (q_this_draft : Nat) (v_this_book : Value) (v_this_s : Value) (v_this_kept : Value) (v_this_keptMany : Value) (v_this_acts : Value) (v_this_actMany : Value) (v_this_row : Value) (v_this_rowMany : Value) (v_this_tells : Value) (v_this_tellMany : Value) (v_this_told : Value) (v_this_place : Value) (v_this_sort : Value) (v_this_minute : Value) (v_this_when : Value) (v_this_isHeard : Value) (v_this_goneBy : Value) (v_this_stand : Value) (v_this_many : Value) (v_this_standing : Value) (f_this_text : (Nat → Int32)) (f_this_length : Int32) (f_this_draft : (Nat → Int32)) (f_this_at : Int32) (u : Int32 × (Nat → Int32) × Int32) (hu : g_X12_words N f_this_text f_this_length f_this_draft f_this_at = some u) : MetRW l G yX12_words wsX12_words ({ frames := 2, cells := 0, slots := 0, locals := 43 } : Room) [.ref q_this] (w_X12_words G q_this q_this_text q_this_draft v_this_book v_this_s v_this_kept v_this_keptMany v_this_acts v_this_actMany v_this_row v_this_rowMany v_this_tells v_this_tellMany v_this_told v_this_place v_this_sort v_this_minute v_this_when v_this_isHeard v_this_goneBy v_this_stand v_this_many v_this_standing f_this_text f_this_length f_this_draft f_this_at) (w_X12_words G q_this q_this_text q_this_draft v_this_book v_this_s v_this_kept v_this_keptMany v_this_acts v_this_actMany v_this_row v_this_rowMany v_this_tells v_this_tellMany v_this_told v_this_place v_this_sort v_this_minute v_this_when v_this_isHeard v_this_goneBy v_this_stand v_this_many v_this_standing f_this_text f_this_length u.2.1 u.2.2) u.1 := by
  refine met_rwz (cc := cX12_words) (maxL := 3) (lv0 := [(0, .ref q_this)]) (by decide) rfl rfl rfl rfl (fun X hX hW hret => ?_)
  have hinX12 : ∀ w ∈ u_ws RX12 TX12 24, w ∈ wsX12_words := by decide +kernel
  have hf_X12_at_76 : Cond.fieldLink RX12 76 (TX12 13).1 (TX12 13).2.1 (TX12 13).2.2.1 ∈ wsX12_words := by decide +kernel
  have hf_X12_draft_16 : Cond.fieldLink RX12 16 (TX12 3).1 (TX12 3).2.1 (TX12 3).2.2.1 ∈ wsX12_words := by decide +kernel
  have B69 : ∀ (f_this_draft : (Nat → Int32)) (f_this_at : Int32) (x1 : Int32) (x2 : Int32), g_X12_words_b69 N f_this_text f_this_length f_this_draft f_this_at x1 x2 = some u → J X 0 0 (w_X12_words G q_this q_this_text q_this_draft v_this_book v_this_s v_this_kept v_this_keptMany v_this_acts v_this_actMany v_this_row v_this_rowMany v_this_tells v_this_tellMany v_this_told v_this_place v_this_sort v_this_minute v_this_when v_this_isHeard v_this_goneBy v_this_stand v_this_many v_this_standing f_this_text f_this_length f_this_draft f_this_at) 69 [(0, .ref q_this), (1, .int x1), (2, .int x2)] [] := by
    intro f_this_draft f_this_at x1 x2 hg
    unfold g_X12_words_b69 at hg
    refine j_iload_n hX 2 dX12_words_69 rfl rfl ?_
    refine j_if_eq hX 86 hg dX12_words_70 (by decide) (fun hg => ?_) (fun hg => ?_)
    · refine j_iconst hX dX12_words_86 kc_0 ?_
      cases hg
      exact hret _ _ (Or.inl rfl) dX12_words_87
    · refine j_aload_n hX 0 dX12_words_73 rfl rfl ?_
      refine j_aload_n hX 0 dX12_words_74 rfl rfl ?_
      refine j_get hX 0 13 rfl rfl hinX12 rfl hf_X12_at_76 rfl dX12_words_75 ?_
      refine j_vRO hX (r := fun v => v) [.int f_this_at] hg (fun v hv => c_X12_byteAt l G N q_this q_this_text v_this_book (.ref q_this_draft) v_this_s v_this_kept v_this_keptMany v_this_acts v_this_actMany v_this_row v_this_rowMany v_this_tells v_this_tellMany (.int f_this_at) v_this_told v_this_place v_this_sort v_this_minute v_this_when v_this_isHeard v_this_goneBy v_this_stand v_this_many v_this_standing f_this_text f_this_length f_this_at v hv) gX12_words_X12_byteAt rfl ⟨rfl, rfl⟩ ⟨rfl, by decide, by decide, rfl⟩ rfl rfl [0, 1] rfl rfl rfl dX12_words_78 rfl rfl ⟨Nat.zero_le _, Nat.zero_le _⟩ (fun v78 hg => ?_)
      refine j_bipush hX dX12_words_81 kb_59 ?_
      refine j_icmp_eq hX 88 hg dX12_words_83 (by decide) (fun hg => ?_) (fun hg => ?_)
      · refine j_aload_n hX 0 dX12_words_88 rfl rfl ?_
        refine j_dup hX dX12_words_89 rfl ?_
        refine j_get hX 0 13 rfl rfl hinX12 rfl hf_X12_at_76 rfl dX12_words_90 ?_
        refine j_iconst hX dX12_words_93 kc_1 ?_
        refine j_iadd hX dX12_words_94 ?_
        refine j_put hX hW 0 13 rfl rfl hinX12 tyX12 tyX12_ok nmX12 rfl hf_X12_at_76 rfl rfl rfl rfl dX12_words_95 (ws' := (w_X12_words G q_this q_this_text q_this_draft v_this_book v_this_s v_this_kept v_this_keptMany v_this_acts v_this_actMany v_this_row v_this_rowMany v_this_tells v_this_tellMany v_this_told v_this_place v_this_sort v_this_minute v_this_when v_this_isHeard v_this_goneBy v_this_stand v_this_many v_this_standing f_this_text f_this_length f_this_draft (f_this_at + 1))) rfl ?_
        refine j_aload_n hX 0 dX12_words_98 rfl rfl ?_
        refine j_get hX 0 3 rfl rfl hinX12 rfl hf_X12_draft_16 rfl dX12_words_99 ?_
        refine j_bipush hX dX12_words_102 kb_30 ?_
        refine j_iload_n hX 1 dX12_words_104 rfl rfl ?_
        refine j_iadd hX dX12_words_105 ?_
        refine j_iload_n hX 2 dX12_words_106 rfl rfl ?_
        refine j_iast hX hW 2 rfl hg dX12_words_107 (ws' := (w_X12_words G q_this q_this_text q_this_draft v_this_book v_this_s v_this_kept v_this_keptMany v_this_acts v_this_actMany v_this_row v_this_rowMany v_this_tells v_this_tellMany v_this_told v_this_place v_this_sort v_this_minute v_this_when v_this_isHeard v_this_goneBy v_this_stand v_this_many v_this_standing f_this_text f_this_length (upd f_this_draft (30 + x1 : Int32).toNatClampNeg x2) (f_this_at + 1))) rfl (fun hg => ?_)
        refine j_aload_n hX 0 dX12_words_108 rfl rfl ?_
        refine j_get hX 0 3 rfl rfl hinX12 rfl hf_X12_draft_16 rfl dX12_words_109 ?_
        refine j_iconst hX dX12_words_112 kc_4 ?_
        refine j_dup2 hX dX12_words_113 rfl rfl ?_
        refine j_iald hX 2 rfl hg dX12_words_114 (fun hg => ?_)
        refine j_iconst hX dX12_words_115 kc_1 ?_
        refine j_iadd hX dX12_words_116 ?_
        refine j_iast hX hW 2 rfl hg dX12_words_117 (ws' := (w_X12_words G q_this q_this_text q_this_draft v_this_book v_this_s v_this_kept v_this_keptMany v_this_acts v_this_actMany v_this_row v_this_rowMany v_this_tells v_this_tellMany v_this_told v_this_place v_this_sort v_this_minute v_this_when v_this_isHeard v_this_goneBy v_this_stand v_this_many v_this_standing f_this_text f_this_length (upd (upd f_this_draft (30 + x1 : Int32).toNatClampNeg x2) (4 : Int32).toNatClampNeg (((upd f_this_draft (30 + x1 : Int32).toNatClampNeg x2) (4 : Int32).toNatClampNeg) + 1)) (f_this_at + 1))) rfl (fun hg => ?_)
        refine j_aload_n hX 0 dX12_words_118 rfl rfl ?_
        refine j_iload_n hX 1 dX12_words_119 rfl rfl ?_
        refine j_vRO hX (r := fun v => v) [.int x1] hg (fun v hv => c_X12_isTwice l G N q_this q_this_draft (.ref q_this_text) (.int f_this_length) v_this_book v_this_s v_this_kept v_this_keptMany v_this_acts v_this_actMany v_this_row v_this_rowMany v_this_tells v_this_tellMany (.int (f_this_at + 1)) v_this_told v_this_place v_this_sort v_this_minute v_this_when v_this_isHeard v_this_goneBy v_this_stand v_this_many v_this_standing (upd (upd f_this_draft (30 + x1 : Int32).toNatClampNeg x2) (4 : Int32).toNatClampNeg (((upd f_this_draft (30 + x1 : Int32).toNatClampNeg x2) (4 : Int32).toNatClampNeg) + 1)) x1 v hv) gX12_words_X12_isTwice rfl ⟨rfl, rfl⟩ ⟨rfl, by decide, by decide, rfl⟩ rfl rfl [0, 2] rfl rfl rfl dX12_words_120 rfl rfl ⟨Nat.zero_le _, Nat.zero_le _⟩ (fun v120 hg => ?_)
        refine j_if_ne hX 130 hg dX12_words_123 (by decide) (fun hg => ?_) (fun hg => ?_)
        · refine j_iconst hX dX12_words_126 kc_1 ?_
          refine j_goto hX 131 dX12_words_127 (by decide) ?_
          cases hg
          exact hret _ _ (Or.inr rfl) dX12_words_131
        · refine j_iconst hX dX12_words_130 kc_0 ?_
          cases hg
          exact hret _ _ (Or.inl rfl) dX12_words_131
      · refine j_iconst hX dX12_words_86 kc_0 ?_
        cases hg
        exact hret _ _ (Or.inl rfl) dX12_words_87
  have L9 : ∀ (fu9 : Nat), ∀ (f_this_draft : (Nat → Int32)) (f_this_at : Int32) (x1 : Int32) (x2 : Int32), g_X12_words_L9 N f_this_text f_this_length (g_X12_words_b69 N f_this_text f_this_length) fu9 f_this_draft f_this_at x1 x2 = some u → J X 0 0 (w_X12_words G q_this q_this_text q_this_draft v_this_book v_this_s v_this_kept v_this_keptMany v_this_acts v_this_actMany v_this_row v_this_rowMany v_this_tells v_this_tellMany v_this_told v_this_place v_this_sort v_this_minute v_this_when v_this_isHeard v_this_goneBy v_this_stand v_this_many v_this_standing f_this_text f_this_length f_this_draft f_this_at) 9 [(0, .ref q_this), (1, .int x1), (2, .int x2)] [] := by
    intro fu9
    induction fu9 with
    | zero => intro f_this_draft f_this_at x1 x2 hg; exact nomatch hg
    | succ fu9 ih9 =>
      intro f_this_draft f_this_at x1 x2 hg
      unfold g_X12_words_L9 at hg
      refine j_iload_n hX 1 dX12_words_9 rfl rfl ?_
      refine j_bipush hX dX12_words_10 kb_8 ?_
      refine j_icmp_ge hX 69 hg dX12_words_12 (by decide) (fun hg => ?_) (fun hg => ?_)
      · exact B69 _ _ _ _ hg
      · refine j_iload_n hX 2 dX12_words_15 rfl rfl ?_
        refine j_iconst hX dX12_words_16 kc_4 ?_
        refine j_icmp_ge hX 69 hg dX12_words_17 (by decide) (fun hg => ?_) (fun hg => ?_)
        · exact B69 _ _ _ _ hg
        · refine j_aload_n hX 0 dX12_words_20 rfl rfl ?_
          refine j_bipush hX dX12_words_21 kb_7 ?_
          refine j_vRO hX (r := fun v => v) [.int 7] hg (fun v hv => c_X12_isFigure l G N q_this q_this_text v_this_book (.ref q_this_draft) v_this_s v_this_kept v_this_keptMany v_this_acts v_this_actMany v_this_row v_this_rowMany v_this_tells v_this_tellMany v_this_told v_this_place v_this_sort v_this_minute v_this_when v_this_isHeard v_this_goneBy v_this_stand v_this_many v_this_standing f_this_text f_this_length f_this_at 7 v hv) gX12_words_X12_isFigure rfl ⟨rfl, rfl⟩ ⟨rfl, by decide, by decide, rfl⟩ rfl rfl [0, 1] rfl rfl rfl dX12_words_23 rfl rfl ⟨Nat.zero_le _, Nat.zero_le _⟩ (fun v23 hg => ?_)
          refine j_if_eq hX 69 hg dX12_words_26 (by decide) (fun hg => ?_) (fun hg => ?_)
          · exact B69 _ _ _ _ hg
          · refine j_aload_n hX 0 dX12_words_29 rfl rfl ?_
            refine j_get hX 0 3 rfl rfl hinX12 rfl hf_X12_draft_16 rfl dX12_words_30 ?_
            refine j_bipush hX dX12_words_33 kb_38 ?_
            refine j_iconst hX dX12_words_35 kc_4 ?_
            refine j_iload_n hX 1 dX12_words_36 rfl rfl ?_
            refine j_imul hX dX12_words_37 ?_
            refine j_iadd hX dX12_words_38 ?_
            refine j_iload_n hX 2 dX12_words_39 rfl rfl ?_
            refine j_iadd hX dX12_words_40 ?_
            refine j_aload_n hX 0 dX12_words_41 rfl rfl ?_
            refine j_aload_n hX 0 dX12_words_42 rfl rfl ?_
            refine j_get hX 0 13 rfl rfl hinX12 rfl hf_X12_at_76 rfl dX12_words_43 ?_
            refine j_vRO hX (r := fun v => v) [.int f_this_at] hg (fun v hv => c_X12_byteAt l G N q_this q_this_text v_this_book (.ref q_this_draft) v_this_s v_this_kept v_this_keptMany v_this_acts v_this_actMany v_this_row v_this_rowMany v_this_tells v_this_tellMany (.int f_this_at) v_this_told v_this_place v_this_sort v_this_minute v_this_when v_this_isHeard v_this_goneBy v_this_stand v_this_many v_this_standing f_this_text f_this_length f_this_at v hv) gX12_words_X12_byteAt rfl ⟨rfl, rfl⟩ ⟨rfl, by decide, by decide, rfl⟩ rfl rfl [0, 1] rfl rfl rfl dX12_words_46 rfl rfl ⟨Nat.zero_le _, Nat.zero_le _⟩ (fun v46 hg => ?_)
            refine j_bipush hX dX12_words_49 kb_48 ?_
            refine j_isub hX dX12_words_51 ?_
            refine j_iast hX hW 2 rfl hg dX12_words_52 (ws' := (w_X12_words G q_this q_this_text q_this_draft v_this_book v_this_s v_this_kept v_this_keptMany v_this_acts v_this_actMany v_this_row v_this_rowMany v_this_tells v_this_tellMany v_this_told v_this_place v_this_sort v_this_minute v_this_when v_this_isHeard v_this_goneBy v_this_stand v_this_many v_this_standing f_this_text f_this_length (upd f_this_draft ((38 + (4 * x1)) + x2 : Int32).toNatClampNeg (v46 - 48)) f_this_at)) rfl (fun hg => ?_)
            refine j_aload_n hX 0 dX12_words_53 rfl rfl ?_
            refine j_dup hX dX12_words_54 rfl ?_
            refine j_get hX 0 13 rfl rfl hinX12 rfl hf_X12_at_76 rfl dX12_words_55 ?_
            refine j_iconst hX dX12_words_58 kc_1 ?_
            refine j_iadd hX dX12_words_59 ?_
            refine j_put hX hW 0 13 rfl rfl hinX12 tyX12 tyX12_ok nmX12 rfl hf_X12_at_76 rfl rfl rfl rfl dX12_words_60 (ws' := (w_X12_words G q_this q_this_text q_this_draft v_this_book v_this_s v_this_kept v_this_keptMany v_this_acts v_this_actMany v_this_row v_this_rowMany v_this_tells v_this_tellMany v_this_told v_this_place v_this_sort v_this_minute v_this_when v_this_isHeard v_this_goneBy v_this_stand v_this_many v_this_standing f_this_text f_this_length (upd f_this_draft ((38 + (4 * x1)) + x2 : Int32).toNatClampNeg (v46 - 48)) (f_this_at + 1))) rfl ?_
            refine j_iinc hX 2 (v := x2 + 1) (lv' := [(2, .int (x2 + 1)), (0, .ref q_this), (1, .int x1)]) dX12_words_63 rfl (by rw [kc_1]) rfl rfl ?_
            refine j_goto hX 9 dX12_words_66 (by decide) ?_
            refine j_lv [1, 2, 0] rfl ?_
            exact ih9 _ _ _ _ hg
  have hg := hu
  unfold g_X12_words at hg
  refine j_aload_n hX 0 dX12_words_0 rfl rfl ?_
  refine j_get hX 0 3 rfl rfl hinX12 rfl hf_X12_draft_16 rfl dX12_words_1 ?_
  refine j_iconst hX dX12_words_4 kc_4 ?_
  refine j_iald hX 2 rfl hg dX12_words_5 (fun hg => ?_)
  refine j_istore_n hX (lv' := [(1, .int (f_this_draft (4 : Int32).toNatClampNeg)), (0, .ref q_this)]) dX12_words_6 rfl rfl rfl ?_
  refine j_iconst hX dX12_words_7 kc_0 ?_
  refine j_istore_n hX (lv' := [(2, .int 0), (1, .int (f_this_draft (4 : Int32).toNatClampNeg)), (0, .ref q_this)]) dX12_words_8 rfl rfl rfl ?_
  refine j_lv [2, 1, 0] rfl ?_
  exact L9 N _ _ _ _ hg
abbrev w_X12_item (G : jG) (q_this : Nat) (q_this_text : Nat) (q_this_draft : Nat) (q_this_told : Nat) (v_this_book : Value) (v_this_s : Value) (v_this_kept : Value) (v_this_keptMany : Value) (v_this_acts : Value) (v_this_actMany : Value) (v_this_row : Value) (v_this_rowMany : Value) (v_this_tells : Value) (v_this_tellMany : Value) (v_this_place : Value) (v_this_sort : Value) (v_this_minute : Value) (v_this_when : Value) (v_this_isHeard : Value) (v_this_goneBy : Value) (v_this_stand : Value) (v_this_many : Value) (v_this_standing : Value) (f_this_text : (Nat → Int32)) (f_this_length : Int32) (f_this_draft : (Nat → Int32)) (f_this_at : Int32) (f_this_told : (Nat → Int32)) : va_W := [oC q_this 12 [.ref q_this_text, .int f_this_length, v_this_book, .ref q_this_draft, v_this_s, v_this_kept, v_this_keptMany, v_this_acts, v_this_actMany, v_this_row, v_this_rowMany, v_this_tells, v_this_tellMany, .int f_this_at, .ref q_this_told, v_this_place, v_this_sort, v_this_minute, v_this_when, v_this_isHeard, v_this_goneBy, v_this_stand, v_this_many, v_this_standing], aI G q_this_text 300 f_this_text, aI G q_this_draft 78 f_this_draft, aI G q_this_told 3 f_this_told]
def g_X12_item (N : Nat) (f_this_text : (Nat → Int32)) (f_this_length : Int32) (f_this_draft : (Nat → Int32)) (f_this_at : Int32) (f_this_told : (Nat → Int32)) : Option (Int32 × (Nat → Int32) × Int32 × (Nat → Int32)) := (g_X12_byteAt N f_this_text f_this_length f_this_at).bind fun v5 => if v5 = 102 then (g_X12_one N f_this_text f_this_length f_this_draft (f_this_at + 1) f_this_told 3 2 8).bind fun v170 => gb v170.1 (some (v170.1, v170.2.1, v170.2.2.1, v170.2.2.2)) else if v5 = 104 then (g_X12_one N f_this_text f_this_length f_this_draft (f_this_at + 1) f_this_told 1 1 60).bind fun v148 => gb v148.1 (some (v148.1, v148.2.1, v148.2.2.1, v148.2.2.2)) else if v5 = 108 then (g_X12_one N f_this_text f_this_length f_this_draft (f_this_at + 1) f_this_told 2 0 2).bind fun v156 => gb v156.1 (some (v156.1, v156.2.1, v156.2.2.1, v156.2.2.2)) else if v5 = 112 then gi 70 78 (if (f_this_draft (70 : Int32).toNatClampNeg) = 0 then (g_X12_one N f_this_text f_this_length f_this_draft (f_this_at + 1) f_this_told 0 1 5).bind fun v126 => if v126.1 = 0 then some (0, v126.2.1, v126.2.2.1, v126.2.2.2) else some (1, v126.2.1, v126.2.2.1, v126.2.2.2) else some (0, f_this_draft, f_this_at + 1, f_this_told)) else if v5 = 119 then (g_X12_words N f_this_text f_this_length f_this_draft (f_this_at + 1)).bind fun v161 => gb v161.1 (some (v161.1, v161.2.1, v161.2.2, f_this_told)) else if v5 = 120 then (g_X12_crosses N f_this_text f_this_length f_this_draft (f_this_at + 1) f_this_told).bind fun v139 => gb v139.1 (some (v139.1, v139.2.1, v139.2.2.1, v139.2.2.2)) else some (0, f_this_draft, f_this_at + 1, f_this_told)
set_option maxHeartbeats 4000000 in
set_option maxRecDepth 100000 in
theorem c_X12_item (l : Launch) (G : jG) (N : Nat) (q_this : Nat) (q_this_text : Nat) (q_this_draft : Nat) (q_this_told : Nat) (v_this_book : Value) (v_this_s : Value) (v_this_kept : Value) (v_this_keptMany : Value) (v_this_acts : Value) (v_this_actMany : Value) (v_this_row : Value) (v_this_rowMany : Value) (v_this_tells : Value) (v_this_tellMany : Value) (v_this_place : Value) (v_this_sort : Value) (v_this_minute : Value) (v_this_when : Value) (v_this_isHeard : Value) (v_this_goneBy : Value) (v_this_stand : Value) (v_this_many : Value) (v_this_standing : Value) (f_this_text : (Nat → Int32)) (f_this_length : Int32) (f_this_draft : (Nat → Int32)) (f_this_at : Int32) (f_this_told : (Nat → Int32)) (u : Int32 × (Nat → Int32) × Int32 × (Nat → Int32)) (hu : g_X12_item N f_this_text f_this_length f_this_draft f_this_at f_this_told = some u) : MetRW l G yX12_item wsX12_item ({ frames := 4, cells := 0, slots := 0, locals := 90 } : Room) [.ref q_this] (w_X12_item G q_this q_this_text q_this_draft q_this_told v_this_book v_this_s v_this_kept v_this_keptMany v_this_acts v_this_actMany v_this_row v_this_rowMany v_this_tells v_this_tellMany v_this_place v_this_sort v_this_minute v_this_when v_this_isHeard v_this_goneBy v_this_stand v_this_many v_this_standing f_this_text f_this_length f_this_draft f_this_at f_this_told) (w_X12_item G q_this q_this_text q_this_draft q_this_told v_this_book v_this_s v_this_kept v_this_keptMany v_this_acts v_this_actMany v_this_row v_this_rowMany v_this_tells v_this_tellMany v_this_place v_this_sort v_this_minute v_this_when v_this_isHeard v_this_goneBy v_this_stand v_this_many v_this_standing f_this_text f_this_length u.2.1 u.2.2.1 u.2.2.2) u.1 := by
  refine met_rwz (cc := cX12_item) (maxL := 2) (lv0 := [(0, .ref q_this)]) (by decide) rfl rfl rfl rfl (fun X hX hW hret => ?_)
  have hinX12 : ∀ w ∈ u_ws RX12 TX12 24, w ∈ wsX12_item := by decide +kernel
  have hf_X12_at_76 : Cond.fieldLink RX12 76 (TX12 13).1 (TX12 13).2.1 (TX12 13).2.2.1 ∈ wsX12_item := by decide +kernel
  have hf_X12_draft_16 : Cond.fieldLink RX12 16 (TX12 3).1 (TX12 3).2.1 (TX12 3).2.2.1 ∈ wsX12_item := by decide +kernel
  have hg := hu
  unfold g_X12_item at hg
  refine j_aload_n hX 0 dX12_item_0 rfl rfl ?_
  refine j_aload_n hX 0 dX12_item_1 rfl rfl ?_
  refine j_get hX 0 13 rfl rfl hinX12 rfl hf_X12_at_76 rfl dX12_item_2 ?_
  refine j_vRO hX (r := fun v => v) [.int f_this_at] hg (fun v hv => c_X12_byteAt l G N q_this q_this_text v_this_book (.ref q_this_draft) v_this_s v_this_kept v_this_keptMany v_this_acts v_this_actMany v_this_row v_this_rowMany v_this_tells v_this_tellMany (.int f_this_at) (.ref q_this_told) v_this_place v_this_sort v_this_minute v_this_when v_this_isHeard v_this_goneBy v_this_stand v_this_many v_this_standing f_this_text f_this_length f_this_at v hv) gX12_item_X12_byteAt rfl ⟨rfl, rfl⟩ ⟨rfl, by decide, by decide, rfl⟩ rfl rfl [0, 1] rfl rfl rfl dX12_item_5 rfl rfl ⟨Nat.zero_le _, Nat.zero_le _⟩ (fun v5 hg => ?_)
  refine j_istore_n hX (lv' := [(1, .int v5), (0, .ref q_this)]) dX12_item_8 rfl rfl rfl ?_
  refine j_aload_n hX 1 dX12_item_9 rfl rfl ?_
  refine j_dup hX dX12_item_10 rfl ?_
  refine j_get hX 0 13 rfl rfl hinX12 rfl hf_X12_at_76 rfl dX12_item_11 ?_
  refine j_iconst hX dX12_item_14 kc_1 ?_
  refine j_iadd hX dX12_item_15 ?_
  refine j_put hX hW 0 13 rfl rfl hinX12 tyX12 tyX12_ok nmX12 rfl hf_X12_at_76 rfl rfl rfl rfl dX12_item_16 (ws' := (w_X12_item G q_this q_this_text q_this_draft q_this_told v_this_book v_this_s v_this_kept v_this_keptMany v_this_acts v_this_actMany v_this_row v_this_rowMany v_this_tells v_this_tellMany v_this_place v_this_sort v_this_minute v_this_when v_this_isHeard v_this_goneBy v_this_stand v_this_many v_this_standing f_this_text f_this_length f_this_draft (f_this_at + 1) f_this_told)) rfl ?_
  refine j_iload_n hX 0 dX12_item_19 rfl rfl ?_
  refine sw_case (x := v5) 102 hg (fun hx hg => ?_) (fun hx102 hg => ?_)
  · refine j_tin hX hx 165 (off := 145) dX12_item_20 (by decide +kernel) (by decide +kernel) (by decide +kernel) (by decide) ?_
    refine j_aload_n hX 1 dX12_item_165 rfl rfl ?_
    refine j_iconst hX dX12_item_166 kc_3 ?_
    refine j_iconst hX dX12_item_167 kc_2 ?_
    refine j_bipush hX dX12_item_168 kb_8 ?_
    refine j_vRW hX hW (r := fun v => v.1) (w1 := fun v => (w_X12_one G q_this q_this_text q_this_draft q_this_told v_this_book v_this_s v_this_kept v_this_keptMany v_this_acts v_this_actMany v_this_row v_this_rowMany v_this_tells v_this_tellMany v_this_place v_this_sort v_this_minute v_this_when v_this_isHeard v_this_goneBy v_this_stand v_this_many v_this_standing f_this_text f_this_length v.2.1 v.2.2.1 v.2.2.2)) (ws' := fun v => (w_X12_item G q_this q_this_text q_this_draft q_this_told v_this_book v_this_s v_this_kept v_this_keptMany v_this_acts v_this_actMany v_this_row v_this_rowMany v_this_tells v_this_tellMany v_this_place v_this_sort v_this_minute v_this_when v_this_isHeard v_this_goneBy v_this_stand v_this_many v_this_standing f_this_text f_this_length v.2.1 v.2.2.1 v.2.2.2)) [.int 3, .int 2, .int 8] hg (fun v hv => c_X12_one l G N q_this q_this_text q_this_draft q_this_told v_this_book v_this_s v_this_kept v_this_keptMany v_this_acts v_this_actMany v_this_row v_this_rowMany v_this_tells v_this_tellMany v_this_place v_this_sort v_this_minute v_this_when v_this_isHeard v_this_goneBy v_this_stand v_this_many v_this_standing f_this_text f_this_length f_this_draft (f_this_at + 1) f_this_told 3 2 8 v hv) gX12_item_X12_one rfl ⟨rfl, rfl⟩ ⟨rfl, by decide, by decide, rfl⟩ rfl rfl [0, 1, 2, 3] rfl (by decide +kernel) rfl rfl dX12_item_170 rfl rfl ⟨Nat.zero_le _, Nat.zero_le _⟩ (fun _ => jn_set [0, 1, 2, 3] rfl rfl rfl) (fun v170 hg => ?_)
    obtain ⟨hb, hg⟩ := gb_some hg
    cases hg
    exact hret _ _ hb dX12_item_173
  refine sw_case (x := v5) 104 hg (fun hx hg => ?_) (fun hx104 hg => ?_)
  · refine j_tin hX hx 143 (off := 123) dX12_item_20 (by decide +kernel) (by decide +kernel) (by decide +kernel) (by decide) ?_
    refine j_aload_n hX 1 dX12_item_143 rfl rfl ?_
    refine j_iconst hX dX12_item_144 kc_1 ?_
    refine j_iconst hX dX12_item_145 kc_1 ?_
    refine j_bipush hX dX12_item_146 kb_60 ?_
    refine j_vRW hX hW (r := fun v => v.1) (w1 := fun v => (w_X12_one G q_this q_this_text q_this_draft q_this_told v_this_book v_this_s v_this_kept v_this_keptMany v_this_acts v_this_actMany v_this_row v_this_rowMany v_this_tells v_this_tellMany v_this_place v_this_sort v_this_minute v_this_when v_this_isHeard v_this_goneBy v_this_stand v_this_many v_this_standing f_this_text f_this_length v.2.1 v.2.2.1 v.2.2.2)) (ws' := fun v => (w_X12_item G q_this q_this_text q_this_draft q_this_told v_this_book v_this_s v_this_kept v_this_keptMany v_this_acts v_this_actMany v_this_row v_this_rowMany v_this_tells v_this_tellMany v_this_place v_this_sort v_this_minute v_this_when v_this_isHeard v_this_goneBy v_this_stand v_this_many v_this_standing f_this_text f_this_length v.2.1 v.2.2.1 v.2.2.2)) [.int 1, .int 1, .int 60] hg (fun v hv => c_X12_one l G N q_this q_this_text q_this_draft q_this_told v_this_book v_this_s v_this_kept v_this_keptMany v_this_acts v_this_actMany v_this_row v_this_rowMany v_this_tells v_this_tellMany v_this_place v_this_sort v_this_minute v_this_when v_this_isHeard v_this_goneBy v_this_stand v_this_many v_this_standing f_this_text f_this_length f_this_draft (f_this_at + 1) f_this_told 1 1 60 v hv) gX12_item_X12_one rfl ⟨rfl, rfl⟩ ⟨rfl, by decide, by decide, rfl⟩ rfl rfl [0, 1, 2, 3] rfl (by decide +kernel) rfl rfl dX12_item_148 rfl rfl ⟨Nat.zero_le _, Nat.zero_le _⟩ (fun _ => jn_set [0, 1, 2, 3] rfl rfl rfl) (fun v148 hg => ?_)
    obtain ⟨hb, hg⟩ := gb_some hg
    cases hg
    exact hret _ _ hb dX12_item_151
  refine sw_case (x := v5) 108 hg (fun hx hg => ?_) (fun hx108 hg => ?_)
  · refine j_tin hX hx 152 (off := 132) dX12_item_20 (by decide +kernel) (by decide +kernel) (by decide +kernel) (by decide) ?_
    refine j_aload_n hX 1 dX12_item_152 rfl rfl ?_
    refine j_iconst hX dX12_item_153 kc_2 ?_
    refine j_iconst hX dX12_item_154 kc_0 ?_
    refine j_iconst hX dX12_item_155 kc_2 ?_
    refine j_vRW hX hW (r := fun v => v.1) (w1 := fun v => (w_X12_one G q_this q_this_text q_this_draft q_this_told v_this_book v_this_s v_this_kept v_this_keptMany v_this_acts v_this_actMany v_this_row v_this_rowMany v_this_tells v_this_tellMany v_this_place v_this_sort v_this_minute v_this_when v_this_isHeard v_this_goneBy v_this_stand v_this_many v_this_standing f_this_text f_this_length v.2.1 v.2.2.1 v.2.2.2)) (ws' := fun v => (w_X12_item G q_this q_this_text q_this_draft q_this_told v_this_book v_this_s v_this_kept v_this_keptMany v_this_acts v_this_actMany v_this_row v_this_rowMany v_this_tells v_this_tellMany v_this_place v_this_sort v_this_minute v_this_when v_this_isHeard v_this_goneBy v_this_stand v_this_many v_this_standing f_this_text f_this_length v.2.1 v.2.2.1 v.2.2.2)) [.int 2, .int 0, .int 2] hg (fun v hv => c_X12_one l G N q_this q_this_text q_this_draft q_this_told v_this_book v_this_s v_this_kept v_this_keptMany v_this_acts v_this_actMany v_this_row v_this_rowMany v_this_tells v_this_tellMany v_this_place v_this_sort v_this_minute v_this_when v_this_isHeard v_this_goneBy v_this_stand v_this_many v_this_standing f_this_text f_this_length f_this_draft (f_this_at + 1) f_this_told 2 0 2 v hv) gX12_item_X12_one rfl ⟨rfl, rfl⟩ ⟨rfl, by decide, by decide, rfl⟩ rfl rfl [0, 1, 2, 3] rfl (by decide +kernel) rfl rfl dX12_item_156 rfl rfl ⟨Nat.zero_le _, Nat.zero_le _⟩ (fun _ => jn_set [0, 1, 2, 3] rfl rfl rfl) (fun v156 hg => ?_)
    obtain ⟨hb, hg⟩ := gb_some hg
    cases hg
    exact hret _ _ hb dX12_item_159
  refine sw_case (x := v5) 112 hg (fun hx hg => ?_) (fun hx112 hg => ?_)
  · refine j_tin hX hx 112 (off := 92) dX12_item_20 (by decide +kernel) (by decide +kernel) (by decide +kernel) (by decide) ?_
    refine j_aload_n hX 1 dX12_item_112 rfl rfl ?_
    refine j_get hX 0 3 rfl rfl hinX12 rfl hf_X12_draft_16 rfl dX12_item_113 ?_
    refine j_bipush hX dX12_item_116 kb_70 ?_
    refine j_iald hX 2 rfl hg dX12_item_118 (fun hg => ?_)
    refine j_if_ne hX 136 hg dX12_item_119 (by decide) (fun hg => ?_) (fun hg => ?_)
    · refine j_aload_n hX 1 dX12_item_122 rfl rfl ?_
      refine j_iconst hX dX12_item_123 kc_0 ?_
      refine j_iconst hX dX12_item_124 kc_1 ?_
      refine j_iconst hX dX12_item_125 kc_5 ?_
      refine j_vRW hX hW (r := fun v => v.1) (w1 := fun v => (w_X12_one G q_this q_this_text q_this_draft q_this_told v_this_book v_this_s v_this_kept v_this_keptMany v_this_acts v_this_actMany v_this_row v_this_rowMany v_this_tells v_this_tellMany v_this_place v_this_sort v_this_minute v_this_when v_this_isHeard v_this_goneBy v_this_stand v_this_many v_this_standing f_this_text f_this_length v.2.1 v.2.2.1 v.2.2.2)) (ws' := fun v => (w_X12_item G q_this q_this_text q_this_draft q_this_told v_this_book v_this_s v_this_kept v_this_keptMany v_this_acts v_this_actMany v_this_row v_this_rowMany v_this_tells v_this_tellMany v_this_place v_this_sort v_this_minute v_this_when v_this_isHeard v_this_goneBy v_this_stand v_this_many v_this_standing f_this_text f_this_length v.2.1 v.2.2.1 v.2.2.2)) [.int 0, .int 1, .int 5] hg (fun v hv => c_X12_one l G N q_this q_this_text q_this_draft q_this_told v_this_book v_this_s v_this_kept v_this_keptMany v_this_acts v_this_actMany v_this_row v_this_rowMany v_this_tells v_this_tellMany v_this_place v_this_sort v_this_minute v_this_when v_this_isHeard v_this_goneBy v_this_stand v_this_many v_this_standing f_this_text f_this_length f_this_draft (f_this_at + 1) f_this_told 0 1 5 v hv) gX12_item_X12_one rfl ⟨rfl, rfl⟩ ⟨rfl, by decide, by decide, rfl⟩ rfl rfl [0, 1, 2, 3] rfl (by decide +kernel) rfl rfl dX12_item_126 rfl rfl ⟨Nat.zero_le _, Nat.zero_le _⟩ (fun _ => jn_set [0, 1, 2, 3] rfl rfl rfl) (fun v126 hg => ?_)
      refine j_if_eq hX 136 hg dX12_item_129 (by decide) (fun hg => ?_) (fun hg => ?_)
      · refine j_iconst hX dX12_item_136 kc_0 ?_
        cases hg
        exact hret _ _ (Or.inl rfl) dX12_item_137
      · refine j_iconst hX dX12_item_132 kc_1 ?_
        refine j_goto hX 137 dX12_item_133 (by decide) ?_
        cases hg
        exact hret _ _ (Or.inr rfl) dX12_item_137
    · refine j_iconst hX dX12_item_136 kc_0 ?_
      cases hg
      exact hret _ _ (Or.inl rfl) dX12_item_137
  refine sw_case (x := v5) 119 hg (fun hx hg => ?_) (fun hx119 hg => ?_)
  · refine j_tin hX hx 160 (off := 140) dX12_item_20 (by decide +kernel) (by decide +kernel) (by decide +kernel) (by decide) ?_
    refine j_aload_n hX 1 dX12_item_160 rfl rfl ?_
    refine j_vRW hX hW (r := fun v => v.1) (w1 := fun v => (w_X12_words G q_this q_this_text q_this_draft v_this_book v_this_s v_this_kept v_this_keptMany v_this_acts v_this_actMany v_this_row v_this_rowMany v_this_tells v_this_tellMany (.ref q_this_told) v_this_place v_this_sort v_this_minute v_this_when v_this_isHeard v_this_goneBy v_this_stand v_this_many v_this_standing f_this_text f_this_length v.2.1 v.2.2)) (ws' := fun v => (w_X12_item G q_this q_this_text q_this_draft q_this_told v_this_book v_this_s v_this_kept v_this_keptMany v_this_acts v_this_actMany v_this_row v_this_rowMany v_this_tells v_this_tellMany v_this_place v_this_sort v_this_minute v_this_when v_this_isHeard v_this_goneBy v_this_stand v_this_many v_this_standing f_this_text f_this_length v.2.1 v.2.2 f_this_told)) [] hg (fun v hv => c_X12_words l G N q_this q_this_text q_this_draft v_this_book v_this_s v_this_kept v_this_keptMany v_this_acts v_this_actMany v_this_row v_this_rowMany v_this_tells v_this_tellMany (.ref q_this_told) v_this_place v_this_sort v_this_minute v_this_when v_this_isHeard v_this_goneBy v_this_stand v_this_many v_this_standing f_this_text f_this_length f_this_draft (f_this_at + 1) v hv) gX12_item_X12_words rfl ⟨rfl, rfl⟩ ⟨rfl, by decide, by decide, rfl⟩ rfl rfl [0, 1, 2] rfl (by decide +kernel) rfl rfl dX12_item_161 rfl rfl ⟨Nat.zero_le _, Nat.zero_le _⟩ (fun _ => jn_set [0, 1, 2] rfl rfl rfl) (fun v161 hg => ?_)
    obtain ⟨hb, hg⟩ := gb_some hg
    cases hg
    exact hret _ _ hb dX12_item_164
  refine sw_case (x := v5) 120 hg (fun hx hg => ?_) (fun hx120 hg => ?_)
  · refine j_tin hX hx 138 (off := 118) dX12_item_20 (by decide +kernel) (by decide +kernel) (by decide +kernel) (by decide) ?_
    refine j_aload_n hX 1 dX12_item_138 rfl rfl ?_
    refine j_vRW hX hW (r := fun v => v.1) (w1 := fun v => (w_X12_crosses G q_this q_this_text q_this_draft q_this_told v_this_book v_this_s v_this_kept v_this_keptMany v_this_acts v_this_actMany v_this_row v_this_rowMany v_this_tells v_this_tellMany v_this_place v_this_sort v_this_minute v_this_when v_this_isHeard v_this_goneBy v_this_stand v_this_many v_this_standing f_this_text f_this_length v.2.1 v.2.2.1 v.2.2.2)) (ws' := fun v => (w_X12_item G q_this q_this_text q_this_draft q_this_told v_this_book v_this_s v_this_kept v_this_keptMany v_this_acts v_this_actMany v_this_row v_this_rowMany v_this_tells v_this_tellMany v_this_place v_this_sort v_this_minute v_this_when v_this_isHeard v_this_goneBy v_this_stand v_this_many v_this_standing f_this_text f_this_length v.2.1 v.2.2.1 v.2.2.2)) [] hg (fun v hv => c_X12_crosses l G N q_this q_this_text q_this_draft q_this_told v_this_book v_this_s v_this_kept v_this_keptMany v_this_acts v_this_actMany v_this_row v_this_rowMany v_this_tells v_this_tellMany v_this_place v_this_sort v_this_minute v_this_when v_this_isHeard v_this_goneBy v_this_stand v_this_many v_this_standing f_this_text f_this_length f_this_draft (f_this_at + 1) f_this_told v hv) gX12_item_X12_crosses rfl ⟨rfl, rfl⟩ ⟨rfl, by decide, by decide, rfl⟩ rfl rfl [0, 1, 2, 3] rfl (by decide +kernel) rfl rfl dX12_item_139 rfl rfl ⟨Nat.zero_le _, Nat.zero_le _⟩ (fun _ => jn_set [0, 1, 2, 3] rfl rfl rfl) (fun v139 hg => ?_)
    obtain ⟨hb, hg⟩ := gb_some hg
    cases hg
    exact hret _ _ hb dX12_item_142
  refine j_tdef hX [102, 104, 108, 112, 119, 120] 174 dX12_item_20 (by decide +kernel) (by decide +kernel) (fun z hz => by simp only [List.mem_cons, List.not_mem_nil, or_false] at hz; rcases hz with rfl | rfl | rfl | rfl | rfl | rfl <;> assumption) (by decide) ?_
  refine j_iconst hX dX12_item_174 kc_0 ?_
  cases hg
  exact hret _ _ (Or.inl rfl) dX12_item_175
abbrev w_X12_reads (G : jG) (q_this : Nat) (q_this_text : Nat) (q_this_draft : Nat) (q_this_told : Nat) (v_this_book : Value) (v_this_s : Value) (v_this_kept : Value) (v_this_keptMany : Value) (v_this_acts : Value) (v_this_actMany : Value) (v_this_row : Value) (v_this_rowMany : Value) (v_this_tells : Value) (v_this_tellMany : Value) (v_this_place : Value) (v_this_sort : Value) (v_this_minute : Value) (v_this_when : Value) (v_this_isHeard : Value) (v_this_goneBy : Value) (v_this_stand : Value) (v_this_many : Value) (v_this_standing : Value) (f_this_text : (Nat → Int32)) (f_this_length : Int32) (f_this_draft : (Nat → Int32)) (f_this_at : Int32) (f_this_told : (Nat → Int32)) : va_W := [oC q_this 12 [.ref q_this_text, .int f_this_length, v_this_book, .ref q_this_draft, v_this_s, v_this_kept, v_this_keptMany, v_this_acts, v_this_actMany, v_this_row, v_this_rowMany, v_this_tells, v_this_tellMany, .int f_this_at, .ref q_this_told, v_this_place, v_this_sort, v_this_minute, v_this_when, v_this_isHeard, v_this_goneBy, v_this_stand, v_this_many, v_this_standing], aI G q_this_text 300 f_this_text, aI G q_this_draft 78 f_this_draft, aI G q_this_told 3 f_this_told]
def g_X12_reads_L72 (N : Nat) (f_this_text : (Nat → Int32)) (f_this_length : Int32) : Nat → (Nat → Int32) → Int32 → (Nat → Int32) → Option (Int32 × (Nat → Int32) × Int32 × (Nat → Int32))
  | 0, _, _, _ => none
  | fu + 1, f_this_draft, f_this_at, f_this_told => if f_this_length ≤ f_this_at then some ((-4), f_this_draft, f_this_at, f_this_told) else (g_X12_item N f_this_text f_this_length f_this_draft f_this_at f_this_told).bind fun v89 => if v89.1 = 0 then some (f_this_at, v89.2.1, v89.2.2.1, v89.2.2.2) else g_X12_reads_L72 N f_this_text f_this_length fu v89.2.1 v89.2.2.1 v89.2.2.2
def g_X12_reads_b44 (N : Nat) (f_this_text : (Nat → Int32)) (f_this_length : Int32) (f_this_draft : (Nat → Int32)) (f_this_at : Int32) (f_this_told : (Nat → Int32)) : Option (Int32 × (Nat → Int32) × Int32 × (Nat → Int32)) := gi 0 78 (gi 1 78 (gi 3 78 (g_X12_reads_L72 N f_this_text f_this_length N (upd (upd (upd f_this_draft (0 : Int32).toNatClampNeg 2) (1 : Int32).toNatClampNeg 20) (3 : Int32).toNatClampNeg 8) 0 f_this_told)))
def g_X12_reads_b37 (N : Nat) (f_this_text : (Nat → Int32)) (f_this_length : Int32) (rec_2 : (Nat → Int32) → Int32 → (Nat → Int32) → Int32 → Option (Int32 × (Nat → Int32) × Int32 × (Nat → Int32))) (f_this_draft : (Nat → Int32)) (f_this_at : Int32) (f_this_told : (Nat → Int32)) (x1 : Int32) (s1 : Int32) (s2 : Int32) : Option (Int32 × (Nat → Int32) × Int32 × (Nat → Int32)) := gi s1 78 (rec_2 (upd f_this_draft s1.toNatClampNeg s2) f_this_at f_this_told (x1 + 1))
def g_X12_reads_b36 (N : Nat) (f_this_text : (Nat → Int32)) (f_this_length : Int32) (rec_2 : (Nat → Int32) → Int32 → (Nat → Int32) → Int32 → Option (Int32 × (Nat → Int32) × Int32 × (Nat → Int32))) (f_this_draft : (Nat → Int32)) (f_this_at : Int32) (f_this_told : (Nat → Int32)) (x1 : Int32) (s1 : Int32) : Option (Int32 × (Nat → Int32) × Int32 × (Nat → Int32)) := g_X12_reads_b37 N f_this_text f_this_length rec_2 f_this_draft f_this_at f_this_told x1 s1 0
def g_X12_reads_L2 (N : Nat) (f_this_text : (Nat → Int32)) (f_this_length : Int32) (k_44 : (Nat → Int32) → Int32 → (Nat → Int32) → Option (Int32 × (Nat → Int32) × Int32 × (Nat → Int32))) : Nat → (Nat → Int32) → Int32 → (Nat → Int32) → Int32 → Option (Int32 × (Nat → Int32) × Int32 × (Nat → Int32))
  | 0, _, _, _, _ => none
  | fu + 1, f_this_draft, f_this_at, f_this_told, x1 => if (78 : Int32) ≤ x1 then k_44 f_this_draft f_this_at f_this_told else (g_X12_in N x1 5 29).bind fun v17 => if v17 = 0 then g_X12_reads_b36 N f_this_text f_this_length (g_X12_reads_L2 N f_this_text f_this_length k_44 fu) f_this_draft f_this_at f_this_told x1 x1 else gz 6 (if ((x1 - 5) - (x1 - 5) / 6 * 6) = 0 then g_X12_reads_b36 N f_this_text f_this_length (g_X12_reads_L2 N f_this_text f_this_length k_44 fu) f_this_draft f_this_at f_this_told x1 x1 else g_X12_reads_b37 N f_this_text f_this_length (g_X12_reads_L2 N f_this_text f_this_length k_44 fu) f_this_draft f_this_at f_this_told x1 x1 3)
def g_X12_reads (N : Nat) (f_this_text : (Nat → Int32)) (f_this_length : Int32) (f_this_draft : (Nat → Int32)) (f_this_at : Int32) (f_this_told : (Nat → Int32)) : Option (Int32 × (Nat → Int32) × Int32 × (Nat → Int32)) := g_X12_reads_L2 N f_this_text f_this_length (g_X12_reads_b44 N f_this_text f_this_length) N f_this_draft f_this_at f_this_told 0
set_option maxHeartbeats 4000000 in
set_option maxRecDepth 100000 in
theorem c_X12_reads (l : Launch) (G : jG) (N : Nat) (q_this : Nat) (q_this_text : Nat) (q_this_draft : Nat) (q_this_told : Nat) (v_this_book : Value) (v_this_s : Value) (v_this_kept : Value) (v_this_keptMany : Value) (v_this_acts : Value) (v_this_actMany : Value) (v_this_row : Value) (v_this_rowMany : Value) (v_this_tells : Value) (v_this_tellMany : Value) (v_this_place : Value) (v_this_sort : Value) (v_this_minute : Value) (v_this_when : Value) (v_this_isHeard : Value) (v_this_goneBy : Value) (v_this_stand : Value) (v_this_many : Value) (v_this_standing : Value) (f_this_text : (Nat → Int32)) (f_this_length : Int32) (f_this_draft : (Nat → Int32)) (f_this_at : Int32) (f_this_told : (Nat → Int32)) (u : Int32 × (Nat → Int32) × Int32 × (Nat → Int32)) (hu : g_X12_reads N f_this_text f_this_length f_this_draft f_this_at f_this_told = some u) : MetRW l G yX12_reads wsX12_reads ({ frames := 5, cells := 0, slots := 0, locals := 111 } : Room) [.ref q_this] (w_X12_reads G q_this q_this_text q_this_draft q_this_told v_this_book v_this_s v_this_kept v_this_keptMany v_this_acts v_this_actMany v_this_row v_this_rowMany v_this_tells v_this_tellMany v_this_place v_this_sort v_this_minute v_this_when v_this_isHeard v_this_goneBy v_this_stand v_this_many v_this_standing f_this_text f_this_length f_this_draft f_this_at f_this_told) (w_X12_reads G q_this q_this_text q_this_draft q_this_told v_this_book v_this_s v_this_kept v_this_keptMany v_this_acts v_this_actMany v_this_row v_this_rowMany v_this_tells v_this_tellMany v_this_place v_this_sort v_this_minute v_this_when v_this_isHeard v_this_goneBy v_this_stand v_this_many v_this_standing f_this_text f_this_length u.2.1 u.2.2.1 u.2.2.2) u.1 := by
  refine met_rwi (cc := cX12_reads) (maxL := 2) (lv0 := [(0, .ref q_this)]) (by decide) rfl rfl rfl rfl (fun X hX hW hret => ?_)
  have hinX12 : ∀ w ∈ u_ws RX12 TX12 24, w ∈ wsX12_reads := by decide +kernel
  have hf_X12_at_76 : Cond.fieldLink RX12 76 (TX12 13).1 (TX12 13).2.1 (TX12 13).2.2.1 ∈ wsX12_reads := by decide +kernel
  have hf_X12_draft_16 : Cond.fieldLink RX12 16 (TX12 3).1 (TX12 3).2.1 (TX12 3).2.2.1 ∈ wsX12_reads := by decide +kernel
  have hf_X12_length_70 : Cond.fieldLink RX12 70 (TX12 1).1 (TX12 1).2.1 (TX12 1).2.2.1 ∈ wsX12_reads := by decide +kernel
  have L72 : ∀ (fu72 : Nat), ∀ (f_this_draft : (Nat → Int32)) (f_this_at : Int32) (f_this_told : (Nat → Int32)), g_X12_reads_L72 N f_this_text f_this_length fu72 f_this_draft f_this_at f_this_told = some u → J X 0 0 (w_X12_reads G q_this q_this_text q_this_draft q_this_told v_this_book v_this_s v_this_kept v_this_keptMany v_this_acts v_this_actMany v_this_row v_this_rowMany v_this_tells v_this_tellMany v_this_place v_this_sort v_this_minute v_this_when v_this_isHeard v_this_goneBy v_this_stand v_this_many v_this_standing f_this_text f_this_length f_this_draft f_this_at f_this_told) 72 [(0, .ref q_this)] [] := by
    intro fu72
    induction fu72 with
    | zero => intro f_this_draft f_this_at f_this_told hg; exact nomatch hg
    | succ fu72 ih72 =>
      intro f_this_draft f_this_at f_this_told hg
      unfold g_X12_reads_L72 at hg
      refine j_aload_n hX 0 dX12_reads_72 rfl rfl ?_
      refine j_get hX 0 13 rfl rfl hinX12 rfl hf_X12_at_76 rfl dX12_reads_73 ?_
      refine j_aload_n hX 0 dX12_reads_76 rfl rfl ?_
      refine j_get hX 0 1 rfl rfl hinX12 rfl hf_X12_length_70 rfl dX12_reads_77 ?_
      refine j_icmp_ge hX 100 hg dX12_reads_80 (by decide) (fun hg => ?_) (fun hg => ?_)
      · refine j_bipush hX dX12_reads_100 kb_m4 ?_
        cases hg
        exact hret _ _ dX12_reads_102
      · refine j_aload_n hX 0 dX12_reads_83 rfl rfl ?_
        refine j_get hX 0 13 rfl rfl hinX12 rfl hf_X12_at_76 rfl dX12_reads_84 ?_
        refine j_istore_n hX (lv' := [(1, .int f_this_at), (0, .ref q_this)]) dX12_reads_87 rfl rfl rfl ?_
        refine j_aload_n hX 1 dX12_reads_88 rfl rfl ?_
        refine j_vRW hX hW (r := fun v => v.1) (w1 := fun v => (w_X12_item G q_this q_this_text q_this_draft q_this_told v_this_book v_this_s v_this_kept v_this_keptMany v_this_acts v_this_actMany v_this_row v_this_rowMany v_this_tells v_this_tellMany v_this_place v_this_sort v_this_minute v_this_when v_this_isHeard v_this_goneBy v_this_stand v_this_many v_this_standing f_this_text f_this_length v.2.1 v.2.2.1 v.2.2.2)) (ws' := fun v => (w_X12_reads G q_this q_this_text q_this_draft q_this_told v_this_book v_this_s v_this_kept v_this_keptMany v_this_acts v_this_actMany v_this_row v_this_rowMany v_this_tells v_this_tellMany v_this_place v_this_sort v_this_minute v_this_when v_this_isHeard v_this_goneBy v_this_stand v_this_many v_this_standing f_this_text f_this_length v.2.1 v.2.2.1 v.2.2.2)) [] hg (fun v hv => c_X12_item l G N q_this q_this_text q_this_draft q_this_told v_this_book v_this_s v_this_kept v_this_keptMany v_this_acts v_this_actMany v_this_row v_this_rowMany v_this_tells v_this_tellMany v_this_place v_this_sort v_this_minute v_this_when v_this_isHeard v_this_goneBy v_this_stand v_this_many v_this_standing f_this_text f_this_length f_this_draft f_this_at f_this_told v hv) gX12_reads_X12_item rfl ⟨rfl, rfl⟩ ⟨rfl, by decide, by decide, rfl⟩ rfl rfl [0, 1, 2, 3] rfl (by decide +kernel) rfl rfl dX12_reads_89 rfl rfl ⟨Nat.zero_le _, Nat.zero_le _⟩ (fun _ => jn_set [0, 1, 2, 3] rfl rfl rfl) (fun v89 hg => ?_)
        refine j_if_ne hX 97 hg dX12_reads_92 (by decide) (fun hg => ?_) (fun hg => ?_)
        · refine j_iload_n hX 0 dX12_reads_95 rfl rfl ?_
          cases hg
          exact hret _ _ dX12_reads_96
        · refine j_goto hX 72 dX12_reads_97 (by decide) ?_
          refine j_lv [1] rfl ?_
          exact ih72 _ _ _ hg
  have B44 : ∀ (f_this_draft : (Nat → Int32)) (f_this_at : Int32) (f_this_told : (Nat → Int32)), g_X12_reads_b44 N f_this_text f_this_length f_this_draft f_this_at f_this_told = some u → J X 0 0 (w_X12_reads G q_this q_this_text q_this_draft q_this_told v_this_book v_this_s v_this_kept v_this_keptMany v_this_acts v_this_actMany v_this_row v_this_rowMany v_this_tells v_this_tellMany v_this_place v_this_sort v_this_minute v_this_when v_this_isHeard v_this_goneBy v_this_stand v_this_many v_this_standing f_this_text f_this_length f_this_draft f_this_at f_this_told) 44 [(0, .ref q_this)] [] := by
    intro f_this_draft f_this_at f_this_told hg
    unfold g_X12_reads_b44 at hg
    refine j_aload_n hX 0 dX12_reads_44 rfl rfl ?_
    refine j_get hX 0 3 rfl rfl hinX12 rfl hf_X12_draft_16 rfl dX12_reads_45 ?_
    refine j_iconst hX dX12_reads_48 kc_0 ?_
    refine j_iconst hX dX12_reads_49 kc_2 ?_
    refine j_iast hX hW 2 rfl hg dX12_reads_50 (ws' := (w_X12_reads G q_this q_this_text q_this_draft q_this_told v_this_book v_this_s v_this_kept v_this_keptMany v_this_acts v_this_actMany v_this_row v_this_rowMany v_this_tells v_this_tellMany v_this_place v_this_sort v_this_minute v_this_when v_this_isHeard v_this_goneBy v_this_stand v_this_many v_this_standing f_this_text f_this_length (upd f_this_draft (0 : Int32).toNatClampNeg 2) f_this_at f_this_told)) rfl (fun hg => ?_)
    refine j_aload_n hX 0 dX12_reads_51 rfl rfl ?_
    refine j_get hX 0 3 rfl rfl hinX12 rfl hf_X12_draft_16 rfl dX12_reads_52 ?_
    refine j_iconst hX dX12_reads_55 kc_1 ?_
    refine j_bipush hX dX12_reads_56 kb_20 ?_
    refine j_iast hX hW 2 rfl hg dX12_reads_58 (ws' := (w_X12_reads G q_this q_this_text q_this_draft q_this_told v_this_book v_this_s v_this_kept v_this_keptMany v_this_acts v_this_actMany v_this_row v_this_rowMany v_this_tells v_this_tellMany v_this_place v_this_sort v_this_minute v_this_when v_this_isHeard v_this_goneBy v_this_stand v_this_many v_this_standing f_this_text f_this_length (upd (upd f_this_draft (0 : Int32).toNatClampNeg 2) (1 : Int32).toNatClampNeg 20) f_this_at f_this_told)) rfl (fun hg => ?_)
    refine j_aload_n hX 0 dX12_reads_59 rfl rfl ?_
    refine j_get hX 0 3 rfl rfl hinX12 rfl hf_X12_draft_16 rfl dX12_reads_60 ?_
    refine j_iconst hX dX12_reads_63 kc_3 ?_
    refine j_bipush hX dX12_reads_64 kb_8 ?_
    refine j_iast hX hW 2 rfl hg dX12_reads_66 (ws' := (w_X12_reads G q_this q_this_text q_this_draft q_this_told v_this_book v_this_s v_this_kept v_this_keptMany v_this_acts v_this_actMany v_this_row v_this_rowMany v_this_tells v_this_tellMany v_this_place v_this_sort v_this_minute v_this_when v_this_isHeard v_this_goneBy v_this_stand v_this_many v_this_standing f_this_text f_this_length (upd (upd (upd f_this_draft (0 : Int32).toNatClampNeg 2) (1 : Int32).toNatClampNeg 20) (3 : Int32).toNatClampNeg 8) f_this_at f_this_told)) rfl (fun hg => ?_)
    refine j_aload_n hX 0 dX12_reads_67 rfl rfl ?_
    refine j_iconst hX dX12_reads_68 kc_0 ?_
    refine j_put hX hW 0 13 rfl rfl hinX12 tyX12 tyX12_ok nmX12 rfl hf_X12_at_76 rfl rfl rfl rfl dX12_reads_69 (ws' := (w_X12_reads G q_this q_this_text q_this_draft q_this_told v_this_book v_this_s v_this_kept v_this_keptMany v_this_acts v_this_actMany v_this_row v_this_rowMany v_this_tells v_this_tellMany v_this_place v_this_sort v_this_minute v_this_when v_this_isHeard v_this_goneBy v_this_stand v_this_many v_this_standing f_this_text f_this_length (upd (upd (upd f_this_draft (0 : Int32).toNatClampNeg 2) (1 : Int32).toNatClampNeg 20) (3 : Int32).toNatClampNeg 8) 0 f_this_told)) rfl ?_
    exact L72 N _ _ _ hg
  have L2 : ∀ (fu2 : Nat), ∀ (f_this_draft : (Nat → Int32)) (f_this_at : Int32) (f_this_told : (Nat → Int32)) (x1 : Int32), g_X12_reads_L2 N f_this_text f_this_length (g_X12_reads_b44 N f_this_text f_this_length) fu2 f_this_draft f_this_at f_this_told x1 = some u → J X 0 0 (w_X12_reads G q_this q_this_text q_this_draft q_this_told v_this_book v_this_s v_this_kept v_this_keptMany v_this_acts v_this_actMany v_this_row v_this_rowMany v_this_tells v_this_tellMany v_this_place v_this_sort v_this_minute v_this_when v_this_isHeard v_this_goneBy v_this_stand v_this_many v_this_standing f_this_text f_this_length f_this_draft f_this_at f_this_told) 2 [(0, .ref q_this), (1, .int x1)] [] := by
    intro fu2
    induction fu2 with
    | zero => intro f_this_draft f_this_at f_this_told x1 hg; exact nomatch hg
    | succ fu2 ih2 =>
      have B37 : ∀ (f_this_draft : (Nat → Int32)) (f_this_at : Int32) (f_this_told : (Nat → Int32)) (x1 : Int32) (s1 : Int32) (s2 : Int32), g_X12_reads_b37 N f_this_text f_this_length (g_X12_reads_L2 N f_this_text f_this_length (g_X12_reads_b44 N f_this_text f_this_length) fu2) f_this_draft f_this_at f_this_told x1 s1 s2 = some u → J X 0 0 (w_X12_reads G q_this q_this_text q_this_draft q_this_told v_this_book v_this_s v_this_kept v_this_keptMany v_this_acts v_this_actMany v_this_row v_this_rowMany v_this_tells v_this_tellMany v_this_place v_this_sort v_this_minute v_this_when v_this_isHeard v_this_goneBy v_this_stand v_this_many v_this_standing f_this_text f_this_length f_this_draft f_this_at f_this_told) 37 [(0, .ref q_this), (1, .int x1)] [.int s2, .int s1, .ref q_this_draft] := by
        intro f_this_draft f_this_at f_this_told x1 s1 s2 hg
        unfold g_X12_reads_b37 at hg
        refine j_iast hX hW 2 rfl hg dX12_reads_37 (ws' := (w_X12_reads G q_this q_this_text q_this_draft q_this_told v_this_book v_this_s v_this_kept v_this_keptMany v_this_acts v_this_actMany v_this_row v_this_rowMany v_this_tells v_this_tellMany v_this_place v_this_sort v_this_minute v_this_when v_this_isHeard v_this_goneBy v_this_stand v_this_many v_this_standing f_this_text f_this_length (upd f_this_draft s1.toNatClampNeg s2) f_this_at f_this_told)) rfl (fun hg => ?_)
        refine j_iinc hX 1 (v := x1 + 1) (lv' := [(1, .int (x1 + 1)), (0, .ref q_this)]) dX12_reads_38 rfl (by rw [kc_1]) rfl rfl ?_
        refine j_goto hX 2 dX12_reads_41 (by decide) ?_
        refine j_lv [1, 0] rfl ?_
        exact ih2 _ _ _ _ hg
      have B36 : ∀ (f_this_draft : (Nat → Int32)) (f_this_at : Int32) (f_this_told : (Nat → Int32)) (x1 : Int32) (s1 : Int32), g_X12_reads_b36 N f_this_text f_this_length (g_X12_reads_L2 N f_this_text f_this_length (g_X12_reads_b44 N f_this_text f_this_length) fu2) f_this_draft f_this_at f_this_told x1 s1 = some u → J X 0 0 (w_X12_reads G q_this q_this_text q_this_draft q_this_told v_this_book v_this_s v_this_kept v_this_keptMany v_this_acts v_this_actMany v_this_row v_this_rowMany v_this_tells v_this_tellMany v_this_place v_this_sort v_this_minute v_this_when v_this_isHeard v_this_goneBy v_this_stand v_this_many v_this_standing f_this_text f_this_length f_this_draft f_this_at f_this_told) 36 [(0, .ref q_this), (1, .int x1)] [.int s1, .ref q_this_draft] := by
        intro f_this_draft f_this_at f_this_told x1 s1 hg
        unfold g_X12_reads_b36 at hg
        refine j_iconst hX dX12_reads_36 kc_0 ?_
        exact B37 _ _ _ _ _ _ hg
      intro f_this_draft f_this_at f_this_told x1 hg
      unfold g_X12_reads_L2 at hg
      refine j_iload_n hX 1 dX12_reads_2 rfl rfl ?_
      refine j_bipush hX dX12_reads_3 kb_78 ?_
      refine j_icmp_ge hX 44 hg dX12_reads_5 (by decide) (fun hg => ?_) (fun hg => ?_)
      · refine j_lv [0] rfl ?_
        exact B44 _ _ _ hg
      · refine j_aload_n hX 0 dX12_reads_8 rfl rfl ?_
        refine j_get hX 0 3 rfl rfl hinX12 rfl hf_X12_draft_16 rfl dX12_reads_9 ?_
        refine j_iload_n hX 1 dX12_reads_12 rfl rfl ?_
        refine j_iload_n hX 1 dX12_reads_13 rfl rfl ?_
        refine j_iconst hX dX12_reads_14 kc_5 ?_
        refine j_bipush hX dX12_reads_15 kb_29 ?_
        refine j_sRO hX (r := fun v => v) [.int x1, .int 5, .int 29] hg (fun v hv => c_X12_in l G N x1 5 29 v hv) gX12_reads_X12_in rfl ⟨rfl, rfl⟩ ⟨by decide, by decide, rfl⟩ rfl rfl [] rfl dX12_reads_17 rfl rfl ⟨Nat.zero_le _, Nat.zero_le _⟩ (fun v17 hg => ?_)
        refine j_if_eq hX 36 hg dX12_reads_20 (by decide) (fun hg => ?_) (fun hg => ?_)
        · exact B36 _ _ _ _ _ hg
        · refine j_iload_n hX 1 dX12_reads_23 rfl rfl ?_
          refine j_iconst hX dX12_reads_24 kc_5 ?_
          refine j_isub hX dX12_reads_25 ?_
          refine j_bipush hX dX12_reads_26 kb_6 ?_
          refine j_irem hX hg dX12_reads_28 (fun hg => ?_)
          refine j_if_eq hX 36 hg dX12_reads_29 (by decide) (fun hg => ?_) (fun hg => ?_)
          · exact B36 _ _ _ _ _ hg
          · refine j_iconst hX dX12_reads_32 kc_3 ?_
            refine j_goto hX 37 dX12_reads_33 (by decide) ?_
            exact B37 _ _ _ _ _ _ hg
  have hg := hu
  unfold g_X12_reads at hg
  refine j_iconst hX dX12_reads_0 kc_0 ?_
  refine j_istore_n hX (lv' := [(1, .int 0), (0, .ref q_this)]) dX12_reads_1 rfl rfl rfl ?_
  refine j_lv [1, 0] rfl ?_
  exact L2 N _ _ _ _ hg
abbrev w_X12_lays (G : jG) (q_this : Nat) (q_this_book : Nat) (q_this_draft : Nat) (q_this_s : Nat) (v_this_text : Value) (v_this_length : Value) (v_this_kept : Value) (v_this_acts : Value) (v_this_row : Value) (v_this_tells : Value) (v_this_at : Value) (v_this_told : Value) (v_this_place : Value) (v_this_sort : Value) (v_this_minute : Value) (v_this_when : Value) (v_this_isHeard : Value) (v_this_goneBy : Value) (v_this_stand : Value) (v_this_many : Value) (v_this_standing : Value) (f_this_book : (Nat → Int32)) (f_this_draft : (Nat → Int32)) (f_this_s : (Nat → Int32)) (f_this_keptMany : Int32) (f_this_actMany : Int32) (f_this_rowMany : Int32) (f_this_tellMany : Int32) : va_W := [oC q_this 12 [v_this_text, v_this_length, .ref q_this_book, .ref q_this_draft, .ref q_this_s, v_this_kept, .int f_this_keptMany, v_this_acts, .int f_this_actMany, v_this_row, .int f_this_rowMany, v_this_tells, .int f_this_tellMany, v_this_at, v_this_told, v_this_place, v_this_sort, v_this_minute, v_this_when, v_this_isHeard, v_this_goneBy, v_this_stand, v_this_many, v_this_standing], aI G q_this_book 78 f_this_book, aI G q_this_draft 78 f_this_draft, aI G q_this_s 74 f_this_s]
def g_X12_lays_b26 (N : Nat) (f_this_draft : (Nat → Int32)) (f_this_book : (Nat → Int32)) (f_this_s : (Nat → Int32)) (f_this_keptMany : Int32) (f_this_actMany : Int32) (f_this_rowMany : Int32) (f_this_tellMany : Int32) : Option ((Nat → Int32) × (Nat → Int32) × Int32 × Int32 × Int32 × Int32) := gi 0 74 (gi 1 74 (some (f_this_book, upd (upd f_this_s (0 : Int32).toNatClampNeg 0) (1 : Int32).toNatClampNeg 0, 0, 0, 0, 0)))
def g_X12_lays_L2 (N : Nat) (f_this_draft : (Nat → Int32)) (k_26 : (Nat → Int32) → (Nat → Int32) → Int32 → Int32 → Int32 → Int32 → Option ((Nat → Int32) × (Nat → Int32) × Int32 × Int32 × Int32 × Int32)) : Nat → (Nat → Int32) → (Nat → Int32) → Int32 → Int32 → Int32 → Int32 → Int32 → Option ((Nat → Int32) × (Nat → Int32) × Int32 × Int32 × Int32 × Int32)
  | 0, _, _, _, _, _, _, _ => none
  | fu + 1, f_this_book, f_this_s, f_this_keptMany, f_this_actMany, f_this_rowMany, f_this_tellMany, x1 => if (78 : Int32) ≤ x1 then k_26 f_this_book f_this_s f_this_keptMany f_this_actMany f_this_rowMany f_this_tellMany else gi x1 78 (gi x1 78 (g_X12_lays_L2 N f_this_draft k_26 fu (upd f_this_book x1.toNatClampNeg (f_this_draft x1.toNatClampNeg)) f_this_s f_this_keptMany f_this_actMany f_this_rowMany f_this_tellMany (x1 + 1)))
def g_X12_lays (N : Nat) (f_this_draft : (Nat → Int32)) (f_this_book : (Nat → Int32)) (f_this_s : (Nat → Int32)) (f_this_keptMany : Int32) (f_this_actMany : Int32) (f_this_rowMany : Int32) (f_this_tellMany : Int32) : Option ((Nat → Int32) × (Nat → Int32) × Int32 × Int32 × Int32 × Int32) := g_X12_lays_L2 N f_this_draft (g_X12_lays_b26 N f_this_draft) N f_this_book f_this_s f_this_keptMany f_this_actMany f_this_rowMany f_this_tellMany 0
set_option maxHeartbeats 4000000 in
set_option maxRecDepth 100000 in
theorem c_X12_lays (l : Launch) (G : jG) (N : Nat) (q_this : Nat) (q_this_book : Nat) (q_this_draft : Nat) (q_this_s : Nat) (v_this_text : Value) (v_this_length : Value) (v_this_kept : Value) (v_this_acts : Value) (v_this_row : Value) (v_this_tells : Value) (v_this_at : Value) (v_this_told : Value) (v_this_place : Value) (v_this_sort : Value) (v_this_minute : Value) (v_this_when : Value) (v_this_isHeard : Value) (v_this_goneBy : Value) (v_this_stand : Value) (v_this_many : Value) (v_this_standing : Value) (f_this_book : (Nat → Int32)) (f_this_draft : (Nat → Int32)) (f_this_s : (Nat → Int32)) (f_this_keptMany : Int32) (f_this_actMany : Int32) (f_this_rowMany : Int32) (f_this_tellMany : Int32) (u : (Nat → Int32) × (Nat → Int32) × Int32 × Int32 × Int32 × Int32) (hu : g_X12_lays N f_this_draft f_this_book f_this_s f_this_keptMany f_this_actMany f_this_rowMany f_this_tellMany = some u) : MetRV l G yX12_lays wsX12_lays ({ frames := 0, cells := 0, slots := 0, locals := 0 } : Room) [.ref q_this] (w_X12_lays G q_this q_this_book q_this_draft q_this_s v_this_text v_this_length v_this_kept v_this_acts v_this_row v_this_tells v_this_at v_this_told v_this_place v_this_sort v_this_minute v_this_when v_this_isHeard v_this_goneBy v_this_stand v_this_many v_this_standing f_this_book f_this_draft f_this_s f_this_keptMany f_this_actMany f_this_rowMany f_this_tellMany) (w_X12_lays G q_this q_this_book q_this_draft q_this_s v_this_text v_this_length v_this_kept v_this_acts v_this_row v_this_tells v_this_at v_this_told v_this_place v_this_sort v_this_minute v_this_when v_this_isHeard v_this_goneBy v_this_stand v_this_many v_this_standing u.1 f_this_draft u.2.1 u.2.2.1 u.2.2.2.1 u.2.2.2.2.1 u.2.2.2.2.2) := by
  refine met_rwv (cc := cX12_lays) (maxL := 2) (lv0 := [(0, .ref q_this)]) (by decide) rfl rfl rfl rfl (fun X hX hW hret => ?_)
  have hinX12 : ∀ w ∈ u_ws RX12 TX12 24, w ∈ wsX12_lays := by decide +kernel
  have hf_X12_actMany_109 : Cond.fieldLink RX12 109 (TX12 8).1 (TX12 8).2.1 (TX12 8).2.2.1 ∈ wsX12_lays := by decide +kernel
  have hf_X12_book_13 : Cond.fieldLink RX12 13 (TX12 2).1 (TX12 2).2.1 (TX12 2).2.2.1 ∈ wsX12_lays := by decide +kernel
  have hf_X12_draft_16 : Cond.fieldLink RX12 16 (TX12 3).1 (TX12 3).2.1 (TX12 3).2.2.1 ∈ wsX12_lays := by decide +kernel
  have hf_X12_keptMany_106 : Cond.fieldLink RX12 106 (TX12 6).1 (TX12 6).2.1 (TX12 6).2.2.1 ∈ wsX12_lays := by decide +kernel
  have hf_X12_rowMany_112 : Cond.fieldLink RX12 112 (TX12 10).1 (TX12 10).2.1 (TX12 10).2.2.1 ∈ wsX12_lays := by decide +kernel
  have hf_X12_s_19 : Cond.fieldLink RX12 19 (TX12 4).1 (TX12 4).2.1 (TX12 4).2.2.1 ∈ wsX12_lays := by decide +kernel
  have hf_X12_tellMany_115 : Cond.fieldLink RX12 115 (TX12 12).1 (TX12 12).2.1 (TX12 12).2.2.1 ∈ wsX12_lays := by decide +kernel
  have B26 : ∀ (f_this_book : (Nat → Int32)) (f_this_s : (Nat → Int32)) (f_this_keptMany : Int32) (f_this_actMany : Int32) (f_this_rowMany : Int32) (f_this_tellMany : Int32), g_X12_lays_b26 N f_this_draft f_this_book f_this_s f_this_keptMany f_this_actMany f_this_rowMany f_this_tellMany = some u → J X 0 0 (w_X12_lays G q_this q_this_book q_this_draft q_this_s v_this_text v_this_length v_this_kept v_this_acts v_this_row v_this_tells v_this_at v_this_told v_this_place v_this_sort v_this_minute v_this_when v_this_isHeard v_this_goneBy v_this_stand v_this_many v_this_standing f_this_book f_this_draft f_this_s f_this_keptMany f_this_actMany f_this_rowMany f_this_tellMany) 26 [(0, .ref q_this)] [] := by
    intro f_this_book f_this_s f_this_keptMany f_this_actMany f_this_rowMany f_this_tellMany hg
    unfold g_X12_lays_b26 at hg
    refine j_aload_n hX 0 dX12_lays_26 rfl rfl ?_
    refine j_get hX 0 4 rfl rfl hinX12 rfl hf_X12_s_19 rfl dX12_lays_27 ?_
    refine j_iconst hX dX12_lays_30 kc_0 ?_
    refine j_iconst hX dX12_lays_31 kc_0 ?_
    refine j_iast hX hW 3 rfl hg dX12_lays_32 (ws' := (w_X12_lays G q_this q_this_book q_this_draft q_this_s v_this_text v_this_length v_this_kept v_this_acts v_this_row v_this_tells v_this_at v_this_told v_this_place v_this_sort v_this_minute v_this_when v_this_isHeard v_this_goneBy v_this_stand v_this_many v_this_standing f_this_book f_this_draft (upd f_this_s (0 : Int32).toNatClampNeg 0) f_this_keptMany f_this_actMany f_this_rowMany f_this_tellMany)) rfl (fun hg => ?_)
    refine j_aload_n hX 0 dX12_lays_33 rfl rfl ?_
    refine j_get hX 0 4 rfl rfl hinX12 rfl hf_X12_s_19 rfl dX12_lays_34 ?_
    refine j_iconst hX dX12_lays_37 kc_1 ?_
    refine j_iconst hX dX12_lays_38 kc_0 ?_
    refine j_iast hX hW 3 rfl hg dX12_lays_39 (ws' := (w_X12_lays G q_this q_this_book q_this_draft q_this_s v_this_text v_this_length v_this_kept v_this_acts v_this_row v_this_tells v_this_at v_this_told v_this_place v_this_sort v_this_minute v_this_when v_this_isHeard v_this_goneBy v_this_stand v_this_many v_this_standing f_this_book f_this_draft (upd (upd f_this_s (0 : Int32).toNatClampNeg 0) (1 : Int32).toNatClampNeg 0) f_this_keptMany f_this_actMany f_this_rowMany f_this_tellMany)) rfl (fun hg => ?_)
    refine j_aload_n hX 0 dX12_lays_40 rfl rfl ?_
    refine j_iconst hX dX12_lays_41 kc_0 ?_
    refine j_put hX hW 0 6 rfl rfl hinX12 tyX12 tyX12_ok nmX12 rfl hf_X12_keptMany_106 rfl rfl rfl rfl dX12_lays_42 (ws' := (w_X12_lays G q_this q_this_book q_this_draft q_this_s v_this_text v_this_length v_this_kept v_this_acts v_this_row v_this_tells v_this_at v_this_told v_this_place v_this_sort v_this_minute v_this_when v_this_isHeard v_this_goneBy v_this_stand v_this_many v_this_standing f_this_book f_this_draft (upd (upd f_this_s (0 : Int32).toNatClampNeg 0) (1 : Int32).toNatClampNeg 0) 0 f_this_actMany f_this_rowMany f_this_tellMany)) rfl ?_
    refine j_aload_n hX 0 dX12_lays_45 rfl rfl ?_
    refine j_iconst hX dX12_lays_46 kc_0 ?_
    refine j_put hX hW 0 8 rfl rfl hinX12 tyX12 tyX12_ok nmX12 rfl hf_X12_actMany_109 rfl rfl rfl rfl dX12_lays_47 (ws' := (w_X12_lays G q_this q_this_book q_this_draft q_this_s v_this_text v_this_length v_this_kept v_this_acts v_this_row v_this_tells v_this_at v_this_told v_this_place v_this_sort v_this_minute v_this_when v_this_isHeard v_this_goneBy v_this_stand v_this_many v_this_standing f_this_book f_this_draft (upd (upd f_this_s (0 : Int32).toNatClampNeg 0) (1 : Int32).toNatClampNeg 0) 0 0 f_this_rowMany f_this_tellMany)) rfl ?_
    refine j_aload_n hX 0 dX12_lays_50 rfl rfl ?_
    refine j_iconst hX dX12_lays_51 kc_0 ?_
    refine j_put hX hW 0 10 rfl rfl hinX12 tyX12 tyX12_ok nmX12 rfl hf_X12_rowMany_112 rfl rfl rfl rfl dX12_lays_52 (ws' := (w_X12_lays G q_this q_this_book q_this_draft q_this_s v_this_text v_this_length v_this_kept v_this_acts v_this_row v_this_tells v_this_at v_this_told v_this_place v_this_sort v_this_minute v_this_when v_this_isHeard v_this_goneBy v_this_stand v_this_many v_this_standing f_this_book f_this_draft (upd (upd f_this_s (0 : Int32).toNatClampNeg 0) (1 : Int32).toNatClampNeg 0) 0 0 0 f_this_tellMany)) rfl ?_
    refine j_aload_n hX 0 dX12_lays_55 rfl rfl ?_
    refine j_iconst hX dX12_lays_56 kc_0 ?_
    refine j_put hX hW 0 12 rfl rfl hinX12 tyX12 tyX12_ok nmX12 rfl hf_X12_tellMany_115 rfl rfl rfl rfl dX12_lays_57 (ws' := (w_X12_lays G q_this q_this_book q_this_draft q_this_s v_this_text v_this_length v_this_kept v_this_acts v_this_row v_this_tells v_this_at v_this_told v_this_place v_this_sort v_this_minute v_this_when v_this_isHeard v_this_goneBy v_this_stand v_this_many v_this_standing f_this_book f_this_draft (upd (upd f_this_s (0 : Int32).toNatClampNeg 0) (1 : Int32).toNatClampNeg 0) 0 0 0 0)) rfl ?_
    cases hg
    exact hret _ _ dX12_lays_60
  have L2 : ∀ (fu2 : Nat), ∀ (f_this_book : (Nat → Int32)) (f_this_s : (Nat → Int32)) (f_this_keptMany : Int32) (f_this_actMany : Int32) (f_this_rowMany : Int32) (f_this_tellMany : Int32) (x1 : Int32), g_X12_lays_L2 N f_this_draft (g_X12_lays_b26 N f_this_draft) fu2 f_this_book f_this_s f_this_keptMany f_this_actMany f_this_rowMany f_this_tellMany x1 = some u → J X 0 0 (w_X12_lays G q_this q_this_book q_this_draft q_this_s v_this_text v_this_length v_this_kept v_this_acts v_this_row v_this_tells v_this_at v_this_told v_this_place v_this_sort v_this_minute v_this_when v_this_isHeard v_this_goneBy v_this_stand v_this_many v_this_standing f_this_book f_this_draft f_this_s f_this_keptMany f_this_actMany f_this_rowMany f_this_tellMany) 2 [(0, .ref q_this), (1, .int x1)] [] := by
    intro fu2
    induction fu2 with
    | zero => intro f_this_book f_this_s f_this_keptMany f_this_actMany f_this_rowMany f_this_tellMany x1 hg; exact nomatch hg
    | succ fu2 ih2 =>
      intro f_this_book f_this_s f_this_keptMany f_this_actMany f_this_rowMany f_this_tellMany x1 hg
      unfold g_X12_lays_L2 at hg
      refine j_iload_n hX 1 dX12_lays_2 rfl rfl ?_
      refine j_bipush hX dX12_lays_3 kb_78 ?_
      refine j_icmp_ge hX 26 hg dX12_lays_5 (by decide) (fun hg => ?_) (fun hg => ?_)
      · refine j_lv [0] rfl ?_
        exact B26 _ _ _ _ _ _ hg
      · refine j_aload_n hX 0 dX12_lays_8 rfl rfl ?_
        refine j_get hX 0 2 rfl rfl hinX12 rfl hf_X12_book_13 rfl dX12_lays_9 ?_
        refine j_iload_n hX 1 dX12_lays_12 rfl rfl ?_
        refine j_aload_n hX 0 dX12_lays_13 rfl rfl ?_
        refine j_get hX 0 3 rfl rfl hinX12 rfl hf_X12_draft_16 rfl dX12_lays_14 ?_
        refine j_iload_n hX 1 dX12_lays_17 rfl rfl ?_
        refine j_iald hX 2 rfl hg dX12_lays_18 (fun hg => ?_)
        refine j_iast hX hW 1 rfl hg dX12_lays_19 (ws' := (w_X12_lays G q_this q_this_book q_this_draft q_this_s v_this_text v_this_length v_this_kept v_this_acts v_this_row v_this_tells v_this_at v_this_told v_this_place v_this_sort v_this_minute v_this_when v_this_isHeard v_this_goneBy v_this_stand v_this_many v_this_standing (upd f_this_book x1.toNatClampNeg (f_this_draft x1.toNatClampNeg)) f_this_draft f_this_s f_this_keptMany f_this_actMany f_this_rowMany f_this_tellMany)) rfl (fun hg => ?_)
        refine j_iinc hX 1 (v := x1 + 1) (lv' := [(1, .int (x1 + 1)), (0, .ref q_this)]) dX12_lays_20 rfl (by rw [kc_1]) rfl rfl ?_
        refine j_goto hX 2 dX12_lays_23 (by decide) ?_
        refine j_lv [1, 0] rfl ?_
        exact ih2 _ _ _ _ _ _ _ hg
  have hg := hu
  unfold g_X12_lays at hg
  refine j_iconst hX dX12_lays_0 kc_0 ?_
  refine j_istore_n hX (lv' := [(1, .int 0), (0, .ref q_this)]) dX12_lays_1 rfl rfl rfl ?_
  refine j_lv [1, 0] rfl ?_
  exact L2 N _ _ _ _ _ _ _ hg
abbrev w_X12_fault (G : jG) (q_this : Nat) (q_this_text : Nat) (q_this_draft : Nat) (q_this_told : Nat) (v_this_book : Value) (v_this_s : Value) (v_this_kept : Value) (v_this_keptMany : Value) (v_this_acts : Value) (v_this_actMany : Value) (v_this_row : Value) (v_this_rowMany : Value) (v_this_tells : Value) (v_this_tellMany : Value) (v_this_place : Value) (v_this_sort : Value) (v_this_minute : Value) (v_this_when : Value) (v_this_isHeard : Value) (v_this_goneBy : Value) (v_this_stand : Value) (v_this_many : Value) (v_this_standing : Value) (f_this_text : (Nat → Int32)) (f_this_length : Int32) (f_this_draft : (Nat → Int32)) (f_this_at : Int32) (f_this_told : (Nat → Int32)) : va_W := [oC q_this 12 [.ref q_this_text, .int f_this_length, v_this_book, .ref q_this_draft, v_this_s, v_this_kept, v_this_keptMany, v_this_acts, v_this_actMany, v_this_row, v_this_rowMany, v_this_tells, v_this_tellMany, .int f_this_at, .ref q_this_told, v_this_place, v_this_sort, v_this_minute, v_this_when, v_this_isHeard, v_this_goneBy, v_this_stand, v_this_many, v_this_standing], aI G q_this_text 300 f_this_text, aI G q_this_draft 78 f_this_draft, aI G q_this_told 3 f_this_told]
def g_X12_fault (N : Nat) (f_this_text : (Nat → Int32)) (f_this_length : Int32) (f_this_draft : (Nat → Int32)) (f_this_at : Int32) (f_this_told : (Nat → Int32)) : Option (Int32 × (Nat → Int32) × Int32 × (Nat → Int32)) := (g_X12_reads N f_this_text f_this_length f_this_draft f_this_at f_this_told).bind fun v1 => some (v1.1, v1.2.1, v1.2.2.1, v1.2.2.2)
set_option maxHeartbeats 4000000 in
set_option maxRecDepth 100000 in
theorem c_X12_fault (l : Launch) (G : jG) (N : Nat) (q_this : Nat) (q_this_text : Nat) (q_this_draft : Nat) (q_this_told : Nat) (v_this_book : Value) (v_this_s : Value) (v_this_kept : Value) (v_this_keptMany : Value) (v_this_acts : Value) (v_this_actMany : Value) (v_this_row : Value) (v_this_rowMany : Value) (v_this_tells : Value) (v_this_tellMany : Value) (v_this_place : Value) (v_this_sort : Value) (v_this_minute : Value) (v_this_when : Value) (v_this_isHeard : Value) (v_this_goneBy : Value) (v_this_stand : Value) (v_this_many : Value) (v_this_standing : Value) (f_this_text : (Nat → Int32)) (f_this_length : Int32) (f_this_draft : (Nat → Int32)) (f_this_at : Int32) (f_this_told : (Nat → Int32)) (u : Int32 × (Nat → Int32) × Int32 × (Nat → Int32)) (hu : g_X12_fault N f_this_text f_this_length f_this_draft f_this_at f_this_told = some u) : MetRW l G yX12_fault wsX12_fault ({ frames := 6, cells := 0, slots := 0, locals := 132 } : Room) [.ref q_this] (w_X12_fault G q_this q_this_text q_this_draft q_this_told v_this_book v_this_s v_this_kept v_this_keptMany v_this_acts v_this_actMany v_this_row v_this_rowMany v_this_tells v_this_tellMany v_this_place v_this_sort v_this_minute v_this_when v_this_isHeard v_this_goneBy v_this_stand v_this_many v_this_standing f_this_text f_this_length f_this_draft f_this_at f_this_told) (w_X12_fault G q_this q_this_text q_this_draft q_this_told v_this_book v_this_s v_this_kept v_this_keptMany v_this_acts v_this_actMany v_this_row v_this_rowMany v_this_tells v_this_tellMany v_this_place v_this_sort v_this_minute v_this_when v_this_isHeard v_this_goneBy v_this_stand v_this_many v_this_standing f_this_text f_this_length u.2.1 u.2.2.1 u.2.2.2) u.1 := by
  refine met_rwi (cc := cX12_fault) (maxL := 1) (lv0 := [(0, .ref q_this)]) (by decide) rfl rfl rfl rfl (fun X hX hW hret => ?_)
  have hg := hu
  unfold g_X12_fault at hg
  refine j_aload_n hX 0 dX12_fault_0 rfl rfl ?_
  refine j_vRW hX hW (r := fun v => v.1) (w1 := fun v => (w_X12_reads G q_this q_this_text q_this_draft q_this_told v_this_book v_this_s v_this_kept v_this_keptMany v_this_acts v_this_actMany v_this_row v_this_rowMany v_this_tells v_this_tellMany v_this_place v_this_sort v_this_minute v_this_when v_this_isHeard v_this_goneBy v_this_stand v_this_many v_this_standing f_this_text f_this_length v.2.1 v.2.2.1 v.2.2.2)) (ws' := fun v => (w_X12_fault G q_this q_this_text q_this_draft q_this_told v_this_book v_this_s v_this_kept v_this_keptMany v_this_acts v_this_actMany v_this_row v_this_rowMany v_this_tells v_this_tellMany v_this_place v_this_sort v_this_minute v_this_when v_this_isHeard v_this_goneBy v_this_stand v_this_many v_this_standing f_this_text f_this_length v.2.1 v.2.2.1 v.2.2.2)) [] hg (fun v hv => c_X12_reads l G N q_this q_this_text q_this_draft q_this_told v_this_book v_this_s v_this_kept v_this_keptMany v_this_acts v_this_actMany v_this_row v_this_rowMany v_this_tells v_this_tellMany v_this_place v_this_sort v_this_minute v_this_when v_this_isHeard v_this_goneBy v_this_stand v_this_many v_this_standing f_this_text f_this_length f_this_draft f_this_at f_this_told v hv) gX12_fault_X12_reads rfl ⟨rfl, rfl⟩ ⟨rfl, by decide, by decide, rfl⟩ rfl rfl [0, 1, 2, 3] rfl (by decide +kernel) rfl rfl dX12_fault_1 rfl rfl ⟨Nat.zero_le _, Nat.zero_le _⟩ (fun _ => jn_set [0, 1, 2, 3] rfl rfl rfl) (fun v1 hg => ?_)
  cases hg
  exact hret _ _ dX12_fault_4
abbrev w_X12_lay (G : jG) (q_this : Nat) (q_this_text : Nat) (q_this_book : Nat) (q_this_draft : Nat) (q_this_s : Nat) (q_this_told : Nat) (v_this_kept : Value) (v_this_acts : Value) (v_this_row : Value) (v_this_tells : Value) (v_this_place : Value) (v_this_sort : Value) (v_this_minute : Value) (v_this_when : Value) (v_this_isHeard : Value) (v_this_goneBy : Value) (v_this_stand : Value) (v_this_many : Value) (v_this_standing : Value) (f_this_text : (Nat → Int32)) (f_this_length : Int32) (f_this_book : (Nat → Int32)) (f_this_draft : (Nat → Int32)) (f_this_s : (Nat → Int32)) (f_this_keptMany : Int32) (f_this_actMany : Int32) (f_this_rowMany : Int32) (f_this_tellMany : Int32) (f_this_at : Int32) (f_this_told : (Nat → Int32)) : va_W := [oC q_this 12 [.ref q_this_text, .int f_this_length, .ref q_this_book, .ref q_this_draft, .ref q_this_s, v_this_kept, .int f_this_keptMany, v_this_acts, .int f_this_actMany, v_this_row, .int f_this_rowMany, v_this_tells, .int f_this_tellMany, .int f_this_at, .ref q_this_told, v_this_place, v_this_sort, v_this_minute, v_this_when, v_this_isHeard, v_this_goneBy, v_this_stand, v_this_many, v_this_standing], aI G q_this_text 300 f_this_text, aI G q_this_book 78 f_this_book, aI G q_this_draft 78 f_this_draft, aI G q_this_s 74 f_this_s, aI G q_this_told 3 f_this_told]
def g_X12_lay (N : Nat) (f_this_text : (Nat → Int32)) (f_this_length : Int32) (f_this_book : (Nat → Int32)) (f_this_draft : (Nat → Int32)) (f_this_s : (Nat → Int32)) (f_this_keptMany : Int32) (f_this_actMany : Int32) (f_this_rowMany : Int32) (f_this_tellMany : Int32) (f_this_at : Int32) (f_this_told : (Nat → Int32)) : Option (Int32 × (Nat → Int32) × (Nat → Int32) × (Nat → Int32) × Int32 × Int32 × Int32 × Int32 × Int32 × (Nat → Int32)) := (g_X12_reads N f_this_text f_this_length f_this_draft f_this_at f_this_told).bind fun v1 => if v1.1 = (-4) then (g_X12_lays N v1.2.1 f_this_book f_this_s f_this_keptMany f_this_actMany f_this_rowMany f_this_tellMany).bind fun v13 => gi 0 78 (some (v13.1 (0 : Int32).toNatClampNeg, v13.1, v1.2.1, v13.2.1, v13.2.2.1, v13.2.2.2.1, v13.2.2.2.2.1, v13.2.2.2.2.2, v1.2.2.1, v1.2.2.2)) else some ((-2), f_this_book, v1.2.1, f_this_s, f_this_keptMany, f_this_actMany, f_this_rowMany, f_this_tellMany, v1.2.2.1, v1.2.2.2)
set_option maxHeartbeats 4000000 in
set_option maxRecDepth 100000 in
theorem c_X12_lay (l : Launch) (G : jG) (N : Nat) (q_this : Nat) (q_this_text : Nat) (q_this_book : Nat) (q_this_draft : Nat) (q_this_s : Nat) (q_this_told : Nat) (v_this_kept : Value) (v_this_acts : Value) (v_this_row : Value) (v_this_tells : Value) (v_this_place : Value) (v_this_sort : Value) (v_this_minute : Value) (v_this_when : Value) (v_this_isHeard : Value) (v_this_goneBy : Value) (v_this_stand : Value) (v_this_many : Value) (v_this_standing : Value) (f_this_text : (Nat → Int32)) (f_this_length : Int32) (f_this_book : (Nat → Int32)) (f_this_draft : (Nat → Int32)) (f_this_s : (Nat → Int32)) (f_this_keptMany : Int32) (f_this_actMany : Int32) (f_this_rowMany : Int32) (f_this_tellMany : Int32) (f_this_at : Int32) (f_this_told : (Nat → Int32)) (u : Int32 × (Nat → Int32) × (Nat → Int32) × (Nat → Int32) × Int32 × Int32 × Int32 × Int32 × Int32 × (Nat → Int32)) (hu : g_X12_lay N f_this_text f_this_length f_this_book f_this_draft f_this_s f_this_keptMany f_this_actMany f_this_rowMany f_this_tellMany f_this_at f_this_told = some u) : MetRW l G yX12_lay wsX12_lay ({ frames := 6, cells := 0, slots := 0, locals := 132 } : Room) [.ref q_this] (w_X12_lay G q_this q_this_text q_this_book q_this_draft q_this_s q_this_told v_this_kept v_this_acts v_this_row v_this_tells v_this_place v_this_sort v_this_minute v_this_when v_this_isHeard v_this_goneBy v_this_stand v_this_many v_this_standing f_this_text f_this_length f_this_book f_this_draft f_this_s f_this_keptMany f_this_actMany f_this_rowMany f_this_tellMany f_this_at f_this_told) (w_X12_lay G q_this q_this_text q_this_book q_this_draft q_this_s q_this_told v_this_kept v_this_acts v_this_row v_this_tells v_this_place v_this_sort v_this_minute v_this_when v_this_isHeard v_this_goneBy v_this_stand v_this_many v_this_standing f_this_text f_this_length u.2.1 u.2.2.1 u.2.2.2.1 u.2.2.2.2.1 u.2.2.2.2.2.1 u.2.2.2.2.2.2.1 u.2.2.2.2.2.2.2.1 u.2.2.2.2.2.2.2.2.1 u.2.2.2.2.2.2.2.2.2) u.1 := by
  refine met_rwi (cc := cX12_lay) (maxL := 1) (lv0 := [(0, .ref q_this)]) (by decide) rfl rfl rfl rfl (fun X hX hW hret => ?_)
  have hinX12 : ∀ w ∈ u_ws RX12 TX12 24, w ∈ wsX12_lay := by decide +kernel
  have hf_X12_book_13 : Cond.fieldLink RX12 13 (TX12 2).1 (TX12 2).2.1 (TX12 2).2.2.1 ∈ wsX12_lay := by decide +kernel
  have hg := hu
  unfold g_X12_lay at hg
  refine j_aload_n hX 0 dX12_lay_0 rfl rfl ?_
  refine j_vRW hX hW (r := fun v => v.1) (w1 := fun v => (w_X12_reads G q_this q_this_text q_this_draft q_this_told (.ref q_this_book) (.ref q_this_s) v_this_kept (.int f_this_keptMany) v_this_acts (.int f_this_actMany) v_this_row (.int f_this_rowMany) v_this_tells (.int f_this_tellMany) v_this_place v_this_sort v_this_minute v_this_when v_this_isHeard v_this_goneBy v_this_stand v_this_many v_this_standing f_this_text f_this_length v.2.1 v.2.2.1 v.2.2.2)) (ws' := fun v => (w_X12_lay G q_this q_this_text q_this_book q_this_draft q_this_s q_this_told v_this_kept v_this_acts v_this_row v_this_tells v_this_place v_this_sort v_this_minute v_this_when v_this_isHeard v_this_goneBy v_this_stand v_this_many v_this_standing f_this_text f_this_length f_this_book v.2.1 f_this_s f_this_keptMany f_this_actMany f_this_rowMany f_this_tellMany v.2.2.1 v.2.2.2)) [] hg (fun v hv => c_X12_reads l G N q_this q_this_text q_this_draft q_this_told (.ref q_this_book) (.ref q_this_s) v_this_kept (.int f_this_keptMany) v_this_acts (.int f_this_actMany) v_this_row (.int f_this_rowMany) v_this_tells (.int f_this_tellMany) v_this_place v_this_sort v_this_minute v_this_when v_this_isHeard v_this_goneBy v_this_stand v_this_many v_this_standing f_this_text f_this_length f_this_draft f_this_at f_this_told v hv) gX12_lay_X12_reads rfl ⟨rfl, rfl⟩ ⟨rfl, by decide, by decide, rfl⟩ rfl rfl [0, 1, 3, 5] rfl (by decide +kernel) rfl rfl dX12_lay_1 rfl rfl ⟨Nat.zero_le _, Nat.zero_le _⟩ (fun _ => jn_set [0, 1, 3, 5] rfl rfl rfl) (fun v1 hg => ?_)
  refine j_bipush hX dX12_lay_4 kb_m4 ?_
  refine j_icmp_eq hX 12 hg dX12_lay_6 (by decide) (fun hg => ?_) (fun hg => ?_)
  · refine j_aload_n hX 0 dX12_lay_12 rfl rfl ?_
    refine j_vRV hX hW (w1 := fun v => (w_X12_lays G q_this q_this_book q_this_draft q_this_s (.ref q_this_text) (.int f_this_length) v_this_kept v_this_acts v_this_row v_this_tells (.int v1.2.2.1) (.ref q_this_told) v_this_place v_this_sort v_this_minute v_this_when v_this_isHeard v_this_goneBy v_this_stand v_this_many v_this_standing v.1 v1.2.1 v.2.1 v.2.2.1 v.2.2.2.1 v.2.2.2.2.1 v.2.2.2.2.2)) (ws' := fun v => (w_X12_lay G q_this q_this_text q_this_book q_this_draft q_this_s q_this_told v_this_kept v_this_acts v_this_row v_this_tells v_this_place v_this_sort v_this_minute v_this_when v_this_isHeard v_this_goneBy v_this_stand v_this_many v_this_standing f_this_text f_this_length v.1 v1.2.1 v.2.1 v.2.2.1 v.2.2.2.1 v.2.2.2.2.1 v.2.2.2.2.2 v1.2.2.1 v1.2.2.2)) [] hg (fun v hv => c_X12_lays l G N q_this q_this_book q_this_draft q_this_s (.ref q_this_text) (.int f_this_length) v_this_kept v_this_acts v_this_row v_this_tells (.int v1.2.2.1) (.ref q_this_told) v_this_place v_this_sort v_this_minute v_this_when v_this_isHeard v_this_goneBy v_this_stand v_this_many v_this_standing f_this_book v1.2.1 f_this_s f_this_keptMany f_this_actMany f_this_rowMany f_this_tellMany v hv) gX12_lay_X12_lays rfl ⟨rfl, rfl⟩ ⟨rfl, by decide, by decide, rfl⟩ rfl rfl [0, 2, 3, 4] rfl (by decide +kernel) rfl rfl dX12_lay_13 rfl rfl ⟨Nat.zero_le _, Nat.zero_le _⟩ (fun _ => jn_set [0, 2, 3, 4] rfl rfl rfl) (fun v13 hg => ?_)
    refine j_aload_n hX 0 dX12_lay_16 rfl rfl ?_
    refine j_get hX 0 2 rfl rfl hinX12 rfl hf_X12_book_13 rfl dX12_lay_17 ?_
    refine j_iconst hX dX12_lay_20 kc_0 ?_
    refine j_iald hX 2 rfl hg dX12_lay_21 (fun hg => ?_)
    cases hg
    exact hret _ _ dX12_lay_22
  · refine j_bipush hX dX12_lay_9 kb_m2 ?_
    cases hg
    exact hret _ _ dX12_lay_11
abbrev w_X12_delay (G : jG) (q_this : Nat) (q_this_book : Nat) (v_this_text : Value) (v_this_length : Value) (v_this_draft : Value) (v_this_s : Value) (v_this_kept : Value) (v_this_keptMany : Value) (v_this_acts : Value) (v_this_actMany : Value) (v_this_row : Value) (v_this_rowMany : Value) (v_this_tells : Value) (v_this_tellMany : Value) (v_this_at : Value) (v_this_told : Value) (v_this_place : Value) (v_this_sort : Value) (v_this_minute : Value) (v_this_when : Value) (v_this_isHeard : Value) (v_this_goneBy : Value) (v_this_stand : Value) (v_this_many : Value) (v_this_standing : Value) (f_this_book : (Nat → Int32)) : va_W := [oC q_this 12 [v_this_text, v_this_length, .ref q_this_book, v_this_draft, v_this_s, v_this_kept, v_this_keptMany, v_this_acts, v_this_actMany, v_this_row, v_this_rowMany, v_this_tells, v_this_tellMany, v_this_at, v_this_told, v_this_place, v_this_sort, v_this_minute, v_this_when, v_this_isHeard, v_this_goneBy, v_this_stand, v_this_many, v_this_standing], aI G q_this_book 78 f_this_book]
def g_X12_delay (N : Nat) (f_this_book : (Nat → Int32)) (x1 : Int32) (x2 : Int32) : Option (Int32) := (g_X12_isPlace N f_this_book x1).bind fun v2 => if v2 = 0 then some (-1) else (g_X12_isPlace N f_this_book x2).bind fun v10 => if v10 = 0 then some (-1) else gi ((5 + (5 * x1)) + x2) 78 (some (f_this_book ((5 + (5 * x1)) + x2 : Int32).toNatClampNeg))
set_option maxHeartbeats 4000000 in
set_option maxRecDepth 100000 in
theorem c_X12_delay (l : Launch) (G : jG) (N : Nat) (q_this : Nat) (q_this_book : Nat) (v_this_text : Value) (v_this_length : Value) (v_this_draft : Value) (v_this_s : Value) (v_this_kept : Value) (v_this_keptMany : Value) (v_this_acts : Value) (v_this_actMany : Value) (v_this_row : Value) (v_this_rowMany : Value) (v_this_tells : Value) (v_this_tellMany : Value) (v_this_at : Value) (v_this_told : Value) (v_this_place : Value) (v_this_sort : Value) (v_this_minute : Value) (v_this_when : Value) (v_this_isHeard : Value) (v_this_goneBy : Value) (v_this_stand : Value) (v_this_many : Value) (v_this_standing : Value) (f_this_book : (Nat → Int32)) (x1 : Int32) (x2 : Int32) (u : Int32) (hu : g_X12_delay N f_this_book x1 x2 = some u) : MetRO l G yX12_delay wsX12_delay ({ frames := 2, cells := 0, slots := 0, locals := 43 } : Room) [.ref q_this, .int x1, .int x2] (w_X12_delay G q_this q_this_book v_this_text v_this_length v_this_draft v_this_s v_this_kept v_this_keptMany v_this_acts v_this_actMany v_this_row v_this_rowMany v_this_tells v_this_tellMany v_this_at v_this_told v_this_place v_this_sort v_this_minute v_this_when v_this_isHeard v_this_goneBy v_this_stand v_this_many v_this_standing f_this_book) u := by
  refine met_roi (cc := cX12_delay) (maxL := 3) (lv0 := [(0, .ref q_this), (1, .int x1), (2, .int x2)]) (by decide) rfl rfl rfl rfl (fun X hX hret => ?_)
  have hinX12 : ∀ w ∈ u_ws RX12 TX12 24, w ∈ wsX12_delay := by decide +kernel
  have hf_X12_book_13 : Cond.fieldLink RX12 13 (TX12 2).1 (TX12 2).2.1 (TX12 2).2.2.1 ∈ wsX12_delay := by decide +kernel
  have hg := hu
  unfold g_X12_delay at hg
  refine j_aload_n hX 0 dX12_delay_0 rfl rfl ?_
  refine j_iload_n hX 1 dX12_delay_1 rfl rfl ?_
  refine j_vRO hX (r := fun v => v) [.int x1] hg (fun v hv => c_X12_isPlace l G N q_this q_this_book v_this_text v_this_length v_this_draft v_this_s v_this_kept v_this_keptMany v_this_acts v_this_actMany v_this_row v_this_rowMany v_this_tells v_this_tellMany v_this_at v_this_told v_this_place v_this_sort v_this_minute v_this_when v_this_isHeard v_this_goneBy v_this_stand v_this_many v_this_standing f_this_book x1 v hv) gX12_delay_X12_isPlace rfl ⟨rfl, rfl⟩ ⟨rfl, by decide, by decide, rfl⟩ rfl rfl [0, 1] rfl rfl rfl dX12_delay_2 rfl rfl ⟨Nat.zero_le _, Nat.zero_le _⟩ (fun v2 hg => ?_)
  refine j_if_eq hX 31 hg dX12_delay_5 (by decide) (fun hg => ?_) (fun hg => ?_)
  · refine j_iconst hX dX12_delay_31 kc_m1 ?_
    cases hg
    exact hret _ _ dX12_delay_32
  · refine j_aload_n hX 0 dX12_delay_8 rfl rfl ?_
    refine j_iload_n hX 2 dX12_delay_9 rfl rfl ?_
    refine j_vRO hX (r := fun v => v) [.int x2] hg (fun v hv => c_X12_isPlace l G N q_this q_this_book v_this_text v_this_length v_this_draft v_this_s v_this_kept v_this_keptMany v_this_acts v_this_actMany v_this_row v_this_rowMany v_this_tells v_this_tellMany v_this_at v_this_told v_this_place v_this_sort v_this_minute v_this_when v_this_isHeard v_this_goneBy v_this_stand v_this_many v_this_standing f_this_book x2 v hv) gX12_delay_X12_isPlace rfl ⟨rfl, rfl⟩ ⟨rfl, by decide, by decide, rfl⟩ rfl rfl [0, 1] rfl rfl rfl dX12_delay_10 rfl rfl ⟨Nat.zero_le _, Nat.zero_le _⟩ (fun v10 hg => ?_)
    refine j_if_eq hX 31 hg dX12_delay_13 (by decide) (fun hg => ?_) (fun hg => ?_)
    · refine j_iconst hX dX12_delay_31 kc_m1 ?_
      cases hg
      exact hret _ _ dX12_delay_32
    · refine j_aload_n hX 0 dX12_delay_16 rfl rfl ?_
      refine j_get hX 0 2 rfl rfl hinX12 rfl hf_X12_book_13 rfl dX12_delay_17 ?_
      refine j_iconst hX dX12_delay_20 kc_5 ?_
      refine j_iconst hX dX12_delay_21 kc_5 ?_
      refine j_iload_n hX 1 dX12_delay_22 rfl rfl ?_
      refine j_imul hX dX12_delay_23 ?_
      refine j_iadd hX dX12_delay_24 ?_
      refine j_iload_n hX 2 dX12_delay_25 rfl rfl ?_
      refine j_iadd hX dX12_delay_26 ?_
      refine j_iald hX 1 rfl hg dX12_delay_27 (fun hg => ?_)
      refine j_goto hX 32 dX12_delay_28 (by decide) ?_
      cases hg
      exact hret _ _ dX12_delay_32
abbrev w_X12_word (G : jG) (q_this : Nat) (q_this_book : Nat) (v_this_text : Value) (v_this_length : Value) (v_this_draft : Value) (v_this_s : Value) (v_this_kept : Value) (v_this_keptMany : Value) (v_this_acts : Value) (v_this_actMany : Value) (v_this_row : Value) (v_this_rowMany : Value) (v_this_tells : Value) (v_this_tellMany : Value) (v_this_at : Value) (v_this_told : Value) (v_this_place : Value) (v_this_sort : Value) (v_this_minute : Value) (v_this_when : Value) (v_this_isHeard : Value) (v_this_goneBy : Value) (v_this_stand : Value) (v_this_many : Value) (v_this_standing : Value) (f_this_book : (Nat → Int32)) : va_W := [oC q_this 12 [v_this_text, v_this_length, .ref q_this_book, v_this_draft, v_this_s, v_this_kept, v_this_keptMany, v_this_acts, v_this_actMany, v_this_row, v_this_rowMany, v_this_tells, v_this_tellMany, v_this_at, v_this_told, v_this_place, v_this_sort, v_this_minute, v_this_when, v_this_isHeard, v_this_goneBy, v_this_stand, v_this_many, v_this_standing], aI G q_this_book 78 f_this_book]
def g_X12_word (N : Nat) (f_this_book : (Nat → Int32)) (x1 : Int32) (x2 : Int32) : Option (Int32) := gi 4 78 ((g_X12_in N x1 0 ((f_this_book (4 : Int32).toNatClampNeg) - 1)).bind fun v10 => if v10 = 0 then some (-1) else if (0 : Int32) ≤ x2 then gi (30 + x1) 78 (if (f_this_book (30 + x1 : Int32).toNatClampNeg) ≤ x2 then some (-4) else gi ((38 + (4 * x1)) + x2) 78 (some (f_this_book ((38 + (4 * x1)) + x2 : Int32).toNatClampNeg))) else some (-1))
set_option maxHeartbeats 4000000 in
set_option maxRecDepth 100000 in
theorem c_X12_word (l : Launch) (G : jG) (N : Nat) (q_this : Nat) (q_this_book : Nat) (v_this_text : Value) (v_this_length : Value) (v_this_draft : Value) (v_this_s : Value) (v_this_kept : Value) (v_this_keptMany : Value) (v_this_acts : Value) (v_this_actMany : Value) (v_this_row : Value) (v_this_rowMany : Value) (v_this_tells : Value) (v_this_tellMany : Value) (v_this_at : Value) (v_this_told : Value) (v_this_place : Value) (v_this_sort : Value) (v_this_minute : Value) (v_this_when : Value) (v_this_isHeard : Value) (v_this_goneBy : Value) (v_this_stand : Value) (v_this_many : Value) (v_this_standing : Value) (f_this_book : (Nat → Int32)) (x1 : Int32) (x2 : Int32) (u : Int32) (hu : g_X12_word N f_this_book x1 x2 = some u) : MetRO l G yX12_word wsX12_word ({ frames := 1, cells := 0, slots := 0, locals := 22 } : Room) [.ref q_this, .int x1, .int x2] (w_X12_word G q_this q_this_book v_this_text v_this_length v_this_draft v_this_s v_this_kept v_this_keptMany v_this_acts v_this_actMany v_this_row v_this_rowMany v_this_tells v_this_tellMany v_this_at v_this_told v_this_place v_this_sort v_this_minute v_this_when v_this_isHeard v_this_goneBy v_this_stand v_this_many v_this_standing f_this_book) u := by
  refine met_roi (cc := cX12_word) (maxL := 3) (lv0 := [(0, .ref q_this), (1, .int x1), (2, .int x2)]) (by decide) rfl rfl rfl rfl (fun X hX hret => ?_)
  have hinX12 : ∀ w ∈ u_ws RX12 TX12 24, w ∈ wsX12_word := by decide +kernel
  have hf_X12_book_13 : Cond.fieldLink RX12 13 (TX12 2).1 (TX12 2).2.1 (TX12 2).2.2.1 ∈ wsX12_word := by decide +kernel
  have hg := hu
  unfold g_X12_word at hg
  refine j_iload_n hX 1 dX12_word_0 rfl rfl ?_
  refine j_iconst hX dX12_word_1 kc_0 ?_
  refine j_aload_n hX 0 dX12_word_2 rfl rfl ?_
  refine j_get hX 0 2 rfl rfl hinX12 rfl hf_X12_book_13 rfl dX12_word_3 ?_
  refine j_iconst hX dX12_word_6 kc_4 ?_
  refine j_iald hX 1 rfl hg dX12_word_7 (fun hg => ?_)
  refine j_iconst hX dX12_word_8 kc_1 ?_
  refine j_isub hX dX12_word_9 ?_
  refine j_sRO hX (r := fun v => v) [.int x1, .int 0, .int ((f_this_book (4 : Int32).toNatClampNeg) - 1)] hg (fun v hv => c_X12_in l G N x1 0 ((f_this_book (4 : Int32).toNatClampNeg) - 1) v hv) gX12_word_X12_in rfl ⟨rfl, rfl⟩ ⟨by decide, by decide, rfl⟩ rfl rfl [] rfl dX12_word_10 rfl rfl ⟨Nat.zero_le _, Nat.zero_le _⟩ (fun v10 hg => ?_)
  refine j_if_eq hX 20 hg dX12_word_13 (by decide) (fun hg => ?_) (fun hg => ?_)
  · refine j_iconst hX dX12_word_20 kc_m1 ?_
    cases hg
    exact hret _ _ dX12_word_21
  · refine j_iload_n hX 2 dX12_word_16 rfl rfl ?_
    refine j_if_ge hX 22 hg dX12_word_17 (by decide) (fun hg => ?_) (fun hg => ?_)
    · refine j_iload_n hX 2 dX12_word_22 rfl rfl ?_
      refine j_aload_n hX 0 dX12_word_23 rfl rfl ?_
      refine j_get hX 0 2 rfl rfl hinX12 rfl hf_X12_book_13 rfl dX12_word_24 ?_
      refine j_bipush hX dX12_word_27 kb_30 ?_
      refine j_iload_n hX 1 dX12_word_29 rfl rfl ?_
      refine j_iadd hX dX12_word_30 ?_
      refine j_iald hX 1 rfl hg dX12_word_31 (fun hg => ?_)
      refine j_icmp_ge hX 51 hg dX12_word_32 (by decide) (fun hg => ?_) (fun hg => ?_)
      · refine j_bipush hX dX12_word_51 kb_m4 ?_
        cases hg
        exact hret _ _ dX12_word_53
      · refine j_aload_n hX 0 dX12_word_35 rfl rfl ?_
        refine j_get hX 0 2 rfl rfl hinX12 rfl hf_X12_book_13 rfl dX12_word_36 ?_
        refine j_bipush hX dX12_word_39 kb_38 ?_
        refine j_iconst hX dX12_word_41 kc_4 ?_
        refine j_iload_n hX 1 dX12_word_42 rfl rfl ?_
        refine j_imul hX dX12_word_43 ?_
        refine j_iadd hX dX12_word_44 ?_
        refine j_iload_n hX 2 dX12_word_45 rfl rfl ?_
        refine j_iadd hX dX12_word_46 ?_
        refine j_iald hX 1 rfl hg dX12_word_47 (fun hg => ?_)
        refine j_goto hX 53 dX12_word_48 (by decide) ?_
        cases hg
        exact hret _ _ dX12_word_53
    · refine j_iconst hX dX12_word_20 kc_m1 ?_
      cases hg
      exact hret _ _ dX12_word_21
