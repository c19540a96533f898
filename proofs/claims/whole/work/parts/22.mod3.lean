abbrev w_X12_add (G : jG) (q_this : Nat) (q_this_book : Nat) (q_this_row : Nat) (v_this_text : Value) (v_this_length : Value) (v_this_draft : Value) (v_this_s : Value) (v_this_kept : Value) (v_this_keptMany : Value) (v_this_acts : Value) (v_this_actMany : Value) (v_this_tells : Value) (v_this_tellMany : Value) (v_this_at : Value) (v_this_told : Value) (v_this_place : Value) (v_this_sort : Value) (v_this_minute : Value) (v_this_when : Value) (v_this_isHeard : Value) (v_this_goneBy : Value) (v_this_stand : Value) (v_this_many : Value) (v_this_standing : Value) (f_this_book : (Nat → Int32)) (f_this_row : (Nat → Int32)) (f_this_rowMany : Int32) : va_W := [oC q_this 12 [v_this_text, v_this_length, .ref q_this_book, v_this_draft, v_this_s, v_this_kept, v_this_keptMany, v_this_acts, v_this_actMany, .ref q_this_row, .int f_this_rowMany, v_this_tells, v_this_tellMany, v_this_at, v_this_told, v_this_place, v_this_sort, v_this_minute, v_this_when, v_this_isHeard, v_this_goneBy, v_this_stand, v_this_many, v_this_standing], aI G q_this_book 78 f_this_book, aI G q_this_row 8 f_this_row]
def g_X12_add (N : Nat) (f_this_book : (Nat → Int32)) (f_this_row : (Nat → Int32)) (f_this_rowMany : Int32) (x1 : Int32) : Option (Int32 × (Nat → Int32) × Int32) := (g_X12_isSort N f_this_book x1).bind fun v2 => if v2 = 0 then some ((-1), f_this_row, f_this_rowMany) else if f_this_rowMany = 8 then some ((-3), f_this_row, f_this_rowMany) else gi f_this_rowMany 8 (some (f_this_rowMany + 1, upd f_this_row f_this_rowMany.toNatClampNeg x1, f_this_rowMany + 1))
set_option maxHeartbeats 4000000 in
set_option maxRecDepth 100000 in
theorem c_X12_add (l : Launch) (G : jG) (N : Nat) (q_this : Nat) (q_this_book : Nat) (q_this_row : Nat) (v_this_text : Value) (v_this_length : Value) (v_this_draft : Value) (v_this_s : Value) (v_this_kept : Value) (v_this_keptMany : Value) (v_this_acts : Value) (v_this_actMany : Value) (v_this_tells : Value) (v_this_tellMany : Value) (v_this_at : Value) (v_this_told : Value) (v_this_place : Value) (v_this_sort : Value) (v_this_minute : Value) (v_this_when : Value) (v_this_isHeard : Value) (v_this_goneBy : Value) (v_this_stand : Value) (v_this_many : Value) (v_this_standing : Value) (f_this_book : (Nat → Int32)) (f_this_row : (Nat → Int32)) (f_this_rowMany : Int32) (x1 : Int32) (u : Int32 × (Nat → Int32) × Int32) (hu : g_X12_add N f_this_book f_this_row f_this_rowMany x1 = some u) : MetRW l G yX12_add wsX12_add ({ frames := 2, cells := 0, slots := 0, locals := 43 } : Room) [.ref q_this, .int x1] (w_X12_add G q_this q_this_book q_this_row v_this_text v_this_length v_this_draft v_this_s v_this_kept v_this_keptMany v_this_acts v_this_actMany v_this_tells v_this_tellMany v_this_at v_this_told v_this_place v_this_sort v_this_minute v_this_when v_this_isHeard v_this_goneBy v_this_stand v_this_many v_this_standing f_this_book f_this_row f_this_rowMany) (w_X12_add G q_this q_this_book q_this_row v_this_text v_this_length v_this_draft v_this_s v_this_kept v_this_keptMany v_this_acts v_this_actMany v_this_tells v_this_tellMany v_this_at v_this_told v_this_place v_this_sort v_this_minute v_this_when v_this_isHeard v_this_goneBy v_this_stand v_this_many v_this_standing f_this_book u.2.1 u.2.2) u.1 := by
  refine met_rwi (cc := cX12_add) (maxL := 2) (lv0 := [(0, .ref q_this), (1, .int x1)]) (by decide) rfl rfl rfl rfl (fun X hX hW hret => ?_)
  have hinX12 : ∀ w ∈ u_ws RX12 TX12 24, w ∈ wsX12_add := by decide +kernel
  have hf_X12_row_28 : Cond.fieldLink RX12 28 (TX12 9).1 (TX12 9).2.1 (TX12 9).2.2.1 ∈ wsX12_add := by decide +kernel
  have hf_X12_rowMany_112 : Cond.fieldLink RX12 112 (TX12 10).1 (TX12 10).2.1 (TX12 10).2.2.1 ∈ wsX12_add := by decide +kernel
  have hg := hu
  unfold g_X12_add at hg
  refine j_aload_n hX 0 dX12_add_0 rfl rfl ?_
  refine j_iload_n hX 1 dX12_add_1 rfl rfl ?_
  refine j_vRO hX (r := fun v => v) [.int x1] hg (fun v hv => c_X12_isSort l G N q_this q_this_book v_this_text v_this_length v_this_draft v_this_s v_this_kept v_this_keptMany v_this_acts v_this_actMany (.ref q_this_row) (.int f_this_rowMany) v_this_tells v_this_tellMany v_this_at v_this_told v_this_place v_this_sort v_this_minute v_this_when v_this_isHeard v_this_goneBy v_this_stand v_this_many v_this_standing f_this_book x1 v hv) gX12_add_X12_isSort rfl ⟨rfl, rfl⟩ ⟨rfl, by decide, by decide, rfl⟩ rfl rfl [0, 1] rfl rfl rfl dX12_add_2 rfl rfl ⟨Nat.zero_le _, Nat.zero_le _⟩ (fun v2 hg => ?_)
  refine j_if_ne hX 10 hg dX12_add_5 (by decide) (fun hg => ?_) (fun hg => ?_)
  · refine j_iconst hX dX12_add_8 kc_m1 ?_
    cases hg
    exact hret _ _ dX12_add_9
  · refine j_aload_n hX 0 dX12_add_10 rfl rfl ?_
    refine j_get hX 0 10 rfl rfl hinX12 rfl hf_X12_rowMany_112 rfl dX12_add_11 ?_
    refine j_bipush hX dX12_add_14 kb_8 ?_
    refine j_icmp_ne hX 22 hg dX12_add_16 (by decide) (fun hg => ?_) (fun hg => ?_)
    · refine j_bipush hX dX12_add_19 kb_m3 ?_
      cases hg
      exact hret _ _ dX12_add_21
    · refine j_aload_n hX 0 dX12_add_22 rfl rfl ?_
      refine j_get hX 0 9 rfl rfl hinX12 rfl hf_X12_row_28 rfl dX12_add_23 ?_
      refine j_aload_n hX 0 dX12_add_26 rfl rfl ?_
      refine j_get hX 0 10 rfl rfl hinX12 rfl hf_X12_rowMany_112 rfl dX12_add_27 ?_
      refine j_iload_n hX 1 dX12_add_30 rfl rfl ?_
      refine j_iast hX hW 2 rfl hg dX12_add_31 (ws' := (w_X12_add G q_this q_this_book q_this_row v_this_text v_this_length v_this_draft v_this_s v_this_kept v_this_keptMany v_this_acts v_this_actMany v_this_tells v_this_tellMany v_this_at v_this_told v_this_place v_this_sort v_this_minute v_this_when v_this_isHeard v_this_goneBy v_this_stand v_this_many v_this_standing f_this_book (upd f_this_row f_this_rowMany.toNatClampNeg x1) f_this_rowMany)) rfl (fun hg => ?_)
      refine j_aload_n hX 0 dX12_add_32 rfl rfl ?_
      refine j_dup hX dX12_add_33 rfl ?_
      refine j_get hX 0 10 rfl rfl hinX12 rfl hf_X12_rowMany_112 rfl dX12_add_34 ?_
      refine j_iconst hX dX12_add_37 kc_1 ?_
      refine j_iadd hX dX12_add_38 ?_
      refine j_put hX hW 0 10 rfl rfl hinX12 tyX12 tyX12_ok nmX12 rfl hf_X12_rowMany_112 rfl rfl rfl rfl dX12_add_39 (ws' := (w_X12_add G q_this q_this_book q_this_row v_this_text v_this_length v_this_draft v_this_s v_this_kept v_this_keptMany v_this_acts v_this_actMany v_this_tells v_this_tellMany v_this_at v_this_told v_this_place v_this_sort v_this_minute v_this_when v_this_isHeard v_this_goneBy v_this_stand v_this_many v_this_standing f_this_book (upd f_this_row f_this_rowMany.toNatClampNeg x1) (f_this_rowMany + 1))) rfl ?_
      refine j_aload_n hX 0 dX12_add_42 rfl rfl ?_
      refine j_get hX 0 10 rfl rfl hinX12 rfl hf_X12_rowMany_112 rfl dX12_add_43 ?_
      cases hg
      exact hret _ _ dX12_add_46
abbrev w_X12_noRow (G : jG) (q_this : Nat) (v_this_text : Value) (v_this_length : Value) (v_this_book : Value) (v_this_draft : Value) (v_this_s : Value) (v_this_kept : Value) (v_this_keptMany : Value) (v_this_acts : Value) (v_this_actMany : Value) (v_this_row : Value) (v_this_tells : Value) (v_this_tellMany : Value) (v_this_at : Value) (v_this_told : Value) (v_this_place : Value) (v_this_sort : Value) (v_this_minute : Value) (v_this_when : Value) (v_this_isHeard : Value) (v_this_goneBy : Value) (v_this_stand : Value) (v_this_many : Value) (v_this_standing : Value) (f_this_rowMany : Int32) : va_W := [oC q_this 12 [v_this_text, v_this_length, v_this_book, v_this_draft, v_this_s, v_this_kept, v_this_keptMany, v_this_acts, v_this_actMany, v_this_row, .int f_this_rowMany, v_this_tells, v_this_tellMany, v_this_at, v_this_told, v_this_place, v_this_sort, v_this_minute, v_this_when, v_this_isHeard, v_this_goneBy, v_this_stand, v_this_many, v_this_standing]]
def g_X12_noRow (N : Nat) (f_this_rowMany : Int32) : Option (Int32 × Int32) := some (f_this_rowMany, 0)
set_option maxHeartbeats 4000000 in
set_option maxRecDepth 100000 in
theorem c_X12_noRow (l : Launch) (G : jG) (N : Nat) (q_this : Nat) (v_this_text : Value) (v_this_length : Value) (v_this_book : Value) (v_this_draft : Value) (v_this_s : Value) (v_this_kept : Value) (v_this_keptMany : Value) (v_this_acts : Value) (v_this_actMany : Value) (v_this_row : Value) (v_this_tells : Value) (v_this_tellMany : Value) (v_this_at : Value) (v_this_told : Value) (v_this_place : Value) (v_this_sort : Value) (v_this_minute : Value) (v_this_when : Value) (v_this_isHeard : Value) (v_this_goneBy : Value) (v_this_stand : Value) (v_this_many : Value) (v_this_standing : Value) (f_this_rowMany : Int32) (u : Int32 × Int32) (hu : g_X12_noRow N f_this_rowMany = some u) : MetRW l G yX12_noRow wsX12_noRow ({ frames := 0, cells := 0, slots := 0, locals := 0 } : Room) [.ref q_this] (w_X12_noRow G q_this v_this_text v_this_length v_this_book v_this_draft v_this_s v_this_kept v_this_keptMany v_this_acts v_this_actMany v_this_row v_this_tells v_this_tellMany v_this_at v_this_told v_this_place v_this_sort v_this_minute v_this_when v_this_isHeard v_this_goneBy v_this_stand v_this_many v_this_standing f_this_rowMany) (w_X12_noRow G q_this v_this_text v_this_length v_this_book v_this_draft v_this_s v_this_kept v_this_keptMany v_this_acts v_this_actMany v_this_row v_this_tells v_this_tellMany v_this_at v_this_told v_this_place v_this_sort v_this_minute v_this_when v_this_isHeard v_this_goneBy v_this_stand v_this_many v_this_standing u.2) u.1 := by
  refine met_rwi (cc := cX12_noRow) (maxL := 2) (lv0 := [(0, .ref q_this)]) (by decide) rfl rfl rfl rfl (fun X hX hW hret => ?_)
  have hinX12 : ∀ w ∈ u_ws RX12 TX12 24, w ∈ wsX12_noRow := by decide +kernel
  have hf_X12_rowMany_112 : Cond.fieldLink RX12 112 (TX12 10).1 (TX12 10).2.1 (TX12 10).2.2.1 ∈ wsX12_noRow := by decide +kernel
  have hg := hu
  unfold g_X12_noRow at hg
  refine j_aload_n hX 0 dX12_noRow_0 rfl rfl ?_
  refine j_get hX 0 10 rfl rfl hinX12 rfl hf_X12_rowMany_112 rfl dX12_noRow_1 ?_
  refine j_istore_n hX (lv' := [(1, .int f_this_rowMany), (0, .ref q_this)]) dX12_noRow_4 rfl rfl rfl ?_
  refine j_aload_n hX 1 dX12_noRow_5 rfl rfl ?_
  refine j_iconst hX dX12_noRow_6 kc_0 ?_
  refine j_put hX hW 0 10 rfl rfl hinX12 tyX12 tyX12_ok nmX12 rfl hf_X12_rowMany_112 rfl rfl rfl rfl dX12_noRow_7 (ws' := (w_X12_noRow G q_this v_this_text v_this_length v_this_book v_this_draft v_this_s v_this_kept v_this_keptMany v_this_acts v_this_actMany v_this_row v_this_tells v_this_tellMany v_this_at v_this_told v_this_place v_this_sort v_this_minute v_this_when v_this_isHeard v_this_goneBy v_this_stand v_this_many v_this_standing 0)) rfl ?_
  refine j_iload_n hX 0 dX12_noRow_10 rfl rfl ?_
  cases hg
  exact hret _ _ dX12_noRow_11
abbrev w_X12_takes (G : jG) (q_this : Nat) (q_this_book : Nat) (q_this_s : Nat) (q_this_row : Nat) (q_this_place : Nat) (q_this_sort : Nat) (q_this_minute : Nat) (q_this_when : Nat) (q_this_isHeard : Nat) (q_this_goneBy : Nat) (q_this_stand : Nat) (v_this_text : Value) (v_this_length : Value) (v_this_draft : Value) (v_this_kept : Value) (v_this_keptMany : Value) (v_this_acts : Value) (v_this_actMany : Value) (v_this_tells : Value) (v_this_tellMany : Value) (v_this_at : Value) (v_this_told : Value) (f_this_book : (Nat → Int32)) (f_this_s : (Nat → Int32)) (f_this_row : (Nat → Int32)) (f_this_rowMany : Int32) (f_this_place : (Nat → Int32)) (f_this_sort : (Nat → Int32)) (f_this_minute : (Nat → Int32)) (f_this_when : (Nat → Int32)) (f_this_isHeard : (Nat → Int32)) (f_this_goneBy : (Nat → Int32)) (f_this_stand : (Nat → Int32)) (f_this_many : Int32) (f_this_standing : Int32) : va_W := [oC q_this 12 [v_this_text, v_this_length, .ref q_this_book, v_this_draft, .ref q_this_s, v_this_kept, v_this_keptMany, v_this_acts, v_this_actMany, .ref q_this_row, .int f_this_rowMany, v_this_tells, v_this_tellMany, v_this_at, v_this_told, .ref q_this_place, .ref q_this_sort, .ref q_this_minute, .ref q_this_when, .ref q_this_isHeard, .ref q_this_goneBy, .ref q_this_stand, .int f_this_many, .int f_this_standing], aI G q_this_book 78 f_this_book, aI G q_this_s 74 f_this_s, aI G q_this_row 8 f_this_row, aI G q_this_place 128 f_this_place, aI G q_this_sort 128 f_this_sort, aI G q_this_minute 128 f_this_minute, aI G q_this_when 128 f_this_when, aZ G q_this_isHeard 128 f_this_isHeard, aI G q_this_goneBy 128 f_this_goneBy, aI G q_this_stand 128 f_this_stand]
def g_X12_takes_b141 (N : Nat) (f_this_book : (Nat → Int32)) (f_this_s : (Nat → Int32)) (f_this_row : (Nat → Int32)) (f_this_rowMany : Int32) (f_this_place : (Nat → Int32)) (f_this_sort : (Nat → Int32)) (f_this_minute : (Nat → Int32)) (f_this_when : (Nat → Int32)) (f_this_isHeard : (Nat → Int32)) (f_this_goneBy : (Nat → Int32)) (f_this_stand : (Nat → Int32)) (f_this_many : Int32) (f_this_standing : Int32) (x2 : Int32) : Option (Int32 × (Nat → Int32) × (Nat → Int32) × (Nat → Int32) × (Nat → Int32) × (Nat → Int32) × (Nat → Int32) × (Nat → Int32) × Int32 × Int32) := if f_this_rowMany = 0 then some (0, f_this_place, f_this_sort, f_this_minute, f_this_when, f_this_isHeard, f_this_goneBy, f_this_stand, f_this_many, f_this_standing) else gi 1 74 (some (x2 - (f_this_s (1 : Int32).toNatClampNeg), f_this_place, f_this_sort, f_this_minute, f_this_when, f_this_isHeard, f_this_goneBy, f_this_stand, f_this_many, f_this_standing))
def g_X12_takes_b135 (N : Nat) (f_this_book : (Nat → Int32)) (f_this_s : (Nat → Int32)) (f_this_row : (Nat → Int32)) (f_this_rowMany : Int32) (rec_25 : (Nat → Int32) → (Nat → Int32) → (Nat → Int32) → (Nat → Int32) → (Nat → Int32) → (Nat → Int32) → (Nat → Int32) → Int32 → Int32 → Int32 → Int32 → Int32 → Option (Int32 × (Nat → Int32) × (Nat → Int32) × (Nat → Int32) × (Nat → Int32) × (Nat → Int32) × (Nat → Int32) × (Nat → Int32) × Int32 × Int32)) (f_this_place : (Nat → Int32)) (f_this_sort : (Nat → Int32)) (f_this_minute : (Nat → Int32)) (f_this_when : (Nat → Int32)) (f_this_isHeard : (Nat → Int32)) (f_this_goneBy : (Nat → Int32)) (f_this_stand : (Nat → Int32)) (f_this_many : Int32) (f_this_standing : Int32) (x1 : Int32) (x2 : Int32) (x3 : Int32) : Option (Int32 × (Nat → Int32) × (Nat → Int32) × (Nat → Int32) × (Nat → Int32) × (Nat → Int32) × (Nat → Int32) × (Nat → Int32) × Int32 × Int32) := rec_25 f_this_place f_this_sort f_this_minute f_this_when f_this_isHeard f_this_goneBy f_this_stand f_this_many f_this_standing x1 x2 (x3 + 1)
def g_X12_takes_b130 (N : Nat) (f_this_book : (Nat → Int32)) (f_this_s : (Nat → Int32)) (f_this_row : (Nat → Int32)) (f_this_rowMany : Int32) (rec_42 : (Nat → Int32) → (Nat → Int32) → (Nat → Int32) → (Nat → Int32) → (Nat → Int32) → (Nat → Int32) → (Nat → Int32) → Int32 → Int32 → Int32 → Int32 → Int32 → Int32 → Int32 → Option (Int32 × (Nat → Int32) × (Nat → Int32) × (Nat → Int32) × (Nat → Int32) × (Nat → Int32) × (Nat → Int32) × (Nat → Int32) × Int32 × Int32)) (f_this_place : (Nat → Int32)) (f_this_sort : (Nat → Int32)) (f_this_minute : (Nat → Int32)) (f_this_when : (Nat → Int32)) (f_this_isHeard : (Nat → Int32)) (f_this_goneBy : (Nat → Int32)) (f_this_stand : (Nat → Int32)) (f_this_many : Int32) (f_this_standing : Int32) (x1 : Int32) (x2 : Int32) (x3 : Int32) (x5 : Int32) (s0 : Int32) : Option (Int32 × (Nat → Int32) × (Nat → Int32) × (Nat → Int32) × (Nat → Int32) × (Nat → Int32) × (Nat → Int32) × (Nat → Int32) × Int32 × Int32) := rec_42 f_this_place f_this_sort f_this_minute f_this_when f_this_isHeard f_this_goneBy f_this_stand f_this_many f_this_standing x1 x2 x3 s0 x5
def g_X12_takes_b129 (N : Nat) (f_this_book : (Nat → Int32)) (f_this_s : (Nat → Int32)) (f_this_row : (Nat → Int32)) (f_this_rowMany : Int32) (rec_42 : (Nat → Int32) → (Nat → Int32) → (Nat → Int32) → (Nat → Int32) → (Nat → Int32) → (Nat → Int32) → (Nat → Int32) → Int32 → Int32 → Int32 → Int32 → Int32 → Int32 → Int32 → Option (Int32 × (Nat → Int32) × (Nat → Int32) × (Nat → Int32) × (Nat → Int32) × (Nat → Int32) × (Nat → Int32) × (Nat → Int32) × Int32 × Int32)) (f_this_place : (Nat → Int32)) (f_this_sort : (Nat → Int32)) (f_this_minute : (Nat → Int32)) (f_this_when : (Nat → Int32)) (f_this_isHeard : (Nat → Int32)) (f_this_goneBy : (Nat → Int32)) (f_this_stand : (Nat → Int32)) (f_this_many : Int32) (f_this_standing : Int32) (x1 : Int32) (x2 : Int32) (x3 : Int32) (x5 : Int32) : Option (Int32 × (Nat → Int32) × (Nat → Int32) × (Nat → Int32) × (Nat → Int32) × (Nat → Int32) × (Nat → Int32) × (Nat → Int32) × Int32 × Int32) := g_X12_takes_b130 N f_this_book f_this_s f_this_row f_this_rowMany rec_42 f_this_place f_this_sort f_this_minute f_this_when f_this_isHeard f_this_goneBy f_this_stand f_this_many f_this_standing x1 x2 x3 x5 0
def g_X12_takes_b112 (N : Nat) (f_this_book : (Nat → Int32)) (f_this_s : (Nat → Int32)) (f_this_row : (Nat → Int32)) (f_this_rowMany : Int32) (rec_42 : (Nat → Int32) → (Nat → Int32) → (Nat → Int32) → (Nat → Int32) → (Nat → Int32) → (Nat → Int32) → (Nat → Int32) → Int32 → Int32 → Int32 → Int32 → Int32 → Int32 → Int32 → Option (Int32 × (Nat → Int32) × (Nat → Int32) × (Nat → Int32) × (Nat → Int32) × (Nat → Int32) × (Nat → Int32) × (Nat → Int32) × Int32 × Int32)) (f_this_place : (Nat → Int32)) (f_this_sort : (Nat → Int32)) (f_this_minute : (Nat → Int32)) (f_this_when : (Nat → Int32)) (f_this_isHeard : (Nat → Int32)) (f_this_goneBy : (Nat → Int32)) (f_this_stand : (Nat → Int32)) (f_this_many : Int32) (f_this_standing : Int32) (x1 : Int32) (x2 : Int32) (x3 : Int32) (x5 : Int32) (s1 : Int32) : Option (Int32 × (Nat → Int32) × (Nat → Int32) × (Nat → Int32) × (Nat → Int32) × (Nat → Int32) × (Nat → Int32) × (Nat → Int32) × Int32 × Int32) := gi s1 128 (if (f_this_stand s1.toNatClampNeg) = x5 then if f_this_standing ≤ 0 then g_X12_takes_b129 N f_this_book f_this_s f_this_row f_this_rowMany rec_42 f_this_place f_this_sort f_this_minute f_this_when f_this_isHeard f_this_goneBy f_this_stand f_this_many f_this_standing x1 x2 x3 x5 else g_X12_takes_b130 N f_this_book f_this_s f_this_row f_this_rowMany rec_42 f_this_place f_this_sort f_this_minute f_this_when f_this_isHeard f_this_goneBy f_this_stand f_this_many f_this_standing x1 x2 x3 x5 1 else g_X12_takes_b129 N f_this_book f_this_s f_this_row f_this_rowMany rec_42 f_this_place f_this_sort f_this_minute f_this_when f_this_isHeard f_this_goneBy f_this_stand f_this_many f_this_standing x1 x2 x3 x5)
def g_X12_takes_L42 (N : Nat) (f_this_book : (Nat → Int32)) (f_this_s : (Nat → Int32)) (f_this_row : (Nat → Int32)) (f_this_rowMany : Int32) (k_135 : (Nat → Int32) → (Nat → Int32) → (Nat → Int32) → (Nat → Int32) → (Nat → Int32) → (Nat → Int32) → (Nat → Int32) → Int32 → Int32 → Int32 → Int32 → Int32 → Option (Int32 × (Nat → Int32) × (Nat → Int32) × (Nat → Int32) × (Nat → Int32) × (Nat → Int32) × (Nat → Int32) × (Nat → Int32) × Int32 × Int32)) : Nat → (Nat → Int32) → (Nat → Int32) → (Nat → Int32) → (Nat → Int32) → (Nat → Int32) → (Nat → Int32) → (Nat → Int32) → Int32 → Int32 → Int32 → Int32 → Int32 → Int32 → Int32 → Option (Int32 × (Nat → Int32) × (Nat → Int32) × (Nat → Int32) × (Nat → Int32) × (Nat → Int32) × (Nat → Int32) × (Nat → Int32) × Int32 × Int32)
  | 0, _, _, _, _, _, _, _, _, _, _, _, _, _, _ => none
  | fu + 1, f_this_place, f_this_sort, f_this_minute, f_this_when, f_this_isHeard, f_this_goneBy, f_this_stand, f_this_many, f_this_standing, x1, x2, x3, x4, x5 => if x4 = 0 then gi 1 74 (if (x2 + 1) ≤ ((f_this_s (1 : Int32).toNatClampNeg) + 600) then gi x3 8 ((g_X12_tries N f_this_place f_this_sort f_this_minute x5 x1 (f_this_row x3.toNatClampNeg) (x2 + 1)).bind fun v82 => (g_X12_plays N f_this_book v82.1 v82.2.1 v82.2.2.1 v82.2.2.2 f_this_when f_this_isHeard f_this_goneBy f_this_stand f_this_standing x1 (x2 + 1)).bind fun v88 => if v88.2.2.2.2 ≤ 0 then g_X12_takes_b112 N f_this_book f_this_s f_this_row f_this_rowMany (g_X12_takes_L42 N f_this_book f_this_s f_this_row f_this_rowMany k_135 fu) v82.1 v82.2.1 v82.2.2.1 v88.1 v88.2.1 v88.2.2.1 v88.2.2.2.1 v82.2.2.2 v88.2.2.2.2 x1 (x2 + 1) x3 x5 0 else g_X12_takes_b112 N f_this_book f_this_s f_this_row f_this_rowMany (g_X12_takes_L42 N f_this_book f_this_s f_this_row f_this_rowMany k_135 fu) v82.1 v82.2.1 v82.2.2.1 v88.1 v88.2.1 v88.2.2.1 v88.2.2.2.1 v82.2.2.2 v88.2.2.2.2 x1 (x2 + 1) x3 x5 (v88.2.2.2.2 - 1)) else some ((-4), f_this_place, f_this_sort, f_this_minute, f_this_when, f_this_isHeard, f_this_goneBy, f_this_stand, f_this_many, f_this_standing)) else k_135 f_this_place f_this_sort f_this_minute f_this_when f_this_isHeard f_this_goneBy f_this_stand f_this_many f_this_standing x1 x2 x3
def g_X12_takes_L25 (N : Nat) (f_this_book : (Nat → Int32)) (f_this_s : (Nat → Int32)) (f_this_row : (Nat → Int32)) (f_this_rowMany : Int32) (k_141 : (Nat → Int32) → (Nat → Int32) → (Nat → Int32) → (Nat → Int32) → (Nat → Int32) → (Nat → Int32) → (Nat → Int32) → Int32 → Int32 → Int32 → Option (Int32 × (Nat → Int32) × (Nat → Int32) × (Nat → Int32) × (Nat → Int32) × (Nat → Int32) × (Nat → Int32) × (Nat → Int32) × Int32 × Int32)) : Nat → (Nat → Int32) → (Nat → Int32) → (Nat → Int32) → (Nat → Int32) → (Nat → Int32) → (Nat → Int32) → (Nat → Int32) → Int32 → Int32 → Int32 → Int32 → Int32 → Option (Int32 × (Nat → Int32) × (Nat → Int32) × (Nat → Int32) × (Nat → Int32) × (Nat → Int32) × (Nat → Int32) × (Nat → Int32) × Int32 × Int32)
  | 0, _, _, _, _, _, _, _, _, _, _, _, _ => none
  | fu + 1, f_this_place, f_this_sort, f_this_minute, f_this_when, f_this_isHeard, f_this_goneBy, f_this_stand, f_this_many, f_this_standing, x1, x2, x3 => if f_this_rowMany ≤ x3 then k_141 f_this_place f_this_sort f_this_minute f_this_when f_this_isHeard f_this_goneBy f_this_stand f_this_many f_this_standing x2 else g_X12_takes_L42 N f_this_book f_this_s f_this_row f_this_rowMany (g_X12_takes_b135 N f_this_book f_this_s f_this_row f_this_rowMany (g_X12_takes_L25 N f_this_book f_this_s f_this_row f_this_rowMany k_141 fu)) N f_this_place f_this_sort f_this_minute f_this_when f_this_isHeard f_this_goneBy f_this_stand f_this_many f_this_standing x1 x2 x3 0 f_this_many
def g_X12_takes (N : Nat) (f_this_book : (Nat → Int32)) (f_this_s : (Nat → Int32)) (f_this_row : (Nat → Int32)) (f_this_rowMany : Int32) (f_this_place : (Nat → Int32)) (f_this_sort : (Nat → Int32)) (f_this_minute : (Nat → Int32)) (f_this_when : (Nat → Int32)) (f_this_isHeard : (Nat → Int32)) (f_this_goneBy : (Nat → Int32)) (f_this_stand : (Nat → Int32)) (f_this_many : Int32) (f_this_standing : Int32) (x1 : Int32) : Option (Int32 × (Nat → Int32) × (Nat → Int32) × (Nat → Int32) × (Nat → Int32) × (Nat → Int32) × (Nat → Int32) × (Nat → Int32) × Int32 × Int32) := (g_X12_isPlace N f_this_book x1).bind fun v2 => if v2 = 0 then some ((-1), f_this_place, f_this_sort, f_this_minute, f_this_when, f_this_isHeard, f_this_goneBy, f_this_stand, f_this_many, f_this_standing) else (g_X12_starts N f_this_s f_this_place f_this_sort f_this_minute f_this_many).bind fun v11 => gi 1 74 (g_X12_takes_L25 N f_this_book f_this_s f_this_row f_this_rowMany (g_X12_takes_b141 N f_this_book f_this_s f_this_row f_this_rowMany) N v11.1 v11.2.1 v11.2.2.1 f_this_when f_this_isHeard f_this_goneBy f_this_stand v11.2.2.2 f_this_standing x1 ((f_this_s (1 : Int32).toNatClampNeg) - 1) 0)
set_option maxRecDepth 100000 in
theorem ax_X12_takes_88 (c0 c1 c2 c3 c4 c5 c6 c7 c8 c9 c10 d0 d1 d2 d3 d4 d5 d6 d7 d8 : Nat × va_E) : [0, 1, 4, 5, 6, 7, 8, 9, 10].map (fun i => ([c0, c1, c2, c3, c4, c5, c6, c7, c8, c9, c10] : va_W)[i]?) = List.map some ([c0, c1, c4, c5, c6, c7, c8, c9, c10] : va_W) ∧ ([d0, d1, c2, c3, d2, d3, d4, d5, d6, d7, d8] : va_W).length = 11 ∧ [0, 1, 4, 5, 6, 7, 8, 9, 10].map (fun i => ([d0, d1, c2, c3, d2, d3, d4, d5, d6, d7, d8] : va_W)[i]?) = List.map some ([d0, d1, d2, d3, d4, d5, d6, d7, d8] : va_W) ∧ ([2, 3] : List Nat).map (fun i => ([d0, d1, c2, c3, d2, d3, d4, d5, d6, d7, d8] : va_W)[i]?) = ([2, 3] : List Nat).map (fun i => ([c0, c1, c2, c3, c4, c5, c6, c7, c8, c9, c10] : va_W)[i]?) := ⟨rfl, rfl, rfl, rfl⟩
set_option maxRecDepth 100000 in
theorem ax_X12_takes_88c (c0 c1 c2 c3 c4 c5 c6 c7 c8 c9 c10 : Nat × va_E) : [0, 1, 4, 5, 6, 7, 8, 9, 10].map (fun i => ([c0, c1, c2, c3, c4, c5, c6, c7, c8, c9, c10] : va_W)[i]?) = List.map some ([c0, c1, c4, c5, c6, c7, c8, c9, c10] : va_W) := rfl
set_option maxHeartbeats 4000000 in
set_option maxRecDepth 100000 in
theorem c_X12_takes (l : Launch) (G : jG) (N : Nat) (q_this : Nat) (q_this_book : Nat) (q_this_s : Nat) (q_this_row : Nat) (q_this_place : Nat) (q_this_sort : Nat) (q_this_minute : Nat) (q_this_when : Nat) (q_this_isHeard : Nat) (q_this_goneBy : Nat) (q_this_stand : Nat) (v_this_text : Value) (v_this_length : Value) (v_this_draft : Value) (v_this_kept : Value) (v_this_keptMany : Value) (v_this_acts : Value) (v_this_actMany : Value) (v_this_tells : Value) (v_this_tellMany : Value) (v_this_at : Value) (v_this_told : Value) (f_this_book : (Nat → Int32)) (f_this_s : (Nat → Int32)) (f_this_row : (Nat → Int32)) (f_this_rowMany : Int32) (f_this_place : (Nat → Int32)) (f_this_sort : (Nat → Int32)) (f_this_minute : (Nat → Int32)) (f_this_when : (Nat → Int32)) (f_this_isHeard : (Nat → Int32)) (f_this_goneBy : (Nat → Int32)) (f_this_stand : (Nat → Int32)) (f_this_many : Int32) (f_this_standing : Int32) (x1 : Int32) (u : Int32 × (Nat → Int32) × (Nat → Int32) × (Nat → Int32) × (Nat → Int32) × (Nat → Int32) × (Nat → Int32) × (Nat → Int32) × Int32 × Int32) (hu : g_X12_takes N f_this_book f_this_s f_this_row f_this_rowMany f_this_place f_this_sort f_this_minute f_this_when f_this_isHeard f_this_goneBy f_this_stand f_this_many f_this_standing x1 = some u) : MetRW l G yX12_takes wsX12_takes ({ frames := 3, cells := 0, slots := 0, locals := 72 } : Room) [.ref q_this, .int x1] (w_X12_takes G q_this q_this_book q_this_s q_this_row q_this_place q_this_sort q_this_minute q_this_when q_this_isHeard q_this_goneBy q_this_stand v_this_text v_this_length v_this_draft v_this_kept v_this_keptMany v_this_acts v_this_actMany v_this_tells v_this_tellMany v_this_at v_this_told f_this_book f_this_s f_this_row f_this_rowMany f_this_place f_this_sort f_this_minute f_this_when f_this_isHeard f_this_goneBy f_this_stand f_this_many f_this_standing) (w_X12_takes G q_this q_this_book q_this_s q_this_row q_this_place q_this_sort q_this_minute q_this_when q_this_isHeard q_this_goneBy q_this_stand v_this_text v_this_length v_this_draft v_this_kept v_this_keptMany v_this_acts v_this_actMany v_this_tells v_this_tellMany v_this_at v_this_told f_this_book f_this_s f_this_row f_this_rowMany u.2.1 u.2.2.1 u.2.2.2.1 u.2.2.2.2.1 u.2.2.2.2.2.1 u.2.2.2.2.2.2.1 u.2.2.2.2.2.2.2.1 u.2.2.2.2.2.2.2.2.1 u.2.2.2.2.2.2.2.2.2) u.1 := by
  refine met_rwi (cc := cX12_takes) (maxL := 6) (lv0 := [(0, .ref q_this), (1, .int x1)]) (by decide) rfl rfl rfl rfl (fun X hX hW hret => ?_)
  have hinX12 : ∀ w ∈ u_ws RX12 TX12 24, w ∈ wsX12_takes := by decide +kernel
  have hf_X12_many_127 : Cond.fieldLink RX12 127 (TX12 22).1 (TX12 22).2.1 (TX12 22).2.2.1 ∈ wsX12_takes := by decide +kernel
  have hf_X12_row_28 : Cond.fieldLink RX12 28 (TX12 9).1 (TX12 9).2.1 (TX12 9).2.2.1 ∈ wsX12_takes := by decide +kernel
  have hf_X12_rowMany_112 : Cond.fieldLink RX12 112 (TX12 10).1 (TX12 10).2.1 (TX12 10).2.2.1 ∈ wsX12_takes := by decide +kernel
  have hf_X12_s_19 : Cond.fieldLink RX12 19 (TX12 4).1 (TX12 4).2.1 (TX12 4).2.2.1 ∈ wsX12_takes := by decide +kernel
  have hf_X12_stand_56 : Cond.fieldLink RX12 56 (TX12 21).1 (TX12 21).2.1 (TX12 21).2.2.1 ∈ wsX12_takes := by decide +kernel
  have hf_X12_standing_134 : Cond.fieldLink RX12 134 (TX12 23).1 (TX12 23).2.1 (TX12 23).2.2.1 ∈ wsX12_takes := by decide +kernel
  have B141 : ∀ (f_this_place : (Nat → Int32)) (f_this_sort : (Nat → Int32)) (f_this_minute : (Nat → Int32)) (f_this_when : (Nat → Int32)) (f_this_isHeard : (Nat → Int32)) (f_this_goneBy : (Nat → Int32)) (f_this_stand : (Nat → Int32)) (f_this_many : Int32) (f_this_standing : Int32) (x2 : Int32), g_X12_takes_b141 N f_this_book f_this_s f_this_row f_this_rowMany f_this_place f_this_sort f_this_minute f_this_when f_this_isHeard f_this_goneBy f_this_stand f_this_many f_this_standing x2 = some u → J X 0 0 (w_X12_takes G q_this q_this_book q_this_s q_this_row q_this_place q_this_sort q_this_minute q_this_when q_this_isHeard q_this_goneBy q_this_stand v_this_text v_this_length v_this_draft v_this_kept v_this_keptMany v_this_acts v_this_actMany v_this_tells v_this_tellMany v_this_at v_this_told f_this_book f_this_s f_this_row f_this_rowMany f_this_place f_this_sort f_this_minute f_this_when f_this_isHeard f_this_goneBy f_this_stand f_this_many f_this_standing) 141 [(0, .ref q_this), (2, .int x2)] [] := by
    intro f_this_place f_this_sort f_this_minute f_this_when f_this_isHeard f_this_goneBy f_this_stand f_this_many f_this_standing x2 hg
    unfold g_X12_takes_b141 at hg
    refine j_aload_n hX 0 dX12_takes_141 rfl rfl ?_
    refine j_get hX 0 10 rfl rfl hinX12 rfl hf_X12_rowMany_112 rfl dX12_takes_142 ?_
    refine j_if_ne hX 152 hg dX12_takes_145 (by decide) (fun hg => ?_) (fun hg => ?_)
    · refine j_iconst hX dX12_takes_148 kc_0 ?_
      refine j_goto hX 160 dX12_takes_149 (by decide) ?_
      cases hg
      exact hret _ _ dX12_takes_160
    · refine j_iload_n hX 1 dX12_takes_152 rfl rfl ?_
      refine j_aload_n hX 0 dX12_takes_153 rfl rfl ?_
      refine j_get hX 0 4 rfl rfl hinX12 rfl hf_X12_s_19 rfl dX12_takes_154 ?_
      refine j_iconst hX dX12_takes_157 kc_1 ?_
      refine j_iald hX 2 rfl hg dX12_takes_158 (fun hg => ?_)
      refine j_isub hX dX12_takes_159 ?_
      cases hg
      exact hret _ _ dX12_takes_160
  have L25 : ∀ (fu25 : Nat), ∀ (f_this_place : (Nat → Int32)) (f_this_sort : (Nat → Int32)) (f_this_minute : (Nat → Int32)) (f_this_when : (Nat → Int32)) (f_this_isHeard : (Nat → Int32)) (f_this_goneBy : (Nat → Int32)) (f_this_stand : (Nat → Int32)) (f_this_many : Int32) (f_this_standing : Int32) (x1 : Int32) (x2 : Int32) (x3 : Int32), g_X12_takes_L25 N f_this_book f_this_s f_this_row f_this_rowMany (g_X12_takes_b141 N f_this_book f_this_s f_this_row f_this_rowMany) fu25 f_this_place f_this_sort f_this_minute f_this_when f_this_isHeard f_this_goneBy f_this_stand f_this_many f_this_standing x1 x2 x3 = some u → J X 0 0 (w_X12_takes G q_this q_this_book q_this_s q_this_row q_this_place q_this_sort q_this_minute q_this_when q_this_isHeard q_this_goneBy q_this_stand v_this_text v_this_length v_this_draft v_this_kept v_this_keptMany v_this_acts v_this_actMany v_this_tells v_this_tellMany v_this_at v_this_told f_this_book f_this_s f_this_row f_this_rowMany f_this_place f_this_sort f_this_minute f_this_when f_this_isHeard f_this_goneBy f_this_stand f_this_many f_this_standing) 25 [(0, .ref q_this), (1, .int x1), (2, .int x2), (3, .int x3)] [] := by
    intro fu25
    induction fu25 with
    | zero => intro f_this_place f_this_sort f_this_minute f_this_when f_this_isHeard f_this_goneBy f_this_stand f_this_many f_this_standing x1 x2 x3 hg; exact nomatch hg
    | succ fu25 ih25 =>
      have B135 : ∀ (f_this_place : (Nat → Int32)) (f_this_sort : (Nat → Int32)) (f_this_minute : (Nat → Int32)) (f_this_when : (Nat → Int32)) (f_this_isHeard : (Nat → Int32)) (f_this_goneBy : (Nat → Int32)) (f_this_stand : (Nat → Int32)) (f_this_many : Int32) (f_this_standing : Int32) (x1 : Int32) (x2 : Int32) (x3 : Int32), g_X12_takes_b135 N f_this_book f_this_s f_this_row f_this_rowMany (g_X12_takes_L25 N f_this_book f_this_s f_this_row f_this_rowMany (g_X12_takes_b141 N f_this_book f_this_s f_this_row f_this_rowMany) fu25) f_this_place f_this_sort f_this_minute f_this_when f_this_isHeard f_this_goneBy f_this_stand f_this_many f_this_standing x1 x2 x3 = some u → J X 0 0 (w_X12_takes G q_this q_this_book q_this_s q_this_row q_this_place q_this_sort q_this_minute q_this_when q_this_isHeard q_this_goneBy q_this_stand v_this_text v_this_length v_this_draft v_this_kept v_this_keptMany v_this_acts v_this_actMany v_this_tells v_this_tellMany v_this_at v_this_told f_this_book f_this_s f_this_row f_this_rowMany f_this_place f_this_sort f_this_minute f_this_when f_this_isHeard f_this_goneBy f_this_stand f_this_many f_this_standing) 135 [(0, .ref q_this), (1, .int x1), (2, .int x2), (3, .int x3)] [] := by
        intro f_this_place f_this_sort f_this_minute f_this_when f_this_isHeard f_this_goneBy f_this_stand f_this_many f_this_standing x1 x2 x3 hg
        unfold g_X12_takes_b135 at hg
        refine j_iinc hX 3 (v := x3 + 1) (lv' := [(3, .int (x3 + 1)), (0, .ref q_this), (1, .int x1), (2, .int x2)]) dX12_takes_135 rfl (by rw [kc_1]) rfl rfl ?_
        refine j_goto hX 25 dX12_takes_138 (by decide) ?_
        refine j_lv [1, 2, 3, 0] rfl ?_
        exact ih25 _ _ _ _ _ _ _ _ _ _ _ _ hg
      have L42 : ∀ (fu42 : Nat), ∀ (f_this_place : (Nat → Int32)) (f_this_sort : (Nat → Int32)) (f_this_minute : (Nat → Int32)) (f_this_when : (Nat → Int32)) (f_this_isHeard : (Nat → Int32)) (f_this_goneBy : (Nat → Int32)) (f_this_stand : (Nat → Int32)) (f_this_many : Int32) (f_this_standing : Int32) (x1 : Int32) (x2 : Int32) (x3 : Int32) (x4 : Int32) (x5 : Int32), g_X12_takes_L42 N f_this_book f_this_s f_this_row f_this_rowMany (g_X12_takes_b135 N f_this_book f_this_s f_this_row f_this_rowMany (g_X12_takes_L25 N f_this_book f_this_s f_this_row f_this_rowMany (g_X12_takes_b141 N f_this_book f_this_s f_this_row f_this_rowMany) fu25)) fu42 f_this_place f_this_sort f_this_minute f_this_when f_this_isHeard f_this_goneBy f_this_stand f_this_many f_this_standing x1 x2 x3 x4 x5 = some u → J X 0 0 (w_X12_takes G q_this q_this_book q_this_s q_this_row q_this_place q_this_sort q_this_minute q_this_when q_this_isHeard q_this_goneBy q_this_stand v_this_text v_this_length v_this_draft v_this_kept v_this_keptMany v_this_acts v_this_actMany v_this_tells v_this_tellMany v_this_at v_this_told f_this_book f_this_s f_this_row f_this_rowMany f_this_place f_this_sort f_this_minute f_this_when f_this_isHeard f_this_goneBy f_this_stand f_this_many f_this_standing) 42 [(0, .ref q_this), (1, .int x1), (2, .int x2), (3, .int x3), (4, .int x4), (5, .int x5)] [] := by
        intro fu42
        induction fu42 with
        | zero => intro f_this_place f_this_sort f_this_minute f_this_when f_this_isHeard f_this_goneBy f_this_stand f_this_many f_this_standing x1 x2 x3 x4 x5 hg; exact nomatch hg
        | succ fu42 ih42 =>
          have B130 : ∀ (f_this_place : (Nat → Int32)) (f_this_sort : (Nat → Int32)) (f_this_minute : (Nat → Int32)) (f_this_when : (Nat → Int32)) (f_this_isHeard : (Nat → Int32)) (f_this_goneBy : (Nat → Int32)) (f_this_stand : (Nat → Int32)) (f_this_many : Int32) (f_this_standing : Int32) (x1 : Int32) (x2 : Int32) (x3 : Int32) (x5 : Int32) (s0 : Int32), g_X12_takes_b130 N f_this_book f_this_s f_this_row f_this_rowMany (g_X12_takes_L42 N f_this_book f_this_s f_this_row f_this_rowMany (g_X12_takes_b135 N f_this_book f_this_s f_this_row f_this_rowMany (g_X12_takes_L25 N f_this_book f_this_s f_this_row f_this_rowMany (g_X12_takes_b141 N f_this_book f_this_s f_this_row f_this_rowMany) fu25)) fu42) f_this_place f_this_sort f_this_minute f_this_when f_this_isHeard f_this_goneBy f_this_stand f_this_many f_this_standing x1 x2 x3 x5 s0 = some u → J X 0 0 (w_X12_takes G q_this q_this_book q_this_s q_this_row q_this_place q_this_sort q_this_minute q_this_when q_this_isHeard q_this_goneBy q_this_stand v_this_text v_this_length v_this_draft v_this_kept v_this_keptMany v_this_acts v_this_actMany v_this_tells v_this_tellMany v_this_at v_this_told f_this_book f_this_s f_this_row f_this_rowMany f_this_place f_this_sort f_this_minute f_this_when f_this_isHeard f_this_goneBy f_this_stand f_this_many f_this_standing) 130 [(0, .ref q_this), (1, .int x1), (2, .int x2), (3, .int x3), (5, .int x5)] [.int s0] := by
            intro f_this_place f_this_sort f_this_minute f_this_when f_this_isHeard f_this_goneBy f_this_stand f_this_many f_this_standing x1 x2 x3 x5 s0 hg
            unfold g_X12_takes_b130 at hg
            refine j_istore hX (lv' := [(4, .int s0), (0, .ref q_this), (1, .int x1), (2, .int x2), (3, .int x3), (5, .int x5)]) dX12_takes_130 rfl rfl ?_
            refine j_goto hX 42 dX12_takes_132 (by decide) ?_
            refine j_lv [1, 2, 3, 4, 0, 5] rfl ?_
            exact ih42 _ _ _ _ _ _ _ _ _ _ _ _ _ _ hg
          have B129 : ∀ (f_this_place : (Nat → Int32)) (f_this_sort : (Nat → Int32)) (f_this_minute : (Nat → Int32)) (f_this_when : (Nat → Int32)) (f_this_isHeard : (Nat → Int32)) (f_this_goneBy : (Nat → Int32)) (f_this_stand : (Nat → Int32)) (f_this_many : Int32) (f_this_standing : Int32) (x1 : Int32) (x2 : Int32) (x3 : Int32) (x5 : Int32), g_X12_takes_b129 N f_this_book f_this_s f_this_row f_this_rowMany (g_X12_takes_L42 N f_this_book f_this_s f_this_row f_this_rowMany (g_X12_takes_b135 N f_this_book f_this_s f_this_row f_this_rowMany (g_X12_takes_L25 N f_this_book f_this_s f_this_row f_this_rowMany (g_X12_takes_b141 N f_this_book f_this_s f_this_row f_this_rowMany) fu25)) fu42) f_this_place f_this_sort f_this_minute f_this_when f_this_isHeard f_this_goneBy f_this_stand f_this_many f_this_standing x1 x2 x3 x5 = some u → J X 0 0 (w_X12_takes G q_this q_this_book q_this_s q_this_row q_this_place q_this_sort q_this_minute q_this_when q_this_isHeard q_this_goneBy q_this_stand v_this_text v_this_length v_this_draft v_this_kept v_this_keptMany v_this_acts v_this_actMany v_this_tells v_this_tellMany v_this_at v_this_told f_this_book f_this_s f_this_row f_this_rowMany f_this_place f_this_sort f_this_minute f_this_when f_this_isHeard f_this_goneBy f_this_stand f_this_many f_this_standing) 129 [(0, .ref q_this), (1, .int x1), (2, .int x2), (3, .int x3), (5, .int x5)] [] := by
            intro f_this_place f_this_sort f_this_minute f_this_when f_this_isHeard f_this_goneBy f_this_stand f_this_many f_this_standing x1 x2 x3 x5 hg
            unfold g_X12_takes_b129 at hg
            refine j_iconst hX dX12_takes_129 kc_0 ?_
            exact B130 _ _ _ _ _ _ _ _ _ _ _ _ _ _ hg
          have B112 : ∀ (f_this_place : (Nat → Int32)) (f_this_sort : (Nat → Int32)) (f_this_minute : (Nat → Int32)) (f_this_when : (Nat → Int32)) (f_this_isHeard : (Nat → Int32)) (f_this_goneBy : (Nat → Int32)) (f_this_stand : (Nat → Int32)) (f_this_many : Int32) (f_this_standing : Int32) (x1 : Int32) (x2 : Int32) (x3 : Int32) (x5 : Int32) (s1 : Int32), g_X12_takes_b112 N f_this_book f_this_s f_this_row f_this_rowMany (g_X12_takes_L42 N f_this_book f_this_s f_this_row f_this_rowMany (g_X12_takes_b135 N f_this_book f_this_s f_this_row f_this_rowMany (g_X12_takes_L25 N f_this_book f_this_s f_this_row f_this_rowMany (g_X12_takes_b141 N f_this_book f_this_s f_this_row f_this_rowMany) fu25)) fu42) f_this_place f_this_sort f_this_minute f_this_when f_this_isHeard f_this_goneBy f_this_stand f_this_many f_this_standing x1 x2 x3 x5 s1 = some u → J X 0 0 (w_X12_takes G q_this q_this_book q_this_s q_this_row q_this_place q_this_sort q_this_minute q_this_when q_this_isHeard q_this_goneBy q_this_stand v_this_text v_this_length v_this_draft v_this_kept v_this_keptMany v_this_acts v_this_actMany v_this_tells v_this_tellMany v_this_at v_this_told f_this_book f_this_s f_this_row f_this_rowMany f_this_place f_this_sort f_this_minute f_this_when f_this_isHeard f_this_goneBy f_this_stand f_this_many f_this_standing) 112 [(0, .ref q_this), (1, .int x1), (2, .int x2), (3, .int x3), (5, .int x5)] [.int s1, .ref q_this_stand] := by
            intro f_this_place f_this_sort f_this_minute f_this_when f_this_isHeard f_this_goneBy f_this_stand f_this_many f_this_standing x1 x2 x3 x5 s1 hg
            unfold g_X12_takes_b112 at hg
            refine j_iald hX 10 rfl hg dX12_takes_112 (fun hg => ?_)
            refine j_iload hX 4 dX12_takes_113 rfl ?_
            refine j_icmp_ne hX 129 hg dX12_takes_115 (by decide) (fun hg => ?_) (fun hg => ?_)
            · refine j_aload_n hX 0 dX12_takes_118 rfl rfl ?_
              refine j_get hX 0 23 rfl rfl hinX12 rfl hf_X12_standing_134 rfl dX12_takes_119 ?_
              refine j_if_le hX 129 hg dX12_takes_122 (by decide) (fun hg => ?_) (fun hg => ?_)
              · exact B129 _ _ _ _ _ _ _ _ _ _ _ _ _ hg
              · refine j_iconst hX dX12_takes_125 kc_1 ?_
                refine j_goto hX 130 dX12_takes_126 (by decide) ?_
                exact B130 _ _ _ _ _ _ _ _ _ _ _ _ _ _ hg
            · exact B129 _ _ _ _ _ _ _ _ _ _ _ _ _ hg
          intro f_this_place f_this_sort f_this_minute f_this_when f_this_isHeard f_this_goneBy f_this_stand f_this_many f_this_standing x1 x2 x3 x4 x5 hg
          unfold g_X12_takes_L42 at hg
          refine j_iload hX 4 dX12_takes_42 rfl ?_
          refine j_if_ne hX 135 hg dX12_takes_44 (by decide) (fun hg => ?_) (fun hg => ?_)
          · refine j_iinc hX 2 (v := x2 + 1) (lv' := [(2, .int (x2 + 1)), (0, .ref q_this), (1, .int x1), (3, .int x3), (4, .int x4), (5, .int x5)]) dX12_takes_47 rfl (by rw [kc_1]) rfl rfl ?_
            refine j_iload_n hX 0 dX12_takes_50 rfl rfl ?_
            refine j_aload_n hX 1 dX12_takes_51 rfl rfl ?_
            refine j_get hX 0 4 rfl rfl hinX12 rfl hf_X12_s_19 rfl dX12_takes_52 ?_
            refine j_iconst hX dX12_takes_55 kc_1 ?_
            refine j_iald hX 2 rfl hg dX12_takes_56 (fun hg => ?_)
            refine j_sipush hX dX12_takes_57 ks_600 ?_
            refine j_iadd hX dX12_takes_60 ?_
            refine j_icmp_le hX 67 hg dX12_takes_61 (by decide) (fun hg => ?_) (fun hg => ?_)
            · refine j_aload_n hX 1 dX12_takes_67 rfl rfl ?_
              refine j_iload hX 5 dX12_takes_68 rfl ?_
              refine j_put hX hW 0 22 rfl rfl hinX12 tyX12 tyX12_ok nmX12 rfl hf_X12_many_127 rfl rfl rfl rfl dX12_takes_70 (ws' := (w_X12_takes G q_this q_this_book q_this_s q_this_row q_this_place q_this_sort q_this_minute q_this_when q_this_isHeard q_this_goneBy q_this_stand v_this_text v_this_length v_this_draft v_this_kept v_this_keptMany v_this_acts v_this_actMany v_this_tells v_this_tellMany v_this_at v_this_told f_this_book f_this_s f_this_row f_this_rowMany f_this_place f_this_sort f_this_minute f_this_when f_this_isHeard f_this_goneBy f_this_stand x5 f_this_standing)) rfl ?_
              refine j_aload_n hX 1 dX12_takes_73 rfl rfl ?_
              refine j_iload_n hX 2 dX12_takes_74 rfl rfl ?_
              refine j_aload_n hX 1 dX12_takes_75 rfl rfl ?_
              refine j_get hX 0 9 rfl rfl hinX12 rfl hf_X12_row_28 rfl dX12_takes_76 ?_
              refine j_iload_n hX 3 dX12_takes_79 rfl rfl ?_
              refine j_iald hX 3 rfl hg dX12_takes_80 (fun hg => ?_)
              refine j_iload_n hX 0 dX12_takes_81 rfl rfl ?_
              refine j_vRV hX hW (w1 := fun v => (w_X12_tries G q_this q_this_place q_this_sort q_this_minute v_this_text v_this_length (.ref q_this_book) v_this_draft (.ref q_this_s) v_this_kept v_this_keptMany v_this_acts v_this_actMany (.ref q_this_row) (.int f_this_rowMany) v_this_tells v_this_tellMany v_this_at v_this_told (.ref q_this_when) (.ref q_this_isHeard) (.ref q_this_goneBy) (.ref q_this_stand) (.int f_this_standing) v.1 v.2.1 v.2.2.1 v.2.2.2)) (ws' := fun v => (w_X12_takes G q_this q_this_book q_this_s q_this_row q_this_place q_this_sort q_this_minute q_this_when q_this_isHeard q_this_goneBy q_this_stand v_this_text v_this_length v_this_draft v_this_kept v_this_keptMany v_this_acts v_this_actMany v_this_tells v_this_tellMany v_this_at v_this_told f_this_book f_this_s f_this_row f_this_rowMany v.1 v.2.1 v.2.2.1 f_this_when f_this_isHeard f_this_goneBy f_this_stand v.2.2.2 f_this_standing)) [.int x1, .int (f_this_row x3.toNatClampNeg), .int (x2 + 1)] hg (fun v hv => c_X12_tries l G N q_this q_this_place q_this_sort q_this_minute v_this_text v_this_length (.ref q_this_book) v_this_draft (.ref q_this_s) v_this_kept v_this_keptMany v_this_acts v_this_actMany (.ref q_this_row) (.int f_this_rowMany) v_this_tells v_this_tellMany v_this_at v_this_told (.ref q_this_when) (.ref q_this_isHeard) (.ref q_this_goneBy) (.ref q_this_stand) (.int f_this_standing) f_this_place f_this_sort f_this_minute x5 x1 (f_this_row x3.toNatClampNeg) (x2 + 1) v hv) gX12_takes_X12_tries rfl ⟨rfl, rfl⟩ ⟨rfl, by decide, by decide, rfl⟩ rfl rfl [0, 4, 5, 6] rfl (by decide +kernel) rfl rfl dX12_takes_82 rfl rfl ⟨Nat.zero_le _, Nat.zero_le _⟩ (fun _ => jn_set [0, 4, 5, 6] rfl rfl rfl) (fun v82 hg => ?_)
              refine j_aload_n hX 1 dX12_takes_85 rfl rfl ?_
              refine j_iload_n hX 2 dX12_takes_86 rfl rfl ?_
              refine j_iload_n hX 0 dX12_takes_87 rfl rfl ?_
              refine j_vRV hX hW (w1 := fun v => (w_X12_plays G q_this q_this_book q_this_place q_this_sort q_this_minute q_this_when q_this_isHeard q_this_goneBy q_this_stand v_this_text v_this_length v_this_draft (.ref q_this_s) v_this_kept v_this_keptMany v_this_acts v_this_actMany (.ref q_this_row) (.int f_this_rowMany) v_this_tells v_this_tellMany v_this_at v_this_told f_this_book v82.1 v82.2.1 v82.2.2.1 v.1 v.2.1 v.2.2.1 v.2.2.2.1 v82.2.2.2 v.2.2.2.2)) (ws' := fun v => (w_X12_takes G q_this q_this_book q_this_s q_this_row q_this_place q_this_sort q_this_minute q_this_when q_this_isHeard q_this_goneBy q_this_stand v_this_text v_this_length v_this_draft v_this_kept v_this_keptMany v_this_acts v_this_actMany v_this_tells v_this_tellMany v_this_at v_this_told f_this_book f_this_s f_this_row f_this_rowMany v82.1 v82.2.1 v82.2.2.1 v.1 v.2.1 v.2.2.1 v.2.2.2.1 v82.2.2.2 v.2.2.2.2)) [.int x1, .int (x2 + 1)] hg (fun v hv => c_X12_plays l G N q_this q_this_book q_this_place q_this_sort q_this_minute q_this_when q_this_isHeard q_this_goneBy q_this_stand v_this_text v_this_length v_this_draft (.ref q_this_s) v_this_kept v_this_keptMany v_this_acts v_this_actMany (.ref q_this_row) (.int f_this_rowMany) v_this_tells v_this_tellMany v_this_at v_this_told f_this_book v82.1 v82.2.1 v82.2.2.1 f_this_when f_this_isHeard f_this_goneBy f_this_stand v82.2.2.2 f_this_standing x1 (x2 + 1) v hv) gX12_takes_X12_plays rfl ⟨rfl, rfl⟩ ⟨rfl, by decide, by decide, rfl⟩ rfl rfl [0, 1, 4, 5, 6, 7, 8, 9, 10] (ax_X12_takes_88c _ _ _ _ _ _ _ _ _ _ _) (by decide +kernel) rfl rfl dX12_takes_88 rfl rfl ⟨Nat.zero_le _, Nat.zero_le _⟩ (fun _ => jn_ax [0, 1, 4, 5, 6, 7, 8, 9, 10] ([2, 3] : List Nat) 11 (ax_X12_takes_88 _ _ _ _ _ _ _ _ _ _ _ _ _ _ _ _ _ _ _ _) rfl (by decide +kernel)) (fun v88 hg => ?_)
              refine j_aload_n hX 1 dX12_takes_91 rfl rfl ?_
              refine j_get hX 0 21 rfl rfl hinX12 rfl hf_X12_stand_56 rfl dX12_takes_92 ?_
              refine j_aload_n hX 1 dX12_takes_95 rfl rfl ?_
              refine j_get hX 0 23 rfl rfl hinX12 rfl hf_X12_standing_134 rfl dX12_takes_96 ?_
              refine j_if_le hX 111 hg dX12_takes_99 (by decide) (fun hg => ?_) (fun hg => ?_)
              · refine j_iconst hX dX12_takes_111 kc_0 ?_
                refine j_lv [1, 2, 0, 3, 5] rfl ?_
                exact B112 _ _ _ _ _ _ _ _ _ _ _ _ _ _ hg
              · refine j_aload_n hX 1 dX12_takes_102 rfl rfl ?_
                refine j_get hX 0 23 rfl rfl hinX12 rfl hf_X12_standing_134 rfl dX12_takes_103 ?_
                refine j_iconst hX dX12_takes_106 kc_1 ?_
                refine j_isub hX dX12_takes_107 ?_
                refine j_goto hX 112 dX12_takes_108 (by decide) ?_
                refine j_lv [1, 2, 0, 3, 5] rfl ?_
                exact B112 _ _ _ _ _ _ _ _ _ _ _ _ _ _ hg
            · refine j_bipush hX dX12_takes_64 kb_m4 ?_
              cases hg
              exact hret _ _ dX12_takes_66
          · refine j_lv [0, 1, 2, 3] rfl ?_
            exact B135 _ _ _ _ _ _ _ _ _ _ _ _ hg
      intro f_this_place f_this_sort f_this_minute f_this_when f_this_isHeard f_this_goneBy f_this_stand f_this_many f_this_standing x1 x2 x3 hg
      unfold g_X12_takes_L25 at hg
      refine j_iload_n hX 3 dX12_takes_25 rfl rfl ?_
      refine j_aload_n hX 0 dX12_takes_26 rfl rfl ?_
      refine j_get hX 0 10 rfl rfl hinX12 rfl hf_X12_rowMany_112 rfl dX12_takes_27 ?_
      refine j_icmp_ge hX 141 hg dX12_takes_30 (by decide) (fun hg => ?_) (fun hg => ?_)
      · refine j_lv [0, 2] rfl ?_
        exact B141 _ _ _ _ _ _ _ _ _ _ hg
      · refine j_iconst hX dX12_takes_33 kc_0 ?_
        refine j_istore hX (lv' := [(4, .int 0), (0, .ref q_this), (1, .int x1), (2, .int x2), (3, .int x3)]) dX12_takes_34 rfl rfl ?_
        refine j_aload_n hX 1 dX12_takes_36 rfl rfl ?_
        refine j_get hX 0 22 rfl rfl hinX12 rfl hf_X12_many_127 rfl dX12_takes_37 ?_
        refine j_istore hX (lv' := [(5, .int f_this_many), (4, .int 0), (0, .ref q_this), (1, .int x1), (2, .int x2), (3, .int x3)]) dX12_takes_40 rfl rfl ?_
        refine j_lv [2, 3, 4, 5, 1, 0] rfl ?_
        exact L42 N _ _ _ _ _ _ _ _ _ _ _ _ _ _ hg
  have hg := hu
  unfold g_X12_takes at hg
  refine j_aload_n hX 0 dX12_takes_0 rfl rfl ?_
  refine j_iload_n hX 1 dX12_takes_1 rfl rfl ?_
  refine j_vRO hX (r := fun v => v) [.int x1] hg (fun v hv => c_X12_isPlace l G N q_this q_this_book v_this_text v_this_length v_this_draft (.ref q_this_s) v_this_kept v_this_keptMany v_this_acts v_this_actMany (.ref q_this_row) (.int f_this_rowMany) v_this_tells v_this_tellMany v_this_at v_this_told (.ref q_this_place) (.ref q_this_sort) (.ref q_this_minute) (.ref q_this_when) (.ref q_this_isHeard) (.ref q_this_goneBy) (.ref q_this_stand) (.int f_this_many) (.int f_this_standing) f_this_book x1 v hv) gX12_takes_X12_isPlace rfl ⟨rfl, rfl⟩ ⟨rfl, by decide, by decide, rfl⟩ rfl rfl [0, 1] rfl rfl rfl dX12_takes_2 rfl rfl ⟨Nat.zero_le _, Nat.zero_le _⟩ (fun v2 hg => ?_)
  refine j_if_ne hX 10 hg dX12_takes_5 (by decide) (fun hg => ?_) (fun hg => ?_)
  · refine j_iconst hX dX12_takes_8 kc_m1 ?_
    cases hg
    exact hret _ _ dX12_takes_9
  · refine j_aload_n hX 0 dX12_takes_10 rfl rfl ?_
    refine j_vRV hX hW (w1 := fun v => (w_X12_starts G q_this q_this_s q_this_place q_this_sort q_this_minute v_this_text v_this_length (.ref q_this_book) v_this_draft v_this_kept v_this_keptMany v_this_acts v_this_actMany (.ref q_this_row) (.int f_this_rowMany) v_this_tells v_this_tellMany v_this_at v_this_told (.ref q_this_when) (.ref q_this_isHeard) (.ref q_this_goneBy) (.ref q_this_stand) (.int f_this_standing) f_this_s v.1 v.2.1 v.2.2.1 v.2.2.2)) (ws' := fun v => (w_X12_takes G q_this q_this_book q_this_s q_this_row q_this_place q_this_sort q_this_minute q_this_when q_this_isHeard q_this_goneBy q_this_stand v_this_text v_this_length v_this_draft v_this_kept v_this_keptMany v_this_acts v_this_actMany v_this_tells v_this_tellMany v_this_at v_this_told f_this_book f_this_s f_this_row f_this_rowMany v.1 v.2.1 v.2.2.1 f_this_when f_this_isHeard f_this_goneBy f_this_stand v.2.2.2 f_this_standing)) [] hg (fun v hv => c_X12_starts l G N q_this q_this_s q_this_place q_this_sort q_this_minute v_this_text v_this_length (.ref q_this_book) v_this_draft v_this_kept v_this_keptMany v_this_acts v_this_actMany (.ref q_this_row) (.int f_this_rowMany) v_this_tells v_this_tellMany v_this_at v_this_told (.ref q_this_when) (.ref q_this_isHeard) (.ref q_this_goneBy) (.ref q_this_stand) (.int f_this_standing) f_this_s f_this_place f_this_sort f_this_minute f_this_many v hv) gX12_takes_X12_starts rfl ⟨rfl, rfl⟩ ⟨rfl, by decide, by decide, rfl⟩ rfl rfl [0, 2, 4, 5, 6] rfl (by decide +kernel) rfl rfl dX12_takes_11 rfl rfl ⟨Nat.zero_le _, Nat.zero_le _⟩ (fun _ => jn_set [0, 2, 4, 5, 6] rfl rfl rfl) (fun v11 hg => ?_)
    refine j_aload_n hX 0 dX12_takes_14 rfl rfl ?_
    refine j_get hX 0 4 rfl rfl hinX12 rfl hf_X12_s_19 rfl dX12_takes_15 ?_
    refine j_iconst hX dX12_takes_18 kc_1 ?_
    refine j_iald hX 2 rfl hg dX12_takes_19 (fun hg => ?_)
    refine j_iconst hX dX12_takes_20 kc_1 ?_
    refine j_isub hX dX12_takes_21 ?_
    refine j_istore_n hX (lv' := [(2, .int ((f_this_s (1 : Int32).toNatClampNeg) - 1)), (0, .ref q_this), (1, .int x1)]) dX12_takes_22 rfl rfl rfl ?_
    refine j_iconst hX dX12_takes_23 kc_0 ?_
    refine j_istore_n hX (lv' := [(3, .int 0), (2, .int ((f_this_s (1 : Int32).toNatClampNeg) - 1)), (0, .ref q_this), (1, .int x1)]) dX12_takes_24 rfl rfl rfl ?_
    refine j_lv [2, 3, 1, 0] rfl ?_
    exact L25 N _ _ _ _ _ _ _ _ _ _ _ _ hg
abbrev w_X12_isRow (G : jG) (q_this : Nat) (q_this_row : Nat) (q_this_sort : Nat) (q_this_stand : Nat) (v_this_text : Value) (v_this_length : Value) (v_this_book : Value) (v_this_draft : Value) (v_this_s : Value) (v_this_kept : Value) (v_this_keptMany : Value) (v_this_acts : Value) (v_this_actMany : Value) (v_this_tells : Value) (v_this_tellMany : Value) (v_this_at : Value) (v_this_told : Value) (v_this_place : Value) (v_this_minute : Value) (v_this_when : Value) (v_this_isHeard : Value) (v_this_goneBy : Value) (v_this_many : Value) (f_this_row : (Nat → Int32)) (f_this_rowMany : Int32) (f_this_sort : (Nat → Int32)) (f_this_stand : (Nat → Int32)) (f_this_standing : Int32) : va_W := [oC q_this 12 [v_this_text, v_this_length, v_this_book, v_this_draft, v_this_s, v_this_kept, v_this_keptMany, v_this_acts, v_this_actMany, .ref q_this_row, .int f_this_rowMany, v_this_tells, v_this_tellMany, v_this_at, v_this_told, v_this_place, .ref q_this_sort, v_this_minute, v_this_when, v_this_isHeard, v_this_goneBy, .ref q_this_stand, v_this_many, .int f_this_standing], aI G q_this_row 8 f_this_row, aI G q_this_sort 128 f_this_sort, aI G q_this_stand 128 f_this_stand]
def g_X12_isRow_b56 (N : Nat) (f_this_row : (Nat → Int32)) (f_this_rowMany : Int32) (f_this_sort : (Nat → Int32)) (f_this_stand : (Nat → Int32)) (f_this_standing : Int32) (rec_19 : Int32 → Int32 → Option (Int32)) (x2 : Int32) (s0 : Int32) : Option (Int32) := rec_19 s0 (x2 + 1)
def g_X12_isRow_L19 (N : Nat) (f_this_row : (Nat → Int32)) (f_this_rowMany : Int32) (f_this_sort : (Nat → Int32)) (f_this_stand : (Nat → Int32)) (f_this_standing : Int32) : Nat → Int32 → Int32 → Option (Int32)
  | 0, _, _ => none
  | fu + 1, x1, x2 => if f_this_rowMany ≤ x2 then gb x1 (some x1) else if x1 = 0 then gb x1 (some x1) else gi x2 128 (gi (f_this_stand x2.toNatClampNeg) 128 (gi x2 8 (if (f_this_sort (f_this_stand x2.toNatClampNeg : Int32).toNatClampNeg) = (f_this_row x2.toNatClampNeg) then g_X12_isRow_b56 N f_this_row f_this_rowMany f_this_sort f_this_stand f_this_standing (g_X12_isRow_L19 N f_this_row f_this_rowMany f_this_sort f_this_stand f_this_standing fu) x2 1 else g_X12_isRow_b56 N f_this_row f_this_rowMany f_this_sort f_this_stand f_this_standing (g_X12_isRow_L19 N f_this_row f_this_rowMany f_this_sort f_this_stand f_this_standing fu) x2 0)))
def g_X12_isRow_b16 (N : Nat) (f_this_row : (Nat → Int32)) (f_this_rowMany : Int32) (f_this_sort : (Nat → Int32)) (f_this_stand : (Nat → Int32)) (f_this_standing : Int32) (s0 : Int32) : Option (Int32) := g_X12_isRow_L19 N f_this_row f_this_rowMany f_this_sort f_this_stand f_this_standing N s0 0
def g_X12_isRow (N : Nat) (f_this_row : (Nat → Int32)) (f_this_rowMany : Int32) (f_this_sort : (Nat → Int32)) (f_this_stand : (Nat → Int32)) (f_this_standing : Int32) : Option (Int32) := if f_this_standing = f_this_rowMany then g_X12_isRow_b16 N f_this_row f_this_rowMany f_this_sort f_this_stand f_this_standing 1 else g_X12_isRow_b16 N f_this_row f_this_rowMany f_this_sort f_this_stand f_this_standing 0
set_option maxHeartbeats 4000000 in
set_option maxRecDepth 100000 in
theorem c_X12_isRow (l : Launch) (G : jG) (N : Nat) (q_this : Nat) (q_this_row : Nat) (q_this_sort : Nat) (q_this_stand : Nat) (v_this_text : Value) (v_this_length : Value) (v_this_book : Value) (v_this_draft : Value) (v_this_s : Value) (v_this_kept : Value) (v_this_keptMany : Value) (v_this_acts : Value) (v_this_actMany : Value) (v_this_tells : Value) (v_this_tellMany : Value) (v_this_at : Value) (v_this_told : Value) (v_this_place : Value) (v_this_minute : Value) (v_this_when : Value) (v_this_isHeard : Value) (v_this_goneBy : Value) (v_this_many : Value) (f_this_row : (Nat → Int32)) (f_this_rowMany : Int32) (f_this_sort : (Nat → Int32)) (f_this_stand : (Nat → Int32)) (f_this_standing : Int32) (u : Int32) (hu : g_X12_isRow N f_this_row f_this_rowMany f_this_sort f_this_stand f_this_standing = some u) : MetRO l G yX12_isRow wsX12_isRow ({ frames := 0, cells := 0, slots := 0, locals := 0 } : Room) [.ref q_this] (w_X12_isRow G q_this q_this_row q_this_sort q_this_stand v_this_text v_this_length v_this_book v_this_draft v_this_s v_this_kept v_this_keptMany v_this_acts v_this_actMany v_this_tells v_this_tellMany v_this_at v_this_told v_this_place v_this_minute v_this_when v_this_isHeard v_this_goneBy v_this_many f_this_row f_this_rowMany f_this_sort f_this_stand f_this_standing) u := by
  refine met_roz (cc := cX12_isRow) (maxL := 3) (lv0 := [(0, .ref q_this)]) (by decide) rfl rfl rfl rfl (fun X hX hret => ?_)
  have hinX12 : ∀ w ∈ u_ws RX12 TX12 24, w ∈ wsX12_isRow := by decide +kernel
  have hf_X12_row_28 : Cond.fieldLink RX12 28 (TX12 9).1 (TX12 9).2.1 (TX12 9).2.2.1 ∈ wsX12_isRow := by decide +kernel
  have hf_X12_rowMany_112 : Cond.fieldLink RX12 112 (TX12 10).1 (TX12 10).2.1 (TX12 10).2.2.1 ∈ wsX12_isRow := by decide +kernel
  have hf_X12_sort_40 : Cond.fieldLink RX12 40 (TX12 16).1 (TX12 16).2.1 (TX12 16).2.2.1 ∈ wsX12_isRow := by decide +kernel
  have hf_X12_stand_56 : Cond.fieldLink RX12 56 (TX12 21).1 (TX12 21).2.1 (TX12 21).2.2.1 ∈ wsX12_isRow := by decide +kernel
  have hf_X12_standing_134 : Cond.fieldLink RX12 134 (TX12 23).1 (TX12 23).2.1 (TX12 23).2.2.1 ∈ wsX12_isRow := by decide +kernel
  have L19 : ∀ (fu19 : Nat), ∀ (x1 : Int32) (x2 : Int32), g_X12_isRow_L19 N f_this_row f_this_rowMany f_this_sort f_this_stand f_this_standing fu19 x1 x2 = some u → J X 0 0 (w_X12_isRow G q_this q_this_row q_this_sort q_this_stand v_this_text v_this_length v_this_book v_this_draft v_this_s v_this_kept v_this_keptMany v_this_acts v_this_actMany v_this_tells v_this_tellMany v_this_at v_this_told v_this_place v_this_minute v_this_when v_this_isHeard v_this_goneBy v_this_many f_this_row f_this_rowMany f_this_sort f_this_stand f_this_standing) 19 [(0, .ref q_this), (1, .int x1), (2, .int x2)] [] := by
    intro fu19
    induction fu19 with
    | zero => intro x1 x2 hg; exact nomatch hg
    | succ fu19 ih19 =>
      have B56 : ∀ (x2 : Int32) (s0 : Int32), g_X12_isRow_b56 N f_this_row f_this_rowMany f_this_sort f_this_stand f_this_standing (g_X12_isRow_L19 N f_this_row f_this_rowMany f_this_sort f_this_stand f_this_standing fu19) x2 s0 = some u → J X 0 0 (w_X12_isRow G q_this q_this_row q_this_sort q_this_stand v_this_text v_this_length v_this_book v_this_draft v_this_s v_this_kept v_this_keptMany v_this_acts v_this_actMany v_this_tells v_this_tellMany v_this_at v_this_told v_this_place v_this_minute v_this_when v_this_isHeard v_this_goneBy v_this_many f_this_row f_this_rowMany f_this_sort f_this_stand f_this_standing) 56 [(0, .ref q_this), (2, .int x2)] [.int s0] := by
        intro x2 s0 hg
        unfold g_X12_isRow_b56 at hg
        refine j_istore_n hX (lv' := [(1, .int s0), (0, .ref q_this), (2, .int x2)]) dX12_isRow_56 rfl rfl rfl ?_
        refine j_iinc hX 2 (v := x2 + 1) (lv' := [(2, .int (x2 + 1)), (1, .int s0), (0, .ref q_this)]) dX12_isRow_57 rfl (by rw [kc_1]) rfl rfl ?_
        refine j_goto hX 19 dX12_isRow_60 (by decide) ?_
        refine j_lv [2, 1, 0] rfl ?_
        exact ih19 _ _ hg
      intro x1 x2 hg
      unfold g_X12_isRow_L19 at hg
      refine j_iload_n hX 2 dX12_isRow_19 rfl rfl ?_
      refine j_aload_n hX 0 dX12_isRow_20 rfl rfl ?_
      refine j_get hX 0 10 rfl rfl hinX12 rfl hf_X12_rowMany_112 rfl dX12_isRow_21 ?_
      refine j_icmp_ge hX 63 hg dX12_isRow_24 (by decide) (fun hg => ?_) (fun hg => ?_)
      · refine j_iload_n hX 1 dX12_isRow_63 rfl rfl ?_
        obtain ⟨hb, hg⟩ := gb_some hg
        cases hg
        exact hret _ _ hb dX12_isRow_64
      · refine j_iload_n hX 1 dX12_isRow_27 rfl rfl ?_
        refine j_if_eq hX 63 hg dX12_isRow_28 (by decide) (fun hg => ?_) (fun hg => ?_)
        · refine j_iload_n hX 1 dX12_isRow_63 rfl rfl ?_
          obtain ⟨hb, hg⟩ := gb_some hg
          cases hg
          exact hret _ _ hb dX12_isRow_64
        · refine j_aload_n hX 0 dX12_isRow_31 rfl rfl ?_
          refine j_get hX 0 16 rfl rfl hinX12 rfl hf_X12_sort_40 rfl dX12_isRow_32 ?_
          refine j_aload_n hX 0 dX12_isRow_35 rfl rfl ?_
          refine j_get hX 0 21 rfl rfl hinX12 rfl hf_X12_stand_56 rfl dX12_isRow_36 ?_
          refine j_iload_n hX 2 dX12_isRow_39 rfl rfl ?_
          refine j_iald hX 3 rfl hg dX12_isRow_40 (fun hg => ?_)
          refine j_iald hX 2 rfl hg dX12_isRow_41 (fun hg => ?_)
          refine j_aload_n hX 0 dX12_isRow_42 rfl rfl ?_
          refine j_get hX 0 9 rfl rfl hinX12 rfl hf_X12_row_28 rfl dX12_isRow_43 ?_
          refine j_iload_n hX 2 dX12_isRow_46 rfl rfl ?_
          refine j_iald hX 1 rfl hg dX12_isRow_47 (fun hg => ?_)
          refine j_icmp_ne hX 55 hg dX12_isRow_48 (by decide) (fun hg => ?_) (fun hg => ?_)
          · refine j_iconst hX dX12_isRow_51 kc_1 ?_
            refine j_goto hX 56 dX12_isRow_52 (by decide) ?_
            refine j_lv [0, 2] rfl ?_
            exact B56 _ _ hg
          · refine j_iconst hX dX12_isRow_55 kc_0 ?_
            refine j_lv [0, 2] rfl ?_
            exact B56 _ _ hg
  have B16 : ∀ (s0 : Int32), g_X12_isRow_b16 N f_this_row f_this_rowMany f_this_sort f_this_stand f_this_standing s0 = some u → J X 0 0 (w_X12_isRow G q_this q_this_row q_this_sort q_this_stand v_this_text v_this_length v_this_book v_this_draft v_this_s v_this_kept v_this_keptMany v_this_acts v_this_actMany v_this_tells v_this_tellMany v_this_at v_this_told v_this_place v_this_minute v_this_when v_this_isHeard v_this_goneBy v_this_many f_this_row f_this_rowMany f_this_sort f_this_stand f_this_standing) 16 [(0, .ref q_this)] [.int s0] := by
    intro s0 hg
    unfold g_X12_isRow_b16 at hg
    refine j_istore_n hX (lv' := [(1, .int s0), (0, .ref q_this)]) dX12_isRow_16 rfl rfl rfl ?_
    refine j_iconst hX dX12_isRow_17 kc_0 ?_
    refine j_istore_n hX (lv' := [(2, .int 0), (1, .int s0), (0, .ref q_this)]) dX12_isRow_18 rfl rfl rfl ?_
    refine j_lv [2, 1, 0] rfl ?_
    exact L19 N _ _ hg
  have hg := hu
  unfold g_X12_isRow at hg
  refine j_aload_n hX 0 dX12_isRow_0 rfl rfl ?_
  refine j_get hX 0 23 rfl rfl hinX12 rfl hf_X12_standing_134 rfl dX12_isRow_1 ?_
  refine j_aload_n hX 0 dX12_isRow_4 rfl rfl ?_
  refine j_get hX 0 10 rfl rfl hinX12 rfl hf_X12_rowMany_112 rfl dX12_isRow_5 ?_
  refine j_icmp_ne hX 15 hg dX12_isRow_8 (by decide) (fun hg => ?_) (fun hg => ?_)
  · refine j_iconst hX dX12_isRow_11 kc_1 ?_
    refine j_goto hX 16 dX12_isRow_12 (by decide) ?_
    exact B16 _ hg
  · refine j_iconst hX dX12_isRow_15 kc_0 ?_
    exact B16 _ hg
abbrev w_X12_taps (G : jG) (q_this : Nat) (q_this_book : Nat) (q_this_s : Nat) (q_this_place : Nat) (q_this_sort : Nat) (q_this_minute : Nat) (q_this_when : Nat) (q_this_isHeard : Nat) (q_this_goneBy : Nat) (q_this_stand : Nat) (v_this_text : Value) (v_this_length : Value) (v_this_draft : Value) (v_this_kept : Value) (v_this_keptMany : Value) (v_this_acts : Value) (v_this_actMany : Value) (v_this_row : Value) (v_this_rowMany : Value) (v_this_tells : Value) (v_this_tellMany : Value) (v_this_at : Value) (v_this_told : Value) (f_this_book : (Nat → Int32)) (f_this_s : (Nat → Int32)) (f_this_place : (Nat → Int32)) (f_this_sort : (Nat → Int32)) (f_this_minute : (Nat → Int32)) (f_this_when : (Nat → Int32)) (f_this_isHeard : (Nat → Int32)) (f_this_goneBy : (Nat → Int32)) (f_this_stand : (Nat → Int32)) (f_this_many : Int32) (f_this_standing : Int32) : va_W := [oC q_this 12 [v_this_text, v_this_length, .ref q_this_book, v_this_draft, .ref q_this_s, v_this_kept, v_this_keptMany, v_this_acts, v_this_actMany, v_this_row, v_this_rowMany, v_this_tells, v_this_tellMany, v_this_at, v_this_told, .ref q_this_place, .ref q_this_sort, .ref q_this_minute, .ref q_this_when, .ref q_this_isHeard, .ref q_this_goneBy, .ref q_this_stand, .int f_this_many, .int f_this_standing], aI G q_this_book 78 f_this_book, aI G q_this_s 74 f_this_s, aI G q_this_place 128 f_this_place, aI G q_this_sort 128 f_this_sort, aI G q_this_minute 128 f_this_minute, aI G q_this_when 128 f_this_when, aZ G q_this_isHeard 128 f_this_isHeard, aI G q_this_goneBy 128 f_this_goneBy, aI G q_this_stand 128 f_this_stand]
def g_X12_taps_b75 (N : Nat) (f_this_book : (Nat → Int32)) (f_this_s : (Nat → Int32)) (f_this_place : (Nat → Int32)) (f_this_sort : (Nat → Int32)) (f_this_minute : (Nat → Int32)) (f_this_when : (Nat → Int32)) (f_this_isHeard : (Nat → Int32)) (f_this_goneBy : (Nat → Int32)) (f_this_stand : (Nat → Int32)) (f_this_many : Int32) (f_this_standing : Int32) (s1 : Int32) (s2 : Int32) (s3 : Int32) : Option ((Nat → Int32) × (Nat → Int32) × (Nat → Int32) × (Nat → Int32) × (Nat → Int32) × (Nat → Int32) × (Nat → Int32) × Int32 × Int32) := (g_X12_plays N f_this_book f_this_place f_this_sort f_this_minute f_this_many f_this_when f_this_isHeard f_this_goneBy f_this_stand f_this_standing s1 (s2 + s3)).bind fun v76 => some (f_this_place, f_this_sort, f_this_minute, v76.1, v76.2.1, v76.2.2.1, v76.2.2.2.1, f_this_many, v76.2.2.2.2)
def g_X12_taps_b56 (N : Nat) (f_this_book : (Nat → Int32)) (f_this_s : (Nat → Int32)) (f_this_place : (Nat → Int32)) (f_this_sort : (Nat → Int32)) (f_this_minute : (Nat → Int32)) (f_this_when : (Nat → Int32)) (f_this_isHeard : (Nat → Int32)) (f_this_goneBy : (Nat → Int32)) (f_this_stand : (Nat → Int32)) (f_this_many : Int32) (f_this_standing : Int32) (x1 : Int32) (x2 : Int32) : Option ((Nat → Int32) × (Nat → Int32) × (Nat → Int32) × (Nat → Int32) × (Nat → Int32) × (Nat → Int32) × (Nat → Int32) × Int32 × Int32) := gi 1 74 (if x2 ≤ 0 then g_X12_taps_b75 N f_this_book f_this_s f_this_place f_this_sort f_this_minute f_this_when f_this_isHeard f_this_goneBy f_this_stand f_this_many f_this_standing x1 (f_this_s (1 : Int32).toNatClampNeg) 0 else g_X12_taps_b75 N f_this_book f_this_s f_this_place f_this_sort f_this_minute f_this_when f_this_isHeard f_this_goneBy f_this_stand f_this_many f_this_standing x1 (f_this_s (1 : Int32).toNatClampNeg) (x2 - 1))
def g_X12_taps_L10 (N : Nat) (f_this_book : (Nat → Int32)) (f_this_s : (Nat → Int32)) (k_56 : (Nat → Int32) → (Nat → Int32) → (Nat → Int32) → (Nat → Int32) → (Nat → Int32) → (Nat → Int32) → (Nat → Int32) → Int32 → Int32 → Int32 → Int32 → Option ((Nat → Int32) × (Nat → Int32) × (Nat → Int32) × (Nat → Int32) × (Nat → Int32) × (Nat → Int32) × (Nat → Int32) × Int32 × Int32)) : Nat → (Nat → Int32) → (Nat → Int32) → (Nat → Int32) → (Nat → Int32) → (Nat → Int32) → (Nat → Int32) → (Nat → Int32) → Int32 → Int32 → Int32 → Int32 → Int32 → Int32 → Option ((Nat → Int32) × (Nat → Int32) × (Nat → Int32) × (Nat → Int32) × (Nat → Int32) × (Nat → Int32) × (Nat → Int32) × Int32 × Int32)
  | 0, _, _, _, _, _, _, _, _, _, _, _, _, _ => none
  | fu + 1, f_this_place, f_this_sort, f_this_minute, f_this_when, f_this_isHeard, f_this_goneBy, f_this_stand, f_this_many, f_this_standing, x1, x2, x4, x5 => if x2 ≤ x5 then k_56 f_this_place f_this_sort f_this_minute f_this_when f_this_isHeard f_this_goneBy f_this_stand f_this_many f_this_standing x1 x2 else gi 3 78 (gz (f_this_book (3 : Int32).toNatClampNeg) (gi 1 74 ((g_X12_tries N f_this_place f_this_sort f_this_minute f_this_many x1 (x4 - x4 / (f_this_book (3 : Int32).toNatClampNeg) * (f_this_book (3 : Int32).toNatClampNeg)) ((f_this_s (1 : Int32).toNatClampNeg) + x5)).bind fun v36 => gi 3 78 (gz (f_this_book (3 : Int32).toNatClampNeg) (g_X12_taps_L10 N f_this_book f_this_s k_56 fu v36.1 v36.2.1 v36.2.2.1 f_this_when f_this_isHeard f_this_goneBy f_this_stand v36.2.2.2 f_this_standing x1 x2 (x4 / (f_this_book (3 : Int32).toNatClampNeg)) (x5 + 1))))))
def g_X12_taps (N : Nat) (f_this_book : (Nat → Int32)) (f_this_s : (Nat → Int32)) (f_this_place : (Nat → Int32)) (f_this_sort : (Nat → Int32)) (f_this_minute : (Nat → Int32)) (f_this_when : (Nat → Int32)) (f_this_isHeard : (Nat → Int32)) (f_this_goneBy : (Nat → Int32)) (f_this_stand : (Nat → Int32)) (f_this_many : Int32) (f_this_standing : Int32) (x1 : Int32) (x2 : Int32) (x3 : Int32) : Option ((Nat → Int32) × (Nat → Int32) × (Nat → Int32) × (Nat → Int32) × (Nat → Int32) × (Nat → Int32) × (Nat → Int32) × Int32 × Int32) := (g_X12_starts N f_this_s f_this_place f_this_sort f_this_minute f_this_many).bind fun v1 => g_X12_taps_L10 N f_this_book f_this_s (g_X12_taps_b56 N f_this_book f_this_s) N v1.1 v1.2.1 v1.2.2.1 f_this_when f_this_isHeard f_this_goneBy f_this_stand v1.2.2.2 f_this_standing x1 x2 x3 0
set_option maxRecDepth 100000 in
theorem ax_X12_taps_76 (c0 c1 c2 c3 c4 c5 c6 c7 c8 c9 d0 d1 d2 d3 d4 d5 d6 d7 d8 : Nat × va_E) : [0, 1, 3, 4, 5, 6, 7, 8, 9].map (fun i => ([c0, c1, c2, c3, c4, c5, c6, c7, c8, c9] : va_W)[i]?) = List.map some ([c0, c1, c3, c4, c5, c6, c7, c8, c9] : va_W) ∧ ([d0, d1, c2, d2, d3, d4, d5, d6, d7, d8] : va_W).length = 10 ∧ [0, 1, 3, 4, 5, 6, 7, 8, 9].map (fun i => ([d0, d1, c2, d2, d3, d4, d5, d6, d7, d8] : va_W)[i]?) = List.map some ([d0, d1, d2, d3, d4, d5, d6, d7, d8] : va_W) ∧ ([2] : List Nat).map (fun i => ([d0, d1, c2, d2, d3, d4, d5, d6, d7, d8] : va_W)[i]?) = ([2] : List Nat).map (fun i => ([c0, c1, c2, c3, c4, c5, c6, c7, c8, c9] : va_W)[i]?) := ⟨rfl, rfl, rfl, rfl⟩
set_option maxRecDepth 100000 in
theorem ax_X12_taps_76c (c0 c1 c2 c3 c4 c5 c6 c7 c8 c9 : Nat × va_E) : [0, 1, 3, 4, 5, 6, 7, 8, 9].map (fun i => ([c0, c1, c2, c3, c4, c5, c6, c7, c8, c9] : va_W)[i]?) = List.map some ([c0, c1, c3, c4, c5, c6, c7, c8, c9] : va_W) := rfl
set_option maxHeartbeats 4000000 in
set_option maxRecDepth 100000 in
theorem c_X12_taps (l : Launch) (G : jG) (N : Nat) (q_this : Nat) (q_this_book : Nat) (q_this_s : Nat) (q_this_place : Nat) (q_this_sort : Nat) (q_this_minute : Nat) (q_this_when : Nat) (q_this_isHeard : Nat) (q_this_goneBy : Nat) (q_this_stand : Nat) (v_this_text : Value) (v_this_length : Value) (v_this_draft : Value) (v_this_kept : Value) (v_this_keptMany : Value) (v_this_acts : Value) (v_this_actMany : Value) (v_this_row : Value) (v_this_rowMany : Value) (v_this_tells : Value) (v_this_tellMany : Value) (v_this_at : Value) (v_this_told : Value) (f_this_book : (Nat → Int32)) (f_this_s : (Nat → Int32)) (f_this_place : (Nat → Int32)) (f_this_sort : (Nat → Int32)) (f_this_minute : (Nat → Int32)) (f_this_when : (Nat → Int32)) (f_this_isHeard : (Nat → Int32)) (f_this_goneBy : (Nat → Int32)) (f_this_stand : (Nat → Int32)) (f_this_many : Int32) (f_this_standing : Int32) (x1 : Int32) (x2 : Int32) (x3 : Int32) (u : (Nat → Int32) × (Nat → Int32) × (Nat → Int32) × (Nat → Int32) × (Nat → Int32) × (Nat → Int32) × (Nat → Int32) × Int32 × Int32) (hu : g_X12_taps N f_this_book f_this_s f_this_place f_this_sort f_this_minute f_this_when f_this_isHeard f_this_goneBy f_this_stand f_this_many f_this_standing x1 x2 x3 = some u) : MetRV l G yX12_taps wsX12_taps ({ frames := 3, cells := 0, slots := 0, locals := 72 } : Room) [.ref q_this, .int x1, .int x2, .int x3] (w_X12_taps G q_this q_this_book q_this_s q_this_place q_this_sort q_this_minute q_this_when q_this_isHeard q_this_goneBy q_this_stand v_this_text v_this_length v_this_draft v_this_kept v_this_keptMany v_this_acts v_this_actMany v_this_row v_this_rowMany v_this_tells v_this_tellMany v_this_at v_this_told f_this_book f_this_s f_this_place f_this_sort f_this_minute f_this_when f_this_isHeard f_this_goneBy f_this_stand f_this_many f_this_standing) (w_X12_taps G q_this q_this_book q_this_s q_this_place q_this_sort q_this_minute q_this_when q_this_isHeard q_this_goneBy q_this_stand v_this_text v_this_length v_this_draft v_this_kept v_this_keptMany v_this_acts v_this_actMany v_this_row v_this_rowMany v_this_tells v_this_tellMany v_this_at v_this_told f_this_book f_this_s u.1 u.2.1 u.2.2.1 u.2.2.2.1 u.2.2.2.2.1 u.2.2.2.2.2.1 u.2.2.2.2.2.2.1 u.2.2.2.2.2.2.2.1 u.2.2.2.2.2.2.2.2) := by
  refine met_rwv (cc := cX12_taps) (maxL := 6) (lv0 := [(0, .ref q_this), (1, .int x1), (2, .int x2), (3, .int x3)]) (by decide) rfl rfl rfl rfl (fun X hX hW hret => ?_)
  have hinX12 : ∀ w ∈ u_ws RX12 TX12 24, w ∈ wsX12_taps := by decide +kernel
  have hf_X12_book_13 : Cond.fieldLink RX12 13 (TX12 2).1 (TX12 2).2.1 (TX12 2).2.2.1 ∈ wsX12_taps := by decide +kernel
  have hf_X12_s_19 : Cond.fieldLink RX12 19 (TX12 4).1 (TX12 4).2.1 (TX12 4).2.2.1 ∈ wsX12_taps := by decide +kernel
  have B75 : ∀ (f_this_place : (Nat → Int32)) (f_this_sort : (Nat → Int32)) (f_this_minute : (Nat → Int32)) (f_this_when : (Nat → Int32)) (f_this_isHeard : (Nat → Int32)) (f_this_goneBy : (Nat → Int32)) (f_this_stand : (Nat → Int32)) (f_this_many : Int32) (f_this_standing : Int32) (s1 : Int32) (s2 : Int32) (s3 : Int32), g_X12_taps_b75 N f_this_book f_this_s f_this_place f_this_sort f_this_minute f_this_when f_this_isHeard f_this_goneBy f_this_stand f_this_many f_this_standing s1 s2 s3 = some u → J X 0 0 (w_X12_taps G q_this q_this_book q_this_s q_this_place q_this_sort q_this_minute q_this_when q_this_isHeard q_this_goneBy q_this_stand v_this_text v_this_length v_this_draft v_this_kept v_this_keptMany v_this_acts v_this_actMany v_this_row v_this_rowMany v_this_tells v_this_tellMany v_this_at v_this_told f_this_book f_this_s f_this_place f_this_sort f_this_minute f_this_when f_this_isHeard f_this_goneBy f_this_stand f_this_many f_this_standing) 75 [] [.int s3, .int s2, .int s1, .ref q_this] := by
    intro f_this_place f_this_sort f_this_minute f_this_when f_this_isHeard f_this_goneBy f_this_stand f_this_many f_this_standing s1 s2 s3 hg
    unfold g_X12_taps_b75 at hg
    refine j_iadd hX dX12_taps_75 ?_
    refine j_vRV hX hW (w1 := fun v => (w_X12_plays G q_this q_this_book q_this_place q_this_sort q_this_minute q_this_when q_this_isHeard q_this_goneBy q_this_stand v_this_text v_this_length v_this_draft (.ref q_this_s) v_this_kept v_this_keptMany v_this_acts v_this_actMany v_this_row v_this_rowMany v_this_tells v_this_tellMany v_this_at v_this_told f_this_book f_this_place f_this_sort f_this_minute v.1 v.2.1 v.2.2.1 v.2.2.2.1 f_this_many v.2.2.2.2)) (ws' := fun v => (w_X12_taps G q_this q_this_book q_this_s q_this_place q_this_sort q_this_minute q_this_when q_this_isHeard q_this_goneBy q_this_stand v_this_text v_this_length v_this_draft v_this_kept v_this_keptMany v_this_acts v_this_actMany v_this_row v_this_rowMany v_this_tells v_this_tellMany v_this_at v_this_told f_this_book f_this_s f_this_place f_this_sort f_this_minute v.1 v.2.1 v.2.2.1 v.2.2.2.1 f_this_many v.2.2.2.2)) [.int s1, .int (s2 + s3)] hg (fun v hv => c_X12_plays l G N q_this q_this_book q_this_place q_this_sort q_this_minute q_this_when q_this_isHeard q_this_goneBy q_this_stand v_this_text v_this_length v_this_draft (.ref q_this_s) v_this_kept v_this_keptMany v_this_acts v_this_actMany v_this_row v_this_rowMany v_this_tells v_this_tellMany v_this_at v_this_told f_this_book f_this_place f_this_sort f_this_minute f_this_when f_this_isHeard f_this_goneBy f_this_stand f_this_many f_this_standing s1 (s2 + s3) v hv) gX12_taps_X12_plays rfl ⟨rfl, rfl⟩ ⟨rfl, by decide, by decide, rfl⟩ rfl rfl [0, 1, 3, 4, 5, 6, 7, 8, 9] (ax_X12_taps_76c _ _ _ _ _ _ _ _ _ _) (by decide +kernel) rfl rfl dX12_taps_76 rfl rfl ⟨Nat.zero_le _, Nat.zero_le _⟩ (fun _ => jn_ax [0, 1, 3, 4, 5, 6, 7, 8, 9] ([2] : List Nat) 10 (ax_X12_taps_76 _ _ _ _ _ _ _ _ _ _ _ _ _ _ _ _ _ _ _) rfl (by decide +kernel)) (fun v76 hg => ?_)
    cases hg
    exact hret _ _ dX12_taps_79
  have B56 : ∀ (f_this_place : (Nat → Int32)) (f_this_sort : (Nat → Int32)) (f_this_minute : (Nat → Int32)) (f_this_when : (Nat → Int32)) (f_this_isHeard : (Nat → Int32)) (f_this_goneBy : (Nat → Int32)) (f_this_stand : (Nat → Int32)) (f_this_many : Int32) (f_this_standing : Int32) (x1 : Int32) (x2 : Int32), g_X12_taps_b56 N f_this_book f_this_s f_this_place f_this_sort f_this_minute f_this_when f_this_isHeard f_this_goneBy f_this_stand f_this_many f_this_standing x1 x2 = some u → J X 0 0 (w_X12_taps G q_this q_this_book q_this_s q_this_place q_this_sort q_this_minute q_this_when q_this_isHeard q_this_goneBy q_this_stand v_this_text v_this_length v_this_draft v_this_kept v_this_keptMany v_this_acts v_this_actMany v_this_row v_this_rowMany v_this_tells v_this_tellMany v_this_at v_this_told f_this_book f_this_s f_this_place f_this_sort f_this_minute f_this_when f_this_isHeard f_this_goneBy f_this_stand f_this_many f_this_standing) 56 [(0, .ref q_this), (1, .int x1), (2, .int x2)] [] := by
    intro f_this_place f_this_sort f_this_minute f_this_when f_this_isHeard f_this_goneBy f_this_stand f_this_many f_this_standing x1 x2 hg
    unfold g_X12_taps_b56 at hg
    refine j_aload_n hX 0 dX12_taps_56 rfl rfl ?_
    refine j_iload_n hX 1 dX12_taps_57 rfl rfl ?_
    refine j_aload_n hX 0 dX12_taps_58 rfl rfl ?_
    refine j_get hX 0 4 rfl rfl hinX12 rfl hf_X12_s_19 rfl dX12_taps_59 ?_
    refine j_iconst hX dX12_taps_62 kc_1 ?_
    refine j_iald hX 2 rfl hg dX12_taps_63 (fun hg => ?_)
    refine j_iload_n hX 2 dX12_taps_64 rfl rfl ?_
    refine j_if_le hX 74 hg dX12_taps_65 (by decide) (fun hg => ?_) (fun hg => ?_)
    · refine j_iconst hX dX12_taps_74 kc_0 ?_
      refine j_lv [] rfl ?_
      exact B75 _ _ _ _ _ _ _ _ _ _ _ _ hg
    · refine j_iload_n hX 2 dX12_taps_68 rfl rfl ?_
      refine j_iconst hX dX12_taps_69 kc_1 ?_
      refine j_isub hX dX12_taps_70 ?_
      refine j_goto hX 75 dX12_taps_71 (by decide) ?_
      refine j_lv [] rfl ?_
      exact B75 _ _ _ _ _ _ _ _ _ _ _ _ hg
  have L10 : ∀ (fu10 : Nat), ∀ (f_this_place : (Nat → Int32)) (f_this_sort : (Nat → Int32)) (f_this_minute : (Nat → Int32)) (f_this_when : (Nat → Int32)) (f_this_isHeard : (Nat → Int32)) (f_this_goneBy : (Nat → Int32)) (f_this_stand : (Nat → Int32)) (f_this_many : Int32) (f_this_standing : Int32) (x1 : Int32) (x2 : Int32) (x4 : Int32) (x5 : Int32), g_X12_taps_L10 N f_this_book f_this_s (g_X12_taps_b56 N f_this_book f_this_s) fu10 f_this_place f_this_sort f_this_minute f_this_when f_this_isHeard f_this_goneBy f_this_stand f_this_many f_this_standing x1 x2 x4 x5 = some u → J X 0 0 (w_X12_taps G q_this q_this_book q_this_s q_this_place q_this_sort q_this_minute q_this_when q_this_isHeard q_this_goneBy q_this_stand v_this_text v_this_length v_this_draft v_this_kept v_this_keptMany v_this_acts v_this_actMany v_this_row v_this_rowMany v_this_tells v_this_tellMany v_this_at v_this_told f_this_book f_this_s f_this_place f_this_sort f_this_minute f_this_when f_this_isHeard f_this_goneBy f_this_stand f_this_many f_this_standing) 10 [(0, .ref q_this), (1, .int x1), (2, .int x2), (4, .int x4), (5, .int x5)] [] := by
    intro fu10
    induction fu10 with
    | zero => intro f_this_place f_this_sort f_this_minute f_this_when f_this_isHeard f_this_goneBy f_this_stand f_this_many f_this_standing x1 x2 x4 x5 hg; exact nomatch hg
    | succ fu10 ih10 =>
      intro f_this_place f_this_sort f_this_minute f_this_when f_this_isHeard f_this_goneBy f_this_stand f_this_many f_this_standing x1 x2 x4 x5 hg
      unfold g_X12_taps_L10 at hg
      refine j_iload hX 4 dX12_taps_10 rfl ?_
      refine j_iload_n hX 2 dX12_taps_12 rfl rfl ?_
      refine j_icmp_ge hX 56 hg dX12_taps_13 (by decide) (fun hg => ?_) (fun hg => ?_)
      · refine j_lv [0, 1, 2] rfl ?_
        exact B56 _ _ _ _ _ _ _ _ _ _ _ hg
      · refine j_aload_n hX 0 dX12_taps_16 rfl rfl ?_
        refine j_iload_n hX 1 dX12_taps_17 rfl rfl ?_
        refine j_iload hX 3 dX12_taps_18 rfl ?_
        refine j_aload_n hX 0 dX12_taps_20 rfl rfl ?_
        refine j_get hX 0 2 rfl rfl hinX12 rfl hf_X12_book_13 rfl dX12_taps_21 ?_
        refine j_iconst hX dX12_taps_24 kc_3 ?_
        refine j_iald hX 1 rfl hg dX12_taps_25 (fun hg => ?_)
        refine j_irem hX hg dX12_taps_26 (fun hg => ?_)
        refine j_aload_n hX 0 dX12_taps_27 rfl rfl ?_
        refine j_get hX 0 4 rfl rfl hinX12 rfl hf_X12_s_19 rfl dX12_taps_28 ?_
        refine j_iconst hX dX12_taps_31 kc_1 ?_
        refine j_iald hX 2 rfl hg dX12_taps_32 (fun hg => ?_)
        refine j_iload hX 4 dX12_taps_33 rfl ?_
        refine j_iadd hX dX12_taps_35 ?_
        refine j_vRV hX hW (w1 := fun v => (w_X12_tries G q_this q_this_place q_this_sort q_this_minute v_this_text v_this_length (.ref q_this_book) v_this_draft (.ref q_this_s) v_this_kept v_this_keptMany v_this_acts v_this_actMany v_this_row v_this_rowMany v_this_tells v_this_tellMany v_this_at v_this_told (.ref q_this_when) (.ref q_this_isHeard) (.ref q_this_goneBy) (.ref q_this_stand) (.int f_this_standing) v.1 v.2.1 v.2.2.1 v.2.2.2)) (ws' := fun v => (w_X12_taps G q_this q_this_book q_this_s q_this_place q_this_sort q_this_minute q_this_when q_this_isHeard q_this_goneBy q_this_stand v_this_text v_this_length v_this_draft v_this_kept v_this_keptMany v_this_acts v_this_actMany v_this_row v_this_rowMany v_this_tells v_this_tellMany v_this_at v_this_told f_this_book f_this_s v.1 v.2.1 v.2.2.1 f_this_when f_this_isHeard f_this_goneBy f_this_stand v.2.2.2 f_this_standing)) [.int x1, .int (x4 - x4 / (f_this_book (3 : Int32).toNatClampNeg) * (f_this_book (3 : Int32).toNatClampNeg)), .int ((f_this_s (1 : Int32).toNatClampNeg) + x5)] hg (fun v hv => c_X12_tries l G N q_this q_this_place q_this_sort q_this_minute v_this_text v_this_length (.ref q_this_book) v_this_draft (.ref q_this_s) v_this_kept v_this_keptMany v_this_acts v_this_actMany v_this_row v_this_rowMany v_this_tells v_this_tellMany v_this_at v_this_told (.ref q_this_when) (.ref q_this_isHeard) (.ref q_this_goneBy) (.ref q_this_stand) (.int f_this_standing) f_this_place f_this_sort f_this_minute f_this_many x1 (x4 - x4 / (f_this_book (3 : Int32).toNatClampNeg) * (f_this_book (3 : Int32).toNatClampNeg)) ((f_this_s (1 : Int32).toNatClampNeg) + x5) v hv) gX12_taps_X12_tries rfl ⟨rfl, rfl⟩ ⟨rfl, by decide, by decide, rfl⟩ rfl rfl [0, 3, 4, 5] rfl (by decide +kernel) rfl rfl dX12_taps_36 rfl rfl ⟨Nat.zero_le _, Nat.zero_le _⟩ (fun _ => jn_set [0, 3, 4, 5] rfl rfl rfl) (fun v36 hg => ?_)
        refine j_iload hX 3 dX12_taps_39 rfl ?_
        refine j_aload_n hX 0 dX12_taps_41 rfl rfl ?_
        refine j_get hX 0 2 rfl rfl hinX12 rfl hf_X12_book_13 rfl dX12_taps_42 ?_
        refine j_iconst hX dX12_taps_45 kc_3 ?_
        refine j_iald hX 1 rfl hg dX12_taps_46 (fun hg => ?_)
        refine j_idiv hX hg dX12_taps_47 (fun hg => ?_)
        refine j_istore hX (lv' := [(4, .int (x4 / (f_this_book (3 : Int32).toNatClampNeg))), (0, .ref q_this), (1, .int x1), (2, .int x2), (5, .int x5)]) dX12_taps_48 rfl rfl ?_
        refine j_iinc hX 4 (v := x5 + 1) (lv' := [(5, .int (x5 + 1)), (4, .int (x4 / (f_this_book (3 : Int32).toNatClampNeg))), (0, .ref q_this), (1, .int x1), (2, .int x2)]) dX12_taps_50 rfl (by rw [kc_1]) rfl rfl ?_
        refine j_goto hX 10 dX12_taps_53 (by decide) ?_
        refine j_lv [2, 3, 4, 1, 0] rfl ?_
        exact ih10 _ _ _ _ _ _ _ _ _ _ _ _ _ hg
  have hg := hu
  unfold g_X12_taps at hg
  refine j_aload_n hX 0 dX12_taps_0 rfl rfl ?_
  refine j_vRV hX hW (w1 := fun v => (w_X12_starts G q_this q_this_s q_this_place q_this_sort q_this_minute v_this_text v_this_length (.ref q_this_book) v_this_draft v_this_kept v_this_keptMany v_this_acts v_this_actMany v_this_row v_this_rowMany v_this_tells v_this_tellMany v_this_at v_this_told (.ref q_this_when) (.ref q_this_isHeard) (.ref q_this_goneBy) (.ref q_this_stand) (.int f_this_standing) f_this_s v.1 v.2.1 v.2.2.1 v.2.2.2)) (ws' := fun v => (w_X12_taps G q_this q_this_book q_this_s q_this_place q_this_sort q_this_minute q_this_when q_this_isHeard q_this_goneBy q_this_stand v_this_text v_this_length v_this_draft v_this_kept v_this_keptMany v_this_acts v_this_actMany v_this_row v_this_rowMany v_this_tells v_this_tellMany v_this_at v_this_told f_this_book f_this_s v.1 v.2.1 v.2.2.1 f_this_when f_this_isHeard f_this_goneBy f_this_stand v.2.2.2 f_this_standing)) [] hg (fun v hv => c_X12_starts l G N q_this q_this_s q_this_place q_this_sort q_this_minute v_this_text v_this_length (.ref q_this_book) v_this_draft v_this_kept v_this_keptMany v_this_acts v_this_actMany v_this_row v_this_rowMany v_this_tells v_this_tellMany v_this_at v_this_told (.ref q_this_when) (.ref q_this_isHeard) (.ref q_this_goneBy) (.ref q_this_stand) (.int f_this_standing) f_this_s f_this_place f_this_sort f_this_minute f_this_many v hv) gX12_taps_X12_starts rfl ⟨rfl, rfl⟩ ⟨rfl, by decide, by decide, rfl⟩ rfl rfl [0, 2, 3, 4, 5] rfl (by decide +kernel) rfl rfl dX12_taps_1 rfl rfl ⟨Nat.zero_le _, Nat.zero_le _⟩ (fun _ => jn_set [0, 2, 3, 4, 5] rfl rfl rfl) (fun v1 hg => ?_)
  refine j_iload_n hX 3 dX12_taps_4 rfl rfl ?_
  refine j_istore hX (lv' := [(4, .int x3), (0, .ref q_this), (1, .int x1), (2, .int x2), (3, .int x3)]) dX12_taps_5 rfl rfl ?_
  refine j_iconst hX dX12_taps_7 kc_0 ?_
  refine j_istore hX (lv' := [(5, .int 0), (4, .int x3), (0, .ref q_this), (1, .int x1), (2, .int x2), (3, .int x3)]) dX12_taps_8 rfl rfl ?_
  refine j_lv [2, 3, 4, 1, 0] rfl ?_
  exact L10 N _ _ _ _ _ _ _ _ _ _ _ _ _ hg
abbrev w_X12_codes (G : jG) (q_this : Nat) (q_this_book : Nat) (v_this_text : Value) (v_this_length : Value) (v_this_draft : Value) (v_this_s : Value) (v_this_kept : Value) (v_this_keptMany : Value) (v_this_acts : Value) (v_this_actMany : Value) (v_this_row : Value) (v_this_rowMany : Value) (v_this_tells : Value) (v_this_tellMany : Value) (v_this_at : Value) (v_this_told : Value) (v_this_place : Value) (v_this_sort : Value) (v_this_minute : Value) (v_this_when : Value) (v_this_isHeard : Value) (v_this_goneBy : Value) (v_this_stand : Value) (v_this_many : Value) (v_this_standing : Value) (f_this_book : (Nat → Int32)) : va_W := [oC q_this 12 [v_this_text, v_this_length, .ref q_this_book, v_this_draft, v_this_s, v_this_kept, v_this_keptMany, v_this_acts, v_this_actMany, v_this_row, v_this_rowMany, v_this_tells, v_this_tellMany, v_this_at, v_this_told, v_this_place, v_this_sort, v_this_minute, v_this_when, v_this_isHeard, v_this_goneBy, v_this_stand, v_this_many, v_this_standing], aI G q_this_book 78 f_this_book]
def g_X12_codes_L4 (N : Nat) (f_this_book : (Nat → Int32)) : Nat → Int32 → Int32 → Int32 → Option (Int32)
  | 0, _, _, _ => none
  | fu + 1, x1, x2, x3 => if x1 ≤ x3 then some x2 else gi 3 78 (g_X12_codes_L4 N f_this_book fu x1 (x2 * (f_this_book (3 : Int32).toNatClampNeg)) (x3 + 1))
def g_X12_codes (N : Nat) (f_this_book : (Nat → Int32)) (x1 : Int32) : Option (Int32) := g_X12_codes_L4 N f_this_book N x1 1 0
set_option maxHeartbeats 4000000 in
set_option maxRecDepth 100000 in
theorem c_X12_codes (l : Launch) (G : jG) (N : Nat) (q_this : Nat) (q_this_book : Nat) (v_this_text : Value) (v_this_length : Value) (v_this_draft : Value) (v_this_s : Value) (v_this_kept : Value) (v_this_keptMany : Value) (v_this_acts : Value) (v_this_actMany : Value) (v_this_row : Value) (v_this_rowMany : Value) (v_this_tells : Value) (v_this_tellMany : Value) (v_this_at : Value) (v_this_told : Value) (v_this_place : Value) (v_this_sort : Value) (v_this_minute : Value) (v_this_when : Value) (v_this_isHeard : Value) (v_this_goneBy : Value) (v_this_stand : Value) (v_this_many : Value) (v_this_standing : Value) (f_this_book : (Nat → Int32)) (x1 : Int32) (u : Int32) (hu : g_X12_codes N f_this_book x1 = some u) : MetRO l G yX12_codes wsX12_codes ({ frames := 0, cells := 0, slots := 0, locals := 0 } : Room) [.ref q_this, .int x1] (w_X12_codes G q_this q_this_book v_this_text v_this_length v_this_draft v_this_s v_this_kept v_this_keptMany v_this_acts v_this_actMany v_this_row v_this_rowMany v_this_tells v_this_tellMany v_this_at v_this_told v_this_place v_this_sort v_this_minute v_this_when v_this_isHeard v_this_goneBy v_this_stand v_this_many v_this_standing f_this_book) u := by
  refine met_roi (cc := cX12_codes) (maxL := 4) (lv0 := [(0, .ref q_this), (1, .int x1)]) (by decide) rfl rfl rfl rfl (fun X hX hret => ?_)
  have hinX12 : ∀ w ∈ u_ws RX12 TX12 24, w ∈ wsX12_codes := by decide +kernel
  have hf_X12_book_13 : Cond.fieldLink RX12 13 (TX12 2).1 (TX12 2).2.1 (TX12 2).2.2.1 ∈ wsX12_codes := by decide +kernel
  have L4 : ∀ (fu4 : Nat), ∀ (x1 : Int32) (x2 : Int32) (x3 : Int32), g_X12_codes_L4 N f_this_book fu4 x1 x2 x3 = some u → J X 0 0 (w_X12_codes G q_this q_this_book v_this_text v_this_length v_this_draft v_this_s v_this_kept v_this_keptMany v_this_acts v_this_actMany v_this_row v_this_rowMany v_this_tells v_this_tellMany v_this_at v_this_told v_this_place v_this_sort v_this_minute v_this_when v_this_isHeard v_this_goneBy v_this_stand v_this_many v_this_standing f_this_book) 4 [(0, .ref q_this), (1, .int x1), (2, .int x2), (3, .int x3)] [] := by
    intro fu4
    induction fu4 with
    | zero => intro x1 x2 x3 hg; exact nomatch hg
    | succ fu4 ih4 =>
      intro x1 x2 x3 hg
      unfold g_X12_codes_L4 at hg
      refine j_iload_n hX 3 dX12_codes_4 rfl rfl ?_
      refine j_iload_n hX 1 dX12_codes_5 rfl rfl ?_
      refine j_icmp_ge hX 24 hg dX12_codes_6 (by decide) (fun hg => ?_) (fun hg => ?_)
      · refine j_iload_n hX 2 dX12_codes_24 rfl rfl ?_
        cases hg
        exact hret _ _ dX12_codes_25
      · refine j_iload_n hX 2 dX12_codes_9 rfl rfl ?_
        refine j_aload_n hX 0 dX12_codes_10 rfl rfl ?_
        refine j_get hX 0 2 rfl rfl hinX12 rfl hf_X12_book_13 rfl dX12_codes_11 ?_
        refine j_iconst hX dX12_codes_14 kc_3 ?_
        refine j_iald hX 1 rfl hg dX12_codes_15 (fun hg => ?_)
        refine j_imul hX dX12_codes_16 ?_
        refine j_istore_n hX (lv' := [(2, .int (x2 * (f_this_book (3 : Int32).toNatClampNeg))), (0, .ref q_this), (1, .int x1), (3, .int x3)]) dX12_codes_17 rfl rfl rfl ?_
        refine j_iinc hX 3 (v := x3 + 1) (lv' := [(3, .int (x3 + 1)), (2, .int (x2 * (f_this_book (3 : Int32).toNatClampNeg))), (0, .ref q_this), (1, .int x1)]) dX12_codes_18 rfl (by rw [kc_1]) rfl rfl ?_
        refine j_goto hX 4 dX12_codes_21 (by decide) ?_
        refine j_lv [2, 3, 1, 0] rfl ?_
        exact ih4 _ _ _ hg
  have hg := hu
  unfold g_X12_codes at hg
  refine j_iconst hX dX12_codes_0 kc_1 ?_
  refine j_istore_n hX (lv' := [(2, .int 1), (0, .ref q_this), (1, .int x1)]) dX12_codes_1 rfl rfl rfl ?_
  refine j_iconst hX dX12_codes_2 kc_0 ?_
  refine j_istore_n hX (lv' := [(3, .int 0), (2, .int 1), (0, .ref q_this), (1, .int x1)]) dX12_codes_3 rfl rfl rfl ?_
  refine j_lv [2, 3, 1, 0] rfl ?_
  exact L4 N _ _ _ hg
abbrev w_X12_mends (G : jG) (q_this : Nat) (q_this_book : Nat) (q_this_s : Nat) (q_this_row : Nat) (q_this_place : Nat) (q_this_sort : Nat) (q_this_minute : Nat) (q_this_when : Nat) (q_this_isHeard : Nat) (q_this_goneBy : Nat) (q_this_stand : Nat) (v_this_text : Value) (v_this_length : Value) (v_this_draft : Value) (v_this_kept : Value) (v_this_keptMany : Value) (v_this_acts : Value) (v_this_actMany : Value) (v_this_tells : Value) (v_this_tellMany : Value) (v_this_at : Value) (v_this_told : Value) (f_this_book : (Nat → Int32)) (f_this_s : (Nat → Int32)) (f_this_row : (Nat → Int32)) (f_this_rowMany : Int32) (f_this_place : (Nat → Int32)) (f_this_sort : (Nat → Int32)) (f_this_minute : (Nat → Int32)) (f_this_when : (Nat → Int32)) (f_this_isHeard : (Nat → Int32)) (f_this_goneBy : (Nat → Int32)) (f_this_stand : (Nat → Int32)) (f_this_many : Int32) (f_this_standing : Int32) : va_W := [oC q_this 12 [v_this_text, v_this_length, .ref q_this_book, v_this_draft, .ref q_this_s, v_this_kept, v_this_keptMany, v_this_acts, v_this_actMany, .ref q_this_row, .int f_this_rowMany, v_this_tells, v_this_tellMany, v_this_at, v_this_told, .ref q_this_place, .ref q_this_sort, .ref q_this_minute, .ref q_this_when, .ref q_this_isHeard, .ref q_this_goneBy, .ref q_this_stand, .int f_this_many, .int f_this_standing], aI G q_this_book 78 f_this_book, aI G q_this_s 74 f_this_s, aI G q_this_row 8 f_this_row, aI G q_this_place 128 f_this_place, aI G q_this_sort 128 f_this_sort, aI G q_this_minute 128 f_this_minute, aI G q_this_when 128 f_this_when, aZ G q_this_isHeard 128 f_this_isHeard, aI G q_this_goneBy 128 f_this_goneBy, aI G q_this_stand 128 f_this_stand]
def g_X12_mends_b50 (N : Nat) (f_this_book : (Nat → Int32)) (f_this_s : (Nat → Int32)) (f_this_row : (Nat → Int32)) (f_this_rowMany : Int32) (rec_12 : (Nat → Int32) → (Nat → Int32) → (Nat → Int32) → (Nat → Int32) → (Nat → Int32) → (Nat → Int32) → (Nat → Int32) → Int32 → Int32 → Int32 → Int32 → Option (Int32 × (Nat → Int32) × (Nat → Int32) × (Nat → Int32) × (Nat → Int32) × (Nat → Int32) × (Nat → Int32) × (Nat → Int32) × Int32 × Int32)) (f_this_place : (Nat → Int32)) (f_this_sort : (Nat → Int32)) (f_this_minute : (Nat → Int32)) (f_this_when : (Nat → Int32)) (f_this_isHeard : (Nat → Int32)) (f_this_goneBy : (Nat → Int32)) (f_this_stand : (Nat → Int32)) (f_this_many : Int32) (f_this_standing : Int32) (x1 : Int32) (x2 : Int32) : Option (Int32 × (Nat → Int32) × (Nat → Int32) × (Nat → Int32) × (Nat → Int32) × (Nat → Int32) × (Nat → Int32) × (Nat → Int32) × Int32 × Int32) := rec_12 f_this_place f_this_sort f_this_minute f_this_when f_this_isHeard f_this_goneBy f_this_stand f_this_many f_this_standing x1 (x2 + 1)
def g_X12_mends_L19 (N : Nat) (f_this_book : (Nat → Int32)) (f_this_s : (Nat → Int32)) (f_this_row : (Nat → Int32)) (f_this_rowMany : Int32) (k_50 : (Nat → Int32) → (Nat → Int32) → (Nat → Int32) → (Nat → Int32) → (Nat → Int32) → (Nat → Int32) → (Nat → Int32) → Int32 → Int32 → Int32 → Int32 → Option (Int32 × (Nat → Int32) × (Nat → Int32) × (Nat → Int32) × (Nat → Int32) × (Nat → Int32) × (Nat → Int32) × (Nat → Int32) × Int32 × Int32)) : Nat → (Nat → Int32) → (Nat → Int32) → (Nat → Int32) → (Nat → Int32) → (Nat → Int32) → (Nat → Int32) → (Nat → Int32) → Int32 → Int32 → Int32 → Int32 → Int32 → Option (Int32 × (Nat → Int32) × (Nat → Int32) × (Nat → Int32) × (Nat → Int32) × (Nat → Int32) × (Nat → Int32) × (Nat → Int32) × Int32 × Int32)
  | 0, _, _, _, _, _, _, _, _, _, _, _, _ => none
  | fu + 1, f_this_place, f_this_sort, f_this_minute, f_this_when, f_this_isHeard, f_this_goneBy, f_this_stand, f_this_many, f_this_standing, x1, x2, x3 => (g_X12_codes N f_this_book x2).bind fun v22 => if v22 ≤ x3 then k_50 f_this_place f_this_sort f_this_minute f_this_when f_this_isHeard f_this_goneBy f_this_stand f_this_many f_this_standing x1 x2 else (g_X12_taps N f_this_book f_this_s f_this_place f_this_sort f_this_minute f_this_when f_this_isHeard f_this_goneBy f_this_stand f_this_many f_this_standing x1 x2 x3).bind fun v32 => (g_X12_isRow N f_this_row f_this_rowMany v32.2.1 v32.2.2.2.2.2.2.1 v32.2.2.2.2.2.2.2.2).bind fun v36 => if v36 = 0 then g_X12_mends_L19 N f_this_book f_this_s f_this_row f_this_rowMany k_50 fu v32.1 v32.2.1 v32.2.2.1 v32.2.2.2.1 v32.2.2.2.2.1 v32.2.2.2.2.2.1 v32.2.2.2.2.2.2.1 v32.2.2.2.2.2.2.2.1 v32.2.2.2.2.2.2.2.2 x1 x2 (x3 + 1) else some (x2, v32.1, v32.2.1, v32.2.2.1, v32.2.2.2.1, v32.2.2.2.2.1, v32.2.2.2.2.2.1, v32.2.2.2.2.2.2.1, v32.2.2.2.2.2.2.2.1, v32.2.2.2.2.2.2.2.2)
def g_X12_mends_L12 (N : Nat) (f_this_book : (Nat → Int32)) (f_this_s : (Nat → Int32)) (f_this_row : (Nat → Int32)) (f_this_rowMany : Int32) : Nat → (Nat → Int32) → (Nat → Int32) → (Nat → Int32) → (Nat → Int32) → (Nat → Int32) → (Nat → Int32) → (Nat → Int32) → Int32 → Int32 → Int32 → Int32 → Option (Int32 × (Nat → Int32) × (Nat → Int32) × (Nat → Int32) × (Nat → Int32) × (Nat → Int32) × (Nat → Int32) × (Nat → Int32) × Int32 × Int32)
  | 0, _, _, _, _, _, _, _, _, _, _, _ => none
  | fu + 1, f_this_place, f_this_sort, f_this_minute, f_this_when, f_this_isHeard, f_this_goneBy, f_this_stand, f_this_many, f_this_standing, x1, x2 => if (5 : Int32) ≤ x2 then some ((-4), f_this_place, f_this_sort, f_this_minute, f_this_when, f_this_isHeard, f_this_goneBy, f_this_stand, f_this_many, f_this_standing) else g_X12_mends_L19 N f_this_book f_this_s f_this_row f_this_rowMany (g_X12_mends_b50 N f_this_book f_this_s f_this_row f_this_rowMany (g_X12_mends_L12 N f_this_book f_this_s f_this_row f_this_rowMany fu)) N f_this_place f_this_sort f_this_minute f_this_when f_this_isHeard f_this_goneBy f_this_stand f_this_many f_this_standing x1 x2 0
def g_X12_mends (N : Nat) (f_this_book : (Nat → Int32)) (f_this_s : (Nat → Int32)) (f_this_row : (Nat → Int32)) (f_this_rowMany : Int32) (f_this_place : (Nat → Int32)) (f_this_sort : (Nat → Int32)) (f_this_minute : (Nat → Int32)) (f_this_when : (Nat → Int32)) (f_this_isHeard : (Nat → Int32)) (f_this_goneBy : (Nat → Int32)) (f_this_stand : (Nat → Int32)) (f_this_many : Int32) (f_this_standing : Int32) (x1 : Int32) : Option (Int32 × (Nat → Int32) × (Nat → Int32) × (Nat → Int32) × (Nat → Int32) × (Nat → Int32) × (Nat → Int32) × (Nat → Int32) × Int32 × Int32) := (g_X12_isPlace N f_this_book x1).bind fun v2 => if v2 = 0 then some ((-1), f_this_place, f_this_sort, f_this_minute, f_this_when, f_this_isHeard, f_this_goneBy, f_this_stand, f_this_many, f_this_standing) else g_X12_mends_L12 N f_this_book f_this_s f_this_row f_this_rowMany N f_this_place f_this_sort f_this_minute f_this_when f_this_isHeard f_this_goneBy f_this_stand f_this_many f_this_standing x1 0
set_option maxRecDepth 100000 in
theorem ax_X12_mends_32 (c0 c1 c2 c3 c4 c5 c6 c7 c8 c9 c10 d0 d1 d2 d3 d4 d5 d6 d7 d8 d9 : Nat × va_E) : [0, 1, 2, 4, 5, 6, 7, 8, 9, 10].map (fun i => ([c0, c1, c2, c3, c4, c5, c6, c7, c8, c9, c10] : va_W)[i]?) = List.map some ([c0, c1, c2, c4, c5, c6, c7, c8, c9, c10] : va_W) ∧ ([d0, d1, d2, c3, d3, d4, d5, d6, d7, d8, d9] : va_W).length = 11 ∧ [0, 1, 2, 4, 5, 6, 7, 8, 9, 10].map (fun i => ([d0, d1, d2, c3, d3, d4, d5, d6, d7, d8, d9] : va_W)[i]?) = List.map some ([d0, d1, d2, d3, d4, d5, d6, d7, d8, d9] : va_W) ∧ ([3] : List Nat).map (fun i => ([d0, d1, d2, c3, d3, d4, d5, d6, d7, d8, d9] : va_W)[i]?) = ([3] : List Nat).map (fun i => ([c0, c1, c2, c3, c4, c5, c6, c7, c8, c9, c10] : va_W)[i]?) := ⟨rfl, rfl, rfl, rfl⟩
set_option maxRecDepth 100000 in
theorem ax_X12_mends_32c (c0 c1 c2 c3 c4 c5 c6 c7 c8 c9 c10 : Nat × va_E) : [0, 1, 2, 4, 5, 6, 7, 8, 9, 10].map (fun i => ([c0, c1, c2, c3, c4, c5, c6, c7, c8, c9, c10] : va_W)[i]?) = List.map some ([c0, c1, c2, c4, c5, c6, c7, c8, c9, c10] : va_W) := rfl
set_option maxHeartbeats 4000000 in
set_option maxRecDepth 100000 in
theorem c_X12_mends (l : Launch) (G : jG) (N : Nat) (q_this : Nat) (q_this_book : Nat) (q_this_s : Nat) (q_this_row : Nat) (q_this_place : Nat) (q_this_sort : Nat) (q_this_minute : Nat) (q_this_when : Nat) (q_this_isHeard : Nat) (q_this_goneBy : Nat) (q_this_stand : Nat) (v_this_text : Value) (v_this_length : Value) (v_this_draft : Value) (v_this_kept : Value) (v_this_keptMany : Value) (v_this_acts : Value) (v_this_actMany : Value) (v_this_tells : Value) (v_this_tellMany : Value) (v_this_at : Value) (v_this_told : Value) (f_this_book : (Nat → Int32)) (f_this_s : (Nat → Int32)) (f_this_row : (Nat → Int32)) (f_this_rowMany : Int32) (f_this_place : (Nat → Int32)) (f_this_sort : (Nat → Int32)) (f_this_minute : (Nat → Int32)) (f_this_when : (Nat → Int32)) (f_this_isHeard : (Nat → Int32)) (f_this_goneBy : (Nat → Int32)) (f_this_stand : (Nat → Int32)) (f_this_many : Int32) (f_this_standing : Int32) (x1 : Int32) (u : Int32 × (Nat → Int32) × (Nat → Int32) × (Nat → Int32) × (Nat → Int32) × (Nat → Int32) × (Nat → Int32) × (Nat → Int32) × Int32 × Int32) (hu : g_X12_mends N f_this_book f_this_s f_this_row f_this_rowMany f_this_place f_this_sort f_this_minute f_this_when f_this_isHeard f_this_goneBy f_this_stand f_this_many f_this_standing x1 = some u) : MetRW l G yX12_mends wsX12_mends ({ frames := 4, cells := 0, slots := 0, locals := 97 } : Room) [.ref q_this, .int x1] (w_X12_mends G q_this q_this_book q_this_s q_this_row q_this_place q_this_sort q_this_minute q_this_when q_this_isHeard q_this_goneBy q_this_stand v_this_text v_this_length v_this_draft v_this_kept v_this_keptMany v_this_acts v_this_actMany v_this_tells v_this_tellMany v_this_at v_this_told f_this_book f_this_s f_this_row f_this_rowMany f_this_place f_this_sort f_this_minute f_this_when f_this_isHeard f_this_goneBy f_this_stand f_this_many f_this_standing) (w_X12_mends G q_this q_this_book q_this_s q_this_row q_this_place q_this_sort q_this_minute q_this_when q_this_isHeard q_this_goneBy q_this_stand v_this_text v_this_length v_this_draft v_this_kept v_this_keptMany v_this_acts v_this_actMany v_this_tells v_this_tellMany v_this_at v_this_told f_this_book f_this_s f_this_row f_this_rowMany u.2.1 u.2.2.1 u.2.2.2.1 u.2.2.2.2.1 u.2.2.2.2.2.1 u.2.2.2.2.2.2.1 u.2.2.2.2.2.2.2.1 u.2.2.2.2.2.2.2.2.1 u.2.2.2.2.2.2.2.2.2) u.1 := by
  refine met_rwi (cc := cX12_mends) (maxL := 4) (lv0 := [(0, .ref q_this), (1, .int x1)]) (by decide) rfl rfl rfl rfl (fun X hX hW hret => ?_)
  have L12 : ∀ (fu12 : Nat), ∀ (f_this_place : (Nat → Int32)) (f_this_sort : (Nat → Int32)) (f_this_minute : (Nat → Int32)) (f_this_when : (Nat → Int32)) (f_this_isHeard : (Nat → Int32)) (f_this_goneBy : (Nat → Int32)) (f_this_stand : (Nat → Int32)) (f_this_many : Int32) (f_this_standing : Int32) (x1 : Int32) (x2 : Int32), g_X12_mends_L12 N f_this_book f_this_s f_this_row f_this_rowMany fu12 f_this_place f_this_sort f_this_minute f_this_when f_this_isHeard f_this_goneBy f_this_stand f_this_many f_this_standing x1 x2 = some u → J X 0 0 (w_X12_mends G q_this q_this_book q_this_s q_this_row q_this_place q_this_sort q_this_minute q_this_when q_this_isHeard q_this_goneBy q_this_stand v_this_text v_this_length v_this_draft v_this_kept v_this_keptMany v_this_acts v_this_actMany v_this_tells v_this_tellMany v_this_at v_this_told f_this_book f_this_s f_this_row f_this_rowMany f_this_place f_this_sort f_this_minute f_this_when f_this_isHeard f_this_goneBy f_this_stand f_this_many f_this_standing) 12 [(0, .ref q_this), (1, .int x1), (2, .int x2)] [] := by
    intro fu12
    induction fu12 with
    | zero => intro f_this_place f_this_sort f_this_minute f_this_when f_this_isHeard f_this_goneBy f_this_stand f_this_many f_this_standing x1 x2 hg; exact nomatch hg
    | succ fu12 ih12 =>
      have B50 : ∀ (f_this_place : (Nat → Int32)) (f_this_sort : (Nat → Int32)) (f_this_minute : (Nat → Int32)) (f_this_when : (Nat → Int32)) (f_this_isHeard : (Nat → Int32)) (f_this_goneBy : (Nat → Int32)) (f_this_stand : (Nat → Int32)) (f_this_many : Int32) (f_this_standing : Int32) (x1 : Int32) (x2 : Int32), g_X12_mends_b50 N f_this_book f_this_s f_this_row f_this_rowMany (g_X12_mends_L12 N f_this_book f_this_s f_this_row f_this_rowMany fu12) f_this_place f_this_sort f_this_minute f_this_when f_this_isHeard f_this_goneBy f_this_stand f_this_many f_this_standing x1 x2 = some u → J X 0 0 (w_X12_mends G q_this q_this_book q_this_s q_this_row q_this_place q_this_sort q_this_minute q_this_when q_this_isHeard q_this_goneBy q_this_stand v_this_text v_this_length v_this_draft v_this_kept v_this_keptMany v_this_acts v_this_actMany v_this_tells v_this_tellMany v_this_at v_this_told f_this_book f_this_s f_this_row f_this_rowMany f_this_place f_this_sort f_this_minute f_this_when f_this_isHeard f_this_goneBy f_this_stand f_this_many f_this_standing) 50 [(0, .ref q_this), (1, .int x1), (2, .int x2)] [] := by
        intro f_this_place f_this_sort f_this_minute f_this_when f_this_isHeard f_this_goneBy f_this_stand f_this_many f_this_standing x1 x2 hg
        unfold g_X12_mends_b50 at hg
        refine j_iinc hX 2 (v := x2 + 1) (lv' := [(2, .int (x2 + 1)), (0, .ref q_this), (1, .int x1)]) dX12_mends_50 rfl (by rw [kc_1]) rfl rfl ?_
        refine j_goto hX 12 dX12_mends_53 (by decide) ?_
        refine j_lv [1, 2, 0] rfl ?_
        exact ih12 _ _ _ _ _ _ _ _ _ _ _ hg
      have L19 : ∀ (fu19 : Nat), ∀ (f_this_place : (Nat → Int32)) (f_this_sort : (Nat → Int32)) (f_this_minute : (Nat → Int32)) (f_this_when : (Nat → Int32)) (f_this_isHeard : (Nat → Int32)) (f_this_goneBy : (Nat → Int32)) (f_this_stand : (Nat → Int32)) (f_this_many : Int32) (f_this_standing : Int32) (x1 : Int32) (x2 : Int32) (x3 : Int32), g_X12_mends_L19 N f_this_book f_this_s f_this_row f_this_rowMany (g_X12_mends_b50 N f_this_book f_this_s f_this_row f_this_rowMany (g_X12_mends_L12 N f_this_book f_this_s f_this_row f_this_rowMany fu12)) fu19 f_this_place f_this_sort f_this_minute f_this_when f_this_isHeard f_this_goneBy f_this_stand f_this_many f_this_standing x1 x2 x3 = some u → J X 0 0 (w_X12_mends G q_this q_this_book q_this_s q_this_row q_this_place q_this_sort q_this_minute q_this_when q_this_isHeard q_this_goneBy q_this_stand v_this_text v_this_length v_this_draft v_this_kept v_this_keptMany v_this_acts v_this_actMany v_this_tells v_this_tellMany v_this_at v_this_told f_this_book f_this_s f_this_row f_this_rowMany f_this_place f_this_sort f_this_minute f_this_when f_this_isHeard f_this_goneBy f_this_stand f_this_many f_this_standing) 19 [(0, .ref q_this), (1, .int x1), (2, .int x2), (3, .int x3)] [] := by
        intro fu19
        induction fu19 with
        | zero => intro f_this_place f_this_sort f_this_minute f_this_when f_this_isHeard f_this_goneBy f_this_stand f_this_many f_this_standing x1 x2 x3 hg; exact nomatch hg
        | succ fu19 ih19 =>
          intro f_this_place f_this_sort f_this_minute f_this_when f_this_isHeard f_this_goneBy f_this_stand f_this_many f_this_standing x1 x2 x3 hg
          unfold g_X12_mends_L19 at hg
          refine j_iload_n hX 3 dX12_mends_19 rfl rfl ?_
          refine j_aload_n hX 0 dX12_mends_20 rfl rfl ?_
          refine j_iload_n hX 2 dX12_mends_21 rfl rfl ?_
          refine j_vRO hX (r := fun v => v) [.int x2] hg (fun v hv => c_X12_codes l G N q_this q_this_book v_this_text v_this_length v_this_draft (.ref q_this_s) v_this_kept v_this_keptMany v_this_acts v_this_actMany (.ref q_this_row) (.int f_this_rowMany) v_this_tells v_this_tellMany v_this_at v_this_told (.ref q_this_place) (.ref q_this_sort) (.ref q_this_minute) (.ref q_this_when) (.ref q_this_isHeard) (.ref q_this_goneBy) (.ref q_this_stand) (.int f_this_many) (.int f_this_standing) f_this_book x2 v hv) gX12_mends_X12_codes rfl ⟨rfl, rfl⟩ ⟨rfl, by decide, by decide, rfl⟩ rfl rfl [0, 1] rfl rfl rfl dX12_mends_22 rfl rfl ⟨Nat.zero_le _, Nat.zero_le _⟩ (fun v22 hg => ?_)
          refine j_icmp_ge hX 50 hg dX12_mends_25 (by decide) (fun hg => ?_) (fun hg => ?_)
          · refine j_lv [0, 1, 2] rfl ?_
            exact B50 _ _ _ _ _ _ _ _ _ _ _ hg
          · refine j_aload_n hX 0 dX12_mends_28 rfl rfl ?_
            refine j_iload_n hX 1 dX12_mends_29 rfl rfl ?_
            refine j_iload_n hX 2 dX12_mends_30 rfl rfl ?_
            refine j_iload_n hX 3 dX12_mends_31 rfl rfl ?_
            refine j_vRV hX hW (w1 := fun v => (w_X12_taps G q_this q_this_book q_this_s q_this_place q_this_sort q_this_minute q_this_when q_this_isHeard q_this_goneBy q_this_stand v_this_text v_this_length v_this_draft v_this_kept v_this_keptMany v_this_acts v_this_actMany (.ref q_this_row) (.int f_this_rowMany) v_this_tells v_this_tellMany v_this_at v_this_told f_this_book f_this_s v.1 v.2.1 v.2.2.1 v.2.2.2.1 v.2.2.2.2.1 v.2.2.2.2.2.1 v.2.2.2.2.2.2.1 v.2.2.2.2.2.2.2.1 v.2.2.2.2.2.2.2.2)) (ws' := fun v => (w_X12_mends G q_this q_this_book q_this_s q_this_row q_this_place q_this_sort q_this_minute q_this_when q_this_isHeard q_this_goneBy q_this_stand v_this_text v_this_length v_this_draft v_this_kept v_this_keptMany v_this_acts v_this_actMany v_this_tells v_this_tellMany v_this_at v_this_told f_this_book f_this_s f_this_row f_this_rowMany v.1 v.2.1 v.2.2.1 v.2.2.2.1 v.2.2.2.2.1 v.2.2.2.2.2.1 v.2.2.2.2.2.2.1 v.2.2.2.2.2.2.2.1 v.2.2.2.2.2.2.2.2)) [.int x1, .int x2, .int x3] hg (fun v hv => c_X12_taps l G N q_this q_this_book q_this_s q_this_place q_this_sort q_this_minute q_this_when q_this_isHeard q_this_goneBy q_this_stand v_this_text v_this_length v_this_draft v_this_kept v_this_keptMany v_this_acts v_this_actMany (.ref q_this_row) (.int f_this_rowMany) v_this_tells v_this_tellMany v_this_at v_this_told f_this_book f_this_s f_this_place f_this_sort f_this_minute f_this_when f_this_isHeard f_this_goneBy f_this_stand f_this_many f_this_standing x1 x2 x3 v hv) gX12_mends_X12_taps rfl ⟨rfl, rfl⟩ ⟨rfl, by decide, by decide, rfl⟩ rfl rfl [0, 1, 2, 4, 5, 6, 7, 8, 9, 10] (ax_X12_mends_32c _ _ _ _ _ _ _ _ _ _ _) (by decide +kernel) rfl rfl dX12_mends_32 rfl rfl ⟨Nat.zero_le _, Nat.zero_le _⟩ (fun _ => jn_ax [0, 1, 2, 4, 5, 6, 7, 8, 9, 10] ([3] : List Nat) 11 (ax_X12_mends_32 _ _ _ _ _ _ _ _ _ _ _ _ _ _ _ _ _ _ _ _ _) rfl (by decide +kernel)) (fun v32 hg => ?_)
            refine j_aload_n hX 0 dX12_mends_35 rfl rfl ?_
            refine j_vRO hX (r := fun v => v) [] hg (fun v hv => c_X12_isRow l G N q_this q_this_row q_this_sort q_this_stand v_this_text v_this_length (.ref q_this_book) v_this_draft (.ref q_this_s) v_this_kept v_this_keptMany v_this_acts v_this_actMany v_this_tells v_this_tellMany v_this_at v_this_told (.ref q_this_place) (.ref q_this_minute) (.ref q_this_when) (.ref q_this_isHeard) (.ref q_this_goneBy) (.int v32.2.2.2.2.2.2.2.1) f_this_row f_this_rowMany v32.2.1 v32.2.2.2.2.2.2.1 v32.2.2.2.2.2.2.2.2 v hv) gX12_mends_X12_isRow rfl ⟨rfl, rfl⟩ ⟨rfl, by decide, by decide, rfl⟩ rfl rfl [0, 3, 5, 10] rfl rfl rfl dX12_mends_36 rfl rfl ⟨Nat.zero_le _, Nat.zero_le _⟩ (fun v36 hg => ?_)
            refine j_if_eq hX 44 hg dX12_mends_39 (by decide) (fun hg => ?_) (fun hg => ?_)
            · refine j_iinc hX 3 (v := x3 + 1) (lv' := [(3, .int (x3 + 1)), (0, .ref q_this), (1, .int x1), (2, .int x2)]) dX12_mends_44 rfl (by rw [kc_1]) rfl rfl ?_
              refine j_goto hX 19 dX12_mends_47 (by decide) ?_
              refine j_lv [1, 2, 3, 0] rfl ?_
              exact ih19 _ _ _ _ _ _ _ _ _ _ _ _ hg
            · refine j_iload_n hX 2 dX12_mends_42 rfl rfl ?_
              cases hg
              exact hret _ _ dX12_mends_43
      intro f_this_place f_this_sort f_this_minute f_this_when f_this_isHeard f_this_goneBy f_this_stand f_this_many f_this_standing x1 x2 hg
      unfold g_X12_mends_L12 at hg
      refine j_iload_n hX 2 dX12_mends_12 rfl rfl ?_
      refine j_iconst hX dX12_mends_13 kc_5 ?_
      refine j_icmp_ge hX 56 hg dX12_mends_14 (by decide) (fun hg => ?_) (fun hg => ?_)
      · refine j_bipush hX dX12_mends_56 kb_m4 ?_
        cases hg
        exact hret _ _ dX12_mends_58
      · refine j_iconst hX dX12_mends_17 kc_0 ?_
        refine j_istore_n hX (lv' := [(3, .int 0), (0, .ref q_this), (1, .int x1), (2, .int x2)]) dX12_mends_18 rfl rfl rfl ?_
        refine j_lv [1, 2, 3, 0] rfl ?_
        exact L19 N _ _ _ _ _ _ _ _ _ _ _ _ hg
  have hg := hu
  unfold g_X12_mends at hg
  refine j_aload_n hX 0 dX12_mends_0 rfl rfl ?_
  refine j_iload_n hX 1 dX12_mends_1 rfl rfl ?_
  refine j_vRO hX (r := fun v => v) [.int x1] hg (fun v hv => c_X12_isPlace l G N q_this q_this_book v_this_text v_this_length v_this_draft (.ref q_this_s) v_this_kept v_this_keptMany v_this_acts v_this_actMany (.ref q_this_row) (.int f_this_rowMany) v_this_tells v_this_tellMany v_this_at v_this_told (.ref q_this_place) (.ref q_this_sort) (.ref q_this_minute) (.ref q_this_when) (.ref q_this_isHeard) (.ref q_this_goneBy) (.ref q_this_stand) (.int f_this_many) (.int f_this_standing) f_this_book x1 v hv) gX12_mends_X12_isPlace rfl ⟨rfl, rfl⟩ ⟨rfl, by decide, by decide, rfl⟩ rfl rfl [0, 1] rfl rfl rfl dX12_mends_2 rfl rfl ⟨Nat.zero_le _, Nat.zero_le _⟩ (fun v2 hg => ?_)
  refine j_if_ne hX 10 hg dX12_mends_5 (by decide) (fun hg => ?_) (fun hg => ?_)
  · refine j_iconst hX dX12_mends_8 kc_m1 ?_
    cases hg
    exact hret _ _ dX12_mends_9
  · refine j_iconst hX dX12_mends_10 kc_0 ?_
    refine j_istore_n hX (lv' := [(2, .int 0), (0, .ref q_this), (1, .int x1)]) dX12_mends_11 rfl rfl rfl ?_
    refine j_lv [1, 2, 0] rfl ?_
    exact L12 N _ _ _ _ _ _ _ _ _ _ _ hg
abbrev w_X12_lacksOne (G : jG) (q_this : Nat) (q_this_book : Nat) (v_this_text : Value) (v_this_length : Value) (v_this_draft : Value) (v_this_s : Value) (v_this_kept : Value) (v_this_keptMany : Value) (v_this_acts : Value) (v_this_actMany : Value) (v_this_row : Value) (v_this_rowMany : Value) (v_this_tells : Value) (v_this_tellMany : Value) (v_this_at : Value) (v_this_told : Value) (v_this_place : Value) (v_this_sort : Value) (v_this_minute : Value) (v_this_when : Value) (v_this_isHeard : Value) (v_this_goneBy : Value) (v_this_stand : Value) (v_this_many : Value) (v_this_standing : Value) (f_this_book : (Nat → Int32)) : va_W := [oC q_this 12 [v_this_text, v_this_length, .ref q_this_book, v_this_draft, v_this_s, v_this_kept, v_this_keptMany, v_this_acts, v_this_actMany, v_this_row, v_this_rowMany, v_this_tells, v_this_tellMany, v_this_at, v_this_told, v_this_place, v_this_sort, v_this_minute, v_this_when, v_this_isHeard, v_this_goneBy, v_this_stand, v_this_many, v_this_standing], aI G q_this_book 78 f_this_book]
def g_X12_lacksOne_b127 (N : Nat) (f_this_book : (Nat → Int32)) (rec_16 : Int32 → Int32 → Int32 → Int32 → Int32 → Option (Int32)) (x1 : Int32) (x2 : Int32) (x3 : Int32) (x5 : Int32) (s0 : Int32) : Option (Int32) := rec_16 x1 x2 x3 s0 (x5 + 1)
def g_X12_lacksOne_b122 (N : Nat) (f_this_book : (Nat → Int32)) (rec_16 : Int32 → Int32 → Int32 → Int32 → Int32 → Option (Int32)) (x1 : Int32) (x2 : Int32) (x3 : Int32) (x5 : Int32) : Option (Int32) := g_X12_lacksOne_b127 N f_this_book rec_16 x1 x2 x3 x5 1
def g_X12_lacksOne_b112 (N : Nat) (f_this_book : (Nat → Int32)) (rec_16 : Int32 → Int32 → Int32 → Int32 → Int32 → Option (Int32)) (x1 : Int32) (x2 : Int32) (x3 : Int32) (x4 : Int32) (x5 : Int32) (x6 : Int32) : Option (Int32) := if x4 = 0 then if x6 = 0 then g_X12_lacksOne_b127 N f_this_book rec_16 x1 x2 x3 x5 0 else g_X12_lacksOne_b122 N f_this_book rec_16 x1 x2 x3 x5 else g_X12_lacksOne_b122 N f_this_book rec_16 x1 x2 x3 x5
def g_X12_lacksOne_b104 (N : Nat) (f_this_book : (Nat → Int32)) (rec_43 : Int32 → Int32 → Int32 → Int32 → Int32 → Int32 → Int32 → Option (Int32)) (x1 : Int32) (x2 : Int32) (x3 : Int32) (x4 : Int32) (x5 : Int32) (x7 : Int32) (s0 : Int32) : Option (Int32) := rec_43 x1 x2 x3 x4 x5 s0 (x7 + 1)
def g_X12_lacksOne_b103 (N : Nat) (f_this_book : (Nat → Int32)) (rec_43 : Int32 → Int32 → Int32 → Int32 → Int32 → Int32 → Int32 → Option (Int32)) (x1 : Int32) (x2 : Int32) (x3 : Int32) (x4 : Int32) (x5 : Int32) (x7 : Int32) : Option (Int32) := g_X12_lacksOne_b104 N f_this_book rec_43 x1 x2 x3 x4 x5 x7 0
def g_X12_lacksOne_b94 (N : Nat) (f_this_book : (Nat → Int32)) (rec_43 : Int32 → Int32 → Int32 → Int32 → Int32 → Int32 → Int32 → Option (Int32)) (x1 : Int32) (x2 : Int32) (x3 : Int32) (x4 : Int32) (x5 : Int32) (x7 : Int32) (s0 : Int32) (s2 : Int32) (s3 : Int32) : Option (Int32) := gi (s2 + s3) 78 (if s0 = (f_this_book (s2 + s3 : Int32).toNatClampNeg) then g_X12_lacksOne_b104 N f_this_book rec_43 x1 x2 x3 x4 x5 x7 1 else g_X12_lacksOne_b103 N f_this_book rec_43 x1 x2 x3 x4 x5 x7)
def g_X12_lacksOne_L43 (N : Nat) (f_this_book : (Nat → Int32)) (k_112 : Int32 → Int32 → Int32 → Int32 → Int32 → Int32 → Option (Int32)) : Nat → Int32 → Int32 → Int32 → Int32 → Int32 → Int32 → Int32 → Option (Int32)
  | 0, _, _, _, _, _, _, _ => none
  | fu + 1, x1, x2, x3, x4, x5, x6, x7 => if x3 ≤ x7 then k_112 x1 x2 x3 x4 x5 x6 else if x6 = 0 then g_X12_lacksOne_b103 N f_this_book (g_X12_lacksOne_L43 N f_this_book k_112 fu) x1 x2 x3 x4 x5 x7 else gi ((38 + (4 * x1)) + x7) 78 (if x5 ≤ x7 then g_X12_lacksOne_b94 N f_this_book (g_X12_lacksOne_L43 N f_this_book k_112 fu) x1 x2 x3 x4 x5 x7 (f_this_book ((38 + (4 * x1)) + x7 : Int32).toNatClampNeg) (38 + (4 * x2)) (x7 + 1) else g_X12_lacksOne_b94 N f_this_book (g_X12_lacksOne_L43 N f_this_book k_112 fu) x1 x2 x3 x4 x5 x7 (f_this_book ((38 + (4 * x1)) + x7 : Int32).toNatClampNeg) (38 + (4 * x2)) x7)
def g_X12_lacksOne_L16 (N : Nat) (f_this_book : (Nat → Int32)) : Nat → Int32 → Int32 → Int32 → Int32 → Int32 → Option (Int32)
  | 0, _, _, _, _, _ => none
  | fu + 1, x1, x2, x3, x4, x5 => if x3 < x5 then gb x4 (some x4) else gi (30 + x2) 78 (if (f_this_book (30 + x2 : Int32).toNatClampNeg) = (x3 + 1) then g_X12_lacksOne_L43 N f_this_book (g_X12_lacksOne_b112 N f_this_book (g_X12_lacksOne_L16 N f_this_book fu)) N x1 x2 x3 x4 x5 1 0 else gb x4 (some x4))
def g_X12_lacksOne (N : Nat) (f_this_book : (Nat → Int32)) (x1 : Int32) (x2 : Int32) : Option (Int32) := gi (30 + x1) 78 (g_X12_lacksOne_L16 N f_this_book N x1 x2 (f_this_book (30 + x1 : Int32).toNatClampNeg) 0 0)
set_option maxHeartbeats 4000000 in
set_option maxRecDepth 100000 in
theorem c_X12_lacksOne (l : Launch) (G : jG) (N : Nat) (q_this : Nat) (q_this_book : Nat) (v_this_text : Value) (v_this_length : Value) (v_this_draft : Value) (v_this_s : Value) (v_this_kept : Value) (v_this_keptMany : Value) (v_this_acts : Value) (v_this_actMany : Value) (v_this_row : Value) (v_this_rowMany : Value) (v_this_tells : Value) (v_this_tellMany : Value) (v_this_at : Value) (v_this_told : Value) (v_this_place : Value) (v_this_sort : Value) (v_this_minute : Value) (v_this_when : Value) (v_this_isHeard : Value) (v_this_goneBy : Value) (v_this_stand : Value) (v_this_many : Value) (v_this_standing : Value) (f_this_book : (Nat → Int32)) (x1 : Int32) (x2 : Int32) (u : Int32) (hu : g_X12_lacksOne N f_this_book x1 x2 = some u) : MetRO l G yX12_lacksOne wsX12_lacksOne ({ frames := 0, cells := 0, slots := 0, locals := 0 } : Room) [.ref q_this, .int x1, .int x2] (w_X12_lacksOne G q_this q_this_book v_this_text v_this_length v_this_draft v_this_s v_this_kept v_this_keptMany v_this_acts v_this_actMany v_this_row v_this_rowMany v_this_tells v_this_tellMany v_this_at v_this_told v_this_place v_this_sort v_this_minute v_this_when v_this_isHeard v_this_goneBy v_this_stand v_this_many v_this_standing f_this_book) u := by
  refine met_roz (cc := cX12_lacksOne) (maxL := 8) (lv0 := [(0, .ref q_this), (1, .int x1), (2, .int x2)]) (by decide) rfl rfl rfl rfl (fun X hX hret => ?_)
  have hinX12 : ∀ w ∈ u_ws RX12 TX12 24, w ∈ wsX12_lacksOne := by decide +kernel
  have hf_X12_book_13 : Cond.fieldLink RX12 13 (TX12 2).1 (TX12 2).2.1 (TX12 2).2.2.1 ∈ wsX12_lacksOne := by decide +kernel
  have L16 : ∀ (fu16 : Nat), ∀ (x1 : Int32) (x2 : Int32) (x3 : Int32) (x4 : Int32) (x5 : Int32), g_X12_lacksOne_L16 N f_this_book fu16 x1 x2 x3 x4 x5 = some u → J X 0 0 (w_X12_lacksOne G q_this q_this_book v_this_text v_this_length v_this_draft v_this_s v_this_kept v_this_keptMany v_this_acts v_this_actMany v_this_row v_this_rowMany v_this_tells v_this_tellMany v_this_at v_this_told v_this_place v_this_sort v_this_minute v_this_when v_this_isHeard v_this_goneBy v_this_stand v_this_many v_this_standing f_this_book) 16 [(0, .ref q_this), (1, .int x1), (2, .int x2), (3, .int x3), (4, .int x4), (5, .int x5)] [] := by
    intro fu16
    induction fu16 with
    | zero => intro x1 x2 x3 x4 x5 hg; exact nomatch hg
    | succ fu16 ih16 =>
      have B127 : ∀ (x1 : Int32) (x2 : Int32) (x3 : Int32) (x5 : Int32) (s0 : Int32), g_X12_lacksOne_b127 N f_this_book (g_X12_lacksOne_L16 N f_this_book fu16) x1 x2 x3 x5 s0 = some u → J X 0 0 (w_X12_lacksOne G q_this q_this_book v_this_text v_this_length v_this_draft v_this_s v_this_kept v_this_keptMany v_this_acts v_this_actMany v_this_row v_this_rowMany v_this_tells v_this_tellMany v_this_at v_this_told v_this_place v_this_sort v_this_minute v_this_when v_this_isHeard v_this_goneBy v_this_stand v_this_many v_this_standing f_this_book) 127 [(0, .ref q_this), (1, .int x1), (2, .int x2), (3, .int x3), (5, .int x5)] [.int s0] := by
        intro x1 x2 x3 x5 s0 hg
        unfold g_X12_lacksOne_b127 at hg
        refine j_istore hX (lv' := [(4, .int s0), (0, .ref q_this), (1, .int x1), (2, .int x2), (3, .int x3), (5, .int x5)]) dX12_lacksOne_127 rfl rfl ?_
        refine j_iinc hX 5 (v := x5 + 1) (lv' := [(5, .int (x5 + 1)), (4, .int s0), (0, .ref q_this), (1, .int x1), (2, .int x2), (3, .int x3)]) dX12_lacksOne_129 rfl (by rw [kc_1]) rfl rfl ?_
        refine j_goto hX 16 dX12_lacksOne_132 (by decide) ?_
        refine j_lv [2, 3, 4, 5, 1, 0] rfl ?_
        exact ih16 _ _ _ _ _ hg
      have B122 : ∀ (x1 : Int32) (x2 : Int32) (x3 : Int32) (x5 : Int32), g_X12_lacksOne_b122 N f_this_book (g_X12_lacksOne_L16 N f_this_book fu16) x1 x2 x3 x5 = some u → J X 0 0 (w_X12_lacksOne G q_this q_this_book v_this_text v_this_length v_this_draft v_this_s v_this_kept v_this_keptMany v_this_acts v_this_actMany v_this_row v_this_rowMany v_this_tells v_this_tellMany v_this_at v_this_told v_this_place v_this_sort v_this_minute v_this_when v_this_isHeard v_this_goneBy v_this_stand v_this_many v_this_standing f_this_book) 122 [(0, .ref q_this), (1, .int x1), (2, .int x2), (3, .int x3), (5, .int x5)] [] := by
        intro x1 x2 x3 x5 hg
        unfold g_X12_lacksOne_b122 at hg
        refine j_iconst hX dX12_lacksOne_122 kc_1 ?_
        refine j_goto hX 127 dX12_lacksOne_123 (by decide) ?_
        exact B127 _ _ _ _ _ hg
      have B112 : ∀ (x1 : Int32) (x2 : Int32) (x3 : Int32) (x4 : Int32) (x5 : Int32) (x6 : Int32), g_X12_lacksOne_b112 N f_this_book (g_X12_lacksOne_L16 N f_this_book fu16) x1 x2 x3 x4 x5 x6 = some u → J X 0 0 (w_X12_lacksOne G q_this q_this_book v_this_text v_this_length v_this_draft v_this_s v_this_kept v_this_keptMany v_this_acts v_this_actMany v_this_row v_this_rowMany v_this_tells v_this_tellMany v_this_at v_this_told v_this_place v_this_sort v_this_minute v_this_when v_this_isHeard v_this_goneBy v_this_stand v_this_many v_this_standing f_this_book) 112 [(0, .ref q_this), (1, .int x1), (2, .int x2), (3, .int x3), (4, .int x4), (5, .int x5), (6, .int x6)] [] := by
        intro x1 x2 x3 x4 x5 x6 hg
        unfold g_X12_lacksOne_b112 at hg
        refine j_iload hX 4 dX12_lacksOne_112 rfl ?_
        refine j_if_ne hX 122 hg dX12_lacksOne_114 (by decide) (fun hg => ?_) (fun hg => ?_)
        · refine j_iload hX 6 dX12_lacksOne_117 rfl ?_
          refine j_if_eq hX 126 hg dX12_lacksOne_119 (by decide) (fun hg => ?_) (fun hg => ?_)
          · refine j_iconst hX dX12_lacksOne_126 kc_0 ?_
            refine j_lv [0, 1, 2, 3, 5] rfl ?_
            exact B127 _ _ _ _ _ hg
          · refine j_lv [0, 1, 2, 3, 5] rfl ?_
            exact B122 _ _ _ _ hg
        · refine j_lv [0, 1, 2, 3, 5] rfl ?_
          exact B122 _ _ _ _ hg
      have L43 : ∀ (fu43 : Nat), ∀ (x1 : Int32) (x2 : Int32) (x3 : Int32) (x4 : Int32) (x5 : Int32) (x6 : Int32) (x7 : Int32), g_X12_lacksOne_L43 N f_this_book (g_X12_lacksOne_b112 N f_this_book (g_X12_lacksOne_L16 N f_this_book fu16)) fu43 x1 x2 x3 x4 x5 x6 x7 = some u → J X 0 0 (w_X12_lacksOne G q_this q_this_book v_this_text v_this_length v_this_draft v_this_s v_this_kept v_this_keptMany v_this_acts v_this_actMany v_this_row v_this_rowMany v_this_tells v_this_tellMany v_this_at v_this_told v_this_place v_this_sort v_this_minute v_this_when v_this_isHeard v_this_goneBy v_this_stand v_this_many v_this_standing f_this_book) 43 [(0, .ref q_this), (1, .int x1), (2, .int x2), (3, .int x3), (4, .int x4), (5, .int x5), (6, .int x6), (7, .int x7)] [] := by
        intro fu43
        induction fu43 with
        | zero => intro x1 x2 x3 x4 x5 x6 x7 hg; exact nomatch hg
        | succ fu43 ih43 =>
          have B104 : ∀ (x1 : Int32) (x2 : Int32) (x3 : Int32) (x4 : Int32) (x5 : Int32) (x7 : Int32) (s0 : Int32), g_X12_lacksOne_b104 N f_this_book (g_X12_lacksOne_L43 N f_this_book (g_X12_lacksOne_b112 N f_this_book (g_X12_lacksOne_L16 N f_this_book fu16)) fu43) x1 x2 x3 x4 x5 x7 s0 = some u → J X 0 0 (w_X12_lacksOne G q_this q_this_book v_this_text v_this_length v_this_draft v_this_s v_this_kept v_this_keptMany v_this_acts v_this_actMany v_this_row v_this_rowMany v_this_tells v_this_tellMany v_this_at v_this_told v_this_place v_this_sort v_this_minute v_this_when v_this_isHeard v_this_goneBy v_this_stand v_this_many v_this_standing f_this_book) 104 [(0, .ref q_this), (1, .int x1), (2, .int x2), (3, .int x3), (4, .int x4), (5, .int x5), (7, .int x7)] [.int s0] := by
            intro x1 x2 x3 x4 x5 x7 s0 hg
            unfold g_X12_lacksOne_b104 at hg
            refine j_istore hX (lv' := [(6, .int s0), (0, .ref q_this), (1, .int x1), (2, .int x2), (3, .int x3), (4, .int x4), (5, .int x5), (7, .int x7)]) dX12_lacksOne_104 rfl rfl ?_
            refine j_iinc hX 7 (v := x7 + 1) (lv' := [(7, .int (x7 + 1)), (6, .int s0), (0, .ref q_this), (1, .int x1), (2, .int x2), (3, .int x3), (4, .int x4), (5, .int x5)]) dX12_lacksOne_106 rfl (by rw [kc_1]) rfl rfl ?_
            refine j_goto hX 43 dX12_lacksOne_109 (by decide) ?_
            refine j_lv [2, 3, 4, 5, 6, 7, 1, 0] rfl ?_
            exact ih43 _ _ _ _ _ _ _ hg
          have B103 : ∀ (x1 : Int32) (x2 : Int32) (x3 : Int32) (x4 : Int32) (x5 : Int32) (x7 : Int32), g_X12_lacksOne_b103 N f_this_book (g_X12_lacksOne_L43 N f_this_book (g_X12_lacksOne_b112 N f_this_book (g_X12_lacksOne_L16 N f_this_book fu16)) fu43) x1 x2 x3 x4 x5 x7 = some u → J X 0 0 (w_X12_lacksOne G q_this q_this_book v_this_text v_this_length v_this_draft v_this_s v_this_kept v_this_keptMany v_this_acts v_this_actMany v_this_row v_this_rowMany v_this_tells v_this_tellMany v_this_at v_this_told v_this_place v_this_sort v_this_minute v_this_when v_this_isHeard v_this_goneBy v_this_stand v_this_many v_this_standing f_this_book) 103 [(0, .ref q_this), (1, .int x1), (2, .int x2), (3, .int x3), (4, .int x4), (5, .int x5), (7, .int x7)] [] := by
            intro x1 x2 x3 x4 x5 x7 hg
            unfold g_X12_lacksOne_b103 at hg
            refine j_iconst hX dX12_lacksOne_103 kc_0 ?_
            exact B104 _ _ _ _ _ _ _ hg
          have B94 : ∀ (x1 : Int32) (x2 : Int32) (x3 : Int32) (x4 : Int32) (x5 : Int32) (x7 : Int32) (s0 : Int32) (s2 : Int32) (s3 : Int32), g_X12_lacksOne_b94 N f_this_book (g_X12_lacksOne_L43 N f_this_book (g_X12_lacksOne_b112 N f_this_book (g_X12_lacksOne_L16 N f_this_book fu16)) fu43) x1 x2 x3 x4 x5 x7 s0 s2 s3 = some u → J X 0 0 (w_X12_lacksOne G q_this q_this_book v_this_text v_this_length v_this_draft v_this_s v_this_kept v_this_keptMany v_this_acts v_this_actMany v_this_row v_this_rowMany v_this_tells v_this_tellMany v_this_at v_this_told v_this_place v_this_sort v_this_minute v_this_when v_this_isHeard v_this_goneBy v_this_stand v_this_many v_this_standing f_this_book) 94 [(0, .ref q_this), (1, .int x1), (2, .int x2), (3, .int x3), (4, .int x4), (5, .int x5), (7, .int x7)] [.int s3, .int s2, .ref q_this_book, .int s0] := by
            intro x1 x2 x3 x4 x5 x7 s0 s2 s3 hg
            unfold g_X12_lacksOne_b94 at hg
            refine j_iadd hX dX12_lacksOne_94 ?_
            refine j_iald hX 1 rfl hg dX12_lacksOne_95 (fun hg => ?_)
            refine j_icmp_ne hX 103 hg dX12_lacksOne_96 (by decide) (fun hg => ?_) (fun hg => ?_)
            · refine j_iconst hX dX12_lacksOne_99 kc_1 ?_
              refine j_goto hX 104 dX12_lacksOne_100 (by decide) ?_
              exact B104 _ _ _ _ _ _ _ hg
            · exact B103 _ _ _ _ _ _ hg
          intro x1 x2 x3 x4 x5 x6 x7 hg
          unfold g_X12_lacksOne_L43 at hg
          refine j_iload hX 7 dX12_lacksOne_43 rfl ?_
          refine j_iload_n hX 3 dX12_lacksOne_45 rfl rfl ?_
          refine j_icmp_ge hX 112 hg dX12_lacksOne_46 (by decide) (fun hg => ?_) (fun hg => ?_)
          · refine j_lv [0, 1, 2, 3, 4, 5, 6] rfl ?_
            exact B112 _ _ _ _ _ _ hg
          · refine j_iload hX 6 dX12_lacksOne_49 rfl ?_
            refine j_if_eq hX 103 hg dX12_lacksOne_51 (by decide) (fun hg => ?_) (fun hg => ?_)
            · refine j_lv [0, 1, 2, 3, 4, 5, 7] rfl ?_
              exact B103 _ _ _ _ _ _ hg
            · refine j_aload_n hX 0 dX12_lacksOne_54 rfl rfl ?_
              refine j_get hX 0 2 rfl rfl hinX12 rfl hf_X12_book_13 rfl dX12_lacksOne_55 ?_
              refine j_bipush hX dX12_lacksOne_58 kb_38 ?_
              refine j_iconst hX dX12_lacksOne_60 kc_4 ?_
              refine j_iload_n hX 1 dX12_lacksOne_61 rfl rfl ?_
              refine j_imul hX dX12_lacksOne_62 ?_
              refine j_iadd hX dX12_lacksOne_63 ?_
              refine j_iload hX 7 dX12_lacksOne_64 rfl ?_
              refine j_iadd hX dX12_lacksOne_66 ?_
              refine j_iald hX 1 rfl hg dX12_lacksOne_67 (fun hg => ?_)
              refine j_aload_n hX 0 dX12_lacksOne_68 rfl rfl ?_
              refine j_get hX 0 2 rfl rfl hinX12 rfl hf_X12_book_13 rfl dX12_lacksOne_69 ?_
              refine j_bipush hX dX12_lacksOne_72 kb_38 ?_
              refine j_iconst hX dX12_lacksOne_74 kc_4 ?_
              refine j_iload_n hX 2 dX12_lacksOne_75 rfl rfl ?_
              refine j_imul hX dX12_lacksOne_76 ?_
              refine j_iadd hX dX12_lacksOne_77 ?_
              refine j_iload hX 7 dX12_lacksOne_78 rfl ?_
              refine j_iload hX 5 dX12_lacksOne_80 rfl ?_
              refine j_icmp_ge hX 90 hg dX12_lacksOne_82 (by decide) (fun hg => ?_) (fun hg => ?_)
              · refine j_iload hX 7 dX12_lacksOne_90 rfl ?_
                refine j_iconst hX dX12_lacksOne_92 kc_1 ?_
                refine j_iadd hX dX12_lacksOne_93 ?_
                refine j_lv [0, 1, 2, 3, 4, 5, 7] rfl ?_
                exact B94 _ _ _ _ _ _ _ _ _ hg
              · refine j_iload hX 7 dX12_lacksOne_85 rfl ?_
                refine j_goto hX 94 dX12_lacksOne_87 (by decide) ?_
                refine j_lv [0, 1, 2, 3, 4, 5, 7] rfl ?_
                exact B94 _ _ _ _ _ _ _ _ _ hg
      intro x1 x2 x3 x4 x5 hg
      unfold g_X12_lacksOne_L16 at hg
      refine j_iload hX 5 dX12_lacksOne_16 rfl ?_
      refine j_iload_n hX 3 dX12_lacksOne_18 rfl rfl ?_
      refine j_icmp_gt hX 135 hg dX12_lacksOne_19 (by decide) (fun hg => ?_) (fun hg => ?_)
      · refine j_iload hX 4 dX12_lacksOne_135 rfl ?_
        obtain ⟨hb, hg⟩ := gb_some hg
        cases hg
        exact hret _ _ hb dX12_lacksOne_137
      · refine j_aload_n hX 0 dX12_lacksOne_22 rfl rfl ?_
        refine j_get hX 0 2 rfl rfl hinX12 rfl hf_X12_book_13 rfl dX12_lacksOne_23 ?_
        refine j_bipush hX dX12_lacksOne_26 kb_30 ?_
        refine j_iload_n hX 2 dX12_lacksOne_28 rfl rfl ?_
        refine j_iadd hX dX12_lacksOne_29 ?_
        refine j_iald hX 1 rfl hg dX12_lacksOne_30 (fun hg => ?_)
        refine j_iload_n hX 3 dX12_lacksOne_31 rfl rfl ?_
        refine j_iconst hX dX12_lacksOne_32 kc_1 ?_
        refine j_iadd hX dX12_lacksOne_33 ?_
        refine j_icmp_ne hX 135 hg dX12_lacksOne_34 (by decide) (fun hg => ?_) (fun hg => ?_)
        · refine j_iconst hX dX12_lacksOne_37 kc_1 ?_
          refine j_istore hX (lv' := [(6, .int 1), (0, .ref q_this), (1, .int x1), (2, .int x2), (3, .int x3), (4, .int x4), (5, .int x5)]) dX12_lacksOne_38 rfl rfl ?_
          refine j_iconst hX dX12_lacksOne_40 kc_0 ?_
          refine j_istore hX (lv' := [(7, .int 0), (6, .int 1), (0, .ref q_this), (1, .int x1), (2, .int x2), (3, .int x3), (4, .int x4), (5, .int x5)]) dX12_lacksOne_41 rfl rfl ?_
          refine j_lv [2, 3, 4, 5, 6, 7, 1, 0] rfl ?_
          exact L43 N _ _ _ _ _ _ _ hg
        · refine j_iload hX 4 dX12_lacksOne_135 rfl ?_
          obtain ⟨hb, hg⟩ := gb_some hg
          cases hg
          exact hret _ _ hb dX12_lacksOne_137
  have hg := hu
  unfold g_X12_lacksOne at hg
  refine j_aload_n hX 0 dX12_lacksOne_0 rfl rfl ?_
  refine j_get hX 0 2 rfl rfl hinX12 rfl hf_X12_book_13 rfl dX12_lacksOne_1 ?_
  refine j_bipush hX dX12_lacksOne_4 kb_30 ?_
  refine j_iload_n hX 1 dX12_lacksOne_6 rfl rfl ?_
  refine j_iadd hX dX12_lacksOne_7 ?_
  refine j_iald hX 1 rfl hg dX12_lacksOne_8 (fun hg => ?_)
  refine j_istore_n hX (lv' := [(3, .int (f_this_book (30 + x1 : Int32).toNatClampNeg)), (0, .ref q_this), (1, .int x1), (2, .int x2)]) dX12_lacksOne_9 rfl rfl rfl ?_
  refine j_iconst hX dX12_lacksOne_10 kc_0 ?_
  refine j_istore hX (lv' := [(4, .int 0), (3, .int (f_this_book (30 + x1 : Int32).toNatClampNeg)), (0, .ref q_this), (1, .int x1), (2, .int x2)]) dX12_lacksOne_11 rfl rfl ?_
  refine j_iconst hX dX12_lacksOne_13 kc_0 ?_
  refine j_istore hX (lv' := [(5, .int 0), (4, .int 0), (3, .int (f_this_book (30 + x1 : Int32).toNatClampNeg)), (0, .ref q_this), (1, .int x1), (2, .int x2)]) dX12_lacksOne_14 rfl rfl ?_
  refine j_lv [3, 4, 5, 2, 1, 0] rfl ?_
  exact L16 N _ _ _ _ _ hg
abbrev w_X12_spoiled (G : jG) (q_this : Nat) (q_this_book : Nat) (v_this_text : Value) (v_this_length : Value) (v_this_draft : Value) (v_this_s : Value) (v_this_kept : Value) (v_this_keptMany : Value) (v_this_acts : Value) (v_this_actMany : Value) (v_this_row : Value) (v_this_rowMany : Value) (v_this_tells : Value) (v_this_tellMany : Value) (v_this_at : Value) (v_this_told : Value) (v_this_place : Value) (v_this_sort : Value) (v_this_minute : Value) (v_this_when : Value) (v_this_isHeard : Value) (v_this_goneBy : Value) (v_this_stand : Value) (v_this_many : Value) (v_this_standing : Value) (f_this_book : (Nat → Int32)) : va_W := [oC q_this 12 [v_this_text, v_this_length, .ref q_this_book, v_this_draft, v_this_s, v_this_kept, v_this_keptMany, v_this_acts, v_this_actMany, v_this_row, v_this_rowMany, v_this_tells, v_this_tellMany, v_this_at, v_this_told, v_this_place, v_this_sort, v_this_minute, v_this_when, v_this_isHeard, v_this_goneBy, v_this_stand, v_this_many, v_this_standing], aI G q_this_book 78 f_this_book]
def g_X12_spoiled_b120 (N : Nat) (f_this_book : (Nat → Int32)) (x1 : Int32) (x2 : Int32) (x3 : Int32) : Option (Int32) := if x1 = 0 then some x2 else some x3
def g_X12_spoiled_b114 (N : Nat) (f_this_book : (Nat → Int32)) (rec_26 : Int32 → Int32 → Int32 → Int32 → Option (Int32)) (x1 : Int32) (x2 : Int32) (x3 : Int32) (x4 : Int32) : Option (Int32) := rec_26 x1 x2 x3 (x4 + (-1))
def g_X12_spoiled_b107 (N : Nat) (f_this_book : (Nat → Int32)) (rec_41 : Int32 → Int32 → Int32 → Int32 → Int32 → Option (Int32)) (x1 : Int32) (x2 : Int32) (x4 : Int32) (x5 : Int32) (s0 : Int32) : Option (Int32) := rec_41 x1 x2 s0 x4 (x5 + (-1))
def g_X12_spoiled_b88 (N : Nat) (f_this_book : (Nat → Int32)) (rec_41 : Int32 → Int32 → Int32 → Int32 → Int32 → Option (Int32)) (x1 : Int32) (x3 : Int32) (x4 : Int32) (x5 : Int32) (x6 : Int32) (s0 : Int32) (s1 : Int32) : Option (Int32) := if x6 = 0 then g_X12_spoiled_b107 N f_this_book rec_41 x1 (s0 + s1) x4 x5 x3 else g_X12_spoiled_b107 N f_this_book rec_41 x1 (s0 + s1) x4 x5 ((10 * x4) + x5)
def g_X12_spoiled_b75 (N : Nat) (f_this_book : (Nat → Int32)) (rec_41 : Int32 → Int32 → Int32 → Int32 → Int32 → Option (Int32)) (x1 : Int32) (x2 : Int32) (x3 : Int32) (x4 : Int32) (x5 : Int32) (s0 : Int32) : Option (Int32) := if s0 = 0 then g_X12_spoiled_b88 N f_this_book rec_41 x1 x3 x4 x5 s0 x2 0 else g_X12_spoiled_b88 N f_this_book rec_41 x1 x3 x4 x5 s0 x2 1
def g_X12_spoiled_b70 (N : Nat) (f_this_book : (Nat → Int32)) (rec_41 : Int32 → Int32 → Int32 → Int32 → Int32 → Option (Int32)) (x1 : Int32) (x2 : Int32) (x3 : Int32) (x4 : Int32) (x5 : Int32) : Option (Int32) := g_X12_spoiled_b75 N f_this_book rec_41 x1 x2 x3 x4 x5 1
def g_X12_spoiled_L41 (N : Nat) (f_this_book : (Nat → Int32)) (k_114 : Int32 → Int32 → Int32 → Int32 → Option (Int32)) : Nat → Int32 → Int32 → Int32 → Int32 → Int32 → Option (Int32)
  | 0, _, _, _, _, _ => none
  | fu + 1, x1, x2, x3, x4, x5 => if x5 ≤ x4 then k_114 x1 x2 x3 x4 else (g_X12_lacksOne N f_this_book x4 x5).bind fun v53 => if v53 = 0 then (g_X12_lacksOne N f_this_book x5 x4).bind fun v64 => if v64 = 0 then g_X12_spoiled_b75 N f_this_book (g_X12_spoiled_L41 N f_this_book k_114 fu) x1 x2 x3 x4 x5 0 else g_X12_spoiled_b70 N f_this_book (g_X12_spoiled_L41 N f_this_book k_114 fu) x1 x2 x3 x4 x5 else g_X12_spoiled_b70 N f_this_book (g_X12_spoiled_L41 N f_this_book k_114 fu) x1 x2 x3 x4 x5
def g_X12_spoiled_L26 (N : Nat) (f_this_book : (Nat → Int32)) (k_120 : Int32 → Int32 → Int32 → Option (Int32)) : Nat → Int32 → Int32 → Int32 → Int32 → Option (Int32)
  | 0, _, _, _, _ => none
  | fu + 1, x1, x2, x3, x4 => if x4 < 0 then k_120 x1 x2 x3 else gi 4 78 (g_X12_spoiled_L41 N f_this_book (g_X12_spoiled_b114 N f_this_book (g_X12_spoiled_L26 N f_this_book k_120 fu)) N x1 x2 x3 x4 ((f_this_book (4 : Int32).toNatClampNeg) - 1))
def g_X12_spoiled (N : Nat) (f_this_book : (Nat → Int32)) (x1 : Int32) : Option (Int32) := (g_X12_in N x1 0 1).bind fun v3 => if v3 = 0 then some (-1) else gi 4 78 (g_X12_spoiled_L26 N f_this_book (g_X12_spoiled_b120 N f_this_book) N x1 0 (-4) ((f_this_book (4 : Int32).toNatClampNeg) - 1))
set_option maxHeartbeats 4000000 in
set_option maxRecDepth 100000 in
theorem c_X12_spoiled (l : Launch) (G : jG) (N : Nat) (q_this : Nat) (q_this_book : Nat) (v_this_text : Value) (v_this_length : Value) (v_this_draft : Value) (v_this_s : Value) (v_this_kept : Value) (v_this_keptMany : Value) (v_this_acts : Value) (v_this_actMany : Value) (v_this_row : Value) (v_this_rowMany : Value) (v_this_tells : Value) (v_this_tellMany : Value) (v_this_at : Value) (v_this_told : Value) (v_this_place : Value) (v_this_sort : Value) (v_this_minute : Value) (v_this_when : Value) (v_this_isHeard : Value) (v_this_goneBy : Value) (v_this_stand : Value) (v_this_many : Value) (v_this_standing : Value) (f_this_book : (Nat → Int32)) (x1 : Int32) (u : Int32) (hu : g_X12_spoiled N f_this_book x1 = some u) : MetRO l G yX12_spoiled wsX12_spoiled ({ frames := 1, cells := 0, slots := 0, locals := 27 } : Room) [.ref q_this, .int x1] (w_X12_spoiled G q_this q_this_book v_this_text v_this_length v_this_draft v_this_s v_this_kept v_this_keptMany v_this_acts v_this_actMany v_this_row v_this_rowMany v_this_tells v_this_tellMany v_this_at v_this_told v_this_place v_this_sort v_this_minute v_this_when v_this_isHeard v_this_goneBy v_this_stand v_this_many v_this_standing f_this_book) u := by
  refine met_roi (cc := cX12_spoiled) (maxL := 7) (lv0 := [(0, .ref q_this), (1, .int x1)]) (by decide) rfl rfl rfl rfl (fun X hX hret => ?_)
  have hinX12 : ∀ w ∈ u_ws RX12 TX12 24, w ∈ wsX12_spoiled := by decide +kernel
  have hf_X12_book_13 : Cond.fieldLink RX12 13 (TX12 2).1 (TX12 2).2.1 (TX12 2).2.2.1 ∈ wsX12_spoiled := by decide +kernel
  have B120 : ∀ (x1 : Int32) (x2 : Int32) (x3 : Int32), g_X12_spoiled_b120 N f_this_book x1 x2 x3 = some u → J X 0 0 (w_X12_spoiled G q_this q_this_book v_this_text v_this_length v_this_draft v_this_s v_this_kept v_this_keptMany v_this_acts v_this_actMany v_this_row v_this_rowMany v_this_tells v_this_tellMany v_this_at v_this_told v_this_place v_this_sort v_this_minute v_this_when v_this_isHeard v_this_goneBy v_this_stand v_this_many v_this_standing f_this_book) 120 [(1, .int x1), (2, .int x2), (3, .int x3)] [] := by
    intro x1 x2 x3 hg
    unfold g_X12_spoiled_b120 at hg
    refine j_iload_n hX 0 dX12_spoiled_120 rfl rfl ?_
    refine j_if_ne hX 128 hg dX12_spoiled_121 (by decide) (fun hg => ?_) (fun hg => ?_)
    · refine j_iload_n hX 1 dX12_spoiled_124 rfl rfl ?_
      refine j_goto hX 129 dX12_spoiled_125 (by decide) ?_
      cases hg
      exact hret _ _ dX12_spoiled_129
    · refine j_iload_n hX 2 dX12_spoiled_128 rfl rfl ?_
      cases hg
      exact hret _ _ dX12_spoiled_129
  have L26 : ∀ (fu26 : Nat), ∀ (x1 : Int32) (x2 : Int32) (x3 : Int32) (x4 : Int32), g_X12_spoiled_L26 N f_this_book (g_X12_spoiled_b120 N f_this_book) fu26 x1 x2 x3 x4 = some u → J X 0 0 (w_X12_spoiled G q_this q_this_book v_this_text v_this_length v_this_draft v_this_s v_this_kept v_this_keptMany v_this_acts v_this_actMany v_this_row v_this_rowMany v_this_tells v_this_tellMany v_this_at v_this_told v_this_place v_this_sort v_this_minute v_this_when v_this_isHeard v_this_goneBy v_this_stand v_this_many v_this_standing f_this_book) 26 [(0, .ref q_this), (1, .int x1), (2, .int x2), (3, .int x3), (4, .int x4)] [] := by
    intro fu26
    induction fu26 with
    | zero => intro x1 x2 x3 x4 hg; exact nomatch hg
    | succ fu26 ih26 =>
      have B114 : ∀ (x1 : Int32) (x2 : Int32) (x3 : Int32) (x4 : Int32), g_X12_spoiled_b114 N f_this_book (g_X12_spoiled_L26 N f_this_book (g_X12_spoiled_b120 N f_this_book) fu26) x1 x2 x3 x4 = some u → J X 0 0 (w_X12_spoiled G q_this q_this_book v_this_text v_this_length v_this_draft v_this_s v_this_kept v_this_keptMany v_this_acts v_this_actMany v_this_row v_this_rowMany v_this_tells v_this_tellMany v_this_at v_this_told v_this_place v_this_sort v_this_minute v_this_when v_this_isHeard v_this_goneBy v_this_stand v_this_many v_this_standing f_this_book) 114 [(0, .ref q_this), (1, .int x1), (2, .int x2), (3, .int x3), (4, .int x4)] [] := by
        intro x1 x2 x3 x4 hg
        unfold g_X12_spoiled_b114 at hg
        refine j_iinc hX 4 (v := x4 + (-1)) (lv' := [(4, .int (x4 + (-1))), (0, .ref q_this), (1, .int x1), (2, .int x2), (3, .int x3)]) dX12_spoiled_114 rfl (by rw [kc_m1]) rfl rfl ?_
        refine j_goto hX 26 dX12_spoiled_117 (by decide) ?_
        refine j_lv [1, 2, 3, 4, 0] rfl ?_
        exact ih26 _ _ _ _ hg
      have L41 : ∀ (fu41 : Nat), ∀ (x1 : Int32) (x2 : Int32) (x3 : Int32) (x4 : Int32) (x5 : Int32), g_X12_spoiled_L41 N f_this_book (g_X12_spoiled_b114 N f_this_book (g_X12_spoiled_L26 N f_this_book (g_X12_spoiled_b120 N f_this_book) fu26)) fu41 x1 x2 x3 x4 x5 = some u → J X 0 0 (w_X12_spoiled G q_this q_this_book v_this_text v_this_length v_this_draft v_this_s v_this_kept v_this_keptMany v_this_acts v_this_actMany v_this_row v_this_rowMany v_this_tells v_this_tellMany v_this_at v_this_told v_this_place v_this_sort v_this_minute v_this_when v_this_isHeard v_this_goneBy v_this_stand v_this_many v_this_standing f_this_book) 41 [(0, .ref q_this), (1, .int x1), (2, .int x2), (3, .int x3), (4, .int x4), (5, .int x5)] [] := by
        intro fu41
        induction fu41 with
        | zero => intro x1 x2 x3 x4 x5 hg; exact nomatch hg
        | succ fu41 ih41 =>
          have B107 : ∀ (x1 : Int32) (x2 : Int32) (x4 : Int32) (x5 : Int32) (s0 : Int32), g_X12_spoiled_b107 N f_this_book (g_X12_spoiled_L41 N f_this_book (g_X12_spoiled_b114 N f_this_book (g_X12_spoiled_L26 N f_this_book (g_X12_spoiled_b120 N f_this_book) fu26)) fu41) x1 x2 x4 x5 s0 = some u → J X 0 0 (w_X12_spoiled G q_this q_this_book v_this_text v_this_length v_this_draft v_this_s v_this_kept v_this_keptMany v_this_acts v_this_actMany v_this_row v_this_rowMany v_this_tells v_this_tellMany v_this_at v_this_told v_this_place v_this_sort v_this_minute v_this_when v_this_isHeard v_this_goneBy v_this_stand v_this_many v_this_standing f_this_book) 107 [(0, .ref q_this), (1, .int x1), (2, .int x2), (4, .int x4), (5, .int x5)] [.int s0] := by
            intro x1 x2 x4 x5 s0 hg
            unfold g_X12_spoiled_b107 at hg
            refine j_istore_n hX (lv' := [(3, .int s0), (0, .ref q_this), (1, .int x1), (2, .int x2), (4, .int x4), (5, .int x5)]) dX12_spoiled_107 rfl rfl rfl ?_
            refine j_iinc hX 5 (v := x5 + (-1)) (lv' := [(5, .int (x5 + (-1))), (3, .int s0), (0, .ref q_this), (1, .int x1), (2, .int x2), (4, .int x4)]) dX12_spoiled_108 rfl (by rw [kc_m1]) rfl rfl ?_
            refine j_goto hX 41 dX12_spoiled_111 (by decide) ?_
            refine j_lv [2, 3, 4, 1, 5, 0] rfl ?_
            exact ih41 _ _ _ _ _ hg
          have B88 : ∀ (x1 : Int32) (x3 : Int32) (x4 : Int32) (x5 : Int32) (x6 : Int32) (s0 : Int32) (s1 : Int32), g_X12_spoiled_b88 N f_this_book (g_X12_spoiled_L41 N f_this_book (g_X12_spoiled_b114 N f_this_book (g_X12_spoiled_L26 N f_this_book (g_X12_spoiled_b120 N f_this_book) fu26)) fu41) x1 x3 x4 x5 x6 s0 s1 = some u → J X 0 0 (w_X12_spoiled G q_this q_this_book v_this_text v_this_length v_this_draft v_this_s v_this_kept v_this_keptMany v_this_acts v_this_actMany v_this_row v_this_rowMany v_this_tells v_this_tellMany v_this_at v_this_told v_this_place v_this_sort v_this_minute v_this_when v_this_isHeard v_this_goneBy v_this_stand v_this_many v_this_standing f_this_book) 88 [(0, .ref q_this), (1, .int x1), (3, .int x3), (4, .int x4), (5, .int x5), (6, .int x6)] [.int s1, .int s0] := by
            intro x1 x3 x4 x5 x6 s0 s1 hg
            unfold g_X12_spoiled_b88 at hg
            refine j_iadd hX dX12_spoiled_88 ?_
            refine j_istore_n hX (lv' := [(2, .int (s0 + s1)), (0, .ref q_this), (1, .int x1), (3, .int x3), (4, .int x4), (5, .int x5), (6, .int x6)]) dX12_spoiled_89 rfl rfl rfl ?_
            refine j_iload hX 6 dX12_spoiled_90 rfl ?_
            refine j_if_eq hX 106 hg dX12_spoiled_92 (by decide) (fun hg => ?_) (fun hg => ?_)
            · refine j_iload_n hX 3 dX12_spoiled_106 rfl rfl ?_
              refine j_lv [1, 2, 0, 4, 5] rfl ?_
              exact B107 _ _ _ _ _ hg
            · refine j_bipush hX dX12_spoiled_95 kb_10 ?_
              refine j_iload hX 4 dX12_spoiled_97 rfl ?_
              refine j_imul hX dX12_spoiled_99 ?_
              refine j_iload hX 5 dX12_spoiled_100 rfl ?_
              refine j_iadd hX dX12_spoiled_102 ?_
              refine j_goto hX 107 dX12_spoiled_103 (by decide) ?_
              refine j_lv [1, 2, 0, 4, 5] rfl ?_
              exact B107 _ _ _ _ _ hg
          have B75 : ∀ (x1 : Int32) (x2 : Int32) (x3 : Int32) (x4 : Int32) (x5 : Int32) (s0 : Int32), g_X12_spoiled_b75 N f_this_book (g_X12_spoiled_L41 N f_this_book (g_X12_spoiled_b114 N f_this_book (g_X12_spoiled_L26 N f_this_book (g_X12_spoiled_b120 N f_this_book) fu26)) fu41) x1 x2 x3 x4 x5 s0 = some u → J X 0 0 (w_X12_spoiled G q_this q_this_book v_this_text v_this_length v_this_draft v_this_s v_this_kept v_this_keptMany v_this_acts v_this_actMany v_this_row v_this_rowMany v_this_tells v_this_tellMany v_this_at v_this_told v_this_place v_this_sort v_this_minute v_this_when v_this_isHeard v_this_goneBy v_this_stand v_this_many v_this_standing f_this_book) 75 [(0, .ref q_this), (1, .int x1), (2, .int x2), (3, .int x3), (4, .int x4), (5, .int x5)] [.int s0] := by
            intro x1 x2 x3 x4 x5 s0 hg
            unfold g_X12_spoiled_b75 at hg
            refine j_istore hX (lv' := [(6, .int s0), (0, .ref q_this), (1, .int x1), (2, .int x2), (3, .int x3), (4, .int x4), (5, .int x5)]) dX12_spoiled_75 rfl rfl ?_
            refine j_iload_n hX 3 dX12_spoiled_77 rfl rfl ?_
            refine j_iload hX 0 dX12_spoiled_78 rfl ?_
            refine j_if_eq hX 87 hg dX12_spoiled_80 (by decide) (fun hg => ?_) (fun hg => ?_)
            · refine j_iconst hX dX12_spoiled_87 kc_0 ?_
              refine j_lv [1, 2, 4, 5, 6, 0] rfl ?_
              exact B88 _ _ _ _ _ _ _ hg
            · refine j_iconst hX dX12_spoiled_83 kc_1 ?_
              refine j_goto hX 88 dX12_spoiled_84 (by decide) ?_
              refine j_lv [1, 2, 4, 5, 6, 0] rfl ?_
              exact B88 _ _ _ _ _ _ _ hg
          have B70 : ∀ (x1 : Int32) (x2 : Int32) (x3 : Int32) (x4 : Int32) (x5 : Int32), g_X12_spoiled_b70 N f_this_book (g_X12_spoiled_L41 N f_this_book (g_X12_spoiled_b114 N f_this_book (g_X12_spoiled_L26 N f_this_book (g_X12_spoiled_b120 N f_this_book) fu26)) fu41) x1 x2 x3 x4 x5 = some u → J X 0 0 (w_X12_spoiled G q_this q_this_book v_this_text v_this_length v_this_draft v_this_s v_this_kept v_this_keptMany v_this_acts v_this_actMany v_this_row v_this_rowMany v_this_tells v_this_tellMany v_this_at v_this_told v_this_place v_this_sort v_this_minute v_this_when v_this_isHeard v_this_goneBy v_this_stand v_this_many v_this_standing f_this_book) 70 [(0, .ref q_this), (1, .int x1), (2, .int x2), (3, .int x3), (4, .int x4), (5, .int x5)] [] := by
            intro x1 x2 x3 x4 x5 hg
            unfold g_X12_spoiled_b70 at hg
            refine j_iconst hX dX12_spoiled_70 kc_1 ?_
            refine j_goto hX 75 dX12_spoiled_71 (by decide) ?_
            exact B75 _ _ _ _ _ _ hg
          intro x1 x2 x3 x4 x5 hg
          unfold g_X12_spoiled_L41 at hg
          refine j_iload hX 5 dX12_spoiled_41 rfl ?_
          refine j_iload hX 4 dX12_spoiled_43 rfl ?_
          refine j_icmp_le hX 114 hg dX12_spoiled_45 (by decide) (fun hg => ?_) (fun hg => ?_)
          · refine j_lv [0, 1, 2, 3, 4] rfl ?_
            exact B114 _ _ _ _ hg
          · refine j_aload_n hX 0 dX12_spoiled_48 rfl rfl ?_
            refine j_iload hX 4 dX12_spoiled_49 rfl ?_
            refine j_iload hX 5 dX12_spoiled_51 rfl ?_
            refine j_vRO hX (r := fun v => v) [.int x4, .int x5] hg (fun v hv => c_X12_lacksOne l G N q_this q_this_book v_this_text v_this_length v_this_draft v_this_s v_this_kept v_this_keptMany v_this_acts v_this_actMany v_this_row v_this_rowMany v_this_tells v_this_tellMany v_this_at v_this_told v_this_place v_this_sort v_this_minute v_this_when v_this_isHeard v_this_goneBy v_this_stand v_this_many v_this_standing f_this_book x4 x5 v hv) gX12_spoiled_X12_lacksOne rfl ⟨rfl, rfl⟩ ⟨rfl, by decide, by decide, rfl⟩ rfl rfl [0, 1] rfl rfl rfl dX12_spoiled_53 rfl rfl ⟨Nat.zero_le _, Nat.zero_le _⟩ (fun v53 hg => ?_)
            refine j_if_ne hX 70 hg dX12_spoiled_56 (by decide) (fun hg => ?_) (fun hg => ?_)
            · refine j_aload_n hX 0 dX12_spoiled_59 rfl rfl ?_
              refine j_iload hX 5 dX12_spoiled_60 rfl ?_
              refine j_iload hX 4 dX12_spoiled_62 rfl ?_
              refine j_vRO hX (r := fun v => v) [.int x5, .int x4] hg (fun v hv => c_X12_lacksOne l G N q_this q_this_book v_this_text v_this_length v_this_draft v_this_s v_this_kept v_this_keptMany v_this_acts v_this_actMany v_this_row v_this_rowMany v_this_tells v_this_tellMany v_this_at v_this_told v_this_place v_this_sort v_this_minute v_this_when v_this_isHeard v_this_goneBy v_this_stand v_this_many v_this_standing f_this_book x5 x4 v hv) gX12_spoiled_X12_lacksOne rfl ⟨rfl, rfl⟩ ⟨rfl, by decide, by decide, rfl⟩ rfl rfl [0, 1] rfl rfl rfl dX12_spoiled_64 rfl rfl ⟨Nat.zero_le _, Nat.zero_le _⟩ (fun v64 hg => ?_)
              refine j_if_eq hX 74 hg dX12_spoiled_67 (by decide) (fun hg => ?_) (fun hg => ?_)
              · refine j_iconst hX dX12_spoiled_74 kc_0 ?_
                exact B75 _ _ _ _ _ _ hg
              · exact B70 _ _ _ _ _ hg
            · exact B70 _ _ _ _ _ hg
      intro x1 x2 x3 x4 hg
      unfold g_X12_spoiled_L26 at hg
      refine j_iload hX 4 dX12_spoiled_26 rfl ?_
      refine j_if_lt hX 120 hg dX12_spoiled_28 (by decide) (fun hg => ?_) (fun hg => ?_)
      · refine j_lv [1, 2, 3] rfl ?_
        exact B120 _ _ _ hg
      · refine j_aload_n hX 0 dX12_spoiled_31 rfl rfl ?_
        refine j_get hX 0 2 rfl rfl hinX12 rfl hf_X12_book_13 rfl dX12_spoiled_32 ?_
        refine j_iconst hX dX12_spoiled_35 kc_4 ?_
        refine j_iald hX 1 rfl hg dX12_spoiled_36 (fun hg => ?_)
        refine j_iconst hX dX12_spoiled_37 kc_1 ?_
        refine j_isub hX dX12_spoiled_38 ?_
        refine j_istore hX (lv' := [(5, .int ((f_this_book (4 : Int32).toNatClampNeg) - 1)), (0, .ref q_this), (1, .int x1), (2, .int x2), (3, .int x3), (4, .int x4)]) dX12_spoiled_39 rfl rfl ?_
        refine j_lv [1, 2, 3, 4, 5, 0] rfl ?_
        exact L41 N _ _ _ _ _ hg
  have hg := hu
  unfold g_X12_spoiled at hg
  refine j_iload_n hX 1 dX12_spoiled_0 rfl rfl ?_
  refine j_iconst hX dX12_spoiled_1 kc_0 ?_
  refine j_iconst hX dX12_spoiled_2 kc_1 ?_
  refine j_sRO hX (r := fun v => v) [.int x1, .int 0, .int 1] hg (fun v hv => c_X12_in l G N x1 0 1 v hv) gX12_spoiled_X12_in rfl ⟨rfl, rfl⟩ ⟨by decide, by decide, rfl⟩ rfl rfl [] rfl dX12_spoiled_3 rfl rfl ⟨Nat.zero_le _, Nat.zero_le _⟩ (fun v3 hg => ?_)
  refine j_if_ne hX 11 hg dX12_spoiled_6 (by decide) (fun hg => ?_) (fun hg => ?_)
  · refine j_iconst hX dX12_spoiled_9 kc_m1 ?_
    cases hg
    exact hret _ _ dX12_spoiled_10
  · refine j_iconst hX dX12_spoiled_11 kc_0 ?_
    refine j_istore_n hX (lv' := [(2, .int 0), (0, .ref q_this), (1, .int x1)]) dX12_spoiled_12 rfl rfl rfl ?_
    refine j_bipush hX dX12_spoiled_13 kb_m4 ?_
    refine j_istore_n hX (lv' := [(3, .int (-4)), (2, .int 0), (0, .ref q_this), (1, .int x1)]) dX12_spoiled_15 rfl rfl rfl ?_
    refine j_aload_n hX 2 dX12_spoiled_16 rfl rfl ?_
    refine j_get hX 0 2 rfl rfl hinX12 rfl hf_X12_book_13 rfl dX12_spoiled_17 ?_
    refine j_iconst hX dX12_spoiled_20 kc_4 ?_
    refine j_iald hX 1 rfl hg dX12_spoiled_21 (fun hg => ?_)
    refine j_iconst hX dX12_spoiled_22 kc_1 ?_
    refine j_isub hX dX12_spoiled_23 ?_
    refine j_istore hX (lv' := [(4, .int ((f_this_book (4 : Int32).toNatClampNeg) - 1)), (3, .int (-4)), (2, .int 0), (0, .ref q_this), (1, .int x1)]) dX12_spoiled_24 rfl rfl ?_
    refine j_lv [3, 4, 2, 1, 0] rfl ?_
    exact L26 N _ _ _ _ hg
abbrev w_X12_tell (G : jG) (q_this : Nat) (q_this_book : Nat) (q_this_row : Nat) (q_this_tells : Nat) (v_this_text : Value) (v_this_length : Value) (v_this_draft : Value) (v_this_s : Value) (v_this_kept : Value) (v_this_keptMany : Value) (v_this_acts : Value) (v_this_actMany : Value) (v_this_at : Value) (v_this_told : Value) (v_this_place : Value) (v_this_sort : Value) (v_this_minute : Value) (v_this_when : Value) (v_this_isHeard : Value) (v_this_goneBy : Value) (v_this_stand : Value) (v_this_many : Value) (v_this_standing : Value) (f_this_book : (Nat → Int32)) (f_this_row : (Nat → Int32)) (f_this_rowMany : Int32) (f_this_tells : (Nat → Int32)) (f_this_tellMany : Int32) : va_W := [oC q_this 12 [v_this_text, v_this_length, .ref q_this_book, v_this_draft, v_this_s, v_this_kept, v_this_keptMany, v_this_acts, v_this_actMany, .ref q_this_row, .int f_this_rowMany, .ref q_this_tells, .int f_this_tellMany, v_this_at, v_this_told, v_this_place, v_this_sort, v_this_minute, v_this_when, v_this_isHeard, v_this_goneBy, v_this_stand, v_this_many, v_this_standing], aI G q_this_book 78 f_this_book, aI G q_this_row 8 f_this_row, aI G q_this_tells 30 f_this_tells]
def g_X12_tell_b122 (N : Nat) (f_this_book : (Nat → Int32)) (f_this_row : (Nat → Int32)) (f_this_rowMany : Int32) (f_this_tells : (Nat → Int32)) (f_this_tellMany : Int32) : Option (Int32 × (Nat → Int32) × Int32) := some (f_this_tellMany + 1, f_this_tells, f_this_tellMany + 1)
def g_X12_tell_L86 (N : Nat) (f_this_book : (Nat → Int32)) (f_this_row : (Nat → Int32)) (f_this_rowMany : Int32) (k_122 : (Nat → Int32) → Int32 → Option (Int32 × (Nat → Int32) × Int32)) : Nat → (Nat → Int32) → Int32 → Int32 → Option (Int32 × (Nat → Int32) × Int32)
  | 0, _, _, _ => none
  | fu + 1, f_this_tells, f_this_tellMany, x2 => if f_this_rowMany ≤ x2 then k_122 f_this_tells f_this_tellMany else gi x2 8 (gi (((10 * f_this_tellMany) + 2) + x2) 30 (g_X12_tell_L86 N f_this_book f_this_row f_this_rowMany k_122 fu (upd f_this_tells (((10 * f_this_tellMany) + 2) + x2 : Int32).toNatClampNeg (f_this_row x2.toNatClampNeg)) f_this_tellMany (x2 + 1)))
def g_X12_tell_b42 (N : Nat) (f_this_book : (Nat → Int32)) (f_this_row : (Nat → Int32)) (f_this_rowMany : Int32) (f_this_tells : (Nat → Int32)) (f_this_tellMany : Int32) (x1 : Int32) : Option (Int32 × (Nat → Int32) × Int32) := if f_this_tellMany = 3 then some ((-3), f_this_tells, f_this_tellMany) else gi (10 * f_this_tellMany) 30 (gi ((10 * f_this_tellMany) + 1) 30 (g_X12_tell_L86 N f_this_book f_this_row f_this_rowMany (g_X12_tell_b122 N f_this_book f_this_row f_this_rowMany) N (upd (upd f_this_tells (10 * f_this_tellMany : Int32).toNatClampNeg x1) ((10 * f_this_tellMany) + 1 : Int32).toNatClampNeg f_this_rowMany) f_this_tellMany 0))
def g_X12_tell_L12 (N : Nat) (f_this_book : (Nat → Int32)) (f_this_row : (Nat → Int32)) (f_this_rowMany : Int32) (k_42 : (Nat → Int32) → Int32 → Int32 → Option (Int32 × (Nat → Int32) × Int32)) : Nat → (Nat → Int32) → Int32 → Int32 → Int32 → Option (Int32 × (Nat → Int32) × Int32)
  | 0, _, _, _, _ => none
  | fu + 1, f_this_tells, f_this_tellMany, x1, x2 => if f_this_tellMany ≤ x2 then k_42 f_this_tells f_this_tellMany x1 else gi (10 * x2) 30 (if (f_this_tells (10 * x2 : Int32).toNatClampNeg) = x1 then some ((-2), f_this_tells, f_this_tellMany) else g_X12_tell_L12 N f_this_book f_this_row f_this_rowMany k_42 fu f_this_tells f_this_tellMany x1 (x2 + 1))
def g_X12_tell (N : Nat) (f_this_book : (Nat → Int32)) (f_this_row : (Nat → Int32)) (f_this_rowMany : Int32) (f_this_tells : (Nat → Int32)) (f_this_tellMany : Int32) (x1 : Int32) : Option (Int32 × (Nat → Int32) × Int32) := (g_X12_isPlace N f_this_book x1).bind fun v2 => if v2 = 0 then some ((-1), f_this_tells, f_this_tellMany) else g_X12_tell_L12 N f_this_book f_this_row f_this_rowMany (g_X12_tell_b42 N f_this_book f_this_row f_this_rowMany) N f_this_tells f_this_tellMany x1 0
set_option maxHeartbeats 4000000 in
set_option maxRecDepth 100000 in
theorem c_X12_tell (l : Launch) (G : jG) (N : Nat) (q_this : Nat) (q_this_book : Nat) (q_this_row : Nat) (q_this_tells : Nat) (v_this_text : Value) (v_this_length : Value) (v_this_draft : Value) (v_this_s : Value) (v_this_kept : Value) (v_this_keptMany : Value) (v_this_acts : Value) (v_this_actMany : Value) (v_this_at : Value) (v_this_told : Value) (v_this_place : Value) (v_this_sort : Value) (v_this_minute : Value) (v_this_when : Value) (v_this_isHeard : Value) (v_this_goneBy : Value) (v_this_stand : Value) (v_this_many : Value) (v_this_standing : Value) (f_this_book : (Nat → Int32)) (f_this_row : (Nat → Int32)) (f_this_rowMany : Int32) (f_this_tells : (Nat → Int32)) (f_this_tellMany : Int32) (x1 : Int32) (u : Int32 × (Nat → Int32) × Int32) (hu : g_X12_tell N f_this_book f_this_row f_this_rowMany f_this_tells f_this_tellMany x1 = some u) : MetRW l G yX12_tell wsX12_tell ({ frames := 2, cells := 0, slots := 0, locals := 43 } : Room) [.ref q_this, .int x1] (w_X12_tell G q_this q_this_book q_this_row q_this_tells v_this_text v_this_length v_this_draft v_this_s v_this_kept v_this_keptMany v_this_acts v_this_actMany v_this_at v_this_told v_this_place v_this_sort v_this_minute v_this_when v_this_isHeard v_this_goneBy v_this_stand v_this_many v_this_standing f_this_book f_this_row f_this_rowMany f_this_tells f_this_tellMany) (w_X12_tell G q_this q_this_book q_this_row q_this_tells v_this_text v_this_length v_this_draft v_this_s v_this_kept v_this_keptMany v_this_acts v_this_actMany v_this_at v_this_told v_this_place v_this_sort v_this_minute v_this_when v_this_isHeard v_this_goneBy v_this_stand v_this_many v_this_standing f_this_book f_this_row f_this_rowMany u.2.1 u.2.2) u.1 := by
  refine met_rwi (cc := cX12_tell) (maxL := 3) (lv0 := [(0, .ref q_this), (1, .int x1)]) (by decide) rfl rfl rfl rfl (fun X hX hW hret => ?_)
  have hinX12 : ∀ w ∈ u_ws RX12 TX12 24, w ∈ wsX12_tell := by decide +kernel
  have hf_X12_row_28 : Cond.fieldLink RX12 28 (TX12 9).1 (TX12 9).2.1 (TX12 9).2.2.1 ∈ wsX12_tell := by decide +kernel
  have hf_X12_rowMany_112 : Cond.fieldLink RX12 112 (TX12 10).1 (TX12 10).2.1 (TX12 10).2.2.1 ∈ wsX12_tell := by decide +kernel
  have hf_X12_tellMany_115 : Cond.fieldLink RX12 115 (TX12 12).1 (TX12 12).2.1 (TX12 12).2.2.1 ∈ wsX12_tell := by decide +kernel
  have hf_X12_tells_31 : Cond.fieldLink RX12 31 (TX12 11).1 (TX12 11).2.1 (TX12 11).2.2.1 ∈ wsX12_tell := by decide +kernel
  have B122 : ∀ (f_this_tells : (Nat → Int32)) (f_this_tellMany : Int32), g_X12_tell_b122 N f_this_book f_this_row f_this_rowMany f_this_tells f_this_tellMany = some u → J X 0 0 (w_X12_tell G q_this q_this_book q_this_row q_this_tells v_this_text v_this_length v_this_draft v_this_s v_this_kept v_this_keptMany v_this_acts v_this_actMany v_this_at v_this_told v_this_place v_this_sort v_this_minute v_this_when v_this_isHeard v_this_goneBy v_this_stand v_this_many v_this_standing f_this_book f_this_row f_this_rowMany f_this_tells f_this_tellMany) 122 [(0, .ref q_this)] [] := by
    intro f_this_tells f_this_tellMany hg
    unfold g_X12_tell_b122 at hg
    refine j_aload_n hX 0 dX12_tell_122 rfl rfl ?_
    refine j_dup hX dX12_tell_123 rfl ?_
    refine j_get hX 0 12 rfl rfl hinX12 rfl hf_X12_tellMany_115 rfl dX12_tell_124 ?_
    refine j_iconst hX dX12_tell_127 kc_1 ?_
    refine j_iadd hX dX12_tell_128 ?_
    refine j_put hX hW 0 12 rfl rfl hinX12 tyX12 tyX12_ok nmX12 rfl hf_X12_tellMany_115 rfl rfl rfl rfl dX12_tell_129 (ws' := (w_X12_tell G q_this q_this_book q_this_row q_this_tells v_this_text v_this_length v_this_draft v_this_s v_this_kept v_this_keptMany v_this_acts v_this_actMany v_this_at v_this_told v_this_place v_this_sort v_this_minute v_this_when v_this_isHeard v_this_goneBy v_this_stand v_this_many v_this_standing f_this_book f_this_row f_this_rowMany f_this_tells (f_this_tellMany + 1))) rfl ?_
    refine j_aload_n hX 0 dX12_tell_132 rfl rfl ?_
    refine j_get hX 0 12 rfl rfl hinX12 rfl hf_X12_tellMany_115 rfl dX12_tell_133 ?_
    cases hg
    exact hret _ _ dX12_tell_136
  have L86 : ∀ (fu86 : Nat), ∀ (f_this_tells : (Nat → Int32)) (f_this_tellMany : Int32) (x2 : Int32), g_X12_tell_L86 N f_this_book f_this_row f_this_rowMany (g_X12_tell_b122 N f_this_book f_this_row f_this_rowMany) fu86 f_this_tells f_this_tellMany x2 = some u → J X 0 0 (w_X12_tell G q_this q_this_book q_this_row q_this_tells v_this_text v_this_length v_this_draft v_this_s v_this_kept v_this_keptMany v_this_acts v_this_actMany v_this_at v_this_told v_this_place v_this_sort v_this_minute v_this_when v_this_isHeard v_this_goneBy v_this_stand v_this_many v_this_standing f_this_book f_this_row f_this_rowMany f_this_tells f_this_tellMany) 86 [(0, .ref q_this), (2, .int x2)] [] := by
    intro fu86
    induction fu86 with
    | zero => intro f_this_tells f_this_tellMany x2 hg; exact nomatch hg
    | succ fu86 ih86 =>
      intro f_this_tells f_this_tellMany x2 hg
      unfold g_X12_tell_L86 at hg
      refine j_iload_n hX 1 dX12_tell_86 rfl rfl ?_
      refine j_aload_n hX 0 dX12_tell_87 rfl rfl ?_
      refine j_get hX 0 10 rfl rfl hinX12 rfl hf_X12_rowMany_112 rfl dX12_tell_88 ?_
      refine j_icmp_ge hX 122 hg dX12_tell_91 (by decide) (fun hg => ?_) (fun hg => ?_)
      · refine j_lv [0] rfl ?_
        exact B122 _ _ hg
      · refine j_aload_n hX 0 dX12_tell_94 rfl rfl ?_
        refine j_get hX 0 11 rfl rfl hinX12 rfl hf_X12_tells_31 rfl dX12_tell_95 ?_
        refine j_bipush hX dX12_tell_98 kb_10 ?_
        refine j_aload_n hX 0 dX12_tell_100 rfl rfl ?_
        refine j_get hX 0 12 rfl rfl hinX12 rfl hf_X12_tellMany_115 rfl dX12_tell_101 ?_
        refine j_imul hX dX12_tell_104 ?_
        refine j_iconst hX dX12_tell_105 kc_2 ?_
        refine j_iadd hX dX12_tell_106 ?_
        refine j_iload_n hX 1 dX12_tell_107 rfl rfl ?_
        refine j_iadd hX dX12_tell_108 ?_
        refine j_aload_n hX 0 dX12_tell_109 rfl rfl ?_
        refine j_get hX 0 9 rfl rfl hinX12 rfl hf_X12_row_28 rfl dX12_tell_110 ?_
        refine j_iload_n hX 1 dX12_tell_113 rfl rfl ?_
        refine j_iald hX 2 rfl hg dX12_tell_114 (fun hg => ?_)
        refine j_iast hX hW 3 rfl hg dX12_tell_115 (ws' := (w_X12_tell G q_this q_this_book q_this_row q_this_tells v_this_text v_this_length v_this_draft v_this_s v_this_kept v_this_keptMany v_this_acts v_this_actMany v_this_at v_this_told v_this_place v_this_sort v_this_minute v_this_when v_this_isHeard v_this_goneBy v_this_stand v_this_many v_this_standing f_this_book f_this_row f_this_rowMany (upd f_this_tells (((10 * f_this_tellMany) + 2) + x2 : Int32).toNatClampNeg (f_this_row x2.toNatClampNeg)) f_this_tellMany)) rfl (fun hg => ?_)
        refine j_iinc hX 1 (v := x2 + 1) (lv' := [(2, .int (x2 + 1)), (0, .ref q_this)]) dX12_tell_116 rfl (by rw [kc_1]) rfl rfl ?_
        refine j_goto hX 86 dX12_tell_119 (by decide) ?_
        refine j_lv [1, 0] rfl ?_
        exact ih86 _ _ _ hg
  have B42 : ∀ (f_this_tells : (Nat → Int32)) (f_this_tellMany : Int32) (x1 : Int32), g_X12_tell_b42 N f_this_book f_this_row f_this_rowMany f_this_tells f_this_tellMany x1 = some u → J X 0 0 (w_X12_tell G q_this q_this_book q_this_row q_this_tells v_this_text v_this_length v_this_draft v_this_s v_this_kept v_this_keptMany v_this_acts v_this_actMany v_this_at v_this_told v_this_place v_this_sort v_this_minute v_this_when v_this_isHeard v_this_goneBy v_this_stand v_this_many v_this_standing f_this_book f_this_row f_this_rowMany f_this_tells f_this_tellMany) 42 [(0, .ref q_this), (1, .int x1)] [] := by
    intro f_this_tells f_this_tellMany x1 hg
    unfold g_X12_tell_b42 at hg
    refine j_aload_n hX 0 dX12_tell_42 rfl rfl ?_
    refine j_get hX 0 12 rfl rfl hinX12 rfl hf_X12_tellMany_115 rfl dX12_tell_43 ?_
    refine j_iconst hX dX12_tell_46 kc_3 ?_
    refine j_icmp_ne hX 53 hg dX12_tell_47 (by decide) (fun hg => ?_) (fun hg => ?_)
    · refine j_bipush hX dX12_tell_50 kb_m3 ?_
      cases hg
      exact hret _ _ dX12_tell_52
    · refine j_aload_n hX 0 dX12_tell_53 rfl rfl ?_
      refine j_get hX 0 11 rfl rfl hinX12 rfl hf_X12_tells_31 rfl dX12_tell_54 ?_
      refine j_bipush hX dX12_tell_57 kb_10 ?_
      refine j_aload_n hX 0 dX12_tell_59 rfl rfl ?_
      refine j_get hX 0 12 rfl rfl hinX12 rfl hf_X12_tellMany_115 rfl dX12_tell_60 ?_
      refine j_imul hX dX12_tell_63 ?_
      refine j_iload_n hX 1 dX12_tell_64 rfl rfl ?_
      refine j_iast hX hW 3 rfl hg dX12_tell_65 (ws' := (w_X12_tell G q_this q_this_book q_this_row q_this_tells v_this_text v_this_length v_this_draft v_this_s v_this_kept v_this_keptMany v_this_acts v_this_actMany v_this_at v_this_told v_this_place v_this_sort v_this_minute v_this_when v_this_isHeard v_this_goneBy v_this_stand v_this_many v_this_standing f_this_book f_this_row f_this_rowMany (upd f_this_tells (10 * f_this_tellMany : Int32).toNatClampNeg x1) f_this_tellMany)) rfl (fun hg => ?_)
      refine j_aload_n hX 0 dX12_tell_66 rfl rfl ?_
      refine j_get hX 0 11 rfl rfl hinX12 rfl hf_X12_tells_31 rfl dX12_tell_67 ?_
      refine j_bipush hX dX12_tell_70 kb_10 ?_
      refine j_aload_n hX 0 dX12_tell_72 rfl rfl ?_
      refine j_get hX 0 12 rfl rfl hinX12 rfl hf_X12_tellMany_115 rfl dX12_tell_73 ?_
      refine j_imul hX dX12_tell_76 ?_
      refine j_iconst hX dX12_tell_77 kc_1 ?_
      refine j_iadd hX dX12_tell_78 ?_
      refine j_aload_n hX 0 dX12_tell_79 rfl rfl ?_
      refine j_get hX 0 10 rfl rfl hinX12 rfl hf_X12_rowMany_112 rfl dX12_tell_80 ?_
      refine j_iast hX hW 3 rfl hg dX12_tell_83 (ws' := (w_X12_tell G q_this q_this_book q_this_row q_this_tells v_this_text v_this_length v_this_draft v_this_s v_this_kept v_this_keptMany v_this_acts v_this_actMany v_this_at v_this_told v_this_place v_this_sort v_this_minute v_this_when v_this_isHeard v_this_goneBy v_this_stand v_this_many v_this_standing f_this_book f_this_row f_this_rowMany (upd (upd f_this_tells (10 * f_this_tellMany : Int32).toNatClampNeg x1) ((10 * f_this_tellMany) + 1 : Int32).toNatClampNeg f_this_rowMany) f_this_tellMany)) rfl (fun hg => ?_)
      refine j_iconst hX dX12_tell_84 kc_0 ?_
      refine j_istore_n hX (lv' := [(2, .int 0), (0, .ref q_this), (1, .int x1)]) dX12_tell_85 rfl rfl rfl ?_
      refine j_lv [1, 0] rfl ?_
      exact L86 N _ _ _ hg
  have L12 : ∀ (fu12 : Nat), ∀ (f_this_tells : (Nat → Int32)) (f_this_tellMany : Int32) (x1 : Int32) (x2 : Int32), g_X12_tell_L12 N f_this_book f_this_row f_this_rowMany (g_X12_tell_b42 N f_this_book f_this_row f_this_rowMany) fu12 f_this_tells f_this_tellMany x1 x2 = some u → J X 0 0 (w_X12_tell G q_this q_this_book q_this_row q_this_tells v_this_text v_this_length v_this_draft v_this_s v_this_kept v_this_keptMany v_this_acts v_this_actMany v_this_at v_this_told v_this_place v_this_sort v_this_minute v_this_when v_this_isHeard v_this_goneBy v_this_stand v_this_many v_this_standing f_this_book f_this_row f_this_rowMany f_this_tells f_this_tellMany) 12 [(0, .ref q_this), (1, .int x1), (2, .int x2)] [] := by
    intro fu12
    induction fu12 with
    | zero => intro f_this_tells f_this_tellMany x1 x2 hg; exact nomatch hg
    | succ fu12 ih12 =>
      intro f_this_tells f_this_tellMany x1 x2 hg
      unfold g_X12_tell_L12 at hg
      refine j_iload_n hX 2 dX12_tell_12 rfl rfl ?_
      refine j_aload_n hX 0 dX12_tell_13 rfl rfl ?_
      refine j_get hX 0 12 rfl rfl hinX12 rfl hf_X12_tellMany_115 rfl dX12_tell_14 ?_
      refine j_icmp_ge hX 42 hg dX12_tell_17 (by decide) (fun hg => ?_) (fun hg => ?_)
      · refine j_lv [0, 1] rfl ?_
        exact B42 _ _ _ hg
      · refine j_aload_n hX 0 dX12_tell_20 rfl rfl ?_
        refine j_get hX 0 11 rfl rfl hinX12 rfl hf_X12_tells_31 rfl dX12_tell_21 ?_
        refine j_bipush hX dX12_tell_24 kb_10 ?_
        refine j_iload_n hX 2 dX12_tell_26 rfl rfl ?_
        refine j_imul hX dX12_tell_27 ?_
        refine j_iald hX 3 rfl hg dX12_tell_28 (fun hg => ?_)
        refine j_iload_n hX 1 dX12_tell_29 rfl rfl ?_
        refine j_icmp_ne hX 36 hg dX12_tell_30 (by decide) (fun hg => ?_) (fun hg => ?_)
        · refine j_bipush hX dX12_tell_33 kb_m2 ?_
          cases hg
          exact hret _ _ dX12_tell_35
        · refine j_iinc hX 2 (v := x2 + 1) (lv' := [(2, .int (x2 + 1)), (0, .ref q_this), (1, .int x1)]) dX12_tell_36 rfl (by rw [kc_1]) rfl rfl ?_
          refine j_goto hX 12 dX12_tell_39 (by decide) ?_
          refine j_lv [1, 2, 0] rfl ?_
          exact ih12 _ _ _ _ hg
  have hg := hu
  unfold g_X12_tell at hg
  refine j_aload_n hX 0 dX12_tell_0 rfl rfl ?_
  refine j_iload_n hX 1 dX12_tell_1 rfl rfl ?_
  refine j_vRO hX (r := fun v => v) [.int x1] hg (fun v hv => c_X12_isPlace l G N q_this q_this_book v_this_text v_this_length v_this_draft v_this_s v_this_kept v_this_keptMany v_this_acts v_this_actMany (.ref q_this_row) (.int f_this_rowMany) (.ref q_this_tells) (.int f_this_tellMany) v_this_at v_this_told v_this_place v_this_sort v_this_minute v_this_when v_this_isHeard v_this_goneBy v_this_stand v_this_many v_this_standing f_this_book x1 v hv) gX12_tell_X12_isPlace rfl ⟨rfl, rfl⟩ ⟨rfl, by decide, by decide, rfl⟩ rfl rfl [0, 1] rfl rfl rfl dX12_tell_2 rfl rfl ⟨Nat.zero_le _, Nat.zero_le _⟩ (fun v2 hg => ?_)
  refine j_if_ne hX 10 hg dX12_tell_5 (by decide) (fun hg => ?_) (fun hg => ?_)
  · refine j_iconst hX dX12_tell_8 kc_m1 ?_
    cases hg
    exact hret _ _ dX12_tell_9
  · refine j_iconst hX dX12_tell_10 kc_0 ?_
    refine j_istore_n hX (lv' := [(2, .int 0), (0, .ref q_this), (1, .int x1)]) dX12_tell_11 rfl rfl rfl ?_
    refine j_lv [1, 2, 0] rfl ?_
    exact L12 N _ _ _ _ hg
abbrev w_X12_forget (G : jG) (q_this : Nat) (v_this_text : Value) (v_this_length : Value) (v_this_book : Value) (v_this_draft : Value) (v_this_s : Value) (v_this_kept : Value) (v_this_keptMany : Value) (v_this_acts : Value) (v_this_actMany : Value) (v_this_row : Value) (v_this_rowMany : Value) (v_this_tells : Value) (v_this_at : Value) (v_this_told : Value) (v_this_place : Value) (v_this_sort : Value) (v_this_minute : Value) (v_this_when : Value) (v_this_isHeard : Value) (v_this_goneBy : Value) (v_this_stand : Value) (v_this_many : Value) (v_this_standing : Value) (f_this_tellMany : Int32) : va_W := [oC q_this 12 [v_this_text, v_this_length, v_this_book, v_this_draft, v_this_s, v_this_kept, v_this_keptMany, v_this_acts, v_this_actMany, v_this_row, v_this_rowMany, v_this_tells, .int f_this_tellMany, v_this_at, v_this_told, v_this_place, v_this_sort, v_this_minute, v_this_when, v_this_isHeard, v_this_goneBy, v_this_stand, v_this_many, v_this_standing]]
def g_X12_forget (N : Nat) (f_this_tellMany : Int32) : Option (Int32 × Int32) := some (f_this_tellMany, 0)
set_option maxHeartbeats 4000000 in
set_option maxRecDepth 100000 in
theorem c_X12_forget (l : Launch) (G : jG) (N : Nat) (q_this : Nat) (v_this_text : Value) (v_this_length : Value) (v_this_book : Value) (v_this_draft : Value) (v_this_s : Value) (v_this_kept : Value) (v_this_keptMany : Value) (v_this_acts : Value) (v_this_actMany : Value) (v_this_row : Value) (v_this_rowMany : Value) (v_this_tells : Value) (v_this_at : Value) (v_this_told : Value) (v_this_place : Value) (v_this_sort : Value) (v_this_minute : Value) (v_this_when : Value) (v_this_isHeard : Value) (v_this_goneBy : Value) (v_this_stand : Value) (v_this_many : Value) (v_this_standing : Value) (f_this_tellMany : Int32) (u : Int32 × Int32) (hu : g_X12_forget N f_this_tellMany = some u) : MetRW l G yX12_forget wsX12_forget ({ frames := 0, cells := 0, slots := 0, locals := 0 } : Room) [.ref q_this] (w_X12_forget G q_this v_this_text v_this_length v_this_book v_this_draft v_this_s v_this_kept v_this_keptMany v_this_acts v_this_actMany v_this_row v_this_rowMany v_this_tells v_this_at v_this_told v_this_place v_this_sort v_this_minute v_this_when v_this_isHeard v_this_goneBy v_this_stand v_this_many v_this_standing f_this_tellMany) (w_X12_forget G q_this v_this_text v_this_length v_this_book v_this_draft v_this_s v_this_kept v_this_keptMany v_this_acts v_this_actMany v_this_row v_this_rowMany v_this_tells v_this_at v_this_told v_this_place v_this_sort v_this_minute v_this_when v_this_isHeard v_this_goneBy v_this_stand v_this_many v_this_standing u.2) u.1 := by
  refine met_rwi (cc := cX12_forget) (maxL := 2) (lv0 := [(0, .ref q_this)]) (by decide) rfl rfl rfl rfl (fun X hX hW hret => ?_)
  have hinX12 : ∀ w ∈ u_ws RX12 TX12 24, w ∈ wsX12_forget := by decide +kernel
  have hf_X12_tellMany_115 : Cond.fieldLink RX12 115 (TX12 12).1 (TX12 12).2.1 (TX12 12).2.2.1 ∈ wsX12_forget := by decide +kernel
  have hg := hu
  unfold g_X12_forget at hg
  refine j_aload_n hX 0 dX12_forget_0 rfl rfl ?_
  refine j_get hX 0 12 rfl rfl hinX12 rfl hf_X12_tellMany_115 rfl dX12_forget_1 ?_
  refine j_istore_n hX (lv' := [(1, .int f_this_tellMany), (0, .ref q_this)]) dX12_forget_4 rfl rfl rfl ?_
  refine j_aload_n hX 1 dX12_forget_5 rfl rfl ?_
  refine j_iconst hX dX12_forget_6 kc_0 ?_
  refine j_put hX hW 0 12 rfl rfl hinX12 tyX12 tyX12_ok nmX12 rfl hf_X12_tellMany_115 rfl rfl rfl rfl dX12_forget_7 (ws' := (w_X12_forget G q_this v_this_text v_this_length v_this_book v_this_draft v_this_s v_this_kept v_this_keptMany v_this_acts v_this_actMany v_this_row v_this_rowMany v_this_tells v_this_at v_this_told v_this_place v_this_sort v_this_minute v_this_when v_this_isHeard v_this_goneBy v_this_stand v_this_many v_this_standing 0)) rfl ?_
  refine j_iload_n hX 0 dX12_forget_10 rfl rfl ?_
  cases hg
  exact hret _ _ dX12_forget_11
abbrev w_X12_isSo (G : jG) (q_this : Nat) (q_this_book : Nat) (q_this_s : Nat) (q_this_tells : Nat) (q_this_place : Nat) (q_this_sort : Nat) (q_this_minute : Nat) (q_this_when : Nat) (q_this_isHeard : Nat) (q_this_goneBy : Nat) (q_this_stand : Nat) (v_this_text : Value) (v_this_length : Value) (v_this_draft : Value) (v_this_kept : Value) (v_this_keptMany : Value) (v_this_acts : Value) (v_this_actMany : Value) (v_this_row : Value) (v_this_rowMany : Value) (v_this_at : Value) (v_this_told : Value) (f_this_book : (Nat → Int32)) (f_this_s : (Nat → Int32)) (f_this_tells : (Nat → Int32)) (f_this_tellMany : Int32) (f_this_place : (Nat → Int32)) (f_this_sort : (Nat → Int32)) (f_this_minute : (Nat → Int32)) (f_this_when : (Nat → Int32)) (f_this_isHeard : (Nat → Int32)) (f_this_goneBy : (Nat → Int32)) (f_this_stand : (Nat → Int32)) (f_this_many : Int32) (f_this_standing : Int32) : va_W := [oC q_this 12 [v_this_text, v_this_length, .ref q_this_book, v_this_draft, .ref q_this_s, v_this_kept, v_this_keptMany, v_this_acts, v_this_actMany, v_this_row, v_this_rowMany, .ref q_this_tells, .int f_this_tellMany, v_this_at, v_this_told, .ref q_this_place, .ref q_this_sort, .ref q_this_minute, .ref q_this_when, .ref q_this_isHeard, .ref q_this_goneBy, .ref q_this_stand, .int f_this_many, .int f_this_standing], aI G q_this_book 78 f_this_book, aI G q_this_s 74 f_this_s, aI G q_this_tells 30 f_this_tells, aI G q_this_place 128 f_this_place, aI G q_this_sort 128 f_this_sort, aI G q_this_minute 128 f_this_minute, aI G q_this_when 128 f_this_when, aZ G q_this_isHeard 128 f_this_isHeard, aI G q_this_goneBy 128 f_this_goneBy, aI G q_this_stand 128 f_this_stand]
def g_X12_isSo_b119 (N : Nat) (f_this_book : (Nat → Int32)) (f_this_s : (Nat → Int32)) (f_this_tells : (Nat → Int32)) (f_this_tellMany : Int32) (f_this_place : (Nat → Int32)) (f_this_sort : (Nat → Int32)) (f_this_minute : (Nat → Int32)) (f_this_many : Int32) (rec_4 : (Nat → Int32) → (Nat → Int32) → (Nat → Int32) → (Nat → Int32) → Int32 → Int32 → Int32 → Option (Int32 × (Nat → Int32) × (Nat → Int32) × (Nat → Int32) × (Nat → Int32) × Int32)) (f_this_when : (Nat → Int32)) (f_this_isHeard : (Nat → Int32)) (f_this_goneBy : (Nat → Int32)) (f_this_stand : (Nat → Int32)) (f_this_standing : Int32) (x1 : Int32) (x2 : Int32) : Option (Int32 × (Nat → Int32) × (Nat → Int32) × (Nat → Int32) × (Nat → Int32) × Int32) := rec_4 f_this_when f_this_isHeard f_this_goneBy f_this_stand f_this_standing x1 (x2 + 1)
def g_X12_isSo_b112 (N : Nat) (f_this_book : (Nat → Int32)) (f_this_s : (Nat → Int32)) (f_this_tells : (Nat → Int32)) (f_this_tellMany : Int32) (f_this_place : (Nat → Int32)) (f_this_sort : (Nat → Int32)) (f_this_minute : (Nat → Int32)) (f_this_many : Int32) (rec_61 : (Nat → Int32) → (Nat → Int32) → (Nat → Int32) → (Nat → Int32) → Int32 → Int32 → Int32 → Int32 → Option (Int32 × (Nat → Int32) × (Nat → Int32) × (Nat → Int32) × (Nat → Int32) × Int32)) (f_this_when : (Nat → Int32)) (f_this_isHeard : (Nat → Int32)) (f_this_goneBy : (Nat → Int32)) (f_this_stand : (Nat → Int32)) (f_this_standing : Int32) (x2 : Int32) (x3 : Int32) (s0 : Int32) : Option (Int32 × (Nat → Int32) × (Nat → Int32) × (Nat → Int32) × (Nat → Int32) × Int32) := rec_61 f_this_when f_this_isHeard f_this_goneBy f_this_stand f_this_standing s0 x2 (x3 + 1)
def g_X12_isSo_L61 (N : Nat) (f_this_book : (Nat → Int32)) (f_this_s : (Nat → Int32)) (f_this_tells : (Nat → Int32)) (f_this_tellMany : Int32) (f_this_place : (Nat → Int32)) (f_this_sort : (Nat → Int32)) (f_this_minute : (Nat → Int32)) (f_this_many : Int32) (k_119 : (Nat → Int32) → (Nat → Int32) → (Nat → Int32) → (Nat → Int32) → Int32 → Int32 → Int32 → Option (Int32 × (Nat → Int32) × (Nat → Int32) × (Nat → Int32) × (Nat → Int32) × Int32)) : Nat → (Nat → Int32) → (Nat → Int32) → (Nat → Int32) → (Nat → Int32) → Int32 → Int32 → Int32 → Int32 → Option (Int32 × (Nat → Int32) × (Nat → Int32) × (Nat → Int32) × (Nat → Int32) × Int32)
  | 0, _, _, _, _, _, _, _, _ => none
  | fu + 1, f_this_when, f_this_isHeard, f_this_goneBy, f_this_stand, f_this_standing, x1, x2, x3 => gi ((10 * x2) + 1) 30 (if (f_this_tells ((10 * x2) + 1 : Int32).toNatClampNeg) ≤ x3 then k_119 f_this_when f_this_isHeard f_this_goneBy f_this_stand f_this_standing x1 x2 else if x1 = 0 then k_119 f_this_when f_this_isHeard f_this_goneBy f_this_stand f_this_standing x1 x2 else gi x3 128 (gi (f_this_stand x3.toNatClampNeg) 128 (gi (((10 * x2) + 2) + x3) 30 (if (f_this_sort (f_this_stand x3.toNatClampNeg : Int32).toNatClampNeg) = (f_this_tells (((10 * x2) + 2) + x3 : Int32).toNatClampNeg) then g_X12_isSo_b112 N f_this_book f_this_s f_this_tells f_this_tellMany f_this_place f_this_sort f_this_minute f_this_many (g_X12_isSo_L61 N f_this_book f_this_s f_this_tells f_this_tellMany f_this_place f_this_sort f_this_minute f_this_many k_119 fu) f_this_when f_this_isHeard f_this_goneBy f_this_stand f_this_standing x2 x3 1 else g_X12_isSo_b112 N f_this_book f_this_s f_this_tells f_this_tellMany f_this_place f_this_sort f_this_minute f_this_many (g_X12_isSo_L61 N f_this_book f_this_s f_this_tells f_this_tellMany f_this_place f_this_sort f_this_minute f_this_many k_119 fu) f_this_when f_this_isHeard f_this_goneBy f_this_stand f_this_standing x2 x3 0))))
def g_X12_isSo_b58 (N : Nat) (f_this_book : (Nat → Int32)) (f_this_s : (Nat → Int32)) (f_this_tells : (Nat → Int32)) (f_this_tellMany : Int32) (f_this_place : (Nat → Int32)) (f_this_sort : (Nat → Int32)) (f_this_minute : (Nat → Int32)) (f_this_many : Int32) (rec_4 : (Nat → Int32) → (Nat → Int32) → (Nat → Int32) → (Nat → Int32) → Int32 → Int32 → Int32 → Option (Int32 × (Nat → Int32) × (Nat → Int32) × (Nat → Int32) × (Nat → Int32) × Int32)) (f_this_when : (Nat → Int32)) (f_this_isHeard : (Nat → Int32)) (f_this_goneBy : (Nat → Int32)) (f_this_stand : (Nat → Int32)) (f_this_standing : Int32) (x2 : Int32) (s0 : Int32) : Option (Int32 × (Nat → Int32) × (Nat → Int32) × (Nat → Int32) × (Nat → Int32) × Int32) := g_X12_isSo_L61 N f_this_book f_this_s f_this_tells f_this_tellMany f_this_place f_this_sort f_this_minute f_this_many (g_X12_isSo_b119 N f_this_book f_this_s f_this_tells f_this_tellMany f_this_place f_this_sort f_this_minute f_this_many rec_4) N f_this_when f_this_isHeard f_this_goneBy f_this_stand f_this_standing s0 x2 0
def g_X12_isSo_L4 (N : Nat) (f_this_book : (Nat → Int32)) (f_this_s : (Nat → Int32)) (f_this_tells : (Nat → Int32)) (f_this_tellMany : Int32) (f_this_place : (Nat → Int32)) (f_this_sort : (Nat → Int32)) (f_this_minute : (Nat → Int32)) (f_this_many : Int32) : Nat → (Nat → Int32) → (Nat → Int32) → (Nat → Int32) → (Nat → Int32) → Int32 → Int32 → Int32 → Option (Int32 × (Nat → Int32) × (Nat → Int32) × (Nat → Int32) × (Nat → Int32) × Int32)
  | 0, _, _, _, _, _, _, _ => none
  | fu + 1, f_this_when, f_this_isHeard, f_this_goneBy, f_this_stand, f_this_standing, x1, x2 => if f_this_tellMany ≤ x2 then gb x1 (some (x1, f_this_when, f_this_isHeard, f_this_goneBy, f_this_stand, f_this_standing)) else if x1 = 0 then gb x1 (some (x1, f_this_when, f_this_isHeard, f_this_goneBy, f_this_stand, f_this_standing)) else gi (10 * x2) 30 (gi 1 74 ((g_X12_plays N f_this_book f_this_place f_this_sort f_this_minute f_this_many f_this_when f_this_isHeard f_this_goneBy f_this_stand f_this_standing (f_this_tells (10 * x2 : Int32).toNatClampNeg) (f_this_s (1 : Int32).toNatClampNeg)).bind fun v32 => gi ((10 * x2) + 1) 30 (if v32.2.2.2.2 = (f_this_tells ((10 * x2) + 1 : Int32).toNatClampNeg) then g_X12_isSo_b58 N f_this_book f_this_s f_this_tells f_this_tellMany f_this_place f_this_sort f_this_minute f_this_many (g_X12_isSo_L4 N f_this_book f_this_s f_this_tells f_this_tellMany f_this_place f_this_sort f_this_minute f_this_many fu) v32.1 v32.2.1 v32.2.2.1 v32.2.2.2.1 v32.2.2.2.2 x2 1 else g_X12_isSo_b58 N f_this_book f_this_s f_this_tells f_this_tellMany f_this_place f_this_sort f_this_minute f_this_many (g_X12_isSo_L4 N f_this_book f_this_s f_this_tells f_this_tellMany f_this_place f_this_sort f_this_minute f_this_many fu) v32.1 v32.2.1 v32.2.2.1 v32.2.2.2.1 v32.2.2.2.2 x2 0)))
def g_X12_isSo (N : Nat) (f_this_book : (Nat → Int32)) (f_this_s : (Nat → Int32)) (f_this_tells : (Nat → Int32)) (f_this_tellMany : Int32) (f_this_place : (Nat → Int32)) (f_this_sort : (Nat → Int32)) (f_this_minute : (Nat → Int32)) (f_this_many : Int32) (f_this_when : (Nat → Int32)) (f_this_isHeard : (Nat → Int32)) (f_this_goneBy : (Nat → Int32)) (f_this_stand : (Nat → Int32)) (f_this_standing : Int32) : Option (Int32 × (Nat → Int32) × (Nat → Int32) × (Nat → Int32) × (Nat → Int32) × Int32) := g_X12_isSo_L4 N f_this_book f_this_s f_this_tells f_this_tellMany f_this_place f_this_sort f_this_minute f_this_many N f_this_when f_this_isHeard f_this_goneBy f_this_stand f_this_standing 1 0
set_option maxRecDepth 100000 in
theorem ax_X12_isSo_32 (c0 c1 c2 c3 c4 c5 c6 c7 c8 c9 c10 d0 d1 d2 d3 d4 d5 d6 d7 d8 : Nat × va_E) : [0, 1, 4, 5, 6, 7, 8, 9, 10].map (fun i => ([c0, c1, c2, c3, c4, c5, c6, c7, c8, c9, c10] : va_W)[i]?) = List.map some ([c0, c1, c4, c5, c6, c7, c8, c9, c10] : va_W) ∧ ([d0, d1, c2, c3, d2, d3, d4, d5, d6, d7, d8] : va_W).length = 11 ∧ [0, 1, 4, 5, 6, 7, 8, 9, 10].map (fun i => ([d0, d1, c2, c3, d2, d3, d4, d5, d6, d7, d8] : va_W)[i]?) = List.map some ([d0, d1, d2, d3, d4, d5, d6, d7, d8] : va_W) ∧ ([2, 3] : List Nat).map (fun i => ([d0, d1, c2, c3, d2, d3, d4, d5, d6, d7, d8] : va_W)[i]?) = ([2, 3] : List Nat).map (fun i => ([c0, c1, c2, c3, c4, c5, c6, c7, c8, c9, c10] : va_W)[i]?) := ⟨rfl, rfl, rfl, rfl⟩
set_option maxRecDepth 100000 in
theorem ax_X12_isSo_32c (c0 c1 c2 c3 c4 c5 c6 c7 c8 c9 c10 : Nat × va_E) : [0, 1, 4, 5, 6, 7, 8, 9, 10].map (fun i => ([c0, c1, c2, c3, c4, c5, c6, c7, c8, c9, c10] : va_W)[i]?) = List.map some ([c0, c1, c4, c5, c6, c7, c8, c9, c10] : va_W) := rfl
set_option maxHeartbeats 4000000 in
set_option maxRecDepth 100000 in
theorem c_X12_isSo (l : Launch) (G : jG) (N : Nat) (q_this : Nat) (q_this_book : Nat) (q_this_s : Nat) (q_this_tells : Nat) (q_this_place : Nat) (q_this_sort : Nat) (q_this_minute : Nat) (q_this_when : Nat) (q_this_isHeard : Nat) (q_this_goneBy : Nat) (q_this_stand : Nat) (v_this_text : Value) (v_this_length : Value) (v_this_draft : Value) (v_this_kept : Value) (v_this_keptMany : Value) (v_this_acts : Value) (v_this_actMany : Value) (v_this_row : Value) (v_this_rowMany : Value) (v_this_at : Value) (v_this_told : Value) (f_this_book : (Nat → Int32)) (f_this_s : (Nat → Int32)) (f_this_tells : (Nat → Int32)) (f_this_tellMany : Int32) (f_this_place : (Nat → Int32)) (f_this_sort : (Nat → Int32)) (f_this_minute : (Nat → Int32)) (f_this_when : (Nat → Int32)) (f_this_isHeard : (Nat → Int32)) (f_this_goneBy : (Nat → Int32)) (f_this_stand : (Nat → Int32)) (f_this_many : Int32) (f_this_standing : Int32) (u : Int32 × (Nat → Int32) × (Nat → Int32) × (Nat → Int32) × (Nat → Int32) × Int32) (hu : g_X12_isSo N f_this_book f_this_s f_this_tells f_this_tellMany f_this_place f_this_sort f_this_minute f_this_many f_this_when f_this_isHeard f_this_goneBy f_this_stand f_this_standing = some u) : MetRW l G yX12_isSo wsX12_isSo ({ frames := 3, cells := 0, slots := 0, locals := 72 } : Room) [.ref q_this] (w_X12_isSo G q_this q_this_book q_this_s q_this_tells q_this_place q_this_sort q_this_minute q_this_when q_this_isHeard q_this_goneBy q_this_stand v_this_text v_this_length v_this_draft v_this_kept v_this_keptMany v_this_acts v_this_actMany v_this_row v_this_rowMany v_this_at v_this_told f_this_book f_this_s f_this_tells f_this_tellMany f_this_place f_this_sort f_this_minute f_this_when f_this_isHeard f_this_goneBy f_this_stand f_this_many f_this_standing) (w_X12_isSo G q_this q_this_book q_this_s q_this_tells q_this_place q_this_sort q_this_minute q_this_when q_this_isHeard q_this_goneBy q_this_stand v_this_text v_this_length v_this_draft v_this_kept v_this_keptMany v_this_acts v_this_actMany v_this_row v_this_rowMany v_this_at v_this_told f_this_book f_this_s f_this_tells f_this_tellMany f_this_place f_this_sort f_this_minute u.2.1 u.2.2.1 u.2.2.2.1 u.2.2.2.2.1 f_this_many u.2.2.2.2.2) u.1 := by
  refine met_rwz (cc := cX12_isSo) (maxL := 4) (lv0 := [(0, .ref q_this)]) (by decide) rfl rfl rfl rfl (fun X hX hW hret => ?_)
  have hinX12 : ∀ w ∈ u_ws RX12 TX12 24, w ∈ wsX12_isSo := by decide +kernel
  have hf_X12_s_19 : Cond.fieldLink RX12 19 (TX12 4).1 (TX12 4).2.1 (TX12 4).2.2.1 ∈ wsX12_isSo := by decide +kernel
  have hf_X12_sort_40 : Cond.fieldLink RX12 40 (TX12 16).1 (TX12 16).2.1 (TX12 16).2.2.1 ∈ wsX12_isSo := by decide +kernel
  have hf_X12_stand_56 : Cond.fieldLink RX12 56 (TX12 21).1 (TX12 21).2.1 (TX12 21).2.2.1 ∈ wsX12_isSo := by decide +kernel
  have hf_X12_standing_134 : Cond.fieldLink RX12 134 (TX12 23).1 (TX12 23).2.1 (TX12 23).2.2.1 ∈ wsX12_isSo := by decide +kernel
  have hf_X12_tellMany_115 : Cond.fieldLink RX12 115 (TX12 12).1 (TX12 12).2.1 (TX12 12).2.2.1 ∈ wsX12_isSo := by decide +kernel
  have hf_X12_tells_31 : Cond.fieldLink RX12 31 (TX12 11).1 (TX12 11).2.1 (TX12 11).2.2.1 ∈ wsX12_isSo := by decide +kernel
  have L4 : ∀ (fu4 : Nat), ∀ (f_this_when : (Nat → Int32)) (f_this_isHeard : (Nat → Int32)) (f_this_goneBy : (Nat → Int32)) (f_this_stand : (Nat → Int32)) (f_this_standing : Int32) (x1 : Int32) (x2 : Int32), g_X12_isSo_L4 N f_this_book f_this_s f_this_tells f_this_tellMany f_this_place f_this_sort f_this_minute f_this_many fu4 f_this_when f_this_isHeard f_this_goneBy f_this_stand f_this_standing x1 x2 = some u → J X 0 0 (w_X12_isSo G q_this q_this_book q_this_s q_this_tells q_this_place q_this_sort q_this_minute q_this_when q_this_isHeard q_this_goneBy q_this_stand v_this_text v_this_length v_this_draft v_this_kept v_this_keptMany v_this_acts v_this_actMany v_this_row v_this_rowMany v_this_at v_this_told f_this_book f_this_s f_this_tells f_this_tellMany f_this_place f_this_sort f_this_minute f_this_when f_this_isHeard f_this_goneBy f_this_stand f_this_many f_this_standing) 4 [(0, .ref q_this), (1, .int x1), (2, .int x2)] [] := by
    intro fu4
    induction fu4 with
    | zero => intro f_this_when f_this_isHeard f_this_goneBy f_this_stand f_this_standing x1 x2 hg; exact nomatch hg
    | succ fu4 ih4 =>
      have B119 : ∀ (f_this_when : (Nat → Int32)) (f_this_isHeard : (Nat → Int32)) (f_this_goneBy : (Nat → Int32)) (f_this_stand : (Nat → Int32)) (f_this_standing : Int32) (x1 : Int32) (x2 : Int32), g_X12_isSo_b119 N f_this_book f_this_s f_this_tells f_this_tellMany f_this_place f_this_sort f_this_minute f_this_many (g_X12_isSo_L4 N f_this_book f_this_s f_this_tells f_this_tellMany f_this_place f_this_sort f_this_minute f_this_many fu4) f_this_when f_this_isHeard f_this_goneBy f_this_stand f_this_standing x1 x2 = some u → J X 0 0 (w_X12_isSo G q_this q_this_book q_this_s q_this_tells q_this_place q_this_sort q_this_minute q_this_when q_this_isHeard q_this_goneBy q_this_stand v_this_text v_this_length v_this_draft v_this_kept v_this_keptMany v_this_acts v_this_actMany v_this_row v_this_rowMany v_this_at v_this_told f_this_book f_this_s f_this_tells f_this_tellMany f_this_place f_this_sort f_this_minute f_this_when f_this_isHeard f_this_goneBy f_this_stand f_this_many f_this_standing) 119 [(0, .ref q_this), (1, .int x1), (2, .int x2)] [] := by
        intro f_this_when f_this_isHeard f_this_goneBy f_this_stand f_this_standing x1 x2 hg
        unfold g_X12_isSo_b119 at hg
        refine j_iinc hX 2 (v := x2 + 1) (lv' := [(2, .int (x2 + 1)), (0, .ref q_this), (1, .int x1)]) dX12_isSo_119 rfl (by rw [kc_1]) rfl rfl ?_
        refine j_goto hX 4 dX12_isSo_122 (by decide) ?_
        refine j_lv [1, 2, 0] rfl ?_
        exact ih4 _ _ _ _ _ _ _ hg
      have L61 : ∀ (fu61 : Nat), ∀ (f_this_when : (Nat → Int32)) (f_this_isHeard : (Nat → Int32)) (f_this_goneBy : (Nat → Int32)) (f_this_stand : (Nat → Int32)) (f_this_standing : Int32) (x1 : Int32) (x2 : Int32) (x3 : Int32), g_X12_isSo_L61 N f_this_book f_this_s f_this_tells f_this_tellMany f_this_place f_this_sort f_this_minute f_this_many (g_X12_isSo_b119 N f_this_book f_this_s f_this_tells f_this_tellMany f_this_place f_this_sort f_this_minute f_this_many (g_X12_isSo_L4 N f_this_book f_this_s f_this_tells f_this_tellMany f_this_place f_this_sort f_this_minute f_this_many fu4)) fu61 f_this_when f_this_isHeard f_this_goneBy f_this_stand f_this_standing x1 x2 x3 = some u → J X 0 0 (w_X12_isSo G q_this q_this_book q_this_s q_this_tells q_this_place q_this_sort q_this_minute q_this_when q_this_isHeard q_this_goneBy q_this_stand v_this_text v_this_length v_this_draft v_this_kept v_this_keptMany v_this_acts v_this_actMany v_this_row v_this_rowMany v_this_at v_this_told f_this_book f_this_s f_this_tells f_this_tellMany f_this_place f_this_sort f_this_minute f_this_when f_this_isHeard f_this_goneBy f_this_stand f_this_many f_this_standing) 61 [(0, .ref q_this), (1, .int x1), (2, .int x2), (3, .int x3)] [] := by
        intro fu61
        induction fu61 with
        | zero => intro f_this_when f_this_isHeard f_this_goneBy f_this_stand f_this_standing x1 x2 x3 hg; exact nomatch hg
        | succ fu61 ih61 =>
          have B112 : ∀ (f_this_when : (Nat → Int32)) (f_this_isHeard : (Nat → Int32)) (f_this_goneBy : (Nat → Int32)) (f_this_stand : (Nat → Int32)) (f_this_standing : Int32) (x2 : Int32) (x3 : Int32) (s0 : Int32), g_X12_isSo_b112 N f_this_book f_this_s f_this_tells f_this_tellMany f_this_place f_this_sort f_this_minute f_this_many (g_X12_isSo_L61 N f_this_book f_this_s f_this_tells f_this_tellMany f_this_place f_this_sort f_this_minute f_this_many (g_X12_isSo_b119 N f_this_book f_this_s f_this_tells f_this_tellMany f_this_place f_this_sort f_this_minute f_this_many (g_X12_isSo_L4 N f_this_book f_this_s f_this_tells f_this_tellMany f_this_place f_this_sort f_this_minute f_this_many fu4)) fu61) f_this_when f_this_isHeard f_this_goneBy f_this_stand f_this_standing x2 x3 s0 = some u → J X 0 0 (w_X12_isSo G q_this q_this_book q_this_s q_this_tells q_this_place q_this_sort q_this_minute q_this_when q_this_isHeard q_this_goneBy q_this_stand v_this_text v_this_length v_this_draft v_this_kept v_this_keptMany v_this_acts v_this_actMany v_this_row v_this_rowMany v_this_at v_this_told f_this_book f_this_s f_this_tells f_this_tellMany f_this_place f_this_sort f_this_minute f_this_when f_this_isHeard f_this_goneBy f_this_stand f_this_many f_this_standing) 112 [(0, .ref q_this), (2, .int x2), (3, .int x3)] [.int s0] := by
            intro f_this_when f_this_isHeard f_this_goneBy f_this_stand f_this_standing x2 x3 s0 hg
            unfold g_X12_isSo_b112 at hg
            refine j_istore_n hX (lv' := [(1, .int s0), (0, .ref q_this), (2, .int x2), (3, .int x3)]) dX12_isSo_112 rfl rfl rfl ?_
            refine j_iinc hX 3 (v := x3 + 1) (lv' := [(3, .int (x3 + 1)), (1, .int s0), (0, .ref q_this), (2, .int x2)]) dX12_isSo_113 rfl (by rw [kc_1]) rfl rfl ?_
            refine j_goto hX 61 dX12_isSo_116 (by decide) ?_
            refine j_lv [2, 1, 3, 0] rfl ?_
            exact ih61 _ _ _ _ _ _ _ _ hg
          intro f_this_when f_this_isHeard f_this_goneBy f_this_stand f_this_standing x1 x2 x3 hg
          unfold g_X12_isSo_L61 at hg
          refine j_iload_n hX 3 dX12_isSo_61 rfl rfl ?_
          refine j_aload_n hX 0 dX12_isSo_62 rfl rfl ?_
          refine j_get hX 0 11 rfl rfl hinX12 rfl hf_X12_tells_31 rfl dX12_isSo_63 ?_
          refine j_bipush hX dX12_isSo_66 kb_10 ?_
          refine j_iload_n hX 2 dX12_isSo_68 rfl rfl ?_
          refine j_imul hX dX12_isSo_69 ?_
          refine j_iconst hX dX12_isSo_70 kc_1 ?_
          refine j_iadd hX dX12_isSo_71 ?_
          refine j_iald hX 3 rfl hg dX12_isSo_72 (fun hg => ?_)
          refine j_icmp_ge hX 119 hg dX12_isSo_73 (by decide) (fun hg => ?_) (fun hg => ?_)
          · refine j_lv [0, 1, 2] rfl ?_
            exact B119 _ _ _ _ _ _ _ hg
          · refine j_iload_n hX 1 dX12_isSo_76 rfl rfl ?_
            refine j_if_eq hX 119 hg dX12_isSo_77 (by decide) (fun hg => ?_) (fun hg => ?_)
            · refine j_lv [0, 1, 2] rfl ?_
              exact B119 _ _ _ _ _ _ _ hg
            · refine j_aload_n hX 0 dX12_isSo_80 rfl rfl ?_
              refine j_get hX 0 16 rfl rfl hinX12 rfl hf_X12_sort_40 rfl dX12_isSo_81 ?_
              refine j_aload_n hX 0 dX12_isSo_84 rfl rfl ?_
              refine j_get hX 0 21 rfl rfl hinX12 rfl hf_X12_stand_56 rfl dX12_isSo_85 ?_
              refine j_iload_n hX 3 dX12_isSo_88 rfl rfl ?_
              refine j_iald hX 10 rfl hg dX12_isSo_89 (fun hg => ?_)
              refine j_iald hX 5 rfl hg dX12_isSo_90 (fun hg => ?_)
              refine j_aload_n hX 0 dX12_isSo_91 rfl rfl ?_
              refine j_get hX 0 11 rfl rfl hinX12 rfl hf_X12_tells_31 rfl dX12_isSo_92 ?_
              refine j_bipush hX dX12_isSo_95 kb_10 ?_
              refine j_iload_n hX 2 dX12_isSo_97 rfl rfl ?_
              refine j_imul hX dX12_isSo_98 ?_
              refine j_iconst hX dX12_isSo_99 kc_2 ?_
              refine j_iadd hX dX12_isSo_100 ?_
              refine j_iload_n hX 3 dX12_isSo_101 rfl rfl ?_
              refine j_iadd hX dX12_isSo_102 ?_
              refine j_iald hX 3 rfl hg dX12_isSo_103 (fun hg => ?_)
              refine j_icmp_ne hX 111 hg dX12_isSo_104 (by decide) (fun hg => ?_) (fun hg => ?_)
              · refine j_iconst hX dX12_isSo_107 kc_1 ?_
                refine j_goto hX 112 dX12_isSo_108 (by decide) ?_
                refine j_lv [0, 2, 3] rfl ?_
                exact B112 _ _ _ _ _ _ _ _ hg
              · refine j_iconst hX dX12_isSo_111 kc_0 ?_
                refine j_lv [0, 2, 3] rfl ?_
                exact B112 _ _ _ _ _ _ _ _ hg
      have B58 : ∀ (f_this_when : (Nat → Int32)) (f_this_isHeard : (Nat → Int32)) (f_this_goneBy : (Nat → Int32)) (f_this_stand : (Nat → Int32)) (f_this_standing : Int32) (x2 : Int32) (s0 : Int32), g_X12_isSo_b58 N f_this_book f_this_s f_this_tells f_this_tellMany f_this_place f_this_sort f_this_minute f_this_many (g_X12_isSo_L4 N f_this_book f_this_s f_this_tells f_this_tellMany f_this_place f_this_sort f_this_minute f_this_many fu4) f_this_when f_this_isHeard f_this_goneBy f_this_stand f_this_standing x2 s0 = some u → J X 0 0 (w_X12_isSo G q_this q_this_book q_this_s q_this_tells q_this_place q_this_sort q_this_minute q_this_when q_this_isHeard q_this_goneBy q_this_stand v_this_text v_this_length v_this_draft v_this_kept v_this_keptMany v_this_acts v_this_actMany v_this_row v_this_rowMany v_this_at v_this_told f_this_book f_this_s f_this_tells f_this_tellMany f_this_place f_this_sort f_this_minute f_this_when f_this_isHeard f_this_goneBy f_this_stand f_this_many f_this_standing) 58 [(0, .ref q_this), (2, .int x2)] [.int s0] := by
        intro f_this_when f_this_isHeard f_this_goneBy f_this_stand f_this_standing x2 s0 hg
        unfold g_X12_isSo_b58 at hg
        refine j_istore_n hX (lv' := [(1, .int s0), (0, .ref q_this), (2, .int x2)]) dX12_isSo_58 rfl rfl rfl ?_
        refine j_iconst hX dX12_isSo_59 kc_0 ?_
        refine j_istore_n hX (lv' := [(3, .int 0), (1, .int s0), (0, .ref q_this), (2, .int x2)]) dX12_isSo_60 rfl rfl rfl ?_
        refine j_lv [2, 1, 3, 0] rfl ?_
        exact L61 N _ _ _ _ _ _ _ _ hg
      intro f_this_when f_this_isHeard f_this_goneBy f_this_stand f_this_standing x1 x2 hg
      unfold g_X12_isSo_L4 at hg
      refine j_iload_n hX 2 dX12_isSo_4 rfl rfl ?_
      refine j_aload_n hX 0 dX12_isSo_5 rfl rfl ?_
      refine j_get hX 0 12 rfl rfl hinX12 rfl hf_X12_tellMany_115 rfl dX12_isSo_6 ?_
      refine j_icmp_ge hX 125 hg dX12_isSo_9 (by decide) (fun hg => ?_) (fun hg => ?_)
      · refine j_iload_n hX 1 dX12_isSo_125 rfl rfl ?_
        obtain ⟨hb, hg⟩ := gb_some hg
        cases hg
        exact hret _ _ hb dX12_isSo_126
      · refine j_iload_n hX 1 dX12_isSo_12 rfl rfl ?_
        refine j_if_eq hX 125 hg dX12_isSo_13 (by decide) (fun hg => ?_) (fun hg => ?_)
        · refine j_iload_n hX 1 dX12_isSo_125 rfl rfl ?_
          obtain ⟨hb, hg⟩ := gb_some hg
          cases hg
          exact hret _ _ hb dX12_isSo_126
        · refine j_aload_n hX 0 dX12_isSo_16 rfl rfl ?_
          refine j_aload_n hX 0 dX12_isSo_17 rfl rfl ?_
          refine j_get hX 0 11 rfl rfl hinX12 rfl hf_X12_tells_31 rfl dX12_isSo_18 ?_
          refine j_bipush hX dX12_isSo_21 kb_10 ?_
          refine j_iload_n hX 2 dX12_isSo_23 rfl rfl ?_
          refine j_imul hX dX12_isSo_24 ?_
          refine j_iald hX 3 rfl hg dX12_isSo_25 (fun hg => ?_)
          refine j_aload_n hX 0 dX12_isSo_26 rfl rfl ?_
          refine j_get hX 0 4 rfl rfl hinX12 rfl hf_X12_s_19 rfl dX12_isSo_27 ?_
          refine j_iconst hX dX12_isSo_30 kc_1 ?_
          refine j_iald hX 2 rfl hg dX12_isSo_31 (fun hg => ?_)
          refine j_vRV hX hW (w1 := fun v => (w_X12_plays G q_this q_this_book q_this_place q_this_sort q_this_minute q_this_when q_this_isHeard q_this_goneBy q_this_stand v_this_text v_this_length v_this_draft (.ref q_this_s) v_this_kept v_this_keptMany v_this_acts v_this_actMany v_this_row v_this_rowMany (.ref q_this_tells) (.int f_this_tellMany) v_this_at v_this_told f_this_book f_this_place f_this_sort f_this_minute v.1 v.2.1 v.2.2.1 v.2.2.2.1 f_this_many v.2.2.2.2)) (ws' := fun v => (w_X12_isSo G q_this q_this_book q_this_s q_this_tells q_this_place q_this_sort q_this_minute q_this_when q_this_isHeard q_this_goneBy q_this_stand v_this_text v_this_length v_this_draft v_this_kept v_this_keptMany v_this_acts v_this_actMany v_this_row v_this_rowMany v_this_at v_this_told f_this_book f_this_s f_this_tells f_this_tellMany f_this_place f_this_sort f_this_minute v.1 v.2.1 v.2.2.1 v.2.2.2.1 f_this_many v.2.2.2.2)) [.int (f_this_tells (10 * x2 : Int32).toNatClampNeg), .int (f_this_s (1 : Int32).toNatClampNeg)] hg (fun v hv => c_X12_plays l G N q_this q_this_book q_this_place q_this_sort q_this_minute q_this_when q_this_isHeard q_this_goneBy q_this_stand v_this_text v_this_length v_this_draft (.ref q_this_s) v_this_kept v_this_keptMany v_this_acts v_this_actMany v_this_row v_this_rowMany (.ref q_this_tells) (.int f_this_tellMany) v_this_at v_this_told f_this_book f_this_place f_this_sort f_this_minute f_this_when f_this_isHeard f_this_goneBy f_this_stand f_this_many f_this_standing (f_this_tells (10 * x2 : Int32).toNatClampNeg) (f_this_s (1 : Int32).toNatClampNeg) v hv) gX12_isSo_X12_plays rfl ⟨rfl, rfl⟩ ⟨rfl, by decide, by decide, rfl⟩ rfl rfl [0, 1, 4, 5, 6, 7, 8, 9, 10] (ax_X12_isSo_32c _ _ _ _ _ _ _ _ _ _ _) (by decide +kernel) rfl rfl dX12_isSo_32 rfl rfl ⟨Nat.zero_le _, Nat.zero_le _⟩ (fun _ => jn_ax [0, 1, 4, 5, 6, 7, 8, 9, 10] ([2, 3] : List Nat) 11 (ax_X12_isSo_32 _ _ _ _ _ _ _ _ _ _ _ _ _ _ _ _ _ _ _ _) rfl (by decide +kernel)) (fun v32 hg => ?_)
          refine j_aload_n hX 0 dX12_isSo_35 rfl rfl ?_
          refine j_get hX 0 23 rfl rfl hinX12 rfl hf_X12_standing_134 rfl dX12_isSo_36 ?_
          refine j_aload_n hX 0 dX12_isSo_39 rfl rfl ?_
          refine j_get hX 0 11 rfl rfl hinX12 rfl hf_X12_tells_31 rfl dX12_isSo_40 ?_
          refine j_bipush hX dX12_isSo_43 kb_10 ?_
          refine j_iload_n hX 2 dX12_isSo_45 rfl rfl ?_
          refine j_imul hX dX12_isSo_46 ?_
          refine j_iconst hX dX12_isSo_47 kc_1 ?_
          refine j_iadd hX dX12_isSo_48 ?_
          refine j_iald hX 3 rfl hg dX12_isSo_49 (fun hg => ?_)
          refine j_icmp_ne hX 57 hg dX12_isSo_50 (by decide) (fun hg => ?_) (fun hg => ?_)
          · refine j_iconst hX dX12_isSo_53 kc_1 ?_
            refine j_goto hX 58 dX12_isSo_54 (by decide) ?_
            refine j_lv [0, 2] rfl ?_
            exact B58 _ _ _ _ _ _ _ hg
          · refine j_iconst hX dX12_isSo_57 kc_0 ?_
            refine j_lv [0, 2] rfl ?_
            exact B58 _ _ _ _ _ _ _ hg
  have hg := hu
  unfold g_X12_isSo at hg
  refine j_iconst hX dX12_isSo_0 kc_1 ?_
  refine j_istore_n hX (lv' := [(1, .int 1), (0, .ref q_this)]) dX12_isSo_1 rfl rfl rfl ?_
  refine j_iconst hX dX12_isSo_2 kc_0 ?_
  refine j_istore_n hX (lv' := [(2, .int 0), (1, .int 1), (0, .ref q_this)]) dX12_isSo_3 rfl rfl rfl ?_
  refine j_lv [2, 1, 0] rfl ?_
  exact L4 N _ _ _ _ _ _ _ hg
abbrev w_X12_secret (G : jG) (q_this : Nat) (q_this_book : Nat) (q_this_s : Nat) (q_this_tells : Nat) (q_this_place : Nat) (q_this_sort : Nat) (q_this_minute : Nat) (q_this_when : Nat) (q_this_isHeard : Nat) (q_this_goneBy : Nat) (q_this_stand : Nat) (v_this_text : Value) (v_this_length : Value) (v_this_draft : Value) (v_this_kept : Value) (v_this_keptMany : Value) (v_this_acts : Value) (v_this_actMany : Value) (v_this_row : Value) (v_this_rowMany : Value) (v_this_at : Value) (v_this_told : Value) (f_this_book : (Nat → Int32)) (f_this_s : (Nat → Int32)) (f_this_tells : (Nat → Int32)) (f_this_tellMany : Int32) (f_this_place : (Nat → Int32)) (f_this_sort : (Nat → Int32)) (f_this_minute : (Nat → Int32)) (f_this_when : (Nat → Int32)) (f_this_isHeard : (Nat → Int32)) (f_this_goneBy : (Nat → Int32)) (f_this_stand : (Nat → Int32)) (f_this_many : Int32) (f_this_standing : Int32) : va_W := [oC q_this 12 [v_this_text, v_this_length, .ref q_this_book, v_this_draft, .ref q_this_s, v_this_kept, v_this_keptMany, v_this_acts, v_this_actMany, v_this_row, v_this_rowMany, .ref q_this_tells, .int f_this_tellMany, v_this_at, v_this_told, .ref q_this_place, .ref q_this_sort, .ref q_this_minute, .ref q_this_when, .ref q_this_isHeard, .ref q_this_goneBy, .ref q_this_stand, .int f_this_many, .int f_this_standing], aI G q_this_book 78 f_this_book, aI G q_this_s 74 f_this_s, aI G q_this_tells 30 f_this_tells, aI G q_this_place 128 f_this_place, aI G q_this_sort 128 f_this_sort, aI G q_this_minute 128 f_this_minute, aI G q_this_when 128 f_this_when, aZ G q_this_isHeard 128 f_this_isHeard, aI G q_this_goneBy 128 f_this_goneBy, aI G q_this_stand 128 f_this_stand]
def g_X12_secret_b149 (N : Nat) (f_this_book : (Nat → Int32)) (f_this_s : (Nat → Int32)) (f_this_tells : (Nat → Int32)) (f_this_tellMany : Int32) (f_this_place : (Nat → Int32)) (f_this_sort : (Nat → Int32)) (f_this_minute : (Nat → Int32)) (f_this_when : (Nat → Int32)) (f_this_isHeard : (Nat → Int32)) (f_this_goneBy : (Nat → Int32)) (f_this_stand : (Nat → Int32)) (f_this_many : Int32) (f_this_standing : Int32) (x1 : Int32) (x2 : Int32) (x3 : Int32) : Option (Int32 × (Nat → Int32) × (Nat → Int32) × (Nat → Int32) × (Nat → Int32) × (Nat → Int32) × (Nat → Int32) × (Nat → Int32) × Int32 × Int32) := if x1 = 0 then some (x2, f_this_place, f_this_sort, f_this_minute, f_this_when, f_this_isHeard, f_this_goneBy, f_this_stand, f_this_many, f_this_standing) else some (x3, f_this_place, f_this_sort, f_this_minute, f_this_when, f_this_isHeard, f_this_goneBy, f_this_stand, f_this_many, f_this_standing)
def g_X12_secret_b143 (N : Nat) (f_this_book : (Nat → Int32)) (f_this_s : (Nat → Int32)) (f_this_tells : (Nat → Int32)) (f_this_tellMany : Int32) (rec_26 : (Nat → Int32) → (Nat → Int32) → (Nat → Int32) → (Nat → Int32) → (Nat → Int32) → (Nat → Int32) → (Nat → Int32) → Int32 → Int32 → Int32 → Int32 → Int32 → Int32 → Option (Int32 × (Nat → Int32) × (Nat → Int32) × (Nat → Int32) × (Nat → Int32) × (Nat → Int32) × (Nat → Int32) × (Nat → Int32) × Int32 × Int32)) (f_this_place : (Nat → Int32)) (f_this_sort : (Nat → Int32)) (f_this_minute : (Nat → Int32)) (f_this_when : (Nat → Int32)) (f_this_isHeard : (Nat → Int32)) (f_this_goneBy : (Nat → Int32)) (f_this_stand : (Nat → Int32)) (f_this_many : Int32) (f_this_standing : Int32) (x1 : Int32) (x2 : Int32) (x3 : Int32) (x4 : Int32) : Option (Int32 × (Nat → Int32) × (Nat → Int32) × (Nat → Int32) × (Nat → Int32) × (Nat → Int32) × (Nat → Int32) × (Nat → Int32) × Int32 × Int32) := rec_26 f_this_place f_this_sort f_this_minute f_this_when f_this_isHeard f_this_goneBy f_this_stand f_this_many f_this_standing x1 x2 x3 (x4 + (-1))
def g_X12_secret_b137 (N : Nat) (f_this_book : (Nat → Int32)) (f_this_s : (Nat → Int32)) (f_this_tells : (Nat → Int32)) (f_this_tellMany : Int32) (rec_41 : (Nat → Int32) → (Nat → Int32) → (Nat → Int32) → (Nat → Int32) → (Nat → Int32) → (Nat → Int32) → (Nat → Int32) → Int32 → Int32 → Int32 → Int32 → Int32 → Int32 → Int32 → Option (Int32 × (Nat → Int32) × (Nat → Int32) × (Nat → Int32) × (Nat → Int32) × (Nat → Int32) × (Nat → Int32) × (Nat → Int32) × Int32 × Int32)) (f_this_place : (Nat → Int32)) (f_this_sort : (Nat → Int32)) (f_this_minute : (Nat → Int32)) (f_this_when : (Nat → Int32)) (f_this_isHeard : (Nat → Int32)) (f_this_goneBy : (Nat → Int32)) (f_this_stand : (Nat → Int32)) (f_this_many : Int32) (f_this_standing : Int32) (x1 : Int32) (x2 : Int32) (x3 : Int32) (x4 : Int32) (x5 : Int32) : Option (Int32 × (Nat → Int32) × (Nat → Int32) × (Nat → Int32) × (Nat → Int32) × (Nat → Int32) × (Nat → Int32) × (Nat → Int32) × Int32 × Int32) := rec_41 f_this_place f_this_sort f_this_minute f_this_when f_this_isHeard f_this_goneBy f_this_stand f_this_many f_this_standing x1 x2 x3 x4 (x5 + (-1))
def g_X12_secret_b130 (N : Nat) (f_this_book : (Nat → Int32)) (f_this_s : (Nat → Int32)) (f_this_tells : (Nat → Int32)) (f_this_tellMany : Int32) (rec_54 : (Nat → Int32) → (Nat → Int32) → (Nat → Int32) → (Nat → Int32) → (Nat → Int32) → (Nat → Int32) → (Nat → Int32) → Int32 → Int32 → Int32 → Int32 → Int32 → Int32 → Int32 → Int32 → Option (Int32 × (Nat → Int32) × (Nat → Int32) × (Nat → Int32) × (Nat → Int32) × (Nat → Int32) × (Nat → Int32) × (Nat → Int32) × Int32 × Int32)) (f_this_place : (Nat → Int32)) (f_this_sort : (Nat → Int32)) (f_this_minute : (Nat → Int32)) (f_this_when : (Nat → Int32)) (f_this_isHeard : (Nat → Int32)) (f_this_goneBy : (Nat → Int32)) (f_this_stand : (Nat → Int32)) (f_this_many : Int32) (f_this_standing : Int32) (x1 : Int32) (x2 : Int32) (x4 : Int32) (x5 : Int32) (x6 : Int32) (s0 : Int32) : Option (Int32 × (Nat → Int32) × (Nat → Int32) × (Nat → Int32) × (Nat → Int32) × (Nat → Int32) × (Nat → Int32) × (Nat → Int32) × Int32 × Int32) := rec_54 f_this_place f_this_sort f_this_minute f_this_when f_this_isHeard f_this_goneBy f_this_stand f_this_many f_this_standing x1 x2 s0 x4 x5 (x6 + (-1))
def g_X12_secret_b104 (N : Nat) (f_this_book : (Nat → Int32)) (f_this_s : (Nat → Int32)) (f_this_tells : (Nat → Int32)) (f_this_tellMany : Int32) (rec_54 : (Nat → Int32) → (Nat → Int32) → (Nat → Int32) → (Nat → Int32) → (Nat → Int32) → (Nat → Int32) → (Nat → Int32) → Int32 → Int32 → Int32 → Int32 → Int32 → Int32 → Int32 → Int32 → Option (Int32 × (Nat → Int32) × (Nat → Int32) × (Nat → Int32) × (Nat → Int32) × (Nat → Int32) × (Nat → Int32) × (Nat → Int32) × Int32 × Int32)) (f_this_place : (Nat → Int32)) (f_this_sort : (Nat → Int32)) (f_this_minute : (Nat → Int32)) (f_this_when : (Nat → Int32)) (f_this_isHeard : (Nat → Int32)) (f_this_goneBy : (Nat → Int32)) (f_this_stand : (Nat → Int32)) (f_this_many : Int32) (f_this_standing : Int32) (x1 : Int32) (x3 : Int32) (x4 : Int32) (x5 : Int32) (x6 : Int32) (x7 : Int32) (s0 : Int32) (s1 : Int32) : Option (Int32 × (Nat → Int32) × (Nat → Int32) × (Nat → Int32) × (Nat → Int32) × (Nat → Int32) × (Nat → Int32) × (Nat → Int32) × Int32 × Int32) := if x7 = 0 then g_X12_secret_b130 N f_this_book f_this_s f_this_tells f_this_tellMany rec_54 f_this_place f_this_sort f_this_minute f_this_when f_this_isHeard f_this_goneBy f_this_stand f_this_many f_this_standing x1 (s0 + s1) x4 x5 x6 x3 else g_X12_secret_b130 N f_this_book f_this_s f_this_tells f_this_tellMany rec_54 f_this_place f_this_sort f_this_minute f_this_when f_this_isHeard f_this_goneBy f_this_stand f_this_many f_this_standing x1 (s0 + s1) x4 x5 x6 (((100000 * x4) + (10000 * x5)) + x6)
def g_X12_secret_L54 (N : Nat) (f_this_book : (Nat → Int32)) (f_this_s : (Nat → Int32)) (f_this_tells : (Nat → Int32)) (f_this_tellMany : Int32) (k_137 : (Nat → Int32) → (Nat → Int32) → (Nat → Int32) → (Nat → Int32) → (Nat → Int32) → (Nat → Int32) → (Nat → Int32) → Int32 → Int32 → Int32 → Int32 → Int32 → Int32 → Int32 → Option (Int32 × (Nat → Int32) × (Nat → Int32) × (Nat → Int32) × (Nat → Int32) × (Nat → Int32) × (Nat → Int32) × (Nat → Int32) × Int32 × Int32)) : Nat → (Nat → Int32) → (Nat → Int32) → (Nat → Int32) → (Nat → Int32) → (Nat → Int32) → (Nat → Int32) → (Nat → Int32) → Int32 → Int32 → Int32 → Int32 → Int32 → Int32 → Int32 → Int32 → Option (Int32 × (Nat → Int32) × (Nat → Int32) × (Nat → Int32) × (Nat → Int32) × (Nat → Int32) × (Nat → Int32) × (Nat → Int32) × Int32 × Int32)
  | 0, _, _, _, _, _, _, _, _, _, _, _, _, _, _, _ => none
  | fu + 1, f_this_place, f_this_sort, f_this_minute, f_this_when, f_this_isHeard, f_this_goneBy, f_this_stand, f_this_many, f_this_standing, x1, x2, x3, x4, x5, x6 => if x6 < 0 then k_137 f_this_place f_this_sort f_this_minute f_this_when f_this_isHeard f_this_goneBy f_this_stand f_this_many f_this_standing x1 x2 x3 x4 x5 else gi 1 74 (if x6 ≤ ((f_this_s (1 : Int32).toNatClampNeg) - 100) then k_137 f_this_place f_this_sort f_this_minute f_this_when f_this_isHeard f_this_goneBy f_this_stand f_this_many f_this_standing x1 x2 x3 x4 x5 else (g_X12_starts N f_this_s f_this_place f_this_sort f_this_minute f_this_many).bind fun v74 => (g_X12_tries N v74.1 v74.2.1 v74.2.2.1 v74.2.2.2 x4 x5 x6).bind fun v84 => (g_X12_isSo N f_this_book f_this_s f_this_tells f_this_tellMany v84.1 v84.2.1 v84.2.2.1 v84.2.2.2 f_this_when f_this_isHeard f_this_goneBy f_this_stand f_this_standing).bind fun v88 => if v88.1 = 0 then g_X12_secret_b104 N f_this_book f_this_s f_this_tells f_this_tellMany (g_X12_secret_L54 N f_this_book f_this_s f_this_tells f_this_tellMany k_137 fu) v84.1 v84.2.1 v84.2.2.1 v88.2.1 v88.2.2.1 v88.2.2.2.1 v88.2.2.2.2.1 v84.2.2.2 v88.2.2.2.2.2 x1 x3 x4 x5 x6 v88.1 x2 0 else g_X12_secret_b104 N f_this_book f_this_s f_this_tells f_this_tellMany (g_X12_secret_L54 N f_this_book f_this_s f_this_tells f_this_tellMany k_137 fu) v84.1 v84.2.1 v84.2.2.1 v88.2.1 v88.2.2.1 v88.2.2.2.1 v88.2.2.2.2.1 v84.2.2.2 v88.2.2.2.2.2 x1 x3 x4 x5 x6 v88.1 x2 1)
def g_X12_secret_L41 (N : Nat) (f_this_book : (Nat → Int32)) (f_this_s : (Nat → Int32)) (f_this_tells : (Nat → Int32)) (f_this_tellMany : Int32) (k_143 : (Nat → Int32) → (Nat → Int32) → (Nat → Int32) → (Nat → Int32) → (Nat → Int32) → (Nat → Int32) → (Nat → Int32) → Int32 → Int32 → Int32 → Int32 → Int32 → Int32 → Option (Int32 × (Nat → Int32) × (Nat → Int32) × (Nat → Int32) × (Nat → Int32) × (Nat → Int32) × (Nat → Int32) × (Nat → Int32) × Int32 × Int32)) : Nat → (Nat → Int32) → (Nat → Int32) → (Nat → Int32) → (Nat → Int32) → (Nat → Int32) → (Nat → Int32) → (Nat → Int32) → Int32 → Int32 → Int32 → Int32 → Int32 → Int32 → Int32 → Option (Int32 × (Nat → Int32) × (Nat → Int32) × (Nat → Int32) × (Nat → Int32) × (Nat → Int32) × (Nat → Int32) × (Nat → Int32) × Int32 × Int32)
  | 0, _, _, _, _, _, _, _, _, _, _, _, _, _, _ => none
  | fu + 1, f_this_place, f_this_sort, f_this_minute, f_this_when, f_this_isHeard, f_this_goneBy, f_this_stand, f_this_many, f_this_standing, x1, x2, x3, x4, x5 => if x5 < 0 then k_143 f_this_place f_this_sort f_this_minute f_this_when f_this_isHeard f_this_goneBy f_this_stand f_this_many f_this_standing x1 x2 x3 x4 else gi 1 74 (g_X12_secret_L54 N f_this_book f_this_s f_this_tells f_this_tellMany (g_X12_secret_b137 N f_this_book f_this_s f_this_tells f_this_tellMany (g_X12_secret_L41 N f_this_book f_this_s f_this_tells f_this_tellMany k_143 fu)) N f_this_place f_this_sort f_this_minute f_this_when f_this_isHeard f_this_goneBy f_this_stand f_this_many f_this_standing x1 x2 x3 x4 x5 (f_this_s (1 : Int32).toNatClampNeg))
def g_X12_secret_L26 (N : Nat) (f_this_book : (Nat → Int32)) (f_this_s : (Nat → Int32)) (f_this_tells : (Nat → Int32)) (f_this_tellMany : Int32) (k_149 : (Nat → Int32) → (Nat → Int32) → (Nat → Int32) → (Nat → Int32) → (Nat → Int32) → (Nat → Int32) → (Nat → Int32) → Int32 → Int32 → Int32 → Int32 → Int32 → Option (Int32 × (Nat → Int32) × (Nat → Int32) × (Nat → Int32) × (Nat → Int32) × (Nat → Int32) × (Nat → Int32) × (Nat → Int32) × Int32 × Int32)) : Nat → (Nat → Int32) → (Nat → Int32) → (Nat → Int32) → (Nat → Int32) → (Nat → Int32) → (Nat → Int32) → (Nat → Int32) → Int32 → Int32 → Int32 → Int32 → Int32 → Int32 → Option (Int32 × (Nat → Int32) × (Nat → Int32) × (Nat → Int32) × (Nat → Int32) × (Nat → Int32) × (Nat → Int32) × (Nat → Int32) × Int32 × Int32)
  | 0, _, _, _, _, _, _, _, _, _, _, _, _, _ => none
  | fu + 1, f_this_place, f_this_sort, f_this_minute, f_this_when, f_this_isHeard, f_this_goneBy, f_this_stand, f_this_many, f_this_standing, x1, x2, x3, x4 => if x4 < 0 then k_149 f_this_place f_this_sort f_this_minute f_this_when f_this_isHeard f_this_goneBy f_this_stand f_this_many f_this_standing x1 x2 x3 else gi 3 78 (g_X12_secret_L41 N f_this_book f_this_s f_this_tells f_this_tellMany (g_X12_secret_b143 N f_this_book f_this_s f_this_tells f_this_tellMany (g_X12_secret_L26 N f_this_book f_this_s f_this_tells f_this_tellMany k_149 fu)) N f_this_place f_this_sort f_this_minute f_this_when f_this_isHeard f_this_goneBy f_this_stand f_this_many f_this_standing x1 x2 x3 x4 ((f_this_book (3 : Int32).toNatClampNeg) - 1))
def g_X12_secret (N : Nat) (f_this_book : (Nat → Int32)) (f_this_s : (Nat → Int32)) (f_this_tells : (Nat → Int32)) (f_this_tellMany : Int32) (f_this_place : (Nat → Int32)) (f_this_sort : (Nat → Int32)) (f_this_minute : (Nat → Int32)) (f_this_when : (Nat → Int32)) (f_this_isHeard : (Nat → Int32)) (f_this_goneBy : (Nat → Int32)) (f_this_stand : (Nat → Int32)) (f_this_many : Int32) (f_this_standing : Int32) (x1 : Int32) : Option (Int32 × (Nat → Int32) × (Nat → Int32) × (Nat → Int32) × (Nat → Int32) × (Nat → Int32) × (Nat → Int32) × (Nat → Int32) × Int32 × Int32) := (g_X12_in N x1 0 1).bind fun v3 => if v3 = 0 then some ((-1), f_this_place, f_this_sort, f_this_minute, f_this_when, f_this_isHeard, f_this_goneBy, f_this_stand, f_this_many, f_this_standing) else gi 0 78 (g_X12_secret_L26 N f_this_book f_this_s f_this_tells f_this_tellMany (g_X12_secret_b149 N f_this_book f_this_s f_this_tells f_this_tellMany) N f_this_place f_this_sort f_this_minute f_this_when f_this_isHeard f_this_goneBy f_this_stand f_this_many f_this_standing x1 0 (-4) ((f_this_book (0 : Int32).toNatClampNeg) - 1))
set_option maxRecDepth 100000 in
theorem ax_X12_secret_88 (c0 c1 c2 c3 c4 c5 c6 c7 c8 c9 c10 d0 d1 d2 d3 d4 d5 d6 d7 d8 d9 d10 : Nat × va_E) : [0, 1, 2, 3, 4, 5, 6, 7, 8, 9, 10].map (fun i => ([c0, c1, c2, c3, c4, c5, c6, c7, c8, c9, c10] : va_W)[i]?) = List.map some ([c0, c1, c2, c3, c4, c5, c6, c7, c8, c9, c10] : va_W) ∧ ([d0, d1, d2, d3, d4, d5, d6, d7, d8, d9, d10] : va_W).length = 11 ∧ [0, 1, 2, 3, 4, 5, 6, 7, 8, 9, 10].map (fun i => ([d0, d1, d2, d3, d4, d5, d6, d7, d8, d9, d10] : va_W)[i]?) = List.map some ([d0, d1, d2, d3, d4, d5, d6, d7, d8, d9, d10] : va_W) ∧ ([] : List Nat).map (fun i => ([d0, d1, d2, d3, d4, d5, d6, d7, d8, d9, d10] : va_W)[i]?) = ([] : List Nat).map (fun i => ([c0, c1, c2, c3, c4, c5, c6, c7, c8, c9, c10] : va_W)[i]?) := ⟨rfl, rfl, rfl, rfl⟩
set_option maxRecDepth 100000 in
theorem ax_X12_secret_88c (c0 c1 c2 c3 c4 c5 c6 c7 c8 c9 c10 : Nat × va_E) : [0, 1, 2, 3, 4, 5, 6, 7, 8, 9, 10].map (fun i => ([c0, c1, c2, c3, c4, c5, c6, c7, c8, c9, c10] : va_W)[i]?) = List.map some ([c0, c1, c2, c3, c4, c5, c6, c7, c8, c9, c10] : va_W) := rfl
set_option maxHeartbeats 4000000 in
set_option maxRecDepth 100000 in
theorem c_X12_secret (l : Launch) (G : jG) (N : Nat) (q_this : Nat) (q_this_book : Nat) (q_this_s : Nat) (q_this_tells : Nat) (q_this_place : Nat) (q_this_sort : Nat) (q_this_minute : Nat) (q_this_when : Nat) (q_this_isHeard : Nat) (q_this_goneBy : Nat) (q_this_stand : Nat) (v_this_text : Value) (v_this_length : Value) (v_this_draft : Value) (v_this_kept : Value) (v_this_keptMany : Value) (v_this_acts : Value) (v_this_actMany : Value) (v_this_row : Value) (v_this_rowMany : Value) (v_this_at : Value) (v_this_told : Value) (f_this_book : (Nat → Int32)) (f_this_s : (Nat → Int32)) (f_this_tells : (Nat → Int32)) (f_this_tellMany : Int32) (f_this_place : (Nat → Int32)) (f_this_sort : (Nat → Int32)) (f_this_minute : (Nat → Int32)) (f_this_when : (Nat → Int32)) (f_this_isHeard : (Nat → Int32)) (f_this_goneBy : (Nat → Int32)) (f_this_stand : (Nat → Int32)) (f_this_many : Int32) (f_this_standing : Int32) (x1 : Int32) (u : Int32 × (Nat → Int32) × (Nat → Int32) × (Nat → Int32) × (Nat → Int32) × (Nat → Int32) × (Nat → Int32) × (Nat → Int32) × Int32 × Int32) (hu : g_X12_secret N f_this_book f_this_s f_this_tells f_this_tellMany f_this_place f_this_sort f_this_minute f_this_when f_this_isHeard f_this_goneBy f_this_stand f_this_many f_this_standing x1 = some u) : MetRW l G yX12_secret wsX12_secret ({ frames := 4, cells := 0, slots := 0, locals := 95 } : Room) [.ref q_this, .int x1] (w_X12_secret G q_this q_this_book q_this_s q_this_tells q_this_place q_this_sort q_this_minute q_this_when q_this_isHeard q_this_goneBy q_this_stand v_this_text v_this_length v_this_draft v_this_kept v_this_keptMany v_this_acts v_this_actMany v_this_row v_this_rowMany v_this_at v_this_told f_this_book f_this_s f_this_tells f_this_tellMany f_this_place f_this_sort f_this_minute f_this_when f_this_isHeard f_this_goneBy f_this_stand f_this_many f_this_standing) (w_X12_secret G q_this q_this_book q_this_s q_this_tells q_this_place q_this_sort q_this_minute q_this_when q_this_isHeard q_this_goneBy q_this_stand v_this_text v_this_length v_this_draft v_this_kept v_this_keptMany v_this_acts v_this_actMany v_this_row v_this_rowMany v_this_at v_this_told f_this_book f_this_s f_this_tells f_this_tellMany u.2.1 u.2.2.1 u.2.2.2.1 u.2.2.2.2.1 u.2.2.2.2.2.1 u.2.2.2.2.2.2.1 u.2.2.2.2.2.2.2.1 u.2.2.2.2.2.2.2.2.1 u.2.2.2.2.2.2.2.2.2) u.1 := by
  refine met_rwi (cc := cX12_secret) (maxL := 8) (lv0 := [(0, .ref q_this), (1, .int x1)]) (by decide) rfl rfl rfl rfl (fun X hX hW hret => ?_)
  have hinX12 : ∀ w ∈ u_ws RX12 TX12 24, w ∈ wsX12_secret := by decide +kernel
  have hf_X12_book_13 : Cond.fieldLink RX12 13 (TX12 2).1 (TX12 2).2.1 (TX12 2).2.2.1 ∈ wsX12_secret := by decide +kernel
  have hf_X12_s_19 : Cond.fieldLink RX12 19 (TX12 4).1 (TX12 4).2.1 (TX12 4).2.2.1 ∈ wsX12_secret := by decide +kernel
  have B149 : ∀ (f_this_place : (Nat → Int32)) (f_this_sort : (Nat → Int32)) (f_this_minute : (Nat → Int32)) (f_this_when : (Nat → Int32)) (f_this_isHeard : (Nat → Int32)) (f_this_goneBy : (Nat → Int32)) (f_this_stand : (Nat → Int32)) (f_this_many : Int32) (f_this_standing : Int32) (x1 : Int32) (x2 : Int32) (x3 : Int32), g_X12_secret_b149 N f_this_book f_this_s f_this_tells f_this_tellMany f_this_place f_this_sort f_this_minute f_this_when f_this_isHeard f_this_goneBy f_this_stand f_this_many f_this_standing x1 x2 x3 = some u → J X 0 0 (w_X12_secret G q_this q_this_book q_this_s q_this_tells q_this_place q_this_sort q_this_minute q_this_when q_this_isHeard q_this_goneBy q_this_stand v_this_text v_this_length v_this_draft v_this_kept v_this_keptMany v_this_acts v_this_actMany v_this_row v_this_rowMany v_this_at v_this_told f_this_book f_this_s f_this_tells f_this_tellMany f_this_place f_this_sort f_this_minute f_this_when f_this_isHeard f_this_goneBy f_this_stand f_this_many f_this_standing) 149 [(1, .int x1), (2, .int x2), (3, .int x3)] [] := by
    intro f_this_place f_this_sort f_this_minute f_this_when f_this_isHeard f_this_goneBy f_this_stand f_this_many f_this_standing x1 x2 x3 hg
    unfold g_X12_secret_b149 at hg
    refine j_iload_n hX 0 dX12_secret_149 rfl rfl ?_
    refine j_if_ne hX 157 hg dX12_secret_150 (by decide) (fun hg => ?_) (fun hg => ?_)
    · refine j_iload_n hX 1 dX12_secret_153 rfl rfl ?_
      refine j_goto hX 158 dX12_secret_154 (by decide) ?_
      cases hg
      exact hret _ _ dX12_secret_158
    · refine j_iload_n hX 2 dX12_secret_157 rfl rfl ?_
      cases hg
      exact hret _ _ dX12_secret_158
  have L26 : ∀ (fu26 : Nat), ∀ (f_this_place : (Nat → Int32)) (f_this_sort : (Nat → Int32)) (f_this_minute : (Nat → Int32)) (f_this_when : (Nat → Int32)) (f_this_isHeard : (Nat → Int32)) (f_this_goneBy : (Nat → Int32)) (f_this_stand : (Nat → Int32)) (f_this_many : Int32) (f_this_standing : Int32) (x1 : Int32) (x2 : Int32) (x3 : Int32) (x4 : Int32), g_X12_secret_L26 N f_this_book f_this_s f_this_tells f_this_tellMany (g_X12_secret_b149 N f_this_book f_this_s f_this_tells f_this_tellMany) fu26 f_this_place f_this_sort f_this_minute f_this_when f_this_isHeard f_this_goneBy f_this_stand f_this_many f_this_standing x1 x2 x3 x4 = some u → J X 0 0 (w_X12_secret G q_this q_this_book q_this_s q_this_tells q_this_place q_this_sort q_this_minute q_this_when q_this_isHeard q_this_goneBy q_this_stand v_this_text v_this_length v_this_draft v_this_kept v_this_keptMany v_this_acts v_this_actMany v_this_row v_this_rowMany v_this_at v_this_told f_this_book f_this_s f_this_tells f_this_tellMany f_this_place f_this_sort f_this_minute f_this_when f_this_isHeard f_this_goneBy f_this_stand f_this_many f_this_standing) 26 [(0, .ref q_this), (1, .int x1), (2, .int x2), (3, .int x3), (4, .int x4)] [] := by
    intro fu26
    induction fu26 with
    | zero => intro f_this_place f_this_sort f_this_minute f_this_when f_this_isHeard f_this_goneBy f_this_stand f_this_many f_this_standing x1 x2 x3 x4 hg; exact nomatch hg
    | succ fu26 ih26 =>
      have B143 : ∀ (f_this_place : (Nat → Int32)) (f_this_sort : (Nat → Int32)) (f_this_minute : (Nat → Int32)) (f_this_when : (Nat → Int32)) (f_this_isHeard : (Nat → Int32)) (f_this_goneBy : (Nat → Int32)) (f_this_stand : (Nat → Int32)) (f_this_many : Int32) (f_this_standing : Int32) (x1 : Int32) (x2 : Int32) (x3 : Int32) (x4 : Int32), g_X12_secret_b143 N f_this_book f_this_s f_this_tells f_this_tellMany (g_X12_secret_L26 N f_this_book f_this_s f_this_tells f_this_tellMany (g_X12_secret_b149 N f_this_book f_this_s f_this_tells f_this_tellMany) fu26) f_this_place f_this_sort f_this_minute f_this_when f_this_isHeard f_this_goneBy f_this_stand f_this_many f_this_standing x1 x2 x3 x4 = some u → J X 0 0 (w_X12_secret G q_this q_this_book q_this_s q_this_tells q_this_place q_this_sort q_this_minute q_this_when q_this_isHeard q_this_goneBy q_this_stand v_this_text v_this_length v_this_draft v_this_kept v_this_keptMany v_this_acts v_this_actMany v_this_row v_this_rowMany v_this_at v_this_told f_this_book f_this_s f_this_tells f_this_tellMany f_this_place f_this_sort f_this_minute f_this_when f_this_isHeard f_this_goneBy f_this_stand f_this_many f_this_standing) 143 [(0, .ref q_this), (1, .int x1), (2, .int x2), (3, .int x3), (4, .int x4)] [] := by
        intro f_this_place f_this_sort f_this_minute f_this_when f_this_isHeard f_this_goneBy f_this_stand f_this_many f_this_standing x1 x2 x3 x4 hg
        unfold g_X12_secret_b143 at hg
        refine j_iinc hX 4 (v := x4 + (-1)) (lv' := [(4, .int (x4 + (-1))), (0, .ref q_this), (1, .int x1), (2, .int x2), (3, .int x3)]) dX12_secret_143 rfl (by rw [kc_m1]) rfl rfl ?_
        refine j_goto hX 26 dX12_secret_146 (by decide) ?_
        refine j_lv [1, 2, 3, 4, 0] rfl ?_
        exact ih26 _ _ _ _ _ _ _ _ _ _ _ _ _ hg
      have L41 : ∀ (fu41 : Nat), ∀ (f_this_place : (Nat → Int32)) (f_this_sort : (Nat → Int32)) (f_this_minute : (Nat → Int32)) (f_this_when : (Nat → Int32)) (f_this_isHeard : (Nat → Int32)) (f_this_goneBy : (Nat → Int32)) (f_this_stand : (Nat → Int32)) (f_this_many : Int32) (f_this_standing : Int32) (x1 : Int32) (x2 : Int32) (x3 : Int32) (x4 : Int32) (x5 : Int32), g_X12_secret_L41 N f_this_book f_this_s f_this_tells f_this_tellMany (g_X12_secret_b143 N f_this_book f_this_s f_this_tells f_this_tellMany (g_X12_secret_L26 N f_this_book f_this_s f_this_tells f_this_tellMany (g_X12_secret_b149 N f_this_book f_this_s f_this_tells f_this_tellMany) fu26)) fu41 f_this_place f_this_sort f_this_minute f_this_when f_this_isHeard f_this_goneBy f_this_stand f_this_many f_this_standing x1 x2 x3 x4 x5 = some u → J X 0 0 (w_X12_secret G q_this q_this_book q_this_s q_this_tells q_this_place q_this_sort q_this_minute q_this_when q_this_isHeard q_this_goneBy q_this_stand v_this_text v_this_length v_this_draft v_this_kept v_this_keptMany v_this_acts v_this_actMany v_this_row v_this_rowMany v_this_at v_this_told f_this_book f_this_s f_this_tells f_this_tellMany f_this_place f_this_sort f_this_minute f_this_when f_this_isHeard f_this_goneBy f_this_stand f_this_many f_this_standing) 41 [(0, .ref q_this), (1, .int x1), (2, .int x2), (3, .int x3), (4, .int x4), (5, .int x5)] [] := by
        intro fu41
        induction fu41 with
        | zero => intro f_this_place f_this_sort f_this_minute f_this_when f_this_isHeard f_this_goneBy f_this_stand f_this_many f_this_standing x1 x2 x3 x4 x5 hg; exact nomatch hg
        | succ fu41 ih41 =>
          have B137 : ∀ (f_this_place : (Nat → Int32)) (f_this_sort : (Nat → Int32)) (f_this_minute : (Nat → Int32)) (f_this_when : (Nat → Int32)) (f_this_isHeard : (Nat → Int32)) (f_this_goneBy : (Nat → Int32)) (f_this_stand : (Nat → Int32)) (f_this_many : Int32) (f_this_standing : Int32) (x1 : Int32) (x2 : Int32) (x3 : Int32) (x4 : Int32) (x5 : Int32), g_X12_secret_b137 N f_this_book f_this_s f_this_tells f_this_tellMany (g_X12_secret_L41 N f_this_book f_this_s f_this_tells f_this_tellMany (g_X12_secret_b143 N f_this_book f_this_s f_this_tells f_this_tellMany (g_X12_secret_L26 N f_this_book f_this_s f_this_tells f_this_tellMany (g_X12_secret_b149 N f_this_book f_this_s f_this_tells f_this_tellMany) fu26)) fu41) f_this_place f_this_sort f_this_minute f_this_when f_this_isHeard f_this_goneBy f_this_stand f_this_many f_this_standing x1 x2 x3 x4 x5 = some u → J X 0 0 (w_X12_secret G q_this q_this_book q_this_s q_this_tells q_this_place q_this_sort q_this_minute q_this_when q_this_isHeard q_this_goneBy q_this_stand v_this_text v_this_length v_this_draft v_this_kept v_this_keptMany v_this_acts v_this_actMany v_this_row v_this_rowMany v_this_at v_this_told f_this_book f_this_s f_this_tells f_this_tellMany f_this_place f_this_sort f_this_minute f_this_when f_this_isHeard f_this_goneBy f_this_stand f_this_many f_this_standing) 137 [(0, .ref q_this), (1, .int x1), (2, .int x2), (3, .int x3), (4, .int x4), (5, .int x5)] [] := by
            intro f_this_place f_this_sort f_this_minute f_this_when f_this_isHeard f_this_goneBy f_this_stand f_this_many f_this_standing x1 x2 x3 x4 x5 hg
            unfold g_X12_secret_b137 at hg
            refine j_iinc hX 5 (v := x5 + (-1)) (lv' := [(5, .int (x5 + (-1))), (0, .ref q_this), (1, .int x1), (2, .int x2), (3, .int x3), (4, .int x4)]) dX12_secret_137 rfl (by rw [kc_m1]) rfl rfl ?_
            refine j_goto hX 41 dX12_secret_140 (by decide) ?_
            refine j_lv [1, 2, 3, 4, 5, 0] rfl ?_
            exact ih41 _ _ _ _ _ _ _ _ _ _ _ _ _ _ hg
          have L54 : ∀ (fu54 : Nat), ∀ (f_this_place : (Nat → Int32)) (f_this_sort : (Nat → Int32)) (f_this_minute : (Nat → Int32)) (f_this_when : (Nat → Int32)) (f_this_isHeard : (Nat → Int32)) (f_this_goneBy : (Nat → Int32)) (f_this_stand : (Nat → Int32)) (f_this_many : Int32) (f_this_standing : Int32) (x1 : Int32) (x2 : Int32) (x3 : Int32) (x4 : Int32) (x5 : Int32) (x6 : Int32), g_X12_secret_L54 N f_this_book f_this_s f_this_tells f_this_tellMany (g_X12_secret_b137 N f_this_book f_this_s f_this_tells f_this_tellMany (g_X12_secret_L41 N f_this_book f_this_s f_this_tells f_this_tellMany (g_X12_secret_b143 N f_this_book f_this_s f_this_tells f_this_tellMany (g_X12_secret_L26 N f_this_book f_this_s f_this_tells f_this_tellMany (g_X12_secret_b149 N f_this_book f_this_s f_this_tells f_this_tellMany) fu26)) fu41)) fu54 f_this_place f_this_sort f_this_minute f_this_when f_this_isHeard f_this_goneBy f_this_stand f_this_many f_this_standing x1 x2 x3 x4 x5 x6 = some u → J X 0 0 (w_X12_secret G q_this q_this_book q_this_s q_this_tells q_this_place q_this_sort q_this_minute q_this_when q_this_isHeard q_this_goneBy q_this_stand v_this_text v_this_length v_this_draft v_this_kept v_this_keptMany v_this_acts v_this_actMany v_this_row v_this_rowMany v_this_at v_this_told f_this_book f_this_s f_this_tells f_this_tellMany f_this_place f_this_sort f_this_minute f_this_when f_this_isHeard f_this_goneBy f_this_stand f_this_many f_this_standing) 54 [(0, .ref q_this), (1, .int x1), (2, .int x2), (3, .int x3), (4, .int x4), (5, .int x5), (6, .int x6)] [] := by
            intro fu54
            induction fu54 with
            | zero => intro f_this_place f_this_sort f_this_minute f_this_when f_this_isHeard f_this_goneBy f_this_stand f_this_many f_this_standing x1 x2 x3 x4 x5 x6 hg; exact nomatch hg
            | succ fu54 ih54 =>
              have B130 : ∀ (f_this_place : (Nat → Int32)) (f_this_sort : (Nat → Int32)) (f_this_minute : (Nat → Int32)) (f_this_when : (Nat → Int32)) (f_this_isHeard : (Nat → Int32)) (f_this_goneBy : (Nat → Int32)) (f_this_stand : (Nat → Int32)) (f_this_many : Int32) (f_this_standing : Int32) (x1 : Int32) (x2 : Int32) (x4 : Int32) (x5 : Int32) (x6 : Int32) (s0 : Int32), g_X12_secret_b130 N f_this_book f_this_s f_this_tells f_this_tellMany (g_X12_secret_L54 N f_this_book f_this_s f_this_tells f_this_tellMany (g_X12_secret_b137 N f_this_book f_this_s f_this_tells f_this_tellMany (g_X12_secret_L41 N f_this_book f_this_s f_this_tells f_this_tellMany (g_X12_secret_b143 N f_this_book f_this_s f_this_tells f_this_tellMany (g_X12_secret_L26 N f_this_book f_this_s f_this_tells f_this_tellMany (g_X12_secret_b149 N f_this_book f_this_s f_this_tells f_this_tellMany) fu26)) fu41)) fu54) f_this_place f_this_sort f_this_minute f_this_when f_this_isHeard f_this_goneBy f_this_stand f_this_many f_this_standing x1 x2 x4 x5 x6 s0 = some u → J X 0 0 (w_X12_secret G q_this q_this_book q_this_s q_this_tells q_this_place q_this_sort q_this_minute q_this_when q_this_isHeard q_this_goneBy q_this_stand v_this_text v_this_length v_this_draft v_this_kept v_this_keptMany v_this_acts v_this_actMany v_this_row v_this_rowMany v_this_at v_this_told f_this_book f_this_s f_this_tells f_this_tellMany f_this_place f_this_sort f_this_minute f_this_when f_this_isHeard f_this_goneBy f_this_stand f_this_many f_this_standing) 130 [(0, .ref q_this), (1, .int x1), (2, .int x2), (4, .int x4), (5, .int x5), (6, .int x6)] [.int s0] := by
                intro f_this_place f_this_sort f_this_minute f_this_when f_this_isHeard f_this_goneBy f_this_stand f_this_many f_this_standing x1 x2 x4 x5 x6 s0 hg
                unfold g_X12_secret_b130 at hg
                refine j_istore_n hX (lv' := [(3, .int s0), (0, .ref q_this), (1, .int x1), (2, .int x2), (4, .int x4), (5, .int x5), (6, .int x6)]) dX12_secret_130 rfl rfl rfl ?_
                refine j_iinc hX 6 (v := x6 + (-1)) (lv' := [(6, .int (x6 + (-1))), (3, .int s0), (0, .ref q_this), (1, .int x1), (2, .int x2), (4, .int x4), (5, .int x5)]) dX12_secret_131 rfl (by rw [kc_m1]) rfl rfl ?_
                refine j_goto hX 54 dX12_secret_134 (by decide) ?_
                refine j_lv [2, 3, 4, 1, 5, 6, 0] rfl ?_
                exact ih54 _ _ _ _ _ _ _ _ _ _ _ _ _ _ _ hg
              have B104 : ∀ (f_this_place : (Nat → Int32)) (f_this_sort : (Nat → Int32)) (f_this_minute : (Nat → Int32)) (f_this_when : (Nat → Int32)) (f_this_isHeard : (Nat → Int32)) (f_this_goneBy : (Nat → Int32)) (f_this_stand : (Nat → Int32)) (f_this_many : Int32) (f_this_standing : Int32) (x1 : Int32) (x3 : Int32) (x4 : Int32) (x5 : Int32) (x6 : Int32) (x7 : Int32) (s0 : Int32) (s1 : Int32), g_X12_secret_b104 N f_this_book f_this_s f_this_tells f_this_tellMany (g_X12_secret_L54 N f_this_book f_this_s f_this_tells f_this_tellMany (g_X12_secret_b137 N f_this_book f_this_s f_this_tells f_this_tellMany (g_X12_secret_L41 N f_this_book f_this_s f_this_tells f_this_tellMany (g_X12_secret_b143 N f_this_book f_this_s f_this_tells f_this_tellMany (g_X12_secret_L26 N f_this_book f_this_s f_this_tells f_this_tellMany (g_X12_secret_b149 N f_this_book f_this_s f_this_tells f_this_tellMany) fu26)) fu41)) fu54) f_this_place f_this_sort f_this_minute f_this_when f_this_isHeard f_this_goneBy f_this_stand f_this_many f_this_standing x1 x3 x4 x5 x6 x7 s0 s1 = some u → J X 0 0 (w_X12_secret G q_this q_this_book q_this_s q_this_tells q_this_place q_this_sort q_this_minute q_this_when q_this_isHeard q_this_goneBy q_this_stand v_this_text v_this_length v_this_draft v_this_kept v_this_keptMany v_this_acts v_this_actMany v_this_row v_this_rowMany v_this_at v_this_told f_this_book f_this_s f_this_tells f_this_tellMany f_this_place f_this_sort f_this_minute f_this_when f_this_isHeard f_this_goneBy f_this_stand f_this_many f_this_standing) 104 [(0, .ref q_this), (1, .int x1), (3, .int x3), (4, .int x4), (5, .int x5), (6, .int x6), (7, .int x7)] [.int s1, .int s0] := by
                intro f_this_place f_this_sort f_this_minute f_this_when f_this_isHeard f_this_goneBy f_this_stand f_this_many f_this_standing x1 x3 x4 x5 x6 x7 s0 s1 hg
                unfold g_X12_secret_b104 at hg
                refine j_iadd hX dX12_secret_104 ?_
                refine j_istore_n hX (lv' := [(2, .int (s0 + s1)), (0, .ref q_this), (1, .int x1), (3, .int x3), (4, .int x4), (5, .int x5), (6, .int x6), (7, .int x7)]) dX12_secret_105 rfl rfl rfl ?_
                refine j_iload hX 7 dX12_secret_106 rfl ?_
                refine j_if_eq hX 129 hg dX12_secret_108 (by decide) (fun hg => ?_) (fun hg => ?_)
                · refine j_iload_n hX 3 dX12_secret_129 rfl rfl ?_
                  refine j_lv [1, 2, 0, 4, 5, 6] rfl ?_
                  exact B130 _ _ _ _ _ _ _ _ _ _ _ _ _ _ _ hg
                · refine j_ldc hX (v := 100000) (by decide +kernel) dX12_secret_111 ?_
                  refine j_iload hX 4 dX12_secret_113 rfl ?_
                  refine j_imul hX dX12_secret_115 ?_
                  refine j_sipush hX dX12_secret_116 ks_10000 ?_
                  refine j_iload hX 5 dX12_secret_119 rfl ?_
                  refine j_imul hX dX12_secret_121 ?_
                  refine j_iadd hX dX12_secret_122 ?_
                  refine j_iload hX 6 dX12_secret_123 rfl ?_
                  refine j_iadd hX dX12_secret_125 ?_
                  refine j_goto hX 130 dX12_secret_126 (by decide) ?_
                  refine j_lv [1, 2, 0, 4, 5, 6] rfl ?_
                  exact B130 _ _ _ _ _ _ _ _ _ _ _ _ _ _ _ hg
              intro f_this_place f_this_sort f_this_minute f_this_when f_this_isHeard f_this_goneBy f_this_stand f_this_many f_this_standing x1 x2 x3 x4 x5 x6 hg
              unfold g_X12_secret_L54 at hg
              refine j_iload hX 6 dX12_secret_54 rfl ?_
              refine j_if_lt hX 137 hg dX12_secret_56 (by decide) (fun hg => ?_) (fun hg => ?_)
              · refine j_lv [0, 1, 2, 3, 4, 5] rfl ?_
                exact B137 _ _ _ _ _ _ _ _ _ _ _ _ _ _ hg
              · refine j_iload hX 6 dX12_secret_59 rfl ?_
                refine j_aload_n hX 0 dX12_secret_61 rfl rfl ?_
                refine j_get hX 0 4 rfl rfl hinX12 rfl hf_X12_s_19 rfl dX12_secret_62 ?_
                refine j_iconst hX dX12_secret_65 kc_1 ?_
                refine j_iald hX 2 rfl hg dX12_secret_66 (fun hg => ?_)
                refine j_bipush hX dX12_secret_67 kb_100 ?_
                refine j_isub hX dX12_secret_69 ?_
                refine j_icmp_le hX 137 hg dX12_secret_70 (by decide) (fun hg => ?_) (fun hg => ?_)
                · refine j_lv [0, 1, 2, 3, 4, 5] rfl ?_
                  exact B137 _ _ _ _ _ _ _ _ _ _ _ _ _ _ hg
                · refine j_aload_n hX 0 dX12_secret_73 rfl rfl ?_
                  refine j_vRV hX hW (w1 := fun v => (w_X12_starts G q_this q_this_s q_this_place q_this_sort q_this_minute v_this_text v_this_length (.ref q_this_book) v_this_draft v_this_kept v_this_keptMany v_this_acts v_this_actMany v_this_row v_this_rowMany (.ref q_this_tells) (.int f_this_tellMany) v_this_at v_this_told (.ref q_this_when) (.ref q_this_isHeard) (.ref q_this_goneBy) (.ref q_this_stand) (.int f_this_standing) f_this_s v.1 v.2.1 v.2.2.1 v.2.2.2)) (ws' := fun v => (w_X12_secret G q_this q_this_book q_this_s q_this_tells q_this_place q_this_sort q_this_minute q_this_when q_this_isHeard q_this_goneBy q_this_stand v_this_text v_this_length v_this_draft v_this_kept v_this_keptMany v_this_acts v_this_actMany v_this_row v_this_rowMany v_this_at v_this_told f_this_book f_this_s f_this_tells f_this_tellMany v.1 v.2.1 v.2.2.1 f_this_when f_this_isHeard f_this_goneBy f_this_stand v.2.2.2 f_this_standing)) [] hg (fun v hv => c_X12_starts l G N q_this q_this_s q_this_place q_this_sort q_this_minute v_this_text v_this_length (.ref q_this_book) v_this_draft v_this_kept v_this_keptMany v_this_acts v_this_actMany v_this_row v_this_rowMany (.ref q_this_tells) (.int f_this_tellMany) v_this_at v_this_told (.ref q_this_when) (.ref q_this_isHeard) (.ref q_this_goneBy) (.ref q_this_stand) (.int f_this_standing) f_this_s f_this_place f_this_sort f_this_minute f_this_many v hv) gX12_secret_X12_starts rfl ⟨rfl, rfl⟩ ⟨rfl, by decide, by decide, rfl⟩ rfl rfl [0, 2, 4, 5, 6] rfl (by decide +kernel) rfl rfl dX12_secret_74 rfl rfl ⟨Nat.zero_le _, Nat.zero_le _⟩ (fun _ => jn_set [0, 2, 4, 5, 6] rfl rfl rfl) (fun v74 hg => ?_)
                  refine j_aload_n hX 0 dX12_secret_77 rfl rfl ?_
                  refine j_iload hX 4 dX12_secret_78 rfl ?_
                  refine j_iload hX 5 dX12_secret_80 rfl ?_
                  refine j_iload hX 6 dX12_secret_82 rfl ?_
                  refine j_vRV hX hW (w1 := fun v => (w_X12_tries G q_this q_this_place q_this_sort q_this_minute v_this_text v_this_length (.ref q_this_book) v_this_draft (.ref q_this_s) v_this_kept v_this_keptMany v_this_acts v_this_actMany v_this_row v_this_rowMany (.ref q_this_tells) (.int f_this_tellMany) v_this_at v_this_told (.ref q_this_when) (.ref q_this_isHeard) (.ref q_this_goneBy) (.ref q_this_stand) (.int f_this_standing) v.1 v.2.1 v.2.2.1 v.2.2.2)) (ws' := fun v => (w_X12_secret G q_this q_this_book q_this_s q_this_tells q_this_place q_this_sort q_this_minute q_this_when q_this_isHeard q_this_goneBy q_this_stand v_this_text v_this_length v_this_draft v_this_kept v_this_keptMany v_this_acts v_this_actMany v_this_row v_this_rowMany v_this_at v_this_told f_this_book f_this_s f_this_tells f_this_tellMany v.1 v.2.1 v.2.2.1 f_this_when f_this_isHeard f_this_goneBy f_this_stand v.2.2.2 f_this_standing)) [.int x4, .int x5, .int x6] hg (fun v hv => c_X12_tries l G N q_this q_this_place q_this_sort q_this_minute v_this_text v_this_length (.ref q_this_book) v_this_draft (.ref q_this_s) v_this_kept v_this_keptMany v_this_acts v_this_actMany v_this_row v_this_rowMany (.ref q_this_tells) (.int f_this_tellMany) v_this_at v_this_told (.ref q_this_when) (.ref q_this_isHeard) (.ref q_this_goneBy) (.ref q_this_stand) (.int f_this_standing) v74.1 v74.2.1 v74.2.2.1 v74.2.2.2 x4 x5 x6 v hv) gX12_secret_X12_tries rfl ⟨rfl, rfl⟩ ⟨rfl, by decide, by decide, rfl⟩ rfl rfl [0, 4, 5, 6] rfl (by decide +kernel) rfl rfl dX12_secret_84 rfl rfl ⟨Nat.zero_le _, Nat.zero_le _⟩ (fun _ => jn_set [0, 4, 5, 6] rfl rfl rfl) (fun v84 hg => ?_)
                  refine j_aload_n hX 0 dX12_secret_87 rfl rfl ?_
                  refine j_vRW hX hW (r := fun v => v.1) (w1 := fun v => (w_X12_isSo G q_this q_this_book q_this_s q_this_tells q_this_place q_this_sort q_this_minute q_this_when q_this_isHeard q_this_goneBy q_this_stand v_this_text v_this_length v_this_draft v_this_kept v_this_keptMany v_this_acts v_this_actMany v_this_row v_this_rowMany v_this_at v_this_told f_this_book f_this_s f_this_tells f_this_tellMany v84.1 v84.2.1 v84.2.2.1 v.2.1 v.2.2.1 v.2.2.2.1 v.2.2.2.2.1 v84.2.2.2 v.2.2.2.2.2)) (ws' := fun v => (w_X12_secret G q_this q_this_book q_this_s q_this_tells q_this_place q_this_sort q_this_minute q_this_when q_this_isHeard q_this_goneBy q_this_stand v_this_text v_this_length v_this_draft v_this_kept v_this_keptMany v_this_acts v_this_actMany v_this_row v_this_rowMany v_this_at v_this_told f_this_book f_this_s f_this_tells f_this_tellMany v84.1 v84.2.1 v84.2.2.1 v.2.1 v.2.2.1 v.2.2.2.1 v.2.2.2.2.1 v84.2.2.2 v.2.2.2.2.2)) [] hg (fun v hv => c_X12_isSo l G N q_this q_this_book q_this_s q_this_tells q_this_place q_this_sort q_this_minute q_this_when q_this_isHeard q_this_goneBy q_this_stand v_this_text v_this_length v_this_draft v_this_kept v_this_keptMany v_this_acts v_this_actMany v_this_row v_this_rowMany v_this_at v_this_told f_this_book f_this_s f_this_tells f_this_tellMany v84.1 v84.2.1 v84.2.2.1 f_this_when f_this_isHeard f_this_goneBy f_this_stand v84.2.2.2 f_this_standing v hv) gX12_secret_X12_isSo rfl ⟨rfl, rfl⟩ ⟨rfl, by decide, by decide, rfl⟩ rfl rfl [0, 1, 2, 3, 4, 5, 6, 7, 8, 9, 10] (ax_X12_secret_88c _ _ _ _ _ _ _ _ _ _ _) (by decide +kernel) rfl rfl dX12_secret_88 rfl rfl ⟨Nat.zero_le _, Nat.zero_le _⟩ (fun _ => jn_ax [0, 1, 2, 3, 4, 5, 6, 7, 8, 9, 10] ([] : List Nat) 11 (ax_X12_secret_88 _ _ _ _ _ _ _ _ _ _ _ _ _ _ _ _ _ _ _ _ _ _) rfl (by decide +kernel)) (fun v88 hg => ?_)
                  refine j_istore hX (lv' := [(7, .int v88.1), (0, .ref q_this), (1, .int x1), (2, .int x2), (3, .int x3), (4, .int x4), (5, .int x5), (6, .int x6)]) dX12_secret_91 rfl rfl ?_
                  refine j_iload_n hX 3 dX12_secret_93 rfl rfl ?_
                  refine j_iload hX 0 dX12_secret_94 rfl ?_
                  refine j_if_eq hX 103 hg dX12_secret_96 (by decide) (fun hg => ?_) (fun hg => ?_)
                  · refine j_iconst hX dX12_secret_103 kc_0 ?_
                    refine j_lv [1, 2, 4, 5, 6, 7, 0] rfl ?_
                    exact B104 _ _ _ _ _ _ _ _ _ _ _ _ _ _ _ _ _ hg
                  · refine j_iconst hX dX12_secret_99 kc_1 ?_
                    refine j_goto hX 104 dX12_secret_100 (by decide) ?_
                    refine j_lv [1, 2, 4, 5, 6, 7, 0] rfl ?_
                    exact B104 _ _ _ _ _ _ _ _ _ _ _ _ _ _ _ _ _ hg
          intro f_this_place f_this_sort f_this_minute f_this_when f_this_isHeard f_this_goneBy f_this_stand f_this_many f_this_standing x1 x2 x3 x4 x5 hg
          unfold g_X12_secret_L41 at hg
          refine j_iload hX 5 dX12_secret_41 rfl ?_
          refine j_if_lt hX 143 hg dX12_secret_43 (by decide) (fun hg => ?_) (fun hg => ?_)
          · refine j_lv [0, 1, 2, 3, 4] rfl ?_
            exact B143 _ _ _ _ _ _ _ _ _ _ _ _ _ hg
          · refine j_aload_n hX 0 dX12_secret_46 rfl rfl ?_
            refine j_get hX 0 4 rfl rfl hinX12 rfl hf_X12_s_19 rfl dX12_secret_47 ?_
            refine j_iconst hX dX12_secret_50 kc_1 ?_
            refine j_iald hX 2 rfl hg dX12_secret_51 (fun hg => ?_)
            refine j_istore hX (lv' := [(6, .int (f_this_s (1 : Int32).toNatClampNeg)), (0, .ref q_this), (1, .int x1), (2, .int x2), (3, .int x3), (4, .int x4), (5, .int x5)]) dX12_secret_52 rfl rfl ?_
            refine j_lv [1, 2, 3, 4, 5, 6, 0] rfl ?_
            exact L54 N _ _ _ _ _ _ _ _ _ _ _ _ _ _ _ hg
      intro f_this_place f_this_sort f_this_minute f_this_when f_this_isHeard f_this_goneBy f_this_stand f_this_many f_this_standing x1 x2 x3 x4 hg
      unfold g_X12_secret_L26 at hg
      refine j_iload hX 4 dX12_secret_26 rfl ?_
      refine j_if_lt hX 149 hg dX12_secret_28 (by decide) (fun hg => ?_) (fun hg => ?_)
      · refine j_lv [1, 2, 3] rfl ?_
        exact B149 _ _ _ _ _ _ _ _ _ _ _ _ hg
      · refine j_aload_n hX 0 dX12_secret_31 rfl rfl ?_
        refine j_get hX 0 2 rfl rfl hinX12 rfl hf_X12_book_13 rfl dX12_secret_32 ?_
        refine j_iconst hX dX12_secret_35 kc_3 ?_
        refine j_iald hX 1 rfl hg dX12_secret_36 (fun hg => ?_)
        refine j_iconst hX dX12_secret_37 kc_1 ?_
        refine j_isub hX dX12_secret_38 ?_
        refine j_istore hX (lv' := [(5, .int ((f_this_book (3 : Int32).toNatClampNeg) - 1)), (0, .ref q_this), (1, .int x1), (2, .int x2), (3, .int x3), (4, .int x4)]) dX12_secret_39 rfl rfl ?_
        refine j_lv [1, 2, 3, 4, 5, 0] rfl ?_
        exact L41 N _ _ _ _ _ _ _ _ _ _ _ _ _ _ hg
  have hg := hu
  unfold g_X12_secret at hg
  refine j_iload_n hX 1 dX12_secret_0 rfl rfl ?_
  refine j_iconst hX dX12_secret_1 kc_0 ?_
  refine j_iconst hX dX12_secret_2 kc_1 ?_
  refine j_sRO hX (r := fun v => v) [.int x1, .int 0, .int 1] hg (fun v hv => c_X12_in l G N x1 0 1 v hv) gX12_secret_X12_in rfl ⟨rfl, rfl⟩ ⟨by decide, by decide, rfl⟩ rfl rfl [] rfl dX12_secret_3 rfl rfl ⟨Nat.zero_le _, Nat.zero_le _⟩ (fun v3 hg => ?_)
  refine j_if_ne hX 11 hg dX12_secret_6 (by decide) (fun hg => ?_) (fun hg => ?_)
  · refine j_iconst hX dX12_secret_9 kc_m1 ?_
    cases hg
    exact hret _ _ dX12_secret_10
  · refine j_iconst hX dX12_secret_11 kc_0 ?_
    refine j_istore_n hX (lv' := [(2, .int 0), (0, .ref q_this), (1, .int x1)]) dX12_secret_12 rfl rfl rfl ?_
    refine j_bipush hX dX12_secret_13 kb_m4 ?_
    refine j_istore_n hX (lv' := [(3, .int (-4)), (2, .int 0), (0, .ref q_this), (1, .int x1)]) dX12_secret_15 rfl rfl rfl ?_
    refine j_aload_n hX 2 dX12_secret_16 rfl rfl ?_
    refine j_get hX 0 2 rfl rfl hinX12 rfl hf_X12_book_13 rfl dX12_secret_17 ?_
    refine j_iconst hX dX12_secret_20 kc_0 ?_
    refine j_iald hX 1 rfl hg dX12_secret_21 (fun hg => ?_)
    refine j_iconst hX dX12_secret_22 kc_1 ?_
    refine j_isub hX dX12_secret_23 ?_
    refine j_istore hX (lv' := [(4, .int ((f_this_book (0 : Int32).toNatClampNeg) - 1)), (3, .int (-4)), (2, .int 0), (0, .ref q_this), (1, .int x1)]) dX12_secret_24 rfl rfl ?_
    refine j_lv [3, 4, 2, 1, 0] rfl ?_
    exact L26 N _ _ _ _ _ _ _ _ _ _ _ _ _ hg
abbrev w_X12_chance (G : jG) (q_this : Nat) (q_this_book : Nat) (q_this_s : Nat) (q_this_place : Nat) (q_this_sort : Nat) (q_this_minute : Nat) (q_this_when : Nat) (q_this_isHeard : Nat) (q_this_goneBy : Nat) (q_this_stand : Nat) (v_this_text : Value) (v_this_length : Value) (v_this_draft : Value) (v_this_kept : Value) (v_this_keptMany : Value) (v_this_acts : Value) (v_this_actMany : Value) (v_this_row : Value) (v_this_rowMany : Value) (v_this_tells : Value) (v_this_tellMany : Value) (v_this_at : Value) (v_this_told : Value) (f_this_book : (Nat → Int32)) (f_this_s : (Nat → Int32)) (f_this_place : (Nat → Int32)) (f_this_sort : (Nat → Int32)) (f_this_minute : (Nat → Int32)) (f_this_when : (Nat → Int32)) (f_this_isHeard : (Nat → Int32)) (f_this_goneBy : (Nat → Int32)) (f_this_stand : (Nat → Int32)) (f_this_many : Int32) (f_this_standing : Int32) : va_W := [oC q_this 12 [v_this_text, v_this_length, .ref q_this_book, v_this_draft, .ref q_this_s, v_this_kept, v_this_keptMany, v_this_acts, v_this_actMany, v_this_row, v_this_rowMany, v_this_tells, v_this_tellMany, v_this_at, v_this_told, .ref q_this_place, .ref q_this_sort, .ref q_this_minute, .ref q_this_when, .ref q_this_isHeard, .ref q_this_goneBy, .ref q_this_stand, .int f_this_many, .int f_this_standing], aI G q_this_book 78 f_this_book, aI G q_this_s 74 f_this_s, aI G q_this_place 128 f_this_place, aI G q_this_sort 128 f_this_sort, aI G q_this_minute 128 f_this_minute, aI G q_this_when 128 f_this_when, aZ G q_this_isHeard 128 f_this_isHeard, aI G q_this_goneBy 128 f_this_goneBy, aI G q_this_stand 128 f_this_stand]
def g_X12_chance_b166 (N : Nat) (f_this_book : (Nat → Int32)) (f_this_s : (Nat → Int32)) (f_this_place : (Nat → Int32)) (f_this_sort : (Nat → Int32)) (f_this_minute : (Nat → Int32)) (f_this_when : (Nat → Int32)) (f_this_isHeard : (Nat → Int32)) (f_this_goneBy : (Nat → Int32)) (f_this_stand : (Nat → Int32)) (f_this_many : Int32) (f_this_standing : Int32) (x4 : Int32) (x5 : Int32) (x6 : Int32) (x8 : Int32) : Option (Int32 × (Nat → Int32) × (Nat → Int32) × (Nat → Int32) × (Nat → Int32) × (Nat → Int32) × (Nat → Int32) × (Nat → Int32) × Int32 × Int32) := if x4 = 0 then gz x8 (some (x6 / x8, f_this_place, f_this_sort, f_this_minute, f_this_when, f_this_isHeard, f_this_goneBy, f_this_stand, f_this_many, f_this_standing)) else gz x8 (some (x5 / x8, f_this_place, f_this_sort, f_this_minute, f_this_when, f_this_isHeard, f_this_goneBy, f_this_stand, f_this_many, f_this_standing))
def g_X12_chance_L143 (N : Nat) (f_this_book : (Nat → Int32)) (f_this_s : (Nat → Int32)) (k_166 : (Nat → Int32) → (Nat → Int32) → (Nat → Int32) → (Nat → Int32) → (Nat → Int32) → (Nat → Int32) → (Nat → Int32) → Int32 → Int32 → Int32 → Int32 → Int32 → Int32 → Option (Int32 × (Nat → Int32) × (Nat → Int32) × (Nat → Int32) × (Nat → Int32) × (Nat → Int32) × (Nat → Int32) × (Nat → Int32) × Int32 × Int32)) : Nat → (Nat → Int32) → (Nat → Int32) → (Nat → Int32) → (Nat → Int32) → (Nat → Int32) → (Nat → Int32) → (Nat → Int32) → Int32 → Int32 → Int32 → Int32 → Int32 → Int32 → Int32 → Option (Int32 × (Nat → Int32) × (Nat → Int32) × (Nat → Int32) × (Nat → Int32) × (Nat → Int32) × (Nat → Int32) × (Nat → Int32) × Int32 × Int32)
  | 0, _, _, _, _, _, _, _, _, _, _, _, _, _, _ => none
  | fu + 1, f_this_place, f_this_sort, f_this_minute, f_this_when, f_this_isHeard, f_this_goneBy, f_this_stand, f_this_many, f_this_standing, x4, x5, x6, x7, x8 => if x7 = 0 then k_166 f_this_place f_this_sort f_this_minute f_this_when f_this_isHeard f_this_goneBy f_this_stand f_this_many f_this_standing x4 x5 x6 x8 else gz x7 (g_X12_chance_L143 N f_this_book f_this_s k_166 fu f_this_place f_this_sort f_this_minute f_this_when f_this_isHeard f_this_goneBy f_this_stand f_this_many f_this_standing x4 x5 x6 (x8 - x8 / x7 * x7) x7)
def g_X12_chance_b135 (N : Nat) (f_this_book : (Nat → Int32)) (f_this_s : (Nat → Int32)) (f_this_place : (Nat → Int32)) (f_this_sort : (Nat → Int32)) (f_this_minute : (Nat → Int32)) (f_this_when : (Nat → Int32)) (f_this_isHeard : (Nat → Int32)) (f_this_goneBy : (Nat → Int32)) (f_this_stand : (Nat → Int32)) (f_this_many : Int32) (f_this_standing : Int32) (x4 : Int32) (x5 : Int32) (x6 : Int32) : Option (Int32 × (Nat → Int32) × (Nat → Int32) × (Nat → Int32) × (Nat → Int32) × (Nat → Int32) × (Nat → Int32) × (Nat → Int32) × Int32 × Int32) := g_X12_chance_L143 N f_this_book f_this_s (g_X12_chance_b166 N f_this_book f_this_s) N f_this_place f_this_sort f_this_minute f_this_when f_this_isHeard f_this_goneBy f_this_stand f_this_many f_this_standing x4 x5 x6 x6 x5
def g_X12_chance_b126 (N : Nat) (f_this_book : (Nat → Int32)) (f_this_s : (Nat → Int32)) (rec_50 : (Nat → Int32) → (Nat → Int32) → (Nat → Int32) → (Nat → Int32) → (Nat → Int32) → (Nat → Int32) → (Nat → Int32) → Int32 → Int32 → Int32 → Int32 → Int32 → Int32 → Int32 → Int32 → Int32 → Option (Int32 × (Nat → Int32) × (Nat → Int32) × (Nat → Int32) × (Nat → Int32) × (Nat → Int32) × (Nat → Int32) × (Nat → Int32) × Int32 × Int32)) (f_this_place : (Nat → Int32)) (f_this_sort : (Nat → Int32)) (f_this_minute : (Nat → Int32)) (f_this_when : (Nat → Int32)) (f_this_isHeard : (Nat → Int32)) (f_this_goneBy : (Nat → Int32)) (f_this_stand : (Nat → Int32)) (f_this_many : Int32) (f_this_standing : Int32) (x1 : Int32) (x2 : Int32) (x3 : Int32) (x4 : Int32) (x5 : Int32) (x7 : Int32) (s0 : Int32) (s1 : Int32) : Option (Int32 × (Nat → Int32) × (Nat → Int32) × (Nat → Int32) × (Nat → Int32) × (Nat → Int32) × (Nat → Int32) × (Nat → Int32) × Int32 × Int32) := rec_50 f_this_place f_this_sort f_this_minute f_this_when f_this_isHeard f_this_goneBy f_this_stand f_this_many f_this_standing x1 x2 x3 x4 x5 (s0 + s1) (x7 + 1)
def g_X12_chance_b114 (N : Nat) (f_this_book : (Nat → Int32)) (f_this_s : (Nat → Int32)) (rec_50 : (Nat → Int32) → (Nat → Int32) → (Nat → Int32) → (Nat → Int32) → (Nat → Int32) → (Nat → Int32) → (Nat → Int32) → Int32 → Int32 → Int32 → Int32 → Int32 → Int32 → Int32 → Int32 → Int32 → Option (Int32 × (Nat → Int32) × (Nat → Int32) × (Nat → Int32) × (Nat → Int32) × (Nat → Int32) × (Nat → Int32) × (Nat → Int32) × Int32 × Int32)) (f_this_place : (Nat → Int32)) (f_this_sort : (Nat → Int32)) (f_this_minute : (Nat → Int32)) (f_this_when : (Nat → Int32)) (f_this_isHeard : (Nat → Int32)) (f_this_goneBy : (Nat → Int32)) (f_this_stand : (Nat → Int32)) (f_this_many : Int32) (f_this_standing : Int32) (x1 : Int32) (x2 : Int32) (x3 : Int32) (x4 : Int32) (x5 : Int32) (x6 : Int32) (x7 : Int32) (x8 : Int32) : Option (Int32 × (Nat → Int32) × (Nat → Int32) × (Nat → Int32) × (Nat → Int32) × (Nat → Int32) × (Nat → Int32) × (Nat → Int32) × Int32 × Int32) := if x8 = 0 then g_X12_chance_b126 N f_this_book f_this_s rec_50 f_this_place f_this_sort f_this_minute f_this_when f_this_isHeard f_this_goneBy f_this_stand f_this_many f_this_standing x1 x2 x3 x4 x5 x7 x6 0 else g_X12_chance_b126 N f_this_book f_this_s rec_50 f_this_place f_this_sort f_this_minute f_this_when f_this_isHeard f_this_goneBy f_this_stand f_this_many f_this_standing x1 x2 x3 x4 x5 x7 x6 1
def g_X12_chance_b106 (N : Nat) (f_this_book : (Nat → Int32)) (f_this_s : (Nat → Int32)) (rec_71 : (Nat → Int32) → (Nat → Int32) → (Nat → Int32) → (Nat → Int32) → (Nat → Int32) → (Nat → Int32) → (Nat → Int32) → Int32 → Int32 → Int32 → Int32 → Int32 → Int32 → Int32 → Int32 → Int32 → Int32 → Int32 → Option (Int32 × (Nat → Int32) × (Nat → Int32) × (Nat → Int32) × (Nat → Int32) × (Nat → Int32) × (Nat → Int32) × (Nat → Int32) × Int32 × Int32)) (f_this_place : (Nat → Int32)) (f_this_sort : (Nat → Int32)) (f_this_minute : (Nat → Int32)) (f_this_when : (Nat → Int32)) (f_this_isHeard : (Nat → Int32)) (f_this_goneBy : (Nat → Int32)) (f_this_stand : (Nat → Int32)) (f_this_many : Int32) (f_this_standing : Int32) (x1 : Int32) (x2 : Int32) (x3 : Int32) (x4 : Int32) (x5 : Int32) (x6 : Int32) (x7 : Int32) (x9 : Int32) (s0 : Int32) : Option (Int32 × (Nat → Int32) × (Nat → Int32) × (Nat → Int32) × (Nat → Int32) × (Nat → Int32) × (Nat → Int32) × (Nat → Int32) × Int32 × Int32) := rec_71 f_this_place f_this_sort f_this_minute f_this_when f_this_isHeard f_this_goneBy f_this_stand f_this_many f_this_standing x1 x2 x3 x4 x5 x6 x7 s0 (x9 + 1)
def g_X12_chance_b101 (N : Nat) (f_this_book : (Nat → Int32)) (f_this_s : (Nat → Int32)) (rec_71 : (Nat → Int32) → (Nat → Int32) → (Nat → Int32) → (Nat → Int32) → (Nat → Int32) → (Nat → Int32) → (Nat → Int32) → Int32 → Int32 → Int32 → Int32 → Int32 → Int32 → Int32 → Int32 → Int32 → Int32 → Int32 → Option (Int32 × (Nat → Int32) × (Nat → Int32) × (Nat → Int32) × (Nat → Int32) × (Nat → Int32) × (Nat → Int32) × (Nat → Int32) × Int32 × Int32)) (f_this_place : (Nat → Int32)) (f_this_sort : (Nat → Int32)) (f_this_minute : (Nat → Int32)) (f_this_when : (Nat → Int32)) (f_this_isHeard : (Nat → Int32)) (f_this_goneBy : (Nat → Int32)) (f_this_stand : (Nat → Int32)) (f_this_many : Int32) (f_this_standing : Int32) (x1 : Int32) (x2 : Int32) (x3 : Int32) (x4 : Int32) (x5 : Int32) (x6 : Int32) (x7 : Int32) (x9 : Int32) : Option (Int32 × (Nat → Int32) × (Nat → Int32) × (Nat → Int32) × (Nat → Int32) × (Nat → Int32) × (Nat → Int32) × (Nat → Int32) × Int32 × Int32) := g_X12_chance_b106 N f_this_book f_this_s rec_71 f_this_place f_this_sort f_this_minute f_this_when f_this_isHeard f_this_goneBy f_this_stand f_this_many f_this_standing x1 x2 x3 x4 x5 x6 x7 x9 1
def g_X12_chance_L71 (N : Nat) (f_this_book : (Nat → Int32)) (f_this_s : (Nat → Int32)) (k_114 : (Nat → Int32) → (Nat → Int32) → (Nat → Int32) → (Nat → Int32) → (Nat → Int32) → (Nat → Int32) → (Nat → Int32) → Int32 → Int32 → Int32 → Int32 → Int32 → Int32 → Int32 → Int32 → Int32 → Int32 → Option (Int32 × (Nat → Int32) × (Nat → Int32) × (Nat → Int32) × (Nat → Int32) × (Nat → Int32) × (Nat → Int32) × (Nat → Int32) × Int32 × Int32)) : Nat → (Nat → Int32) → (Nat → Int32) → (Nat → Int32) → (Nat → Int32) → (Nat → Int32) → (Nat → Int32) → (Nat → Int32) → Int32 → Int32 → Int32 → Int32 → Int32 → Int32 → Int32 → Int32 → Int32 → Int32 → Int32 → Option (Int32 × (Nat → Int32) × (Nat → Int32) × (Nat → Int32) × (Nat → Int32) × (Nat → Int32) × (Nat → Int32) × (Nat → Int32) × Int32 × Int32)
  | 0, _, _, _, _, _, _, _, _, _, _, _, _, _, _, _, _, _, _ => none
  | fu + 1, f_this_place, f_this_sort, f_this_minute, f_this_when, f_this_isHeard, f_this_goneBy, f_this_stand, f_this_many, f_this_standing, x1, x2, x3, x4, x5, x6, x7, x8, x9 => if f_this_standing ≤ x9 then k_114 f_this_place f_this_sort f_this_minute f_this_when f_this_isHeard f_this_goneBy f_this_stand f_this_many f_this_standing x1 x2 x3 x4 x5 x6 x7 x8 else if x8 = 0 then gi x9 128 (gi (f_this_stand x9.toNatClampNeg) 128 (if (f_this_sort (f_this_stand x9.toNatClampNeg : Int32).toNatClampNeg) = x2 then g_X12_chance_b101 N f_this_book f_this_s (g_X12_chance_L71 N f_this_book f_this_s k_114 fu) f_this_place f_this_sort f_this_minute f_this_when f_this_isHeard f_this_goneBy f_this_stand f_this_many f_this_standing x1 x2 x3 x4 x5 x6 x7 x9 else g_X12_chance_b106 N f_this_book f_this_s (g_X12_chance_L71 N f_this_book f_this_s k_114 fu) f_this_place f_this_sort f_this_minute f_this_when f_this_isHeard f_this_goneBy f_this_stand f_this_many f_this_standing x1 x2 x3 x4 x5 x6 x7 x9 0)) else g_X12_chance_b101 N f_this_book f_this_s (g_X12_chance_L71 N f_this_book f_this_s k_114 fu) f_this_place f_this_sort f_this_minute f_this_when f_this_isHeard f_this_goneBy f_this_stand f_this_many f_this_standing x1 x2 x3 x4 x5 x6 x7 x9
def g_X12_chance_L50 (N : Nat) (f_this_book : (Nat → Int32)) (f_this_s : (Nat → Int32)) (k_135 : (Nat → Int32) → (Nat → Int32) → (Nat → Int32) → (Nat → Int32) → (Nat → Int32) → (Nat → Int32) → (Nat → Int32) → Int32 → Int32 → Int32 → Int32 → Int32 → Option (Int32 × (Nat → Int32) × (Nat → Int32) × (Nat → Int32) × (Nat → Int32) × (Nat → Int32) × (Nat → Int32) × (Nat → Int32) × Int32 × Int32)) : Nat → (Nat → Int32) → (Nat → Int32) → (Nat → Int32) → (Nat → Int32) → (Nat → Int32) → (Nat → Int32) → (Nat → Int32) → Int32 → Int32 → Int32 → Int32 → Int32 → Int32 → Int32 → Int32 → Int32 → Option (Int32 × (Nat → Int32) × (Nat → Int32) × (Nat → Int32) × (Nat → Int32) × (Nat → Int32) × (Nat → Int32) × (Nat → Int32) × Int32 × Int32)
  | 0, _, _, _, _, _, _, _, _, _, _, _, _, _, _, _, _ => none
  | fu + 1, f_this_place, f_this_sort, f_this_minute, f_this_when, f_this_isHeard, f_this_goneBy, f_this_stand, f_this_many, f_this_standing, x1, x2, x3, x4, x5, x6, x7 => if x5 ≤ x7 then k_135 f_this_place f_this_sort f_this_minute f_this_when f_this_isHeard f_this_goneBy f_this_stand f_this_many f_this_standing x4 x5 x6 else (g_X12_taps N f_this_book f_this_s f_this_place f_this_sort f_this_minute f_this_when f_this_isHeard f_this_goneBy f_this_stand f_this_many f_this_standing x1 x3 x7).bind fun v62 => g_X12_chance_L71 N f_this_book f_this_s (g_X12_chance_b114 N f_this_book f_this_s (g_X12_chance_L50 N f_this_book f_this_s k_135 fu)) N v62.1 v62.2.1 v62.2.2.1 v62.2.2.2.1 v62.2.2.2.2.1 v62.2.2.2.2.2.1 v62.2.2.2.2.2.2.1 v62.2.2.2.2.2.2.2.1 v62.2.2.2.2.2.2.2.2 x1 x2 x3 x4 x5 x6 x7 0 0
def g_X12_chance (N : Nat) (f_this_book : (Nat → Int32)) (f_this_s : (Nat → Int32)) (f_this_place : (Nat → Int32)) (f_this_sort : (Nat → Int32)) (f_this_minute : (Nat → Int32)) (f_this_when : (Nat → Int32)) (f_this_isHeard : (Nat → Int32)) (f_this_goneBy : (Nat → Int32)) (f_this_stand : (Nat → Int32)) (f_this_many : Int32) (f_this_standing : Int32) (x1 : Int32) (x2 : Int32) (x3 : Int32) (x4 : Int32) : Option (Int32 × (Nat → Int32) × (Nat → Int32) × (Nat → Int32) × (Nat → Int32) × (Nat → Int32) × (Nat → Int32) × (Nat → Int32) × Int32 × Int32) := (g_X12_isPlace N f_this_book x1).bind fun v2 => if v2 = 0 then some ((-1), f_this_place, f_this_sort, f_this_minute, f_this_when, f_this_isHeard, f_this_goneBy, f_this_stand, f_this_many, f_this_standing) else (g_X12_isSort N f_this_book x2).bind fun v10 => if v10 = 0 then some ((-1), f_this_place, f_this_sort, f_this_minute, f_this_when, f_this_isHeard, f_this_goneBy, f_this_stand, f_this_many, f_this_standing) else (g_X12_in N x3 0 4).bind fun v19 => if v19 = 0 then some ((-1), f_this_place, f_this_sort, f_this_minute, f_this_when, f_this_isHeard, f_this_goneBy, f_this_stand, f_this_many, f_this_standing) else (g_X12_in N x4 0 1).bind fun v29 => if v29 = 0 then some ((-1), f_this_place, f_this_sort, f_this_minute, f_this_when, f_this_isHeard, f_this_goneBy, f_this_stand, f_this_many, f_this_standing) else (g_X12_codes N f_this_book x3).bind fun v39 => g_X12_chance_L50 N f_this_book f_this_s (g_X12_chance_b135 N f_this_book f_this_s) N f_this_place f_this_sort f_this_minute f_this_when f_this_isHeard f_this_goneBy f_this_stand f_this_many f_this_standing x1 x2 x3 x4 v39 0 0
set_option maxRecDepth 100000 in
theorem ax_X12_chance_62 (c0 c1 c2 c3 c4 c5 c6 c7 c8 c9 d0 d1 d2 d3 d4 d5 d6 d7 d8 d9 : Nat × va_E) : [0, 1, 2, 3, 4, 5, 6, 7, 8, 9].map (fun i => ([c0, c1, c2, c3, c4, c5, c6, c7, c8, c9] : va_W)[i]?) = List.map some ([c0, c1, c2, c3, c4, c5, c6, c7, c8, c9] : va_W) ∧ ([d0, d1, d2, d3, d4, d5, d6, d7, d8, d9] : va_W).length = 10 ∧ [0, 1, 2, 3, 4, 5, 6, 7, 8, 9].map (fun i => ([d0, d1, d2, d3, d4, d5, d6, d7, d8, d9] : va_W)[i]?) = List.map some ([d0, d1, d2, d3, d4, d5, d6, d7, d8, d9] : va_W) ∧ ([] : List Nat).map (fun i => ([d0, d1, d2, d3, d4, d5, d6, d7, d8, d9] : va_W)[i]?) = ([] : List Nat).map (fun i => ([c0, c1, c2, c3, c4, c5, c6, c7, c8, c9] : va_W)[i]?) := ⟨rfl, rfl, rfl, rfl⟩
set_option maxRecDepth 100000 in
theorem ax_X12_chance_62c (c0 c1 c2 c3 c4 c5 c6 c7 c8 c9 : Nat × va_E) : [0, 1, 2, 3, 4, 5, 6, 7, 8, 9].map (fun i => ([c0, c1, c2, c3, c4, c5, c6, c7, c8, c9] : va_W)[i]?) = List.map some ([c0, c1, c2, c3, c4, c5, c6, c7, c8, c9] : va_W) := rfl
set_option maxHeartbeats 4000000 in
set_option maxRecDepth 100000 in
theorem c_X12_chance (l : Launch) (G : jG) (N : Nat) (q_this : Nat) (q_this_book : Nat) (q_this_s : Nat) (q_this_place : Nat) (q_this_sort : Nat) (q_this_minute : Nat) (q_this_when : Nat) (q_this_isHeard : Nat) (q_this_goneBy : Nat) (q_this_stand : Nat) (v_this_text : Value) (v_this_length : Value) (v_this_draft : Value) (v_this_kept : Value) (v_this_keptMany : Value) (v_this_acts : Value) (v_this_actMany : Value) (v_this_row : Value) (v_this_rowMany : Value) (v_this_tells : Value) (v_this_tellMany : Value) (v_this_at : Value) (v_this_told : Value) (f_this_book : (Nat → Int32)) (f_this_s : (Nat → Int32)) (f_this_place : (Nat → Int32)) (f_this_sort : (Nat → Int32)) (f_this_minute : (Nat → Int32)) (f_this_when : (Nat → Int32)) (f_this_isHeard : (Nat → Int32)) (f_this_goneBy : (Nat → Int32)) (f_this_stand : (Nat → Int32)) (f_this_many : Int32) (f_this_standing : Int32) (x1 : Int32) (x2 : Int32) (x3 : Int32) (x4 : Int32) (u : Int32 × (Nat → Int32) × (Nat → Int32) × (Nat → Int32) × (Nat → Int32) × (Nat → Int32) × (Nat → Int32) × (Nat → Int32) × Int32 × Int32) (hu : g_X12_chance N f_this_book f_this_s f_this_place f_this_sort f_this_minute f_this_when f_this_isHeard f_this_goneBy f_this_stand f_this_many f_this_standing x1 x2 x3 x4 = some u) : MetRW l G yX12_chance wsX12_chance ({ frames := 4, cells := 0, slots := 0, locals := 97 } : Room) [.ref q_this, .int x1, .int x2, .int x3, .int x4] (w_X12_chance G q_this q_this_book q_this_s q_this_place q_this_sort q_this_minute q_this_when q_this_isHeard q_this_goneBy q_this_stand v_this_text v_this_length v_this_draft v_this_kept v_this_keptMany v_this_acts v_this_actMany v_this_row v_this_rowMany v_this_tells v_this_tellMany v_this_at v_this_told f_this_book f_this_s f_this_place f_this_sort f_this_minute f_this_when f_this_isHeard f_this_goneBy f_this_stand f_this_many f_this_standing) (w_X12_chance G q_this q_this_book q_this_s q_this_place q_this_sort q_this_minute q_this_when q_this_isHeard q_this_goneBy q_this_stand v_this_text v_this_length v_this_draft v_this_kept v_this_keptMany v_this_acts v_this_actMany v_this_row v_this_rowMany v_this_tells v_this_tellMany v_this_at v_this_told f_this_book f_this_s u.2.1 u.2.2.1 u.2.2.2.1 u.2.2.2.2.1 u.2.2.2.2.2.1 u.2.2.2.2.2.2.1 u.2.2.2.2.2.2.2.1 u.2.2.2.2.2.2.2.2.1 u.2.2.2.2.2.2.2.2.2) u.1 := by
  refine met_rwi (cc := cX12_chance) (maxL := 10) (lv0 := [(0, .ref q_this), (1, .int x1), (2, .int x2), (3, .int x3), (4, .int x4)]) (by decide) rfl rfl rfl rfl (fun X hX hW hret => ?_)
  have hinX12 : ∀ w ∈ u_ws RX12 TX12 24, w ∈ wsX12_chance := by decide +kernel
  have hf_X12_sort_40 : Cond.fieldLink RX12 40 (TX12 16).1 (TX12 16).2.1 (TX12 16).2.2.1 ∈ wsX12_chance := by decide +kernel
  have hf_X12_stand_56 : Cond.fieldLink RX12 56 (TX12 21).1 (TX12 21).2.1 (TX12 21).2.2.1 ∈ wsX12_chance := by decide +kernel
  have hf_X12_standing_134 : Cond.fieldLink RX12 134 (TX12 23).1 (TX12 23).2.1 (TX12 23).2.2.1 ∈ wsX12_chance := by decide +kernel
  have B166 : ∀ (f_this_place : (Nat → Int32)) (f_this_sort : (Nat → Int32)) (f_this_minute : (Nat → Int32)) (f_this_when : (Nat → Int32)) (f_this_isHeard : (Nat → Int32)) (f_this_goneBy : (Nat → Int32)) (f_this_stand : (Nat → Int32)) (f_this_many : Int32) (f_this_standing : Int32) (x4 : Int32) (x5 : Int32) (x6 : Int32) (x8 : Int32), g_X12_chance_b166 N f_this_book f_this_s f_this_place f_this_sort f_this_minute f_this_when f_this_isHeard f_this_goneBy f_this_stand f_this_many f_this_standing x4 x5 x6 x8 = some u → J X 0 0 (w_X12_chance G q_this q_this_book q_this_s q_this_place q_this_sort q_this_minute q_this_when q_this_isHeard q_this_goneBy q_this_stand v_this_text v_this_length v_this_draft v_this_kept v_this_keptMany v_this_acts v_this_actMany v_this_row v_this_rowMany v_this_tells v_this_tellMany v_this_at v_this_told f_this_book f_this_s f_this_place f_this_sort f_this_minute f_this_when f_this_isHeard f_this_goneBy f_this_stand f_this_many f_this_standing) 166 [(4, .int x4), (5, .int x5), (6, .int x6), (8, .int x8)] [] := by
    intro f_this_place f_this_sort f_this_minute f_this_when f_this_isHeard f_this_goneBy f_this_stand f_this_many f_this_standing x4 x5 x6 x8 hg
    unfold g_X12_chance_b166 at hg
    refine j_iload hX 0 dX12_chance_166 rfl ?_
    refine j_if_ne hX 179 hg dX12_chance_168 (by decide) (fun hg => ?_) (fun hg => ?_)
    · refine j_iload hX 2 dX12_chance_171 rfl ?_
      refine j_iload hX 3 dX12_chance_173 rfl ?_
      refine j_idiv hX hg dX12_chance_175 (fun hg => ?_)
      refine j_goto hX 184 dX12_chance_176 (by decide) ?_
      cases hg
      exact hret _ _ dX12_chance_184
    · refine j_iload hX 1 dX12_chance_179 rfl ?_
      refine j_iload hX 3 dX12_chance_181 rfl ?_
      refine j_idiv hX hg dX12_chance_183 (fun hg => ?_)
      cases hg
      exact hret _ _ dX12_chance_184
  have L143 : ∀ (fu143 : Nat), ∀ (f_this_place : (Nat → Int32)) (f_this_sort : (Nat → Int32)) (f_this_minute : (Nat → Int32)) (f_this_when : (Nat → Int32)) (f_this_isHeard : (Nat → Int32)) (f_this_goneBy : (Nat → Int32)) (f_this_stand : (Nat → Int32)) (f_this_many : Int32) (f_this_standing : Int32) (x4 : Int32) (x5 : Int32) (x6 : Int32) (x7 : Int32) (x8 : Int32), g_X12_chance_L143 N f_this_book f_this_s (g_X12_chance_b166 N f_this_book f_this_s) fu143 f_this_place f_this_sort f_this_minute f_this_when f_this_isHeard f_this_goneBy f_this_stand f_this_many f_this_standing x4 x5 x6 x7 x8 = some u → J X 0 0 (w_X12_chance G q_this q_this_book q_this_s q_this_place q_this_sort q_this_minute q_this_when q_this_isHeard q_this_goneBy q_this_stand v_this_text v_this_length v_this_draft v_this_kept v_this_keptMany v_this_acts v_this_actMany v_this_row v_this_rowMany v_this_tells v_this_tellMany v_this_at v_this_told f_this_book f_this_s f_this_place f_this_sort f_this_minute f_this_when f_this_isHeard f_this_goneBy f_this_stand f_this_many f_this_standing) 143 [(4, .int x4), (5, .int x5), (6, .int x6), (7, .int x7), (8, .int x8)] [] := by
    intro fu143
    induction fu143 with
    | zero => intro f_this_place f_this_sort f_this_minute f_this_when f_this_isHeard f_this_goneBy f_this_stand f_this_many f_this_standing x4 x5 x6 x7 x8 hg; exact nomatch hg
    | succ fu143 ih143 =>
      intro f_this_place f_this_sort f_this_minute f_this_when f_this_isHeard f_this_goneBy f_this_stand f_this_many f_this_standing x4 x5 x6 x7 x8 hg
      unfold g_X12_chance_L143 at hg
      refine j_iload hX 3 dX12_chance_143 rfl ?_
      refine j_if_eq hX 166 hg dX12_chance_145 (by decide) (fun hg => ?_) (fun hg => ?_)
      · refine j_lv [0, 1, 2, 4] rfl ?_
        exact B166 _ _ _ _ _ _ _ _ _ _ _ _ _ hg
      · refine j_iload hX 4 dX12_chance_148 rfl ?_
        refine j_iload hX 3 dX12_chance_150 rfl ?_
        refine j_irem hX hg dX12_chance_152 (fun hg => ?_)
        refine j_istore hX (lv' := [(9, .int (x8 - x8 / x7 * x7)), (4, .int x4), (5, .int x5), (6, .int x6), (7, .int x7), (8, .int x8)]) dX12_chance_153 rfl rfl ?_
        refine j_iload hX 4 dX12_chance_155 rfl ?_
        refine j_istore hX (lv' := [(8, .int x7), (9, .int (x8 - x8 / x7 * x7)), (4, .int x4), (5, .int x5), (6, .int x6), (7, .int x7)]) dX12_chance_157 rfl rfl ?_
        refine j_iload hX 1 dX12_chance_159 rfl ?_
        refine j_istore hX (lv' := [(7, .int (x8 - x8 / x7 * x7)), (8, .int x7), (9, .int (x8 - x8 / x7 * x7)), (4, .int x4), (5, .int x5), (6, .int x6)]) dX12_chance_161 rfl rfl ?_
        refine j_goto hX 143 dX12_chance_163 (by decide) ?_
        refine j_lv [3, 4, 5, 0, 1] rfl ?_
        exact ih143 _ _ _ _ _ _ _ _ _ _ _ _ _ _ hg
  have B135 : ∀ (f_this_place : (Nat → Int32)) (f_this_sort : (Nat → Int32)) (f_this_minute : (Nat → Int32)) (f_this_when : (Nat → Int32)) (f_this_isHeard : (Nat → Int32)) (f_this_goneBy : (Nat → Int32)) (f_this_stand : (Nat → Int32)) (f_this_many : Int32) (f_this_standing : Int32) (x4 : Int32) (x5 : Int32) (x6 : Int32), g_X12_chance_b135 N f_this_book f_this_s f_this_place f_this_sort f_this_minute f_this_when f_this_isHeard f_this_goneBy f_this_stand f_this_many f_this_standing x4 x5 x6 = some u → J X 0 0 (w_X12_chance G q_this q_this_book q_this_s q_this_place q_this_sort q_this_minute q_this_when q_this_isHeard q_this_goneBy q_this_stand v_this_text v_this_length v_this_draft v_this_kept v_this_keptMany v_this_acts v_this_actMany v_this_row v_this_rowMany v_this_tells v_this_tellMany v_this_at v_this_told f_this_book f_this_s f_this_place f_this_sort f_this_minute f_this_when f_this_isHeard f_this_goneBy f_this_stand f_this_many f_this_standing) 135 [(4, .int x4), (5, .int x5), (6, .int x6)] [] := by
    intro f_this_place f_this_sort f_this_minute f_this_when f_this_isHeard f_this_goneBy f_this_stand f_this_many f_this_standing x4 x5 x6 hg
    unfold g_X12_chance_b135 at hg
    refine j_iload hX 2 dX12_chance_135 rfl ?_
    refine j_istore hX (lv' := [(7, .int x6), (4, .int x4), (5, .int x5), (6, .int x6)]) dX12_chance_137 rfl rfl ?_
    refine j_iload hX 2 dX12_chance_139 rfl ?_
    refine j_istore hX (lv' := [(8, .int x5), (7, .int x6), (4, .int x4), (5, .int x5), (6, .int x6)]) dX12_chance_141 rfl rfl ?_
    refine j_lv [2, 3, 4, 1, 0] rfl ?_
    exact L143 N _ _ _ _ _ _ _ _ _ _ _ _ _ _ hg
  have L50 : ∀ (fu50 : Nat), ∀ (f_this_place : (Nat → Int32)) (f_this_sort : (Nat → Int32)) (f_this_minute : (Nat → Int32)) (f_this_when : (Nat → Int32)) (f_this_isHeard : (Nat → Int32)) (f_this_goneBy : (Nat → Int32)) (f_this_stand : (Nat → Int32)) (f_this_many : Int32) (f_this_standing : Int32) (x1 : Int32) (x2 : Int32) (x3 : Int32) (x4 : Int32) (x5 : Int32) (x6 : Int32) (x7 : Int32), g_X12_chance_L50 N f_this_book f_this_s (g_X12_chance_b135 N f_this_book f_this_s) fu50 f_this_place f_this_sort f_this_minute f_this_when f_this_isHeard f_this_goneBy f_this_stand f_this_many f_this_standing x1 x2 x3 x4 x5 x6 x7 = some u → J X 0 0 (w_X12_chance G q_this q_this_book q_this_s q_this_place q_this_sort q_this_minute q_this_when q_this_isHeard q_this_goneBy q_this_stand v_this_text v_this_length v_this_draft v_this_kept v_this_keptMany v_this_acts v_this_actMany v_this_row v_this_rowMany v_this_tells v_this_tellMany v_this_at v_this_told f_this_book f_this_s f_this_place f_this_sort f_this_minute f_this_when f_this_isHeard f_this_goneBy f_this_stand f_this_many f_this_standing) 50 [(0, .ref q_this), (1, .int x1), (2, .int x2), (3, .int x3), (4, .int x4), (5, .int x5), (6, .int x6), (7, .int x7)] [] := by
    intro fu50
    induction fu50 with
    | zero => intro f_this_place f_this_sort f_this_minute f_this_when f_this_isHeard f_this_goneBy f_this_stand f_this_many f_this_standing x1 x2 x3 x4 x5 x6 x7 hg; exact nomatch hg
    | succ fu50 ih50 =>
      have B126 : ∀ (f_this_place : (Nat → Int32)) (f_this_sort : (Nat → Int32)) (f_this_minute : (Nat → Int32)) (f_this_when : (Nat → Int32)) (f_this_isHeard : (Nat → Int32)) (f_this_goneBy : (Nat → Int32)) (f_this_stand : (Nat → Int32)) (f_this_many : Int32) (f_this_standing : Int32) (x1 : Int32) (x2 : Int32) (x3 : Int32) (x4 : Int32) (x5 : Int32) (x7 : Int32) (s0 : Int32) (s1 : Int32), g_X12_chance_b126 N f_this_book f_this_s (g_X12_chance_L50 N f_this_book f_this_s (g_X12_chance_b135 N f_this_book f_this_s) fu50) f_this_place f_this_sort f_this_minute f_this_when f_this_isHeard f_this_goneBy f_this_stand f_this_many f_this_standing x1 x2 x3 x4 x5 x7 s0 s1 = some u → J X 0 0 (w_X12_chance G q_this q_this_book q_this_s q_this_place q_this_sort q_this_minute q_this_when q_this_isHeard q_this_goneBy q_this_stand v_this_text v_this_length v_this_draft v_this_kept v_this_keptMany v_this_acts v_this_actMany v_this_row v_this_rowMany v_this_tells v_this_tellMany v_this_at v_this_told f_this_book f_this_s f_this_place f_this_sort f_this_minute f_this_when f_this_isHeard f_this_goneBy f_this_stand f_this_many f_this_standing) 126 [(0, .ref q_this), (1, .int x1), (2, .int x2), (3, .int x3), (4, .int x4), (5, .int x5), (7, .int x7)] [.int s1, .int s0] := by
        intro f_this_place f_this_sort f_this_minute f_this_when f_this_isHeard f_this_goneBy f_this_stand f_this_many f_this_standing x1 x2 x3 x4 x5 x7 s0 s1 hg
        unfold g_X12_chance_b126 at hg
        refine j_iadd hX dX12_chance_126 ?_
        refine j_istore hX (lv' := [(6, .int (s0 + s1)), (0, .ref q_this), (1, .int x1), (2, .int x2), (3, .int x3), (4, .int x4), (5, .int x5), (7, .int x7)]) dX12_chance_127 rfl rfl ?_
        refine j_iinc hX 7 (v := x7 + 1) (lv' := [(7, .int (x7 + 1)), (6, .int (s0 + s1)), (0, .ref q_this), (1, .int x1), (2, .int x2), (3, .int x3), (4, .int x4), (5, .int x5)]) dX12_chance_129 rfl (by rw [kc_1]) rfl rfl ?_
        refine j_goto hX 50 dX12_chance_132 (by decide) ?_
        refine j_lv [2, 3, 4, 5, 6, 7, 1, 0] rfl ?_
        exact ih50 _ _ _ _ _ _ _ _ _ _ _ _ _ _ _ _ hg
      have B114 : ∀ (f_this_place : (Nat → Int32)) (f_this_sort : (Nat → Int32)) (f_this_minute : (Nat → Int32)) (f_this_when : (Nat → Int32)) (f_this_isHeard : (Nat → Int32)) (f_this_goneBy : (Nat → Int32)) (f_this_stand : (Nat → Int32)) (f_this_many : Int32) (f_this_standing : Int32) (x1 : Int32) (x2 : Int32) (x3 : Int32) (x4 : Int32) (x5 : Int32) (x6 : Int32) (x7 : Int32) (x8 : Int32), g_X12_chance_b114 N f_this_book f_this_s (g_X12_chance_L50 N f_this_book f_this_s (g_X12_chance_b135 N f_this_book f_this_s) fu50) f_this_place f_this_sort f_this_minute f_this_when f_this_isHeard f_this_goneBy f_this_stand f_this_many f_this_standing x1 x2 x3 x4 x5 x6 x7 x8 = some u → J X 0 0 (w_X12_chance G q_this q_this_book q_this_s q_this_place q_this_sort q_this_minute q_this_when q_this_isHeard q_this_goneBy q_this_stand v_this_text v_this_length v_this_draft v_this_kept v_this_keptMany v_this_acts v_this_actMany v_this_row v_this_rowMany v_this_tells v_this_tellMany v_this_at v_this_told f_this_book f_this_s f_this_place f_this_sort f_this_minute f_this_when f_this_isHeard f_this_goneBy f_this_stand f_this_many f_this_standing) 114 [(0, .ref q_this), (1, .int x1), (2, .int x2), (3, .int x3), (4, .int x4), (5, .int x5), (6, .int x6), (7, .int x7), (8, .int x8)] [] := by
        intro f_this_place f_this_sort f_this_minute f_this_when f_this_isHeard f_this_goneBy f_this_stand f_this_many f_this_standing x1 x2 x3 x4 x5 x6 x7 x8 hg
        unfold g_X12_chance_b114 at hg
        refine j_iload hX 6 dX12_chance_114 rfl ?_
        refine j_iload hX 8 dX12_chance_116 rfl ?_
        refine j_if_eq hX 125 hg dX12_chance_118 (by decide) (fun hg => ?_) (fun hg => ?_)
        · refine j_iconst hX dX12_chance_125 kc_0 ?_
          refine j_lv [0, 1, 2, 3, 4, 5, 7] rfl ?_
          exact B126 _ _ _ _ _ _ _ _ _ _ _ _ _ _ _ _ _ hg
        · refine j_iconst hX dX12_chance_121 kc_1 ?_
          refine j_goto hX 126 dX12_chance_122 (by decide) ?_
          refine j_lv [0, 1, 2, 3, 4, 5, 7] rfl ?_
          exact B126 _ _ _ _ _ _ _ _ _ _ _ _ _ _ _ _ _ hg
      have L71 : ∀ (fu71 : Nat), ∀ (f_this_place : (Nat → Int32)) (f_this_sort : (Nat → Int32)) (f_this_minute : (Nat → Int32)) (f_this_when : (Nat → Int32)) (f_this_isHeard : (Nat → Int32)) (f_this_goneBy : (Nat → Int32)) (f_this_stand : (Nat → Int32)) (f_this_many : Int32) (f_this_standing : Int32) (x1 : Int32) (x2 : Int32) (x3 : Int32) (x4 : Int32) (x5 : Int32) (x6 : Int32) (x7 : Int32) (x8 : Int32) (x9 : Int32), g_X12_chance_L71 N f_this_book f_this_s (g_X12_chance_b114 N f_this_book f_this_s (g_X12_chance_L50 N f_this_book f_this_s (g_X12_chance_b135 N f_this_book f_this_s) fu50)) fu71 f_this_place f_this_sort f_this_minute f_this_when f_this_isHeard f_this_goneBy f_this_stand f_this_many f_this_standing x1 x2 x3 x4 x5 x6 x7 x8 x9 = some u → J X 0 0 (w_X12_chance G q_this q_this_book q_this_s q_this_place q_this_sort q_this_minute q_this_when q_this_isHeard q_this_goneBy q_this_stand v_this_text v_this_length v_this_draft v_this_kept v_this_keptMany v_this_acts v_this_actMany v_this_row v_this_rowMany v_this_tells v_this_tellMany v_this_at v_this_told f_this_book f_this_s f_this_place f_this_sort f_this_minute f_this_when f_this_isHeard f_this_goneBy f_this_stand f_this_many f_this_standing) 71 [(0, .ref q_this), (1, .int x1), (2, .int x2), (3, .int x3), (4, .int x4), (5, .int x5), (6, .int x6), (7, .int x7), (8, .int x8), (9, .int x9)] [] := by
        intro fu71
        induction fu71 with
        | zero => intro f_this_place f_this_sort f_this_minute f_this_when f_this_isHeard f_this_goneBy f_this_stand f_this_many f_this_standing x1 x2 x3 x4 x5 x6 x7 x8 x9 hg; exact nomatch hg
        | succ fu71 ih71 =>
          have B106 : ∀ (f_this_place : (Nat → Int32)) (f_this_sort : (Nat → Int32)) (f_this_minute : (Nat → Int32)) (f_this_when : (Nat → Int32)) (f_this_isHeard : (Nat → Int32)) (f_this_goneBy : (Nat → Int32)) (f_this_stand : (Nat → Int32)) (f_this_many : Int32) (f_this_standing : Int32) (x1 : Int32) (x2 : Int32) (x3 : Int32) (x4 : Int32) (x5 : Int32) (x6 : Int32) (x7 : Int32) (x9 : Int32) (s0 : Int32), g_X12_chance_b106 N f_this_book f_this_s (g_X12_chance_L71 N f_this_book f_this_s (g_X12_chance_b114 N f_this_book f_this_s (g_X12_chance_L50 N f_this_book f_this_s (g_X12_chance_b135 N f_this_book f_this_s) fu50)) fu71) f_this_place f_this_sort f_this_minute f_this_when f_this_isHeard f_this_goneBy f_this_stand f_this_many f_this_standing x1 x2 x3 x4 x5 x6 x7 x9 s0 = some u → J X 0 0 (w_X12_chance G q_this q_this_book q_this_s q_this_place q_this_sort q_this_minute q_this_when q_this_isHeard q_this_goneBy q_this_stand v_this_text v_this_length v_this_draft v_this_kept v_this_keptMany v_this_acts v_this_actMany v_this_row v_this_rowMany v_this_tells v_this_tellMany v_this_at v_this_told f_this_book f_this_s f_this_place f_this_sort f_this_minute f_this_when f_this_isHeard f_this_goneBy f_this_stand f_this_many f_this_standing) 106 [(0, .ref q_this), (1, .int x1), (2, .int x2), (3, .int x3), (4, .int x4), (5, .int x5), (6, .int x6), (7, .int x7), (9, .int x9)] [.int s0] := by
            intro f_this_place f_this_sort f_this_minute f_this_when f_this_isHeard f_this_goneBy f_this_stand f_this_many f_this_standing x1 x2 x3 x4 x5 x6 x7 x9 s0 hg
            unfold g_X12_chance_b106 at hg
            refine j_istore hX (lv' := [(8, .int s0), (0, .ref q_this), (1, .int x1), (2, .int x2), (3, .int x3), (4, .int x4), (5, .int x5), (6, .int x6), (7, .int x7), (9, .int x9)]) dX12_chance_106 rfl rfl ?_
            refine j_iinc hX 9 (v := x9 + 1) (lv' := [(9, .int (x9 + 1)), (8, .int s0), (0, .ref q_this), (1, .int x1), (2, .int x2), (3, .int x3), (4, .int x4), (5, .int x5), (6, .int x6), (7, .int x7)]) dX12_chance_108 rfl (by rw [kc_1]) rfl rfl ?_
            refine j_goto hX 71 dX12_chance_111 (by decide) ?_
            refine j_lv [2, 3, 4, 5, 6, 7, 8, 9, 1, 0] rfl ?_
            exact ih71 _ _ _ _ _ _ _ _ _ _ _ _ _ _ _ _ _ _ hg
          have B101 : ∀ (f_this_place : (Nat → Int32)) (f_this_sort : (Nat → Int32)) (f_this_minute : (Nat → Int32)) (f_this_when : (Nat → Int32)) (f_this_isHeard : (Nat → Int32)) (f_this_goneBy : (Nat → Int32)) (f_this_stand : (Nat → Int32)) (f_this_many : Int32) (f_this_standing : Int32) (x1 : Int32) (x2 : Int32) (x3 : Int32) (x4 : Int32) (x5 : Int32) (x6 : Int32) (x7 : Int32) (x9 : Int32), g_X12_chance_b101 N f_this_book f_this_s (g_X12_chance_L71 N f_this_book f_this_s (g_X12_chance_b114 N f_this_book f_this_s (g_X12_chance_L50 N f_this_book f_this_s (g_X12_chance_b135 N f_this_book f_this_s) fu50)) fu71) f_this_place f_this_sort f_this_minute f_this_when f_this_isHeard f_this_goneBy f_this_stand f_this_many f_this_standing x1 x2 x3 x4 x5 x6 x7 x9 = some u → J X 0 0 (w_X12_chance G q_this q_this_book q_this_s q_this_place q_this_sort q_this_minute q_this_when q_this_isHeard q_this_goneBy q_this_stand v_this_text v_this_length v_this_draft v_this_kept v_this_keptMany v_this_acts v_this_actMany v_this_row v_this_rowMany v_this_tells v_this_tellMany v_this_at v_this_told f_this_book f_this_s f_this_place f_this_sort f_this_minute f_this_when f_this_isHeard f_this_goneBy f_this_stand f_this_many f_this_standing) 101 [(0, .ref q_this), (1, .int x1), (2, .int x2), (3, .int x3), (4, .int x4), (5, .int x5), (6, .int x6), (7, .int x7), (9, .int x9)] [] := by
            intro f_this_place f_this_sort f_this_minute f_this_when f_this_isHeard f_this_goneBy f_this_stand f_this_many f_this_standing x1 x2 x3 x4 x5 x6 x7 x9 hg
            unfold g_X12_chance_b101 at hg
            refine j_iconst hX dX12_chance_101 kc_1 ?_
            refine j_goto hX 106 dX12_chance_102 (by decide) ?_
            exact B106 _ _ _ _ _ _ _ _ _ _ _ _ _ _ _ _ _ _ hg
          intro f_this_place f_this_sort f_this_minute f_this_when f_this_isHeard f_this_goneBy f_this_stand f_this_many f_this_standing x1 x2 x3 x4 x5 x6 x7 x8 x9 hg
          unfold g_X12_chance_L71 at hg
          refine j_iload hX 9 dX12_chance_71 rfl ?_
          refine j_aload_n hX 0 dX12_chance_73 rfl rfl ?_
          refine j_get hX 0 23 rfl rfl hinX12 rfl hf_X12_standing_134 rfl dX12_chance_74 ?_
          refine j_icmp_ge hX 114 hg dX12_chance_77 (by decide) (fun hg => ?_) (fun hg => ?_)
          · refine j_lv [0, 1, 2, 3, 4, 5, 6, 7, 8] rfl ?_
            exact B114 _ _ _ _ _ _ _ _ _ _ _ _ _ _ _ _ _ hg
          · refine j_iload hX 8 dX12_chance_80 rfl ?_
            refine j_if_ne hX 101 hg dX12_chance_82 (by decide) (fun hg => ?_) (fun hg => ?_)
            · refine j_aload_n hX 0 dX12_chance_85 rfl rfl ?_
              refine j_get hX 0 16 rfl rfl hinX12 rfl hf_X12_sort_40 rfl dX12_chance_86 ?_
              refine j_aload_n hX 0 dX12_chance_89 rfl rfl ?_
              refine j_get hX 0 21 rfl rfl hinX12 rfl hf_X12_stand_56 rfl dX12_chance_90 ?_
              refine j_iload hX 9 dX12_chance_93 rfl ?_
              refine j_iald hX 9 rfl hg dX12_chance_95 (fun hg => ?_)
              refine j_iald hX 4 rfl hg dX12_chance_96 (fun hg => ?_)
              refine j_iload_n hX 2 dX12_chance_97 rfl rfl ?_
              refine j_icmp_ne hX 105 hg dX12_chance_98 (by decide) (fun hg => ?_) (fun hg => ?_)
              · refine j_lv [0, 1, 2, 3, 4, 5, 6, 7, 9] rfl ?_
                exact B101 _ _ _ _ _ _ _ _ _ _ _ _ _ _ _ _ _ hg
              · refine j_iconst hX dX12_chance_105 kc_0 ?_
                refine j_lv [0, 1, 2, 3, 4, 5, 6, 7, 9] rfl ?_
                exact B106 _ _ _ _ _ _ _ _ _ _ _ _ _ _ _ _ _ _ hg
            · refine j_lv [0, 1, 2, 3, 4, 5, 6, 7, 9] rfl ?_
              exact B101 _ _ _ _ _ _ _ _ _ _ _ _ _ _ _ _ _ hg
      intro f_this_place f_this_sort f_this_minute f_this_when f_this_isHeard f_this_goneBy f_this_stand f_this_many f_this_standing x1 x2 x3 x4 x5 x6 x7 hg
      unfold g_X12_chance_L50 at hg
      refine j_iload hX 7 dX12_chance_50 rfl ?_
      refine j_iload hX 5 dX12_chance_52 rfl ?_
      refine j_icmp_ge hX 135 hg dX12_chance_54 (by decide) (fun hg => ?_) (fun hg => ?_)
      · refine j_lv [4, 5, 6] rfl ?_
        exact B135 _ _ _ _ _ _ _ _ _ _ _ _ hg
      · refine j_aload_n hX 0 dX12_chance_57 rfl rfl ?_
        refine j_iload_n hX 1 dX12_chance_58 rfl rfl ?_
        refine j_iload_n hX 3 dX12_chance_59 rfl rfl ?_
        refine j_iload hX 7 dX12_chance_60 rfl ?_
        refine j_vRV hX hW (w1 := fun v => (w_X12_taps G q_this q_this_book q_this_s q_this_place q_this_sort q_this_minute q_this_when q_this_isHeard q_this_goneBy q_this_stand v_this_text v_this_length v_this_draft v_this_kept v_this_keptMany v_this_acts v_this_actMany v_this_row v_this_rowMany v_this_tells v_this_tellMany v_this_at v_this_told f_this_book f_this_s v.1 v.2.1 v.2.2.1 v.2.2.2.1 v.2.2.2.2.1 v.2.2.2.2.2.1 v.2.2.2.2.2.2.1 v.2.2.2.2.2.2.2.1 v.2.2.2.2.2.2.2.2)) (ws' := fun v => (w_X12_chance G q_this q_this_book q_this_s q_this_place q_this_sort q_this_minute q_this_when q_this_isHeard q_this_goneBy q_this_stand v_this_text v_this_length v_this_draft v_this_kept v_this_keptMany v_this_acts v_this_actMany v_this_row v_this_rowMany v_this_tells v_this_tellMany v_this_at v_this_told f_this_book f_this_s v.1 v.2.1 v.2.2.1 v.2.2.2.1 v.2.2.2.2.1 v.2.2.2.2.2.1 v.2.2.2.2.2.2.1 v.2.2.2.2.2.2.2.1 v.2.2.2.2.2.2.2.2)) [.int x1, .int x3, .int x7] hg (fun v hv => c_X12_taps l G N q_this q_this_book q_this_s q_this_place q_this_sort q_this_minute q_this_when q_this_isHeard q_this_goneBy q_this_stand v_this_text v_this_length v_this_draft v_this_kept v_this_keptMany v_this_acts v_this_actMany v_this_row v_this_rowMany v_this_tells v_this_tellMany v_this_at v_this_told f_this_book f_this_s f_this_place f_this_sort f_this_minute f_this_when f_this_isHeard f_this_goneBy f_this_stand f_this_many f_this_standing x1 x3 x7 v hv) gX12_chance_X12_taps rfl ⟨rfl, rfl⟩ ⟨rfl, by decide, by decide, rfl⟩ rfl rfl [0, 1, 2, 3, 4, 5, 6, 7, 8, 9] (ax_X12_chance_62c _ _ _ _ _ _ _ _ _ _) (by decide +kernel) rfl rfl dX12_chance_62 rfl rfl ⟨Nat.zero_le _, Nat.zero_le _⟩ (fun _ => jn_ax [0, 1, 2, 3, 4, 5, 6, 7, 8, 9] ([] : List Nat) 10 (ax_X12_chance_62 _ _ _ _ _ _ _ _ _ _ _ _ _ _ _ _ _ _ _ _) rfl (by decide +kernel)) (fun v62 hg => ?_)
        refine j_iconst hX dX12_chance_65 kc_0 ?_
        refine j_istore hX (lv' := [(8, .int 0), (0, .ref q_this), (1, .int x1), (2, .int x2), (3, .int x3), (4, .int x4), (5, .int x5), (6, .int x6), (7, .int x7)]) dX12_chance_66 rfl rfl ?_
        refine j_iconst hX dX12_chance_68 kc_0 ?_
        refine j_istore hX (lv' := [(9, .int 0), (8, .int 0), (0, .ref q_this), (1, .int x1), (2, .int x2), (3, .int x3), (4, .int x4), (5, .int x5), (6, .int x6), (7, .int x7)]) dX12_chance_69 rfl rfl ?_
        refine j_lv [2, 3, 4, 5, 6, 7, 8, 9, 1, 0] rfl ?_
        exact L71 N _ _ _ _ _ _ _ _ _ _ _ _ _ _ _ _ _ _ hg
  have hg := hu
  unfold g_X12_chance at hg
  refine j_aload_n hX 0 dX12_chance_0 rfl rfl ?_
  refine j_iload_n hX 1 dX12_chance_1 rfl rfl ?_
  refine j_vRO hX (r := fun v => v) [.int x1] hg (fun v hv => c_X12_isPlace l G N q_this q_this_book v_this_text v_this_length v_this_draft (.ref q_this_s) v_this_kept v_this_keptMany v_this_acts v_this_actMany v_this_row v_this_rowMany v_this_tells v_this_tellMany v_this_at v_this_told (.ref q_this_place) (.ref q_this_sort) (.ref q_this_minute) (.ref q_this_when) (.ref q_this_isHeard) (.ref q_this_goneBy) (.ref q_this_stand) (.int f_this_many) (.int f_this_standing) f_this_book x1 v hv) gX12_chance_X12_isPlace rfl ⟨rfl, rfl⟩ ⟨rfl, by decide, by decide, rfl⟩ rfl rfl [0, 1] rfl rfl rfl dX12_chance_2 rfl rfl ⟨Nat.zero_le _, Nat.zero_le _⟩ (fun v2 hg => ?_)
  refine j_if_eq hX 35 hg dX12_chance_5 (by decide) (fun hg => ?_) (fun hg => ?_)
  · refine j_iconst hX dX12_chance_35 kc_m1 ?_
    cases hg
    exact hret _ _ dX12_chance_36
  · refine j_aload_n hX 0 dX12_chance_8 rfl rfl ?_
    refine j_iload_n hX 2 dX12_chance_9 rfl rfl ?_
    refine j_vRO hX (r := fun v => v) [.int x2] hg (fun v hv => c_X12_isSort l G N q_this q_this_book v_this_text v_this_length v_this_draft (.ref q_this_s) v_this_kept v_this_keptMany v_this_acts v_this_actMany v_this_row v_this_rowMany v_this_tells v_this_tellMany v_this_at v_this_told (.ref q_this_place) (.ref q_this_sort) (.ref q_this_minute) (.ref q_this_when) (.ref q_this_isHeard) (.ref q_this_goneBy) (.ref q_this_stand) (.int f_this_many) (.int f_this_standing) f_this_book x2 v hv) gX12_chance_X12_isSort rfl ⟨rfl, rfl⟩ ⟨rfl, by decide, by decide, rfl⟩ rfl rfl [0, 1] rfl rfl rfl dX12_chance_10 rfl rfl ⟨Nat.zero_le _, Nat.zero_le _⟩ (fun v10 hg => ?_)
    refine j_if_eq hX 35 hg dX12_chance_13 (by decide) (fun hg => ?_) (fun hg => ?_)
    · refine j_iconst hX dX12_chance_35 kc_m1 ?_
      cases hg
      exact hret _ _ dX12_chance_36
    · refine j_iload_n hX 3 dX12_chance_16 rfl rfl ?_
      refine j_iconst hX dX12_chance_17 kc_0 ?_
      refine j_iconst hX dX12_chance_18 kc_4 ?_
      refine j_sRO hX (r := fun v => v) [.int x3, .int 0, .int 4] hg (fun v hv => c_X12_in l G N x3 0 4 v hv) gX12_chance_X12_in rfl ⟨rfl, rfl⟩ ⟨by decide, by decide, rfl⟩ rfl rfl [] rfl dX12_chance_19 rfl rfl ⟨Nat.zero_le _, Nat.zero_le _⟩ (fun v19 hg => ?_)
      refine j_if_eq hX 35 hg dX12_chance_22 (by decide) (fun hg => ?_) (fun hg => ?_)
      · refine j_iconst hX dX12_chance_35 kc_m1 ?_
        cases hg
        exact hret _ _ dX12_chance_36
      · refine j_iload hX 4 dX12_chance_25 rfl ?_
        refine j_iconst hX dX12_chance_27 kc_0 ?_
        refine j_iconst hX dX12_chance_28 kc_1 ?_
        refine j_sRO hX (r := fun v => v) [.int x4, .int 0, .int 1] hg (fun v hv => c_X12_in l G N x4 0 1 v hv) gX12_chance_X12_in rfl ⟨rfl, rfl⟩ ⟨by decide, by decide, rfl⟩ rfl rfl [] rfl dX12_chance_29 rfl rfl ⟨Nat.zero_le _, Nat.zero_le _⟩ (fun v29 hg => ?_)
        refine j_if_ne hX 37 hg dX12_chance_32 (by decide) (fun hg => ?_) (fun hg => ?_)
        · refine j_iconst hX dX12_chance_35 kc_m1 ?_
          cases hg
          exact hret _ _ dX12_chance_36
        · refine j_aload_n hX 0 dX12_chance_37 rfl rfl ?_
          refine j_iload_n hX 3 dX12_chance_38 rfl rfl ?_
          refine j_vRO hX (r := fun v => v) [.int x3] hg (fun v hv => c_X12_codes l G N q_this q_this_book v_this_text v_this_length v_this_draft (.ref q_this_s) v_this_kept v_this_keptMany v_this_acts v_this_actMany v_this_row v_this_rowMany v_this_tells v_this_tellMany v_this_at v_this_told (.ref q_this_place) (.ref q_this_sort) (.ref q_this_minute) (.ref q_this_when) (.ref q_this_isHeard) (.ref q_this_goneBy) (.ref q_this_stand) (.int f_this_many) (.int f_this_standing) f_this_book x3 v hv) gX12_chance_X12_codes rfl ⟨rfl, rfl⟩ ⟨rfl, by decide, by decide, rfl⟩ rfl rfl [0, 1] rfl rfl rfl dX12_chance_39 rfl rfl ⟨Nat.zero_le _, Nat.zero_le _⟩ (fun v39 hg => ?_)
          refine j_istore hX (lv' := [(5, .int v39), (0, .ref q_this), (1, .int x1), (2, .int x2), (3, .int x3), (4, .int x4)]) dX12_chance_42 rfl rfl ?_
          refine j_iconst hX dX12_chance_44 kc_0 ?_
          refine j_istore hX (lv' := [(6, .int 0), (5, .int v39), (0, .ref q_this), (1, .int x1), (2, .int x2), (3, .int x3), (4, .int x4)]) dX12_chance_45 rfl rfl ?_
          refine j_iconst hX dX12_chance_47 kc_0 ?_
          refine j_istore hX (lv' := [(7, .int 0), (6, .int 0), (5, .int v39), (0, .ref q_this), (1, .int x1), (2, .int x2), (3, .int x3), (4, .int x4)]) dX12_chance_48 rfl rfl ?_
          refine j_lv [3, 4, 5, 6, 7, 2, 1, 0] rfl ?_
          exact L50 N _ _ _ _ _ _ _ _ _ _ _ _ _ _ _ _ hg
abbrev w_X12_day (G : jG) (q_this : Nat) (q_this_book : Nat) (q_this_place : Nat) (q_this_sort : Nat) (q_this_minute : Nat) (q_this_when : Nat) (q_this_isHeard : Nat) (q_this_goneBy : Nat) (q_this_stand : Nat) (v_this_text : Value) (v_this_length : Value) (v_this_draft : Value) (v_this_s : Value) (v_this_kept : Value) (v_this_keptMany : Value) (v_this_acts : Value) (v_this_actMany : Value) (v_this_row : Value) (v_this_rowMany : Value) (v_this_tells : Value) (v_this_tellMany : Value) (v_this_at : Value) (v_this_told : Value) (f_this_book : (Nat → Int32)) (f_this_place : (Nat → Int32)) (f_this_sort : (Nat → Int32)) (f_this_minute : (Nat → Int32)) (f_this_when : (Nat → Int32)) (f_this_isHeard : (Nat → Int32)) (f_this_goneBy : (Nat → Int32)) (f_this_stand : (Nat → Int32)) (f_this_many : Int32) (f_this_standing : Int32) : va_W := [oC q_this 12 [v_this_text, v_this_length, .ref q_this_book, v_this_draft, v_this_s, v_this_kept, v_this_keptMany, v_this_acts, v_this_actMany, v_this_row, v_this_rowMany, v_this_tells, v_this_tellMany, v_this_at, v_this_told, .ref q_this_place, .ref q_this_sort, .ref q_this_minute, .ref q_this_when, .ref q_this_isHeard, .ref q_this_goneBy, .ref q_this_stand, .int f_this_many, .int f_this_standing], aI G q_this_book 78 f_this_book, aI G q_this_place 128 f_this_place, aI G q_this_sort 128 f_this_sort, aI G q_this_minute 128 f_this_minute, aI G q_this_when 128 f_this_when, aZ G q_this_isHeard 128 f_this_isHeard, aI G q_this_goneBy 128 f_this_goneBy, aI G q_this_stand 128 f_this_stand]
def g_X12_day_b132 (N : Nat) (f_this_book : (Nat → Int32)) (f_this_place : (Nat → Int32)) (f_this_sort : (Nat → Int32)) (f_this_minute : (Nat → Int32)) (f_this_when : (Nat → Int32)) (f_this_isHeard : (Nat → Int32)) (f_this_goneBy : (Nat → Int32)) (f_this_stand : (Nat → Int32)) (f_this_many : Int32) (f_this_standing : Int32) (x3 : Int32) : Option (Int32 × (Nat → Int32) × (Nat → Int32) × (Nat → Int32) × (Nat → Int32) × (Nat → Int32) × (Nat → Int32) × (Nat → Int32) × Int32 × Int32) := (g_X12_plays N f_this_book f_this_place f_this_sort f_this_minute f_this_many f_this_when f_this_isHeard f_this_goneBy f_this_stand f_this_standing x3 100000).bind fun v136 => some (v136.2.2.2.2, f_this_place, f_this_sort, f_this_minute, v136.1, v136.2.1, v136.2.2.1, v136.2.2.2.1, f_this_many, v136.2.2.2.2)
def g_X12_day_b96 (N : Nat) (f_this_book : (Nat → Int32)) (rec_42 : (Nat → Int32) → (Nat → Int32) → (Nat → Int32) → (Nat → Int32) → (Nat → Int32) → (Nat → Int32) → (Nat → Int32) → Int32 → Int32 → Int32 → Int32 → Int32 → Int32 → Int32 → Option (Int32 × (Nat → Int32) × (Nat → Int32) × (Nat → Int32) × (Nat → Int32) × (Nat → Int32) × (Nat → Int32) × (Nat → Int32) × Int32 × Int32)) (f_this_place : (Nat → Int32)) (f_this_sort : (Nat → Int32)) (f_this_minute : (Nat → Int32)) (f_this_when : (Nat → Int32)) (f_this_isHeard : (Nat → Int32)) (f_this_goneBy : (Nat → Int32)) (f_this_stand : (Nat → Int32)) (f_this_many : Int32) (f_this_standing : Int32) (x1 : Int32) (x2 : Int32) (x3 : Int32) (x5 : Int32) (x8 : Int32) (s0 : Int32) (s1 : Int32) : Option (Int32 × (Nat → Int32) × (Nat → Int32) × (Nat → Int32) × (Nat → Int32) × (Nat → Int32) × (Nat → Int32) × (Nat → Int32) × Int32 × Int32) := gi 0 78 (gz (f_this_book (0 : Int32).toNatClampNeg) (gz 8 (gi 3 78 (gz (f_this_book (3 : Int32).toNatClampNeg) ((g_X12_tries N f_this_place f_this_sort f_this_minute f_this_many (x8 - x8 / (f_this_book (0 : Int32).toNatClampNeg) * (f_this_book (0 : Int32).toNatClampNeg)) ((x8 / 8) - (x8 / 8) / (f_this_book (3 : Int32).toNatClampNeg) * (f_this_book (3 : Int32).toNatClampNeg)) (s0 + s1)).bind fun v123 => rec_42 v123.1 v123.2.1 v123.2.2.1 f_this_when f_this_isHeard f_this_goneBy f_this_stand v123.2.2.2 f_this_standing x1 x2 x3 (s0 + s1) (x5 + 1))))))
def g_X12_day_L42 (N : Nat) (f_this_book : (Nat → Int32)) (k_132 : (Nat → Int32) → (Nat → Int32) → (Nat → Int32) → (Nat → Int32) → (Nat → Int32) → (Nat → Int32) → (Nat → Int32) → Int32 → Int32 → Int32 → Option (Int32 × (Nat → Int32) × (Nat → Int32) × (Nat → Int32) × (Nat → Int32) × (Nat → Int32) × (Nat → Int32) × (Nat → Int32) × Int32 × Int32)) : Nat → (Nat → Int32) → (Nat → Int32) → (Nat → Int32) → (Nat → Int32) → (Nat → Int32) → (Nat → Int32) → (Nat → Int32) → Int32 → Int32 → Int32 → Int32 → Int32 → Int32 → Int32 → Option (Int32 × (Nat → Int32) × (Nat → Int32) × (Nat → Int32) × (Nat → Int32) × (Nat → Int32) × (Nat → Int32) × (Nat → Int32) × Int32 × Int32)
  | 0, _, _, _, _, _, _, _, _, _, _, _, _, _, _ => none
  | fu + 1, f_this_place, f_this_sort, f_this_minute, f_this_when, f_this_isHeard, f_this_goneBy, f_this_stand, f_this_many, f_this_standing, x1, x2, x3, x4, x5 => if x2 ≤ x5 then k_132 f_this_place f_this_sort f_this_minute f_this_when f_this_isHeard f_this_goneBy f_this_stand f_this_many f_this_standing x3 else gzl 65521 (if x5 = 0 then g_X12_day_b96 N f_this_book (g_X12_day_L42 N f_this_book k_132 fu) f_this_place f_this_sort f_this_minute f_this_when f_this_isHeard f_this_goneBy f_this_stand f_this_many f_this_standing x1 x2 x3 x5 ((((((7919 * ((x1 : Int32).toInt64)) + (6151 * ((x5 : Int32).toInt64))) + 1) * (((7919 * ((x1 : Int32).toInt64)) + (6151 * ((x5 : Int32).toInt64))) + 1)) - ((((7919 * ((x1 : Int32).toInt64)) + (6151 * ((x5 : Int32).toInt64))) + 1) * (((7919 * ((x1 : Int32).toInt64)) + (6151 * ((x5 : Int32).toInt64))) + 1)) / 65521 * 65521 : Int64).toInt32) x4 0 else gz 64 (gz 5 (g_X12_day_b96 N f_this_book (g_X12_day_L42 N f_this_book k_132 fu) f_this_place f_this_sort f_this_minute f_this_when f_this_isHeard f_this_goneBy f_this_stand f_this_many f_this_standing x1 x2 x3 x5 ((((((7919 * ((x1 : Int32).toInt64)) + (6151 * ((x5 : Int32).toInt64))) + 1) * (((7919 * ((x1 : Int32).toInt64)) + (6151 * ((x5 : Int32).toInt64))) + 1)) - ((((7919 * ((x1 : Int32).toInt64)) + (6151 * ((x5 : Int32).toInt64))) + 1) * (((7919 * ((x1 : Int32).toInt64)) + (6151 * ((x5 : Int32).toInt64))) + 1)) / 65521 * 65521 : Int64).toInt32) x4 ((((((((7919 * ((x1 : Int32).toInt64)) + (6151 * ((x5 : Int32).toInt64))) + 1) * (((7919 * ((x1 : Int32).toInt64)) + (6151 * ((x5 : Int32).toInt64))) + 1)) - ((((7919 * ((x1 : Int32).toInt64)) + (6151 * ((x5 : Int32).toInt64))) + 1) * (((7919 * ((x1 : Int32).toInt64)) + (6151 * ((x5 : Int32).toInt64))) + 1)) / 65521 * 65521 : Int64).toInt32) / 64) - (((((((7919 * ((x1 : Int32).toInt64)) + (6151 * ((x5 : Int32).toInt64))) + 1) * (((7919 * ((x1 : Int32).toInt64)) + (6151 * ((x5 : Int32).toInt64))) + 1)) - ((((7919 * ((x1 : Int32).toInt64)) + (6151 * ((x5 : Int32).toInt64))) + 1) * (((7919 * ((x1 : Int32).toInt64)) + (6151 * ((x5 : Int32).toInt64))) + 1)) / 65521 * 65521 : Int64).toInt32) / 64) / 5 * 5))))
def g_X12_day (N : Nat) (f_this_book : (Nat → Int32)) (f_this_place : (Nat → Int32)) (f_this_sort : (Nat → Int32)) (f_this_minute : (Nat → Int32)) (f_this_when : (Nat → Int32)) (f_this_isHeard : (Nat → Int32)) (f_this_goneBy : (Nat → Int32)) (f_this_stand : (Nat → Int32)) (f_this_many : Int32) (f_this_standing : Int32) (x1 : Int32) (x2 : Int32) (x3 : Int32) : Option (Int32 × (Nat → Int32) × (Nat → Int32) × (Nat → Int32) × (Nat → Int32) × (Nat → Int32) × (Nat → Int32) × (Nat → Int32) × Int32 × Int32) := (g_X12_in N x1 0 9999).bind fun v5 => if v5 = 0 then some ((-1), f_this_place, f_this_sort, f_this_minute, f_this_when, f_this_isHeard, f_this_goneBy, f_this_stand, f_this_many, f_this_standing) else (g_X12_in N x2 1 99).bind fun v15 => if v15 = 0 then some ((-1), f_this_place, f_this_sort, f_this_minute, f_this_when, f_this_isHeard, f_this_goneBy, f_this_stand, f_this_many, f_this_standing) else (g_X12_isPlace N f_this_book x3).bind fun v23 => if v23 = 0 then some ((-1), f_this_place, f_this_sort, f_this_minute, f_this_when, f_this_isHeard, f_this_goneBy, f_this_stand, f_this_many, f_this_standing) else g_X12_day_L42 N f_this_book (g_X12_day_b132 N f_this_book) N f_this_place f_this_sort f_this_minute f_this_when f_this_isHeard f_this_goneBy f_this_stand 0 f_this_standing x1 x2 x3 0 0
set_option maxRecDepth 100000 in
theorem ax_X12_day_136 (c0 c1 c2 c3 c4 c5 c6 c7 c8 d0 d1 d2 d3 d4 d5 d6 d7 d8 : Nat × va_E) : [0, 1, 2, 3, 4, 5, 6, 7, 8].map (fun i => ([c0, c1, c2, c3, c4, c5, c6, c7, c8] : va_W)[i]?) = List.map some ([c0, c1, c2, c3, c4, c5, c6, c7, c8] : va_W) ∧ ([d0, d1, d2, d3, d4, d5, d6, d7, d8] : va_W).length = 9 ∧ [0, 1, 2, 3, 4, 5, 6, 7, 8].map (fun i => ([d0, d1, d2, d3, d4, d5, d6, d7, d8] : va_W)[i]?) = List.map some ([d0, d1, d2, d3, d4, d5, d6, d7, d8] : va_W) ∧ ([] : List Nat).map (fun i => ([d0, d1, d2, d3, d4, d5, d6, d7, d8] : va_W)[i]?) = ([] : List Nat).map (fun i => ([c0, c1, c2, c3, c4, c5, c6, c7, c8] : va_W)[i]?) := ⟨rfl, rfl, rfl, rfl⟩
set_option maxRecDepth 100000 in
theorem ax_X12_day_136c (c0 c1 c2 c3 c4 c5 c6 c7 c8 : Nat × va_E) : [0, 1, 2, 3, 4, 5, 6, 7, 8].map (fun i => ([c0, c1, c2, c3, c4, c5, c6, c7, c8] : va_W)[i]?) = List.map some ([c0, c1, c2, c3, c4, c5, c6, c7, c8] : va_W) := rfl
set_option maxHeartbeats 4000000 in
set_option maxRecDepth 100000 in
theorem c_X12_day (l : Launch) (G : jG) (N : Nat) (q_this : Nat) (q_this_book : Nat) (q_this_place : Nat) (q_this_sort : Nat) (q_this_minute : Nat) (q_this_when : Nat) (q_this_isHeard : Nat) (q_this_goneBy : Nat) (q_this_stand : Nat) (v_this_text : Value) (v_this_length : Value) (v_this_draft : Value) (v_this_s : Value) (v_this_kept : Value) (v_this_keptMany : Value) (v_this_acts : Value) (v_this_actMany : Value) (v_this_row : Value) (v_this_rowMany : Value) (v_this_tells : Value) (v_this_tellMany : Value) (v_this_at : Value) (v_this_told : Value) (f_this_book : (Nat → Int32)) (f_this_place : (Nat → Int32)) (f_this_sort : (Nat → Int32)) (f_this_minute : (Nat → Int32)) (f_this_when : (Nat → Int32)) (f_this_isHeard : (Nat → Int32)) (f_this_goneBy : (Nat → Int32)) (f_this_stand : (Nat → Int32)) (f_this_many : Int32) (f_this_standing : Int32) (x1 : Int32) (x2 : Int32) (x3 : Int32) (u : Int32 × (Nat → Int32) × (Nat → Int32) × (Nat → Int32) × (Nat → Int32) × (Nat → Int32) × (Nat → Int32) × (Nat → Int32) × Int32 × Int32) (hu : g_X12_day N f_this_book f_this_place f_this_sort f_this_minute f_this_when f_this_isHeard f_this_goneBy f_this_stand f_this_many f_this_standing x1 x2 x3 = some u) : MetRW l G yX12_day wsX12_day ({ frames := 3, cells := 0, slots := 0, locals := 72 } : Room) [.ref q_this, .int x1, .int x2, .int x3] (w_X12_day G q_this q_this_book q_this_place q_this_sort q_this_minute q_this_when q_this_isHeard q_this_goneBy q_this_stand v_this_text v_this_length v_this_draft v_this_s v_this_kept v_this_keptMany v_this_acts v_this_actMany v_this_row v_this_rowMany v_this_tells v_this_tellMany v_this_at v_this_told f_this_book f_this_place f_this_sort f_this_minute f_this_when f_this_isHeard f_this_goneBy f_this_stand f_this_many f_this_standing) (w_X12_day G q_this q_this_book q_this_place q_this_sort q_this_minute q_this_when q_this_isHeard q_this_goneBy q_this_stand v_this_text v_this_length v_this_draft v_this_s v_this_kept v_this_keptMany v_this_acts v_this_actMany v_this_row v_this_rowMany v_this_tells v_this_tellMany v_this_at v_this_told f_this_book u.2.1 u.2.2.1 u.2.2.2.1 u.2.2.2.2.1 u.2.2.2.2.2.1 u.2.2.2.2.2.2.1 u.2.2.2.2.2.2.2.1 u.2.2.2.2.2.2.2.2.1 u.2.2.2.2.2.2.2.2.2) u.1 := by
  refine met_rwi (cc := cX12_day) (maxL := 9) (lv0 := [(0, .ref q_this), (1, .int x1), (2, .int x2), (3, .int x3)]) (by decide) rfl rfl rfl rfl (fun X hX hW hret => ?_)
  have hinX12 : ∀ w ∈ u_ws RX12 TX12 24, w ∈ wsX12_day := by decide +kernel
  have hf_X12_book_13 : Cond.fieldLink RX12 13 (TX12 2).1 (TX12 2).2.1 (TX12 2).2.2.1 ∈ wsX12_day := by decide +kernel
  have hf_X12_many_127 : Cond.fieldLink RX12 127 (TX12 22).1 (TX12 22).2.1 (TX12 22).2.2.1 ∈ wsX12_day := by decide +kernel
  have hf_X12_standing_134 : Cond.fieldLink RX12 134 (TX12 23).1 (TX12 23).2.1 (TX12 23).2.2.1 ∈ wsX12_day := by decide +kernel
  have B132 : ∀ (f_this_place : (Nat → Int32)) (f_this_sort : (Nat → Int32)) (f_this_minute : (Nat → Int32)) (f_this_when : (Nat → Int32)) (f_this_isHeard : (Nat → Int32)) (f_this_goneBy : (Nat → Int32)) (f_this_stand : (Nat → Int32)) (f_this_many : Int32) (f_this_standing : Int32) (x3 : Int32), g_X12_day_b132 N f_this_book f_this_place f_this_sort f_this_minute f_this_when f_this_isHeard f_this_goneBy f_this_stand f_this_many f_this_standing x3 = some u → J X 0 0 (w_X12_day G q_this q_this_book q_this_place q_this_sort q_this_minute q_this_when q_this_isHeard q_this_goneBy q_this_stand v_this_text v_this_length v_this_draft v_this_s v_this_kept v_this_keptMany v_this_acts v_this_actMany v_this_row v_this_rowMany v_this_tells v_this_tellMany v_this_at v_this_told f_this_book f_this_place f_this_sort f_this_minute f_this_when f_this_isHeard f_this_goneBy f_this_stand f_this_many f_this_standing) 132 [(0, .ref q_this), (3, .int x3)] [] := by
    intro f_this_place f_this_sort f_this_minute f_this_when f_this_isHeard f_this_goneBy f_this_stand f_this_many f_this_standing x3 hg
    unfold g_X12_day_b132 at hg
    refine j_aload_n hX 0 dX12_day_132 rfl rfl ?_
    refine j_iload_n hX 1 dX12_day_133 rfl rfl ?_
    refine j_ldc hX (v := 100000) (by decide +kernel) dX12_day_134 ?_
    refine j_vRV hX hW (w1 := fun v => (w_X12_plays G q_this q_this_book q_this_place q_this_sort q_this_minute q_this_when q_this_isHeard q_this_goneBy q_this_stand v_this_text v_this_length v_this_draft v_this_s v_this_kept v_this_keptMany v_this_acts v_this_actMany v_this_row v_this_rowMany v_this_tells v_this_tellMany v_this_at v_this_told f_this_book f_this_place f_this_sort f_this_minute v.1 v.2.1 v.2.2.1 v.2.2.2.1 f_this_many v.2.2.2.2)) (ws' := fun v => (w_X12_day G q_this q_this_book q_this_place q_this_sort q_this_minute q_this_when q_this_isHeard q_this_goneBy q_this_stand v_this_text v_this_length v_this_draft v_this_s v_this_kept v_this_keptMany v_this_acts v_this_actMany v_this_row v_this_rowMany v_this_tells v_this_tellMany v_this_at v_this_told f_this_book f_this_place f_this_sort f_this_minute v.1 v.2.1 v.2.2.1 v.2.2.2.1 f_this_many v.2.2.2.2)) [.int x3, .int 100000] hg (fun v hv => c_X12_plays l G N q_this q_this_book q_this_place q_this_sort q_this_minute q_this_when q_this_isHeard q_this_goneBy q_this_stand v_this_text v_this_length v_this_draft v_this_s v_this_kept v_this_keptMany v_this_acts v_this_actMany v_this_row v_this_rowMany v_this_tells v_this_tellMany v_this_at v_this_told f_this_book f_this_place f_this_sort f_this_minute f_this_when f_this_isHeard f_this_goneBy f_this_stand f_this_many f_this_standing x3 100000 v hv) gX12_day_X12_plays rfl ⟨rfl, rfl⟩ ⟨rfl, by decide, by decide, rfl⟩ rfl rfl [0, 1, 2, 3, 4, 5, 6, 7, 8] (ax_X12_day_136c _ _ _ _ _ _ _ _ _) (by decide +kernel) rfl rfl dX12_day_136 rfl rfl ⟨Nat.zero_le _, Nat.zero_le _⟩ (fun _ => jn_ax [0, 1, 2, 3, 4, 5, 6, 7, 8] ([] : List Nat) 9 (ax_X12_day_136 _ _ _ _ _ _ _ _ _ _ _ _ _ _ _ _ _ _) rfl (by decide +kernel)) (fun v136 hg => ?_)
    refine j_aload_n hX 0 dX12_day_139 rfl rfl ?_
    refine j_get hX 0 23 rfl rfl hinX12 rfl hf_X12_standing_134 rfl dX12_day_140 ?_
    cases hg
    exact hret _ _ dX12_day_143
  have L42 : ∀ (fu42 : Nat), ∀ (f_this_place : (Nat → Int32)) (f_this_sort : (Nat → Int32)) (f_this_minute : (Nat → Int32)) (f_this_when : (Nat → Int32)) (f_this_isHeard : (Nat → Int32)) (f_this_goneBy : (Nat → Int32)) (f_this_stand : (Nat → Int32)) (f_this_many : Int32) (f_this_standing : Int32) (x1 : Int32) (x2 : Int32) (x3 : Int32) (x4 : Int32) (x5 : Int32), g_X12_day_L42 N f_this_book (g_X12_day_b132 N f_this_book) fu42 f_this_place f_this_sort f_this_minute f_this_when f_this_isHeard f_this_goneBy f_this_stand f_this_many f_this_standing x1 x2 x3 x4 x5 = some u → J X 0 0 (w_X12_day G q_this q_this_book q_this_place q_this_sort q_this_minute q_this_when q_this_isHeard q_this_goneBy q_this_stand v_this_text v_this_length v_this_draft v_this_s v_this_kept v_this_keptMany v_this_acts v_this_actMany v_this_row v_this_rowMany v_this_tells v_this_tellMany v_this_at v_this_told f_this_book f_this_place f_this_sort f_this_minute f_this_when f_this_isHeard f_this_goneBy f_this_stand f_this_many f_this_standing) 42 [(0, .ref q_this), (1, .int x1), (2, .int x2), (3, .int x3), (4, .int x4), (5, .int x5)] [] := by
    intro fu42
    induction fu42 with
    | zero => intro f_this_place f_this_sort f_this_minute f_this_when f_this_isHeard f_this_goneBy f_this_stand f_this_many f_this_standing x1 x2 x3 x4 x5 hg; exact nomatch hg
    | succ fu42 ih42 =>
      have B96 : ∀ (f_this_place : (Nat → Int32)) (f_this_sort : (Nat → Int32)) (f_this_minute : (Nat → Int32)) (f_this_when : (Nat → Int32)) (f_this_isHeard : (Nat → Int32)) (f_this_goneBy : (Nat → Int32)) (f_this_stand : (Nat → Int32)) (f_this_many : Int32) (f_this_standing : Int32) (x1 : Int32) (x2 : Int32) (x3 : Int32) (x5 : Int32) (x8 : Int32) (s0 : Int32) (s1 : Int32), g_X12_day_b96 N f_this_book (g_X12_day_L42 N f_this_book (g_X12_day_b132 N f_this_book) fu42) f_this_place f_this_sort f_this_minute f_this_when f_this_isHeard f_this_goneBy f_this_stand f_this_many f_this_standing x1 x2 x3 x5 x8 s0 s1 = some u → J X 0 0 (w_X12_day G q_this q_this_book q_this_place q_this_sort q_this_minute q_this_when q_this_isHeard q_this_goneBy q_this_stand v_this_text v_this_length v_this_draft v_this_s v_this_kept v_this_keptMany v_this_acts v_this_actMany v_this_row v_this_rowMany v_this_tells v_this_tellMany v_this_at v_this_told f_this_book f_this_place f_this_sort f_this_minute f_this_when f_this_isHeard f_this_goneBy f_this_stand f_this_many f_this_standing) 96 [(0, .ref q_this), (1, .int x1), (2, .int x2), (3, .int x3), (5, .int x5), (8, .int x8)] [.int s1, .int s0] := by
        intro f_this_place f_this_sort f_this_minute f_this_when f_this_isHeard f_this_goneBy f_this_stand f_this_many f_this_standing x1 x2 x3 x5 x8 s0 s1 hg
        unfold g_X12_day_b96 at hg
        refine j_iadd hX dX12_day_96 ?_
        refine j_istore hX (lv' := [(4, .int (s0 + s1)), (0, .ref q_this), (1, .int x1), (2, .int x2), (3, .int x3), (5, .int x5), (8, .int x8)]) dX12_day_97 rfl rfl ?_
        refine j_aload_n hX 1 dX12_day_99 rfl rfl ?_
        refine j_iload hX 6 dX12_day_100 rfl ?_
        refine j_aload_n hX 1 dX12_day_102 rfl rfl ?_
        refine j_get hX 0 2 rfl rfl hinX12 rfl hf_X12_book_13 rfl dX12_day_103 ?_
        refine j_iconst hX dX12_day_106 kc_0 ?_
        refine j_iald hX 1 rfl hg dX12_day_107 (fun hg => ?_)
        refine j_irem hX hg dX12_day_108 (fun hg => ?_)
        refine j_iload hX 6 dX12_day_109 rfl ?_
        refine j_bipush hX dX12_day_111 kb_8 ?_
        refine j_idiv hX hg dX12_day_113 (fun hg => ?_)
        refine j_aload_n hX 1 dX12_day_114 rfl rfl ?_
        refine j_get hX 0 2 rfl rfl hinX12 rfl hf_X12_book_13 rfl dX12_day_115 ?_
        refine j_iconst hX dX12_day_118 kc_3 ?_
        refine j_iald hX 1 rfl hg dX12_day_119 (fun hg => ?_)
        refine j_irem hX hg dX12_day_120 (fun hg => ?_)
        refine j_iload hX 0 dX12_day_121 rfl ?_
        refine j_vRV hX hW (w1 := fun v => (w_X12_tries G q_this q_this_place q_this_sort q_this_minute v_this_text v_this_length (.ref q_this_book) v_this_draft v_this_s v_this_kept v_this_keptMany v_this_acts v_this_actMany v_this_row v_this_rowMany v_this_tells v_this_tellMany v_this_at v_this_told (.ref q_this_when) (.ref q_this_isHeard) (.ref q_this_goneBy) (.ref q_this_stand) (.int f_this_standing) v.1 v.2.1 v.2.2.1 v.2.2.2)) (ws' := fun v => (w_X12_day G q_this q_this_book q_this_place q_this_sort q_this_minute q_this_when q_this_isHeard q_this_goneBy q_this_stand v_this_text v_this_length v_this_draft v_this_s v_this_kept v_this_keptMany v_this_acts v_this_actMany v_this_row v_this_rowMany v_this_tells v_this_tellMany v_this_at v_this_told f_this_book v.1 v.2.1 v.2.2.1 f_this_when f_this_isHeard f_this_goneBy f_this_stand v.2.2.2 f_this_standing)) [.int (x8 - x8 / (f_this_book (0 : Int32).toNatClampNeg) * (f_this_book (0 : Int32).toNatClampNeg)), .int ((x8 / 8) - (x8 / 8) / (f_this_book (3 : Int32).toNatClampNeg) * (f_this_book (3 : Int32).toNatClampNeg)), .int (s0 + s1)] hg (fun v hv => c_X12_tries l G N q_this q_this_place q_this_sort q_this_minute v_this_text v_this_length (.ref q_this_book) v_this_draft v_this_s v_this_kept v_this_keptMany v_this_acts v_this_actMany v_this_row v_this_rowMany v_this_tells v_this_tellMany v_this_at v_this_told (.ref q_this_when) (.ref q_this_isHeard) (.ref q_this_goneBy) (.ref q_this_stand) (.int f_this_standing) f_this_place f_this_sort f_this_minute f_this_many (x8 - x8 / (f_this_book (0 : Int32).toNatClampNeg) * (f_this_book (0 : Int32).toNatClampNeg)) ((x8 / 8) - (x8 / 8) / (f_this_book (3 : Int32).toNatClampNeg) * (f_this_book (3 : Int32).toNatClampNeg)) (s0 + s1) v hv) gX12_day_X12_tries rfl ⟨rfl, rfl⟩ ⟨rfl, by decide, by decide, rfl⟩ rfl rfl [0, 2, 3, 4] rfl (by decide +kernel) rfl rfl dX12_day_123 rfl rfl ⟨Nat.zero_le _, Nat.zero_le _⟩ (fun _ => jn_set [0, 2, 3, 4] rfl rfl rfl) (fun v123 hg => ?_)
        refine j_iinc hX 5 (v := x5 + 1) (lv' := [(5, .int (x5 + 1)), (4, .int (s0 + s1)), (0, .ref q_this), (1, .int x1), (2, .int x2), (3, .int x3), (8, .int x8)]) dX12_day_126 rfl (by rw [kc_1]) rfl rfl ?_
        refine j_goto hX 42 dX12_day_129 (by decide) ?_
        refine j_lv [2, 3, 4, 5, 1, 0] rfl ?_
        exact ih42 _ _ _ _ _ _ _ _ _ _ _ _ _ _ hg
      intro f_this_place f_this_sort f_this_minute f_this_when f_this_isHeard f_this_goneBy f_this_stand f_this_many f_this_standing x1 x2 x3 x4 x5 hg
      unfold g_X12_day_L42 at hg
      refine j_iload hX 5 dX12_day_42 rfl ?_
      refine j_iload_n hX 2 dX12_day_44 rfl rfl ?_
      refine j_icmp_ge hX 132 hg dX12_day_45 (by decide) (fun hg => ?_) (fun hg => ?_)
      · refine j_lv [0, 3] rfl ?_
        exact B132 _ _ _ _ _ _ _ _ _ _ hg
      · refine j_ldc2 hX (v := 7919) (by decide +kernel) dX12_day_48 ?_
        refine j_iload_n hX 1 dX12_day_51 rfl rfl ?_
        refine j_i2l hX dX12_day_52 ?_
        refine j_lmul hX dX12_day_53 ?_
        refine j_ldc2 hX (v := 6151) (by decide +kernel) dX12_day_54 ?_
        refine j_iload hX 5 dX12_day_57 rfl ?_
        refine j_i2l hX dX12_day_59 ?_
        refine j_lmul hX dX12_day_60 ?_
        refine j_ladd hX dX12_day_61 ?_
        refine j_lconst hX (v := 1) dX12_day_62 (by decide) ?_
        refine j_ladd hX dX12_day_63 ?_
        refine j_lstore hX (lv' := [(6, .long (((7919 * ((x1 : Int32).toInt64)) + (6151 * ((x5 : Int32).toInt64))) + 1)), (0, .ref q_this), (1, .int x1), (2, .int x2), (3, .int x3), (4, .int x4), (5, .int x5)]) dX12_day_64 rfl rfl ?_
        refine j_lload hX 0 dX12_day_66 rfl ?_
        refine j_lload hX 0 dX12_day_68 rfl ?_
        refine j_lmul hX dX12_day_70 ?_
        refine j_ldc2 hX (v := 65521) (by decide +kernel) dX12_day_71 ?_
        refine j_lrem hX hg dX12_day_74 (fun hg => ?_)
        refine j_l2i hX dX12_day_75 ?_
        refine j_istore hX (lv' := [(8, .int ((((((7919 * ((x1 : Int32).toInt64)) + (6151 * ((x5 : Int32).toInt64))) + 1) * (((7919 * ((x1 : Int32).toInt64)) + (6151 * ((x5 : Int32).toInt64))) + 1)) - ((((7919 * ((x1 : Int32).toInt64)) + (6151 * ((x5 : Int32).toInt64))) + 1) * (((7919 * ((x1 : Int32).toInt64)) + (6151 * ((x5 : Int32).toInt64))) + 1)) / 65521 * 65521 : Int64).toInt32)), (6, .long (((7919 * ((x1 : Int32).toInt64)) + (6151 * ((x5 : Int32).toInt64))) + 1)), (0, .ref q_this), (1, .int x1), (2, .int x2), (3, .int x3), (4, .int x4), (5, .int x5)]) dX12_day_76 rfl rfl ?_
        refine j_iload hX 6 dX12_day_78 rfl ?_
        refine j_iload hX 7 dX12_day_80 rfl ?_
        refine j_if_ne hX 89 hg dX12_day_82 (by decide) (fun hg => ?_) (fun hg => ?_)
        · refine j_iconst hX dX12_day_85 kc_0 ?_
          refine j_goto hX 96 dX12_day_86 (by decide) ?_
          refine j_lv [2, 3, 4, 5, 7, 0] rfl ?_
          exact B96 _ _ _ _ _ _ _ _ _ _ _ _ _ _ _ _ hg
        · refine j_iload hX 0 dX12_day_89 rfl ?_
          refine j_bipush hX dX12_day_91 kb_64 ?_
          refine j_idiv hX hg dX12_day_93 (fun hg => ?_)
          refine j_iconst hX dX12_day_94 kc_5 ?_
          refine j_irem hX hg dX12_day_95 (fun hg => ?_)
          refine j_lv [2, 3, 4, 5, 7, 0] rfl ?_
          exact B96 _ _ _ _ _ _ _ _ _ _ _ _ _ _ _ _ hg
  have hg := hu
  unfold g_X12_day at hg
  refine j_iload_n hX 1 dX12_day_0 rfl rfl ?_
  refine j_iconst hX dX12_day_1 kc_0 ?_
  refine j_sipush hX dX12_day_2 ks_9999 ?_
  refine j_sRO hX (r := fun v => v) [.int x1, .int 0, .int 9999] hg (fun v hv => c_X12_in l G N x1 0 9999 v hv) gX12_day_X12_in rfl ⟨rfl, rfl⟩ ⟨by decide, by decide, rfl⟩ rfl rfl [] rfl dX12_day_5 rfl rfl ⟨Nat.zero_le _, Nat.zero_le _⟩ (fun v5 hg => ?_)
  refine j_if_eq hX 29 hg dX12_day_8 (by decide) (fun hg => ?_) (fun hg => ?_)
  · refine j_iconst hX dX12_day_29 kc_m1 ?_
    cases hg
    exact hret _ _ dX12_day_30
  · refine j_iload_n hX 2 dX12_day_11 rfl rfl ?_
    refine j_iconst hX dX12_day_12 kc_1 ?_
    refine j_bipush hX dX12_day_13 kb_99 ?_
    refine j_sRO hX (r := fun v => v) [.int x2, .int 1, .int 99] hg (fun v hv => c_X12_in l G N x2 1 99 v hv) gX12_day_X12_in rfl ⟨rfl, rfl⟩ ⟨by decide, by decide, rfl⟩ rfl rfl [] rfl dX12_day_15 rfl rfl ⟨Nat.zero_le _, Nat.zero_le _⟩ (fun v15 hg => ?_)
    refine j_if_eq hX 29 hg dX12_day_18 (by decide) (fun hg => ?_) (fun hg => ?_)
    · refine j_iconst hX dX12_day_29 kc_m1 ?_
      cases hg
      exact hret _ _ dX12_day_30
    · refine j_aload_n hX 0 dX12_day_21 rfl rfl ?_
      refine j_iload_n hX 3 dX12_day_22 rfl rfl ?_
      refine j_vRO hX (r := fun v => v) [.int x3] hg (fun v hv => c_X12_isPlace l G N q_this q_this_book v_this_text v_this_length v_this_draft v_this_s v_this_kept v_this_keptMany v_this_acts v_this_actMany v_this_row v_this_rowMany v_this_tells v_this_tellMany v_this_at v_this_told (.ref q_this_place) (.ref q_this_sort) (.ref q_this_minute) (.ref q_this_when) (.ref q_this_isHeard) (.ref q_this_goneBy) (.ref q_this_stand) (.int f_this_many) (.int f_this_standing) f_this_book x3 v hv) gX12_day_X12_isPlace rfl ⟨rfl, rfl⟩ ⟨rfl, by decide, by decide, rfl⟩ rfl rfl [0, 1] rfl rfl rfl dX12_day_23 rfl rfl ⟨Nat.zero_le _, Nat.zero_le _⟩ (fun v23 hg => ?_)
      refine j_if_ne hX 31 hg dX12_day_26 (by decide) (fun hg => ?_) (fun hg => ?_)
      · refine j_iconst hX dX12_day_29 kc_m1 ?_
        cases hg
        exact hret _ _ dX12_day_30
      · refine j_aload_n hX 0 dX12_day_31 rfl rfl ?_
        refine j_iconst hX dX12_day_32 kc_0 ?_
        refine j_put hX hW 0 22 rfl rfl hinX12 tyX12 tyX12_ok nmX12 rfl hf_X12_many_127 rfl rfl rfl rfl dX12_day_33 (ws' := (w_X12_day G q_this q_this_book q_this_place q_this_sort q_this_minute q_this_when q_this_isHeard q_this_goneBy q_this_stand v_this_text v_this_length v_this_draft v_this_s v_this_kept v_this_keptMany v_this_acts v_this_actMany v_this_row v_this_rowMany v_this_tells v_this_tellMany v_this_at v_this_told f_this_book f_this_place f_this_sort f_this_minute f_this_when f_this_isHeard f_this_goneBy f_this_stand 0 f_this_standing)) rfl ?_
        refine j_iconst hX dX12_day_36 kc_0 ?_
        refine j_istore hX (lv' := [(4, .int 0), (0, .ref q_this), (1, .int x1), (2, .int x2), (3, .int x3)]) dX12_day_37 rfl rfl ?_
        refine j_iconst hX dX12_day_39 kc_0 ?_
        refine j_istore hX (lv' := [(5, .int 0), (4, .int 0), (0, .ref q_this), (1, .int x1), (2, .int x2), (3, .int x3)]) dX12_day_40 rfl rfl ?_
        refine j_lv [2, 3, 4, 5, 1, 0] rfl ?_
        exact L42 N _ _ _ _ _ _ _ _ _ _ _ _ _ _ hg
abbrev w_X12_keep (G : jG) (q_this : Nat) (q_this_s : Nat) (q_this_kept : Nat) (v_this_text : Value) (v_this_length : Value) (v_this_book : Value) (v_this_draft : Value) (v_this_acts : Value) (v_this_actMany : Value) (v_this_row : Value) (v_this_rowMany : Value) (v_this_tells : Value) (v_this_tellMany : Value) (v_this_at : Value) (v_this_told : Value) (v_this_place : Value) (v_this_sort : Value) (v_this_minute : Value) (v_this_when : Value) (v_this_isHeard : Value) (v_this_goneBy : Value) (v_this_stand : Value) (v_this_many : Value) (v_this_standing : Value) (f_this_s : (Nat → Int32)) (f_this_kept : (Nat → Int32)) (f_this_keptMany : Int32) : va_W := [oC q_this 12 [v_this_text, v_this_length, v_this_book, v_this_draft, .ref q_this_s, .ref q_this_kept, .int f_this_keptMany, v_this_acts, v_this_actMany, v_this_row, v_this_rowMany, v_this_tells, v_this_tellMany, v_this_at, v_this_told, v_this_place, v_this_sort, v_this_minute, v_this_when, v_this_isHeard, v_this_goneBy, v_this_stand, v_this_many, v_this_standing], aI G q_this_s 74 f_this_s, aI G q_this_kept 148 f_this_kept]
def g_X12_keep_b45 (N : Nat) (f_this_s : (Nat → Int32)) (f_this_kept : (Nat → Int32)) (f_this_keptMany : Int32) : Option (Int32 × (Nat → Int32) × Int32) := some (f_this_keptMany + 1, f_this_kept, f_this_keptMany + 1)
def g_X12_keep_L13 (N : Nat) (f_this_s : (Nat → Int32)) (k_45 : (Nat → Int32) → Int32 → Option (Int32 × (Nat → Int32) × Int32)) : Nat → (Nat → Int32) → Int32 → Int32 → Option (Int32 × (Nat → Int32) × Int32)
  | 0, _, _, _ => none
  | fu + 1, f_this_kept, f_this_keptMany, x1 => if (74 : Int32) ≤ x1 then k_45 f_this_kept f_this_keptMany else gi x1 74 (gi ((74 * f_this_keptMany) + x1) 148 (g_X12_keep_L13 N f_this_s k_45 fu (upd f_this_kept ((74 * f_this_keptMany) + x1 : Int32).toNatClampNeg (f_this_s x1.toNatClampNeg)) f_this_keptMany (x1 + 1)))
def g_X12_keep (N : Nat) (f_this_s : (Nat → Int32)) (f_this_kept : (Nat → Int32)) (f_this_keptMany : Int32) : Option (Int32 × (Nat → Int32) × Int32) := if f_this_keptMany = 2 then some ((-3), f_this_kept, f_this_keptMany) else g_X12_keep_L13 N f_this_s (g_X12_keep_b45 N f_this_s) N f_this_kept f_this_keptMany 0
set_option maxHeartbeats 4000000 in
set_option maxRecDepth 100000 in
theorem c_X12_keep (l : Launch) (G : jG) (N : Nat) (q_this : Nat) (q_this_s : Nat) (q_this_kept : Nat) (v_this_text : Value) (v_this_length : Value) (v_this_book : Value) (v_this_draft : Value) (v_this_acts : Value) (v_this_actMany : Value) (v_this_row : Value) (v_this_rowMany : Value) (v_this_tells : Value) (v_this_tellMany : Value) (v_this_at : Value) (v_this_told : Value) (v_this_place : Value) (v_this_sort : Value) (v_this_minute : Value) (v_this_when : Value) (v_this_isHeard : Value) (v_this_goneBy : Value) (v_this_stand : Value) (v_this_many : Value) (v_this_standing : Value) (f_this_s : (Nat → Int32)) (f_this_kept : (Nat → Int32)) (f_this_keptMany : Int32) (u : Int32 × (Nat → Int32) × Int32) (hu : g_X12_keep N f_this_s f_this_kept f_this_keptMany = some u) : MetRW l G yX12_keep wsX12_keep ({ frames := 0, cells := 0, slots := 0, locals := 0 } : Room) [.ref q_this] (w_X12_keep G q_this q_this_s q_this_kept v_this_text v_this_length v_this_book v_this_draft v_this_acts v_this_actMany v_this_row v_this_rowMany v_this_tells v_this_tellMany v_this_at v_this_told v_this_place v_this_sort v_this_minute v_this_when v_this_isHeard v_this_goneBy v_this_stand v_this_many v_this_standing f_this_s f_this_kept f_this_keptMany) (w_X12_keep G q_this q_this_s q_this_kept v_this_text v_this_length v_this_book v_this_draft v_this_acts v_this_actMany v_this_row v_this_rowMany v_this_tells v_this_tellMany v_this_at v_this_told v_this_place v_this_sort v_this_minute v_this_when v_this_isHeard v_this_goneBy v_this_stand v_this_many v_this_standing f_this_s u.2.1 u.2.2) u.1 := by
  refine met_rwi (cc := cX12_keep) (maxL := 2) (lv0 := [(0, .ref q_this)]) (by decide) rfl rfl rfl rfl (fun X hX hW hret => ?_)
  have hinX12 : ∀ w ∈ u_ws RX12 TX12 24, w ∈ wsX12_keep := by decide +kernel
  have hf_X12_kept_22 : Cond.fieldLink RX12 22 (TX12 5).1 (TX12 5).2.1 (TX12 5).2.2.1 ∈ wsX12_keep := by decide +kernel
  have hf_X12_keptMany_106 : Cond.fieldLink RX12 106 (TX12 6).1 (TX12 6).2.1 (TX12 6).2.2.1 ∈ wsX12_keep := by decide +kernel
  have hf_X12_s_19 : Cond.fieldLink RX12 19 (TX12 4).1 (TX12 4).2.1 (TX12 4).2.2.1 ∈ wsX12_keep := by decide +kernel
  have B45 : ∀ (f_this_kept : (Nat → Int32)) (f_this_keptMany : Int32), g_X12_keep_b45 N f_this_s f_this_kept f_this_keptMany = some u → J X 0 0 (w_X12_keep G q_this q_this_s q_this_kept v_this_text v_this_length v_this_book v_this_draft v_this_acts v_this_actMany v_this_row v_this_rowMany v_this_tells v_this_tellMany v_this_at v_this_told v_this_place v_this_sort v_this_minute v_this_when v_this_isHeard v_this_goneBy v_this_stand v_this_many v_this_standing f_this_s f_this_kept f_this_keptMany) 45 [(0, .ref q_this)] [] := by
    intro f_this_kept f_this_keptMany hg
    unfold g_X12_keep_b45 at hg
    refine j_aload_n hX 0 dX12_keep_45 rfl rfl ?_
    refine j_dup hX dX12_keep_46 rfl ?_
    refine j_get hX 0 6 rfl rfl hinX12 rfl hf_X12_keptMany_106 rfl dX12_keep_47 ?_
    refine j_iconst hX dX12_keep_50 kc_1 ?_
    refine j_iadd hX dX12_keep_51 ?_
    refine j_put hX hW 0 6 rfl rfl hinX12 tyX12 tyX12_ok nmX12 rfl hf_X12_keptMany_106 rfl rfl rfl rfl dX12_keep_52 (ws' := (w_X12_keep G q_this q_this_s q_this_kept v_this_text v_this_length v_this_book v_this_draft v_this_acts v_this_actMany v_this_row v_this_rowMany v_this_tells v_this_tellMany v_this_at v_this_told v_this_place v_this_sort v_this_minute v_this_when v_this_isHeard v_this_goneBy v_this_stand v_this_many v_this_standing f_this_s f_this_kept (f_this_keptMany + 1))) rfl ?_
    refine j_aload_n hX 0 dX12_keep_55 rfl rfl ?_
    refine j_get hX 0 6 rfl rfl hinX12 rfl hf_X12_keptMany_106 rfl dX12_keep_56 ?_
    cases hg
    exact hret _ _ dX12_keep_59
  have L13 : ∀ (fu13 : Nat), ∀ (f_this_kept : (Nat → Int32)) (f_this_keptMany : Int32) (x1 : Int32), g_X12_keep_L13 N f_this_s (g_X12_keep_b45 N f_this_s) fu13 f_this_kept f_this_keptMany x1 = some u → J X 0 0 (w_X12_keep G q_this q_this_s q_this_kept v_this_text v_this_length v_this_book v_this_draft v_this_acts v_this_actMany v_this_row v_this_rowMany v_this_tells v_this_tellMany v_this_at v_this_told v_this_place v_this_sort v_this_minute v_this_when v_this_isHeard v_this_goneBy v_this_stand v_this_many v_this_standing f_this_s f_this_kept f_this_keptMany) 13 [(0, .ref q_this), (1, .int x1)] [] := by
    intro fu13
    induction fu13 with
    | zero => intro f_this_kept f_this_keptMany x1 hg; exact nomatch hg
    | succ fu13 ih13 =>
      intro f_this_kept f_this_keptMany x1 hg
      unfold g_X12_keep_L13 at hg
      refine j_iload_n hX 1 dX12_keep_13 rfl rfl ?_
      refine j_bipush hX dX12_keep_14 kb_74 ?_
      refine j_icmp_ge hX 45 hg dX12_keep_16 (by decide) (fun hg => ?_) (fun hg => ?_)
      · refine j_lv [0] rfl ?_
        exact B45 _ _ hg
      · refine j_aload_n hX 0 dX12_keep_19 rfl rfl ?_
        refine j_get hX 0 5 rfl rfl hinX12 rfl hf_X12_kept_22 rfl dX12_keep_20 ?_
        refine j_bipush hX dX12_keep_23 kb_74 ?_
        refine j_aload_n hX 0 dX12_keep_25 rfl rfl ?_
        refine j_get hX 0 6 rfl rfl hinX12 rfl hf_X12_keptMany_106 rfl dX12_keep_26 ?_
        refine j_imul hX dX12_keep_29 ?_
        refine j_iload_n hX 1 dX12_keep_30 rfl rfl ?_
        refine j_iadd hX dX12_keep_31 ?_
        refine j_aload_n hX 0 dX12_keep_32 rfl rfl ?_
        refine j_get hX 0 4 rfl rfl hinX12 rfl hf_X12_s_19 rfl dX12_keep_33 ?_
        refine j_iload_n hX 1 dX12_keep_36 rfl rfl ?_
        refine j_iald hX 1 rfl hg dX12_keep_37 (fun hg => ?_)
        refine j_iast hX hW 2 rfl hg dX12_keep_38 (ws' := (w_X12_keep G q_this q_this_s q_this_kept v_this_text v_this_length v_this_book v_this_draft v_this_acts v_this_actMany v_this_row v_this_rowMany v_this_tells v_this_tellMany v_this_at v_this_told v_this_place v_this_sort v_this_minute v_this_when v_this_isHeard v_this_goneBy v_this_stand v_this_many v_this_standing f_this_s (upd f_this_kept ((74 * f_this_keptMany) + x1 : Int32).toNatClampNeg (f_this_s x1.toNatClampNeg)) f_this_keptMany)) rfl (fun hg => ?_)
        refine j_iinc hX 1 (v := x1 + 1) (lv' := [(1, .int (x1 + 1)), (0, .ref q_this)]) dX12_keep_39 rfl (by rw [kc_1]) rfl rfl ?_
        refine j_goto hX 13 dX12_keep_42 (by decide) ?_
        refine j_lv [1, 0] rfl ?_
        exact ih13 _ _ _ hg
  have hg := hu
  unfold g_X12_keep at hg
  refine j_aload_n hX 0 dX12_keep_0 rfl rfl ?_
  refine j_get hX 0 6 rfl rfl hinX12 rfl hf_X12_keptMany_106 rfl dX12_keep_1 ?_
  refine j_iconst hX dX12_keep_4 kc_2 ?_
  refine j_icmp_ne hX 11 hg dX12_keep_5 (by decide) (fun hg => ?_) (fun hg => ?_)
  · refine j_bipush hX dX12_keep_8 kb_m3 ?_
    cases hg
    exact hret _ _ dX12_keep_10
  · refine j_iconst hX dX12_keep_11 kc_0 ?_
    refine j_istore_n hX (lv' := [(1, .int 0), (0, .ref q_this)]) dX12_keep_12 rfl rfl rfl ?_
    refine j_lv [1, 0] rfl ?_
    exact L13 N _ _ _ hg
abbrev w_X12_back (G : jG) (q_this : Nat) (q_this_s : Nat) (q_this_kept : Nat) (v_this_text : Value) (v_this_length : Value) (v_this_book : Value) (v_this_draft : Value) (v_this_acts : Value) (v_this_row : Value) (v_this_rowMany : Value) (v_this_tells : Value) (v_this_tellMany : Value) (v_this_at : Value) (v_this_told : Value) (v_this_place : Value) (v_this_sort : Value) (v_this_minute : Value) (v_this_when : Value) (v_this_isHeard : Value) (v_this_goneBy : Value) (v_this_stand : Value) (v_this_many : Value) (v_this_standing : Value) (f_this_s : (Nat → Int32)) (f_this_kept : (Nat → Int32)) (f_this_keptMany : Int32) (f_this_actMany : Int32) : va_W := [oC q_this 12 [v_this_text, v_this_length, v_this_book, v_this_draft, .ref q_this_s, .ref q_this_kept, .int f_this_keptMany, v_this_acts, .int f_this_actMany, v_this_row, v_this_rowMany, v_this_tells, v_this_tellMany, v_this_at, v_this_told, v_this_place, v_this_sort, v_this_minute, v_this_when, v_this_isHeard, v_this_goneBy, v_this_stand, v_this_many, v_this_standing], aI G q_this_s 74 f_this_s, aI G q_this_kept 148 f_this_kept]
def g_X12_back_b54 (N : Nat) (f_this_kept : (Nat → Int32)) (f_this_s : (Nat → Int32)) (f_this_keptMany : Int32) (f_this_actMany : Int32) : Option (Int32 × (Nat → Int32) × Int32 × Int32) := some (f_this_keptMany, f_this_s, f_this_keptMany, 0)
def g_X12_back_L22 (N : Nat) (f_this_kept : (Nat → Int32)) (k_54 : (Nat → Int32) → Int32 → Int32 → Option (Int32 × (Nat → Int32) × Int32 × Int32)) : Nat → (Nat → Int32) → Int32 → Int32 → Int32 → Option (Int32 × (Nat → Int32) × Int32 × Int32)
  | 0, _, _, _, _ => none
  | fu + 1, f_this_s, f_this_keptMany, f_this_actMany, x1 => if (74 : Int32) ≤ x1 then k_54 f_this_s f_this_keptMany f_this_actMany else gi ((74 * f_this_keptMany) + x1) 148 (gi x1 74 (g_X12_back_L22 N f_this_kept k_54 fu (upd f_this_s x1.toNatClampNeg (f_this_kept ((74 * f_this_keptMany) + x1 : Int32).toNatClampNeg)) f_this_keptMany f_this_actMany (x1 + 1)))
def g_X12_back (N : Nat) (f_this_kept : (Nat → Int32)) (f_this_s : (Nat → Int32)) (f_this_keptMany : Int32) (f_this_actMany : Int32) : Option (Int32 × (Nat → Int32) × Int32 × Int32) := if f_this_keptMany = 0 then some ((-2), f_this_s, f_this_keptMany, f_this_actMany) else g_X12_back_L22 N f_this_kept (g_X12_back_b54 N f_this_kept) N f_this_s (f_this_keptMany - 1) f_this_actMany 0
set_option maxHeartbeats 4000000 in
set_option maxRecDepth 100000 in
theorem c_X12_back (l : Launch) (G : jG) (N : Nat) (q_this : Nat) (q_this_s : Nat) (q_this_kept : Nat) (v_this_text : Value) (v_this_length : Value) (v_this_book : Value) (v_this_draft : Value) (v_this_acts : Value) (v_this_row : Value) (v_this_rowMany : Value) (v_this_tells : Value) (v_this_tellMany : Value) (v_this_at : Value) (v_this_told : Value) (v_this_place : Value) (v_this_sort : Value) (v_this_minute : Value) (v_this_when : Value) (v_this_isHeard : Value) (v_this_goneBy : Value) (v_this_stand : Value) (v_this_many : Value) (v_this_standing : Value) (f_this_s : (Nat → Int32)) (f_this_kept : (Nat → Int32)) (f_this_keptMany : Int32) (f_this_actMany : Int32) (u : Int32 × (Nat → Int32) × Int32 × Int32) (hu : g_X12_back N f_this_kept f_this_s f_this_keptMany f_this_actMany = some u) : MetRW l G yX12_back wsX12_back ({ frames := 0, cells := 0, slots := 0, locals := 0 } : Room) [.ref q_this] (w_X12_back G q_this q_this_s q_this_kept v_this_text v_this_length v_this_book v_this_draft v_this_acts v_this_row v_this_rowMany v_this_tells v_this_tellMany v_this_at v_this_told v_this_place v_this_sort v_this_minute v_this_when v_this_isHeard v_this_goneBy v_this_stand v_this_many v_this_standing f_this_s f_this_kept f_this_keptMany f_this_actMany) (w_X12_back G q_this q_this_s q_this_kept v_this_text v_this_length v_this_book v_this_draft v_this_acts v_this_row v_this_rowMany v_this_tells v_this_tellMany v_this_at v_this_told v_this_place v_this_sort v_this_minute v_this_when v_this_isHeard v_this_goneBy v_this_stand v_this_many v_this_standing u.2.1 f_this_kept u.2.2.1 u.2.2.2) u.1 := by
  refine met_rwi (cc := cX12_back) (maxL := 2) (lv0 := [(0, .ref q_this)]) (by decide) rfl rfl rfl rfl (fun X hX hW hret => ?_)
  have hinX12 : ∀ w ∈ u_ws RX12 TX12 24, w ∈ wsX12_back := by decide +kernel
  have hf_X12_actMany_109 : Cond.fieldLink RX12 109 (TX12 8).1 (TX12 8).2.1 (TX12 8).2.2.1 ∈ wsX12_back := by decide +kernel
  have hf_X12_kept_22 : Cond.fieldLink RX12 22 (TX12 5).1 (TX12 5).2.1 (TX12 5).2.2.1 ∈ wsX12_back := by decide +kernel
  have hf_X12_keptMany_106 : Cond.fieldLink RX12 106 (TX12 6).1 (TX12 6).2.1 (TX12 6).2.2.1 ∈ wsX12_back := by decide +kernel
  have hf_X12_s_19 : Cond.fieldLink RX12 19 (TX12 4).1 (TX12 4).2.1 (TX12 4).2.2.1 ∈ wsX12_back := by decide +kernel
  have B54 : ∀ (f_this_s : (Nat → Int32)) (f_this_keptMany : Int32) (f_this_actMany : Int32), g_X12_back_b54 N f_this_kept f_this_s f_this_keptMany f_this_actMany = some u → J X 0 0 (w_X12_back G q_this q_this_s q_this_kept v_this_text v_this_length v_this_book v_this_draft v_this_acts v_this_row v_this_rowMany v_this_tells v_this_tellMany v_this_at v_this_told v_this_place v_this_sort v_this_minute v_this_when v_this_isHeard v_this_goneBy v_this_stand v_this_many v_this_standing f_this_s f_this_kept f_this_keptMany f_this_actMany) 54 [(0, .ref q_this)] [] := by
    intro f_this_s f_this_keptMany f_this_actMany hg
    unfold g_X12_back_b54 at hg
    refine j_aload_n hX 0 dX12_back_54 rfl rfl ?_
    refine j_iconst hX dX12_back_55 kc_0 ?_
    refine j_put hX hW 0 8 rfl rfl hinX12 tyX12 tyX12_ok nmX12 rfl hf_X12_actMany_109 rfl rfl rfl rfl dX12_back_56 (ws' := (w_X12_back G q_this q_this_s q_this_kept v_this_text v_this_length v_this_book v_this_draft v_this_acts v_this_row v_this_rowMany v_this_tells v_this_tellMany v_this_at v_this_told v_this_place v_this_sort v_this_minute v_this_when v_this_isHeard v_this_goneBy v_this_stand v_this_many v_this_standing f_this_s f_this_kept f_this_keptMany 0)) rfl ?_
    refine j_aload_n hX 0 dX12_back_59 rfl rfl ?_
    refine j_get hX 0 6 rfl rfl hinX12 rfl hf_X12_keptMany_106 rfl dX12_back_60 ?_
    cases hg
    exact hret _ _ dX12_back_63
  have L22 : ∀ (fu22 : Nat), ∀ (f_this_s : (Nat → Int32)) (f_this_keptMany : Int32) (f_this_actMany : Int32) (x1 : Int32), g_X12_back_L22 N f_this_kept (g_X12_back_b54 N f_this_kept) fu22 f_this_s f_this_keptMany f_this_actMany x1 = some u → J X 0 0 (w_X12_back G q_this q_this_s q_this_kept v_this_text v_this_length v_this_book v_this_draft v_this_acts v_this_row v_this_rowMany v_this_tells v_this_tellMany v_this_at v_this_told v_this_place v_this_sort v_this_minute v_this_when v_this_isHeard v_this_goneBy v_this_stand v_this_many v_this_standing f_this_s f_this_kept f_this_keptMany f_this_actMany) 22 [(0, .ref q_this), (1, .int x1)] [] := by
    intro fu22
    induction fu22 with
    | zero => intro f_this_s f_this_keptMany f_this_actMany x1 hg; exact nomatch hg
    | succ fu22 ih22 =>
      intro f_this_s f_this_keptMany f_this_actMany x1 hg
      unfold g_X12_back_L22 at hg
      refine j_iload_n hX 1 dX12_back_22 rfl rfl ?_
      refine j_bipush hX dX12_back_23 kb_74 ?_
      refine j_icmp_ge hX 54 hg dX12_back_25 (by decide) (fun hg => ?_) (fun hg => ?_)
      · refine j_lv [0] rfl ?_
        exact B54 _ _ _ hg
      · refine j_aload_n hX 0 dX12_back_28 rfl rfl ?_
        refine j_get hX 0 4 rfl rfl hinX12 rfl hf_X12_s_19 rfl dX12_back_29 ?_
        refine j_iload_n hX 1 dX12_back_32 rfl rfl ?_
        refine j_aload_n hX 0 dX12_back_33 rfl rfl ?_
        refine j_get hX 0 5 rfl rfl hinX12 rfl hf_X12_kept_22 rfl dX12_back_34 ?_
        refine j_bipush hX dX12_back_37 kb_74 ?_
        refine j_aload_n hX 0 dX12_back_39 rfl rfl ?_
        refine j_get hX 0 6 rfl rfl hinX12 rfl hf_X12_keptMany_106 rfl dX12_back_40 ?_
        refine j_imul hX dX12_back_43 ?_
        refine j_iload_n hX 1 dX12_back_44 rfl rfl ?_
        refine j_iadd hX dX12_back_45 ?_
        refine j_iald hX 2 rfl hg dX12_back_46 (fun hg => ?_)
        refine j_iast hX hW 1 rfl hg dX12_back_47 (ws' := (w_X12_back G q_this q_this_s q_this_kept v_this_text v_this_length v_this_book v_this_draft v_this_acts v_this_row v_this_rowMany v_this_tells v_this_tellMany v_this_at v_this_told v_this_place v_this_sort v_this_minute v_this_when v_this_isHeard v_this_goneBy v_this_stand v_this_many v_this_standing (upd f_this_s x1.toNatClampNeg (f_this_kept ((74 * f_this_keptMany) + x1 : Int32).toNatClampNeg)) f_this_kept f_this_keptMany f_this_actMany)) rfl (fun hg => ?_)
        refine j_iinc hX 1 (v := x1 + 1) (lv' := [(1, .int (x1 + 1)), (0, .ref q_this)]) dX12_back_48 rfl (by rw [kc_1]) rfl rfl ?_
        refine j_goto hX 22 dX12_back_51 (by decide) ?_
        refine j_lv [1, 0] rfl ?_
        exact ih22 _ _ _ _ hg
  have hg := hu
  unfold g_X12_back at hg
  refine j_aload_n hX 0 dX12_back_0 rfl rfl ?_
  refine j_get hX 0 6 rfl rfl hinX12 rfl hf_X12_keptMany_106 rfl dX12_back_1 ?_
  refine j_if_ne hX 10 hg dX12_back_4 (by decide) (fun hg => ?_) (fun hg => ?_)
  · refine j_bipush hX dX12_back_7 kb_m2 ?_
    cases hg
    exact hret _ _ dX12_back_9
  · refine j_aload_n hX 0 dX12_back_10 rfl rfl ?_
    refine j_dup hX dX12_back_11 rfl ?_
    refine j_get hX 0 6 rfl rfl hinX12 rfl hf_X12_keptMany_106 rfl dX12_back_12 ?_
    refine j_iconst hX dX12_back_15 kc_1 ?_
    refine j_isub hX dX12_back_16 ?_
    refine j_put hX hW 0 6 rfl rfl hinX12 tyX12 tyX12_ok nmX12 rfl hf_X12_keptMany_106 rfl rfl rfl rfl dX12_back_17 (ws' := (w_X12_back G q_this q_this_s q_this_kept v_this_text v_this_length v_this_book v_this_draft v_this_acts v_this_row v_this_rowMany v_this_tells v_this_tellMany v_this_at v_this_told v_this_place v_this_sort v_this_minute v_this_when v_this_isHeard v_this_goneBy v_this_stand v_this_many v_this_standing f_this_s f_this_kept (f_this_keptMany - 1) f_this_actMany)) rfl ?_
    refine j_iconst hX dX12_back_20 kc_0 ?_
    refine j_istore_n hX (lv' := [(1, .int 0), (0, .ref q_this)]) dX12_back_21 rfl rfl rfl ?_
    refine j_lv [1, 0] rfl ?_
    exact L22 N _ _ _ _ hg
abbrev w_X12_count (G : jG) (q_this : Nat) (q_this_book : Nat) (q_this_s : Nat) (v_this_text : Value) (v_this_draft : Value) (v_this_kept : Value) (v_this_acts : Value) (v_this_row : Value) (v_this_tells : Value) (v_this_at : Value) (v_this_told : Value) (v_this_place : Value) (v_this_sort : Value) (v_this_minute : Value) (v_this_when : Value) (v_this_isHeard : Value) (v_this_goneBy : Value) (v_this_stand : Value) (v_this_many : Value) (v_this_standing : Value) (f_this_length : Int32) (f_this_book : (Nat → Int32)) (f_this_s : (Nat → Int32)) (f_this_keptMany : Int32) (f_this_actMany : Int32) (f_this_rowMany : Int32) (f_this_tellMany : Int32) : va_W := [oC q_this 12 [v_this_text, .int f_this_length, .ref q_this_book, v_this_draft, .ref q_this_s, v_this_kept, .int f_this_keptMany, v_this_acts, .int f_this_actMany, v_this_row, .int f_this_rowMany, v_this_tells, .int f_this_tellMany, v_this_at, v_this_told, v_this_place, v_this_sort, v_this_minute, v_this_when, v_this_isHeard, v_this_goneBy, v_this_stand, v_this_many, v_this_standing], aI G q_this_book 78 f_this_book, aI G q_this_s 74 f_this_s]
def g_X12_count_b129 (N : Nat) (f_this_length : Int32) (f_this_book : (Nat → Int32)) (f_this_s : (Nat → Int32)) (f_this_keptMany : Int32) (f_this_actMany : Int32) (f_this_rowMany : Int32) (f_this_tellMany : Int32) (x1 : Int32) (x2 : Int32) (s0 : Int32) : Option (Int32) := if (5 : Int32) ≤ x1 then some s0 else some x2
def g_X12_count_b73 (N : Nat) (f_this_length : Int32) (f_this_book : (Nat → Int32)) (f_this_s : (Nat → Int32)) (f_this_keptMany : Int32) (f_this_actMany : Int32) (f_this_rowMany : Int32) (f_this_tellMany : Int32) (x1 : Int32) (s0 : Int32) : Option (Int32) := if x1 = 5 then g_X12_count_b129 N f_this_length f_this_book f_this_s f_this_keptMany f_this_actMany f_this_rowMany f_this_tellMany x1 s0 f_this_rowMany else if x1 = 6 then g_X12_count_b129 N f_this_length f_this_book f_this_s f_this_keptMany f_this_actMany f_this_rowMany f_this_tellMany x1 s0 f_this_tellMany else if x1 = 7 then g_X12_count_b129 N f_this_length f_this_book f_this_s f_this_keptMany f_this_actMany f_this_rowMany f_this_tellMany x1 s0 f_this_actMany else if x1 = 8 then g_X12_count_b129 N f_this_length f_this_book f_this_s f_this_keptMany f_this_actMany f_this_rowMany f_this_tellMany x1 s0 f_this_keptMany else g_X12_count_b129 N f_this_length f_this_book f_this_s f_this_keptMany f_this_actMany f_this_rowMany f_this_tellMany x1 s0 f_this_length
def g_X12_count (N : Nat) (f_this_length : Int32) (f_this_book : (Nat → Int32)) (f_this_s : (Nat → Int32)) (f_this_keptMany : Int32) (f_this_actMany : Int32) (f_this_rowMany : Int32) (f_this_tellMany : Int32) (x1 : Int32) : Option (Int32) := (g_X12_in N x1 0 9).bind fun v4 => if v4 = 0 then some (-1) else if x1 = 0 then gi 0 78 (g_X12_count_b73 N f_this_length f_this_book f_this_s f_this_keptMany f_this_actMany f_this_rowMany f_this_tellMany x1 (f_this_book (0 : Int32).toNatClampNeg)) else if x1 = 1 then gi 3 78 (g_X12_count_b73 N f_this_length f_this_book f_this_s f_this_keptMany f_this_actMany f_this_rowMany f_this_tellMany x1 (f_this_book (3 : Int32).toNatClampNeg)) else if x1 = 2 then gi 4 78 (g_X12_count_b73 N f_this_length f_this_book f_this_s f_this_keptMany f_this_actMany f_this_rowMany f_this_tellMany x1 (f_this_book (4 : Int32).toNatClampNeg)) else if x1 = 3 then gi 0 74 (g_X12_count_b73 N f_this_length f_this_book f_this_s f_this_keptMany f_this_actMany f_this_rowMany f_this_tellMany x1 (f_this_s (0 : Int32).toNatClampNeg)) else gi 1 74 (g_X12_count_b73 N f_this_length f_this_book f_this_s f_this_keptMany f_this_actMany f_this_rowMany f_this_tellMany x1 (f_this_s (1 : Int32).toNatClampNeg))
set_option maxHeartbeats 4000000 in
set_option maxRecDepth 100000 in
theorem c_X12_count (l : Launch) (G : jG) (N : Nat) (q_this : Nat) (q_this_book : Nat) (q_this_s : Nat) (v_this_text : Value) (v_this_draft : Value) (v_this_kept : Value) (v_this_acts : Value) (v_this_row : Value) (v_this_tells : Value) (v_this_at : Value) (v_this_told : Value) (v_this_place : Value) (v_this_sort : Value) (v_this_minute : Value) (v_this_when : Value) (v_this_isHeard : Value) (v_this_goneBy : Value) (v_this_stand : Value) (v_this_many : Value) (v_this_standing : Value) (f_this_length : Int32) (f_this_book : (Nat → Int32)) (f_this_s : (Nat → Int32)) (f_this_keptMany : Int32) (f_this_actMany : Int32) (f_this_rowMany : Int32) (f_this_tellMany : Int32) (x1 : Int32) (u : Int32) (hu : g_X12_count N f_this_length f_this_book f_this_s f_this_keptMany f_this_actMany f_this_rowMany f_this_tellMany x1 = some u) : MetRO l G yX12_count wsX12_count ({ frames := 1, cells := 0, slots := 0, locals := 22 } : Room) [.ref q_this, .int x1] (w_X12_count G q_this q_this_book q_this_s v_this_text v_this_draft v_this_kept v_this_acts v_this_row v_this_tells v_this_at v_this_told v_this_place v_this_sort v_this_minute v_this_when v_this_isHeard v_this_goneBy v_this_stand v_this_many v_this_standing f_this_length f_this_book f_this_s f_this_keptMany f_this_actMany f_this_rowMany f_this_tellMany) u := by
  refine met_roi (cc := cX12_count) (maxL := 4) (lv0 := [(0, .ref q_this), (1, .int x1)]) (by decide) rfl rfl rfl rfl (fun X hX hret => ?_)
  have hinX12 : ∀ w ∈ u_ws RX12 TX12 24, w ∈ wsX12_count := by decide +kernel
  have hf_X12_actMany_109 : Cond.fieldLink RX12 109 (TX12 8).1 (TX12 8).2.1 (TX12 8).2.2.1 ∈ wsX12_count := by decide +kernel
  have hf_X12_book_13 : Cond.fieldLink RX12 13 (TX12 2).1 (TX12 2).2.1 (TX12 2).2.2.1 ∈ wsX12_count := by decide +kernel
  have hf_X12_keptMany_106 : Cond.fieldLink RX12 106 (TX12 6).1 (TX12 6).2.1 (TX12 6).2.2.1 ∈ wsX12_count := by decide +kernel
  have hf_X12_length_70 : Cond.fieldLink RX12 70 (TX12 1).1 (TX12 1).2.1 (TX12 1).2.2.1 ∈ wsX12_count := by decide +kernel
  have hf_X12_rowMany_112 : Cond.fieldLink RX12 112 (TX12 10).1 (TX12 10).2.1 (TX12 10).2.2.1 ∈ wsX12_count := by decide +kernel
  have hf_X12_s_19 : Cond.fieldLink RX12 19 (TX12 4).1 (TX12 4).2.1 (TX12 4).2.2.1 ∈ wsX12_count := by decide +kernel
  have hf_X12_tellMany_115 : Cond.fieldLink RX12 115 (TX12 12).1 (TX12 12).2.1 (TX12 12).2.2.1 ∈ wsX12_count := by decide +kernel
  have B129 : ∀ (x1 : Int32) (x2 : Int32) (s0 : Int32), g_X12_count_b129 N f_this_length f_this_book f_this_s f_this_keptMany f_this_actMany f_this_rowMany f_this_tellMany x1 x2 s0 = some u → J X 0 0 (w_X12_count G q_this q_this_book q_this_s v_this_text v_this_draft v_this_kept v_this_acts v_this_row v_this_tells v_this_at v_this_told v_this_place v_this_sort v_this_minute v_this_when v_this_isHeard v_this_goneBy v_this_stand v_this_many v_this_standing f_this_length f_this_book f_this_s f_this_keptMany f_this_actMany f_this_rowMany f_this_tellMany) 129 [(1, .int x1), (2, .int x2)] [.int s0] := by
    intro x1 x2 s0 hg
    unfold g_X12_count_b129 at hg
    refine j_istore_n hX (lv' := [(3, .int s0), (1, .int x1), (2, .int x2)]) dX12_count_129 rfl rfl rfl ?_
    refine j_iload_n hX 1 dX12_count_130 rfl rfl ?_
    refine j_iconst hX dX12_count_131 kc_5 ?_
    refine j_icmp_ge hX 139 hg dX12_count_132 (by decide) (fun hg => ?_) (fun hg => ?_)
    · refine j_iload_n hX 0 dX12_count_139 rfl rfl ?_
      cases hg
      exact hret _ _ dX12_count_140
    · refine j_iload_n hX 2 dX12_count_135 rfl rfl ?_
      refine j_goto hX 140 dX12_count_136 (by decide) ?_
      cases hg
      exact hret _ _ dX12_count_140
  have B73 : ∀ (x1 : Int32) (s0 : Int32), g_X12_count_b73 N f_this_length f_this_book f_this_s f_this_keptMany f_this_actMany f_this_rowMany f_this_tellMany x1 s0 = some u → J X 0 0 (w_X12_count G q_this q_this_book q_this_s v_this_text v_this_draft v_this_kept v_this_acts v_this_row v_this_tells v_this_at v_this_told v_this_place v_this_sort v_this_minute v_this_when v_this_isHeard v_this_goneBy v_this_stand v_this_many v_this_standing f_this_length f_this_book f_this_s f_this_keptMany f_this_actMany f_this_rowMany f_this_tellMany) 73 [(0, .ref q_this), (1, .int x1)] [.int s0] := by
    intro x1 s0 hg
    unfold g_X12_count_b73 at hg
    refine j_istore_n hX (lv' := [(2, .int s0), (0, .ref q_this), (1, .int x1)]) dX12_count_73 rfl rfl rfl ?_
    refine j_iload_n hX 2 dX12_count_74 rfl rfl ?_
    refine j_iconst hX dX12_count_75 kc_5 ?_
    refine j_icmp_ne hX 86 hg dX12_count_76 (by decide) (fun hg => ?_) (fun hg => ?_)
    · refine j_aload_n hX 1 dX12_count_79 rfl rfl ?_
      refine j_get hX 0 10 rfl rfl hinX12 rfl hf_X12_rowMany_112 rfl dX12_count_80 ?_
      refine j_goto hX 129 dX12_count_83 (by decide) ?_
      refine j_lv [2, 0] rfl ?_
      exact B129 _ _ _ hg
    · refine j_iload_n hX 2 dX12_count_86 rfl rfl ?_
      refine j_bipush hX dX12_count_87 kb_6 ?_
      refine j_icmp_ne hX 99 hg dX12_count_89 (by decide) (fun hg => ?_) (fun hg => ?_)
      · refine j_aload_n hX 1 dX12_count_92 rfl rfl ?_
        refine j_get hX 0 12 rfl rfl hinX12 rfl hf_X12_tellMany_115 rfl dX12_count_93 ?_
        refine j_goto hX 129 dX12_count_96 (by decide) ?_
        refine j_lv [2, 0] rfl ?_
        exact B129 _ _ _ hg
      · refine j_iload_n hX 2 dX12_count_99 rfl rfl ?_
        refine j_bipush hX dX12_count_100 kb_7 ?_
        refine j_icmp_ne hX 112 hg dX12_count_102 (by decide) (fun hg => ?_) (fun hg => ?_)
        · refine j_aload_n hX 1 dX12_count_105 rfl rfl ?_
          refine j_get hX 0 8 rfl rfl hinX12 rfl hf_X12_actMany_109 rfl dX12_count_106 ?_
          refine j_goto hX 129 dX12_count_109 (by decide) ?_
          refine j_lv [2, 0] rfl ?_
          exact B129 _ _ _ hg
        · refine j_iload_n hX 2 dX12_count_112 rfl rfl ?_
          refine j_bipush hX dX12_count_113 kb_8 ?_
          refine j_icmp_ne hX 125 hg dX12_count_115 (by decide) (fun hg => ?_) (fun hg => ?_)
          · refine j_aload_n hX 1 dX12_count_118 rfl rfl ?_
            refine j_get hX 0 6 rfl rfl hinX12 rfl hf_X12_keptMany_106 rfl dX12_count_119 ?_
            refine j_goto hX 129 dX12_count_122 (by decide) ?_
            refine j_lv [2, 0] rfl ?_
            exact B129 _ _ _ hg
          · refine j_aload_n hX 1 dX12_count_125 rfl rfl ?_
            refine j_get hX 0 1 rfl rfl hinX12 rfl hf_X12_length_70 rfl dX12_count_126 ?_
            refine j_lv [2, 0] rfl ?_
            exact B129 _ _ _ hg
  have hg := hu
  unfold g_X12_count at hg
  refine j_iload_n hX 1 dX12_count_0 rfl rfl ?_
  refine j_iconst hX dX12_count_1 kc_0 ?_
  refine j_bipush hX dX12_count_2 kb_9 ?_
  refine j_sRO hX (r := fun v => v) [.int x1, .int 0, .int 9] hg (fun v hv => c_X12_in l G N x1 0 9 v hv) gX12_count_X12_in rfl ⟨rfl, rfl⟩ ⟨by decide, by decide, rfl⟩ rfl rfl [] rfl dX12_count_4 rfl rfl ⟨Nat.zero_le _, Nat.zero_le _⟩ (fun v4 hg => ?_)
  refine j_if_ne hX 12 hg dX12_count_7 (by decide) (fun hg => ?_) (fun hg => ?_)
  · refine j_iconst hX dX12_count_10 kc_m1 ?_
    cases hg
    exact hret _ _ dX12_count_11
  · refine j_iload_n hX 1 dX12_count_12 rfl rfl ?_
    refine j_if_ne hX 25 hg dX12_count_13 (by decide) (fun hg => ?_) (fun hg => ?_)
    · refine j_aload_n hX 0 dX12_count_16 rfl rfl ?_
      refine j_get hX 0 2 rfl rfl hinX12 rfl hf_X12_book_13 rfl dX12_count_17 ?_
      refine j_iconst hX dX12_count_20 kc_0 ?_
      refine j_iald hX 1 rfl hg dX12_count_21 (fun hg => ?_)
      refine j_goto hX 73 dX12_count_22 (by decide) ?_
      exact B73 _ _ hg
    · refine j_iload_n hX 1 dX12_count_25 rfl rfl ?_
      refine j_iconst hX dX12_count_26 kc_1 ?_
      refine j_icmp_ne hX 39 hg dX12_count_27 (by decide) (fun hg => ?_) (fun hg => ?_)
      · refine j_aload_n hX 0 dX12_count_30 rfl rfl ?_
        refine j_get hX 0 2 rfl rfl hinX12 rfl hf_X12_book_13 rfl dX12_count_31 ?_
        refine j_iconst hX dX12_count_34 kc_3 ?_
        refine j_iald hX 1 rfl hg dX12_count_35 (fun hg => ?_)
        refine j_goto hX 73 dX12_count_36 (by decide) ?_
        exact B73 _ _ hg
      · refine j_iload_n hX 1 dX12_count_39 rfl rfl ?_
        refine j_iconst hX dX12_count_40 kc_2 ?_
        refine j_icmp_ne hX 53 hg dX12_count_41 (by decide) (fun hg => ?_) (fun hg => ?_)
        · refine j_aload_n hX 0 dX12_count_44 rfl rfl ?_
          refine j_get hX 0 2 rfl rfl hinX12 rfl hf_X12_book_13 rfl dX12_count_45 ?_
          refine j_iconst hX dX12_count_48 kc_4 ?_
          refine j_iald hX 1 rfl hg dX12_count_49 (fun hg => ?_)
          refine j_goto hX 73 dX12_count_50 (by decide) ?_
          exact B73 _ _ hg
        · refine j_iload_n hX 1 dX12_count_53 rfl rfl ?_
          refine j_iconst hX dX12_count_54 kc_3 ?_
          refine j_icmp_ne hX 67 hg dX12_count_55 (by decide) (fun hg => ?_) (fun hg => ?_)
          · refine j_aload_n hX 0 dX12_count_58 rfl rfl ?_
            refine j_get hX 0 4 rfl rfl hinX12 rfl hf_X12_s_19 rfl dX12_count_59 ?_
            refine j_iconst hX dX12_count_62 kc_0 ?_
            refine j_iald hX 2 rfl hg dX12_count_63 (fun hg => ?_)
            refine j_goto hX 73 dX12_count_64 (by decide) ?_
            exact B73 _ _ hg
          · refine j_aload_n hX 0 dX12_count_67 rfl rfl ?_
            refine j_get hX 0 4 rfl rfl hinX12 rfl hf_X12_s_19 rfl dX12_count_68 ?_
            refine j_iconst hX dX12_count_71 kc_1 ?_
            refine j_iald hX 2 rfl hg dX12_count_72 (fun hg => ?_)
            exact B73 _ _ hg
