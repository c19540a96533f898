abbrev w_X12_acts (G : jG) (q_this : Nat) (q_this_acts : Nat) (v_this_text : Value) (v_this_length : Value) (v_this_book : Value) (v_this_draft : Value) (v_this_s : Value) (v_this_kept : Value) (v_this_keptMany : Value) (v_this_row : Value) (v_this_rowMany : Value) (v_this_tells : Value) (v_this_tellMany : Value) (v_this_at : Value) (v_this_told : Value) (v_this_place : Value) (v_this_sort : Value) (v_this_minute : Value) (v_this_when : Value) (v_this_isHeard : Value) (v_this_goneBy : Value) (v_this_stand : Value) (v_this_many : Value) (v_this_standing : Value) (f_this_acts : (Nat → Int32)) (f_this_actMany : Int32) : va_W := [oC q_this 12 [v_this_text, v_this_length, v_this_book, v_this_draft, v_this_s, v_this_kept, v_this_keptMany, .ref q_this_acts, .int f_this_actMany, v_this_row, v_this_rowMany, v_this_tells, v_this_tellMany, v_this_at, v_this_told, v_this_place, v_this_sort, v_this_minute, v_this_when, v_this_isHeard, v_this_goneBy, v_this_stand, v_this_many, v_this_standing], aI G q_this_acts 8 f_this_acts]
def g_X12_acts_b43 (N : Nat) (f_this_acts : (Nat → Int32)) (f_this_actMany : Int32) (x1 : Int32) : Option ((Nat → Int32) × Int32) := gi f_this_actMany 8 (some (upd f_this_acts f_this_actMany.toNatClampNeg x1, f_this_actMany + 1))
def g_X12_acts_b37 (N : Nat) (f_this_acts : (Nat → Int32)) (f_this_actMany : Int32) (x1 : Int32) : Option ((Nat → Int32) × Int32) := g_X12_acts_b43 N f_this_acts 7 x1
def g_X12_acts_L11 (N : Nat) (k_37 : (Nat → Int32) → Int32 → Int32 → Option ((Nat → Int32) × Int32)) : Nat → (Nat → Int32) → Int32 → Int32 → Int32 → Option ((Nat → Int32) × Int32)
  | 0, _, _, _, _ => none
  | fu + 1, f_this_acts, f_this_actMany, x1, x2 => if (7 : Int32) ≤ x2 then k_37 f_this_acts f_this_actMany x1 else gi (x2 + 1) 8 (gi x2 8 (g_X12_acts_L11 N k_37 fu (upd f_this_acts x2.toNatClampNeg (f_this_acts (x2 + 1 : Int32).toNatClampNeg)) f_this_actMany x1 (x2 + 1)))
def g_X12_acts (N : Nat) (f_this_acts : (Nat → Int32)) (f_this_actMany : Int32) (x1 : Int32) : Option ((Nat → Int32) × Int32) := if f_this_actMany = 8 then g_X12_acts_L11 N (g_X12_acts_b37 N) N f_this_acts f_this_actMany x1 0 else g_X12_acts_b43 N f_this_acts f_this_actMany x1
set_option maxHeartbeats 4000000 in
set_option maxRecDepth 100000 in
theorem c_X12_acts (l : Launch) (G : jG) (N : Nat) (q_this : Nat) (q_this_acts : Nat) (v_this_text : Value) (v_this_length : Value) (v_this_book : Value) (v_this_draft : Value) (v_this_s : Value) (v_this_kept : Value) (v_this_keptMany : Value) (v_this_row : Value) (v_this_rowMany : Value) (v_this_tells : Value) (v_this_tellMany : Value) (v_this_at : Value) (v_this_told : Value) (v_this_place : Value) (v_this_sort : Value) (v_this_minute : Value) (v_this_when : Value) (v_this_isHeard : Value) (v_this_goneBy : Value) (v_this_stand : Value) (v_this_many : Value) (v_this_standing : Value) (f_this_acts : (Nat → Int32)) (f_this_actMany : Int32) (x1 : Int32) (u : (Nat → Int32) × Int32) (hu : g_X12_acts N f_this_acts f_this_actMany x1 = some u) : MetRV l G yX12_acts wsX12_acts ({ frames := 0, cells := 0, slots := 0, locals := 0 } : Room) [.ref q_this, .int x1] (w_X12_acts G q_this q_this_acts v_this_text v_this_length v_this_book v_this_draft v_this_s v_this_kept v_this_keptMany v_this_row v_this_rowMany v_this_tells v_this_tellMany v_this_at v_this_told v_this_place v_this_sort v_this_minute v_this_when v_this_isHeard v_this_goneBy v_this_stand v_this_many v_this_standing f_this_acts f_this_actMany) (w_X12_acts G q_this q_this_acts v_this_text v_this_length v_this_book v_this_draft v_this_s v_this_kept v_this_keptMany v_this_row v_this_rowMany v_this_tells v_this_tellMany v_this_at v_this_told v_this_place v_this_sort v_this_minute v_this_when v_this_isHeard v_this_goneBy v_this_stand v_this_many v_this_standing u.1 u.2) := by
  refine met_rwv (cc := cX12_acts) (maxL := 3) (lv0 := [(0, .ref q_this), (1, .int x1)]) (by decide) rfl rfl rfl rfl (fun X hX hW hret => ?_)
  have hinX12 : ∀ w ∈ u_ws RX12 TX12 24, w ∈ wsX12_acts := by decide +kernel
  have hf_X12_actMany_109 : Cond.fieldLink RX12 109 (TX12 8).1 (TX12 8).2.1 (TX12 8).2.2.1 ∈ wsX12_acts := by decide +kernel
  have hf_X12_acts_25 : Cond.fieldLink RX12 25 (TX12 7).1 (TX12 7).2.1 (TX12 7).2.2.1 ∈ wsX12_acts := by decide +kernel
  have B43 : ∀ (f_this_acts : (Nat → Int32)) (f_this_actMany : Int32) (x1 : Int32), g_X12_acts_b43 N f_this_acts f_this_actMany x1 = some u → J X 0 0 (w_X12_acts G q_this q_this_acts v_this_text v_this_length v_this_book v_this_draft v_this_s v_this_kept v_this_keptMany v_this_row v_this_rowMany v_this_tells v_this_tellMany v_this_at v_this_told v_this_place v_this_sort v_this_minute v_this_when v_this_isHeard v_this_goneBy v_this_stand v_this_many v_this_standing f_this_acts f_this_actMany) 43 [(0, .ref q_this), (1, .int x1)] [] := by
    intro f_this_acts f_this_actMany x1 hg
    unfold g_X12_acts_b43 at hg
    refine j_aload_n hX 0 dX12_acts_43 rfl rfl ?_
    refine j_get hX 0 7 rfl rfl hinX12 rfl hf_X12_acts_25 rfl dX12_acts_44 ?_
    refine j_aload_n hX 0 dX12_acts_47 rfl rfl ?_
    refine j_get hX 0 8 rfl rfl hinX12 rfl hf_X12_actMany_109 rfl dX12_acts_48 ?_
    refine j_iload_n hX 1 dX12_acts_51 rfl rfl ?_
    refine j_iast hX hW 1 rfl hg dX12_acts_52 (ws' := (w_X12_acts G q_this q_this_acts v_this_text v_this_length v_this_book v_this_draft v_this_s v_this_kept v_this_keptMany v_this_row v_this_rowMany v_this_tells v_this_tellMany v_this_at v_this_told v_this_place v_this_sort v_this_minute v_this_when v_this_isHeard v_this_goneBy v_this_stand v_this_many v_this_standing (upd f_this_acts f_this_actMany.toNatClampNeg x1) f_this_actMany)) rfl (fun hg => ?_)
    refine j_aload_n hX 0 dX12_acts_53 rfl rfl ?_
    refine j_dup hX dX12_acts_54 rfl ?_
    refine j_get hX 0 8 rfl rfl hinX12 rfl hf_X12_actMany_109 rfl dX12_acts_55 ?_
    refine j_iconst hX dX12_acts_58 kc_1 ?_
    refine j_iadd hX dX12_acts_59 ?_
    refine j_put hX hW 0 8 rfl rfl hinX12 tyX12 tyX12_ok nmX12 rfl hf_X12_actMany_109 rfl rfl rfl rfl dX12_acts_60 (ws' := (w_X12_acts G q_this q_this_acts v_this_text v_this_length v_this_book v_this_draft v_this_s v_this_kept v_this_keptMany v_this_row v_this_rowMany v_this_tells v_this_tellMany v_this_at v_this_told v_this_place v_this_sort v_this_minute v_this_when v_this_isHeard v_this_goneBy v_this_stand v_this_many v_this_standing (upd f_this_acts f_this_actMany.toNatClampNeg x1) (f_this_actMany + 1))) rfl ?_
    cases hg
    exact hret _ _ dX12_acts_63
  have B37 : ∀ (f_this_acts : (Nat → Int32)) (f_this_actMany : Int32) (x1 : Int32), g_X12_acts_b37 N f_this_acts f_this_actMany x1 = some u → J X 0 0 (w_X12_acts G q_this q_this_acts v_this_text v_this_length v_this_book v_this_draft v_this_s v_this_kept v_this_keptMany v_this_row v_this_rowMany v_this_tells v_this_tellMany v_this_at v_this_told v_this_place v_this_sort v_this_minute v_this_when v_this_isHeard v_this_goneBy v_this_stand v_this_many v_this_standing f_this_acts f_this_actMany) 37 [(0, .ref q_this), (1, .int x1)] [] := by
    intro f_this_acts f_this_actMany x1 hg
    unfold g_X12_acts_b37 at hg
    refine j_aload_n hX 0 dX12_acts_37 rfl rfl ?_
    refine j_bipush hX dX12_acts_38 kb_7 ?_
    refine j_put hX hW 0 8 rfl rfl hinX12 tyX12 tyX12_ok nmX12 rfl hf_X12_actMany_109 rfl rfl rfl rfl dX12_acts_40 (ws' := (w_X12_acts G q_this q_this_acts v_this_text v_this_length v_this_book v_this_draft v_this_s v_this_kept v_this_keptMany v_this_row v_this_rowMany v_this_tells v_this_tellMany v_this_at v_this_told v_this_place v_this_sort v_this_minute v_this_when v_this_isHeard v_this_goneBy v_this_stand v_this_many v_this_standing f_this_acts 7)) rfl ?_
    exact B43 _ _ _ hg
  have L11 : ∀ (fu11 : Nat), ∀ (f_this_acts : (Nat → Int32)) (f_this_actMany : Int32) (x1 : Int32) (x2 : Int32), g_X12_acts_L11 N (g_X12_acts_b37 N) fu11 f_this_acts f_this_actMany x1 x2 = some u → J X 0 0 (w_X12_acts G q_this q_this_acts v_this_text v_this_length v_this_book v_this_draft v_this_s v_this_kept v_this_keptMany v_this_row v_this_rowMany v_this_tells v_this_tellMany v_this_at v_this_told v_this_place v_this_sort v_this_minute v_this_when v_this_isHeard v_this_goneBy v_this_stand v_this_many v_this_standing f_this_acts f_this_actMany) 11 [(0, .ref q_this), (1, .int x1), (2, .int x2)] [] := by
    intro fu11
    induction fu11 with
    | zero => intro f_this_acts f_this_actMany x1 x2 hg; exact nomatch hg
    | succ fu11 ih11 =>
      intro f_this_acts f_this_actMany x1 x2 hg
      unfold g_X12_acts_L11 at hg
      refine j_iload_n hX 2 dX12_acts_11 rfl rfl ?_
      refine j_bipush hX dX12_acts_12 kb_7 ?_
      refine j_icmp_ge hX 37 hg dX12_acts_14 (by decide) (fun hg => ?_) (fun hg => ?_)
      · refine j_lv [0, 1] rfl ?_
        exact B37 _ _ _ hg
      · refine j_aload_n hX 0 dX12_acts_17 rfl rfl ?_
        refine j_get hX 0 7 rfl rfl hinX12 rfl hf_X12_acts_25 rfl dX12_acts_18 ?_
        refine j_iload_n hX 2 dX12_acts_21 rfl rfl ?_
        refine j_aload_n hX 0 dX12_acts_22 rfl rfl ?_
        refine j_get hX 0 7 rfl rfl hinX12 rfl hf_X12_acts_25 rfl dX12_acts_23 ?_
        refine j_iload_n hX 2 dX12_acts_26 rfl rfl ?_
        refine j_iconst hX dX12_acts_27 kc_1 ?_
        refine j_iadd hX dX12_acts_28 ?_
        refine j_iald hX 1 rfl hg dX12_acts_29 (fun hg => ?_)
        refine j_iast hX hW 1 rfl hg dX12_acts_30 (ws' := (w_X12_acts G q_this q_this_acts v_this_text v_this_length v_this_book v_this_draft v_this_s v_this_kept v_this_keptMany v_this_row v_this_rowMany v_this_tells v_this_tellMany v_this_at v_this_told v_this_place v_this_sort v_this_minute v_this_when v_this_isHeard v_this_goneBy v_this_stand v_this_many v_this_standing (upd f_this_acts x2.toNatClampNeg (f_this_acts (x2 + 1 : Int32).toNatClampNeg)) f_this_actMany)) rfl (fun hg => ?_)
        refine j_iinc hX 2 (v := x2 + 1) (lv' := [(2, .int (x2 + 1)), (0, .ref q_this), (1, .int x1)]) dX12_acts_31 rfl (by rw [kc_1]) rfl rfl ?_
        refine j_goto hX 11 dX12_acts_34 (by decide) ?_
        refine j_lv [1, 2, 0] rfl ?_
        exact ih11 _ _ _ _ hg
  have hg := hu
  unfold g_X12_acts at hg
  refine j_aload_n hX 0 dX12_acts_0 rfl rfl ?_
  refine j_get hX 0 8 rfl rfl hinX12 rfl hf_X12_actMany_109 rfl dX12_acts_1 ?_
  refine j_bipush hX dX12_acts_4 kb_8 ?_
  refine j_icmp_ne hX 43 hg dX12_acts_6 (by decide) (fun hg => ?_) (fun hg => ?_)
  · refine j_iconst hX dX12_acts_9 kc_0 ?_
    refine j_istore_n hX (lv' := [(2, .int 0), (0, .ref q_this), (1, .int x1)]) dX12_acts_10 rfl rfl rfl ?_
    refine j_lv [1, 2, 0] rfl ?_
    exact L11 N _ _ _ _ hg
  · exact B43 _ _ _ hg
abbrev w_X12_drum (G : jG) (q_this : Nat) (q_this_book : Nat) (q_this_s : Nat) (q_this_acts : Nat) (v_this_text : Value) (v_this_length : Value) (v_this_draft : Value) (v_this_kept : Value) (v_this_keptMany : Value) (v_this_row : Value) (v_this_rowMany : Value) (v_this_tells : Value) (v_this_tellMany : Value) (v_this_at : Value) (v_this_told : Value) (v_this_place : Value) (v_this_sort : Value) (v_this_minute : Value) (v_this_when : Value) (v_this_isHeard : Value) (v_this_goneBy : Value) (v_this_stand : Value) (v_this_many : Value) (v_this_standing : Value) (f_this_book : (Nat → Int32)) (f_this_s : (Nat → Int32)) (f_this_acts : (Nat → Int32)) (f_this_actMany : Int32) : va_W := [oC q_this 12 [v_this_text, v_this_length, .ref q_this_book, v_this_draft, .ref q_this_s, v_this_kept, v_this_keptMany, .ref q_this_acts, .int f_this_actMany, v_this_row, v_this_rowMany, v_this_tells, v_this_tellMany, v_this_at, v_this_told, v_this_place, v_this_sort, v_this_minute, v_this_when, v_this_isHeard, v_this_goneBy, v_this_stand, v_this_many, v_this_standing], aI G q_this_book 78 f_this_book, aI G q_this_s 74 f_this_s, aI G q_this_acts 8 f_this_acts]
def g_X12_drum (N : Nat) (f_this_book : (Nat → Int32)) (f_this_s : (Nat → Int32)) (f_this_acts : (Nat → Int32)) (f_this_actMany : Int32) (x1 : Int32) (x2 : Int32) : Option (Int32 × (Nat → Int32) × (Nat → Int32) × Int32) := (g_X12_isPlace N f_this_book x1).bind fun v2 => if v2 = 0 then some ((-1), f_this_s, f_this_acts, f_this_actMany) else (g_X12_isSort N f_this_book x2).bind fun v10 => if v10 = 0 then some ((-1), f_this_s, f_this_acts, f_this_actMany) else gi 0 74 (if (f_this_s (0 : Int32).toNatClampNeg) = 24 then some ((-3), f_this_s, f_this_acts, f_this_actMany) else gi 0 74 (gi (2 + (3 * (f_this_s (0 : Int32).toNatClampNeg))) 74 (gi ((2 + (3 * (f_this_s (0 : Int32).toNatClampNeg))) + 1) 74 (gi 1 74 (gi ((2 + (3 * (f_this_s (0 : Int32).toNatClampNeg))) + 2) 74 (gi 0 74 (gi 0 74 ((g_X12_acts N f_this_acts f_this_actMany 0).bind fun v85 => gi 0 74 (some ((upd (upd (upd (upd f_this_s (2 + (3 * (f_this_s (0 : Int32).toNatClampNeg)) : Int32).toNatClampNeg x1) ((2 + (3 * (f_this_s (0 : Int32).toNatClampNeg))) + 1 : Int32).toNatClampNeg x2) ((2 + (3 * (f_this_s (0 : Int32).toNatClampNeg))) + 2 : Int32).toNatClampNeg ((upd (upd f_this_s (2 + (3 * (f_this_s (0 : Int32).toNatClampNeg)) : Int32).toNatClampNeg x1) ((2 + (3 * (f_this_s (0 : Int32).toNatClampNeg))) + 1 : Int32).toNatClampNeg x2) (1 : Int32).toNatClampNeg)) (0 : Int32).toNatClampNeg (((upd (upd (upd f_this_s (2 + (3 * (f_this_s (0 : Int32).toNatClampNeg)) : Int32).toNatClampNeg x1) ((2 + (3 * (f_this_s (0 : Int32).toNatClampNeg))) + 1 : Int32).toNatClampNeg x2) ((2 + (3 * (f_this_s (0 : Int32).toNatClampNeg))) + 2 : Int32).toNatClampNeg ((upd (upd f_this_s (2 + (3 * (f_this_s (0 : Int32).toNatClampNeg)) : Int32).toNatClampNeg x1) ((2 + (3 * (f_this_s (0 : Int32).toNatClampNeg))) + 1 : Int32).toNatClampNeg x2) (1 : Int32).toNatClampNeg)) (0 : Int32).toNatClampNeg) + 1)) (0 : Int32).toNatClampNeg, upd (upd (upd (upd f_this_s (2 + (3 * (f_this_s (0 : Int32).toNatClampNeg)) : Int32).toNatClampNeg x1) ((2 + (3 * (f_this_s (0 : Int32).toNatClampNeg))) + 1 : Int32).toNatClampNeg x2) ((2 + (3 * (f_this_s (0 : Int32).toNatClampNeg))) + 2 : Int32).toNatClampNeg ((upd (upd f_this_s (2 + (3 * (f_this_s (0 : Int32).toNatClampNeg)) : Int32).toNatClampNeg x1) ((2 + (3 * (f_this_s (0 : Int32).toNatClampNeg))) + 1 : Int32).toNatClampNeg x2) (1 : Int32).toNatClampNeg)) (0 : Int32).toNatClampNeg (((upd (upd (upd f_this_s (2 + (3 * (f_this_s (0 : Int32).toNatClampNeg)) : Int32).toNatClampNeg x1) ((2 + (3 * (f_this_s (0 : Int32).toNatClampNeg))) + 1 : Int32).toNatClampNeg x2) ((2 + (3 * (f_this_s (0 : Int32).toNatClampNeg))) + 2 : Int32).toNatClampNeg ((upd (upd f_this_s (2 + (3 * (f_this_s (0 : Int32).toNatClampNeg)) : Int32).toNatClampNeg x1) ((2 + (3 * (f_this_s (0 : Int32).toNatClampNeg))) + 1 : Int32).toNatClampNeg x2) (1 : Int32).toNatClampNeg)) (0 : Int32).toNatClampNeg) + 1), v85.1, v85.2))))))))))
set_option maxHeartbeats 4000000 in
set_option maxRecDepth 100000 in
theorem c_X12_drum (l : Launch) (G : jG) (N : Nat) (q_this : Nat) (q_this_book : Nat) (q_this_s : Nat) (q_this_acts : Nat) (v_this_text : Value) (v_this_length : Value) (v_this_draft : Value) (v_this_kept : Value) (v_this_keptMany : Value) (v_this_row : Value) (v_this_rowMany : Value) (v_this_tells : Value) (v_this_tellMany : Value) (v_this_at : Value) (v_this_told : Value) (v_this_place : Value) (v_this_sort : Value) (v_this_minute : Value) (v_this_when : Value) (v_this_isHeard : Value) (v_this_goneBy : Value) (v_this_stand : Value) (v_this_many : Value) (v_this_standing : Value) (f_this_book : (Nat → Int32)) (f_this_s : (Nat → Int32)) (f_this_acts : (Nat → Int32)) (f_this_actMany : Int32) (x1 : Int32) (x2 : Int32) (u : Int32 × (Nat → Int32) × (Nat → Int32) × Int32) (hu : g_X12_drum N f_this_book f_this_s f_this_acts f_this_actMany x1 x2 = some u) : MetRW l G yX12_drum wsX12_drum ({ frames := 2, cells := 0, slots := 0, locals := 43 } : Room) [.ref q_this, .int x1, .int x2] (w_X12_drum G q_this q_this_book q_this_s q_this_acts v_this_text v_this_length v_this_draft v_this_kept v_this_keptMany v_this_row v_this_rowMany v_this_tells v_this_tellMany v_this_at v_this_told v_this_place v_this_sort v_this_minute v_this_when v_this_isHeard v_this_goneBy v_this_stand v_this_many v_this_standing f_this_book f_this_s f_this_acts f_this_actMany) (w_X12_drum G q_this q_this_book q_this_s q_this_acts v_this_text v_this_length v_this_draft v_this_kept v_this_keptMany v_this_row v_this_rowMany v_this_tells v_this_tellMany v_this_at v_this_told v_this_place v_this_sort v_this_minute v_this_when v_this_isHeard v_this_goneBy v_this_stand v_this_many v_this_standing f_this_book u.2.1 u.2.2.1 u.2.2.2) u.1 := by
  refine met_rwi (cc := cX12_drum) (maxL := 4) (lv0 := [(0, .ref q_this), (1, .int x1), (2, .int x2)]) (by decide) rfl rfl rfl rfl (fun X hX hW hret => ?_)
  have hinX12 : ∀ w ∈ u_ws RX12 TX12 24, w ∈ wsX12_drum := by decide +kernel
  have hf_X12_s_19 : Cond.fieldLink RX12 19 (TX12 4).1 (TX12 4).2.1 (TX12 4).2.2.1 ∈ wsX12_drum := by decide +kernel
  have hg := hu
  unfold g_X12_drum at hg
  refine j_aload_n hX 0 dX12_drum_0 rfl rfl ?_
  refine j_iload_n hX 1 dX12_drum_1 rfl rfl ?_
  refine j_vRO hX (r := fun v => v) [.int x1] hg (fun v hv => c_X12_isPlace l G N q_this q_this_book v_this_text v_this_length v_this_draft (.ref q_this_s) v_this_kept v_this_keptMany (.ref q_this_acts) (.int f_this_actMany) v_this_row v_this_rowMany v_this_tells v_this_tellMany v_this_at v_this_told v_this_place v_this_sort v_this_minute v_this_when v_this_isHeard v_this_goneBy v_this_stand v_this_many v_this_standing f_this_book x1 v hv) gX12_drum_X12_isPlace rfl ⟨rfl, rfl⟩ ⟨rfl, by decide, by decide, rfl⟩ rfl rfl [0, 1] rfl rfl rfl dX12_drum_2 rfl rfl ⟨Nat.zero_le _, Nat.zero_le _⟩ (fun v2 hg => ?_)
  refine j_if_eq hX 16 hg dX12_drum_5 (by decide) (fun hg => ?_) (fun hg => ?_)
  · refine j_iconst hX dX12_drum_16 kc_m1 ?_
    cases hg
    exact hret _ _ dX12_drum_17
  · refine j_aload_n hX 0 dX12_drum_8 rfl rfl ?_
    refine j_iload_n hX 2 dX12_drum_9 rfl rfl ?_
    refine j_vRO hX (r := fun v => v) [.int x2] hg (fun v hv => c_X12_isSort l G N q_this q_this_book v_this_text v_this_length v_this_draft (.ref q_this_s) v_this_kept v_this_keptMany (.ref q_this_acts) (.int f_this_actMany) v_this_row v_this_rowMany v_this_tells v_this_tellMany v_this_at v_this_told v_this_place v_this_sort v_this_minute v_this_when v_this_isHeard v_this_goneBy v_this_stand v_this_many v_this_standing f_this_book x2 v hv) gX12_drum_X12_isSort rfl ⟨rfl, rfl⟩ ⟨rfl, by decide, by decide, rfl⟩ rfl rfl [0, 1] rfl rfl rfl dX12_drum_10 rfl rfl ⟨Nat.zero_le _, Nat.zero_le _⟩ (fun v10 hg => ?_)
    refine j_if_ne hX 18 hg dX12_drum_13 (by decide) (fun hg => ?_) (fun hg => ?_)
    · refine j_iconst hX dX12_drum_16 kc_m1 ?_
      cases hg
      exact hret _ _ dX12_drum_17
    · refine j_aload_n hX 0 dX12_drum_18 rfl rfl ?_
      refine j_get hX 0 4 rfl rfl hinX12 rfl hf_X12_s_19 rfl dX12_drum_19 ?_
      refine j_iconst hX dX12_drum_22 kc_0 ?_
      refine j_iald hX 2 rfl hg dX12_drum_23 (fun hg => ?_)
      refine j_bipush hX dX12_drum_24 kb_24 ?_
      refine j_icmp_ne hX 32 hg dX12_drum_26 (by decide) (fun hg => ?_) (fun hg => ?_)
      · refine j_bipush hX dX12_drum_29 kb_m3 ?_
        cases hg
        exact hret _ _ dX12_drum_31
      · refine j_iconst hX dX12_drum_32 kc_2 ?_
        refine j_iconst hX dX12_drum_33 kc_3 ?_
        refine j_aload_n hX 0 dX12_drum_34 rfl rfl ?_
        refine j_get hX 0 4 rfl rfl hinX12 rfl hf_X12_s_19 rfl dX12_drum_35 ?_
        refine j_iconst hX dX12_drum_38 kc_0 ?_
        refine j_iald hX 2 rfl hg dX12_drum_39 (fun hg => ?_)
        refine j_imul hX dX12_drum_40 ?_
        refine j_iadd hX dX12_drum_41 ?_
        refine j_istore_n hX (lv' := [(3, .int (2 + (3 * (f_this_s (0 : Int32).toNatClampNeg)))), (0, .ref q_this), (1, .int x1), (2, .int x2)]) dX12_drum_42 rfl rfl rfl ?_
        refine j_aload_n hX 1 dX12_drum_43 rfl rfl ?_
        refine j_get hX 0 4 rfl rfl hinX12 rfl hf_X12_s_19 rfl dX12_drum_44 ?_
        refine j_iload_n hX 0 dX12_drum_47 rfl rfl ?_
        refine j_iload_n hX 2 dX12_drum_48 rfl rfl ?_
        refine j_iast hX hW 2 rfl hg dX12_drum_49 (ws' := (w_X12_drum G q_this q_this_book q_this_s q_this_acts v_this_text v_this_length v_this_draft v_this_kept v_this_keptMany v_this_row v_this_rowMany v_this_tells v_this_tellMany v_this_at v_this_told v_this_place v_this_sort v_this_minute v_this_when v_this_isHeard v_this_goneBy v_this_stand v_this_many v_this_standing f_this_book (upd f_this_s (2 + (3 * (f_this_s (0 : Int32).toNatClampNeg)) : Int32).toNatClampNeg x1) f_this_acts f_this_actMany)) rfl (fun hg => ?_)
        refine j_aload_n hX 1 dX12_drum_50 rfl rfl ?_
        refine j_get hX 0 4 rfl rfl hinX12 rfl hf_X12_s_19 rfl dX12_drum_51 ?_
        refine j_iload_n hX 0 dX12_drum_54 rfl rfl ?_
        refine j_iconst hX dX12_drum_55 kc_1 ?_
        refine j_iadd hX dX12_drum_56 ?_
        refine j_iload_n hX 3 dX12_drum_57 rfl rfl ?_
        refine j_iast hX hW 2 rfl hg dX12_drum_58 (ws' := (w_X12_drum G q_this q_this_book q_this_s q_this_acts v_this_text v_this_length v_this_draft v_this_kept v_this_keptMany v_this_row v_this_rowMany v_this_tells v_this_tellMany v_this_at v_this_told v_this_place v_this_sort v_this_minute v_this_when v_this_isHeard v_this_goneBy v_this_stand v_this_many v_this_standing f_this_book (upd (upd f_this_s (2 + (3 * (f_this_s (0 : Int32).toNatClampNeg)) : Int32).toNatClampNeg x1) ((2 + (3 * (f_this_s (0 : Int32).toNatClampNeg))) + 1 : Int32).toNatClampNeg x2) f_this_acts f_this_actMany)) rfl (fun hg => ?_)
        refine j_aload_n hX 1 dX12_drum_59 rfl rfl ?_
        refine j_get hX 0 4 rfl rfl hinX12 rfl hf_X12_s_19 rfl dX12_drum_60 ?_
        refine j_iload_n hX 0 dX12_drum_63 rfl rfl ?_
        refine j_iconst hX dX12_drum_64 kc_2 ?_
        refine j_iadd hX dX12_drum_65 ?_
        refine j_aload_n hX 1 dX12_drum_66 rfl rfl ?_
        refine j_get hX 0 4 rfl rfl hinX12 rfl hf_X12_s_19 rfl dX12_drum_67 ?_
        refine j_iconst hX dX12_drum_70 kc_1 ?_
        refine j_iald hX 2 rfl hg dX12_drum_71 (fun hg => ?_)
        refine j_iast hX hW 2 rfl hg dX12_drum_72 (ws' := (w_X12_drum G q_this q_this_book q_this_s q_this_acts v_this_text v_this_length v_this_draft v_this_kept v_this_keptMany v_this_row v_this_rowMany v_this_tells v_this_tellMany v_this_at v_this_told v_this_place v_this_sort v_this_minute v_this_when v_this_isHeard v_this_goneBy v_this_stand v_this_many v_this_standing f_this_book (upd (upd (upd f_this_s (2 + (3 * (f_this_s (0 : Int32).toNatClampNeg)) : Int32).toNatClampNeg x1) ((2 + (3 * (f_this_s (0 : Int32).toNatClampNeg))) + 1 : Int32).toNatClampNeg x2) ((2 + (3 * (f_this_s (0 : Int32).toNatClampNeg))) + 2 : Int32).toNatClampNeg ((upd (upd f_this_s (2 + (3 * (f_this_s (0 : Int32).toNatClampNeg)) : Int32).toNatClampNeg x1) ((2 + (3 * (f_this_s (0 : Int32).toNatClampNeg))) + 1 : Int32).toNatClampNeg x2) (1 : Int32).toNatClampNeg)) f_this_acts f_this_actMany)) rfl (fun hg => ?_)
        refine j_aload_n hX 1 dX12_drum_73 rfl rfl ?_
        refine j_get hX 0 4 rfl rfl hinX12 rfl hf_X12_s_19 rfl dX12_drum_74 ?_
        refine j_iconst hX dX12_drum_77 kc_0 ?_
        refine j_dup2 hX dX12_drum_78 rfl rfl ?_
        refine j_iald hX 2 rfl hg dX12_drum_79 (fun hg => ?_)
        refine j_iconst hX dX12_drum_80 kc_1 ?_
        refine j_iadd hX dX12_drum_81 ?_
        refine j_iast hX hW 2 rfl hg dX12_drum_82 (ws' := (w_X12_drum G q_this q_this_book q_this_s q_this_acts v_this_text v_this_length v_this_draft v_this_kept v_this_keptMany v_this_row v_this_rowMany v_this_tells v_this_tellMany v_this_at v_this_told v_this_place v_this_sort v_this_minute v_this_when v_this_isHeard v_this_goneBy v_this_stand v_this_many v_this_standing f_this_book (upd (upd (upd (upd f_this_s (2 + (3 * (f_this_s (0 : Int32).toNatClampNeg)) : Int32).toNatClampNeg x1) ((2 + (3 * (f_this_s (0 : Int32).toNatClampNeg))) + 1 : Int32).toNatClampNeg x2) ((2 + (3 * (f_this_s (0 : Int32).toNatClampNeg))) + 2 : Int32).toNatClampNeg ((upd (upd f_this_s (2 + (3 * (f_this_s (0 : Int32).toNatClampNeg)) : Int32).toNatClampNeg x1) ((2 + (3 * (f_this_s (0 : Int32).toNatClampNeg))) + 1 : Int32).toNatClampNeg x2) (1 : Int32).toNatClampNeg)) (0 : Int32).toNatClampNeg (((upd (upd (upd f_this_s (2 + (3 * (f_this_s (0 : Int32).toNatClampNeg)) : Int32).toNatClampNeg x1) ((2 + (3 * (f_this_s (0 : Int32).toNatClampNeg))) + 1 : Int32).toNatClampNeg x2) ((2 + (3 * (f_this_s (0 : Int32).toNatClampNeg))) + 2 : Int32).toNatClampNeg ((upd (upd f_this_s (2 + (3 * (f_this_s (0 : Int32).toNatClampNeg)) : Int32).toNatClampNeg x1) ((2 + (3 * (f_this_s (0 : Int32).toNatClampNeg))) + 1 : Int32).toNatClampNeg x2) (1 : Int32).toNatClampNeg)) (0 : Int32).toNatClampNeg) + 1)) f_this_acts f_this_actMany)) rfl (fun hg => ?_)
        refine j_aload_n hX 1 dX12_drum_83 rfl rfl ?_
        refine j_iconst hX dX12_drum_84 kc_0 ?_
        refine j_vRV hX hW (w1 := fun v => (w_X12_acts G q_this q_this_acts v_this_text v_this_length (.ref q_this_book) v_this_draft (.ref q_this_s) v_this_kept v_this_keptMany v_this_row v_this_rowMany v_this_tells v_this_tellMany v_this_at v_this_told v_this_place v_this_sort v_this_minute v_this_when v_this_isHeard v_this_goneBy v_this_stand v_this_many v_this_standing v.1 v.2)) (ws' := fun v => (w_X12_drum G q_this q_this_book q_this_s q_this_acts v_this_text v_this_length v_this_draft v_this_kept v_this_keptMany v_this_row v_this_rowMany v_this_tells v_this_tellMany v_this_at v_this_told v_this_place v_this_sort v_this_minute v_this_when v_this_isHeard v_this_goneBy v_this_stand v_this_many v_this_standing f_this_book (upd (upd (upd (upd f_this_s (2 + (3 * (f_this_s (0 : Int32).toNatClampNeg)) : Int32).toNatClampNeg x1) ((2 + (3 * (f_this_s (0 : Int32).toNatClampNeg))) + 1 : Int32).toNatClampNeg x2) ((2 + (3 * (f_this_s (0 : Int32).toNatClampNeg))) + 2 : Int32).toNatClampNeg ((upd (upd f_this_s (2 + (3 * (f_this_s (0 : Int32).toNatClampNeg)) : Int32).toNatClampNeg x1) ((2 + (3 * (f_this_s (0 : Int32).toNatClampNeg))) + 1 : Int32).toNatClampNeg x2) (1 : Int32).toNatClampNeg)) (0 : Int32).toNatClampNeg (((upd (upd (upd f_this_s (2 + (3 * (f_this_s (0 : Int32).toNatClampNeg)) : Int32).toNatClampNeg x1) ((2 + (3 * (f_this_s (0 : Int32).toNatClampNeg))) + 1 : Int32).toNatClampNeg x2) ((2 + (3 * (f_this_s (0 : Int32).toNatClampNeg))) + 2 : Int32).toNatClampNeg ((upd (upd f_this_s (2 + (3 * (f_this_s (0 : Int32).toNatClampNeg)) : Int32).toNatClampNeg x1) ((2 + (3 * (f_this_s (0 : Int32).toNatClampNeg))) + 1 : Int32).toNatClampNeg x2) (1 : Int32).toNatClampNeg)) (0 : Int32).toNatClampNeg) + 1)) v.1 v.2)) [.int 0] hg (fun v hv => c_X12_acts l G N q_this q_this_acts v_this_text v_this_length (.ref q_this_book) v_this_draft (.ref q_this_s) v_this_kept v_this_keptMany v_this_row v_this_rowMany v_this_tells v_this_tellMany v_this_at v_this_told v_this_place v_this_sort v_this_minute v_this_when v_this_isHeard v_this_goneBy v_this_stand v_this_many v_this_standing f_this_acts f_this_actMany 0 v hv) gX12_drum_X12_acts rfl ⟨rfl, rfl⟩ ⟨rfl, by decide, by decide, rfl⟩ rfl rfl [0, 3] rfl (by decide +kernel) rfl rfl dX12_drum_85 rfl rfl ⟨Nat.zero_le _, Nat.zero_le _⟩ (fun _ => jn_set [0, 3] rfl rfl rfl) (fun v85 hg => ?_)
        refine j_aload_n hX 1 dX12_drum_88 rfl rfl ?_
        refine j_get hX 0 4 rfl rfl hinX12 rfl hf_X12_s_19 rfl dX12_drum_89 ?_
        refine j_iconst hX dX12_drum_92 kc_0 ?_
        refine j_iald hX 2 rfl hg dX12_drum_93 (fun hg => ?_)
        cases hg
        exact hret _ _ dX12_drum_94
abbrev w_X12_pass (G : jG) (q_this : Nat) (q_this_s : Nat) (q_this_acts : Nat) (v_this_text : Value) (v_this_length : Value) (v_this_book : Value) (v_this_draft : Value) (v_this_kept : Value) (v_this_keptMany : Value) (v_this_row : Value) (v_this_rowMany : Value) (v_this_tells : Value) (v_this_tellMany : Value) (v_this_at : Value) (v_this_told : Value) (v_this_place : Value) (v_this_sort : Value) (v_this_minute : Value) (v_this_when : Value) (v_this_isHeard : Value) (v_this_goneBy : Value) (v_this_stand : Value) (v_this_many : Value) (v_this_standing : Value) (f_this_s : (Nat → Int32)) (f_this_acts : (Nat → Int32)) (f_this_actMany : Int32) : va_W := [oC q_this 12 [v_this_text, v_this_length, v_this_book, v_this_draft, .ref q_this_s, v_this_kept, v_this_keptMany, .ref q_this_acts, .int f_this_actMany, v_this_row, v_this_rowMany, v_this_tells, v_this_tellMany, v_this_at, v_this_told, v_this_place, v_this_sort, v_this_minute, v_this_when, v_this_isHeard, v_this_goneBy, v_this_stand, v_this_many, v_this_standing], aI G q_this_s 74 f_this_s, aI G q_this_acts 8 f_this_acts]
def g_X12_pass (N : Nat) (f_this_s : (Nat → Int32)) (f_this_acts : (Nat → Int32)) (f_this_actMany : Int32) (x1 : Int32) : Option (Int32 × (Nat → Int32) × (Nat → Int32) × Int32) := (g_X12_in N x1 1 600).bind fun v5 => if v5 = 0 then some ((-1), f_this_s, f_this_acts, f_this_actMany) else gi 1 74 (if ((f_this_s (1 : Int32).toNatClampNeg) + x1) ≤ 9999 then gi 1 74 (gi 1 74 ((g_X12_acts N f_this_acts f_this_actMany x1).bind fun v42 => gi 1 74 (some ((upd f_this_s (1 : Int32).toNatClampNeg ((f_this_s (1 : Int32).toNatClampNeg) + x1)) (1 : Int32).toNatClampNeg, upd f_this_s (1 : Int32).toNatClampNeg ((f_this_s (1 : Int32).toNatClampNeg) + x1), v42.1, v42.2)))) else some ((-2), f_this_s, f_this_acts, f_this_actMany))
set_option maxHeartbeats 4000000 in
set_option maxRecDepth 100000 in
theorem c_X12_pass (l : Launch) (G : jG) (N : Nat) (q_this : Nat) (q_this_s : Nat) (q_this_acts : Nat) (v_this_text : Value) (v_this_length : Value) (v_this_book : Value) (v_this_draft : Value) (v_this_kept : Value) (v_this_keptMany : Value) (v_this_row : Value) (v_this_rowMany : Value) (v_this_tells : Value) (v_this_tellMany : Value) (v_this_at : Value) (v_this_told : Value) (v_this_place : Value) (v_this_sort : Value) (v_this_minute : Value) (v_this_when : Value) (v_this_isHeard : Value) (v_this_goneBy : Value) (v_this_stand : Value) (v_this_many : Value) (v_this_standing : Value) (f_this_s : (Nat → Int32)) (f_this_acts : (Nat → Int32)) (f_this_actMany : Int32) (x1 : Int32) (u : Int32 × (Nat → Int32) × (Nat → Int32) × Int32) (hu : g_X12_pass N f_this_s f_this_acts f_this_actMany x1 = some u) : MetRW l G yX12_pass wsX12_pass ({ frames := 1, cells := 0, slots := 0, locals := 22 } : Room) [.ref q_this, .int x1] (w_X12_pass G q_this q_this_s q_this_acts v_this_text v_this_length v_this_book v_this_draft v_this_kept v_this_keptMany v_this_row v_this_rowMany v_this_tells v_this_tellMany v_this_at v_this_told v_this_place v_this_sort v_this_minute v_this_when v_this_isHeard v_this_goneBy v_this_stand v_this_many v_this_standing f_this_s f_this_acts f_this_actMany) (w_X12_pass G q_this q_this_s q_this_acts v_this_text v_this_length v_this_book v_this_draft v_this_kept v_this_keptMany v_this_row v_this_rowMany v_this_tells v_this_tellMany v_this_at v_this_told v_this_place v_this_sort v_this_minute v_this_when v_this_isHeard v_this_goneBy v_this_stand v_this_many v_this_standing u.2.1 u.2.2.1 u.2.2.2) u.1 := by
  refine met_rwi (cc := cX12_pass) (maxL := 2) (lv0 := [(0, .ref q_this), (1, .int x1)]) (by decide) rfl rfl rfl rfl (fun X hX hW hret => ?_)
  have hinX12 : ∀ w ∈ u_ws RX12 TX12 24, w ∈ wsX12_pass := by decide +kernel
  have hf_X12_s_19 : Cond.fieldLink RX12 19 (TX12 4).1 (TX12 4).2.1 (TX12 4).2.2.1 ∈ wsX12_pass := by decide +kernel
  have hg := hu
  unfold g_X12_pass at hg
  refine j_iload_n hX 1 dX12_pass_0 rfl rfl ?_
  refine j_iconst hX dX12_pass_1 kc_1 ?_
  refine j_sipush hX dX12_pass_2 ks_600 ?_
  refine j_sRO hX (r := fun v => v) [.int x1, .int 1, .int 600] hg (fun v hv => c_X12_in l G N x1 1 600 v hv) gX12_pass_X12_in rfl ⟨rfl, rfl⟩ ⟨by decide, by decide, rfl⟩ rfl rfl [] rfl dX12_pass_5 rfl rfl ⟨Nat.zero_le _, Nat.zero_le _⟩ (fun v5 hg => ?_)
  refine j_if_ne hX 13 hg dX12_pass_8 (by decide) (fun hg => ?_) (fun hg => ?_)
  · refine j_iconst hX dX12_pass_11 kc_m1 ?_
    cases hg
    exact hret _ _ dX12_pass_12
  · refine j_aload_n hX 0 dX12_pass_13 rfl rfl ?_
    refine j_get hX 0 4 rfl rfl hinX12 rfl hf_X12_s_19 rfl dX12_pass_14 ?_
    refine j_iconst hX dX12_pass_17 kc_1 ?_
    refine j_iald hX 1 rfl hg dX12_pass_18 (fun hg => ?_)
    refine j_iload_n hX 1 dX12_pass_19 rfl rfl ?_
    refine j_iadd hX dX12_pass_20 ?_
    refine j_sipush hX dX12_pass_21 ks_9999 ?_
    refine j_icmp_le hX 30 hg dX12_pass_24 (by decide) (fun hg => ?_) (fun hg => ?_)
    · refine j_aload_n hX 0 dX12_pass_30 rfl rfl ?_
      refine j_get hX 0 4 rfl rfl hinX12 rfl hf_X12_s_19 rfl dX12_pass_31 ?_
      refine j_iconst hX dX12_pass_34 kc_1 ?_
      refine j_dup2 hX dX12_pass_35 rfl rfl ?_
      refine j_iald hX 1 rfl hg dX12_pass_36 (fun hg => ?_)
      refine j_iload_n hX 1 dX12_pass_37 rfl rfl ?_
      refine j_iadd hX dX12_pass_38 ?_
      refine j_iast hX hW 1 rfl hg dX12_pass_39 (ws' := (w_X12_pass G q_this q_this_s q_this_acts v_this_text v_this_length v_this_book v_this_draft v_this_kept v_this_keptMany v_this_row v_this_rowMany v_this_tells v_this_tellMany v_this_at v_this_told v_this_place v_this_sort v_this_minute v_this_when v_this_isHeard v_this_goneBy v_this_stand v_this_many v_this_standing (upd f_this_s (1 : Int32).toNatClampNeg ((f_this_s (1 : Int32).toNatClampNeg) + x1)) f_this_acts f_this_actMany)) rfl (fun hg => ?_)
      refine j_aload_n hX 0 dX12_pass_40 rfl rfl ?_
      refine j_iload_n hX 1 dX12_pass_41 rfl rfl ?_
      refine j_vRV hX hW (w1 := fun v => (w_X12_acts G q_this q_this_acts v_this_text v_this_length v_this_book v_this_draft (.ref q_this_s) v_this_kept v_this_keptMany v_this_row v_this_rowMany v_this_tells v_this_tellMany v_this_at v_this_told v_this_place v_this_sort v_this_minute v_this_when v_this_isHeard v_this_goneBy v_this_stand v_this_many v_this_standing v.1 v.2)) (ws' := fun v => (w_X12_pass G q_this q_this_s q_this_acts v_this_text v_this_length v_this_book v_this_draft v_this_kept v_this_keptMany v_this_row v_this_rowMany v_this_tells v_this_tellMany v_this_at v_this_told v_this_place v_this_sort v_this_minute v_this_when v_this_isHeard v_this_goneBy v_this_stand v_this_many v_this_standing (upd f_this_s (1 : Int32).toNatClampNeg ((f_this_s (1 : Int32).toNatClampNeg) + x1)) v.1 v.2)) [.int x1] hg (fun v hv => c_X12_acts l G N q_this q_this_acts v_this_text v_this_length v_this_book v_this_draft (.ref q_this_s) v_this_kept v_this_keptMany v_this_row v_this_rowMany v_this_tells v_this_tellMany v_this_at v_this_told v_this_place v_this_sort v_this_minute v_this_when v_this_isHeard v_this_goneBy v_this_stand v_this_many v_this_standing f_this_acts f_this_actMany x1 v hv) gX12_pass_X12_acts rfl ⟨rfl, rfl⟩ ⟨rfl, by decide, by decide, rfl⟩ rfl rfl [0, 2] rfl (by decide +kernel) rfl rfl dX12_pass_42 rfl rfl ⟨Nat.zero_le _, Nat.zero_le _⟩ (fun _ => jn_set [0, 2] rfl rfl rfl) (fun v42 hg => ?_)
      refine j_aload_n hX 0 dX12_pass_45 rfl rfl ?_
      refine j_get hX 0 4 rfl rfl hinX12 rfl hf_X12_s_19 rfl dX12_pass_46 ?_
      refine j_iconst hX dX12_pass_49 kc_1 ?_
      refine j_iald hX 1 rfl hg dX12_pass_50 (fun hg => ?_)
      cases hg
      exact hret _ _ dX12_pass_51
    · refine j_bipush hX dX12_pass_27 kb_m2 ?_
      cases hg
      exact hret _ _ dX12_pass_29
abbrev w_X12_undo (G : jG) (q_this : Nat) (q_this_s : Nat) (q_this_acts : Nat) (v_this_text : Value) (v_this_length : Value) (v_this_book : Value) (v_this_draft : Value) (v_this_kept : Value) (v_this_keptMany : Value) (v_this_row : Value) (v_this_rowMany : Value) (v_this_tells : Value) (v_this_tellMany : Value) (v_this_at : Value) (v_this_told : Value) (v_this_place : Value) (v_this_sort : Value) (v_this_minute : Value) (v_this_when : Value) (v_this_isHeard : Value) (v_this_goneBy : Value) (v_this_stand : Value) (v_this_many : Value) (v_this_standing : Value) (f_this_s : (Nat → Int32)) (f_this_acts : (Nat → Int32)) (f_this_actMany : Int32) : va_W := [oC q_this 12 [v_this_text, v_this_length, v_this_book, v_this_draft, .ref q_this_s, v_this_kept, v_this_keptMany, .ref q_this_acts, .int f_this_actMany, v_this_row, v_this_rowMany, v_this_tells, v_this_tellMany, v_this_at, v_this_told, v_this_place, v_this_sort, v_this_minute, v_this_when, v_this_isHeard, v_this_goneBy, v_this_stand, v_this_many, v_this_standing], aI G q_this_s 74 f_this_s, aI G q_this_acts 8 f_this_acts]
def g_X12_undo_b44 (N : Nat) (f_this_acts : (Nat → Int32)) (f_this_s : (Nat → Int32)) (f_this_actMany : Int32) (s1 : Int32) (s2 : Int32) (s3 : Int32) : Option (Int32 × (Nat → Int32) × Int32) := gi s1 74 (gi 1 74 (gi f_this_actMany 8 (gi 1 74 (some (f_this_actMany, upd (upd f_this_s s1.toNatClampNeg (s2 - s3)) (1 : Int32).toNatClampNeg (((upd f_this_s s1.toNatClampNeg (s2 - s3)) (1 : Int32).toNatClampNeg) - (f_this_acts f_this_actMany.toNatClampNeg)), f_this_actMany)))))
def g_X12_undo (N : Nat) (f_this_acts : (Nat → Int32)) (f_this_s : (Nat → Int32)) (f_this_actMany : Int32) : Option (Int32 × (Nat → Int32) × Int32) := if f_this_actMany = 0 then some ((-2), f_this_s, f_this_actMany) else gi 0 74 (gi (f_this_actMany - 1) 8 (if (f_this_acts (f_this_actMany - 1 : Int32).toNatClampNeg) = 0 then g_X12_undo_b44 N f_this_acts f_this_s (f_this_actMany - 1) 0 (f_this_s (0 : Int32).toNatClampNeg) 1 else g_X12_undo_b44 N f_this_acts f_this_s (f_this_actMany - 1) 0 (f_this_s (0 : Int32).toNatClampNeg) 0))
set_option maxHeartbeats 4000000 in
set_option maxRecDepth 100000 in
theorem c_X12_undo (l : Launch) (G : jG) (N : Nat) (q_this : Nat) (q_this_s : Nat) (q_this_acts : Nat) (v_this_text : Value) (v_this_length : Value) (v_this_book : Value) (v_this_draft : Value) (v_this_kept : Value) (v_this_keptMany : Value) (v_this_row : Value) (v_this_rowMany : Value) (v_this_tells : Value) (v_this_tellMany : Value) (v_this_at : Value) (v_this_told : Value) (v_this_place : Value) (v_this_sort : Value) (v_this_minute : Value) (v_this_when : Value) (v_this_isHeard : Value) (v_this_goneBy : Value) (v_this_stand : Value) (v_this_many : Value) (v_this_standing : Value) (f_this_s : (Nat → Int32)) (f_this_acts : (Nat → Int32)) (f_this_actMany : Int32) (u : Int32 × (Nat → Int32) × Int32) (hu : g_X12_undo N f_this_acts f_this_s f_this_actMany = some u) : MetRW l G yX12_undo wsX12_undo ({ frames := 0, cells := 0, slots := 0, locals := 0 } : Room) [.ref q_this] (w_X12_undo G q_this q_this_s q_this_acts v_this_text v_this_length v_this_book v_this_draft v_this_kept v_this_keptMany v_this_row v_this_rowMany v_this_tells v_this_tellMany v_this_at v_this_told v_this_place v_this_sort v_this_minute v_this_when v_this_isHeard v_this_goneBy v_this_stand v_this_many v_this_standing f_this_s f_this_acts f_this_actMany) (w_X12_undo G q_this q_this_s q_this_acts v_this_text v_this_length v_this_book v_this_draft v_this_kept v_this_keptMany v_this_row v_this_rowMany v_this_tells v_this_tellMany v_this_at v_this_told v_this_place v_this_sort v_this_minute v_this_when v_this_isHeard v_this_goneBy v_this_stand v_this_many v_this_standing u.2.1 f_this_acts u.2.2) u.1 := by
  refine met_rwi (cc := cX12_undo) (maxL := 1) (lv0 := [(0, .ref q_this)]) (by decide) rfl rfl rfl rfl (fun X hX hW hret => ?_)
  have hinX12 : ∀ w ∈ u_ws RX12 TX12 24, w ∈ wsX12_undo := by decide +kernel
  have hf_X12_actMany_109 : Cond.fieldLink RX12 109 (TX12 8).1 (TX12 8).2.1 (TX12 8).2.2.1 ∈ wsX12_undo := by decide +kernel
  have hf_X12_acts_25 : Cond.fieldLink RX12 25 (TX12 7).1 (TX12 7).2.1 (TX12 7).2.2.1 ∈ wsX12_undo := by decide +kernel
  have hf_X12_s_19 : Cond.fieldLink RX12 19 (TX12 4).1 (TX12 4).2.1 (TX12 4).2.2.1 ∈ wsX12_undo := by decide +kernel
  have B44 : ∀ (f_this_s : (Nat → Int32)) (f_this_actMany : Int32) (s1 : Int32) (s2 : Int32) (s3 : Int32), g_X12_undo_b44 N f_this_acts f_this_s f_this_actMany s1 s2 s3 = some u → J X 0 0 (w_X12_undo G q_this q_this_s q_this_acts v_this_text v_this_length v_this_book v_this_draft v_this_kept v_this_keptMany v_this_row v_this_rowMany v_this_tells v_this_tellMany v_this_at v_this_told v_this_place v_this_sort v_this_minute v_this_when v_this_isHeard v_this_goneBy v_this_stand v_this_many v_this_standing f_this_s f_this_acts f_this_actMany) 44 [(0, .ref q_this)] [.int s3, .int s2, .int s1, .ref q_this_s] := by
    intro f_this_s f_this_actMany s1 s2 s3 hg
    unfold g_X12_undo_b44 at hg
    refine j_isub hX dX12_undo_44 ?_
    refine j_iast hX hW 1 rfl hg dX12_undo_45 (ws' := (w_X12_undo G q_this q_this_s q_this_acts v_this_text v_this_length v_this_book v_this_draft v_this_kept v_this_keptMany v_this_row v_this_rowMany v_this_tells v_this_tellMany v_this_at v_this_told v_this_place v_this_sort v_this_minute v_this_when v_this_isHeard v_this_goneBy v_this_stand v_this_many v_this_standing (upd f_this_s s1.toNatClampNeg (s2 - s3)) f_this_acts f_this_actMany)) rfl (fun hg => ?_)
    refine j_aload_n hX 0 dX12_undo_46 rfl rfl ?_
    refine j_get hX 0 4 rfl rfl hinX12 rfl hf_X12_s_19 rfl dX12_undo_47 ?_
    refine j_iconst hX dX12_undo_50 kc_1 ?_
    refine j_dup2 hX dX12_undo_51 rfl rfl ?_
    refine j_iald hX 1 rfl hg dX12_undo_52 (fun hg => ?_)
    refine j_aload_n hX 0 dX12_undo_53 rfl rfl ?_
    refine j_get hX 0 7 rfl rfl hinX12 rfl hf_X12_acts_25 rfl dX12_undo_54 ?_
    refine j_aload_n hX 0 dX12_undo_57 rfl rfl ?_
    refine j_get hX 0 8 rfl rfl hinX12 rfl hf_X12_actMany_109 rfl dX12_undo_58 ?_
    refine j_iald hX 2 rfl hg dX12_undo_61 (fun hg => ?_)
    refine j_isub hX dX12_undo_62 ?_
    refine j_iast hX hW 1 rfl hg dX12_undo_63 (ws' := (w_X12_undo G q_this q_this_s q_this_acts v_this_text v_this_length v_this_book v_this_draft v_this_kept v_this_keptMany v_this_row v_this_rowMany v_this_tells v_this_tellMany v_this_at v_this_told v_this_place v_this_sort v_this_minute v_this_when v_this_isHeard v_this_goneBy v_this_stand v_this_many v_this_standing (upd (upd f_this_s s1.toNatClampNeg (s2 - s3)) (1 : Int32).toNatClampNeg (((upd f_this_s s1.toNatClampNeg (s2 - s3)) (1 : Int32).toNatClampNeg) - (f_this_acts f_this_actMany.toNatClampNeg))) f_this_acts f_this_actMany)) rfl (fun hg => ?_)
    refine j_aload_n hX 0 dX12_undo_64 rfl rfl ?_
    refine j_get hX 0 8 rfl rfl hinX12 rfl hf_X12_actMany_109 rfl dX12_undo_65 ?_
    cases hg
    exact hret _ _ dX12_undo_68
  have hg := hu
  unfold g_X12_undo at hg
  refine j_aload_n hX 0 dX12_undo_0 rfl rfl ?_
  refine j_get hX 0 8 rfl rfl hinX12 rfl hf_X12_actMany_109 rfl dX12_undo_1 ?_
  refine j_if_ne hX 10 hg dX12_undo_4 (by decide) (fun hg => ?_) (fun hg => ?_)
  · refine j_bipush hX dX12_undo_7 kb_m2 ?_
    cases hg
    exact hret _ _ dX12_undo_9
  · refine j_aload_n hX 0 dX12_undo_10 rfl rfl ?_
    refine j_dup hX dX12_undo_11 rfl ?_
    refine j_get hX 0 8 rfl rfl hinX12 rfl hf_X12_actMany_109 rfl dX12_undo_12 ?_
    refine j_iconst hX dX12_undo_15 kc_1 ?_
    refine j_isub hX dX12_undo_16 ?_
    refine j_put hX hW 0 8 rfl rfl hinX12 tyX12 tyX12_ok nmX12 rfl hf_X12_actMany_109 rfl rfl rfl rfl dX12_undo_17 (ws' := (w_X12_undo G q_this q_this_s q_this_acts v_this_text v_this_length v_this_book v_this_draft v_this_kept v_this_keptMany v_this_row v_this_rowMany v_this_tells v_this_tellMany v_this_at v_this_told v_this_place v_this_sort v_this_minute v_this_when v_this_isHeard v_this_goneBy v_this_stand v_this_many v_this_standing f_this_s f_this_acts (f_this_actMany - 1))) rfl ?_
    refine j_aload_n hX 0 dX12_undo_20 rfl rfl ?_
    refine j_get hX 0 4 rfl rfl hinX12 rfl hf_X12_s_19 rfl dX12_undo_21 ?_
    refine j_iconst hX dX12_undo_24 kc_0 ?_
    refine j_dup2 hX dX12_undo_25 rfl rfl ?_
    refine j_iald hX 1 rfl hg dX12_undo_26 (fun hg => ?_)
    refine j_aload_n hX 0 dX12_undo_27 rfl rfl ?_
    refine j_get hX 0 7 rfl rfl hinX12 rfl hf_X12_acts_25 rfl dX12_undo_28 ?_
    refine j_aload_n hX 0 dX12_undo_31 rfl rfl ?_
    refine j_get hX 0 8 rfl rfl hinX12 rfl hf_X12_actMany_109 rfl dX12_undo_32 ?_
    refine j_iald hX 2 rfl hg dX12_undo_35 (fun hg => ?_)
    refine j_if_ne hX 43 hg dX12_undo_36 (by decide) (fun hg => ?_) (fun hg => ?_)
    · refine j_iconst hX dX12_undo_39 kc_1 ?_
      refine j_goto hX 44 dX12_undo_40 (by decide) ?_
      exact B44 _ _ _ _ _ hg
    · refine j_iconst hX dX12_undo_43 kc_0 ?_
      exact B44 _ _ _ _ _ hg
abbrev w_X12_beat (G : jG) (q_this : Nat) (q_this_s : Nat) (v_this_text : Value) (v_this_length : Value) (v_this_book : Value) (v_this_draft : Value) (v_this_kept : Value) (v_this_keptMany : Value) (v_this_acts : Value) (v_this_actMany : Value) (v_this_row : Value) (v_this_rowMany : Value) (v_this_tells : Value) (v_this_tellMany : Value) (v_this_at : Value) (v_this_told : Value) (v_this_place : Value) (v_this_sort : Value) (v_this_minute : Value) (v_this_when : Value) (v_this_isHeard : Value) (v_this_goneBy : Value) (v_this_stand : Value) (v_this_many : Value) (v_this_standing : Value) (f_this_s : (Nat → Int32)) : va_W := [oC q_this 12 [v_this_text, v_this_length, v_this_book, v_this_draft, .ref q_this_s, v_this_kept, v_this_keptMany, v_this_acts, v_this_actMany, v_this_row, v_this_rowMany, v_this_tells, v_this_tellMany, v_this_at, v_this_told, v_this_place, v_this_sort, v_this_minute, v_this_when, v_this_isHeard, v_this_goneBy, v_this_stand, v_this_many, v_this_standing], aI G q_this_s 74 f_this_s]
def g_X12_beat (N : Nat) (f_this_s : (Nat → Int32)) (x1 : Int32) (x2 : Int32) : Option (Int32) := gi 0 74 ((g_X12_in N x1 0 ((f_this_s (0 : Int32).toNatClampNeg) - 1)).bind fun v10 => if v10 = 0 then some (-1) else (g_X12_in N x2 0 2).bind fun v19 => if v19 = 0 then some (-1) else gi ((2 + (3 * x1)) + x2) 74 (some (f_this_s ((2 + (3 * x1)) + x2 : Int32).toNatClampNeg)))
set_option maxHeartbeats 4000000 in
set_option maxRecDepth 100000 in
theorem c_X12_beat (l : Launch) (G : jG) (N : Nat) (q_this : Nat) (q_this_s : Nat) (v_this_text : Value) (v_this_length : Value) (v_this_book : Value) (v_this_draft : Value) (v_this_kept : Value) (v_this_keptMany : Value) (v_this_acts : Value) (v_this_actMany : Value) (v_this_row : Value) (v_this_rowMany : Value) (v_this_tells : Value) (v_this_tellMany : Value) (v_this_at : Value) (v_this_told : Value) (v_this_place : Value) (v_this_sort : Value) (v_this_minute : Value) (v_this_when : Value) (v_this_isHeard : Value) (v_this_goneBy : Value) (v_this_stand : Value) (v_this_many : Value) (v_this_standing : Value) (f_this_s : (Nat → Int32)) (x1 : Int32) (x2 : Int32) (u : Int32) (hu : g_X12_beat N f_this_s x1 x2 = some u) : MetRO l G yX12_beat wsX12_beat ({ frames := 1, cells := 0, slots := 0, locals := 22 } : Room) [.ref q_this, .int x1, .int x2] (w_X12_beat G q_this q_this_s v_this_text v_this_length v_this_book v_this_draft v_this_kept v_this_keptMany v_this_acts v_this_actMany v_this_row v_this_rowMany v_this_tells v_this_tellMany v_this_at v_this_told v_this_place v_this_sort v_this_minute v_this_when v_this_isHeard v_this_goneBy v_this_stand v_this_many v_this_standing f_this_s) u := by
  refine met_roi (cc := cX12_beat) (maxL := 3) (lv0 := [(0, .ref q_this), (1, .int x1), (2, .int x2)]) (by decide) rfl rfl rfl rfl (fun X hX hret => ?_)
  have hinX12 : ∀ w ∈ u_ws RX12 TX12 24, w ∈ wsX12_beat := by decide +kernel
  have hf_X12_s_19 : Cond.fieldLink RX12 19 (TX12 4).1 (TX12 4).2.1 (TX12 4).2.2.1 ∈ wsX12_beat := by decide +kernel
  have hg := hu
  unfold g_X12_beat at hg
  refine j_iload_n hX 1 dX12_beat_0 rfl rfl ?_
  refine j_iconst hX dX12_beat_1 kc_0 ?_
  refine j_aload_n hX 0 dX12_beat_2 rfl rfl ?_
  refine j_get hX 0 4 rfl rfl hinX12 rfl hf_X12_s_19 rfl dX12_beat_3 ?_
  refine j_iconst hX dX12_beat_6 kc_0 ?_
  refine j_iald hX 1 rfl hg dX12_beat_7 (fun hg => ?_)
  refine j_iconst hX dX12_beat_8 kc_1 ?_
  refine j_isub hX dX12_beat_9 ?_
  refine j_sRO hX (r := fun v => v) [.int x1, .int 0, .int ((f_this_s (0 : Int32).toNatClampNeg) - 1)] hg (fun v hv => c_X12_in l G N x1 0 ((f_this_s (0 : Int32).toNatClampNeg) - 1) v hv) gX12_beat_X12_in rfl ⟨rfl, rfl⟩ ⟨by decide, by decide, rfl⟩ rfl rfl [] rfl dX12_beat_10 rfl rfl ⟨Nat.zero_le _, Nat.zero_le _⟩ (fun v10 hg => ?_)
  refine j_if_eq hX 40 hg dX12_beat_13 (by decide) (fun hg => ?_) (fun hg => ?_)
  · refine j_iconst hX dX12_beat_40 kc_m1 ?_
    cases hg
    exact hret _ _ dX12_beat_41
  · refine j_iload_n hX 2 dX12_beat_16 rfl rfl ?_
    refine j_iconst hX dX12_beat_17 kc_0 ?_
    refine j_iconst hX dX12_beat_18 kc_2 ?_
    refine j_sRO hX (r := fun v => v) [.int x2, .int 0, .int 2] hg (fun v hv => c_X12_in l G N x2 0 2 v hv) gX12_beat_X12_in rfl ⟨rfl, rfl⟩ ⟨by decide, by decide, rfl⟩ rfl rfl [] rfl dX12_beat_19 rfl rfl ⟨Nat.zero_le _, Nat.zero_le _⟩ (fun v19 hg => ?_)
    refine j_if_eq hX 40 hg dX12_beat_22 (by decide) (fun hg => ?_) (fun hg => ?_)
    · refine j_iconst hX dX12_beat_40 kc_m1 ?_
      cases hg
      exact hret _ _ dX12_beat_41
    · refine j_aload_n hX 0 dX12_beat_25 rfl rfl ?_
      refine j_get hX 0 4 rfl rfl hinX12 rfl hf_X12_s_19 rfl dX12_beat_26 ?_
      refine j_iconst hX dX12_beat_29 kc_2 ?_
      refine j_iconst hX dX12_beat_30 kc_3 ?_
      refine j_iload_n hX 1 dX12_beat_31 rfl rfl ?_
      refine j_imul hX dX12_beat_32 ?_
      refine j_iadd hX dX12_beat_33 ?_
      refine j_iload_n hX 2 dX12_beat_34 rfl rfl ?_
      refine j_iadd hX dX12_beat_35 ?_
      refine j_iald hX 1 rfl hg dX12_beat_36 (fun hg => ?_)
      refine j_goto hX 41 dX12_beat_37 (by decide) ?_
      cases hg
      exact hret _ _ dX12_beat_41
abbrev w_X12_tries (G : jG) (q_this : Nat) (q_this_place : Nat) (q_this_sort : Nat) (q_this_minute : Nat) (v_this_text : Value) (v_this_length : Value) (v_this_book : Value) (v_this_draft : Value) (v_this_s : Value) (v_this_kept : Value) (v_this_keptMany : Value) (v_this_acts : Value) (v_this_actMany : Value) (v_this_row : Value) (v_this_rowMany : Value) (v_this_tells : Value) (v_this_tellMany : Value) (v_this_at : Value) (v_this_told : Value) (v_this_when : Value) (v_this_isHeard : Value) (v_this_goneBy : Value) (v_this_stand : Value) (v_this_standing : Value) (f_this_place : (Nat → Int32)) (f_this_sort : (Nat → Int32)) (f_this_minute : (Nat → Int32)) (f_this_many : Int32) : va_W := [oC q_this 12 [v_this_text, v_this_length, v_this_book, v_this_draft, v_this_s, v_this_kept, v_this_keptMany, v_this_acts, v_this_actMany, v_this_row, v_this_rowMany, v_this_tells, v_this_tellMany, v_this_at, v_this_told, .ref q_this_place, .ref q_this_sort, .ref q_this_minute, v_this_when, v_this_isHeard, v_this_goneBy, v_this_stand, .int f_this_many, v_this_standing], aI G q_this_place 128 f_this_place, aI G q_this_sort 128 f_this_sort, aI G q_this_minute 128 f_this_minute]
def g_X12_tries (N : Nat) (f_this_place : (Nat → Int32)) (f_this_sort : (Nat → Int32)) (f_this_minute : (Nat → Int32)) (f_this_many : Int32) (x1 : Int32) (x2 : Int32) (x3 : Int32) : Option ((Nat → Int32) × (Nat → Int32) × (Nat → Int32) × Int32) := gi f_this_many 128 (gi f_this_many 128 (gi f_this_many 128 (some (upd f_this_place f_this_many.toNatClampNeg x1, upd f_this_sort f_this_many.toNatClampNeg x2, upd f_this_minute f_this_many.toNatClampNeg x3, f_this_many + 1))))
set_option maxHeartbeats 4000000 in
set_option maxRecDepth 100000 in
theorem c_X12_tries (l : Launch) (G : jG) (N : Nat) (q_this : Nat) (q_this_place : Nat) (q_this_sort : Nat) (q_this_minute : Nat) (v_this_text : Value) (v_this_length : Value) (v_this_book : Value) (v_this_draft : Value) (v_this_s : Value) (v_this_kept : Value) (v_this_keptMany : Value) (v_this_acts : Value) (v_this_actMany : Value) (v_this_row : Value) (v_this_rowMany : Value) (v_this_tells : Value) (v_this_tellMany : Value) (v_this_at : Value) (v_this_told : Value) (v_this_when : Value) (v_this_isHeard : Value) (v_this_goneBy : Value) (v_this_stand : Value) (v_this_standing : Value) (f_this_place : (Nat → Int32)) (f_this_sort : (Nat → Int32)) (f_this_minute : (Nat → Int32)) (f_this_many : Int32) (x1 : Int32) (x2 : Int32) (x3 : Int32) (u : (Nat → Int32) × (Nat → Int32) × (Nat → Int32) × Int32) (hu : g_X12_tries N f_this_place f_this_sort f_this_minute f_this_many x1 x2 x3 = some u) : MetRV l G yX12_tries wsX12_tries ({ frames := 0, cells := 0, slots := 0, locals := 0 } : Room) [.ref q_this, .int x1, .int x2, .int x3] (w_X12_tries G q_this q_this_place q_this_sort q_this_minute v_this_text v_this_length v_this_book v_this_draft v_this_s v_this_kept v_this_keptMany v_this_acts v_this_actMany v_this_row v_this_rowMany v_this_tells v_this_tellMany v_this_at v_this_told v_this_when v_this_isHeard v_this_goneBy v_this_stand v_this_standing f_this_place f_this_sort f_this_minute f_this_many) (w_X12_tries G q_this q_this_place q_this_sort q_this_minute v_this_text v_this_length v_this_book v_this_draft v_this_s v_this_kept v_this_keptMany v_this_acts v_this_actMany v_this_row v_this_rowMany v_this_tells v_this_tellMany v_this_at v_this_told v_this_when v_this_isHeard v_this_goneBy v_this_stand v_this_standing u.1 u.2.1 u.2.2.1 u.2.2.2) := by
  refine met_rwv (cc := cX12_tries) (maxL := 4) (lv0 := [(0, .ref q_this), (1, .int x1), (2, .int x2), (3, .int x3)]) (by decide) rfl rfl rfl rfl (fun X hX hW hret => ?_)
  have hinX12 : ∀ w ∈ u_ws RX12 TX12 24, w ∈ wsX12_tries := by decide +kernel
  have hf_X12_many_127 : Cond.fieldLink RX12 127 (TX12 22).1 (TX12 22).2.1 (TX12 22).2.2.1 ∈ wsX12_tries := by decide +kernel
  have hf_X12_minute_43 : Cond.fieldLink RX12 43 (TX12 17).1 (TX12 17).2.1 (TX12 17).2.2.1 ∈ wsX12_tries := by decide +kernel
  have hf_X12_place_37 : Cond.fieldLink RX12 37 (TX12 15).1 (TX12 15).2.1 (TX12 15).2.2.1 ∈ wsX12_tries := by decide +kernel
  have hf_X12_sort_40 : Cond.fieldLink RX12 40 (TX12 16).1 (TX12 16).2.1 (TX12 16).2.2.1 ∈ wsX12_tries := by decide +kernel
  have hg := hu
  unfold g_X12_tries at hg
  refine j_aload_n hX 0 dX12_tries_0 rfl rfl ?_
  refine j_get hX 0 15 rfl rfl hinX12 rfl hf_X12_place_37 rfl dX12_tries_1 ?_
  refine j_aload_n hX 0 dX12_tries_4 rfl rfl ?_
  refine j_get hX 0 22 rfl rfl hinX12 rfl hf_X12_many_127 rfl dX12_tries_5 ?_
  refine j_iload_n hX 1 dX12_tries_8 rfl rfl ?_
  refine j_iast hX hW 1 rfl hg dX12_tries_9 (ws' := (w_X12_tries G q_this q_this_place q_this_sort q_this_minute v_this_text v_this_length v_this_book v_this_draft v_this_s v_this_kept v_this_keptMany v_this_acts v_this_actMany v_this_row v_this_rowMany v_this_tells v_this_tellMany v_this_at v_this_told v_this_when v_this_isHeard v_this_goneBy v_this_stand v_this_standing (upd f_this_place f_this_many.toNatClampNeg x1) f_this_sort f_this_minute f_this_many)) rfl (fun hg => ?_)
  refine j_aload_n hX 0 dX12_tries_10 rfl rfl ?_
  refine j_get hX 0 16 rfl rfl hinX12 rfl hf_X12_sort_40 rfl dX12_tries_11 ?_
  refine j_aload_n hX 0 dX12_tries_14 rfl rfl ?_
  refine j_get hX 0 22 rfl rfl hinX12 rfl hf_X12_many_127 rfl dX12_tries_15 ?_
  refine j_iload_n hX 2 dX12_tries_18 rfl rfl ?_
  refine j_iast hX hW 2 rfl hg dX12_tries_19 (ws' := (w_X12_tries G q_this q_this_place q_this_sort q_this_minute v_this_text v_this_length v_this_book v_this_draft v_this_s v_this_kept v_this_keptMany v_this_acts v_this_actMany v_this_row v_this_rowMany v_this_tells v_this_tellMany v_this_at v_this_told v_this_when v_this_isHeard v_this_goneBy v_this_stand v_this_standing (upd f_this_place f_this_many.toNatClampNeg x1) (upd f_this_sort f_this_many.toNatClampNeg x2) f_this_minute f_this_many)) rfl (fun hg => ?_)
  refine j_aload_n hX 0 dX12_tries_20 rfl rfl ?_
  refine j_get hX 0 17 rfl rfl hinX12 rfl hf_X12_minute_43 rfl dX12_tries_21 ?_
  refine j_aload_n hX 0 dX12_tries_24 rfl rfl ?_
  refine j_get hX 0 22 rfl rfl hinX12 rfl hf_X12_many_127 rfl dX12_tries_25 ?_
  refine j_iload_n hX 3 dX12_tries_28 rfl rfl ?_
  refine j_iast hX hW 3 rfl hg dX12_tries_29 (ws' := (w_X12_tries G q_this q_this_place q_this_sort q_this_minute v_this_text v_this_length v_this_book v_this_draft v_this_s v_this_kept v_this_keptMany v_this_acts v_this_actMany v_this_row v_this_rowMany v_this_tells v_this_tellMany v_this_at v_this_told v_this_when v_this_isHeard v_this_goneBy v_this_stand v_this_standing (upd f_this_place f_this_many.toNatClampNeg x1) (upd f_this_sort f_this_many.toNatClampNeg x2) (upd f_this_minute f_this_many.toNatClampNeg x3) f_this_many)) rfl (fun hg => ?_)
  refine j_aload_n hX 0 dX12_tries_30 rfl rfl ?_
  refine j_dup hX dX12_tries_31 rfl ?_
  refine j_get hX 0 22 rfl rfl hinX12 rfl hf_X12_many_127 rfl dX12_tries_32 ?_
  refine j_iconst hX dX12_tries_35 kc_1 ?_
  refine j_iadd hX dX12_tries_36 ?_
  refine j_put hX hW 0 22 rfl rfl hinX12 tyX12 tyX12_ok nmX12 rfl hf_X12_many_127 rfl rfl rfl rfl dX12_tries_37 (ws' := (w_X12_tries G q_this q_this_place q_this_sort q_this_minute v_this_text v_this_length v_this_book v_this_draft v_this_s v_this_kept v_this_keptMany v_this_acts v_this_actMany v_this_row v_this_rowMany v_this_tells v_this_tellMany v_this_at v_this_told v_this_when v_this_isHeard v_this_goneBy v_this_stand v_this_standing (upd f_this_place f_this_many.toNatClampNeg x1) (upd f_this_sort f_this_many.toNatClampNeg x2) (upd f_this_minute f_this_many.toNatClampNeg x3) (f_this_many + 1))) rfl ?_
  cases hg
  exact hret _ _ dX12_tries_40
abbrev w_X12_starts (G : jG) (q_this : Nat) (q_this_s : Nat) (q_this_place : Nat) (q_this_sort : Nat) (q_this_minute : Nat) (v_this_text : Value) (v_this_length : Value) (v_this_book : Value) (v_this_draft : Value) (v_this_kept : Value) (v_this_keptMany : Value) (v_this_acts : Value) (v_this_actMany : Value) (v_this_row : Value) (v_this_rowMany : Value) (v_this_tells : Value) (v_this_tellMany : Value) (v_this_at : Value) (v_this_told : Value) (v_this_when : Value) (v_this_isHeard : Value) (v_this_goneBy : Value) (v_this_stand : Value) (v_this_standing : Value) (f_this_s : (Nat → Int32)) (f_this_place : (Nat → Int32)) (f_this_sort : (Nat → Int32)) (f_this_minute : (Nat → Int32)) (f_this_many : Int32) : va_W := [oC q_this 12 [v_this_text, v_this_length, v_this_book, v_this_draft, .ref q_this_s, v_this_kept, v_this_keptMany, v_this_acts, v_this_actMany, v_this_row, v_this_rowMany, v_this_tells, v_this_tellMany, v_this_at, v_this_told, .ref q_this_place, .ref q_this_sort, .ref q_this_minute, v_this_when, v_this_isHeard, v_this_goneBy, v_this_stand, .int f_this_many, v_this_standing], aI G q_this_s 74 f_this_s, aI G q_this_place 128 f_this_place, aI G q_this_sort 128 f_this_sort, aI G q_this_minute 128 f_this_minute]
def g_X12_starts_L7 (N : Nat) (f_this_s : (Nat → Int32)) : Nat → (Nat → Int32) → (Nat → Int32) → (Nat → Int32) → Int32 → Int32 → Option ((Nat → Int32) × (Nat → Int32) × (Nat → Int32) × Int32)
  | 0, _, _, _, _, _ => none
  | fu + 1, f_this_place, f_this_sort, f_this_minute, f_this_many, x1 => gi 0 74 (if (f_this_s (0 : Int32).toNatClampNeg) ≤ x1 then some (f_this_place, f_this_sort, f_this_minute, f_this_many) else gi (2 + (3 * x1)) 74 (gi (3 + (3 * x1)) 74 (gi (4 + (3 * x1)) 74 ((g_X12_tries N f_this_place f_this_sort f_this_minute f_this_many (f_this_s (2 + (3 * x1) : Int32).toNatClampNeg) (f_this_s (3 + (3 * x1) : Int32).toNatClampNeg) (f_this_s (4 + (3 * x1) : Int32).toNatClampNeg)).bind fun v48 => g_X12_starts_L7 N f_this_s fu v48.1 v48.2.1 v48.2.2.1 v48.2.2.2 (x1 + 1)))))
def g_X12_starts (N : Nat) (f_this_s : (Nat → Int32)) (f_this_place : (Nat → Int32)) (f_this_sort : (Nat → Int32)) (f_this_minute : (Nat → Int32)) (f_this_many : Int32) : Option ((Nat → Int32) × (Nat → Int32) × (Nat → Int32) × Int32) := g_X12_starts_L7 N f_this_s N f_this_place f_this_sort f_this_minute 0 0
set_option maxHeartbeats 4000000 in
set_option maxRecDepth 100000 in
theorem c_X12_starts (l : Launch) (G : jG) (N : Nat) (q_this : Nat) (q_this_s : Nat) (q_this_place : Nat) (q_this_sort : Nat) (q_this_minute : Nat) (v_this_text : Value) (v_this_length : Value) (v_this_book : Value) (v_this_draft : Value) (v_this_kept : Value) (v_this_keptMany : Value) (v_this_acts : Value) (v_this_actMany : Value) (v_this_row : Value) (v_this_rowMany : Value) (v_this_tells : Value) (v_this_tellMany : Value) (v_this_at : Value) (v_this_told : Value) (v_this_when : Value) (v_this_isHeard : Value) (v_this_goneBy : Value) (v_this_stand : Value) (v_this_standing : Value) (f_this_s : (Nat → Int32)) (f_this_place : (Nat → Int32)) (f_this_sort : (Nat → Int32)) (f_this_minute : (Nat → Int32)) (f_this_many : Int32) (u : (Nat → Int32) × (Nat → Int32) × (Nat → Int32) × Int32) (hu : g_X12_starts N f_this_s f_this_place f_this_sort f_this_minute f_this_many = some u) : MetRV l G yX12_starts wsX12_starts ({ frames := 1, cells := 0, slots := 0, locals := 23 } : Room) [.ref q_this] (w_X12_starts G q_this q_this_s q_this_place q_this_sort q_this_minute v_this_text v_this_length v_this_book v_this_draft v_this_kept v_this_keptMany v_this_acts v_this_actMany v_this_row v_this_rowMany v_this_tells v_this_tellMany v_this_at v_this_told v_this_when v_this_isHeard v_this_goneBy v_this_stand v_this_standing f_this_s f_this_place f_this_sort f_this_minute f_this_many) (w_X12_starts G q_this q_this_s q_this_place q_this_sort q_this_minute v_this_text v_this_length v_this_book v_this_draft v_this_kept v_this_keptMany v_this_acts v_this_actMany v_this_row v_this_rowMany v_this_tells v_this_tellMany v_this_at v_this_told v_this_when v_this_isHeard v_this_goneBy v_this_stand v_this_standing f_this_s u.1 u.2.1 u.2.2.1 u.2.2.2) := by
  refine met_rwv (cc := cX12_starts) (maxL := 2) (lv0 := [(0, .ref q_this)]) (by decide) rfl rfl rfl rfl (fun X hX hW hret => ?_)
  have hinX12 : ∀ w ∈ u_ws RX12 TX12 24, w ∈ wsX12_starts := by decide +kernel
  have hf_X12_many_127 : Cond.fieldLink RX12 127 (TX12 22).1 (TX12 22).2.1 (TX12 22).2.2.1 ∈ wsX12_starts := by decide +kernel
  have hf_X12_s_19 : Cond.fieldLink RX12 19 (TX12 4).1 (TX12 4).2.1 (TX12 4).2.2.1 ∈ wsX12_starts := by decide +kernel
  have L7 : ∀ (fu7 : Nat), ∀ (f_this_place : (Nat → Int32)) (f_this_sort : (Nat → Int32)) (f_this_minute : (Nat → Int32)) (f_this_many : Int32) (x1 : Int32), g_X12_starts_L7 N f_this_s fu7 f_this_place f_this_sort f_this_minute f_this_many x1 = some u → J X 0 0 (w_X12_starts G q_this q_this_s q_this_place q_this_sort q_this_minute v_this_text v_this_length v_this_book v_this_draft v_this_kept v_this_keptMany v_this_acts v_this_actMany v_this_row v_this_rowMany v_this_tells v_this_tellMany v_this_at v_this_told v_this_when v_this_isHeard v_this_goneBy v_this_stand v_this_standing f_this_s f_this_place f_this_sort f_this_minute f_this_many) 7 [(0, .ref q_this), (1, .int x1)] [] := by
    intro fu7
    induction fu7 with
    | zero => intro f_this_place f_this_sort f_this_minute f_this_many x1 hg; exact nomatch hg
    | succ fu7 ih7 =>
      intro f_this_place f_this_sort f_this_minute f_this_many x1 hg
      unfold g_X12_starts_L7 at hg
      refine j_iload_n hX 1 dX12_starts_7 rfl rfl ?_
      refine j_aload_n hX 0 dX12_starts_8 rfl rfl ?_
      refine j_get hX 0 4 rfl rfl hinX12 rfl hf_X12_s_19 rfl dX12_starts_9 ?_
      refine j_iconst hX dX12_starts_12 kc_0 ?_
      refine j_iald hX 1 rfl hg dX12_starts_13 (fun hg => ?_)
      refine j_icmp_ge hX 57 hg dX12_starts_14 (by decide) (fun hg => ?_) (fun hg => ?_)
      · cases hg
        exact hret _ _ dX12_starts_57
      · refine j_aload_n hX 0 dX12_starts_17 rfl rfl ?_
        refine j_aload_n hX 0 dX12_starts_18 rfl rfl ?_
        refine j_get hX 0 4 rfl rfl hinX12 rfl hf_X12_s_19 rfl dX12_starts_19 ?_
        refine j_iconst hX dX12_starts_22 kc_2 ?_
        refine j_iconst hX dX12_starts_23 kc_3 ?_
        refine j_iload_n hX 1 dX12_starts_24 rfl rfl ?_
        refine j_imul hX dX12_starts_25 ?_
        refine j_iadd hX dX12_starts_26 ?_
        refine j_iald hX 1 rfl hg dX12_starts_27 (fun hg => ?_)
        refine j_aload_n hX 0 dX12_starts_28 rfl rfl ?_
        refine j_get hX 0 4 rfl rfl hinX12 rfl hf_X12_s_19 rfl dX12_starts_29 ?_
        refine j_iconst hX dX12_starts_32 kc_3 ?_
        refine j_iconst hX dX12_starts_33 kc_3 ?_
        refine j_iload_n hX 1 dX12_starts_34 rfl rfl ?_
        refine j_imul hX dX12_starts_35 ?_
        refine j_iadd hX dX12_starts_36 ?_
        refine j_iald hX 1 rfl hg dX12_starts_37 (fun hg => ?_)
        refine j_aload_n hX 0 dX12_starts_38 rfl rfl ?_
        refine j_get hX 0 4 rfl rfl hinX12 rfl hf_X12_s_19 rfl dX12_starts_39 ?_
        refine j_iconst hX dX12_starts_42 kc_4 ?_
        refine j_iconst hX dX12_starts_43 kc_3 ?_
        refine j_iload_n hX 1 dX12_starts_44 rfl rfl ?_
        refine j_imul hX dX12_starts_45 ?_
        refine j_iadd hX dX12_starts_46 ?_
        refine j_iald hX 1 rfl hg dX12_starts_47 (fun hg => ?_)
        refine j_vRV hX hW (w1 := fun v => (w_X12_tries G q_this q_this_place q_this_sort q_this_minute v_this_text v_this_length v_this_book v_this_draft (.ref q_this_s) v_this_kept v_this_keptMany v_this_acts v_this_actMany v_this_row v_this_rowMany v_this_tells v_this_tellMany v_this_at v_this_told v_this_when v_this_isHeard v_this_goneBy v_this_stand v_this_standing v.1 v.2.1 v.2.2.1 v.2.2.2)) (ws' := fun v => (w_X12_starts G q_this q_this_s q_this_place q_this_sort q_this_minute v_this_text v_this_length v_this_book v_this_draft v_this_kept v_this_keptMany v_this_acts v_this_actMany v_this_row v_this_rowMany v_this_tells v_this_tellMany v_this_at v_this_told v_this_when v_this_isHeard v_this_goneBy v_this_stand v_this_standing f_this_s v.1 v.2.1 v.2.2.1 v.2.2.2)) [.int (f_this_s (2 + (3 * x1) : Int32).toNatClampNeg), .int (f_this_s (3 + (3 * x1) : Int32).toNatClampNeg), .int (f_this_s (4 + (3 * x1) : Int32).toNatClampNeg)] hg (fun v hv => c_X12_tries l G N q_this q_this_place q_this_sort q_this_minute v_this_text v_this_length v_this_book v_this_draft (.ref q_this_s) v_this_kept v_this_keptMany v_this_acts v_this_actMany v_this_row v_this_rowMany v_this_tells v_this_tellMany v_this_at v_this_told v_this_when v_this_isHeard v_this_goneBy v_this_stand v_this_standing f_this_place f_this_sort f_this_minute f_this_many (f_this_s (2 + (3 * x1) : Int32).toNatClampNeg) (f_this_s (3 + (3 * x1) : Int32).toNatClampNeg) (f_this_s (4 + (3 * x1) : Int32).toNatClampNeg) v hv) gX12_starts_X12_tries rfl ⟨rfl, rfl⟩ ⟨rfl, by decide, by decide, rfl⟩ rfl rfl [0, 2, 3, 4] rfl (by decide +kernel) rfl rfl dX12_starts_48 rfl rfl ⟨Nat.zero_le _, Nat.zero_le _⟩ (fun _ => jn_set [0, 2, 3, 4] rfl rfl rfl) (fun v48 hg => ?_)
        refine j_iinc hX 1 (v := x1 + 1) (lv' := [(1, .int (x1 + 1)), (0, .ref q_this)]) dX12_starts_51 rfl (by rw [kc_1]) rfl rfl ?_
        refine j_goto hX 7 dX12_starts_54 (by decide) ?_
        refine j_lv [1, 0] rfl ?_
        exact ih7 _ _ _ _ _ hg
  have hg := hu
  unfold g_X12_starts at hg
  refine j_aload_n hX 0 dX12_starts_0 rfl rfl ?_
  refine j_iconst hX dX12_starts_1 kc_0 ?_
  refine j_put hX hW 0 22 rfl rfl hinX12 tyX12 tyX12_ok nmX12 rfl hf_X12_many_127 rfl rfl rfl rfl dX12_starts_2 (ws' := (w_X12_starts G q_this q_this_s q_this_place q_this_sort q_this_minute v_this_text v_this_length v_this_book v_this_draft v_this_kept v_this_keptMany v_this_acts v_this_actMany v_this_row v_this_rowMany v_this_tells v_this_tellMany v_this_at v_this_told v_this_when v_this_isHeard v_this_goneBy v_this_stand v_this_standing f_this_s f_this_place f_this_sort f_this_minute 0)) rfl ?_
  refine j_iconst hX dX12_starts_5 kc_0 ?_
  refine j_istore_n hX (lv' := [(1, .int 0), (0, .ref q_this)]) dX12_starts_6 rfl rfl rfl ?_
  refine j_lv [1, 0] rfl ?_
  exact L7 N _ _ _ _ _ hg
abbrev w_X12_next (G : jG) (q_this : Nat) (q_this_minute : Nat) (q_this_when : Nat) (q_this_isHeard : Nat) (v_this_text : Value) (v_this_length : Value) (v_this_book : Value) (v_this_draft : Value) (v_this_s : Value) (v_this_kept : Value) (v_this_keptMany : Value) (v_this_acts : Value) (v_this_actMany : Value) (v_this_row : Value) (v_this_rowMany : Value) (v_this_tells : Value) (v_this_tellMany : Value) (v_this_at : Value) (v_this_told : Value) (v_this_place : Value) (v_this_sort : Value) (v_this_goneBy : Value) (v_this_stand : Value) (v_this_standing : Value) (f_this_minute : (Nat → Int32)) (f_this_when : (Nat → Int32)) (f_this_isHeard : (Nat → Int32)) (f_this_many : Int32) : va_W := [oC q_this 12 [v_this_text, v_this_length, v_this_book, v_this_draft, v_this_s, v_this_kept, v_this_keptMany, v_this_acts, v_this_actMany, v_this_row, v_this_rowMany, v_this_tells, v_this_tellMany, v_this_at, v_this_told, v_this_place, v_this_sort, .ref q_this_minute, .ref q_this_when, .ref q_this_isHeard, v_this_goneBy, v_this_stand, .int f_this_many, v_this_standing], aI G q_this_minute 128 f_this_minute, aI G q_this_when 128 f_this_when, aZ G q_this_isHeard 128 f_this_isHeard]
def g_X12_next_b115 (N : Nat) (f_this_minute : (Nat → Int32)) (f_this_when : (Nat → Int32)) (f_this_isHeard : (Nat → Int32)) (f_this_many : Int32) (rec_5 : Int32 → Int32 → Int32 → Option (Int32)) (x1 : Int32) (x2 : Int32) (x3 : Int32) : Option (Int32) := rec_5 x1 x2 (x3 + 1)
def g_X12_next_b114 (N : Nat) (f_this_minute : (Nat → Int32)) (f_this_when : (Nat → Int32)) (f_this_isHeard : (Nat → Int32)) (f_this_many : Int32) (rec_5 : Int32 → Int32 → Int32 → Option (Int32)) (x1 : Int32) (x3 : Int32) (s0 : Int32) : Option (Int32) := g_X12_next_b115 N f_this_minute f_this_when f_this_isHeard f_this_many rec_5 x1 s0 x3
def g_X12_next_b109 (N : Nat) (f_this_minute : (Nat → Int32)) (f_this_when : (Nat → Int32)) (f_this_isHeard : (Nat → Int32)) (f_this_many : Int32) (rec_5 : Int32 → Int32 → Int32 → Option (Int32)) (x1 : Int32) (x3 : Int32) : Option (Int32) := g_X12_next_b114 N f_this_minute f_this_when f_this_isHeard f_this_many rec_5 x1 x3 x3
def g_X12_next_b96 (N : Nat) (f_this_minute : (Nat → Int32)) (f_this_when : (Nat → Int32)) (f_this_isHeard : (Nat → Int32)) (f_this_many : Int32) (rec_5 : Int32 → Int32 → Int32 → Option (Int32)) (x1 : Int32) (x2 : Int32) (x3 : Int32) (s0 : Int32) : Option (Int32) := if x2 = (-4) then g_X12_next_b109 N f_this_minute f_this_when f_this_isHeard f_this_many rec_5 x1 x3 else if s0 = 0 then g_X12_next_b114 N f_this_minute f_this_when f_this_isHeard f_this_many rec_5 x1 x3 x2 else g_X12_next_b109 N f_this_minute f_this_when f_this_isHeard f_this_many rec_5 x1 x3
def g_X12_next_b91 (N : Nat) (f_this_minute : (Nat → Int32)) (f_this_when : (Nat → Int32)) (f_this_isHeard : (Nat → Int32)) (f_this_many : Int32) (rec_5 : Int32 → Int32 → Int32 → Option (Int32)) (x1 : Int32) (x2 : Int32) (x3 : Int32) : Option (Int32) := g_X12_next_b96 N f_this_minute f_this_when f_this_isHeard f_this_many rec_5 x1 x2 x3 1
def g_X12_next_b95 (N : Nat) (f_this_minute : (Nat → Int32)) (f_this_when : (Nat → Int32)) (f_this_isHeard : (Nat → Int32)) (f_this_many : Int32) (rec_5 : Int32 → Int32 → Int32 → Option (Int32)) (x1 : Int32) (x2 : Int32) (x3 : Int32) : Option (Int32) := g_X12_next_b96 N f_this_minute f_this_when f_this_isHeard f_this_many rec_5 x1 x2 x3 0
def g_X12_next_b41 (N : Nat) (f_this_minute : (Nat → Int32)) (f_this_when : (Nat → Int32)) (f_this_isHeard : (Nat → Int32)) (f_this_many : Int32) (rec_5 : Int32 → Int32 → Int32 → Option (Int32)) (x1 : Int32) (x2 : Int32) (x3 : Int32) (s0 : Int32) : Option (Int32) := gi x3 128 (gi s0 128 (if (f_this_when x3.toNatClampNeg) < (f_this_when s0.toNatClampNeg) then g_X12_next_b91 N f_this_minute f_this_when f_this_isHeard f_this_many rec_5 x1 x2 x3 else gi x3 128 (gi s0 128 (if (f_this_when x3.toNatClampNeg) = (f_this_when s0.toNatClampNeg) then gi x3 128 (gi s0 128 (if (f_this_minute s0.toNatClampNeg) ≤ (f_this_minute x3.toNatClampNeg) then g_X12_next_b95 N f_this_minute f_this_when f_this_isHeard f_this_many rec_5 x1 x2 x3 else g_X12_next_b91 N f_this_minute f_this_when f_this_isHeard f_this_many rec_5 x1 x2 x3)) else g_X12_next_b95 N f_this_minute f_this_when f_this_isHeard f_this_many rec_5 x1 x2 x3))))
def g_X12_next_L5 (N : Nat) (f_this_minute : (Nat → Int32)) (f_this_when : (Nat → Int32)) (f_this_isHeard : (Nat → Int32)) (f_this_many : Int32) : Nat → Int32 → Int32 → Int32 → Option (Int32)
  | 0, _, _, _ => none
  | fu + 1, x1, x2, x3 => if f_this_many ≤ x3 then some x2 else gi x3 128 (if (f_this_isHeard x3.toNatClampNeg) = 0 then gi x3 128 (if x1 < (f_this_when x3.toNatClampNeg) then g_X12_next_b115 N f_this_minute f_this_when f_this_isHeard f_this_many (g_X12_next_L5 N f_this_minute f_this_when f_this_isHeard f_this_many fu) x1 x2 x3 else if (0 : Int32) ≤ x2 then g_X12_next_b41 N f_this_minute f_this_when f_this_isHeard f_this_many (g_X12_next_L5 N f_this_minute f_this_when f_this_isHeard f_this_many fu) x1 x2 x3 x2 else g_X12_next_b41 N f_this_minute f_this_when f_this_isHeard f_this_many (g_X12_next_L5 N f_this_minute f_this_when f_this_isHeard f_this_many fu) x1 x2 x3 0) else g_X12_next_b115 N f_this_minute f_this_when f_this_isHeard f_this_many (g_X12_next_L5 N f_this_minute f_this_when f_this_isHeard f_this_many fu) x1 x2 x3)
def g_X12_next (N : Nat) (f_this_minute : (Nat → Int32)) (f_this_when : (Nat → Int32)) (f_this_isHeard : (Nat → Int32)) (f_this_many : Int32) (x1 : Int32) : Option (Int32) := g_X12_next_L5 N f_this_minute f_this_when f_this_isHeard f_this_many N x1 (-4) 0
set_option maxHeartbeats 4000000 in
set_option maxRecDepth 100000 in
theorem c_X12_next (l : Launch) (G : jG) (N : Nat) (q_this : Nat) (q_this_minute : Nat) (q_this_when : Nat) (q_this_isHeard : Nat) (v_this_text : Value) (v_this_length : Value) (v_this_book : Value) (v_this_draft : Value) (v_this_s : Value) (v_this_kept : Value) (v_this_keptMany : Value) (v_this_acts : Value) (v_this_actMany : Value) (v_this_row : Value) (v_this_rowMany : Value) (v_this_tells : Value) (v_this_tellMany : Value) (v_this_at : Value) (v_this_told : Value) (v_this_place : Value) (v_this_sort : Value) (v_this_goneBy : Value) (v_this_stand : Value) (v_this_standing : Value) (f_this_minute : (Nat → Int32)) (f_this_when : (Nat → Int32)) (f_this_isHeard : (Nat → Int32)) (f_this_many : Int32) (x1 : Int32) (u : Int32) (hu : g_X12_next N f_this_minute f_this_when f_this_isHeard f_this_many x1 = some u) : MetRO l G yX12_next wsX12_next ({ frames := 0, cells := 0, slots := 0, locals := 0 } : Room) [.ref q_this, .int x1] (w_X12_next G q_this q_this_minute q_this_when q_this_isHeard v_this_text v_this_length v_this_book v_this_draft v_this_s v_this_kept v_this_keptMany v_this_acts v_this_actMany v_this_row v_this_rowMany v_this_tells v_this_tellMany v_this_at v_this_told v_this_place v_this_sort v_this_goneBy v_this_stand v_this_standing f_this_minute f_this_when f_this_isHeard f_this_many) u := by
  refine met_roi (cc := cX12_next) (maxL := 6) (lv0 := [(0, .ref q_this), (1, .int x1)]) (by decide) rfl rfl rfl rfl (fun X hX hret => ?_)
  have hinX12 : ∀ w ∈ u_ws RX12 TX12 24, w ∈ wsX12_next := by decide +kernel
  have hf_X12_isHeard_49 : Cond.fieldLink RX12 49 (TX12 19).1 (TX12 19).2.1 (TX12 19).2.2.1 ∈ wsX12_next := by decide +kernel
  have hf_X12_many_127 : Cond.fieldLink RX12 127 (TX12 22).1 (TX12 22).2.1 (TX12 22).2.2.1 ∈ wsX12_next := by decide +kernel
  have hf_X12_minute_43 : Cond.fieldLink RX12 43 (TX12 17).1 (TX12 17).2.1 (TX12 17).2.2.1 ∈ wsX12_next := by decide +kernel
  have hf_X12_when_46 : Cond.fieldLink RX12 46 (TX12 18).1 (TX12 18).2.1 (TX12 18).2.2.1 ∈ wsX12_next := by decide +kernel
  have L5 : ∀ (fu5 : Nat), ∀ (x1 : Int32) (x2 : Int32) (x3 : Int32), g_X12_next_L5 N f_this_minute f_this_when f_this_isHeard f_this_many fu5 x1 x2 x3 = some u → J X 0 0 (w_X12_next G q_this q_this_minute q_this_when q_this_isHeard v_this_text v_this_length v_this_book v_this_draft v_this_s v_this_kept v_this_keptMany v_this_acts v_this_actMany v_this_row v_this_rowMany v_this_tells v_this_tellMany v_this_at v_this_told v_this_place v_this_sort v_this_goneBy v_this_stand v_this_standing f_this_minute f_this_when f_this_isHeard f_this_many) 5 [(0, .ref q_this), (1, .int x1), (2, .int x2), (3, .int x3)] [] := by
    intro fu5
    induction fu5 with
    | zero => intro x1 x2 x3 hg; exact nomatch hg
    | succ fu5 ih5 =>
      have B115 : ∀ (x1 : Int32) (x2 : Int32) (x3 : Int32), g_X12_next_b115 N f_this_minute f_this_when f_this_isHeard f_this_many (g_X12_next_L5 N f_this_minute f_this_when f_this_isHeard f_this_many fu5) x1 x2 x3 = some u → J X 0 0 (w_X12_next G q_this q_this_minute q_this_when q_this_isHeard v_this_text v_this_length v_this_book v_this_draft v_this_s v_this_kept v_this_keptMany v_this_acts v_this_actMany v_this_row v_this_rowMany v_this_tells v_this_tellMany v_this_at v_this_told v_this_place v_this_sort v_this_goneBy v_this_stand v_this_standing f_this_minute f_this_when f_this_isHeard f_this_many) 115 [(0, .ref q_this), (1, .int x1), (2, .int x2), (3, .int x3)] [] := by
        intro x1 x2 x3 hg
        unfold g_X12_next_b115 at hg
        refine j_iinc hX 3 (v := x3 + 1) (lv' := [(3, .int (x3 + 1)), (0, .ref q_this), (1, .int x1), (2, .int x2)]) dX12_next_115 rfl (by rw [kc_1]) rfl rfl ?_
        refine j_goto hX 5 dX12_next_118 (by decide) ?_
        refine j_lv [1, 2, 3, 0] rfl ?_
        exact ih5 _ _ _ hg
      have B114 : ∀ (x1 : Int32) (x3 : Int32) (s0 : Int32), g_X12_next_b114 N f_this_minute f_this_when f_this_isHeard f_this_many (g_X12_next_L5 N f_this_minute f_this_when f_this_isHeard f_this_many fu5) x1 x3 s0 = some u → J X 0 0 (w_X12_next G q_this q_this_minute q_this_when q_this_isHeard v_this_text v_this_length v_this_book v_this_draft v_this_s v_this_kept v_this_keptMany v_this_acts v_this_actMany v_this_row v_this_rowMany v_this_tells v_this_tellMany v_this_at v_this_told v_this_place v_this_sort v_this_goneBy v_this_stand v_this_standing f_this_minute f_this_when f_this_isHeard f_this_many) 114 [(0, .ref q_this), (1, .int x1), (3, .int x3)] [.int s0] := by
        intro x1 x3 s0 hg
        unfold g_X12_next_b114 at hg
        refine j_istore_n hX (lv' := [(2, .int s0), (0, .ref q_this), (1, .int x1), (3, .int x3)]) dX12_next_114 rfl rfl rfl ?_
        refine j_lv [1, 2, 0, 3] rfl ?_
        exact B115 _ _ _ hg
      have B109 : ∀ (x1 : Int32) (x3 : Int32), g_X12_next_b109 N f_this_minute f_this_when f_this_isHeard f_this_many (g_X12_next_L5 N f_this_minute f_this_when f_this_isHeard f_this_many fu5) x1 x3 = some u → J X 0 0 (w_X12_next G q_this q_this_minute q_this_when q_this_isHeard v_this_text v_this_length v_this_book v_this_draft v_this_s v_this_kept v_this_keptMany v_this_acts v_this_actMany v_this_row v_this_rowMany v_this_tells v_this_tellMany v_this_at v_this_told v_this_place v_this_sort v_this_goneBy v_this_stand v_this_standing f_this_minute f_this_when f_this_isHeard f_this_many) 109 [(0, .ref q_this), (1, .int x1), (3, .int x3)] [] := by
        intro x1 x3 hg
        unfold g_X12_next_b109 at hg
        refine j_iload_n hX 2 dX12_next_109 rfl rfl ?_
        refine j_goto hX 114 dX12_next_110 (by decide) ?_
        exact B114 _ _ _ hg
      have B96 : ∀ (x1 : Int32) (x2 : Int32) (x3 : Int32) (s0 : Int32), g_X12_next_b96 N f_this_minute f_this_when f_this_isHeard f_this_many (g_X12_next_L5 N f_this_minute f_this_when f_this_isHeard f_this_many fu5) x1 x2 x3 s0 = some u → J X 0 0 (w_X12_next G q_this q_this_minute q_this_when q_this_isHeard v_this_text v_this_length v_this_book v_this_draft v_this_s v_this_kept v_this_keptMany v_this_acts v_this_actMany v_this_row v_this_rowMany v_this_tells v_this_tellMany v_this_at v_this_told v_this_place v_this_sort v_this_goneBy v_this_stand v_this_standing f_this_minute f_this_when f_this_isHeard f_this_many) 96 [(0, .ref q_this), (1, .int x1), (2, .int x2), (3, .int x3)] [.int s0] := by
        intro x1 x2 x3 s0 hg
        unfold g_X12_next_b96 at hg
        refine j_istore hX (lv' := [(5, .int s0), (0, .ref q_this), (1, .int x1), (2, .int x2), (3, .int x3)]) dX12_next_96 rfl rfl ?_
        refine j_iload_n hX 3 dX12_next_98 rfl rfl ?_
        refine j_bipush hX dX12_next_99 kb_m4 ?_
        refine j_icmp_eq hX 109 hg dX12_next_101 (by decide) (fun hg => ?_) (fun hg => ?_)
        · refine j_lv [1, 2, 4] rfl ?_
          exact B109 _ _ hg
        · refine j_iload hX 0 dX12_next_104 rfl ?_
          refine j_if_eq hX 113 hg dX12_next_106 (by decide) (fun hg => ?_) (fun hg => ?_)
          · refine j_iload_n hX 3 dX12_next_113 rfl rfl ?_
            refine j_lv [1, 2, 4] rfl ?_
            exact B114 _ _ _ hg
          · refine j_lv [1, 2, 4] rfl ?_
            exact B109 _ _ hg
      have B91 : ∀ (x1 : Int32) (x2 : Int32) (x3 : Int32), g_X12_next_b91 N f_this_minute f_this_when f_this_isHeard f_this_many (g_X12_next_L5 N f_this_minute f_this_when f_this_isHeard f_this_many fu5) x1 x2 x3 = some u → J X 0 0 (w_X12_next G q_this q_this_minute q_this_when q_this_isHeard v_this_text v_this_length v_this_book v_this_draft v_this_s v_this_kept v_this_keptMany v_this_acts v_this_actMany v_this_row v_this_rowMany v_this_tells v_this_tellMany v_this_at v_this_told v_this_place v_this_sort v_this_goneBy v_this_stand v_this_standing f_this_minute f_this_when f_this_isHeard f_this_many) 91 [(0, .ref q_this), (1, .int x1), (2, .int x2), (3, .int x3)] [] := by
        intro x1 x2 x3 hg
        unfold g_X12_next_b91 at hg
        refine j_iconst hX dX12_next_91 kc_1 ?_
        refine j_goto hX 96 dX12_next_92 (by decide) ?_
        exact B96 _ _ _ _ hg
      have B95 : ∀ (x1 : Int32) (x2 : Int32) (x3 : Int32), g_X12_next_b95 N f_this_minute f_this_when f_this_isHeard f_this_many (g_X12_next_L5 N f_this_minute f_this_when f_this_isHeard f_this_many fu5) x1 x2 x3 = some u → J X 0 0 (w_X12_next G q_this q_this_minute q_this_when q_this_isHeard v_this_text v_this_length v_this_book v_this_draft v_this_s v_this_kept v_this_keptMany v_this_acts v_this_actMany v_this_row v_this_rowMany v_this_tells v_this_tellMany v_this_at v_this_told v_this_place v_this_sort v_this_goneBy v_this_stand v_this_standing f_this_minute f_this_when f_this_isHeard f_this_many) 95 [(0, .ref q_this), (1, .int x1), (2, .int x2), (3, .int x3)] [] := by
        intro x1 x2 x3 hg
        unfold g_X12_next_b95 at hg
        refine j_iconst hX dX12_next_95 kc_0 ?_
        exact B96 _ _ _ _ hg
      have B41 : ∀ (x1 : Int32) (x2 : Int32) (x3 : Int32) (s0 : Int32), g_X12_next_b41 N f_this_minute f_this_when f_this_isHeard f_this_many (g_X12_next_L5 N f_this_minute f_this_when f_this_isHeard f_this_many fu5) x1 x2 x3 s0 = some u → J X 0 0 (w_X12_next G q_this q_this_minute q_this_when q_this_isHeard v_this_text v_this_length v_this_book v_this_draft v_this_s v_this_kept v_this_keptMany v_this_acts v_this_actMany v_this_row v_this_rowMany v_this_tells v_this_tellMany v_this_at v_this_told v_this_place v_this_sort v_this_goneBy v_this_stand v_this_standing f_this_minute f_this_when f_this_isHeard f_this_many) 41 [(0, .ref q_this), (1, .int x1), (2, .int x2), (3, .int x3)] [.int s0] := by
        intro x1 x2 x3 s0 hg
        unfold g_X12_next_b41 at hg
        refine j_istore hX (lv' := [(4, .int s0), (0, .ref q_this), (1, .int x1), (2, .int x2), (3, .int x3)]) dX12_next_41 rfl rfl ?_
        refine j_aload_n hX 1 dX12_next_43 rfl rfl ?_
        refine j_get hX 0 18 rfl rfl hinX12 rfl hf_X12_when_46 rfl dX12_next_44 ?_
        refine j_iload_n hX 4 dX12_next_47 rfl rfl ?_
        refine j_iald hX 2 rfl hg dX12_next_48 (fun hg => ?_)
        refine j_aload_n hX 1 dX12_next_49 rfl rfl ?_
        refine j_get hX 0 18 rfl rfl hinX12 rfl hf_X12_when_46 rfl dX12_next_50 ?_
        refine j_iload hX 0 dX12_next_53 rfl ?_
        refine j_iald hX 2 rfl hg dX12_next_55 (fun hg => ?_)
        refine j_icmp_lt hX 91 hg dX12_next_56 (by decide) (fun hg => ?_) (fun hg => ?_)
        · refine j_lv [1, 2, 3, 4] rfl ?_
          exact B91 _ _ _ hg
        · refine j_aload_n hX 1 dX12_next_59 rfl rfl ?_
          refine j_get hX 0 18 rfl rfl hinX12 rfl hf_X12_when_46 rfl dX12_next_60 ?_
          refine j_iload_n hX 4 dX12_next_63 rfl rfl ?_
          refine j_iald hX 2 rfl hg dX12_next_64 (fun hg => ?_)
          refine j_aload_n hX 1 dX12_next_65 rfl rfl ?_
          refine j_get hX 0 18 rfl rfl hinX12 rfl hf_X12_when_46 rfl dX12_next_66 ?_
          refine j_iload hX 0 dX12_next_69 rfl ?_
          refine j_iald hX 2 rfl hg dX12_next_71 (fun hg => ?_)
          refine j_icmp_ne hX 95 hg dX12_next_72 (by decide) (fun hg => ?_) (fun hg => ?_)
          · refine j_aload_n hX 1 dX12_next_75 rfl rfl ?_
            refine j_get hX 0 17 rfl rfl hinX12 rfl hf_X12_minute_43 rfl dX12_next_76 ?_
            refine j_iload_n hX 4 dX12_next_79 rfl rfl ?_
            refine j_iald hX 1 rfl hg dX12_next_80 (fun hg => ?_)
            refine j_aload_n hX 1 dX12_next_81 rfl rfl ?_
            refine j_get hX 0 17 rfl rfl hinX12 rfl hf_X12_minute_43 rfl dX12_next_82 ?_
            refine j_iload hX 0 dX12_next_85 rfl ?_
            refine j_iald hX 1 rfl hg dX12_next_87 (fun hg => ?_)
            refine j_icmp_ge hX 95 hg dX12_next_88 (by decide) (fun hg => ?_) (fun hg => ?_)
            · refine j_lv [1, 2, 3, 4] rfl ?_
              exact B95 _ _ _ hg
            · refine j_lv [1, 2, 3, 4] rfl ?_
              exact B91 _ _ _ hg
          · refine j_lv [1, 2, 3, 4] rfl ?_
            exact B95 _ _ _ hg
      intro x1 x2 x3 hg
      unfold g_X12_next_L5 at hg
      refine j_iload_n hX 3 dX12_next_5 rfl rfl ?_
      refine j_aload_n hX 0 dX12_next_6 rfl rfl ?_
      refine j_get hX 0 22 rfl rfl hinX12 rfl hf_X12_many_127 rfl dX12_next_7 ?_
      refine j_icmp_ge hX 121 hg dX12_next_10 (by decide) (fun hg => ?_) (fun hg => ?_)
      · refine j_iload_n hX 2 dX12_next_121 rfl rfl ?_
        cases hg
        exact hret _ _ dX12_next_122
      · refine j_aload_n hX 0 dX12_next_13 rfl rfl ?_
        refine j_get hX 0 19 rfl rfl hinX12 rfl hf_X12_isHeard_49 rfl dX12_next_14 ?_
        refine j_iload_n hX 3 dX12_next_17 rfl rfl ?_
        refine j_zald hX 3 rfl hg dX12_next_18 (fun hg => ?_)
        refine j_if_ne hX 115 hg dX12_next_19 (by decide) (fun hg => ?_) (fun hg => ?_)
        · refine j_aload_n hX 0 dX12_next_22 rfl rfl ?_
          refine j_get hX 0 18 rfl rfl hinX12 rfl hf_X12_when_46 rfl dX12_next_23 ?_
          refine j_iload_n hX 3 dX12_next_26 rfl rfl ?_
          refine j_iald hX 2 rfl hg dX12_next_27 (fun hg => ?_)
          refine j_iload_n hX 1 dX12_next_28 rfl rfl ?_
          refine j_icmp_gt hX 115 hg dX12_next_29 (by decide) (fun hg => ?_) (fun hg => ?_)
          · exact B115 _ _ _ hg
          · refine j_iload_n hX 2 dX12_next_32 rfl rfl ?_
            refine j_if_ge hX 40 hg dX12_next_33 (by decide) (fun hg => ?_) (fun hg => ?_)
            · refine j_iload_n hX 2 dX12_next_40 rfl rfl ?_
              exact B41 _ _ _ _ hg
            · refine j_iconst hX dX12_next_36 kc_0 ?_
              refine j_goto hX 41 dX12_next_37 (by decide) ?_
              exact B41 _ _ _ _ hg
        · exact B115 _ _ _ hg
  have hg := hu
  unfold g_X12_next at hg
  refine j_bipush hX dX12_next_0 kb_m4 ?_
  refine j_istore_n hX (lv' := [(2, .int (-4)), (0, .ref q_this), (1, .int x1)]) dX12_next_2 rfl rfl rfl ?_
  refine j_iconst hX dX12_next_3 kc_0 ?_
  refine j_istore_n hX (lv' := [(3, .int 0), (2, .int (-4)), (0, .ref q_this), (1, .int x1)]) dX12_next_4 rfl rfl rfl ?_
  refine j_lv [2, 3, 1, 0] rfl ?_
  exact L5 N _ _ _ hg
abbrev w_X12_hit (G : jG) (q_this : Nat) (q_this_book : Nat) (q_this_sort : Nat) (q_this_when : Nat) (q_this_stand : Nat) (v_this_text : Value) (v_this_length : Value) (v_this_draft : Value) (v_this_s : Value) (v_this_kept : Value) (v_this_keptMany : Value) (v_this_acts : Value) (v_this_actMany : Value) (v_this_row : Value) (v_this_rowMany : Value) (v_this_tells : Value) (v_this_tellMany : Value) (v_this_at : Value) (v_this_told : Value) (v_this_place : Value) (v_this_minute : Value) (v_this_isHeard : Value) (v_this_goneBy : Value) (v_this_many : Value) (f_this_book : (Nat → Int32)) (f_this_sort : (Nat → Int32)) (f_this_when : (Nat → Int32)) (f_this_stand : (Nat → Int32)) (f_this_standing : Int32) : va_W := [oC q_this 12 [v_this_text, v_this_length, .ref q_this_book, v_this_draft, v_this_s, v_this_kept, v_this_keptMany, v_this_acts, v_this_actMany, v_this_row, v_this_rowMany, v_this_tells, v_this_tellMany, v_this_at, v_this_told, v_this_place, .ref q_this_sort, v_this_minute, .ref q_this_when, v_this_isHeard, v_this_goneBy, .ref q_this_stand, v_this_many, .int f_this_standing], aI G q_this_book 78 f_this_book, aI G q_this_sort 128 f_this_sort, aI G q_this_when 128 f_this_when, aI G q_this_stand 128 f_this_stand]
def g_X12_hit_b104 (N : Nat) (f_this_book : (Nat → Int32)) (f_this_sort : (Nat → Int32)) (f_this_when : (Nat → Int32)) (f_this_stand : (Nat → Int32)) (f_this_standing : Int32) (x2 : Int32) (x3 : Int32) : Option (Int32) := gi 2 78 (if (f_this_book (2 : Int32).toNatClampNeg) = 2 then if (2 : Int32) ≤ x3 then some x2 else some (-4) else some x2)
def g_X12_hit_b96 (N : Nat) (f_this_book : (Nat → Int32)) (f_this_sort : (Nat → Int32)) (f_this_when : (Nat → Int32)) (f_this_stand : (Nat → Int32)) (f_this_standing : Int32) (rec_8 : Int32 → Int32 → Int32 → Int32 → Option (Int32)) (x1 : Int32) (x2 : Int32) (x4 : Int32) (s0 : Int32) (s1 : Int32) : Option (Int32) := rec_8 x1 x2 (s0 + s1) (x4 + 1)
def g_X12_hit_b84 (N : Nat) (f_this_book : (Nat → Int32)) (f_this_sort : (Nat → Int32)) (f_this_when : (Nat → Int32)) (f_this_stand : (Nat → Int32)) (f_this_standing : Int32) (rec_8 : Int32 → Int32 → Int32 → Int32 → Option (Int32)) (x1 : Int32) (x3 : Int32) (x4 : Int32) (x5 : Int32) (s0 : Int32) : Option (Int32) := if x5 = 0 then g_X12_hit_b96 N f_this_book f_this_sort f_this_when f_this_stand f_this_standing rec_8 x1 s0 x4 x3 0 else g_X12_hit_b96 N f_this_book f_this_sort f_this_when f_this_stand f_this_standing rec_8 x1 s0 x4 x3 1
def g_X12_hit_b71 (N : Nat) (f_this_book : (Nat → Int32)) (f_this_sort : (Nat → Int32)) (f_this_when : (Nat → Int32)) (f_this_stand : (Nat → Int32)) (f_this_standing : Int32) (rec_8 : Int32 → Int32 → Int32 → Int32 → Option (Int32)) (x1 : Int32) (x2 : Int32) (x3 : Int32) (x4 : Int32) (s0 : Int32) : Option (Int32) := if s0 = 0 then g_X12_hit_b84 N f_this_book f_this_sort f_this_when f_this_stand f_this_standing rec_8 x1 x3 x4 s0 x2 else g_X12_hit_b84 N f_this_book f_this_sort f_this_when f_this_stand f_this_standing rec_8 x1 x3 x4 s0 x4
def g_X12_hit_b70 (N : Nat) (f_this_book : (Nat → Int32)) (f_this_sort : (Nat → Int32)) (f_this_when : (Nat → Int32)) (f_this_stand : (Nat → Int32)) (f_this_standing : Int32) (rec_8 : Int32 → Int32 → Int32 → Int32 → Option (Int32)) (x1 : Int32) (x2 : Int32) (x3 : Int32) (x4 : Int32) : Option (Int32) := g_X12_hit_b71 N f_this_book f_this_sort f_this_when f_this_stand f_this_standing rec_8 x1 x2 x3 x4 0
def g_X12_hit_L8 (N : Nat) (f_this_book : (Nat → Int32)) (f_this_sort : (Nat → Int32)) (f_this_when : (Nat → Int32)) (f_this_stand : (Nat → Int32)) (f_this_standing : Int32) (k_104 : Int32 → Int32 → Option (Int32)) : Nat → Int32 → Int32 → Int32 → Int32 → Option (Int32)
  | 0, _, _, _, _ => none
  | fu + 1, x1, x2, x3, x4 => if f_this_standing ≤ x4 then k_104 x2 x3 else gi x4 128 (gi (f_this_stand x4.toNatClampNeg) 128 (gi x1 128 (if (f_this_sort (f_this_stand x4.toNatClampNeg : Int32).toNatClampNeg) = (f_this_sort x1.toNatClampNeg) then gi x1 128 (gi x4 128 (gi (f_this_stand x4.toNatClampNeg) 128 (gi 1 78 (if (f_this_book (1 : Int32).toNatClampNeg) ≤ ((f_this_when x1.toNatClampNeg) - (f_this_when (f_this_stand x4.toNatClampNeg : Int32).toNatClampNeg)) then g_X12_hit_b70 N f_this_book f_this_sort f_this_when f_this_stand f_this_standing (g_X12_hit_L8 N f_this_book f_this_sort f_this_when f_this_stand f_this_standing k_104 fu) x1 x2 x3 x4 else g_X12_hit_b71 N f_this_book f_this_sort f_this_when f_this_stand f_this_standing (g_X12_hit_L8 N f_this_book f_this_sort f_this_when f_this_stand f_this_standing k_104 fu) x1 x2 x3 x4 1)))) else g_X12_hit_b70 N f_this_book f_this_sort f_this_when f_this_stand f_this_standing (g_X12_hit_L8 N f_this_book f_this_sort f_this_when f_this_stand f_this_standing k_104 fu) x1 x2 x3 x4)))
def g_X12_hit (N : Nat) (f_this_book : (Nat → Int32)) (f_this_sort : (Nat → Int32)) (f_this_when : (Nat → Int32)) (f_this_stand : (Nat → Int32)) (f_this_standing : Int32) (x1 : Int32) : Option (Int32) := g_X12_hit_L8 N f_this_book f_this_sort f_this_when f_this_stand f_this_standing (g_X12_hit_b104 N f_this_book f_this_sort f_this_when f_this_stand f_this_standing) N x1 (-4) 0 0
set_option maxHeartbeats 4000000 in
set_option maxRecDepth 100000 in
theorem c_X12_hit (l : Launch) (G : jG) (N : Nat) (q_this : Nat) (q_this_book : Nat) (q_this_sort : Nat) (q_this_when : Nat) (q_this_stand : Nat) (v_this_text : Value) (v_this_length : Value) (v_this_draft : Value) (v_this_s : Value) (v_this_kept : Value) (v_this_keptMany : Value) (v_this_acts : Value) (v_this_actMany : Value) (v_this_row : Value) (v_this_rowMany : Value) (v_this_tells : Value) (v_this_tellMany : Value) (v_this_at : Value) (v_this_told : Value) (v_this_place : Value) (v_this_minute : Value) (v_this_isHeard : Value) (v_this_goneBy : Value) (v_this_many : Value) (f_this_book : (Nat → Int32)) (f_this_sort : (Nat → Int32)) (f_this_when : (Nat → Int32)) (f_this_stand : (Nat → Int32)) (f_this_standing : Int32) (x1 : Int32) (u : Int32) (hu : g_X12_hit N f_this_book f_this_sort f_this_when f_this_stand f_this_standing x1 = some u) : MetRO l G yX12_hit wsX12_hit ({ frames := 0, cells := 0, slots := 0, locals := 0 } : Room) [.ref q_this, .int x1] (w_X12_hit G q_this q_this_book q_this_sort q_this_when q_this_stand v_this_text v_this_length v_this_draft v_this_s v_this_kept v_this_keptMany v_this_acts v_this_actMany v_this_row v_this_rowMany v_this_tells v_this_tellMany v_this_at v_this_told v_this_place v_this_minute v_this_isHeard v_this_goneBy v_this_many f_this_book f_this_sort f_this_when f_this_stand f_this_standing) u := by
  refine met_roi (cc := cX12_hit) (maxL := 6) (lv0 := [(0, .ref q_this), (1, .int x1)]) (by decide) rfl rfl rfl rfl (fun X hX hret => ?_)
  have hinX12 : ∀ w ∈ u_ws RX12 TX12 24, w ∈ wsX12_hit := by decide +kernel
  have hf_X12_book_13 : Cond.fieldLink RX12 13 (TX12 2).1 (TX12 2).2.1 (TX12 2).2.2.1 ∈ wsX12_hit := by decide +kernel
  have hf_X12_sort_40 : Cond.fieldLink RX12 40 (TX12 16).1 (TX12 16).2.1 (TX12 16).2.2.1 ∈ wsX12_hit := by decide +kernel
  have hf_X12_stand_56 : Cond.fieldLink RX12 56 (TX12 21).1 (TX12 21).2.1 (TX12 21).2.2.1 ∈ wsX12_hit := by decide +kernel
  have hf_X12_standing_134 : Cond.fieldLink RX12 134 (TX12 23).1 (TX12 23).2.1 (TX12 23).2.2.1 ∈ wsX12_hit := by decide +kernel
  have hf_X12_when_46 : Cond.fieldLink RX12 46 (TX12 18).1 (TX12 18).2.1 (TX12 18).2.2.1 ∈ wsX12_hit := by decide +kernel
  have B104 : ∀ (x2 : Int32) (x3 : Int32), g_X12_hit_b104 N f_this_book f_this_sort f_this_when f_this_stand f_this_standing x2 x3 = some u → J X 0 0 (w_X12_hit G q_this q_this_book q_this_sort q_this_when q_this_stand v_this_text v_this_length v_this_draft v_this_s v_this_kept v_this_keptMany v_this_acts v_this_actMany v_this_row v_this_rowMany v_this_tells v_this_tellMany v_this_at v_this_told v_this_place v_this_minute v_this_isHeard v_this_goneBy v_this_many f_this_book f_this_sort f_this_when f_this_stand f_this_standing) 104 [(0, .ref q_this), (2, .int x2), (3, .int x3)] [] := by
    intro x2 x3 hg
    unfold g_X12_hit_b104 at hg
    refine j_aload_n hX 0 dX12_hit_104 rfl rfl ?_
    refine j_get hX 0 2 rfl rfl hinX12 rfl hf_X12_book_13 rfl dX12_hit_105 ?_
    refine j_iconst hX dX12_hit_108 kc_2 ?_
    refine j_iald hX 1 rfl hg dX12_hit_109 (fun hg => ?_)
    refine j_iconst hX dX12_hit_110 kc_2 ?_
    refine j_icmp_ne hX 124 hg dX12_hit_111 (by decide) (fun hg => ?_) (fun hg => ?_)
    · refine j_iload_n hX 2 dX12_hit_114 rfl rfl ?_
      refine j_iconst hX dX12_hit_115 kc_2 ?_
      refine j_icmp_ge hX 124 hg dX12_hit_116 (by decide) (fun hg => ?_) (fun hg => ?_)
      · refine j_iload_n hX 1 dX12_hit_124 rfl rfl ?_
        cases hg
        exact hret _ _ dX12_hit_125
      · refine j_bipush hX dX12_hit_119 kb_m4 ?_
        refine j_goto hX 125 dX12_hit_121 (by decide) ?_
        cases hg
        exact hret _ _ dX12_hit_125
    · refine j_iload_n hX 1 dX12_hit_124 rfl rfl ?_
      cases hg
      exact hret _ _ dX12_hit_125
  have L8 : ∀ (fu8 : Nat), ∀ (x1 : Int32) (x2 : Int32) (x3 : Int32) (x4 : Int32), g_X12_hit_L8 N f_this_book f_this_sort f_this_when f_this_stand f_this_standing (g_X12_hit_b104 N f_this_book f_this_sort f_this_when f_this_stand f_this_standing) fu8 x1 x2 x3 x4 = some u → J X 0 0 (w_X12_hit G q_this q_this_book q_this_sort q_this_when q_this_stand v_this_text v_this_length v_this_draft v_this_s v_this_kept v_this_keptMany v_this_acts v_this_actMany v_this_row v_this_rowMany v_this_tells v_this_tellMany v_this_at v_this_told v_this_place v_this_minute v_this_isHeard v_this_goneBy v_this_many f_this_book f_this_sort f_this_when f_this_stand f_this_standing) 8 [(0, .ref q_this), (1, .int x1), (2, .int x2), (3, .int x3), (4, .int x4)] [] := by
    intro fu8
    induction fu8 with
    | zero => intro x1 x2 x3 x4 hg; exact nomatch hg
    | succ fu8 ih8 =>
      have B96 : ∀ (x1 : Int32) (x2 : Int32) (x4 : Int32) (s0 : Int32) (s1 : Int32), g_X12_hit_b96 N f_this_book f_this_sort f_this_when f_this_stand f_this_standing (g_X12_hit_L8 N f_this_book f_this_sort f_this_when f_this_stand f_this_standing (g_X12_hit_b104 N f_this_book f_this_sort f_this_when f_this_stand f_this_standing) fu8) x1 x2 x4 s0 s1 = some u → J X 0 0 (w_X12_hit G q_this q_this_book q_this_sort q_this_when q_this_stand v_this_text v_this_length v_this_draft v_this_s v_this_kept v_this_keptMany v_this_acts v_this_actMany v_this_row v_this_rowMany v_this_tells v_this_tellMany v_this_at v_this_told v_this_place v_this_minute v_this_isHeard v_this_goneBy v_this_many f_this_book f_this_sort f_this_when f_this_stand f_this_standing) 96 [(0, .ref q_this), (1, .int x1), (2, .int x2), (4, .int x4)] [.int s1, .int s0] := by
        intro x1 x2 x4 s0 s1 hg
        unfold g_X12_hit_b96 at hg
        refine j_iadd hX dX12_hit_96 ?_
        refine j_istore_n hX (lv' := [(3, .int (s0 + s1)), (0, .ref q_this), (1, .int x1), (2, .int x2), (4, .int x4)]) dX12_hit_97 rfl rfl rfl ?_
        refine j_iinc hX 4 (v := x4 + 1) (lv' := [(4, .int (x4 + 1)), (3, .int (s0 + s1)), (0, .ref q_this), (1, .int x1), (2, .int x2)]) dX12_hit_98 rfl (by rw [kc_1]) rfl rfl ?_
        refine j_goto hX 8 dX12_hit_101 (by decide) ?_
        refine j_lv [2, 3, 4, 1, 0] rfl ?_
        exact ih8 _ _ _ _ hg
      have B84 : ∀ (x1 : Int32) (x3 : Int32) (x4 : Int32) (x5 : Int32) (s0 : Int32), g_X12_hit_b84 N f_this_book f_this_sort f_this_when f_this_stand f_this_standing (g_X12_hit_L8 N f_this_book f_this_sort f_this_when f_this_stand f_this_standing (g_X12_hit_b104 N f_this_book f_this_sort f_this_when f_this_stand f_this_standing) fu8) x1 x3 x4 x5 s0 = some u → J X 0 0 (w_X12_hit G q_this q_this_book q_this_sort q_this_when q_this_stand v_this_text v_this_length v_this_draft v_this_s v_this_kept v_this_keptMany v_this_acts v_this_actMany v_this_row v_this_rowMany v_this_tells v_this_tellMany v_this_at v_this_told v_this_place v_this_minute v_this_isHeard v_this_goneBy v_this_many f_this_book f_this_sort f_this_when f_this_stand f_this_standing) 84 [(0, .ref q_this), (1, .int x1), (3, .int x3), (4, .int x4), (5, .int x5)] [.int s0] := by
        intro x1 x3 x4 x5 s0 hg
        unfold g_X12_hit_b84 at hg
        refine j_istore_n hX (lv' := [(2, .int s0), (0, .ref q_this), (1, .int x1), (3, .int x3), (4, .int x4), (5, .int x5)]) dX12_hit_84 rfl rfl rfl ?_
        refine j_iload_n hX 3 dX12_hit_85 rfl rfl ?_
        refine j_iload hX 5 dX12_hit_86 rfl ?_
        refine j_if_eq hX 95 hg dX12_hit_88 (by decide) (fun hg => ?_) (fun hg => ?_)
        · refine j_iconst hX dX12_hit_95 kc_0 ?_
          refine j_lv [1, 2, 0, 4] rfl ?_
          exact B96 _ _ _ _ _ hg
        · refine j_iconst hX dX12_hit_91 kc_1 ?_
          refine j_goto hX 96 dX12_hit_92 (by decide) ?_
          refine j_lv [1, 2, 0, 4] rfl ?_
          exact B96 _ _ _ _ _ hg
      have B71 : ∀ (x1 : Int32) (x2 : Int32) (x3 : Int32) (x4 : Int32) (s0 : Int32), g_X12_hit_b71 N f_this_book f_this_sort f_this_when f_this_stand f_this_standing (g_X12_hit_L8 N f_this_book f_this_sort f_this_when f_this_stand f_this_standing (g_X12_hit_b104 N f_this_book f_this_sort f_this_when f_this_stand f_this_standing) fu8) x1 x2 x3 x4 s0 = some u → J X 0 0 (w_X12_hit G q_this q_this_book q_this_sort q_this_when q_this_stand v_this_text v_this_length v_this_draft v_this_s v_this_kept v_this_keptMany v_this_acts v_this_actMany v_this_row v_this_rowMany v_this_tells v_this_tellMany v_this_at v_this_told v_this_place v_this_minute v_this_isHeard v_this_goneBy v_this_many f_this_book f_this_sort f_this_when f_this_stand f_this_standing) 71 [(0, .ref q_this), (1, .int x1), (2, .int x2), (3, .int x3), (4, .int x4)] [.int s0] := by
        intro x1 x2 x3 x4 s0 hg
        unfold g_X12_hit_b71 at hg
        refine j_istore hX (lv' := [(5, .int s0), (0, .ref q_this), (1, .int x1), (2, .int x2), (3, .int x3), (4, .int x4)]) dX12_hit_71 rfl rfl ?_
        refine j_iload hX 0 dX12_hit_73 rfl ?_
        refine j_if_eq hX 83 hg dX12_hit_75 (by decide) (fun hg => ?_) (fun hg => ?_)
        · refine j_iload_n hX 3 dX12_hit_83 rfl rfl ?_
          refine j_lv [1, 2, 4, 5, 0] rfl ?_
          exact B84 _ _ _ _ _ hg
        · refine j_iload hX 5 dX12_hit_78 rfl ?_
          refine j_goto hX 84 dX12_hit_80 (by decide) ?_
          refine j_lv [1, 2, 4, 5, 0] rfl ?_
          exact B84 _ _ _ _ _ hg
      have B70 : ∀ (x1 : Int32) (x2 : Int32) (x3 : Int32) (x4 : Int32), g_X12_hit_b70 N f_this_book f_this_sort f_this_when f_this_stand f_this_standing (g_X12_hit_L8 N f_this_book f_this_sort f_this_when f_this_stand f_this_standing (g_X12_hit_b104 N f_this_book f_this_sort f_this_when f_this_stand f_this_standing) fu8) x1 x2 x3 x4 = some u → J X 0 0 (w_X12_hit G q_this q_this_book q_this_sort q_this_when q_this_stand v_this_text v_this_length v_this_draft v_this_s v_this_kept v_this_keptMany v_this_acts v_this_actMany v_this_row v_this_rowMany v_this_tells v_this_tellMany v_this_at v_this_told v_this_place v_this_minute v_this_isHeard v_this_goneBy v_this_many f_this_book f_this_sort f_this_when f_this_stand f_this_standing) 70 [(0, .ref q_this), (1, .int x1), (2, .int x2), (3, .int x3), (4, .int x4)] [] := by
        intro x1 x2 x3 x4 hg
        unfold g_X12_hit_b70 at hg
        refine j_iconst hX dX12_hit_70 kc_0 ?_
        exact B71 _ _ _ _ _ hg
      intro x1 x2 x3 x4 hg
      unfold g_X12_hit_L8 at hg
      refine j_iload hX 4 dX12_hit_8 rfl ?_
      refine j_aload_n hX 0 dX12_hit_10 rfl rfl ?_
      refine j_get hX 0 23 rfl rfl hinX12 rfl hf_X12_standing_134 rfl dX12_hit_11 ?_
      refine j_icmp_ge hX 104 hg dX12_hit_14 (by decide) (fun hg => ?_) (fun hg => ?_)
      · refine j_lv [0, 2, 3] rfl ?_
        exact B104 _ _ hg
      · refine j_aload_n hX 0 dX12_hit_17 rfl rfl ?_
        refine j_get hX 0 16 rfl rfl hinX12 rfl hf_X12_sort_40 rfl dX12_hit_18 ?_
        refine j_aload_n hX 0 dX12_hit_21 rfl rfl ?_
        refine j_get hX 0 21 rfl rfl hinX12 rfl hf_X12_stand_56 rfl dX12_hit_22 ?_
        refine j_iload hX 4 dX12_hit_25 rfl ?_
        refine j_iald hX 4 rfl hg dX12_hit_27 (fun hg => ?_)
        refine j_iald hX 2 rfl hg dX12_hit_28 (fun hg => ?_)
        refine j_aload_n hX 0 dX12_hit_29 rfl rfl ?_
        refine j_get hX 0 16 rfl rfl hinX12 rfl hf_X12_sort_40 rfl dX12_hit_30 ?_
        refine j_iload_n hX 1 dX12_hit_33 rfl rfl ?_
        refine j_iald hX 2 rfl hg dX12_hit_34 (fun hg => ?_)
        refine j_icmp_ne hX 70 hg dX12_hit_35 (by decide) (fun hg => ?_) (fun hg => ?_)
        · refine j_aload_n hX 0 dX12_hit_38 rfl rfl ?_
          refine j_get hX 0 18 rfl rfl hinX12 rfl hf_X12_when_46 rfl dX12_hit_39 ?_
          refine j_iload_n hX 1 dX12_hit_42 rfl rfl ?_
          refine j_iald hX 3 rfl hg dX12_hit_43 (fun hg => ?_)
          refine j_aload_n hX 0 dX12_hit_44 rfl rfl ?_
          refine j_get hX 0 18 rfl rfl hinX12 rfl hf_X12_when_46 rfl dX12_hit_45 ?_
          refine j_aload_n hX 0 dX12_hit_48 rfl rfl ?_
          refine j_get hX 0 21 rfl rfl hinX12 rfl hf_X12_stand_56 rfl dX12_hit_49 ?_
          refine j_iload hX 4 dX12_hit_52 rfl ?_
          refine j_iald hX 4 rfl hg dX12_hit_54 (fun hg => ?_)
          refine j_iald hX 3 rfl hg dX12_hit_55 (fun hg => ?_)
          refine j_isub hX dX12_hit_56 ?_
          refine j_aload_n hX 0 dX12_hit_57 rfl rfl ?_
          refine j_get hX 0 2 rfl rfl hinX12 rfl hf_X12_book_13 rfl dX12_hit_58 ?_
          refine j_iconst hX dX12_hit_61 kc_1 ?_
          refine j_iald hX 1 rfl hg dX12_hit_62 (fun hg => ?_)
          refine j_icmp_ge hX 70 hg dX12_hit_63 (by decide) (fun hg => ?_) (fun hg => ?_)
          · exact B70 _ _ _ _ hg
          · refine j_iconst hX dX12_hit_66 kc_1 ?_
            refine j_goto hX 71 dX12_hit_67 (by decide) ?_
            exact B71 _ _ _ _ _ hg
        · exact B70 _ _ _ _ hg
  have hg := hu
  unfold g_X12_hit at hg
  refine j_bipush hX dX12_hit_0 kb_m4 ?_
  refine j_istore_n hX (lv' := [(2, .int (-4)), (0, .ref q_this), (1, .int x1)]) dX12_hit_2 rfl rfl rfl ?_
  refine j_iconst hX dX12_hit_3 kc_0 ?_
  refine j_istore_n hX (lv' := [(3, .int 0), (2, .int (-4)), (0, .ref q_this), (1, .int x1)]) dX12_hit_4 rfl rfl rfl ?_
  refine j_iconst hX dX12_hit_5 kc_0 ?_
  refine j_istore hX (lv' := [(4, .int 0), (3, .int 0), (2, .int (-4)), (0, .ref q_this), (1, .int x1)]) dX12_hit_6 rfl rfl ?_
  refine j_lv [3, 4, 2, 1, 0] rfl ?_
  exact L8 N _ _ _ _ hg
abbrev w_X12_hears (G : jG) (q_this : Nat) (q_this_book : Nat) (q_this_sort : Nat) (q_this_when : Nat) (q_this_isHeard : Nat) (q_this_goneBy : Nat) (q_this_stand : Nat) (v_this_text : Value) (v_this_length : Value) (v_this_draft : Value) (v_this_s : Value) (v_this_kept : Value) (v_this_keptMany : Value) (v_this_acts : Value) (v_this_actMany : Value) (v_this_row : Value) (v_this_rowMany : Value) (v_this_tells : Value) (v_this_tellMany : Value) (v_this_at : Value) (v_this_told : Value) (v_this_place : Value) (v_this_minute : Value) (v_this_many : Value) (f_this_book : (Nat → Int32)) (f_this_sort : (Nat → Int32)) (f_this_when : (Nat → Int32)) (f_this_isHeard : (Nat → Int32)) (f_this_goneBy : (Nat → Int32)) (f_this_stand : (Nat → Int32)) (f_this_standing : Int32) : va_W := [oC q_this 12 [v_this_text, v_this_length, .ref q_this_book, v_this_draft, v_this_s, v_this_kept, v_this_keptMany, v_this_acts, v_this_actMany, v_this_row, v_this_rowMany, v_this_tells, v_this_tellMany, v_this_at, v_this_told, v_this_place, .ref q_this_sort, v_this_minute, .ref q_this_when, .ref q_this_isHeard, .ref q_this_goneBy, .ref q_this_stand, v_this_many, .int f_this_standing], aI G q_this_book 78 f_this_book, aI G q_this_sort 128 f_this_sort, aI G q_this_when 128 f_this_when, aZ G q_this_isHeard 128 f_this_isHeard, aI G q_this_goneBy 128 f_this_goneBy, aI G q_this_stand 128 f_this_stand]
def g_X12_hears_b125 (N : Nat) (f_this_book : (Nat → Int32)) (f_this_sort : (Nat → Int32)) (f_this_when : (Nat → Int32)) (f_this_isHeard : (Nat → Int32)) (f_this_goneBy : (Nat → Int32)) (f_this_stand : (Nat → Int32)) (f_this_standing : Int32) (x2 : Int32) (x3 : Int32) : Option ((Nat → Int32) × (Nat → Int32) × (Nat → Int32) × Int32) := some (f_this_isHeard, f_this_goneBy, f_this_stand, f_this_standing - (x3 - x2))
def g_X12_hears_L92 (N : Nat) (f_this_book : (Nat → Int32)) (f_this_sort : (Nat → Int32)) (f_this_when : (Nat → Int32)) (k_125 : (Nat → Int32) → (Nat → Int32) → (Nat → Int32) → Int32 → Int32 → Int32 → Option ((Nat → Int32) × (Nat → Int32) × (Nat → Int32) × Int32)) : Nat → (Nat → Int32) → (Nat → Int32) → (Nat → Int32) → Int32 → Int32 → Int32 → Int32 → Option ((Nat → Int32) × (Nat → Int32) × (Nat → Int32) × Int32)
  | 0, _, _, _, _, _, _, _ => none
  | fu + 1, f_this_isHeard, f_this_goneBy, f_this_stand, f_this_standing, x2, x3, x4 => if f_this_standing ≤ x4 then k_125 f_this_isHeard f_this_goneBy f_this_stand f_this_standing x2 x3 else gi x4 128 (gi ((x4 - x3) + x2) 128 (g_X12_hears_L92 N f_this_book f_this_sort f_this_when k_125 fu f_this_isHeard f_this_goneBy (upd f_this_stand ((x4 - x3) + x2 : Int32).toNatClampNeg (f_this_stand x4.toNatClampNeg)) f_this_standing x2 x3 (x4 + 1)))
def g_X12_hears_b89 (N : Nat) (f_this_book : (Nat → Int32)) (f_this_sort : (Nat → Int32)) (f_this_when : (Nat → Int32)) (f_this_isHeard : (Nat → Int32)) (f_this_goneBy : (Nat → Int32)) (f_this_stand : (Nat → Int32)) (f_this_standing : Int32) (x2 : Int32) (x3 : Int32) : Option ((Nat → Int32) × (Nat → Int32) × (Nat → Int32) × Int32) := g_X12_hears_L92 N f_this_book f_this_sort f_this_when (g_X12_hears_b125 N f_this_book f_this_sort f_this_when) N f_this_isHeard f_this_goneBy f_this_stand f_this_standing x2 x3 x3
def g_X12_hears_L64 (N : Nat) (f_this_book : (Nat → Int32)) (f_this_sort : (Nat → Int32)) (f_this_when : (Nat → Int32)) (k_89 : (Nat → Int32) → (Nat → Int32) → (Nat → Int32) → Int32 → Int32 → Int32 → Option ((Nat → Int32) × (Nat → Int32) × (Nat → Int32) × Int32)) : Nat → (Nat → Int32) → (Nat → Int32) → (Nat → Int32) → Int32 → Int32 → Int32 → Int32 → Int32 → Option ((Nat → Int32) × (Nat → Int32) × (Nat → Int32) × Int32)
  | 0, _, _, _, _, _, _, _, _ => none
  | fu + 1, f_this_isHeard, f_this_goneBy, f_this_stand, f_this_standing, x1, x2, x3, x4 => if x3 ≤ x4 then k_89 f_this_isHeard f_this_goneBy f_this_stand f_this_standing x2 x3 else gi x4 128 (gi (f_this_stand x4.toNatClampNeg) 128 (g_X12_hears_L64 N f_this_book f_this_sort f_this_when k_89 fu f_this_isHeard (upd f_this_goneBy (f_this_stand x4.toNatClampNeg : Int32).toNatClampNeg x1) f_this_stand f_this_standing x1 x2 x3 (x4 + 1)))
def g_X12_hears_b60 (N : Nat) (f_this_book : (Nat → Int32)) (f_this_sort : (Nat → Int32)) (f_this_when : (Nat → Int32)) (f_this_isHeard : (Nat → Int32)) (f_this_goneBy : (Nat → Int32)) (f_this_stand : (Nat → Int32)) (f_this_standing : Int32) (x1 : Int32) (x2 : Int32) (s0 : Int32) : Option ((Nat → Int32) × (Nat → Int32) × (Nat → Int32) × Int32) := g_X12_hears_L64 N f_this_book f_this_sort f_this_when (g_X12_hears_b89 N f_this_book f_this_sort f_this_when) N f_this_isHeard f_this_goneBy f_this_stand f_this_standing x1 x2 s0 x2
def g_X12_hears (N : Nat) (f_this_book : (Nat → Int32)) (f_this_sort : (Nat → Int32)) (f_this_when : (Nat → Int32)) (f_this_isHeard : (Nat → Int32)) (f_this_goneBy : (Nat → Int32)) (f_this_stand : (Nat → Int32)) (f_this_standing : Int32) (x1 : Int32) : Option ((Nat → Int32) × (Nat → Int32) × (Nat → Int32) × Int32) := gi x1 128 ((g_X12_hit N f_this_book f_this_sort f_this_when f_this_stand f_this_standing x1).bind fun v9 => if v9 = (-4) then gi f_this_standing 128 (some (upd f_this_isHeard x1.toNatClampNeg (vp_nar .boolean 1), f_this_goneBy, upd f_this_stand f_this_standing.toNatClampNeg x1, f_this_standing + 1)) else gi 2 78 (if (f_this_book (2 : Int32).toNatClampNeg) = 1 then g_X12_hears_b60 N f_this_book f_this_sort f_this_when (upd f_this_isHeard x1.toNatClampNeg (vp_nar .boolean 1)) f_this_goneBy f_this_stand f_this_standing x1 v9 f_this_standing else g_X12_hears_b60 N f_this_book f_this_sort f_this_when (upd f_this_isHeard x1.toNatClampNeg (vp_nar .boolean 1)) f_this_goneBy f_this_stand f_this_standing x1 v9 (v9 + 1)))
set_option maxHeartbeats 4000000 in
set_option maxRecDepth 100000 in
theorem c_X12_hears (l : Launch) (G : jG) (N : Nat) (q_this : Nat) (q_this_book : Nat) (q_this_sort : Nat) (q_this_when : Nat) (q_this_isHeard : Nat) (q_this_goneBy : Nat) (q_this_stand : Nat) (v_this_text : Value) (v_this_length : Value) (v_this_draft : Value) (v_this_s : Value) (v_this_kept : Value) (v_this_keptMany : Value) (v_this_acts : Value) (v_this_actMany : Value) (v_this_row : Value) (v_this_rowMany : Value) (v_this_tells : Value) (v_this_tellMany : Value) (v_this_at : Value) (v_this_told : Value) (v_this_place : Value) (v_this_minute : Value) (v_this_many : Value) (f_this_book : (Nat → Int32)) (f_this_sort : (Nat → Int32)) (f_this_when : (Nat → Int32)) (f_this_isHeard : (Nat → Int32)) (f_this_goneBy : (Nat → Int32)) (f_this_stand : (Nat → Int32)) (f_this_standing : Int32) (x1 : Int32) (u : (Nat → Int32) × (Nat → Int32) × (Nat → Int32) × Int32) (hu : g_X12_hears N f_this_book f_this_sort f_this_when f_this_isHeard f_this_goneBy f_this_stand f_this_standing x1 = some u) : MetRV l G yX12_hears wsX12_hears ({ frames := 1, cells := 0, slots := 0, locals := 25 } : Room) [.ref q_this, .int x1] (w_X12_hears G q_this q_this_book q_this_sort q_this_when q_this_isHeard q_this_goneBy q_this_stand v_this_text v_this_length v_this_draft v_this_s v_this_kept v_this_keptMany v_this_acts v_this_actMany v_this_row v_this_rowMany v_this_tells v_this_tellMany v_this_at v_this_told v_this_place v_this_minute v_this_many f_this_book f_this_sort f_this_when f_this_isHeard f_this_goneBy f_this_stand f_this_standing) (w_X12_hears G q_this q_this_book q_this_sort q_this_when q_this_isHeard q_this_goneBy q_this_stand v_this_text v_this_length v_this_draft v_this_s v_this_kept v_this_keptMany v_this_acts v_this_actMany v_this_row v_this_rowMany v_this_tells v_this_tellMany v_this_at v_this_told v_this_place v_this_minute v_this_many f_this_book f_this_sort f_this_when u.1 u.2.1 u.2.2.1 u.2.2.2) := by
  refine met_rwv (cc := cX12_hears) (maxL := 5) (lv0 := [(0, .ref q_this), (1, .int x1)]) (by decide) rfl rfl rfl rfl (fun X hX hW hret => ?_)
  have hinX12 : ∀ w ∈ u_ws RX12 TX12 24, w ∈ wsX12_hears := by decide +kernel
  have hf_X12_book_13 : Cond.fieldLink RX12 13 (TX12 2).1 (TX12 2).2.1 (TX12 2).2.2.1 ∈ wsX12_hears := by decide +kernel
  have hf_X12_goneBy_53 : Cond.fieldLink RX12 53 (TX12 20).1 (TX12 20).2.1 (TX12 20).2.2.1 ∈ wsX12_hears := by decide +kernel
  have hf_X12_isHeard_49 : Cond.fieldLink RX12 49 (TX12 19).1 (TX12 19).2.1 (TX12 19).2.2.1 ∈ wsX12_hears := by decide +kernel
  have hf_X12_stand_56 : Cond.fieldLink RX12 56 (TX12 21).1 (TX12 21).2.1 (TX12 21).2.2.1 ∈ wsX12_hears := by decide +kernel
  have hf_X12_standing_134 : Cond.fieldLink RX12 134 (TX12 23).1 (TX12 23).2.1 (TX12 23).2.2.1 ∈ wsX12_hears := by decide +kernel
  have B125 : ∀ (f_this_isHeard : (Nat → Int32)) (f_this_goneBy : (Nat → Int32)) (f_this_stand : (Nat → Int32)) (f_this_standing : Int32) (x2 : Int32) (x3 : Int32), g_X12_hears_b125 N f_this_book f_this_sort f_this_when f_this_isHeard f_this_goneBy f_this_stand f_this_standing x2 x3 = some u → J X 0 0 (w_X12_hears G q_this q_this_book q_this_sort q_this_when q_this_isHeard q_this_goneBy q_this_stand v_this_text v_this_length v_this_draft v_this_s v_this_kept v_this_keptMany v_this_acts v_this_actMany v_this_row v_this_rowMany v_this_tells v_this_tellMany v_this_at v_this_told v_this_place v_this_minute v_this_many f_this_book f_this_sort f_this_when f_this_isHeard f_this_goneBy f_this_stand f_this_standing) 125 [(0, .ref q_this), (2, .int x2), (3, .int x3)] [] := by
    intro f_this_isHeard f_this_goneBy f_this_stand f_this_standing x2 x3 hg
    unfold g_X12_hears_b125 at hg
    refine j_aload_n hX 0 dX12_hears_125 rfl rfl ?_
    refine j_dup hX dX12_hears_126 rfl ?_
    refine j_get hX 0 23 rfl rfl hinX12 rfl hf_X12_standing_134 rfl dX12_hears_127 ?_
    refine j_iload_n hX 2 dX12_hears_130 rfl rfl ?_
    refine j_iload_n hX 1 dX12_hears_131 rfl rfl ?_
    refine j_isub hX dX12_hears_132 ?_
    refine j_isub hX dX12_hears_133 ?_
    refine j_put hX hW 0 23 rfl rfl hinX12 tyX12 tyX12_ok nmX12 rfl hf_X12_standing_134 rfl rfl rfl rfl dX12_hears_134 (ws' := (w_X12_hears G q_this q_this_book q_this_sort q_this_when q_this_isHeard q_this_goneBy q_this_stand v_this_text v_this_length v_this_draft v_this_s v_this_kept v_this_keptMany v_this_acts v_this_actMany v_this_row v_this_rowMany v_this_tells v_this_tellMany v_this_at v_this_told v_this_place v_this_minute v_this_many f_this_book f_this_sort f_this_when f_this_isHeard f_this_goneBy f_this_stand (f_this_standing - (x3 - x2)))) rfl ?_
    cases hg
    exact hret _ _ dX12_hears_137
  have L92 : ∀ (fu92 : Nat), ∀ (f_this_isHeard : (Nat → Int32)) (f_this_goneBy : (Nat → Int32)) (f_this_stand : (Nat → Int32)) (f_this_standing : Int32) (x2 : Int32) (x3 : Int32) (x4 : Int32), g_X12_hears_L92 N f_this_book f_this_sort f_this_when (g_X12_hears_b125 N f_this_book f_this_sort f_this_when) fu92 f_this_isHeard f_this_goneBy f_this_stand f_this_standing x2 x3 x4 = some u → J X 0 0 (w_X12_hears G q_this q_this_book q_this_sort q_this_when q_this_isHeard q_this_goneBy q_this_stand v_this_text v_this_length v_this_draft v_this_s v_this_kept v_this_keptMany v_this_acts v_this_actMany v_this_row v_this_rowMany v_this_tells v_this_tellMany v_this_at v_this_told v_this_place v_this_minute v_this_many f_this_book f_this_sort f_this_when f_this_isHeard f_this_goneBy f_this_stand f_this_standing) 92 [(0, .ref q_this), (2, .int x2), (3, .int x3), (4, .int x4)] [] := by
    intro fu92
    induction fu92 with
    | zero => intro f_this_isHeard f_this_goneBy f_this_stand f_this_standing x2 x3 x4 hg; exact nomatch hg
    | succ fu92 ih92 =>
      intro f_this_isHeard f_this_goneBy f_this_stand f_this_standing x2 x3 x4 hg
      unfold g_X12_hears_L92 at hg
      refine j_iload hX 3 dX12_hears_92 rfl ?_
      refine j_aload_n hX 0 dX12_hears_94 rfl rfl ?_
      refine j_get hX 0 23 rfl rfl hinX12 rfl hf_X12_standing_134 rfl dX12_hears_95 ?_
      refine j_icmp_ge hX 125 hg dX12_hears_98 (by decide) (fun hg => ?_) (fun hg => ?_)
      · refine j_lv [0, 1, 2] rfl ?_
        exact B125 _ _ _ _ _ _ hg
      · refine j_aload_n hX 0 dX12_hears_101 rfl rfl ?_
        refine j_get hX 0 21 rfl rfl hinX12 rfl hf_X12_stand_56 rfl dX12_hears_102 ?_
        refine j_iload hX 3 dX12_hears_105 rfl ?_
        refine j_iload_n hX 2 dX12_hears_107 rfl rfl ?_
        refine j_isub hX dX12_hears_108 ?_
        refine j_iload_n hX 1 dX12_hears_109 rfl rfl ?_
        refine j_iadd hX dX12_hears_110 ?_
        refine j_aload_n hX 0 dX12_hears_111 rfl rfl ?_
        refine j_get hX 0 21 rfl rfl hinX12 rfl hf_X12_stand_56 rfl dX12_hears_112 ?_
        refine j_iload hX 3 dX12_hears_115 rfl ?_
        refine j_iald hX 6 rfl hg dX12_hears_117 (fun hg => ?_)
        refine j_iast hX hW 6 rfl hg dX12_hears_118 (ws' := (w_X12_hears G q_this q_this_book q_this_sort q_this_when q_this_isHeard q_this_goneBy q_this_stand v_this_text v_this_length v_this_draft v_this_s v_this_kept v_this_keptMany v_this_acts v_this_actMany v_this_row v_this_rowMany v_this_tells v_this_tellMany v_this_at v_this_told v_this_place v_this_minute v_this_many f_this_book f_this_sort f_this_when f_this_isHeard f_this_goneBy (upd f_this_stand ((x4 - x3) + x2 : Int32).toNatClampNeg (f_this_stand x4.toNatClampNeg)) f_this_standing)) rfl (fun hg => ?_)
        refine j_iinc hX 3 (v := x4 + 1) (lv' := [(4, .int (x4 + 1)), (0, .ref q_this), (2, .int x2), (3, .int x3)]) dX12_hears_119 rfl (by rw [kc_1]) rfl rfl ?_
        refine j_goto hX 92 dX12_hears_122 (by decide) ?_
        refine j_lv [1, 2, 3, 0] rfl ?_
        exact ih92 _ _ _ _ _ _ _ hg
  have B89 : ∀ (f_this_isHeard : (Nat → Int32)) (f_this_goneBy : (Nat → Int32)) (f_this_stand : (Nat → Int32)) (f_this_standing : Int32) (x2 : Int32) (x3 : Int32), g_X12_hears_b89 N f_this_book f_this_sort f_this_when f_this_isHeard f_this_goneBy f_this_stand f_this_standing x2 x3 = some u → J X 0 0 (w_X12_hears G q_this q_this_book q_this_sort q_this_when q_this_isHeard q_this_goneBy q_this_stand v_this_text v_this_length v_this_draft v_this_s v_this_kept v_this_keptMany v_this_acts v_this_actMany v_this_row v_this_rowMany v_this_tells v_this_tellMany v_this_at v_this_told v_this_place v_this_minute v_this_many f_this_book f_this_sort f_this_when f_this_isHeard f_this_goneBy f_this_stand f_this_standing) 89 [(0, .ref q_this), (2, .int x2), (3, .int x3)] [] := by
    intro f_this_isHeard f_this_goneBy f_this_stand f_this_standing x2 x3 hg
    unfold g_X12_hears_b89 at hg
    refine j_iload_n hX 2 dX12_hears_89 rfl rfl ?_
    refine j_istore hX (lv' := [(4, .int x3), (0, .ref q_this), (2, .int x2), (3, .int x3)]) dX12_hears_90 rfl rfl ?_
    refine j_lv [1, 2, 3, 0] rfl ?_
    exact L92 N _ _ _ _ _ _ _ hg
  have L64 : ∀ (fu64 : Nat), ∀ (f_this_isHeard : (Nat → Int32)) (f_this_goneBy : (Nat → Int32)) (f_this_stand : (Nat → Int32)) (f_this_standing : Int32) (x1 : Int32) (x2 : Int32) (x3 : Int32) (x4 : Int32), g_X12_hears_L64 N f_this_book f_this_sort f_this_when (g_X12_hears_b89 N f_this_book f_this_sort f_this_when) fu64 f_this_isHeard f_this_goneBy f_this_stand f_this_standing x1 x2 x3 x4 = some u → J X 0 0 (w_X12_hears G q_this q_this_book q_this_sort q_this_when q_this_isHeard q_this_goneBy q_this_stand v_this_text v_this_length v_this_draft v_this_s v_this_kept v_this_keptMany v_this_acts v_this_actMany v_this_row v_this_rowMany v_this_tells v_this_tellMany v_this_at v_this_told v_this_place v_this_minute v_this_many f_this_book f_this_sort f_this_when f_this_isHeard f_this_goneBy f_this_stand f_this_standing) 64 [(0, .ref q_this), (1, .int x1), (2, .int x2), (3, .int x3), (4, .int x4)] [] := by
    intro fu64
    induction fu64 with
    | zero => intro f_this_isHeard f_this_goneBy f_this_stand f_this_standing x1 x2 x3 x4 hg; exact nomatch hg
    | succ fu64 ih64 =>
      intro f_this_isHeard f_this_goneBy f_this_stand f_this_standing x1 x2 x3 x4 hg
      unfold g_X12_hears_L64 at hg
      refine j_iload hX 4 dX12_hears_64 rfl ?_
      refine j_iload_n hX 3 dX12_hears_66 rfl rfl ?_
      refine j_icmp_ge hX 89 hg dX12_hears_67 (by decide) (fun hg => ?_) (fun hg => ?_)
      · refine j_lv [0, 2, 3] rfl ?_
        exact B89 _ _ _ _ _ _ hg
      · refine j_aload_n hX 0 dX12_hears_70 rfl rfl ?_
        refine j_get hX 0 20 rfl rfl hinX12 rfl hf_X12_goneBy_53 rfl dX12_hears_71 ?_
        refine j_aload_n hX 0 dX12_hears_74 rfl rfl ?_
        refine j_get hX 0 21 rfl rfl hinX12 rfl hf_X12_stand_56 rfl dX12_hears_75 ?_
        refine j_iload hX 4 dX12_hears_78 rfl ?_
        refine j_iald hX 6 rfl hg dX12_hears_80 (fun hg => ?_)
        refine j_iload_n hX 1 dX12_hears_81 rfl rfl ?_
        refine j_iast hX hW 5 rfl hg dX12_hears_82 (ws' := (w_X12_hears G q_this q_this_book q_this_sort q_this_when q_this_isHeard q_this_goneBy q_this_stand v_this_text v_this_length v_this_draft v_this_s v_this_kept v_this_keptMany v_this_acts v_this_actMany v_this_row v_this_rowMany v_this_tells v_this_tellMany v_this_at v_this_told v_this_place v_this_minute v_this_many f_this_book f_this_sort f_this_when f_this_isHeard (upd f_this_goneBy (f_this_stand x4.toNatClampNeg : Int32).toNatClampNeg x1) f_this_stand f_this_standing)) rfl (fun hg => ?_)
        refine j_iinc hX 4 (v := x4 + 1) (lv' := [(4, .int (x4 + 1)), (0, .ref q_this), (1, .int x1), (2, .int x2), (3, .int x3)]) dX12_hears_83 rfl (by rw [kc_1]) rfl rfl ?_
        refine j_goto hX 64 dX12_hears_86 (by decide) ?_
        refine j_lv [1, 2, 3, 4, 0] rfl ?_
        exact ih64 _ _ _ _ _ _ _ _ hg
  have B60 : ∀ (f_this_isHeard : (Nat → Int32)) (f_this_goneBy : (Nat → Int32)) (f_this_stand : (Nat → Int32)) (f_this_standing : Int32) (x1 : Int32) (x2 : Int32) (s0 : Int32), g_X12_hears_b60 N f_this_book f_this_sort f_this_when f_this_isHeard f_this_goneBy f_this_stand f_this_standing x1 x2 s0 = some u → J X 0 0 (w_X12_hears G q_this q_this_book q_this_sort q_this_when q_this_isHeard q_this_goneBy q_this_stand v_this_text v_this_length v_this_draft v_this_s v_this_kept v_this_keptMany v_this_acts v_this_actMany v_this_row v_this_rowMany v_this_tells v_this_tellMany v_this_at v_this_told v_this_place v_this_minute v_this_many f_this_book f_this_sort f_this_when f_this_isHeard f_this_goneBy f_this_stand f_this_standing) 60 [(0, .ref q_this), (1, .int x1), (2, .int x2)] [.int s0] := by
    intro f_this_isHeard f_this_goneBy f_this_stand f_this_standing x1 x2 s0 hg
    unfold g_X12_hears_b60 at hg
    refine j_istore_n hX (lv' := [(3, .int s0), (0, .ref q_this), (1, .int x1), (2, .int x2)]) dX12_hears_60 rfl rfl rfl ?_
    refine j_iload_n hX 3 dX12_hears_61 rfl rfl ?_
    refine j_istore hX (lv' := [(4, .int x2), (3, .int s0), (0, .ref q_this), (1, .int x1), (2, .int x2)]) dX12_hears_62 rfl rfl ?_
    refine j_lv [2, 3, 4, 1, 0] rfl ?_
    exact L64 N _ _ _ _ _ _ _ _ hg
  have hg := hu
  unfold g_X12_hears at hg
  refine j_aload_n hX 0 dX12_hears_0 rfl rfl ?_
  refine j_get hX 0 19 rfl rfl hinX12 rfl hf_X12_isHeard_49 rfl dX12_hears_1 ?_
  refine j_iload_n hX 1 dX12_hears_4 rfl rfl ?_
  refine j_iconst hX dX12_hears_5 kc_1 ?_
  refine j_zast hX hW 4 rfl hg dX12_hears_6 (ws' := (w_X12_hears G q_this q_this_book q_this_sort q_this_when q_this_isHeard q_this_goneBy q_this_stand v_this_text v_this_length v_this_draft v_this_s v_this_kept v_this_keptMany v_this_acts v_this_actMany v_this_row v_this_rowMany v_this_tells v_this_tellMany v_this_at v_this_told v_this_place v_this_minute v_this_many f_this_book f_this_sort f_this_when (upd f_this_isHeard x1.toNatClampNeg (vp_nar .boolean 1)) f_this_goneBy f_this_stand f_this_standing)) rfl (fun hg => ?_)
  refine j_aload_n hX 0 dX12_hears_7 rfl rfl ?_
  refine j_iload_n hX 1 dX12_hears_8 rfl rfl ?_
  refine j_vRO hX (r := fun v => v) [.int x1] hg (fun v hv => c_X12_hit l G N q_this q_this_book q_this_sort q_this_when q_this_stand v_this_text v_this_length v_this_draft v_this_s v_this_kept v_this_keptMany v_this_acts v_this_actMany v_this_row v_this_rowMany v_this_tells v_this_tellMany v_this_at v_this_told v_this_place v_this_minute (.ref q_this_isHeard) (.ref q_this_goneBy) v_this_many f_this_book f_this_sort f_this_when f_this_stand f_this_standing x1 v hv) gX12_hears_X12_hit rfl ⟨rfl, rfl⟩ ⟨rfl, by decide, by decide, rfl⟩ rfl rfl [0, 1, 2, 3, 6] rfl rfl rfl dX12_hears_9 rfl rfl ⟨Nat.zero_le _, Nat.zero_le _⟩ (fun v9 hg => ?_)
  refine j_istore_n hX (lv' := [(2, .int v9), (0, .ref q_this), (1, .int x1)]) dX12_hears_12 rfl rfl rfl ?_
  refine j_iload_n hX 0 dX12_hears_13 rfl rfl ?_
  refine j_bipush hX dX12_hears_14 kb_m4 ?_
  refine j_icmp_ne hX 40 hg dX12_hears_16 (by decide) (fun hg => ?_) (fun hg => ?_)
  · refine j_aload_n hX 1 dX12_hears_19 rfl rfl ?_
    refine j_get hX 0 21 rfl rfl hinX12 rfl hf_X12_stand_56 rfl dX12_hears_20 ?_
    refine j_aload_n hX 1 dX12_hears_23 rfl rfl ?_
    refine j_get hX 0 23 rfl rfl hinX12 rfl hf_X12_standing_134 rfl dX12_hears_24 ?_
    refine j_iload_n hX 2 dX12_hears_27 rfl rfl ?_
    refine j_iast hX hW 6 rfl hg dX12_hears_28 (ws' := (w_X12_hears G q_this q_this_book q_this_sort q_this_when q_this_isHeard q_this_goneBy q_this_stand v_this_text v_this_length v_this_draft v_this_s v_this_kept v_this_keptMany v_this_acts v_this_actMany v_this_row v_this_rowMany v_this_tells v_this_tellMany v_this_at v_this_told v_this_place v_this_minute v_this_many f_this_book f_this_sort f_this_when (upd f_this_isHeard x1.toNatClampNeg (vp_nar .boolean 1)) f_this_goneBy (upd f_this_stand f_this_standing.toNatClampNeg x1) f_this_standing)) rfl (fun hg => ?_)
    refine j_aload_n hX 1 dX12_hears_29 rfl rfl ?_
    refine j_dup hX dX12_hears_30 rfl ?_
    refine j_get hX 0 23 rfl rfl hinX12 rfl hf_X12_standing_134 rfl dX12_hears_31 ?_
    refine j_iconst hX dX12_hears_34 kc_1 ?_
    refine j_iadd hX dX12_hears_35 ?_
    refine j_put hX hW 0 23 rfl rfl hinX12 tyX12 tyX12_ok nmX12 rfl hf_X12_standing_134 rfl rfl rfl rfl dX12_hears_36 (ws' := (w_X12_hears G q_this q_this_book q_this_sort q_this_when q_this_isHeard q_this_goneBy q_this_stand v_this_text v_this_length v_this_draft v_this_s v_this_kept v_this_keptMany v_this_acts v_this_actMany v_this_row v_this_rowMany v_this_tells v_this_tellMany v_this_at v_this_told v_this_place v_this_minute v_this_many f_this_book f_this_sort f_this_when (upd f_this_isHeard x1.toNatClampNeg (vp_nar .boolean 1)) f_this_goneBy (upd f_this_stand f_this_standing.toNatClampNeg x1) (f_this_standing + 1))) rfl ?_
    cases hg
    exact hret _ _ dX12_hears_39
  · refine j_aload_n hX 1 dX12_hears_40 rfl rfl ?_
    refine j_get hX 0 2 rfl rfl hinX12 rfl hf_X12_book_13 rfl dX12_hears_41 ?_
    refine j_iconst hX dX12_hears_44 kc_2 ?_
    refine j_iald hX 1 rfl hg dX12_hears_45 (fun hg => ?_)
    refine j_iconst hX dX12_hears_46 kc_1 ?_
    refine j_icmp_ne hX 57 hg dX12_hears_47 (by decide) (fun hg => ?_) (fun hg => ?_)
    · refine j_aload_n hX 1 dX12_hears_50 rfl rfl ?_
      refine j_get hX 0 23 rfl rfl hinX12 rfl hf_X12_standing_134 rfl dX12_hears_51 ?_
      refine j_goto hX 60 dX12_hears_54 (by decide) ?_
      refine j_lv [1, 2, 0] rfl ?_
      exact B60 _ _ _ _ _ _ _ hg
    · refine j_iload_n hX 0 dX12_hears_57 rfl rfl ?_
      refine j_iconst hX dX12_hears_58 kc_1 ?_
      refine j_iadd hX dX12_hears_59 ?_
      refine j_lv [1, 2, 0] rfl ?_
      exact B60 _ _ _ _ _ _ _ hg
abbrev w_X12_plays (G : jG) (q_this : Nat) (q_this_book : Nat) (q_this_place : Nat) (q_this_sort : Nat) (q_this_minute : Nat) (q_this_when : Nat) (q_this_isHeard : Nat) (q_this_goneBy : Nat) (q_this_stand : Nat) (v_this_text : Value) (v_this_length : Value) (v_this_draft : Value) (v_this_s : Value) (v_this_kept : Value) (v_this_keptMany : Value) (v_this_acts : Value) (v_this_actMany : Value) (v_this_row : Value) (v_this_rowMany : Value) (v_this_tells : Value) (v_this_tellMany : Value) (v_this_at : Value) (v_this_told : Value) (f_this_book : (Nat → Int32)) (f_this_place : (Nat → Int32)) (f_this_sort : (Nat → Int32)) (f_this_minute : (Nat → Int32)) (f_this_when : (Nat → Int32)) (f_this_isHeard : (Nat → Int32)) (f_this_goneBy : (Nat → Int32)) (f_this_stand : (Nat → Int32)) (f_this_many : Int32) (f_this_standing : Int32) : va_W := [oC q_this 12 [v_this_text, v_this_length, .ref q_this_book, v_this_draft, v_this_s, v_this_kept, v_this_keptMany, v_this_acts, v_this_actMany, v_this_row, v_this_rowMany, v_this_tells, v_this_tellMany, v_this_at, v_this_told, .ref q_this_place, .ref q_this_sort, .ref q_this_minute, .ref q_this_when, .ref q_this_isHeard, .ref q_this_goneBy, .ref q_this_stand, .int f_this_many, .int f_this_standing], aI G q_this_book 78 f_this_book, aI G q_this_place 128 f_this_place, aI G q_this_sort 128 f_this_sort, aI G q_this_minute 128 f_this_minute, aI G q_this_when 128 f_this_when, aZ G q_this_isHeard 128 f_this_isHeard, aI G q_this_goneBy 128 f_this_goneBy, aI G q_this_stand 128 f_this_stand]
def g_X12_plays_L72 (N : Nat) (f_this_book : (Nat → Int32)) (f_this_place : (Nat → Int32)) (f_this_sort : (Nat → Int32)) (f_this_minute : (Nat → Int32)) (f_this_many : Int32) : Nat → (Nat → Int32) → (Nat → Int32) → (Nat → Int32) → (Nat → Int32) → Int32 → Int32 → Int32 → Option ((Nat → Int32) × (Nat → Int32) × (Nat → Int32) × (Nat → Int32) × Int32)
  | 0, _, _, _, _, _, _, _ => none
  | fu + 1, f_this_when, f_this_isHeard, f_this_goneBy, f_this_stand, f_this_standing, x2, x3 => if x3 = (-4) then some (f_this_when, f_this_isHeard, f_this_goneBy, f_this_stand, f_this_standing) else (g_X12_hears N f_this_book f_this_sort f_this_when f_this_isHeard f_this_goneBy f_this_stand f_this_standing x3).bind fun v80 => (g_X12_next N f_this_minute f_this_when v80.1 f_this_many x2).bind fun v85 => g_X12_plays_L72 N f_this_book f_this_place f_this_sort f_this_minute f_this_many fu f_this_when v80.1 v80.2.1 v80.2.2.1 v80.2.2.2 x2 v85
def g_X12_plays_b66 (N : Nat) (f_this_book : (Nat → Int32)) (f_this_place : (Nat → Int32)) (f_this_sort : (Nat → Int32)) (f_this_minute : (Nat → Int32)) (f_this_many : Int32) (f_this_when : (Nat → Int32)) (f_this_isHeard : (Nat → Int32)) (f_this_goneBy : (Nat → Int32)) (f_this_stand : (Nat → Int32)) (f_this_standing : Int32) (x2 : Int32) : Option ((Nat → Int32) × (Nat → Int32) × (Nat → Int32) × (Nat → Int32) × Int32) := (g_X12_next N f_this_minute f_this_when f_this_isHeard f_this_many x2).bind fun v68 => g_X12_plays_L72 N f_this_book f_this_place f_this_sort f_this_minute f_this_many N f_this_when f_this_isHeard f_this_goneBy f_this_stand f_this_standing x2 v68
def g_X12_plays_L7 (N : Nat) (f_this_book : (Nat → Int32)) (f_this_place : (Nat → Int32)) (f_this_sort : (Nat → Int32)) (f_this_minute : (Nat → Int32)) (f_this_many : Int32) (k_66 : (Nat → Int32) → (Nat → Int32) → (Nat → Int32) → (Nat → Int32) → Int32 → Int32 → Option ((Nat → Int32) × (Nat → Int32) × (Nat → Int32) × (Nat → Int32) × Int32)) : Nat → (Nat → Int32) → (Nat → Int32) → (Nat → Int32) → (Nat → Int32) → Int32 → Int32 → Int32 → Int32 → Option ((Nat → Int32) × (Nat → Int32) × (Nat → Int32) × (Nat → Int32) × Int32)
  | 0, _, _, _, _, _, _, _, _ => none
  | fu + 1, f_this_when, f_this_isHeard, f_this_goneBy, f_this_stand, f_this_standing, x1, x2, x3 => if f_this_many ≤ x3 then k_66 f_this_when f_this_isHeard f_this_goneBy f_this_stand f_this_standing x2 else gi x3 128 (gi x3 128 (gi x3 128 (gi x3 128 (gi ((5 + (5 * (f_this_place x3.toNatClampNeg))) + x1) 78 (gi x3 128 (g_X12_plays_L7 N f_this_book f_this_place f_this_sort f_this_minute f_this_many k_66 fu (upd f_this_when x3.toNatClampNeg ((f_this_minute x3.toNatClampNeg) + (f_this_book ((5 + (5 * (f_this_place x3.toNatClampNeg))) + x1 : Int32).toNatClampNeg))) (upd f_this_isHeard x3.toNatClampNeg (vp_nar .boolean 0)) (upd f_this_goneBy x3.toNatClampNeg (-4)) f_this_stand f_this_standing x1 x2 (x3 + 1)))))))
def g_X12_plays (N : Nat) (f_this_book : (Nat → Int32)) (f_this_place : (Nat → Int32)) (f_this_sort : (Nat → Int32)) (f_this_minute : (Nat → Int32)) (f_this_many : Int32) (f_this_when : (Nat → Int32)) (f_this_isHeard : (Nat → Int32)) (f_this_goneBy : (Nat → Int32)) (f_this_stand : (Nat → Int32)) (f_this_standing : Int32) (x1 : Int32) (x2 : Int32) : Option ((Nat → Int32) × (Nat → Int32) × (Nat → Int32) × (Nat → Int32) × Int32) := g_X12_plays_L7 N f_this_book f_this_place f_this_sort f_this_minute f_this_many (g_X12_plays_b66 N f_this_book f_this_place f_this_sort f_this_minute f_this_many) N f_this_when f_this_isHeard f_this_goneBy f_this_stand 0 x1 x2 0
set_option maxHeartbeats 4000000 in
set_option maxRecDepth 100000 in
theorem c_X12_plays (l : Launch) (G : jG) (N : Nat) (q_this : Nat) (q_this_book : Nat) (q_this_place : Nat) (q_this_sort : Nat) (q_this_minute : Nat) (q_this_when : Nat) (q_this_isHeard : Nat) (q_this_goneBy : Nat) (q_this_stand : Nat) (v_this_text : Value) (v_this_length : Value) (v_this_draft : Value) (v_this_s : Value) (v_this_kept : Value) (v_this_keptMany : Value) (v_this_acts : Value) (v_this_actMany : Value) (v_this_row : Value) (v_this_rowMany : Value) (v_this_tells : Value) (v_this_tellMany : Value) (v_this_at : Value) (v_this_told : Value) (f_this_book : (Nat → Int32)) (f_this_place : (Nat → Int32)) (f_this_sort : (Nat → Int32)) (f_this_minute : (Nat → Int32)) (f_this_when : (Nat → Int32)) (f_this_isHeard : (Nat → Int32)) (f_this_goneBy : (Nat → Int32)) (f_this_stand : (Nat → Int32)) (f_this_many : Int32) (f_this_standing : Int32) (x1 : Int32) (x2 : Int32) (u : (Nat → Int32) × (Nat → Int32) × (Nat → Int32) × (Nat → Int32) × Int32) (hu : g_X12_plays N f_this_book f_this_place f_this_sort f_this_minute f_this_many f_this_when f_this_isHeard f_this_goneBy f_this_stand f_this_standing x1 x2 = some u) : MetRV l G yX12_plays wsX12_plays ({ frames := 2, cells := 0, slots := 0, locals := 49 } : Room) [.ref q_this, .int x1, .int x2] (w_X12_plays G q_this q_this_book q_this_place q_this_sort q_this_minute q_this_when q_this_isHeard q_this_goneBy q_this_stand v_this_text v_this_length v_this_draft v_this_s v_this_kept v_this_keptMany v_this_acts v_this_actMany v_this_row v_this_rowMany v_this_tells v_this_tellMany v_this_at v_this_told f_this_book f_this_place f_this_sort f_this_minute f_this_when f_this_isHeard f_this_goneBy f_this_stand f_this_many f_this_standing) (w_X12_plays G q_this q_this_book q_this_place q_this_sort q_this_minute q_this_when q_this_isHeard q_this_goneBy q_this_stand v_this_text v_this_length v_this_draft v_this_s v_this_kept v_this_keptMany v_this_acts v_this_actMany v_this_row v_this_rowMany v_this_tells v_this_tellMany v_this_at v_this_told f_this_book f_this_place f_this_sort f_this_minute u.1 u.2.1 u.2.2.1 u.2.2.2.1 f_this_many u.2.2.2.2) := by
  refine met_rwv (cc := cX12_plays) (maxL := 4) (lv0 := [(0, .ref q_this), (1, .int x1), (2, .int x2)]) (by decide) rfl rfl rfl rfl (fun X hX hW hret => ?_)
  have hinX12 : ∀ w ∈ u_ws RX12 TX12 24, w ∈ wsX12_plays := by decide +kernel
  have hf_X12_book_13 : Cond.fieldLink RX12 13 (TX12 2).1 (TX12 2).2.1 (TX12 2).2.2.1 ∈ wsX12_plays := by decide +kernel
  have hf_X12_goneBy_53 : Cond.fieldLink RX12 53 (TX12 20).1 (TX12 20).2.1 (TX12 20).2.2.1 ∈ wsX12_plays := by decide +kernel
  have hf_X12_isHeard_49 : Cond.fieldLink RX12 49 (TX12 19).1 (TX12 19).2.1 (TX12 19).2.2.1 ∈ wsX12_plays := by decide +kernel
  have hf_X12_many_127 : Cond.fieldLink RX12 127 (TX12 22).1 (TX12 22).2.1 (TX12 22).2.2.1 ∈ wsX12_plays := by decide +kernel
  have hf_X12_minute_43 : Cond.fieldLink RX12 43 (TX12 17).1 (TX12 17).2.1 (TX12 17).2.2.1 ∈ wsX12_plays := by decide +kernel
  have hf_X12_place_37 : Cond.fieldLink RX12 37 (TX12 15).1 (TX12 15).2.1 (TX12 15).2.2.1 ∈ wsX12_plays := by decide +kernel
  have hf_X12_standing_134 : Cond.fieldLink RX12 134 (TX12 23).1 (TX12 23).2.1 (TX12 23).2.2.1 ∈ wsX12_plays := by decide +kernel
  have hf_X12_when_46 : Cond.fieldLink RX12 46 (TX12 18).1 (TX12 18).2.1 (TX12 18).2.2.1 ∈ wsX12_plays := by decide +kernel
  have L72 : ∀ (fu72 : Nat), ∀ (f_this_when : (Nat → Int32)) (f_this_isHeard : (Nat → Int32)) (f_this_goneBy : (Nat → Int32)) (f_this_stand : (Nat → Int32)) (f_this_standing : Int32) (x2 : Int32) (x3 : Int32), g_X12_plays_L72 N f_this_book f_this_place f_this_sort f_this_minute f_this_many fu72 f_this_when f_this_isHeard f_this_goneBy f_this_stand f_this_standing x2 x3 = some u → J X 0 0 (w_X12_plays G q_this q_this_book q_this_place q_this_sort q_this_minute q_this_when q_this_isHeard q_this_goneBy q_this_stand v_this_text v_this_length v_this_draft v_this_s v_this_kept v_this_keptMany v_this_acts v_this_actMany v_this_row v_this_rowMany v_this_tells v_this_tellMany v_this_at v_this_told f_this_book f_this_place f_this_sort f_this_minute f_this_when f_this_isHeard f_this_goneBy f_this_stand f_this_many f_this_standing) 72 [(0, .ref q_this), (2, .int x2), (3, .int x3)] [] := by
    intro fu72
    induction fu72 with
    | zero => intro f_this_when f_this_isHeard f_this_goneBy f_this_stand f_this_standing x2 x3 hg; exact nomatch hg
    | succ fu72 ih72 =>
      intro f_this_when f_this_isHeard f_this_goneBy f_this_stand f_this_standing x2 x3 hg
      unfold g_X12_plays_L72 at hg
      refine j_iload_n hX 2 dX12_plays_72 rfl rfl ?_
      refine j_bipush hX dX12_plays_73 kb_m4 ?_
      refine j_icmp_eq hX 92 hg dX12_plays_75 (by decide) (fun hg => ?_) (fun hg => ?_)
      · cases hg
        exact hret _ _ dX12_plays_92
      · refine j_aload_n hX 0 dX12_plays_78 rfl rfl ?_
        refine j_iload_n hX 2 dX12_plays_79 rfl rfl ?_
        refine j_vRV hX hW (w1 := fun v => (w_X12_hears G q_this q_this_book q_this_sort q_this_when q_this_isHeard q_this_goneBy q_this_stand v_this_text v_this_length v_this_draft v_this_s v_this_kept v_this_keptMany v_this_acts v_this_actMany v_this_row v_this_rowMany v_this_tells v_this_tellMany v_this_at v_this_told (.ref q_this_place) (.ref q_this_minute) (.int f_this_many) f_this_book f_this_sort f_this_when v.1 v.2.1 v.2.2.1 v.2.2.2)) (ws' := fun v => (w_X12_plays G q_this q_this_book q_this_place q_this_sort q_this_minute q_this_when q_this_isHeard q_this_goneBy q_this_stand v_this_text v_this_length v_this_draft v_this_s v_this_kept v_this_keptMany v_this_acts v_this_actMany v_this_row v_this_rowMany v_this_tells v_this_tellMany v_this_at v_this_told f_this_book f_this_place f_this_sort f_this_minute f_this_when v.1 v.2.1 v.2.2.1 f_this_many v.2.2.2)) [.int x3] hg (fun v hv => c_X12_hears l G N q_this q_this_book q_this_sort q_this_when q_this_isHeard q_this_goneBy q_this_stand v_this_text v_this_length v_this_draft v_this_s v_this_kept v_this_keptMany v_this_acts v_this_actMany v_this_row v_this_rowMany v_this_tells v_this_tellMany v_this_at v_this_told (.ref q_this_place) (.ref q_this_minute) (.int f_this_many) f_this_book f_this_sort f_this_when f_this_isHeard f_this_goneBy f_this_stand f_this_standing x3 v hv) gX12_plays_X12_hears rfl ⟨rfl, rfl⟩ ⟨rfl, by decide, by decide, rfl⟩ rfl rfl [0, 1, 3, 5, 6, 7, 8] rfl (by decide +kernel) rfl rfl dX12_plays_80 rfl rfl ⟨Nat.zero_le _, Nat.zero_le _⟩ (fun _ => jn_set [0, 1, 3, 5, 6, 7, 8] rfl rfl rfl) (fun v80 hg => ?_)
        refine j_aload_n hX 0 dX12_plays_83 rfl rfl ?_
        refine j_iload_n hX 1 dX12_plays_84 rfl rfl ?_
        refine j_vRO hX (r := fun v => v) [.int x2] hg (fun v hv => c_X12_next l G N q_this q_this_minute q_this_when q_this_isHeard v_this_text v_this_length (.ref q_this_book) v_this_draft v_this_s v_this_kept v_this_keptMany v_this_acts v_this_actMany v_this_row v_this_rowMany v_this_tells v_this_tellMany v_this_at v_this_told (.ref q_this_place) (.ref q_this_sort) (.ref q_this_goneBy) (.ref q_this_stand) (.int v80.2.2.2) f_this_minute f_this_when v80.1 f_this_many x2 v hv) gX12_plays_X12_next rfl ⟨rfl, rfl⟩ ⟨rfl, by decide, by decide, rfl⟩ rfl rfl [0, 4, 5, 6] rfl rfl rfl dX12_plays_85 rfl rfl ⟨Nat.zero_le _, Nat.zero_le _⟩ (fun v85 hg => ?_)
        refine j_istore_n hX (lv' := [(3, .int v85), (0, .ref q_this), (2, .int x2)]) dX12_plays_88 rfl rfl rfl ?_
        refine j_goto hX 72 dX12_plays_89 (by decide) ?_
        refine j_lv [1, 2, 0] rfl ?_
        exact ih72 _ _ _ _ _ _ _ hg
  have B66 : ∀ (f_this_when : (Nat → Int32)) (f_this_isHeard : (Nat → Int32)) (f_this_goneBy : (Nat → Int32)) (f_this_stand : (Nat → Int32)) (f_this_standing : Int32) (x2 : Int32), g_X12_plays_b66 N f_this_book f_this_place f_this_sort f_this_minute f_this_many f_this_when f_this_isHeard f_this_goneBy f_this_stand f_this_standing x2 = some u → J X 0 0 (w_X12_plays G q_this q_this_book q_this_place q_this_sort q_this_minute q_this_when q_this_isHeard q_this_goneBy q_this_stand v_this_text v_this_length v_this_draft v_this_s v_this_kept v_this_keptMany v_this_acts v_this_actMany v_this_row v_this_rowMany v_this_tells v_this_tellMany v_this_at v_this_told f_this_book f_this_place f_this_sort f_this_minute f_this_when f_this_isHeard f_this_goneBy f_this_stand f_this_many f_this_standing) 66 [(0, .ref q_this), (2, .int x2)] [] := by
    intro f_this_when f_this_isHeard f_this_goneBy f_this_stand f_this_standing x2 hg
    unfold g_X12_plays_b66 at hg
    refine j_aload_n hX 0 dX12_plays_66 rfl rfl ?_
    refine j_iload_n hX 1 dX12_plays_67 rfl rfl ?_
    refine j_vRO hX (r := fun v => v) [.int x2] hg (fun v hv => c_X12_next l G N q_this q_this_minute q_this_when q_this_isHeard v_this_text v_this_length (.ref q_this_book) v_this_draft v_this_s v_this_kept v_this_keptMany v_this_acts v_this_actMany v_this_row v_this_rowMany v_this_tells v_this_tellMany v_this_at v_this_told (.ref q_this_place) (.ref q_this_sort) (.ref q_this_goneBy) (.ref q_this_stand) (.int f_this_standing) f_this_minute f_this_when f_this_isHeard f_this_many x2 v hv) gX12_plays_X12_next rfl ⟨rfl, rfl⟩ ⟨rfl, by decide, by decide, rfl⟩ rfl rfl [0, 4, 5, 6] rfl rfl rfl dX12_plays_68 rfl rfl ⟨Nat.zero_le _, Nat.zero_le _⟩ (fun v68 hg => ?_)
    refine j_istore_n hX (lv' := [(3, .int v68), (0, .ref q_this), (2, .int x2)]) dX12_plays_71 rfl rfl rfl ?_
    refine j_lv [1, 2, 0] rfl ?_
    exact L72 N _ _ _ _ _ _ _ hg
  have L7 : ∀ (fu7 : Nat), ∀ (f_this_when : (Nat → Int32)) (f_this_isHeard : (Nat → Int32)) (f_this_goneBy : (Nat → Int32)) (f_this_stand : (Nat → Int32)) (f_this_standing : Int32) (x1 : Int32) (x2 : Int32) (x3 : Int32), g_X12_plays_L7 N f_this_book f_this_place f_this_sort f_this_minute f_this_many (g_X12_plays_b66 N f_this_book f_this_place f_this_sort f_this_minute f_this_many) fu7 f_this_when f_this_isHeard f_this_goneBy f_this_stand f_this_standing x1 x2 x3 = some u → J X 0 0 (w_X12_plays G q_this q_this_book q_this_place q_this_sort q_this_minute q_this_when q_this_isHeard q_this_goneBy q_this_stand v_this_text v_this_length v_this_draft v_this_s v_this_kept v_this_keptMany v_this_acts v_this_actMany v_this_row v_this_rowMany v_this_tells v_this_tellMany v_this_at v_this_told f_this_book f_this_place f_this_sort f_this_minute f_this_when f_this_isHeard f_this_goneBy f_this_stand f_this_many f_this_standing) 7 [(0, .ref q_this), (1, .int x1), (2, .int x2), (3, .int x3)] [] := by
    intro fu7
    induction fu7 with
    | zero => intro f_this_when f_this_isHeard f_this_goneBy f_this_stand f_this_standing x1 x2 x3 hg; exact nomatch hg
    | succ fu7 ih7 =>
      intro f_this_when f_this_isHeard f_this_goneBy f_this_stand f_this_standing x1 x2 x3 hg
      unfold g_X12_plays_L7 at hg
      refine j_iload_n hX 3 dX12_plays_7 rfl rfl ?_
      refine j_aload_n hX 0 dX12_plays_8 rfl rfl ?_
      refine j_get hX 0 22 rfl rfl hinX12 rfl hf_X12_many_127 rfl dX12_plays_9 ?_
      refine j_icmp_ge hX 66 hg dX12_plays_12 (by decide) (fun hg => ?_) (fun hg => ?_)
      · refine j_lv [0, 2] rfl ?_
        exact B66 _ _ _ _ _ _ hg
      · refine j_aload_n hX 0 dX12_plays_15 rfl rfl ?_
        refine j_get hX 0 19 rfl rfl hinX12 rfl hf_X12_isHeard_49 rfl dX12_plays_16 ?_
        refine j_iload_n hX 3 dX12_plays_19 rfl rfl ?_
        refine j_iconst hX dX12_plays_20 kc_0 ?_
        refine j_zast hX hW 6 rfl hg dX12_plays_21 (ws' := (w_X12_plays G q_this q_this_book q_this_place q_this_sort q_this_minute q_this_when q_this_isHeard q_this_goneBy q_this_stand v_this_text v_this_length v_this_draft v_this_s v_this_kept v_this_keptMany v_this_acts v_this_actMany v_this_row v_this_rowMany v_this_tells v_this_tellMany v_this_at v_this_told f_this_book f_this_place f_this_sort f_this_minute f_this_when (upd f_this_isHeard x3.toNatClampNeg (vp_nar .boolean 0)) f_this_goneBy f_this_stand f_this_many f_this_standing)) rfl (fun hg => ?_)
        refine j_aload_n hX 0 dX12_plays_22 rfl rfl ?_
        refine j_get hX 0 20 rfl rfl hinX12 rfl hf_X12_goneBy_53 rfl dX12_plays_23 ?_
        refine j_iload_n hX 3 dX12_plays_26 rfl rfl ?_
        refine j_bipush hX dX12_plays_27 kb_m4 ?_
        refine j_iast hX hW 7 rfl hg dX12_plays_29 (ws' := (w_X12_plays G q_this q_this_book q_this_place q_this_sort q_this_minute q_this_when q_this_isHeard q_this_goneBy q_this_stand v_this_text v_this_length v_this_draft v_this_s v_this_kept v_this_keptMany v_this_acts v_this_actMany v_this_row v_this_rowMany v_this_tells v_this_tellMany v_this_at v_this_told f_this_book f_this_place f_this_sort f_this_minute f_this_when (upd f_this_isHeard x3.toNatClampNeg (vp_nar .boolean 0)) (upd f_this_goneBy x3.toNatClampNeg (-4)) f_this_stand f_this_many f_this_standing)) rfl (fun hg => ?_)
        refine j_aload_n hX 0 dX12_plays_30 rfl rfl ?_
        refine j_get hX 0 18 rfl rfl hinX12 rfl hf_X12_when_46 rfl dX12_plays_31 ?_
        refine j_iload_n hX 3 dX12_plays_34 rfl rfl ?_
        refine j_aload_n hX 0 dX12_plays_35 rfl rfl ?_
        refine j_get hX 0 17 rfl rfl hinX12 rfl hf_X12_minute_43 rfl dX12_plays_36 ?_
        refine j_iload_n hX 3 dX12_plays_39 rfl rfl ?_
        refine j_iald hX 4 rfl hg dX12_plays_40 (fun hg => ?_)
        refine j_aload_n hX 0 dX12_plays_41 rfl rfl ?_
        refine j_get hX 0 2 rfl rfl hinX12 rfl hf_X12_book_13 rfl dX12_plays_42 ?_
        refine j_iconst hX dX12_plays_45 kc_5 ?_
        refine j_iconst hX dX12_plays_46 kc_5 ?_
        refine j_aload_n hX 0 dX12_plays_47 rfl rfl ?_
        refine j_get hX 0 15 rfl rfl hinX12 rfl hf_X12_place_37 rfl dX12_plays_48 ?_
        refine j_iload_n hX 3 dX12_plays_51 rfl rfl ?_
        refine j_iald hX 2 rfl hg dX12_plays_52 (fun hg => ?_)
        refine j_imul hX dX12_plays_53 ?_
        refine j_iadd hX dX12_plays_54 ?_
        refine j_iload_n hX 1 dX12_plays_55 rfl rfl ?_
        refine j_iadd hX dX12_plays_56 ?_
        refine j_iald hX 1 rfl hg dX12_plays_57 (fun hg => ?_)
        refine j_iadd hX dX12_plays_58 ?_
        refine j_iast hX hW 5 rfl hg dX12_plays_59 (ws' := (w_X12_plays G q_this q_this_book q_this_place q_this_sort q_this_minute q_this_when q_this_isHeard q_this_goneBy q_this_stand v_this_text v_this_length v_this_draft v_this_s v_this_kept v_this_keptMany v_this_acts v_this_actMany v_this_row v_this_rowMany v_this_tells v_this_tellMany v_this_at v_this_told f_this_book f_this_place f_this_sort f_this_minute (upd f_this_when x3.toNatClampNeg ((f_this_minute x3.toNatClampNeg) + (f_this_book ((5 + (5 * (f_this_place x3.toNatClampNeg))) + x1 : Int32).toNatClampNeg))) (upd f_this_isHeard x3.toNatClampNeg (vp_nar .boolean 0)) (upd f_this_goneBy x3.toNatClampNeg (-4)) f_this_stand f_this_many f_this_standing)) rfl (fun hg => ?_)
        refine j_iinc hX 3 (v := x3 + 1) (lv' := [(3, .int (x3 + 1)), (0, .ref q_this), (1, .int x1), (2, .int x2)]) dX12_plays_60 rfl (by rw [kc_1]) rfl rfl ?_
        refine j_goto hX 7 dX12_plays_63 (by decide) ?_
        refine j_lv [1, 2, 3, 0] rfl ?_
        exact ih7 _ _ _ _ _ _ _ _ hg
  have hg := hu
  unfold g_X12_plays at hg
  refine j_aload_n hX 0 dX12_plays_0 rfl rfl ?_
  refine j_iconst hX dX12_plays_1 kc_0 ?_
  refine j_put hX hW 0 23 rfl rfl hinX12 tyX12 tyX12_ok nmX12 rfl hf_X12_standing_134 rfl rfl rfl rfl dX12_plays_2 (ws' := (w_X12_plays G q_this q_this_book q_this_place q_this_sort q_this_minute q_this_when q_this_isHeard q_this_goneBy q_this_stand v_this_text v_this_length v_this_draft v_this_s v_this_kept v_this_keptMany v_this_acts v_this_actMany v_this_row v_this_rowMany v_this_tells v_this_tellMany v_this_at v_this_told f_this_book f_this_place f_this_sort f_this_minute f_this_when f_this_isHeard f_this_goneBy f_this_stand f_this_many 0)) rfl ?_
  refine j_iconst hX dX12_plays_5 kc_0 ?_
  refine j_istore_n hX (lv' := [(3, .int 0), (0, .ref q_this), (1, .int x1), (2, .int x2)]) dX12_plays_6 rfl rfl rfl ?_
  refine j_lv [1, 2, 3, 0] rfl ?_
  exact L7 N _ _ _ _ _ _ _ _ hg
abbrev w_X12_playsNow (G : jG) (q_this : Nat) (q_this_book : Nat) (q_this_s : Nat) (q_this_place : Nat) (q_this_sort : Nat) (q_this_minute : Nat) (q_this_when : Nat) (q_this_isHeard : Nat) (q_this_goneBy : Nat) (q_this_stand : Nat) (v_this_text : Value) (v_this_length : Value) (v_this_draft : Value) (v_this_kept : Value) (v_this_keptMany : Value) (v_this_acts : Value) (v_this_actMany : Value) (v_this_row : Value) (v_this_rowMany : Value) (v_this_tells : Value) (v_this_tellMany : Value) (v_this_at : Value) (v_this_told : Value) (f_this_book : (Nat → Int32)) (f_this_s : (Nat → Int32)) (f_this_place : (Nat → Int32)) (f_this_sort : (Nat → Int32)) (f_this_minute : (Nat → Int32)) (f_this_when : (Nat → Int32)) (f_this_isHeard : (Nat → Int32)) (f_this_goneBy : (Nat → Int32)) (f_this_stand : (Nat → Int32)) (f_this_many : Int32) (f_this_standing : Int32) : va_W := [oC q_this 12 [v_this_text, v_this_length, .ref q_this_book, v_this_draft, .ref q_this_s, v_this_kept, v_this_keptMany, v_this_acts, v_this_actMany, v_this_row, v_this_rowMany, v_this_tells, v_this_tellMany, v_this_at, v_this_told, .ref q_this_place, .ref q_this_sort, .ref q_this_minute, .ref q_this_when, .ref q_this_isHeard, .ref q_this_goneBy, .ref q_this_stand, .int f_this_many, .int f_this_standing], aI G q_this_book 78 f_this_book, aI G q_this_s 74 f_this_s, aI G q_this_place 128 f_this_place, aI G q_this_sort 128 f_this_sort, aI G q_this_minute 128 f_this_minute, aI G q_this_when 128 f_this_when, aZ G q_this_isHeard 128 f_this_isHeard, aI G q_this_goneBy 128 f_this_goneBy, aI G q_this_stand 128 f_this_stand]
def g_X12_playsNow (N : Nat) (f_this_book : (Nat → Int32)) (f_this_s : (Nat → Int32)) (f_this_place : (Nat → Int32)) (f_this_sort : (Nat → Int32)) (f_this_minute : (Nat → Int32)) (f_this_when : (Nat → Int32)) (f_this_isHeard : (Nat → Int32)) (f_this_goneBy : (Nat → Int32)) (f_this_stand : (Nat → Int32)) (f_this_many : Int32) (f_this_standing : Int32) (x1 : Int32) (x2 : Int32) : Option ((Nat → Int32) × (Nat → Int32) × (Nat → Int32) × (Nat → Int32) × (Nat → Int32) × (Nat → Int32) × (Nat → Int32) × Int32 × Int32) := (g_X12_starts N f_this_s f_this_place f_this_sort f_this_minute f_this_many).bind fun v1 => (g_X12_plays N f_this_book v1.1 v1.2.1 v1.2.2.1 v1.2.2.2 f_this_when f_this_isHeard f_this_goneBy f_this_stand f_this_standing x1 x2).bind fun v7 => some (v1.1, v1.2.1, v1.2.2.1, v7.1, v7.2.1, v7.2.2.1, v7.2.2.2.1, v1.2.2.2, v7.2.2.2.2)
set_option maxRecDepth 100000 in
theorem ax_X12_playsNow_7 (c0 c1 c2 c3 c4 c5 c6 c7 c8 c9 d0 d1 d2 d3 d4 d5 d6 d7 d8 : Nat × va_E) : [0, 1, 3, 4, 5, 6, 7, 8, 9].map (fun i => ([c0, c1, c2, c3, c4, c5, c6, c7, c8, c9] : va_W)[i]?) = List.map some ([c0, c1, c3, c4, c5, c6, c7, c8, c9] : va_W) ∧ ([d0, d1, c2, d2, d3, d4, d5, d6, d7, d8] : va_W).length = 10 ∧ [0, 1, 3, 4, 5, 6, 7, 8, 9].map (fun i => ([d0, d1, c2, d2, d3, d4, d5, d6, d7, d8] : va_W)[i]?) = List.map some ([d0, d1, d2, d3, d4, d5, d6, d7, d8] : va_W) ∧ ([2] : List Nat).map (fun i => ([d0, d1, c2, d2, d3, d4, d5, d6, d7, d8] : va_W)[i]?) = ([2] : List Nat).map (fun i => ([c0, c1, c2, c3, c4, c5, c6, c7, c8, c9] : va_W)[i]?) := ⟨rfl, rfl, rfl, rfl⟩
set_option maxRecDepth 100000 in
theorem ax_X12_playsNow_7c (c0 c1 c2 c3 c4 c5 c6 c7 c8 c9 : Nat × va_E) : [0, 1, 3, 4, 5, 6, 7, 8, 9].map (fun i => ([c0, c1, c2, c3, c4, c5, c6, c7, c8, c9] : va_W)[i]?) = List.map some ([c0, c1, c3, c4, c5, c6, c7, c8, c9] : va_W) := rfl
set_option maxHeartbeats 4000000 in
set_option maxRecDepth 100000 in
theorem c_X12_playsNow (l : Launch) (G : jG) (N : Nat) (q_this : Nat) (q_this_book : Nat) (q_this_s : Nat) (q_this_place : Nat) (q_this_sort : Nat) (q_this_minute : Nat) (q_this_when : Nat) (q_this_isHeard : Nat) (q_this_goneBy : Nat) (q_this_stand : Nat) (v_this_text : Value) (v_this_length : Value) (v_this_draft : Value) (v_this_kept : Value) (v_this_keptMany : Value) (v_this_acts : Value) (v_this_actMany : Value) (v_this_row : Value) (v_this_rowMany : Value) (v_this_tells : Value) (v_this_tellMany : Value) (v_this_at : Value) (v_this_told : Value) (f_this_book : (Nat → Int32)) (f_this_s : (Nat → Int32)) (f_this_place : (Nat → Int32)) (f_this_sort : (Nat → Int32)) (f_this_minute : (Nat → Int32)) (f_this_when : (Nat → Int32)) (f_this_isHeard : (Nat → Int32)) (f_this_goneBy : (Nat → Int32)) (f_this_stand : (Nat → Int32)) (f_this_many : Int32) (f_this_standing : Int32) (x1 : Int32) (x2 : Int32) (u : (Nat → Int32) × (Nat → Int32) × (Nat → Int32) × (Nat → Int32) × (Nat → Int32) × (Nat → Int32) × (Nat → Int32) × Int32 × Int32) (hu : g_X12_playsNow N f_this_book f_this_s f_this_place f_this_sort f_this_minute f_this_when f_this_isHeard f_this_goneBy f_this_stand f_this_many f_this_standing x1 x2 = some u) : MetRV l G yX12_playsNow wsX12_playsNow ({ frames := 3, cells := 0, slots := 0, locals := 72 } : Room) [.ref q_this, .int x1, .int x2] (w_X12_playsNow G q_this q_this_book q_this_s q_this_place q_this_sort q_this_minute q_this_when q_this_isHeard q_this_goneBy q_this_stand v_this_text v_this_length v_this_draft v_this_kept v_this_keptMany v_this_acts v_this_actMany v_this_row v_this_rowMany v_this_tells v_this_tellMany v_this_at v_this_told f_this_book f_this_s f_this_place f_this_sort f_this_minute f_this_when f_this_isHeard f_this_goneBy f_this_stand f_this_many f_this_standing) (w_X12_playsNow G q_this q_this_book q_this_s q_this_place q_this_sort q_this_minute q_this_when q_this_isHeard q_this_goneBy q_this_stand v_this_text v_this_length v_this_draft v_this_kept v_this_keptMany v_this_acts v_this_actMany v_this_row v_this_rowMany v_this_tells v_this_tellMany v_this_at v_this_told f_this_book f_this_s u.1 u.2.1 u.2.2.1 u.2.2.2.1 u.2.2.2.2.1 u.2.2.2.2.2.1 u.2.2.2.2.2.2.1 u.2.2.2.2.2.2.2.1 u.2.2.2.2.2.2.2.2) := by
  refine met_rwv (cc := cX12_playsNow) (maxL := 3) (lv0 := [(0, .ref q_this), (1, .int x1), (2, .int x2)]) (by decide) rfl rfl rfl rfl (fun X hX hW hret => ?_)
  have hg := hu
  unfold g_X12_playsNow at hg
  refine j_aload_n hX 0 dX12_playsNow_0 rfl rfl ?_
  refine j_vRV hX hW (w1 := fun v => (w_X12_starts G q_this q_this_s q_this_place q_this_sort q_this_minute v_this_text v_this_length (.ref q_this_book) v_this_draft v_this_kept v_this_keptMany v_this_acts v_this_actMany v_this_row v_this_rowMany v_this_tells v_this_tellMany v_this_at v_this_told (.ref q_this_when) (.ref q_this_isHeard) (.ref q_this_goneBy) (.ref q_this_stand) (.int f_this_standing) f_this_s v.1 v.2.1 v.2.2.1 v.2.2.2)) (ws' := fun v => (w_X12_playsNow G q_this q_this_book q_this_s q_this_place q_this_sort q_this_minute q_this_when q_this_isHeard q_this_goneBy q_this_stand v_this_text v_this_length v_this_draft v_this_kept v_this_keptMany v_this_acts v_this_actMany v_this_row v_this_rowMany v_this_tells v_this_tellMany v_this_at v_this_told f_this_book f_this_s v.1 v.2.1 v.2.2.1 f_this_when f_this_isHeard f_this_goneBy f_this_stand v.2.2.2 f_this_standing)) [] hg (fun v hv => c_X12_starts l G N q_this q_this_s q_this_place q_this_sort q_this_minute v_this_text v_this_length (.ref q_this_book) v_this_draft v_this_kept v_this_keptMany v_this_acts v_this_actMany v_this_row v_this_rowMany v_this_tells v_this_tellMany v_this_at v_this_told (.ref q_this_when) (.ref q_this_isHeard) (.ref q_this_goneBy) (.ref q_this_stand) (.int f_this_standing) f_this_s f_this_place f_this_sort f_this_minute f_this_many v hv) gX12_playsNow_X12_starts rfl ⟨rfl, rfl⟩ ⟨rfl, by decide, by decide, rfl⟩ rfl rfl [0, 2, 3, 4, 5] rfl (by decide +kernel) rfl rfl dX12_playsNow_1 rfl rfl ⟨Nat.zero_le _, Nat.zero_le _⟩ (fun _ => jn_set [0, 2, 3, 4, 5] rfl rfl rfl) (fun v1 hg => ?_)
  refine j_aload_n hX 0 dX12_playsNow_4 rfl rfl ?_
  refine j_iload_n hX 1 dX12_playsNow_5 rfl rfl ?_
  refine j_iload_n hX 2 dX12_playsNow_6 rfl rfl ?_
  refine j_vRV hX hW (w1 := fun v => (w_X12_plays G q_this q_this_book q_this_place q_this_sort q_this_minute q_this_when q_this_isHeard q_this_goneBy q_this_stand v_this_text v_this_length v_this_draft (.ref q_this_s) v_this_kept v_this_keptMany v_this_acts v_this_actMany v_this_row v_this_rowMany v_this_tells v_this_tellMany v_this_at v_this_told f_this_book v1.1 v1.2.1 v1.2.2.1 v.1 v.2.1 v.2.2.1 v.2.2.2.1 v1.2.2.2 v.2.2.2.2)) (ws' := fun v => (w_X12_playsNow G q_this q_this_book q_this_s q_this_place q_this_sort q_this_minute q_this_when q_this_isHeard q_this_goneBy q_this_stand v_this_text v_this_length v_this_draft v_this_kept v_this_keptMany v_this_acts v_this_actMany v_this_row v_this_rowMany v_this_tells v_this_tellMany v_this_at v_this_told f_this_book f_this_s v1.1 v1.2.1 v1.2.2.1 v.1 v.2.1 v.2.2.1 v.2.2.2.1 v1.2.2.2 v.2.2.2.2)) [.int x1, .int x2] hg (fun v hv => c_X12_plays l G N q_this q_this_book q_this_place q_this_sort q_this_minute q_this_when q_this_isHeard q_this_goneBy q_this_stand v_this_text v_this_length v_this_draft (.ref q_this_s) v_this_kept v_this_keptMany v_this_acts v_this_actMany v_this_row v_this_rowMany v_this_tells v_this_tellMany v_this_at v_this_told f_this_book v1.1 v1.2.1 v1.2.2.1 f_this_when f_this_isHeard f_this_goneBy f_this_stand v1.2.2.2 f_this_standing x1 x2 v hv) gX12_playsNow_X12_plays rfl ⟨rfl, rfl⟩ ⟨rfl, by decide, by decide, rfl⟩ rfl rfl [0, 1, 3, 4, 5, 6, 7, 8, 9] (ax_X12_playsNow_7c _ _ _ _ _ _ _ _ _ _) (by decide +kernel) rfl rfl dX12_playsNow_7 rfl rfl ⟨Nat.zero_le _, Nat.zero_le _⟩ (fun _ => jn_ax [0, 1, 3, 4, 5, 6, 7, 8, 9] ([2] : List Nat) 10 (ax_X12_playsNow_7 _ _ _ _ _ _ _ _ _ _ _ _ _ _ _ _ _ _ _) rfl (by decide +kernel)) (fun v7 hg => ?_)
  cases hg
  exact hret _ _ dX12_playsNow_10
abbrev w_X12_stands (G : jG) (q_this : Nat) (q_this_book : Nat) (q_this_s : Nat) (q_this_place : Nat) (q_this_sort : Nat) (q_this_minute : Nat) (q_this_when : Nat) (q_this_isHeard : Nat) (q_this_goneBy : Nat) (q_this_stand : Nat) (v_this_text : Value) (v_this_length : Value) (v_this_draft : Value) (v_this_kept : Value) (v_this_keptMany : Value) (v_this_acts : Value) (v_this_actMany : Value) (v_this_row : Value) (v_this_rowMany : Value) (v_this_tells : Value) (v_this_tellMany : Value) (v_this_at : Value) (v_this_told : Value) (f_this_book : (Nat → Int32)) (f_this_s : (Nat → Int32)) (f_this_place : (Nat → Int32)) (f_this_sort : (Nat → Int32)) (f_this_minute : (Nat → Int32)) (f_this_when : (Nat → Int32)) (f_this_isHeard : (Nat → Int32)) (f_this_goneBy : (Nat → Int32)) (f_this_stand : (Nat → Int32)) (f_this_many : Int32) (f_this_standing : Int32) : va_W := [oC q_this 12 [v_this_text, v_this_length, .ref q_this_book, v_this_draft, .ref q_this_s, v_this_kept, v_this_keptMany, v_this_acts, v_this_actMany, v_this_row, v_this_rowMany, v_this_tells, v_this_tellMany, v_this_at, v_this_told, .ref q_this_place, .ref q_this_sort, .ref q_this_minute, .ref q_this_when, .ref q_this_isHeard, .ref q_this_goneBy, .ref q_this_stand, .int f_this_many, .int f_this_standing], aI G q_this_book 78 f_this_book, aI G q_this_s 74 f_this_s, aI G q_this_place 128 f_this_place, aI G q_this_sort 128 f_this_sort, aI G q_this_minute 128 f_this_minute, aI G q_this_when 128 f_this_when, aZ G q_this_isHeard 128 f_this_isHeard, aI G q_this_goneBy 128 f_this_goneBy, aI G q_this_stand 128 f_this_stand]
def g_X12_stands (N : Nat) (f_this_book : (Nat → Int32)) (f_this_s : (Nat → Int32)) (f_this_place : (Nat → Int32)) (f_this_sort : (Nat → Int32)) (f_this_minute : (Nat → Int32)) (f_this_when : (Nat → Int32)) (f_this_isHeard : (Nat → Int32)) (f_this_goneBy : (Nat → Int32)) (f_this_stand : (Nat → Int32)) (f_this_many : Int32) (f_this_standing : Int32) (x1 : Int32) (x2 : Int32) (x3 : Int32) : Option (Int32 × (Nat → Int32) × (Nat → Int32) × (Nat → Int32) × (Nat → Int32) × (Nat → Int32) × (Nat → Int32) × (Nat → Int32) × Int32 × Int32) := (g_X12_isPlace N f_this_book x1).bind fun v2 => if v2 = 0 then some ((-1), f_this_place, f_this_sort, f_this_minute, f_this_when, f_this_isHeard, f_this_goneBy, f_this_stand, f_this_many, f_this_standing) else (g_X12_isMinute N x2).bind fun v9 => if v9 = 0 then some ((-1), f_this_place, f_this_sort, f_this_minute, f_this_when, f_this_isHeard, f_this_goneBy, f_this_stand, f_this_many, f_this_standing) else if (-1 : Int32) ≤ x3 then (g_X12_playsNow N f_this_book f_this_s f_this_place f_this_sort f_this_minute f_this_when f_this_isHeard f_this_goneBy f_this_stand f_this_many f_this_standing x1 x2).bind fun v25 => if x3 = (-1) then some (v25.2.2.2.2.2.2.2.2, v25.1, v25.2.1, v25.2.2.1, v25.2.2.2.1, v25.2.2.2.2.1, v25.2.2.2.2.2.1, v25.2.2.2.2.2.2.1, v25.2.2.2.2.2.2.2.1, v25.2.2.2.2.2.2.2.2) else if v25.2.2.2.2.2.2.2.2 ≤ x3 then some ((-4), v25.1, v25.2.1, v25.2.2.1, v25.2.2.2.1, v25.2.2.2.2.1, v25.2.2.2.2.2.1, v25.2.2.2.2.2.2.1, v25.2.2.2.2.2.2.2.1, v25.2.2.2.2.2.2.2.2) else gi x3 128 (gi (v25.2.2.2.2.2.2.1 x3.toNatClampNeg) 128 (some (v25.2.1 (v25.2.2.2.2.2.2.1 x3.toNatClampNeg : Int32).toNatClampNeg, v25.1, v25.2.1, v25.2.2.1, v25.2.2.2.1, v25.2.2.2.2.1, v25.2.2.2.2.2.1, v25.2.2.2.2.2.2.1, v25.2.2.2.2.2.2.2.1, v25.2.2.2.2.2.2.2.2))) else some ((-1), f_this_place, f_this_sort, f_this_minute, f_this_when, f_this_isHeard, f_this_goneBy, f_this_stand, f_this_many, f_this_standing)
set_option maxRecDepth 100000 in
theorem ax_X12_stands_25 (c0 c1 c2 c3 c4 c5 c6 c7 c8 c9 d0 d1 d2 d3 d4 d5 d6 d7 d8 d9 : Nat × va_E) : [0, 1, 2, 3, 4, 5, 6, 7, 8, 9].map (fun i => ([c0, c1, c2, c3, c4, c5, c6, c7, c8, c9] : va_W)[i]?) = List.map some ([c0, c1, c2, c3, c4, c5, c6, c7, c8, c9] : va_W) ∧ ([d0, d1, d2, d3, d4, d5, d6, d7, d8, d9] : va_W).length = 10 ∧ [0, 1, 2, 3, 4, 5, 6, 7, 8, 9].map (fun i => ([d0, d1, d2, d3, d4, d5, d6, d7, d8, d9] : va_W)[i]?) = List.map some ([d0, d1, d2, d3, d4, d5, d6, d7, d8, d9] : va_W) ∧ ([] : List Nat).map (fun i => ([d0, d1, d2, d3, d4, d5, d6, d7, d8, d9] : va_W)[i]?) = ([] : List Nat).map (fun i => ([c0, c1, c2, c3, c4, c5, c6, c7, c8, c9] : va_W)[i]?) := ⟨rfl, rfl, rfl, rfl⟩
set_option maxRecDepth 100000 in
theorem ax_X12_stands_25c (c0 c1 c2 c3 c4 c5 c6 c7 c8 c9 : Nat × va_E) : [0, 1, 2, 3, 4, 5, 6, 7, 8, 9].map (fun i => ([c0, c1, c2, c3, c4, c5, c6, c7, c8, c9] : va_W)[i]?) = List.map some ([c0, c1, c2, c3, c4, c5, c6, c7, c8, c9] : va_W) := rfl
set_option maxHeartbeats 4000000 in
set_option maxRecDepth 100000 in
theorem c_X12_stands (l : Launch) (G : jG) (N : Nat) (q_this : Nat) (q_this_book : Nat) (q_this_s : Nat) (q_this_place : Nat) (q_this_sort : Nat) (q_this_minute : Nat) (q_this_when : Nat) (q_this_isHeard : Nat) (q_this_goneBy : Nat) (q_this_stand : Nat) (v_this_text : Value) (v_this_length : Value) (v_this_draft : Value) (v_this_kept : Value) (v_this_keptMany : Value) (v_this_acts : Value) (v_this_actMany : Value) (v_this_row : Value) (v_this_rowMany : Value) (v_this_tells : Value) (v_this_tellMany : Value) (v_this_at : Value) (v_this_told : Value) (f_this_book : (Nat → Int32)) (f_this_s : (Nat → Int32)) (f_this_place : (Nat → Int32)) (f_this_sort : (Nat → Int32)) (f_this_minute : (Nat → Int32)) (f_this_when : (Nat → Int32)) (f_this_isHeard : (Nat → Int32)) (f_this_goneBy : (Nat → Int32)) (f_this_stand : (Nat → Int32)) (f_this_many : Int32) (f_this_standing : Int32) (x1 : Int32) (x2 : Int32) (x3 : Int32) (u : Int32 × (Nat → Int32) × (Nat → Int32) × (Nat → Int32) × (Nat → Int32) × (Nat → Int32) × (Nat → Int32) × (Nat → Int32) × Int32 × Int32) (hu : g_X12_stands N f_this_book f_this_s f_this_place f_this_sort f_this_minute f_this_when f_this_isHeard f_this_goneBy f_this_stand f_this_many f_this_standing x1 x2 x3 = some u) : MetRW l G yX12_stands wsX12_stands ({ frames := 4, cells := 0, slots := 0, locals := 94 } : Room) [.ref q_this, .int x1, .int x2, .int x3] (w_X12_stands G q_this q_this_book q_this_s q_this_place q_this_sort q_this_minute q_this_when q_this_isHeard q_this_goneBy q_this_stand v_this_text v_this_length v_this_draft v_this_kept v_this_keptMany v_this_acts v_this_actMany v_this_row v_this_rowMany v_this_tells v_this_tellMany v_this_at v_this_told f_this_book f_this_s f_this_place f_this_sort f_this_minute f_this_when f_this_isHeard f_this_goneBy f_this_stand f_this_many f_this_standing) (w_X12_stands G q_this q_this_book q_this_s q_this_place q_this_sort q_this_minute q_this_when q_this_isHeard q_this_goneBy q_this_stand v_this_text v_this_length v_this_draft v_this_kept v_this_keptMany v_this_acts v_this_actMany v_this_row v_this_rowMany v_this_tells v_this_tellMany v_this_at v_this_told f_this_book f_this_s u.2.1 u.2.2.1 u.2.2.2.1 u.2.2.2.2.1 u.2.2.2.2.2.1 u.2.2.2.2.2.2.1 u.2.2.2.2.2.2.2.1 u.2.2.2.2.2.2.2.2.1 u.2.2.2.2.2.2.2.2.2) u.1 := by
  refine met_rwi (cc := cX12_stands) (maxL := 4) (lv0 := [(0, .ref q_this), (1, .int x1), (2, .int x2), (3, .int x3)]) (by decide) rfl rfl rfl rfl (fun X hX hW hret => ?_)
  have hinX12 : ∀ w ∈ u_ws RX12 TX12 24, w ∈ wsX12_stands := by decide +kernel
  have hf_X12_sort_40 : Cond.fieldLink RX12 40 (TX12 16).1 (TX12 16).2.1 (TX12 16).2.2.1 ∈ wsX12_stands := by decide +kernel
  have hf_X12_stand_56 : Cond.fieldLink RX12 56 (TX12 21).1 (TX12 21).2.1 (TX12 21).2.2.1 ∈ wsX12_stands := by decide +kernel
  have hf_X12_standing_134 : Cond.fieldLink RX12 134 (TX12 23).1 (TX12 23).2.1 (TX12 23).2.2.1 ∈ wsX12_stands := by decide +kernel
  have hg := hu
  unfold g_X12_stands at hg
  refine j_aload_n hX 0 dX12_stands_0 rfl rfl ?_
  refine j_iload_n hX 1 dX12_stands_1 rfl rfl ?_
  refine j_vRO hX (r := fun v => v) [.int x1] hg (fun v hv => c_X12_isPlace l G N q_this q_this_book v_this_text v_this_length v_this_draft (.ref q_this_s) v_this_kept v_this_keptMany v_this_acts v_this_actMany v_this_row v_this_rowMany v_this_tells v_this_tellMany v_this_at v_this_told (.ref q_this_place) (.ref q_this_sort) (.ref q_this_minute) (.ref q_this_when) (.ref q_this_isHeard) (.ref q_this_goneBy) (.ref q_this_stand) (.int f_this_many) (.int f_this_standing) f_this_book x1 v hv) gX12_stands_X12_isPlace rfl ⟨rfl, rfl⟩ ⟨rfl, by decide, by decide, rfl⟩ rfl rfl [0, 1] rfl rfl rfl dX12_stands_2 rfl rfl ⟨Nat.zero_le _, Nat.zero_le _⟩ (fun v2 hg => ?_)
  refine j_if_eq hX 20 hg dX12_stands_5 (by decide) (fun hg => ?_) (fun hg => ?_)
  · refine j_iconst hX dX12_stands_20 kc_m1 ?_
    cases hg
    exact hret _ _ dX12_stands_21
  · refine j_iload_n hX 2 dX12_stands_8 rfl rfl ?_
    refine j_sRO hX (r := fun v => v) [.int x2] hg (fun v hv => c_X12_isMinute l G N x2 v hv) gX12_stands_X12_isMinute rfl ⟨rfl, rfl⟩ ⟨by decide, by decide, rfl⟩ rfl rfl [] rfl dX12_stands_9 rfl rfl ⟨Nat.zero_le _, Nat.zero_le _⟩ (fun v9 hg => ?_)
    refine j_if_eq hX 20 hg dX12_stands_12 (by decide) (fun hg => ?_) (fun hg => ?_)
    · refine j_iconst hX dX12_stands_20 kc_m1 ?_
      cases hg
      exact hret _ _ dX12_stands_21
    · refine j_iload_n hX 3 dX12_stands_15 rfl rfl ?_
      refine j_iconst hX dX12_stands_16 kc_m1 ?_
      refine j_icmp_ge hX 22 hg dX12_stands_17 (by decide) (fun hg => ?_) (fun hg => ?_)
      · refine j_aload_n hX 0 dX12_stands_22 rfl rfl ?_
        refine j_iload_n hX 1 dX12_stands_23 rfl rfl ?_
        refine j_iload_n hX 2 dX12_stands_24 rfl rfl ?_
        refine j_vRV hX hW (w1 := fun v => (w_X12_playsNow G q_this q_this_book q_this_s q_this_place q_this_sort q_this_minute q_this_when q_this_isHeard q_this_goneBy q_this_stand v_this_text v_this_length v_this_draft v_this_kept v_this_keptMany v_this_acts v_this_actMany v_this_row v_this_rowMany v_this_tells v_this_tellMany v_this_at v_this_told f_this_book f_this_s v.1 v.2.1 v.2.2.1 v.2.2.2.1 v.2.2.2.2.1 v.2.2.2.2.2.1 v.2.2.2.2.2.2.1 v.2.2.2.2.2.2.2.1 v.2.2.2.2.2.2.2.2)) (ws' := fun v => (w_X12_stands G q_this q_this_book q_this_s q_this_place q_this_sort q_this_minute q_this_when q_this_isHeard q_this_goneBy q_this_stand v_this_text v_this_length v_this_draft v_this_kept v_this_keptMany v_this_acts v_this_actMany v_this_row v_this_rowMany v_this_tells v_this_tellMany v_this_at v_this_told f_this_book f_this_s v.1 v.2.1 v.2.2.1 v.2.2.2.1 v.2.2.2.2.1 v.2.2.2.2.2.1 v.2.2.2.2.2.2.1 v.2.2.2.2.2.2.2.1 v.2.2.2.2.2.2.2.2)) [.int x1, .int x2] hg (fun v hv => c_X12_playsNow l G N q_this q_this_book q_this_s q_this_place q_this_sort q_this_minute q_this_when q_this_isHeard q_this_goneBy q_this_stand v_this_text v_this_length v_this_draft v_this_kept v_this_keptMany v_this_acts v_this_actMany v_this_row v_this_rowMany v_this_tells v_this_tellMany v_this_at v_this_told f_this_book f_this_s f_this_place f_this_sort f_this_minute f_this_when f_this_isHeard f_this_goneBy f_this_stand f_this_many f_this_standing x1 x2 v hv) gX12_stands_X12_playsNow rfl ⟨rfl, rfl⟩ ⟨rfl, by decide, by decide, rfl⟩ rfl rfl [0, 1, 2, 3, 4, 5, 6, 7, 8, 9] (ax_X12_stands_25c _ _ _ _ _ _ _ _ _ _) (by decide +kernel) rfl rfl dX12_stands_25 rfl rfl ⟨Nat.zero_le _, Nat.zero_le _⟩ (fun _ => jn_ax [0, 1, 2, 3, 4, 5, 6, 7, 8, 9] ([] : List Nat) 10 (ax_X12_stands_25 _ _ _ _ _ _ _ _ _ _ _ _ _ _ _ _ _ _ _ _) rfl (by decide +kernel)) (fun v25 hg => ?_)
        refine j_iload_n hX 3 dX12_stands_28 rfl rfl ?_
        refine j_iconst hX dX12_stands_29 kc_m1 ?_
        refine j_icmp_ne hX 40 hg dX12_stands_30 (by decide) (fun hg => ?_) (fun hg => ?_)
        · refine j_aload_n hX 0 dX12_stands_33 rfl rfl ?_
          refine j_get hX 0 23 rfl rfl hinX12 rfl hf_X12_standing_134 rfl dX12_stands_34 ?_
          refine j_goto hX 64 dX12_stands_37 (by decide) ?_
          cases hg
          exact hret _ _ dX12_stands_64
        · refine j_iload_n hX 3 dX12_stands_40 rfl rfl ?_
          refine j_aload_n hX 0 dX12_stands_41 rfl rfl ?_
          refine j_get hX 0 23 rfl rfl hinX12 rfl hf_X12_standing_134 rfl dX12_stands_42 ?_
          refine j_icmp_ge hX 62 hg dX12_stands_45 (by decide) (fun hg => ?_) (fun hg => ?_)
          · refine j_bipush hX dX12_stands_62 kb_m4 ?_
            cases hg
            exact hret _ _ dX12_stands_64
          · refine j_aload_n hX 0 dX12_stands_48 rfl rfl ?_
            refine j_get hX 0 16 rfl rfl hinX12 rfl hf_X12_sort_40 rfl dX12_stands_49 ?_
            refine j_aload_n hX 0 dX12_stands_52 rfl rfl ?_
            refine j_get hX 0 21 rfl rfl hinX12 rfl hf_X12_stand_56 rfl dX12_stands_53 ?_
            refine j_iload_n hX 3 dX12_stands_56 rfl rfl ?_
            refine j_iald hX 9 rfl hg dX12_stands_57 (fun hg => ?_)
            refine j_iald hX 4 rfl hg dX12_stands_58 (fun hg => ?_)
            refine j_goto hX 64 dX12_stands_59 (by decide) ?_
            cases hg
            exact hret _ _ dX12_stands_64
      · refine j_iconst hX dX12_stands_20 kc_m1 ?_
        cases hg
        exact hret _ _ dX12_stands_21
abbrev w_X12_says (G : jG) (q_this : Nat) (q_this_book : Nat) (q_this_when : Nat) (q_this_stand : Nat) (v_this_text : Value) (v_this_length : Value) (v_this_draft : Value) (v_this_s : Value) (v_this_kept : Value) (v_this_keptMany : Value) (v_this_acts : Value) (v_this_actMany : Value) (v_this_row : Value) (v_this_rowMany : Value) (v_this_tells : Value) (v_this_tellMany : Value) (v_this_at : Value) (v_this_told : Value) (v_this_place : Value) (v_this_sort : Value) (v_this_minute : Value) (v_this_isHeard : Value) (v_this_goneBy : Value) (v_this_many : Value) (f_this_book : (Nat → Int32)) (f_this_when : (Nat → Int32)) (f_this_stand : (Nat → Int32)) (f_this_standing : Int32) : va_W := [oC q_this 12 [v_this_text, v_this_length, .ref q_this_book, v_this_draft, v_this_s, v_this_kept, v_this_keptMany, v_this_acts, v_this_actMany, v_this_row, v_this_rowMany, v_this_tells, v_this_tellMany, v_this_at, v_this_told, v_this_place, v_this_sort, v_this_minute, .ref q_this_when, v_this_isHeard, v_this_goneBy, .ref q_this_stand, v_this_many, .int f_this_standing], aI G q_this_book 78 f_this_book, aI G q_this_when 128 f_this_when, aI G q_this_stand 128 f_this_stand]
def g_X12_says_b49 (N : Nat) (f_this_book : (Nat → Int32)) (f_this_when : (Nat → Int32)) (f_this_standing : Int32) (rec_4 : (Nat → Int32) → Int32 → Int32 → Int32 → Option (Int32 × (Nat → Int32))) (f_this_stand : (Nat → Int32)) (x1 : Int32) (x2 : Int32) (x3 : Int32) : Option (Int32 × (Nat → Int32)) := rec_4 f_this_stand x1 x2 (x3 + 1)
def g_X12_says_L4 (N : Nat) (f_this_book : (Nat → Int32)) (f_this_when : (Nat → Int32)) (f_this_standing : Int32) : Nat → (Nat → Int32) → Int32 → Int32 → Int32 → Option (Int32 × (Nat → Int32))
  | 0, _, _, _, _ => none
  | fu + 1, f_this_stand, x1, x2, x3 => if f_this_standing ≤ x3 then some (x2, f_this_stand) else gi x3 128 (gi (f_this_stand x3.toNatClampNeg) 128 (gi 1 78 (if (x1 - (f_this_when (f_this_stand x3.toNatClampNeg : Int32).toNatClampNeg)) < (f_this_book (1 : Int32).toNatClampNeg) then g_X12_says_b49 N f_this_book f_this_when f_this_standing (g_X12_says_L4 N f_this_book f_this_when f_this_standing fu) f_this_stand x1 x2 x3 else gi x3 128 (gi x2 128 (g_X12_says_b49 N f_this_book f_this_when f_this_standing (g_X12_says_L4 N f_this_book f_this_when f_this_standing fu) (upd f_this_stand x2.toNatClampNeg (f_this_stand x3.toNatClampNeg)) x1 (x2 + 1) x3)))))
def g_X12_says (N : Nat) (f_this_book : (Nat → Int32)) (f_this_when : (Nat → Int32)) (f_this_standing : Int32) (f_this_stand : (Nat → Int32)) (x1 : Int32) : Option (Int32 × (Nat → Int32)) := g_X12_says_L4 N f_this_book f_this_when f_this_standing N f_this_stand x1 0 0
set_option maxHeartbeats 4000000 in
set_option maxRecDepth 100000 in
theorem c_X12_says (l : Launch) (G : jG) (N : Nat) (q_this : Nat) (q_this_book : Nat) (q_this_when : Nat) (q_this_stand : Nat) (v_this_text : Value) (v_this_length : Value) (v_this_draft : Value) (v_this_s : Value) (v_this_kept : Value) (v_this_keptMany : Value) (v_this_acts : Value) (v_this_actMany : Value) (v_this_row : Value) (v_this_rowMany : Value) (v_this_tells : Value) (v_this_tellMany : Value) (v_this_at : Value) (v_this_told : Value) (v_this_place : Value) (v_this_sort : Value) (v_this_minute : Value) (v_this_isHeard : Value) (v_this_goneBy : Value) (v_this_many : Value) (f_this_book : (Nat → Int32)) (f_this_when : (Nat → Int32)) (f_this_stand : (Nat → Int32)) (f_this_standing : Int32) (x1 : Int32) (u : Int32 × (Nat → Int32)) (hu : g_X12_says N f_this_book f_this_when f_this_standing f_this_stand x1 = some u) : MetRW l G yX12_says wsX12_says ({ frames := 0, cells := 0, slots := 0, locals := 0 } : Room) [.ref q_this, .int x1] (w_X12_says G q_this q_this_book q_this_when q_this_stand v_this_text v_this_length v_this_draft v_this_s v_this_kept v_this_keptMany v_this_acts v_this_actMany v_this_row v_this_rowMany v_this_tells v_this_tellMany v_this_at v_this_told v_this_place v_this_sort v_this_minute v_this_isHeard v_this_goneBy v_this_many f_this_book f_this_when f_this_stand f_this_standing) (w_X12_says G q_this q_this_book q_this_when q_this_stand v_this_text v_this_length v_this_draft v_this_s v_this_kept v_this_keptMany v_this_acts v_this_actMany v_this_row v_this_rowMany v_this_tells v_this_tellMany v_this_at v_this_told v_this_place v_this_sort v_this_minute v_this_isHeard v_this_goneBy v_this_many f_this_book f_this_when u.2 f_this_standing) u.1 := by
  refine met_rwi (cc := cX12_says) (maxL := 4) (lv0 := [(0, .ref q_this), (1, .int x1)]) (by decide) rfl rfl rfl rfl (fun X hX hW hret => ?_)
  have hinX12 : ∀ w ∈ u_ws RX12 TX12 24, w ∈ wsX12_says := by decide +kernel
  have hf_X12_book_13 : Cond.fieldLink RX12 13 (TX12 2).1 (TX12 2).2.1 (TX12 2).2.2.1 ∈ wsX12_says := by decide +kernel
  have hf_X12_stand_56 : Cond.fieldLink RX12 56 (TX12 21).1 (TX12 21).2.1 (TX12 21).2.2.1 ∈ wsX12_says := by decide +kernel
  have hf_X12_standing_134 : Cond.fieldLink RX12 134 (TX12 23).1 (TX12 23).2.1 (TX12 23).2.2.1 ∈ wsX12_says := by decide +kernel
  have hf_X12_when_46 : Cond.fieldLink RX12 46 (TX12 18).1 (TX12 18).2.1 (TX12 18).2.2.1 ∈ wsX12_says := by decide +kernel
  have L4 : ∀ (fu4 : Nat), ∀ (f_this_stand : (Nat → Int32)) (x1 : Int32) (x2 : Int32) (x3 : Int32), g_X12_says_L4 N f_this_book f_this_when f_this_standing fu4 f_this_stand x1 x2 x3 = some u → J X 0 0 (w_X12_says G q_this q_this_book q_this_when q_this_stand v_this_text v_this_length v_this_draft v_this_s v_this_kept v_this_keptMany v_this_acts v_this_actMany v_this_row v_this_rowMany v_this_tells v_this_tellMany v_this_at v_this_told v_this_place v_this_sort v_this_minute v_this_isHeard v_this_goneBy v_this_many f_this_book f_this_when f_this_stand f_this_standing) 4 [(0, .ref q_this), (1, .int x1), (2, .int x2), (3, .int x3)] [] := by
    intro fu4
    induction fu4 with
    | zero => intro f_this_stand x1 x2 x3 hg; exact nomatch hg
    | succ fu4 ih4 =>
      have B49 : ∀ (f_this_stand : (Nat → Int32)) (x1 : Int32) (x2 : Int32) (x3 : Int32), g_X12_says_b49 N f_this_book f_this_when f_this_standing (g_X12_says_L4 N f_this_book f_this_when f_this_standing fu4) f_this_stand x1 x2 x3 = some u → J X 0 0 (w_X12_says G q_this q_this_book q_this_when q_this_stand v_this_text v_this_length v_this_draft v_this_s v_this_kept v_this_keptMany v_this_acts v_this_actMany v_this_row v_this_rowMany v_this_tells v_this_tellMany v_this_at v_this_told v_this_place v_this_sort v_this_minute v_this_isHeard v_this_goneBy v_this_many f_this_book f_this_when f_this_stand f_this_standing) 49 [(0, .ref q_this), (1, .int x1), (2, .int x2), (3, .int x3)] [] := by
        intro f_this_stand x1 x2 x3 hg
        unfold g_X12_says_b49 at hg
        refine j_iinc hX 3 (v := x3 + 1) (lv' := [(3, .int (x3 + 1)), (0, .ref q_this), (1, .int x1), (2, .int x2)]) dX12_says_49 rfl (by rw [kc_1]) rfl rfl ?_
        refine j_goto hX 4 dX12_says_52 (by decide) ?_
        refine j_lv [1, 2, 3, 0] rfl ?_
        exact ih4 _ _ _ _ hg
      intro f_this_stand x1 x2 x3 hg
      unfold g_X12_says_L4 at hg
      refine j_iload_n hX 3 dX12_says_4 rfl rfl ?_
      refine j_aload_n hX 0 dX12_says_5 rfl rfl ?_
      refine j_get hX 0 23 rfl rfl hinX12 rfl hf_X12_standing_134 rfl dX12_says_6 ?_
      refine j_icmp_ge hX 55 hg dX12_says_9 (by decide) (fun hg => ?_) (fun hg => ?_)
      · refine j_iload_n hX 2 dX12_says_55 rfl rfl ?_
        cases hg
        exact hret _ _ dX12_says_56
      · refine j_iload_n hX 1 dX12_says_12 rfl rfl ?_
        refine j_aload_n hX 0 dX12_says_13 rfl rfl ?_
        refine j_get hX 0 18 rfl rfl hinX12 rfl hf_X12_when_46 rfl dX12_says_14 ?_
        refine j_aload_n hX 0 dX12_says_17 rfl rfl ?_
        refine j_get hX 0 21 rfl rfl hinX12 rfl hf_X12_stand_56 rfl dX12_says_18 ?_
        refine j_iload_n hX 3 dX12_says_21 rfl rfl ?_
        refine j_iald hX 3 rfl hg dX12_says_22 (fun hg => ?_)
        refine j_iald hX 2 rfl hg dX12_says_23 (fun hg => ?_)
        refine j_isub hX dX12_says_24 ?_
        refine j_aload_n hX 0 dX12_says_25 rfl rfl ?_
        refine j_get hX 0 2 rfl rfl hinX12 rfl hf_X12_book_13 rfl dX12_says_26 ?_
        refine j_iconst hX dX12_says_29 kc_1 ?_
        refine j_iald hX 1 rfl hg dX12_says_30 (fun hg => ?_)
        refine j_icmp_lt hX 49 hg dX12_says_31 (by decide) (fun hg => ?_) (fun hg => ?_)
        · exact B49 _ _ _ _ hg
        · refine j_aload_n hX 0 dX12_says_34 rfl rfl ?_
          refine j_get hX 0 21 rfl rfl hinX12 rfl hf_X12_stand_56 rfl dX12_says_35 ?_
          refine j_iload_n hX 2 dX12_says_38 rfl rfl ?_
          refine j_aload_n hX 0 dX12_says_39 rfl rfl ?_
          refine j_get hX 0 21 rfl rfl hinX12 rfl hf_X12_stand_56 rfl dX12_says_40 ?_
          refine j_iload_n hX 3 dX12_says_43 rfl rfl ?_
          refine j_iald hX 3 rfl hg dX12_says_44 (fun hg => ?_)
          refine j_iast hX hW 3 rfl hg dX12_says_45 (ws' := (w_X12_says G q_this q_this_book q_this_when q_this_stand v_this_text v_this_length v_this_draft v_this_s v_this_kept v_this_keptMany v_this_acts v_this_actMany v_this_row v_this_rowMany v_this_tells v_this_tellMany v_this_at v_this_told v_this_place v_this_sort v_this_minute v_this_isHeard v_this_goneBy v_this_many f_this_book f_this_when (upd f_this_stand x2.toNatClampNeg (f_this_stand x3.toNatClampNeg)) f_this_standing)) rfl (fun hg => ?_)
          refine j_iinc hX 2 (v := x2 + 1) (lv' := [(2, .int (x2 + 1)), (0, .ref q_this), (1, .int x1), (3, .int x3)]) dX12_says_46 rfl (by rw [kc_1]) rfl rfl ?_
          refine j_lv [1, 2, 0, 3] rfl ?_
          exact B49 _ _ _ _ hg
  have hg := hu
  unfold g_X12_says at hg
  refine j_iconst hX dX12_says_0 kc_0 ?_
  refine j_istore_n hX (lv' := [(2, .int 0), (0, .ref q_this), (1, .int x1)]) dX12_says_1 rfl rfl rfl ?_
  refine j_iconst hX dX12_says_2 kc_0 ?_
  refine j_istore_n hX (lv' := [(3, .int 0), (2, .int 0), (0, .ref q_this), (1, .int x1)]) dX12_says_3 rfl rfl rfl ?_
  refine j_lv [2, 3, 1, 0] rfl ?_
  exact L4 N _ _ _ _ hg
abbrev w_X12_said (G : jG) (q_this : Nat) (q_this_book : Nat) (q_this_s : Nat) (q_this_place : Nat) (q_this_sort : Nat) (q_this_minute : Nat) (q_this_when : Nat) (q_this_isHeard : Nat) (q_this_goneBy : Nat) (q_this_stand : Nat) (v_this_text : Value) (v_this_length : Value) (v_this_draft : Value) (v_this_kept : Value) (v_this_keptMany : Value) (v_this_acts : Value) (v_this_actMany : Value) (v_this_row : Value) (v_this_rowMany : Value) (v_this_tells : Value) (v_this_tellMany : Value) (v_this_at : Value) (v_this_told : Value) (f_this_book : (Nat → Int32)) (f_this_s : (Nat → Int32)) (f_this_place : (Nat → Int32)) (f_this_sort : (Nat → Int32)) (f_this_minute : (Nat → Int32)) (f_this_when : (Nat → Int32)) (f_this_isHeard : (Nat → Int32)) (f_this_goneBy : (Nat → Int32)) (f_this_stand : (Nat → Int32)) (f_this_many : Int32) (f_this_standing : Int32) : va_W := [oC q_this 12 [v_this_text, v_this_length, .ref q_this_book, v_this_draft, .ref q_this_s, v_this_kept, v_this_keptMany, v_this_acts, v_this_actMany, v_this_row, v_this_rowMany, v_this_tells, v_this_tellMany, v_this_at, v_this_told, .ref q_this_place, .ref q_this_sort, .ref q_this_minute, .ref q_this_when, .ref q_this_isHeard, .ref q_this_goneBy, .ref q_this_stand, .int f_this_many, .int f_this_standing], aI G q_this_book 78 f_this_book, aI G q_this_s 74 f_this_s, aI G q_this_place 128 f_this_place, aI G q_this_sort 128 f_this_sort, aI G q_this_minute 128 f_this_minute, aI G q_this_when 128 f_this_when, aZ G q_this_isHeard 128 f_this_isHeard, aI G q_this_goneBy 128 f_this_goneBy, aI G q_this_stand 128 f_this_stand]
def g_X12_said (N : Nat) (f_this_book : (Nat → Int32)) (f_this_s : (Nat → Int32)) (f_this_place : (Nat → Int32)) (f_this_sort : (Nat → Int32)) (f_this_minute : (Nat → Int32)) (f_this_when : (Nat → Int32)) (f_this_isHeard : (Nat → Int32)) (f_this_goneBy : (Nat → Int32)) (f_this_stand : (Nat → Int32)) (f_this_many : Int32) (f_this_standing : Int32) (x1 : Int32) (x2 : Int32) : Option (Int32 × (Nat → Int32) × (Nat → Int32) × (Nat → Int32) × (Nat → Int32) × (Nat → Int32) × (Nat → Int32) × (Nat → Int32) × Int32 × Int32) := (g_X12_isPlace N f_this_book x1).bind fun v2 => if v2 = 0 then some ((-1), f_this_place, f_this_sort, f_this_minute, f_this_when, f_this_isHeard, f_this_goneBy, f_this_stand, f_this_many, f_this_standing) else (g_X12_isMinute N x2).bind fun v9 => if v9 = 0 then some ((-1), f_this_place, f_this_sort, f_this_minute, f_this_when, f_this_isHeard, f_this_goneBy, f_this_stand, f_this_many, f_this_standing) else (g_X12_playsNow N f_this_book f_this_s f_this_place f_this_sort f_this_minute f_this_when f_this_isHeard f_this_goneBy f_this_stand f_this_many f_this_standing x1 x2).bind fun v20 => (g_X12_says N f_this_book v20.2.2.2.1 v20.2.2.2.2.2.2.2.2 v20.2.2.2.2.2.2.1 x2).bind fun v25 => some (v25.1, v20.1, v20.2.1, v20.2.2.1, v20.2.2.2.1, v20.2.2.2.2.1, v20.2.2.2.2.2.1, v25.2, v20.2.2.2.2.2.2.2.1, v20.2.2.2.2.2.2.2.2)
set_option maxRecDepth 100000 in
theorem ax_X12_said_20 (c0 c1 c2 c3 c4 c5 c6 c7 c8 c9 d0 d1 d2 d3 d4 d5 d6 d7 d8 d9 : Nat × va_E) : [0, 1, 2, 3, 4, 5, 6, 7, 8, 9].map (fun i => ([c0, c1, c2, c3, c4, c5, c6, c7, c8, c9] : va_W)[i]?) = List.map some ([c0, c1, c2, c3, c4, c5, c6, c7, c8, c9] : va_W) ∧ ([d0, d1, d2, d3, d4, d5, d6, d7, d8, d9] : va_W).length = 10 ∧ [0, 1, 2, 3, 4, 5, 6, 7, 8, 9].map (fun i => ([d0, d1, d2, d3, d4, d5, d6, d7, d8, d9] : va_W)[i]?) = List.map some ([d0, d1, d2, d3, d4, d5, d6, d7, d8, d9] : va_W) ∧ ([] : List Nat).map (fun i => ([d0, d1, d2, d3, d4, d5, d6, d7, d8, d9] : va_W)[i]?) = ([] : List Nat).map (fun i => ([c0, c1, c2, c3, c4, c5, c6, c7, c8, c9] : va_W)[i]?) := ⟨rfl, rfl, rfl, rfl⟩
set_option maxRecDepth 100000 in
theorem ax_X12_said_20c (c0 c1 c2 c3 c4 c5 c6 c7 c8 c9 : Nat × va_E) : [0, 1, 2, 3, 4, 5, 6, 7, 8, 9].map (fun i => ([c0, c1, c2, c3, c4, c5, c6, c7, c8, c9] : va_W)[i]?) = List.map some ([c0, c1, c2, c3, c4, c5, c6, c7, c8, c9] : va_W) := rfl
set_option maxHeartbeats 4000000 in
set_option maxRecDepth 100000 in
theorem c_X12_said (l : Launch) (G : jG) (N : Nat) (q_this : Nat) (q_this_book : Nat) (q_this_s : Nat) (q_this_place : Nat) (q_this_sort : Nat) (q_this_minute : Nat) (q_this_when : Nat) (q_this_isHeard : Nat) (q_this_goneBy : Nat) (q_this_stand : Nat) (v_this_text : Value) (v_this_length : Value) (v_this_draft : Value) (v_this_kept : Value) (v_this_keptMany : Value) (v_this_acts : Value) (v_this_actMany : Value) (v_this_row : Value) (v_this_rowMany : Value) (v_this_tells : Value) (v_this_tellMany : Value) (v_this_at : Value) (v_this_told : Value) (f_this_book : (Nat → Int32)) (f_this_s : (Nat → Int32)) (f_this_place : (Nat → Int32)) (f_this_sort : (Nat → Int32)) (f_this_minute : (Nat → Int32)) (f_this_when : (Nat → Int32)) (f_this_isHeard : (Nat → Int32)) (f_this_goneBy : (Nat → Int32)) (f_this_stand : (Nat → Int32)) (f_this_many : Int32) (f_this_standing : Int32) (x1 : Int32) (x2 : Int32) (u : Int32 × (Nat → Int32) × (Nat → Int32) × (Nat → Int32) × (Nat → Int32) × (Nat → Int32) × (Nat → Int32) × (Nat → Int32) × Int32 × Int32) (hu : g_X12_said N f_this_book f_this_s f_this_place f_this_sort f_this_minute f_this_when f_this_isHeard f_this_goneBy f_this_stand f_this_many f_this_standing x1 x2 = some u) : MetRW l G yX12_said wsX12_said ({ frames := 4, cells := 0, slots := 0, locals := 94 } : Room) [.ref q_this, .int x1, .int x2] (w_X12_said G q_this q_this_book q_this_s q_this_place q_this_sort q_this_minute q_this_when q_this_isHeard q_this_goneBy q_this_stand v_this_text v_this_length v_this_draft v_this_kept v_this_keptMany v_this_acts v_this_actMany v_this_row v_this_rowMany v_this_tells v_this_tellMany v_this_at v_this_told f_this_book f_this_s f_this_place f_this_sort f_this_minute f_this_when f_this_isHeard f_this_goneBy f_this_stand f_this_many f_this_standing) (w_X12_said G q_this q_this_book q_this_s q_this_place q_this_sort q_this_minute q_this_when q_this_isHeard q_this_goneBy q_this_stand v_this_text v_this_length v_this_draft v_this_kept v_this_keptMany v_this_acts v_this_actMany v_this_row v_this_rowMany v_this_tells v_this_tellMany v_this_at v_this_told f_this_book f_this_s u.2.1 u.2.2.1 u.2.2.2.1 u.2.2.2.2.1 u.2.2.2.2.2.1 u.2.2.2.2.2.2.1 u.2.2.2.2.2.2.2.1 u.2.2.2.2.2.2.2.2.1 u.2.2.2.2.2.2.2.2.2) u.1 := by
  refine met_rwi (cc := cX12_said) (maxL := 3) (lv0 := [(0, .ref q_this), (1, .int x1), (2, .int x2)]) (by decide) rfl rfl rfl rfl (fun X hX hW hret => ?_)
  have hg := hu
  unfold g_X12_said at hg
  refine j_aload_n hX 0 dX12_said_0 rfl rfl ?_
  refine j_iload_n hX 1 dX12_said_1 rfl rfl ?_
  refine j_vRO hX (r := fun v => v) [.int x1] hg (fun v hv => c_X12_isPlace l G N q_this q_this_book v_this_text v_this_length v_this_draft (.ref q_this_s) v_this_kept v_this_keptMany v_this_acts v_this_actMany v_this_row v_this_rowMany v_this_tells v_this_tellMany v_this_at v_this_told (.ref q_this_place) (.ref q_this_sort) (.ref q_this_minute) (.ref q_this_when) (.ref q_this_isHeard) (.ref q_this_goneBy) (.ref q_this_stand) (.int f_this_many) (.int f_this_standing) f_this_book x1 v hv) gX12_said_X12_isPlace rfl ⟨rfl, rfl⟩ ⟨rfl, by decide, by decide, rfl⟩ rfl rfl [0, 1] rfl rfl rfl dX12_said_2 rfl rfl ⟨Nat.zero_le _, Nat.zero_le _⟩ (fun v2 hg => ?_)
  refine j_if_eq hX 15 hg dX12_said_5 (by decide) (fun hg => ?_) (fun hg => ?_)
  · refine j_iconst hX dX12_said_15 kc_m1 ?_
    cases hg
    exact hret _ _ dX12_said_16
  · refine j_iload_n hX 2 dX12_said_8 rfl rfl ?_
    refine j_sRO hX (r := fun v => v) [.int x2] hg (fun v hv => c_X12_isMinute l G N x2 v hv) gX12_said_X12_isMinute rfl ⟨rfl, rfl⟩ ⟨by decide, by decide, rfl⟩ rfl rfl [] rfl dX12_said_9 rfl rfl ⟨Nat.zero_le _, Nat.zero_le _⟩ (fun v9 hg => ?_)
    refine j_if_ne hX 17 hg dX12_said_12 (by decide) (fun hg => ?_) (fun hg => ?_)
    · refine j_iconst hX dX12_said_15 kc_m1 ?_
      cases hg
      exact hret _ _ dX12_said_16
    · refine j_aload_n hX 0 dX12_said_17 rfl rfl ?_
      refine j_iload_n hX 1 dX12_said_18 rfl rfl ?_
      refine j_iload_n hX 2 dX12_said_19 rfl rfl ?_
      refine j_vRV hX hW (w1 := fun v => (w_X12_playsNow G q_this q_this_book q_this_s q_this_place q_this_sort q_this_minute q_this_when q_this_isHeard q_this_goneBy q_this_stand v_this_text v_this_length v_this_draft v_this_kept v_this_keptMany v_this_acts v_this_actMany v_this_row v_this_rowMany v_this_tells v_this_tellMany v_this_at v_this_told f_this_book f_this_s v.1 v.2.1 v.2.2.1 v.2.2.2.1 v.2.2.2.2.1 v.2.2.2.2.2.1 v.2.2.2.2.2.2.1 v.2.2.2.2.2.2.2.1 v.2.2.2.2.2.2.2.2)) (ws' := fun v => (w_X12_said G q_this q_this_book q_this_s q_this_place q_this_sort q_this_minute q_this_when q_this_isHeard q_this_goneBy q_this_stand v_this_text v_this_length v_this_draft v_this_kept v_this_keptMany v_this_acts v_this_actMany v_this_row v_this_rowMany v_this_tells v_this_tellMany v_this_at v_this_told f_this_book f_this_s v.1 v.2.1 v.2.2.1 v.2.2.2.1 v.2.2.2.2.1 v.2.2.2.2.2.1 v.2.2.2.2.2.2.1 v.2.2.2.2.2.2.2.1 v.2.2.2.2.2.2.2.2)) [.int x1, .int x2] hg (fun v hv => c_X12_playsNow l G N q_this q_this_book q_this_s q_this_place q_this_sort q_this_minute q_this_when q_this_isHeard q_this_goneBy q_this_stand v_this_text v_this_length v_this_draft v_this_kept v_this_keptMany v_this_acts v_this_actMany v_this_row v_this_rowMany v_this_tells v_this_tellMany v_this_at v_this_told f_this_book f_this_s f_this_place f_this_sort f_this_minute f_this_when f_this_isHeard f_this_goneBy f_this_stand f_this_many f_this_standing x1 x2 v hv) gX12_said_X12_playsNow rfl ⟨rfl, rfl⟩ ⟨rfl, by decide, by decide, rfl⟩ rfl rfl [0, 1, 2, 3, 4, 5, 6, 7, 8, 9] (ax_X12_said_20c _ _ _ _ _ _ _ _ _ _) (by decide +kernel) rfl rfl dX12_said_20 rfl rfl ⟨Nat.zero_le _, Nat.zero_le _⟩ (fun _ => jn_ax [0, 1, 2, 3, 4, 5, 6, 7, 8, 9] ([] : List Nat) 10 (ax_X12_said_20 _ _ _ _ _ _ _ _ _ _ _ _ _ _ _ _ _ _ _ _) rfl (by decide +kernel)) (fun v20 hg => ?_)
      refine j_aload_n hX 0 dX12_said_23 rfl rfl ?_
      refine j_iload_n hX 2 dX12_said_24 rfl rfl ?_
      refine j_vRW hX hW (r := fun v => v.1) (w1 := fun v => (w_X12_says G q_this q_this_book q_this_when q_this_stand v_this_text v_this_length v_this_draft (.ref q_this_s) v_this_kept v_this_keptMany v_this_acts v_this_actMany v_this_row v_this_rowMany v_this_tells v_this_tellMany v_this_at v_this_told (.ref q_this_place) (.ref q_this_sort) (.ref q_this_minute) (.ref q_this_isHeard) (.ref q_this_goneBy) (.int v20.2.2.2.2.2.2.2.1) f_this_book v20.2.2.2.1 v.2 v20.2.2.2.2.2.2.2.2)) (ws' := fun v => (w_X12_said G q_this q_this_book q_this_s q_this_place q_this_sort q_this_minute q_this_when q_this_isHeard q_this_goneBy q_this_stand v_this_text v_this_length v_this_draft v_this_kept v_this_keptMany v_this_acts v_this_actMany v_this_row v_this_rowMany v_this_tells v_this_tellMany v_this_at v_this_told f_this_book f_this_s v20.1 v20.2.1 v20.2.2.1 v20.2.2.2.1 v20.2.2.2.2.1 v20.2.2.2.2.2.1 v.2 v20.2.2.2.2.2.2.2.1 v20.2.2.2.2.2.2.2.2)) [.int x2] hg (fun v hv => c_X12_says l G N q_this q_this_book q_this_when q_this_stand v_this_text v_this_length v_this_draft (.ref q_this_s) v_this_kept v_this_keptMany v_this_acts v_this_actMany v_this_row v_this_rowMany v_this_tells v_this_tellMany v_this_at v_this_told (.ref q_this_place) (.ref q_this_sort) (.ref q_this_minute) (.ref q_this_isHeard) (.ref q_this_goneBy) (.int v20.2.2.2.2.2.2.2.1) f_this_book v20.2.2.2.1 v20.2.2.2.2.2.2.1 v20.2.2.2.2.2.2.2.2 x2 v hv) gX12_said_X12_says rfl ⟨rfl, rfl⟩ ⟨rfl, by decide, by decide, rfl⟩ rfl rfl [0, 1, 6, 9] rfl (by decide +kernel) rfl rfl dX12_said_25 rfl rfl ⟨Nat.zero_le _, Nat.zero_le _⟩ (fun _ => jn_set [0, 1, 6, 9] rfl rfl rfl) (fun v25 hg => ?_)
      cases hg
      exact hret _ _ dX12_said_28
abbrev w_X12_isNext (G : jG) (q_this : Nat) (q_this_book : Nat) (q_this_sort : Nat) (q_this_stand : Nat) (v_this_text : Value) (v_this_length : Value) (v_this_draft : Value) (v_this_s : Value) (v_this_kept : Value) (v_this_keptMany : Value) (v_this_acts : Value) (v_this_actMany : Value) (v_this_row : Value) (v_this_rowMany : Value) (v_this_tells : Value) (v_this_tellMany : Value) (v_this_at : Value) (v_this_told : Value) (v_this_place : Value) (v_this_minute : Value) (v_this_when : Value) (v_this_isHeard : Value) (v_this_goneBy : Value) (v_this_many : Value) (v_this_standing : Value) (f_this_book : (Nat → Int32)) (f_this_sort : (Nat → Int32)) (f_this_stand : (Nat → Int32)) : va_W := [oC q_this 12 [v_this_text, v_this_length, .ref q_this_book, v_this_draft, v_this_s, v_this_kept, v_this_keptMany, v_this_acts, v_this_actMany, v_this_row, v_this_rowMany, v_this_tells, v_this_tellMany, v_this_at, v_this_told, v_this_place, .ref q_this_sort, v_this_minute, v_this_when, v_this_isHeard, v_this_goneBy, .ref q_this_stand, v_this_many, v_this_standing], aI G q_this_book 78 f_this_book, aI G q_this_sort 128 f_this_sort, aI G q_this_stand 128 f_this_stand]
def g_X12_isNext_b80 (N : Nat) (f_this_book : (Nat → Int32)) (f_this_sort : (Nat → Int32)) (f_this_stand : (Nat → Int32)) (rec_25 : Int32 → Int32 → Int32 → Int32 → Option (Int32)) (x1 : Int32) (x2 : Int32) (x5 : Int32) (s0 : Int32) : Option (Int32) := rec_25 x1 x2 s0 (x5 + 1)
def g_X12_isNext_L25 (N : Nat) (f_this_book : (Nat → Int32)) (f_this_sort : (Nat → Int32)) (f_this_stand : (Nat → Int32)) : Nat → Int32 → Int32 → Int32 → Int32 → Option (Int32)
  | 0, _, _, _, _ => none
  | fu + 1, x1, x2, x4, x5 => gi (30 + x1) 78 (if (f_this_book (30 + x1 : Int32).toNatClampNeg) ≤ x5 then gb x4 (some x4) else if x4 = 0 then gb x4 (some x4) else gi (x2 + x5) 128 (gi (f_this_stand (x2 + x5 : Int32).toNatClampNeg) 128 (gi ((38 + (4 * x1)) + x5) 78 (if (f_this_sort (f_this_stand (x2 + x5 : Int32).toNatClampNeg : Int32).toNatClampNeg) = (f_this_book ((38 + (4 * x1)) + x5 : Int32).toNatClampNeg) then g_X12_isNext_b80 N f_this_book f_this_sort f_this_stand (g_X12_isNext_L25 N f_this_book f_this_sort f_this_stand fu) x1 x2 x5 1 else g_X12_isNext_b80 N f_this_book f_this_sort f_this_stand (g_X12_isNext_L25 N f_this_book f_this_sort f_this_stand fu) x1 x2 x5 0))))
def g_X12_isNext_b20 (N : Nat) (f_this_book : (Nat → Int32)) (f_this_sort : (Nat → Int32)) (f_this_stand : (Nat → Int32)) (x1 : Int32) (x2 : Int32) (s0 : Int32) : Option (Int32) := g_X12_isNext_L25 N f_this_book f_this_sort f_this_stand N x1 x2 s0 0
def g_X12_isNext (N : Nat) (f_this_book : (Nat → Int32)) (f_this_sort : (Nat → Int32)) (f_this_stand : (Nat → Int32)) (x1 : Int32) (x2 : Int32) (x3 : Int32) : Option (Int32) := gi (30 + x1) 78 (if x3 < (x2 + (f_this_book (30 + x1 : Int32).toNatClampNeg)) then g_X12_isNext_b20 N f_this_book f_this_sort f_this_stand x1 x2 0 else g_X12_isNext_b20 N f_this_book f_this_sort f_this_stand x1 x2 1)
set_option maxHeartbeats 4000000 in
set_option maxRecDepth 100000 in
theorem c_X12_isNext (l : Launch) (G : jG) (N : Nat) (q_this : Nat) (q_this_book : Nat) (q_this_sort : Nat) (q_this_stand : Nat) (v_this_text : Value) (v_this_length : Value) (v_this_draft : Value) (v_this_s : Value) (v_this_kept : Value) (v_this_keptMany : Value) (v_this_acts : Value) (v_this_actMany : Value) (v_this_row : Value) (v_this_rowMany : Value) (v_this_tells : Value) (v_this_tellMany : Value) (v_this_at : Value) (v_this_told : Value) (v_this_place : Value) (v_this_minute : Value) (v_this_when : Value) (v_this_isHeard : Value) (v_this_goneBy : Value) (v_this_many : Value) (v_this_standing : Value) (f_this_book : (Nat → Int32)) (f_this_sort : (Nat → Int32)) (f_this_stand : (Nat → Int32)) (x1 : Int32) (x2 : Int32) (x3 : Int32) (u : Int32) (hu : g_X12_isNext N f_this_book f_this_sort f_this_stand x1 x2 x3 = some u) : MetRO l G yX12_isNext wsX12_isNext ({ frames := 0, cells := 0, slots := 0, locals := 0 } : Room) [.ref q_this, .int x1, .int x2, .int x3] (w_X12_isNext G q_this q_this_book q_this_sort q_this_stand v_this_text v_this_length v_this_draft v_this_s v_this_kept v_this_keptMany v_this_acts v_this_actMany v_this_row v_this_rowMany v_this_tells v_this_tellMany v_this_at v_this_told v_this_place v_this_minute v_this_when v_this_isHeard v_this_goneBy v_this_many v_this_standing f_this_book f_this_sort f_this_stand) u := by
  refine met_roz (cc := cX12_isNext) (maxL := 6) (lv0 := [(0, .ref q_this), (1, .int x1), (2, .int x2), (3, .int x3)]) (by decide) rfl rfl rfl rfl (fun X hX hret => ?_)
  have hinX12 : ∀ w ∈ u_ws RX12 TX12 24, w ∈ wsX12_isNext := by decide +kernel
  have hf_X12_book_13 : Cond.fieldLink RX12 13 (TX12 2).1 (TX12 2).2.1 (TX12 2).2.2.1 ∈ wsX12_isNext := by decide +kernel
  have hf_X12_sort_40 : Cond.fieldLink RX12 40 (TX12 16).1 (TX12 16).2.1 (TX12 16).2.2.1 ∈ wsX12_isNext := by decide +kernel
  have hf_X12_stand_56 : Cond.fieldLink RX12 56 (TX12 21).1 (TX12 21).2.1 (TX12 21).2.2.1 ∈ wsX12_isNext := by decide +kernel
  have L25 : ∀ (fu25 : Nat), ∀ (x1 : Int32) (x2 : Int32) (x4 : Int32) (x5 : Int32), g_X12_isNext_L25 N f_this_book f_this_sort f_this_stand fu25 x1 x2 x4 x5 = some u → J X 0 0 (w_X12_isNext G q_this q_this_book q_this_sort q_this_stand v_this_text v_this_length v_this_draft v_this_s v_this_kept v_this_keptMany v_this_acts v_this_actMany v_this_row v_this_rowMany v_this_tells v_this_tellMany v_this_at v_this_told v_this_place v_this_minute v_this_when v_this_isHeard v_this_goneBy v_this_many v_this_standing f_this_book f_this_sort f_this_stand) 25 [(0, .ref q_this), (1, .int x1), (2, .int x2), (4, .int x4), (5, .int x5)] [] := by
    intro fu25
    induction fu25 with
    | zero => intro x1 x2 x4 x5 hg; exact nomatch hg
    | succ fu25 ih25 =>
      have B80 : ∀ (x1 : Int32) (x2 : Int32) (x5 : Int32) (s0 : Int32), g_X12_isNext_b80 N f_this_book f_this_sort f_this_stand (g_X12_isNext_L25 N f_this_book f_this_sort f_this_stand fu25) x1 x2 x5 s0 = some u → J X 0 0 (w_X12_isNext G q_this q_this_book q_this_sort q_this_stand v_this_text v_this_length v_this_draft v_this_s v_this_kept v_this_keptMany v_this_acts v_this_actMany v_this_row v_this_rowMany v_this_tells v_this_tellMany v_this_at v_this_told v_this_place v_this_minute v_this_when v_this_isHeard v_this_goneBy v_this_many v_this_standing f_this_book f_this_sort f_this_stand) 80 [(0, .ref q_this), (1, .int x1), (2, .int x2), (5, .int x5)] [.int s0] := by
        intro x1 x2 x5 s0 hg
        unfold g_X12_isNext_b80 at hg
        refine j_istore hX (lv' := [(4, .int s0), (0, .ref q_this), (1, .int x1), (2, .int x2), (5, .int x5)]) dX12_isNext_80 rfl rfl ?_
        refine j_iinc hX 4 (v := x5 + 1) (lv' := [(5, .int (x5 + 1)), (4, .int s0), (0, .ref q_this), (1, .int x1), (2, .int x2)]) dX12_isNext_82 rfl (by rw [kc_1]) rfl rfl ?_
        refine j_goto hX 25 dX12_isNext_85 (by decide) ?_
        refine j_lv [2, 3, 4, 1, 0] rfl ?_
        exact ih25 _ _ _ _ hg
      intro x1 x2 x4 x5 hg
      unfold g_X12_isNext_L25 at hg
      refine j_iload hX 4 dX12_isNext_25 rfl ?_
      refine j_aload_n hX 0 dX12_isNext_27 rfl rfl ?_
      refine j_get hX 0 2 rfl rfl hinX12 rfl hf_X12_book_13 rfl dX12_isNext_28 ?_
      refine j_bipush hX dX12_isNext_31 kb_30 ?_
      refine j_iload_n hX 1 dX12_isNext_33 rfl rfl ?_
      refine j_iadd hX dX12_isNext_34 ?_
      refine j_iald hX 1 rfl hg dX12_isNext_35 (fun hg => ?_)
      refine j_icmp_ge hX 88 hg dX12_isNext_36 (by decide) (fun hg => ?_) (fun hg => ?_)
      · refine j_iload hX 3 dX12_isNext_88 rfl ?_
        obtain ⟨hb, hg⟩ := gb_some hg
        cases hg
        exact hret _ _ hb dX12_isNext_90
      · refine j_iload hX 3 dX12_isNext_39 rfl ?_
        refine j_if_eq hX 88 hg dX12_isNext_41 (by decide) (fun hg => ?_) (fun hg => ?_)
        · refine j_iload hX 3 dX12_isNext_88 rfl ?_
          obtain ⟨hb, hg⟩ := gb_some hg
          cases hg
          exact hret _ _ hb dX12_isNext_90
        · refine j_aload_n hX 0 dX12_isNext_44 rfl rfl ?_
          refine j_get hX 0 16 rfl rfl hinX12 rfl hf_X12_sort_40 rfl dX12_isNext_45 ?_
          refine j_aload_n hX 0 dX12_isNext_48 rfl rfl ?_
          refine j_get hX 0 21 rfl rfl hinX12 rfl hf_X12_stand_56 rfl dX12_isNext_49 ?_
          refine j_iload_n hX 2 dX12_isNext_52 rfl rfl ?_
          refine j_iload hX 4 dX12_isNext_53 rfl ?_
          refine j_iadd hX dX12_isNext_55 ?_
          refine j_iald hX 3 rfl hg dX12_isNext_56 (fun hg => ?_)
          refine j_iald hX 2 rfl hg dX12_isNext_57 (fun hg => ?_)
          refine j_aload_n hX 0 dX12_isNext_58 rfl rfl ?_
          refine j_get hX 0 2 rfl rfl hinX12 rfl hf_X12_book_13 rfl dX12_isNext_59 ?_
          refine j_bipush hX dX12_isNext_62 kb_38 ?_
          refine j_iconst hX dX12_isNext_64 kc_4 ?_
          refine j_iload_n hX 1 dX12_isNext_65 rfl rfl ?_
          refine j_imul hX dX12_isNext_66 ?_
          refine j_iadd hX dX12_isNext_67 ?_
          refine j_iload hX 4 dX12_isNext_68 rfl ?_
          refine j_iadd hX dX12_isNext_70 ?_
          refine j_iald hX 1 rfl hg dX12_isNext_71 (fun hg => ?_)
          refine j_icmp_ne hX 79 hg dX12_isNext_72 (by decide) (fun hg => ?_) (fun hg => ?_)
          · refine j_iconst hX dX12_isNext_75 kc_1 ?_
            refine j_goto hX 80 dX12_isNext_76 (by decide) ?_
            refine j_lv [0, 1, 2, 4] rfl ?_
            exact B80 _ _ _ _ hg
          · refine j_iconst hX dX12_isNext_79 kc_0 ?_
            refine j_lv [0, 1, 2, 4] rfl ?_
            exact B80 _ _ _ _ hg
  have B20 : ∀ (x1 : Int32) (x2 : Int32) (s0 : Int32), g_X12_isNext_b20 N f_this_book f_this_sort f_this_stand x1 x2 s0 = some u → J X 0 0 (w_X12_isNext G q_this q_this_book q_this_sort q_this_stand v_this_text v_this_length v_this_draft v_this_s v_this_kept v_this_keptMany v_this_acts v_this_actMany v_this_row v_this_rowMany v_this_tells v_this_tellMany v_this_at v_this_told v_this_place v_this_minute v_this_when v_this_isHeard v_this_goneBy v_this_many v_this_standing f_this_book f_this_sort f_this_stand) 20 [(0, .ref q_this), (1, .int x1), (2, .int x2)] [.int s0] := by
    intro x1 x2 s0 hg
    unfold g_X12_isNext_b20 at hg
    refine j_istore hX (lv' := [(4, .int s0), (0, .ref q_this), (1, .int x1), (2, .int x2)]) dX12_isNext_20 rfl rfl ?_
    refine j_iconst hX dX12_isNext_22 kc_0 ?_
    refine j_istore hX (lv' := [(5, .int 0), (4, .int s0), (0, .ref q_this), (1, .int x1), (2, .int x2)]) dX12_isNext_23 rfl rfl ?_
    refine j_lv [2, 3, 4, 1, 0] rfl ?_
    exact L25 N _ _ _ _ hg
  have hg := hu
  unfold g_X12_isNext at hg
  refine j_iload_n hX 2 dX12_isNext_0 rfl rfl ?_
  refine j_aload_n hX 0 dX12_isNext_1 rfl rfl ?_
  refine j_get hX 0 2 rfl rfl hinX12 rfl hf_X12_book_13 rfl dX12_isNext_2 ?_
  refine j_bipush hX dX12_isNext_5 kb_30 ?_
  refine j_iload_n hX 1 dX12_isNext_7 rfl rfl ?_
  refine j_iadd hX dX12_isNext_8 ?_
  refine j_iald hX 1 rfl hg dX12_isNext_9 (fun hg => ?_)
  refine j_iadd hX dX12_isNext_10 ?_
  refine j_iload_n hX 3 dX12_isNext_11 rfl rfl ?_
  refine j_icmp_gt hX 19 hg dX12_isNext_12 (by decide) (fun hg => ?_) (fun hg => ?_)
  · refine j_iconst hX dX12_isNext_19 kc_0 ?_
    refine j_lv [0, 1, 2] rfl ?_
    exact B20 _ _ _ hg
  · refine j_iconst hX dX12_isNext_15 kc_1 ?_
    refine j_goto hX 20 dX12_isNext_16 (by decide) ?_
    refine j_lv [0, 1, 2] rfl ?_
    exact B20 _ _ _ hg
abbrev w_X12_meaning (G : jG) (q_this : Nat) (q_this_book : Nat) (q_this_s : Nat) (q_this_place : Nat) (q_this_sort : Nat) (q_this_minute : Nat) (q_this_when : Nat) (q_this_isHeard : Nat) (q_this_goneBy : Nat) (q_this_stand : Nat) (v_this_text : Value) (v_this_length : Value) (v_this_draft : Value) (v_this_kept : Value) (v_this_keptMany : Value) (v_this_acts : Value) (v_this_actMany : Value) (v_this_row : Value) (v_this_rowMany : Value) (v_this_tells : Value) (v_this_tellMany : Value) (v_this_at : Value) (v_this_told : Value) (f_this_book : (Nat → Int32)) (f_this_s : (Nat → Int32)) (f_this_place : (Nat → Int32)) (f_this_sort : (Nat → Int32)) (f_this_minute : (Nat → Int32)) (f_this_when : (Nat → Int32)) (f_this_isHeard : (Nat → Int32)) (f_this_goneBy : (Nat → Int32)) (f_this_stand : (Nat → Int32)) (f_this_many : Int32) (f_this_standing : Int32) : va_W := [oC q_this 12 [v_this_text, v_this_length, .ref q_this_book, v_this_draft, .ref q_this_s, v_this_kept, v_this_keptMany, v_this_acts, v_this_actMany, v_this_row, v_this_rowMany, v_this_tells, v_this_tellMany, v_this_at, v_this_told, .ref q_this_place, .ref q_this_sort, .ref q_this_minute, .ref q_this_when, .ref q_this_isHeard, .ref q_this_goneBy, .ref q_this_stand, .int f_this_many, .int f_this_standing], aI G q_this_book 78 f_this_book, aI G q_this_s 74 f_this_s, aI G q_this_place 128 f_this_place, aI G q_this_sort 128 f_this_sort, aI G q_this_minute 128 f_this_minute, aI G q_this_when 128 f_this_when, aZ G q_this_isHeard 128 f_this_isHeard, aI G q_this_goneBy 128 f_this_goneBy, aI G q_this_stand 128 f_this_stand]
def g_X12_meaning_b193 (N : Nat) (f_this_book : (Nat → Int32)) (f_this_s : (Nat → Int32)) (rec_40 : (Nat → Int32) → (Nat → Int32) → (Nat → Int32) → (Nat → Int32) → (Nat → Int32) → (Nat → Int32) → (Nat → Int32) → Int32 → Int32 → Int32 → Int32 → Int32 → Int32 → Option (Int32 × (Nat → Int32) × (Nat → Int32) × (Nat → Int32) × (Nat → Int32) × (Nat → Int32) × (Nat → Int32) × (Nat → Int32) × Int32 × Int32)) (f_this_place : (Nat → Int32)) (f_this_sort : (Nat → Int32)) (f_this_minute : (Nat → Int32)) (f_this_when : (Nat → Int32)) (f_this_isHeard : (Nat → Int32)) (f_this_goneBy : (Nat → Int32)) (f_this_stand : (Nat → Int32)) (f_this_many : Int32) (f_this_standing : Int32) (x3 : Int32) (x4 : Int32) (x6 : Int32) (s0 : Int32) (s1 : Int32) : Option (Int32 × (Nat → Int32) × (Nat → Int32) × (Nat → Int32) × (Nat → Int32) × (Nat → Int32) × (Nat → Int32) × (Nat → Int32) × Int32 × Int32) := rec_40 f_this_place f_this_sort f_this_minute f_this_when f_this_isHeard f_this_goneBy f_this_stand f_this_many f_this_standing x3 x4 (s0 + s1) x6
def g_X12_meaning_b175 (N : Nat) (f_this_book : (Nat → Int32)) (f_this_s : (Nat → Int32)) (rec_40 : (Nat → Int32) → (Nat → Int32) → (Nat → Int32) → (Nat → Int32) → (Nat → Int32) → (Nat → Int32) → (Nat → Int32) → Int32 → Int32 → Int32 → Int32 → Int32 → Int32 → Option (Int32 × (Nat → Int32) × (Nat → Int32) × (Nat → Int32) × (Nat → Int32) × (Nat → Int32) × (Nat → Int32) × (Nat → Int32) × Int32 × Int32)) (f_this_place : (Nat → Int32)) (f_this_sort : (Nat → Int32)) (f_this_minute : (Nat → Int32)) (f_this_when : (Nat → Int32)) (f_this_isHeard : (Nat → Int32)) (f_this_goneBy : (Nat → Int32)) (f_this_stand : (Nat → Int32)) (f_this_many : Int32) (f_this_standing : Int32) (x3 : Int32) (x4 : Int32) (x5 : Int32) (x7 : Int32) (x8 : Int32) (s0 : Int32) (s1 : Int32) : Option (Int32 × (Nat → Int32) × (Nat → Int32) × (Nat → Int32) × (Nat → Int32) × (Nat → Int32) × (Nat → Int32) × (Nat → Int32) × Int32 × Int32) := if x7 = (-4) then g_X12_meaning_b193 N f_this_book f_this_s rec_40 f_this_place f_this_sort f_this_minute f_this_when f_this_isHeard f_this_goneBy f_this_stand f_this_many f_this_standing x3 x4 (s0 + s1) x5 1 else g_X12_meaning_b193 N f_this_book f_this_s rec_40 f_this_place f_this_sort f_this_minute f_this_when f_this_isHeard f_this_goneBy f_this_stand f_this_many f_this_standing x3 x4 (s0 + s1) x5 x8
def g_X12_meaning_b161 (N : Nat) (f_this_book : (Nat → Int32)) (f_this_s : (Nat → Int32)) (rec_40 : (Nat → Int32) → (Nat → Int32) → (Nat → Int32) → (Nat → Int32) → (Nat → Int32) → (Nat → Int32) → (Nat → Int32) → Int32 → Int32 → Int32 → Int32 → Int32 → Int32 → Option (Int32 × (Nat → Int32) × (Nat → Int32) × (Nat → Int32) × (Nat → Int32) × (Nat → Int32) × (Nat → Int32) × (Nat → Int32) × Int32 × Int32)) (f_this_place : (Nat → Int32)) (f_this_sort : (Nat → Int32)) (f_this_minute : (Nat → Int32)) (f_this_when : (Nat → Int32)) (f_this_isHeard : (Nat → Int32)) (f_this_goneBy : (Nat → Int32)) (f_this_stand : (Nat → Int32)) (f_this_many : Int32) (f_this_standing : Int32) (x3 : Int32) (x4 : Int32) (x5 : Int32) (x6 : Int32) (x7 : Int32) (x8 : Int32) : Option (Int32 × (Nat → Int32) × (Nat → Int32) × (Nat → Int32) × (Nat → Int32) × (Nat → Int32) × (Nat → Int32) × (Nat → Int32) × Int32 × Int32) := if x7 = (-4) then g_X12_meaning_b175 N f_this_book f_this_s rec_40 f_this_place f_this_sort f_this_minute f_this_when f_this_isHeard f_this_goneBy f_this_stand f_this_many f_this_standing x3 x4 x5 x7 x8 x6 0 else g_X12_meaning_b175 N f_this_book f_this_s rec_40 f_this_place f_this_sort f_this_minute f_this_when f_this_isHeard f_this_goneBy f_this_stand f_this_many f_this_standing x3 x4 x5 x7 x8 x6 1
def g_X12_meaning_b145 (N : Nat) (f_this_book : (Nat → Int32)) (f_this_s : (Nat → Int32)) (rec_40 : (Nat → Int32) → (Nat → Int32) → (Nat → Int32) → (Nat → Int32) → (Nat → Int32) → (Nat → Int32) → (Nat → Int32) → Int32 → Int32 → Int32 → Int32 → Int32 → Int32 → Option (Int32 × (Nat → Int32) × (Nat → Int32) × (Nat → Int32) × (Nat → Int32) × (Nat → Int32) × (Nat → Int32) × (Nat → Int32) × Int32 × Int32)) (f_this_place : (Nat → Int32)) (f_this_sort : (Nat → Int32)) (f_this_minute : (Nat → Int32)) (f_this_when : (Nat → Int32)) (f_this_isHeard : (Nat → Int32)) (f_this_goneBy : (Nat → Int32)) (f_this_stand : (Nat → Int32)) (f_this_many : Int32) (f_this_standing : Int32) (x3 : Int32) (x4 : Int32) (x5 : Int32) (x6 : Int32) (x7 : Int32) (x8 : Int32) : Option (Int32 × (Nat → Int32) × (Nat → Int32) × (Nat → Int32) × (Nat → Int32) × (Nat → Int32) × (Nat → Int32) × (Nat → Int32) × Int32 × Int32) := if x7 = (-4) then g_X12_meaning_b161 N f_this_book f_this_s rec_40 f_this_place f_this_sort f_this_minute f_this_when f_this_isHeard f_this_goneBy f_this_stand f_this_many f_this_standing x3 x4 x5 x6 x7 x8 else if x6 = x3 then some (x7, f_this_place, f_this_sort, f_this_minute, f_this_when, f_this_isHeard, f_this_goneBy, f_this_stand, f_this_many, f_this_standing) else g_X12_meaning_b161 N f_this_book f_this_s rec_40 f_this_place f_this_sort f_this_minute f_this_when f_this_isHeard f_this_goneBy f_this_stand f_this_many f_this_standing x3 x4 x5 x6 x7 x8
def g_X12_meaning_b137 (N : Nat) (f_this_book : (Nat → Int32)) (f_this_s : (Nat → Int32)) (rec_57 : (Nat → Int32) → (Nat → Int32) → (Nat → Int32) → (Nat → Int32) → (Nat → Int32) → (Nat → Int32) → (Nat → Int32) → Int32 → Int32 → Int32 → Int32 → Int32 → Int32 → Int32 → Int32 → Int32 → Option (Int32 × (Nat → Int32) × (Nat → Int32) × (Nat → Int32) × (Nat → Int32) × (Nat → Int32) × (Nat → Int32) × (Nat → Int32) × Int32 × Int32)) (f_this_place : (Nat → Int32)) (f_this_sort : (Nat → Int32)) (f_this_minute : (Nat → Int32)) (f_this_when : (Nat → Int32)) (f_this_isHeard : (Nat → Int32)) (f_this_goneBy : (Nat → Int32)) (f_this_stand : (Nat → Int32)) (f_this_many : Int32) (f_this_standing : Int32) (x3 : Int32) (x4 : Int32) (x5 : Int32) (x6 : Int32) (x7 : Int32) (x9 : Int32) (s0 : Int32) : Option (Int32 × (Nat → Int32) × (Nat → Int32) × (Nat → Int32) × (Nat → Int32) × (Nat → Int32) × (Nat → Int32) × (Nat → Int32) × Int32 × Int32) := rec_57 f_this_place f_this_sort f_this_minute f_this_when f_this_isHeard f_this_goneBy f_this_stand f_this_many f_this_standing x3 x4 x5 x6 x7 s0 (x9 + 1)
def g_X12_meaning_b115 (N : Nat) (f_this_book : (Nat → Int32)) (f_this_s : (Nat → Int32)) (rec_57 : (Nat → Int32) → (Nat → Int32) → (Nat → Int32) → (Nat → Int32) → (Nat → Int32) → (Nat → Int32) → (Nat → Int32) → Int32 → Int32 → Int32 → Int32 → Int32 → Int32 → Int32 → Int32 → Int32 → Option (Int32 × (Nat → Int32) × (Nat → Int32) × (Nat → Int32) × (Nat → Int32) × (Nat → Int32) × (Nat → Int32) × (Nat → Int32) × Int32 × Int32)) (f_this_place : (Nat → Int32)) (f_this_sort : (Nat → Int32)) (f_this_minute : (Nat → Int32)) (f_this_when : (Nat → Int32)) (f_this_isHeard : (Nat → Int32)) (f_this_goneBy : (Nat → Int32)) (f_this_stand : (Nat → Int32)) (f_this_many : Int32) (f_this_standing : Int32) (x3 : Int32) (x4 : Int32) (x5 : Int32) (x6 : Int32) (x8 : Int32) (x9 : Int32) (x10 : Int32) (s0 : Int32) : Option (Int32 × (Nat → Int32) × (Nat → Int32) × (Nat → Int32) × (Nat → Int32) × (Nat → Int32) × (Nat → Int32) × (Nat → Int32) × Int32 × Int32) := if x10 = 0 then g_X12_meaning_b137 N f_this_book f_this_s rec_57 f_this_place f_this_sort f_this_minute f_this_when f_this_isHeard f_this_goneBy f_this_stand f_this_many f_this_standing x3 x4 x5 x6 s0 x9 x8 else gi (30 + x9) 78 (g_X12_meaning_b137 N f_this_book f_this_s rec_57 f_this_place f_this_sort f_this_minute f_this_when f_this_isHeard f_this_goneBy f_this_stand f_this_many f_this_standing x3 x4 x5 x6 s0 x9 (f_this_book (30 + x9 : Int32).toNatClampNeg))
def g_X12_meaning_b101 (N : Nat) (f_this_book : (Nat → Int32)) (f_this_s : (Nat → Int32)) (rec_57 : (Nat → Int32) → (Nat → Int32) → (Nat → Int32) → (Nat → Int32) → (Nat → Int32) → (Nat → Int32) → (Nat → Int32) → Int32 → Int32 → Int32 → Int32 → Int32 → Int32 → Int32 → Int32 → Int32 → Option (Int32 × (Nat → Int32) × (Nat → Int32) × (Nat → Int32) × (Nat → Int32) × (Nat → Int32) × (Nat → Int32) × (Nat → Int32) × Int32 × Int32)) (f_this_place : (Nat → Int32)) (f_this_sort : (Nat → Int32)) (f_this_minute : (Nat → Int32)) (f_this_when : (Nat → Int32)) (f_this_isHeard : (Nat → Int32)) (f_this_goneBy : (Nat → Int32)) (f_this_stand : (Nat → Int32)) (f_this_many : Int32) (f_this_standing : Int32) (x3 : Int32) (x4 : Int32) (x5 : Int32) (x6 : Int32) (x7 : Int32) (x8 : Int32) (x9 : Int32) (s0 : Int32) : Option (Int32 × (Nat → Int32) × (Nat → Int32) × (Nat → Int32) × (Nat → Int32) × (Nat → Int32) × (Nat → Int32) × (Nat → Int32) × Int32 × Int32) := if s0 = 0 then g_X12_meaning_b115 N f_this_book f_this_s rec_57 f_this_place f_this_sort f_this_minute f_this_when f_this_isHeard f_this_goneBy f_this_stand f_this_many f_this_standing x3 x4 x5 x6 x8 x9 s0 x7 else g_X12_meaning_b115 N f_this_book f_this_s rec_57 f_this_place f_this_sort f_this_minute f_this_when f_this_isHeard f_this_goneBy f_this_stand f_this_many f_this_standing x3 x4 x5 x6 x8 x9 s0 x9
def g_X12_meaning_b100 (N : Nat) (f_this_book : (Nat → Int32)) (f_this_s : (Nat → Int32)) (rec_57 : (Nat → Int32) → (Nat → Int32) → (Nat → Int32) → (Nat → Int32) → (Nat → Int32) → (Nat → Int32) → (Nat → Int32) → Int32 → Int32 → Int32 → Int32 → Int32 → Int32 → Int32 → Int32 → Int32 → Option (Int32 × (Nat → Int32) × (Nat → Int32) × (Nat → Int32) × (Nat → Int32) × (Nat → Int32) × (Nat → Int32) × (Nat → Int32) × Int32 × Int32)) (f_this_place : (Nat → Int32)) (f_this_sort : (Nat → Int32)) (f_this_minute : (Nat → Int32)) (f_this_when : (Nat → Int32)) (f_this_isHeard : (Nat → Int32)) (f_this_goneBy : (Nat → Int32)) (f_this_stand : (Nat → Int32)) (f_this_many : Int32) (f_this_standing : Int32) (x3 : Int32) (x4 : Int32) (x5 : Int32) (x6 : Int32) (x7 : Int32) (x8 : Int32) (x9 : Int32) : Option (Int32 × (Nat → Int32) × (Nat → Int32) × (Nat → Int32) × (Nat → Int32) × (Nat → Int32) × (Nat → Int32) × (Nat → Int32) × Int32 × Int32) := g_X12_meaning_b101 N f_this_book f_this_s rec_57 f_this_place f_this_sort f_this_minute f_this_when f_this_isHeard f_this_goneBy f_this_stand f_this_many f_this_standing x3 x4 x5 x6 x7 x8 x9 0
def g_X12_meaning_L57 (N : Nat) (f_this_book : (Nat → Int32)) (f_this_s : (Nat → Int32)) (k_145 : (Nat → Int32) → (Nat → Int32) → (Nat → Int32) → (Nat → Int32) → (Nat → Int32) → (Nat → Int32) → (Nat → Int32) → Int32 → Int32 → Int32 → Int32 → Int32 → Int32 → Int32 → Int32 → Option (Int32 × (Nat → Int32) × (Nat → Int32) × (Nat → Int32) × (Nat → Int32) × (Nat → Int32) × (Nat → Int32) × (Nat → Int32) × Int32 × Int32)) : Nat → (Nat → Int32) → (Nat → Int32) → (Nat → Int32) → (Nat → Int32) → (Nat → Int32) → (Nat → Int32) → (Nat → Int32) → Int32 → Int32 → Int32 → Int32 → Int32 → Int32 → Int32 → Int32 → Int32 → Option (Int32 × (Nat → Int32) × (Nat → Int32) × (Nat → Int32) × (Nat → Int32) × (Nat → Int32) × (Nat → Int32) × (Nat → Int32) × Int32 × Int32)
  | 0, _, _, _, _, _, _, _, _, _, _, _, _, _, _, _, _ => none
  | fu + 1, f_this_place, f_this_sort, f_this_minute, f_this_when, f_this_isHeard, f_this_goneBy, f_this_stand, f_this_many, f_this_standing, x3, x4, x5, x6, x7, x8, x9 => gi 4 78 (if (f_this_book (4 : Int32).toNatClampNeg) ≤ x9 then k_145 f_this_place f_this_sort f_this_minute f_this_when f_this_isHeard f_this_goneBy f_this_stand f_this_many f_this_standing x3 x4 x5 x6 x7 x8 else gi (30 + x9) 78 (if (f_this_book (30 + x9 : Int32).toNatClampNeg) ≤ x8 then g_X12_meaning_b100 N f_this_book f_this_s (g_X12_meaning_L57 N f_this_book f_this_s k_145 fu) f_this_place f_this_sort f_this_minute f_this_when f_this_isHeard f_this_goneBy f_this_stand f_this_many f_this_standing x3 x4 x5 x6 x7 x8 x9 else (g_X12_isNext N f_this_book f_this_sort f_this_stand x9 x5 x4).bind fun v90 => if v90 = 0 then g_X12_meaning_b100 N f_this_book f_this_s (g_X12_meaning_L57 N f_this_book f_this_s k_145 fu) f_this_place f_this_sort f_this_minute f_this_when f_this_isHeard f_this_goneBy f_this_stand f_this_many f_this_standing x3 x4 x5 x6 x7 x8 x9 else g_X12_meaning_b101 N f_this_book f_this_s (g_X12_meaning_L57 N f_this_book f_this_s k_145 fu) f_this_place f_this_sort f_this_minute f_this_when f_this_isHeard f_this_goneBy f_this_stand f_this_many f_this_standing x3 x4 x5 x6 x7 x8 x9 1))
def g_X12_meaning_L40 (N : Nat) (f_this_book : (Nat → Int32)) (f_this_s : (Nat → Int32)) : Nat → (Nat → Int32) → (Nat → Int32) → (Nat → Int32) → (Nat → Int32) → (Nat → Int32) → (Nat → Int32) → (Nat → Int32) → Int32 → Int32 → Int32 → Int32 → Int32 → Int32 → Option (Int32 × (Nat → Int32) × (Nat → Int32) × (Nat → Int32) × (Nat → Int32) × (Nat → Int32) × (Nat → Int32) × (Nat → Int32) × Int32 × Int32)
  | 0, _, _, _, _, _, _, _, _, _, _, _, _, _ => none
  | fu + 1, f_this_place, f_this_sort, f_this_minute, f_this_when, f_this_isHeard, f_this_goneBy, f_this_stand, f_this_many, f_this_standing, x3, x4, x5, x6 => if x4 ≤ x5 then some ((-4), f_this_place, f_this_sort, f_this_minute, f_this_when, f_this_isHeard, f_this_goneBy, f_this_stand, f_this_many, f_this_standing) else g_X12_meaning_L57 N f_this_book f_this_s (g_X12_meaning_b145 N f_this_book f_this_s (g_X12_meaning_L40 N f_this_book f_this_s fu)) N f_this_place f_this_sort f_this_minute f_this_when f_this_isHeard f_this_goneBy f_this_stand f_this_many f_this_standing x3 x4 x5 x6 (-4) 0 0
def g_X12_meaning (N : Nat) (f_this_book : (Nat → Int32)) (f_this_s : (Nat → Int32)) (f_this_place : (Nat → Int32)) (f_this_sort : (Nat → Int32)) (f_this_minute : (Nat → Int32)) (f_this_when : (Nat → Int32)) (f_this_isHeard : (Nat → Int32)) (f_this_goneBy : (Nat → Int32)) (f_this_stand : (Nat → Int32)) (f_this_many : Int32) (f_this_standing : Int32) (x1 : Int32) (x2 : Int32) (x3 : Int32) : Option (Int32 × (Nat → Int32) × (Nat → Int32) × (Nat → Int32) × (Nat → Int32) × (Nat → Int32) × (Nat → Int32) × (Nat → Int32) × Int32 × Int32) := (g_X12_isPlace N f_this_book x1).bind fun v2 => if v2 = 0 then some ((-1), f_this_place, f_this_sort, f_this_minute, f_this_when, f_this_isHeard, f_this_goneBy, f_this_stand, f_this_many, f_this_standing) else (g_X12_isMinute N x2).bind fun v9 => if v9 = 0 then some ((-1), f_this_place, f_this_sort, f_this_minute, f_this_when, f_this_isHeard, f_this_goneBy, f_this_stand, f_this_many, f_this_standing) else if (0 : Int32) ≤ x3 then (g_X12_playsNow N f_this_book f_this_s f_this_place f_this_sort f_this_minute f_this_when f_this_isHeard f_this_goneBy f_this_stand f_this_many f_this_standing x1 x2).bind fun v24 => (g_X12_says N f_this_book v24.2.2.2.1 v24.2.2.2.2.2.2.2.2 v24.2.2.2.2.2.2.1 x2).bind fun v29 => g_X12_meaning_L40 N f_this_book f_this_s N v24.1 v24.2.1 v24.2.2.1 v24.2.2.2.1 v24.2.2.2.2.1 v24.2.2.2.2.2.1 v29.2 v24.2.2.2.2.2.2.2.1 v24.2.2.2.2.2.2.2.2 x3 v29.1 0 0 else some ((-1), f_this_place, f_this_sort, f_this_minute, f_this_when, f_this_isHeard, f_this_goneBy, f_this_stand, f_this_many, f_this_standing)
set_option maxRecDepth 100000 in
theorem ax_X12_meaning_24 (c0 c1 c2 c3 c4 c5 c6 c7 c8 c9 d0 d1 d2 d3 d4 d5 d6 d7 d8 d9 : Nat × va_E) : [0, 1, 2, 3, 4, 5, 6, 7, 8, 9].map (fun i => ([c0, c1, c2, c3, c4, c5, c6, c7, c8, c9] : va_W)[i]?) = List.map some ([c0, c1, c2, c3, c4, c5, c6, c7, c8, c9] : va_W) ∧ ([d0, d1, d2, d3, d4, d5, d6, d7, d8, d9] : va_W).length = 10 ∧ [0, 1, 2, 3, 4, 5, 6, 7, 8, 9].map (fun i => ([d0, d1, d2, d3, d4, d5, d6, d7, d8, d9] : va_W)[i]?) = List.map some ([d0, d1, d2, d3, d4, d5, d6, d7, d8, d9] : va_W) ∧ ([] : List Nat).map (fun i => ([d0, d1, d2, d3, d4, d5, d6, d7, d8, d9] : va_W)[i]?) = ([] : List Nat).map (fun i => ([c0, c1, c2, c3, c4, c5, c6, c7, c8, c9] : va_W)[i]?) := ⟨rfl, rfl, rfl, rfl⟩
set_option maxRecDepth 100000 in
theorem ax_X12_meaning_24c (c0 c1 c2 c3 c4 c5 c6 c7 c8 c9 : Nat × va_E) : [0, 1, 2, 3, 4, 5, 6, 7, 8, 9].map (fun i => ([c0, c1, c2, c3, c4, c5, c6, c7, c8, c9] : va_W)[i]?) = List.map some ([c0, c1, c2, c3, c4, c5, c6, c7, c8, c9] : va_W) := rfl
set_option maxHeartbeats 4000000 in
set_option maxRecDepth 100000 in
theorem c_X12_meaning (l : Launch) (G : jG) (N : Nat) (q_this : Nat) (q_this_book : Nat) (q_this_s : Nat) (q_this_place : Nat) (q_this_sort : Nat) (q_this_minute : Nat) (q_this_when : Nat) (q_this_isHeard : Nat) (q_this_goneBy : Nat) (q_this_stand : Nat) (v_this_text : Value) (v_this_length : Value) (v_this_draft : Value) (v_this_kept : Value) (v_this_keptMany : Value) (v_this_acts : Value) (v_this_actMany : Value) (v_this_row : Value) (v_this_rowMany : Value) (v_this_tells : Value) (v_this_tellMany : Value) (v_this_at : Value) (v_this_told : Value) (f_this_book : (Nat → Int32)) (f_this_s : (Nat → Int32)) (f_this_place : (Nat → Int32)) (f_this_sort : (Nat → Int32)) (f_this_minute : (Nat → Int32)) (f_this_when : (Nat → Int32)) (f_this_isHeard : (Nat → Int32)) (f_this_goneBy : (Nat → Int32)) (f_this_stand : (Nat → Int32)) (f_this_many : Int32) (f_this_standing : Int32) (x1 : Int32) (x2 : Int32) (x3 : Int32) (u : Int32 × (Nat → Int32) × (Nat → Int32) × (Nat → Int32) × (Nat → Int32) × (Nat → Int32) × (Nat → Int32) × (Nat → Int32) × Int32 × Int32) (hu : g_X12_meaning N f_this_book f_this_s f_this_place f_this_sort f_this_minute f_this_when f_this_isHeard f_this_goneBy f_this_stand f_this_many f_this_standing x1 x2 x3 = some u) : MetRW l G yX12_meaning wsX12_meaning ({ frames := 4, cells := 0, slots := 0, locals := 94 } : Room) [.ref q_this, .int x1, .int x2, .int x3] (w_X12_meaning G q_this q_this_book q_this_s q_this_place q_this_sort q_this_minute q_this_when q_this_isHeard q_this_goneBy q_this_stand v_this_text v_this_length v_this_draft v_this_kept v_this_keptMany v_this_acts v_this_actMany v_this_row v_this_rowMany v_this_tells v_this_tellMany v_this_at v_this_told f_this_book f_this_s f_this_place f_this_sort f_this_minute f_this_when f_this_isHeard f_this_goneBy f_this_stand f_this_many f_this_standing) (w_X12_meaning G q_this q_this_book q_this_s q_this_place q_this_sort q_this_minute q_this_when q_this_isHeard q_this_goneBy q_this_stand v_this_text v_this_length v_this_draft v_this_kept v_this_keptMany v_this_acts v_this_actMany v_this_row v_this_rowMany v_this_tells v_this_tellMany v_this_at v_this_told f_this_book f_this_s u.2.1 u.2.2.1 u.2.2.2.1 u.2.2.2.2.1 u.2.2.2.2.2.1 u.2.2.2.2.2.2.1 u.2.2.2.2.2.2.2.1 u.2.2.2.2.2.2.2.2.1 u.2.2.2.2.2.2.2.2.2) u.1 := by
  refine met_rwi (cc := cX12_meaning) (maxL := 11) (lv0 := [(0, .ref q_this), (1, .int x1), (2, .int x2), (3, .int x3)]) (by decide) rfl rfl rfl rfl (fun X hX hW hret => ?_)
  have hinX12 : ∀ w ∈ u_ws RX12 TX12 24, w ∈ wsX12_meaning := by decide +kernel
  have hf_X12_book_13 : Cond.fieldLink RX12 13 (TX12 2).1 (TX12 2).2.1 (TX12 2).2.2.1 ∈ wsX12_meaning := by decide +kernel
  have L40 : ∀ (fu40 : Nat), ∀ (f_this_place : (Nat → Int32)) (f_this_sort : (Nat → Int32)) (f_this_minute : (Nat → Int32)) (f_this_when : (Nat → Int32)) (f_this_isHeard : (Nat → Int32)) (f_this_goneBy : (Nat → Int32)) (f_this_stand : (Nat → Int32)) (f_this_many : Int32) (f_this_standing : Int32) (x3 : Int32) (x4 : Int32) (x5 : Int32) (x6 : Int32), g_X12_meaning_L40 N f_this_book f_this_s fu40 f_this_place f_this_sort f_this_minute f_this_when f_this_isHeard f_this_goneBy f_this_stand f_this_many f_this_standing x3 x4 x5 x6 = some u → J X 0 0 (w_X12_meaning G q_this q_this_book q_this_s q_this_place q_this_sort q_this_minute q_this_when q_this_isHeard q_this_goneBy q_this_stand v_this_text v_this_length v_this_draft v_this_kept v_this_keptMany v_this_acts v_this_actMany v_this_row v_this_rowMany v_this_tells v_this_tellMany v_this_at v_this_told f_this_book f_this_s f_this_place f_this_sort f_this_minute f_this_when f_this_isHeard f_this_goneBy f_this_stand f_this_many f_this_standing) 40 [(0, .ref q_this), (3, .int x3), (4, .int x4), (5, .int x5), (6, .int x6)] [] := by
    intro fu40
    induction fu40 with
    | zero => intro f_this_place f_this_sort f_this_minute f_this_when f_this_isHeard f_this_goneBy f_this_stand f_this_many f_this_standing x3 x4 x5 x6 hg; exact nomatch hg
    | succ fu40 ih40 =>
      have B193 : ∀ (f_this_place : (Nat → Int32)) (f_this_sort : (Nat → Int32)) (f_this_minute : (Nat → Int32)) (f_this_when : (Nat → Int32)) (f_this_isHeard : (Nat → Int32)) (f_this_goneBy : (Nat → Int32)) (f_this_stand : (Nat → Int32)) (f_this_many : Int32) (f_this_standing : Int32) (x3 : Int32) (x4 : Int32) (x6 : Int32) (s0 : Int32) (s1 : Int32), g_X12_meaning_b193 N f_this_book f_this_s (g_X12_meaning_L40 N f_this_book f_this_s fu40) f_this_place f_this_sort f_this_minute f_this_when f_this_isHeard f_this_goneBy f_this_stand f_this_many f_this_standing x3 x4 x6 s0 s1 = some u → J X 0 0 (w_X12_meaning G q_this q_this_book q_this_s q_this_place q_this_sort q_this_minute q_this_when q_this_isHeard q_this_goneBy q_this_stand v_this_text v_this_length v_this_draft v_this_kept v_this_keptMany v_this_acts v_this_actMany v_this_row v_this_rowMany v_this_tells v_this_tellMany v_this_at v_this_told f_this_book f_this_s f_this_place f_this_sort f_this_minute f_this_when f_this_isHeard f_this_goneBy f_this_stand f_this_many f_this_standing) 193 [(0, .ref q_this), (3, .int x3), (4, .int x4), (6, .int x6)] [.int s1, .int s0] := by
        intro f_this_place f_this_sort f_this_minute f_this_when f_this_isHeard f_this_goneBy f_this_stand f_this_many f_this_standing x3 x4 x6 s0 s1 hg
        unfold g_X12_meaning_b193 at hg
        refine j_iadd hX dX12_meaning_193 ?_
        refine j_istore hX (lv' := [(5, .int (s0 + s1)), (0, .ref q_this), (3, .int x3), (4, .int x4), (6, .int x6)]) dX12_meaning_194 rfl rfl ?_
        refine j_goto hX 40 dX12_meaning_196 (by decide) ?_
        refine j_lv [1, 2, 3, 0, 4] rfl ?_
        exact ih40 _ _ _ _ _ _ _ _ _ _ _ _ _ hg
      have B175 : ∀ (f_this_place : (Nat → Int32)) (f_this_sort : (Nat → Int32)) (f_this_minute : (Nat → Int32)) (f_this_when : (Nat → Int32)) (f_this_isHeard : (Nat → Int32)) (f_this_goneBy : (Nat → Int32)) (f_this_stand : (Nat → Int32)) (f_this_many : Int32) (f_this_standing : Int32) (x3 : Int32) (x4 : Int32) (x5 : Int32) (x7 : Int32) (x8 : Int32) (s0 : Int32) (s1 : Int32), g_X12_meaning_b175 N f_this_book f_this_s (g_X12_meaning_L40 N f_this_book f_this_s fu40) f_this_place f_this_sort f_this_minute f_this_when f_this_isHeard f_this_goneBy f_this_stand f_this_many f_this_standing x3 x4 x5 x7 x8 s0 s1 = some u → J X 0 0 (w_X12_meaning G q_this q_this_book q_this_s q_this_place q_this_sort q_this_minute q_this_when q_this_isHeard q_this_goneBy q_this_stand v_this_text v_this_length v_this_draft v_this_kept v_this_keptMany v_this_acts v_this_actMany v_this_row v_this_rowMany v_this_tells v_this_tellMany v_this_at v_this_told f_this_book f_this_s f_this_place f_this_sort f_this_minute f_this_when f_this_isHeard f_this_goneBy f_this_stand f_this_many f_this_standing) 175 [(0, .ref q_this), (3, .int x3), (4, .int x4), (5, .int x5), (7, .int x7), (8, .int x8)] [.int s1, .int s0] := by
        intro f_this_place f_this_sort f_this_minute f_this_when f_this_isHeard f_this_goneBy f_this_stand f_this_many f_this_standing x3 x4 x5 x7 x8 s0 s1 hg
        unfold g_X12_meaning_b175 at hg
        refine j_iadd hX dX12_meaning_175 ?_
        refine j_istore hX (lv' := [(6, .int (s0 + s1)), (0, .ref q_this), (3, .int x3), (4, .int x4), (5, .int x5), (7, .int x7), (8, .int x8)]) dX12_meaning_176 rfl rfl ?_
        refine j_iload hX 4 dX12_meaning_178 rfl ?_
        refine j_iload hX 5 dX12_meaning_180 rfl ?_
        refine j_bipush hX dX12_meaning_182 kb_m4 ?_
        refine j_icmp_ne hX 191 hg dX12_meaning_184 (by decide) (fun hg => ?_) (fun hg => ?_)
        · refine j_iconst hX dX12_meaning_187 kc_1 ?_
          refine j_goto hX 193 dX12_meaning_188 (by decide) ?_
          refine j_lv [1, 2, 3, 0] rfl ?_
          exact B193 _ _ _ _ _ _ _ _ _ _ _ _ _ _ hg
        · refine j_iload hX 6 dX12_meaning_191 rfl ?_
          refine j_lv [1, 2, 3, 0] rfl ?_
          exact B193 _ _ _ _ _ _ _ _ _ _ _ _ _ _ hg
      have B161 : ∀ (f_this_place : (Nat → Int32)) (f_this_sort : (Nat → Int32)) (f_this_minute : (Nat → Int32)) (f_this_when : (Nat → Int32)) (f_this_isHeard : (Nat → Int32)) (f_this_goneBy : (Nat → Int32)) (f_this_stand : (Nat → Int32)) (f_this_many : Int32) (f_this_standing : Int32) (x3 : Int32) (x4 : Int32) (x5 : Int32) (x6 : Int32) (x7 : Int32) (x8 : Int32), g_X12_meaning_b161 N f_this_book f_this_s (g_X12_meaning_L40 N f_this_book f_this_s fu40) f_this_place f_this_sort f_this_minute f_this_when f_this_isHeard f_this_goneBy f_this_stand f_this_many f_this_standing x3 x4 x5 x6 x7 x8 = some u → J X 0 0 (w_X12_meaning G q_this q_this_book q_this_s q_this_place q_this_sort q_this_minute q_this_when q_this_isHeard q_this_goneBy q_this_stand v_this_text v_this_length v_this_draft v_this_kept v_this_keptMany v_this_acts v_this_actMany v_this_row v_this_rowMany v_this_tells v_this_tellMany v_this_at v_this_told f_this_book f_this_s f_this_place f_this_sort f_this_minute f_this_when f_this_isHeard f_this_goneBy f_this_stand f_this_many f_this_standing) 161 [(0, .ref q_this), (3, .int x3), (4, .int x4), (5, .int x5), (6, .int x6), (7, .int x7), (8, .int x8)] [] := by
        intro f_this_place f_this_sort f_this_minute f_this_when f_this_isHeard f_this_goneBy f_this_stand f_this_many f_this_standing x3 x4 x5 x6 x7 x8 hg
        unfold g_X12_meaning_b161 at hg
        refine j_iload hX 4 dX12_meaning_161 rfl ?_
        refine j_iload hX 5 dX12_meaning_163 rfl ?_
        refine j_bipush hX dX12_meaning_165 kb_m4 ?_
        refine j_icmp_ne hX 174 hg dX12_meaning_167 (by decide) (fun hg => ?_) (fun hg => ?_)
        · refine j_iconst hX dX12_meaning_170 kc_0 ?_
          refine j_goto hX 175 dX12_meaning_171 (by decide) ?_
          refine j_lv [0, 1, 2, 3, 5, 6] rfl ?_
          exact B175 _ _ _ _ _ _ _ _ _ _ _ _ _ _ _ _ hg
        · refine j_iconst hX dX12_meaning_174 kc_1 ?_
          refine j_lv [0, 1, 2, 3, 5, 6] rfl ?_
          exact B175 _ _ _ _ _ _ _ _ _ _ _ _ _ _ _ _ hg
      have B145 : ∀ (f_this_place : (Nat → Int32)) (f_this_sort : (Nat → Int32)) (f_this_minute : (Nat → Int32)) (f_this_when : (Nat → Int32)) (f_this_isHeard : (Nat → Int32)) (f_this_goneBy : (Nat → Int32)) (f_this_stand : (Nat → Int32)) (f_this_many : Int32) (f_this_standing : Int32) (x3 : Int32) (x4 : Int32) (x5 : Int32) (x6 : Int32) (x7 : Int32) (x8 : Int32), g_X12_meaning_b145 N f_this_book f_this_s (g_X12_meaning_L40 N f_this_book f_this_s fu40) f_this_place f_this_sort f_this_minute f_this_when f_this_isHeard f_this_goneBy f_this_stand f_this_many f_this_standing x3 x4 x5 x6 x7 x8 = some u → J X 0 0 (w_X12_meaning G q_this q_this_book q_this_s q_this_place q_this_sort q_this_minute q_this_when q_this_isHeard q_this_goneBy q_this_stand v_this_text v_this_length v_this_draft v_this_kept v_this_keptMany v_this_acts v_this_actMany v_this_row v_this_rowMany v_this_tells v_this_tellMany v_this_at v_this_told f_this_book f_this_s f_this_place f_this_sort f_this_minute f_this_when f_this_isHeard f_this_goneBy f_this_stand f_this_many f_this_standing) 145 [(0, .ref q_this), (3, .int x3), (4, .int x4), (5, .int x5), (6, .int x6), (7, .int x7), (8, .int x8)] [] := by
        intro f_this_place f_this_sort f_this_minute f_this_when f_this_isHeard f_this_goneBy f_this_stand f_this_many f_this_standing x3 x4 x5 x6 x7 x8 hg
        unfold g_X12_meaning_b145 at hg
        refine j_iload hX 5 dX12_meaning_145 rfl ?_
        refine j_bipush hX dX12_meaning_147 kb_m4 ?_
        refine j_icmp_eq hX 161 hg dX12_meaning_149 (by decide) (fun hg => ?_) (fun hg => ?_)
        · exact B161 _ _ _ _ _ _ _ _ _ _ _ _ _ _ _ hg
        · refine j_iload hX 4 dX12_meaning_152 rfl ?_
          refine j_iload_n hX 1 dX12_meaning_154 rfl rfl ?_
          refine j_icmp_ne hX 161 hg dX12_meaning_155 (by decide) (fun hg => ?_) (fun hg => ?_)
          · refine j_iload hX 5 dX12_meaning_158 rfl ?_
            cases hg
            exact hret _ _ dX12_meaning_160
          · exact B161 _ _ _ _ _ _ _ _ _ _ _ _ _ _ _ hg
      have L57 : ∀ (fu57 : Nat), ∀ (f_this_place : (Nat → Int32)) (f_this_sort : (Nat → Int32)) (f_this_minute : (Nat → Int32)) (f_this_when : (Nat → Int32)) (f_this_isHeard : (Nat → Int32)) (f_this_goneBy : (Nat → Int32)) (f_this_stand : (Nat → Int32)) (f_this_many : Int32) (f_this_standing : Int32) (x3 : Int32) (x4 : Int32) (x5 : Int32) (x6 : Int32) (x7 : Int32) (x8 : Int32) (x9 : Int32), g_X12_meaning_L57 N f_this_book f_this_s (g_X12_meaning_b145 N f_this_book f_this_s (g_X12_meaning_L40 N f_this_book f_this_s fu40)) fu57 f_this_place f_this_sort f_this_minute f_this_when f_this_isHeard f_this_goneBy f_this_stand f_this_many f_this_standing x3 x4 x5 x6 x7 x8 x9 = some u → J X 0 0 (w_X12_meaning G q_this q_this_book q_this_s q_this_place q_this_sort q_this_minute q_this_when q_this_isHeard q_this_goneBy q_this_stand v_this_text v_this_length v_this_draft v_this_kept v_this_keptMany v_this_acts v_this_actMany v_this_row v_this_rowMany v_this_tells v_this_tellMany v_this_at v_this_told f_this_book f_this_s f_this_place f_this_sort f_this_minute f_this_when f_this_isHeard f_this_goneBy f_this_stand f_this_many f_this_standing) 57 [(0, .ref q_this), (3, .int x3), (4, .int x4), (5, .int x5), (6, .int x6), (7, .int x7), (8, .int x8), (9, .int x9)] [] := by
        intro fu57
        induction fu57 with
        | zero => intro f_this_place f_this_sort f_this_minute f_this_when f_this_isHeard f_this_goneBy f_this_stand f_this_many f_this_standing x3 x4 x5 x6 x7 x8 x9 hg; exact nomatch hg
        | succ fu57 ih57 =>
          have B137 : ∀ (f_this_place : (Nat → Int32)) (f_this_sort : (Nat → Int32)) (f_this_minute : (Nat → Int32)) (f_this_when : (Nat → Int32)) (f_this_isHeard : (Nat → Int32)) (f_this_goneBy : (Nat → Int32)) (f_this_stand : (Nat → Int32)) (f_this_many : Int32) (f_this_standing : Int32) (x3 : Int32) (x4 : Int32) (x5 : Int32) (x6 : Int32) (x7 : Int32) (x9 : Int32) (s0 : Int32), g_X12_meaning_b137 N f_this_book f_this_s (g_X12_meaning_L57 N f_this_book f_this_s (g_X12_meaning_b145 N f_this_book f_this_s (g_X12_meaning_L40 N f_this_book f_this_s fu40)) fu57) f_this_place f_this_sort f_this_minute f_this_when f_this_isHeard f_this_goneBy f_this_stand f_this_many f_this_standing x3 x4 x5 x6 x7 x9 s0 = some u → J X 0 0 (w_X12_meaning G q_this q_this_book q_this_s q_this_place q_this_sort q_this_minute q_this_when q_this_isHeard q_this_goneBy q_this_stand v_this_text v_this_length v_this_draft v_this_kept v_this_keptMany v_this_acts v_this_actMany v_this_row v_this_rowMany v_this_tells v_this_tellMany v_this_at v_this_told f_this_book f_this_s f_this_place f_this_sort f_this_minute f_this_when f_this_isHeard f_this_goneBy f_this_stand f_this_many f_this_standing) 137 [(0, .ref q_this), (3, .int x3), (4, .int x4), (5, .int x5), (6, .int x6), (7, .int x7), (9, .int x9)] [.int s0] := by
            intro f_this_place f_this_sort f_this_minute f_this_when f_this_isHeard f_this_goneBy f_this_stand f_this_many f_this_standing x3 x4 x5 x6 x7 x9 s0 hg
            unfold g_X12_meaning_b137 at hg
            refine j_istore hX (lv' := [(8, .int s0), (0, .ref q_this), (3, .int x3), (4, .int x4), (5, .int x5), (6, .int x6), (7, .int x7), (9, .int x9)]) dX12_meaning_137 rfl rfl ?_
            refine j_iinc hX 7 (v := x9 + 1) (lv' := [(9, .int (x9 + 1)), (8, .int s0), (0, .ref q_this), (3, .int x3), (4, .int x4), (5, .int x5), (6, .int x6), (7, .int x7)]) dX12_meaning_139 rfl (by rw [kc_1]) rfl rfl ?_
            refine j_goto hX 57 dX12_meaning_142 (by decide) ?_
            refine j_lv [2, 3, 4, 5, 6, 7, 1, 0] rfl ?_
            exact ih57 _ _ _ _ _ _ _ _ _ _ _ _ _ _ _ _ hg
          have B115 : ∀ (f_this_place : (Nat → Int32)) (f_this_sort : (Nat → Int32)) (f_this_minute : (Nat → Int32)) (f_this_when : (Nat → Int32)) (f_this_isHeard : (Nat → Int32)) (f_this_goneBy : (Nat → Int32)) (f_this_stand : (Nat → Int32)) (f_this_many : Int32) (f_this_standing : Int32) (x3 : Int32) (x4 : Int32) (x5 : Int32) (x6 : Int32) (x8 : Int32) (x9 : Int32) (x10 : Int32) (s0 : Int32), g_X12_meaning_b115 N f_this_book f_this_s (g_X12_meaning_L57 N f_this_book f_this_s (g_X12_meaning_b145 N f_this_book f_this_s (g_X12_meaning_L40 N f_this_book f_this_s fu40)) fu57) f_this_place f_this_sort f_this_minute f_this_when f_this_isHeard f_this_goneBy f_this_stand f_this_many f_this_standing x3 x4 x5 x6 x8 x9 x10 s0 = some u → J X 0 0 (w_X12_meaning G q_this q_this_book q_this_s q_this_place q_this_sort q_this_minute q_this_when q_this_isHeard q_this_goneBy q_this_stand v_this_text v_this_length v_this_draft v_this_kept v_this_keptMany v_this_acts v_this_actMany v_this_row v_this_rowMany v_this_tells v_this_tellMany v_this_at v_this_told f_this_book f_this_s f_this_place f_this_sort f_this_minute f_this_when f_this_isHeard f_this_goneBy f_this_stand f_this_many f_this_standing) 115 [(0, .ref q_this), (3, .int x3), (4, .int x4), (5, .int x5), (6, .int x6), (8, .int x8), (9, .int x9), (10, .int x10)] [.int s0] := by
            intro f_this_place f_this_sort f_this_minute f_this_when f_this_isHeard f_this_goneBy f_this_stand f_this_many f_this_standing x3 x4 x5 x6 x8 x9 x10 s0 hg
            unfold g_X12_meaning_b115 at hg
            refine j_istore hX (lv' := [(7, .int s0), (0, .ref q_this), (3, .int x3), (4, .int x4), (5, .int x5), (6, .int x6), (8, .int x8), (9, .int x9), (10, .int x10)]) dX12_meaning_115 rfl rfl ?_
            refine j_iload hX 8 dX12_meaning_117 rfl ?_
            refine j_if_eq hX 135 hg dX12_meaning_119 (by decide) (fun hg => ?_) (fun hg => ?_)
            · refine j_iload hX 6 dX12_meaning_135 rfl ?_
              refine j_lv [1, 2, 3, 4, 5, 0, 7] rfl ?_
              exact B137 _ _ _ _ _ _ _ _ _ _ _ _ _ _ _ _ hg
            · refine j_aload_n hX 1 dX12_meaning_122 rfl rfl ?_
              refine j_get hX 0 2 rfl rfl hinX12 rfl hf_X12_book_13 rfl dX12_meaning_123 ?_
              refine j_bipush hX dX12_meaning_126 kb_30 ?_
              refine j_iload hX 7 dX12_meaning_128 rfl ?_
              refine j_iadd hX dX12_meaning_130 ?_
              refine j_iald hX 1 rfl hg dX12_meaning_131 (fun hg => ?_)
              refine j_goto hX 137 dX12_meaning_132 (by decide) ?_
              refine j_lv [1, 2, 3, 4, 5, 0, 7] rfl ?_
              exact B137 _ _ _ _ _ _ _ _ _ _ _ _ _ _ _ _ hg
          have B101 : ∀ (f_this_place : (Nat → Int32)) (f_this_sort : (Nat → Int32)) (f_this_minute : (Nat → Int32)) (f_this_when : (Nat → Int32)) (f_this_isHeard : (Nat → Int32)) (f_this_goneBy : (Nat → Int32)) (f_this_stand : (Nat → Int32)) (f_this_many : Int32) (f_this_standing : Int32) (x3 : Int32) (x4 : Int32) (x5 : Int32) (x6 : Int32) (x7 : Int32) (x8 : Int32) (x9 : Int32) (s0 : Int32), g_X12_meaning_b101 N f_this_book f_this_s (g_X12_meaning_L57 N f_this_book f_this_s (g_X12_meaning_b145 N f_this_book f_this_s (g_X12_meaning_L40 N f_this_book f_this_s fu40)) fu57) f_this_place f_this_sort f_this_minute f_this_when f_this_isHeard f_this_goneBy f_this_stand f_this_many f_this_standing x3 x4 x5 x6 x7 x8 x9 s0 = some u → J X 0 0 (w_X12_meaning G q_this q_this_book q_this_s q_this_place q_this_sort q_this_minute q_this_when q_this_isHeard q_this_goneBy q_this_stand v_this_text v_this_length v_this_draft v_this_kept v_this_keptMany v_this_acts v_this_actMany v_this_row v_this_rowMany v_this_tells v_this_tellMany v_this_at v_this_told f_this_book f_this_s f_this_place f_this_sort f_this_minute f_this_when f_this_isHeard f_this_goneBy f_this_stand f_this_many f_this_standing) 101 [(0, .ref q_this), (3, .int x3), (4, .int x4), (5, .int x5), (6, .int x6), (7, .int x7), (8, .int x8), (9, .int x9)] [.int s0] := by
            intro f_this_place f_this_sort f_this_minute f_this_when f_this_isHeard f_this_goneBy f_this_stand f_this_many f_this_standing x3 x4 x5 x6 x7 x8 x9 s0 hg
            unfold g_X12_meaning_b101 at hg
            refine j_istore hX (lv' := [(10, .int s0), (0, .ref q_this), (3, .int x3), (4, .int x4), (5, .int x5), (6, .int x6), (7, .int x7), (8, .int x8), (9, .int x9)]) dX12_meaning_101 rfl rfl ?_
            refine j_iload hX 0 dX12_meaning_103 rfl ?_
            refine j_if_eq hX 113 hg dX12_meaning_105 (by decide) (fun hg => ?_) (fun hg => ?_)
            · refine j_iload hX 6 dX12_meaning_113 rfl ?_
              refine j_lv [1, 2, 3, 4, 5, 7, 8, 0] rfl ?_
              exact B115 _ _ _ _ _ _ _ _ _ _ _ _ _ _ _ _ _ hg
            · refine j_iload hX 8 dX12_meaning_108 rfl ?_
              refine j_goto hX 115 dX12_meaning_110 (by decide) ?_
              refine j_lv [1, 2, 3, 4, 5, 7, 8, 0] rfl ?_
              exact B115 _ _ _ _ _ _ _ _ _ _ _ _ _ _ _ _ _ hg
          have B100 : ∀ (f_this_place : (Nat → Int32)) (f_this_sort : (Nat → Int32)) (f_this_minute : (Nat → Int32)) (f_this_when : (Nat → Int32)) (f_this_isHeard : (Nat → Int32)) (f_this_goneBy : (Nat → Int32)) (f_this_stand : (Nat → Int32)) (f_this_many : Int32) (f_this_standing : Int32) (x3 : Int32) (x4 : Int32) (x5 : Int32) (x6 : Int32) (x7 : Int32) (x8 : Int32) (x9 : Int32), g_X12_meaning_b100 N f_this_book f_this_s (g_X12_meaning_L57 N f_this_book f_this_s (g_X12_meaning_b145 N f_this_book f_this_s (g_X12_meaning_L40 N f_this_book f_this_s fu40)) fu57) f_this_place f_this_sort f_this_minute f_this_when f_this_isHeard f_this_goneBy f_this_stand f_this_many f_this_standing x3 x4 x5 x6 x7 x8 x9 = some u → J X 0 0 (w_X12_meaning G q_this q_this_book q_this_s q_this_place q_this_sort q_this_minute q_this_when q_this_isHeard q_this_goneBy q_this_stand v_this_text v_this_length v_this_draft v_this_kept v_this_keptMany v_this_acts v_this_actMany v_this_row v_this_rowMany v_this_tells v_this_tellMany v_this_at v_this_told f_this_book f_this_s f_this_place f_this_sort f_this_minute f_this_when f_this_isHeard f_this_goneBy f_this_stand f_this_many f_this_standing) 100 [(0, .ref q_this), (3, .int x3), (4, .int x4), (5, .int x5), (6, .int x6), (7, .int x7), (8, .int x8), (9, .int x9)] [] := by
            intro f_this_place f_this_sort f_this_minute f_this_when f_this_isHeard f_this_goneBy f_this_stand f_this_many f_this_standing x3 x4 x5 x6 x7 x8 x9 hg
            unfold g_X12_meaning_b100 at hg
            refine j_iconst hX dX12_meaning_100 kc_0 ?_
            exact B101 _ _ _ _ _ _ _ _ _ _ _ _ _ _ _ _ _ hg
          intro f_this_place f_this_sort f_this_minute f_this_when f_this_isHeard f_this_goneBy f_this_stand f_this_many f_this_standing x3 x4 x5 x6 x7 x8 x9 hg
          unfold g_X12_meaning_L57 at hg
          refine j_iload hX 7 dX12_meaning_57 rfl ?_
          refine j_aload_n hX 0 dX12_meaning_59 rfl rfl ?_
          refine j_get hX 0 2 rfl rfl hinX12 rfl hf_X12_book_13 rfl dX12_meaning_60 ?_
          refine j_iconst hX dX12_meaning_63 kc_4 ?_
          refine j_iald hX 1 rfl hg dX12_meaning_64 (fun hg => ?_)
          refine j_icmp_ge hX 145 hg dX12_meaning_65 (by decide) (fun hg => ?_) (fun hg => ?_)
          · refine j_lv [0, 1, 2, 3, 4, 5, 6] rfl ?_
            exact B145 _ _ _ _ _ _ _ _ _ _ _ _ _ _ _ hg
          · refine j_aload_n hX 0 dX12_meaning_68 rfl rfl ?_
            refine j_get hX 0 2 rfl rfl hinX12 rfl hf_X12_book_13 rfl dX12_meaning_69 ?_
            refine j_bipush hX dX12_meaning_72 kb_30 ?_
            refine j_iload hX 7 dX12_meaning_74 rfl ?_
            refine j_iadd hX dX12_meaning_76 ?_
            refine j_iald hX 1 rfl hg dX12_meaning_77 (fun hg => ?_)
            refine j_iload hX 6 dX12_meaning_78 rfl ?_
            refine j_icmp_le hX 100 hg dX12_meaning_80 (by decide) (fun hg => ?_) (fun hg => ?_)
            · exact B100 _ _ _ _ _ _ _ _ _ _ _ _ _ _ _ _ hg
            · refine j_aload_n hX 0 dX12_meaning_83 rfl rfl ?_
              refine j_iload hX 7 dX12_meaning_84 rfl ?_
              refine j_iload hX 3 dX12_meaning_86 rfl ?_
              refine j_iload hX 2 dX12_meaning_88 rfl ?_
              refine j_vRO hX (r := fun v => v) [.int x9, .int x5, .int x4] hg (fun v hv => c_X12_isNext l G N q_this q_this_book q_this_sort q_this_stand v_this_text v_this_length v_this_draft (.ref q_this_s) v_this_kept v_this_keptMany v_this_acts v_this_actMany v_this_row v_this_rowMany v_this_tells v_this_tellMany v_this_at v_this_told (.ref q_this_place) (.ref q_this_minute) (.ref q_this_when) (.ref q_this_isHeard) (.ref q_this_goneBy) (.int f_this_many) (.int f_this_standing) f_this_book f_this_sort f_this_stand x9 x5 x4 v hv) gX12_meaning_X12_isNext rfl ⟨rfl, rfl⟩ ⟨rfl, by decide, by decide, rfl⟩ rfl rfl [0, 1, 4, 9] rfl rfl rfl dX12_meaning_90 rfl rfl ⟨Nat.zero_le _, Nat.zero_le _⟩ (fun v90 hg => ?_)
              refine j_if_eq hX 100 hg dX12_meaning_93 (by decide) (fun hg => ?_) (fun hg => ?_)
              · exact B100 _ _ _ _ _ _ _ _ _ _ _ _ _ _ _ _ hg
              · refine j_iconst hX dX12_meaning_96 kc_1 ?_
                refine j_goto hX 101 dX12_meaning_97 (by decide) ?_
                exact B101 _ _ _ _ _ _ _ _ _ _ _ _ _ _ _ _ _ hg
      intro f_this_place f_this_sort f_this_minute f_this_when f_this_isHeard f_this_goneBy f_this_stand f_this_many f_this_standing x3 x4 x5 x6 hg
      unfold g_X12_meaning_L40 at hg
      refine j_iload hX 3 dX12_meaning_40 rfl ?_
      refine j_iload hX 2 dX12_meaning_42 rfl ?_
      refine j_icmp_ge hX 199 hg dX12_meaning_44 (by decide) (fun hg => ?_) (fun hg => ?_)
      · refine j_bipush hX dX12_meaning_199 kb_m4 ?_
        cases hg
        exact hret _ _ dX12_meaning_201
      · refine j_bipush hX dX12_meaning_47 kb_m4 ?_
        refine j_istore hX (lv' := [(7, .int (-4)), (0, .ref q_this), (3, .int x3), (4, .int x4), (5, .int x5), (6, .int x6)]) dX12_meaning_49 rfl rfl ?_
        refine j_iconst hX dX12_meaning_51 kc_0 ?_
        refine j_istore hX (lv' := [(8, .int 0), (7, .int (-4)), (0, .ref q_this), (3, .int x3), (4, .int x4), (5, .int x5), (6, .int x6)]) dX12_meaning_52 rfl rfl ?_
        refine j_iconst hX dX12_meaning_54 kc_0 ?_
        refine j_istore hX (lv' := [(9, .int 0), (8, .int 0), (7, .int (-4)), (0, .ref q_this), (3, .int x3), (4, .int x4), (5, .int x5), (6, .int x6)]) dX12_meaning_55 rfl rfl ?_
        refine j_lv [3, 4, 5, 6, 7, 2, 1, 0] rfl ?_
        exact L57 N _ _ _ _ _ _ _ _ _ _ _ _ _ _ _ _ hg
  have hg := hu
  unfold g_X12_meaning at hg
  refine j_aload_n hX 0 dX12_meaning_0 rfl rfl ?_
  refine j_iload_n hX 1 dX12_meaning_1 rfl rfl ?_
  refine j_vRO hX (r := fun v => v) [.int x1] hg (fun v hv => c_X12_isPlace l G N q_this q_this_book v_this_text v_this_length v_this_draft (.ref q_this_s) v_this_kept v_this_keptMany v_this_acts v_this_actMany v_this_row v_this_rowMany v_this_tells v_this_tellMany v_this_at v_this_told (.ref q_this_place) (.ref q_this_sort) (.ref q_this_minute) (.ref q_this_when) (.ref q_this_isHeard) (.ref q_this_goneBy) (.ref q_this_stand) (.int f_this_many) (.int f_this_standing) f_this_book x1 v hv) gX12_meaning_X12_isPlace rfl ⟨rfl, rfl⟩ ⟨rfl, by decide, by decide, rfl⟩ rfl rfl [0, 1] rfl rfl rfl dX12_meaning_2 rfl rfl ⟨Nat.zero_le _, Nat.zero_le _⟩ (fun v2 hg => ?_)
  refine j_if_eq hX 19 hg dX12_meaning_5 (by decide) (fun hg => ?_) (fun hg => ?_)
  · refine j_iconst hX dX12_meaning_19 kc_m1 ?_
    cases hg
    exact hret _ _ dX12_meaning_20
  · refine j_iload_n hX 2 dX12_meaning_8 rfl rfl ?_
    refine j_sRO hX (r := fun v => v) [.int x2] hg (fun v hv => c_X12_isMinute l G N x2 v hv) gX12_meaning_X12_isMinute rfl ⟨rfl, rfl⟩ ⟨by decide, by decide, rfl⟩ rfl rfl [] rfl dX12_meaning_9 rfl rfl ⟨Nat.zero_le _, Nat.zero_le _⟩ (fun v9 hg => ?_)
    refine j_if_eq hX 19 hg dX12_meaning_12 (by decide) (fun hg => ?_) (fun hg => ?_)
    · refine j_iconst hX dX12_meaning_19 kc_m1 ?_
      cases hg
      exact hret _ _ dX12_meaning_20
    · refine j_iload_n hX 3 dX12_meaning_15 rfl rfl ?_
      refine j_if_ge hX 21 hg dX12_meaning_16 (by decide) (fun hg => ?_) (fun hg => ?_)
      · refine j_aload_n hX 0 dX12_meaning_21 rfl rfl ?_
        refine j_iload_n hX 1 dX12_meaning_22 rfl rfl ?_
        refine j_iload_n hX 2 dX12_meaning_23 rfl rfl ?_
        refine j_vRV hX hW (w1 := fun v => (w_X12_playsNow G q_this q_this_book q_this_s q_this_place q_this_sort q_this_minute q_this_when q_this_isHeard q_this_goneBy q_this_stand v_this_text v_this_length v_this_draft v_this_kept v_this_keptMany v_this_acts v_this_actMany v_this_row v_this_rowMany v_this_tells v_this_tellMany v_this_at v_this_told f_this_book f_this_s v.1 v.2.1 v.2.2.1 v.2.2.2.1 v.2.2.2.2.1 v.2.2.2.2.2.1 v.2.2.2.2.2.2.1 v.2.2.2.2.2.2.2.1 v.2.2.2.2.2.2.2.2)) (ws' := fun v => (w_X12_meaning G q_this q_this_book q_this_s q_this_place q_this_sort q_this_minute q_this_when q_this_isHeard q_this_goneBy q_this_stand v_this_text v_this_length v_this_draft v_this_kept v_this_keptMany v_this_acts v_this_actMany v_this_row v_this_rowMany v_this_tells v_this_tellMany v_this_at v_this_told f_this_book f_this_s v.1 v.2.1 v.2.2.1 v.2.2.2.1 v.2.2.2.2.1 v.2.2.2.2.2.1 v.2.2.2.2.2.2.1 v.2.2.2.2.2.2.2.1 v.2.2.2.2.2.2.2.2)) [.int x1, .int x2] hg (fun v hv => c_X12_playsNow l G N q_this q_this_book q_this_s q_this_place q_this_sort q_this_minute q_this_when q_this_isHeard q_this_goneBy q_this_stand v_this_text v_this_length v_this_draft v_this_kept v_this_keptMany v_this_acts v_this_actMany v_this_row v_this_rowMany v_this_tells v_this_tellMany v_this_at v_this_told f_this_book f_this_s f_this_place f_this_sort f_this_minute f_this_when f_this_isHeard f_this_goneBy f_this_stand f_this_many f_this_standing x1 x2 v hv) gX12_meaning_X12_playsNow rfl ⟨rfl, rfl⟩ ⟨rfl, by decide, by decide, rfl⟩ rfl rfl [0, 1, 2, 3, 4, 5, 6, 7, 8, 9] (ax_X12_meaning_24c _ _ _ _ _ _ _ _ _ _) (by decide +kernel) rfl rfl dX12_meaning_24 rfl rfl ⟨Nat.zero_le _, Nat.zero_le _⟩ (fun _ => jn_ax [0, 1, 2, 3, 4, 5, 6, 7, 8, 9] ([] : List Nat) 10 (ax_X12_meaning_24 _ _ _ _ _ _ _ _ _ _ _ _ _ _ _ _ _ _ _ _) rfl (by decide +kernel)) (fun v24 hg => ?_)
        refine j_aload_n hX 0 dX12_meaning_27 rfl rfl ?_
        refine j_iload_n hX 2 dX12_meaning_28 rfl rfl ?_
        refine j_vRW hX hW (r := fun v => v.1) (w1 := fun v => (w_X12_says G q_this q_this_book q_this_when q_this_stand v_this_text v_this_length v_this_draft (.ref q_this_s) v_this_kept v_this_keptMany v_this_acts v_this_actMany v_this_row v_this_rowMany v_this_tells v_this_tellMany v_this_at v_this_told (.ref q_this_place) (.ref q_this_sort) (.ref q_this_minute) (.ref q_this_isHeard) (.ref q_this_goneBy) (.int v24.2.2.2.2.2.2.2.1) f_this_book v24.2.2.2.1 v.2 v24.2.2.2.2.2.2.2.2)) (ws' := fun v => (w_X12_meaning G q_this q_this_book q_this_s q_this_place q_this_sort q_this_minute q_this_when q_this_isHeard q_this_goneBy q_this_stand v_this_text v_this_length v_this_draft v_this_kept v_this_keptMany v_this_acts v_this_actMany v_this_row v_this_rowMany v_this_tells v_this_tellMany v_this_at v_this_told f_this_book f_this_s v24.1 v24.2.1 v24.2.2.1 v24.2.2.2.1 v24.2.2.2.2.1 v24.2.2.2.2.2.1 v.2 v24.2.2.2.2.2.2.2.1 v24.2.2.2.2.2.2.2.2)) [.int x2] hg (fun v hv => c_X12_says l G N q_this q_this_book q_this_when q_this_stand v_this_text v_this_length v_this_draft (.ref q_this_s) v_this_kept v_this_keptMany v_this_acts v_this_actMany v_this_row v_this_rowMany v_this_tells v_this_tellMany v_this_at v_this_told (.ref q_this_place) (.ref q_this_sort) (.ref q_this_minute) (.ref q_this_isHeard) (.ref q_this_goneBy) (.int v24.2.2.2.2.2.2.2.1) f_this_book v24.2.2.2.1 v24.2.2.2.2.2.2.1 v24.2.2.2.2.2.2.2.2 x2 v hv) gX12_meaning_X12_says rfl ⟨rfl, rfl⟩ ⟨rfl, by decide, by decide, rfl⟩ rfl rfl [0, 1, 6, 9] rfl (by decide +kernel) rfl rfl dX12_meaning_29 rfl rfl ⟨Nat.zero_le _, Nat.zero_le _⟩ (fun _ => jn_set [0, 1, 6, 9] rfl rfl rfl) (fun v29 hg => ?_)
        refine j_istore hX (lv' := [(4, .int v29.1), (0, .ref q_this), (1, .int x1), (2, .int x2), (3, .int x3)]) dX12_meaning_32 rfl rfl ?_
        refine j_iconst hX dX12_meaning_34 kc_0 ?_
        refine j_istore hX (lv' := [(5, .int 0), (4, .int v29.1), (0, .ref q_this), (1, .int x1), (2, .int x2), (3, .int x3)]) dX12_meaning_35 rfl rfl ?_
        refine j_iconst hX dX12_meaning_37 kc_0 ?_
        refine j_istore hX (lv' := [(6, .int 0), (5, .int 0), (4, .int v29.1), (0, .ref q_this), (1, .int x1), (2, .int x2), (3, .int x3)]) dX12_meaning_38 rfl rfl ?_
        refine j_lv [3, 6, 2, 1, 0] rfl ?_
        exact L40 N _ _ _ _ _ _ _ _ _ _ _ _ _ hg
      · refine j_iconst hX dX12_meaning_19 kc_m1 ?_
        cases hg
        exact hret _ _ dX12_meaning_20
abbrev w_X12_goes (G : jG) (q_this : Nat) (q_this_book : Nat) (q_this_s : Nat) (q_this_place : Nat) (q_this_sort : Nat) (q_this_minute : Nat) (q_this_when : Nat) (q_this_isHeard : Nat) (q_this_goneBy : Nat) (q_this_stand : Nat) (v_this_text : Value) (v_this_length : Value) (v_this_draft : Value) (v_this_kept : Value) (v_this_keptMany : Value) (v_this_acts : Value) (v_this_actMany : Value) (v_this_row : Value) (v_this_rowMany : Value) (v_this_tells : Value) (v_this_tellMany : Value) (v_this_at : Value) (v_this_told : Value) (f_this_book : (Nat → Int32)) (f_this_s : (Nat → Int32)) (f_this_place : (Nat → Int32)) (f_this_sort : (Nat → Int32)) (f_this_minute : (Nat → Int32)) (f_this_when : (Nat → Int32)) (f_this_isHeard : (Nat → Int32)) (f_this_goneBy : (Nat → Int32)) (f_this_stand : (Nat → Int32)) (f_this_many : Int32) (f_this_standing : Int32) : va_W := [oC q_this 12 [v_this_text, v_this_length, .ref q_this_book, v_this_draft, .ref q_this_s, v_this_kept, v_this_keptMany, v_this_acts, v_this_actMany, v_this_row, v_this_rowMany, v_this_tells, v_this_tellMany, v_this_at, v_this_told, .ref q_this_place, .ref q_this_sort, .ref q_this_minute, .ref q_this_when, .ref q_this_isHeard, .ref q_this_goneBy, .ref q_this_stand, .int f_this_many, .int f_this_standing], aI G q_this_book 78 f_this_book, aI G q_this_s 74 f_this_s, aI G q_this_place 128 f_this_place, aI G q_this_sort 128 f_this_sort, aI G q_this_minute 128 f_this_minute, aI G q_this_when 128 f_this_when, aZ G q_this_isHeard 128 f_this_isHeard, aI G q_this_goneBy 128 f_this_goneBy, aI G q_this_stand 128 f_this_stand]
def g_X12_goes (N : Nat) (f_this_book : (Nat → Int32)) (f_this_s : (Nat → Int32)) (f_this_place : (Nat → Int32)) (f_this_sort : (Nat → Int32)) (f_this_minute : (Nat → Int32)) (f_this_when : (Nat → Int32)) (f_this_isHeard : (Nat → Int32)) (f_this_goneBy : (Nat → Int32)) (f_this_stand : (Nat → Int32)) (f_this_many : Int32) (f_this_standing : Int32) (x1 : Int32) (x2 : Int32) (x3 : Int32) : Option (Int32 × (Nat → Int32) × (Nat → Int32) × (Nat → Int32) × (Nat → Int32) × (Nat → Int32) × (Nat → Int32) × (Nat → Int32) × Int32 × Int32) := (g_X12_starts N f_this_s f_this_place f_this_sort f_this_minute f_this_many).bind fun v1 => gi x2 128 (gi 1 74 ((g_X12_tries N v1.1 v1.2.1 v1.2.2.1 v1.2.2.2 x3 (v1.2.1 x2.toNatClampNeg) (f_this_s (1 : Int32).toNatClampNeg)).bind fun v18 => gi 1 74 (gi ((5 + (5 * x3)) + x1) 78 ((g_X12_plays N f_this_book v18.1 v18.2.1 v18.2.2.1 v18.2.2.2 f_this_when f_this_isHeard f_this_goneBy f_this_stand f_this_standing x1 ((f_this_s (1 : Int32).toNatClampNeg) + (f_this_book ((5 + (5 * x3)) + x1 : Int32).toNatClampNeg))).bind fun v42 => gi x2 128 (if (v42.2.2.1 x2.toNatClampNeg) = (v18.2.2.2 - 1) then some (1, v18.1, v18.2.1, v18.2.2.1, v42.1, v42.2.1, v42.2.2.1, v42.2.2.2.1, v18.2.2.2, v42.2.2.2.2) else some (0, v18.1, v18.2.1, v18.2.2.1, v42.1, v42.2.1, v42.2.2.1, v42.2.2.2.1, v18.2.2.2, v42.2.2.2.2))))))
set_option maxRecDepth 100000 in
theorem ax_X12_goes_42 (c0 c1 c2 c3 c4 c5 c6 c7 c8 c9 d0 d1 d2 d3 d4 d5 d6 d7 d8 : Nat × va_E) : [0, 1, 3, 4, 5, 6, 7, 8, 9].map (fun i => ([c0, c1, c2, c3, c4, c5, c6, c7, c8, c9] : va_W)[i]?) = List.map some ([c0, c1, c3, c4, c5, c6, c7, c8, c9] : va_W) ∧ ([d0, d1, c2, d2, d3, d4, d5, d6, d7, d8] : va_W).length = 10 ∧ [0, 1, 3, 4, 5, 6, 7, 8, 9].map (fun i => ([d0, d1, c2, d2, d3, d4, d5, d6, d7, d8] : va_W)[i]?) = List.map some ([d0, d1, d2, d3, d4, d5, d6, d7, d8] : va_W) ∧ ([2] : List Nat).map (fun i => ([d0, d1, c2, d2, d3, d4, d5, d6, d7, d8] : va_W)[i]?) = ([2] : List Nat).map (fun i => ([c0, c1, c2, c3, c4, c5, c6, c7, c8, c9] : va_W)[i]?) := ⟨rfl, rfl, rfl, rfl⟩
set_option maxRecDepth 100000 in
theorem ax_X12_goes_42c (c0 c1 c2 c3 c4 c5 c6 c7 c8 c9 : Nat × va_E) : [0, 1, 3, 4, 5, 6, 7, 8, 9].map (fun i => ([c0, c1, c2, c3, c4, c5, c6, c7, c8, c9] : va_W)[i]?) = List.map some ([c0, c1, c3, c4, c5, c6, c7, c8, c9] : va_W) := rfl
set_option maxHeartbeats 4000000 in
set_option maxRecDepth 100000 in
theorem c_X12_goes (l : Launch) (G : jG) (N : Nat) (q_this : Nat) (q_this_book : Nat) (q_this_s : Nat) (q_this_place : Nat) (q_this_sort : Nat) (q_this_minute : Nat) (q_this_when : Nat) (q_this_isHeard : Nat) (q_this_goneBy : Nat) (q_this_stand : Nat) (v_this_text : Value) (v_this_length : Value) (v_this_draft : Value) (v_this_kept : Value) (v_this_keptMany : Value) (v_this_acts : Value) (v_this_actMany : Value) (v_this_row : Value) (v_this_rowMany : Value) (v_this_tells : Value) (v_this_tellMany : Value) (v_this_at : Value) (v_this_told : Value) (f_this_book : (Nat → Int32)) (f_this_s : (Nat → Int32)) (f_this_place : (Nat → Int32)) (f_this_sort : (Nat → Int32)) (f_this_minute : (Nat → Int32)) (f_this_when : (Nat → Int32)) (f_this_isHeard : (Nat → Int32)) (f_this_goneBy : (Nat → Int32)) (f_this_stand : (Nat → Int32)) (f_this_many : Int32) (f_this_standing : Int32) (x1 : Int32) (x2 : Int32) (x3 : Int32) (u : Int32 × (Nat → Int32) × (Nat → Int32) × (Nat → Int32) × (Nat → Int32) × (Nat → Int32) × (Nat → Int32) × (Nat → Int32) × Int32 × Int32) (hu : g_X12_goes N f_this_book f_this_s f_this_place f_this_sort f_this_minute f_this_when f_this_isHeard f_this_goneBy f_this_stand f_this_many f_this_standing x1 x2 x3 = some u) : MetRW l G yX12_goes wsX12_goes ({ frames := 3, cells := 0, slots := 0, locals := 72 } : Room) [.ref q_this, .int x1, .int x2, .int x3] (w_X12_goes G q_this q_this_book q_this_s q_this_place q_this_sort q_this_minute q_this_when q_this_isHeard q_this_goneBy q_this_stand v_this_text v_this_length v_this_draft v_this_kept v_this_keptMany v_this_acts v_this_actMany v_this_row v_this_rowMany v_this_tells v_this_tellMany v_this_at v_this_told f_this_book f_this_s f_this_place f_this_sort f_this_minute f_this_when f_this_isHeard f_this_goneBy f_this_stand f_this_many f_this_standing) (w_X12_goes G q_this q_this_book q_this_s q_this_place q_this_sort q_this_minute q_this_when q_this_isHeard q_this_goneBy q_this_stand v_this_text v_this_length v_this_draft v_this_kept v_this_keptMany v_this_acts v_this_actMany v_this_row v_this_rowMany v_this_tells v_this_tellMany v_this_at v_this_told f_this_book f_this_s u.2.1 u.2.2.1 u.2.2.2.1 u.2.2.2.2.1 u.2.2.2.2.2.1 u.2.2.2.2.2.2.1 u.2.2.2.2.2.2.2.1 u.2.2.2.2.2.2.2.2.1 u.2.2.2.2.2.2.2.2.2) u.1 := by
  refine met_rwz (cc := cX12_goes) (maxL := 4) (lv0 := [(0, .ref q_this), (1, .int x1), (2, .int x2), (3, .int x3)]) (by decide) rfl rfl rfl rfl (fun X hX hW hret => ?_)
  have hinX12 : ∀ w ∈ u_ws RX12 TX12 24, w ∈ wsX12_goes := by decide +kernel
  have hf_X12_book_13 : Cond.fieldLink RX12 13 (TX12 2).1 (TX12 2).2.1 (TX12 2).2.2.1 ∈ wsX12_goes := by decide +kernel
  have hf_X12_goneBy_53 : Cond.fieldLink RX12 53 (TX12 20).1 (TX12 20).2.1 (TX12 20).2.2.1 ∈ wsX12_goes := by decide +kernel
  have hf_X12_many_127 : Cond.fieldLink RX12 127 (TX12 22).1 (TX12 22).2.1 (TX12 22).2.2.1 ∈ wsX12_goes := by decide +kernel
  have hf_X12_s_19 : Cond.fieldLink RX12 19 (TX12 4).1 (TX12 4).2.1 (TX12 4).2.2.1 ∈ wsX12_goes := by decide +kernel
  have hf_X12_sort_40 : Cond.fieldLink RX12 40 (TX12 16).1 (TX12 16).2.1 (TX12 16).2.2.1 ∈ wsX12_goes := by decide +kernel
  have hg := hu
  unfold g_X12_goes at hg
  refine j_aload_n hX 0 dX12_goes_0 rfl rfl ?_
  refine j_vRV hX hW (w1 := fun v => (w_X12_starts G q_this q_this_s q_this_place q_this_sort q_this_minute v_this_text v_this_length (.ref q_this_book) v_this_draft v_this_kept v_this_keptMany v_this_acts v_this_actMany v_this_row v_this_rowMany v_this_tells v_this_tellMany v_this_at v_this_told (.ref q_this_when) (.ref q_this_isHeard) (.ref q_this_goneBy) (.ref q_this_stand) (.int f_this_standing) f_this_s v.1 v.2.1 v.2.2.1 v.2.2.2)) (ws' := fun v => (w_X12_goes G q_this q_this_book q_this_s q_this_place q_this_sort q_this_minute q_this_when q_this_isHeard q_this_goneBy q_this_stand v_this_text v_this_length v_this_draft v_this_kept v_this_keptMany v_this_acts v_this_actMany v_this_row v_this_rowMany v_this_tells v_this_tellMany v_this_at v_this_told f_this_book f_this_s v.1 v.2.1 v.2.2.1 f_this_when f_this_isHeard f_this_goneBy f_this_stand v.2.2.2 f_this_standing)) [] hg (fun v hv => c_X12_starts l G N q_this q_this_s q_this_place q_this_sort q_this_minute v_this_text v_this_length (.ref q_this_book) v_this_draft v_this_kept v_this_keptMany v_this_acts v_this_actMany v_this_row v_this_rowMany v_this_tells v_this_tellMany v_this_at v_this_told (.ref q_this_when) (.ref q_this_isHeard) (.ref q_this_goneBy) (.ref q_this_stand) (.int f_this_standing) f_this_s f_this_place f_this_sort f_this_minute f_this_many v hv) gX12_goes_X12_starts rfl ⟨rfl, rfl⟩ ⟨rfl, by decide, by decide, rfl⟩ rfl rfl [0, 2, 3, 4, 5] rfl (by decide +kernel) rfl rfl dX12_goes_1 rfl rfl ⟨Nat.zero_le _, Nat.zero_le _⟩ (fun _ => jn_set [0, 2, 3, 4, 5] rfl rfl rfl) (fun v1 hg => ?_)
  refine j_aload_n hX 0 dX12_goes_4 rfl rfl ?_
  refine j_iload_n hX 3 dX12_goes_5 rfl rfl ?_
  refine j_aload_n hX 0 dX12_goes_6 rfl rfl ?_
  refine j_get hX 0 16 rfl rfl hinX12 rfl hf_X12_sort_40 rfl dX12_goes_7 ?_
  refine j_iload_n hX 2 dX12_goes_10 rfl rfl ?_
  refine j_iald hX 4 rfl hg dX12_goes_11 (fun hg => ?_)
  refine j_aload_n hX 0 dX12_goes_12 rfl rfl ?_
  refine j_get hX 0 4 rfl rfl hinX12 rfl hf_X12_s_19 rfl dX12_goes_13 ?_
  refine j_iconst hX dX12_goes_16 kc_1 ?_
  refine j_iald hX 2 rfl hg dX12_goes_17 (fun hg => ?_)
  refine j_vRV hX hW (w1 := fun v => (w_X12_tries G q_this q_this_place q_this_sort q_this_minute v_this_text v_this_length (.ref q_this_book) v_this_draft (.ref q_this_s) v_this_kept v_this_keptMany v_this_acts v_this_actMany v_this_row v_this_rowMany v_this_tells v_this_tellMany v_this_at v_this_told (.ref q_this_when) (.ref q_this_isHeard) (.ref q_this_goneBy) (.ref q_this_stand) (.int f_this_standing) v.1 v.2.1 v.2.2.1 v.2.2.2)) (ws' := fun v => (w_X12_goes G q_this q_this_book q_this_s q_this_place q_this_sort q_this_minute q_this_when q_this_isHeard q_this_goneBy q_this_stand v_this_text v_this_length v_this_draft v_this_kept v_this_keptMany v_this_acts v_this_actMany v_this_row v_this_rowMany v_this_tells v_this_tellMany v_this_at v_this_told f_this_book f_this_s v.1 v.2.1 v.2.2.1 f_this_when f_this_isHeard f_this_goneBy f_this_stand v.2.2.2 f_this_standing)) [.int x3, .int (v1.2.1 x2.toNatClampNeg), .int (f_this_s (1 : Int32).toNatClampNeg)] hg (fun v hv => c_X12_tries l G N q_this q_this_place q_this_sort q_this_minute v_this_text v_this_length (.ref q_this_book) v_this_draft (.ref q_this_s) v_this_kept v_this_keptMany v_this_acts v_this_actMany v_this_row v_this_rowMany v_this_tells v_this_tellMany v_this_at v_this_told (.ref q_this_when) (.ref q_this_isHeard) (.ref q_this_goneBy) (.ref q_this_stand) (.int f_this_standing) v1.1 v1.2.1 v1.2.2.1 v1.2.2.2 x3 (v1.2.1 x2.toNatClampNeg) (f_this_s (1 : Int32).toNatClampNeg) v hv) gX12_goes_X12_tries rfl ⟨rfl, rfl⟩ ⟨rfl, by decide, by decide, rfl⟩ rfl rfl [0, 3, 4, 5] rfl (by decide +kernel) rfl rfl dX12_goes_18 rfl rfl ⟨Nat.zero_le _, Nat.zero_le _⟩ (fun _ => jn_set [0, 3, 4, 5] rfl rfl rfl) (fun v18 hg => ?_)
  refine j_aload_n hX 0 dX12_goes_21 rfl rfl ?_
  refine j_iload_n hX 1 dX12_goes_22 rfl rfl ?_
  refine j_aload_n hX 0 dX12_goes_23 rfl rfl ?_
  refine j_get hX 0 4 rfl rfl hinX12 rfl hf_X12_s_19 rfl dX12_goes_24 ?_
  refine j_iconst hX dX12_goes_27 kc_1 ?_
  refine j_iald hX 2 rfl hg dX12_goes_28 (fun hg => ?_)
  refine j_aload_n hX 0 dX12_goes_29 rfl rfl ?_
  refine j_get hX 0 2 rfl rfl hinX12 rfl hf_X12_book_13 rfl dX12_goes_30 ?_
  refine j_iconst hX dX12_goes_33 kc_5 ?_
  refine j_iconst hX dX12_goes_34 kc_5 ?_
  refine j_iload_n hX 3 dX12_goes_35 rfl rfl ?_
  refine j_imul hX dX12_goes_36 ?_
  refine j_iadd hX dX12_goes_37 ?_
  refine j_iload_n hX 1 dX12_goes_38 rfl rfl ?_
  refine j_iadd hX dX12_goes_39 ?_
  refine j_iald hX 1 rfl hg dX12_goes_40 (fun hg => ?_)
  refine j_iadd hX dX12_goes_41 ?_
  refine j_vRV hX hW (w1 := fun v => (w_X12_plays G q_this q_this_book q_this_place q_this_sort q_this_minute q_this_when q_this_isHeard q_this_goneBy q_this_stand v_this_text v_this_length v_this_draft (.ref q_this_s) v_this_kept v_this_keptMany v_this_acts v_this_actMany v_this_row v_this_rowMany v_this_tells v_this_tellMany v_this_at v_this_told f_this_book v18.1 v18.2.1 v18.2.2.1 v.1 v.2.1 v.2.2.1 v.2.2.2.1 v18.2.2.2 v.2.2.2.2)) (ws' := fun v => (w_X12_goes G q_this q_this_book q_this_s q_this_place q_this_sort q_this_minute q_this_when q_this_isHeard q_this_goneBy q_this_stand v_this_text v_this_length v_this_draft v_this_kept v_this_keptMany v_this_acts v_this_actMany v_this_row v_this_rowMany v_this_tells v_this_tellMany v_this_at v_this_told f_this_book f_this_s v18.1 v18.2.1 v18.2.2.1 v.1 v.2.1 v.2.2.1 v.2.2.2.1 v18.2.2.2 v.2.2.2.2)) [.int x1, .int ((f_this_s (1 : Int32).toNatClampNeg) + (f_this_book ((5 + (5 * x3)) + x1 : Int32).toNatClampNeg))] hg (fun v hv => c_X12_plays l G N q_this q_this_book q_this_place q_this_sort q_this_minute q_this_when q_this_isHeard q_this_goneBy q_this_stand v_this_text v_this_length v_this_draft (.ref q_this_s) v_this_kept v_this_keptMany v_this_acts v_this_actMany v_this_row v_this_rowMany v_this_tells v_this_tellMany v_this_at v_this_told f_this_book v18.1 v18.2.1 v18.2.2.1 f_this_when f_this_isHeard f_this_goneBy f_this_stand v18.2.2.2 f_this_standing x1 ((f_this_s (1 : Int32).toNatClampNeg) + (f_this_book ((5 + (5 * x3)) + x1 : Int32).toNatClampNeg)) v hv) gX12_goes_X12_plays rfl ⟨rfl, rfl⟩ ⟨rfl, by decide, by decide, rfl⟩ rfl rfl [0, 1, 3, 4, 5, 6, 7, 8, 9] (ax_X12_goes_42c _ _ _ _ _ _ _ _ _ _) (by decide +kernel) rfl rfl dX12_goes_42 rfl rfl ⟨Nat.zero_le _, Nat.zero_le _⟩ (fun _ => jn_ax [0, 1, 3, 4, 5, 6, 7, 8, 9] ([2] : List Nat) 10 (ax_X12_goes_42 _ _ _ _ _ _ _ _ _ _ _ _ _ _ _ _ _ _ _) rfl (by decide +kernel)) (fun v42 hg => ?_)
  refine j_aload_n hX 0 dX12_goes_45 rfl rfl ?_
  refine j_get hX 0 20 rfl rfl hinX12 rfl hf_X12_goneBy_53 rfl dX12_goes_46 ?_
  refine j_iload_n hX 2 dX12_goes_49 rfl rfl ?_
  refine j_iald hX 8 rfl hg dX12_goes_50 (fun hg => ?_)
  refine j_aload_n hX 0 dX12_goes_51 rfl rfl ?_
  refine j_get hX 0 22 rfl rfl hinX12 rfl hf_X12_many_127 rfl dX12_goes_52 ?_
  refine j_iconst hX dX12_goes_55 kc_1 ?_
  refine j_isub hX dX12_goes_56 ?_
  refine j_icmp_ne hX 64 hg dX12_goes_57 (by decide) (fun hg => ?_) (fun hg => ?_)
  · refine j_iconst hX dX12_goes_60 kc_1 ?_
    refine j_goto hX 65 dX12_goes_61 (by decide) ?_
    cases hg
    exact hret _ _ (Or.inr rfl) dX12_goes_65
  · refine j_iconst hX dX12_goes_64 kc_0 ?_
    cases hg
    exact hret _ _ (Or.inl rfl) dX12_goes_65
abbrev w_X12_unsay (G : jG) (q_this : Nat) (q_this_book : Nat) (q_this_s : Nat) (q_this_place : Nat) (q_this_sort : Nat) (q_this_minute : Nat) (q_this_when : Nat) (q_this_isHeard : Nat) (q_this_goneBy : Nat) (q_this_stand : Nat) (v_this_text : Value) (v_this_length : Value) (v_this_draft : Value) (v_this_kept : Value) (v_this_keptMany : Value) (v_this_acts : Value) (v_this_actMany : Value) (v_this_row : Value) (v_this_rowMany : Value) (v_this_tells : Value) (v_this_tellMany : Value) (v_this_at : Value) (v_this_told : Value) (f_this_book : (Nat → Int32)) (f_this_s : (Nat → Int32)) (f_this_place : (Nat → Int32)) (f_this_sort : (Nat → Int32)) (f_this_minute : (Nat → Int32)) (f_this_when : (Nat → Int32)) (f_this_isHeard : (Nat → Int32)) (f_this_goneBy : (Nat → Int32)) (f_this_stand : (Nat → Int32)) (f_this_many : Int32) (f_this_standing : Int32) : va_W := [oC q_this 12 [v_this_text, v_this_length, .ref q_this_book, v_this_draft, .ref q_this_s, v_this_kept, v_this_keptMany, v_this_acts, v_this_actMany, v_this_row, v_this_rowMany, v_this_tells, v_this_tellMany, v_this_at, v_this_told, .ref q_this_place, .ref q_this_sort, .ref q_this_minute, .ref q_this_when, .ref q_this_isHeard, .ref q_this_goneBy, .ref q_this_stand, .int f_this_many, .int f_this_standing], aI G q_this_book 78 f_this_book, aI G q_this_s 74 f_this_s, aI G q_this_place 128 f_this_place, aI G q_this_sort 128 f_this_sort, aI G q_this_minute 128 f_this_minute, aI G q_this_when 128 f_this_when, aZ G q_this_isHeard 128 f_this_isHeard, aI G q_this_goneBy 128 f_this_goneBy, aI G q_this_stand 128 f_this_stand]
def g_X12_unsay (N : Nat) (f_this_book : (Nat → Int32)) (f_this_s : (Nat → Int32)) (f_this_place : (Nat → Int32)) (f_this_sort : (Nat → Int32)) (f_this_minute : (Nat → Int32)) (f_this_when : (Nat → Int32)) (f_this_isHeard : (Nat → Int32)) (f_this_goneBy : (Nat → Int32)) (f_this_stand : (Nat → Int32)) (f_this_many : Int32) (f_this_standing : Int32) (x1 : Int32) (x2 : Int32) (x3 : Int32) : Option (Int32 × (Nat → Int32) × (Nat → Int32) × (Nat → Int32) × (Nat → Int32) × (Nat → Int32) × (Nat → Int32) × (Nat → Int32) × Int32 × Int32) := (g_X12_isPlace N f_this_book x1).bind fun v2 => if v2 = 0 then some ((-1), f_this_place, f_this_sort, f_this_minute, f_this_when, f_this_isHeard, f_this_goneBy, f_this_stand, f_this_many, f_this_standing) else if x2 < 0 then some ((-1), f_this_place, f_this_sort, f_this_minute, f_this_when, f_this_isHeard, f_this_goneBy, f_this_stand, f_this_many, f_this_standing) else (g_X12_isPlace N f_this_book x3).bind fun v14 => if v14 = 0 then some ((-1), f_this_place, f_this_sort, f_this_minute, f_this_when, f_this_isHeard, f_this_goneBy, f_this_stand, f_this_many, f_this_standing) else gi 1 74 ((g_X12_playsNow N f_this_book f_this_s f_this_place f_this_sort f_this_minute f_this_when f_this_isHeard f_this_goneBy f_this_stand f_this_many f_this_standing x1 (f_this_s (1 : Int32).toNatClampNeg)).bind fun v30 => if x2 < v30.2.2.2.2.2.2.2.2 then gi x2 128 ((g_X12_goes N f_this_book f_this_s v30.1 v30.2.1 v30.2.2.1 v30.2.2.2.1 v30.2.2.2.2.1 v30.2.2.2.2.2.1 v30.2.2.2.2.2.2.1 v30.2.2.2.2.2.2.2.1 v30.2.2.2.2.2.2.2.2 x1 (v30.2.2.2.2.2.2.1 x2.toNatClampNeg) x3).bind fun v55 => if v55.1 = 0 then some (0, v55.2.1, v55.2.2.1, v55.2.2.2.1, v55.2.2.2.2.1, v55.2.2.2.2.2.1, v55.2.2.2.2.2.2.1, v55.2.2.2.2.2.2.2.1, v55.2.2.2.2.2.2.2.2.1, v55.2.2.2.2.2.2.2.2.2) else some (1, v55.2.1, v55.2.2.1, v55.2.2.2.1, v55.2.2.2.2.1, v55.2.2.2.2.2.1, v55.2.2.2.2.2.2.1, v55.2.2.2.2.2.2.2.1, v55.2.2.2.2.2.2.2.2.1, v55.2.2.2.2.2.2.2.2.2)) else some ((-4), v30.1, v30.2.1, v30.2.2.1, v30.2.2.2.1, v30.2.2.2.2.1, v30.2.2.2.2.2.1, v30.2.2.2.2.2.2.1, v30.2.2.2.2.2.2.2.1, v30.2.2.2.2.2.2.2.2))
set_option maxRecDepth 100000 in
theorem ax_X12_unsay_30 (c0 c1 c2 c3 c4 c5 c6 c7 c8 c9 d0 d1 d2 d3 d4 d5 d6 d7 d8 d9 : Nat × va_E) : [0, 1, 2, 3, 4, 5, 6, 7, 8, 9].map (fun i => ([c0, c1, c2, c3, c4, c5, c6, c7, c8, c9] : va_W)[i]?) = List.map some ([c0, c1, c2, c3, c4, c5, c6, c7, c8, c9] : va_W) ∧ ([d0, d1, d2, d3, d4, d5, d6, d7, d8, d9] : va_W).length = 10 ∧ [0, 1, 2, 3, 4, 5, 6, 7, 8, 9].map (fun i => ([d0, d1, d2, d3, d4, d5, d6, d7, d8, d9] : va_W)[i]?) = List.map some ([d0, d1, d2, d3, d4, d5, d6, d7, d8, d9] : va_W) ∧ ([] : List Nat).map (fun i => ([d0, d1, d2, d3, d4, d5, d6, d7, d8, d9] : va_W)[i]?) = ([] : List Nat).map (fun i => ([c0, c1, c2, c3, c4, c5, c6, c7, c8, c9] : va_W)[i]?) := ⟨rfl, rfl, rfl, rfl⟩
set_option maxRecDepth 100000 in
theorem ax_X12_unsay_30c (c0 c1 c2 c3 c4 c5 c6 c7 c8 c9 : Nat × va_E) : [0, 1, 2, 3, 4, 5, 6, 7, 8, 9].map (fun i => ([c0, c1, c2, c3, c4, c5, c6, c7, c8, c9] : va_W)[i]?) = List.map some ([c0, c1, c2, c3, c4, c5, c6, c7, c8, c9] : va_W) := rfl
set_option maxRecDepth 100000 in
theorem ax_X12_unsay_55 (c0 c1 c2 c3 c4 c5 c6 c7 c8 c9 d0 d1 d2 d3 d4 d5 d6 d7 d8 d9 : Nat × va_E) : [0, 1, 2, 3, 4, 5, 6, 7, 8, 9].map (fun i => ([c0, c1, c2, c3, c4, c5, c6, c7, c8, c9] : va_W)[i]?) = List.map some ([c0, c1, c2, c3, c4, c5, c6, c7, c8, c9] : va_W) ∧ ([d0, d1, d2, d3, d4, d5, d6, d7, d8, d9] : va_W).length = 10 ∧ [0, 1, 2, 3, 4, 5, 6, 7, 8, 9].map (fun i => ([d0, d1, d2, d3, d4, d5, d6, d7, d8, d9] : va_W)[i]?) = List.map some ([d0, d1, d2, d3, d4, d5, d6, d7, d8, d9] : va_W) ∧ ([] : List Nat).map (fun i => ([d0, d1, d2, d3, d4, d5, d6, d7, d8, d9] : va_W)[i]?) = ([] : List Nat).map (fun i => ([c0, c1, c2, c3, c4, c5, c6, c7, c8, c9] : va_W)[i]?) := ⟨rfl, rfl, rfl, rfl⟩
set_option maxRecDepth 100000 in
theorem ax_X12_unsay_55c (c0 c1 c2 c3 c4 c5 c6 c7 c8 c9 : Nat × va_E) : [0, 1, 2, 3, 4, 5, 6, 7, 8, 9].map (fun i => ([c0, c1, c2, c3, c4, c5, c6, c7, c8, c9] : va_W)[i]?) = List.map some ([c0, c1, c2, c3, c4, c5, c6, c7, c8, c9] : va_W) := rfl
set_option maxHeartbeats 4000000 in
set_option maxRecDepth 100000 in
theorem c_X12_unsay (l : Launch) (G : jG) (N : Nat) (q_this : Nat) (q_this_book : Nat) (q_this_s : Nat) (q_this_place : Nat) (q_this_sort : Nat) (q_this_minute : Nat) (q_this_when : Nat) (q_this_isHeard : Nat) (q_this_goneBy : Nat) (q_this_stand : Nat) (v_this_text : Value) (v_this_length : Value) (v_this_draft : Value) (v_this_kept : Value) (v_this_keptMany : Value) (v_this_acts : Value) (v_this_actMany : Value) (v_this_row : Value) (v_this_rowMany : Value) (v_this_tells : Value) (v_this_tellMany : Value) (v_this_at : Value) (v_this_told : Value) (f_this_book : (Nat → Int32)) (f_this_s : (Nat → Int32)) (f_this_place : (Nat → Int32)) (f_this_sort : (Nat → Int32)) (f_this_minute : (Nat → Int32)) (f_this_when : (Nat → Int32)) (f_this_isHeard : (Nat → Int32)) (f_this_goneBy : (Nat → Int32)) (f_this_stand : (Nat → Int32)) (f_this_many : Int32) (f_this_standing : Int32) (x1 : Int32) (x2 : Int32) (x3 : Int32) (u : Int32 × (Nat → Int32) × (Nat → Int32) × (Nat → Int32) × (Nat → Int32) × (Nat → Int32) × (Nat → Int32) × (Nat → Int32) × Int32 × Int32) (hu : g_X12_unsay N f_this_book f_this_s f_this_place f_this_sort f_this_minute f_this_when f_this_isHeard f_this_goneBy f_this_stand f_this_many f_this_standing x1 x2 x3 = some u) : MetRW l G yX12_unsay wsX12_unsay ({ frames := 4, cells := 0, slots := 0, locals := 95 } : Room) [.ref q_this, .int x1, .int x2, .int x3] (w_X12_unsay G q_this q_this_book q_this_s q_this_place q_this_sort q_this_minute q_this_when q_this_isHeard q_this_goneBy q_this_stand v_this_text v_this_length v_this_draft v_this_kept v_this_keptMany v_this_acts v_this_actMany v_this_row v_this_rowMany v_this_tells v_this_tellMany v_this_at v_this_told f_this_book f_this_s f_this_place f_this_sort f_this_minute f_this_when f_this_isHeard f_this_goneBy f_this_stand f_this_many f_this_standing) (w_X12_unsay G q_this q_this_book q_this_s q_this_place q_this_sort q_this_minute q_this_when q_this_isHeard q_this_goneBy q_this_stand v_this_text v_this_length v_this_draft v_this_kept v_this_keptMany v_this_acts v_this_actMany v_this_row v_this_rowMany v_this_tells v_this_tellMany v_this_at v_this_told f_this_book f_this_s u.2.1 u.2.2.1 u.2.2.2.1 u.2.2.2.2.1 u.2.2.2.2.2.1 u.2.2.2.2.2.2.1 u.2.2.2.2.2.2.2.1 u.2.2.2.2.2.2.2.2.1 u.2.2.2.2.2.2.2.2.2) u.1 := by
  refine met_rwi (cc := cX12_unsay) (maxL := 4) (lv0 := [(0, .ref q_this), (1, .int x1), (2, .int x2), (3, .int x3)]) (by decide) rfl rfl rfl rfl (fun X hX hW hret => ?_)
  have hinX12 : ∀ w ∈ u_ws RX12 TX12 24, w ∈ wsX12_unsay := by decide +kernel
  have hf_X12_s_19 : Cond.fieldLink RX12 19 (TX12 4).1 (TX12 4).2.1 (TX12 4).2.2.1 ∈ wsX12_unsay := by decide +kernel
  have hf_X12_stand_56 : Cond.fieldLink RX12 56 (TX12 21).1 (TX12 21).2.1 (TX12 21).2.2.1 ∈ wsX12_unsay := by decide +kernel
  have hf_X12_standing_134 : Cond.fieldLink RX12 134 (TX12 23).1 (TX12 23).2.1 (TX12 23).2.2.1 ∈ wsX12_unsay := by decide +kernel
  have hg := hu
  unfold g_X12_unsay at hg
  refine j_aload_n hX 0 dX12_unsay_0 rfl rfl ?_
  refine j_iload_n hX 1 dX12_unsay_1 rfl rfl ?_
  refine j_vRO hX (r := fun v => v) [.int x1] hg (fun v hv => c_X12_isPlace l G N q_this q_this_book v_this_text v_this_length v_this_draft (.ref q_this_s) v_this_kept v_this_keptMany v_this_acts v_this_actMany v_this_row v_this_rowMany v_this_tells v_this_tellMany v_this_at v_this_told (.ref q_this_place) (.ref q_this_sort) (.ref q_this_minute) (.ref q_this_when) (.ref q_this_isHeard) (.ref q_this_goneBy) (.ref q_this_stand) (.int f_this_many) (.int f_this_standing) f_this_book x1 v hv) gX12_unsay_X12_isPlace rfl ⟨rfl, rfl⟩ ⟨rfl, by decide, by decide, rfl⟩ rfl rfl [0, 1] rfl rfl rfl dX12_unsay_2 rfl rfl ⟨Nat.zero_le _, Nat.zero_le _⟩ (fun v2 hg => ?_)
  refine j_if_eq hX 20 hg dX12_unsay_5 (by decide) (fun hg => ?_) (fun hg => ?_)
  · refine j_iconst hX dX12_unsay_20 kc_m1 ?_
    cases hg
    exact hret _ _ dX12_unsay_21
  · refine j_iload_n hX 2 dX12_unsay_8 rfl rfl ?_
    refine j_if_lt hX 20 hg dX12_unsay_9 (by decide) (fun hg => ?_) (fun hg => ?_)
    · refine j_iconst hX dX12_unsay_20 kc_m1 ?_
      cases hg
      exact hret _ _ dX12_unsay_21
    · refine j_aload_n hX 0 dX12_unsay_12 rfl rfl ?_
      refine j_iload_n hX 3 dX12_unsay_13 rfl rfl ?_
      refine j_vRO hX (r := fun v => v) [.int x3] hg (fun v hv => c_X12_isPlace l G N q_this q_this_book v_this_text v_this_length v_this_draft (.ref q_this_s) v_this_kept v_this_keptMany v_this_acts v_this_actMany v_this_row v_this_rowMany v_this_tells v_this_tellMany v_this_at v_this_told (.ref q_this_place) (.ref q_this_sort) (.ref q_this_minute) (.ref q_this_when) (.ref q_this_isHeard) (.ref q_this_goneBy) (.ref q_this_stand) (.int f_this_many) (.int f_this_standing) f_this_book x3 v hv) gX12_unsay_X12_isPlace rfl ⟨rfl, rfl⟩ ⟨rfl, by decide, by decide, rfl⟩ rfl rfl [0, 1] rfl rfl rfl dX12_unsay_14 rfl rfl ⟨Nat.zero_le _, Nat.zero_le _⟩ (fun v14 hg => ?_)
      refine j_if_ne hX 22 hg dX12_unsay_17 (by decide) (fun hg => ?_) (fun hg => ?_)
      · refine j_iconst hX dX12_unsay_20 kc_m1 ?_
        cases hg
        exact hret _ _ dX12_unsay_21
      · refine j_aload_n hX 0 dX12_unsay_22 rfl rfl ?_
        refine j_iload_n hX 1 dX12_unsay_23 rfl rfl ?_
        refine j_aload_n hX 0 dX12_unsay_24 rfl rfl ?_
        refine j_get hX 0 4 rfl rfl hinX12 rfl hf_X12_s_19 rfl dX12_unsay_25 ?_
        refine j_iconst hX dX12_unsay_28 kc_1 ?_
        refine j_iald hX 2 rfl hg dX12_unsay_29 (fun hg => ?_)
        refine j_vRV hX hW (w1 := fun v => (w_X12_playsNow G q_this q_this_book q_this_s q_this_place q_this_sort q_this_minute q_this_when q_this_isHeard q_this_goneBy q_this_stand v_this_text v_this_length v_this_draft v_this_kept v_this_keptMany v_this_acts v_this_actMany v_this_row v_this_rowMany v_this_tells v_this_tellMany v_this_at v_this_told f_this_book f_this_s v.1 v.2.1 v.2.2.1 v.2.2.2.1 v.2.2.2.2.1 v.2.2.2.2.2.1 v.2.2.2.2.2.2.1 v.2.2.2.2.2.2.2.1 v.2.2.2.2.2.2.2.2)) (ws' := fun v => (w_X12_unsay G q_this q_this_book q_this_s q_this_place q_this_sort q_this_minute q_this_when q_this_isHeard q_this_goneBy q_this_stand v_this_text v_this_length v_this_draft v_this_kept v_this_keptMany v_this_acts v_this_actMany v_this_row v_this_rowMany v_this_tells v_this_tellMany v_this_at v_this_told f_this_book f_this_s v.1 v.2.1 v.2.2.1 v.2.2.2.1 v.2.2.2.2.1 v.2.2.2.2.2.1 v.2.2.2.2.2.2.1 v.2.2.2.2.2.2.2.1 v.2.2.2.2.2.2.2.2)) [.int x1, .int (f_this_s (1 : Int32).toNatClampNeg)] hg (fun v hv => c_X12_playsNow l G N q_this q_this_book q_this_s q_this_place q_this_sort q_this_minute q_this_when q_this_isHeard q_this_goneBy q_this_stand v_this_text v_this_length v_this_draft v_this_kept v_this_keptMany v_this_acts v_this_actMany v_this_row v_this_rowMany v_this_tells v_this_tellMany v_this_at v_this_told f_this_book f_this_s f_this_place f_this_sort f_this_minute f_this_when f_this_isHeard f_this_goneBy f_this_stand f_this_many f_this_standing x1 (f_this_s (1 : Int32).toNatClampNeg) v hv) gX12_unsay_X12_playsNow rfl ⟨rfl, rfl⟩ ⟨rfl, by decide, by decide, rfl⟩ rfl rfl [0, 1, 2, 3, 4, 5, 6, 7, 8, 9] (ax_X12_unsay_30c _ _ _ _ _ _ _ _ _ _) (by decide +kernel) rfl rfl dX12_unsay_30 rfl rfl ⟨Nat.zero_le _, Nat.zero_le _⟩ (fun _ => jn_ax [0, 1, 2, 3, 4, 5, 6, 7, 8, 9] ([] : List Nat) 10 (ax_X12_unsay_30 _ _ _ _ _ _ _ _ _ _ _ _ _ _ _ _ _ _ _ _) rfl (by decide +kernel)) (fun v30 hg => ?_)
        refine j_iload_n hX 2 dX12_unsay_33 rfl rfl ?_
        refine j_aload_n hX 0 dX12_unsay_34 rfl rfl ?_
        refine j_get hX 0 23 rfl rfl hinX12 rfl hf_X12_standing_134 rfl dX12_unsay_35 ?_
        refine j_icmp_lt hX 46 hg dX12_unsay_38 (by decide) (fun hg => ?_) (fun hg => ?_)
        · refine j_aload_n hX 0 dX12_unsay_46 rfl rfl ?_
          refine j_iload_n hX 1 dX12_unsay_47 rfl rfl ?_
          refine j_aload_n hX 0 dX12_unsay_48 rfl rfl ?_
          refine j_get hX 0 21 rfl rfl hinX12 rfl hf_X12_stand_56 rfl dX12_unsay_49 ?_
          refine j_iload_n hX 2 dX12_unsay_52 rfl rfl ?_
          refine j_iald hX 9 rfl hg dX12_unsay_53 (fun hg => ?_)
          refine j_iload_n hX 3 dX12_unsay_54 rfl rfl ?_
          refine j_vRW hX hW (r := fun v => v.1) (w1 := fun v => (w_X12_goes G q_this q_this_book q_this_s q_this_place q_this_sort q_this_minute q_this_when q_this_isHeard q_this_goneBy q_this_stand v_this_text v_this_length v_this_draft v_this_kept v_this_keptMany v_this_acts v_this_actMany v_this_row v_this_rowMany v_this_tells v_this_tellMany v_this_at v_this_told f_this_book f_this_s v.2.1 v.2.2.1 v.2.2.2.1 v.2.2.2.2.1 v.2.2.2.2.2.1 v.2.2.2.2.2.2.1 v.2.2.2.2.2.2.2.1 v.2.2.2.2.2.2.2.2.1 v.2.2.2.2.2.2.2.2.2)) (ws' := fun v => (w_X12_unsay G q_this q_this_book q_this_s q_this_place q_this_sort q_this_minute q_this_when q_this_isHeard q_this_goneBy q_this_stand v_this_text v_this_length v_this_draft v_this_kept v_this_keptMany v_this_acts v_this_actMany v_this_row v_this_rowMany v_this_tells v_this_tellMany v_this_at v_this_told f_this_book f_this_s v.2.1 v.2.2.1 v.2.2.2.1 v.2.2.2.2.1 v.2.2.2.2.2.1 v.2.2.2.2.2.2.1 v.2.2.2.2.2.2.2.1 v.2.2.2.2.2.2.2.2.1 v.2.2.2.2.2.2.2.2.2)) [.int x1, .int (v30.2.2.2.2.2.2.1 x2.toNatClampNeg), .int x3] hg (fun v hv => c_X12_goes l G N q_this q_this_book q_this_s q_this_place q_this_sort q_this_minute q_this_when q_this_isHeard q_this_goneBy q_this_stand v_this_text v_this_length v_this_draft v_this_kept v_this_keptMany v_this_acts v_this_actMany v_this_row v_this_rowMany v_this_tells v_this_tellMany v_this_at v_this_told f_this_book f_this_s v30.1 v30.2.1 v30.2.2.1 v30.2.2.2.1 v30.2.2.2.2.1 v30.2.2.2.2.2.1 v30.2.2.2.2.2.2.1 v30.2.2.2.2.2.2.2.1 v30.2.2.2.2.2.2.2.2 x1 (v30.2.2.2.2.2.2.1 x2.toNatClampNeg) x3 v hv) gX12_unsay_X12_goes rfl ⟨rfl, rfl⟩ ⟨rfl, by decide, by decide, rfl⟩ rfl rfl [0, 1, 2, 3, 4, 5, 6, 7, 8, 9] (ax_X12_unsay_55c _ _ _ _ _ _ _ _ _ _) (by decide +kernel) rfl rfl dX12_unsay_55 rfl rfl ⟨Nat.zero_le _, Nat.zero_le _⟩ (fun _ => jn_ax [0, 1, 2, 3, 4, 5, 6, 7, 8, 9] ([] : List Nat) 10 (ax_X12_unsay_55 _ _ _ _ _ _ _ _ _ _ _ _ _ _ _ _ _ _ _ _) rfl (by decide +kernel)) (fun v55 hg => ?_)
          refine j_if_eq hX 65 hg dX12_unsay_58 (by decide) (fun hg => ?_) (fun hg => ?_)
          · refine j_iconst hX dX12_unsay_65 kc_0 ?_
            cases hg
            exact hret _ _ dX12_unsay_66
          · refine j_iconst hX dX12_unsay_61 kc_1 ?_
            refine j_goto hX 66 dX12_unsay_62 (by decide) ?_
            cases hg
            exact hret _ _ dX12_unsay_66
        · refine j_bipush hX dX12_unsay_41 kb_m4 ?_
          refine j_goto hX 66 dX12_unsay_43 (by decide) ?_
          cases hg
          exact hret _ _ dX12_unsay_66
abbrev w_X12_open (G : jG) (q_this : Nat) (q_this_book : Nat) (q_this_s : Nat) (q_this_place : Nat) (q_this_sort : Nat) (q_this_minute : Nat) (q_this_when : Nat) (q_this_isHeard : Nat) (q_this_goneBy : Nat) (q_this_stand : Nat) (v_this_text : Value) (v_this_length : Value) (v_this_draft : Value) (v_this_kept : Value) (v_this_keptMany : Value) (v_this_acts : Value) (v_this_actMany : Value) (v_this_row : Value) (v_this_rowMany : Value) (v_this_tells : Value) (v_this_tellMany : Value) (v_this_at : Value) (v_this_told : Value) (f_this_book : (Nat → Int32)) (f_this_s : (Nat → Int32)) (f_this_place : (Nat → Int32)) (f_this_sort : (Nat → Int32)) (f_this_minute : (Nat → Int32)) (f_this_when : (Nat → Int32)) (f_this_isHeard : (Nat → Int32)) (f_this_goneBy : (Nat → Int32)) (f_this_stand : (Nat → Int32)) (f_this_many : Int32) (f_this_standing : Int32) : va_W := [oC q_this 12 [v_this_text, v_this_length, .ref q_this_book, v_this_draft, .ref q_this_s, v_this_kept, v_this_keptMany, v_this_acts, v_this_actMany, v_this_row, v_this_rowMany, v_this_tells, v_this_tellMany, v_this_at, v_this_told, .ref q_this_place, .ref q_this_sort, .ref q_this_minute, .ref q_this_when, .ref q_this_isHeard, .ref q_this_goneBy, .ref q_this_stand, .int f_this_many, .int f_this_standing], aI G q_this_book 78 f_this_book, aI G q_this_s 74 f_this_s, aI G q_this_place 128 f_this_place, aI G q_this_sort 128 f_this_sort, aI G q_this_minute 128 f_this_minute, aI G q_this_when 128 f_this_when, aZ G q_this_isHeard 128 f_this_isHeard, aI G q_this_goneBy 128 f_this_goneBy, aI G q_this_stand 128 f_this_stand]
def g_X12_open_b111 (N : Nat) (f_this_book : (Nat → Int32)) (f_this_s : (Nat → Int32)) (rec_31 : (Nat → Int32) → (Nat → Int32) → (Nat → Int32) → (Nat → Int32) → (Nat → Int32) → (Nat → Int32) → (Nat → Int32) → Int32 → Int32 → Int32 → Int32 → Int32 → Int32 → Option (Int32 × (Nat → Int32) × (Nat → Int32) × (Nat → Int32) × (Nat → Int32) × (Nat → Int32) × (Nat → Int32) × (Nat → Int32) × Int32 × Int32)) (f_this_place : (Nat → Int32)) (f_this_sort : (Nat → Int32)) (f_this_minute : (Nat → Int32)) (f_this_when : (Nat → Int32)) (f_this_isHeard : (Nat → Int32)) (f_this_goneBy : (Nat → Int32)) (f_this_stand : (Nat → Int32)) (f_this_many : Int32) (f_this_standing : Int32) (x1 : Int32) (x3 : Int32) (x4 : Int32) (s0 : Int32) (s1 : Int32) : Option (Int32 × (Nat → Int32) × (Nat → Int32) × (Nat → Int32) × (Nat → Int32) × (Nat → Int32) × (Nat → Int32) × (Nat → Int32) × Int32 × Int32) := rec_31 f_this_place f_this_sort f_this_minute f_this_when f_this_isHeard f_this_goneBy f_this_stand f_this_many f_this_standing x1 (s0 + s1) x3 (x4 + 1)
def g_X12_open_b100 (N : Nat) (f_this_book : (Nat → Int32)) (f_this_s : (Nat → Int32)) (rec_31 : (Nat → Int32) → (Nat → Int32) → (Nat → Int32) → (Nat → Int32) → (Nat → Int32) → (Nat → Int32) → (Nat → Int32) → Int32 → Int32 → Int32 → Int32 → Int32 → Int32 → Option (Int32 × (Nat → Int32) × (Nat → Int32) × (Nat → Int32) × (Nat → Int32) × (Nat → Int32) × (Nat → Int32) × (Nat → Int32) × Int32 × Int32)) (f_this_place : (Nat → Int32)) (f_this_sort : (Nat → Int32)) (f_this_minute : (Nat → Int32)) (f_this_when : (Nat → Int32)) (f_this_isHeard : (Nat → Int32)) (f_this_goneBy : (Nat → Int32)) (f_this_stand : (Nat → Int32)) (f_this_many : Int32) (f_this_standing : Int32) (x1 : Int32) (x2 : Int32) (x3 : Int32) (x4 : Int32) (x5 : Int32) : Option (Int32 × (Nat → Int32) × (Nat → Int32) × (Nat → Int32) × (Nat → Int32) × (Nat → Int32) × (Nat → Int32) × (Nat → Int32) × Int32 × Int32) := if x5 = 0 then g_X12_open_b111 N f_this_book f_this_s rec_31 f_this_place f_this_sort f_this_minute f_this_when f_this_isHeard f_this_goneBy f_this_stand f_this_many f_this_standing x1 x3 x4 x2 0 else g_X12_open_b111 N f_this_book f_this_s rec_31 f_this_place f_this_sort f_this_minute f_this_when f_this_isHeard f_this_goneBy f_this_stand f_this_many f_this_standing x1 x3 x4 x2 1
def g_X12_open_b92 (N : Nat) (f_this_book : (Nat → Int32)) (f_this_s : (Nat → Int32)) (rec_43 : (Nat → Int32) → (Nat → Int32) → (Nat → Int32) → (Nat → Int32) → (Nat → Int32) → (Nat → Int32) → (Nat → Int32) → Int32 → Int32 → Int32 → Int32 → Int32 → Int32 → Int32 → Int32 → Option (Int32 × (Nat → Int32) × (Nat → Int32) × (Nat → Int32) × (Nat → Int32) × (Nat → Int32) × (Nat → Int32) × (Nat → Int32) × Int32 × Int32)) (f_this_place : (Nat → Int32)) (f_this_sort : (Nat → Int32)) (f_this_minute : (Nat → Int32)) (f_this_when : (Nat → Int32)) (f_this_isHeard : (Nat → Int32)) (f_this_goneBy : (Nat → Int32)) (f_this_stand : (Nat → Int32)) (f_this_many : Int32) (f_this_standing : Int32) (x1 : Int32) (x2 : Int32) (x3 : Int32) (x4 : Int32) (x6 : Int32) (s0 : Int32) : Option (Int32 × (Nat → Int32) × (Nat → Int32) × (Nat → Int32) × (Nat → Int32) × (Nat → Int32) × (Nat → Int32) × (Nat → Int32) × Int32 × Int32) := rec_43 f_this_place f_this_sort f_this_minute f_this_when f_this_isHeard f_this_goneBy f_this_stand f_this_many f_this_standing x1 x2 x3 x4 s0 (x6 + 1)
def g_X12_open_b87 (N : Nat) (f_this_book : (Nat → Int32)) (f_this_s : (Nat → Int32)) (rec_43 : (Nat → Int32) → (Nat → Int32) → (Nat → Int32) → (Nat → Int32) → (Nat → Int32) → (Nat → Int32) → (Nat → Int32) → Int32 → Int32 → Int32 → Int32 → Int32 → Int32 → Int32 → Int32 → Option (Int32 × (Nat → Int32) × (Nat → Int32) × (Nat → Int32) × (Nat → Int32) × (Nat → Int32) × (Nat → Int32) × (Nat → Int32) × Int32 × Int32)) (f_this_place : (Nat → Int32)) (f_this_sort : (Nat → Int32)) (f_this_minute : (Nat → Int32)) (f_this_when : (Nat → Int32)) (f_this_isHeard : (Nat → Int32)) (f_this_goneBy : (Nat → Int32)) (f_this_stand : (Nat → Int32)) (f_this_many : Int32) (f_this_standing : Int32) (x1 : Int32) (x2 : Int32) (x3 : Int32) (x4 : Int32) (x6 : Int32) : Option (Int32 × (Nat → Int32) × (Nat → Int32) × (Nat → Int32) × (Nat → Int32) × (Nat → Int32) × (Nat → Int32) × (Nat → Int32) × Int32 × Int32) := g_X12_open_b92 N f_this_book f_this_s rec_43 f_this_place f_this_sort f_this_minute f_this_when f_this_isHeard f_this_goneBy f_this_stand f_this_many f_this_standing x1 x2 x3 x4 x6 1
def g_X12_open_L43 (N : Nat) (f_this_book : (Nat → Int32)) (f_this_s : (Nat → Int32)) (k_100 : (Nat → Int32) → (Nat → Int32) → (Nat → Int32) → (Nat → Int32) → (Nat → Int32) → (Nat → Int32) → (Nat → Int32) → Int32 → Int32 → Int32 → Int32 → Int32 → Int32 → Int32 → Option (Int32 × (Nat → Int32) × (Nat → Int32) × (Nat → Int32) × (Nat → Int32) × (Nat → Int32) × (Nat → Int32) × (Nat → Int32) × Int32 × Int32)) : Nat → (Nat → Int32) → (Nat → Int32) → (Nat → Int32) → (Nat → Int32) → (Nat → Int32) → (Nat → Int32) → (Nat → Int32) → Int32 → Int32 → Int32 → Int32 → Int32 → Int32 → Int32 → Int32 → Option (Int32 × (Nat → Int32) × (Nat → Int32) × (Nat → Int32) × (Nat → Int32) × (Nat → Int32) × (Nat → Int32) × (Nat → Int32) × Int32 × Int32)
  | 0, _, _, _, _, _, _, _, _, _, _, _, _, _, _, _ => none
  | fu + 1, f_this_place, f_this_sort, f_this_minute, f_this_when, f_this_isHeard, f_this_goneBy, f_this_stand, f_this_many, f_this_standing, x1, x2, x3, x4, x5, x6 => gi 0 78 (if (f_this_book (0 : Int32).toNatClampNeg) ≤ x6 then k_100 f_this_place f_this_sort f_this_minute f_this_when f_this_isHeard f_this_goneBy f_this_stand f_this_many f_this_standing x1 x2 x3 x4 x5 else gi 1 74 ((g_X12_playsNow N f_this_book f_this_s f_this_place f_this_sort f_this_minute f_this_when f_this_isHeard f_this_goneBy f_this_stand f_this_many f_this_standing x1 (f_this_s (1 : Int32).toNatClampNeg)).bind fun v62 => if x5 = 0 then gi x4 128 ((g_X12_goes N f_this_book f_this_s v62.1 v62.2.1 v62.2.2.1 v62.2.2.2.1 v62.2.2.2.2.1 v62.2.2.2.2.2.1 v62.2.2.2.2.2.2.1 v62.2.2.2.2.2.2.2.1 v62.2.2.2.2.2.2.2.2 x1 (v62.2.2.2.2.2.2.1 x4.toNatClampNeg) x6).bind fun v81 => if v81.1 = 0 then g_X12_open_b92 N f_this_book f_this_s (g_X12_open_L43 N f_this_book f_this_s k_100 fu) v81.2.1 v81.2.2.1 v81.2.2.2.1 v81.2.2.2.2.1 v81.2.2.2.2.2.1 v81.2.2.2.2.2.2.1 v81.2.2.2.2.2.2.2.1 v81.2.2.2.2.2.2.2.2.1 v81.2.2.2.2.2.2.2.2.2 x1 x2 x3 x4 x6 0 else g_X12_open_b87 N f_this_book f_this_s (g_X12_open_L43 N f_this_book f_this_s k_100 fu) v81.2.1 v81.2.2.1 v81.2.2.2.1 v81.2.2.2.2.1 v81.2.2.2.2.2.1 v81.2.2.2.2.2.2.1 v81.2.2.2.2.2.2.2.1 v81.2.2.2.2.2.2.2.2.1 v81.2.2.2.2.2.2.2.2.2 x1 x2 x3 x4 x6) else g_X12_open_b87 N f_this_book f_this_s (g_X12_open_L43 N f_this_book f_this_s k_100 fu) v62.1 v62.2.1 v62.2.2.1 v62.2.2.2.1 v62.2.2.2.2.1 v62.2.2.2.2.2.1 v62.2.2.2.2.2.2.1 v62.2.2.2.2.2.2.2.1 v62.2.2.2.2.2.2.2.2 x1 x2 x3 x4 x6))
def g_X12_open_L31 (N : Nat) (f_this_book : (Nat → Int32)) (f_this_s : (Nat → Int32)) : Nat → (Nat → Int32) → (Nat → Int32) → (Nat → Int32) → (Nat → Int32) → (Nat → Int32) → (Nat → Int32) → (Nat → Int32) → Int32 → Int32 → Int32 → Int32 → Int32 → Int32 → Option (Int32 × (Nat → Int32) × (Nat → Int32) × (Nat → Int32) × (Nat → Int32) × (Nat → Int32) × (Nat → Int32) × (Nat → Int32) × Int32 × Int32)
  | 0, _, _, _, _, _, _, _, _, _, _, _, _, _ => none
  | fu + 1, f_this_place, f_this_sort, f_this_minute, f_this_when, f_this_isHeard, f_this_goneBy, f_this_stand, f_this_many, f_this_standing, x1, x2, x3, x4 => if x3 ≤ x4 then some (x2, f_this_place, f_this_sort, f_this_minute, f_this_when, f_this_isHeard, f_this_goneBy, f_this_stand, f_this_many, f_this_standing) else g_X12_open_L43 N f_this_book f_this_s (g_X12_open_b100 N f_this_book f_this_s (g_X12_open_L31 N f_this_book f_this_s fu)) N f_this_place f_this_sort f_this_minute f_this_when f_this_isHeard f_this_goneBy f_this_stand f_this_many f_this_standing x1 x2 x3 x4 0 0
def g_X12_open (N : Nat) (f_this_book : (Nat → Int32)) (f_this_s : (Nat → Int32)) (f_this_place : (Nat → Int32)) (f_this_sort : (Nat → Int32)) (f_this_minute : (Nat → Int32)) (f_this_when : (Nat → Int32)) (f_this_isHeard : (Nat → Int32)) (f_this_goneBy : (Nat → Int32)) (f_this_stand : (Nat → Int32)) (f_this_many : Int32) (f_this_standing : Int32) (x1 : Int32) : Option (Int32 × (Nat → Int32) × (Nat → Int32) × (Nat → Int32) × (Nat → Int32) × (Nat → Int32) × (Nat → Int32) × (Nat → Int32) × Int32 × Int32) := (g_X12_isPlace N f_this_book x1).bind fun v2 => if v2 = 0 then some ((-1), f_this_place, f_this_sort, f_this_minute, f_this_when, f_this_isHeard, f_this_goneBy, f_this_stand, f_this_many, f_this_standing) else gi 1 74 ((g_X12_playsNow N f_this_book f_this_s f_this_place f_this_sort f_this_minute f_this_when f_this_isHeard f_this_goneBy f_this_stand f_this_many f_this_standing x1 (f_this_s (1 : Int32).toNatClampNeg)).bind fun v20 => g_X12_open_L31 N f_this_book f_this_s N v20.1 v20.2.1 v20.2.2.1 v20.2.2.2.1 v20.2.2.2.2.1 v20.2.2.2.2.2.1 v20.2.2.2.2.2.2.1 v20.2.2.2.2.2.2.2.1 v20.2.2.2.2.2.2.2.2 x1 0 v20.2.2.2.2.2.2.2.2 0)
set_option maxRecDepth 100000 in
theorem ax_X12_open_62 (c0 c1 c2 c3 c4 c5 c6 c7 c8 c9 d0 d1 d2 d3 d4 d5 d6 d7 d8 d9 : Nat × va_E) : [0, 1, 2, 3, 4, 5, 6, 7, 8, 9].map (fun i => ([c0, c1, c2, c3, c4, c5, c6, c7, c8, c9] : va_W)[i]?) = List.map some ([c0, c1, c2, c3, c4, c5, c6, c7, c8, c9] : va_W) ∧ ([d0, d1, d2, d3, d4, d5, d6, d7, d8, d9] : va_W).length = 10 ∧ [0, 1, 2, 3, 4, 5, 6, 7, 8, 9].map (fun i => ([d0, d1, d2, d3, d4, d5, d6, d7, d8, d9] : va_W)[i]?) = List.map some ([d0, d1, d2, d3, d4, d5, d6, d7, d8, d9] : va_W) ∧ ([] : List Nat).map (fun i => ([d0, d1, d2, d3, d4, d5, d6, d7, d8, d9] : va_W)[i]?) = ([] : List Nat).map (fun i => ([c0, c1, c2, c3, c4, c5, c6, c7, c8, c9] : va_W)[i]?) := ⟨rfl, rfl, rfl, rfl⟩
set_option maxRecDepth 100000 in
theorem ax_X12_open_62c (c0 c1 c2 c3 c4 c5 c6 c7 c8 c9 : Nat × va_E) : [0, 1, 2, 3, 4, 5, 6, 7, 8, 9].map (fun i => ([c0, c1, c2, c3, c4, c5, c6, c7, c8, c9] : va_W)[i]?) = List.map some ([c0, c1, c2, c3, c4, c5, c6, c7, c8, c9] : va_W) := rfl
set_option maxRecDepth 100000 in
theorem ax_X12_open_81 (c0 c1 c2 c3 c4 c5 c6 c7 c8 c9 d0 d1 d2 d3 d4 d5 d6 d7 d8 d9 : Nat × va_E) : [0, 1, 2, 3, 4, 5, 6, 7, 8, 9].map (fun i => ([c0, c1, c2, c3, c4, c5, c6, c7, c8, c9] : va_W)[i]?) = List.map some ([c0, c1, c2, c3, c4, c5, c6, c7, c8, c9] : va_W) ∧ ([d0, d1, d2, d3, d4, d5, d6, d7, d8, d9] : va_W).length = 10 ∧ [0, 1, 2, 3, 4, 5, 6, 7, 8, 9].map (fun i => ([d0, d1, d2, d3, d4, d5, d6, d7, d8, d9] : va_W)[i]?) = List.map some ([d0, d1, d2, d3, d4, d5, d6, d7, d8, d9] : va_W) ∧ ([] : List Nat).map (fun i => ([d0, d1, d2, d3, d4, d5, d6, d7, d8, d9] : va_W)[i]?) = ([] : List Nat).map (fun i => ([c0, c1, c2, c3, c4, c5, c6, c7, c8, c9] : va_W)[i]?) := ⟨rfl, rfl, rfl, rfl⟩
set_option maxRecDepth 100000 in
theorem ax_X12_open_81c (c0 c1 c2 c3 c4 c5 c6 c7 c8 c9 : Nat × va_E) : [0, 1, 2, 3, 4, 5, 6, 7, 8, 9].map (fun i => ([c0, c1, c2, c3, c4, c5, c6, c7, c8, c9] : va_W)[i]?) = List.map some ([c0, c1, c2, c3, c4, c5, c6, c7, c8, c9] : va_W) := rfl
set_option maxRecDepth 100000 in
theorem ax_X12_open_20 (c0 c1 c2 c3 c4 c5 c6 c7 c8 c9 d0 d1 d2 d3 d4 d5 d6 d7 d8 d9 : Nat × va_E) : [0, 1, 2, 3, 4, 5, 6, 7, 8, 9].map (fun i => ([c0, c1, c2, c3, c4, c5, c6, c7, c8, c9] : va_W)[i]?) = List.map some ([c0, c1, c2, c3, c4, c5, c6, c7, c8, c9] : va_W) ∧ ([d0, d1, d2, d3, d4, d5, d6, d7, d8, d9] : va_W).length = 10 ∧ [0, 1, 2, 3, 4, 5, 6, 7, 8, 9].map (fun i => ([d0, d1, d2, d3, d4, d5, d6, d7, d8, d9] : va_W)[i]?) = List.map some ([d0, d1, d2, d3, d4, d5, d6, d7, d8, d9] : va_W) ∧ ([] : List Nat).map (fun i => ([d0, d1, d2, d3, d4, d5, d6, d7, d8, d9] : va_W)[i]?) = ([] : List Nat).map (fun i => ([c0, c1, c2, c3, c4, c5, c6, c7, c8, c9] : va_W)[i]?) := ⟨rfl, rfl, rfl, rfl⟩
set_option maxRecDepth 100000 in
theorem ax_X12_open_20c (c0 c1 c2 c3 c4 c5 c6 c7 c8 c9 : Nat × va_E) : [0, 1, 2, 3, 4, 5, 6, 7, 8, 9].map (fun i => ([c0, c1, c2, c3, c4, c5, c6, c7, c8, c9] : va_W)[i]?) = List.map some ([c0, c1, c2, c3, c4, c5, c6, c7, c8, c9] : va_W) := rfl
set_option maxHeartbeats 4000000 in
set_option maxRecDepth 100000 in
theorem c_X12_open (l : Launch) (G : jG) (N : Nat) (q_this : Nat) (q_this_book : Nat) (q_this_s : Nat) (q_this_place : Nat) (q_this_sort : Nat) (q_this_minute : Nat) (q_this_when : Nat) (q_this_isHeard : Nat) (q_this_goneBy : Nat) (q_this_stand : Nat) (v_this_text : Value) (v_this_length : Value) (v_this_draft : Value) (v_this_kept : Value) (v_this_keptMany : Value) (v_this_acts : Value) (v_this_actMany : Value) (v_this_row : Value) (v_this_rowMany : Value) (v_this_tells : Value) (v_this_tellMany : Value) (v_this_at : Value) (v_this_told : Value) (f_this_book : (Nat → Int32)) (f_this_s : (Nat → Int32)) (f_this_place : (Nat → Int32)) (f_this_sort : (Nat → Int32)) (f_this_minute : (Nat → Int32)) (f_this_when : (Nat → Int32)) (f_this_isHeard : (Nat → Int32)) (f_this_goneBy : (Nat → Int32)) (f_this_stand : (Nat → Int32)) (f_this_many : Int32) (f_this_standing : Int32) (x1 : Int32) (u : Int32 × (Nat → Int32) × (Nat → Int32) × (Nat → Int32) × (Nat → Int32) × (Nat → Int32) × (Nat → Int32) × (Nat → Int32) × Int32 × Int32) (hu : g_X12_open N f_this_book f_this_s f_this_place f_this_sort f_this_minute f_this_when f_this_isHeard f_this_goneBy f_this_stand f_this_many f_this_standing x1 = some u) : MetRW l G yX12_open wsX12_open ({ frames := 4, cells := 0, slots := 0, locals := 95 } : Room) [.ref q_this, .int x1] (w_X12_open G q_this q_this_book q_this_s q_this_place q_this_sort q_this_minute q_this_when q_this_isHeard q_this_goneBy q_this_stand v_this_text v_this_length v_this_draft v_this_kept v_this_keptMany v_this_acts v_this_actMany v_this_row v_this_rowMany v_this_tells v_this_tellMany v_this_at v_this_told f_this_book f_this_s f_this_place f_this_sort f_this_minute f_this_when f_this_isHeard f_this_goneBy f_this_stand f_this_many f_this_standing) (w_X12_open G q_this q_this_book q_this_s q_this_place q_this_sort q_this_minute q_this_when q_this_isHeard q_this_goneBy q_this_stand v_this_text v_this_length v_this_draft v_this_kept v_this_keptMany v_this_acts v_this_actMany v_this_row v_this_rowMany v_this_tells v_this_tellMany v_this_at v_this_told f_this_book f_this_s u.2.1 u.2.2.1 u.2.2.2.1 u.2.2.2.2.1 u.2.2.2.2.2.1 u.2.2.2.2.2.2.1 u.2.2.2.2.2.2.2.1 u.2.2.2.2.2.2.2.2.1 u.2.2.2.2.2.2.2.2.2) u.1 := by
  refine met_rwi (cc := cX12_open) (maxL := 7) (lv0 := [(0, .ref q_this), (1, .int x1)]) (by decide) rfl rfl rfl rfl (fun X hX hW hret => ?_)
  have hinX12 : ∀ w ∈ u_ws RX12 TX12 24, w ∈ wsX12_open := by decide +kernel
  have hf_X12_book_13 : Cond.fieldLink RX12 13 (TX12 2).1 (TX12 2).2.1 (TX12 2).2.2.1 ∈ wsX12_open := by decide +kernel
  have hf_X12_s_19 : Cond.fieldLink RX12 19 (TX12 4).1 (TX12 4).2.1 (TX12 4).2.2.1 ∈ wsX12_open := by decide +kernel
  have hf_X12_stand_56 : Cond.fieldLink RX12 56 (TX12 21).1 (TX12 21).2.1 (TX12 21).2.2.1 ∈ wsX12_open := by decide +kernel
  have hf_X12_standing_134 : Cond.fieldLink RX12 134 (TX12 23).1 (TX12 23).2.1 (TX12 23).2.2.1 ∈ wsX12_open := by decide +kernel
  have L31 : ∀ (fu31 : Nat), ∀ (f_this_place : (Nat → Int32)) (f_this_sort : (Nat → Int32)) (f_this_minute : (Nat → Int32)) (f_this_when : (Nat → Int32)) (f_this_isHeard : (Nat → Int32)) (f_this_goneBy : (Nat → Int32)) (f_this_stand : (Nat → Int32)) (f_this_many : Int32) (f_this_standing : Int32) (x1 : Int32) (x2 : Int32) (x3 : Int32) (x4 : Int32), g_X12_open_L31 N f_this_book f_this_s fu31 f_this_place f_this_sort f_this_minute f_this_when f_this_isHeard f_this_goneBy f_this_stand f_this_many f_this_standing x1 x2 x3 x4 = some u → J X 0 0 (w_X12_open G q_this q_this_book q_this_s q_this_place q_this_sort q_this_minute q_this_when q_this_isHeard q_this_goneBy q_this_stand v_this_text v_this_length v_this_draft v_this_kept v_this_keptMany v_this_acts v_this_actMany v_this_row v_this_rowMany v_this_tells v_this_tellMany v_this_at v_this_told f_this_book f_this_s f_this_place f_this_sort f_this_minute f_this_when f_this_isHeard f_this_goneBy f_this_stand f_this_many f_this_standing) 31 [(0, .ref q_this), (1, .int x1), (2, .int x2), (3, .int x3), (4, .int x4)] [] := by
    intro fu31
    induction fu31 with
    | zero => intro f_this_place f_this_sort f_this_minute f_this_when f_this_isHeard f_this_goneBy f_this_stand f_this_many f_this_standing x1 x2 x3 x4 hg; exact nomatch hg
    | succ fu31 ih31 =>
      have B111 : ∀ (f_this_place : (Nat → Int32)) (f_this_sort : (Nat → Int32)) (f_this_minute : (Nat → Int32)) (f_this_when : (Nat → Int32)) (f_this_isHeard : (Nat → Int32)) (f_this_goneBy : (Nat → Int32)) (f_this_stand : (Nat → Int32)) (f_this_many : Int32) (f_this_standing : Int32) (x1 : Int32) (x3 : Int32) (x4 : Int32) (s0 : Int32) (s1 : Int32), g_X12_open_b111 N f_this_book f_this_s (g_X12_open_L31 N f_this_book f_this_s fu31) f_this_place f_this_sort f_this_minute f_this_when f_this_isHeard f_this_goneBy f_this_stand f_this_many f_this_standing x1 x3 x4 s0 s1 = some u → J X 0 0 (w_X12_open G q_this q_this_book q_this_s q_this_place q_this_sort q_this_minute q_this_when q_this_isHeard q_this_goneBy q_this_stand v_this_text v_this_length v_this_draft v_this_kept v_this_keptMany v_this_acts v_this_actMany v_this_row v_this_rowMany v_this_tells v_this_tellMany v_this_at v_this_told f_this_book f_this_s f_this_place f_this_sort f_this_minute f_this_when f_this_isHeard f_this_goneBy f_this_stand f_this_many f_this_standing) 111 [(0, .ref q_this), (1, .int x1), (3, .int x3), (4, .int x4)] [.int s1, .int s0] := by
        intro f_this_place f_this_sort f_this_minute f_this_when f_this_isHeard f_this_goneBy f_this_stand f_this_many f_this_standing x1 x3 x4 s0 s1 hg
        unfold g_X12_open_b111 at hg
        refine j_iadd hX dX12_open_111 ?_
        refine j_istore_n hX (lv' := [(2, .int (s0 + s1)), (0, .ref q_this), (1, .int x1), (3, .int x3), (4, .int x4)]) dX12_open_112 rfl rfl rfl ?_
        refine j_iinc hX 4 (v := x4 + 1) (lv' := [(4, .int (x4 + 1)), (2, .int (s0 + s1)), (0, .ref q_this), (1, .int x1), (3, .int x3)]) dX12_open_113 rfl (by rw [kc_1]) rfl rfl ?_
        refine j_goto hX 31 dX12_open_116 (by decide) ?_
        refine j_lv [2, 3, 1, 4, 0] rfl ?_
        exact ih31 _ _ _ _ _ _ _ _ _ _ _ _ _ hg
      have B100 : ∀ (f_this_place : (Nat → Int32)) (f_this_sort : (Nat → Int32)) (f_this_minute : (Nat → Int32)) (f_this_when : (Nat → Int32)) (f_this_isHeard : (Nat → Int32)) (f_this_goneBy : (Nat → Int32)) (f_this_stand : (Nat → Int32)) (f_this_many : Int32) (f_this_standing : Int32) (x1 : Int32) (x2 : Int32) (x3 : Int32) (x4 : Int32) (x5 : Int32), g_X12_open_b100 N f_this_book f_this_s (g_X12_open_L31 N f_this_book f_this_s fu31) f_this_place f_this_sort f_this_minute f_this_when f_this_isHeard f_this_goneBy f_this_stand f_this_many f_this_standing x1 x2 x3 x4 x5 = some u → J X 0 0 (w_X12_open G q_this q_this_book q_this_s q_this_place q_this_sort q_this_minute q_this_when q_this_isHeard q_this_goneBy q_this_stand v_this_text v_this_length v_this_draft v_this_kept v_this_keptMany v_this_acts v_this_actMany v_this_row v_this_rowMany v_this_tells v_this_tellMany v_this_at v_this_told f_this_book f_this_s f_this_place f_this_sort f_this_minute f_this_when f_this_isHeard f_this_goneBy f_this_stand f_this_many f_this_standing) 100 [(0, .ref q_this), (1, .int x1), (2, .int x2), (3, .int x3), (4, .int x4), (5, .int x5)] [] := by
        intro f_this_place f_this_sort f_this_minute f_this_when f_this_isHeard f_this_goneBy f_this_stand f_this_many f_this_standing x1 x2 x3 x4 x5 hg
        unfold g_X12_open_b100 at hg
        refine j_iload_n hX 2 dX12_open_100 rfl rfl ?_
        refine j_iload hX 5 dX12_open_101 rfl ?_
        refine j_if_eq hX 110 hg dX12_open_103 (by decide) (fun hg => ?_) (fun hg => ?_)
        · refine j_iconst hX dX12_open_110 kc_0 ?_
          refine j_lv [0, 1, 3, 4] rfl ?_
          exact B111 _ _ _ _ _ _ _ _ _ _ _ _ _ _ hg
        · refine j_iconst hX dX12_open_106 kc_1 ?_
          refine j_goto hX 111 dX12_open_107 (by decide) ?_
          refine j_lv [0, 1, 3, 4] rfl ?_
          exact B111 _ _ _ _ _ _ _ _ _ _ _ _ _ _ hg
      have L43 : ∀ (fu43 : Nat), ∀ (f_this_place : (Nat → Int32)) (f_this_sort : (Nat → Int32)) (f_this_minute : (Nat → Int32)) (f_this_when : (Nat → Int32)) (f_this_isHeard : (Nat → Int32)) (f_this_goneBy : (Nat → Int32)) (f_this_stand : (Nat → Int32)) (f_this_many : Int32) (f_this_standing : Int32) (x1 : Int32) (x2 : Int32) (x3 : Int32) (x4 : Int32) (x5 : Int32) (x6 : Int32), g_X12_open_L43 N f_this_book f_this_s (g_X12_open_b100 N f_this_book f_this_s (g_X12_open_L31 N f_this_book f_this_s fu31)) fu43 f_this_place f_this_sort f_this_minute f_this_when f_this_isHeard f_this_goneBy f_this_stand f_this_many f_this_standing x1 x2 x3 x4 x5 x6 = some u → J X 0 0 (w_X12_open G q_this q_this_book q_this_s q_this_place q_this_sort q_this_minute q_this_when q_this_isHeard q_this_goneBy q_this_stand v_this_text v_this_length v_this_draft v_this_kept v_this_keptMany v_this_acts v_this_actMany v_this_row v_this_rowMany v_this_tells v_this_tellMany v_this_at v_this_told f_this_book f_this_s f_this_place f_this_sort f_this_minute f_this_when f_this_isHeard f_this_goneBy f_this_stand f_this_many f_this_standing) 43 [(0, .ref q_this), (1, .int x1), (2, .int x2), (3, .int x3), (4, .int x4), (5, .int x5), (6, .int x6)] [] := by
        intro fu43
        induction fu43 with
        | zero => intro f_this_place f_this_sort f_this_minute f_this_when f_this_isHeard f_this_goneBy f_this_stand f_this_many f_this_standing x1 x2 x3 x4 x5 x6 hg; exact nomatch hg
        | succ fu43 ih43 =>
          have B92 : ∀ (f_this_place : (Nat → Int32)) (f_this_sort : (Nat → Int32)) (f_this_minute : (Nat → Int32)) (f_this_when : (Nat → Int32)) (f_this_isHeard : (Nat → Int32)) (f_this_goneBy : (Nat → Int32)) (f_this_stand : (Nat → Int32)) (f_this_many : Int32) (f_this_standing : Int32) (x1 : Int32) (x2 : Int32) (x3 : Int32) (x4 : Int32) (x6 : Int32) (s0 : Int32), g_X12_open_b92 N f_this_book f_this_s (g_X12_open_L43 N f_this_book f_this_s (g_X12_open_b100 N f_this_book f_this_s (g_X12_open_L31 N f_this_book f_this_s fu31)) fu43) f_this_place f_this_sort f_this_minute f_this_when f_this_isHeard f_this_goneBy f_this_stand f_this_many f_this_standing x1 x2 x3 x4 x6 s0 = some u → J X 0 0 (w_X12_open G q_this q_this_book q_this_s q_this_place q_this_sort q_this_minute q_this_when q_this_isHeard q_this_goneBy q_this_stand v_this_text v_this_length v_this_draft v_this_kept v_this_keptMany v_this_acts v_this_actMany v_this_row v_this_rowMany v_this_tells v_this_tellMany v_this_at v_this_told f_this_book f_this_s f_this_place f_this_sort f_this_minute f_this_when f_this_isHeard f_this_goneBy f_this_stand f_this_many f_this_standing) 92 [(0, .ref q_this), (1, .int x1), (2, .int x2), (3, .int x3), (4, .int x4), (6, .int x6)] [.int s0] := by
            intro f_this_place f_this_sort f_this_minute f_this_when f_this_isHeard f_this_goneBy f_this_stand f_this_many f_this_standing x1 x2 x3 x4 x6 s0 hg
            unfold g_X12_open_b92 at hg
            refine j_istore hX (lv' := [(5, .int s0), (0, .ref q_this), (1, .int x1), (2, .int x2), (3, .int x3), (4, .int x4), (6, .int x6)]) dX12_open_92 rfl rfl ?_
            refine j_iinc hX 6 (v := x6 + 1) (lv' := [(6, .int (x6 + 1)), (5, .int s0), (0, .ref q_this), (1, .int x1), (2, .int x2), (3, .int x3), (4, .int x4)]) dX12_open_94 rfl (by rw [kc_1]) rfl rfl ?_
            refine j_goto hX 43 dX12_open_97 (by decide) ?_
            refine j_lv [2, 3, 4, 5, 6, 1, 0] rfl ?_
            exact ih43 _ _ _ _ _ _ _ _ _ _ _ _ _ _ _ hg
          have B87 : ∀ (f_this_place : (Nat → Int32)) (f_this_sort : (Nat → Int32)) (f_this_minute : (Nat → Int32)) (f_this_when : (Nat → Int32)) (f_this_isHeard : (Nat → Int32)) (f_this_goneBy : (Nat → Int32)) (f_this_stand : (Nat → Int32)) (f_this_many : Int32) (f_this_standing : Int32) (x1 : Int32) (x2 : Int32) (x3 : Int32) (x4 : Int32) (x6 : Int32), g_X12_open_b87 N f_this_book f_this_s (g_X12_open_L43 N f_this_book f_this_s (g_X12_open_b100 N f_this_book f_this_s (g_X12_open_L31 N f_this_book f_this_s fu31)) fu43) f_this_place f_this_sort f_this_minute f_this_when f_this_isHeard f_this_goneBy f_this_stand f_this_many f_this_standing x1 x2 x3 x4 x6 = some u → J X 0 0 (w_X12_open G q_this q_this_book q_this_s q_this_place q_this_sort q_this_minute q_this_when q_this_isHeard q_this_goneBy q_this_stand v_this_text v_this_length v_this_draft v_this_kept v_this_keptMany v_this_acts v_this_actMany v_this_row v_this_rowMany v_this_tells v_this_tellMany v_this_at v_this_told f_this_book f_this_s f_this_place f_this_sort f_this_minute f_this_when f_this_isHeard f_this_goneBy f_this_stand f_this_many f_this_standing) 87 [(0, .ref q_this), (1, .int x1), (2, .int x2), (3, .int x3), (4, .int x4), (6, .int x6)] [] := by
            intro f_this_place f_this_sort f_this_minute f_this_when f_this_isHeard f_this_goneBy f_this_stand f_this_many f_this_standing x1 x2 x3 x4 x6 hg
            unfold g_X12_open_b87 at hg
            refine j_iconst hX dX12_open_87 kc_1 ?_
            refine j_goto hX 92 dX12_open_88 (by decide) ?_
            exact B92 _ _ _ _ _ _ _ _ _ _ _ _ _ _ _ hg
          intro f_this_place f_this_sort f_this_minute f_this_when f_this_isHeard f_this_goneBy f_this_stand f_this_many f_this_standing x1 x2 x3 x4 x5 x6 hg
          unfold g_X12_open_L43 at hg
          refine j_iload hX 6 dX12_open_43 rfl ?_
          refine j_aload_n hX 0 dX12_open_45 rfl rfl ?_
          refine j_get hX 0 2 rfl rfl hinX12 rfl hf_X12_book_13 rfl dX12_open_46 ?_
          refine j_iconst hX dX12_open_49 kc_0 ?_
          refine j_iald hX 1 rfl hg dX12_open_50 (fun hg => ?_)
          refine j_icmp_ge hX 100 hg dX12_open_51 (by decide) (fun hg => ?_) (fun hg => ?_)
          · refine j_lv [0, 1, 2, 3, 4, 5] rfl ?_
            exact B100 _ _ _ _ _ _ _ _ _ _ _ _ _ _ hg
          · refine j_aload_n hX 0 dX12_open_54 rfl rfl ?_
            refine j_iload_n hX 1 dX12_open_55 rfl rfl ?_
            refine j_aload_n hX 0 dX12_open_56 rfl rfl ?_
            refine j_get hX 0 4 rfl rfl hinX12 rfl hf_X12_s_19 rfl dX12_open_57 ?_
            refine j_iconst hX dX12_open_60 kc_1 ?_
            refine j_iald hX 2 rfl hg dX12_open_61 (fun hg => ?_)
            refine j_vRV hX hW (w1 := fun v => (w_X12_playsNow G q_this q_this_book q_this_s q_this_place q_this_sort q_this_minute q_this_when q_this_isHeard q_this_goneBy q_this_stand v_this_text v_this_length v_this_draft v_this_kept v_this_keptMany v_this_acts v_this_actMany v_this_row v_this_rowMany v_this_tells v_this_tellMany v_this_at v_this_told f_this_book f_this_s v.1 v.2.1 v.2.2.1 v.2.2.2.1 v.2.2.2.2.1 v.2.2.2.2.2.1 v.2.2.2.2.2.2.1 v.2.2.2.2.2.2.2.1 v.2.2.2.2.2.2.2.2)) (ws' := fun v => (w_X12_open G q_this q_this_book q_this_s q_this_place q_this_sort q_this_minute q_this_when q_this_isHeard q_this_goneBy q_this_stand v_this_text v_this_length v_this_draft v_this_kept v_this_keptMany v_this_acts v_this_actMany v_this_row v_this_rowMany v_this_tells v_this_tellMany v_this_at v_this_told f_this_book f_this_s v.1 v.2.1 v.2.2.1 v.2.2.2.1 v.2.2.2.2.1 v.2.2.2.2.2.1 v.2.2.2.2.2.2.1 v.2.2.2.2.2.2.2.1 v.2.2.2.2.2.2.2.2)) [.int x1, .int (f_this_s (1 : Int32).toNatClampNeg)] hg (fun v hv => c_X12_playsNow l G N q_this q_this_book q_this_s q_this_place q_this_sort q_this_minute q_this_when q_this_isHeard q_this_goneBy q_this_stand v_this_text v_this_length v_this_draft v_this_kept v_this_keptMany v_this_acts v_this_actMany v_this_row v_this_rowMany v_this_tells v_this_tellMany v_this_at v_this_told f_this_book f_this_s f_this_place f_this_sort f_this_minute f_this_when f_this_isHeard f_this_goneBy f_this_stand f_this_many f_this_standing x1 (f_this_s (1 : Int32).toNatClampNeg) v hv) gX12_open_X12_playsNow rfl ⟨rfl, rfl⟩ ⟨rfl, by decide, by decide, rfl⟩ rfl rfl [0, 1, 2, 3, 4, 5, 6, 7, 8, 9] (ax_X12_open_62c _ _ _ _ _ _ _ _ _ _) (by decide +kernel) rfl rfl dX12_open_62 rfl rfl ⟨Nat.zero_le _, Nat.zero_le _⟩ (fun _ => jn_ax [0, 1, 2, 3, 4, 5, 6, 7, 8, 9] ([] : List Nat) 10 (ax_X12_open_62 _ _ _ _ _ _ _ _ _ _ _ _ _ _ _ _ _ _ _ _) rfl (by decide +kernel)) (fun v62 hg => ?_)
            refine j_iload hX 5 dX12_open_65 rfl ?_
            refine j_if_ne hX 87 hg dX12_open_67 (by decide) (fun hg => ?_) (fun hg => ?_)
            · refine j_aload_n hX 0 dX12_open_70 rfl rfl ?_
              refine j_iload_n hX 1 dX12_open_71 rfl rfl ?_
              refine j_aload_n hX 0 dX12_open_72 rfl rfl ?_
              refine j_get hX 0 21 rfl rfl hinX12 rfl hf_X12_stand_56 rfl dX12_open_73 ?_
              refine j_iload hX 4 dX12_open_76 rfl ?_
              refine j_iald hX 9 rfl hg dX12_open_78 (fun hg => ?_)
              refine j_iload hX 6 dX12_open_79 rfl ?_
              refine j_vRW hX hW (r := fun v => v.1) (w1 := fun v => (w_X12_goes G q_this q_this_book q_this_s q_this_place q_this_sort q_this_minute q_this_when q_this_isHeard q_this_goneBy q_this_stand v_this_text v_this_length v_this_draft v_this_kept v_this_keptMany v_this_acts v_this_actMany v_this_row v_this_rowMany v_this_tells v_this_tellMany v_this_at v_this_told f_this_book f_this_s v.2.1 v.2.2.1 v.2.2.2.1 v.2.2.2.2.1 v.2.2.2.2.2.1 v.2.2.2.2.2.2.1 v.2.2.2.2.2.2.2.1 v.2.2.2.2.2.2.2.2.1 v.2.2.2.2.2.2.2.2.2)) (ws' := fun v => (w_X12_open G q_this q_this_book q_this_s q_this_place q_this_sort q_this_minute q_this_when q_this_isHeard q_this_goneBy q_this_stand v_this_text v_this_length v_this_draft v_this_kept v_this_keptMany v_this_acts v_this_actMany v_this_row v_this_rowMany v_this_tells v_this_tellMany v_this_at v_this_told f_this_book f_this_s v.2.1 v.2.2.1 v.2.2.2.1 v.2.2.2.2.1 v.2.2.2.2.2.1 v.2.2.2.2.2.2.1 v.2.2.2.2.2.2.2.1 v.2.2.2.2.2.2.2.2.1 v.2.2.2.2.2.2.2.2.2)) [.int x1, .int (v62.2.2.2.2.2.2.1 x4.toNatClampNeg), .int x6] hg (fun v hv => c_X12_goes l G N q_this q_this_book q_this_s q_this_place q_this_sort q_this_minute q_this_when q_this_isHeard q_this_goneBy q_this_stand v_this_text v_this_length v_this_draft v_this_kept v_this_keptMany v_this_acts v_this_actMany v_this_row v_this_rowMany v_this_tells v_this_tellMany v_this_at v_this_told f_this_book f_this_s v62.1 v62.2.1 v62.2.2.1 v62.2.2.2.1 v62.2.2.2.2.1 v62.2.2.2.2.2.1 v62.2.2.2.2.2.2.1 v62.2.2.2.2.2.2.2.1 v62.2.2.2.2.2.2.2.2 x1 (v62.2.2.2.2.2.2.1 x4.toNatClampNeg) x6 v hv) gX12_open_X12_goes rfl ⟨rfl, rfl⟩ ⟨rfl, by decide, by decide, rfl⟩ rfl rfl [0, 1, 2, 3, 4, 5, 6, 7, 8, 9] (ax_X12_open_81c _ _ _ _ _ _ _ _ _ _) (by decide +kernel) rfl rfl dX12_open_81 rfl rfl ⟨Nat.zero_le _, Nat.zero_le _⟩ (fun _ => jn_ax [0, 1, 2, 3, 4, 5, 6, 7, 8, 9] ([] : List Nat) 10 (ax_X12_open_81 _ _ _ _ _ _ _ _ _ _ _ _ _ _ _ _ _ _ _ _) rfl (by decide +kernel)) (fun v81 hg => ?_)
              refine j_if_eq hX 91 hg dX12_open_84 (by decide) (fun hg => ?_) (fun hg => ?_)
              · refine j_iconst hX dX12_open_91 kc_0 ?_
                refine j_lv [0, 1, 2, 3, 4, 6] rfl ?_
                exact B92 _ _ _ _ _ _ _ _ _ _ _ _ _ _ _ hg
              · refine j_lv [0, 1, 2, 3, 4, 6] rfl ?_
                exact B87 _ _ _ _ _ _ _ _ _ _ _ _ _ _ hg
            · refine j_lv [0, 1, 2, 3, 4, 6] rfl ?_
              exact B87 _ _ _ _ _ _ _ _ _ _ _ _ _ _ hg
      intro f_this_place f_this_sort f_this_minute f_this_when f_this_isHeard f_this_goneBy f_this_stand f_this_many f_this_standing x1 x2 x3 x4 hg
      unfold g_X12_open_L31 at hg
      refine j_iload hX 4 dX12_open_31 rfl ?_
      refine j_iload_n hX 3 dX12_open_33 rfl rfl ?_
      refine j_icmp_ge hX 119 hg dX12_open_34 (by decide) (fun hg => ?_) (fun hg => ?_)
      · refine j_iload_n hX 2 dX12_open_119 rfl rfl ?_
        cases hg
        exact hret _ _ dX12_open_120
      · refine j_iconst hX dX12_open_37 kc_0 ?_
        refine j_istore hX (lv' := [(5, .int 0), (0, .ref q_this), (1, .int x1), (2, .int x2), (3, .int x3), (4, .int x4)]) dX12_open_38 rfl rfl ?_
        refine j_iconst hX dX12_open_40 kc_0 ?_
        refine j_istore hX (lv' := [(6, .int 0), (5, .int 0), (0, .ref q_this), (1, .int x1), (2, .int x2), (3, .int x3), (4, .int x4)]) dX12_open_41 rfl rfl ?_
        refine j_lv [2, 3, 4, 5, 6, 1, 0] rfl ?_
        exact L43 N _ _ _ _ _ _ _ _ _ _ _ _ _ _ _ hg
  have hg := hu
  unfold g_X12_open at hg
  refine j_aload_n hX 0 dX12_open_0 rfl rfl ?_
  refine j_iload_n hX 1 dX12_open_1 rfl rfl ?_
  refine j_vRO hX (r := fun v => v) [.int x1] hg (fun v hv => c_X12_isPlace l G N q_this q_this_book v_this_text v_this_length v_this_draft (.ref q_this_s) v_this_kept v_this_keptMany v_this_acts v_this_actMany v_this_row v_this_rowMany v_this_tells v_this_tellMany v_this_at v_this_told (.ref q_this_place) (.ref q_this_sort) (.ref q_this_minute) (.ref q_this_when) (.ref q_this_isHeard) (.ref q_this_goneBy) (.ref q_this_stand) (.int f_this_many) (.int f_this_standing) f_this_book x1 v hv) gX12_open_X12_isPlace rfl ⟨rfl, rfl⟩ ⟨rfl, by decide, by decide, rfl⟩ rfl rfl [0, 1] rfl rfl rfl dX12_open_2 rfl rfl ⟨Nat.zero_le _, Nat.zero_le _⟩ (fun v2 hg => ?_)
  refine j_if_ne hX 10 hg dX12_open_5 (by decide) (fun hg => ?_) (fun hg => ?_)
  · refine j_iconst hX dX12_open_8 kc_m1 ?_
    cases hg
    exact hret _ _ dX12_open_9
  · refine j_iconst hX dX12_open_10 kc_0 ?_
    refine j_istore_n hX (lv' := [(2, .int 0), (0, .ref q_this), (1, .int x1)]) dX12_open_11 rfl rfl rfl ?_
    refine j_aload_n hX 1 dX12_open_12 rfl rfl ?_
    refine j_iload_n hX 2 dX12_open_13 rfl rfl ?_
    refine j_aload_n hX 1 dX12_open_14 rfl rfl ?_
    refine j_get hX 0 4 rfl rfl hinX12 rfl hf_X12_s_19 rfl dX12_open_15 ?_
    refine j_iconst hX dX12_open_18 kc_1 ?_
    refine j_iald hX 2 rfl hg dX12_open_19 (fun hg => ?_)
    refine j_vRV hX hW (w1 := fun v => (w_X12_playsNow G q_this q_this_book q_this_s q_this_place q_this_sort q_this_minute q_this_when q_this_isHeard q_this_goneBy q_this_stand v_this_text v_this_length v_this_draft v_this_kept v_this_keptMany v_this_acts v_this_actMany v_this_row v_this_rowMany v_this_tells v_this_tellMany v_this_at v_this_told f_this_book f_this_s v.1 v.2.1 v.2.2.1 v.2.2.2.1 v.2.2.2.2.1 v.2.2.2.2.2.1 v.2.2.2.2.2.2.1 v.2.2.2.2.2.2.2.1 v.2.2.2.2.2.2.2.2)) (ws' := fun v => (w_X12_open G q_this q_this_book q_this_s q_this_place q_this_sort q_this_minute q_this_when q_this_isHeard q_this_goneBy q_this_stand v_this_text v_this_length v_this_draft v_this_kept v_this_keptMany v_this_acts v_this_actMany v_this_row v_this_rowMany v_this_tells v_this_tellMany v_this_at v_this_told f_this_book f_this_s v.1 v.2.1 v.2.2.1 v.2.2.2.1 v.2.2.2.2.1 v.2.2.2.2.2.1 v.2.2.2.2.2.2.1 v.2.2.2.2.2.2.2.1 v.2.2.2.2.2.2.2.2)) [.int x1, .int (f_this_s (1 : Int32).toNatClampNeg)] hg (fun v hv => c_X12_playsNow l G N q_this q_this_book q_this_s q_this_place q_this_sort q_this_minute q_this_when q_this_isHeard q_this_goneBy q_this_stand v_this_text v_this_length v_this_draft v_this_kept v_this_keptMany v_this_acts v_this_actMany v_this_row v_this_rowMany v_this_tells v_this_tellMany v_this_at v_this_told f_this_book f_this_s f_this_place f_this_sort f_this_minute f_this_when f_this_isHeard f_this_goneBy f_this_stand f_this_many f_this_standing x1 (f_this_s (1 : Int32).toNatClampNeg) v hv) gX12_open_X12_playsNow rfl ⟨rfl, rfl⟩ ⟨rfl, by decide, by decide, rfl⟩ rfl rfl [0, 1, 2, 3, 4, 5, 6, 7, 8, 9] (ax_X12_open_20c _ _ _ _ _ _ _ _ _ _) (by decide +kernel) rfl rfl dX12_open_20 rfl rfl ⟨Nat.zero_le _, Nat.zero_le _⟩ (fun _ => jn_ax [0, 1, 2, 3, 4, 5, 6, 7, 8, 9] ([] : List Nat) 10 (ax_X12_open_20 _ _ _ _ _ _ _ _ _ _ _ _ _ _ _ _ _ _ _ _) rfl (by decide +kernel)) (fun v20 hg => ?_)
    refine j_aload_n hX 1 dX12_open_23 rfl rfl ?_
    refine j_get hX 0 23 rfl rfl hinX12 rfl hf_X12_standing_134 rfl dX12_open_24 ?_
    refine j_istore_n hX (lv' := [(3, .int v20.2.2.2.2.2.2.2.2), (2, .int 0), (0, .ref q_this), (1, .int x1)]) dX12_open_27 rfl rfl rfl ?_
    refine j_iconst hX dX12_open_28 kc_0 ?_
    refine j_istore hX (lv' := [(4, .int 0), (3, .int v20.2.2.2.2.2.2.2.2), (2, .int 0), (0, .ref q_this), (1, .int x1)]) dX12_open_29 rfl rfl ?_
    refine j_lv [3, 4, 2, 1, 0] rfl ?_
    exact L31 N _ _ _ _ _ _ _ _ _ _ _ _ _ hg
