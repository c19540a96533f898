set_option maxRecDepth 100000 in
theorem lwr_1 : ∀ w ∈ wsL_law_r1, w ∈ lw_tbl := by decide +kernel
set_option maxRecDepth 100000 in
theorem lwr_2 : ∀ w ∈ wsL_law_r2, w ∈ lw_tbl := by decide +kernel
set_option maxRecDepth 100000 in
theorem lwr_3 : ∀ w ∈ wsL_law_r3, w ∈ lw_tbl := by decide +kernel
set_option maxRecDepth 100000 in
theorem lwr_4 : ∀ w ∈ wsL_law_r4, w ∈ lw_tbl := by decide +kernel
set_option maxRecDepth 100000 in
theorem lwr_5 : ∀ w ∈ wsL_law_r5, w ∈ lw_tbl := by decide +kernel
set_option maxRecDepth 100000 in
theorem lwr_6 : ∀ w ∈ wsL_law_r6, w ∈ lw_tbl := by decide +kernel
set_option maxRecDepth 100000 in
theorem lwr_7 : ∀ w ∈ wsL_law_r7, w ∈ lw_tbl := by decide +kernel
set_option maxRecDepth 100000 in
theorem lwr_8 : ∀ w ∈ wsL_law_r8, w ∈ lw_tbl := by decide +kernel
set_option maxRecDepth 100000 in
theorem lwr_9 : ∀ w ∈ wsL_law_r9, w ∈ lw_tbl := by decide +kernel
set_option maxRecDepth 100000 in
theorem lwr_10 : ∀ w ∈ wsL_law_r10, w ∈ lw_tbl := by decide +kernel
set_option maxRecDepth 100000 in
theorem lwr_11 : ∀ w ∈ wsL_law_r11, w ∈ lw_tbl := by decide +kernel
set_option maxRecDepth 100000 in
theorem lwr_12 : ∀ w ∈ wsL_law_r12, w ∈ lw_tbl := by decide +kernel
set_option maxRecDepth 100000 in
theorem lwr_13 : ∀ w ∈ wsL_law_r13, w ∈ lw_tbl := by decide +kernel
set_option maxRecDepth 100000 in
theorem lwr_14 : ∀ w ∈ wsL_law_r14, w ∈ lw_tbl := by decide +kernel
set_option maxRecDepth 100000 in
theorem lwr_15 : ∀ w ∈ wsL_law_r15, w ∈ lw_tbl := by decide +kernel
set_option maxRecDepth 100000 in
theorem lwr_16 : ∀ w ∈ wsL_law_r16, w ∈ lw_tbl := by decide +kernel
set_option maxRecDepth 100000 in
theorem lwr_17 : ∀ w ∈ wsL_law_r17, w ∈ lw_tbl := by decide +kernel
set_option maxRecDepth 100000 in
theorem lwr_18 : ∀ w ∈ wsL_law_r18, w ∈ lw_tbl := by decide +kernel
set_option maxRecDepth 100000 in
theorem lwr_19 : ∀ w ∈ wsL_law_r19, w ∈ lw_tbl := by decide +kernel
set_option maxRecDepth 100000 in
theorem lwr_20 : ∀ w ∈ wsL_law_r20, w ∈ lw_tbl := by decide +kernel
set_option maxRecDepth 100000 in
theorem lwr_21 : ∀ w ∈ wsL_law_r21, w ∈ lw_tbl := by decide +kernel
set_option maxRecDepth 100000 in
theorem lwr_22 : ∀ w ∈ wsL_law_r22, w ∈ lw_tbl := by decide +kernel
set_option maxRecDepth 100000 in
theorem lwr_23 : ∀ w ∈ wsL_law_r23, w ∈ lw_tbl := by decide +kernel
set_option maxRecDepth 100000 in
theorem lwr_24 : ∀ w ∈ wsL_law_r24, w ∈ lw_tbl := by decide +kernel
set_option maxRecDepth 100000 in
theorem lwr_25 : ∀ w ∈ wsL_law_r25, w ∈ lw_tbl := by decide +kernel
set_option maxRecDepth 100000 in
theorem lwr_26 : ∀ w ∈ wsL_law_r26, w ∈ lw_tbl := by decide +kernel
set_option maxRecDepth 100000 in
theorem lwr_27 : ∀ w ∈ wsL_law_r27, w ∈ lw_tbl := by decide +kernel
set_option maxRecDepth 100000 in
theorem lwr_28 : ∀ w ∈ wsL_law_r28, w ∈ lw_tbl := by decide +kernel
set_option maxRecDepth 100000 in
theorem lwr_29 : ∀ w ∈ wsL_law_r29, w ∈ lw_tbl := by decide +kernel
set_option maxRecDepth 100000 in
theorem lwr_30 : ∀ w ∈ wsL_law_r30, w ∈ lw_tbl := by decide +kernel
set_option maxRecDepth 100000 in
theorem lwr_31 : ∀ w ∈ wsL_law_r31, w ∈ lw_tbl := by decide +kernel
set_option maxRecDepth 100000 in
theorem lwr_32 : ∀ w ∈ wsL_law_r32, w ∈ lw_tbl := by decide +kernel
set_option maxRecDepth 100000 in
theorem lwr_33 : ∀ w ∈ wsL_law_r33, w ∈ lw_tbl := by decide +kernel
set_option maxRecDepth 100000 in
theorem lwr_34 : ∀ w ∈ wsL_law_r34, w ∈ lw_tbl := by decide +kernel
set_option maxRecDepth 100000 in
theorem lwr_35 : ∀ w ∈ wsL_law_r35, w ∈ lw_tbl := by decide +kernel
set_option maxRecDepth 100000 in
theorem lwr_36 : ∀ w ∈ wsL_law_r36, w ∈ lw_tbl := by decide +kernel
set_option maxRecDepth 100000 in
theorem lwr_37 : ∀ w ∈ wsL_law_r37, w ∈ lw_tbl := by decide +kernel
set_option maxRecDepth 100000 in
theorem lwi_wsX110 : ∀ w ∈ wsX110, w ∈ lw_tbl := by decide +kernel
set_option maxRecDepth 100000 in
theorem lwi_wsX120 : ∀ w ∈ wsX120, w ∈ lw_tbl := by decide +kernel
set_option maxRecDepth 100000 in
theorem lwi_wsX90 : ∀ w ∈ wsX90, w ∈ lw_tbl := by decide +kernel
set_option maxRecDepth 100000 in
theorem lwi_wsX40 : ∀ w ∈ wsX40, w ∈ lw_tbl := by decide +kernel
set_option maxRecDepth 100000 in
theorem lwi_wsX20 : ∀ w ∈ wsX20, w ∈ lw_tbl := by decide +kernel
set_option maxRecDepth 100000 in
theorem lwi_wsX00 : ∀ w ∈ wsX00, w ∈ lw_tbl := by decide +kernel
set_option maxRecDepth 100000 in
theorem lwi_wsX80 : ∀ w ∈ wsX80, w ∈ lw_tbl := by decide +kernel
set_option maxRecDepth 100000 in
theorem lwi_wsX70 : ∀ w ∈ wsX70, w ∈ lw_tbl := by decide +kernel
set_option maxRecDepth 100000 in
theorem lwi_wsX60 : ∀ w ∈ wsX60, w ∈ lw_tbl := by decide +kernel
set_option maxRecDepth 100000 in
theorem lwi_wsX100 : ∀ w ∈ wsX100, w ∈ lw_tbl := by decide +kernel
set_option maxRecDepth 100000 in
theorem lwi_wsX30 : ∀ w ∈ wsX30, w ∈ lw_tbl := by decide +kernel
set_option maxRecDepth 100000 in
theorem lwi_wsX50 : ∀ w ∈ wsX50, w ∈ lw_tbl := by decide +kernel
set_option maxRecDepth 100000 in
theorem lwi_wsX10 : ∀ w ∈ wsX10, w ∈ lw_tbl := by decide +kernel
theorem wsL_law_in : ∀ w ∈ wsL_law, w ∈ lw_tbl := by
  unfold wsL_law
  exact (List.forall_mem_append.mpr ⟨(List.forall_mem_append.mpr ⟨(List.forall_mem_append.mpr ⟨(List.forall_mem_append.mpr ⟨(List.forall_mem_append.mpr ⟨(List.forall_mem_append.mpr ⟨(List.forall_mem_append.mpr ⟨(List.forall_mem_append.mpr ⟨(List.forall_mem_append.mpr ⟨(List.forall_mem_append.mpr ⟨(List.forall_mem_append.mpr ⟨(List.forall_mem_append.mpr ⟨(List.forall_mem_append.mpr ⟨(List.forall_mem_append.mpr ⟨(List.forall_mem_append.mpr ⟨lwr_1, (List.forall_mem_append.mpr ⟨lwr_2, (List.forall_mem_append.mpr ⟨lwr_3, (List.forall_mem_append.mpr ⟨lwr_4, (List.forall_mem_append.mpr ⟨lwr_5, (List.forall_mem_append.mpr ⟨lwr_6, (List.forall_mem_append.mpr ⟨lwr_7, (List.forall_mem_append.mpr ⟨lwr_8, (List.forall_mem_append.mpr ⟨lwr_9, (List.forall_mem_append.mpr ⟨lwr_10, (List.forall_mem_append.mpr ⟨lwr_11, (List.forall_mem_append.mpr ⟨lwr_12, (List.forall_mem_append.mpr ⟨lwr_13, (List.forall_mem_append.mpr ⟨lwr_14, (List.forall_mem_append.mpr ⟨lwr_15, (List.forall_mem_append.mpr ⟨lwr_16, (List.forall_mem_append.mpr ⟨lwr_17, (List.forall_mem_append.mpr ⟨lwr_18, (List.forall_mem_append.mpr ⟨lwr_19, (List.forall_mem_append.mpr ⟨lwr_20, (List.forall_mem_append.mpr ⟨lwr_21, (List.forall_mem_append.mpr ⟨lwr_22, (List.forall_mem_append.mpr ⟨lwr_23, (List.forall_mem_append.mpr ⟨lwr_24, (List.forall_mem_append.mpr ⟨lwr_25, (List.forall_mem_append.mpr ⟨lwr_26, (List.forall_mem_append.mpr ⟨lwr_27, (List.forall_mem_append.mpr ⟨lwr_28, (List.forall_mem_append.mpr ⟨lwr_29, (List.forall_mem_append.mpr ⟨lwr_30, (List.forall_mem_append.mpr ⟨lwr_31, (List.forall_mem_append.mpr ⟨lwr_32, (List.forall_mem_append.mpr ⟨lwr_33, (List.forall_mem_append.mpr ⟨lwr_34, (List.forall_mem_append.mpr ⟨lwr_35, (List.forall_mem_append.mpr ⟨lwr_36, lwr_37⟩)⟩)⟩)⟩)⟩)⟩)⟩)⟩)⟩)⟩)⟩)⟩)⟩)⟩)⟩)⟩)⟩)⟩)⟩)⟩)⟩)⟩)⟩)⟩)⟩)⟩)⟩)⟩)⟩)⟩)⟩)⟩)⟩)⟩)⟩)⟩), lwi_wsX110⟩), lwi_wsX120⟩), lwi_wsX90⟩), lwi_wsX40⟩), lwi_wsX20⟩), lwi_wsX00⟩), lwi_wsX80⟩), lwi_wsX70⟩), lwi_wsX60⟩), lwi_wsX100⟩), lwi_wsX30⟩), lwi_wsX50⟩), lwi_wsX10⟩), fun _ h => absurd h List.not_mem_nil⟩)
theorem inX0 : ∀ w ∈ wsX00, w ∈ lw_tbl := fun w h => wsL_law_in w (inlX0 w h)
theorem inX1 : ∀ w ∈ wsX10, w ∈ lw_tbl := fun w h => wsL_law_in w (inlX1 w h)
theorem inX2 : ∀ w ∈ wsX20, w ∈ lw_tbl := fun w h => wsL_law_in w (inlX2 w h)
theorem inX3 : ∀ w ∈ wsX30, w ∈ lw_tbl := fun w h => wsL_law_in w (inlX3 w h)
theorem inX4 : ∀ w ∈ wsX40, w ∈ lw_tbl := fun w h => wsL_law_in w (inlX4 w h)
theorem inX5 : ∀ w ∈ wsX50, w ∈ lw_tbl := fun w h => wsL_law_in w (inlX5 w h)
theorem inX6 : ∀ w ∈ wsX60, w ∈ lw_tbl := fun w h => wsL_law_in w (inlX6 w h)
theorem inX7 : ∀ w ∈ wsX70, w ∈ lw_tbl := fun w h => wsL_law_in w (inlX7 w h)
theorem inX8 : ∀ w ∈ wsX80, w ∈ lw_tbl := fun w h => wsL_law_in w (inlX8 w h)
theorem inX9 : ∀ w ∈ wsX90, w ∈ lw_tbl := fun w h => wsL_law_in w (inlX9 w h)
theorem inX10 : ∀ w ∈ wsX100, w ∈ lw_tbl := fun w h => wsL_law_in w (inlX10 w h)
theorem inX11 : ∀ w ∈ wsX110, w ∈ lw_tbl := fun w h => wsL_law_in w (inlX11 w h)
theorem inX12 : ∀ w ∈ wsX120, w ∈ lw_tbl := fun w h => wsL_law_in w (inlX12 w h)
