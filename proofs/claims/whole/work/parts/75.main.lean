/-! ===== the loop of the law, and its start ===== -/
theorem lw_end {L i : Nat} (h : ¬ i + 5 ≤ L) (hL : L ≤ 2560) (hi : i ≤ 3000) : nI L - 5 < nI i := by
  rw [l5]
  by_cases z : 5 ≤ L
  · rw [nsub z, nlt (by omega) (by omega)]; omega
  · have h1 : nI L - nI 5 < 0 := pk_sneg (by omega) (by omega)
    exact Int32.lt_of_lt_of_le h1 (nI_pos' (by omega))
theorem lw_more {L i : Nat} (h : i + 5 ≤ L) (hL : L ≤ 2560) : ¬ nI L - 5 < nI i := by
  rw [l5, nsub (by omega), nlt (by omega) (by omega)]
  omega
theorem reads_new {N : Nat} (hN : 400 < N) (tx draft told : AI) (at2 : Int32) : ∃ dr : AI, g_X12_reads N tx 0 draft at2 told = some (-4, dr, 0, told) ∧ ∀ (mi : AI) (wso : Nat → Nat → Int32) (wsz : Nat → Int32), DR 5 mi d3 → PS 2 8 20 0 false mi dr d3 wso wsz 0 [] := by
  obtain ⟨dr, r1, r2⟩ := rd_init (N := N) (tx := tx) (T := []) (g_X12_reads_b44 N tx 0) at2 told 78 0 (by omega) N (by omega) draft (fun i hi => by omega)
  have r1' : g_X12_reads_L2 N tx 0 (g_X12_reads_b44 N tx 0) N draft at2 told 0 = _ := r1
  have g0 : ∀ {α : Type} (z : Option α), gi 0 78 z = z := fun z => by rw [l0, gi_nI (by omega) (by omega)]
  have g1 : ∀ {α : Type} (z : Option α), gi 1 78 z = z := fun z => by rw [l1, gi_nI (by omega) (by omega)]
  have g3 : ∀ {α : Type} (z : Option α), gi 3 78 z = z := fun z => by rw [l3, gi_nI (by omega) (by omega)]
  refine ⟨upd (upd (upd dr 0 2) 1 20) 3 8, ?_, fun mi wso wsz c2 => ?_⟩
  · unfold g_X12_reads
    rw [r1']
    unfold g_X12_reads_b44
    rw [g0, g1, g3, show (0 : Int32).toNatClampNeg = 0 from rfl, show (1 : Int32).toNatClampNeg = 1 from rfl, show (3 : Int32).toNatClampNeg = 3 from rfl]
    obtain ⟨fv, hfv⟩ : ∃ fv, N = fv + 1 := ⟨N - 1, by omega⟩
    have e1 : g_X12_reads_L72 N tx 0 (fv + 1) (upd (upd (upd dr 0 2) 1 20) 3 8) 0 told = some (-4, upd (upd (upd dr 0 2) 1 20) 3 8, 0, told) := by
      unfold g_X12_reads_L72
      rw [if_pos (by decide)]
    rw [← hfv] at e1
    exact e1
  · refine ⟨by omega, by omega, by omega, by omega, c2, fun a b ha hb => ?_, fun a _ => if_pos rfl, ?_, ?_, ?_, ?_, ?_, by simp, rfl, ?_, fun w l hw => by simp at hw, fun w l hw => by simp at hw⟩
    · rw [pk_un (by omega), pk_un (by omega), pk_un (by omega), r2 _ (by omega)]
      unfold drI d3
      by_cases z : a = b
      · rw [if_neg (by omega), if_pos z]; exact ⟨rfl, by omega⟩
      · rw [if_pos (by omega), if_neg z]; exact ⟨rfl, by omega⟩
    · rw [pk_un (by omega), pk_un (by omega), pk_us]; rfl
    · rw [pk_un (by omega), pk_us]; rfl
    · rw [pk_un (by omega), pk_un (by omega), pk_un (by omega), r2 _ (by omega)]; rfl
    · rw [pk_us]; rfl
    · rw [pk_un (by omega), pk_un (by omega), pk_un (by omega), r2 _ (by omega)]; rfl
    · rw [pk_un (by omega), pk_un (by omega), pk_un (by omega), r2 _ (by omega)]; rfl
section LAWLOOP
variable {N L : Nat} {xs : Nat → Int32}
theorem law_loop (hN : 5000 < N) (hL : L ≤ 2560) : ∀ (m i : Nat), L ≤ i + m → i ≤ 3000 → ∀ fu, m < fu → RecOk (g_L_law_L18 N L xs fu) (nI i) := by
  intro m
  induction m with
  | zero =>
    intro i hi hi2 fu hfu
    obtain ⟨fv, rfl⟩ : ∃ fv, fu = fv + 1 := ⟨fu - 1, by omega⟩
    intro f_x_text_bytes f_x_text_size f_x_reader_hills_book_words_E_sort f_x_reader_hills_book_words_E_size f_x_reader_hills_book_size f_x_reader_hills_places f_x_reader_hills_sorts f_x_reader_hills_hour f_x_reader_hills_law f_x_reader_hills_minutesTold f_x_reader_hills_minutes f_x_reader_draft_sort f_x_reader_draft_size f_x_reader_number f_x_reader_at f_x_laid_book_words_E_sort f_x_laid_book_words_E_size f_x_laid_book_size f_x_laid_places f_x_laid_sorts f_x_laid_hour f_x_laid_law f_x_laid_minutes f_x_beats_place f_x_beats_sort f_x_beats_minute f_x_beats_size f_x_beats_now f_x_steps_step f_x_steps_size f_x_kept_E_place f_x_kept_E_sort f_x_kept_E_minute f_x_kept_E_size f_x_kept_E_now f_x_told_sort f_x_told_size f_x_secrets_rows_E_sort f_x_secrets_rows_E_size f_x_secrets_queues_E_sort f_x_secrets_queues_E_drummed f_x_secrets_queues_E_heard f_x_secrets_queues_E_size f_x_secrets_trial_sort f_x_secrets_trial_mark f_x_secrets_trial_size f_x_secrets_trial_heard f_x_secrets_trial_next f_x_secrets_size f_x_secrets_found f_x_secrets_first f_x_secrets_place f_x_trials_queue_sort f_x_trials_queue_drummed f_x_trials_queue_heard f_x_trials_queue_size f_x_trials_rows_E_sort f_x_trials_rows_E_mark f_x_trials_rows_E_size f_x_trials_rows_E_heard f_x_trials_rows_E_next f_x_queue_sort f_x_queue_drummed f_x_queue_heard f_x_queue_size f_x_row_sort f_x_row_mark f_x_row_size f_x_row_heard f_x_row_next f_x_later_sort f_x_later_mark f_x_later_size f_x_later_heard f_x_later_next f_x_keptSize f_m_text f_m_length f_m_book f_m_draft f_m_s f_m_kept f_m_keptMany f_m_acts f_m_actMany f_m_row f_m_rowMany f_m_tells f_m_tellMany f_m_at f_m_told f_m_place f_m_sort f_m_minute f_m_when f_m_isHeard f_m_goneBy f_m_stand f_m_many f_m_standing hI
    unfold g_L_law_L18
    rw [if_pos (lw_end (by omega) (by omega) (by omega))]
  | succ m ih =>
    intro i hi hi2 fu hfu
    obtain ⟨fv, rfl⟩ : ∃ fv, fu = fv + 1 := ⟨fu - 1, by omega⟩
    intro f_x_text_bytes f_x_text_size f_x_reader_hills_book_words_E_sort f_x_reader_hills_book_words_E_size f_x_reader_hills_book_size f_x_reader_hills_places f_x_reader_hills_sorts f_x_reader_hills_hour f_x_reader_hills_law f_x_reader_hills_minutesTold f_x_reader_hills_minutes f_x_reader_draft_sort f_x_reader_draft_size f_x_reader_number f_x_reader_at f_x_laid_book_words_E_sort f_x_laid_book_words_E_size f_x_laid_book_size f_x_laid_places f_x_laid_sorts f_x_laid_hour f_x_laid_law f_x_laid_minutes f_x_beats_place f_x_beats_sort f_x_beats_minute f_x_beats_size f_x_beats_now f_x_steps_step f_x_steps_size f_x_kept_E_place f_x_kept_E_sort f_x_kept_E_minute f_x_kept_E_size f_x_kept_E_now f_x_told_sort f_x_told_size f_x_secrets_rows_E_sort f_x_secrets_rows_E_size f_x_secrets_queues_E_sort f_x_secrets_queues_E_drummed f_x_secrets_queues_E_heard f_x_secrets_queues_E_size f_x_secrets_trial_sort f_x_secrets_trial_mark f_x_secrets_trial_size f_x_secrets_trial_heard f_x_secrets_trial_next f_x_secrets_size f_x_secrets_found f_x_secrets_first f_x_secrets_place f_x_trials_queue_sort f_x_trials_queue_drummed f_x_trials_queue_heard f_x_trials_queue_size f_x_trials_rows_E_sort f_x_trials_rows_E_mark f_x_trials_rows_E_size f_x_trials_rows_E_heard f_x_trials_rows_E_next f_x_queue_sort f_x_queue_drummed f_x_queue_heard f_x_queue_size f_x_row_sort f_x_row_mark f_x_row_size f_x_row_heard f_x_row_next f_x_later_sort f_x_later_mark f_x_later_size f_x_later_heard f_x_later_next f_x_keptSize f_m_text f_m_length f_m_book f_m_draft f_m_s f_m_kept f_m_keptMany f_m_acts f_m_actMany f_m_row f_m_rowMany f_m_tells f_m_tellMany f_m_at f_m_told f_m_place f_m_sort f_m_minute f_m_when f_m_isHeard f_m_goneBy f_m_stand f_m_many f_m_standing hI
    by_cases c : i + 5 ≤ L
    · have hrec : RecOk (g_L_law_L18 N L xs fv) (nI i + 5) := by
        rw [l5, nI_add]
        exact ih (i + 5) (by omega) (by omega) fv (by omega)
      have g1 : ∀ {α : Type} (z : Option α), gi (nI i + 1) L z = z := fun z => by rw [l1, nI_add, gi_nI (by omega) (by omega)]
      have g2 : ∀ {α : Type} (z : Option α), gi (nI i + 2) L z = z := fun z => by rw [l2, nI_add, gi_nI (by omega) (by omega)]
      have g3 : ∀ {α : Type} (z : Option α), gi (nI i + 3) L z = z := fun z => by rw [l3, nI_add, gi_nI (by omega) (by omega)]
      have g4 : ∀ {α : Type} (z : Option α), gi (nI i + 4) L z = z := fun z => by rw [l4, nI_add, gi_nI (by omega) (by omega)]
      unfold g_L_law_L18
      rw [if_neg (lw_more c (by omega)), gi_nI (by omega) (by omega)]
      by_cases c0 : xs (nI i).toNatClampNeg &&& 31 = 0
      · rw [if_pos c0]
        exact lb_write hN g1 g2 g3 hI hrec
      rw [if_neg c0]
      by_cases c1 : xs (nI i).toNatClampNeg &&& 31 = 1
      · rw [if_pos c1]
        exact lb_wipe hN  hI hrec
      rw [if_neg c1]
      by_cases c2 : xs (nI i).toNatClampNeg &&& 31 = 2
      · rw [if_pos c2]
        exact lb_fault hN  hI hrec
      rw [if_neg c2]
      by_cases c3 : xs (nI i).toNatClampNeg &&& 31 = 3
      · rw [if_pos c3]
        exact lb_lay hN  hI hrec
      rw [if_neg c3]
      by_cases c4 : xs (nI i).toNatClampNeg &&& 31 = 4
      · rw [if_pos c4]
        exact lb_delay hN g1 g2 hI hrec
      rw [if_neg c4]
      by_cases c5 : xs (nI i).toNatClampNeg &&& 31 = 5
      · rw [if_pos c5]
        exact lb_word hN g1 g2 hI hrec
      rw [if_neg c5]
      by_cases c6 : xs (nI i).toNatClampNeg &&& 31 = 6
      · rw [if_pos c6]
        exact lb_drum hN g1 g2 hI hrec
      rw [if_neg c6]
      by_cases c7 : xs (nI i).toNatClampNeg &&& 31 = 7
      · rw [if_pos c7]
        exact lb_pass hN g1 hI hrec
      rw [if_neg c7]
      by_cases c8 : xs (nI i).toNatClampNeg &&& 31 = 8
      · rw [if_pos c8]
        exact lb_undo hN  hI hrec
      rw [if_neg c8]
      by_cases c9 : xs (nI i).toNatClampNeg &&& 31 = 9
      · rw [if_pos c9]
        exact lb_beat hN g1 g2 hI hrec
      rw [if_neg c9]
      by_cases c10 : xs (nI i).toNatClampNeg &&& 31 = 10
      · rw [if_pos c10]
        exact lb_stands hN g1 g2 g3 hI hrec
      rw [if_neg c10]
      by_cases c11 : xs (nI i).toNatClampNeg &&& 31 = 11
      · rw [if_pos c11]
        exact lb_said hN g1 g2 hI hrec
      rw [if_neg c11]
      by_cases c12 : xs (nI i).toNatClampNeg &&& 31 = 12
      · rw [if_pos c12]
        exact lb_meaning hN g1 g2 g3 hI hrec
      rw [if_neg c12]
      by_cases c13 : xs (nI i).toNatClampNeg &&& 31 = 13
      · rw [if_pos c13]
        exact lb_unsay hN g1 g2 g3 hI hrec
      rw [if_neg c13]
      by_cases c14 : xs (nI i).toNatClampNeg &&& 31 = 14
      · rw [if_pos c14]
        exact lb_open hN g1 hI hrec
      rw [if_neg c14]
      by_cases c15 : xs (nI i).toNatClampNeg &&& 31 = 15
      · rw [if_pos c15]
        exact lb_add hN g1 hI hrec
      rw [if_neg c15]
      by_cases c16 : xs (nI i).toNatClampNeg &&& 31 = 16
      · rw [if_pos c16]
        exact lb_noRow hN  hI hrec
      rw [if_neg c16]
      by_cases c17 : xs (nI i).toNatClampNeg &&& 31 = 17
      · rw [if_pos c17]
        exact lb_takes hN g1 hI hrec
      rw [if_neg c17]
      by_cases c18 : xs (nI i).toNatClampNeg &&& 31 = 18
      · rw [if_pos c18]
        exact lb_mends hN g1 hI hrec
      rw [if_neg c18]
      by_cases c19 : xs (nI i).toNatClampNeg &&& 31 = 19
      · rw [if_pos c19]
        exact lb_spoiled hN g1 hI hrec
      rw [if_neg c19]
      by_cases c20 : xs (nI i).toNatClampNeg &&& 31 = 20
      · rw [if_pos c20]
        exact lb_tell hN g1 hI hrec
      rw [if_neg c20]
      by_cases c21 : xs (nI i).toNatClampNeg &&& 31 = 21
      · rw [if_pos c21]
        exact lb_forget hN  hI hrec
      rw [if_neg c21]
      by_cases c22 : xs (nI i).toNatClampNeg &&& 31 = 22
      · rw [if_pos c22]
        exact lb_secret hN g1 hI hrec
      rw [if_neg c22]
      by_cases c23 : xs (nI i).toNatClampNeg &&& 31 = 23
      · rw [if_pos c23]
        exact lb_chance hN g1 g2 g3 g4 hI hrec
      rw [if_neg c23]
      by_cases c24 : xs (nI i).toNatClampNeg &&& 31 = 24
      · rw [if_pos c24]
        exact lb_day hN g1 g2 g3 hI hrec
      rw [if_neg c24]
      by_cases c25 : xs (nI i).toNatClampNeg &&& 31 = 25
      · rw [if_pos c25]
        exact lb_keep hN  hI hrec
      rw [if_neg c25]
      by_cases c26 : xs (nI i).toNatClampNeg &&& 31 = 26
      · rw [if_pos c26]
        exact lb_back hN  hI hrec
      rw [if_neg c26]
      by_cases c27 : xs (nI i).toNatClampNeg &&& 31 = 27
      · rw [if_pos c27]
        exact lb_count hN g1 hI hrec
      rw [if_neg c27]
      unfold g_L_law_b924
      exact hrec _ _ _ _ _ _ _ _ _ _ _ _ _ _ _ _ _ _ _ _ _ _ _ _ _ _ _ _ _ _ _ _ _ _ _ _ _ _ _ _ _ _ _ _ _ _ _ _ _ _ _ _ _ _ _ _ _ _ _ _ _ _ _ _ _ _ _ _ _ _ _ _ _ _ _ _ _ _ _ _ _ _ _ _ _ _ _ _ _ _ _ _ _ _ _ _ _ _ _ _ hI
    · unfold g_L_law_L18
      rw [if_pos (lw_end (by omega) (by omega) (by omega))]
end LAWLOOP
theorem pure_main {L : Nat} {xs : Nat → Int32} (hL : L ≤ 2560) : PureMain L xs := by
  obtain ⟨mi', c1, c2⟩ := pX2_clear (N := 6000) (by omega) 0 0 0 0 0 0 (fun _ => 0)
  obtain ⟨dr, r1, r2⟩ := reads_new (N := 6000) (by omega) (fun _ => 0) (fun _ => 0) (fun _ => 0) 0
  obtain ⟨book', b1, b2⟩ := pX12_lays (N := 6000) (by omega) dr (fun _ => 0) (fun _ => 0) 0 0 0 0
  refine ⟨6000, _, _, _, c1, r1, b1, ?_⟩
  have hS := (r2 mi' (fun _ _ => 0) (fun _ => 0) c2).book c2 (fun w l hw => by simp at hw) b2 (wso' := fun _ _ => 0) (wsz' := fun _ => 0)
  have hG := law_loop (N := 6000) (L := L) (xs := xs) (by omega) hL L 0 (by omega) (by omega) 6000 (by omega)
  refine hG _ _ _ _ _ _ _ _ _ _ _ _ _ _ _ _ _ _ _ _ _ _ _ _ _ _ _ _ _ _ _ _ _ _ _ _ _ _ _ _ _ _ _ _ _ _ _ _ _ _ _ _ _ _ _ _ _ _ _ _ _ _ _ _ _ _ _ _ _ _ _ _ _ _ _ _ _ _ _ _ _ _ _ _ _ _ _ _ _ _ _ _ _ _ _ _ _ _ _ _ ?_
  exact ⟨⟨[], ⟨by simp, rfl, rfl, fun x hx => by simp at hx, fun j x hj => by simp at hj⟩⟩, ⟨[], RTold.zero _ _⟩, 2, ⟨8, 20, 0, d3, [], rfl, rfl, rfl, rfl, hS.hok, hS.wr⟩, RBt.zero _ _ _ _ _ _ _, ⟨[], KR.zero _ _ _ _ _ _ _⟩, [], ScR.zero _ _ _ _ _⟩
