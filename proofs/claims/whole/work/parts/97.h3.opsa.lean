/-! ===== one call of both: fault town deed ===== -/
theorem TS_cn {T : TT} {R : RT} (H : TS 0 T R) : ∀ i, i < 3 → T.2.2.2.2.1 i = R.2.2.2.2.1 i := by
  obtain ⟨-, -, -, ⟨a, a1, a2, a3, -⟩, ⟨b, b1, b2, b3, -⟩, ⟨c, c1, c2, c3, -⟩, -⟩ := H
  intro i hi
  rcases (show i = 0 ∨ i = 1 ∨ i = 2 by omega) with rfl | rfl | rfl
  · exact a2.trans (Eq.symm a3)
  · exact b2.trans (Eq.symm b3)
  · exact c2.trans (Eq.symm c3)
section OPA
variable {l : Launch} {D : va_G} {g : Nat → ClassId} {z : Nat → Nat} {h0 h1 : Nat}
theorem o_fault (p1 : Int32) : OpOk (V := Value.int) l D g z h0 h1 28 31 [.int p1] := by
  refine OpOk.ofRead (fun T R im sv kc wm hT hk hm => ?_)
  obtain ⟨c_told_tape, c_told_length, c_told_fault, c_told_place, c_told_counts, c_told_towns0_people, c_told_towns0_wit, c_told_towns0_purse, c_told_towns0_hated, c_told_towns0_owed, c_told_towns1_people, c_told_towns1_wit, c_told_towns1_purse, c_told_towns1_hated, c_told_towns1_owed, c_told_weeks0_deeds, c_told_weeks0_cells, c_told_weeks1_deeds, c_told_weeks1_cells, c_told_logs0_facts, c_told_logs0_cells, c_told_logs1_facts, c_told_logs1_cells⟩ := T
  obtain ⟨m_tape, m_size, m_fault, m_faultPlace, m_many, m_towns, m_weeks, m_logs⟩ := R
  obtain ⟨q, c_reader_town_people, c_reader_town_wit, c_reader_town_purse, c_reader_town_hated, c_reader_town_owed, c_reader_week_deeds, c_reader_week_cells, c_reader_log_facts, c_reader_log_cells, c_reader_fault, c_reader_place, c_reader_numbers, c_reader_length, c_reader_next, c_reader_start, c_reader_token, c_reader_value, c_reader_toldOf, c_life_people, c_life_hated, c_life_purse, c_life_owed, c_life_seat, c_life_kept, c_life_wasKept, c_life_silent, c_life_clock, c_life_sat, c_life_done, c_life_first, c_life_vain, c_life_lent, c_life_forgiven, c_life_seed, c_purses_sums, c_purses_table, c_purses_onward, c_purses_chances, c_seats_row, c_seats_debtors, c_suspects_size, c_suspects_people, c_suspects_found, rfl⟩ := hk
  obtain ⟨q', m_code, m_reached, m_length, m_begins, m_sort, m_value, m_word, m_wrongAt, m_laterFault, m_laterPlace, m_told, m_read, m_farOne, m_good, m_town, m_people, m_when, m_sat, m_quiet, m_vain, m_lent, m_forgiven, m_sundays, m_purse, m_beside, m_debts, m_sitting, m_visited, m_week, m_heaps, m_taken, m_best, m_more, m_firstOne, m_log, m_fitting, m_found, m_seed, m_row, rfl⟩ := hm
  have E : Agr (f_X11_fault 200000 c_told_fault c_told_place p1) (fun x => x) (f_X12_fault 200000 m_code m_fault m_faultPlace p1) (fun y => y.1) := A_fault hT.2.1 hT.2.2.1 (by decide) p1
  obtain ⟨x, y, e1, e2, e3⟩ := E
  have e3 : x = y.1 := e3
  refine ⟨x, LCl.ofRd (q0 := 0) (c_X11_fault e1) rfl rfl kVL_28 rfl ⟨Nat.le_of_ble_eq_true rfl, Nat.le_of_ble_eq_true rfl⟩ ⟨q, _, _, _, _, _, _, _, _, _, _, _, _, _, _, _, _, _, _, _, _, _, _, _, _, _, _, _, _, _, _, _, _, _, _, _, _, _, _, _, _, _, _, _, rfl⟩, ?_⟩
  rw [e3]
  exact LCl.ofWr (q0 := 0) (c_X12_fault e2) rfl rfl kVL_31 rfl ⟨Nat.le_of_ble_eq_true rfl, Nat.le_of_ble_eq_true rfl⟩ ⟨q', _, _, _, _, _, _, _, _, _, _, _, _, _, _, _, _, _, _, _, _, _, _, _, _, _, _, _, _, _, _, _, _, _, _, _, _, _, _, _, rfl⟩
theorem o_town (p1 p2 : Int32) : OpOk (V := Value.int) l D g z h0 h1 32 35 [.int p1, .int p2] := by
  refine OpOk.ofRead (fun T R im sv kc wm hT hk hm => ?_)
  obtain ⟨c_told_tape, c_told_length, c_told_fault, c_told_place, c_told_counts, c_told_towns0_people, c_told_towns0_wit, c_told_towns0_purse, c_told_towns0_hated, c_told_towns0_owed, c_told_towns1_people, c_told_towns1_wit, c_told_towns1_purse, c_told_towns1_hated, c_told_towns1_owed, c_told_weeks0_deeds, c_told_weeks0_cells, c_told_weeks1_deeds, c_told_weeks1_cells, c_told_logs0_facts, c_told_logs0_cells, c_told_logs1_facts, c_told_logs1_cells⟩ := T
  obtain ⟨m_tape, m_size, m_fault, m_faultPlace, m_many, m_towns, m_weeks, m_logs⟩ := R
  obtain ⟨q, c_reader_town_people, c_reader_town_wit, c_reader_town_purse, c_reader_town_hated, c_reader_town_owed, c_reader_week_deeds, c_reader_week_cells, c_reader_log_facts, c_reader_log_cells, c_reader_fault, c_reader_place, c_reader_numbers, c_reader_length, c_reader_next, c_reader_start, c_reader_token, c_reader_value, c_reader_toldOf, c_life_people, c_life_hated, c_life_purse, c_life_owed, c_life_seat, c_life_kept, c_life_wasKept, c_life_silent, c_life_clock, c_life_sat, c_life_done, c_life_first, c_life_vain, c_life_lent, c_life_forgiven, c_life_seed, c_purses_sums, c_purses_table, c_purses_onward, c_purses_chances, c_seats_row, c_seats_debtors, c_suspects_size, c_suspects_people, c_suspects_found, rfl⟩ := hk
  obtain ⟨q', m_code, m_reached, m_length, m_begins, m_sort, m_value, m_word, m_wrongAt, m_laterFault, m_laterPlace, m_told, m_read, m_farOne, m_good, m_town, m_people, m_when, m_sat, m_quiet, m_vain, m_lent, m_forgiven, m_sundays, m_purse, m_beside, m_debts, m_sitting, m_visited, m_week, m_heaps, m_taken, m_best, m_more, m_firstOne, m_log, m_fitting, m_found, m_seed, m_row, rfl⟩ := hm
  have E : Agr (f_X11_town 200000 c_told_counts c_told_towns0_people c_told_towns0_wit c_told_towns0_purse c_told_towns0_hated c_told_towns0_owed c_told_towns1_people c_told_towns1_wit c_told_towns1_purse c_told_towns1_hated c_told_towns1_owed p1 p2) (fun x => x) (f_X12_town 200000 m_code m_many m_towns m_town m_people m_when m_sat m_quiet m_vain m_lent m_forgiven m_sundays m_purse m_beside m_debts m_sitting m_visited p1 p2) (fun y => y.1) := A_town hT.2.2.2.1 (by decide) p1 p2
  obtain ⟨x, y, e1, e2, e3⟩ := E
  have e3 : x = y.1 := e3
  refine ⟨x, LCl.ofRd (q0 := 0) (c_X11_town e1) rfl rfl kVL_32 rfl ⟨Nat.le_of_ble_eq_true rfl, Nat.le_of_ble_eq_true rfl⟩ ⟨q, _, _, _, _, _, _, _, _, _, _, _, _, _, _, _, _, _, _, _, _, _, _, _, _, _, _, _, _, _, _, _, _, _, _, _, _, _, _, _, _, _, _, _, rfl⟩, ?_⟩
  rw [e3]
  exact LCl.ofWr (q0 := 0) (c_X12_town e2) rfl rfl kVL_35 rfl ⟨Nat.le_of_ble_eq_true rfl, Nat.le_of_ble_eq_true rfl⟩ ⟨q', _, _, _, _, _, _, _, _, _, _, _, _, _, _, _, _, _, _, _, _, _, _, _, _, _, _, _, _, _, _, _, _, _, _, _, _, _, _, _, rfl⟩
theorem o_deed (p1 p2 p3 : Int32) : OpOk (V := Value.int) l D g z h0 h1 36 40 [.int p1, .int p2, .int p3] := by
  refine OpOk.ofRead (fun T R im sv kc wm hT hk hm => ?_)
  obtain ⟨c_told_tape, c_told_length, c_told_fault, c_told_place, c_told_counts, c_told_towns0_people, c_told_towns0_wit, c_told_towns0_purse, c_told_towns0_hated, c_told_towns0_owed, c_told_towns1_people, c_told_towns1_wit, c_told_towns1_purse, c_told_towns1_hated, c_told_towns1_owed, c_told_weeks0_deeds, c_told_weeks0_cells, c_told_weeks1_deeds, c_told_weeks1_cells, c_told_logs0_facts, c_told_logs0_cells, c_told_logs1_facts, c_told_logs1_cells⟩ := T
  obtain ⟨m_tape, m_size, m_fault, m_faultPlace, m_many, m_towns, m_weeks, m_logs⟩ := R
  obtain ⟨q, c_reader_town_people, c_reader_town_wit, c_reader_town_purse, c_reader_town_hated, c_reader_town_owed, c_reader_week_deeds, c_reader_week_cells, c_reader_log_facts, c_reader_log_cells, c_reader_fault, c_reader_place, c_reader_numbers, c_reader_length, c_reader_next, c_reader_start, c_reader_token, c_reader_value, c_reader_toldOf, c_life_people, c_life_hated, c_life_purse, c_life_owed, c_life_seat, c_life_kept, c_life_wasKept, c_life_silent, c_life_clock, c_life_sat, c_life_done, c_life_first, c_life_vain, c_life_lent, c_life_forgiven, c_life_seed, c_purses_sums, c_purses_table, c_purses_onward, c_purses_chances, c_seats_row, c_seats_debtors, c_suspects_size, c_suspects_people, c_suspects_found, rfl⟩ := hk
  obtain ⟨q', m_code, m_reached, m_length, m_begins, m_sort, m_value, m_word, m_wrongAt, m_laterFault, m_laterPlace, m_told, m_read, m_farOne, m_good, m_town, m_people, m_when, m_sat, m_quiet, m_vain, m_lent, m_forgiven, m_sundays, m_purse, m_beside, m_debts, m_sitting, m_visited, m_week, m_heaps, m_taken, m_best, m_more, m_firstOne, m_log, m_fitting, m_found, m_seed, m_row, rfl⟩ := hm
  have E : Agr (f_X11_deed 200000 c_told_counts c_told_weeks0_deeds c_told_weeks0_cells c_told_weeks1_deeds c_told_weeks1_cells p1 p2 p3) (fun x => x) (f_X12_deed 200000 m_code m_many m_weeks m_week p1 p2 p3) (fun y => y.1) := A_deed hT.2.2.2.2.1 (by decide) p1 p2 p3
  obtain ⟨x, y, e1, e2, e3⟩ := E
  have e3 : x = y.1 := e3
  refine ⟨x, LCl.ofRd (q0 := 0) (c_X11_deed e1) rfl rfl kVL_36 rfl ⟨Nat.le_of_ble_eq_true rfl, Nat.le_of_ble_eq_true rfl⟩ ⟨q, _, _, _, _, _, _, _, _, _, _, _, _, _, _, _, _, _, _, _, _, _, _, _, _, _, _, _, _, _, _, _, _, _, _, _, _, _, _, _, _, _, _, _, rfl⟩, ?_⟩
  rw [e3]
  exact LCl.ofWr (q0 := 0) (c_X12_deed e2) rfl rfl kVL_40 rfl ⟨Nat.le_of_ble_eq_true rfl, Nat.le_of_ble_eq_true rfl⟩ ⟨q', _, _, _, _, _, _, _, _, _, _, _, _, _, _, _, _, _, _, _, _, _, _, _, _, _, _, _, _, _, _, _, _, _, _, _, _, _, _, _, rfl⟩
end OPA
