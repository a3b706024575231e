theorem A_hour {fu : Nat} {c_told_counts c_told_towns0_hated c_told_towns0_owed c_told_towns1_hated c_told_towns1_owed c_seats_row c_seats_debtors c_told_towns0_wit c_told_towns0_purse c_told_towns1_wit c_told_towns1_purse m_many m_towns m_purse m_beside m_debts m_sitting m_visited m_row : (Nat → Int32)} {c_told_towns0_people c_told_towns1_people m_code m_town m_people m_when m_sat m_quiet m_vain m_lent m_forgiven m_sundays : Int32} (I : TI c_told_counts c_told_towns0_people c_told_towns0_wit c_told_towns0_purse c_told_towns0_hated c_told_towns0_owed c_told_towns1_people c_told_towns1_wit c_told_towns1_purse c_told_towns1_hated c_told_towns1_owed m_many m_towns) (hf : 200000 ≤ fu) (p1 : Int32) (p2 : Int32) : Agr (f_X11_hour fu c_told_counts c_told_towns0_people c_told_towns0_hated c_told_towns0_owed c_told_towns1_people c_told_towns1_hated c_told_towns1_owed c_seats_row c_seats_debtors p1 p2) (fun x => x.1) (f_X12_hour fu m_code m_many m_towns m_town m_people m_when m_sat m_quiet m_vain m_lent m_forgiven m_sundays m_purse m_beside m_debts m_sitting m_visited m_row p1 p2) (fun y => y.1) := by
  rcases selT (fu := fu) I p1 with ⟨q1, q2⟩ | ⟨rfl, q1, q2, n, w, pu, h, o, V, TC, TM⟩ | ⟨rfl, q1, q2, n, w, pu, h, o, V, TC, TM⟩
  · refine agr_of (-1) ?_ ?_
    · unfold f_X11_hour
      refine ok_bnd (ok_eq q1 ?_)
      rw [if_neg (by decide), if_neg (by decide)]
      exact ok_some rfl
    · unfold f_X12_hour
      refine ok_bnd (ok_mono (no_hand q2) ?_)
      intro y hy
      rw [if_pos hy]
      exact ok_some rfl
  · obtain ⟨hpe, hwi, hpr, hha, how⟩ := TC
    subst hpe
    have h9 : ∀ i, i < 36 → o i ≤ 99 := fun i hi => Nat.le_trans (V.2.2.2.2.1 i hi) (by decide)
    have hM : ∀ i, i < 6 → m_towns (55 * 0 + 13 + i) = nI (h i) := TM.2.2.2.1
    have hn6 := V.1
    have h64 : ∀ i, i < 6 → h i < 64 := fun i hi => V.h64 hi
    obtain ⟨y, ey, hy⟩ := ok_hand (fu := fu) (a1 := m_town) (a2 := m_people) (a3 := m_when) (a4 := m_sat) (a5 := m_quiet) (a6 := m_vain) (a7 := m_lent) (a8 := m_forgiven) (a9 := m_sundays) (b1 := m_purse) (b2 := m_beside) (b3 := m_debts) (b4 := m_sitting) (b5 := m_visited) TM (by decide) q2 (by omega)
    have hy2 := hy
    obtain ⟨y1, y2, y3, -, y5, -, y7, -, -⟩ := hy2
    obtain ⟨v, ev, a, F, f1, f2⟩ := ok_hourM (fu := fu) (row := m_row) hy h9 hM h64 (by decide) V.1 hf
    have pb : 7 ^ n ≤ 7 ^ 6 := Nat.pow_le_pow_right (by decide) hn6
    have pb2 : 7 ^ 6 = 117649 := by decide
    have fa := F.1
    rcases kprs (fu := fu) p2 V.1 with ⟨e, r2⟩ | ⟨p, hp, e, ne, r1, r2⟩ | ⟨ne, r1, r2⟩
    · refine agr_of (nI (cS6 n (dg 7 n a))) ?_ ?_
      · unfold f_X11_hour
        refine ok_bnd (ok_eq q1 ?_)
        rw [if_pos rfl]
        rw [if_pos e]
        exact ok_bnd (ok_mono (ok_fullest hha h64 how h9 V.1 F (by omega)) (fun x hx => ok_some (hx.1 e)))
      · unfold f_X12_hour
        refine ok_bnd (ok_eq ey ?_)
        rw [if_neg (by rw [y1]; exact i10), y3]
        refine ok_bnd (ok_eq r2 ?_)
        rw [if_neg i10]
        refine ok_bnd (ok_eq (e_rowsOf (m := 7) V.1 (by omega)) ?_)
        refine ok_bnd (ok_eq ev ?_)
        rw [f2]
        refine ok_bnd (ok_mono (ok_layRow (m := 7) V.1 (by decide) (by decide) (show a < 2 ^ 31 by omega) (by omega)) ?_)
        intro R hR
        rw [if_pos e]
        exact ok_some f1
    · refine agr_of (nI (dg 7 n a p)) ?_ ?_
      · unfold f_X11_hour
        refine ok_bnd (ok_eq q1 ?_)
        rw [if_pos rfl]
        rw [if_neg ne]
        refine ok_bnd (ok_eq r1 ?_)
        rw [if_neg i10]
        exact ok_bnd (ok_mono (ok_fullest hha h64 how h9 V.1 F (by omega)) (fun x hx => ok_some (hx.2 p hp e)))
      · unfold f_X12_hour
        refine ok_bnd (ok_eq ey ?_)
        rw [if_neg (by rw [y1]; exact i10), y3]
        refine ok_bnd (ok_eq r2 ?_)
        rw [if_neg i10]
        refine ok_bnd (ok_eq (e_rowsOf (m := 7) V.1 (by omega)) ?_)
        refine ok_bnd (ok_eq ev ?_)
        rw [f2]
        refine ok_bnd (ok_mono (ok_layRow (m := 7) V.1 (by decide) (by decide) (show a < 2 ^ 31 by omega) (by omega)) ?_)
        intro R hR
        rw [if_neg ne, e, rdi_n (show p < 6 by omega) (by decide) (hR p hp), bnd_some]
        exact ok_some rfl
    · refine agr_of (-1) ?_ ?_
      · unfold f_X11_hour
        refine ok_bnd (ok_eq q1 ?_)
        rw [if_pos rfl]
        rw [if_neg ne]
        refine ok_bnd (ok_eq r1 ?_)
        rw [if_pos i00]
        exact ok_some rfl
      · unfold f_X12_hour
        refine ok_bnd (ok_eq ey ?_)
        rw [if_neg (by rw [y1]; exact i10), y3]
        refine ok_bnd (ok_eq r2 ?_)
        rw [if_pos i00]
        exact ok_some rfl
  · obtain ⟨hpe, hwi, hpr, hha, how⟩ := TC
    subst hpe
    have h9 : ∀ i, i < 36 → o i ≤ 99 := fun i hi => Nat.le_trans (V.2.2.2.2.1 i hi) (by decide)
    have hM : ∀ i, i < 6 → m_towns (55 * 1 + 13 + i) = nI (h i) := TM.2.2.2.1
    have hn6 := V.1
    have h64 : ∀ i, i < 6 → h i < 64 := fun i hi => V.h64 hi
    obtain ⟨y, ey, hy⟩ := ok_hand (fu := fu) (a1 := m_town) (a2 := m_people) (a3 := m_when) (a4 := m_sat) (a5 := m_quiet) (a6 := m_vain) (a7 := m_lent) (a8 := m_forgiven) (a9 := m_sundays) (b1 := m_purse) (b2 := m_beside) (b3 := m_debts) (b4 := m_sitting) (b5 := m_visited) TM (by decide) q2 (by omega)
    have hy2 := hy
    obtain ⟨y1, y2, y3, -, y5, -, y7, -, -⟩ := hy2
    obtain ⟨v, ev, a, F, f1, f2⟩ := ok_hourM (fu := fu) (row := m_row) hy h9 hM h64 (by decide) V.1 hf
    have pb : 7 ^ n ≤ 7 ^ 6 := Nat.pow_le_pow_right (by decide) hn6
    have pb2 : 7 ^ 6 = 117649 := by decide
    have fa := F.1
    rcases kprs (fu := fu) p2 V.1 with ⟨e, r2⟩ | ⟨p, hp, e, ne, r1, r2⟩ | ⟨ne, r1, r2⟩
    · refine agr_of (nI (cS6 n (dg 7 n a))) ?_ ?_
      · unfold f_X11_hour
        refine ok_bnd (ok_eq q1 ?_)
        rw [if_neg (by decide), if_pos rfl]
        rw [if_pos e]
        exact ok_bnd (ok_mono (ok_fullest hha h64 how h9 V.1 F (by omega)) (fun x hx => ok_some (hx.1 e)))
      · unfold f_X12_hour
        refine ok_bnd (ok_eq ey ?_)
        rw [if_neg (by rw [y1]; exact i10), y3]
        refine ok_bnd (ok_eq r2 ?_)
        rw [if_neg i10]
        refine ok_bnd (ok_eq (e_rowsOf (m := 7) V.1 (by omega)) ?_)
        refine ok_bnd (ok_eq ev ?_)
        rw [f2]
        refine ok_bnd (ok_mono (ok_layRow (m := 7) V.1 (by decide) (by decide) (show a < 2 ^ 31 by omega) (by omega)) ?_)
        intro R hR
        rw [if_pos e]
        exact ok_some f1
    · refine agr_of (nI (dg 7 n a p)) ?_ ?_
      · unfold f_X11_hour
        refine ok_bnd (ok_eq q1 ?_)
        rw [if_neg (by decide), if_pos rfl]
        rw [if_neg ne]
        refine ok_bnd (ok_eq r1 ?_)
        rw [if_neg i10]
        exact ok_bnd (ok_mono (ok_fullest hha h64 how h9 V.1 F (by omega)) (fun x hx => ok_some (hx.2 p hp e)))
      · unfold f_X12_hour
        refine ok_bnd (ok_eq ey ?_)
        rw [if_neg (by rw [y1]; exact i10), y3]
        refine ok_bnd (ok_eq r2 ?_)
        rw [if_neg i10]
        refine ok_bnd (ok_eq (e_rowsOf (m := 7) V.1 (by omega)) ?_)
        refine ok_bnd (ok_eq ev ?_)
        rw [f2]
        refine ok_bnd (ok_mono (ok_layRow (m := 7) V.1 (by decide) (by decide) (show a < 2 ^ 31 by omega) (by omega)) ?_)
        intro R hR
        rw [if_neg ne, e, rdi_n (show p < 6 by omega) (by decide) (hR p hp), bnd_some]
        exact ok_some rfl
    · refine agr_of (-1) ?_ ?_
      · unfold f_X11_hour
        refine ok_bnd (ok_eq q1 ?_)
        rw [if_neg (by decide), if_pos rfl]
        rw [if_neg ne]
        refine ok_bnd (ok_eq r1 ?_)
        rw [if_pos i00]
        exact ok_some rfl
      · unfold f_X12_hour
        refine ok_bnd (ok_eq ey ?_)
        rw [if_neg (by rw [y1]; exact i10), y3]
        refine ok_bnd (ok_eq r2 ?_)
        rw [if_pos i00]
        exact ok_some rfl
