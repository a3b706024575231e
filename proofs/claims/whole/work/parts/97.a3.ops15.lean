theorem A_tables {fu : Nat} {c_told_counts c_told_towns0_hated c_told_towns1_hated c_seats_row c_told_towns0_wit c_told_towns0_purse c_told_towns0_owed c_told_towns1_wit c_told_towns1_purse c_told_towns1_owed m_many m_towns m_purse m_beside m_debts m_sitting m_visited m_row : (Nat → Int32)} {c_told_towns0_people c_told_towns1_people m_code m_town m_people m_when m_sat m_quiet m_vain m_lent m_forgiven m_sundays : Int32} (I : TI c_told_counts c_told_towns0_people c_told_towns0_wit c_told_towns0_purse c_told_towns0_hated c_told_towns0_owed c_told_towns1_people c_told_towns1_wit c_told_towns1_purse c_told_towns1_hated c_told_towns1_owed m_many m_towns) (hf : 200000 ≤ fu) (p1 : Int32) (p2 : Int32) : Agr (f_X11_tables fu c_told_counts c_told_towns0_people c_told_towns0_hated c_told_towns1_people c_told_towns1_hated c_seats_row p1 p2) (fun x => x.1) (f_X12_tables fu m_code m_many m_towns m_town m_people m_when m_sat m_quiet m_vain m_lent m_forgiven m_sundays m_purse m_beside m_debts m_sitting m_visited m_row p1 p2) (fun y => y.1) := by
  rcases selT (fu := fu) I p1 with ⟨q1, q2⟩ | ⟨rfl, q1, q2, n, w, pu, h, o, V, TC, TM⟩ | ⟨rfl, q1, q2, n, w, pu, h, o, V, TC, TM⟩
  · refine agr_of (-1) ?_ ?_
    · unfold f_X11_tables
      refine ok_bnd (ok_eq q1 ?_)
      rw [if_neg (by decide), if_neg (by decide)]
      exact ok_some rfl
    · unfold f_X12_tables
      refine ok_bnd (ok_mono (no_hand q2) ?_)
      intro y hy
      rw [if_pos hy]
      exact ok_some rfl
  · obtain ⟨hpe, hwi, hpr, hha, how⟩ := TC
    subst hpe
    have hM : ∀ i, i < 6 → m_towns (55 * 0 + 13 + i) = nI (h i) := TM.2.2.2.1
    have hn6 := V.1
    have h64 : ∀ i, i < 6 → h i < 64 := fun i hi => V.h64 hi
    rcases kprs (fu := fu) p2 V.1 with ⟨e, r2⟩ | ⟨p, hp, e, ne, r1, r2⟩ | ⟨ne, r1, r2⟩
    · rcases Nat.eq_zero_or_pos n with n0 | n0
      · subst n0
        refine agr_of 0 ?_ ?_
        · unfold f_X11_tables
          refine ok_bnd (ok_eq q1 ?_)
          rw [if_pos rfl]
          rw [if_pos e]
          exact ok_bnd (ok_mono (e_tables0 e (by omega)) (fun x hx => ok_some hx))
        · unfold f_X12_tables
          refine ok_bnd (ok_mono (ok_hand TM (by decide) q2 (by omega)) ?_)
          intro y hy
          obtain ⟨y1, y2, y3, -, y5, -, y7, -, -⟩ := id hy
          rw [if_neg (by rw [y1]; decide)]
          rw [y3]
          refine ok_bnd (ok_eq r2 ?_)
          rw [if_neg i10]
          have e1 : lp (f_X12_tables_L31 fu m_towns p2 y) fu ((1 : Int32), m_row) = some (.inr m_row) := lp_e (by simp only [f_X12_tables_L31, y3]; rw [if_pos (by decide)]) (by omega)
          refine ok_bnd (ok_eq e1 ?_)
          exact ok_some rfl
      · obtain ⟨m, i, F⟩ := FT_ex (h := h) n0
        have m0 : 0 < m := by
          rcases Nat.eq_zero_or_pos m with z | z
          · have l := F.2.1.1
            rw [z, Nat.zero_pow n0] at l
            exact absurd l (Nat.not_lt_zero _)
          · exact z
        refine agr_of (nI m) ?_ ?_
        · unfold f_X11_tables
          refine ok_bnd (ok_eq q1 ?_)
          rw [if_pos rfl]
          rw [if_pos e]
          exact ok_bnd (ok_mono (ok_fewestTables hha h64 V.1 F (by omega)) (fun x hx => ok_some (hx.1 e)))
        · unfold f_X12_tables
          refine ok_bnd (ok_mono (ok_hand TM (by decide) q2 (by omega)) ?_)
          intro y hy
          obtain ⟨y1, y2, y3, -, y5, -, y7, -, -⟩ := id hy
          rw [if_neg (by rw [y1]; decide)]
          rw [y3]
          refine ok_bnd (ok_eq r2 ?_)
          rw [if_neg i10]
          refine ok_bnd (ok_mono (ok_tablesM hy hM h64 (by decide) V.1 F m0 (Or.inl e) hf) ?_)
          rintro x ⟨z, rfl, z1, z2⟩
          exact ok_some (z1 e)
    · have n0 : 0 < n := by omega
      obtain ⟨m, i, F⟩ := FT_ex (h := h) n0
      have m0 : 0 < m := by
        rcases Nat.eq_zero_or_pos m with z | z
        · have l := F.2.1.1
          rw [z, Nat.zero_pow n0] at l
          exact absurd l (Nat.not_lt_zero _)
        · exact z
      refine agr_of (nI (dg m n i p)) ?_ ?_
      · unfold f_X11_tables
        refine ok_bnd (ok_eq q1 ?_)
        rw [if_pos rfl]
        rw [if_neg ne]
        refine ok_bnd (ok_eq r1 ?_)
        rw [if_neg i10]
        exact ok_bnd (ok_mono (ok_fewestTables hha h64 V.1 F (by omega)) (fun x hx => ok_some (hx.2 p hp e)))
      · unfold f_X12_tables
        refine ok_bnd (ok_mono (ok_hand TM (by decide) q2 (by omega)) ?_)
        intro y hy
        obtain ⟨y1, y2, y3, -, y5, -, y7, -, -⟩ := id hy
        rw [if_neg (by rw [y1]; decide)]
        rw [y3]
        refine ok_bnd (ok_eq r2 ?_)
        rw [if_neg i10]
        refine ok_bnd (ok_mono (ok_tablesM hy hM h64 (by decide) V.1 F m0 (Or.inr ⟨p, hp, e⟩) hf) ?_)
        rintro x ⟨z, rfl, z1, z2⟩
        exact ok_some (z2 p hp e)
    · refine agr_of (-1) ?_ ?_
      · unfold f_X11_tables
        refine ok_bnd (ok_eq q1 ?_)
        rw [if_pos rfl]
        rw [if_neg ne]
        refine ok_bnd (ok_eq r1 ?_)
        rw [if_pos i00]
        exact ok_some rfl
      · unfold f_X12_tables
        refine ok_bnd (ok_mono (ok_hand TM (by decide) q2 (by omega)) ?_)
        intro y hy
        obtain ⟨y1, y2, y3, -, y5, -, y7, -, -⟩ := id hy
        rw [if_neg (by rw [y1]; decide)]
        rw [y3]
        refine ok_bnd (ok_eq r2 ?_)
        rw [if_pos i00]
        exact ok_some rfl
  · obtain ⟨hpe, hwi, hpr, hha, how⟩ := TC
    subst hpe
    have hM : ∀ i, i < 6 → m_towns (55 * 1 + 13 + i) = nI (h i) := TM.2.2.2.1
    have hn6 := V.1
    have h64 : ∀ i, i < 6 → h i < 64 := fun i hi => V.h64 hi
    rcases kprs (fu := fu) p2 V.1 with ⟨e, r2⟩ | ⟨p, hp, e, ne, r1, r2⟩ | ⟨ne, r1, r2⟩
    · rcases Nat.eq_zero_or_pos n with n0 | n0
      · subst n0
        refine agr_of 0 ?_ ?_
        · unfold f_X11_tables
          refine ok_bnd (ok_eq q1 ?_)
          rw [if_neg (by decide), if_pos rfl]
          rw [if_pos e]
          exact ok_bnd (ok_mono (e_tables0 e (by omega)) (fun x hx => ok_some hx))
        · unfold f_X12_tables
          refine ok_bnd (ok_mono (ok_hand TM (by decide) q2 (by omega)) ?_)
          intro y hy
          obtain ⟨y1, y2, y3, -, y5, -, y7, -, -⟩ := id hy
          rw [if_neg (by rw [y1]; decide)]
          rw [y3]
          refine ok_bnd (ok_eq r2 ?_)
          rw [if_neg i10]
          have e1 : lp (f_X12_tables_L31 fu m_towns p2 y) fu ((1 : Int32), m_row) = some (.inr m_row) := lp_e (by simp only [f_X12_tables_L31, y3]; rw [if_pos (by decide)]) (by omega)
          refine ok_bnd (ok_eq e1 ?_)
          exact ok_some rfl
      · obtain ⟨m, i, F⟩ := FT_ex (h := h) n0
        have m0 : 0 < m := by
          rcases Nat.eq_zero_or_pos m with z | z
          · have l := F.2.1.1
            rw [z, Nat.zero_pow n0] at l
            exact absurd l (Nat.not_lt_zero _)
          · exact z
        refine agr_of (nI m) ?_ ?_
        · unfold f_X11_tables
          refine ok_bnd (ok_eq q1 ?_)
          rw [if_neg (by decide), if_pos rfl]
          rw [if_pos e]
          exact ok_bnd (ok_mono (ok_fewestTables hha h64 V.1 F (by omega)) (fun x hx => ok_some (hx.1 e)))
        · unfold f_X12_tables
          refine ok_bnd (ok_mono (ok_hand TM (by decide) q2 (by omega)) ?_)
          intro y hy
          obtain ⟨y1, y2, y3, -, y5, -, y7, -, -⟩ := id hy
          rw [if_neg (by rw [y1]; decide)]
          rw [y3]
          refine ok_bnd (ok_eq r2 ?_)
          rw [if_neg i10]
          refine ok_bnd (ok_mono (ok_tablesM hy hM h64 (by decide) V.1 F m0 (Or.inl e) hf) ?_)
          rintro x ⟨z, rfl, z1, z2⟩
          exact ok_some (z1 e)
    · have n0 : 0 < n := by omega
      obtain ⟨m, i, F⟩ := FT_ex (h := h) n0
      have m0 : 0 < m := by
        rcases Nat.eq_zero_or_pos m with z | z
        · have l := F.2.1.1
          rw [z, Nat.zero_pow n0] at l
          exact absurd l (Nat.not_lt_zero _)
        · exact z
      refine agr_of (nI (dg m n i p)) ?_ ?_
      · unfold f_X11_tables
        refine ok_bnd (ok_eq q1 ?_)
        rw [if_neg (by decide), if_pos rfl]
        rw [if_neg ne]
        refine ok_bnd (ok_eq r1 ?_)
        rw [if_neg i10]
        exact ok_bnd (ok_mono (ok_fewestTables hha h64 V.1 F (by omega)) (fun x hx => ok_some (hx.2 p hp e)))
      · unfold f_X12_tables
        refine ok_bnd (ok_mono (ok_hand TM (by decide) q2 (by omega)) ?_)
        intro y hy
        obtain ⟨y1, y2, y3, -, y5, -, y7, -, -⟩ := id hy
        rw [if_neg (by rw [y1]; decide)]
        rw [y3]
        refine ok_bnd (ok_eq r2 ?_)
        rw [if_neg i10]
        refine ok_bnd (ok_mono (ok_tablesM hy hM h64 (by decide) V.1 F m0 (Or.inr ⟨p, hp, e⟩) hf) ?_)
        rintro x ⟨z, rfl, z1, z2⟩
        exact ok_some (z2 p hp e)
    · refine agr_of (-1) ?_ ?_
      · unfold f_X11_tables
        refine ok_bnd (ok_eq q1 ?_)
        rw [if_neg (by decide), if_pos rfl]
        rw [if_neg ne]
        refine ok_bnd (ok_eq r1 ?_)
        rw [if_pos i00]
        exact ok_some rfl
      · unfold f_X12_tables
        refine ok_bnd (ok_mono (ok_hand TM (by decide) q2 (by omega)) ?_)
        intro y hy
        obtain ⟨y1, y2, y3, -, y5, -, y7, -, -⟩ := id hy
        rw [if_neg (by rw [y1]; decide)]
        rw [y3]
        refine ok_bnd (ok_eq r2 ?_)
        rw [if_pos i00]
        exact ok_some rfl
