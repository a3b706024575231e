theorem A_till {fu : Nat} {c_told_counts c_told_towns0_purse c_told_towns0_hated c_told_towns0_owed c_told_towns1_purse c_told_towns1_hated c_told_towns1_owed c_told_weeks0_cells c_told_weeks1_cells c_life_hated c_life_purse c_life_owed c_life_seat c_life_kept c_life_wasKept c_told_towns0_wit c_told_towns1_wit m_many m_towns m_weeks m_purse m_beside m_debts m_sitting m_visited : (Nat → Int32)} {c_told_towns0_people c_told_towns1_people c_told_weeks0_deeds c_told_weeks1_deeds c_life_people c_life_silent c_life_clock c_life_sat c_life_done c_life_first c_life_vain c_life_lent c_life_forgiven m_code m_town m_people m_when m_sat m_quiet m_vain m_lent m_forgiven m_sundays m_week : Int32} (I : TI c_told_counts c_told_towns0_people c_told_towns0_wit c_told_towns0_purse c_told_towns0_hated c_told_towns0_owed c_told_towns1_people c_told_towns1_wit c_told_towns1_purse c_told_towns1_hated c_told_towns1_owed m_many m_towns) (J : WI c_told_counts c_told_weeks0_deeds c_told_weeks0_cells c_told_weeks1_deeds c_told_weeks1_cells m_many m_weeks) (hf : 1000 ≤ fu) (p1 : Int32) (p2 : Int32) : Agr (f_X11_till fu c_told_counts c_told_towns0_people c_told_towns0_purse c_told_towns0_hated c_told_towns0_owed c_told_towns1_people c_told_towns1_purse c_told_towns1_hated c_told_towns1_owed c_told_weeks0_deeds c_told_weeks0_cells c_told_weeks1_deeds c_told_weeks1_cells c_life_people c_life_hated c_life_purse c_life_owed c_life_seat c_life_kept c_life_wasKept c_life_silent c_life_clock c_life_sat c_life_done c_life_first c_life_vain c_life_lent c_life_forgiven p1 p2) (fun x => x.1) (f_X12_till fu m_code m_many m_towns m_weeks m_town m_people m_when m_sat m_quiet m_vain m_lent m_forgiven m_sundays m_purse m_beside m_debts m_sitting m_visited m_week p1 p2) (fun y => y.1) := by
  rcases selT (fu := fu) I p1 with ⟨q1, q2⟩ | ⟨rfl, q1, q2, n, w, pu, h, o, V, TC, TM⟩ | ⟨rfl, q1, q2, n, w, pu, h, o, V, TC, TM⟩
  · rcases selW (fu := fu) J p2 with ⟨r1, r2⟩ | ⟨rfl, r1, r2, d, K⟩ | ⟨rfl, r1, r2, d, K⟩
    · refine agr_of (-1) ?_ ?_
      · unfold f_X11_till
        refine ok_bnd (ok_eq q1 ?_)
        rw [if_neg (by decide), if_neg (by decide)]
        refine ok_bnd (ok_eq r1 ?_)
        exact ok_ite (fun _ => ok_some rfl) (fun _ => ok_ite (fun _ => ok_some rfl) (fun _ => ok_some rfl))
      · unfold f_X12_till
        refine ok_bnd (ok_mono (no_lay1 r2) ?_)
        intro z hz
        rw [if_pos hz]
        exact ok_some rfl
    · refine agr_of (-1) ?_ ?_
      · unfold f_X11_till
        refine ok_bnd (ok_eq q1 ?_)
        rw [if_neg (by decide), if_neg (by decide)]
        refine ok_bnd (ok_eq r1 ?_)
        exact ok_ite (fun _ => ok_some rfl) (fun _ => ok_ite (fun _ => ok_some rfl) (fun _ => ok_some rfl))
      · unfold f_X12_till
        refine ok_bnd (ok_mono (no_lay2 r2 q2) ?_)
        intro z hz
        rw [if_pos hz]
        exact ok_some rfl
    · refine agr_of (-1) ?_ ?_
      · unfold f_X11_till
        refine ok_bnd (ok_eq q1 ?_)
        rw [if_neg (by decide), if_neg (by decide)]
        refine ok_bnd (ok_eq r1 ?_)
        exact ok_ite (fun _ => ok_some rfl) (fun _ => ok_ite (fun _ => ok_some rfl) (fun _ => ok_some rfl))
      · unfold f_X12_till
        refine ok_bnd (ok_mono (no_lay2 r2 q2) ?_)
        intro z hz
        rw [if_pos hz]
        exact ok_some rfl
  · obtain ⟨hpe, hwi, hpr, hha, how⟩ := TC
    subst hpe
    have hM : ∀ i, i < 6 → m_towns (55 * 0 + 13 + i) = nI (h i) := TM.2.2.2.1
    have hn6 := V.1
    rcases selW (fu := fu) J p2 with ⟨r1, r2⟩ | ⟨rfl, r1, r2, d, K⟩ | ⟨rfl, r1, r2, d, K⟩
    · refine agr_of (-1) ?_ ?_
      · unfold f_X11_till
        refine ok_bnd (ok_eq q1 ?_)
        rw [if_pos rfl]
        refine ok_bnd (ok_eq r1 ?_)
        rw [if_neg (by decide), if_neg (by decide)]
        exact ok_some rfl
      · unfold f_X12_till
        refine ok_bnd (ok_mono (no_lay1 r2) ?_)
        intro z hz
        rw [if_pos hz]
        exact ok_some rfl
    · obtain ⟨k1, rfl, k3, k4, k5⟩ := K
      have K : WkR d (nI d) c_told_weeks0_cells m_weeks (161 * 0) := ⟨k1, rfl, k3, k4, k5⟩
      have ed : f_X12_deeds fu m_weeks (nI 0) = some (nI d) := by
        simp only [f_X12_deeds, show (161 : Int32) = nI 161 from rfl, pk_mul]
        rw [rdi_n (by decide) (by decide) k3]
        rfl
      obtain ⟨z, ez, y, hy, rfl⟩ := ok_lay (fu := fu) (a1 := m_town) (a2 := m_people) (a3 := m_when) (a4 := m_sat) (a5 := m_quiet) (a6 := m_vain) (a7 := m_lent) (a8 := m_forgiven) (a9 := m_sundays) (b1 := m_purse) (b2 := m_beside) (b3 := m_debts) (b4 := m_sitting) (b5 := m_visited) (a10 := m_week) TM (by decide) q2 r2 (by omega)
      obtain ⟨c, x, x2, h2, c1, c2, c3, c4⟩ := live_eq (fu := fu) (o1 := c_life_people) (f2 := c_life_hated) (f3 := c_life_purse) (f4 := c_life_owed) (f5 := c_life_seat) (f6 := c_life_kept) (f7 := c_life_wasKept) (p8 := c_life_silent) (p9 := c_life_clock) (p10 := c_life_sat) (p11 := c_life_done) (p12 := c_life_first) (p13 := c_life_vain) (p14 := c_life_lent) (p15 := c_life_forgiven) V hwi hpr hha how hM (by decide) hy (by decide) K (Nat.le_refl d) (by omega)
      refine agr_of (nI c) ?_ ?_
      · unfold f_X11_till
        refine ok_bnd (ok_eq q1 ?_)
        rw [if_pos rfl]
        refine ok_bnd (ok_eq r1 ?_)
        rw [if_pos rfl]
        exact ok_bnd (ok_eq c2 (ok_some rfl))
      · unfold f_X12_till
        refine ok_bnd (ok_eq ez ?_)
        refine ok_ite (fun q => absurd q i10) (fun _ => ?_)
        refine ok_bnd (ok_eq ed ?_)
        exact ok_bnd (ok_eq (show _ = some (nI c, x2) by rw [← c3]; simp only [hy.2.1, hy.2.2.1]) (ok_some rfl))
    · obtain ⟨k1, rfl, k3, k4, k5⟩ := K
      have K : WkR d (nI d) c_told_weeks1_cells m_weeks (161 * 1) := ⟨k1, rfl, k3, k4, k5⟩
      have ed : f_X12_deeds fu m_weeks (nI 1) = some (nI d) := by
        simp only [f_X12_deeds, show (161 : Int32) = nI 161 from rfl, pk_mul]
        rw [rdi_n (by decide) (by decide) k3]
        rfl
      obtain ⟨z, ez, y, hy, rfl⟩ := ok_lay (fu := fu) (a1 := m_town) (a2 := m_people) (a3 := m_when) (a4 := m_sat) (a5 := m_quiet) (a6 := m_vain) (a7 := m_lent) (a8 := m_forgiven) (a9 := m_sundays) (b1 := m_purse) (b2 := m_beside) (b3 := m_debts) (b4 := m_sitting) (b5 := m_visited) (a10 := m_week) TM (by decide) q2 r2 (by omega)
      obtain ⟨c, x, x2, h2, c1, c2, c3, c4⟩ := live_eq (fu := fu) (o1 := c_life_people) (f2 := c_life_hated) (f3 := c_life_purse) (f4 := c_life_owed) (f5 := c_life_seat) (f6 := c_life_kept) (f7 := c_life_wasKept) (p8 := c_life_silent) (p9 := c_life_clock) (p10 := c_life_sat) (p11 := c_life_done) (p12 := c_life_first) (p13 := c_life_vain) (p14 := c_life_lent) (p15 := c_life_forgiven) V hwi hpr hha how hM (by decide) hy (by decide) K (Nat.le_refl d) (by omega)
      refine agr_of (nI c) ?_ ?_
      · unfold f_X11_till
        refine ok_bnd (ok_eq q1 ?_)
        rw [if_pos rfl]
        refine ok_bnd (ok_eq r1 ?_)
        rw [if_neg (by decide), if_pos rfl]
        exact ok_bnd (ok_eq c2 (ok_some rfl))
      · unfold f_X12_till
        refine ok_bnd (ok_eq ez ?_)
        refine ok_ite (fun q => absurd q i10) (fun _ => ?_)
        refine ok_bnd (ok_eq ed ?_)
        exact ok_bnd (ok_eq (show _ = some (nI c, x2) by rw [← c3]; simp only [hy.2.1, hy.2.2.1]) (ok_some rfl))
  · obtain ⟨hpe, hwi, hpr, hha, how⟩ := TC
    subst hpe
    have hM : ∀ i, i < 6 → m_towns (55 * 1 + 13 + i) = nI (h i) := TM.2.2.2.1
    have hn6 := V.1
    rcases selW (fu := fu) J p2 with ⟨r1, r2⟩ | ⟨rfl, r1, r2, d, K⟩ | ⟨rfl, r1, r2, d, K⟩
    · refine agr_of (-1) ?_ ?_
      · unfold f_X11_till
        refine ok_bnd (ok_eq q1 ?_)
        rw [if_neg (by decide), if_pos rfl]
        refine ok_bnd (ok_eq r1 ?_)
        rw [if_neg (by decide), if_neg (by decide)]
        exact ok_some rfl
      · unfold f_X12_till
        refine ok_bnd (ok_mono (no_lay1 r2) ?_)
        intro z hz
        rw [if_pos hz]
        exact ok_some rfl
    · obtain ⟨k1, rfl, k3, k4, k5⟩ := K
      have K : WkR d (nI d) c_told_weeks0_cells m_weeks (161 * 0) := ⟨k1, rfl, k3, k4, k5⟩
      have ed : f_X12_deeds fu m_weeks (nI 0) = some (nI d) := by
        simp only [f_X12_deeds, show (161 : Int32) = nI 161 from rfl, pk_mul]
        rw [rdi_n (by decide) (by decide) k3]
        rfl
      obtain ⟨z, ez, y, hy, rfl⟩ := ok_lay (fu := fu) (a1 := m_town) (a2 := m_people) (a3 := m_when) (a4 := m_sat) (a5 := m_quiet) (a6 := m_vain) (a7 := m_lent) (a8 := m_forgiven) (a9 := m_sundays) (b1 := m_purse) (b2 := m_beside) (b3 := m_debts) (b4 := m_sitting) (b5 := m_visited) (a10 := m_week) TM (by decide) q2 r2 (by omega)
      obtain ⟨c, x, x2, h2, c1, c2, c3, c4⟩ := live_eq (fu := fu) (o1 := c_life_people) (f2 := c_life_hated) (f3 := c_life_purse) (f4 := c_life_owed) (f5 := c_life_seat) (f6 := c_life_kept) (f7 := c_life_wasKept) (p8 := c_life_silent) (p9 := c_life_clock) (p10 := c_life_sat) (p11 := c_life_done) (p12 := c_life_first) (p13 := c_life_vain) (p14 := c_life_lent) (p15 := c_life_forgiven) V hwi hpr hha how hM (by decide) hy (by decide) K (Nat.le_refl d) (by omega)
      refine agr_of (nI c) ?_ ?_
      · unfold f_X11_till
        refine ok_bnd (ok_eq q1 ?_)
        rw [if_neg (by decide), if_pos rfl]
        refine ok_bnd (ok_eq r1 ?_)
        rw [if_pos rfl]
        exact ok_bnd (ok_eq c2 (ok_some rfl))
      · unfold f_X12_till
        refine ok_bnd (ok_eq ez ?_)
        refine ok_ite (fun q => absurd q i10) (fun _ => ?_)
        refine ok_bnd (ok_eq ed ?_)
        exact ok_bnd (ok_eq (show _ = some (nI c, x2) by rw [← c3]; simp only [hy.2.1, hy.2.2.1]) (ok_some rfl))
    · obtain ⟨k1, rfl, k3, k4, k5⟩ := K
      have K : WkR d (nI d) c_told_weeks1_cells m_weeks (161 * 1) := ⟨k1, rfl, k3, k4, k5⟩
      have ed : f_X12_deeds fu m_weeks (nI 1) = some (nI d) := by
        simp only [f_X12_deeds, show (161 : Int32) = nI 161 from rfl, pk_mul]
        rw [rdi_n (by decide) (by decide) k3]
        rfl
      obtain ⟨z, ez, y, hy, rfl⟩ := ok_lay (fu := fu) (a1 := m_town) (a2 := m_people) (a3 := m_when) (a4 := m_sat) (a5 := m_quiet) (a6 := m_vain) (a7 := m_lent) (a8 := m_forgiven) (a9 := m_sundays) (b1 := m_purse) (b2 := m_beside) (b3 := m_debts) (b4 := m_sitting) (b5 := m_visited) (a10 := m_week) TM (by decide) q2 r2 (by omega)
      obtain ⟨c, x, x2, h2, c1, c2, c3, c4⟩ := live_eq (fu := fu) (o1 := c_life_people) (f2 := c_life_hated) (f3 := c_life_purse) (f4 := c_life_owed) (f5 := c_life_seat) (f6 := c_life_kept) (f7 := c_life_wasKept) (p8 := c_life_silent) (p9 := c_life_clock) (p10 := c_life_sat) (p11 := c_life_done) (p12 := c_life_first) (p13 := c_life_vain) (p14 := c_life_lent) (p15 := c_life_forgiven) V hwi hpr hha how hM (by decide) hy (by decide) K (Nat.le_refl d) (by omega)
      refine agr_of (nI c) ?_ ?_
      · unfold f_X11_till
        refine ok_bnd (ok_eq q1 ?_)
        rw [if_neg (by decide), if_pos rfl]
        refine ok_bnd (ok_eq r1 ?_)
        rw [if_neg (by decide), if_pos rfl]
        exact ok_bnd (ok_eq c2 (ok_some rfl))
      · unfold f_X12_till
        refine ok_bnd (ok_eq ez ?_)
        refine ok_ite (fun q => absurd q i10) (fun _ => ?_)
        refine ok_bnd (ok_eq ed ?_)
        exact ok_bnd (ok_eq (show _ = some (nI c, x2) by rw [← c3]; simp only [hy.2.1, hy.2.2.1]) (ok_some rfl))
theorem A_state {fu : Nat} {c_told_counts c_told_towns0_purse c_told_towns0_hated c_told_towns0_owed c_told_towns1_purse c_told_towns1_hated c_told_towns1_owed c_told_weeks0_cells c_told_weeks1_cells c_life_hated c_life_purse c_life_owed c_life_seat c_life_kept c_life_wasKept c_told_towns0_wit c_told_towns1_wit m_many m_towns m_weeks m_purse m_beside m_debts m_sitting m_visited : (Nat → Int32)} {c_told_towns0_people c_told_towns1_people c_told_weeks0_deeds c_told_weeks1_deeds c_life_people c_life_silent c_life_clock c_life_sat c_life_done c_life_first c_life_vain c_life_lent c_life_forgiven m_code m_town m_people m_when m_sat m_quiet m_vain m_lent m_forgiven m_sundays m_week : Int32} (I : TI c_told_counts c_told_towns0_people c_told_towns0_wit c_told_towns0_purse c_told_towns0_hated c_told_towns0_owed c_told_towns1_people c_told_towns1_wit c_told_towns1_purse c_told_towns1_hated c_told_towns1_owed m_many m_towns) (J : WI c_told_counts c_told_weeks0_deeds c_told_weeks0_cells c_told_weeks1_deeds c_told_weeks1_cells m_many m_weeks) (hf : 1000 ≤ fu) (p1 : Int32) (p2 : Int32) (p3 : Int32) (p4 : Int32) : Agr (f_X11_state fu c_told_counts c_told_towns0_people c_told_towns0_purse c_told_towns0_hated c_told_towns0_owed c_told_towns1_people c_told_towns1_purse c_told_towns1_hated c_told_towns1_owed c_told_weeks0_deeds c_told_weeks0_cells c_told_weeks1_deeds c_told_weeks1_cells c_life_people c_life_hated c_life_purse c_life_owed c_life_seat c_life_kept c_life_wasKept c_life_silent c_life_clock c_life_sat c_life_done c_life_first c_life_vain c_life_lent c_life_forgiven p1 p2 p3 p4) (fun x => x.1) (f_X12_state fu m_code m_many m_towns m_weeks m_town m_people m_when m_sat m_quiet m_vain m_lent m_forgiven m_sundays m_purse m_beside m_debts m_sitting m_visited m_week p1 p2 p3 p4) (fun y => y.1) := by
  rcases selT (fu := fu) I p1 with ⟨q1, q2⟩ | ⟨rfl, q1, q2, n, w, pu, h, o, V, TC, TM⟩ | ⟨rfl, q1, q2, n, w, pu, h, o, V, TC, TM⟩
  · rcases selW (fu := fu) J p2 with ⟨r1, r2⟩ | ⟨rfl, r1, r2, d, K⟩ | ⟨rfl, r1, r2, d, K⟩
    · refine agr_of (-1) ?_ ?_
      · unfold f_X11_state
        refine ok_bnd (ok_eq q1 ?_)
        rw [if_neg (by decide), if_neg (by decide)]
        refine ok_bnd (ok_eq r1 ?_)
        exact ok_ite (fun _ => ok_some rfl) (fun _ => ok_ite (fun _ => ok_some rfl) (fun _ => ok_some rfl))
      · unfold f_X12_state
        refine ok_bnd (ok_mono (no_lay1 r2) ?_)
        intro z hz
        rw [if_pos hz]
        exact ok_some rfl
    · refine agr_of (-1) ?_ ?_
      · unfold f_X11_state
        refine ok_bnd (ok_eq q1 ?_)
        rw [if_neg (by decide), if_neg (by decide)]
        refine ok_bnd (ok_eq r1 ?_)
        exact ok_ite (fun _ => ok_some rfl) (fun _ => ok_ite (fun _ => ok_some rfl) (fun _ => ok_some rfl))
      · unfold f_X12_state
        refine ok_bnd (ok_mono (no_lay2 r2 q2) ?_)
        intro z hz
        rw [if_pos hz]
        exact ok_some rfl
    · refine agr_of (-1) ?_ ?_
      · unfold f_X11_state
        refine ok_bnd (ok_eq q1 ?_)
        rw [if_neg (by decide), if_neg (by decide)]
        refine ok_bnd (ok_eq r1 ?_)
        exact ok_ite (fun _ => ok_some rfl) (fun _ => ok_ite (fun _ => ok_some rfl) (fun _ => ok_some rfl))
      · unfold f_X12_state
        refine ok_bnd (ok_mono (no_lay2 r2 q2) ?_)
        intro z hz
        rw [if_pos hz]
        exact ok_some rfl
  · obtain ⟨hpe, hwi, hpr, hha, how⟩ := TC
    subst hpe
    have hM : ∀ i, i < 6 → m_towns (55 * 0 + 13 + i) = nI (h i) := TM.2.2.2.1
    have hn6 := V.1
    rcases selW (fu := fu) J p2 with ⟨r1, r2⟩ | ⟨rfl, r1, r2, d, K⟩ | ⟨rfl, r1, r2, d, K⟩
    · refine agr_of (-1) ?_ ?_
      · unfold f_X11_state
        refine ok_bnd (ok_eq q1 ?_)
        rw [if_pos rfl]
        refine ok_bnd (ok_eq r1 ?_)
        rw [if_neg (by decide), if_neg (by decide)]
        exact ok_some rfl
      · unfold f_X12_state
        refine ok_bnd (ok_mono (no_lay1 r2) ?_)
        intro z hz
        rw [if_pos hz]
        exact ok_some rfl
    · obtain ⟨k1, rfl, k3, k4, k5⟩ := K
      have K : WkR d (nI d) c_told_weeks0_cells m_weeks (161 * 0) := ⟨k1, rfl, k3, k4, k5⟩
      have ed : f_X12_deeds fu m_weeks (nI 0) = some (nI d) := by
        simp only [f_X12_deeds, show (161 : Int32) = nI 161 from rfl, pk_mul]
        rw [rdi_n (by decide) (by decide) k3]
        rfl
      obtain ⟨z, ez, y, hy, rfl⟩ := ok_lay (fu := fu) (a1 := m_town) (a2 := m_people) (a3 := m_when) (a4 := m_sat) (a5 := m_quiet) (a6 := m_vain) (a7 := m_lent) (a8 := m_forgiven) (a9 := m_sundays) (b1 := m_purse) (b2 := m_beside) (b3 := m_debts) (b4 := m_sitting) (b5 := m_visited) (a10 := m_week) TM (by decide) q2 r2 (by omega)
      rcases rng (fu := fu) p3 d (by omega) with ⟨i, hi, rfl, t1, t2, t3, t4⟩ | ⟨t1, t2⟩
      · obtain ⟨c, x, x2, h2, c1, c2, c3, c4⟩ := live_eq (fu := fu) (o1 := c_life_people) (f2 := c_life_hated) (f3 := c_life_purse) (f4 := c_life_owed) (f5 := c_life_seat) (f6 := c_life_kept) (f7 := c_life_wasKept) (p8 := c_life_silent) (p9 := c_life_clock) (p10 := c_life_sat) (p11 := c_life_done) (p12 := c_life_first) (p13 := c_life_vain) (p14 := c_life_lent) (p15 := c_life_forgiven) V hwi hpr hha how hM (by decide) hy (by decide) K hi (by omega)
        have c3 : _ = some (nI c, x2) := c3
        by_cases e : c = i
        · subst e
          obtain ⟨v, v1, v2⟩ := tell_eq (fu := fu) c4 V.1 (by omega) p4
          refine agr_of v ?_ ?_
          · unfold f_X11_state
            refine ok_bnd (ok_eq q1 ?_)
            rw [if_pos rfl]
            refine ok_bnd (ok_eq r1 ?_)
            rw [if_pos rfl]
            rw [if_neg t2, if_neg t4]
            refine ok_bnd (ok_eq c2 ?_)
            refine ok_ite (fun _ => ?_) (fun q => absurd (nI_le (Nat.le_refl c) (by omega)) q)
            exact ok_bnd (ok_eq v1 (ok_some rfl))
          · unfold f_X12_state
            refine ok_bnd (ok_eq ez ?_)
            refine ok_ite (fun q => absurd q i10) (fun _ => ?_)
            refine ok_bnd (ok_eq ed ?_)
            refine ok_bnd (ok_eq t1 ?_)
            rw [if_neg i10]
            refine ok_bnd (ok_eq (show _ = some (nI c, x2) by rw [← c3]; simp only [hy.2.1, hy.2.2.1]) ?_)
            refine ok_ite (fun _ => ?_) (fun q => absurd rfl q)
            refine ok_bnd (ok_eq (show _ = some v by rw [← v2]; simp only [hy.2.2.1]) (ok_some rfl))
        · refine agr_of (-1) ?_ ?_
          · unfold f_X11_state
            refine ok_bnd (ok_eq q1 ?_)
            rw [if_pos rfl]
            refine ok_bnd (ok_eq r1 ?_)
            rw [if_pos rfl]
            rw [if_neg t2, if_neg t4]
            refine ok_bnd (ok_eq c2 ?_)
            exact ok_ite (fun q => absurd q (nI_ge (by omega) (by omega))) (fun _ => ok_some rfl)
          · unfold f_X12_state
            refine ok_bnd (ok_eq ez ?_)
            refine ok_ite (fun q => absurd q i10) (fun _ => ?_)
            refine ok_bnd (ok_eq ed ?_)
            refine ok_bnd (ok_eq t1 ?_)
            rw [if_neg i10]
            refine ok_bnd (ok_eq (show _ = some (nI c, x2) by rw [← c3]; simp only [hy.2.1, hy.2.2.1]) ?_)
            exact ok_ite (fun q => absurd ((nI_eq (by omega) (by omega)).1 q) e) (fun _ => ok_some rfl)
      · refine agr_of (-1) ?_ ?_
        · unfold f_X11_state
          refine ok_bnd (ok_eq q1 ?_)
          rw [if_pos rfl]
          refine ok_bnd (ok_eq r1 ?_)
          rw [if_pos rfl]
          rcases t2 with t2 | ⟨t2, t3, t4⟩
          · rw [if_pos t2]; exact ok_some rfl
          · rw [if_neg t2, if_pos t4]; exact ok_some rfl
        · unfold f_X12_state
          refine ok_bnd (ok_eq ez ?_)
          refine ok_ite (fun q => absurd q i10) (fun _ => ?_)
          refine ok_bnd (ok_eq ed ?_)
          refine ok_bnd (ok_eq t1 ?_)
          rw [if_pos i00]
          exact ok_some rfl
    · obtain ⟨k1, rfl, k3, k4, k5⟩ := K
      have K : WkR d (nI d) c_told_weeks1_cells m_weeks (161 * 1) := ⟨k1, rfl, k3, k4, k5⟩
      have ed : f_X12_deeds fu m_weeks (nI 1) = some (nI d) := by
        simp only [f_X12_deeds, show (161 : Int32) = nI 161 from rfl, pk_mul]
        rw [rdi_n (by decide) (by decide) k3]
        rfl
      obtain ⟨z, ez, y, hy, rfl⟩ := ok_lay (fu := fu) (a1 := m_town) (a2 := m_people) (a3 := m_when) (a4 := m_sat) (a5 := m_quiet) (a6 := m_vain) (a7 := m_lent) (a8 := m_forgiven) (a9 := m_sundays) (b1 := m_purse) (b2 := m_beside) (b3 := m_debts) (b4 := m_sitting) (b5 := m_visited) (a10 := m_week) TM (by decide) q2 r2 (by omega)
      rcases rng (fu := fu) p3 d (by omega) with ⟨i, hi, rfl, t1, t2, t3, t4⟩ | ⟨t1, t2⟩
      · obtain ⟨c, x, x2, h2, c1, c2, c3, c4⟩ := live_eq (fu := fu) (o1 := c_life_people) (f2 := c_life_hated) (f3 := c_life_purse) (f4 := c_life_owed) (f5 := c_life_seat) (f6 := c_life_kept) (f7 := c_life_wasKept) (p8 := c_life_silent) (p9 := c_life_clock) (p10 := c_life_sat) (p11 := c_life_done) (p12 := c_life_first) (p13 := c_life_vain) (p14 := c_life_lent) (p15 := c_life_forgiven) V hwi hpr hha how hM (by decide) hy (by decide) K hi (by omega)
        have c3 : _ = some (nI c, x2) := c3
        by_cases e : c = i
        · subst e
          obtain ⟨v, v1, v2⟩ := tell_eq (fu := fu) c4 V.1 (by omega) p4
          refine agr_of v ?_ ?_
          · unfold f_X11_state
            refine ok_bnd (ok_eq q1 ?_)
            rw [if_pos rfl]
            refine ok_bnd (ok_eq r1 ?_)
            rw [if_neg (by decide), if_pos rfl]
            rw [if_neg t2, if_neg t4]
            refine ok_bnd (ok_eq c2 ?_)
            refine ok_ite (fun _ => ?_) (fun q => absurd (nI_le (Nat.le_refl c) (by omega)) q)
            exact ok_bnd (ok_eq v1 (ok_some rfl))
          · unfold f_X12_state
            refine ok_bnd (ok_eq ez ?_)
            refine ok_ite (fun q => absurd q i10) (fun _ => ?_)
            refine ok_bnd (ok_eq ed ?_)
            refine ok_bnd (ok_eq t1 ?_)
            rw [if_neg i10]
            refine ok_bnd (ok_eq (show _ = some (nI c, x2) by rw [← c3]; simp only [hy.2.1, hy.2.2.1]) ?_)
            refine ok_ite (fun _ => ?_) (fun q => absurd rfl q)
            refine ok_bnd (ok_eq (show _ = some v by rw [← v2]; simp only [hy.2.2.1]) (ok_some rfl))
        · refine agr_of (-1) ?_ ?_
          · unfold f_X11_state
            refine ok_bnd (ok_eq q1 ?_)
            rw [if_pos rfl]
            refine ok_bnd (ok_eq r1 ?_)
            rw [if_neg (by decide), if_pos rfl]
            rw [if_neg t2, if_neg t4]
            refine ok_bnd (ok_eq c2 ?_)
            exact ok_ite (fun q => absurd q (nI_ge (by omega) (by omega))) (fun _ => ok_some rfl)
          · unfold f_X12_state
            refine ok_bnd (ok_eq ez ?_)
            refine ok_ite (fun q => absurd q i10) (fun _ => ?_)
            refine ok_bnd (ok_eq ed ?_)
            refine ok_bnd (ok_eq t1 ?_)
            rw [if_neg i10]
            refine ok_bnd (ok_eq (show _ = some (nI c, x2) by rw [← c3]; simp only [hy.2.1, hy.2.2.1]) ?_)
            exact ok_ite (fun q => absurd ((nI_eq (by omega) (by omega)).1 q) e) (fun _ => ok_some rfl)
      · refine agr_of (-1) ?_ ?_
        · unfold f_X11_state
          refine ok_bnd (ok_eq q1 ?_)
          rw [if_pos rfl]
          refine ok_bnd (ok_eq r1 ?_)
          rw [if_neg (by decide), if_pos rfl]
          rcases t2 with t2 | ⟨t2, t3, t4⟩
          · rw [if_pos t2]; exact ok_some rfl
          · rw [if_neg t2, if_pos t4]; exact ok_some rfl
        · unfold f_X12_state
          refine ok_bnd (ok_eq ez ?_)
          refine ok_ite (fun q => absurd q i10) (fun _ => ?_)
          refine ok_bnd (ok_eq ed ?_)
          refine ok_bnd (ok_eq t1 ?_)
          rw [if_pos i00]
          exact ok_some rfl
  · obtain ⟨hpe, hwi, hpr, hha, how⟩ := TC
    subst hpe
    have hM : ∀ i, i < 6 → m_towns (55 * 1 + 13 + i) = nI (h i) := TM.2.2.2.1
    have hn6 := V.1
    rcases selW (fu := fu) J p2 with ⟨r1, r2⟩ | ⟨rfl, r1, r2, d, K⟩ | ⟨rfl, r1, r2, d, K⟩
    · refine agr_of (-1) ?_ ?_
      · unfold f_X11_state
        refine ok_bnd (ok_eq q1 ?_)
        rw [if_neg (by decide), if_pos rfl]
        refine ok_bnd (ok_eq r1 ?_)
        rw [if_neg (by decide), if_neg (by decide)]
        exact ok_some rfl
      · unfold f_X12_state
        refine ok_bnd (ok_mono (no_lay1 r2) ?_)
        intro z hz
        rw [if_pos hz]
        exact ok_some rfl
    · obtain ⟨k1, rfl, k3, k4, k5⟩ := K
      have K : WkR d (nI d) c_told_weeks0_cells m_weeks (161 * 0) := ⟨k1, rfl, k3, k4, k5⟩
      have ed : f_X12_deeds fu m_weeks (nI 0) = some (nI d) := by
        simp only [f_X12_deeds, show (161 : Int32) = nI 161 from rfl, pk_mul]
        rw [rdi_n (by decide) (by decide) k3]
        rfl
      obtain ⟨z, ez, y, hy, rfl⟩ := ok_lay (fu := fu) (a1 := m_town) (a2 := m_people) (a3 := m_when) (a4 := m_sat) (a5 := m_quiet) (a6 := m_vain) (a7 := m_lent) (a8 := m_forgiven) (a9 := m_sundays) (b1 := m_purse) (b2 := m_beside) (b3 := m_debts) (b4 := m_sitting) (b5 := m_visited) (a10 := m_week) TM (by decide) q2 r2 (by omega)
      rcases rng (fu := fu) p3 d (by omega) with ⟨i, hi, rfl, t1, t2, t3, t4⟩ | ⟨t1, t2⟩
      · obtain ⟨c, x, x2, h2, c1, c2, c3, c4⟩ := live_eq (fu := fu) (o1 := c_life_people) (f2 := c_life_hated) (f3 := c_life_purse) (f4 := c_life_owed) (f5 := c_life_seat) (f6 := c_life_kept) (f7 := c_life_wasKept) (p8 := c_life_silent) (p9 := c_life_clock) (p10 := c_life_sat) (p11 := c_life_done) (p12 := c_life_first) (p13 := c_life_vain) (p14 := c_life_lent) (p15 := c_life_forgiven) V hwi hpr hha how hM (by decide) hy (by decide) K hi (by omega)
        have c3 : _ = some (nI c, x2) := c3
        by_cases e : c = i
        · subst e
          obtain ⟨v, v1, v2⟩ := tell_eq (fu := fu) c4 V.1 (by omega) p4
          refine agr_of v ?_ ?_
          · unfold f_X11_state
            refine ok_bnd (ok_eq q1 ?_)
            rw [if_neg (by decide), if_pos rfl]
            refine ok_bnd (ok_eq r1 ?_)
            rw [if_pos rfl]
            rw [if_neg t2, if_neg t4]
            refine ok_bnd (ok_eq c2 ?_)
            refine ok_ite (fun _ => ?_) (fun q => absurd (nI_le (Nat.le_refl c) (by omega)) q)
            exact ok_bnd (ok_eq v1 (ok_some rfl))
          · unfold f_X12_state
            refine ok_bnd (ok_eq ez ?_)
            refine ok_ite (fun q => absurd q i10) (fun _ => ?_)
            refine ok_bnd (ok_eq ed ?_)
            refine ok_bnd (ok_eq t1 ?_)
            rw [if_neg i10]
            refine ok_bnd (ok_eq (show _ = some (nI c, x2) by rw [← c3]; simp only [hy.2.1, hy.2.2.1]) ?_)
            refine ok_ite (fun _ => ?_) (fun q => absurd rfl q)
            refine ok_bnd (ok_eq (show _ = some v by rw [← v2]; simp only [hy.2.2.1]) (ok_some rfl))
        · refine agr_of (-1) ?_ ?_
          · unfold f_X11_state
            refine ok_bnd (ok_eq q1 ?_)
            rw [if_neg (by decide), if_pos rfl]
            refine ok_bnd (ok_eq r1 ?_)
            rw [if_pos rfl]
            rw [if_neg t2, if_neg t4]
            refine ok_bnd (ok_eq c2 ?_)
            exact ok_ite (fun q => absurd q (nI_ge (by omega) (by omega))) (fun _ => ok_some rfl)
          · unfold f_X12_state
            refine ok_bnd (ok_eq ez ?_)
            refine ok_ite (fun q => absurd q i10) (fun _ => ?_)
            refine ok_bnd (ok_eq ed ?_)
            refine ok_bnd (ok_eq t1 ?_)
            rw [if_neg i10]
            refine ok_bnd (ok_eq (show _ = some (nI c, x2) by rw [← c3]; simp only [hy.2.1, hy.2.2.1]) ?_)
            exact ok_ite (fun q => absurd ((nI_eq (by omega) (by omega)).1 q) e) (fun _ => ok_some rfl)
      · refine agr_of (-1) ?_ ?_
        · unfold f_X11_state
          refine ok_bnd (ok_eq q1 ?_)
          rw [if_neg (by decide), if_pos rfl]
          refine ok_bnd (ok_eq r1 ?_)
          rw [if_pos rfl]
          rcases t2 with t2 | ⟨t2, t3, t4⟩
          · rw [if_pos t2]; exact ok_some rfl
          · rw [if_neg t2, if_pos t4]; exact ok_some rfl
        · unfold f_X12_state
          refine ok_bnd (ok_eq ez ?_)
          refine ok_ite (fun q => absurd q i10) (fun _ => ?_)
          refine ok_bnd (ok_eq ed ?_)
          refine ok_bnd (ok_eq t1 ?_)
          rw [if_pos i00]
          exact ok_some rfl
    · obtain ⟨k1, rfl, k3, k4, k5⟩ := K
      have K : WkR d (nI d) c_told_weeks1_cells m_weeks (161 * 1) := ⟨k1, rfl, k3, k4, k5⟩
      have ed : f_X12_deeds fu m_weeks (nI 1) = some (nI d) := by
        simp only [f_X12_deeds, show (161 : Int32) = nI 161 from rfl, pk_mul]
        rw [rdi_n (by decide) (by decide) k3]
        rfl
      obtain ⟨z, ez, y, hy, rfl⟩ := ok_lay (fu := fu) (a1 := m_town) (a2 := m_people) (a3 := m_when) (a4 := m_sat) (a5 := m_quiet) (a6 := m_vain) (a7 := m_lent) (a8 := m_forgiven) (a9 := m_sundays) (b1 := m_purse) (b2 := m_beside) (b3 := m_debts) (b4 := m_sitting) (b5 := m_visited) (a10 := m_week) TM (by decide) q2 r2 (by omega)
      rcases rng (fu := fu) p3 d (by omega) with ⟨i, hi, rfl, t1, t2, t3, t4⟩ | ⟨t1, t2⟩
      · obtain ⟨c, x, x2, h2, c1, c2, c3, c4⟩ := live_eq (fu := fu) (o1 := c_life_people) (f2 := c_life_hated) (f3 := c_life_purse) (f4 := c_life_owed) (f5 := c_life_seat) (f6 := c_life_kept) (f7 := c_life_wasKept) (p8 := c_life_silent) (p9 := c_life_clock) (p10 := c_life_sat) (p11 := c_life_done) (p12 := c_life_first) (p13 := c_life_vain) (p14 := c_life_lent) (p15 := c_life_forgiven) V hwi hpr hha how hM (by decide) hy (by decide) K hi (by omega)
        have c3 : _ = some (nI c, x2) := c3
        by_cases e : c = i
        · subst e
          obtain ⟨v, v1, v2⟩ := tell_eq (fu := fu) c4 V.1 (by omega) p4
          refine agr_of v ?_ ?_
          · unfold f_X11_state
            refine ok_bnd (ok_eq q1 ?_)
            rw [if_neg (by decide), if_pos rfl]
            refine ok_bnd (ok_eq r1 ?_)
            rw [if_neg (by decide), if_pos rfl]
            rw [if_neg t2, if_neg t4]
            refine ok_bnd (ok_eq c2 ?_)
            refine ok_ite (fun _ => ?_) (fun q => absurd (nI_le (Nat.le_refl c) (by omega)) q)
            exact ok_bnd (ok_eq v1 (ok_some rfl))
          · unfold f_X12_state
            refine ok_bnd (ok_eq ez ?_)
            refine ok_ite (fun q => absurd q i10) (fun _ => ?_)
            refine ok_bnd (ok_eq ed ?_)
            refine ok_bnd (ok_eq t1 ?_)
            rw [if_neg i10]
            refine ok_bnd (ok_eq (show _ = some (nI c, x2) by rw [← c3]; simp only [hy.2.1, hy.2.2.1]) ?_)
            refine ok_ite (fun _ => ?_) (fun q => absurd rfl q)
            refine ok_bnd (ok_eq (show _ = some v by rw [← v2]; simp only [hy.2.2.1]) (ok_some rfl))
        · refine agr_of (-1) ?_ ?_
          · unfold f_X11_state
            refine ok_bnd (ok_eq q1 ?_)
            rw [if_neg (by decide), if_pos rfl]
            refine ok_bnd (ok_eq r1 ?_)
            rw [if_neg (by decide), if_pos rfl]
            rw [if_neg t2, if_neg t4]
            refine ok_bnd (ok_eq c2 ?_)
            exact ok_ite (fun q => absurd q (nI_ge (by omega) (by omega))) (fun _ => ok_some rfl)
          · unfold f_X12_state
            refine ok_bnd (ok_eq ez ?_)
            refine ok_ite (fun q => absurd q i10) (fun _ => ?_)
            refine ok_bnd (ok_eq ed ?_)
            refine ok_bnd (ok_eq t1 ?_)
            rw [if_neg i10]
            refine ok_bnd (ok_eq (show _ = some (nI c, x2) by rw [← c3]; simp only [hy.2.1, hy.2.2.1]) ?_)
            exact ok_ite (fun q => absurd ((nI_eq (by omega) (by omega)).1 q) e) (fun _ => ok_some rfl)
      · refine agr_of (-1) ?_ ?_
        · unfold f_X11_state
          refine ok_bnd (ok_eq q1 ?_)
          rw [if_neg (by decide), if_pos rfl]
          refine ok_bnd (ok_eq r1 ?_)
          rw [if_neg (by decide), if_pos rfl]
          rcases t2 with t2 | ⟨t2, t3, t4⟩
          · rw [if_pos t2]; exact ok_some rfl
          · rw [if_neg t2, if_pos t4]; exact ok_some rfl
        · unfold f_X12_state
          refine ok_bnd (ok_eq ez ?_)
          refine ok_ite (fun q => absurd q i10) (fun _ => ?_)
          refine ok_bnd (ok_eq ed ?_)
          refine ok_bnd (ok_eq t1 ?_)
          rw [if_pos i00]
          exact ok_some rfl
theorem A_after {fu : Nat} {c_told_counts c_told_towns0_purse c_told_towns0_hated c_told_towns0_owed c_told_towns1_purse c_told_towns1_hated c_told_towns1_owed c_told_weeks0_cells c_told_weeks1_cells c_life_hated c_life_purse c_life_owed c_life_seat c_life_kept c_life_wasKept c_told_towns0_wit c_told_towns1_wit m_many m_towns m_weeks m_purse m_beside m_debts m_sitting m_visited : (Nat → Int32)} {c_told_towns0_people c_told_towns1_people c_told_weeks0_deeds c_told_weeks1_deeds c_life_people c_life_silent c_life_clock c_life_sat c_life_done c_life_first c_life_vain c_life_lent c_life_forgiven m_code m_town m_people m_when m_sat m_quiet m_vain m_lent m_forgiven m_sundays m_week : Int32} (I : TI c_told_counts c_told_towns0_people c_told_towns0_wit c_told_towns0_purse c_told_towns0_hated c_told_towns0_owed c_told_towns1_people c_told_towns1_wit c_told_towns1_purse c_told_towns1_hated c_told_towns1_owed m_many m_towns) (J : WI c_told_counts c_told_weeks0_deeds c_told_weeks0_cells c_told_weeks1_deeds c_told_weeks1_cells m_many m_weeks) (hf : 1000 ≤ fu) (p1 : Int32) (p2 : Int32) (p3 : Int32) : Agr (f_X11_after fu c_told_counts c_told_towns0_people c_told_towns0_purse c_told_towns0_hated c_told_towns0_owed c_told_towns1_people c_told_towns1_purse c_told_towns1_hated c_told_towns1_owed c_told_weeks0_deeds c_told_weeks0_cells c_told_weeks1_deeds c_told_weeks1_cells c_life_people c_life_hated c_life_purse c_life_owed c_life_seat c_life_kept c_life_wasKept c_life_silent c_life_clock c_life_sat c_life_done c_life_first c_life_vain c_life_lent c_life_forgiven p1 p2 p3) (fun x => x.1) (f_X12_after fu m_code m_many m_towns m_weeks m_town m_people m_when m_sat m_quiet m_vain m_lent m_forgiven m_sundays m_purse m_beside m_debts m_sitting m_visited m_week p1 p2 p3) (fun y => y.1) := by
  rcases selT (fu := fu) I p1 with ⟨q1, q2⟩ | ⟨rfl, q1, q2, n, w, pu, h, o, V, TC, TM⟩ | ⟨rfl, q1, q2, n, w, pu, h, o, V, TC, TM⟩
  · rcases selW (fu := fu) J p2 with ⟨r1, r2⟩ | ⟨rfl, r1, r2, d, K⟩ | ⟨rfl, r1, r2, d, K⟩
    · refine agr_of (-2) ?_ ?_
      · unfold f_X11_after
        refine ok_bnd (ok_eq q1 ?_)
        rw [if_neg (by decide), if_neg (by decide)]
        refine ok_bnd (ok_eq r1 ?_)
        exact ok_ite (fun _ => ok_some rfl) (fun _ => ok_ite (fun _ => ok_some rfl) (fun _ => ok_some rfl))
      · unfold f_X12_after
        refine ok_bnd (ok_mono (no_lay1 r2) ?_)
        intro z hz
        rw [if_pos hz]
        exact ok_some rfl
    · refine agr_of (-2) ?_ ?_
      · unfold f_X11_after
        refine ok_bnd (ok_eq q1 ?_)
        rw [if_neg (by decide), if_neg (by decide)]
        refine ok_bnd (ok_eq r1 ?_)
        exact ok_ite (fun _ => ok_some rfl) (fun _ => ok_ite (fun _ => ok_some rfl) (fun _ => ok_some rfl))
      · unfold f_X12_after
        refine ok_bnd (ok_mono (no_lay2 r2 q2) ?_)
        intro z hz
        rw [if_pos hz]
        exact ok_some rfl
    · refine agr_of (-2) ?_ ?_
      · unfold f_X11_after
        refine ok_bnd (ok_eq q1 ?_)
        rw [if_neg (by decide), if_neg (by decide)]
        refine ok_bnd (ok_eq r1 ?_)
        exact ok_ite (fun _ => ok_some rfl) (fun _ => ok_ite (fun _ => ok_some rfl) (fun _ => ok_some rfl))
      · unfold f_X12_after
        refine ok_bnd (ok_mono (no_lay2 r2 q2) ?_)
        intro z hz
        rw [if_pos hz]
        exact ok_some rfl
  · obtain ⟨hpe, hwi, hpr, hha, how⟩ := TC
    subst hpe
    have hM : ∀ i, i < 6 → m_towns (55 * 0 + 13 + i) = nI (h i) := TM.2.2.2.1
    have hn6 := V.1
    rcases selW (fu := fu) J p2 with ⟨r1, r2⟩ | ⟨rfl, r1, r2, d, K⟩ | ⟨rfl, r1, r2, d, K⟩
    · refine agr_of (-2) ?_ ?_
      · unfold f_X11_after
        refine ok_bnd (ok_eq q1 ?_)
        rw [if_pos rfl]
        refine ok_bnd (ok_eq r1 ?_)
        rw [if_neg (by decide), if_neg (by decide)]
        exact ok_some rfl
      · unfold f_X12_after
        refine ok_bnd (ok_mono (no_lay1 r2) ?_)
        intro z hz
        rw [if_pos hz]
        exact ok_some rfl
    · obtain ⟨k1, rfl, k3, k4, k5⟩ := K
      have K : WkR d (nI d) c_told_weeks0_cells m_weeks (161 * 0) := ⟨k1, rfl, k3, k4, k5⟩
      have ed : f_X12_deeds fu m_weeks (nI 0) = some (nI d) := by
        simp only [f_X12_deeds, show (161 : Int32) = nI 161 from rfl, pk_mul]
        rw [rdi_n (by decide) (by decide) k3]
        rfl
      obtain ⟨z, ez, y, hy, rfl⟩ := ok_lay (fu := fu) (a1 := m_town) (a2 := m_people) (a3 := m_when) (a4 := m_sat) (a5 := m_quiet) (a6 := m_vain) (a7 := m_lent) (a8 := m_forgiven) (a9 := m_sundays) (b1 := m_purse) (b2 := m_beside) (b3 := m_debts) (b4 := m_sitting) (b5 := m_visited) (a10 := m_week) TM (by decide) q2 r2 (by omega)
      rcases rng (fu := fu) p3 7 (by decide) with ⟨i, hi, rfl, t1, t2, t3, t4⟩ | ⟨t1, t2⟩
      · obtain ⟨c, x, x2, h2, c2, c3, c4⟩ := after_eq (fu := fu) (z := ((1 : Int32), y.2.1, y.2.2.1, y.2.2.2.1, y.2.2.2.2.1, y.2.2.2.2.2.1, y.2.2.2.2.2.2.1, y.2.2.2.2.2.2.2.1, y.2.2.2.2.2.2.2.2.1, y.2.2.2.2.2.2.2.2.2.1, y.2.2.2.2.2.2.2.2.2.2.1, y.2.2.2.2.2.2.2.2.2.2.2.1, y.2.2.2.2.2.2.2.2.2.2.2.2.1, y.2.2.2.2.2.2.2.2.2.2.2.2.2.1, y.2.2.2.2.2.2.2.2.2.2.2.2.2.2, nI 0)) (o1 := c_life_people) (f2 := c_life_hated) (f3 := c_life_purse) (f4 := c_life_owed) (f5 := c_life_seat) (f6 := c_life_kept) (f7 := c_life_wasKept) (p8 := c_life_silent) (p9 := c_life_clock) (p10 := c_life_sat) (p11 := c_life_done) (p12 := c_life_first) (p13 := c_life_vain) (p14 := c_life_lent) (p15 := c_life_forgiven) V hwi hpr hha how hM (by decide) hy (by decide) K hy.2.1 hy.2.2.1 rfl (by omega)
        obtain ⟨v, v1, v2, v3, v4, v5, v6, v7, v8, v9⟩ := tellAfter_eq (fu := fu) c4 V.1 hi (by omega)
        refine agr_of v ?_ ?_
        · unfold f_X11_after
          refine ok_bnd (ok_eq q1 ?_)
          rw [if_pos rfl]
          refine ok_bnd (ok_eq r1 ?_)
          rw [if_pos rfl]
          refine ok_bnd (ok_eq c2 ?_)
          exact ok_bnd (ok_eq v1 (ok_some rfl))
        · unfold f_X12_after
          refine ok_bnd (ok_eq ez ?_)
          refine ok_ite (fun q => absurd q i10) (fun _ => ?_)
          refine ok_bnd (ok_eq t1 ?_)
          rw [if_neg i10]
          refine ok_bnd (ok_eq c3 ?_)
          rcases (show i = 0 ∨ i = 1 ∨ i = 2 ∨ i = 3 ∨ i = 4 ∨ i = 5 ∨ i = 6 ∨ i = 7 by omega) with rfl | rfl | rfl | rfl | rfl | rfl | rfl | rfl
          · rw [if_pos (by decide)]
            exact ok_some (v2 rfl)
          · rw [if_neg (by decide)]
            rw [if_pos (by decide)]
            rw [if_neg (by decide)]
            exact ok_bnd (ok_eq (show _ = some v by rw [← v3 rfl]; simp only [hy.2.2.1]) (ok_some rfl))
          · rw [if_neg (by decide)]
            rw [if_neg (by decide)]
            rw [if_pos (by decide)]
            rw [if_pos (by decide)]
            exact ok_bnd (ok_eq (show _ = some v by rw [← v4 rfl]; simp only [hy.2.2.1]) (ok_some rfl))
          · rw [if_neg (by decide)]
            rw [if_neg (by decide)]
            rw [if_neg (by decide)]
            rw [if_pos (by decide)]
            exact ok_some (v5 rfl)
          · rw [if_neg (by decide)]
            rw [if_neg (by decide)]
            rw [if_neg (by decide)]
            rw [if_neg (by decide)]
            rw [if_pos (by decide)]
            exact ok_some (v6 rfl)
          · rw [if_neg (by decide)]
            rw [if_neg (by decide)]
            rw [if_neg (by decide)]
            rw [if_neg (by decide)]
            rw [if_neg (by decide)]
            rw [if_pos (by decide)]
            exact ok_some (v7 rfl)
          · rw [if_neg (by decide)]
            rw [if_neg (by decide)]
            rw [if_neg (by decide)]
            rw [if_neg (by decide)]
            rw [if_neg (by decide)]
            rw [if_neg (by decide)]
            rw [if_pos (by decide)]
            exact ok_some (v8 rfl)
          · rw [if_neg (by decide)]
            rw [if_neg (by decide)]
            rw [if_neg (by decide)]
            rw [if_neg (by decide)]
            rw [if_neg (by decide)]
            rw [if_neg (by decide)]
            rw [if_neg (by decide)]
            exact ok_bnd (ok_eq (show _ = some v by rw [← v9 rfl]; simp only [hy.2.2.1]) (ok_some rfl))
      · have hne : ∀ a : Nat, a ≤ 7 → ¬ p3 = nI a := by
          intro a ha e
          rw [e] at t2
          rcases t2 with t | ⟨_, t, _⟩
          · exact nI_pos (by omega) t
          · exact t (nI_le ha (by decide))
        obtain ⟨c, x, x2, h2, c1, c2, c3, c4⟩ := live_eq (fu := fu) (o1 := c_life_people) (f2 := c_life_hated) (f3 := c_life_purse) (f4 := c_life_owed) (f5 := c_life_seat) (f6 := c_life_kept) (f7 := c_life_wasKept) (p8 := c_life_silent) (p9 := c_life_clock) (p10 := c_life_sat) (p11 := c_life_done) (p12 := c_life_first) (p13 := c_life_vain) (p14 := c_life_lent) (p15 := c_life_forgiven) V hwi hpr hha how hM (by decide) hy (by decide) K (Nat.le_refl d) (by omega)
        refine agr_of (-2) ?_ ?_
        · unfold f_X11_after
          refine ok_bnd (ok_eq q1 ?_)
          rw [if_pos rfl]
          refine ok_bnd (ok_eq r1 ?_)
          rw [if_pos rfl]
          refine ok_bnd (ok_eq c2 ?_)
          unfold f_X1_tellAfter
          rw [if_neg (show ¬ p3 = 0 from hne 0 (by decide))]
          rw [if_neg (show ¬ p3 = 1 from hne 1 (by decide))]
          rw [if_neg (show ¬ p3 = 2 from hne 2 (by decide))]
          rw [if_neg (show ¬ p3 = 3 from hne 3 (by decide))]
          rw [if_neg (show ¬ p3 = 4 from hne 4 (by decide))]
          rw [if_neg (show ¬ p3 = 5 from hne 5 (by decide))]
          rw [if_neg (show ¬ p3 = 6 from hne 6 (by decide))]
          rw [if_neg (show ¬ p3 = 7 from hne 7 (by decide))]
          exact ok_some rfl
        · unfold f_X12_after
          refine ok_bnd (ok_eq ez ?_)
          refine ok_ite (fun q => absurd q i10) (fun _ => ?_)
          refine ok_bnd (ok_eq t1 ?_)
          rw [if_pos i00]
          exact ok_some rfl
    · obtain ⟨k1, rfl, k3, k4, k5⟩ := K
      have K : WkR d (nI d) c_told_weeks1_cells m_weeks (161 * 1) := ⟨k1, rfl, k3, k4, k5⟩
      have ed : f_X12_deeds fu m_weeks (nI 1) = some (nI d) := by
        simp only [f_X12_deeds, show (161 : Int32) = nI 161 from rfl, pk_mul]
        rw [rdi_n (by decide) (by decide) k3]
        rfl
      obtain ⟨z, ez, y, hy, rfl⟩ := ok_lay (fu := fu) (a1 := m_town) (a2 := m_people) (a3 := m_when) (a4 := m_sat) (a5 := m_quiet) (a6 := m_vain) (a7 := m_lent) (a8 := m_forgiven) (a9 := m_sundays) (b1 := m_purse) (b2 := m_beside) (b3 := m_debts) (b4 := m_sitting) (b5 := m_visited) (a10 := m_week) TM (by decide) q2 r2 (by omega)
      rcases rng (fu := fu) p3 7 (by decide) with ⟨i, hi, rfl, t1, t2, t3, t4⟩ | ⟨t1, t2⟩
      · obtain ⟨c, x, x2, h2, c2, c3, c4⟩ := after_eq (fu := fu) (z := ((1 : Int32), y.2.1, y.2.2.1, y.2.2.2.1, y.2.2.2.2.1, y.2.2.2.2.2.1, y.2.2.2.2.2.2.1, y.2.2.2.2.2.2.2.1, y.2.2.2.2.2.2.2.2.1, y.2.2.2.2.2.2.2.2.2.1, y.2.2.2.2.2.2.2.2.2.2.1, y.2.2.2.2.2.2.2.2.2.2.2.1, y.2.2.2.2.2.2.2.2.2.2.2.2.1, y.2.2.2.2.2.2.2.2.2.2.2.2.2.1, y.2.2.2.2.2.2.2.2.2.2.2.2.2.2, nI 1)) (o1 := c_life_people) (f2 := c_life_hated) (f3 := c_life_purse) (f4 := c_life_owed) (f5 := c_life_seat) (f6 := c_life_kept) (f7 := c_life_wasKept) (p8 := c_life_silent) (p9 := c_life_clock) (p10 := c_life_sat) (p11 := c_life_done) (p12 := c_life_first) (p13 := c_life_vain) (p14 := c_life_lent) (p15 := c_life_forgiven) V hwi hpr hha how hM (by decide) hy (by decide) K hy.2.1 hy.2.2.1 rfl (by omega)
        obtain ⟨v, v1, v2, v3, v4, v5, v6, v7, v8, v9⟩ := tellAfter_eq (fu := fu) c4 V.1 hi (by omega)
        refine agr_of v ?_ ?_
        · unfold f_X11_after
          refine ok_bnd (ok_eq q1 ?_)
          rw [if_pos rfl]
          refine ok_bnd (ok_eq r1 ?_)
          rw [if_neg (by decide), if_pos rfl]
          refine ok_bnd (ok_eq c2 ?_)
          exact ok_bnd (ok_eq v1 (ok_some rfl))
        · unfold f_X12_after
          refine ok_bnd (ok_eq ez ?_)
          refine ok_ite (fun q => absurd q i10) (fun _ => ?_)
          refine ok_bnd (ok_eq t1 ?_)
          rw [if_neg i10]
          refine ok_bnd (ok_eq c3 ?_)
          rcases (show i = 0 ∨ i = 1 ∨ i = 2 ∨ i = 3 ∨ i = 4 ∨ i = 5 ∨ i = 6 ∨ i = 7 by omega) with rfl | rfl | rfl | rfl | rfl | rfl | rfl | rfl
          · rw [if_pos (by decide)]
            exact ok_some (v2 rfl)
          · rw [if_neg (by decide)]
            rw [if_pos (by decide)]
            rw [if_neg (by decide)]
            exact ok_bnd (ok_eq (show _ = some v by rw [← v3 rfl]; simp only [hy.2.2.1]) (ok_some rfl))
          · rw [if_neg (by decide)]
            rw [if_neg (by decide)]
            rw [if_pos (by decide)]
            rw [if_pos (by decide)]
            exact ok_bnd (ok_eq (show _ = some v by rw [← v4 rfl]; simp only [hy.2.2.1]) (ok_some rfl))
          · rw [if_neg (by decide)]
            rw [if_neg (by decide)]
            rw [if_neg (by decide)]
            rw [if_pos (by decide)]
            exact ok_some (v5 rfl)
          · rw [if_neg (by decide)]
            rw [if_neg (by decide)]
            rw [if_neg (by decide)]
            rw [if_neg (by decide)]
            rw [if_pos (by decide)]
            exact ok_some (v6 rfl)
          · rw [if_neg (by decide)]
            rw [if_neg (by decide)]
            rw [if_neg (by decide)]
            rw [if_neg (by decide)]
            rw [if_neg (by decide)]
            rw [if_pos (by decide)]
            exact ok_some (v7 rfl)
          · rw [if_neg (by decide)]
            rw [if_neg (by decide)]
            rw [if_neg (by decide)]
            rw [if_neg (by decide)]
            rw [if_neg (by decide)]
            rw [if_neg (by decide)]
            rw [if_pos (by decide)]
            exact ok_some (v8 rfl)
          · rw [if_neg (by decide)]
            rw [if_neg (by decide)]
            rw [if_neg (by decide)]
            rw [if_neg (by decide)]
            rw [if_neg (by decide)]
            rw [if_neg (by decide)]
            rw [if_neg (by decide)]
            exact ok_bnd (ok_eq (show _ = some v by rw [← v9 rfl]; simp only [hy.2.2.1]) (ok_some rfl))
      · have hne : ∀ a : Nat, a ≤ 7 → ¬ p3 = nI a := by
          intro a ha e
          rw [e] at t2
          rcases t2 with t | ⟨_, t, _⟩
          · exact nI_pos (by omega) t
          · exact t (nI_le ha (by decide))
        obtain ⟨c, x, x2, h2, c1, c2, c3, c4⟩ := live_eq (fu := fu) (o1 := c_life_people) (f2 := c_life_hated) (f3 := c_life_purse) (f4 := c_life_owed) (f5 := c_life_seat) (f6 := c_life_kept) (f7 := c_life_wasKept) (p8 := c_life_silent) (p9 := c_life_clock) (p10 := c_life_sat) (p11 := c_life_done) (p12 := c_life_first) (p13 := c_life_vain) (p14 := c_life_lent) (p15 := c_life_forgiven) V hwi hpr hha how hM (by decide) hy (by decide) K (Nat.le_refl d) (by omega)
        refine agr_of (-2) ?_ ?_
        · unfold f_X11_after
          refine ok_bnd (ok_eq q1 ?_)
          rw [if_pos rfl]
          refine ok_bnd (ok_eq r1 ?_)
          rw [if_neg (by decide), if_pos rfl]
          refine ok_bnd (ok_eq c2 ?_)
          unfold f_X1_tellAfter
          rw [if_neg (show ¬ p3 = 0 from hne 0 (by decide))]
          rw [if_neg (show ¬ p3 = 1 from hne 1 (by decide))]
          rw [if_neg (show ¬ p3 = 2 from hne 2 (by decide))]
          rw [if_neg (show ¬ p3 = 3 from hne 3 (by decide))]
          rw [if_neg (show ¬ p3 = 4 from hne 4 (by decide))]
          rw [if_neg (show ¬ p3 = 5 from hne 5 (by decide))]
          rw [if_neg (show ¬ p3 = 6 from hne 6 (by decide))]
          rw [if_neg (show ¬ p3 = 7 from hne 7 (by decide))]
          exact ok_some rfl
        · unfold f_X12_after
          refine ok_bnd (ok_eq ez ?_)
          refine ok_ite (fun q => absurd q i10) (fun _ => ?_)
          refine ok_bnd (ok_eq t1 ?_)
          rw [if_pos i00]
          exact ok_some rfl
  · obtain ⟨hpe, hwi, hpr, hha, how⟩ := TC
    subst hpe
    have hM : ∀ i, i < 6 → m_towns (55 * 1 + 13 + i) = nI (h i) := TM.2.2.2.1
    have hn6 := V.1
    rcases selW (fu := fu) J p2 with ⟨r1, r2⟩ | ⟨rfl, r1, r2, d, K⟩ | ⟨rfl, r1, r2, d, K⟩
    · refine agr_of (-2) ?_ ?_
      · unfold f_X11_after
        refine ok_bnd (ok_eq q1 ?_)
        rw [if_neg (by decide), if_pos rfl]
        refine ok_bnd (ok_eq r1 ?_)
        rw [if_neg (by decide), if_neg (by decide)]
        exact ok_some rfl
      · unfold f_X12_after
        refine ok_bnd (ok_mono (no_lay1 r2) ?_)
        intro z hz
        rw [if_pos hz]
        exact ok_some rfl
    · obtain ⟨k1, rfl, k3, k4, k5⟩ := K
      have K : WkR d (nI d) c_told_weeks0_cells m_weeks (161 * 0) := ⟨k1, rfl, k3, k4, k5⟩
      have ed : f_X12_deeds fu m_weeks (nI 0) = some (nI d) := by
        simp only [f_X12_deeds, show (161 : Int32) = nI 161 from rfl, pk_mul]
        rw [rdi_n (by decide) (by decide) k3]
        rfl
      obtain ⟨z, ez, y, hy, rfl⟩ := ok_lay (fu := fu) (a1 := m_town) (a2 := m_people) (a3 := m_when) (a4 := m_sat) (a5 := m_quiet) (a6 := m_vain) (a7 := m_lent) (a8 := m_forgiven) (a9 := m_sundays) (b1 := m_purse) (b2 := m_beside) (b3 := m_debts) (b4 := m_sitting) (b5 := m_visited) (a10 := m_week) TM (by decide) q2 r2 (by omega)
      rcases rng (fu := fu) p3 7 (by decide) with ⟨i, hi, rfl, t1, t2, t3, t4⟩ | ⟨t1, t2⟩
      · obtain ⟨c, x, x2, h2, c2, c3, c4⟩ := after_eq (fu := fu) (z := ((1 : Int32), y.2.1, y.2.2.1, y.2.2.2.1, y.2.2.2.2.1, y.2.2.2.2.2.1, y.2.2.2.2.2.2.1, y.2.2.2.2.2.2.2.1, y.2.2.2.2.2.2.2.2.1, y.2.2.2.2.2.2.2.2.2.1, y.2.2.2.2.2.2.2.2.2.2.1, y.2.2.2.2.2.2.2.2.2.2.2.1, y.2.2.2.2.2.2.2.2.2.2.2.2.1, y.2.2.2.2.2.2.2.2.2.2.2.2.2.1, y.2.2.2.2.2.2.2.2.2.2.2.2.2.2, nI 0)) (o1 := c_life_people) (f2 := c_life_hated) (f3 := c_life_purse) (f4 := c_life_owed) (f5 := c_life_seat) (f6 := c_life_kept) (f7 := c_life_wasKept) (p8 := c_life_silent) (p9 := c_life_clock) (p10 := c_life_sat) (p11 := c_life_done) (p12 := c_life_first) (p13 := c_life_vain) (p14 := c_life_lent) (p15 := c_life_forgiven) V hwi hpr hha how hM (by decide) hy (by decide) K hy.2.1 hy.2.2.1 rfl (by omega)
        obtain ⟨v, v1, v2, v3, v4, v5, v6, v7, v8, v9⟩ := tellAfter_eq (fu := fu) c4 V.1 hi (by omega)
        refine agr_of v ?_ ?_
        · unfold f_X11_after
          refine ok_bnd (ok_eq q1 ?_)
          rw [if_neg (by decide), if_pos rfl]
          refine ok_bnd (ok_eq r1 ?_)
          rw [if_pos rfl]
          refine ok_bnd (ok_eq c2 ?_)
          exact ok_bnd (ok_eq v1 (ok_some rfl))
        · unfold f_X12_after
          refine ok_bnd (ok_eq ez ?_)
          refine ok_ite (fun q => absurd q i10) (fun _ => ?_)
          refine ok_bnd (ok_eq t1 ?_)
          rw [if_neg i10]
          refine ok_bnd (ok_eq c3 ?_)
          rcases (show i = 0 ∨ i = 1 ∨ i = 2 ∨ i = 3 ∨ i = 4 ∨ i = 5 ∨ i = 6 ∨ i = 7 by omega) with rfl | rfl | rfl | rfl | rfl | rfl | rfl | rfl
          · rw [if_pos (by decide)]
            exact ok_some (v2 rfl)
          · rw [if_neg (by decide)]
            rw [if_pos (by decide)]
            rw [if_neg (by decide)]
            exact ok_bnd (ok_eq (show _ = some v by rw [← v3 rfl]; simp only [hy.2.2.1]) (ok_some rfl))
          · rw [if_neg (by decide)]
            rw [if_neg (by decide)]
            rw [if_pos (by decide)]
            rw [if_pos (by decide)]
            exact ok_bnd (ok_eq (show _ = some v by rw [← v4 rfl]; simp only [hy.2.2.1]) (ok_some rfl))
          · rw [if_neg (by decide)]
            rw [if_neg (by decide)]
            rw [if_neg (by decide)]
            rw [if_pos (by decide)]
            exact ok_some (v5 rfl)
          · rw [if_neg (by decide)]
            rw [if_neg (by decide)]
            rw [if_neg (by decide)]
            rw [if_neg (by decide)]
            rw [if_pos (by decide)]
            exact ok_some (v6 rfl)
          · rw [if_neg (by decide)]
            rw [if_neg (by decide)]
            rw [if_neg (by decide)]
            rw [if_neg (by decide)]
            rw [if_neg (by decide)]
            rw [if_pos (by decide)]
            exact ok_some (v7 rfl)
          · rw [if_neg (by decide)]
            rw [if_neg (by decide)]
            rw [if_neg (by decide)]
            rw [if_neg (by decide)]
            rw [if_neg (by decide)]
            rw [if_neg (by decide)]
            rw [if_pos (by decide)]
            exact ok_some (v8 rfl)
          · rw [if_neg (by decide)]
            rw [if_neg (by decide)]
            rw [if_neg (by decide)]
            rw [if_neg (by decide)]
            rw [if_neg (by decide)]
            rw [if_neg (by decide)]
            rw [if_neg (by decide)]
            exact ok_bnd (ok_eq (show _ = some v by rw [← v9 rfl]; simp only [hy.2.2.1]) (ok_some rfl))
      · have hne : ∀ a : Nat, a ≤ 7 → ¬ p3 = nI a := by
          intro a ha e
          rw [e] at t2
          rcases t2 with t | ⟨_, t, _⟩
          · exact nI_pos (by omega) t
          · exact t (nI_le ha (by decide))
        obtain ⟨c, x, x2, h2, c1, c2, c3, c4⟩ := live_eq (fu := fu) (o1 := c_life_people) (f2 := c_life_hated) (f3 := c_life_purse) (f4 := c_life_owed) (f5 := c_life_seat) (f6 := c_life_kept) (f7 := c_life_wasKept) (p8 := c_life_silent) (p9 := c_life_clock) (p10 := c_life_sat) (p11 := c_life_done) (p12 := c_life_first) (p13 := c_life_vain) (p14 := c_life_lent) (p15 := c_life_forgiven) V hwi hpr hha how hM (by decide) hy (by decide) K (Nat.le_refl d) (by omega)
        refine agr_of (-2) ?_ ?_
        · unfold f_X11_after
          refine ok_bnd (ok_eq q1 ?_)
          rw [if_neg (by decide), if_pos rfl]
          refine ok_bnd (ok_eq r1 ?_)
          rw [if_pos rfl]
          refine ok_bnd (ok_eq c2 ?_)
          unfold f_X1_tellAfter
          rw [if_neg (show ¬ p3 = 0 from hne 0 (by decide))]
          rw [if_neg (show ¬ p3 = 1 from hne 1 (by decide))]
          rw [if_neg (show ¬ p3 = 2 from hne 2 (by decide))]
          rw [if_neg (show ¬ p3 = 3 from hne 3 (by decide))]
          rw [if_neg (show ¬ p3 = 4 from hne 4 (by decide))]
          rw [if_neg (show ¬ p3 = 5 from hne 5 (by decide))]
          rw [if_neg (show ¬ p3 = 6 from hne 6 (by decide))]
          rw [if_neg (show ¬ p3 = 7 from hne 7 (by decide))]
          exact ok_some rfl
        · unfold f_X12_after
          refine ok_bnd (ok_eq ez ?_)
          refine ok_ite (fun q => absurd q i10) (fun _ => ?_)
          refine ok_bnd (ok_eq t1 ?_)
          rw [if_pos i00]
          exact ok_some rfl
    · obtain ⟨k1, rfl, k3, k4, k5⟩ := K
      have K : WkR d (nI d) c_told_weeks1_cells m_weeks (161 * 1) := ⟨k1, rfl, k3, k4, k5⟩
      have ed : f_X12_deeds fu m_weeks (nI 1) = some (nI d) := by
        simp only [f_X12_deeds, show (161 : Int32) = nI 161 from rfl, pk_mul]
        rw [rdi_n (by decide) (by decide) k3]
        rfl
      obtain ⟨z, ez, y, hy, rfl⟩ := ok_lay (fu := fu) (a1 := m_town) (a2 := m_people) (a3 := m_when) (a4 := m_sat) (a5 := m_quiet) (a6 := m_vain) (a7 := m_lent) (a8 := m_forgiven) (a9 := m_sundays) (b1 := m_purse) (b2 := m_beside) (b3 := m_debts) (b4 := m_sitting) (b5 := m_visited) (a10 := m_week) TM (by decide) q2 r2 (by omega)
      rcases rng (fu := fu) p3 7 (by decide) with ⟨i, hi, rfl, t1, t2, t3, t4⟩ | ⟨t1, t2⟩
      · obtain ⟨c, x, x2, h2, c2, c3, c4⟩ := after_eq (fu := fu) (z := ((1 : Int32), y.2.1, y.2.2.1, y.2.2.2.1, y.2.2.2.2.1, y.2.2.2.2.2.1, y.2.2.2.2.2.2.1, y.2.2.2.2.2.2.2.1, y.2.2.2.2.2.2.2.2.1, y.2.2.2.2.2.2.2.2.2.1, y.2.2.2.2.2.2.2.2.2.2.1, y.2.2.2.2.2.2.2.2.2.2.2.1, y.2.2.2.2.2.2.2.2.2.2.2.2.1, y.2.2.2.2.2.2.2.2.2.2.2.2.2.1, y.2.2.2.2.2.2.2.2.2.2.2.2.2.2, nI 1)) (o1 := c_life_people) (f2 := c_life_hated) (f3 := c_life_purse) (f4 := c_life_owed) (f5 := c_life_seat) (f6 := c_life_kept) (f7 := c_life_wasKept) (p8 := c_life_silent) (p9 := c_life_clock) (p10 := c_life_sat) (p11 := c_life_done) (p12 := c_life_first) (p13 := c_life_vain) (p14 := c_life_lent) (p15 := c_life_forgiven) V hwi hpr hha how hM (by decide) hy (by decide) K hy.2.1 hy.2.2.1 rfl (by omega)
        obtain ⟨v, v1, v2, v3, v4, v5, v6, v7, v8, v9⟩ := tellAfter_eq (fu := fu) c4 V.1 hi (by omega)
        refine agr_of v ?_ ?_
        · unfold f_X11_after
          refine ok_bnd (ok_eq q1 ?_)
          rw [if_neg (by decide), if_pos rfl]
          refine ok_bnd (ok_eq r1 ?_)
          rw [if_neg (by decide), if_pos rfl]
          refine ok_bnd (ok_eq c2 ?_)
          exact ok_bnd (ok_eq v1 (ok_some rfl))
        · unfold f_X12_after
          refine ok_bnd (ok_eq ez ?_)
          refine ok_ite (fun q => absurd q i10) (fun _ => ?_)
          refine ok_bnd (ok_eq t1 ?_)
          rw [if_neg i10]
          refine ok_bnd (ok_eq c3 ?_)
          rcases (show i = 0 ∨ i = 1 ∨ i = 2 ∨ i = 3 ∨ i = 4 ∨ i = 5 ∨ i = 6 ∨ i = 7 by omega) with rfl | rfl | rfl | rfl | rfl | rfl | rfl | rfl
          · rw [if_pos (by decide)]
            exact ok_some (v2 rfl)
          · rw [if_neg (by decide)]
            rw [if_pos (by decide)]
            rw [if_neg (by decide)]
            exact ok_bnd (ok_eq (show _ = some v by rw [← v3 rfl]; simp only [hy.2.2.1]) (ok_some rfl))
          · rw [if_neg (by decide)]
            rw [if_neg (by decide)]
            rw [if_pos (by decide)]
            rw [if_pos (by decide)]
            exact ok_bnd (ok_eq (show _ = some v by rw [← v4 rfl]; simp only [hy.2.2.1]) (ok_some rfl))
          · rw [if_neg (by decide)]
            rw [if_neg (by decide)]
            rw [if_neg (by decide)]
            rw [if_pos (by decide)]
            exact ok_some (v5 rfl)
          · rw [if_neg (by decide)]
            rw [if_neg (by decide)]
            rw [if_neg (by decide)]
            rw [if_neg (by decide)]
            rw [if_pos (by decide)]
            exact ok_some (v6 rfl)
          · rw [if_neg (by decide)]
            rw [if_neg (by decide)]
            rw [if_neg (by decide)]
            rw [if_neg (by decide)]
            rw [if_neg (by decide)]
            rw [if_pos (by decide)]
            exact ok_some (v7 rfl)
          · rw [if_neg (by decide)]
            rw [if_neg (by decide)]
            rw [if_neg (by decide)]
            rw [if_neg (by decide)]
            rw [if_neg (by decide)]
            rw [if_neg (by decide)]
            rw [if_pos (by decide)]
            exact ok_some (v8 rfl)
          · rw [if_neg (by decide)]
            rw [if_neg (by decide)]
            rw [if_neg (by decide)]
            rw [if_neg (by decide)]
            rw [if_neg (by decide)]
            rw [if_neg (by decide)]
            rw [if_neg (by decide)]
            exact ok_bnd (ok_eq (show _ = some v by rw [← v9 rfl]; simp only [hy.2.2.1]) (ok_some rfl))
      · have hne : ∀ a : Nat, a ≤ 7 → ¬ p3 = nI a := by
          intro a ha e
          rw [e] at t2
          rcases t2 with t | ⟨_, t, _⟩
          · exact nI_pos (by omega) t
          · exact t (nI_le ha (by decide))
        obtain ⟨c, x, x2, h2, c1, c2, c3, c4⟩ := live_eq (fu := fu) (o1 := c_life_people) (f2 := c_life_hated) (f3 := c_life_purse) (f4 := c_life_owed) (f5 := c_life_seat) (f6 := c_life_kept) (f7 := c_life_wasKept) (p8 := c_life_silent) (p9 := c_life_clock) (p10 := c_life_sat) (p11 := c_life_done) (p12 := c_life_first) (p13 := c_life_vain) (p14 := c_life_lent) (p15 := c_life_forgiven) V hwi hpr hha how hM (by decide) hy (by decide) K (Nat.le_refl d) (by omega)
        refine agr_of (-2) ?_ ?_
        · unfold f_X11_after
          refine ok_bnd (ok_eq q1 ?_)
          rw [if_neg (by decide), if_pos rfl]
          refine ok_bnd (ok_eq r1 ?_)
          rw [if_neg (by decide), if_pos rfl]
          refine ok_bnd (ok_eq c2 ?_)
          unfold f_X1_tellAfter
          rw [if_neg (show ¬ p3 = 0 from hne 0 (by decide))]
          rw [if_neg (show ¬ p3 = 1 from hne 1 (by decide))]
          rw [if_neg (show ¬ p3 = 2 from hne 2 (by decide))]
          rw [if_neg (show ¬ p3 = 3 from hne 3 (by decide))]
          rw [if_neg (show ¬ p3 = 4 from hne 4 (by decide))]
          rw [if_neg (show ¬ p3 = 5 from hne 5 (by decide))]
          rw [if_neg (show ¬ p3 = 6 from hne 6 (by decide))]
          rw [if_neg (show ¬ p3 = 7 from hne 7 (by decide))]
          exact ok_some rfl
        · unfold f_X12_after
          refine ok_bnd (ok_eq ez ?_)
          refine ok_ite (fun q => absurd q i10) (fun _ => ?_)
          refine ok_bnd (ok_eq t1 ?_)
          rw [if_pos i00]
          exact ok_some rfl
theorem A_drawn {fu : Nat} {c_told_counts c_told_towns0_purse c_told_towns0_hated c_told_towns0_owed c_told_towns1_purse c_told_towns1_hated c_told_towns1_owed c_life_hated c_life_purse c_life_owed c_life_seat c_life_kept c_life_wasKept c_told_towns0_wit c_told_towns1_wit m_many m_towns m_purse m_beside m_debts m_sitting m_visited : (Nat → Int32)} {c_told_towns0_people c_told_towns1_people c_life_people c_life_silent c_life_clock c_life_sat c_life_done c_life_first c_life_vain c_life_lent c_life_forgiven c_life_seed m_code m_town m_people m_when m_sat m_quiet m_vain m_lent m_forgiven m_sundays m_seed : Int32} (I : TI c_told_counts c_told_towns0_people c_told_towns0_wit c_told_towns0_purse c_told_towns0_hated c_told_towns0_owed c_told_towns1_people c_told_towns1_wit c_told_towns1_purse c_told_towns1_hated c_told_towns1_owed m_many m_towns) (hf : 1000 ≤ fu) (p1 : Int32) (p2 : Int32) (p3 : Int32) (p4 : Int32) : Agr (f_X11_drawn fu c_told_counts c_told_towns0_people c_told_towns0_purse c_told_towns0_hated c_told_towns0_owed c_told_towns1_people c_told_towns1_purse c_told_towns1_hated c_told_towns1_owed c_life_people c_life_hated c_life_purse c_life_owed c_life_seat c_life_kept c_life_wasKept c_life_silent c_life_clock c_life_sat c_life_done c_life_first c_life_vain c_life_lent c_life_forgiven c_life_seed p1 p2 p3 p4) (fun x => x.1) (f_X12_drawn fu m_code m_many m_towns m_town m_people m_when m_sat m_quiet m_vain m_lent m_forgiven m_sundays m_purse m_beside m_debts m_sitting m_visited m_seed p1 p2 p3 p4) (fun y => y.1) := by
  rcases rng (fu := fu) p3 60 (by decide) with ⟨i, hi, rfl, t1, t2, t3, t4⟩ | ⟨t1, t2⟩
  · rcases selT (fu := fu) I p1 with ⟨q1, q2⟩ | ⟨rfl, q1, q2, n, w, pu, h, o, V, TC, TM⟩ | ⟨rfl, q1, q2, n, w, pu, h, o, V, TC, TM⟩
    · refine agr_of (-1) ?_ ?_
      · unfold f_X11_drawn
        refine ok_bnd (ok_eq q1 ?_)
        rw [if_neg (by decide), if_neg (by decide)]
        exact ok_some rfl
      · unfold f_X12_drawn
        refine ok_bnd (ok_eq t1 ?_)
        rw [if_neg i10]
        refine ok_bnd (ok_mono (no_hand q2) ?_)
        intro y hy
        rw [if_pos hy]
        exact ok_some rfl
    · obtain ⟨hpe, hwi, hpr, hha, how⟩ := TC
      subst hpe
      have hM : ∀ i, i < 6 → m_towns (55 * 0 + 13 + i) = nI (h i) := TM.2.2.2.1
      have hn6 := V.1
      obtain ⟨y, ey, hy⟩ := ok_hand (fu := fu) (a1 := m_town) (a2 := m_people) (a3 := m_when) (a4 := m_sat) (a5 := m_quiet) (a6 := m_vain) (a7 := m_lent) (a8 := m_forgiven) (a9 := m_sundays) (b1 := m_purse) (b2 := m_beside) (b3 := m_debts) (b4 := m_sitting) (b5 := m_visited) TM (by decide) q2 (by omega)
      obtain ⟨x, x2, s2, h2, c2, c3, c4⟩ := drawn_eq (fu := fu) (o1 := c_life_people) (f2 := c_life_hated) (f3 := c_life_purse) (f4 := c_life_owed) (f5 := c_life_seat) (f6 := c_life_kept) (f7 := c_life_wasKept) (p8 := c_life_silent) (p9 := c_life_clock) (p10 := c_life_sat) (p11 := c_life_done) (p12 := c_life_first) (p13 := c_life_vain) (p14 := c_life_lent) (p15 := c_life_forgiven) (p16 := c_life_seed) V hwi hpr hha how hM (by decide) hy p2 hi (by omega)
      obtain ⟨v, v1, v2⟩ := tell_eq (fu := fu) c4 V.1 (by omega) p4
      refine agr_of v ?_ ?_
      · unfold f_X11_drawn
        refine ok_bnd (ok_eq q1 ?_)
        rw [if_pos rfl]
        rw [if_neg t2, show (60 : Int32) = nI 60 from rfl, if_pos t3]
        refine ok_bnd (ok_eq c2 ?_)
        exact ok_bnd (ok_eq v1 (ok_some rfl))
      · unfold f_X12_drawn
        refine ok_bnd (ok_eq t1 ?_)
        rw [if_neg i10]
        refine ok_bnd (ok_eq ey ?_)
        rw [if_neg (by rw [hy.1]; decide)]
        refine ok_bnd (ok_eq c3 ?_)
        exact ok_bnd (ok_eq (show _ = some v by rw [← v2]; simp only [hy.2.2.1]; rfl) (ok_some rfl))
    · obtain ⟨hpe, hwi, hpr, hha, how⟩ := TC
      subst hpe
      have hM : ∀ i, i < 6 → m_towns (55 * 1 + 13 + i) = nI (h i) := TM.2.2.2.1
      have hn6 := V.1
      obtain ⟨y, ey, hy⟩ := ok_hand (fu := fu) (a1 := m_town) (a2 := m_people) (a3 := m_when) (a4 := m_sat) (a5 := m_quiet) (a6 := m_vain) (a7 := m_lent) (a8 := m_forgiven) (a9 := m_sundays) (b1 := m_purse) (b2 := m_beside) (b3 := m_debts) (b4 := m_sitting) (b5 := m_visited) TM (by decide) q2 (by omega)
      obtain ⟨x, x2, s2, h2, c2, c3, c4⟩ := drawn_eq (fu := fu) (o1 := c_life_people) (f2 := c_life_hated) (f3 := c_life_purse) (f4 := c_life_owed) (f5 := c_life_seat) (f6 := c_life_kept) (f7 := c_life_wasKept) (p8 := c_life_silent) (p9 := c_life_clock) (p10 := c_life_sat) (p11 := c_life_done) (p12 := c_life_first) (p13 := c_life_vain) (p14 := c_life_lent) (p15 := c_life_forgiven) (p16 := c_life_seed) V hwi hpr hha how hM (by decide) hy p2 hi (by omega)
      obtain ⟨v, v1, v2⟩ := tell_eq (fu := fu) c4 V.1 (by omega) p4
      refine agr_of v ?_ ?_
      · unfold f_X11_drawn
        refine ok_bnd (ok_eq q1 ?_)
        rw [if_neg (by decide), if_pos rfl]
        rw [if_neg t2, show (60 : Int32) = nI 60 from rfl, if_pos t3]
        refine ok_bnd (ok_eq c2 ?_)
        exact ok_bnd (ok_eq v1 (ok_some rfl))
      · unfold f_X12_drawn
        refine ok_bnd (ok_eq t1 ?_)
        rw [if_neg i10]
        refine ok_bnd (ok_eq ey ?_)
        rw [if_neg (by rw [hy.1]; decide)]
        refine ok_bnd (ok_eq c3 ?_)
        exact ok_bnd (ok_eq (show _ = some v by rw [← v2]; simp only [hy.2.2.1]; rfl) (ok_some rfl))
  · rcases selT (fu := fu) I p1 with ⟨q1, q2⟩ | ⟨rfl, q1, q2, n, w, pu, h, o, V, TC, TM⟩ | ⟨rfl, q1, q2, n, w, pu, h, o, V, TC, TM⟩
    · refine agr_of (-1) ?_ ?_
      · unfold f_X11_drawn
        refine ok_bnd (ok_eq q1 ?_)
        rw [if_neg (by decide), if_neg (by decide)]
        exact ok_some rfl
      · unfold f_X12_drawn
        refine ok_bnd (ok_eq t1 ?_)
        rw [if_pos i00]
        exact ok_some rfl
    · refine agr_of (-1) ?_ ?_
      · unfold f_X11_drawn
        refine ok_bnd (ok_eq q1 ?_)
        rw [if_pos rfl]
        rcases t2 with t2 | ⟨t2, t3, t4⟩
        · rw [if_pos t2]; exact ok_some rfl
        · rw [if_neg t2, show (60 : Int32) = nI 60 from rfl, if_neg t3]; exact ok_some rfl
      · unfold f_X12_drawn
        refine ok_bnd (ok_eq t1 ?_)
        rw [if_pos i00]
        exact ok_some rfl
    · refine agr_of (-1) ?_ ?_
      · unfold f_X11_drawn
        refine ok_bnd (ok_eq q1 ?_)
        rw [if_neg (by decide), if_pos rfl]
        rcases t2 with t2 | ⟨t2, t3, t4⟩
        · rw [if_pos t2]; exact ok_some rfl
        · rw [if_neg t2, show (60 : Int32) = nI 60 from rfl, if_neg t3]; exact ok_some rfl
      · unfold f_X12_drawn
        refine ok_bnd (ok_eq t1 ?_)
        rw [if_pos i00]
        exact ok_some rfl
