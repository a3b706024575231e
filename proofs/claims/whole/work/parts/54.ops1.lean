theorem A_net {fu : Nat} {c_told_counts c_told_towns0_owed c_told_towns1_owed c_told_towns0_wit c_told_towns0_purse c_told_towns0_hated c_told_towns1_wit c_told_towns1_purse c_told_towns1_hated m_many m_towns m_purse m_beside m_debts m_sitting m_visited : (Nat → Int32)} {c_told_towns0_people c_told_towns1_people m_code m_town m_people m_when m_sat m_quiet m_vain m_lent m_forgiven m_sundays : Int32} (I : TI c_told_counts c_told_towns0_people c_told_towns0_wit c_told_towns0_purse c_told_towns0_hated c_told_towns0_owed c_told_towns1_people c_told_towns1_wit c_told_towns1_purse c_told_towns1_hated c_told_towns1_owed m_many m_towns) (hf : 1000 ≤ fu) (p1 : Int32) (p2 : Int32) : Agr (f_X11_net fu c_told_counts c_told_towns0_people c_told_towns0_owed c_told_towns1_people c_told_towns1_owed p1 p2) (fun x => x) (f_X12_net fu m_code m_many m_towns m_town m_people m_when m_sat m_quiet m_vain m_lent m_forgiven m_sundays m_purse m_beside m_debts m_sitting m_visited p1 p2) (fun y => y.1) := by
  rcases selT (fu := fu) I p1 with ⟨q1, q2⟩ | ⟨rfl, q1, q2, n, w, pu, h, o, V, TC, TM⟩ | ⟨rfl, q1, q2, n, w, pu, h, o, V, TC, TM⟩
  · refine agr_of (-999) ?_ ?_
    · unfold f_X11_net
      refine ok_bnd (ok_eq q1 ?_)
      rw [if_neg (by decide), if_neg (by decide)]
      exact ok_some rfl
    · unfold f_X12_net
      refine ok_bnd (ok_mono (no_hand q2) ?_)
      intro y hy
      rw [if_pos hy]
      exact ok_some rfl
  · obtain ⟨hpe, hwi, hpr, hha, how⟩ := TC
    subst hpe
    rcases prs (fu := fu) p2 V.1 with ⟨p, hp, rfl, r1, r2⟩ | ⟨r1, r2⟩
    · have hp6 : p < 6 := Nat.lt_of_lt_of_le hp V.1
      refine agr_of (sNet n o p) ?_ ?_
      · unfold f_X11_net
        refine ok_bnd (ok_eq q1 ?_)
        rw [if_pos rfl]
        refine ok_bnd (ok_eq r1 ?_)
        rw [if_neg (by decide)]
        exact ok_bnd (ok_eq (e_X9_netOf how V.1 hp6 (by omega)) (ok_some rfl))
      · unfold f_X12_net
        refine ok_bnd (ok_mono (ok_hand TM (by decide) q2 (by omega)) ?_)
        intro y hy
        obtain ⟨y1, y2, y3, -, y5, -, y7, -, -⟩ := hy
        rw [if_neg (by rw [y1]; decide), y3]
        refine ok_bnd (ok_eq r2 ?_)
        rw [if_neg (by decide)]
        exact ok_bnd (ok_eq (e_X12_netOf y7 V.1 hp6 (by omega)) (ok_some rfl))
    · refine agr_of (-999) ?_ ?_
      · unfold f_X11_net
        refine ok_bnd (ok_eq q1 ?_)
        rw [if_pos rfl]
        refine ok_bnd (ok_eq r1 ?_)
        rw [if_pos rfl]
        exact ok_some rfl
      · unfold f_X12_net
        refine ok_bnd (ok_mono (ok_hand TM (by decide) q2 (by omega)) ?_)
        intro y hy
        obtain ⟨y1, y2, y3, -⟩ := hy
        rw [if_neg (by rw [y1]; decide), y3]
        refine ok_bnd (ok_eq r2 ?_)
        rw [if_pos rfl]
        exact ok_some rfl
  · obtain ⟨hpe, hwi, hpr, hha, how⟩ := TC
    subst hpe
    rcases prs (fu := fu) p2 V.1 with ⟨p, hp, rfl, r1, r2⟩ | ⟨r1, r2⟩
    · have hp6 : p < 6 := Nat.lt_of_lt_of_le hp V.1
      refine agr_of (sNet n o p) ?_ ?_
      · unfold f_X11_net
        refine ok_bnd (ok_eq q1 ?_)
        rw [if_neg (by decide), if_pos rfl]
        refine ok_bnd (ok_eq r1 ?_)
        rw [if_neg (by decide)]
        exact ok_bnd (ok_eq (e_X9_netOf how V.1 hp6 (by omega)) (ok_some rfl))
      · unfold f_X12_net
        refine ok_bnd (ok_mono (ok_hand TM (by decide) q2 (by omega)) ?_)
        intro y hy
        obtain ⟨y1, y2, y3, -, y5, -, y7, -, -⟩ := hy
        rw [if_neg (by rw [y1]; decide), y3]
        refine ok_bnd (ok_eq r2 ?_)
        rw [if_neg (by decide)]
        exact ok_bnd (ok_eq (e_X12_netOf y7 V.1 hp6 (by omega)) (ok_some rfl))
    · refine agr_of (-999) ?_ ?_
      · unfold f_X11_net
        refine ok_bnd (ok_eq q1 ?_)
        rw [if_neg (by decide), if_pos rfl]
        refine ok_bnd (ok_eq r1 ?_)
        rw [if_pos rfl]
        exact ok_some rfl
      · unfold f_X12_net
        refine ok_bnd (ok_mono (ok_hand TM (by decide) q2 (by omega)) ?_)
        intro y hy
        obtain ⟨y1, y2, y3, -⟩ := hy
        rw [if_neg (by rw [y1]; decide), y3]
        refine ok_bnd (ok_eq r2 ?_)
        rw [if_pos rfl]
        exact ok_some rfl
theorem A_wealth {fu : Nat} {c_told_counts c_told_towns0_purse c_told_towns0_owed c_told_towns1_purse c_told_towns1_owed c_told_towns0_wit c_told_towns0_hated c_told_towns1_wit c_told_towns1_hated m_many m_towns m_purse m_beside m_debts m_sitting m_visited : (Nat → Int32)} {c_told_towns0_people c_told_towns1_people m_code m_town m_people m_when m_sat m_quiet m_vain m_lent m_forgiven m_sundays : Int32} (I : TI c_told_counts c_told_towns0_people c_told_towns0_wit c_told_towns0_purse c_told_towns0_hated c_told_towns0_owed c_told_towns1_people c_told_towns1_wit c_told_towns1_purse c_told_towns1_hated c_told_towns1_owed m_many m_towns) (hf : 1000 ≤ fu) (p1 : Int32) (p2 : Int32) : Agr (f_X11_wealth fu c_told_counts c_told_towns0_people c_told_towns0_purse c_told_towns0_owed c_told_towns1_people c_told_towns1_purse c_told_towns1_owed p1 p2) (fun x => x) (f_X12_wealth fu m_code m_many m_towns m_town m_people m_when m_sat m_quiet m_vain m_lent m_forgiven m_sundays m_purse m_beside m_debts m_sitting m_visited p1 p2) (fun y => y.1) := by
  rcases selT (fu := fu) I p1 with ⟨q1, q2⟩ | ⟨rfl, q1, q2, n, w, pu, h, o, V, TC, TM⟩ | ⟨rfl, q1, q2, n, w, pu, h, o, V, TC, TM⟩
  · refine agr_of (-999) ?_ ?_
    · unfold f_X11_wealth
      refine ok_bnd (ok_eq q1 ?_)
      rw [if_neg (by decide), if_neg (by decide)]
      exact ok_some rfl
    · unfold f_X12_wealth
      refine ok_bnd (ok_mono (no_hand q2) ?_)
      intro y hy
      rw [if_pos hy]
      exact ok_some rfl
  · obtain ⟨hpe, hwi, hpr, hha, how⟩ := TC
    subst hpe
    rcases prs (fu := fu) p2 V.1 with ⟨p, hp, rfl, r1, r2⟩ | ⟨r1, r2⟩
    · have hp6 : p < 6 := Nat.lt_of_lt_of_le hp V.1
      refine agr_of (nI (pu p) + sNet n o p) ?_ ?_
      · unfold f_X11_wealth
        refine ok_bnd (ok_eq q1 ?_)
        rw [if_pos rfl]
        refine ok_bnd (ok_eq r1 ?_)
        rw [if_neg (by decide)]
        exact ok_bnd (ok_eq (e_X9_wealthOf hpr how V.1 hp (by omega)) (ok_some rfl))
      · unfold f_X12_wealth
        refine ok_bnd (ok_mono (ok_hand TM (by decide) q2 (by omega)) ?_)
        intro y hy
        obtain ⟨y1, y2, y3, -, y5, -, y7, -, -⟩ := hy
        rw [if_neg (by rw [y1]; decide), y3]
        refine ok_bnd (ok_eq r2 ?_)
        rw [if_neg (by decide)]
        exact ok_bnd (ok_eq (e_X12_wealthOf y5 y7 V.1 hp6 (by omega)) (ok_some rfl))
    · refine agr_of (-999) ?_ ?_
      · unfold f_X11_wealth
        refine ok_bnd (ok_eq q1 ?_)
        rw [if_pos rfl]
        refine ok_bnd (ok_eq r1 ?_)
        rw [if_pos rfl]
        exact ok_some rfl
      · unfold f_X12_wealth
        refine ok_bnd (ok_mono (ok_hand TM (by decide) q2 (by omega)) ?_)
        intro y hy
        obtain ⟨y1, y2, y3, -⟩ := hy
        rw [if_neg (by rw [y1]; decide), y3]
        refine ok_bnd (ok_eq r2 ?_)
        rw [if_pos rfl]
        exact ok_some rfl
  · obtain ⟨hpe, hwi, hpr, hha, how⟩ := TC
    subst hpe
    rcases prs (fu := fu) p2 V.1 with ⟨p, hp, rfl, r1, r2⟩ | ⟨r1, r2⟩
    · have hp6 : p < 6 := Nat.lt_of_lt_of_le hp V.1
      refine agr_of (nI (pu p) + sNet n o p) ?_ ?_
      · unfold f_X11_wealth
        refine ok_bnd (ok_eq q1 ?_)
        rw [if_neg (by decide), if_pos rfl]
        refine ok_bnd (ok_eq r1 ?_)
        rw [if_neg (by decide)]
        exact ok_bnd (ok_eq (e_X9_wealthOf hpr how V.1 hp (by omega)) (ok_some rfl))
      · unfold f_X12_wealth
        refine ok_bnd (ok_mono (ok_hand TM (by decide) q2 (by omega)) ?_)
        intro y hy
        obtain ⟨y1, y2, y3, -, y5, -, y7, -, -⟩ := hy
        rw [if_neg (by rw [y1]; decide), y3]
        refine ok_bnd (ok_eq r2 ?_)
        rw [if_neg (by decide)]
        exact ok_bnd (ok_eq (e_X12_wealthOf y5 y7 V.1 hp6 (by omega)) (ok_some rfl))
    · refine agr_of (-999) ?_ ?_
      · unfold f_X11_wealth
        refine ok_bnd (ok_eq q1 ?_)
        rw [if_neg (by decide), if_pos rfl]
        refine ok_bnd (ok_eq r1 ?_)
        rw [if_pos rfl]
        exact ok_some rfl
      · unfold f_X12_wealth
        refine ok_bnd (ok_mono (ok_hand TM (by decide) q2 (by omega)) ?_)
        intro y hy
        obtain ⟨y1, y2, y3, -⟩ := hy
        rw [if_neg (by rw [y1]; decide), y3]
        refine ok_bnd (ok_eq r2 ?_)
        rw [if_pos rfl]
        exact ok_some rfl
