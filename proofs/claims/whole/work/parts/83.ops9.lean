theorem A_settled {fu : Nat} {c_told_counts c_told_towns0_owed c_told_towns1_owed c_purses_sums c_purses_table c_told_towns0_wit c_told_towns0_purse c_told_towns0_hated c_told_towns1_wit c_told_towns1_purse c_told_towns1_hated m_many m_towns m_purse m_beside m_debts m_sitting m_visited m_heaps : (Nat → Int32)} {c_told_towns0_people c_told_towns1_people m_code m_town m_people m_when m_sat m_quiet m_vain m_lent m_forgiven m_sundays : Int32} (I : TI c_told_counts c_told_towns0_people c_told_towns0_wit c_told_towns0_purse c_told_towns0_hated c_told_towns0_owed c_told_towns1_people c_told_towns1_wit c_told_towns1_purse c_told_towns1_hated c_told_towns1_owed m_many m_towns) (hf : 1000 ≤ fu) (p1 : Int32) : Agr (f_X11_settled fu c_told_counts c_told_towns0_people c_told_towns0_owed c_told_towns1_people c_told_towns1_owed c_purses_sums c_purses_table p1) (fun x => x.1) (f_X12_settled fu m_code m_many m_towns m_town m_people m_when m_sat m_quiet m_vain m_lent m_forgiven m_sundays m_purse m_beside m_debts m_sitting m_visited m_heaps p1) (fun y => y.1) := by
  rcases selT (fu := fu) I p1 with ⟨q1, q2⟩ | ⟨rfl, q1, q2, n, w, pu, h, o, V, TC, TM⟩ | ⟨rfl, q1, q2, n, w, pu, h, o, V, TC, TM⟩
  · refine agr_of (-1) ?_ ?_
    · unfold f_X11_settled
      refine ok_bnd (ok_eq q1 ?_)
      rw [if_neg (by decide), if_neg (by decide)]
      exact ok_some rfl
    · unfold f_X12_settled
      refine ok_bnd (ok_mono (no_hand q2) ?_)
      intro y hy
      rw [if_pos hy]
      exact ok_some rfl
  · obtain ⟨hpe, hwi, hpr, hha, how⟩ := TC
    subst hpe
    have hn6 := V.1
    have h64 := pw64 V.1
    have hpos := Nat.two_pow_pos n
    refine agr_of (nI n - nI (cS n o (2 ^ n - 1))) ?_ ?_
    · unfold f_X11_settled
      refine ok_bnd (ok_eq q1 ?_)
      rw [if_pos rfl]
      exact ok_bnd (ok_mono (ok_X4_few how V.1 (by omega)) (fun x hx => ok_some hx))
    · unfold f_X12_settled
      refine ok_bnd (ok_mono (ok_hand TM (by decide) q2 (by omega)) ?_)
      intro y hy
      obtain ⟨y1, y2, y3, -, y5, -, y7, -, -⟩ := id hy
      rw [if_neg (by rw [y1]; decide)]
      refine ok_bnd (ok_eq (wri_n (n := 64) (k := 0) (by decide) (by decide)) ?_)
      refine ok_bnd (ok_mono (ok_settled hy V.1 pk_us (by omega)) ?_)
      intro T hT
      rw [y3, jshl_1' V.1, show (1 : Int32) = nI 1 from rfl, pk_sub (by omega), rdi_n (show 2 ^ n - 1 < 64 by omega) (by decide) (hT _ (by omega) (sS_all V.1)), bnd_some]
      exact ok_some rfl
  · obtain ⟨hpe, hwi, hpr, hha, how⟩ := TC
    subst hpe
    have hn6 := V.1
    have h64 := pw64 V.1
    have hpos := Nat.two_pow_pos n
    refine agr_of (nI n - nI (cS n o (2 ^ n - 1))) ?_ ?_
    · unfold f_X11_settled
      refine ok_bnd (ok_eq q1 ?_)
      rw [if_neg (by decide), if_pos rfl]
      exact ok_bnd (ok_mono (ok_X4_few how V.1 (by omega)) (fun x hx => ok_some hx))
    · unfold f_X12_settled
      refine ok_bnd (ok_mono (ok_hand TM (by decide) q2 (by omega)) ?_)
      intro y hy
      obtain ⟨y1, y2, y3, -, y5, -, y7, -, -⟩ := id hy
      rw [if_neg (by rw [y1]; decide)]
      refine ok_bnd (ok_eq (wri_n (n := 64) (k := 0) (by decide) (by decide)) ?_)
      refine ok_bnd (ok_mono (ok_settled hy V.1 pk_us (by omega)) ?_)
      intro T hT
      rw [y3, jshl_1' V.1, show (1 : Int32) = nI 1 from rfl, pk_sub (by omega), rdi_n (show 2 ^ n - 1 < 64 by omega) (by decide) (hT _ (by omega) (sS_all V.1)), bnd_some]
      exact ok_some rfl
