theorem A_meet {fu : Nat} {c_told_counts c_told_towns0_hated c_told_towns0_owed c_told_towns1_hated c_told_towns1_owed c_told_towns0_wit c_told_towns0_purse c_told_towns1_wit c_told_towns1_purse m_many m_towns m_purse m_beside m_debts m_sitting m_visited : (Nat → Int32)} {c_told_towns0_people c_told_towns1_people m_code m_town m_people m_when m_sat m_quiet m_vain m_lent m_forgiven m_sundays : Int32} (I : TI c_told_counts c_told_towns0_people c_told_towns0_wit c_told_towns0_purse c_told_towns0_hated c_told_towns0_owed c_told_towns1_people c_told_towns1_wit c_told_towns1_purse c_told_towns1_hated c_told_towns1_owed m_many m_towns) (hf : 1000 ≤ fu) (p1 : Int32) (p2 : Int32) (p3 : Int32) : Agr (f_X11_meet fu c_told_counts c_told_towns0_people c_told_towns0_hated c_told_towns0_owed c_told_towns1_people c_told_towns1_hated c_told_towns1_owed p1 p2 p3) (fun x => x) (f_X12_meet fu m_code m_many m_towns m_town m_people m_when m_sat m_quiet m_vain m_lent m_forgiven m_sundays m_purse m_beside m_debts m_sitting m_visited p1 p2 p3) (fun y => y.1) := by
  rcases selT (fu := fu) I p1 with ⟨q1, q2⟩ | ⟨rfl, q1, q2, n, w, pu, h, o, V, TC, TM⟩ | ⟨rfl, q1, q2, n, w, pu, h, o, V, TC, TM⟩
  · refine agr_of (-1) ?_ ?_
    · unfold f_X11_meet
      refine ok_bnd (ok_eq q1 ?_)
      rw [if_neg (by decide), if_neg (by decide)]
      exact ok_some rfl
    · unfold f_X12_meet
      refine ok_bnd (ok_mono (no_hand q2) ?_)
      intro y hy
      rw [if_pos hy]
      exact ok_some rfl
  · obtain ⟨hpe, hwi, hpr, hha, how⟩ := TC
    subst hpe
    have h9 : ∀ i, i < 36 → o i ≤ 99 := fun i hi => Nat.le_trans (V.2.2.2.2.1 i hi) (by decide)
    have hM : ∀ i, i < 6 → m_towns (55 * 0 + 13 + i) = nI (h i) := TM.2.2.2.1
    have hn6 := V.1
    by_cases h2 : 2 ≤ n
    · refine agr_of (sPart (sPair n (fMee h o p2)) (n * (n - 1) / 2) p3) ?_ ?_
      · unfold f_X11_meet
        refine ok_bnd (ok_eq q1 ?_)
        rw [if_pos rfl]
        rw [show (2 : Int32) = nI 2 from rfl, if_pos (nI_le h2 (by omega))]
        exact ok_bnd (ok_eq (e_X3_ofMeeting hha (fun i hi => V.h64 hi) V.2.2.2.2.2.1 how h9 h2 V.1 (by omega)) (ok_some rfl))
      · unfold f_X12_meet
        refine ok_bnd (ok_mono (ok_hand TM (by decide) q2 (by omega)) ?_)
        intro y hy
        obtain ⟨y1, y2, y3, -, y5, -, y7, -, -⟩ := id hy
        rw [if_neg (by rw [y1]; decide)]
        rw [y3, show (2 : Int32) = nI 2 from rfl, if_pos (nI_le h2 (by omega))]
        refine ok_bnd (ok_eq (e_meet hy (by decide) hM (fun i hi => V.h64 hi) h9 V.1 (by omega)) ?_)
        have hl := sPair_le (f := fMee h o p2) (B := 1) n hn6 (fun a b _ _ => fMee_le a b)
        have hc : 0 < n * (n - 1) / 2 ∧ n * (n - 1) / 2 ≤ 15 ∧ n * (n - 1) ≤ 30 := by
          rcases (show n = 2 ∨ n = 3 ∨ n = 4 ∨ n = 5 ∨ n = 6 by omega) with rfl | rfl | rfl | rfl | rfl <;> decide
        rw [show nI n - 1 = nI (n - 1) by rw [show (1 : Int32) = nI 1 from rfl, pk_sub (by omega)], nI_l (by omega), nI_l (by omega), lN_mul, show (2 : Int64) = lN 2 from rfl, pk_lDiv (by omega) (by decide) (by decide)]
        exact ok_bnd (ok_eq (e_lowest (by omega) hc.1 (by omega) (by omega)).2 (ok_some rfl))
    · refine agr_of (-1) ?_ ?_
      · unfold f_X11_meet
        refine ok_bnd (ok_eq q1 ?_)
        rw [if_pos rfl]
        rw [show (2 : Int32) = nI 2 from rfl, if_neg (nI_ge (by omega) (by decide))]
        exact ok_some rfl
      · unfold f_X12_meet
        refine ok_bnd (ok_mono (ok_hand TM (by decide) q2 (by omega)) ?_)
        intro y hy
        obtain ⟨y1, y2, y3, -, y5, -, y7, -, -⟩ := id hy
        rw [if_neg (by rw [y1]; decide)]
        rw [y3, show (2 : Int32) = nI 2 from rfl, if_neg (nI_ge (by omega) (by decide))]
        exact ok_some rfl
  · obtain ⟨hpe, hwi, hpr, hha, how⟩ := TC
    subst hpe
    have h9 : ∀ i, i < 36 → o i ≤ 99 := fun i hi => Nat.le_trans (V.2.2.2.2.1 i hi) (by decide)
    have hM : ∀ i, i < 6 → m_towns (55 * 1 + 13 + i) = nI (h i) := TM.2.2.2.1
    have hn6 := V.1
    by_cases h2 : 2 ≤ n
    · refine agr_of (sPart (sPair n (fMee h o p2)) (n * (n - 1) / 2) p3) ?_ ?_
      · unfold f_X11_meet
        refine ok_bnd (ok_eq q1 ?_)
        rw [if_neg (by decide), if_pos rfl]
        rw [show (2 : Int32) = nI 2 from rfl, if_pos (nI_le h2 (by omega))]
        exact ok_bnd (ok_eq (e_X3_ofMeeting hha (fun i hi => V.h64 hi) V.2.2.2.2.2.1 how h9 h2 V.1 (by omega)) (ok_some rfl))
      · unfold f_X12_meet
        refine ok_bnd (ok_mono (ok_hand TM (by decide) q2 (by omega)) ?_)
        intro y hy
        obtain ⟨y1, y2, y3, -, y5, -, y7, -, -⟩ := id hy
        rw [if_neg (by rw [y1]; decide)]
        rw [y3, show (2 : Int32) = nI 2 from rfl, if_pos (nI_le h2 (by omega))]
        refine ok_bnd (ok_eq (e_meet hy (by decide) hM (fun i hi => V.h64 hi) h9 V.1 (by omega)) ?_)
        have hl := sPair_le (f := fMee h o p2) (B := 1) n hn6 (fun a b _ _ => fMee_le a b)
        have hc : 0 < n * (n - 1) / 2 ∧ n * (n - 1) / 2 ≤ 15 ∧ n * (n - 1) ≤ 30 := by
          rcases (show n = 2 ∨ n = 3 ∨ n = 4 ∨ n = 5 ∨ n = 6 by omega) with rfl | rfl | rfl | rfl | rfl <;> decide
        rw [show nI n - 1 = nI (n - 1) by rw [show (1 : Int32) = nI 1 from rfl, pk_sub (by omega)], nI_l (by omega), nI_l (by omega), lN_mul, show (2 : Int64) = lN 2 from rfl, pk_lDiv (by omega) (by decide) (by decide)]
        exact ok_bnd (ok_eq (e_lowest (by omega) hc.1 (by omega) (by omega)).2 (ok_some rfl))
    · refine agr_of (-1) ?_ ?_
      · unfold f_X11_meet
        refine ok_bnd (ok_eq q1 ?_)
        rw [if_neg (by decide), if_pos rfl]
        rw [show (2 : Int32) = nI 2 from rfl, if_neg (nI_ge (by omega) (by decide))]
        exact ok_some rfl
      · unfold f_X12_meet
        refine ok_bnd (ok_mono (ok_hand TM (by decide) q2 (by omega)) ?_)
        intro y hy
        obtain ⟨y1, y2, y3, -, y5, -, y7, -, -⟩ := id hy
        rw [if_neg (by rw [y1]; decide)]
        rw [y3, show (2 : Int32) = nI 2 from rfl, if_neg (nI_ge (by omega) (by decide))]
        exact ok_some rfl
theorem A_court {fu : Nat} {c_told_counts c_told_towns0_hated c_told_towns0_owed c_told_towns1_hated c_told_towns1_owed c_told_towns0_wit c_told_towns0_purse c_told_towns1_wit c_told_towns1_purse m_many m_towns m_purse m_beside m_debts m_sitting m_visited : (Nat → Int32)} {c_told_towns0_people c_told_towns1_people m_code m_town m_people m_when m_sat m_quiet m_vain m_lent m_forgiven m_sundays : Int32} (I : TI c_told_counts c_told_towns0_people c_told_towns0_wit c_told_towns0_purse c_told_towns0_hated c_told_towns0_owed c_told_towns1_people c_told_towns1_wit c_told_towns1_purse c_told_towns1_hated c_told_towns1_owed m_many m_towns) (hf : 1000 ≤ fu) (p1 : Int32) (p2 : Int32) (p3 : Int32) : Agr (f_X11_court fu c_told_counts c_told_towns0_people c_told_towns0_hated c_told_towns0_owed c_told_towns1_people c_told_towns1_hated c_told_towns1_owed p1 p2 p3) (fun x => x) (f_X12_court fu m_code m_many m_towns m_town m_people m_when m_sat m_quiet m_vain m_lent m_forgiven m_sundays m_purse m_beside m_debts m_sitting m_visited p1 p2 p3) (fun y => y.1) := by
  rcases selT (fu := fu) I p1 with ⟨q1, q2⟩ | ⟨rfl, q1, q2, n, w, pu, h, o, V, TC, TM⟩ | ⟨rfl, q1, q2, n, w, pu, h, o, V, TC, TM⟩
  · refine agr_of (-1) ?_ ?_
    · unfold f_X11_court
      refine ok_bnd (ok_eq q1 ?_)
      rw [if_neg (by decide), if_neg (by decide)]
      exact ok_some rfl
    · unfold f_X12_court
      refine ok_bnd (ok_mono (no_hand q2) ?_)
      intro y hy
      rw [if_pos hy]
      exact ok_some rfl
  · obtain ⟨hpe, hwi, hpr, hha, how⟩ := TC
    subst hpe
    have h9 : ∀ i, i < 36 → o i ≤ 99 := fun i hi => Nat.le_trans (V.2.2.2.2.1 i hi) (by decide)
    have hM : ∀ i, i < 6 → m_towns (55 * 0 + 13 + i) = nI (h i) := TM.2.2.2.1
    have hn6 := V.1
    rcases prs (fu := fu) p2 V.1 with ⟨p, hp, rfl, r1, r2⟩ | ⟨r1, r2⟩
    · have hp6 : p < 6 := Nat.lt_of_lt_of_le hp V.1
      refine agr_of (if p3 = 0 then nI (sTo n o p (sCrt n h o p)) else nI (sCrt n h o p)) ?_ ?_
      · unfold f_X11_court
        refine ok_bnd (ok_eq q1 ?_)
        rw [if_pos rfl]
        refine ok_bnd (ok_eq r1 ?_)
        rw [if_neg i10]
        exact ok_bnd (ok_eq (e_court_C hha V how hp6 (by omega)) (ok_some rfl))
      · unfold f_X12_court
        refine ok_bnd (ok_mono (ok_hand TM (by decide) q2 (by omega)) ?_)
        intro y hy
        obtain ⟨y1, y2, y3, -, y5, -, y7, -, -⟩ := id hy
        rw [if_neg (by rw [y1]; decide)]
        rw [y3]
        refine ok_bnd (ok_eq r2 ?_)
        rw [if_neg i10]
        obtain ⟨z1, z2⟩ := e_court_M (fu := fu) hy hM (by decide) V hp6 (by omega)
        refine ok_bnd (ok_eq z1 ?_)
        refine ok_ite (fun q => ?_) (fun q => ?_)
        · rw [if_pos q]
          exact ok_bnd (ok_eq (e_X12_owesThem y7 V.1 hp6 (p64 V.1 z2) (by omega)) (ok_some rfl))
        · rw [if_neg q]
          exact ok_some rfl
    · refine agr_of (-1) ?_ ?_
      · unfold f_X11_court
        refine ok_bnd (ok_eq q1 ?_)
        rw [if_pos rfl]
        refine ok_bnd (ok_eq r1 ?_)
        rw [if_pos i00]
        exact ok_some rfl
      · unfold f_X12_court
        refine ok_bnd (ok_mono (ok_hand TM (by decide) q2 (by omega)) ?_)
        intro y hy
        obtain ⟨y1, y2, y3, -, y5, -, y7, -, -⟩ := id hy
        rw [if_neg (by rw [y1]; decide)]
        rw [y3]
        refine ok_bnd (ok_eq r2 ?_)
        rw [if_pos i00]
        exact ok_some rfl
  · obtain ⟨hpe, hwi, hpr, hha, how⟩ := TC
    subst hpe
    have h9 : ∀ i, i < 36 → o i ≤ 99 := fun i hi => Nat.le_trans (V.2.2.2.2.1 i hi) (by decide)
    have hM : ∀ i, i < 6 → m_towns (55 * 1 + 13 + i) = nI (h i) := TM.2.2.2.1
    have hn6 := V.1
    rcases prs (fu := fu) p2 V.1 with ⟨p, hp, rfl, r1, r2⟩ | ⟨r1, r2⟩
    · have hp6 : p < 6 := Nat.lt_of_lt_of_le hp V.1
      refine agr_of (if p3 = 0 then nI (sTo n o p (sCrt n h o p)) else nI (sCrt n h o p)) ?_ ?_
      · unfold f_X11_court
        refine ok_bnd (ok_eq q1 ?_)
        rw [if_neg (by decide), if_pos rfl]
        refine ok_bnd (ok_eq r1 ?_)
        rw [if_neg i10]
        exact ok_bnd (ok_eq (e_court_C hha V how hp6 (by omega)) (ok_some rfl))
      · unfold f_X12_court
        refine ok_bnd (ok_mono (ok_hand TM (by decide) q2 (by omega)) ?_)
        intro y hy
        obtain ⟨y1, y2, y3, -, y5, -, y7, -, -⟩ := id hy
        rw [if_neg (by rw [y1]; decide)]
        rw [y3]
        refine ok_bnd (ok_eq r2 ?_)
        rw [if_neg i10]
        obtain ⟨z1, z2⟩ := e_court_M (fu := fu) hy hM (by decide) V hp6 (by omega)
        refine ok_bnd (ok_eq z1 ?_)
        refine ok_ite (fun q => ?_) (fun q => ?_)
        · rw [if_pos q]
          exact ok_bnd (ok_eq (e_X12_owesThem y7 V.1 hp6 (p64 V.1 z2) (by omega)) (ok_some rfl))
        · rw [if_neg q]
          exact ok_some rfl
    · refine agr_of (-1) ?_ ?_
      · unfold f_X11_court
        refine ok_bnd (ok_eq q1 ?_)
        rw [if_neg (by decide), if_pos rfl]
        refine ok_bnd (ok_eq r1 ?_)
        rw [if_pos i00]
        exact ok_some rfl
      · unfold f_X12_court
        refine ok_bnd (ok_mono (ok_hand TM (by decide) q2 (by omega)) ?_)
        intro y hy
        obtain ⟨y1, y2, y3, -, y5, -, y7, -, -⟩ := id hy
        rw [if_neg (by rw [y1]; decide)]
        rw [y3]
        refine ok_bnd (ok_eq r2 ?_)
        rw [if_pos i00]
        exact ok_some rfl
theorem A_party {fu : Nat} {c_told_counts c_told_towns0_wit c_told_towns0_hated c_told_towns1_wit c_told_towns1_hated c_told_towns0_purse c_told_towns0_owed c_told_towns1_purse c_told_towns1_owed m_many m_towns m_purse m_beside m_debts m_sitting m_visited : (Nat → Int32)} {c_told_towns0_people c_told_towns1_people m_code m_town m_people m_when m_sat m_quiet m_vain m_lent m_forgiven m_sundays : Int32} (I : TI c_told_counts c_told_towns0_people c_told_towns0_wit c_told_towns0_purse c_told_towns0_hated c_told_towns0_owed c_told_towns1_people c_told_towns1_wit c_told_towns1_purse c_told_towns1_hated c_told_towns1_owed m_many m_towns) (hf : 1000 ≤ fu) (p1 : Int32) (p2 : Int32) (p3 : Int32) : Agr (f_X11_party fu c_told_counts c_told_towns0_people c_told_towns0_wit c_told_towns0_hated c_told_towns1_people c_told_towns1_wit c_told_towns1_hated p1 p2 p3) (fun x => x) (f_X12_party fu m_code m_many m_towns m_town m_people m_when m_sat m_quiet m_vain m_lent m_forgiven m_sundays m_purse m_beside m_debts m_sitting m_visited p1 p2 p3) (fun y => y.1) := by
  rcases rng (fu := fu) p2 6 (by decide) with ⟨j, hj, rfl, i1, i2, i3, i4⟩ | ⟨i1, i2⟩
  · rcases selT (fu := fu) I p1 with ⟨q1, q2⟩ | ⟨rfl, q1, q2, n, w, pu, h, o, V, TC, TM⟩ | ⟨rfl, q1, q2, n, w, pu, h, o, V, TC, TM⟩
    · refine agr_of (-1) ?_ ?_
      · unfold f_X11_party
        refine ok_bnd (ok_eq q1 ?_)
        rw [if_neg (by decide), if_neg (by decide)]
        exact ok_some rfl
      · unfold f_X12_party
        refine ok_bnd (ok_eq i1 ?_)
        rw [if_neg i10]
        refine ok_bnd (ok_mono (no_hand q2) ?_)
        intro y hy
        rw [if_pos hy]
        exact ok_some rfl
    · obtain ⟨hpe, hwi, hpr, hha, how⟩ := TC
      subst hpe
      have hM : ∀ i, i < 6 → m_towns (55 * 0 + 13 + i) = nI (h i) := TM.2.2.2.1
      have hW : ∀ i, i < 6 → m_towns (55 * 0 + 1 + i) = nI (w i) := TM.2.1
      have hn6 := V.1
      refine agr_of (if p3 = 0 then encV (fun c => nI (sWit n w c)) (-1) (sPty n w h (nI j)) else enc (sPty n w h (nI j))) ?_ ?_
      · unfold f_X11_party
        refine ok_bnd (ok_eq q1 ?_)
        rw [if_pos rfl]
        exact ok_bnd (ok_eq (e_party_C hwi hha V (by omega)) (ok_some rfl))
      · unfold f_X12_party
        refine ok_bnd (ok_eq i1 ?_)
        rw [if_neg i10]
        refine ok_bnd (ok_mono (ok_hand TM (by decide) q2 (by omega)) ?_)
        intro y hy
        obtain ⟨y1, y2, y3, -, y5, -, y7, -, -⟩ := id hy
        rw [if_neg (by rw [y1]; decide)]
        obtain ⟨z1, z2⟩ := e_party_M (fu := fu) (k := nI j) hy hW hM (by decide) V (by omega)
        refine ok_bnd (ok_eq z1 ?_)
        cases e : sPty n w h (nI j) with
        | none =>
          rw [if_pos (show enc none = -1 from rfl)]
          refine ok_some ?_
          show (-1 : Int32) = _
          split <;> rfl
        | some c =>
          have hc := z2 c e
          have h64 : 2 ^ n ≤ 64 := Nat.pow_le_pow_right (n := 2) (by decide) hn6
          rw [if_neg (show ¬ enc (some c) = -1 from nI_nm1 (by omega))]
          refine ok_ite (fun q => ?_) (fun q => ?_)
          · rw [if_pos q, y2, y3]
            exact ok_bnd (ok_eq (e_X12_witsOf hW (by decide) V.1 (by omega) (by omega)) (ok_some rfl))
          · rw [if_neg q]
            exact ok_some rfl
    · obtain ⟨hpe, hwi, hpr, hha, how⟩ := TC
      subst hpe
      have hM : ∀ i, i < 6 → m_towns (55 * 1 + 13 + i) = nI (h i) := TM.2.2.2.1
      have hW : ∀ i, i < 6 → m_towns (55 * 1 + 1 + i) = nI (w i) := TM.2.1
      have hn6 := V.1
      refine agr_of (if p3 = 0 then encV (fun c => nI (sWit n w c)) (-1) (sPty n w h (nI j)) else enc (sPty n w h (nI j))) ?_ ?_
      · unfold f_X11_party
        refine ok_bnd (ok_eq q1 ?_)
        rw [if_neg (by decide), if_pos rfl]
        exact ok_bnd (ok_eq (e_party_C hwi hha V (by omega)) (ok_some rfl))
      · unfold f_X12_party
        refine ok_bnd (ok_eq i1 ?_)
        rw [if_neg i10]
        refine ok_bnd (ok_mono (ok_hand TM (by decide) q2 (by omega)) ?_)
        intro y hy
        obtain ⟨y1, y2, y3, -, y5, -, y7, -, -⟩ := id hy
        rw [if_neg (by rw [y1]; decide)]
        obtain ⟨z1, z2⟩ := e_party_M (fu := fu) (k := nI j) hy hW hM (by decide) V (by omega)
        refine ok_bnd (ok_eq z1 ?_)
        cases e : sPty n w h (nI j) with
        | none =>
          rw [if_pos (show enc none = -1 from rfl)]
          refine ok_some ?_
          show (-1 : Int32) = _
          split <;> rfl
        | some c =>
          have hc := z2 c e
          have h64 : 2 ^ n ≤ 64 := Nat.pow_le_pow_right (n := 2) (by decide) hn6
          rw [if_neg (show ¬ enc (some c) = -1 from nI_nm1 (by omega))]
          refine ok_ite (fun q => ?_) (fun q => ?_)
          · rw [if_pos q, y2, y3]
            exact ok_bnd (ok_eq (e_X12_witsOf hW (by decide) V.1 (by omega) (by omega)) (ok_some rfl))
          · rw [if_neg q]
            exact ok_some rfl
  · rcases selT (fu := fu) I p1 with ⟨q1, q2⟩ | ⟨rfl, q1, q2, n, w, pu, h, o, V, TC, TM⟩ | ⟨rfl, q1, q2, n, w, pu, h, o, V, TC, TM⟩
    · refine agr_of (-1) ?_ ?_
      · unfold f_X11_party
        refine ok_bnd (ok_eq q1 ?_)
        rw [if_neg (by decide), if_neg (by decide)]
        exact ok_some rfl
      · unfold f_X12_party
        refine ok_bnd (ok_eq i1 ?_)
        rw [if_pos i00]
        exact ok_some rfl
    · obtain ⟨hpe, hwi, hpr, hha, how⟩ := TC
      subst hpe
      refine agr_of (-1) ?_ ?_
      · unfold f_X11_party
        refine ok_bnd (ok_eq q1 ?_)
        rw [if_pos rfl]
        refine ok_bnd (ok_eq (e_party_C hwi hha V (by omega)) (ok_some ?_))
        rw [sPty_no V.1 (fun j hj e => ?_)]
        · split <;> rfl
        · rw [← e] at i2
          rcases i2 with i2 | ⟨i2, i3, i4⟩
          · exact nI_pos (by omega) i2
          · exact i3 (nI_le hj (by decide))
      · unfold f_X12_party
        refine ok_bnd (ok_eq i1 ?_)
        rw [if_pos i00]
        exact ok_some rfl
    · obtain ⟨hpe, hwi, hpr, hha, how⟩ := TC
      subst hpe
      refine agr_of (-1) ?_ ?_
      · unfold f_X11_party
        refine ok_bnd (ok_eq q1 ?_)
        rw [if_neg (by decide), if_pos rfl]
        refine ok_bnd (ok_eq (e_party_C hwi hha V (by omega)) (ok_some ?_))
        rw [sPty_no V.1 (fun j hj e => ?_)]
        · split <;> rfl
        · rw [← e] at i2
          rcases i2 with i2 | ⟨i2, i3, i4⟩
          · exact nI_pos (by omega) i2
          · exact i3 (nI_le hj (by decide))
      · unfold f_X12_party
        refine ok_bnd (ok_eq i1 ?_)
        rw [if_pos i00]
        exact ok_some rfl
