theorem A_talk {fu : Nat} {c_told_counts c_told_towns0_owed c_told_towns1_owed c_told_towns0_wit c_told_towns0_purse c_told_towns0_hated c_told_towns1_wit c_told_towns1_purse c_told_towns1_hated m_many m_towns m_purse m_beside m_debts m_sitting m_visited : (Nat → Int32)} {c_told_towns0_people c_told_towns1_people m_code m_town m_people m_when m_sat m_quiet m_vain m_lent m_forgiven m_sundays : Int32} {c_purses_chances : (Nat → Int64)} (I : TI c_told_counts c_told_towns0_people c_told_towns0_wit c_told_towns0_purse c_told_towns0_hated c_told_towns0_owed c_told_towns1_people c_told_towns1_wit c_told_towns1_purse c_told_towns1_hated c_told_towns1_owed m_many m_towns) (hf : 1000 ≤ fu) (p1 : Int32) (p2 : Int32) (p3 : Int32) (p4 : Int32) (p5 : Int32) : Agr (f_X11_talk fu c_told_counts c_told_towns0_people c_told_towns0_owed c_told_towns1_people c_told_towns1_owed c_purses_chances p1 p2 p3 p4 p5) (fun x => x.1) (f_X12_talk fu m_code m_many m_towns m_town m_people m_when m_sat m_quiet m_vain m_lent m_forgiven m_sundays m_purse m_beside m_debts m_sitting m_visited p1 p2 p3 p4 p5) (fun y => y.1) := by
  rcases rng (fu := fu) p3 10 (by decide) with ⟨p, hp, rfl, i1, i2, i3, i4⟩ | ⟨i1, i2⟩
  · rcases rng (fu := fu) p4 12 (by decide) with ⟨m, hm, rfl, j1, j2, j3, j4⟩ | ⟨j1, j2⟩
    · rcases selT (fu := fu) I p1 with ⟨q1, q2⟩ | ⟨rfl, q1, q2, n, w, pu, h, o, V, TC, TM⟩ | ⟨rfl, q1, q2, n, w, pu, h, o, V, TC, TM⟩
      · refine agr_of (-1) ?_ ?_
        · unfold f_X11_talk
          refine ok_bnd (ok_eq q1 ?_)
          rw [if_neg (by decide), if_neg (by decide)]
          exact ok_some rfl
        · unfold f_X12_talk
          refine ok_bnd (ok_eq i1 ?_)
          rw [if_neg i10]
          refine ok_bnd (ok_eq j1 ?_)
          rw [if_neg i10]
          refine ok_bnd (ok_mono (no_hand q2) ?_)
          intro y hy
          rw [if_pos hy]
          exact ok_some rfl
      · obtain ⟨hpe, hwi, hpr, hha, how⟩ := TC
        subst hpe
        have h9 : ∀ i, i < 36 → o i ≤ 99 := fun i hi => Nat.le_trans (V.2.2.2.2.1 i hi) (by decide)
        have hn6 := V.1
        rcases prs (fu := fu) p2 V.1 with ⟨a, ha, rfl, r1, r2⟩ | ⟨r1, r2⟩
        · have ho := sOwes_le V.1 (show a < 6 by omega) h9
          refine agr_of (sPart (sT p m (sOwes n o a)) (10 ^ m) p5) ?_ ?_
          · unfold f_X11_talk
            refine ok_bnd (ok_eq q1 ?_)
            rw [if_pos rfl]
            refine ok_bnd (ok_eq r1 ?_)
            rw [if_neg i10, if_neg i2, show (10 : Int32) = nI 10 from rfl, if_neg i4, if_neg j2, show (12 : Int32) = nI 12 from rfl, if_pos j3]
            refine ok_bnd (ok_eq (e_X9_owesInAll how V.1 (by omega) (by omega)) ?_)
            exact ok_bnd (ok_mono (ok_X4_odds hp hm (by omega) hf) (fun x hx => ok_some hx))
          · unfold f_X12_talk
            refine ok_bnd (ok_eq i1 ?_)
            rw [if_neg i10]
            refine ok_bnd (ok_eq j1 ?_)
            rw [if_neg i10]
            refine ok_bnd (ok_mono (ok_hand TM (by decide) q2 (by omega)) ?_)
            intro y hy
            obtain ⟨y1, y2, y3, -, y5, -, y7, -, -⟩ := id hy
            rw [if_neg (by rw [y1]; decide)]
            rw [y3]
            refine ok_bnd (ok_eq r2 ?_)
            rw [if_neg i10]
            refine ok_bnd (ok_eq (e_talk hy V.1 ha hp hm h9 hf) ?_)
            refine ok_bnd (ok_eq (e_power (x := 10) (k := m) (by omega) hf) ?_)
            have t1 := ten_le hm
            exact ok_bnd (ok_eq (e_lowest (sT_le hp hm) (Nat.pow_pos (by decide)) (by omega) (by omega)).2 (ok_some rfl))
        · refine agr_of (-1) ?_ ?_
          · unfold f_X11_talk
            refine ok_bnd (ok_eq q1 ?_)
            rw [if_pos rfl]
            refine ok_bnd (ok_eq r1 ?_)
            rw [if_pos i00]
            exact ok_some rfl
          · unfold f_X12_talk
            refine ok_bnd (ok_eq i1 ?_)
            rw [if_neg i10]
            refine ok_bnd (ok_eq j1 ?_)
            rw [if_neg i10]
            refine ok_bnd (ok_mono (ok_hand TM (by decide) q2 (by omega)) ?_)
            intro y hy
            obtain ⟨y1, y2, y3, -, y5, -, y7, -, -⟩ := id hy
            rw [if_neg (by rw [y1]; decide)]
            rw [y3]
            refine ok_bnd (ok_eq r2 ?_)
            rw [if_pos i00]
            exact ok_some rfl
      · obtain ⟨hpe, hwi, hpr, hha, how⟩ := TC
        subst hpe
        have h9 : ∀ i, i < 36 → o i ≤ 99 := fun i hi => Nat.le_trans (V.2.2.2.2.1 i hi) (by decide)
        have hn6 := V.1
        rcases prs (fu := fu) p2 V.1 with ⟨a, ha, rfl, r1, r2⟩ | ⟨r1, r2⟩
        · have ho := sOwes_le V.1 (show a < 6 by omega) h9
          refine agr_of (sPart (sT p m (sOwes n o a)) (10 ^ m) p5) ?_ ?_
          · unfold f_X11_talk
            refine ok_bnd (ok_eq q1 ?_)
            rw [if_neg (by decide), if_pos rfl]
            refine ok_bnd (ok_eq r1 ?_)
            rw [if_neg i10, if_neg i2, show (10 : Int32) = nI 10 from rfl, if_neg i4, if_neg j2, show (12 : Int32) = nI 12 from rfl, if_pos j3]
            refine ok_bnd (ok_eq (e_X9_owesInAll how V.1 (by omega) (by omega)) ?_)
            exact ok_bnd (ok_mono (ok_X4_odds hp hm (by omega) hf) (fun x hx => ok_some hx))
          · unfold f_X12_talk
            refine ok_bnd (ok_eq i1 ?_)
            rw [if_neg i10]
            refine ok_bnd (ok_eq j1 ?_)
            rw [if_neg i10]
            refine ok_bnd (ok_mono (ok_hand TM (by decide) q2 (by omega)) ?_)
            intro y hy
            obtain ⟨y1, y2, y3, -, y5, -, y7, -, -⟩ := id hy
            rw [if_neg (by rw [y1]; decide)]
            rw [y3]
            refine ok_bnd (ok_eq r2 ?_)
            rw [if_neg i10]
            refine ok_bnd (ok_eq (e_talk hy V.1 ha hp hm h9 hf) ?_)
            refine ok_bnd (ok_eq (e_power (x := 10) (k := m) (by omega) hf) ?_)
            have t1 := ten_le hm
            exact ok_bnd (ok_eq (e_lowest (sT_le hp hm) (Nat.pow_pos (by decide)) (by omega) (by omega)).2 (ok_some rfl))
        · refine agr_of (-1) ?_ ?_
          · unfold f_X11_talk
            refine ok_bnd (ok_eq q1 ?_)
            rw [if_neg (by decide), if_pos rfl]
            refine ok_bnd (ok_eq r1 ?_)
            rw [if_pos i00]
            exact ok_some rfl
          · unfold f_X12_talk
            refine ok_bnd (ok_eq i1 ?_)
            rw [if_neg i10]
            refine ok_bnd (ok_eq j1 ?_)
            rw [if_neg i10]
            refine ok_bnd (ok_mono (ok_hand TM (by decide) q2 (by omega)) ?_)
            intro y hy
            obtain ⟨y1, y2, y3, -, y5, -, y7, -, -⟩ := id hy
            rw [if_neg (by rw [y1]; decide)]
            rw [y3]
            refine ok_bnd (ok_eq r2 ?_)
            rw [if_pos i00]
            exact ok_some rfl
    · rcases selT (fu := fu) I p1 with ⟨q1, q2⟩ | ⟨rfl, q1, q2, n, w, pu, h, o, V, TC, TM⟩ | ⟨rfl, q1, q2, n, w, pu, h, o, V, TC, TM⟩
      · refine agr_of (-1) ?_ ?_
        · unfold f_X11_talk
          refine ok_bnd (ok_eq q1 ?_)
          rw [if_neg (by decide), if_neg (by decide)]
          exact ok_some rfl
        · unfold f_X12_talk
          refine ok_bnd (ok_eq i1 ?_)
          rw [if_neg i10]
          refine ok_bnd (ok_eq j1 ?_)
          rw [if_pos i00]
          exact ok_some rfl
      · obtain ⟨hpe, hwi, hpr, hha, how⟩ := TC
        subst hpe
        refine agr_of (-1) ?_ ?_
        · unfold f_X11_talk
          refine ok_bnd (ok_eq q1 ?_)
          rw [if_pos rfl]
          rcases prs (fu := fu) p2 V.1 with ⟨a, ha, rfl, r1, r2⟩ | ⟨r1, r2⟩
          · refine ok_bnd (ok_eq r1 ?_)
            rw [if_neg i10]
            rw [if_neg i2, show (10 : Int32) = nI 10 from rfl, if_neg i4]
            rcases j2 with j2 | ⟨j2, j3, j4⟩
            · rw [if_pos j2]; exact ok_some rfl
            · rw [if_neg j2, show (12 : Int32) = nI 12 from rfl, if_neg j3]; exact ok_some rfl
          · refine ok_bnd (ok_eq r1 ?_)
            rw [if_pos i00]
            exact ok_some rfl
        · unfold f_X12_talk
          refine ok_bnd (ok_eq i1 ?_)
          rw [if_neg i10]
          refine ok_bnd (ok_eq j1 ?_)
          rw [if_pos i00]
          exact ok_some rfl
      · obtain ⟨hpe, hwi, hpr, hha, how⟩ := TC
        subst hpe
        refine agr_of (-1) ?_ ?_
        · unfold f_X11_talk
          refine ok_bnd (ok_eq q1 ?_)
          rw [if_neg (by decide), if_pos rfl]
          rcases prs (fu := fu) p2 V.1 with ⟨a, ha, rfl, r1, r2⟩ | ⟨r1, r2⟩
          · refine ok_bnd (ok_eq r1 ?_)
            rw [if_neg i10]
            rw [if_neg i2, show (10 : Int32) = nI 10 from rfl, if_neg i4]
            rcases j2 with j2 | ⟨j2, j3, j4⟩
            · rw [if_pos j2]; exact ok_some rfl
            · rw [if_neg j2, show (12 : Int32) = nI 12 from rfl, if_neg j3]; exact ok_some rfl
          · refine ok_bnd (ok_eq r1 ?_)
            rw [if_pos i00]
            exact ok_some rfl
        · unfold f_X12_talk
          refine ok_bnd (ok_eq i1 ?_)
          rw [if_neg i10]
          refine ok_bnd (ok_eq j1 ?_)
          rw [if_pos i00]
          exact ok_some rfl
  · rcases selT (fu := fu) I p1 with ⟨q1, q2⟩ | ⟨rfl, q1, q2, n, w, pu, h, o, V, TC, TM⟩ | ⟨rfl, q1, q2, n, w, pu, h, o, V, TC, TM⟩
    · refine agr_of (-1) ?_ ?_
      · unfold f_X11_talk
        refine ok_bnd (ok_eq q1 ?_)
        rw [if_neg (by decide), if_neg (by decide)]
        exact ok_some rfl
      · unfold f_X12_talk
        refine ok_bnd (ok_eq i1 ?_)
        rw [if_pos i00]
        exact ok_some rfl
    · obtain ⟨hpe, hwi, hpr, hha, how⟩ := TC
      subst hpe
      refine agr_of (-1) ?_ ?_
      · unfold f_X11_talk
        refine ok_bnd (ok_eq q1 ?_)
        rw [if_pos rfl]
        rcases prs (fu := fu) p2 V.1 with ⟨a, ha, rfl, r1, r2⟩ | ⟨r1, r2⟩
        · refine ok_bnd (ok_eq r1 ?_)
          rw [if_neg i10]
          rcases i2 with i2 | ⟨i2, i3, i4⟩
          · rw [if_pos i2]; exact ok_some rfl
          · rw [if_neg i2, show (10 : Int32) = nI 10 from rfl, if_pos i4]; exact ok_some rfl
        · refine ok_bnd (ok_eq r1 ?_)
          rw [if_pos i00]
          exact ok_some rfl
      · unfold f_X12_talk
        refine ok_bnd (ok_eq i1 ?_)
        rw [if_pos i00]
        exact ok_some rfl
    · obtain ⟨hpe, hwi, hpr, hha, how⟩ := TC
      subst hpe
      refine agr_of (-1) ?_ ?_
      · unfold f_X11_talk
        refine ok_bnd (ok_eq q1 ?_)
        rw [if_neg (by decide), if_pos rfl]
        rcases prs (fu := fu) p2 V.1 with ⟨a, ha, rfl, r1, r2⟩ | ⟨r1, r2⟩
        · refine ok_bnd (ok_eq r1 ?_)
          rw [if_neg i10]
          rcases i2 with i2 | ⟨i2, i3, i4⟩
          · rw [if_pos i2]; exact ok_some rfl
          · rw [if_neg i2, show (10 : Int32) = nI 10 from rfl, if_pos i4]; exact ok_some rfl
        · refine ok_bnd (ok_eq r1 ?_)
          rw [if_pos i00]
          exact ok_some rfl
      · unfold f_X12_talk
        refine ok_bnd (ok_eq i1 ?_)
        rw [if_pos i00]
        exact ok_some rfl
