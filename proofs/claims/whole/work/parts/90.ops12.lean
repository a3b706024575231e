theorem A_choice {fu : Nat} {c_told_counts c_told_towns0_wit c_told_towns0_hated c_told_towns1_wit c_told_towns1_hated c_told_towns0_purse c_told_towns0_owed c_told_towns1_purse c_told_towns1_owed m_many m_towns m_purse m_beside m_debts m_sitting m_visited m_more : (Nat → Int32)} {c_told_towns0_people c_told_towns1_people m_code m_town m_people m_when m_sat m_quiet m_vain m_lent m_forgiven m_sundays m_firstOne : Int32} (I : TI c_told_counts c_told_towns0_people c_told_towns0_wit c_told_towns0_purse c_told_towns0_hated c_told_towns0_owed c_told_towns1_people c_told_towns1_wit c_told_towns1_purse c_told_towns1_hated c_told_towns1_owed m_many m_towns) (hf : 1000 ≤ fu) (p1 : Int32) (p2 : Int32) (p3 : Int32) : Agr (f_X11_choice fu c_told_counts c_told_towns0_people c_told_towns0_wit c_told_towns0_hated c_told_towns1_people c_told_towns1_wit c_told_towns1_hated p1 p2 p3) (fun x => x) (f_X12_choice fu m_code m_many m_towns m_town m_people m_when m_sat m_quiet m_vain m_lent m_forgiven m_sundays m_purse m_beside m_debts m_sitting m_visited m_more m_firstOne p1 p2 p3) (fun y => y.1) := by
  rcases rng (fu := fu) p2 5 (by decide) with ⟨j, hj, rfl, i1, i2, i3, i4⟩ | ⟨i1, i2⟩
  · rcases selT (fu := fu) I p1 with ⟨q1, q2⟩ | ⟨rfl, q1, q2, n, w, pu, h, o, V, TC, TM⟩ | ⟨rfl, q1, q2, n, w, pu, h, o, V, TC, TM⟩
    · refine agr_of (-999) ?_ ?_
      · unfold f_X11_choice
        refine ok_bnd (ok_eq q1 ?_)
        rw [if_neg (by decide), if_neg (by decide)]
        exact ok_some rfl
      · unfold f_X12_choice
        refine ok_bnd (ok_eq i1 ?_)
        rw [if_neg (by decide)]
        refine ok_bnd (ok_mono (no_hand q2) ?_)
        intro y hy
        rw [if_pos hy]
        exact ok_some rfl
    · obtain ⟨hpe, hwi, hpr, hha, how⟩ := TC
      subst hpe
      have hM : ∀ i, i < 6 → m_towns (55 * 0 + 13 + i) = nI (h i) := TM.2.2.2.1
      have hW : ∀ i, i < 6 → m_towns (55 * 0 + 1 + i) = nI (w i) := TM.2.1
      refine agr_of (if p3 = 0 then (topF n w h j).1 else (topF n w h j).2) ?_ ?_
      · unfold f_X11_choice
        refine ok_bnd (ok_eq q1 ?_)
        rw [if_pos rfl]
        rw [if_neg i2, show (5 : Int32) = nI 5 from rfl, if_pos i3]
        exact ok_bnd (ok_eq (e_bestChoice hwi hha (fun i hi => V.h64 hi) V.2.1 V.1 hj (by omega)) (ok_some rfl))
      · unfold f_X12_choice
        refine ok_bnd (ok_eq i1 ?_)
        rw [if_neg (by decide)]
        refine ok_bnd (ok_mono (ok_hand TM (by decide) q2 (by omega)) ?_)
        intro y hy
        obtain ⟨y1, y2, y3, -, y5, -, y7, -, -⟩ := id hy
        rw [if_neg (by rw [y1]; decide)]
        rw [y3]
        refine ok_bnd (ok_eq (e_threes V.1 (by omega)) (ok_ltn ?_))
        refine ok_bnd (ok_mono (ok_choice hy hW hM (by decide) V.2.1 (fun i hi => V.h64 hi) V.1 hj (by omega)) ?_)
        rintro ⟨T, fo⟩ hT
        have hT : (T 0, fo) = topF n w h j := hT
        by_cases q : p3 = 0
        · rw [if_pos q]
          exact ok_bnd (ok_eq (rdi_n (n := 729) (k := 0) (by decide) (by decide) rfl) (ok_some (by rw [if_pos q, ← hT])))
        · rw [if_neg q]
          exact ok_some (by rw [if_neg q, ← hT])
    · obtain ⟨hpe, hwi, hpr, hha, how⟩ := TC
      subst hpe
      have hM : ∀ i, i < 6 → m_towns (55 * 1 + 13 + i) = nI (h i) := TM.2.2.2.1
      have hW : ∀ i, i < 6 → m_towns (55 * 1 + 1 + i) = nI (w i) := TM.2.1
      refine agr_of (if p3 = 0 then (topF n w h j).1 else (topF n w h j).2) ?_ ?_
      · unfold f_X11_choice
        refine ok_bnd (ok_eq q1 ?_)
        rw [if_neg (by decide), if_pos rfl]
        rw [if_neg i2, show (5 : Int32) = nI 5 from rfl, if_pos i3]
        exact ok_bnd (ok_eq (e_bestChoice hwi hha (fun i hi => V.h64 hi) V.2.1 V.1 hj (by omega)) (ok_some rfl))
      · unfold f_X12_choice
        refine ok_bnd (ok_eq i1 ?_)
        rw [if_neg (by decide)]
        refine ok_bnd (ok_mono (ok_hand TM (by decide) q2 (by omega)) ?_)
        intro y hy
        obtain ⟨y1, y2, y3, -, y5, -, y7, -, -⟩ := id hy
        rw [if_neg (by rw [y1]; decide)]
        rw [y3]
        refine ok_bnd (ok_eq (e_threes V.1 (by omega)) (ok_ltn ?_))
        refine ok_bnd (ok_mono (ok_choice hy hW hM (by decide) V.2.1 (fun i hi => V.h64 hi) V.1 hj (by omega)) ?_)
        rintro ⟨T, fo⟩ hT
        have hT : (T 0, fo) = topF n w h j := hT
        by_cases q : p3 = 0
        · rw [if_pos q]
          exact ok_bnd (ok_eq (rdi_n (n := 729) (k := 0) (by decide) (by decide) rfl) (ok_some (by rw [if_pos q, ← hT])))
        · rw [if_neg q]
          exact ok_some (by rw [if_neg q, ← hT])
  · rcases selT (fu := fu) I p1 with ⟨q1, q2⟩ | ⟨rfl, q1, q2, n, w, pu, h, o, V, TC, TM⟩ | ⟨rfl, q1, q2, n, w, pu, h, o, V, TC, TM⟩
    · refine agr_of (-999) ?_ ?_
      · unfold f_X11_choice
        refine ok_bnd (ok_eq q1 ?_)
        rw [if_neg (by decide), if_neg (by decide)]
        exact ok_some rfl
      · unfold f_X12_choice
        refine ok_bnd (ok_eq i1 ?_)
        rw [if_pos rfl]
        exact ok_some rfl
    · refine agr_of (-999) ?_ ?_
      · unfold f_X11_choice
        refine ok_bnd (ok_eq q1 ?_)
        rw [if_pos rfl]
        rcases i2 with i2 | ⟨i2, i3, i4⟩
        · rw [if_pos i2]; exact ok_some rfl
        · rw [if_neg i2, show (5 : Int32) = nI 5 from rfl, if_neg i3]; exact ok_some rfl
      · unfold f_X12_choice
        refine ok_bnd (ok_eq i1 ?_)
        rw [if_pos rfl]
        exact ok_some rfl
    · refine agr_of (-999) ?_ ?_
      · unfold f_X11_choice
        refine ok_bnd (ok_eq q1 ?_)
        rw [if_neg (by decide), if_pos rfl]
        rcases i2 with i2 | ⟨i2, i3, i4⟩
        · rw [if_pos i2]; exact ok_some rfl
        · rw [if_neg i2, show (5 : Int32) = nI 5 from rfl, if_neg i3]; exact ok_some rfl
      · unfold f_X12_choice
        refine ok_bnd (ok_eq i1 ?_)
        rw [if_pos rfl]
        exact ok_some rfl
