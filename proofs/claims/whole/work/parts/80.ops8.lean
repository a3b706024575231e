theorem A_chain {fu : Nat} {c_told_counts c_told_towns0_owed c_told_towns1_owed c_purses_table c_purses_onward c_told_towns0_wit c_told_towns0_purse c_told_towns0_hated c_told_towns1_wit c_told_towns1_purse c_told_towns1_hated m_many m_towns m_purse m_beside m_debts m_sitting m_visited m_best : (Nat → Int32)} {c_told_towns0_people c_told_towns1_people m_code m_town m_people m_when m_sat m_quiet m_vain m_lent m_forgiven m_sundays : Int32} (I : TI c_told_counts c_told_towns0_people c_told_towns0_wit c_told_towns0_purse c_told_towns0_hated c_told_towns0_owed c_told_towns1_people c_told_towns1_wit c_told_towns1_purse c_told_towns1_hated c_told_towns1_owed m_many m_towns) (hf : 1000 ≤ fu) (p1 : Int32) (p2 : Int32) : Agr (f_X11_chain fu c_told_counts c_told_towns0_people c_told_towns0_owed c_told_towns1_people c_told_towns1_owed c_purses_table c_purses_onward p1 p2) (fun x => x.1) (f_X12_chain fu m_code m_many m_towns m_town m_people m_when m_sat m_quiet m_vain m_lent m_forgiven m_sundays m_purse m_beside m_debts m_sitting m_visited m_best p1 p2) (fun y => y.1) := by
  rcases selT (fu := fu) I p1 with ⟨q1, q2⟩ | ⟨rfl, q1, q2, n, w, pu, h, o, V, TC, TM⟩ | ⟨rfl, q1, q2, n, w, pu, h, o, V, TC, TM⟩
  · refine agr_of (-1) ?_ ?_
    · unfold f_X11_chain
      refine ok_bnd (ok_eq q1 ?_)
      rw [if_neg (by decide), if_neg (by decide)]
      exact ok_some rfl
    · unfold f_X12_chain
      refine ok_bnd (ok_mono (no_hand q2) ?_)
      intro y hy
      rw [if_pos hy]
      exact ok_some rfl
  · obtain ⟨hpe, hwi, hpr, hha, how⟩ := TC
    subst hpe
    have h9 : ∀ i, i < 36 → o i ≤ 99 := fun i hi => Nat.le_trans (V.2.2.2.2.1 i hi) (by decide)
    have hn6 := V.1
    have bm := cB_le (o := o) (ah := 6) (had := 0) V.1
    by_cases e : p2 = -1
    · refine agr_of (nI (cB n o 6 0)) ?_ ?_
      · unfold f_X11_chain
        refine ok_bnd (ok_eq q1 ?_)
        rw [if_pos rfl]
        refine ok_bnd (ok_mono (ok_X4_chain how h9 V.1 (by omega)) (fun x hx => ok_some ?_))
        exact hx.1 e
      · unfold f_X12_chain
        refine ok_bnd (ok_mono (ok_hand TM (by decide) q2 (by omega)) ?_)
        intro y hy
        obtain ⟨y1, y2, y3, -, y5, -, y7, -, -⟩ := id hy
        rw [if_neg (by rw [y1]; decide)]
        rw [y3]
        refine ok_bnd (ok_mono (ok_findChains y7 h9 V.1 (by omega)) ?_)
        intro T hT
        refine ok_bnd (ok_eq (rdi_n (n := 448) (k := 384) (by decide) (by decide) (hT 0 (Nat.two_pow_pos n) 6 (Or.inr rfl))) ?_)
        rw [if_pos e, if_pos e]
        exact ok_some rfl
    · rcases pk_ix p2 (show cB n o 6 0 < 2 ^ 31 by omega) with q | q | ⟨j, hj, rfl⟩
      · refine agr_of (-1) ?_ ?_
        · unfold f_X11_chain
          refine ok_bnd (ok_eq q1 ?_)
          rw [if_pos rfl]
          refine ok_bnd (ok_mono (ok_X4_chain how h9 V.1 (by omega)) (fun x hx => ok_some ?_))
          exact hx.2.2 e (Or.inl q)
        · unfold f_X12_chain
          refine ok_bnd (ok_mono (ok_hand TM (by decide) q2 (by omega)) ?_)
          intro y hy
          obtain ⟨y1, y2, y3, -, y5, -, y7, -, -⟩ := id hy
          rw [if_neg (by rw [y1]; decide)]
          rw [y3]
          refine ok_bnd (ok_mono (ok_findChains y7 h9 V.1 (by omega)) ?_)
          intro T hT
          refine ok_bnd (ok_eq (rdi_n (n := 448) (k := 384) (by decide) (by decide) (hT 0 (Nat.two_pow_pos n) 6 (Or.inr rfl))) ?_)
          rw [if_neg e, show f_X12_in fu p2 0 (nI (cB n o 6 0) - 1) = some 0 by simp only [f_X12_in, if_pos q], bnd_some, if_pos i00, bnd_some]
          show ok (if p2 = -1 then _ else _) _
          rw [if_neg e]
          exact ok_some rfl
      · have q0 : ¬ p2 < 0 := by rw [fa_le, nI_toInt (by omega)] at q; rw [fa_lt]; have : (0 : Int32).toInt = 0 := rfl; omega
        have q4 : nI (cB n o 6 0) - 1 < p2 := by rw [fa_le, nI_toInt (by omega)] at q; rw [fa_lt, nI_m1 _ (by omega)]; omega
        refine agr_of (-1) ?_ ?_
        · unfold f_X11_chain
          refine ok_bnd (ok_eq q1 ?_)
          rw [if_pos rfl]
          refine ok_bnd (ok_mono (ok_X4_chain how h9 V.1 (by omega)) (fun x hx => ok_some ?_))
          exact hx.2.2 e (Or.inr q)
        · unfold f_X12_chain
          refine ok_bnd (ok_mono (ok_hand TM (by decide) q2 (by omega)) ?_)
          intro y hy
          obtain ⟨y1, y2, y3, -, y5, -, y7, -, -⟩ := id hy
          rw [if_neg (by rw [y1]; decide)]
          rw [y3]
          refine ok_bnd (ok_mono (ok_findChains y7 h9 V.1 (by omega)) ?_)
          intro T hT
          refine ok_bnd (ok_eq (rdi_n (n := 448) (k := 384) (by decide) (by decide) (hT 0 (Nat.two_pow_pos n) 6 (Or.inr rfl))) ?_)
          rw [if_neg e, show f_X12_in fu p2 0 (nI (cB n o 6 0) - 1) = some 0 by simp only [f_X12_in, if_neg q0, if_pos q4], bnd_some, if_pos i00, bnd_some]
          show ok (if p2 = -1 then _ else _) _
          rw [if_neg e]
          exact ok_some rfl
      · refine agr_of (nI (fldN (gC n o) 0 (j + 1) (0, 6)).2) ?_ ?_
        · unfold f_X11_chain
          refine ok_bnd (ok_eq q1 ?_)
          rw [if_pos rfl]
          refine ok_bnd (ok_mono (ok_X4_chain how h9 V.1 (by omega)) (fun x hx => ok_some ?_))
          exact hx.2.1 j rfl hj
        · unfold f_X12_chain
          refine ok_bnd (ok_mono (ok_hand TM (by decide) q2 (by omega)) ?_)
          intro y hy
          obtain ⟨y1, y2, y3, -, y5, -, y7, -, -⟩ := id hy
          rw [if_neg (by rw [y1]; decide)]
          rw [y3]
          refine ok_bnd (ok_mono (ok_findChains y7 h9 V.1 (by omega)) ?_)
          intro T hT
          refine ok_bnd (ok_eq (rdi_n (n := 448) (k := 384) (by decide) (by decide) (hT 0 (Nat.two_pow_pos n) 6 (Or.inr rfl))) ?_)
          rw [if_neg e, show f_X12_in fu (nI j) 0 (nI (cB n o 6 0) - 1) = some 1 by simp only [f_X12_in, if_neg (nI_pos (show j < 2 ^ 31 by omega)), if_neg (show ¬ nI (cB n o 6 0) - 1 < nI j by rw [fa_lt, nI_m1 _ (by omega), nI_toInt (by omega)]; omega)], bnd_some, if_neg i10, e_chain hy h9 V.1 hj hT (by omega), bnd_some, bnd_some]
          exact ok_some rfl
  · obtain ⟨hpe, hwi, hpr, hha, how⟩ := TC
    subst hpe
    have h9 : ∀ i, i < 36 → o i ≤ 99 := fun i hi => Nat.le_trans (V.2.2.2.2.1 i hi) (by decide)
    have hn6 := V.1
    have bm := cB_le (o := o) (ah := 6) (had := 0) V.1
    by_cases e : p2 = -1
    · refine agr_of (nI (cB n o 6 0)) ?_ ?_
      · unfold f_X11_chain
        refine ok_bnd (ok_eq q1 ?_)
        rw [if_neg (by decide), if_pos rfl]
        refine ok_bnd (ok_mono (ok_X4_chain how h9 V.1 (by omega)) (fun x hx => ok_some ?_))
        exact hx.1 e
      · unfold f_X12_chain
        refine ok_bnd (ok_mono (ok_hand TM (by decide) q2 (by omega)) ?_)
        intro y hy
        obtain ⟨y1, y2, y3, -, y5, -, y7, -, -⟩ := id hy
        rw [if_neg (by rw [y1]; decide)]
        rw [y3]
        refine ok_bnd (ok_mono (ok_findChains y7 h9 V.1 (by omega)) ?_)
        intro T hT
        refine ok_bnd (ok_eq (rdi_n (n := 448) (k := 384) (by decide) (by decide) (hT 0 (Nat.two_pow_pos n) 6 (Or.inr rfl))) ?_)
        rw [if_pos e, if_pos e]
        exact ok_some rfl
    · rcases pk_ix p2 (show cB n o 6 0 < 2 ^ 31 by omega) with q | q | ⟨j, hj, rfl⟩
      · refine agr_of (-1) ?_ ?_
        · unfold f_X11_chain
          refine ok_bnd (ok_eq q1 ?_)
          rw [if_neg (by decide), if_pos rfl]
          refine ok_bnd (ok_mono (ok_X4_chain how h9 V.1 (by omega)) (fun x hx => ok_some ?_))
          exact hx.2.2 e (Or.inl q)
        · unfold f_X12_chain
          refine ok_bnd (ok_mono (ok_hand TM (by decide) q2 (by omega)) ?_)
          intro y hy
          obtain ⟨y1, y2, y3, -, y5, -, y7, -, -⟩ := id hy
          rw [if_neg (by rw [y1]; decide)]
          rw [y3]
          refine ok_bnd (ok_mono (ok_findChains y7 h9 V.1 (by omega)) ?_)
          intro T hT
          refine ok_bnd (ok_eq (rdi_n (n := 448) (k := 384) (by decide) (by decide) (hT 0 (Nat.two_pow_pos n) 6 (Or.inr rfl))) ?_)
          rw [if_neg e, show f_X12_in fu p2 0 (nI (cB n o 6 0) - 1) = some 0 by simp only [f_X12_in, if_pos q], bnd_some, if_pos i00, bnd_some]
          show ok (if p2 = -1 then _ else _) _
          rw [if_neg e]
          exact ok_some rfl
      · have q0 : ¬ p2 < 0 := by rw [fa_le, nI_toInt (by omega)] at q; rw [fa_lt]; have : (0 : Int32).toInt = 0 := rfl; omega
        have q4 : nI (cB n o 6 0) - 1 < p2 := by rw [fa_le, nI_toInt (by omega)] at q; rw [fa_lt, nI_m1 _ (by omega)]; omega
        refine agr_of (-1) ?_ ?_
        · unfold f_X11_chain
          refine ok_bnd (ok_eq q1 ?_)
          rw [if_neg (by decide), if_pos rfl]
          refine ok_bnd (ok_mono (ok_X4_chain how h9 V.1 (by omega)) (fun x hx => ok_some ?_))
          exact hx.2.2 e (Or.inr q)
        · unfold f_X12_chain
          refine ok_bnd (ok_mono (ok_hand TM (by decide) q2 (by omega)) ?_)
          intro y hy
          obtain ⟨y1, y2, y3, -, y5, -, y7, -, -⟩ := id hy
          rw [if_neg (by rw [y1]; decide)]
          rw [y3]
          refine ok_bnd (ok_mono (ok_findChains y7 h9 V.1 (by omega)) ?_)
          intro T hT
          refine ok_bnd (ok_eq (rdi_n (n := 448) (k := 384) (by decide) (by decide) (hT 0 (Nat.two_pow_pos n) 6 (Or.inr rfl))) ?_)
          rw [if_neg e, show f_X12_in fu p2 0 (nI (cB n o 6 0) - 1) = some 0 by simp only [f_X12_in, if_neg q0, if_pos q4], bnd_some, if_pos i00, bnd_some]
          show ok (if p2 = -1 then _ else _) _
          rw [if_neg e]
          exact ok_some rfl
      · refine agr_of (nI (fldN (gC n o) 0 (j + 1) (0, 6)).2) ?_ ?_
        · unfold f_X11_chain
          refine ok_bnd (ok_eq q1 ?_)
          rw [if_neg (by decide), if_pos rfl]
          refine ok_bnd (ok_mono (ok_X4_chain how h9 V.1 (by omega)) (fun x hx => ok_some ?_))
          exact hx.2.1 j rfl hj
        · unfold f_X12_chain
          refine ok_bnd (ok_mono (ok_hand TM (by decide) q2 (by omega)) ?_)
          intro y hy
          obtain ⟨y1, y2, y3, -, y5, -, y7, -, -⟩ := id hy
          rw [if_neg (by rw [y1]; decide)]
          rw [y3]
          refine ok_bnd (ok_mono (ok_findChains y7 h9 V.1 (by omega)) ?_)
          intro T hT
          refine ok_bnd (ok_eq (rdi_n (n := 448) (k := 384) (by decide) (by decide) (hT 0 (Nat.two_pow_pos n) 6 (Or.inr rfl))) ?_)
          rw [if_neg e, show f_X12_in fu (nI j) 0 (nI (cB n o 6 0) - 1) = some 1 by simp only [f_X12_in, if_neg (nI_pos (show j < 2 ^ 31 by omega)), if_neg (show ¬ nI (cB n o 6 0) - 1 < nI j by rw [fa_lt, nI_m1 _ (by omega), nI_toInt (by omega)]; omega)], bnd_some, if_neg i10, e_chain hy h9 V.1 hj hT (by omega), bnd_some, bnd_some]
          exact ok_some rfl
