theorem A_relief {fu : Nat} {c_told_counts c_told_towns0_owed c_told_towns1_owed c_told_towns0_wit c_told_towns0_purse c_told_towns0_hated c_told_towns1_wit c_told_towns1_purse c_told_towns1_hated m_many m_towns m_purse m_beside m_debts m_sitting m_visited : (Nat → Int32)} {c_told_towns0_people c_told_towns1_people m_code m_town m_people m_when m_sat m_quiet m_vain m_lent m_forgiven m_sundays : Int32} (I : TI c_told_counts c_told_towns0_people c_told_towns0_wit c_told_towns0_purse c_told_towns0_hated c_told_towns0_owed c_told_towns1_people c_told_towns1_wit c_told_towns1_purse c_told_towns1_hated c_told_towns1_owed m_many m_towns) (hf : 1000 ≤ fu) (p1 : Int32) (p2 : Int32) : Agr (f_X11_relief fu c_told_counts c_told_towns0_people c_told_towns0_owed c_told_towns1_people c_told_towns1_owed p1 p2) (fun x => x) (f_X12_relief fu m_code m_many m_towns m_town m_people m_when m_sat m_quiet m_vain m_lent m_forgiven m_sundays m_purse m_beside m_debts m_sitting m_visited p1 p2) (fun y => y.1) := by
  rcases rng (fu := fu) p2 99 (by decide) with ⟨j, hj, rfl, i1, i2, i3, i4⟩ | ⟨i1, i2⟩
  · rcases selT (fu := fu) I p1 with ⟨q1, q2⟩ | ⟨rfl, q1, q2, n, w, pu, h, o, V, TC, TM⟩ | ⟨rfl, q1, q2, n, w, pu, h, o, V, TC, TM⟩
    · refine agr_of (-1) ?_ ?_
      · unfold f_X11_relief
        refine ok_bnd (ok_eq q1 ?_)
        rw [if_neg (by decide), if_neg (by decide)]
        exact ok_some rfl
      · unfold f_X12_relief
        refine ok_bnd (ok_eq i1 ?_)
        rw [if_neg (by decide)]
        refine ok_bnd (ok_mono (no_hand q2) ?_)
        intro y hy
        rw [if_pos hy]
        exact ok_some rfl
    · obtain ⟨hpe, hwi, hpr, hha, how⟩ := TC
      subst hpe
      refine agr_of (sRel n o (nI j)) ?_ ?_
      · unfold f_X11_relief
        refine ok_bnd (ok_eq q1 ?_)
        rw [if_pos rfl]
        rw [if_neg i2, show (99 : Int32) = nI 99 from rfl, if_pos i3]
        exact ok_bnd (ok_eq (e_X0_forgivenDownTo how V.1 (by omega)) (ok_some rfl))
      · unfold f_X12_relief
        refine ok_bnd (ok_eq i1 ?_)
        rw [if_neg (by decide)]
        refine ok_bnd (ok_mono (ok_hand TM (by decide) q2 (by omega)) ?_)
        intro y hy
        obtain ⟨y1, y2, y3, -, y5, -, y7, -, -⟩ := id hy
        rw [if_neg (by rw [y1]; decide)]
        exact ok_bnd (ok_eq (e_relief hy V.1 (by omega)) (ok_some rfl))
    · obtain ⟨hpe, hwi, hpr, hha, how⟩ := TC
      subst hpe
      refine agr_of (sRel n o (nI j)) ?_ ?_
      · unfold f_X11_relief
        refine ok_bnd (ok_eq q1 ?_)
        rw [if_neg (by decide), if_pos rfl]
        rw [if_neg i2, show (99 : Int32) = nI 99 from rfl, if_pos i3]
        exact ok_bnd (ok_eq (e_X0_forgivenDownTo how V.1 (by omega)) (ok_some rfl))
      · unfold f_X12_relief
        refine ok_bnd (ok_eq i1 ?_)
        rw [if_neg (by decide)]
        refine ok_bnd (ok_mono (ok_hand TM (by decide) q2 (by omega)) ?_)
        intro y hy
        obtain ⟨y1, y2, y3, -, y5, -, y7, -, -⟩ := id hy
        rw [if_neg (by rw [y1]; decide)]
        exact ok_bnd (ok_eq (e_relief hy V.1 (by omega)) (ok_some rfl))
  · rcases selT (fu := fu) I p1 with ⟨q1, q2⟩ | ⟨rfl, q1, q2, n, w, pu, h, o, V, TC, TM⟩ | ⟨rfl, q1, q2, n, w, pu, h, o, V, TC, TM⟩
    · refine agr_of (-1) ?_ ?_
      · unfold f_X11_relief
        refine ok_bnd (ok_eq q1 ?_)
        rw [if_neg (by decide), if_neg (by decide)]
        exact ok_some rfl
      · unfold f_X12_relief
        refine ok_bnd (ok_eq i1 ?_)
        rw [if_pos rfl]
        exact ok_some rfl
    · refine agr_of (-1) ?_ ?_
      · unfold f_X11_relief
        refine ok_bnd (ok_eq q1 ?_)
        rw [if_pos rfl]
        rcases i2 with i2 | ⟨i2, i3, i4⟩
        · rw [if_pos i2]; exact ok_some rfl
        · rw [if_neg i2, show (99 : Int32) = nI 99 from rfl, if_neg i3]; exact ok_some rfl
      · unfold f_X12_relief
        refine ok_bnd (ok_eq i1 ?_)
        rw [if_pos rfl]
        exact ok_some rfl
    · refine agr_of (-1) ?_ ?_
      · unfold f_X11_relief
        refine ok_bnd (ok_eq q1 ?_)
        rw [if_neg (by decide), if_pos rfl]
        rcases i2 with i2 | ⟨i2, i3, i4⟩
        · rw [if_pos i2]; exact ok_some rfl
        · rw [if_neg i2, show (99 : Int32) = nI 99 from rfl, if_neg i3]; exact ok_some rfl
      · unfold f_X12_relief
        refine ok_bnd (ok_eq i1 ?_)
        rw [if_pos rfl]
        exact ok_some rfl
theorem A_guest {fu : Nat} {c_told_counts c_told_towns0_purse c_told_towns1_purse c_told_towns0_wit c_told_towns0_hated c_told_towns0_owed c_told_towns1_wit c_told_towns1_hated c_told_towns1_owed m_many m_towns m_purse m_beside m_debts m_sitting m_visited : (Nat → Int32)} {c_told_towns0_people c_told_towns1_people m_code m_town m_people m_when m_sat m_quiet m_vain m_lent m_forgiven m_sundays : Int32} (I : TI c_told_counts c_told_towns0_people c_told_towns0_wit c_told_towns0_purse c_told_towns0_hated c_told_towns0_owed c_told_towns1_people c_told_towns1_wit c_told_towns1_purse c_told_towns1_hated c_told_towns1_owed m_many m_towns) (hf : 1000 ≤ fu) (p1 : Int32) (p2 : Int32) (p3 : Int32) : Agr (f_X11_guest fu c_told_counts c_told_towns0_people c_told_towns0_purse c_told_towns1_people c_told_towns1_purse p1 p2 p3) (fun x => x) (f_X12_guest fu m_code m_many m_towns m_town m_people m_when m_sat m_quiet m_vain m_lent m_forgiven m_sundays m_purse m_beside m_debts m_sitting m_visited p1 p2 p3) (fun y => y.1) := by
  rcases rng (fu := fu) p2 99 (by decide) with ⟨j, hj, rfl, i1, i2, i3, i4⟩ | ⟨i1, i2⟩
  · rcases selT (fu := fu) I p1 with ⟨q1, q2⟩ | ⟨rfl, q1, q2, n, w, pu, h, o, V, TC, TM⟩ | ⟨rfl, q1, q2, n, w, pu, h, o, V, TC, TM⟩
    · refine agr_of (-1) ?_ ?_
      · unfold f_X11_guest
        refine ok_bnd (ok_eq q1 ?_)
        rw [if_neg (by decide), if_neg (by decide)]
        exact ok_some rfl
      · unfold f_X12_guest
        refine ok_bnd (ok_eq i1 ?_)
        rw [if_neg (by decide)]
        refine ok_bnd (ok_mono (no_hand q2) ?_)
        intro y hy
        rw [if_pos hy]
        exact ok_some rfl
    · obtain ⟨hpe, hwi, hpr, hha, how⟩ := TC
      subst hpe
      by_cases h0 : n = 0
      · subst h0
        refine agr_of (-1) ?_ ?_
        · unfold f_X11_guest
          refine ok_bnd (ok_eq q1 ?_)
          rw [if_pos rfl]
          rw [if_pos (by decide)]
          exact ok_some rfl
        · unfold f_X12_guest
          refine ok_bnd (ok_eq i1 ?_)
          rw [if_neg (by decide)]
          refine ok_bnd (ok_mono (ok_hand TM (by decide) q2 (by omega)) ?_)
          intro y hy
          obtain ⟨y1, y2, y3, -, y5, -, y7, -, -⟩ := id hy
          rw [if_neg (by rw [y1]; decide)]
          rw [if_pos (show y.2.2.1 = 0 from y3)]
          exact ok_some rfl
      · have hn6 := V.1
        refine agr_of (sPart (sGst n pu (nI j)) n p3) ?_ ?_
        · unfold f_X11_guest
          refine ok_bnd (ok_eq q1 ?_)
          rw [if_pos rfl]
          rw [show (1 : Int32) = nI 1 from rfl, if_neg (nI_nlt (by omega) (by omega)), if_neg i2, show (99 : Int32) = nI 99 from rfl, if_pos i3]
          exact ok_bnd (ok_eq (e_X3_ofGuest hpr (by omega) V.1 (by omega)) (ok_some rfl))
        · unfold f_X12_guest
          refine ok_bnd (ok_eq i1 ?_)
          rw [if_neg (by decide)]
          refine ok_bnd (ok_mono (ok_hand TM (by decide) q2 (by omega)) ?_)
          intro y hy
          obtain ⟨y1, y2, y3, -, y5, -, y7, -, -⟩ := id hy
          rw [if_neg (by rw [y1]; decide)]
          rw [if_neg (by rw [y3, nI_eq0 (by omega)]; exact h0)]
          refine ok_bnd (ok_eq (e_guest hy V.1 (by omega)) ?_)
          have hl := sGst_le (n := n) (pu := pu) (x := nI j)
          rw [y3, nI_l (by omega)]
          exact ok_bnd (ok_eq (e_lowest (by omega) (by omega) (by omega) (by omega)).2 (ok_some rfl))
    · obtain ⟨hpe, hwi, hpr, hha, how⟩ := TC
      subst hpe
      by_cases h0 : n = 0
      · subst h0
        refine agr_of (-1) ?_ ?_
        · unfold f_X11_guest
          refine ok_bnd (ok_eq q1 ?_)
          rw [if_neg (by decide), if_pos rfl]
          rw [if_pos (by decide)]
          exact ok_some rfl
        · unfold f_X12_guest
          refine ok_bnd (ok_eq i1 ?_)
          rw [if_neg (by decide)]
          refine ok_bnd (ok_mono (ok_hand TM (by decide) q2 (by omega)) ?_)
          intro y hy
          obtain ⟨y1, y2, y3, -, y5, -, y7, -, -⟩ := id hy
          rw [if_neg (by rw [y1]; decide)]
          rw [if_pos (show y.2.2.1 = 0 from y3)]
          exact ok_some rfl
      · have hn6 := V.1
        refine agr_of (sPart (sGst n pu (nI j)) n p3) ?_ ?_
        · unfold f_X11_guest
          refine ok_bnd (ok_eq q1 ?_)
          rw [if_neg (by decide), if_pos rfl]
          rw [show (1 : Int32) = nI 1 from rfl, if_neg (nI_nlt (by omega) (by omega)), if_neg i2, show (99 : Int32) = nI 99 from rfl, if_pos i3]
          exact ok_bnd (ok_eq (e_X3_ofGuest hpr (by omega) V.1 (by omega)) (ok_some rfl))
        · unfold f_X12_guest
          refine ok_bnd (ok_eq i1 ?_)
          rw [if_neg (by decide)]
          refine ok_bnd (ok_mono (ok_hand TM (by decide) q2 (by omega)) ?_)
          intro y hy
          obtain ⟨y1, y2, y3, -, y5, -, y7, -, -⟩ := id hy
          rw [if_neg (by rw [y1]; decide)]
          rw [if_neg (by rw [y3, nI_eq0 (by omega)]; exact h0)]
          refine ok_bnd (ok_eq (e_guest hy V.1 (by omega)) ?_)
          have hl := sGst_le (n := n) (pu := pu) (x := nI j)
          rw [y3, nI_l (by omega)]
          exact ok_bnd (ok_eq (e_lowest (by omega) (by omega) (by omega) (by omega)).2 (ok_some rfl))
  · rcases selT (fu := fu) I p1 with ⟨q1, q2⟩ | ⟨rfl, q1, q2, n, w, pu, h, o, V, TC, TM⟩ | ⟨rfl, q1, q2, n, w, pu, h, o, V, TC, TM⟩
    · refine agr_of (-1) ?_ ?_
      · unfold f_X11_guest
        refine ok_bnd (ok_eq q1 ?_)
        rw [if_neg (by decide), if_neg (by decide)]
        exact ok_some rfl
      · unfold f_X12_guest
        refine ok_bnd (ok_eq i1 ?_)
        rw [if_pos rfl]
        exact ok_some rfl
    · refine agr_of (-1) ?_ ?_
      · unfold f_X11_guest
        refine ok_bnd (ok_eq q1 ?_)
        rw [if_pos rfl]
        refine ok_ite (fun _ => ok_some rfl) (fun _ => ?_)
        rcases i2 with i2 | ⟨i2, i3, i4⟩
        · rw [if_pos i2]; exact ok_some rfl
        · rw [if_neg i2, show (99 : Int32) = nI 99 from rfl, if_neg i3]; exact ok_some rfl
      · unfold f_X12_guest
        refine ok_bnd (ok_eq i1 ?_)
        rw [if_pos rfl]
        exact ok_some rfl
    · refine agr_of (-1) ?_ ?_
      · unfold f_X11_guest
        refine ok_bnd (ok_eq q1 ?_)
        rw [if_neg (by decide), if_pos rfl]
        refine ok_ite (fun _ => ok_some rfl) (fun _ => ?_)
        rcases i2 with i2 | ⟨i2, i3, i4⟩
        · rw [if_pos i2]; exact ok_some rfl
        · rw [if_neg i2, show (99 : Int32) = nI 99 from rfl, if_neg i3]; exact ok_some rfl
      · unfold f_X12_guest
        refine ok_bnd (ok_eq i1 ?_)
        rw [if_pos rfl]
        exact ok_some rfl
theorem A_rota {fu : Nat} {c_told_counts c_told_towns0_owed c_told_towns1_owed c_told_towns0_wit c_told_towns0_purse c_told_towns0_hated c_told_towns1_wit c_told_towns1_purse c_told_towns1_hated m_many m_towns m_purse m_beside m_debts m_sitting m_visited : (Nat → Int32)} {c_told_towns0_people c_told_towns1_people m_code m_town m_people m_when m_sat m_quiet m_vain m_lent m_forgiven m_sundays : Int32} (I : TI c_told_counts c_told_towns0_people c_told_towns0_wit c_told_towns0_purse c_told_towns0_hated c_told_towns0_owed c_told_towns1_people c_told_towns1_wit c_told_towns1_purse c_told_towns1_hated c_told_towns1_owed m_many m_towns) (hf : 1000 ≤ fu) (p1 : Int32) (p2 : Int32) : Agr (f_X11_rota fu c_told_counts c_told_towns0_people c_told_towns0_owed c_told_towns1_people c_told_towns1_owed p1 p2) (fun x => x) (f_X12_rota fu m_code m_many m_towns m_town m_people m_when m_sat m_quiet m_vain m_lent m_forgiven m_sundays m_purse m_beside m_debts m_sitting m_visited p1 p2) (fun y => y.1) := by
  rcases selT (fu := fu) I p1 with ⟨q1, q2⟩ | ⟨rfl, q1, q2, n, w, pu, h, o, V, TC, TM⟩ | ⟨rfl, q1, q2, n, w, pu, h, o, V, TC, TM⟩
  · refine agr_of (-2) ?_ ?_
    · unfold f_X11_rota
      refine ok_bnd (ok_eq q1 ?_)
      rw [if_neg (by decide), if_neg (by decide)]
      exact ok_some rfl
    · unfold f_X12_rota
      refine ok_bnd (ok_mono (no_hand q2) ?_)
      intro y hy
      rw [if_pos hy]
      exact ok_some rfl
  · obtain ⟨hpe, hwi, hpr, hha, how⟩ := TC
    subst hpe
    have h9 : ∀ i, i < 36 → o i ≤ 99 := fun i hi => Nat.le_trans (V.2.2.2.2.1 i hi) (by decide)
    have hn6 := V.1
    refine agr_of (if p2 = 0 then encV (fun k => nI (sOwed n o k)) 0 (sRota n o) else enc (sRota n o)) ?_ ?_
    · unfold f_X11_rota
      refine ok_bnd (ok_eq q1 ?_)
      rw [if_pos rfl]
      exact ok_bnd (ok_eq (e_X0_longestRota how h9 V.1 (by omega)) (ok_some rfl))
    · unfold f_X12_rota
      refine ok_bnd (ok_mono (ok_hand TM (by decide) q2 (by omega)) ?_)
      intro y hy
      obtain ⟨y1, y2, y3, -, y5, -, y7, -, -⟩ := id hy
      rw [if_neg (by rw [y1]; decide)]
      obtain ⟨z1, z2⟩ := e_rota (fu := fu) hy h9 V.1 (by omega)
      refine ok_bnd (ok_eq z1 ?_)
      refine ok_ite (fun q => ?_) (fun q => ?_)
      · rw [if_pos q]
        cases e : sRota n o with
        | none => exact ok_some rfl
        | some k =>
          have hk := z2 k e
          show ok (if nI k = -1 then _ else _) _
          rw [if_neg (nI_nm1 (by omega)), y3]
          exact ok_bnd (ok_eq (e_X12_owedAll y7 V.1 (by omega) (by omega)) (ok_some rfl))
      · rw [if_neg q]
        exact ok_some rfl
  · obtain ⟨hpe, hwi, hpr, hha, how⟩ := TC
    subst hpe
    have h9 : ∀ i, i < 36 → o i ≤ 99 := fun i hi => Nat.le_trans (V.2.2.2.2.1 i hi) (by decide)
    have hn6 := V.1
    refine agr_of (if p2 = 0 then encV (fun k => nI (sOwed n o k)) 0 (sRota n o) else enc (sRota n o)) ?_ ?_
    · unfold f_X11_rota
      refine ok_bnd (ok_eq q1 ?_)
      rw [if_neg (by decide), if_pos rfl]
      exact ok_bnd (ok_eq (e_X0_longestRota how h9 V.1 (by omega)) (ok_some rfl))
    · unfold f_X12_rota
      refine ok_bnd (ok_mono (ok_hand TM (by decide) q2 (by omega)) ?_)
      intro y hy
      obtain ⟨y1, y2, y3, -, y5, -, y7, -, -⟩ := id hy
      rw [if_neg (by rw [y1]; decide)]
      obtain ⟨z1, z2⟩ := e_rota (fu := fu) hy h9 V.1 (by omega)
      refine ok_bnd (ok_eq z1 ?_)
      refine ok_ite (fun q => ?_) (fun q => ?_)
      · rw [if_pos q]
        cases e : sRota n o with
        | none => exact ok_some rfl
        | some k =>
          have hk := z2 k e
          show ok (if nI k = -1 then _ else _) _
          rw [if_neg (nI_nm1 (by omega)), y3]
          exact ok_bnd (ok_eq (e_X12_owedAll y7 V.1 (by omega) (by omega)) (ok_some rfl))
      · rw [if_neg q]
        exact ok_some rfl
theorem grown_st {fu : Nat} (p2 p3 : Int32) : f_X11_grown_L38 fu p2 p3 = f_X12_grown_L43 fu p2 p3 := by
  funext s
  simp only [f_X11_grown_L38, f_X12_grown_L43, e_greater, e_lesser, bnd_some, ltn, f_X1_onSunday]
  have h0 : ¬ jmax 0 (s.1 - p2) < 0 := by
    unfold jmax
    split
    · rename_i q; rw [fa_lt] at q ⊢; show ¬ _ < (0 : Int); have : (0 : Int32).toInt = 0 := rfl; omega
    · decide
  have h1 : jmax 0 (s.1 - p2) ≤ 0 ↔ jmax 0 (s.1 - p2) = 0 := by
    rw [fa_le, fa_eq]; rw [fa_lt] at h0; have : (0 : Int32).toInt = 0 := rfl; omega
  by_cases q : p3 < s.2
  · simp only [if_pos q]
  · simp only [if_neg q]
    by_cases q2 : jrm s.2 10 = 0
    · simp only [if_pos q2]
      by_cases q3 : jmax 0 (s.1 - p2) = 0
      · simp only [q3]; rfl
      · simp only [if_neg q3, if_neg (fun z => q3 (h1.1 z)), bnd_some]
    · simp only [if_neg q2]
theorem A_grown {fu : Nat} {m_code : Int32} (hf : 1000 ≤ fu) (p1 : Int32) (p2 : Int32) (p3 : Int32) : Agr (f_X11_grown fu  p1 p2 p3) (fun x => x) (f_X12_grown fu m_code p1 p2 p3) (fun y => y.1) := by
  rcases rng (fu := fu) p1 99 (by decide) with ⟨j1, hj1, rfl, i1, i2, i3, i4⟩ | ⟨i1, i2⟩
  · rcases rng (fu := fu) p2 9 (by decide) with ⟨j2, hj2, rfl, k1, k2, k3, k4⟩ | ⟨k1, k2⟩
    · rcases rng (fu := fu) p3 99 (by decide) with ⟨j3, hj3, rfl, l1, l2, l3, l4⟩ | ⟨l1, l2⟩
      · obtain ⟨r, hr, -⟩ := ok_lp (step := f_X12_grown_L43 fu (nI j2) (nI j3)) (P := fun _ => True) (fun s => ∃ c, c ≤ 100 ∧ s.2 = nI c) (fun s => 100 - s.2.toNatClampNeg) (fun s hs => by
          obtain ⟨a, b⟩ := s
          obtain ⟨c, hc, rfl⟩ := hs
          simp only [f_X12_grown_L43, e_greater, e_lesser, bnd_some]
          by_cases q : nI j3 < nI c
          · rw [if_pos q]; exact ok_some trivial
          · rw [if_neg q]
            have hc2 : c ≤ j3 := by rw [nI_ltI (by omega) (by omega)] at q; omega
            have key : ∀ v : Int32, (∃ c', c' ≤ 100 ∧ (v, nI c + 1).2 = nI c') ∧ 100 - (v, nI c + 1).2.toNatClampNeg < 100 - (nI j1, nI c).2.toNatClampNeg := by
              intro v
              refine ⟨⟨c + 1, by omega, nI_1 c⟩, ?_⟩
              show 100 - (nI c + 1).toNatClampNeg < 100 - (nI c).toNatClampNeg
              rw [nI_1, nI_clamp (by omega), nI_clamp (by omega)]
              omega
            split
            · split
              · exact ok_some (key _)
              · exact ok_some (key _)
            · exact ok_some (key _)) fu (nI j1, 1) ⟨1, by decide, rfl⟩ (by show 100 - _ < fu; omega)
        refine agr_of r ?_ ?_
        · unfold f_X11_grown
          simp only [show (99 : Int32) = nI 99 from rfl, show (9 : Int32) = nI 9 from rfl]
          rw [if_neg i2, if_neg i4, if_neg k2, if_neg k4, if_neg l2, if_pos l3, grown_st, hr]
          exact ok_some rfl
        · unfold f_X12_grown
          simp only [show (99 : Int32) = nI 99 from rfl, show (9 : Int32) = nI 9 from rfl]
          rw [i1, bnd_some, if_neg (by decide), k1, bnd_some, if_neg (by decide), l1, bnd_some, if_neg (by decide), hr]
          exact ok_some rfl
      · refine agr_of (-1) ?_ ?_
        · unfold f_X11_grown
          simp only [show (99 : Int32) = nI 99 from rfl, show (9 : Int32) = nI 9 from rfl]
          rw [if_neg i2, if_neg i4, if_neg k2, if_neg k4]
          rcases l2 with l2 | ⟨l2, l3, l4⟩
          · rw [if_pos l2]; exact ok_some rfl
          · rw [if_neg l2, if_neg l3]; exact ok_some rfl
        · unfold f_X12_grown
          simp only [show (99 : Int32) = nI 99 from rfl, show (9 : Int32) = nI 9 from rfl]
          rw [i1, bnd_some, if_neg (by decide), k1, bnd_some, if_neg (by decide), l1, bnd_some, if_pos rfl]
          exact ok_some rfl
    · refine agr_of (-1) ?_ ?_
      · unfold f_X11_grown
        simp only [show (99 : Int32) = nI 99 from rfl, show (9 : Int32) = nI 9 from rfl]
        rw [if_neg i2, if_neg i4]
        rcases k2 with l2 | ⟨l2, l3, l4⟩
        · rw [if_pos l2]; exact ok_some rfl
        · rw [if_neg l2, if_pos l4]; exact ok_some rfl
      · unfold f_X12_grown
        simp only [show (99 : Int32) = nI 99 from rfl, show (9 : Int32) = nI 9 from rfl]
        rw [i1, bnd_some, if_neg (by decide), k1, bnd_some, if_pos rfl]
        exact ok_some rfl
  · refine agr_of (-1) ?_ ?_
    · unfold f_X11_grown
      simp only [show (99 : Int32) = nI 99 from rfl, show (9 : Int32) = nI 9 from rfl]
      rcases i2 with l2 | ⟨l2, l3, l4⟩
      · rw [if_pos l2]; exact ok_some rfl
      · rw [if_neg l2, if_pos l4]; exact ok_some rfl
    · unfold f_X12_grown
      simp only [show (99 : Int32) = nI 99 from rfl, show (9 : Int32) = nI 9 from rfl]
      rw [i1, bnd_some, if_pos rfl]
      exact ok_some rfl
theorem A_count {fu : Nat} {c_told_counts m_many : (Nat → Int32)} {m_code : Int32} (hc : ∀ i, i < 3 → c_told_counts i = m_many i) (hf : 1000 ≤ fu) (p1 : Int32) : Agr (f_X11_count fu c_told_counts p1) (fun x => x) (f_X12_count fu m_code m_many p1) (fun y => y.1) := by
  rcases rng (fu := fu) p1 2 (by decide) with ⟨j, hj, rfl, i1, i2, i3, i4⟩ | ⟨i1, i2⟩
  · refine agr_of (m_many j) ?_ ?_
    · unfold f_X11_count f_X8_countOf
      rw [if_neg i2, show (2 : Int32) = nI 2 from rfl, if_pos i3, rdi_n (by omega) (by decide) (hc j (by omega))]
      exact ok_some rfl
    · unfold f_X12_count
      rw [show (2 : Int32) = nI 2 from rfl, i1, bnd_some, if_neg (by decide), rdi_n (by omega) (by decide) rfl]
      exact ok_some rfl
  · refine agr_of (-2) ?_ ?_
    · unfold f_X11_count f_X8_countOf
      rw [show (2 : Int32) = nI 2 from rfl]
      rcases i2 with l2 | ⟨l2, l3, l4⟩
      · rw [if_pos l2]; exact ok_some rfl
      · rw [if_neg l2, if_neg l3]; exact ok_some rfl
    · unfold f_X12_count
      rw [show (2 : Int32) = nI 2 from rfl, i1, bnd_some, if_pos rfl]
      exact ok_some rfl
theorem A_fault {fu : Nat} {c_told_fault c_told_place m_code : Int32} {m_fault m_faultPlace : (Nat → Int32)} (h1 : m_fault 0 = c_told_fault) (h2 : m_faultPlace 0 = c_told_place) (hf : 1000 ≤ fu) (p1 : Int32) : Agr (f_X11_fault fu c_told_fault c_told_place p1) (fun x => x) (f_X12_fault fu m_code m_fault m_faultPlace p1) (fun y => y.1) := by
  unfold f_X11_fault f_X12_fault
  have e1 : rdi 4 m_fault 0 = some c_told_fault := rdi_n (k := 0) (by decide) (by decide) h1
  have e2 : rdi 4 m_faultPlace 0 = some c_told_place := rdi_n (k := 0) (by decide) (by decide) h2
  rw [e1, e2, bnd_some, bnd_some]
  by_cases q1 : p1 = 0
  · rw [if_pos q1, if_pos q1]; exact ⟨_, _, rfl, rfl, rfl⟩
  · rw [if_neg q1, if_neg q1]
    by_cases q2 : p1 = 1
    · rw [if_pos q2, if_pos q2]; exact ⟨_, _, rfl, rfl, rfl⟩
    · rw [if_neg q2, if_neg q2]; exact ⟨_, _, rfl, rfl, rfl⟩
