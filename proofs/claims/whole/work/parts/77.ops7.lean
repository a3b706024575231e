theorem A_lenders {fu : Nat} {c_told_counts c_told_towns0_wit c_told_towns0_purse c_told_towns1_wit c_told_towns1_purse c_purses_table c_told_towns0_hated c_told_towns0_owed c_told_towns1_hated c_told_towns1_owed m_many m_towns m_purse m_beside m_debts m_sitting m_visited m_best : (Nat → Int32)} {c_told_towns0_people c_told_towns1_people m_code m_town m_people m_when m_sat m_quiet m_vain m_lent m_forgiven m_sundays : Int32} (I : TI c_told_counts c_told_towns0_people c_told_towns0_wit c_told_towns0_purse c_told_towns0_hated c_told_towns0_owed c_told_towns1_people c_told_towns1_wit c_told_towns1_purse c_told_towns1_hated c_told_towns1_owed m_many m_towns) (hf : 1000 ≤ fu) (p1 : Int32) (p2 : Int32) : Agr (f_X11_lenders fu c_told_counts c_told_towns0_people c_told_towns0_wit c_told_towns0_purse c_told_towns1_people c_told_towns1_wit c_told_towns1_purse c_purses_table p1 p2) (fun x => x.1) (f_X12_lenders fu m_code m_many m_towns m_town m_people m_when m_sat m_quiet m_vain m_lent m_forgiven m_sundays m_purse m_beside m_debts m_sitting m_visited m_best p1 p2) (fun y => y.1) := by
  rcases selT (fu := fu) I p1 with ⟨q1, q2⟩ | ⟨rfl, q1, q2, n, w, pu, h, o, V, TC, TM⟩ | ⟨rfl, q1, q2, n, w, pu, h, o, V, TC, TM⟩
  · refine agr_of (-1) ?_ ?_
    · unfold f_X11_lenders
      refine ok_bnd (ok_eq q1 ?_)
      rw [if_neg (by decide), if_neg (by decide)]
      exact ok_some rfl
    · unfold f_X12_lenders
      refine ok_bnd (ok_mono (no_hand q2) ?_)
      intro y hy
      rw [if_pos hy]
      exact ok_some rfl
  · obtain ⟨hpe, hwi, hpr, hha, how⟩ := TC
    subst hpe
    have hW : ∀ i, i < 6 → m_towns (55 * 0 + 1 + i) = nI (w i) := TM.2.1
    have hn6 := V.1
    rcases kprs (fu := fu) p2 V.1 with ⟨e, r2⟩ | ⟨p, hp, e, ne, r1, r2⟩ | ⟨ne, r1, r2⟩
    · refine agr_of (nI (Lk n w pu n 0)) ?_ ?_
      · unfold f_X11_lenders
        refine ok_bnd (ok_eq q1 ?_)
        rw [if_pos rfl]
        rw [if_pos e]
        exact ok_bnd (ok_mono ((ok_X4_bestLending hwi hpr V.2.1 V.2.2.1 V.1 (by omega)).1 e) (fun x hx => ok_some hx))
      · unfold f_X12_lenders
        refine ok_bnd (ok_mono (ok_hand TM (by decide) q2 (by omega)) ?_)
        intro y hy
        obtain ⟨y1, y2, y3, -, y5, -, y7, -, -⟩ := id hy
        rw [if_neg (by rw [y1]; decide)]
        rw [y3]
        refine ok_bnd (ok_eq r2 ?_)
        rw [if_neg i10, y2]
        refine ok_bnd (ok_mono (ok_findLendings hW (by decide) y5 V.2.1 V.2.2.1 V.1 (by omega)) ?_)
        intro T hT
        have e1 := lp_up0 (step := f_X12_lenders_L42 fu m_towns p2 y T) (α := Unit) (fun _ _ => ((0 : Int32), (6 : Int32), (0 : Int32))) (fun _ x => x) 0 (fun _ => (6 : Int32)) (fun j _ hj => absurd hj (by omega)) (fun _ => by
          simp only [f_X12_lenders_L42]
          rw [if_pos (by rw [e]; decide)]) (fu := fu) (a := ()) (by omega)
        refine ok_bnd (ok_eq e1 ?_)
        rw [if_pos e]
        exact ok_bnd (ok_eq (rdi_n (n := 448) (k := 0) (by decide) (by decide) (hT 0 (by omega) 0 (by decide))) (ok_some rfl))
    · subst e
      refine agr_of (nI (fldN (gL n w pu) 0 (p + 1) (0, 6)).2) ?_ ?_
      · unfold f_X11_lenders
        refine ok_bnd (ok_eq q1 ?_)
        rw [if_pos rfl]
        rw [if_neg ne]
        refine ok_bnd (ok_eq r1 ?_)
        rw [if_neg i10]
        exact ok_bnd (ok_mono ((ok_X4_bestLending hwi hpr V.2.1 V.2.2.1 V.1 (by omega)).2 p hp rfl) (fun x hx => ok_some hx))
      · unfold f_X12_lenders
        refine ok_bnd (ok_mono (ok_hand TM (by decide) q2 (by omega)) ?_)
        intro y hy
        obtain ⟨y1, y2, y3, -, y5, -, y7, -, -⟩ := id hy
        rw [if_neg (by rw [y1]; decide)]
        rw [y3]
        refine ok_bnd (ok_eq r2 ?_)
        rw [if_neg i10, y2]
        refine ok_bnd (ok_mono (ok_findLendings hW (by decide) y5 V.2.1 V.2.2.1 V.1 (by omega)) ?_)
        intro T hT
        refine ok_bnd (ok_eq (e_lenders hy hW (by decide) V.2.1 V.2.2.1 V.1 hp hT (by omega)) ?_)
        rw [if_neg ne]
        exact ok_some rfl
    · refine agr_of (-1) ?_ ?_
      · unfold f_X11_lenders
        refine ok_bnd (ok_eq q1 ?_)
        rw [if_pos rfl]
        rw [if_neg ne]
        refine ok_bnd (ok_eq r1 ?_)
        rw [if_pos i00]
        exact ok_some rfl
      · unfold f_X12_lenders
        refine ok_bnd (ok_mono (ok_hand TM (by decide) q2 (by omega)) ?_)
        intro y hy
        obtain ⟨y1, y2, y3, -, y5, -, y7, -, -⟩ := id hy
        rw [if_neg (by rw [y1]; decide)]
        rw [y3]
        refine ok_bnd (ok_eq r2 ?_)
        rw [if_pos i00]
        exact ok_some rfl
  · obtain ⟨hpe, hwi, hpr, hha, how⟩ := TC
    subst hpe
    have hW : ∀ i, i < 6 → m_towns (55 * 1 + 1 + i) = nI (w i) := TM.2.1
    have hn6 := V.1
    rcases kprs (fu := fu) p2 V.1 with ⟨e, r2⟩ | ⟨p, hp, e, ne, r1, r2⟩ | ⟨ne, r1, r2⟩
    · refine agr_of (nI (Lk n w pu n 0)) ?_ ?_
      · unfold f_X11_lenders
        refine ok_bnd (ok_eq q1 ?_)
        rw [if_neg (by decide), if_pos rfl]
        rw [if_pos e]
        exact ok_bnd (ok_mono ((ok_X4_bestLending hwi hpr V.2.1 V.2.2.1 V.1 (by omega)).1 e) (fun x hx => ok_some hx))
      · unfold f_X12_lenders
        refine ok_bnd (ok_mono (ok_hand TM (by decide) q2 (by omega)) ?_)
        intro y hy
        obtain ⟨y1, y2, y3, -, y5, -, y7, -, -⟩ := id hy
        rw [if_neg (by rw [y1]; decide)]
        rw [y3]
        refine ok_bnd (ok_eq r2 ?_)
        rw [if_neg i10, y2]
        refine ok_bnd (ok_mono (ok_findLendings hW (by decide) y5 V.2.1 V.2.2.1 V.1 (by omega)) ?_)
        intro T hT
        have e1 := lp_up0 (step := f_X12_lenders_L42 fu m_towns p2 y T) (α := Unit) (fun _ _ => ((0 : Int32), (6 : Int32), (0 : Int32))) (fun _ x => x) 0 (fun _ => (6 : Int32)) (fun j _ hj => absurd hj (by omega)) (fun _ => by
          simp only [f_X12_lenders_L42]
          rw [if_pos (by rw [e]; decide)]) (fu := fu) (a := ()) (by omega)
        refine ok_bnd (ok_eq e1 ?_)
        rw [if_pos e]
        exact ok_bnd (ok_eq (rdi_n (n := 448) (k := 0) (by decide) (by decide) (hT 0 (by omega) 0 (by decide))) (ok_some rfl))
    · subst e
      refine agr_of (nI (fldN (gL n w pu) 0 (p + 1) (0, 6)).2) ?_ ?_
      · unfold f_X11_lenders
        refine ok_bnd (ok_eq q1 ?_)
        rw [if_neg (by decide), if_pos rfl]
        rw [if_neg ne]
        refine ok_bnd (ok_eq r1 ?_)
        rw [if_neg i10]
        exact ok_bnd (ok_mono ((ok_X4_bestLending hwi hpr V.2.1 V.2.2.1 V.1 (by omega)).2 p hp rfl) (fun x hx => ok_some hx))
      · unfold f_X12_lenders
        refine ok_bnd (ok_mono (ok_hand TM (by decide) q2 (by omega)) ?_)
        intro y hy
        obtain ⟨y1, y2, y3, -, y5, -, y7, -, -⟩ := id hy
        rw [if_neg (by rw [y1]; decide)]
        rw [y3]
        refine ok_bnd (ok_eq r2 ?_)
        rw [if_neg i10, y2]
        refine ok_bnd (ok_mono (ok_findLendings hW (by decide) y5 V.2.1 V.2.2.1 V.1 (by omega)) ?_)
        intro T hT
        refine ok_bnd (ok_eq (e_lenders hy hW (by decide) V.2.1 V.2.2.1 V.1 hp hT (by omega)) ?_)
        rw [if_neg ne]
        exact ok_some rfl
    · refine agr_of (-1) ?_ ?_
      · unfold f_X11_lenders
        refine ok_bnd (ok_eq q1 ?_)
        rw [if_neg (by decide), if_pos rfl]
        rw [if_neg ne]
        refine ok_bnd (ok_eq r1 ?_)
        rw [if_pos i00]
        exact ok_some rfl
      · unfold f_X12_lenders
        refine ok_bnd (ok_mono (ok_hand TM (by decide) q2 (by omega)) ?_)
        intro y hy
        obtain ⟨y1, y2, y3, -, y5, -, y7, -, -⟩ := id hy
        rw [if_neg (by rw [y1]; decide)]
        rw [y3]
        refine ok_bnd (ok_eq r2 ?_)
        rw [if_pos i00]
        exact ok_some rfl
