theorem A_share {fu : Nat} {c_told_counts c_told_towns0_hated c_told_towns1_hated c_told_logs0_cells c_told_logs1_cells c_suspects_found c_told_towns0_wit c_told_towns0_purse c_told_towns0_owed c_told_towns1_wit c_told_towns1_purse c_told_towns1_owed m_many m_towns m_logs m_purse m_beside m_debts m_sitting m_visited m_fitting : (Nat → Int32)} {c_told_towns0_people c_told_towns1_people c_told_logs0_facts c_told_logs1_facts c_suspects_size c_suspects_people m_code m_town m_people m_when m_sat m_quiet m_vain m_lent m_forgiven m_sundays m_log m_found : Int32} (I : TI c_told_counts c_told_towns0_people c_told_towns0_wit c_told_towns0_purse c_told_towns0_hated c_told_towns0_owed c_told_towns1_people c_told_towns1_wit c_told_towns1_purse c_told_towns1_hated c_told_towns1_owed m_many m_towns) (J : LI c_told_counts c_told_logs0_facts c_told_logs0_cells c_told_logs1_facts c_told_logs1_cells m_many m_logs) (hf : 1000 ≤ fu) (p1 : Int32) (p2 : Int32) (p3 : Int32) (p4 : Int32) (p5 : Int32) : Agr (f_X11_share fu c_told_counts c_told_towns0_people c_told_towns0_hated c_told_towns1_people c_told_towns1_hated c_told_logs0_facts c_told_logs0_cells c_told_logs1_facts c_told_logs1_cells c_suspects_size c_suspects_people c_suspects_found p1 p2 p3 p4 p5) (fun x => x.1) (f_X12_share fu m_code m_many m_towns m_logs m_town m_people m_when m_sat m_quiet m_vain m_lent m_forgiven m_sundays m_purse m_beside m_debts m_sitting m_visited m_log m_fitting m_found p1 p2 p3 p4 p5) (fun y => y.1) := by
  rcases selT (fu := fu) I p1 with ⟨q1, q2⟩ | ⟨rfl, q1, q2, n, w, pu, h, o, V, TC, TM⟩ | ⟨rfl, q1, q2, n, w, pu, h, o, V, TC, TM⟩
  · rcases selL (fu := fu) J p2 with ⟨l1, l2⟩ | ⟨rfl, l1, l2, d, K⟩ | ⟨rfl, l1, l2, d, K⟩
    · refine agr_of (-1) ?_ ?_
      · unfold f_X11_share
        refine ok_bnd (ok_eq q1 ?_)
        rw [if_neg (by decide), if_neg (by decide)]
        exact ok_some rfl
      · unfold f_X12_share
        refine ok_bnd (ok_mono (no_layLog1 l2) ?_)
        intro z hz
        rw [if_pos hz]
        exact ok_some rfl
    · refine agr_of (-1) ?_ ?_
      · unfold f_X11_share
        refine ok_bnd (ok_eq q1 ?_)
        rw [if_neg (by decide), if_neg (by decide)]
        exact ok_some rfl
      · unfold f_X12_share
        refine ok_bnd (ok_mono (no_layLog2 l2 q2) ?_)
        intro z hz
        rw [if_pos hz]
        exact ok_some rfl
    · refine agr_of (-1) ?_ ?_
      · unfold f_X11_share
        refine ok_bnd (ok_eq q1 ?_)
        rw [if_neg (by decide), if_neg (by decide)]
        exact ok_some rfl
      · unfold f_X12_share
        refine ok_bnd (ok_mono (no_layLog2 l2 q2) ?_)
        intro z hz
        rw [if_pos hz]
        exact ok_some rfl
  · obtain ⟨hpe, hwi, hpr, hha, how⟩ := TC
    subst hpe
    have hn6 := V.1
    have h64 : ∀ i, i < 6 → h i < 64 := fun i hi => V.h64 hi
    rcases selL (fu := fu) J p2 with ⟨l1, l2⟩ | ⟨rfl, l1, l2, d, K⟩ | ⟨rfl, l1, l2, d, K⟩
    · refine agr_of (-1) ?_ ?_
      · unfold f_X11_share
        refine ok_bnd (ok_eq q1 ?_)
        rw [if_pos rfl]
        rcases prs (fu := fu) p3 V.1 with ⟨a, ha, rfl, r1, r2⟩ | ⟨r1, r2⟩
        · refine ok_bnd (ok_eq r1 ?_)
          rw [if_neg i10]
          rcases prs (fu := fu) p4 V.1 with ⟨c, hc, rfl, s1, s2⟩ | ⟨s1, s2⟩
          · refine ok_bnd (ok_eq s1 ?_)
            rw [if_neg i10]
            refine ok_ite (fun _ => ok_some rfl) (fun _ => ?_)
            refine ok_bnd (ok_eq l1 ?_)
            rw [if_neg (by decide), if_neg (by decide)]
            exact ok_bnd (ok_eq rfl (ok_ite (fun _ => ok_some rfl) (fun q => absurd rfl q)))
          · refine ok_bnd (ok_eq s1 ?_)
            rw [if_pos i00]
            exact ok_some rfl
        · refine ok_bnd (ok_eq r1 ?_)
          rw [if_pos i00]
          exact ok_some rfl
      · unfold f_X12_share
        refine ok_bnd (ok_mono (no_layLog1 l2) ?_)
        intro z hz
        rw [if_pos hz]
        exact ok_some rfl
    · obtain ⟨kd, A, B, LN, LM⟩ := log_both (n := n) K
      have K3 : ∀ j, j < d → kd j < 2 ∧ A j < 6 ∧ B j < 6 := fun j hj => (LN.2.2 j hj).2.2.2
      have h8 := LN.1
      obtain ⟨v, ev, v1, v2, v3, v4⟩ := ok_find (fu := fu) (sz0 := c_suspects_size) (pe0 := c_suspects_people) (a0 := c_suspects_found) LN hha h64 V.1 (by omega)
      have v3 : inL v.2.1 v.2.2.2 (lsN n (ftN n h d kd A B)) := v3
      generalize hx : lsN n (ftN n h d kd A B) = x at v3 v4
      have l186 := okL_186 V.1 v4
      rcases prs (fu := fu) p3 V.1 with ⟨a, ha, rfl, r1, r2⟩ | ⟨r1, r2⟩
      · rcases prs (fu := fu) p4 V.1 with ⟨c, hc, rfl, s1, s2⟩ | ⟨s1, s2⟩
        · by_cases e : nI a = nI c
          · refine agr_of (-1) ?_ ?_
            · unfold f_X11_share
              refine ok_bnd (ok_eq q1 ?_)
              rw [if_pos rfl]
              refine ok_bnd (ok_eq r1 ?_)
              rw [if_neg i10]
              refine ok_bnd (ok_eq s1 ?_)
              rw [if_neg i10, if_pos e]
              exact ok_some rfl
            · unfold f_X12_share
              refine ok_bnd (ok_mono (ok_layLog TM (by decide) q2 l2 LM K3 h8 (by decide) h64 V.1 (by omega)) ?_)
              rintro z ⟨z1, z2, z3⟩
              rw [hx] at z3
              rw [if_neg (by rw [z1]; exact i10), z2]
              refine ok_bnd (ok_eq r2 ?_)
              rw [if_neg i10]
              refine ok_bnd (ok_eq s2 ?_)
              rw [if_neg i10, if_pos e]
              exact ok_some rfl
          · by_cases q : x.1 = 0
            · refine agr_of (-1) ?_ ?_
              · unfold f_X11_share
                refine ok_bnd (ok_eq q1 ?_)
                rw [if_pos rfl]
                refine ok_bnd (ok_eq r1 ?_)
                rw [if_neg i10]
                refine ok_bnd (ok_eq s1 ?_)
                rw [if_neg i10, if_neg e]
                refine ok_bnd (ok_eq l1 ?_)
                rw [if_pos rfl]
                refine ok_bnd (ok_eq ev ?_)
                rw [if_neg (by rw [v1]; exact i10), if_neg (by rw [v3.1, q]; decide)]
                exact ok_some rfl
              · unfold f_X12_share
                refine ok_bnd (ok_mono (ok_layLog TM (by decide) q2 l2 LM K3 h8 (by decide) h64 V.1 (by omega)) ?_)
                rintro z ⟨z1, z2, z3⟩
                rw [hx] at z3
                rw [if_neg (by rw [z1]; exact i10), z2]
                refine ok_bnd (ok_eq r2 ?_)
                rw [if_neg i10]
                refine ok_bnd (ok_eq s2 ?_)
                rw [if_neg i10, if_neg e, if_pos (by rw [z3.1, q]; rfl)]
                exact ok_some rfl
            · have tl := tgN_le (x := x) (a := a) (b := c)
              refine agr_of (sPart (tgN x a c) x.1 p5) ?_ ?_
              · unfold f_X11_share
                refine ok_bnd (ok_eq q1 ?_)
                rw [if_pos rfl]
                refine ok_bnd (ok_eq r1 ?_)
                rw [if_neg i10]
                refine ok_bnd (ok_eq s1 ?_)
                rw [if_neg i10, if_neg e]
                refine ok_bnd (ok_eq l1 ?_)
                rw [if_pos rfl]
                refine ok_bnd (ok_eq ev ?_)
                rw [if_neg (by rw [v1]; exact i10), v3.1, show (1 : Int32) = nI 1 from rfl, if_pos (nI_le (by omega) (by omega))]
                refine ok_bnd (ok_eq (e_X7_together V.1 v4 v3.2 (by omega) (by omega) hf) ?_)
                rw [nI_l (by omega), nI_l (by omega)]
                exact ok_bnd (ok_eq (e_lowest (by omega) (by omega) (by omega) (by omega)).1 (ok_some rfl))
              · unfold f_X12_share
                refine ok_bnd (ok_mono (ok_layLog TM (by decide) q2 l2 LM K3 h8 (by decide) h64 V.1 (by omega)) ?_)
                rintro z ⟨z1, z2, z3⟩
                rw [hx] at z3
                rw [if_neg (by rw [z1]; exact i10), z2]
                refine ok_bnd (ok_eq r2 ?_)
                rw [if_neg i10]
                refine ok_bnd (ok_eq s2 ?_)
                rw [if_neg i10, if_neg e, if_neg (by rw [z3.1]; exact nI_ne0 (by omega) (by omega)), z3.1]
                refine ok_bnd (ok_eq (e_X12_together V.1 v4 z3.2 (by omega) (by omega) hf) ?_)
                rw [nI_l (by omega), nI_l (by omega)]
                exact ok_bnd (ok_eq (e_lowest (by omega) (by omega) (by omega) (by omega)).2 (ok_some rfl))
        · refine agr_of (-1) ?_ ?_
          · unfold f_X11_share
            refine ok_bnd (ok_eq q1 ?_)
            rw [if_pos rfl]
            refine ok_bnd (ok_eq r1 ?_)
            rw [if_neg i10]
            refine ok_bnd (ok_eq s1 ?_)
            rw [if_pos i00]
            exact ok_some rfl
          · unfold f_X12_share
            refine ok_bnd (ok_mono (ok_layLog TM (by decide) q2 l2 LM K3 h8 (by decide) h64 V.1 (by omega)) ?_)
            rintro z ⟨z1, z2, z3⟩
            rw [hx] at z3
            rw [if_neg (by rw [z1]; exact i10), z2]
            refine ok_bnd (ok_eq r2 ?_)
            rw [if_neg i10]
            refine ok_bnd (ok_eq s2 ?_)
            rw [if_pos i00]
            exact ok_some rfl
      · refine agr_of (-1) ?_ ?_
        · unfold f_X11_share
          refine ok_bnd (ok_eq q1 ?_)
          rw [if_pos rfl]
          refine ok_bnd (ok_eq r1 ?_)
          rw [if_pos i00]
          exact ok_some rfl
        · unfold f_X12_share
          refine ok_bnd (ok_mono (ok_layLog TM (by decide) q2 l2 LM K3 h8 (by decide) h64 V.1 (by omega)) ?_)
          rintro z ⟨z1, z2, z3⟩
          rw [hx] at z3
          rw [if_neg (by rw [z1]; exact i10), z2]
          refine ok_bnd (ok_eq r2 ?_)
          rw [if_pos i00]
          exact ok_some rfl
    · obtain ⟨kd, A, B, LN, LM⟩ := log_both (n := n) K
      have K3 : ∀ j, j < d → kd j < 2 ∧ A j < 6 ∧ B j < 6 := fun j hj => (LN.2.2 j hj).2.2.2
      have h8 := LN.1
      obtain ⟨v, ev, v1, v2, v3, v4⟩ := ok_find (fu := fu) (sz0 := c_suspects_size) (pe0 := c_suspects_people) (a0 := c_suspects_found) LN hha h64 V.1 (by omega)
      have v3 : inL v.2.1 v.2.2.2 (lsN n (ftN n h d kd A B)) := v3
      generalize hx : lsN n (ftN n h d kd A B) = x at v3 v4
      have l186 := okL_186 V.1 v4
      rcases prs (fu := fu) p3 V.1 with ⟨a, ha, rfl, r1, r2⟩ | ⟨r1, r2⟩
      · rcases prs (fu := fu) p4 V.1 with ⟨c, hc, rfl, s1, s2⟩ | ⟨s1, s2⟩
        · by_cases e : nI a = nI c
          · refine agr_of (-1) ?_ ?_
            · unfold f_X11_share
              refine ok_bnd (ok_eq q1 ?_)
              rw [if_pos rfl]
              refine ok_bnd (ok_eq r1 ?_)
              rw [if_neg i10]
              refine ok_bnd (ok_eq s1 ?_)
              rw [if_neg i10, if_pos e]
              exact ok_some rfl
            · unfold f_X12_share
              refine ok_bnd (ok_mono (ok_layLog TM (by decide) q2 l2 LM K3 h8 (by decide) h64 V.1 (by omega)) ?_)
              rintro z ⟨z1, z2, z3⟩
              rw [hx] at z3
              rw [if_neg (by rw [z1]; exact i10), z2]
              refine ok_bnd (ok_eq r2 ?_)
              rw [if_neg i10]
              refine ok_bnd (ok_eq s2 ?_)
              rw [if_neg i10, if_pos e]
              exact ok_some rfl
          · by_cases q : x.1 = 0
            · refine agr_of (-1) ?_ ?_
              · unfold f_X11_share
                refine ok_bnd (ok_eq q1 ?_)
                rw [if_pos rfl]
                refine ok_bnd (ok_eq r1 ?_)
                rw [if_neg i10]
                refine ok_bnd (ok_eq s1 ?_)
                rw [if_neg i10, if_neg e]
                refine ok_bnd (ok_eq l1 ?_)
                rw [if_neg (by decide), if_pos rfl]
                refine ok_bnd (ok_eq ev ?_)
                rw [if_neg (by rw [v1]; exact i10), if_neg (by rw [v3.1, q]; decide)]
                exact ok_some rfl
              · unfold f_X12_share
                refine ok_bnd (ok_mono (ok_layLog TM (by decide) q2 l2 LM K3 h8 (by decide) h64 V.1 (by omega)) ?_)
                rintro z ⟨z1, z2, z3⟩
                rw [hx] at z3
                rw [if_neg (by rw [z1]; exact i10), z2]
                refine ok_bnd (ok_eq r2 ?_)
                rw [if_neg i10]
                refine ok_bnd (ok_eq s2 ?_)
                rw [if_neg i10, if_neg e, if_pos (by rw [z3.1, q]; rfl)]
                exact ok_some rfl
            · have tl := tgN_le (x := x) (a := a) (b := c)
              refine agr_of (sPart (tgN x a c) x.1 p5) ?_ ?_
              · unfold f_X11_share
                refine ok_bnd (ok_eq q1 ?_)
                rw [if_pos rfl]
                refine ok_bnd (ok_eq r1 ?_)
                rw [if_neg i10]
                refine ok_bnd (ok_eq s1 ?_)
                rw [if_neg i10, if_neg e]
                refine ok_bnd (ok_eq l1 ?_)
                rw [if_neg (by decide), if_pos rfl]
                refine ok_bnd (ok_eq ev ?_)
                rw [if_neg (by rw [v1]; exact i10), v3.1, show (1 : Int32) = nI 1 from rfl, if_pos (nI_le (by omega) (by omega))]
                refine ok_bnd (ok_eq (e_X7_together V.1 v4 v3.2 (by omega) (by omega) hf) ?_)
                rw [nI_l (by omega), nI_l (by omega)]
                exact ok_bnd (ok_eq (e_lowest (by omega) (by omega) (by omega) (by omega)).1 (ok_some rfl))
              · unfold f_X12_share
                refine ok_bnd (ok_mono (ok_layLog TM (by decide) q2 l2 LM K3 h8 (by decide) h64 V.1 (by omega)) ?_)
                rintro z ⟨z1, z2, z3⟩
                rw [hx] at z3
                rw [if_neg (by rw [z1]; exact i10), z2]
                refine ok_bnd (ok_eq r2 ?_)
                rw [if_neg i10]
                refine ok_bnd (ok_eq s2 ?_)
                rw [if_neg i10, if_neg e, if_neg (by rw [z3.1]; exact nI_ne0 (by omega) (by omega)), z3.1]
                refine ok_bnd (ok_eq (e_X12_together V.1 v4 z3.2 (by omega) (by omega) hf) ?_)
                rw [nI_l (by omega), nI_l (by omega)]
                exact ok_bnd (ok_eq (e_lowest (by omega) (by omega) (by omega) (by omega)).2 (ok_some rfl))
        · refine agr_of (-1) ?_ ?_
          · unfold f_X11_share
            refine ok_bnd (ok_eq q1 ?_)
            rw [if_pos rfl]
            refine ok_bnd (ok_eq r1 ?_)
            rw [if_neg i10]
            refine ok_bnd (ok_eq s1 ?_)
            rw [if_pos i00]
            exact ok_some rfl
          · unfold f_X12_share
            refine ok_bnd (ok_mono (ok_layLog TM (by decide) q2 l2 LM K3 h8 (by decide) h64 V.1 (by omega)) ?_)
            rintro z ⟨z1, z2, z3⟩
            rw [hx] at z3
            rw [if_neg (by rw [z1]; exact i10), z2]
            refine ok_bnd (ok_eq r2 ?_)
            rw [if_neg i10]
            refine ok_bnd (ok_eq s2 ?_)
            rw [if_pos i00]
            exact ok_some rfl
      · refine agr_of (-1) ?_ ?_
        · unfold f_X11_share
          refine ok_bnd (ok_eq q1 ?_)
          rw [if_pos rfl]
          refine ok_bnd (ok_eq r1 ?_)
          rw [if_pos i00]
          exact ok_some rfl
        · unfold f_X12_share
          refine ok_bnd (ok_mono (ok_layLog TM (by decide) q2 l2 LM K3 h8 (by decide) h64 V.1 (by omega)) ?_)
          rintro z ⟨z1, z2, z3⟩
          rw [hx] at z3
          rw [if_neg (by rw [z1]; exact i10), z2]
          refine ok_bnd (ok_eq r2 ?_)
          rw [if_pos i00]
          exact ok_some rfl
  · obtain ⟨hpe, hwi, hpr, hha, how⟩ := TC
    subst hpe
    have hn6 := V.1
    have h64 : ∀ i, i < 6 → h i < 64 := fun i hi => V.h64 hi
    rcases selL (fu := fu) J p2 with ⟨l1, l2⟩ | ⟨rfl, l1, l2, d, K⟩ | ⟨rfl, l1, l2, d, K⟩
    · refine agr_of (-1) ?_ ?_
      · unfold f_X11_share
        refine ok_bnd (ok_eq q1 ?_)
        rw [if_neg (by decide), if_pos rfl]
        rcases prs (fu := fu) p3 V.1 with ⟨a, ha, rfl, r1, r2⟩ | ⟨r1, r2⟩
        · refine ok_bnd (ok_eq r1 ?_)
          rw [if_neg i10]
          rcases prs (fu := fu) p4 V.1 with ⟨c, hc, rfl, s1, s2⟩ | ⟨s1, s2⟩
          · refine ok_bnd (ok_eq s1 ?_)
            rw [if_neg i10]
            refine ok_ite (fun _ => ok_some rfl) (fun _ => ?_)
            refine ok_bnd (ok_eq l1 ?_)
            rw [if_neg (by decide), if_neg (by decide)]
            exact ok_bnd (ok_eq rfl (ok_ite (fun _ => ok_some rfl) (fun q => absurd rfl q)))
          · refine ok_bnd (ok_eq s1 ?_)
            rw [if_pos i00]
            exact ok_some rfl
        · refine ok_bnd (ok_eq r1 ?_)
          rw [if_pos i00]
          exact ok_some rfl
      · unfold f_X12_share
        refine ok_bnd (ok_mono (no_layLog1 l2) ?_)
        intro z hz
        rw [if_pos hz]
        exact ok_some rfl
    · obtain ⟨kd, A, B, LN, LM⟩ := log_both (n := n) K
      have K3 : ∀ j, j < d → kd j < 2 ∧ A j < 6 ∧ B j < 6 := fun j hj => (LN.2.2 j hj).2.2.2
      have h8 := LN.1
      obtain ⟨v, ev, v1, v2, v3, v4⟩ := ok_find (fu := fu) (sz0 := c_suspects_size) (pe0 := c_suspects_people) (a0 := c_suspects_found) LN hha h64 V.1 (by omega)
      have v3 : inL v.2.1 v.2.2.2 (lsN n (ftN n h d kd A B)) := v3
      generalize hx : lsN n (ftN n h d kd A B) = x at v3 v4
      have l186 := okL_186 V.1 v4
      rcases prs (fu := fu) p3 V.1 with ⟨a, ha, rfl, r1, r2⟩ | ⟨r1, r2⟩
      · rcases prs (fu := fu) p4 V.1 with ⟨c, hc, rfl, s1, s2⟩ | ⟨s1, s2⟩
        · by_cases e : nI a = nI c
          · refine agr_of (-1) ?_ ?_
            · unfold f_X11_share
              refine ok_bnd (ok_eq q1 ?_)
              rw [if_neg (by decide), if_pos rfl]
              refine ok_bnd (ok_eq r1 ?_)
              rw [if_neg i10]
              refine ok_bnd (ok_eq s1 ?_)
              rw [if_neg i10, if_pos e]
              exact ok_some rfl
            · unfold f_X12_share
              refine ok_bnd (ok_mono (ok_layLog TM (by decide) q2 l2 LM K3 h8 (by decide) h64 V.1 (by omega)) ?_)
              rintro z ⟨z1, z2, z3⟩
              rw [hx] at z3
              rw [if_neg (by rw [z1]; exact i10), z2]
              refine ok_bnd (ok_eq r2 ?_)
              rw [if_neg i10]
              refine ok_bnd (ok_eq s2 ?_)
              rw [if_neg i10, if_pos e]
              exact ok_some rfl
          · by_cases q : x.1 = 0
            · refine agr_of (-1) ?_ ?_
              · unfold f_X11_share
                refine ok_bnd (ok_eq q1 ?_)
                rw [if_neg (by decide), if_pos rfl]
                refine ok_bnd (ok_eq r1 ?_)
                rw [if_neg i10]
                refine ok_bnd (ok_eq s1 ?_)
                rw [if_neg i10, if_neg e]
                refine ok_bnd (ok_eq l1 ?_)
                rw [if_pos rfl]
                refine ok_bnd (ok_eq ev ?_)
                rw [if_neg (by rw [v1]; exact i10), if_neg (by rw [v3.1, q]; decide)]
                exact ok_some rfl
              · unfold f_X12_share
                refine ok_bnd (ok_mono (ok_layLog TM (by decide) q2 l2 LM K3 h8 (by decide) h64 V.1 (by omega)) ?_)
                rintro z ⟨z1, z2, z3⟩
                rw [hx] at z3
                rw [if_neg (by rw [z1]; exact i10), z2]
                refine ok_bnd (ok_eq r2 ?_)
                rw [if_neg i10]
                refine ok_bnd (ok_eq s2 ?_)
                rw [if_neg i10, if_neg e, if_pos (by rw [z3.1, q]; rfl)]
                exact ok_some rfl
            · have tl := tgN_le (x := x) (a := a) (b := c)
              refine agr_of (sPart (tgN x a c) x.1 p5) ?_ ?_
              · unfold f_X11_share
                refine ok_bnd (ok_eq q1 ?_)
                rw [if_neg (by decide), if_pos rfl]
                refine ok_bnd (ok_eq r1 ?_)
                rw [if_neg i10]
                refine ok_bnd (ok_eq s1 ?_)
                rw [if_neg i10, if_neg e]
                refine ok_bnd (ok_eq l1 ?_)
                rw [if_pos rfl]
                refine ok_bnd (ok_eq ev ?_)
                rw [if_neg (by rw [v1]; exact i10), v3.1, show (1 : Int32) = nI 1 from rfl, if_pos (nI_le (by omega) (by omega))]
                refine ok_bnd (ok_eq (e_X7_together V.1 v4 v3.2 (by omega) (by omega) hf) ?_)
                rw [nI_l (by omega), nI_l (by omega)]
                exact ok_bnd (ok_eq (e_lowest (by omega) (by omega) (by omega) (by omega)).1 (ok_some rfl))
              · unfold f_X12_share
                refine ok_bnd (ok_mono (ok_layLog TM (by decide) q2 l2 LM K3 h8 (by decide) h64 V.1 (by omega)) ?_)
                rintro z ⟨z1, z2, z3⟩
                rw [hx] at z3
                rw [if_neg (by rw [z1]; exact i10), z2]
                refine ok_bnd (ok_eq r2 ?_)
                rw [if_neg i10]
                refine ok_bnd (ok_eq s2 ?_)
                rw [if_neg i10, if_neg e, if_neg (by rw [z3.1]; exact nI_ne0 (by omega) (by omega)), z3.1]
                refine ok_bnd (ok_eq (e_X12_together V.1 v4 z3.2 (by omega) (by omega) hf) ?_)
                rw [nI_l (by omega), nI_l (by omega)]
                exact ok_bnd (ok_eq (e_lowest (by omega) (by omega) (by omega) (by omega)).2 (ok_some rfl))
        · refine agr_of (-1) ?_ ?_
          · unfold f_X11_share
            refine ok_bnd (ok_eq q1 ?_)
            rw [if_neg (by decide), if_pos rfl]
            refine ok_bnd (ok_eq r1 ?_)
            rw [if_neg i10]
            refine ok_bnd (ok_eq s1 ?_)
            rw [if_pos i00]
            exact ok_some rfl
          · unfold f_X12_share
            refine ok_bnd (ok_mono (ok_layLog TM (by decide) q2 l2 LM K3 h8 (by decide) h64 V.1 (by omega)) ?_)
            rintro z ⟨z1, z2, z3⟩
            rw [hx] at z3
            rw [if_neg (by rw [z1]; exact i10), z2]
            refine ok_bnd (ok_eq r2 ?_)
            rw [if_neg i10]
            refine ok_bnd (ok_eq s2 ?_)
            rw [if_pos i00]
            exact ok_some rfl
      · refine agr_of (-1) ?_ ?_
        · unfold f_X11_share
          refine ok_bnd (ok_eq q1 ?_)
          rw [if_neg (by decide), if_pos rfl]
          refine ok_bnd (ok_eq r1 ?_)
          rw [if_pos i00]
          exact ok_some rfl
        · unfold f_X12_share
          refine ok_bnd (ok_mono (ok_layLog TM (by decide) q2 l2 LM K3 h8 (by decide) h64 V.1 (by omega)) ?_)
          rintro z ⟨z1, z2, z3⟩
          rw [hx] at z3
          rw [if_neg (by rw [z1]; exact i10), z2]
          refine ok_bnd (ok_eq r2 ?_)
          rw [if_pos i00]
          exact ok_some rfl
    · obtain ⟨kd, A, B, LN, LM⟩ := log_both (n := n) K
      have K3 : ∀ j, j < d → kd j < 2 ∧ A j < 6 ∧ B j < 6 := fun j hj => (LN.2.2 j hj).2.2.2
      have h8 := LN.1
      obtain ⟨v, ev, v1, v2, v3, v4⟩ := ok_find (fu := fu) (sz0 := c_suspects_size) (pe0 := c_suspects_people) (a0 := c_suspects_found) LN hha h64 V.1 (by omega)
      have v3 : inL v.2.1 v.2.2.2 (lsN n (ftN n h d kd A B)) := v3
      generalize hx : lsN n (ftN n h d kd A B) = x at v3 v4
      have l186 := okL_186 V.1 v4
      rcases prs (fu := fu) p3 V.1 with ⟨a, ha, rfl, r1, r2⟩ | ⟨r1, r2⟩
      · rcases prs (fu := fu) p4 V.1 with ⟨c, hc, rfl, s1, s2⟩ | ⟨s1, s2⟩
        · by_cases e : nI a = nI c
          · refine agr_of (-1) ?_ ?_
            · unfold f_X11_share
              refine ok_bnd (ok_eq q1 ?_)
              rw [if_neg (by decide), if_pos rfl]
              refine ok_bnd (ok_eq r1 ?_)
              rw [if_neg i10]
              refine ok_bnd (ok_eq s1 ?_)
              rw [if_neg i10, if_pos e]
              exact ok_some rfl
            · unfold f_X12_share
              refine ok_bnd (ok_mono (ok_layLog TM (by decide) q2 l2 LM K3 h8 (by decide) h64 V.1 (by omega)) ?_)
              rintro z ⟨z1, z2, z3⟩
              rw [hx] at z3
              rw [if_neg (by rw [z1]; exact i10), z2]
              refine ok_bnd (ok_eq r2 ?_)
              rw [if_neg i10]
              refine ok_bnd (ok_eq s2 ?_)
              rw [if_neg i10, if_pos e]
              exact ok_some rfl
          · by_cases q : x.1 = 0
            · refine agr_of (-1) ?_ ?_
              · unfold f_X11_share
                refine ok_bnd (ok_eq q1 ?_)
                rw [if_neg (by decide), if_pos rfl]
                refine ok_bnd (ok_eq r1 ?_)
                rw [if_neg i10]
                refine ok_bnd (ok_eq s1 ?_)
                rw [if_neg i10, if_neg e]
                refine ok_bnd (ok_eq l1 ?_)
                rw [if_neg (by decide), if_pos rfl]
                refine ok_bnd (ok_eq ev ?_)
                rw [if_neg (by rw [v1]; exact i10), if_neg (by rw [v3.1, q]; decide)]
                exact ok_some rfl
              · unfold f_X12_share
                refine ok_bnd (ok_mono (ok_layLog TM (by decide) q2 l2 LM K3 h8 (by decide) h64 V.1 (by omega)) ?_)
                rintro z ⟨z1, z2, z3⟩
                rw [hx] at z3
                rw [if_neg (by rw [z1]; exact i10), z2]
                refine ok_bnd (ok_eq r2 ?_)
                rw [if_neg i10]
                refine ok_bnd (ok_eq s2 ?_)
                rw [if_neg i10, if_neg e, if_pos (by rw [z3.1, q]; rfl)]
                exact ok_some rfl
            · have tl := tgN_le (x := x) (a := a) (b := c)
              refine agr_of (sPart (tgN x a c) x.1 p5) ?_ ?_
              · unfold f_X11_share
                refine ok_bnd (ok_eq q1 ?_)
                rw [if_neg (by decide), if_pos rfl]
                refine ok_bnd (ok_eq r1 ?_)
                rw [if_neg i10]
                refine ok_bnd (ok_eq s1 ?_)
                rw [if_neg i10, if_neg e]
                refine ok_bnd (ok_eq l1 ?_)
                rw [if_neg (by decide), if_pos rfl]
                refine ok_bnd (ok_eq ev ?_)
                rw [if_neg (by rw [v1]; exact i10), v3.1, show (1 : Int32) = nI 1 from rfl, if_pos (nI_le (by omega) (by omega))]
                refine ok_bnd (ok_eq (e_X7_together V.1 v4 v3.2 (by omega) (by omega) hf) ?_)
                rw [nI_l (by omega), nI_l (by omega)]
                exact ok_bnd (ok_eq (e_lowest (by omega) (by omega) (by omega) (by omega)).1 (ok_some rfl))
              · unfold f_X12_share
                refine ok_bnd (ok_mono (ok_layLog TM (by decide) q2 l2 LM K3 h8 (by decide) h64 V.1 (by omega)) ?_)
                rintro z ⟨z1, z2, z3⟩
                rw [hx] at z3
                rw [if_neg (by rw [z1]; exact i10), z2]
                refine ok_bnd (ok_eq r2 ?_)
                rw [if_neg i10]
                refine ok_bnd (ok_eq s2 ?_)
                rw [if_neg i10, if_neg e, if_neg (by rw [z3.1]; exact nI_ne0 (by omega) (by omega)), z3.1]
                refine ok_bnd (ok_eq (e_X12_together V.1 v4 z3.2 (by omega) (by omega) hf) ?_)
                rw [nI_l (by omega), nI_l (by omega)]
                exact ok_bnd (ok_eq (e_lowest (by omega) (by omega) (by omega) (by omega)).2 (ok_some rfl))
        · refine agr_of (-1) ?_ ?_
          · unfold f_X11_share
            refine ok_bnd (ok_eq q1 ?_)
            rw [if_neg (by decide), if_pos rfl]
            refine ok_bnd (ok_eq r1 ?_)
            rw [if_neg i10]
            refine ok_bnd (ok_eq s1 ?_)
            rw [if_pos i00]
            exact ok_some rfl
          · unfold f_X12_share
            refine ok_bnd (ok_mono (ok_layLog TM (by decide) q2 l2 LM K3 h8 (by decide) h64 V.1 (by omega)) ?_)
            rintro z ⟨z1, z2, z3⟩
            rw [hx] at z3
            rw [if_neg (by rw [z1]; exact i10), z2]
            refine ok_bnd (ok_eq r2 ?_)
            rw [if_neg i10]
            refine ok_bnd (ok_eq s2 ?_)
            rw [if_pos i00]
            exact ok_some rfl
      · refine agr_of (-1) ?_ ?_
        · unfold f_X11_share
          refine ok_bnd (ok_eq q1 ?_)
          rw [if_neg (by decide), if_pos rfl]
          refine ok_bnd (ok_eq r1 ?_)
          rw [if_pos i00]
          exact ok_some rfl
        · unfold f_X12_share
          refine ok_bnd (ok_mono (ok_layLog TM (by decide) q2 l2 LM K3 h8 (by decide) h64 V.1 (by omega)) ?_)
          rintro z ⟨z1, z2, z3⟩
          rw [hx] at z3
          rw [if_neg (by rw [z1]; exact i10), z2]
          refine ok_bnd (ok_eq r2 ?_)
          rw [if_pos i00]
          exact ok_some rfl
