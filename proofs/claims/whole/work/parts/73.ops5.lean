theorem A_town {fu : Nat} {c_told_counts c_told_towns0_wit c_told_towns0_purse c_told_towns0_hated c_told_towns0_owed c_told_towns1_wit c_told_towns1_purse c_told_towns1_hated c_told_towns1_owed m_many m_towns m_purse m_beside m_debts m_sitting m_visited : (Nat → Int32)} {c_told_towns0_people c_told_towns1_people m_code m_town m_people m_when m_sat m_quiet m_vain m_lent m_forgiven m_sundays : Int32} (I : TI c_told_counts c_told_towns0_people c_told_towns0_wit c_told_towns0_purse c_told_towns0_hated c_told_towns0_owed c_told_towns1_people c_told_towns1_wit c_told_towns1_purse c_told_towns1_hated c_told_towns1_owed m_many m_towns) (hf : 1000 ≤ fu) (p1 : Int32) (p2 : Int32) : Agr (f_X11_town fu c_told_counts c_told_towns0_people c_told_towns0_wit c_told_towns0_purse c_told_towns0_hated c_told_towns0_owed c_told_towns1_people c_told_towns1_wit c_told_towns1_purse c_told_towns1_hated c_told_towns1_owed p1 p2) (fun x => x) (f_X12_town fu m_code m_many m_towns m_town m_people m_when m_sat m_quiet m_vain m_lent m_forgiven m_sundays m_purse m_beside m_debts m_sitting m_visited p1 p2) (fun y => y.1) := by
  rcases selT (fu := fu) I p1 with ⟨q1, q2⟩ | ⟨rfl, q1, q2, n, w, pu, h, o, V, TC, TM⟩ | ⟨rfl, q1, q2, n, w, pu, h, o, V, TC, TM⟩
  · refine agr_of (-1) ?_ ?_
    · unfold f_X11_town
      refine ok_bnd (ok_eq q1 ?_)
      rw [if_neg (by decide), if_neg (by decide)]
      exact ok_some rfl
    · unfold f_X12_town
      refine ok_bnd (ok_mono (no_hand q2) ?_)
      intro y hy
      rw [if_pos hy]
      exact ok_some rfl
  · obtain ⟨hpe, hwi, hpr, hha, how⟩ := TC
    subst hpe
    have h9 : ∀ i, i < 36 → o i ≤ 99 := fun i hi => Nat.le_trans (V.2.2.2.2.1 i hi) (by decide)
    have hM : ∀ i, i < 6 → m_towns (55 * 0 + 13 + i) = nI (h i) := TM.2.2.2.1
    have hW : ∀ i, i < 6 → m_towns (55 * 0 + 1 + i) = nI (w i) := TM.2.1
    have hP : ∀ i, i < 6 → m_towns (55 * 0 + 7 + i) = nI (pu i) := TM.2.2.1
    have hn6 := V.1
    rcases ask p2 200 (by decide) with ⟨j, hj, rfl⟩ | hx | hx
    · have lt : ∀ b : Nat, b < 2 ^ 31 → (nI j < nI b ↔ j < b) := fun b hb => nI_ltI (by omega) hb
      have le : ∀ b : Nat, b < 2 ^ 31 → (nI b ≤ nI j ↔ b ≤ j) := fun b hb => nI_leI hb (by omega)
      have eq : ∀ b : Nat, b < 2 ^ 31 → (nI j = nI b ↔ j = b) := fun b hb => nI_eq (by omega) hb
      have ej : jrm (nI j) (nI 10) = nI (j % 10) := jrm_n (by omega) (by decide) (by decide)
      have ed : nI j / nI 10 = nI (j / 10) := pk_div (by omega) (by decide) (by decide)
      have eq2 : ∀ b : Nat, b < 2 ^ 31 → (nI (j / 10) = nI b ↔ j / 10 = b) := fun b hb => nI_eq (by omega) hb
      have hnz : j ≠ 0 → ¬ nI j = (0 : Int32) := fun h z => h ((eq 0 (by decide)).1 z)
      by_cases q0 : j = 0
      · subst q0
        refine agr_of (nI n) ?_ ?_
        · unfold f_X11_town
          refine ok_bnd (ok_eq q1 ?_)
          rw [if_pos rfl]
          unfold f_X9_tell
          rw [if_pos (by decide)]
          exact ok_some rfl
        · unfold f_X12_town
          refine ok_bnd (ok_mono (ok_hand TM (by decide) q2 (by omega)) ?_)
          intro y hy
          obtain ⟨y1, y2, y3, -, y5, -, y7, -, -⟩ := id hy
          rw [if_neg (by rw [y1]; decide)]
          dsimp only [ltn]
          rw [y3]
          rw [if_pos (by decide), if_pos (by decide), if_pos (by decide)]
          exact ok_some rfl
      · rcases (show j < 10 ∨ (10 ≤ j ∧ j < 20) ∨ (20 ≤ j ∧ j < 30) ∨ (30 ≤ j ∧ j < 40) ∨ (40 ≤ j ∧ j < 100) ∨ (100 ≤ j ∧ j < 160) ∨ (160 ≤ j ∧ j < 200) by omega) with q | q | q | q | q | q | q
        · refine agr_of (-1) ?_ ?_
          · unfold f_X11_town
            refine ok_bnd (ok_eq q1 ?_)
            rw [if_pos rfl]
            unfold f_X9_tell
            rw [if_neg (hnz q0), show (10 : Int32) = nI 10 from rfl, show (20 : Int32) = nI 20 from rfl, show (30 : Int32) = nI 30 from rfl, show (40 : Int32) = nI 40 from rfl, show (100 : Int32) = nI 100 from rfl, show (200 : Int32) = nI 200 from rfl, if_pos ((lt 10 (by decide)).2 (by omega)), bnd_some]
            show ok (bnd (if nI j < nI 100 then _ else _) _) _
            rw [if_pos ((lt 100 (by decide)).2 (by omega))]
            exact ok_some rfl
          · unfold f_X12_town
            refine ok_bnd (ok_mono (ok_hand TM (by decide) q2 (by omega)) ?_)
            intro y hy
            obtain ⟨y1, y2, y3, -, y5, -, y7, -, -⟩ := id hy
            rw [if_neg (by rw [y1]; decide)]
            dsimp only [ltn]
            rw [y3]
            rw [show (10 : Int32) = nI 10 from rfl, show (100 : Int32) = nI 100 from rfl, show (160 : Int32) = nI 160 from rfl, if_pos ((lt 100 (by decide)).2 (by omega)), ed, if_pos (show nI (j / 10) = (0 : Int32) by rw [show j / 10 = 0 by omega]; rfl), if_neg (hnz q0)]
            exact ok_some rfl
        · refine agr_of (if j % 10 < n then nI (w (j % 10)) else -1) ?_ ?_
          · unfold f_X11_town
            refine ok_bnd (ok_eq q1 ?_)
            rw [if_pos rfl]
            unfold f_X9_tell
            rw [if_neg (hnz q0), show (10 : Int32) = nI 10 from rfl, show (20 : Int32) = nI 20 from rfl, show (30 : Int32) = nI 30 from rfl, show (40 : Int32) = nI 40 from rfl, show (100 : Int32) = nI 100 from rfl, show (200 : Int32) = nI 200 from rfl, if_neg (fun z => absurd ((lt 10 (by decide)).1 z) (by omega)), if_neg (fun z => absurd ((le 40 (by decide)).1 z) (by omega))]
            dsimp only [ltn]
            rw [ej, has_n V.1 (by omega), bnd_some]
            by_cases hk : j % 10 < n
            · rw [if_pos hk, if_neg i10, if_neg (fun z => absurd ((le 20 (by decide)).1 z) (by omega)), rdi_n (show j % 10 < 6 by omega) (by decide) (hwi _ hk)]
              refine ok_some ?_
              rw [if_pos hk]
            · rw [if_neg hk, if_pos i00]
              refine ok_some ?_
              rw [if_neg hk]
          · unfold f_X12_town
            refine ok_bnd (ok_mono (ok_hand TM (by decide) q2 (by omega)) ?_)
            intro y hy
            obtain ⟨y1, y2, y3, -, y5, -, y7, -, -⟩ := id hy
            rw [if_neg (by rw [y1]; decide)]
            dsimp only [ltn]
            rw [y3]
            rw [show (10 : Int32) = nI 10 from rfl, show (100 : Int32) = nI 100 from rfl, show (160 : Int32) = nI 160 from rfl, if_pos ((lt 100 (by decide)).2 (by omega)), ed, ej, if_neg (show ¬ nI (j / 10) = (0 : Int32) from fun z => by have := (eq2 0 (by decide)).1 z; omega), if_pos (show nI (j / 10) = (1 : Int32) by rw [show j / 10 = 1 by omega]; rfl)]
            by_cases hk : j % 10 < n
            · rw [if_neg (nI_ge hk (by omega)), if_pos hk]
              rw [show (1 : Int32) + 6 * (nI (j / 10) - 1) + nI (j % 10) = nI (1 + 6 * 0 + j % 10) by rw [show j / 10 = 1 by omega, show nI 1 - 1 = nI 0 from rfl, show (6 : Int32) = nI 6 from rfl, show (1 : Int32) = nI 1 from rfl, pk_mul, nI_add, nI_add], y2]
              refine ok_bnd (ok_eq (e_X12_of (v := nI (w (j % 10))) (by rw [← hW (j % 10) (by omega), Nat.add_assoc (55 * 0)]) (by omega)) ?_)
              exact ok_some rfl
            · rw [if_pos (nI_le (by omega) (by omega)), if_neg hk]
              exact ok_some rfl
        · refine agr_of (if j % 10 < n then nI (pu (j % 10)) else -1) ?_ ?_
          · unfold f_X11_town
            refine ok_bnd (ok_eq q1 ?_)
            rw [if_pos rfl]
            unfold f_X9_tell
            rw [if_neg (hnz q0), show (10 : Int32) = nI 10 from rfl, show (20 : Int32) = nI 20 from rfl, show (30 : Int32) = nI 30 from rfl, show (40 : Int32) = nI 40 from rfl, show (100 : Int32) = nI 100 from rfl, show (200 : Int32) = nI 200 from rfl, if_neg (fun z => absurd ((lt 10 (by decide)).1 z) (by omega)), if_neg (fun z => absurd ((le 40 (by decide)).1 z) (by omega))]
            dsimp only [ltn]
            rw [ej, has_n V.1 (by omega), bnd_some]
            by_cases hk : j % 10 < n
            · rw [if_pos hk, if_neg i10, if_pos ((le 20 (by decide)).2 (by omega)), if_neg (fun z => absurd ((le 30 (by decide)).1 z) (by omega)), rdi_n (show j % 10 < 6 by omega) (by decide) (hpr _ hk)]
              refine ok_some ?_
              rw [if_pos hk]
            · rw [if_neg hk, if_pos i00]
              refine ok_some ?_
              rw [if_neg hk]
          · unfold f_X12_town
            refine ok_bnd (ok_mono (ok_hand TM (by decide) q2 (by omega)) ?_)
            intro y hy
            obtain ⟨y1, y2, y3, -, y5, -, y7, -, -⟩ := id hy
            rw [if_neg (by rw [y1]; decide)]
            dsimp only [ltn]
            rw [y3]
            rw [show (10 : Int32) = nI 10 from rfl, show (100 : Int32) = nI 100 from rfl, show (160 : Int32) = nI 160 from rfl, if_pos ((lt 100 (by decide)).2 (by omega)), ed, ej, if_neg (show ¬ nI (j / 10) = (0 : Int32) from fun z => by have := (eq2 0 (by decide)).1 z; omega), if_neg (show ¬ nI (j / 10) = (1 : Int32) from fun z => by have := (eq2 1 (by decide)).1 z; omega), if_pos (show nI (j / 10) = (2 : Int32) by rw [show j / 10 = 2 by omega]; rfl)]
            by_cases hk : j % 10 < n
            · rw [if_neg (nI_ge hk (by omega)), if_pos hk]
              rw [show (1 : Int32) + 6 * (nI (j / 10) - 1) + nI (j % 10) = nI (1 + 6 * 1 + j % 10) by rw [show j / 10 = 2 by omega, show nI 2 - 1 = nI 1 from rfl, show (6 : Int32) = nI 6 from rfl, show (1 : Int32) = nI 1 from rfl, pk_mul, nI_add, nI_add], y2]
              refine ok_bnd (ok_eq (e_X12_of (v := nI (pu (j % 10))) (by rw [← hP (j % 10) (by omega), Nat.add_assoc (55 * 0)]) (by omega)) ?_)
              exact ok_some rfl
            · rw [if_pos (nI_le (by omega) (by omega)), if_neg hk]
              exact ok_some rfl
        · refine agr_of (if j % 10 < n then nI (h (j % 10)) else -1) ?_ ?_
          · unfold f_X11_town
            refine ok_bnd (ok_eq q1 ?_)
            rw [if_pos rfl]
            unfold f_X9_tell
            rw [if_neg (hnz q0), show (10 : Int32) = nI 10 from rfl, show (20 : Int32) = nI 20 from rfl, show (30 : Int32) = nI 30 from rfl, show (40 : Int32) = nI 40 from rfl, show (100 : Int32) = nI 100 from rfl, show (200 : Int32) = nI 200 from rfl, if_neg (fun z => absurd ((lt 10 (by decide)).1 z) (by omega)), if_neg (fun z => absurd ((le 40 (by decide)).1 z) (by omega))]
            dsimp only [ltn]
            rw [ej, has_n V.1 (by omega), bnd_some]
            by_cases hk : j % 10 < n
            · rw [if_pos hk, if_neg i10, if_pos ((le 20 (by decide)).2 (by omega)), if_pos ((le 30 (by decide)).2 (by omega)), rdi_n (show j % 10 < 6 by omega) (by decide) (hha _ (by omega))]
              refine ok_some ?_
              rw [if_pos hk]
            · rw [if_neg hk, if_pos i00]
              refine ok_some ?_
              rw [if_neg hk]
          · unfold f_X12_town
            refine ok_bnd (ok_mono (ok_hand TM (by decide) q2 (by omega)) ?_)
            intro y hy
            obtain ⟨y1, y2, y3, -, y5, -, y7, -, -⟩ := id hy
            rw [if_neg (by rw [y1]; decide)]
            dsimp only [ltn]
            rw [y3]
            rw [show (10 : Int32) = nI 10 from rfl, show (100 : Int32) = nI 100 from rfl, show (160 : Int32) = nI 160 from rfl, if_pos ((lt 100 (by decide)).2 (by omega)), ed, ej, if_neg (show ¬ nI (j / 10) = (0 : Int32) from fun z => by have := (eq2 0 (by decide)).1 z; omega), if_neg (show ¬ nI (j / 10) = (1 : Int32) from fun z => by have := (eq2 1 (by decide)).1 z; omega), if_neg (show ¬ nI (j / 10) = (2 : Int32) from fun z => by have := (eq2 2 (by decide)).1 z; omega), if_pos (show nI (j / 10) = (3 : Int32) by rw [show j / 10 = 3 by omega]; rfl)]
            by_cases hk : j % 10 < n
            · rw [if_neg (nI_ge hk (by omega)), if_pos hk]
              rw [show (1 : Int32) + 6 * (nI (j / 10) - 1) + nI (j % 10) = nI (1 + 6 * 2 + j % 10) by rw [show j / 10 = 3 by omega, show nI 3 - 1 = nI 2 from rfl, show (6 : Int32) = nI 6 from rfl, show (1 : Int32) = nI 1 from rfl, pk_mul, nI_add, nI_add], y2]
              refine ok_bnd (ok_eq (e_X12_of (v := nI (h (j % 10))) (by rw [← hM (j % 10) (by omega), Nat.add_assoc (55 * 0)]) (by omega)) ?_)
              exact ok_some rfl
            · rw [if_pos (nI_le (by omega) (by omega)), if_neg hk]
              exact ok_some rfl
        · refine agr_of (-1) ?_ ?_
          · unfold f_X11_town
            refine ok_bnd (ok_eq q1 ?_)
            rw [if_pos rfl]
            unfold f_X9_tell
            rw [if_neg (hnz q0), show (10 : Int32) = nI 10 from rfl, show (20 : Int32) = nI 20 from rfl, show (30 : Int32) = nI 30 from rfl, show (40 : Int32) = nI 40 from rfl, show (100 : Int32) = nI 100 from rfl, show (200 : Int32) = nI 200 from rfl, if_neg (fun z => absurd ((lt 10 (by decide)).1 z) (by omega)), if_pos ((le 40 (by decide)).2 (by omega)), bnd_some]
            show ok (bnd (if nI j < nI 100 then _ else _) _) _
            rw [if_pos ((lt 100 (by decide)).2 (by omega))]
            exact ok_some rfl
          · unfold f_X12_town
            refine ok_bnd (ok_mono (ok_hand TM (by decide) q2 (by omega)) ?_)
            intro y hy
            obtain ⟨y1, y2, y3, -, y5, -, y7, -, -⟩ := id hy
            rw [if_neg (by rw [y1]; decide)]
            dsimp only [ltn]
            rw [y3]
            rw [show (10 : Int32) = nI 10 from rfl, show (100 : Int32) = nI 100 from rfl, show (160 : Int32) = nI 160 from rfl, if_pos ((lt 100 (by decide)).2 (by omega)), ed, if_neg (show ¬ nI (j / 10) = (0 : Int32) from fun z => by have := (eq2 0 (by decide)).1 z; omega), if_neg (show ¬ nI (j / 10) = (1 : Int32) from fun z => by have := (eq2 1 (by decide)).1 z; omega), if_neg (show ¬ nI (j / 10) = (2 : Int32) from fun z => by have := (eq2 2 (by decide)).1 z; omega), if_neg (show ¬ nI (j / 10) = (3 : Int32) from fun z => by have := (eq2 3 (by decide)).1 z; omega)]
            exact ok_some rfl
        · have e7 : (nI j - nI 100) / nI 10 = nI ((j - 100) / 10) := by rw [pk_sub (by omega), pk_div (by omega) (by decide) (by decide)]
          refine agr_of (if (j - 100) / 10 < n ∧ j % 10 < n then nI (o (6 * ((j - 100) / 10) + j % 10)) else -1) ?_ ?_
          · unfold f_X11_town
            refine ok_bnd (ok_eq q1 ?_)
            rw [if_pos rfl]
            unfold f_X9_tell
            rw [if_neg (hnz q0), show (10 : Int32) = nI 10 from rfl, show (20 : Int32) = nI 20 from rfl, show (30 : Int32) = nI 30 from rfl, show (40 : Int32) = nI 40 from rfl, show (100 : Int32) = nI 100 from rfl, show (200 : Int32) = nI 200 from rfl, if_neg (fun z => absurd ((lt 10 (by decide)).1 z) (by omega)), if_pos ((le 40 (by decide)).2 (by omega)), bnd_some]
            show ok (bnd (if nI j < nI 100 then _ else _) _) _
            rw [if_neg (fun z => absurd ((lt 100 (by decide)).1 z) (by omega)), if_neg (fun z => absurd ((le 200 (by decide)).1 z) (by omega))]
            dsimp only [ltn]
            rw [e7, ej, has_n V.1 (by omega), bnd_some, has_n V.1 (by omega)]
            by_cases hk : (j - 100) / 10 < n
            · rw [if_pos hk, if_neg i10, bnd_some]
              by_cases hk2 : j % 10 < n
              · rw [if_pos hk2, if_neg i10, e_X9_owes how (by omega) (by omega)]
                refine ok_some ?_
                rw [if_pos ⟨hk, hk2⟩]
              · rw [if_neg hk2, if_pos i00]
                refine ok_some ?_
                rw [if_neg (fun z => hk2 z.2)]
            · rw [if_neg hk, if_pos i00]
              refine ok_some ?_
              rw [if_neg (fun z => hk z.1)]
          · unfold f_X12_town
            refine ok_bnd (ok_mono (ok_hand TM (by decide) q2 (by omega)) ?_)
            intro y hy
            obtain ⟨y1, y2, y3, -, y5, -, y7, -, -⟩ := id hy
            rw [if_neg (by rw [y1]; decide)]
            dsimp only [ltn]
            rw [y3]
            rw [show (10 : Int32) = nI 10 from rfl, show (100 : Int32) = nI 100 from rfl, show (160 : Int32) = nI 160 from rfl, if_neg (fun z => absurd ((lt 100 (by decide)).1 z) (by omega)), if_neg (fun z => absurd ((le 160 (by decide)).1 z) (by omega)), e7, ej, isP_n V.1 (by omega), bnd_some, isP_n V.1 (by omega)]
            by_cases hk : (j - 100) / 10 < n
            · rw [if_pos hk, if_neg i10, bnd_some]
              by_cases hk2 : j % 10 < n
              · rw [if_pos hk2, if_neg i10, if_pos ⟨hk, hk2⟩]
                exact ok_bnd (ok_eq (e_X12_owed y7 (by omega) (by omega)) (ok_some rfl))
              · rw [if_neg hk2, if_pos i00, if_neg (fun z => hk2 z.2)]
                exact ok_some rfl
            · rw [if_neg hk, if_pos i00, if_neg (fun z => hk z.1)]
              exact ok_some rfl
        · have e7 : (nI j - nI 100) / nI 10 = nI ((j - 100) / 10) := by rw [pk_sub (by omega), pk_div (by omega) (by decide) (by decide)]
          refine agr_of (-1) ?_ ?_
          · unfold f_X11_town
            refine ok_bnd (ok_eq q1 ?_)
            rw [if_pos rfl]
            unfold f_X9_tell
            rw [if_neg (hnz q0), show (10 : Int32) = nI 10 from rfl, show (20 : Int32) = nI 20 from rfl, show (30 : Int32) = nI 30 from rfl, show (40 : Int32) = nI 40 from rfl, show (100 : Int32) = nI 100 from rfl, show (200 : Int32) = nI 200 from rfl, if_neg (fun z => absurd ((lt 10 (by decide)).1 z) (by omega)), if_pos ((le 40 (by decide)).2 (by omega)), bnd_some]
            show ok (bnd (if nI j < nI 100 then _ else _) _) _
            rw [if_neg (fun z => absurd ((lt 100 (by decide)).1 z) (by omega)), if_neg (fun z => absurd ((le 200 (by decide)).1 z) (by omega))]
            dsimp only [ltn]
            rw [e7, has_n V.1 (by omega), bnd_some, if_neg (show ¬ (j - 100) / 10 < n by omega), if_pos i00]
            exact ok_some rfl
          · unfold f_X12_town
            refine ok_bnd (ok_mono (ok_hand TM (by decide) q2 (by omega)) ?_)
            intro y hy
            obtain ⟨y1, y2, y3, -, y5, -, y7, -, -⟩ := id hy
            rw [if_neg (by rw [y1]; decide)]
            dsimp only [ltn]
            rw [y3]
            rw [show (10 : Int32) = nI 10 from rfl, show (100 : Int32) = nI 100 from rfl, show (160 : Int32) = nI 160 from rfl, if_neg (fun z => absurd ((lt 100 (by decide)).1 z) (by omega)), if_pos ((le 160 (by decide)).2 (by omega))]
            exact ok_some rfl
    · refine agr_of (-1) ?_ ?_
      · unfold f_X11_town
        refine ok_bnd (ok_eq q1 ?_)
        rw [if_pos rfl]
        unfold f_X9_tell
        rw [if_neg (show ¬ p2 = 0 from lt0_ne (a := 0) hx (by decide)), show (10 : Int32) = nI 10 from rfl, show (20 : Int32) = nI 20 from rfl, show (30 : Int32) = nI 30 from rfl, show (40 : Int32) = nI 40 from rfl, show (100 : Int32) = nI 100 from rfl, show (200 : Int32) = nI 200 from rfl, if_pos (lt0_k hx (by decide)), bnd_some]
        show ok (bnd (if p2 < nI 100 then _ else _) _) _
        rw [if_pos (lt0_k hx (by decide))]
        exact ok_some rfl
      · unfold f_X12_town
        refine ok_bnd (ok_mono (ok_hand TM (by decide) q2 (by omega)) ?_)
        intro y hy
        obtain ⟨y1, y2, y3, -, y5, -, y7, -, -⟩ := id hy
        rw [if_neg (by rw [y1]; decide)]
        dsimp only [ltn]
        rw [y3, show (100 : Int32) = nI 100 from rfl, if_pos (lt0_k hx (by decide)), if_neg (show ¬ p2 / 10 = 1 from neg_div_ne hx (k := 1) (by decide) (by decide)), if_neg (show ¬ p2 / 10 = 2 from neg_div_ne hx (k := 2) (by decide) (by decide)), if_neg (show ¬ p2 / 10 = 3 from neg_div_ne hx (k := 3) (by decide) (by decide)), if_neg (show ¬ p2 = 0 from lt0_ne (a := 0) hx (by decide))]
        refine ok_ite (fun _ => ok_some rfl) (fun _ => ok_some rfl)
    · refine agr_of (-1) ?_ ?_
      · unfold f_X11_town
        refine ok_bnd (ok_eq q1 ?_)
        rw [if_pos rfl]
        unfold f_X9_tell
        rw [if_neg (show ¬ p2 = 0 from ge_ne (a := 0) hx (by decide) (by decide)), show (10 : Int32) = nI 10 from rfl, show (20 : Int32) = nI 20 from rfl, show (30 : Int32) = nI 30 from rfl, show (40 : Int32) = nI 40 from rfl, show (100 : Int32) = nI 100 from rfl, show (200 : Int32) = nI 200 from rfl, if_neg (ge_k hx (by decide) (by decide)), if_pos (ge_le hx (by decide) (by decide)), bnd_some]
        show ok (bnd (if p2 < nI 100 then _ else _) _) _
        rw [if_neg (ge_k hx (by decide) (by decide)), if_pos hx]
        exact ok_some rfl
      · unfold f_X12_town
        refine ok_bnd (ok_mono (ok_hand TM (by decide) q2 (by omega)) ?_)
        intro y hy
        obtain ⟨y1, y2, y3, -, y5, -, y7, -, -⟩ := id hy
        rw [if_neg (by rw [y1]; decide)]
        dsimp only [ltn]
        rw [y3, show (100 : Int32) = nI 100 from rfl, show (160 : Int32) = nI 160 from rfl, if_neg (ge_k hx (by decide) (by decide)), if_pos (ge_le hx (by decide) (by decide))]
        exact ok_some rfl
  · obtain ⟨hpe, hwi, hpr, hha, how⟩ := TC
    subst hpe
    have h9 : ∀ i, i < 36 → o i ≤ 99 := fun i hi => Nat.le_trans (V.2.2.2.2.1 i hi) (by decide)
    have hM : ∀ i, i < 6 → m_towns (55 * 1 + 13 + i) = nI (h i) := TM.2.2.2.1
    have hW : ∀ i, i < 6 → m_towns (55 * 1 + 1 + i) = nI (w i) := TM.2.1
    have hP : ∀ i, i < 6 → m_towns (55 * 1 + 7 + i) = nI (pu i) := TM.2.2.1
    have hn6 := V.1
    rcases ask p2 200 (by decide) with ⟨j, hj, rfl⟩ | hx | hx
    · have lt : ∀ b : Nat, b < 2 ^ 31 → (nI j < nI b ↔ j < b) := fun b hb => nI_ltI (by omega) hb
      have le : ∀ b : Nat, b < 2 ^ 31 → (nI b ≤ nI j ↔ b ≤ j) := fun b hb => nI_leI hb (by omega)
      have eq : ∀ b : Nat, b < 2 ^ 31 → (nI j = nI b ↔ j = b) := fun b hb => nI_eq (by omega) hb
      have ej : jrm (nI j) (nI 10) = nI (j % 10) := jrm_n (by omega) (by decide) (by decide)
      have ed : nI j / nI 10 = nI (j / 10) := pk_div (by omega) (by decide) (by decide)
      have eq2 : ∀ b : Nat, b < 2 ^ 31 → (nI (j / 10) = nI b ↔ j / 10 = b) := fun b hb => nI_eq (by omega) hb
      have hnz : j ≠ 0 → ¬ nI j = (0 : Int32) := fun h z => h ((eq 0 (by decide)).1 z)
      by_cases q0 : j = 0
      · subst q0
        refine agr_of (nI n) ?_ ?_
        · unfold f_X11_town
          refine ok_bnd (ok_eq q1 ?_)
          rw [if_neg (by decide), if_pos rfl]
          unfold f_X9_tell
          rw [if_pos (by decide)]
          exact ok_some rfl
        · unfold f_X12_town
          refine ok_bnd (ok_mono (ok_hand TM (by decide) q2 (by omega)) ?_)
          intro y hy
          obtain ⟨y1, y2, y3, -, y5, -, y7, -, -⟩ := id hy
          rw [if_neg (by rw [y1]; decide)]
          dsimp only [ltn]
          rw [y3]
          rw [if_pos (by decide), if_pos (by decide), if_pos (by decide)]
          exact ok_some rfl
      · rcases (show j < 10 ∨ (10 ≤ j ∧ j < 20) ∨ (20 ≤ j ∧ j < 30) ∨ (30 ≤ j ∧ j < 40) ∨ (40 ≤ j ∧ j < 100) ∨ (100 ≤ j ∧ j < 160) ∨ (160 ≤ j ∧ j < 200) by omega) with q | q | q | q | q | q | q
        · refine agr_of (-1) ?_ ?_
          · unfold f_X11_town
            refine ok_bnd (ok_eq q1 ?_)
            rw [if_neg (by decide), if_pos rfl]
            unfold f_X9_tell
            rw [if_neg (hnz q0), show (10 : Int32) = nI 10 from rfl, show (20 : Int32) = nI 20 from rfl, show (30 : Int32) = nI 30 from rfl, show (40 : Int32) = nI 40 from rfl, show (100 : Int32) = nI 100 from rfl, show (200 : Int32) = nI 200 from rfl, if_pos ((lt 10 (by decide)).2 (by omega)), bnd_some]
            show ok (bnd (if nI j < nI 100 then _ else _) _) _
            rw [if_pos ((lt 100 (by decide)).2 (by omega))]
            exact ok_some rfl
          · unfold f_X12_town
            refine ok_bnd (ok_mono (ok_hand TM (by decide) q2 (by omega)) ?_)
            intro y hy
            obtain ⟨y1, y2, y3, -, y5, -, y7, -, -⟩ := id hy
            rw [if_neg (by rw [y1]; decide)]
            dsimp only [ltn]
            rw [y3]
            rw [show (10 : Int32) = nI 10 from rfl, show (100 : Int32) = nI 100 from rfl, show (160 : Int32) = nI 160 from rfl, if_pos ((lt 100 (by decide)).2 (by omega)), ed, if_pos (show nI (j / 10) = (0 : Int32) by rw [show j / 10 = 0 by omega]; rfl), if_neg (hnz q0)]
            exact ok_some rfl
        · refine agr_of (if j % 10 < n then nI (w (j % 10)) else -1) ?_ ?_
          · unfold f_X11_town
            refine ok_bnd (ok_eq q1 ?_)
            rw [if_neg (by decide), if_pos rfl]
            unfold f_X9_tell
            rw [if_neg (hnz q0), show (10 : Int32) = nI 10 from rfl, show (20 : Int32) = nI 20 from rfl, show (30 : Int32) = nI 30 from rfl, show (40 : Int32) = nI 40 from rfl, show (100 : Int32) = nI 100 from rfl, show (200 : Int32) = nI 200 from rfl, if_neg (fun z => absurd ((lt 10 (by decide)).1 z) (by omega)), if_neg (fun z => absurd ((le 40 (by decide)).1 z) (by omega))]
            dsimp only [ltn]
            rw [ej, has_n V.1 (by omega), bnd_some]
            by_cases hk : j % 10 < n
            · rw [if_pos hk, if_neg i10, if_neg (fun z => absurd ((le 20 (by decide)).1 z) (by omega)), rdi_n (show j % 10 < 6 by omega) (by decide) (hwi _ hk)]
              refine ok_some ?_
              rw [if_pos hk]
            · rw [if_neg hk, if_pos i00]
              refine ok_some ?_
              rw [if_neg hk]
          · unfold f_X12_town
            refine ok_bnd (ok_mono (ok_hand TM (by decide) q2 (by omega)) ?_)
            intro y hy
            obtain ⟨y1, y2, y3, -, y5, -, y7, -, -⟩ := id hy
            rw [if_neg (by rw [y1]; decide)]
            dsimp only [ltn]
            rw [y3]
            rw [show (10 : Int32) = nI 10 from rfl, show (100 : Int32) = nI 100 from rfl, show (160 : Int32) = nI 160 from rfl, if_pos ((lt 100 (by decide)).2 (by omega)), ed, ej, if_neg (show ¬ nI (j / 10) = (0 : Int32) from fun z => by have := (eq2 0 (by decide)).1 z; omega), if_pos (show nI (j / 10) = (1 : Int32) by rw [show j / 10 = 1 by omega]; rfl)]
            by_cases hk : j % 10 < n
            · rw [if_neg (nI_ge hk (by omega)), if_pos hk]
              rw [show (1 : Int32) + 6 * (nI (j / 10) - 1) + nI (j % 10) = nI (1 + 6 * 0 + j % 10) by rw [show j / 10 = 1 by omega, show nI 1 - 1 = nI 0 from rfl, show (6 : Int32) = nI 6 from rfl, show (1 : Int32) = nI 1 from rfl, pk_mul, nI_add, nI_add], y2]
              refine ok_bnd (ok_eq (e_X12_of (v := nI (w (j % 10))) (by rw [← hW (j % 10) (by omega), Nat.add_assoc (55 * 1)]) (by omega)) ?_)
              exact ok_some rfl
            · rw [if_pos (nI_le (by omega) (by omega)), if_neg hk]
              exact ok_some rfl
        · refine agr_of (if j % 10 < n then nI (pu (j % 10)) else -1) ?_ ?_
          · unfold f_X11_town
            refine ok_bnd (ok_eq q1 ?_)
            rw [if_neg (by decide), if_pos rfl]
            unfold f_X9_tell
            rw [if_neg (hnz q0), show (10 : Int32) = nI 10 from rfl, show (20 : Int32) = nI 20 from rfl, show (30 : Int32) = nI 30 from rfl, show (40 : Int32) = nI 40 from rfl, show (100 : Int32) = nI 100 from rfl, show (200 : Int32) = nI 200 from rfl, if_neg (fun z => absurd ((lt 10 (by decide)).1 z) (by omega)), if_neg (fun z => absurd ((le 40 (by decide)).1 z) (by omega))]
            dsimp only [ltn]
            rw [ej, has_n V.1 (by omega), bnd_some]
            by_cases hk : j % 10 < n
            · rw [if_pos hk, if_neg i10, if_pos ((le 20 (by decide)).2 (by omega)), if_neg (fun z => absurd ((le 30 (by decide)).1 z) (by omega)), rdi_n (show j % 10 < 6 by omega) (by decide) (hpr _ hk)]
              refine ok_some ?_
              rw [if_pos hk]
            · rw [if_neg hk, if_pos i00]
              refine ok_some ?_
              rw [if_neg hk]
          · unfold f_X12_town
            refine ok_bnd (ok_mono (ok_hand TM (by decide) q2 (by omega)) ?_)
            intro y hy
            obtain ⟨y1, y2, y3, -, y5, -, y7, -, -⟩ := id hy
            rw [if_neg (by rw [y1]; decide)]
            dsimp only [ltn]
            rw [y3]
            rw [show (10 : Int32) = nI 10 from rfl, show (100 : Int32) = nI 100 from rfl, show (160 : Int32) = nI 160 from rfl, if_pos ((lt 100 (by decide)).2 (by omega)), ed, ej, if_neg (show ¬ nI (j / 10) = (0 : Int32) from fun z => by have := (eq2 0 (by decide)).1 z; omega), if_neg (show ¬ nI (j / 10) = (1 : Int32) from fun z => by have := (eq2 1 (by decide)).1 z; omega), if_pos (show nI (j / 10) = (2 : Int32) by rw [show j / 10 = 2 by omega]; rfl)]
            by_cases hk : j % 10 < n
            · rw [if_neg (nI_ge hk (by omega)), if_pos hk]
              rw [show (1 : Int32) + 6 * (nI (j / 10) - 1) + nI (j % 10) = nI (1 + 6 * 1 + j % 10) by rw [show j / 10 = 2 by omega, show nI 2 - 1 = nI 1 from rfl, show (6 : Int32) = nI 6 from rfl, show (1 : Int32) = nI 1 from rfl, pk_mul, nI_add, nI_add], y2]
              refine ok_bnd (ok_eq (e_X12_of (v := nI (pu (j % 10))) (by rw [← hP (j % 10) (by omega), Nat.add_assoc (55 * 1)]) (by omega)) ?_)
              exact ok_some rfl
            · rw [if_pos (nI_le (by omega) (by omega)), if_neg hk]
              exact ok_some rfl
        · refine agr_of (if j % 10 < n then nI (h (j % 10)) else -1) ?_ ?_
          · unfold f_X11_town
            refine ok_bnd (ok_eq q1 ?_)
            rw [if_neg (by decide), if_pos rfl]
            unfold f_X9_tell
            rw [if_neg (hnz q0), show (10 : Int32) = nI 10 from rfl, show (20 : Int32) = nI 20 from rfl, show (30 : Int32) = nI 30 from rfl, show (40 : Int32) = nI 40 from rfl, show (100 : Int32) = nI 100 from rfl, show (200 : Int32) = nI 200 from rfl, if_neg (fun z => absurd ((lt 10 (by decide)).1 z) (by omega)), if_neg (fun z => absurd ((le 40 (by decide)).1 z) (by omega))]
            dsimp only [ltn]
            rw [ej, has_n V.1 (by omega), bnd_some]
            by_cases hk : j % 10 < n
            · rw [if_pos hk, if_neg i10, if_pos ((le 20 (by decide)).2 (by omega)), if_pos ((le 30 (by decide)).2 (by omega)), rdi_n (show j % 10 < 6 by omega) (by decide) (hha _ (by omega))]
              refine ok_some ?_
              rw [if_pos hk]
            · rw [if_neg hk, if_pos i00]
              refine ok_some ?_
              rw [if_neg hk]
          · unfold f_X12_town
            refine ok_bnd (ok_mono (ok_hand TM (by decide) q2 (by omega)) ?_)
            intro y hy
            obtain ⟨y1, y2, y3, -, y5, -, y7, -, -⟩ := id hy
            rw [if_neg (by rw [y1]; decide)]
            dsimp only [ltn]
            rw [y3]
            rw [show (10 : Int32) = nI 10 from rfl, show (100 : Int32) = nI 100 from rfl, show (160 : Int32) = nI 160 from rfl, if_pos ((lt 100 (by decide)).2 (by omega)), ed, ej, if_neg (show ¬ nI (j / 10) = (0 : Int32) from fun z => by have := (eq2 0 (by decide)).1 z; omega), if_neg (show ¬ nI (j / 10) = (1 : Int32) from fun z => by have := (eq2 1 (by decide)).1 z; omega), if_neg (show ¬ nI (j / 10) = (2 : Int32) from fun z => by have := (eq2 2 (by decide)).1 z; omega), if_pos (show nI (j / 10) = (3 : Int32) by rw [show j / 10 = 3 by omega]; rfl)]
            by_cases hk : j % 10 < n
            · rw [if_neg (nI_ge hk (by omega)), if_pos hk]
              rw [show (1 : Int32) + 6 * (nI (j / 10) - 1) + nI (j % 10) = nI (1 + 6 * 2 + j % 10) by rw [show j / 10 = 3 by omega, show nI 3 - 1 = nI 2 from rfl, show (6 : Int32) = nI 6 from rfl, show (1 : Int32) = nI 1 from rfl, pk_mul, nI_add, nI_add], y2]
              refine ok_bnd (ok_eq (e_X12_of (v := nI (h (j % 10))) (by rw [← hM (j % 10) (by omega), Nat.add_assoc (55 * 1)]) (by omega)) ?_)
              exact ok_some rfl
            · rw [if_pos (nI_le (by omega) (by omega)), if_neg hk]
              exact ok_some rfl
        · refine agr_of (-1) ?_ ?_
          · unfold f_X11_town
            refine ok_bnd (ok_eq q1 ?_)
            rw [if_neg (by decide), if_pos rfl]
            unfold f_X9_tell
            rw [if_neg (hnz q0), show (10 : Int32) = nI 10 from rfl, show (20 : Int32) = nI 20 from rfl, show (30 : Int32) = nI 30 from rfl, show (40 : Int32) = nI 40 from rfl, show (100 : Int32) = nI 100 from rfl, show (200 : Int32) = nI 200 from rfl, if_neg (fun z => absurd ((lt 10 (by decide)).1 z) (by omega)), if_pos ((le 40 (by decide)).2 (by omega)), bnd_some]
            show ok (bnd (if nI j < nI 100 then _ else _) _) _
            rw [if_pos ((lt 100 (by decide)).2 (by omega))]
            exact ok_some rfl
          · unfold f_X12_town
            refine ok_bnd (ok_mono (ok_hand TM (by decide) q2 (by omega)) ?_)
            intro y hy
            obtain ⟨y1, y2, y3, -, y5, -, y7, -, -⟩ := id hy
            rw [if_neg (by rw [y1]; decide)]
            dsimp only [ltn]
            rw [y3]
            rw [show (10 : Int32) = nI 10 from rfl, show (100 : Int32) = nI 100 from rfl, show (160 : Int32) = nI 160 from rfl, if_pos ((lt 100 (by decide)).2 (by omega)), ed, if_neg (show ¬ nI (j / 10) = (0 : Int32) from fun z => by have := (eq2 0 (by decide)).1 z; omega), if_neg (show ¬ nI (j / 10) = (1 : Int32) from fun z => by have := (eq2 1 (by decide)).1 z; omega), if_neg (show ¬ nI (j / 10) = (2 : Int32) from fun z => by have := (eq2 2 (by decide)).1 z; omega), if_neg (show ¬ nI (j / 10) = (3 : Int32) from fun z => by have := (eq2 3 (by decide)).1 z; omega)]
            exact ok_some rfl
        · have e7 : (nI j - nI 100) / nI 10 = nI ((j - 100) / 10) := by rw [pk_sub (by omega), pk_div (by omega) (by decide) (by decide)]
          refine agr_of (if (j - 100) / 10 < n ∧ j % 10 < n then nI (o (6 * ((j - 100) / 10) + j % 10)) else -1) ?_ ?_
          · unfold f_X11_town
            refine ok_bnd (ok_eq q1 ?_)
            rw [if_neg (by decide), if_pos rfl]
            unfold f_X9_tell
            rw [if_neg (hnz q0), show (10 : Int32) = nI 10 from rfl, show (20 : Int32) = nI 20 from rfl, show (30 : Int32) = nI 30 from rfl, show (40 : Int32) = nI 40 from rfl, show (100 : Int32) = nI 100 from rfl, show (200 : Int32) = nI 200 from rfl, if_neg (fun z => absurd ((lt 10 (by decide)).1 z) (by omega)), if_pos ((le 40 (by decide)).2 (by omega)), bnd_some]
            show ok (bnd (if nI j < nI 100 then _ else _) _) _
            rw [if_neg (fun z => absurd ((lt 100 (by decide)).1 z) (by omega)), if_neg (fun z => absurd ((le 200 (by decide)).1 z) (by omega))]
            dsimp only [ltn]
            rw [e7, ej, has_n V.1 (by omega), bnd_some, has_n V.1 (by omega)]
            by_cases hk : (j - 100) / 10 < n
            · rw [if_pos hk, if_neg i10, bnd_some]
              by_cases hk2 : j % 10 < n
              · rw [if_pos hk2, if_neg i10, e_X9_owes how (by omega) (by omega)]
                refine ok_some ?_
                rw [if_pos ⟨hk, hk2⟩]
              · rw [if_neg hk2, if_pos i00]
                refine ok_some ?_
                rw [if_neg (fun z => hk2 z.2)]
            · rw [if_neg hk, if_pos i00]
              refine ok_some ?_
              rw [if_neg (fun z => hk z.1)]
          · unfold f_X12_town
            refine ok_bnd (ok_mono (ok_hand TM (by decide) q2 (by omega)) ?_)
            intro y hy
            obtain ⟨y1, y2, y3, -, y5, -, y7, -, -⟩ := id hy
            rw [if_neg (by rw [y1]; decide)]
            dsimp only [ltn]
            rw [y3]
            rw [show (10 : Int32) = nI 10 from rfl, show (100 : Int32) = nI 100 from rfl, show (160 : Int32) = nI 160 from rfl, if_neg (fun z => absurd ((lt 100 (by decide)).1 z) (by omega)), if_neg (fun z => absurd ((le 160 (by decide)).1 z) (by omega)), e7, ej, isP_n V.1 (by omega), bnd_some, isP_n V.1 (by omega)]
            by_cases hk : (j - 100) / 10 < n
            · rw [if_pos hk, if_neg i10, bnd_some]
              by_cases hk2 : j % 10 < n
              · rw [if_pos hk2, if_neg i10, if_pos ⟨hk, hk2⟩]
                exact ok_bnd (ok_eq (e_X12_owed y7 (by omega) (by omega)) (ok_some rfl))
              · rw [if_neg hk2, if_pos i00, if_neg (fun z => hk2 z.2)]
                exact ok_some rfl
            · rw [if_neg hk, if_pos i00, if_neg (fun z => hk z.1)]
              exact ok_some rfl
        · have e7 : (nI j - nI 100) / nI 10 = nI ((j - 100) / 10) := by rw [pk_sub (by omega), pk_div (by omega) (by decide) (by decide)]
          refine agr_of (-1) ?_ ?_
          · unfold f_X11_town
            refine ok_bnd (ok_eq q1 ?_)
            rw [if_neg (by decide), if_pos rfl]
            unfold f_X9_tell
            rw [if_neg (hnz q0), show (10 : Int32) = nI 10 from rfl, show (20 : Int32) = nI 20 from rfl, show (30 : Int32) = nI 30 from rfl, show (40 : Int32) = nI 40 from rfl, show (100 : Int32) = nI 100 from rfl, show (200 : Int32) = nI 200 from rfl, if_neg (fun z => absurd ((lt 10 (by decide)).1 z) (by omega)), if_pos ((le 40 (by decide)).2 (by omega)), bnd_some]
            show ok (bnd (if nI j < nI 100 then _ else _) _) _
            rw [if_neg (fun z => absurd ((lt 100 (by decide)).1 z) (by omega)), if_neg (fun z => absurd ((le 200 (by decide)).1 z) (by omega))]
            dsimp only [ltn]
            rw [e7, has_n V.1 (by omega), bnd_some, if_neg (show ¬ (j - 100) / 10 < n by omega), if_pos i00]
            exact ok_some rfl
          · unfold f_X12_town
            refine ok_bnd (ok_mono (ok_hand TM (by decide) q2 (by omega)) ?_)
            intro y hy
            obtain ⟨y1, y2, y3, -, y5, -, y7, -, -⟩ := id hy
            rw [if_neg (by rw [y1]; decide)]
            dsimp only [ltn]
            rw [y3]
            rw [show (10 : Int32) = nI 10 from rfl, show (100 : Int32) = nI 100 from rfl, show (160 : Int32) = nI 160 from rfl, if_neg (fun z => absurd ((lt 100 (by decide)).1 z) (by omega)), if_pos ((le 160 (by decide)).2 (by omega))]
            exact ok_some rfl
    · refine agr_of (-1) ?_ ?_
      · unfold f_X11_town
        refine ok_bnd (ok_eq q1 ?_)
        rw [if_neg (by decide), if_pos rfl]
        unfold f_X9_tell
        rw [if_neg (show ¬ p2 = 0 from lt0_ne (a := 0) hx (by decide)), show (10 : Int32) = nI 10 from rfl, show (20 : Int32) = nI 20 from rfl, show (30 : Int32) = nI 30 from rfl, show (40 : Int32) = nI 40 from rfl, show (100 : Int32) = nI 100 from rfl, show (200 : Int32) = nI 200 from rfl, if_pos (lt0_k hx (by decide)), bnd_some]
        show ok (bnd (if p2 < nI 100 then _ else _) _) _
        rw [if_pos (lt0_k hx (by decide))]
        exact ok_some rfl
      · unfold f_X12_town
        refine ok_bnd (ok_mono (ok_hand TM (by decide) q2 (by omega)) ?_)
        intro y hy
        obtain ⟨y1, y2, y3, -, y5, -, y7, -, -⟩ := id hy
        rw [if_neg (by rw [y1]; decide)]
        dsimp only [ltn]
        rw [y3, show (100 : Int32) = nI 100 from rfl, if_pos (lt0_k hx (by decide)), if_neg (show ¬ p2 / 10 = 1 from neg_div_ne hx (k := 1) (by decide) (by decide)), if_neg (show ¬ p2 / 10 = 2 from neg_div_ne hx (k := 2) (by decide) (by decide)), if_neg (show ¬ p2 / 10 = 3 from neg_div_ne hx (k := 3) (by decide) (by decide)), if_neg (show ¬ p2 = 0 from lt0_ne (a := 0) hx (by decide))]
        refine ok_ite (fun _ => ok_some rfl) (fun _ => ok_some rfl)
    · refine agr_of (-1) ?_ ?_
      · unfold f_X11_town
        refine ok_bnd (ok_eq q1 ?_)
        rw [if_neg (by decide), if_pos rfl]
        unfold f_X9_tell
        rw [if_neg (show ¬ p2 = 0 from ge_ne (a := 0) hx (by decide) (by decide)), show (10 : Int32) = nI 10 from rfl, show (20 : Int32) = nI 20 from rfl, show (30 : Int32) = nI 30 from rfl, show (40 : Int32) = nI 40 from rfl, show (100 : Int32) = nI 100 from rfl, show (200 : Int32) = nI 200 from rfl, if_neg (ge_k hx (by decide) (by decide)), if_pos (ge_le hx (by decide) (by decide)), bnd_some]
        show ok (bnd (if p2 < nI 100 then _ else _) _) _
        rw [if_neg (ge_k hx (by decide) (by decide)), if_pos hx]
        exact ok_some rfl
      · unfold f_X12_town
        refine ok_bnd (ok_mono (ok_hand TM (by decide) q2 (by omega)) ?_)
        intro y hy
        obtain ⟨y1, y2, y3, -, y5, -, y7, -, -⟩ := id hy
        rw [if_neg (by rw [y1]; decide)]
        dsimp only [ltn]
        rw [y3, show (100 : Int32) = nI 100 from rfl, show (160 : Int32) = nI 160 from rfl, if_neg (ge_k hx (by decide) (by decide)), if_pos (ge_le hx (by decide) (by decide))]
        exact ok_some rfl
theorem A_deed {fu : Nat} {c_told_counts c_told_weeks0_cells c_told_weeks1_cells m_many m_weeks : (Nat → Int32)} {c_told_weeks0_deeds c_told_weeks1_deeds m_code m_week : Int32} (J : WI c_told_counts c_told_weeks0_deeds c_told_weeks0_cells c_told_weeks1_deeds c_told_weeks1_cells m_many m_weeks) (hf : 1000 ≤ fu) (p1 : Int32) (p2 : Int32) (p3 : Int32) : Agr (f_X11_deed fu c_told_counts c_told_weeks0_deeds c_told_weeks0_cells c_told_weeks1_deeds c_told_weeks1_cells p1 p2 p3) (fun x => x) (f_X12_deed fu m_code m_many m_weeks m_week p1 p2 p3) (fun y => y.1) := by
  rcases selW (fu := fu) J p1 with ⟨q1, q2⟩ | ⟨rfl, q1, q2, d, K⟩ | ⟨rfl, q1, q2, d, K⟩
  · refine agr_of (-2) ?_ ?_
    · unfold f_X11_deed
      refine ok_bnd (ok_eq q1 ?_)
      rw [if_neg (by decide), if_neg (by decide)]
      exact ok_some rfl
    · unfold f_X12_deed
      refine ok_bnd (ok_eq (q2 _) ?_)
      rw [if_pos i00]
      exact ok_some rfl
  · obtain ⟨k1, rfl, k3, k4, k5⟩ := K
    have ed : f_X12_deeds fu m_weeks (nI 0) = some (nI d) := by
      simp only [f_X12_deeds, show (161 : Int32) = nI 161 from rfl, pk_mul]
      rw [rdi_n (by decide) (by decide) k3]
      rfl
    by_cases r1 : p2 = -1
    · by_cases r2 : p3 = 0
      · refine agr_of (nI d) ?_ ?_
        · unfold f_X11_deed
          refine ok_bnd (ok_eq q1 ?_)
          rw [if_pos rfl]
          unfold f_X10_tell
          rw [if_pos r1, if_pos r2]
          exact ok_some rfl
        · unfold f_X12_deed
          refine ok_bnd (ok_eq (q2 _) ?_)
          rw [if_neg i10]
          rw [if_pos r1, if_pos r2]
          exact ok_bnd (ok_eq ed (ok_some rfl))
      · refine agr_of (-2) ?_ ?_
        · unfold f_X11_deed
          refine ok_bnd (ok_eq q1 ?_)
          rw [if_pos rfl]
          unfold f_X10_tell
          rw [if_pos r1, if_neg r2, bnd_some]
          show ok (bnd (if p2 < 0 then _ else _) _) _
          rw [if_pos (by rw [r1]; decide)]
          exact ok_some rfl
        · unfold f_X12_deed
          refine ok_bnd (ok_eq (q2 _) ?_)
          rw [if_neg i10]
          rw [if_pos r1, if_neg r2]
          exact ok_some rfl
    · rcases pk_ix p2 (show d < 2 ^ 31 by omega) with r3 | r3 | ⟨j, hj, rfl⟩
      · refine agr_of (-2) ?_ ?_
        · unfold f_X11_deed
          refine ok_bnd (ok_eq q1 ?_)
          rw [if_pos rfl]
          unfold f_X10_tell
          rw [if_neg r1, bnd_some]
          show ok (bnd (if p2 < 0 then _ else _) _) _
          rw [if_pos r3]
          exact ok_some rfl
        · unfold f_X12_deed
          refine ok_bnd (ok_eq (q2 _) ?_)
          rw [if_neg i10]
          rw [if_neg r1]
          refine ok_bnd (ok_eq ed ?_)
          rw [show f_X12_in fu p2 0 (nI d - 1) = some 0 by simp only [f_X12_in, if_pos r3], bnd_some, if_pos i00]
          exact ok_some rfl
      · have r0 : ¬ p2 < 0 := by rw [fa_le, nI_toInt (by omega)] at r3; rw [fa_lt]; have : (0 : Int32).toInt = 0 := rfl; omega
        have r4 : nI d - 1 < p2 := by rw [fa_le, nI_toInt (by omega)] at r3; rw [fa_lt, nI_m1 d (by omega)]; omega
        refine agr_of (-2) ?_ ?_
        · unfold f_X11_deed
          refine ok_bnd (ok_eq q1 ?_)
          rw [if_pos rfl]
          unfold f_X10_tell
          rw [if_neg r1, bnd_some]
          show ok (bnd (if p2 < 0 then _ else _) _) _
          rw [if_neg r0, if_pos r3]
          exact ok_some rfl
        · unfold f_X12_deed
          refine ok_bnd (ok_eq (q2 _) ?_)
          rw [if_neg i10]
          rw [if_neg r1]
          refine ok_bnd (ok_eq ed ?_)
          rw [show f_X12_in fu p2 0 (nI d - 1) = some 0 by simp only [f_X12_in, if_neg r0, if_pos r4], bnd_some, if_pos i00]
          exact ok_some rfl
      · rcases rng (fu := fu) p3 3 (by decide) with ⟨i, hi, rfl, t1, t2, t3, t4⟩ | ⟨t1, t2⟩
        · refine agr_of (m_weeks (0 + 1 + (4 * j + i))) ?_ ?_
          · unfold f_X11_deed
            refine ok_bnd (ok_eq q1 ?_)
            rw [if_pos rfl]
            unfold f_X10_tell
            rw [if_neg r1, bnd_some]
            show ok (bnd (if nI j < 0 then _ else _) _) _
            rw [if_neg (nI_pos (by omega)), if_neg (nI_ge hj (by omega)), if_neg t2, show (3 : Int32) = nI 3 from rfl, if_pos t3, show (4 : Int32) = nI 4 from rfl, pk_mul, nI_add, rdi_n (show 4 * j + i < 160 by omega) (by decide) (k4 (4 * j + i) (by omega))]
            exact ok_some rfl
          · unfold f_X12_deed
            refine ok_bnd (ok_eq (q2 _) ?_)
            rw [if_neg i10]
            rw [if_neg r1]
            refine ok_bnd (ok_eq ed ?_)
            rw [show f_X12_in fu (nI j) 0 (nI d - 1) = some 1 by simp only [f_X12_in, if_neg (nI_pos (show j < 2 ^ 31 by omega)), if_neg (show ¬ nI d - 1 < nI j by rw [fa_lt, nI_m1 d (by omega), nI_toInt (by omega)]; omega)], bnd_some, if_neg i10]
            rw [show (3 : Int32) = nI 3 from rfl]
            refine ok_bnd (ok_eq t1 ?_)
            rw [if_neg i10]
            have eo : f_X12_deedOf fu m_weeks (nI 0) (nI j) (nI i) = some (m_weeks (0 + 1 + (4 * j + i))) := by
              simp only [f_X12_deedOf, show (161 : Int32) = nI 161 from rfl, show (1 : Int32) = nI 1 from rfl, show (4 : Int32) = nI 4 from rfl, pk_mul, nI_add]
              rw [rdi_n (show 161 * 0 + 1 + 4 * j + i < 1288 by omega) (by decide) rfl, bnd_some, Nat.add_assoc]
            exact ok_bnd (ok_eq eo (ok_some rfl))
        · refine agr_of (-2) ?_ ?_
          · unfold f_X11_deed
            refine ok_bnd (ok_eq q1 ?_)
            rw [if_pos rfl]
            unfold f_X10_tell
            rw [if_neg r1, bnd_some]
            show ok (bnd (if nI j < 0 then _ else _) _) _
            rw [if_neg (nI_pos (by omega)), if_neg (nI_ge hj (by omega))]
            rcases t2 with t2 | ⟨t2, t3, t4⟩
            · rw [if_pos t2]; exact ok_some rfl
            · rw [if_neg t2, show (3 : Int32) = nI 3 from rfl, if_neg t3]; exact ok_some rfl
          · unfold f_X12_deed
            refine ok_bnd (ok_eq (q2 _) ?_)
            rw [if_neg i10]
            rw [if_neg r1]
            refine ok_bnd (ok_eq ed ?_)
            rw [show f_X12_in fu (nI j) 0 (nI d - 1) = some 1 by simp only [f_X12_in, if_neg (nI_pos (show j < 2 ^ 31 by omega)), if_neg (show ¬ nI d - 1 < nI j by rw [fa_lt, nI_m1 d (by omega), nI_toInt (by omega)]; omega)], bnd_some, if_neg i10]
            rw [show (3 : Int32) = nI 3 from rfl]
            refine ok_bnd (ok_eq t1 ?_)
            rw [if_pos i00]
            exact ok_some rfl
  · obtain ⟨k1, rfl, k3, k4, k5⟩ := K
    have ed : f_X12_deeds fu m_weeks (nI 1) = some (nI d) := by
      simp only [f_X12_deeds, show (161 : Int32) = nI 161 from rfl, pk_mul]
      rw [rdi_n (by decide) (by decide) k3]
      rfl
    by_cases r1 : p2 = -1
    · by_cases r2 : p3 = 0
      · refine agr_of (nI d) ?_ ?_
        · unfold f_X11_deed
          refine ok_bnd (ok_eq q1 ?_)
          rw [if_neg (by decide), if_pos rfl]
          unfold f_X10_tell
          rw [if_pos r1, if_pos r2]
          exact ok_some rfl
        · unfold f_X12_deed
          refine ok_bnd (ok_eq (q2 _) ?_)
          rw [if_neg i10]
          rw [if_pos r1, if_pos r2]
          exact ok_bnd (ok_eq ed (ok_some rfl))
      · refine agr_of (-2) ?_ ?_
        · unfold f_X11_deed
          refine ok_bnd (ok_eq q1 ?_)
          rw [if_neg (by decide), if_pos rfl]
          unfold f_X10_tell
          rw [if_pos r1, if_neg r2, bnd_some]
          show ok (bnd (if p2 < 0 then _ else _) _) _
          rw [if_pos (by rw [r1]; decide)]
          exact ok_some rfl
        · unfold f_X12_deed
          refine ok_bnd (ok_eq (q2 _) ?_)
          rw [if_neg i10]
          rw [if_pos r1, if_neg r2]
          exact ok_some rfl
    · rcases pk_ix p2 (show d < 2 ^ 31 by omega) with r3 | r3 | ⟨j, hj, rfl⟩
      · refine agr_of (-2) ?_ ?_
        · unfold f_X11_deed
          refine ok_bnd (ok_eq q1 ?_)
          rw [if_neg (by decide), if_pos rfl]
          unfold f_X10_tell
          rw [if_neg r1, bnd_some]
          show ok (bnd (if p2 < 0 then _ else _) _) _
          rw [if_pos r3]
          exact ok_some rfl
        · unfold f_X12_deed
          refine ok_bnd (ok_eq (q2 _) ?_)
          rw [if_neg i10]
          rw [if_neg r1]
          refine ok_bnd (ok_eq ed ?_)
          rw [show f_X12_in fu p2 0 (nI d - 1) = some 0 by simp only [f_X12_in, if_pos r3], bnd_some, if_pos i00]
          exact ok_some rfl
      · have r0 : ¬ p2 < 0 := by rw [fa_le, nI_toInt (by omega)] at r3; rw [fa_lt]; have : (0 : Int32).toInt = 0 := rfl; omega
        have r4 : nI d - 1 < p2 := by rw [fa_le, nI_toInt (by omega)] at r3; rw [fa_lt, nI_m1 d (by omega)]; omega
        refine agr_of (-2) ?_ ?_
        · unfold f_X11_deed
          refine ok_bnd (ok_eq q1 ?_)
          rw [if_neg (by decide), if_pos rfl]
          unfold f_X10_tell
          rw [if_neg r1, bnd_some]
          show ok (bnd (if p2 < 0 then _ else _) _) _
          rw [if_neg r0, if_pos r3]
          exact ok_some rfl
        · unfold f_X12_deed
          refine ok_bnd (ok_eq (q2 _) ?_)
          rw [if_neg i10]
          rw [if_neg r1]
          refine ok_bnd (ok_eq ed ?_)
          rw [show f_X12_in fu p2 0 (nI d - 1) = some 0 by simp only [f_X12_in, if_neg r0, if_pos r4], bnd_some, if_pos i00]
          exact ok_some rfl
      · rcases rng (fu := fu) p3 3 (by decide) with ⟨i, hi, rfl, t1, t2, t3, t4⟩ | ⟨t1, t2⟩
        · refine agr_of (m_weeks (161 + 1 + (4 * j + i))) ?_ ?_
          · unfold f_X11_deed
            refine ok_bnd (ok_eq q1 ?_)
            rw [if_neg (by decide), if_pos rfl]
            unfold f_X10_tell
            rw [if_neg r1, bnd_some]
            show ok (bnd (if nI j < 0 then _ else _) _) _
            rw [if_neg (nI_pos (by omega)), if_neg (nI_ge hj (by omega)), if_neg t2, show (3 : Int32) = nI 3 from rfl, if_pos t3, show (4 : Int32) = nI 4 from rfl, pk_mul, nI_add, rdi_n (show 4 * j + i < 160 by omega) (by decide) (k4 (4 * j + i) (by omega))]
            exact ok_some rfl
          · unfold f_X12_deed
            refine ok_bnd (ok_eq (q2 _) ?_)
            rw [if_neg i10]
            rw [if_neg r1]
            refine ok_bnd (ok_eq ed ?_)
            rw [show f_X12_in fu (nI j) 0 (nI d - 1) = some 1 by simp only [f_X12_in, if_neg (nI_pos (show j < 2 ^ 31 by omega)), if_neg (show ¬ nI d - 1 < nI j by rw [fa_lt, nI_m1 d (by omega), nI_toInt (by omega)]; omega)], bnd_some, if_neg i10]
            rw [show (3 : Int32) = nI 3 from rfl]
            refine ok_bnd (ok_eq t1 ?_)
            rw [if_neg i10]
            have eo : f_X12_deedOf fu m_weeks (nI 1) (nI j) (nI i) = some (m_weeks (161 + 1 + (4 * j + i))) := by
              simp only [f_X12_deedOf, show (161 : Int32) = nI 161 from rfl, show (1 : Int32) = nI 1 from rfl, show (4 : Int32) = nI 4 from rfl, pk_mul, nI_add]
              rw [rdi_n (show 161 * 1 + 1 + 4 * j + i < 1288 by omega) (by decide) rfl, bnd_some, Nat.add_assoc]
            exact ok_bnd (ok_eq eo (ok_some rfl))
        · refine agr_of (-2) ?_ ?_
          · unfold f_X11_deed
            refine ok_bnd (ok_eq q1 ?_)
            rw [if_neg (by decide), if_pos rfl]
            unfold f_X10_tell
            rw [if_neg r1, bnd_some]
            show ok (bnd (if nI j < 0 then _ else _) _) _
            rw [if_neg (nI_pos (by omega)), if_neg (nI_ge hj (by omega))]
            rcases t2 with t2 | ⟨t2, t3, t4⟩
            · rw [if_pos t2]; exact ok_some rfl
            · rw [if_neg t2, show (3 : Int32) = nI 3 from rfl, if_neg t3]; exact ok_some rfl
          · unfold f_X12_deed
            refine ok_bnd (ok_eq (q2 _) ?_)
            rw [if_neg i10]
            rw [if_neg r1]
            refine ok_bnd (ok_eq ed ?_)
            rw [show f_X12_in fu (nI j) 0 (nI d - 1) = some 1 by simp only [f_X12_in, if_neg (nI_pos (show j < 2 ^ 31 by omega)), if_neg (show ¬ nI d - 1 < nI j by rw [fa_lt, nI_m1 d (by omega), nI_toInt (by omega)]; omega)], bnd_some, if_neg i10]
            rw [show (3 : Int32) = nI 3 from rfl]
            refine ok_bnd (ok_eq t1 ?_)
            rw [if_pos i00]
            exact ok_some rfl
theorem A_fact {fu : Nat} {c_told_counts c_told_logs0_cells c_told_logs1_cells m_many m_logs : (Nat → Int32)} {c_told_logs0_facts c_told_logs1_facts m_code m_log : Int32} (J : LI c_told_counts c_told_logs0_facts c_told_logs0_cells c_told_logs1_facts c_told_logs1_cells m_many m_logs) (hf : 1000 ≤ fu) (p1 : Int32) (p2 : Int32) (p3 : Int32) : Agr (f_X11_fact fu c_told_counts c_told_logs0_facts c_told_logs0_cells c_told_logs1_facts c_told_logs1_cells p1 p2 p3) (fun x => x) (f_X12_fact fu m_code m_many m_logs m_log p1 p2 p3) (fun y => y.1) := by
  rcases selL (fu := fu) J p1 with ⟨q1, q2⟩ | ⟨rfl, q1, q2, d, K⟩ | ⟨rfl, q1, q2, d, K⟩
  · refine agr_of (-2) ?_ ?_
    · unfold f_X11_fact
      refine ok_bnd (ok_eq q1 ?_)
      rw [if_neg (by decide), if_neg (by decide)]
      exact ok_some rfl
    · unfold f_X12_fact
      refine ok_bnd (ok_eq (q2 _) ?_)
      rw [if_pos i00]
      exact ok_some rfl
  · obtain ⟨k1, rfl, k3, k4, k5⟩ := K
    have ed : f_X12_facts fu m_logs (nI 0) = some (nI d) := by
      simp only [f_X12_facts, show (25 : Int32) = nI 25 from rfl, pk_mul]
      rw [rdi_n (by decide) (by decide) k3]
      rfl
    by_cases r1 : p2 = -1
    · by_cases r2 : p3 = 0
      · refine agr_of (nI d) ?_ ?_
        · unfold f_X11_fact
          refine ok_bnd (ok_eq q1 ?_)
          rw [if_pos rfl]
          unfold f_X2_tell
          rw [if_pos r1, if_pos r2]
          exact ok_some rfl
        · unfold f_X12_fact
          refine ok_bnd (ok_eq (q2 _) ?_)
          rw [if_neg i10]
          rw [if_pos r1, if_pos r2]
          exact ok_bnd (ok_eq ed (ok_some rfl))
      · refine agr_of (-2) ?_ ?_
        · unfold f_X11_fact
          refine ok_bnd (ok_eq q1 ?_)
          rw [if_pos rfl]
          unfold f_X2_tell
          rw [if_pos r1, if_neg r2, bnd_some]
          show ok (bnd (if p2 < 0 then _ else _) _) _
          rw [if_pos (by rw [r1]; decide)]
          exact ok_some rfl
        · unfold f_X12_fact
          refine ok_bnd (ok_eq (q2 _) ?_)
          rw [if_neg i10]
          rw [if_pos r1, if_neg r2]
          exact ok_some rfl
    · rcases pk_ix p2 (show d < 2 ^ 31 by omega) with r3 | r3 | ⟨j, hj, rfl⟩
      · refine agr_of (-2) ?_ ?_
        · unfold f_X11_fact
          refine ok_bnd (ok_eq q1 ?_)
          rw [if_pos rfl]
          unfold f_X2_tell
          rw [if_neg r1, bnd_some]
          show ok (bnd (if p2 < 0 then _ else _) _) _
          rw [if_pos r3]
          exact ok_some rfl
        · unfold f_X12_fact
          refine ok_bnd (ok_eq (q2 _) ?_)
          rw [if_neg i10]
          rw [if_neg r1]
          refine ok_bnd (ok_eq ed ?_)
          rw [show f_X12_in fu p2 0 (nI d - 1) = some 0 by simp only [f_X12_in, if_pos r3], bnd_some, if_pos i00]
          exact ok_some rfl
      · have r0 : ¬ p2 < 0 := by rw [fa_le, nI_toInt (by omega)] at r3; rw [fa_lt]; have : (0 : Int32).toInt = 0 := rfl; omega
        have r4 : nI d - 1 < p2 := by rw [fa_le, nI_toInt (by omega)] at r3; rw [fa_lt, nI_m1 d (by omega)]; omega
        refine agr_of (-2) ?_ ?_
        · unfold f_X11_fact
          refine ok_bnd (ok_eq q1 ?_)
          rw [if_pos rfl]
          unfold f_X2_tell
          rw [if_neg r1, bnd_some]
          show ok (bnd (if p2 < 0 then _ else _) _) _
          rw [if_neg r0, if_pos r3]
          exact ok_some rfl
        · unfold f_X12_fact
          refine ok_bnd (ok_eq (q2 _) ?_)
          rw [if_neg i10]
          rw [if_neg r1]
          refine ok_bnd (ok_eq ed ?_)
          rw [show f_X12_in fu p2 0 (nI d - 1) = some 0 by simp only [f_X12_in, if_neg r0, if_pos r4], bnd_some, if_pos i00]
          exact ok_some rfl
      · rcases rng (fu := fu) p3 2 (by decide) with ⟨i, hi, rfl, t1, t2, t3, t4⟩ | ⟨t1, t2⟩
        · refine agr_of (m_logs (0 + 1 + (3 * j + i))) ?_ ?_
          · unfold f_X11_fact
            refine ok_bnd (ok_eq q1 ?_)
            rw [if_pos rfl]
            unfold f_X2_tell
            rw [if_neg r1, bnd_some]
            show ok (bnd (if nI j < 0 then _ else _) _) _
            rw [if_neg (nI_pos (by omega)), if_neg (nI_ge hj (by omega)), if_neg t2, show (2 : Int32) = nI 2 from rfl, if_pos t3, show (3 : Int32) = nI 3 from rfl, pk_mul, nI_add, rdi_n (show 3 * j + i < 24 by omega) (by decide) (k4 (3 * j + i) (by omega))]
            exact ok_some rfl
          · unfold f_X12_fact
            refine ok_bnd (ok_eq (q2 _) ?_)
            rw [if_neg i10]
            rw [if_neg r1]
            refine ok_bnd (ok_eq ed ?_)
            rw [show f_X12_in fu (nI j) 0 (nI d - 1) = some 1 by simp only [f_X12_in, if_neg (nI_pos (show j < 2 ^ 31 by omega)), if_neg (show ¬ nI d - 1 < nI j by rw [fa_lt, nI_m1 d (by omega), nI_toInt (by omega)]; omega)], bnd_some, if_neg i10]
            rw [show (2 : Int32) = nI 2 from rfl]
            refine ok_bnd (ok_eq t1 ?_)
            rw [if_neg i10]
            have eo : f_X12_factOf fu m_logs (nI 0) (nI j) (nI i) = some (m_logs (0 + 1 + (3 * j + i))) := by
              simp only [f_X12_factOf, show (25 : Int32) = nI 25 from rfl, show (1 : Int32) = nI 1 from rfl, show (3 : Int32) = nI 3 from rfl, pk_mul, nI_add]
              rw [rdi_n (show 25 * 0 + 1 + 3 * j + i < 200 by omega) (by decide) rfl, bnd_some, Nat.add_assoc]
            exact ok_bnd (ok_eq eo (ok_some rfl))
        · refine agr_of (-2) ?_ ?_
          · unfold f_X11_fact
            refine ok_bnd (ok_eq q1 ?_)
            rw [if_pos rfl]
            unfold f_X2_tell
            rw [if_neg r1, bnd_some]
            show ok (bnd (if nI j < 0 then _ else _) _) _
            rw [if_neg (nI_pos (by omega)), if_neg (nI_ge hj (by omega))]
            rcases t2 with t2 | ⟨t2, t3, t4⟩
            · rw [if_pos t2]; exact ok_some rfl
            · rw [if_neg t2, show (2 : Int32) = nI 2 from rfl, if_neg t3]; exact ok_some rfl
          · unfold f_X12_fact
            refine ok_bnd (ok_eq (q2 _) ?_)
            rw [if_neg i10]
            rw [if_neg r1]
            refine ok_bnd (ok_eq ed ?_)
            rw [show f_X12_in fu (nI j) 0 (nI d - 1) = some 1 by simp only [f_X12_in, if_neg (nI_pos (show j < 2 ^ 31 by omega)), if_neg (show ¬ nI d - 1 < nI j by rw [fa_lt, nI_m1 d (by omega), nI_toInt (by omega)]; omega)], bnd_some, if_neg i10]
            rw [show (2 : Int32) = nI 2 from rfl]
            refine ok_bnd (ok_eq t1 ?_)
            rw [if_pos i00]
            exact ok_some rfl
  · obtain ⟨k1, rfl, k3, k4, k5⟩ := K
    have ed : f_X12_facts fu m_logs (nI 1) = some (nI d) := by
      simp only [f_X12_facts, show (25 : Int32) = nI 25 from rfl, pk_mul]
      rw [rdi_n (by decide) (by decide) k3]
      rfl
    by_cases r1 : p2 = -1
    · by_cases r2 : p3 = 0
      · refine agr_of (nI d) ?_ ?_
        · unfold f_X11_fact
          refine ok_bnd (ok_eq q1 ?_)
          rw [if_neg (by decide), if_pos rfl]
          unfold f_X2_tell
          rw [if_pos r1, if_pos r2]
          exact ok_some rfl
        · unfold f_X12_fact
          refine ok_bnd (ok_eq (q2 _) ?_)
          rw [if_neg i10]
          rw [if_pos r1, if_pos r2]
          exact ok_bnd (ok_eq ed (ok_some rfl))
      · refine agr_of (-2) ?_ ?_
        · unfold f_X11_fact
          refine ok_bnd (ok_eq q1 ?_)
          rw [if_neg (by decide), if_pos rfl]
          unfold f_X2_tell
          rw [if_pos r1, if_neg r2, bnd_some]
          show ok (bnd (if p2 < 0 then _ else _) _) _
          rw [if_pos (by rw [r1]; decide)]
          exact ok_some rfl
        · unfold f_X12_fact
          refine ok_bnd (ok_eq (q2 _) ?_)
          rw [if_neg i10]
          rw [if_pos r1, if_neg r2]
          exact ok_some rfl
    · rcases pk_ix p2 (show d < 2 ^ 31 by omega) with r3 | r3 | ⟨j, hj, rfl⟩
      · refine agr_of (-2) ?_ ?_
        · unfold f_X11_fact
          refine ok_bnd (ok_eq q1 ?_)
          rw [if_neg (by decide), if_pos rfl]
          unfold f_X2_tell
          rw [if_neg r1, bnd_some]
          show ok (bnd (if p2 < 0 then _ else _) _) _
          rw [if_pos r3]
          exact ok_some rfl
        · unfold f_X12_fact
          refine ok_bnd (ok_eq (q2 _) ?_)
          rw [if_neg i10]
          rw [if_neg r1]
          refine ok_bnd (ok_eq ed ?_)
          rw [show f_X12_in fu p2 0 (nI d - 1) = some 0 by simp only [f_X12_in, if_pos r3], bnd_some, if_pos i00]
          exact ok_some rfl
      · have r0 : ¬ p2 < 0 := by rw [fa_le, nI_toInt (by omega)] at r3; rw [fa_lt]; have : (0 : Int32).toInt = 0 := rfl; omega
        have r4 : nI d - 1 < p2 := by rw [fa_le, nI_toInt (by omega)] at r3; rw [fa_lt, nI_m1 d (by omega)]; omega
        refine agr_of (-2) ?_ ?_
        · unfold f_X11_fact
          refine ok_bnd (ok_eq q1 ?_)
          rw [if_neg (by decide), if_pos rfl]
          unfold f_X2_tell
          rw [if_neg r1, bnd_some]
          show ok (bnd (if p2 < 0 then _ else _) _) _
          rw [if_neg r0, if_pos r3]
          exact ok_some rfl
        · unfold f_X12_fact
          refine ok_bnd (ok_eq (q2 _) ?_)
          rw [if_neg i10]
          rw [if_neg r1]
          refine ok_bnd (ok_eq ed ?_)
          rw [show f_X12_in fu p2 0 (nI d - 1) = some 0 by simp only [f_X12_in, if_neg r0, if_pos r4], bnd_some, if_pos i00]
          exact ok_some rfl
      · rcases rng (fu := fu) p3 2 (by decide) with ⟨i, hi, rfl, t1, t2, t3, t4⟩ | ⟨t1, t2⟩
        · refine agr_of (m_logs (25 + 1 + (3 * j + i))) ?_ ?_
          · unfold f_X11_fact
            refine ok_bnd (ok_eq q1 ?_)
            rw [if_neg (by decide), if_pos rfl]
            unfold f_X2_tell
            rw [if_neg r1, bnd_some]
            show ok (bnd (if nI j < 0 then _ else _) _) _
            rw [if_neg (nI_pos (by omega)), if_neg (nI_ge hj (by omega)), if_neg t2, show (2 : Int32) = nI 2 from rfl, if_pos t3, show (3 : Int32) = nI 3 from rfl, pk_mul, nI_add, rdi_n (show 3 * j + i < 24 by omega) (by decide) (k4 (3 * j + i) (by omega))]
            exact ok_some rfl
          · unfold f_X12_fact
            refine ok_bnd (ok_eq (q2 _) ?_)
            rw [if_neg i10]
            rw [if_neg r1]
            refine ok_bnd (ok_eq ed ?_)
            rw [show f_X12_in fu (nI j) 0 (nI d - 1) = some 1 by simp only [f_X12_in, if_neg (nI_pos (show j < 2 ^ 31 by omega)), if_neg (show ¬ nI d - 1 < nI j by rw [fa_lt, nI_m1 d (by omega), nI_toInt (by omega)]; omega)], bnd_some, if_neg i10]
            rw [show (2 : Int32) = nI 2 from rfl]
            refine ok_bnd (ok_eq t1 ?_)
            rw [if_neg i10]
            have eo : f_X12_factOf fu m_logs (nI 1) (nI j) (nI i) = some (m_logs (25 + 1 + (3 * j + i))) := by
              simp only [f_X12_factOf, show (25 : Int32) = nI 25 from rfl, show (1 : Int32) = nI 1 from rfl, show (3 : Int32) = nI 3 from rfl, pk_mul, nI_add]
              rw [rdi_n (show 25 * 1 + 1 + 3 * j + i < 200 by omega) (by decide) rfl, bnd_some, Nat.add_assoc]
            exact ok_bnd (ok_eq eo (ok_some rfl))
        · refine agr_of (-2) ?_ ?_
          · unfold f_X11_fact
            refine ok_bnd (ok_eq q1 ?_)
            rw [if_neg (by decide), if_pos rfl]
            unfold f_X2_tell
            rw [if_neg r1, bnd_some]
            show ok (bnd (if nI j < 0 then _ else _) _) _
            rw [if_neg (nI_pos (by omega)), if_neg (nI_ge hj (by omega))]
            rcases t2 with t2 | ⟨t2, t3, t4⟩
            · rw [if_pos t2]; exact ok_some rfl
            · rw [if_neg t2, show (2 : Int32) = nI 2 from rfl, if_neg t3]; exact ok_some rfl
          · unfold f_X12_fact
            refine ok_bnd (ok_eq (q2 _) ?_)
            rw [if_neg i10]
            rw [if_neg r1]
            refine ok_bnd (ok_eq ed ?_)
            rw [show f_X12_in fu (nI j) 0 (nI d - 1) = some 1 by simp only [f_X12_in, if_neg (nI_pos (show j < 2 ^ 31 by omega)), if_neg (show ¬ nI d - 1 < nI j by rw [fa_lt, nI_m1 d (by omega), nI_toInt (by omega)]; omega)], bnd_some, if_neg i10]
            rw [show (2 : Int32) = nI 2 from rfl]
            refine ok_bnd (ok_eq t1 ?_)
            rw [if_pos i00]
            exact ok_some rfl
