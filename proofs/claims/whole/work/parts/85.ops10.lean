theorem rng1 {fu : Nat} (x : Int32) : (f_X12_in fu x 1 99 = some 1 ∧ ¬ x < 1 ∧ x ≤ 99) ∨ (f_X12_in fu x 1 99 = some 0 ∧ (x < 1 ∨ (¬ x < 1 ∧ ¬ x ≤ 99))) := by
  by_cases h1 : x < 1
  · exact Or.inr ⟨by simp only [f_X12_in, if_pos h1], Or.inl h1⟩
  · by_cases h2 : (99 : Int32) < x
    · refine Or.inr ⟨by simp only [f_X12_in, if_neg h1, if_pos h2], Or.inr ⟨h1, fun z => ?_⟩⟩
      rw [fa_lt] at h2
      rw [fa_le] at z
      omega
    · refine Or.inl ⟨by simp only [f_X12_in, if_neg h1, if_neg h2], h1, ?_⟩
      rw [fa_lt] at h2
      rw [fa_le]
      omega
theorem A_borrow {fu : Nat} {c_told_counts c_told_towns0_wit c_told_towns0_purse c_told_towns1_wit c_told_towns1_purse c_told_towns0_hated c_told_towns0_owed c_told_towns1_hated c_told_towns1_owed m_many m_towns m_purse m_beside m_debts m_sitting m_visited m_taken : (Nat → Int32)} {c_told_towns0_people c_told_towns1_people m_code m_town m_people m_when m_sat m_quiet m_vain m_lent m_forgiven m_sundays : Int32} (I : TI c_told_counts c_told_towns0_people c_told_towns0_wit c_told_towns0_purse c_told_towns0_hated c_told_towns0_owed c_told_towns1_people c_told_towns1_wit c_told_towns1_purse c_told_towns1_hated c_told_towns1_owed m_many m_towns) (hf : 1000 ≤ fu) (p1 : Int32) (p2 : Int32) (p3 : Int32) (p4 : Int32) : Agr (f_X11_borrow fu c_told_counts c_told_towns0_people c_told_towns0_wit c_told_towns0_purse c_told_towns1_people c_told_towns1_wit c_told_towns1_purse p1 p2 p3 p4) (fun x => x) (f_X12_borrow fu m_code m_many m_towns m_town m_people m_when m_sat m_quiet m_vain m_lent m_forgiven m_sundays m_purse m_beside m_debts m_sitting m_visited m_taken p1 p2 p3 p4) (fun y => y.1) := by
  rcases rng1 (fu := fu) p3 with ⟨i1, i2, i3⟩ | ⟨i1, i2⟩
  · rcases selT (fu := fu) I p1 with ⟨q1, q2⟩ | ⟨rfl, q1, q2, n, w, pu, h, o, V, TC, TM⟩ | ⟨rfl, q1, q2, n, w, pu, h, o, V, TC, TM⟩
    · refine agr_of (-1) ?_ ?_
      · unfold f_X11_borrow
        refine ok_bnd (ok_eq q1 ?_)
        rw [if_neg (by decide), if_neg (by decide)]
        exact ok_some rfl
      · unfold f_X12_borrow
        refine ok_bnd (ok_eq i1 ?_)
        rw [if_neg i10]
        refine ok_bnd (ok_mono (no_hand q2) ?_)
        intro y hy
        rw [if_pos hy]
        exact ok_some rfl
    · obtain ⟨hpe, hwi, hpr, hha, how⟩ := TC
      subst hpe
      have hW : ∀ i, i < 6 → m_towns (55 * 0 + 1 + i) = nI (w i) := TM.2.1
      have hn6 := V.1
      obtain ⟨y, ey, hy⟩ := ok_hand (fu := fu) (a1 := m_town) (a2 := m_people) (a3 := m_when) (a4 := m_sat) (a5 := m_quiet) (a6 := m_vain) (a7 := m_lent) (a8 := m_forgiven) (a9 := m_sundays) (b1 := m_purse) (b2 := m_beside) (b3 := m_debts) (b4 := m_sitting) (b5 := m_visited) TM (by decide) q2 (by omega)
      have hy2 := hy
      obtain ⟨y1, y2, y3, -, y5, -, y7, -, -⟩ := hy2
      rcases prs (fu := fu) p2 V.1 with ⟨p, hp, rfl, r1, r2⟩ | ⟨r1, r2⟩
      · have hp6 : p < 6 := Nat.lt_of_lt_of_le hp V.1
        obtain ⟨v, ev, f, e2, e3⟩ := ok_tedious (fu := fu) (p3 := p3) (p4 := p4) (f0 := upd m_taken p 0) hy hwi hpr hW (by decide) V.2.1 V.1 hp pk_us hf
        have ec : ∀ w : Int32, (if v.1 ≤ 0 then if p4 = -1 then some v.2.1 else some v.2.2 else some (-1)) = some w → f_X4_leastTedious fu (nI n) c_told_towns0_wit c_told_towns0_purse (nI p) p3 p4 = some w := by
          intro w0 h0
          unfold f_X4_leastTedious
          rw [ev, bnd_some]
          exact h0
        have ex : ∃ w0 : Int32, (if v.1 ≤ 0 then if p4 = -1 then some v.2.1 else some v.2.2 else some (-1)) = some w0 := by
          by_cases z1 : v.1 ≤ 0
          · by_cases z2 : p4 = -1
            · exact ⟨v.2.1, by rw [if_pos z1, if_pos z2]⟩
            · exact ⟨v.2.2, by rw [if_pos z1, if_neg z2]⟩
          · exact ⟨-1, by rw [if_neg z1]⟩
        obtain ⟨w0, e0⟩ := ex
        by_cases z2 : p4 = -1
        · refine agr_of w0 ?_ ?_
          · unfold f_X11_borrow
            refine ok_bnd (ok_eq q1 ?_)
            rw [if_pos rfl]
            refine ok_bnd (ok_eq r1 ?_)
            rw [if_neg i10, if_neg i2, if_pos i3, if_pos z2]
            exact ok_bnd (ok_eq (ec w0 e0) (ok_some rfl))
          · unfold f_X12_borrow
            refine ok_bnd (ok_eq i1 ?_)
            rw [if_neg i10]
            refine ok_bnd (ok_eq ey ?_)
            rw [if_neg (by rw [y1]; exact i10), y3]
            refine ok_bnd (ok_eq r2 ?_)
            rw [if_neg i10, if_pos z2, bnd_some]
            refine ok_ltn ?_
            rw [jshl_1 p (by omega)]
            refine ok_bnd (ok_eq (wri_n hp6 (by decide)) ?_)
            refine ok_bnd (ok_eq e2 ?_)
            by_cases z1 : v.1 ≤ 0
            · rw [if_pos z1, if_pos z2] at e0
              rw [if_pos z1, if_pos z2]
              exact ok_some (Option.some.inj e0)
            · rw [if_neg z1] at e0
              rw [if_neg z1]
              exact ok_some (Option.some.inj e0)
        · rcases prs (fu := fu) p4 V.1 with ⟨r, hr, er, u1, u2⟩ | ⟨u1, u2⟩
          · refine agr_of w0 ?_ ?_
            · unfold f_X11_borrow
              refine ok_bnd (ok_eq q1 ?_)
              rw [if_pos rfl]
              refine ok_bnd (ok_eq r1 ?_)
              rw [if_neg i10, if_neg i2, if_pos i3, if_neg z2]
              refine ok_bnd (ok_eq u1 ?_)
              rw [if_neg i10]
              exact ok_bnd (ok_eq (ec w0 e0) (ok_some rfl))
            · unfold f_X12_borrow
              refine ok_bnd (ok_eq i1 ?_)
              rw [if_neg i10]
              refine ok_bnd (ok_eq ey ?_)
              rw [if_neg (by rw [y1]; exact i10), y3]
              refine ok_bnd (ok_eq r2 ?_)
              rw [if_neg i10, if_neg z2, u2, bnd_some, if_neg i10, bnd_some]
              refine ok_ltn ?_
              rw [jshl_1 p (by omega)]
              refine ok_bnd (ok_eq (wri_n hp6 (by decide)) ?_)
              refine ok_bnd (ok_eq e2 ?_)
              by_cases z1 : v.1 ≤ 0
              · rw [if_pos z1, if_neg z2] at e0
                rw [if_pos z1, if_neg z2, er, rdi_n (show r < 6 by omega) (by decide) (e3 r er hr), bnd_some]
                exact ok_some (Option.some.inj e0)
              · rw [if_neg z1] at e0
                rw [if_neg z1]
                exact ok_some (Option.some.inj e0)
          · refine agr_of (-1) ?_ ?_
            · unfold f_X11_borrow
              refine ok_bnd (ok_eq q1 ?_)
              rw [if_pos rfl]
              refine ok_bnd (ok_eq r1 ?_)
              rw [if_neg i10, if_neg i2, if_pos i3, if_neg z2]
              refine ok_bnd (ok_eq u1 ?_)
              rw [if_pos i00]
              exact ok_some rfl
            · unfold f_X12_borrow
              refine ok_bnd (ok_eq i1 ?_)
              rw [if_neg i10]
              refine ok_bnd (ok_eq ey ?_)
              rw [if_neg (by rw [y1]; exact i10), y3]
              refine ok_bnd (ok_eq r2 ?_)
              rw [if_neg i10, if_neg z2, u2, bnd_some, if_pos i00, bnd_some]
              exact ok_some rfl
      · refine agr_of (-1) ?_ ?_
        · unfold f_X11_borrow
          refine ok_bnd (ok_eq q1 ?_)
          rw [if_pos rfl]
          refine ok_bnd (ok_eq r1 ?_)
          rw [if_pos i00]
          exact ok_some rfl
        · unfold f_X12_borrow
          refine ok_bnd (ok_eq i1 ?_)
          rw [if_neg i10]
          refine ok_bnd (ok_eq ey ?_)
          rw [if_neg (by rw [y1]; exact i10), y3]
          refine ok_bnd (ok_eq r2 ?_)
          rw [if_pos i00]
          exact ok_some rfl
    · obtain ⟨hpe, hwi, hpr, hha, how⟩ := TC
      subst hpe
      have hW : ∀ i, i < 6 → m_towns (55 * 1 + 1 + i) = nI (w i) := TM.2.1
      have hn6 := V.1
      obtain ⟨y, ey, hy⟩ := ok_hand (fu := fu) (a1 := m_town) (a2 := m_people) (a3 := m_when) (a4 := m_sat) (a5 := m_quiet) (a6 := m_vain) (a7 := m_lent) (a8 := m_forgiven) (a9 := m_sundays) (b1 := m_purse) (b2 := m_beside) (b3 := m_debts) (b4 := m_sitting) (b5 := m_visited) TM (by decide) q2 (by omega)
      have hy2 := hy
      obtain ⟨y1, y2, y3, -, y5, -, y7, -, -⟩ := hy2
      rcases prs (fu := fu) p2 V.1 with ⟨p, hp, rfl, r1, r2⟩ | ⟨r1, r2⟩
      · have hp6 : p < 6 := Nat.lt_of_lt_of_le hp V.1
        obtain ⟨v, ev, f, e2, e3⟩ := ok_tedious (fu := fu) (p3 := p3) (p4 := p4) (f0 := upd m_taken p 0) hy hwi hpr hW (by decide) V.2.1 V.1 hp pk_us hf
        have ec : ∀ w : Int32, (if v.1 ≤ 0 then if p4 = -1 then some v.2.1 else some v.2.2 else some (-1)) = some w → f_X4_leastTedious fu (nI n) c_told_towns1_wit c_told_towns1_purse (nI p) p3 p4 = some w := by
          intro w0 h0
          unfold f_X4_leastTedious
          rw [ev, bnd_some]
          exact h0
        have ex : ∃ w0 : Int32, (if v.1 ≤ 0 then if p4 = -1 then some v.2.1 else some v.2.2 else some (-1)) = some w0 := by
          by_cases z1 : v.1 ≤ 0
          · by_cases z2 : p4 = -1
            · exact ⟨v.2.1, by rw [if_pos z1, if_pos z2]⟩
            · exact ⟨v.2.2, by rw [if_pos z1, if_neg z2]⟩
          · exact ⟨-1, by rw [if_neg z1]⟩
        obtain ⟨w0, e0⟩ := ex
        by_cases z2 : p4 = -1
        · refine agr_of w0 ?_ ?_
          · unfold f_X11_borrow
            refine ok_bnd (ok_eq q1 ?_)
            rw [if_neg (by decide), if_pos rfl]
            refine ok_bnd (ok_eq r1 ?_)
            rw [if_neg i10, if_neg i2, if_pos i3, if_pos z2]
            exact ok_bnd (ok_eq (ec w0 e0) (ok_some rfl))
          · unfold f_X12_borrow
            refine ok_bnd (ok_eq i1 ?_)
            rw [if_neg i10]
            refine ok_bnd (ok_eq ey ?_)
            rw [if_neg (by rw [y1]; exact i10), y3]
            refine ok_bnd (ok_eq r2 ?_)
            rw [if_neg i10, if_pos z2, bnd_some]
            refine ok_ltn ?_
            rw [jshl_1 p (by omega)]
            refine ok_bnd (ok_eq (wri_n hp6 (by decide)) ?_)
            refine ok_bnd (ok_eq e2 ?_)
            by_cases z1 : v.1 ≤ 0
            · rw [if_pos z1, if_pos z2] at e0
              rw [if_pos z1, if_pos z2]
              exact ok_some (Option.some.inj e0)
            · rw [if_neg z1] at e0
              rw [if_neg z1]
              exact ok_some (Option.some.inj e0)
        · rcases prs (fu := fu) p4 V.1 with ⟨r, hr, er, u1, u2⟩ | ⟨u1, u2⟩
          · refine agr_of w0 ?_ ?_
            · unfold f_X11_borrow
              refine ok_bnd (ok_eq q1 ?_)
              rw [if_neg (by decide), if_pos rfl]
              refine ok_bnd (ok_eq r1 ?_)
              rw [if_neg i10, if_neg i2, if_pos i3, if_neg z2]
              refine ok_bnd (ok_eq u1 ?_)
              rw [if_neg i10]
              exact ok_bnd (ok_eq (ec w0 e0) (ok_some rfl))
            · unfold f_X12_borrow
              refine ok_bnd (ok_eq i1 ?_)
              rw [if_neg i10]
              refine ok_bnd (ok_eq ey ?_)
              rw [if_neg (by rw [y1]; exact i10), y3]
              refine ok_bnd (ok_eq r2 ?_)
              rw [if_neg i10, if_neg z2, u2, bnd_some, if_neg i10, bnd_some]
              refine ok_ltn ?_
              rw [jshl_1 p (by omega)]
              refine ok_bnd (ok_eq (wri_n hp6 (by decide)) ?_)
              refine ok_bnd (ok_eq e2 ?_)
              by_cases z1 : v.1 ≤ 0
              · rw [if_pos z1, if_neg z2] at e0
                rw [if_pos z1, if_neg z2, er, rdi_n (show r < 6 by omega) (by decide) (e3 r er hr), bnd_some]
                exact ok_some (Option.some.inj e0)
              · rw [if_neg z1] at e0
                rw [if_neg z1]
                exact ok_some (Option.some.inj e0)
          · refine agr_of (-1) ?_ ?_
            · unfold f_X11_borrow
              refine ok_bnd (ok_eq q1 ?_)
              rw [if_neg (by decide), if_pos rfl]
              refine ok_bnd (ok_eq r1 ?_)
              rw [if_neg i10, if_neg i2, if_pos i3, if_neg z2]
              refine ok_bnd (ok_eq u1 ?_)
              rw [if_pos i00]
              exact ok_some rfl
            · unfold f_X12_borrow
              refine ok_bnd (ok_eq i1 ?_)
              rw [if_neg i10]
              refine ok_bnd (ok_eq ey ?_)
              rw [if_neg (by rw [y1]; exact i10), y3]
              refine ok_bnd (ok_eq r2 ?_)
              rw [if_neg i10, if_neg z2, u2, bnd_some, if_pos i00, bnd_some]
              exact ok_some rfl
      · refine agr_of (-1) ?_ ?_
        · unfold f_X11_borrow
          refine ok_bnd (ok_eq q1 ?_)
          rw [if_neg (by decide), if_pos rfl]
          refine ok_bnd (ok_eq r1 ?_)
          rw [if_pos i00]
          exact ok_some rfl
        · unfold f_X12_borrow
          refine ok_bnd (ok_eq i1 ?_)
          rw [if_neg i10]
          refine ok_bnd (ok_eq ey ?_)
          rw [if_neg (by rw [y1]; exact i10), y3]
          refine ok_bnd (ok_eq r2 ?_)
          rw [if_pos i00]
          exact ok_some rfl
  · rcases selT (fu := fu) I p1 with ⟨q1, q2⟩ | ⟨rfl, q1, q2, n, w, pu, h, o, V, TC, TM⟩ | ⟨rfl, q1, q2, n, w, pu, h, o, V, TC, TM⟩
    · refine agr_of (-1) ?_ ?_
      · unfold f_X11_borrow
        refine ok_bnd (ok_eq q1 ?_)
        rw [if_neg (by decide), if_neg (by decide)]
        exact ok_some rfl
      · unfold f_X12_borrow
        refine ok_bnd (ok_eq i1 ?_)
        rw [if_pos i00]
        exact ok_some rfl
    · obtain ⟨hpe, hwi, hpr, hha, how⟩ := TC
      subst hpe
      refine agr_of (-1) ?_ ?_
      · unfold f_X11_borrow
        refine ok_bnd (ok_eq q1 ?_)
        rw [if_pos rfl]
        rcases prs (fu := fu) p2 V.1 with ⟨p, hp, rfl, r1, r2⟩ | ⟨r1, r2⟩
        · refine ok_bnd (ok_eq r1 ?_)
          rw [if_neg i10]
          rcases i2 with i2 | ⟨i2, i3⟩
          · rw [if_pos i2]; exact ok_some rfl
          · rw [if_neg i2, if_neg i3]; exact ok_some rfl
        · refine ok_bnd (ok_eq r1 ?_)
          rw [if_pos i00]
          exact ok_some rfl
      · unfold f_X12_borrow
        refine ok_bnd (ok_eq i1 ?_)
        rw [if_pos i00]
        exact ok_some rfl
    · obtain ⟨hpe, hwi, hpr, hha, how⟩ := TC
      subst hpe
      refine agr_of (-1) ?_ ?_
      · unfold f_X11_borrow
        refine ok_bnd (ok_eq q1 ?_)
        rw [if_neg (by decide), if_pos rfl]
        rcases prs (fu := fu) p2 V.1 with ⟨p, hp, rfl, r1, r2⟩ | ⟨r1, r2⟩
        · refine ok_bnd (ok_eq r1 ?_)
          rw [if_neg i10]
          rcases i2 with i2 | ⟨i2, i3⟩
          · rw [if_pos i2]; exact ok_some rfl
          · rw [if_neg i2, if_neg i3]; exact ok_some rfl
        · refine ok_bnd (ok_eq r1 ?_)
          rw [if_pos i00]
          exact ok_some rfl
      · unfold f_X12_borrow
        refine ok_bnd (ok_eq i1 ?_)
        rw [if_pos i00]
        exact ok_some rfl
