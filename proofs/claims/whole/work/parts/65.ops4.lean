theorem A_ruin {fu : Nat} {c_told_counts c_told_towns0_purse c_told_towns0_owed c_told_towns1_purse c_told_towns1_owed c_told_towns0_wit c_told_towns0_hated c_told_towns1_wit c_told_towns1_hated m_many m_towns m_purse m_beside m_debts m_sitting m_visited : (Nat → Int32)} {c_told_towns0_people c_told_towns1_people m_code m_town m_people m_when m_sat m_quiet m_vain m_lent m_forgiven m_sundays : Int32} (I : TI c_told_counts c_told_towns0_people c_told_towns0_wit c_told_towns0_purse c_told_towns0_hated c_told_towns0_owed c_told_towns1_people c_told_towns1_wit c_told_towns1_purse c_told_towns1_hated c_told_towns1_owed m_many m_towns) (hf : 1000 ≤ fu) (p1 : Int32) (p2 : Int32) : Agr (f_X11_ruin fu c_told_counts c_told_towns0_people c_told_towns0_purse c_told_towns0_owed c_told_towns1_people c_told_towns1_purse c_told_towns1_owed p1 p2) (fun x => x) (f_X12_ruin fu m_code m_many m_towns m_town m_people m_when m_sat m_quiet m_vain m_lent m_forgiven m_sundays m_purse m_beside m_debts m_sitting m_visited p1 p2) (fun y => y.1) := by
  rcases selT (fu := fu) I p1 with ⟨q1, q2⟩ | ⟨rfl, q1, q2, n, w, pu, h, o, V, TC, TM⟩ | ⟨rfl, q1, q2, n, w, pu, h, o, V, TC, TM⟩
  · refine agr_of (-1) ?_ ?_
    · unfold f_X11_ruin
      refine ok_bnd (ok_eq q1 ?_)
      rw [if_neg (by decide), if_neg (by decide)]
      exact ok_some rfl
    · unfold f_X12_ruin
      refine ok_bnd (ok_mono (no_hand q2) ?_)
      intro y hy
      rw [if_pos hy]
      exact ok_some rfl
  · obtain ⟨hpe, hwi, hpr, hha, how⟩ := TC
    subst hpe
    have h9 : ∀ i, i < 36 → o i ≤ 99 := fun i hi => Nat.le_trans (V.2.2.2.2.1 i hi) (by decide)
    have hn6 := V.1
    rcases prs (fu := fu) p2 V.1 with ⟨p, hp, rfl, r1, r2⟩ | ⟨r1, r2⟩
    · have hp6 : p < 6 := Nat.lt_of_lt_of_le hp V.1
      refine agr_of (nI (it (sRui n pu o) n (2 ^ p))) ?_ ?_
      · unfold f_X11_ruin
        refine ok_bnd (ok_eq q1 ?_)
        rw [if_pos rfl]
        refine ok_bnd (ok_eq r1 ?_)
        rw [if_neg i10]
        exact ok_bnd (ok_eq (e_X0_ruinedBy hpr V.2.2.1 how h9 V.1 hp (by omega)) (ok_some rfl))
      · unfold f_X12_ruin
        refine ok_bnd (ok_mono (ok_hand TM (by decide) q2 (by omega)) ?_)
        intro y hy
        obtain ⟨y1, y2, y3, -, y5, -, y7, -, -⟩ := id hy
        rw [if_neg (by rw [y1]; decide)]
        rw [y3]
        refine ok_bnd (ok_eq r2 ?_)
        rw [if_neg i10]
        refine ok_ltn ?_
        rw [jshl_1 p (by omega)]
        exact ok_bnd (ok_eq (e_X12_ruin hy V.2.2.1 h9 V.1 hp (by omega)) (ok_some rfl))
    · refine agr_of (-1) ?_ ?_
      · unfold f_X11_ruin
        refine ok_bnd (ok_eq q1 ?_)
        rw [if_pos rfl]
        refine ok_bnd (ok_eq r1 ?_)
        rw [if_pos i00]
        exact ok_some rfl
      · unfold f_X12_ruin
        refine ok_bnd (ok_mono (ok_hand TM (by decide) q2 (by omega)) ?_)
        intro y hy
        obtain ⟨y1, y2, y3, -, y5, -, y7, -, -⟩ := id hy
        rw [if_neg (by rw [y1]; decide)]
        rw [y3]
        refine ok_bnd (ok_eq r2 ?_)
        rw [if_pos i00]
        exact ok_some rfl
  · obtain ⟨hpe, hwi, hpr, hha, how⟩ := TC
    subst hpe
    have h9 : ∀ i, i < 36 → o i ≤ 99 := fun i hi => Nat.le_trans (V.2.2.2.2.1 i hi) (by decide)
    have hn6 := V.1
    rcases prs (fu := fu) p2 V.1 with ⟨p, hp, rfl, r1, r2⟩ | ⟨r1, r2⟩
    · have hp6 : p < 6 := Nat.lt_of_lt_of_le hp V.1
      refine agr_of (nI (it (sRui n pu o) n (2 ^ p))) ?_ ?_
      · unfold f_X11_ruin
        refine ok_bnd (ok_eq q1 ?_)
        rw [if_neg (by decide), if_pos rfl]
        refine ok_bnd (ok_eq r1 ?_)
        rw [if_neg i10]
        exact ok_bnd (ok_eq (e_X0_ruinedBy hpr V.2.2.1 how h9 V.1 hp (by omega)) (ok_some rfl))
      · unfold f_X12_ruin
        refine ok_bnd (ok_mono (ok_hand TM (by decide) q2 (by omega)) ?_)
        intro y hy
        obtain ⟨y1, y2, y3, -, y5, -, y7, -, -⟩ := id hy
        rw [if_neg (by rw [y1]; decide)]
        rw [y3]
        refine ok_bnd (ok_eq r2 ?_)
        rw [if_neg i10]
        refine ok_ltn ?_
        rw [jshl_1 p (by omega)]
        exact ok_bnd (ok_eq (e_X12_ruin hy V.2.2.1 h9 V.1 hp (by omega)) (ok_some rfl))
    · refine agr_of (-1) ?_ ?_
      · unfold f_X11_ruin
        refine ok_bnd (ok_eq q1 ?_)
        rw [if_neg (by decide), if_pos rfl]
        refine ok_bnd (ok_eq r1 ?_)
        rw [if_pos i00]
        exact ok_some rfl
      · unfold f_X12_ruin
        refine ok_bnd (ok_mono (ok_hand TM (by decide) q2 (by omega)) ?_)
        intro y hy
        obtain ⟨y1, y2, y3, -, y5, -, y7, -, -⟩ := id hy
        rw [if_neg (by rw [y1]; decide)]
        rw [y3]
        refine ok_bnd (ok_eq r2 ?_)
        rw [if_pos i00]
        exact ok_some rfl
theorem lt_k {x : Int32} {a b : Nat} (h : x = nI a) (ha : a < 2 ^ 31) (hb : b < 2 ^ 31) : x < nI b ↔ a < b := by rw [h]; exact nI_ltI ha hb
/-- a number that is asked: small, or not -/
theorem ask (x : Int32) (N : Nat) (hN : N < 2 ^ 31) : (∃ j, j < N ∧ x = nI j) ∨ x < 0 ∨ nI N ≤ x := by
  rcases pk_ix x hN with h | h | h
  · exact Or.inr (Or.inl h)
  · exact Or.inr (Or.inr h)
  · exact Or.inl h
theorem lt0_k {x : Int32} {a : Nat} (h : x < 0) (ha : a < 2 ^ 31) : x < nI a := by
  rw [fa_lt] at h ⊢; rw [nI_toInt ha]; have : (0 : Int32).toInt = 0 := rfl; omega
theorem lt0_ne {x : Int32} {a : Nat} (h : x < 0) (ha : a < 2 ^ 31) : ¬ x = nI a := by
  rw [fa_lt] at h; rw [fa_eq, nI_toInt ha]; have : (0 : Int32).toInt = 0 := rfl; omega
theorem ge_k {x : Int32} {a N : Nat} (h : nI N ≤ x) (hN : N < 2 ^ 31) (ha : a ≤ N) : ¬ x < nI a := by
  rw [fa_le, nI_toInt hN] at h; rw [fa_lt, nI_toInt (by omega)]; omega
theorem ge_ne {x : Int32} {a N : Nat} (h : nI N ≤ x) (hN : N < 2 ^ 31) (ha : a < N) : ¬ x = nI a := by
  rw [fa_le, nI_toInt hN] at h; rw [fa_eq, nI_toInt (by omega)]; omega
theorem ge_le {x : Int32} {a N : Nat} (h : nI N ≤ x) (hN : N < 2 ^ 31) (ha : a ≤ N) : nI a ≤ x := by
  rw [fa_le, nI_toInt hN] at h; rw [fa_le, nI_toInt (by omega)]; omega
theorem ge_not {x : Int32} {n N : Nat} (h : nI N ≤ x) (hN : N < 2 ^ 30) (hn : n ≤ 6) {a : Nat} (ha : a + 6 ≤ N) {fu : Nat} : f_X12_isPerson fu (nI n) (x - nI a) = some 0 := by
  have hr := Int32.toInt_lt x
  have e : (x - nI a).toInt = x.toInt - a := by
    rw [fa_le, nI_toInt (by omega)] at h
    rw [Int32.toInt_sub, nI_toInt (by omega), Int.bmod_eq_of_le (by omega) (by omega)]
  rw [fa_le, nI_toInt (by omega)] at h
  have h1 : ¬ x - nI a < 0 := by rw [fa_lt, e]; have : (0 : Int32).toInt = 0 := rfl; omega
  have h2 : nI n - 1 < x - nI a := by rw [fa_lt, e, nI_m1 n (by omega)]; omega
  simp only [f_X12_isPerson, f_X12_in, if_neg h1, if_pos h2, bnd_some]; rfl
theorem isP_n {fu n a : Nat} (hn : n ≤ 6) (ha : a < 2 ^ 31) : f_X12_isPerson fu (nI n) (nI a) = some (if a < n then 1 else 0) := by
  have hm := nI_m1 n (by omega)
  have h1 : ¬ nI a < 0 := nI_pos ha
  have h2 : nI n - 1 < nI a ↔ ¬ a < n := by rw [fa_lt, hm, nI_toInt ha]; omega
  simp only [f_X12_isPerson, f_X12_in, if_neg h1, bnd_some, h2]
  by_cases q : a < n
  · rw [if_pos q, if_neg (fun z => z q)]; rfl
  · rw [if_neg q, if_pos q]; rfl
theorem has_n {fu n a : Nat} (hn : n ≤ 6) (ha : a < 2 ^ 31) : f_X9_has fu (nI n) (nI a) = some (if a < n then 1 else 0) := by
  simp only [f_X9_has, if_neg (nI_pos ha)]
  by_cases q : a < n
  · rw [if_neg (nI_ge q (by omega)), if_pos q]
  · rw [if_pos (nI_le (by omega) (by omega)), if_neg q]
theorem A_ring {fu : Nat} {c_told_counts c_told_towns0_wit c_told_towns0_purse c_told_towns0_hated c_told_towns0_owed c_told_towns1_wit c_told_towns1_purse c_told_towns1_hated c_told_towns1_owed m_many m_towns m_purse m_beside m_debts m_sitting m_visited : (Nat → Int32)} {c_told_towns0_people c_told_towns1_people m_code m_town m_people m_when m_sat m_quiet m_vain m_lent m_forgiven m_sundays : Int32} (I : TI c_told_counts c_told_towns0_people c_told_towns0_wit c_told_towns0_purse c_told_towns0_hated c_told_towns0_owed c_told_towns1_people c_told_towns1_wit c_told_towns1_purse c_told_towns1_hated c_told_towns1_owed m_many m_towns) (hf : 1000 ≤ fu) (p1 : Int32) (p2 : Int32) : Agr (f_X11_ring fu c_told_counts c_told_towns0_people c_told_towns0_wit c_told_towns0_purse c_told_towns0_hated c_told_towns0_owed c_told_towns1_people c_told_towns1_wit c_told_towns1_purse c_told_towns1_hated c_told_towns1_owed p1 p2) (fun x => x) (f_X12_ring fu m_code m_many m_towns m_town m_people m_when m_sat m_quiet m_vain m_lent m_forgiven m_sundays m_purse m_beside m_debts m_sitting m_visited p1 p2) (fun y => y.1) := by
  rcases selT (fu := fu) I p1 with ⟨q1, q2⟩ | ⟨rfl, q1, q2, n, w, pu, h, o, V, TC, TM⟩ | ⟨rfl, q1, q2, n, w, pu, h, o, V, TC, TM⟩
  · refine agr_of (-2) ?_ ?_
    · unfold f_X11_ring
      refine ok_bnd (ok_eq q1 ?_)
      rw [if_neg (by decide), if_neg (by decide)]
      exact ok_some rfl
    · unfold f_X12_ring
      refine ok_bnd (ok_mono (no_hand q2) ?_)
      intro y hy
      rw [if_pos hy]
      exact ok_some rfl
  · obtain ⟨hpe, hwi, hpr, hha, how⟩ := TC
    subst hpe
    have h9 : ∀ i, i < 36 → o i ≤ 99 := fun i hi => Nat.le_trans (V.2.2.2.2.1 i hi) (by decide)
    have hM : ∀ i, i < 6 → m_towns (55 * 0 + 13 + i) = nI (h i) := TM.2.2.2.1
    have hW : ∀ i, i < 6 → m_towns (55 * 0 + 1 + i) = nI (w i) := TM.2.1
    have hn6 := V.1
    have h64 : ∀ i, i < 6 → h i < 64 := fun i hi => V.h64 hi
    rcases ask p2 30 (by decide) with ⟨j, hj, rfl⟩ | hx | hx
    · rcases (show j = 0 ∨ j = 1 ∨ j = 2 ∨ j = 3 ∨ j = 4 ∨ j = 5 ∨ j = 6 ∨ (7 ≤ j ∧ j < 10) ∨ (10 ≤ j ∧ j < 20) ∨ (20 ≤ j ∧ j < 30) by omega) with rfl | rfl | rfl | rfl | rfl | rfl | rfl | hj2 | hj2 | hj2
      · refine agr_of (nI (sPair n (fMut o))) ?_ ?_
        · unfold f_X11_ring
          refine ok_bnd (ok_eq q1 ?_)
          rw [if_pos rfl]
          rw [if_pos (by decide)]
          unfold f_X0_tellOfTown
          rw [if_pos (by decide)]
          rw [bnd_r (e_X0_mutual how h9 V.1 (by omega))]
          exact ok_some rfl
        · unfold f_X12_ring
          refine ok_bnd (ok_mono (ok_hand TM (by decide) q2 (by omega)) ?_)
          intro y hy
          obtain ⟨y1, y2, y3, -, y5, -, y7, -, -⟩ := id hy
          rw [if_neg (by rw [y1]; decide)]
          rw [if_pos (by decide), if_pos (by decide)]
          rw [if_pos (by decide)]
          rw [y3]
          exact ok_bnd (ok_eq (e_X12_mutual y7 h9 V.1 (by omega)) (ok_some rfl))
      · obtain ⟨v, v1, -⟩ := ring_eq (fu := fu) how how h9 V.1 (by omega)
        refine agr_of v ?_ ?_
        · unfold f_X11_ring
          refine ok_bnd (ok_eq q1 ?_)
          rw [if_pos rfl]
          rw [if_pos (by decide)]
          unfold f_X0_tellOfTown
          rw [if_neg (by decide)]
          rw [if_pos (by decide)]
          rw [bnd_r (v1)]
          exact ok_some rfl
        · unfold f_X12_ring
          refine ok_bnd (ok_mono (ok_hand TM (by decide) q2 (by omega)) ?_)
          intro y hy
          obtain ⟨y1, y2, y3, -, y5, -, y7, -, -⟩ := id hy
          rw [if_neg (by rw [y1]; decide)]
          rw [if_pos (by decide), if_pos (by decide), if_neg (by decide), if_pos (by decide)]
          rw [y3]
          obtain ⟨v2, v3, v4⟩ := ring_eq (fu := fu) how y7 h9 V.1 (by omega)
          rw [v1] at v3
          cases v3
          exact ok_bnd (ok_eq v4 (ok_some rfl))
      · refine agr_of (enc (sRich n pu o)) ?_ ?_
        · unfold f_X11_ring
          refine ok_bnd (ok_eq q1 ?_)
          rw [if_pos rfl]
          rw [if_pos (by decide)]
          unfold f_X0_tellOfTown
          rw [if_neg (by decide)]
          rw [if_neg (by decide)]
          rw [if_pos (by decide)]
          rw [bnd_r (e_X0_richest hpr how V.1 (by omega))]
          exact ok_some rfl
        · unfold f_X12_ring
          refine ok_bnd (ok_mono (ok_hand TM (by decide) q2 (by omega)) ?_)
          intro y hy
          obtain ⟨y1, y2, y3, -, y5, -, y7, -, -⟩ := id hy
          rw [if_neg (by rw [y1]; decide)]
          rw [if_pos (by decide), if_pos (by decide)]
          rw [if_neg (by decide)]
          rw [if_neg (by decide)]
          rw [if_pos (by decide)]
          rw [if_pos (by decide)]
          rw [y3]
          exact ok_bnd (ok_eq (e_first_1 y5 y7 V.1 (by omega)) (ok_some rfl))
      · refine agr_of (nI (sPair n (fTwi w pu))) ?_ ?_
        · unfold f_X11_ring
          refine ok_bnd (ok_eq q1 ?_)
          rw [if_pos rfl]
          rw [if_pos (by decide)]
          unfold f_X0_tellOfTown
          rw [if_neg (by decide)]
          rw [if_neg (by decide)]
          rw [if_neg (by decide)]
          rw [if_pos (by decide)]
          rw [bnd_r (e_X0_twins hwi hpr V.2.1 V.2.2.1 V.1 (by omega))]
          exact ok_some rfl
        · unfold f_X12_ring
          refine ok_bnd (ok_mono (ok_hand TM (by decide) q2 (by omega)) ?_)
          intro y hy
          obtain ⟨y1, y2, y3, -, y5, -, y7, -, -⟩ := id hy
          rw [if_neg (by rw [y1]; decide)]
          rw [if_pos (by decide), if_pos (by decide)]
          rw [if_neg (by decide)]
          rw [if_neg (by decide)]
          rw [if_neg (by decide)]
          rw [if_pos (by decide)]
          rw [y2]
          rw [y3]
          exact ok_bnd (ok_eq (e_X12_twins hW (by decide) y5 V.2.1 V.2.2.1 V.1 (by omega)) (ok_some rfl))
      · refine agr_of (enc (sFav n o)) ?_ ?_
        · unfold f_X11_ring
          refine ok_bnd (ok_eq q1 ?_)
          rw [if_pos rfl]
          rw [if_pos (by decide)]
          unfold f_X0_tellOfTown
          rw [if_neg (by decide)]
          rw [if_neg (by decide)]
          rw [if_neg (by decide)]
          rw [if_neg (by decide)]
          rw [if_pos (by decide)]
          rw [bnd_r (e_X0_favourite how h9 V.1 (by omega))]
          exact ok_some rfl
        · unfold f_X12_ring
          refine ok_bnd (ok_mono (ok_hand TM (by decide) q2 (by omega)) ?_)
          intro y hy
          obtain ⟨y1, y2, y3, -, y5, -, y7, -, -⟩ := id hy
          rw [if_neg (by rw [y1]; decide)]
          rw [if_pos (by decide), if_pos (by decide)]
          rw [if_neg (by decide)]
          rw [if_neg (by decide)]
          rw [if_neg (by decide)]
          rw [if_neg (by decide)]
          rw [if_pos (by decide)]
          rw [if_neg (by decide)]
          rw [y3]
          exact ok_bnd (ok_eq (e_first_0 y7 h9 V.1 (by omega)) (ok_some rfl))
      · refine agr_of (nI (sFs n h)) ?_ ?_
        · unfold f_X11_ring
          refine ok_bnd (ok_eq q1 ?_)
          rw [if_pos rfl]
          rw [if_neg (by decide)]
          unfold f_X6_tellOfPeople
          rw [if_pos (by decide)]
          rw [bnd_r (e_X6_feuds hha V.2.2.2.1 V.2.2.2.2.2.1 V.1 (by omega))]
          exact ok_some rfl
        · unfold f_X12_ring
          refine ok_bnd (ok_mono (ok_hand TM (by decide) q2 (by omega)) ?_)
          intro y hy
          obtain ⟨y1, y2, y3, -, y5, -, y7, -, -⟩ := id hy
          rw [if_neg (by rw [y1]; decide)]
          rw [if_pos (by decide), if_pos (by decide)]
          rw [if_neg (by decide)]
          rw [if_neg (by decide)]
          rw [if_neg (by decide)]
          rw [if_neg (by decide)]
          rw [if_neg (by decide)]
          rw [if_pos (by decide)]
          rw [y2]
          rw [y3]
          exact ok_bnd (ok_eq (e_X12_feuds hM V.2.2.2.1 (by decide) V.1 (by omega)) (ok_some rfl))
      · refine agr_of (nI (sLon n o)) ?_ ?_
        · unfold f_X11_ring
          refine ok_bnd (ok_eq q1 ?_)
          rw [if_pos rfl]
          rw [if_neg (by decide)]
          unfold f_X6_tellOfPeople
          rw [if_neg (by decide)]
          rw [if_pos (by decide)]
          rw [bnd_r (e_X6_loners how h9 V.1 (by omega))]
          exact ok_some rfl
        · unfold f_X12_ring
          refine ok_bnd (ok_mono (ok_hand TM (by decide) q2 (by omega)) ?_)
          intro y hy
          obtain ⟨y1, y2, y3, -, y5, -, y7, -, -⟩ := id hy
          rw [if_neg (by rw [y1]; decide)]
          rw [if_pos (by decide), if_pos (by decide)]
          rw [if_neg (by decide)]
          rw [if_neg (by decide)]
          rw [if_neg (by decide)]
          rw [if_neg (by decide)]
          rw [if_neg (by decide)]
          rw [if_neg (by decide)]
          rw [if_pos (by decide)]
          rw [y3]
          exact ok_bnd (ok_eq (e_X12_loners y7 h9 V.1 (by omega)) (ok_some rfl))
      · refine agr_of (-2) ?_ ?_
        · unfold f_X11_ring
          refine ok_bnd (ok_eq q1 ?_)
          rw [if_pos rfl]
          rw [show (5 : Int32) = nI 5 from rfl, if_neg (nI_nlt (by omega) (by omega))]
          unfold f_X6_tellOfPeople
          rw [show (5 : Int32) = nI 5 from rfl, show (6 : Int32) = nI 6 from rfl, show (10 : Int32) = nI 10 from rfl, show (20 : Int32) = nI 20 from rfl, if_neg (by rw [nI_eq (by omega) (by decide)]; omega), if_neg (by rw [nI_eq (by omega) (by decide)]; omega), if_pos (nI_lt (by omega) (by decide)), bnd_some]
          show ok (bnd (if nI j < nI 20 then _ else _) _) _
          rw [if_pos (nI_lt (by omega) (by decide))]
          exact ok_some rfl
        · unfold f_X12_ring
          refine ok_bnd (ok_mono (ok_hand TM (by decide) q2 (by omega)) ?_)
          intro y hy
          obtain ⟨y1, y2, y3, -, y5, -, y7, -, -⟩ := id hy
          rw [if_neg (by rw [y1]; decide)]
          rw [show (20 : Int32) = nI 20 from rfl, show (10 : Int32) = nI 10 from rfl, if_pos (nI_lt (by omega) (by decide)), if_pos (nI_lt (by omega) (by decide))]
          rw [show (0 : Int32) = nI 0 from rfl, if_neg (by rw [nI_eq (by omega) (by decide)]; omega)]
          rw [show (1 : Int32) = nI 1 from rfl, if_neg (by rw [nI_eq (by omega) (by decide)]; omega)]
          rw [show (2 : Int32) = nI 2 from rfl, if_neg (by rw [nI_eq (by omega) (by decide)]; omega)]
          rw [show (3 : Int32) = nI 3 from rfl, if_neg (by rw [nI_eq (by omega) (by decide)]; omega)]
          rw [show (4 : Int32) = nI 4 from rfl, if_neg (by rw [nI_eq (by omega) (by decide)]; omega)]
          rw [show (5 : Int32) = nI 5 from rfl, if_neg (by rw [nI_eq (by omega) (by decide)]; omega)]
          rw [show (6 : Int32) = nI 6 from rfl, if_neg (by rw [nI_eq (by omega) (by decide)]; omega)]
          exact ok_some rfl
      · by_cases hk : j - 10 < n
        · obtain ⟨m, m1, m2, m3⟩ := e_X12_bore (fu := fu) hW (by decide) V.2.1 V.1 hk (by omega)
          refine agr_of (nI m) ?_ ?_
          · unfold f_X11_ring
            refine ok_bnd (ok_eq q1 ?_)
            rw [if_pos rfl]
            rw [show (5 : Int32) = nI 5 from rfl, if_neg (nI_nlt (by omega) (by omega))]
            unfold f_X6_tellOfPeople
            rw [show (5 : Int32) = nI 5 from rfl, show (6 : Int32) = nI 6 from rfl, show (10 : Int32) = nI 10 from rfl, show (20 : Int32) = nI 20 from rfl, if_neg (by rw [nI_eq (by omega) (by decide)]; omega), if_neg (by rw [nI_eq (by omega) (by decide)]; omega), if_neg (nI_nlt (by omega) (by omega)), if_neg (nI_ge (by omega) (by decide)), pk_sub (by omega)]
            rw [(e_X6_boreAt hwi V.2.1 V.1 (by omega)).1 m m1 (by rw [m2])]
            exact ok_some rfl
          · unfold f_X12_ring
            refine ok_bnd (ok_mono (ok_hand TM (by decide) q2 (by omega)) ?_)
            intro y hy
            obtain ⟨y1, y2, y3, -, y5, -, y7, -, -⟩ := id hy
            rw [if_neg (by rw [y1]; decide)]
            rw [show (20 : Int32) = nI 20 from rfl, show (10 : Int32) = nI 10 from rfl, if_pos (nI_lt (by omega) (by decide)), if_neg (nI_nlt (by omega) (by omega)), pk_sub (by omega), y3, isP_n V.1 (by omega), bnd_some]
            rw [if_pos hk, if_neg i10, y2]
            exact ok_bnd (ok_eq m3 (ok_some rfl))
        · refine agr_of (-2) ?_ ?_
          · unfold f_X11_ring
            refine ok_bnd (ok_eq q1 ?_)
            rw [if_pos rfl]
            rw [show (5 : Int32) = nI 5 from rfl, if_neg (nI_nlt (by omega) (by omega))]
            unfold f_X6_tellOfPeople
            rw [show (5 : Int32) = nI 5 from rfl, show (6 : Int32) = nI 6 from rfl, show (10 : Int32) = nI 10 from rfl, show (20 : Int32) = nI 20 from rfl, if_neg (by rw [nI_eq (by omega) (by decide)]; omega), if_neg (by rw [nI_eq (by omega) (by decide)]; omega), if_neg (nI_nlt (by omega) (by omega)), if_neg (nI_ge (by omega) (by decide)), pk_sub (by omega)]
            rw [(e_X6_boreAt hwi V.2.1 V.1 (by omega)).2 (fun m hm e => ?_)]
            · exact ok_some rfl
            · have := rnk_n (w := w) hm
              rw [nI_eq (by omega) (by omega)] at e
              omega
          · unfold f_X12_ring
            refine ok_bnd (ok_mono (ok_hand TM (by decide) q2 (by omega)) ?_)
            intro y hy
            obtain ⟨y1, y2, y3, -, y5, -, y7, -, -⟩ := id hy
            rw [if_neg (by rw [y1]; decide)]
            rw [show (20 : Int32) = nI 20 from rfl, show (10 : Int32) = nI 10 from rfl, if_pos (nI_lt (by omega) (by decide)), if_neg (nI_nlt (by omega) (by omega)), pk_sub (by omega), y3, isP_n V.1 (by omega), bnd_some]
            rw [if_neg hk, if_pos i00]
            exact ok_some rfl
      · by_cases hk : j - 20 < n
        · refine agr_of (nI (clo n h (j - 20))) ?_ ?_
          · unfold f_X11_ring
            refine ok_bnd (ok_eq q1 ?_)
            rw [if_pos rfl]
            rw [show (5 : Int32) = nI 5 from rfl, if_neg (nI_nlt (by omega) (by omega))]
            unfold f_X6_tellOfPeople
            rw [show (5 : Int32) = nI 5 from rfl, show (6 : Int32) = nI 6 from rfl, show (10 : Int32) = nI 10 from rfl, show (20 : Int32) = nI 20 from rfl, show (30 : Int32) = nI 30 from rfl, if_neg (by rw [nI_eq (by omega) (by decide)]; omega), if_neg (by rw [nI_eq (by omega) (by decide)]; omega), if_neg (nI_nlt (by omega) (by omega)), if_pos (nI_le (by omega) (by omega)), bnd_some]
            show ok (bnd (if nI j < nI 20 then _ else _) _) _
            rw [if_neg (nI_nlt (by omega) (by omega)), if_neg (nI_ge (by omega) (by decide)), pk_sub (by omega), has_n V.1 (by omega), bnd_some]
            rw [if_pos hk, if_neg i10, e_X6_feudOf hha V.2.2.2.1 V.1 hk (by omega)]
            exact ok_some rfl
          · unfold f_X12_ring
            refine ok_bnd (ok_mono (ok_hand TM (by decide) q2 (by omega)) ?_)
            intro y hy
            obtain ⟨y1, y2, y3, -, y5, -, y7, -, -⟩ := id hy
            rw [if_neg (by rw [y1]; decide)]
            rw [show (20 : Int32) = nI 20 from rfl, if_neg (nI_nlt (by omega) (by omega)), pk_sub (by omega), y3, isP_n V.1 (by omega), bnd_some]
            rw [if_pos hk, if_neg i10, y2]
            exact ok_bnd (ok_eq (e_X12_feudOf hM V.2.2.2.1 (by decide) V.1 hk (by omega)) (ok_some rfl))
        · refine agr_of (-2) ?_ ?_
          · unfold f_X11_ring
            refine ok_bnd (ok_eq q1 ?_)
            rw [if_pos rfl]
            rw [show (5 : Int32) = nI 5 from rfl, if_neg (nI_nlt (by omega) (by omega))]
            unfold f_X6_tellOfPeople
            rw [show (5 : Int32) = nI 5 from rfl, show (6 : Int32) = nI 6 from rfl, show (10 : Int32) = nI 10 from rfl, show (20 : Int32) = nI 20 from rfl, show (30 : Int32) = nI 30 from rfl, if_neg (by rw [nI_eq (by omega) (by decide)]; omega), if_neg (by rw [nI_eq (by omega) (by decide)]; omega), if_neg (nI_nlt (by omega) (by omega)), if_pos (nI_le (by omega) (by omega)), bnd_some]
            show ok (bnd (if nI j < nI 20 then _ else _) _) _
            rw [if_neg (nI_nlt (by omega) (by omega)), if_neg (nI_ge (by omega) (by decide)), pk_sub (by omega), has_n V.1 (by omega), bnd_some]
            rw [if_neg hk, if_pos i00]
            exact ok_some rfl
          · unfold f_X12_ring
            refine ok_bnd (ok_mono (ok_hand TM (by decide) q2 (by omega)) ?_)
            intro y hy
            obtain ⟨y1, y2, y3, -, y5, -, y7, -, -⟩ := id hy
            rw [if_neg (by rw [y1]; decide)]
            rw [show (20 : Int32) = nI 20 from rfl, if_neg (nI_nlt (by omega) (by omega)), pk_sub (by omega), y3, isP_n V.1 (by omega), bnd_some]
            rw [if_neg hk, if_pos i00]
            exact ok_some rfl
    · refine agr_of (-2) ?_ ?_
      · unfold f_X11_ring
        refine ok_bnd (ok_eq q1 ?_)
        rw [if_pos rfl]
        rw [show (5 : Int32) = nI 5 from rfl, if_pos (lt0_k hx (by decide))]
        unfold f_X0_tellOfTown
        rw [show (0 : Int32) = nI 0 from rfl, if_neg (lt0_ne hx (by decide))]
        rw [show (1 : Int32) = nI 1 from rfl, if_neg (lt0_ne hx (by decide))]
        rw [show (2 : Int32) = nI 2 from rfl, if_neg (lt0_ne hx (by decide))]
        rw [show (3 : Int32) = nI 3 from rfl, if_neg (lt0_ne hx (by decide))]
        rw [show (4 : Int32) = nI 4 from rfl, if_neg (lt0_ne hx (by decide))]
        exact ok_some rfl
      · unfold f_X12_ring
        refine ok_bnd (ok_mono (ok_hand TM (by decide) q2 (by omega)) ?_)
        intro y hy
        obtain ⟨y1, y2, y3, -, y5, -, y7, -, -⟩ := id hy
        rw [if_neg (by rw [y1]; decide)]
        rw [show (20 : Int32) = nI 20 from rfl, show (10 : Int32) = nI 10 from rfl, if_pos (lt0_k hx (by decide)), if_pos (lt0_k hx (by decide))]
        rw [show (0 : Int32) = nI 0 from rfl, if_neg (lt0_ne hx (by decide))]
        rw [show (1 : Int32) = nI 1 from rfl, if_neg (lt0_ne hx (by decide))]
        rw [show (2 : Int32) = nI 2 from rfl, if_neg (lt0_ne hx (by decide))]
        rw [show (3 : Int32) = nI 3 from rfl, if_neg (lt0_ne hx (by decide))]
        rw [show (4 : Int32) = nI 4 from rfl, if_neg (lt0_ne hx (by decide))]
        rw [show (5 : Int32) = nI 5 from rfl, if_neg (lt0_ne hx (by decide))]
        rw [show (6 : Int32) = nI 6 from rfl, if_neg (lt0_ne hx (by decide))]
        exact ok_some rfl
    · refine agr_of (-2) ?_ ?_
      · unfold f_X11_ring
        refine ok_bnd (ok_eq q1 ?_)
        rw [if_pos rfl]
        rw [show (5 : Int32) = nI 5 from rfl, if_neg (ge_k hx (by decide) (by decide))]
        unfold f_X6_tellOfPeople
        rw [show (5 : Int32) = nI 5 from rfl, show (6 : Int32) = nI 6 from rfl, show (10 : Int32) = nI 10 from rfl, show (20 : Int32) = nI 20 from rfl, show (30 : Int32) = nI 30 from rfl, if_neg (ge_ne hx (by decide) (by decide)), if_neg (ge_ne hx (by decide) (by decide)), if_neg (ge_k hx (by decide) (by decide)), if_pos (ge_le hx (by decide) (by decide)), bnd_some]
        show ok (bnd (if p2 < nI 20 then _ else _) _) _
        rw [if_neg (ge_k hx (by decide) (by decide)), if_pos (ge_le hx (by decide) (by decide))]
        exact ok_some rfl
      · unfold f_X12_ring
        refine ok_bnd (ok_mono (ok_hand TM (by decide) q2 (by omega)) ?_)
        intro y hy
        obtain ⟨y1, y2, y3, -, y5, -, y7, -, -⟩ := id hy
        rw [if_neg (by rw [y1]; decide)]
        rw [show (20 : Int32) = nI 20 from rfl, if_neg (ge_k hx (by decide) (by decide)), y3, ge_not hx (by decide) V.1 (by decide), bnd_some, if_pos i00]
        exact ok_some rfl
  · obtain ⟨hpe, hwi, hpr, hha, how⟩ := TC
    subst hpe
    have h9 : ∀ i, i < 36 → o i ≤ 99 := fun i hi => Nat.le_trans (V.2.2.2.2.1 i hi) (by decide)
    have hM : ∀ i, i < 6 → m_towns (55 * 1 + 13 + i) = nI (h i) := TM.2.2.2.1
    have hW : ∀ i, i < 6 → m_towns (55 * 1 + 1 + i) = nI (w i) := TM.2.1
    have hn6 := V.1
    have h64 : ∀ i, i < 6 → h i < 64 := fun i hi => V.h64 hi
    rcases ask p2 30 (by decide) with ⟨j, hj, rfl⟩ | hx | hx
    · rcases (show j = 0 ∨ j = 1 ∨ j = 2 ∨ j = 3 ∨ j = 4 ∨ j = 5 ∨ j = 6 ∨ (7 ≤ j ∧ j < 10) ∨ (10 ≤ j ∧ j < 20) ∨ (20 ≤ j ∧ j < 30) by omega) with rfl | rfl | rfl | rfl | rfl | rfl | rfl | hj2 | hj2 | hj2
      · refine agr_of (nI (sPair n (fMut o))) ?_ ?_
        · unfold f_X11_ring
          refine ok_bnd (ok_eq q1 ?_)
          rw [if_neg (by decide), if_pos rfl]
          rw [if_pos (by decide)]
          unfold f_X0_tellOfTown
          rw [if_pos (by decide)]
          rw [bnd_r (e_X0_mutual how h9 V.1 (by omega))]
          exact ok_some rfl
        · unfold f_X12_ring
          refine ok_bnd (ok_mono (ok_hand TM (by decide) q2 (by omega)) ?_)
          intro y hy
          obtain ⟨y1, y2, y3, -, y5, -, y7, -, -⟩ := id hy
          rw [if_neg (by rw [y1]; decide)]
          rw [if_pos (by decide), if_pos (by decide)]
          rw [if_pos (by decide)]
          rw [y3]
          exact ok_bnd (ok_eq (e_X12_mutual y7 h9 V.1 (by omega)) (ok_some rfl))
      · obtain ⟨v, v1, -⟩ := ring_eq (fu := fu) how how h9 V.1 (by omega)
        refine agr_of v ?_ ?_
        · unfold f_X11_ring
          refine ok_bnd (ok_eq q1 ?_)
          rw [if_neg (by decide), if_pos rfl]
          rw [if_pos (by decide)]
          unfold f_X0_tellOfTown
          rw [if_neg (by decide)]
          rw [if_pos (by decide)]
          rw [bnd_r (v1)]
          exact ok_some rfl
        · unfold f_X12_ring
          refine ok_bnd (ok_mono (ok_hand TM (by decide) q2 (by omega)) ?_)
          intro y hy
          obtain ⟨y1, y2, y3, -, y5, -, y7, -, -⟩ := id hy
          rw [if_neg (by rw [y1]; decide)]
          rw [if_pos (by decide), if_pos (by decide), if_neg (by decide), if_pos (by decide)]
          rw [y3]
          obtain ⟨v2, v3, v4⟩ := ring_eq (fu := fu) how y7 h9 V.1 (by omega)
          rw [v1] at v3
          cases v3
          exact ok_bnd (ok_eq v4 (ok_some rfl))
      · refine agr_of (enc (sRich n pu o)) ?_ ?_
        · unfold f_X11_ring
          refine ok_bnd (ok_eq q1 ?_)
          rw [if_neg (by decide), if_pos rfl]
          rw [if_pos (by decide)]
          unfold f_X0_tellOfTown
          rw [if_neg (by decide)]
          rw [if_neg (by decide)]
          rw [if_pos (by decide)]
          rw [bnd_r (e_X0_richest hpr how V.1 (by omega))]
          exact ok_some rfl
        · unfold f_X12_ring
          refine ok_bnd (ok_mono (ok_hand TM (by decide) q2 (by omega)) ?_)
          intro y hy
          obtain ⟨y1, y2, y3, -, y5, -, y7, -, -⟩ := id hy
          rw [if_neg (by rw [y1]; decide)]
          rw [if_pos (by decide), if_pos (by decide)]
          rw [if_neg (by decide)]
          rw [if_neg (by decide)]
          rw [if_pos (by decide)]
          rw [if_pos (by decide)]
          rw [y3]
          exact ok_bnd (ok_eq (e_first_1 y5 y7 V.1 (by omega)) (ok_some rfl))
      · refine agr_of (nI (sPair n (fTwi w pu))) ?_ ?_
        · unfold f_X11_ring
          refine ok_bnd (ok_eq q1 ?_)
          rw [if_neg (by decide), if_pos rfl]
          rw [if_pos (by decide)]
          unfold f_X0_tellOfTown
          rw [if_neg (by decide)]
          rw [if_neg (by decide)]
          rw [if_neg (by decide)]
          rw [if_pos (by decide)]
          rw [bnd_r (e_X0_twins hwi hpr V.2.1 V.2.2.1 V.1 (by omega))]
          exact ok_some rfl
        · unfold f_X12_ring
          refine ok_bnd (ok_mono (ok_hand TM (by decide) q2 (by omega)) ?_)
          intro y hy
          obtain ⟨y1, y2, y3, -, y5, -, y7, -, -⟩ := id hy
          rw [if_neg (by rw [y1]; decide)]
          rw [if_pos (by decide), if_pos (by decide)]
          rw [if_neg (by decide)]
          rw [if_neg (by decide)]
          rw [if_neg (by decide)]
          rw [if_pos (by decide)]
          rw [y2]
          rw [y3]
          exact ok_bnd (ok_eq (e_X12_twins hW (by decide) y5 V.2.1 V.2.2.1 V.1 (by omega)) (ok_some rfl))
      · refine agr_of (enc (sFav n o)) ?_ ?_
        · unfold f_X11_ring
          refine ok_bnd (ok_eq q1 ?_)
          rw [if_neg (by decide), if_pos rfl]
          rw [if_pos (by decide)]
          unfold f_X0_tellOfTown
          rw [if_neg (by decide)]
          rw [if_neg (by decide)]
          rw [if_neg (by decide)]
          rw [if_neg (by decide)]
          rw [if_pos (by decide)]
          rw [bnd_r (e_X0_favourite how h9 V.1 (by omega))]
          exact ok_some rfl
        · unfold f_X12_ring
          refine ok_bnd (ok_mono (ok_hand TM (by decide) q2 (by omega)) ?_)
          intro y hy
          obtain ⟨y1, y2, y3, -, y5, -, y7, -, -⟩ := id hy
          rw [if_neg (by rw [y1]; decide)]
          rw [if_pos (by decide), if_pos (by decide)]
          rw [if_neg (by decide)]
          rw [if_neg (by decide)]
          rw [if_neg (by decide)]
          rw [if_neg (by decide)]
          rw [if_pos (by decide)]
          rw [if_neg (by decide)]
          rw [y3]
          exact ok_bnd (ok_eq (e_first_0 y7 h9 V.1 (by omega)) (ok_some rfl))
      · refine agr_of (nI (sFs n h)) ?_ ?_
        · unfold f_X11_ring
          refine ok_bnd (ok_eq q1 ?_)
          rw [if_neg (by decide), if_pos rfl]
          rw [if_neg (by decide)]
          unfold f_X6_tellOfPeople
          rw [if_pos (by decide)]
          rw [bnd_r (e_X6_feuds hha V.2.2.2.1 V.2.2.2.2.2.1 V.1 (by omega))]
          exact ok_some rfl
        · unfold f_X12_ring
          refine ok_bnd (ok_mono (ok_hand TM (by decide) q2 (by omega)) ?_)
          intro y hy
          obtain ⟨y1, y2, y3, -, y5, -, y7, -, -⟩ := id hy
          rw [if_neg (by rw [y1]; decide)]
          rw [if_pos (by decide), if_pos (by decide)]
          rw [if_neg (by decide)]
          rw [if_neg (by decide)]
          rw [if_neg (by decide)]
          rw [if_neg (by decide)]
          rw [if_neg (by decide)]
          rw [if_pos (by decide)]
          rw [y2]
          rw [y3]
          exact ok_bnd (ok_eq (e_X12_feuds hM V.2.2.2.1 (by decide) V.1 (by omega)) (ok_some rfl))
      · refine agr_of (nI (sLon n o)) ?_ ?_
        · unfold f_X11_ring
          refine ok_bnd (ok_eq q1 ?_)
          rw [if_neg (by decide), if_pos rfl]
          rw [if_neg (by decide)]
          unfold f_X6_tellOfPeople
          rw [if_neg (by decide)]
          rw [if_pos (by decide)]
          rw [bnd_r (e_X6_loners how h9 V.1 (by omega))]
          exact ok_some rfl
        · unfold f_X12_ring
          refine ok_bnd (ok_mono (ok_hand TM (by decide) q2 (by omega)) ?_)
          intro y hy
          obtain ⟨y1, y2, y3, -, y5, -, y7, -, -⟩ := id hy
          rw [if_neg (by rw [y1]; decide)]
          rw [if_pos (by decide), if_pos (by decide)]
          rw [if_neg (by decide)]
          rw [if_neg (by decide)]
          rw [if_neg (by decide)]
          rw [if_neg (by decide)]
          rw [if_neg (by decide)]
          rw [if_neg (by decide)]
          rw [if_pos (by decide)]
          rw [y3]
          exact ok_bnd (ok_eq (e_X12_loners y7 h9 V.1 (by omega)) (ok_some rfl))
      · refine agr_of (-2) ?_ ?_
        · unfold f_X11_ring
          refine ok_bnd (ok_eq q1 ?_)
          rw [if_neg (by decide), if_pos rfl]
          rw [show (5 : Int32) = nI 5 from rfl, if_neg (nI_nlt (by omega) (by omega))]
          unfold f_X6_tellOfPeople
          rw [show (5 : Int32) = nI 5 from rfl, show (6 : Int32) = nI 6 from rfl, show (10 : Int32) = nI 10 from rfl, show (20 : Int32) = nI 20 from rfl, if_neg (by rw [nI_eq (by omega) (by decide)]; omega), if_neg (by rw [nI_eq (by omega) (by decide)]; omega), if_pos (nI_lt (by omega) (by decide)), bnd_some]
          show ok (bnd (if nI j < nI 20 then _ else _) _) _
          rw [if_pos (nI_lt (by omega) (by decide))]
          exact ok_some rfl
        · unfold f_X12_ring
          refine ok_bnd (ok_mono (ok_hand TM (by decide) q2 (by omega)) ?_)
          intro y hy
          obtain ⟨y1, y2, y3, -, y5, -, y7, -, -⟩ := id hy
          rw [if_neg (by rw [y1]; decide)]
          rw [show (20 : Int32) = nI 20 from rfl, show (10 : Int32) = nI 10 from rfl, if_pos (nI_lt (by omega) (by decide)), if_pos (nI_lt (by omega) (by decide))]
          rw [show (0 : Int32) = nI 0 from rfl, if_neg (by rw [nI_eq (by omega) (by decide)]; omega)]
          rw [show (1 : Int32) = nI 1 from rfl, if_neg (by rw [nI_eq (by omega) (by decide)]; omega)]
          rw [show (2 : Int32) = nI 2 from rfl, if_neg (by rw [nI_eq (by omega) (by decide)]; omega)]
          rw [show (3 : Int32) = nI 3 from rfl, if_neg (by rw [nI_eq (by omega) (by decide)]; omega)]
          rw [show (4 : Int32) = nI 4 from rfl, if_neg (by rw [nI_eq (by omega) (by decide)]; omega)]
          rw [show (5 : Int32) = nI 5 from rfl, if_neg (by rw [nI_eq (by omega) (by decide)]; omega)]
          rw [show (6 : Int32) = nI 6 from rfl, if_neg (by rw [nI_eq (by omega) (by decide)]; omega)]
          exact ok_some rfl
      · by_cases hk : j - 10 < n
        · obtain ⟨m, m1, m2, m3⟩ := e_X12_bore (fu := fu) hW (by decide) V.2.1 V.1 hk (by omega)
          refine agr_of (nI m) ?_ ?_
          · unfold f_X11_ring
            refine ok_bnd (ok_eq q1 ?_)
            rw [if_neg (by decide), if_pos rfl]
            rw [show (5 : Int32) = nI 5 from rfl, if_neg (nI_nlt (by omega) (by omega))]
            unfold f_X6_tellOfPeople
            rw [show (5 : Int32) = nI 5 from rfl, show (6 : Int32) = nI 6 from rfl, show (10 : Int32) = nI 10 from rfl, show (20 : Int32) = nI 20 from rfl, if_neg (by rw [nI_eq (by omega) (by decide)]; omega), if_neg (by rw [nI_eq (by omega) (by decide)]; omega), if_neg (nI_nlt (by omega) (by omega)), if_neg (nI_ge (by omega) (by decide)), pk_sub (by omega)]
            rw [(e_X6_boreAt hwi V.2.1 V.1 (by omega)).1 m m1 (by rw [m2])]
            exact ok_some rfl
          · unfold f_X12_ring
            refine ok_bnd (ok_mono (ok_hand TM (by decide) q2 (by omega)) ?_)
            intro y hy
            obtain ⟨y1, y2, y3, -, y5, -, y7, -, -⟩ := id hy
            rw [if_neg (by rw [y1]; decide)]
            rw [show (20 : Int32) = nI 20 from rfl, show (10 : Int32) = nI 10 from rfl, if_pos (nI_lt (by omega) (by decide)), if_neg (nI_nlt (by omega) (by omega)), pk_sub (by omega), y3, isP_n V.1 (by omega), bnd_some]
            rw [if_pos hk, if_neg i10, y2]
            exact ok_bnd (ok_eq m3 (ok_some rfl))
        · refine agr_of (-2) ?_ ?_
          · unfold f_X11_ring
            refine ok_bnd (ok_eq q1 ?_)
            rw [if_neg (by decide), if_pos rfl]
            rw [show (5 : Int32) = nI 5 from rfl, if_neg (nI_nlt (by omega) (by omega))]
            unfold f_X6_tellOfPeople
            rw [show (5 : Int32) = nI 5 from rfl, show (6 : Int32) = nI 6 from rfl, show (10 : Int32) = nI 10 from rfl, show (20 : Int32) = nI 20 from rfl, if_neg (by rw [nI_eq (by omega) (by decide)]; omega), if_neg (by rw [nI_eq (by omega) (by decide)]; omega), if_neg (nI_nlt (by omega) (by omega)), if_neg (nI_ge (by omega) (by decide)), pk_sub (by omega)]
            rw [(e_X6_boreAt hwi V.2.1 V.1 (by omega)).2 (fun m hm e => ?_)]
            · exact ok_some rfl
            · have := rnk_n (w := w) hm
              rw [nI_eq (by omega) (by omega)] at e
              omega
          · unfold f_X12_ring
            refine ok_bnd (ok_mono (ok_hand TM (by decide) q2 (by omega)) ?_)
            intro y hy
            obtain ⟨y1, y2, y3, -, y5, -, y7, -, -⟩ := id hy
            rw [if_neg (by rw [y1]; decide)]
            rw [show (20 : Int32) = nI 20 from rfl, show (10 : Int32) = nI 10 from rfl, if_pos (nI_lt (by omega) (by decide)), if_neg (nI_nlt (by omega) (by omega)), pk_sub (by omega), y3, isP_n V.1 (by omega), bnd_some]
            rw [if_neg hk, if_pos i00]
            exact ok_some rfl
      · by_cases hk : j - 20 < n
        · refine agr_of (nI (clo n h (j - 20))) ?_ ?_
          · unfold f_X11_ring
            refine ok_bnd (ok_eq q1 ?_)
            rw [if_neg (by decide), if_pos rfl]
            rw [show (5 : Int32) = nI 5 from rfl, if_neg (nI_nlt (by omega) (by omega))]
            unfold f_X6_tellOfPeople
            rw [show (5 : Int32) = nI 5 from rfl, show (6 : Int32) = nI 6 from rfl, show (10 : Int32) = nI 10 from rfl, show (20 : Int32) = nI 20 from rfl, show (30 : Int32) = nI 30 from rfl, if_neg (by rw [nI_eq (by omega) (by decide)]; omega), if_neg (by rw [nI_eq (by omega) (by decide)]; omega), if_neg (nI_nlt (by omega) (by omega)), if_pos (nI_le (by omega) (by omega)), bnd_some]
            show ok (bnd (if nI j < nI 20 then _ else _) _) _
            rw [if_neg (nI_nlt (by omega) (by omega)), if_neg (nI_ge (by omega) (by decide)), pk_sub (by omega), has_n V.1 (by omega), bnd_some]
            rw [if_pos hk, if_neg i10, e_X6_feudOf hha V.2.2.2.1 V.1 hk (by omega)]
            exact ok_some rfl
          · unfold f_X12_ring
            refine ok_bnd (ok_mono (ok_hand TM (by decide) q2 (by omega)) ?_)
            intro y hy
            obtain ⟨y1, y2, y3, -, y5, -, y7, -, -⟩ := id hy
            rw [if_neg (by rw [y1]; decide)]
            rw [show (20 : Int32) = nI 20 from rfl, if_neg (nI_nlt (by omega) (by omega)), pk_sub (by omega), y3, isP_n V.1 (by omega), bnd_some]
            rw [if_pos hk, if_neg i10, y2]
            exact ok_bnd (ok_eq (e_X12_feudOf hM V.2.2.2.1 (by decide) V.1 hk (by omega)) (ok_some rfl))
        · refine agr_of (-2) ?_ ?_
          · unfold f_X11_ring
            refine ok_bnd (ok_eq q1 ?_)
            rw [if_neg (by decide), if_pos rfl]
            rw [show (5 : Int32) = nI 5 from rfl, if_neg (nI_nlt (by omega) (by omega))]
            unfold f_X6_tellOfPeople
            rw [show (5 : Int32) = nI 5 from rfl, show (6 : Int32) = nI 6 from rfl, show (10 : Int32) = nI 10 from rfl, show (20 : Int32) = nI 20 from rfl, show (30 : Int32) = nI 30 from rfl, if_neg (by rw [nI_eq (by omega) (by decide)]; omega), if_neg (by rw [nI_eq (by omega) (by decide)]; omega), if_neg (nI_nlt (by omega) (by omega)), if_pos (nI_le (by omega) (by omega)), bnd_some]
            show ok (bnd (if nI j < nI 20 then _ else _) _) _
            rw [if_neg (nI_nlt (by omega) (by omega)), if_neg (nI_ge (by omega) (by decide)), pk_sub (by omega), has_n V.1 (by omega), bnd_some]
            rw [if_neg hk, if_pos i00]
            exact ok_some rfl
          · unfold f_X12_ring
            refine ok_bnd (ok_mono (ok_hand TM (by decide) q2 (by omega)) ?_)
            intro y hy
            obtain ⟨y1, y2, y3, -, y5, -, y7, -, -⟩ := id hy
            rw [if_neg (by rw [y1]; decide)]
            rw [show (20 : Int32) = nI 20 from rfl, if_neg (nI_nlt (by omega) (by omega)), pk_sub (by omega), y3, isP_n V.1 (by omega), bnd_some]
            rw [if_neg hk, if_pos i00]
            exact ok_some rfl
    · refine agr_of (-2) ?_ ?_
      · unfold f_X11_ring
        refine ok_bnd (ok_eq q1 ?_)
        rw [if_neg (by decide), if_pos rfl]
        rw [show (5 : Int32) = nI 5 from rfl, if_pos (lt0_k hx (by decide))]
        unfold f_X0_tellOfTown
        rw [show (0 : Int32) = nI 0 from rfl, if_neg (lt0_ne hx (by decide))]
        rw [show (1 : Int32) = nI 1 from rfl, if_neg (lt0_ne hx (by decide))]
        rw [show (2 : Int32) = nI 2 from rfl, if_neg (lt0_ne hx (by decide))]
        rw [show (3 : Int32) = nI 3 from rfl, if_neg (lt0_ne hx (by decide))]
        rw [show (4 : Int32) = nI 4 from rfl, if_neg (lt0_ne hx (by decide))]
        exact ok_some rfl
      · unfold f_X12_ring
        refine ok_bnd (ok_mono (ok_hand TM (by decide) q2 (by omega)) ?_)
        intro y hy
        obtain ⟨y1, y2, y3, -, y5, -, y7, -, -⟩ := id hy
        rw [if_neg (by rw [y1]; decide)]
        rw [show (20 : Int32) = nI 20 from rfl, show (10 : Int32) = nI 10 from rfl, if_pos (lt0_k hx (by decide)), if_pos (lt0_k hx (by decide))]
        rw [show (0 : Int32) = nI 0 from rfl, if_neg (lt0_ne hx (by decide))]
        rw [show (1 : Int32) = nI 1 from rfl, if_neg (lt0_ne hx (by decide))]
        rw [show (2 : Int32) = nI 2 from rfl, if_neg (lt0_ne hx (by decide))]
        rw [show (3 : Int32) = nI 3 from rfl, if_neg (lt0_ne hx (by decide))]
        rw [show (4 : Int32) = nI 4 from rfl, if_neg (lt0_ne hx (by decide))]
        rw [show (5 : Int32) = nI 5 from rfl, if_neg (lt0_ne hx (by decide))]
        rw [show (6 : Int32) = nI 6 from rfl, if_neg (lt0_ne hx (by decide))]
        exact ok_some rfl
    · refine agr_of (-2) ?_ ?_
      · unfold f_X11_ring
        refine ok_bnd (ok_eq q1 ?_)
        rw [if_neg (by decide), if_pos rfl]
        rw [show (5 : Int32) = nI 5 from rfl, if_neg (ge_k hx (by decide) (by decide))]
        unfold f_X6_tellOfPeople
        rw [show (5 : Int32) = nI 5 from rfl, show (6 : Int32) = nI 6 from rfl, show (10 : Int32) = nI 10 from rfl, show (20 : Int32) = nI 20 from rfl, show (30 : Int32) = nI 30 from rfl, if_neg (ge_ne hx (by decide) (by decide)), if_neg (ge_ne hx (by decide) (by decide)), if_neg (ge_k hx (by decide) (by decide)), if_pos (ge_le hx (by decide) (by decide)), bnd_some]
        show ok (bnd (if p2 < nI 20 then _ else _) _) _
        rw [if_neg (ge_k hx (by decide) (by decide)), if_pos (ge_le hx (by decide) (by decide))]
        exact ok_some rfl
      · unfold f_X12_ring
        refine ok_bnd (ok_mono (ok_hand TM (by decide) q2 (by omega)) ?_)
        intro y hy
        obtain ⟨y1, y2, y3, -, y5, -, y7, -, -⟩ := id hy
        rw [if_neg (by rw [y1]; decide)]
        rw [show (20 : Int32) = nI 20 from rfl, if_neg (ge_k hx (by decide) (by decide)), y3, ge_not hx (by decide) V.1 (by decide), bnd_some, if_pos i00]
        exact ok_some rfl
