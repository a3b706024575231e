/-! ===== hour: the reference ===== -/
theorem jmax_m1 {c : Nat} (hc : c < 2 ^ 31) : jmax (-1) (nI c) = nI c ∧ jmax (nI c) (-1) = nI c ∧ ((-1 : Int32) ≤ nI c) := by
  have h1 : (-1 : Int32).toInt = -1 := by decide
  refine ⟨?_, ?_, ?_⟩
  · unfold jmax
    rw [if_pos (by rw [fa_lt, h1, nI_toInt hc]; omega)]
  · unfold jmax
    rw [if_neg (by rw [fa_lt, h1, nI_toInt hc]; omega)]
  · rw [fa_le, h1, nI_toInt hc]; omega
section HRM
variable {fu n k p i t : Nat} {w pu o r s h : Nat → Nat} {M R db : FN}
theorem e_sittingBy (hR : ∀ q, q < n → R q = nI (r q)) (hr : ∀ q, q < n → r q < 7) (ho : ∀ i, i < 36 → db i = nI (o i)) (h9 : ∀ i, i < 36 → o i ≤ 99) (hM : ∀ i, i < 6 → M (55 * t + 13 + i) = nI (h i)) (h64 : ∀ i, i < 6 → h i < 64) (ht : t < 8) (hn : n ≤ 6) (hf : 100 ≤ fu) : (VH n h o r ∧ f_X12_sittingBy fu M (nI t) (nI n) db R = some (nI (cS6 n r))) ∨ (¬ VH n h o r ∧ f_X12_sittingBy fu M (nI t) (nI n) db R = some (-1)) := by
  have good : ∀ j x, j < n → vq n o r j → f_X12_sittingBy_L4 fu (nI n) db R (nI x, nI j) = some (.inl (nI (x + if r j < 6 then 1 else 0), nI (j + 1))) := by
    intro j x hj hv
    have r7 := hr j hj
    simp only [f_X12_sittingBy_L4]
    rw [if_neg (nI_ge hj (by omega)), rdi_n (show j < 6 by omega) (by decide) (hR j hj), bnd_some, bnd_some, bnd_some]
    rcases hv with z | ⟨z1, z2⟩
    · rw [if_pos (by rw [z]; decide), if_neg (by omega), Nat.add_zero, nI_1]
    · have o9 := h9 (6 * r j + j) (by omega)
      rw [if_neg (show ¬ (6 : Int32) ≤ nI (r j) by rw [show (6 : Int32) = nI 6 from rfl]; exact nI_ge (by omega) (by decide)), if_neg (nI_ge z1 (by omega)), e_X12_owed ho (by omega) (by omega), bnd_some, if_neg (fun u => z2 ((nI_eq0 (by omega)).1 u)), if_pos (by omega), nI_1, nI_1]
  have bad : ∀ j x, j < n → ¬ vq n o r j → f_X12_sittingBy_L4 fu (nI n) db R (nI x, nI j) = some (.inr (.inl (-1))) := by
    intro j x hj hv
    have r7 := hr j hj
    have n6 : ¬ r j = 6 := fun z => hv (Or.inl z)
    simp only [f_X12_sittingBy_L4]
    rw [if_neg (nI_ge hj (by omega)), rdi_n (show j < 6 by omega) (by decide) (hR j hj), bnd_some, bnd_some, bnd_some, if_neg (show ¬ (6 : Int32) ≤ nI (r j) by rw [show (6 : Int32) = nI 6 from rfl]; exact nI_ge (by omega) (by decide))]
    by_cases z1 : r j < n
    · have o9 := h9 (6 * r j + j) (by omega)
      have z2 : o (6 * r j + j) = 0 := by
        rcases Nat.eq_zero_or_pos (o (6 * r j + j)) with z | z
        · exact z
        · exact absurd (Or.inr ⟨z1, by omega⟩) hv
      rw [if_neg (nI_ge z1 (by omega)), e_X12_owed ho (by omega) (by omega), bnd_some, if_pos ((nI_eq0 (by omega)).2 z2)]
    · rw [if_pos (nI_le (by omega) (by omega))]
  unfold f_X12_sittingBy
  by_cases all : ∀ q, q < n → vq n o r q
  · have key : lp (f_X12_sittingBy_L4 fu (nI n) db R) fu ((0 : Int32), (0 : Int32)) = some (.inr (nI (cS6 n r))) := lp_up0 (step := f_X12_sittingBy_L4 fu (nI n) db R) (fun j (x : Nat) => (nI x, nI j)) (fun j x => x + if r j < 6 then 1 else 0) n (fun x => .inr (nI x)) (fun j x hj => good j x hj (all j hj)) (fun x => by
      simp only [f_X12_sittingBy_L4, if_pos (nI_le (Nat.le_refl n) (by omega : n < 2 ^ 31))]) (fu := fu) (a := 0) (by omega)
    rw [key, bnd_some]
    show (VH n h o r ∧ bnd (f_X12_isCalm fu M (nI t) (nI n) R) _ = _) ∨ (¬ VH n h o r ∧ bnd (f_X12_isCalm fu M (nI t) (nI n) R) _ = _)
    rw [e_isCalm hR (fun q hq => by have := hr q hq; omega) hM h64 ht hn hf, bnd_some]
    by_cases c : clmB n h r = true
    · exact Or.inl ⟨⟨all, clmB_t.1 c⟩, by rw [if_pos c, if_neg i10]⟩
    · exact Or.inr ⟨fun z => c (clmB_t.2 z.2), by rw [if_neg c, if_pos i00]⟩
  · have ex : ∃ q, q < n ∧ ¬ vq n o r q := by
      obtain ⟨q, hq⟩ := Classical.not_forall.1 all
      exact ⟨q, Classical.not_imp.1 hq⟩
    obtain ⟨b, ⟨b1, b2⟩, b3⟩ := pk_least _ ex
    have key : lp (f_X12_sittingBy_L4 fu (nI n) db R) fu ((0 : Int32), (0 : Int32)) = some (.inl (-1)) := lp_up0 (step := f_X12_sittingBy_L4 fu (nI n) db R) (fun j (x : Nat) => (nI x, nI j)) (fun j x => x + if r j < 6 then 1 else 0) b (fun _ => .inl (-1)) (fun j x hj => good j x (by omega) (Classical.not_not.1 (fun z => b3 j hj ⟨by omega, z⟩))) (fun x => bad b x b1 b2) (fu := fu) (a := 0) (by omega)
    rw [key, bnd_some]
    exact Or.inr ⟨fun z => b2 (z.1 b b1), rfl⟩
theorem ok_hourM {y : HT} {row : FN} (hy : Hd t n pu o y) (h9 : ∀ i, i < 36 → o i ≤ 99) (hM : ∀ i, i < 6 → M (55 * t + 13 + i) = nI (h i)) (h64 : ∀ i, i < 6 → h i < 64) (ht : t < 8) (hn : n ≤ 6) (hf : 200000 ≤ fu) : ok (lp (f_X12_hour_L45 fu M y (nI (7 ^ n))) fu ((-1 : Int32), (0 : Int32), (0 : Int32), row)) (fun v => ∃ a, FH n h o a ∧ v.1 = nI (cS6 n (dg 7 n a)) ∧ v.2.1 = nI a) := by
  obtain ⟨y1, y2, y3, -, y5, -, y7, -, -⟩ := hy
  have pb : 7 ^ n ≤ 7 ^ 6 := Nat.pow_le_pow_right (by decide) hn
  have pb2 : 7 ^ 6 = 117649 := by decide
  refine ok_up (7 ^ n) (fun j st => st.2.2.1 = nI j ∧ ((st.1 = -1 ∧ ∀ i, i < j → ¬ VH n h o (dg 7 n i)) ∨ ∃ a, a < j ∧ VH n h o (dg 7 n a) ∧ st.1 = nI (cS6 n (dg 7 n a)) ∧ st.2.1 = nI a ∧ ∀ i, i < j → VH n h o (dg 7 n i) → cS6 n (dg 7 n i) ≤ cS6 n (dg 7 n a) ∧ (i < a → cS6 n (dg 7 n i) < cS6 n (dg 7 n a)))) ?_ ?_ (7 ^ n) fu 0 _ (by omega) (by omega) ⟨rfl, Or.inl ⟨rfl, fun i hi => absurd hi (Nat.not_lt_zero _)⟩⟩
  · rintro j ⟨mo, nu, c, R⟩ hj ⟨rfl, g1⟩
    have c6 := cS6_6 (s := dg 7 n j) hn
    obtain ⟨m1, m2, m3⟩ := jmax_m1 (c := cS6 n (dg 7 n j)) (by omega)
    simp only [f_X12_hour_L45, y2, y3]
    rw [if_neg (nI_ge hj (by omega)), show (7 : Int32) = nI 7 from rfl]
    refine ok_bnd (ok_mono (ok_layRow hn (by decide) (by decide) (show j < 2 ^ 31 by omega) (by omega)) ?_)
    intro R2 hR2
    rcases e_sittingBy (fu := fu) (r := dg 7 n j) hR2 (fun q _ => dg_lt (by decide)) y7 h9 hM h64 ht hn (by omega) with ⟨v1, v2⟩ | ⟨v1, v2⟩
    · rw [v2, bnd_some, e_greater, bnd_some, bnd_some]
      rcases g1 with ⟨e1, g2⟩ | ⟨a, a1, a2, e1, e2, g2⟩
      · have e1 : mo = -1 := e1
        rw [e1, if_neg (nI_nlm1 (by omega)), m1]
        refine ok_some ⟨nI_1 j, Or.inr ⟨j, by omega, v1, rfl, rfl, fun i hi hv => ?_⟩⟩
        by_cases c : i = j
        · rw [c]; exact ⟨Nat.le_refl _, fun z => absurd z (Nat.lt_irrefl _)⟩
        · exact absurd hv (g2 i (by omega))
      · have e1 : mo = nI (cS6 n (dg 7 n a)) := e1
        have ca := cS6_6 (s := dg 7 n a) hn
        rw [e1, jmax_n (by omega) (by omega)]
        by_cases l : cS6 n (dg 7 n j) ≤ cS6 n (dg 7 n a)
        · rw [if_pos (nI_le l (by omega)), Nat.max_eq_left l]
          refine ok_some ⟨nI_1 j, Or.inr ⟨a, by omega, a2, rfl, e2, fun i hi hv => ?_⟩⟩
          by_cases c : i = j
          · rw [c]; exact ⟨l, fun z => by omega⟩
          · exact g2 i (by omega) hv
        · rw [if_neg (nI_ge (by omega) (by omega)), Nat.max_eq_right (by omega)]
          refine ok_some ⟨nI_1 j, Or.inr ⟨j, by omega, v1, rfl, rfl, fun i hi hv => ?_⟩⟩
          by_cases c : i = j
          · rw [c]; exact ⟨Nat.le_refl _, fun z => absurd z (Nat.lt_irrefl _)⟩
          · have := (g2 i (by omega) hv).1
            exact ⟨by omega, fun _ => by omega⟩
    · rw [v2, bnd_some, e_greater, bnd_some, bnd_some]
      rcases g1 with ⟨e1, g2⟩ | ⟨a, a1, a2, e1, e2, g2⟩
      · have e1 : mo = -1 := e1
        rw [e1, if_pos (by decide), show jmax (-1) (-1) = -1 by decide]
        refine ok_some ⟨nI_1 j, Or.inl ⟨rfl, fun i hi => ?_⟩⟩
        by_cases c : i = j
        · rw [c]; exact v1
        · exact g2 i (by omega)
      · have e1 : mo = nI (cS6 n (dg 7 n a)) := e1
        have ca := cS6_6 (s := dg 7 n a) hn
        obtain ⟨k1, k2, k3⟩ := jmax_m1 (c := cS6 n (dg 7 n a)) (by omega)
        rw [e1, if_pos k3, k2]
        refine ok_some ⟨nI_1 j, Or.inr ⟨a, by omega, a2, rfl, e2, fun i hi hv => ?_⟩⟩
        by_cases c : i = j
        · rw [c] at hv; exact absurd hv v1
        · exact g2 i (by omega) hv
  · rintro ⟨mo, nu, c, R⟩ ⟨rfl, g1⟩
    simp only [f_X12_hour_L45]
    rw [if_pos (nI_le (Nat.le_refl _) (by omega))]
    rcases g1 with ⟨e1, g2⟩ | ⟨a, a1, a2, e1, e2, g2⟩
    · exfalso
      obtain ⟨n1, n2⟩ := row_num (n := n) (m := 7) (r := fun _ => 6) (fun _ _ => by decide)
      refine g2 _ n1 (VH_congr (r := fun _ => 6) (fun q hq => (n2 q hq).symm) ⟨fun q hq => Or.inl rfl, fun a ha b hb e l => ?_⟩)
      have l : (6 : Nat) < 6 := l
      exact absurd l (by decide)
    · exact ok_some ⟨a, ⟨a1, a2, fun i hi hv => g2 i hi hv⟩, e1, e2⟩
end HRM
