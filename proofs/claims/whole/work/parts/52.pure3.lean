/-! ===== the reference's small functions ===== -/
theorem i0_add (x : Int32) : x + 0 = x := by simp
theorem i0_or (x : Int32) : x ||| 0 = x := by simp
theorem i1_add (j : Nat) : 1 + nI j = nI (1 + j) := by rw [show (1 : Int32) = nI 1 from rfl, nI_add]
section MDB
variable {fu n a b p t k : Nat} {w pu h o : Nat → Nat} {M db ow : Nat → Int32}
theorem e_X12_of {v : Int32} (hM : M (55 * t + k) = v) (hk : 55 * t + k < 440) : f_X12_of fu M (nI t) (nI k) = some v := by
  simp only [f_X12_of, li_55, pk_mul, nI_add]
  rw [rdi_n hk (by decide) hM]
  rfl
theorem e_X12_owed (ho : ∀ i, i < 36 → db i = nI (o i)) (ha : a < 6) (hb : b < 6) : f_X12_owed fu db (nI a) (nI b) = some (nI (o (6 * a + b))) := by
  simp only [f_X12_owed, li_6, pk_mul, nI_add]
  rw [rdi_n (by omega) (by decide) (ho _ (by omega))]
  rfl
theorem e_X12_owesAll (ho : ∀ i, i < 36 → db i = nI (o i)) (hn : n ≤ 6) (hp : p < 6) (hf : 100 ≤ fu) : f_X12_owesAll fu (nI n) db (nI p) = some (nI (sOwes n o p)) := by
  have h := lp_up0 (step := f_X12_owesAll_L4 fu (nI n) db (nI p)) (fun j x => (nI x, nI j)) (fun j x => x + o (6 * p + j)) n (fun x => nI x) (fun j x hj => by
    simp only [f_X12_owesAll_L4, if_neg (nI_ge hj (by omega : n < 2 ^ 31)), e_X12_owed (fu := fu) ho hp (by omega : j < 6), bnd_some, ltn, nI_add, nI_1]) (fun x => by
    simp only [f_X12_owesAll_L4, if_pos (nI_le (Nat.le_refl n) (by omega : n < 2 ^ 31))]) (fu := fu) (a := 0) (by omega)
  unfold f_X12_owesAll
  exact bnd_r h
theorem e_X12_owedAll (ho : ∀ i, i < 36 → db i = nI (o i)) (hn : n ≤ 6) (hp : p < 6) (hf : 100 ≤ fu) : f_X12_owedAll fu (nI n) db (nI p) = some (nI (sOwed n o p)) := by
  have h := lp_up0 (step := f_X12_owedAll_L4 fu (nI n) db (nI p)) (fun j x => (nI x, nI j)) (fun j x => x + o (6 * j + p)) n (fun x => nI x) (fun j x hj => by
    simp only [f_X12_owedAll_L4, if_neg (nI_ge hj (by omega : n < 2 ^ 31)), e_X12_owed (fu := fu) ho (by omega : j < 6) hp, bnd_some, ltn, nI_add, nI_1]) (fun x => by
    simp only [f_X12_owedAll_L4, if_pos (nI_le (Nat.le_refl n) (by omega : n < 2 ^ 31))]) (fu := fu) (a := 0) (by omega)
  unfold f_X12_owedAll
  exact bnd_r h
theorem e_X12_netOf (ho : ∀ i, i < 36 → db i = nI (o i)) (hn : n ≤ 6) (hp : p < 6) (hf : 100 ≤ fu) : f_X12_netOf fu (nI n) db (nI p) = some (sNet n o p) := by
  simp only [f_X12_netOf, e_X12_owedAll ho hn hp hf, e_X12_owesAll ho hn hp hf, bnd_some, sNet]
theorem e_X12_wealthOf {pr : Nat → Int32} (hpr : ∀ i, i < 6 → pr i = nI (pu i)) (ho : ∀ i, i < 36 → db i = nI (o i)) (hn : n ≤ 6) (hp : p < 6) (hf : 100 ≤ fu) : f_X12_wealthOf fu (nI n) pr db (nI p) = some (nI (pu p) + sNet n o p) := by
  simp only [f_X12_wealthOf, rdi_n (by omega : p < 6) (by decide) (hpr p hp), e_X12_netOf ho hn hp hf, bnd_some]
theorem has_all : ∀ a, a < 64 → ∀ p, p < 6 → ((jshr (nI a) (nI p) &&& 1) = 1 ↔ bi a p = 1) := by decide +kernel
theorem e_X12_has (ha : a < 64) (hp : p < 6) : f_X12_has fu (nI a) (nI p) = some (nI (bi a p)) := by
  simp only [f_X12_has]
  have := bi_lt a p
  by_cases q : bi a p = 1
  · rw [if_pos ((has_all a ha p hp).mpr q), q]; rfl
  · rw [if_neg (fun z => q ((has_all a ha p hp).mp z)), show bi a p = 0 by omega]; rfl
theorem bz_b {x : Nat} (hx : x < 2) : bz (nI x) = some (nI x) := by
  unfold bz
  rcases (show x = 0 ∨ x = 1 by omega) with rfl | rfl <;> rfl
theorem e_X12_hates (hM : ∀ i, i < 6 → M (55 * t + 13 + i) = nI (h i)) (h64 : ∀ i, i < 6 → h i < 64) (ht : t < 8) (ha : a < 6) (hb : b < 6) : f_X12_hates fu M (nI t) (nI a) (nI b) = some (nI (bi (h a) b)) := by
  simp only [f_X12_hates, li_13, nI_add]
  rw [e_X12_of (v := nI (h a)) (by rw [← hM a ha, Nat.add_assoc]) (by omega), bnd_some, e_X12_has (h64 a ha) hb, bnd_some, bz_b (bi_lt _ _)]
  rfl
theorem e_X12_creditors (ho : ∀ i, i < 36 → db i = nI (o i)) (h30 : ∀ i, i < 36 → o i ≤ 99) (hn : n ≤ 6) (hp : p < 6) (hf : 100 ≤ fu) : f_X12_creditors fu (nI n) db (nI p) = some (nI (sCred n o p)) := by
  have h := lp_up0 (step := f_X12_creditors_L4 fu (nI n) db (nI p)) (fun j x => (nI x, nI j)) (fun j x => if o (6 * p + j) = 0 then x else x ||| 2 ^ j) n (fun x => nI x) (fun j x hj => by
    have h9 := h30 (6 * p + j) (by omega)
    simp only [f_X12_creditors_L4, if_neg (nI_ge hj (by omega : n < 2 ^ 31)), e_X12_owed (fu := fu) ho hp (by omega : j < 6), bnd_some, ltn, jshl_1 j (by omega), fa_or, nI_1, nI_le0 (show o (6 * p + j) < 2 ^ 31 by omega), i0_or]
    split <;> rfl) (fun x => by
    simp only [f_X12_creditors_L4, if_pos (nI_le (Nat.le_refl n) (by omega : n < 2 ^ 31))]) (fu := fu) (a := 0) (by omega)
  unfold f_X12_creditors
  exact bnd_r h
def sCnt (n : Nat) (o : Nat → Nat) (p : Nat) : Nat := fldN (fun j x => if o (6 * j + p) = 0 then x else x + 1) 0 n 0
theorem e_X12_debtors (ho : ∀ i, i < 36 → db i = nI (o i)) (h30 : ∀ i, i < 36 → o i ≤ 99) (hn : n ≤ 6) (hp : p < 6) (hf : 100 ≤ fu) : f_X12_debtors fu (nI n) db (nI p) = some (nI (sCnt n o p)) := by
  have h := lp_up0 (step := f_X12_debtors_L4 fu (nI n) db (nI p)) (fun j x => (nI x, nI j)) (fun j x => if o (6 * j + p) = 0 then x else x + 1) n (fun x => nI x) (fun j x hj => by
    have h9 := h30 (6 * j + p) (by omega)
    simp only [f_X12_debtors_L4, if_neg (nI_ge hj (by omega : n < 2 ^ 31)), e_X12_owed (fu := fu) ho (by omega : j < 6) hp, bnd_some, ltn, nI_1, nI_le0 (show o (6 * j + p) < 2 ^ 31 by omega), i0_add]
    split <;> rfl) (fun x => by
    simp only [f_X12_debtors_L4, if_pos (nI_le (Nat.le_refl n) (by omega : n < 2 ^ 31))]) (fu := fu) (a := 0) (by omega)
  unfold f_X12_debtors
  exact bnd_r h
theorem e_X12_witsOf (hM : ∀ i, i < 6 → M (55 * t + 1 + i) = nI (w i)) (ht : t < 8) (hn : n ≤ 6) (ha : a < 64) (hf : 100 ≤ fu) : f_X12_witsOf fu M (nI t) (nI n) (nI a) = some (nI (sWit n w a)) := by
  have h := lp_up0 (step := f_X12_witsOf_L4 fu M (nI t) (nI n) (nI a)) (fun j x => (nI x, nI j)) (fun j x => if bi a j = 0 then x else x + w j) n (fun x => nI x) (fun j x hj => by
    have := bi_lt a j
    have e1 : f_X12_of fu M (nI t) (nI (1 + j)) = some (nI (w j)) := e_X12_of (by rw [← hM j (by omega), Nat.add_assoc]) (by omega)
    simp only [f_X12_witsOf_L4, if_neg (nI_ge hj (by omega : n < 2 ^ 31)), e_X12_has (fu := fu) ha (by omega : j < 6), i1_add, e1, bnd_some, ltn, nI_add, nI_1, nI_eq0 (show bi a j < 2 ^ 31 by omega), i0_add]
    split <;> rfl) (fun x => by
    simp only [f_X12_witsOf_L4, if_pos (nI_le (Nat.le_refl n) (by omega : n < 2 ^ 31))]) (fu := fu) (a := 0) (by omega)
  unfold f_X12_witsOf
  exact bnd_r h
theorem e_X12_hateNone (hM : ∀ i, i < 6 → M (55 * t + 13 + i) = nI (h i)) (h64 : ∀ i, i < 6 → h i < 64) (ht : t < 8) (hn : n ≤ 6) (h6 : a < 64) (hf : 100 ≤ fu) : f_X12_hateNone fu M (nI t) (nI n) (nI a) = some (if sNone n h a = true then 1 else 0) := by
  have hz := lp_all (fu := fu) (step := f_X12_hateNone_L2 fu M (nI t) (nI n) (nI a)) n (fun j => bi a j == 0 || a &&& h j == 0) (fun j hj => by
    have hb := bi_lt a j
    have hl : h j &&& a < 2 ^ 31 := Nat.lt_of_le_of_lt Nat.and_le_right (by omega)
    have e1 : f_X12_of fu M (nI t) (nI (13 + j)) = some (nI (h j)) := e_X12_of (by rw [← hM j (by omega), Nat.add_assoc]) (by omega)
    simp only [f_X12_hateNone_L2, if_neg (nI_ge hj (by omega : n < 2 ^ 31)), e_X12_has (fu := fu) h6 (by omega : j < 6), li_13, nI_add, e1, bnd_some, fa_and, nI_1, nI_eq0 (show bi a j < 2 ^ 31 by omega), nI_eq0 hl, Bool.or_eq_true, beq_iff_eq, Nat.and_comm a (h j)]
    by_cases q : bi a j = 0
    · rw [if_pos q, if_pos (Or.inl q)]
    · by_cases q2 : h j &&& a = 0
      · rw [if_neg q, if_pos q2, if_pos (Or.inr q2)]
      · rw [if_neg q, if_neg q2, if_neg (fun z => z.elim q q2)]) (by
    simp only [f_X12_hateNone_L2, if_pos (nI_le (Nat.le_refl n) (by omega : n < 2 ^ 31))]) (by omega)
  unfold f_X12_hateNone
  rw [bnd_r hz]
  unfold sNone
  by_cases q : ((List.range n).all fun j => bi a j == 0 || a &&& h j == 0) = true
  · rw [if_pos q, if_pos q]; rfl
  · rw [if_neg q, if_neg q]; rfl
/-- a number that a caller gives: one of the people, or none -/
theorem nI_m1 (n : Nat) (h : n < 2 ^ 30) : (nI n - 1).toInt = (n : Int) - 1 := by
  rw [show (1 : Int32) = nI 1 from rfl, pk_sub_toInt h (by decide)]
  rfl
theorem prs (x : Int32) (hn : n ≤ 6) : (∃ p, p < n ∧ x = nI p ∧ f_X9_has fu (nI n) x = some 1 ∧ f_X12_isPerson fu (nI n) x = some 1) ∨ (f_X9_has fu (nI n) x = some 0 ∧ f_X12_isPerson fu (nI n) x = some 0) := by
  have hm := nI_m1 n (by omega)
  have h0 : (0 : Int32).toInt = 0 := rfl
  have hni : (nI n).toInt = (n : Int) := nI_toInt (by omega)
  by_cases h1 : x < 0
  · refine Or.inr ⟨?_, ?_⟩
    · simp only [f_X9_has, if_pos h1]
    · simp only [f_X12_isPerson, f_X12_in, if_pos h1, bnd_some]; rfl
  · obtain ⟨j, hj, rfl⟩ := nI_of h1
    have hji : (nI j).toInt = (j : Int) := nI_toInt hj
    by_cases h2 : j < n
    · refine Or.inl ⟨j, h2, rfl, ?_, ?_⟩
      · simp only [f_X9_has, if_neg h1, if_neg (nI_ge h2 (by omega))]
      · have h3 : ¬ nI n - 1 < nI j := by rw [fa_lt, hm, hji]; omega
        simp only [f_X12_isPerson, f_X12_in, if_neg h1, if_neg h3, bnd_some]; rfl
    · refine Or.inr ⟨?_, ?_⟩
      · simp only [f_X9_has, if_neg h1, if_pos (nI_le (show n ≤ j by omega) hj)]
      · have h3 : nI n - 1 < nI j := by rw [fa_lt, hm, hji]; omega
        simp only [f_X12_isPerson, f_X12_in, if_neg h1, if_pos h3, bnd_some]; rfl
end MDB
