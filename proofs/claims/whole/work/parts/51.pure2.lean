/-! ===== a town's numbers ===== -/
def bi (a j : Nat) : Nat := a / 2 ^ j % 2
theorem bi_lt (a j : Nat) : bi a j < 2 := Nat.mod_lt _ (by decide)
theorem jbi {a p : Nat} (ha : a < 64) (hp : p < 6) : (jshr (nI a) (nI p) &&& 1) = nI (bi a p) := jbit a ha p hp
theorem nI_eq0 {a : Nat} (h : a < 2 ^ 31) : nI a = 0 ↔ a = 0 := by
  rw [show (0 : Int32) = nI 0 from rfl, nI_eq h (by decide)]
def TwC (n : Nat) (w pu h o : Nat → Nat) (pe : Int32) (wi pr ha ow : Nat → Int32) : Prop := pe = nI n ∧ (∀ i, i < n → wi i = nI (w i)) ∧ (∀ i, i < n → pr i = nI (pu i)) ∧ (∀ i, i < 6 → ha i = nI (h i)) ∧ (∀ i, i < 36 → ow i = nI (o i))
def TwM (n : Nat) (w pu h o : Nat → Nat) (M : Nat → Int32) (b : Nat) : Prop := M b = nI n ∧ (∀ i, i < 6 → M (b + 1 + i) = nI (w i)) ∧ (∀ i, i < 6 → M (b + 7 + i) = nI (pu i)) ∧ (∀ i, i < 6 → M (b + 13 + i) = nI (h i)) ∧ (∀ i, i < 36 → M (b + 19 + i) = nI (o i))
def TwV (n : Nat) (w pu h o : Nat → Nat) : Prop := n ≤ 6 ∧ (∀ i, i < 6 → w i ≤ 9) ∧ (∀ i, i < 6 → pu i ≤ 99) ∧ (∀ i, i < 6 → h i < 2 ^ n) ∧ (∀ i, i < 36 → o i ≤ 30) ∧ (∀ i j, i < 6 → j < 6 → bi (h i) j = bi (h j) i) ∧ (∀ i, i < 6 → bi (h i) i = 0) ∧ (∀ a b, a < 6 → b < 6 → (n ≤ a ∨ n ≤ b ∨ a = b) → o (6 * a + b) = 0)
theorem nI_le0 {a : Nat} (h : a < 2 ^ 31) : nI a ≤ 0 ↔ a = 0 := by
  rw [show (0 : Int32) = nI 0 from rfl, nI_leI h (by decide)]
  omega
theorem TwV.h64 {n : Nat} {w pu h o : Nat → Nat} (V : TwV n w pu h o) {i : Nat} (hi : i < 6) : h i < 64 := Nat.lt_of_lt_of_le (V.2.2.2.1 i hi) (Nat.pow_le_pow_right (n := 2) (by decide) V.1)
theorem lp_all {fu : Nat} {step : Int32 → Option (Int32 ⊕ (Int32 ⊕ Unit))} (N : Nat) (g : Nat → Bool) (hs : ∀ j, j < N → step (nI j) = if g j = true then some (.inl (nI (j + 1))) else some (.inr (.inl 0))) (he : step (nI N) = some (.inr (.inr ()))) (hf : N < fu) : lp step fu 0 = some (if (List.range N).all g = true then .inr () else .inl 0) := by
  have key : ∀ (k fu j : Nat), j + k = N → k < fu → lp step fu (nI j) = some (if (List.range' j k).all g = true then .inr () else .inl 0) := by
    intro k
    induction k with
    | zero =>
      intro fu j hj hf
      have hj : j = N := by omega
      subst hj
      obtain ⟨f, rfl⟩ : ∃ f, fu = f + 1 := ⟨fu - 1, by omega⟩
      show bnd (step _) _ = _
      rw [he]
      rfl
    | succ k ih =>
      intro fu j hj hf
      obtain ⟨f, rfl⟩ : ∃ f, fu = f + 1 := ⟨fu - 1, by omega⟩
      show bnd (step _) _ = _
      rw [hs j (by omega)]
      by_cases hg : g j = true
      · rw [if_pos hg]
        show lp step f (nI (j + 1)) = _
        rw [ih f (j + 1) (by omega) (by omega), List.range'_succ, List.all_cons, hg, Bool.true_and]
      · rw [if_neg hg, List.range'_succ, List.all_cons]
        simp only [Bool.not_eq_true] at hg
        rw [hg]
        rfl
  have := key N fu 0 (by omega) hf
  rw [List.range_eq_range']
  exact this
section TWN
variable {fu n a b p : Nat} {w pu h o : Nat → Nat} {wi pr ha ow : Nat → Int32}
def sOwes (n : Nat) (o : Nat → Nat) (p : Nat) : Nat := fldN (fun j x => x + o (6 * p + j)) 0 n 0
def sOwed (n : Nat) (o : Nat → Nat) (p : Nat) : Nat := fldN (fun j x => x + o (6 * j + p)) 0 n 0
def sNet (n : Nat) (o : Nat → Nat) (p : Nat) : Int32 := nI (sOwed n o p) - nI (sOwes n o p)
def sCred (n : Nat) (o : Nat → Nat) (p : Nat) : Nat := fldN (fun j x => if o (6 * p + j) = 0 then x else x ||| 2 ^ j) 0 n 0
def sDebt (n : Nat) (o : Nat → Nat) (p : Nat) : Nat := fldN (fun j x => if o (6 * j + p) = 0 then x else x ||| 2 ^ j) 0 n 0
def sWit (n : Nat) (w : Nat → Nat) (set : Nat) : Nat := fldN (fun j x => if bi set j = 0 then x else x + w j) 0 n 0
def sNone (n : Nat) (h : Nat → Nat) (set : Nat) : Bool := (List.range n).all (fun j => bi set j == 0 || set &&& h j == 0)
theorem e_X9_has (hn : n ≤ 6) (hp : p < 6) : f_X9_has fu (nI n) (nI p) = some (if p < n then 1 else 0) := by
  simp only [f_X9_has]
  rw [if_neg (nI_pos (by omega))]
  by_cases hq : p < n
  · rw [if_neg (nI_ge hq (by omega)), if_pos hq]
  · rw [if_pos (nI_le (by omega) (by omega)), if_neg hq]
theorem e_X9_owes (ho : ∀ i, i < 36 → ow i = nI (o i)) (ha : a < 6) (hb : b < 6) : f_X9_owes fu ow (nI a) (nI b) = some (nI (o (6 * a + b))) := by
  simp only [f_X9_owes, li_6, pk_mul, nI_add]
  rw [rdi_n (by omega) (by decide) (ho _ (by omega))]
  rfl
theorem e_X9_owesInAll (ho : ∀ i, i < 36 → ow i = nI (o i)) (hn : n ≤ 6) (hp : p < 6) (hf : 100 ≤ fu) : f_X9_owesInAll fu (nI n) ow (nI p) = some (nI (sOwes n o p)) := by
  have h := lp_up0 (step := f_X9_owesInAll_L4 fu (nI n) ow (nI p)) (fun j x => (nI x, nI j)) (fun j x => x + o (6 * p + j)) n (fun x => nI x) (fun j x hj => by
    simp only [f_X9_owesInAll_L4, if_neg (nI_ge hj (by omega : n < 2 ^ 31)), e_X9_owes (fu := fu) ho hp (by omega : j < 6), bnd_some, ltn, nI_add, nI_1]) (fun x => by
    simp only [f_X9_owesInAll_L4, if_pos (nI_le (Nat.le_refl n) (by omega : n < 2 ^ 31))]) (fu := fu) (a := 0) (by omega)
  unfold f_X9_owesInAll
  exact bnd_r h
theorem e_X9_isOwedInAll (ho : ∀ i, i < 36 → ow i = nI (o i)) (hn : n ≤ 6) (hp : p < 6) (hf : 100 ≤ fu) : f_X9_isOwedInAll fu (nI n) ow (nI p) = some (nI (sOwed n o p)) := by
  have h := lp_up0 (step := f_X9_isOwedInAll_L4 fu (nI n) ow (nI p)) (fun j x => (nI x, nI j)) (fun j x => x + o (6 * j + p)) n (fun x => nI x) (fun j x hj => by
    simp only [f_X9_isOwedInAll_L4, if_neg (nI_ge hj (by omega : n < 2 ^ 31)), e_X9_owes (fu := fu) ho (by omega : j < 6) hp, bnd_some, ltn, nI_add, nI_1]) (fun x => by
    simp only [f_X9_isOwedInAll_L4, if_pos (nI_le (Nat.le_refl n) (by omega : n < 2 ^ 31))]) (fu := fu) (a := 0) (by omega)
  unfold f_X9_isOwedInAll
  exact bnd_r h
theorem e_X9_netOf (ho : ∀ i, i < 36 → ow i = nI (o i)) (hn : n ≤ 6) (hp : p < 6) (hf : 100 ≤ fu) : f_X9_netOf fu (nI n) ow (nI p) = some (sNet n o p) := by
  simp only [f_X9_netOf, e_X9_isOwedInAll ho hn hp hf, e_X9_owesInAll ho hn hp hf, bnd_some, sNet]
theorem e_X9_wealthOf (hpr : ∀ i, i < n → pr i = nI (pu i)) (ho : ∀ i, i < 36 → ow i = nI (o i)) (hn : n ≤ 6) (hp : p < n) (hf : 100 ≤ fu) : f_X9_wealthOf fu (nI n) pr ow (nI p) = some (nI (pu p) + sNet n o p) := by
  simp only [f_X9_wealthOf, rdi_n (by omega : p < 6) (by decide) (hpr p hp), e_X9_netOf ho hn (by omega : p < 6) hf, bnd_some]
theorem e_X9_creditorsOf (ho : ∀ i, i < 36 → ow i = nI (o i)) (h30 : ∀ i, i < 36 → o i ≤ 99) (hn : n ≤ 6) (hp : p < 6) (hf : 100 ≤ fu) : f_X9_creditorsOf fu (nI n) ow (nI p) = some (nI (sCred n o p)) := by
  have h := lp_up0 (step := f_X9_creditorsOf_L4 fu (nI n) ow (nI p)) (fun j x => (nI x, nI j)) (fun j x => if o (6 * p + j) = 0 then x else x ||| 2 ^ j) n (fun x => nI x) (fun j x hj => by
    have h9 := h30 (6 * p + j) (by omega)
    simp only [f_X9_creditorsOf_L4, if_neg (nI_ge hj (by omega : n < 2 ^ 31)), e_X9_owes (fu := fu) ho hp (by omega : j < 6), bnd_some, ltn, jshl_1 j (by omega), fa_or, nI_1, nI_le0 (show o (6 * p + j) < 2 ^ 31 by omega)]
    split <;> rfl) (fun x => by
    simp only [f_X9_creditorsOf_L4, if_pos (nI_le (Nat.le_refl n) (by omega : n < 2 ^ 31))]) (fu := fu) (a := 0) (by omega)
  unfold f_X9_creditorsOf
  exact bnd_r h
theorem e_X9_debtorsOf (ho : ∀ i, i < 36 → ow i = nI (o i)) (h30 : ∀ i, i < 36 → o i ≤ 99) (hn : n ≤ 6) (hp : p < 6) (hf : 100 ≤ fu) : f_X9_debtorsOf fu (nI n) ow (nI p) = some (nI (sDebt n o p)) := by
  have h := lp_up0 (step := f_X9_debtorsOf_L4 fu (nI n) ow (nI p)) (fun j x => (nI x, nI j)) (fun j x => if o (6 * j + p) = 0 then x else x ||| 2 ^ j) n (fun x => nI x) (fun j x hj => by
    have h9 := h30 (6 * j + p) (by omega)
    simp only [f_X9_debtorsOf_L4, if_neg (nI_ge hj (by omega : n < 2 ^ 31)), e_X9_owes (fu := fu) ho (by omega : j < 6) hp, bnd_some, ltn, jshl_1 j (by omega), fa_or, nI_1, nI_le0 (show o (6 * j + p) < 2 ^ 31 by omega)]
    split <;> rfl) (fun x => by
    simp only [f_X9_debtorsOf_L4, if_pos (nI_le (Nat.le_refl n) (by omega : n < 2 ^ 31))]) (fu := fu) (a := 0) (by omega)
  unfold f_X9_debtorsOf
  exact bnd_r h
theorem e_X9_witOf (hwi : ∀ i, i < n → wi i = nI (w i)) (hn : n ≤ 6) (ha : a < 64) (hf : 100 ≤ fu) : f_X9_witOf fu (nI n) wi (nI a) = some (nI (sWit n w a)) := by
  have h := lp_up0 (step := f_X9_witOf_L4 (nI n) wi (nI a)) (fun j x => (nI x, nI j)) (fun j x => if bi a j = 0 then x else x + w j) n (fun x => nI x) (fun j x hj => by
    simp only [f_X9_witOf_L4, if_neg (nI_ge hj (by omega : n < 2 ^ 31)), jbi ha (by omega : j < 6), rdi_n (by omega : j < 6) (by decide) (hwi j hj), bnd_some, ltn, nI_add, nI_1]
    have := bi_lt a j
    by_cases q : bi a j = 0
    · rw [if_pos ((nI_eq0 (by omega)).mpr q), if_pos q]
    · rw [if_neg (fun z => q ((nI_eq0 (by omega)).mp z)), if_neg q]) (fun x => by
    simp only [f_X9_witOf_L4, if_pos (nI_le (Nat.le_refl n) (by omega : n < 2 ^ 31))]) (fu := fu) (a := 0) (by omega)
  unfold f_X9_witOf
  exact bnd_r h
theorem e_X9_noneHate (hha : ∀ i, i < 6 → ha i = nI (h i)) (h64 : ∀ i, i < 6 → h i < 64) (hn : n ≤ 6) (h6 : a < 64) (hf : 100 ≤ fu) : f_X9_noneHate fu (nI n) ha (nI a) = some (if sNone n h a = true then 1 else 0) := by
  have hz := lp_all (fu := fu) (step := f_X9_noneHate_L2 (nI n) ha (nI a)) n (fun j => bi a j == 0 || a &&& h j == 0) (fun j hj => by
    have hb := bi_lt a j
    have hl : a &&& h j < 2 ^ 31 := Nat.lt_of_le_of_lt Nat.and_le_left (by omega)
    simp only [f_X9_noneHate_L2, if_neg (nI_ge hj (by omega : n < 2 ^ 31)), jbi h6 (by omega : j < 6), rdi_n (by omega : j < 6) (by decide) (hha j (by omega)), bnd_some, fa_and, nI_1, nI_eq0 (show bi a j < 2 ^ 31 by omega), nI_eq0 hl, Bool.or_eq_true, beq_iff_eq]
    by_cases q : bi a j = 0
    · rw [if_pos q, if_pos (Or.inl q)]
    · by_cases q2 : a &&& h j = 0
      · rw [if_neg q, if_pos q2, if_pos (Or.inr q2)]
      · rw [if_neg q, if_neg q2, if_neg (fun z => z.elim q q2)]) (by
    simp only [f_X9_noneHate_L2, if_pos (nI_le (Nat.le_refl n) (by omega : n < 2 ^ 31))]) (by omega)
  unfold f_X9_noneHate
  rw [bnd_r hz]
  unfold sNone
  by_cases q : ((List.range n).all fun j => bi a j == 0 || a &&& h j == 0) = true
  · rw [if_pos q, if_pos q]; rfl
  · rw [if_neg q, if_neg q]; rfl
end TWN
