/-! ===== what is told of a state ===== -/
theorem neg_div {p : Int32} (h : p < 0) : (p / 10).toInt ≤ 0 := by
  rw [fa_lt] at h
  have h0 : (0 : Int32).toInt = 0 := rfl
  have hr := Int32.le_toInt p
  rw [h0] at h
  have e : (p / 10).toInt = (p.toInt.tdiv 10).bmod (2 ^ 32) := Int32.toInt_div p 10
  obtain ⟨m, hm⟩ : ∃ m : Nat, p.toInt = -(m : Int) := ⟨(-p.toInt).toNat, by omega⟩
  have e2 : p.toInt.tdiv 10 = -((m / 10 : Nat) : Int) := by
    rw [hm, Int.neg_tdiv]
    rfl
  rw [e, e2, Int.bmod_eq_of_le (by omega) (by omega)]
  omega
theorem neg_div_ne {p : Int32} (h : p < 0) {k : Nat} (h0 : 0 < k) (hk : k < 2 ^ 31) : ¬ p / 10 = nI k := by
  have := neg_div h
  rw [fa_eq, nI_toInt hk]
  omega
section L6
variable {fu n B : Nat} {x : CT} {y : MT}
theorem SR_o (S : SR n B x y) : ∃ o : Nat → Nat, (∀ i, i < 36 → o i ≤ 99) ∧ (∀ i, i < 36 → x.2.1 i = nI (o i)) ∧ (∀ i, i < 36 → y.2.2.2.2.2.2.2.2.2.1 i = nI (o i)) ∧ ∀ a b, a < 6 → b < 6 → n ≤ a ∨ n ≤ b → o (6 * a + b) = 0 := by
  obtain ⟨s1, s2, s3, s4⟩ := S
  have hx : ∀ i, i < 36 → (x.2.1 i).toNatClampNeg ≤ 99 ∧ x.2.1 i = nI (x.2.1 i).toNatClampNeg ∧ y.2.2.2.2.2.2.2.2.2.1 i = nI (x.2.1 i).toNatClampNeg := by
    intro i hi
    obtain ⟨v, v1, v2, v3⟩ := s2 i hi
    rw [v2, nI_clamp (by omega), v3]
    exact ⟨v1, rfl, rfl⟩
  refine ⟨fun i => (x.2.1 i).toNatClampNeg, fun i hi => (hx i hi).1, fun i hi => (hx i hi).2.1, fun i hi => (hx i hi).2.2, fun a b ha hb hab => ?_⟩
  show (x.2.1 (6 * a + b)).toNatClampNeg = 0
  rw [s3 a b ha hb hab]
  rfl
theorem SR_s (S : SR n B x y) : ∃ v : Nat → Nat, (∀ i, i < 6 → v i ≤ 6) ∧ (∀ i, i < 6 → x.2.2.1 i = nI (v i)) ∧ (∀ i, i < 6 → y.2.2.2.2.2.2.2.2.1 i = nI (v i)) := by
  obtain ⟨s1, s2, s3, s4, s5⟩ := S
  have hx : ∀ i, i < 6 → (x.2.2.1 i).toNatClampNeg ≤ 6 ∧ x.2.2.1 i = nI (x.2.2.1 i).toNatClampNeg ∧ y.2.2.2.2.2.2.2.2.1 i = nI (x.2.2.1 i).toNatClampNeg := by
    intro i hi
    obtain ⟨v, v1, v2, v3⟩ := s4 i hi
    rw [v2, nI_clamp (by omega), v3]
    exact ⟨v1, rfl, rfl⟩
  exact ⟨fun i => (x.2.2.1 i).toNatClampNeg, fun i hi => (hx i hi).1, fun i hi => (hx i hi).2.1, fun i hi => (hx i hi).2.2⟩
end L6
section L7
variable {fu n : Nat} {o v : Nat → Nat} {ow de se be : FN}
theorem e_X1_owedInAll (ho : ∀ i, i < 36 → ow i = nI (o i)) (hf : 100 ≤ fu) : f_X1_owedInAll fu ow = some (nI (fldN (fun j x => x + o j) 0 36 0)) := by
  have h := lp_up0 (step := f_X1_owedInAll_L4 ow) (fun j x => (nI x, nI j)) (fun j x => x + o j) 36 (fun x => nI x) (fun j x hj => by
    have hc : ¬ (36 : Int32) ≤ nI j := nI_ge (a := j) (b := 36) hj (by decide)
    simp only [f_X1_owedInAll_L4, if_neg hc, rdi_n hj (by decide) (ho j hj), bnd_some, ltn, nI_add, nI_1]) (fun x => by
    have hc : (36 : Int32) ≤ nI 36 := by decide
    simp only [f_X1_owedInAll_L4, if_pos hc]) (fu := fu) (a := 0) (by omega)
  unfold f_X1_owedInAll
  exact bnd_r h
theorem e_X12_allOwed (ho : ∀ i, i < 36 → de i = nI (o i)) (hn : n ≤ 6) (hf : 100 ≤ fu) : f_X12_allOwed fu (nI n) de = some (nI (fldN (fun p x => x + sOwes n o p) 0 n 0)) := by
  have h := lp_up0 (step := f_X12_allOwed_L4 fu (nI n) de) (fun j x => (nI x, nI j)) (fun j x => x + sOwes n o j) n (fun x => nI x) (fun j x hj => by
    simp only [f_X12_allOwed_L4, if_neg (nI_ge hj (by omega : n < 2 ^ 31)), e_X12_owesAll (fu := fu) ho hn (by omega : j < 6) hf, bnd_some, ltn, nI_add, nI_1]) (fun x => by
    simp only [f_X12_allOwed_L4, if_pos (nI_le (Nat.le_refl n) (by omega : n < 2 ^ 31))]) (fu := fu) (a := 0) (by omega)
  unfold f_X12_allOwed
  exact bnd_r h
theorem sum_app {f : Nat → Nat} : ∀ k j x, fldN (fun j x => x + f j) j k x = x + fldN (fun j x => x + f j) j k 0 := by
  intro k
  induction k with
  | zero => intro j x; rfl
  | succ k ih =>
    intro j x
    show fldN _ (j + 1) k (x + f j) = x + fldN _ (j + 1) k (0 + f j)
    rw [ih (j + 1) (x + f j), ih (j + 1) (0 + f j)]
    omega
theorem sum_split {f : Nat → Nat} : ∀ a k j, fldN (fun j x => x + f j) j (a + k) 0 = fldN (fun j x => x + f j) j a 0 + fldN (fun j x => x + f j) (j + a) k 0 := by
  intro a
  induction a with
  | zero => intro k j; rw [Nat.zero_add]; show _ = 0 + _; rw [Nat.zero_add]; rfl
  | succ a ih =>
    intro k j
    rw [show a + 1 + k = (a + k) + 1 by omega]
    show fldN _ (j + 1) (a + k) (0 + f j) = fldN _ (j + 1) a (0 + f j) + _
    rw [sum_app (a + k) (j + 1) (0 + f j), sum_app a (j + 1) (0 + f j), ih k (j + 1), show j + 1 + a = j + (a + 1) by omega]
    omega
theorem sum_shift {f : Nat → Nat} (d : Nat) : ∀ k j, fldN (fun j x => x + f (d + j)) j k 0 = fldN (fun j x => x + f j) (d + j) k 0 := by
  intro k
  induction k with
  | zero => intro j; rfl
  | succ k ih =>
    intro j
    show fldN _ (j + 1) k (0 + f (d + j)) = fldN _ (d + j + 1) k (0 + f (d + j))
    rw [sum_app k (j + 1) (f := fun j => f (d + j)), sum_app k (d + j + 1), ih (j + 1)]
    rfl
theorem sum_zero {f : Nat → Nat} : ∀ k j, (∀ i, j ≤ i → i < j + k → f i = 0) → fldN (fun j x => x + f j) j k 0 = 0 := by
  intro k
  induction k with
  | zero => intro j _; rfl
  | succ k ih =>
    intro j h
    show fldN _ (j + 1) k (0 + f j) = 0
    rw [h j (Nat.le_refl _) (by omega)]
    exact ih (j + 1) (fun i h1 h2 => h i (by omega) (by omega))
/-- row by row -/
theorem sum_36 (hn : n ≤ 6) (hz : ∀ a b, a < 6 → b < 6 → n ≤ a ∨ n ≤ b → o (6 * a + b) = 0) : fldN (fun j x => x + o j) 0 36 0 = fldN (fun p x => x + sOwes n o p) 0 n 0 := by
  have row : ∀ p, p < 6 → fldN (fun j x => x + o j) (6 * p) 6 0 = sOwes n o p := by
    intro p hp
    have h1 := sum_shift (f := o) (6 * p) 6 0
    rw [Nat.add_zero] at h1
    rw [← h1, show (6 : Nat) = n + (6 - n) by omega, sum_split (f := fun j => o ((n + (6 - n)) * p + j)) n (6 - n) 0]
    rw [sum_zero (f := fun j => o ((n + (6 - n)) * p + j)) (6 - n) (0 + n) (fun i h2 h3 => by
      show o ((n + (6 - n)) * p + i) = 0
      rw [show n + (6 - n) = 6 by omega]
      exact hz p i hp (by omega) (Or.inr (by omega)))]
    rw [show n + (6 - n) = 6 by omega]
    rfl
  have rows : ∀ p, p ≤ 6 → fldN (fun j x => x + o j) 0 (6 * p) 0 = fldN (fun p x => x + sOwes n o p) 0 p 0 := by
    intro p
    induction p with
    | zero => intro _; rfl
    | succ p ih =>
      intro hp
      rw [show 6 * (p + 1) = 6 * p + 6 by omega, sum_split (f := o) (6 * p) 6 0, ih (by omega), Nat.zero_add, row p (by omega), fldN_succ, Nat.zero_add]
  have h6 := rows 6 (by omega)
  rw [show 6 * 6 = 36 from rfl] at h6
  rw [h6, show (6 : Nat) = n + (6 - n) by omega, sum_split (f := fun p => sOwes n o p) n (6 - n) 0, sum_zero (f := fun p => sOwes n o p) (6 - n) (0 + n) (fun i h2 h3 => ?_), Nat.add_zero]
  unfold sOwes
  exact sum_zero n 0 (fun j _ hj => hz i j (by omega) (by omega) (Or.inl (by omega)))
theorem e_X1_sitting (hv : ∀ i, i < 6 → v i ≤ 6) (hs : ∀ i, i < 6 → se i = nI (v i)) (hn : n ≤ 6) (hf : 100 ≤ fu) : f_X1_sitting fu (nI n) se = some (nI (fldN (fun j x => if v j = 6 then x else x ||| 2 ^ j) 0 n 0)) := by
  have h := lp_up0 (step := f_X1_sitting_L4 (nI n) se) (fun j x => (nI x, nI j)) (fun j x => if v j = 6 then x else x ||| 2 ^ j) n (fun x => nI x) (fun j x hj => by
    have h6 := hv j (by omega)
    simp only [f_X1_sitting_L4, if_neg (nI_ge hj (by omega : n < 2 ^ 31)), rdi_n (show j < 6 by omega) (by decide) (hs j (by omega)), bnd_some, ltn, nI_1, jshl_1 j (by omega), fa_or, show (6 : Int32) = nI 6 from rfl, nI_eq (show v j < 2 ^ 31 by omega) (show 6 < 2 ^ 31 by decide)]
    split <;> rfl) (fun x => by
    simp only [f_X1_sitting_L4, if_pos (nI_le (Nat.le_refl n) (by omega : n < 2 ^ 31))]) (fu := fu) (a := 0) (by omega)
  unfold f_X1_sitting
  exact bnd_r h
theorem e_X12_sitters (hv : ∀ i, i < 6 → v i ≤ 6) (hs : ∀ i, i < 6 → be i = nI (v i)) (hn : n ≤ 6) (hf : 100 ≤ fu) : f_X12_sitters fu (nI n) be = some (nI (fldN (fun j x => if v j = 6 then x else x ||| 2 ^ j) 0 n 0)) := by
  have h := lp_up0 (step := f_X12_sitters_L4 (nI n) be) (fun j x => (nI x, nI j)) (fun j x => if v j = 6 then x else x ||| 2 ^ j) n (fun x => nI x) (fun j x hj => by
    have h6 := hv j (by omega)
    simp only [f_X12_sitters_L4, if_neg (nI_ge hj (by omega : n < 2 ^ 31)), rdi_n (show j < 6 by omega) (by decide) (hs j (by omega)), bnd_some, ltn, nI_1, jshl_1 j (by omega), fa_or, show (6 : Int32) = nI 6 from rfl, nI_leI (show 6 < 2 ^ 31 by decide) (show v j < 2 ^ 31 by omega), i0_or]
    by_cases q : v j = 6
    · rw [if_pos (by omega), if_pos q]
    · rw [if_neg (by omega), if_neg q]) (fun x => by
    simp only [f_X12_sitters_L4, if_pos (nI_le (Nat.le_refl n) (by omega : n < 2 ^ 31))]) (fu := fu) (a := 0) (by omega)
  unfold f_X12_sitters
  exact bnd_r h
def gMo (f : FN) (j : Nat) (x : Int32 × Int32) : Int32 × Int32 := if f j ≤ x.2 then x else (nI j, f j)
theorem e_X1_mostOften {f : FN} (hn : n ≤ 6) (hf : 100 ≤ fu) : f_X1_mostOften fu 6 (nI n) f = some (fldN (gMo f) 0 n (-1, 0)).1 := by
  have h := lp_up0 (step := f_X1_mostOften_L7 (nI n) f 6) (fun j (x : Int32 × Int32) => (x.1, x.2, nI j)) (gMo f) n (fun x => x.1) (fun j x hj => by
    simp only [f_X1_mostOften_L7, if_neg (nI_ge hj (by omega : n < 2 ^ 31)), if_neg (nI_ge (show j < 6 by omega) (by decide : 6 < 2 ^ 31)), rdi_n (show j < 6 by omega) (by decide) (rfl : f j = f j), bnd_some, nI_1]
    unfold gMo
    split <;> rfl) (fun x => by
    simp only [f_X1_mostOften_L7, if_pos (nI_le (Nat.le_refl n) (by omega : n < 2 ^ 31))]) (fu := fu) (a := (-1, 0)) (by omega)
  unfold f_X1_mostOften
  exact bnd_r h
theorem e_X12_mostOf {f g s2 : FN} {u : Int32} (hg : ∀ i, i < 6 → f i = (if u = 0 then g i else s2 i)) (hn : n ≤ 6) (hf : 100 ≤ fu) : f_X12_mostOf fu (nI n) g s2 u = some (fldN (gMo f) 0 n (-1, 0)).1 := by
  have h := lp_up0 (step := f_X12_mostOf_L7 fu (nI n) g s2 u) (fun j (x : Int32 × Int32) => (x.1, x.2, nI j)) (gMo f) n (fun x => x.1) (fun j x hj => by
    have e : (if u = 0 then some (g j) else some (s2 j)) = some (f j) := by rw [hg j (by omega)]; split <;> rfl
    simp only [f_X12_mostOf_L7, if_neg (nI_ge hj (by omega : n < 2 ^ 31)), rdi_n (show j < 6 by omega) (by decide) (rfl : g j = g j), rdi_n (show j < 6 by omega) (by decide) (rfl : s2 j = s2 j), bnd_some, nI_1, e, e_greater]
    unfold gMo jmax
    by_cases q : f j ≤ x.2
    · rw [if_pos q, if_pos q, if_neg (fun z => (nle _ _).2 z q)]
    · rw [if_neg q, if_neg q, if_pos ((nle _ _).1 q)]) (fun x => by
    simp only [f_X12_mostOf_L7, if_pos (nI_le (Nat.le_refl n) (by omega : n < 2 ^ 31))]) (fu := fu) (a := (-1, 0)) (by omega)
  unfold f_X12_mostOf
  exact bnd_r h
def gFr (n : Nat) (o : Nat → Nat) (j x : Nat) : Nat := if sOwes n o j = 0 then x ||| 2 ^ j else x
theorem e_X1_free (ho : ∀ i, i < 36 → ow i = nI (o i)) (h9 : ∀ i, i < 36 → o i ≤ 99) (hn : n ≤ 6) (hf : 100 ≤ fu) : f_X1_free fu (nI n) ow = some (nI (fldN (gFr n o) 0 n 0)) := by
  have h := lp_up0 (step := f_X1_free_L4 fu (nI n) ow) (fun j x => (nI x, nI j)) (gFr n o) n (fun x => nI x) (fun j x hj => by
    have l1 := sOwes_le (p := j) hn (by omega) h9
    have h2 := lp_up0 (step := f_X1_free_L17 (nI n) ow (nI x, nI j)) (fun i x => (nI x, nI i)) (fun i x => x + o (6 * j + i)) n (fun x => nI x) (fun i z hi => by
      simp only [f_X1_free_L17, if_neg (nI_ge hi (by omega : n < 2 ^ 31)), show (6 : Int32) = nI 6 from rfl, pk_mul, nI_add, rdi_n (show 6 * j + i < 36 by omega) (by decide) (ho _ (by omega)), bnd_some, ltn, nI_1]) (fun z => by
      simp only [f_X1_free_L17, if_pos (nI_le (Nat.le_refl n) (by omega : n < 2 ^ 31))]) (fu := fu) (a := 0) (by omega)
    have h2' : lp (f_X1_free_L17 (nI n) ow (nI x, nI j)) fu ((0 : Int32), (0 : Int32)) = some (nI (sOwes n o j)) := h2
    simp only [f_X1_free_L4, if_neg (nI_ge hj (by omega : n < 2 ^ 31)), h2', bnd_some, ltn, nI_1, jshl_1 j (by omega), fa_or, nI_eq0 (show sOwes n o j < 2 ^ 31 by omega)]
    unfold gFr
    split <;> rfl) (fun x => by
    simp only [f_X1_free_L4, if_pos (nI_le (Nat.le_refl n) (by omega : n < 2 ^ 31))]) (fu := fu) (a := 0) (by omega)
  unfold f_X1_free
  exact bnd_r h
theorem e_X12_freeOnes (ho : ∀ i, i < 36 → de i = nI (o i)) (h9 : ∀ i, i < 36 → o i ≤ 99) (hn : n ≤ 6) (hf : 100 ≤ fu) : f_X12_freeOnes fu (nI n) de = some (nI (fldN (gFr n o) 0 n 0)) := by
  have h := lp_up0 (step := f_X12_freeOnes_L4 fu (nI n) de) (fun j x => (nI x, nI j)) (gFr n o) n (fun x => nI x) (fun j x hj => by
    have l1 := sOwes_le (p := j) hn (by omega) h9
    simp only [f_X12_freeOnes_L4, if_neg (nI_ge hj (by omega : n < 2 ^ 31)), e_X12_owesAll (fu := fu) ho hn (by omega : j < 6) hf, bnd_some, ltn, nI_1, jshl_1 j (by omega), fa_or, nI_eq0 (show sOwes n o j < 2 ^ 31 by omega), i0_or]
    unfold gFr
    split <;> rfl) (fun x => by
    simp only [f_X12_freeOnes_L4, if_pos (nI_le (Nat.le_refl n) (by omega : n < 2 ^ 31))]) (fu := fu) (a := 0) (by omega)
  unfold f_X12_freeOnes
  exact bnd_r h
end L7
section L8
variable {fu n B : Nat} {x : CT} {y : MT}
theorem has1_n {a : Nat} (hn : n ≤ 6) (ha : a < 2 ^ 31) : f_X1_has fu (nI n) (nI a) = some (if a < n then 1 else 0) := has_n (fu := fu) hn ha
theorem tell_eq (S : SR n B x y) (hn : n ≤ 6) (hf : 100 ≤ fu) (p : Int32) : ∃ v, f_X1_tell fu (nI n) x.1 x.2.1 x.2.2.1 x.2.2.2.2.2.1 x.2.2.2.2.2.2.1 x.2.2.2.2.2.2.2.1 p = some v ∧ f_X12_ofState fu (nI n) y.1 y.2.1 y.2.2.1 y.2.2.2.2.2.2.2.1 y.2.2.2.2.2.2.2.2.1 y.2.2.2.2.2.2.2.2.2.1 p = some v := by
  obtain ⟨o, o1, o2, o3, o4⟩ := SR_o S
  obtain ⟨v, v1, v2, v3⟩ := SR_s S
  obtain ⟨s1, s2, s3, s4, s5, s6, s7, ⟨c, c1, c2, c3, c4⟩, ⟨s, h1, h2, h3, h4⟩, s10⟩ := S
  rcases ask p 200 (by decide) with ⟨j, hj, rfl⟩ | hx | hx
  · have lt : ∀ b : Nat, b < 2 ^ 31 → (nI j < nI b ↔ j < b) := fun b hb => nI_ltI (by omega) hb
    have le : ∀ b : Nat, b < 2 ^ 31 → (nI b ≤ nI j ↔ b ≤ j) := fun b hb => nI_leI hb (by omega)
    have eq : ∀ b : Nat, b < 2 ^ 31 → (nI j = nI b ↔ j = b) := fun b hb => nI_eq (by omega) hb
    have ej : jrm (nI j) (nI 10) = nI (j % 10) := jrm_n (by omega) (by decide) (by decide)
    have ed : nI j / nI 10 = nI (j / 10) := pk_div (by omega) (by decide) (by decide)
    have eq2 : ∀ b : Nat, b < 2 ^ 31 → (nI (j / 10) = nI b ↔ j / 10 = b) := fun b hb => nI_eq (by omega) hb
    rcases (show j < 10 ∨ (10 ≤ j ∧ j < 20) ∨ (20 ≤ j ∧ j < 30) ∨ (30 ≤ j ∧ j < 100) ∨ (100 ≤ j ∧ j < 160) ∨ (160 ≤ j ∧ j < 200) by omega) with q | q | q | q | q | q
    · have C : f_X1_tell fu (nI n) x.1 x.2.1 x.2.2.1 x.2.2.2.2.2.1 x.2.2.2.2.2.2.1 x.2.2.2.2.2.2.2.1 (nI j) = (if j = 0 then some x.2.2.2.2.2.2.1 else if j = 1 then some (nI (fldN (fun j x => x + o j) 0 36 0)) else if j = 2 then some x.2.2.2.2.2.2.2.1 else if j = 3 then some x.2.2.2.2.2.1 else if j = 4 then some (nI (fldN (fun j x => if v j = 6 then x else x ||| 2 ^ j) 0 n 0)) else some (-1)) := by
        simp only [f_X1_tell, show (10 : Int32) = nI 10 from rfl, show (100 : Int32) = nI 100 from rfl, if_pos ((lt 10 (by decide)).2 q), if_pos ((lt 100 (by decide)).2 (show j < 100 by omega)), bnd_some, cse, e_X1_owedInAll o2 hf, e_X1_sitting v1 v2 hn hf]
        rcases (show j = 0 ∨ j = 1 ∨ j = 2 ∨ j = 3 ∨ j = 4 ∨ 5 ≤ j by omega) with rfl | rfl | rfl | rfl | rfl | q2
        · rfl
        · rfl
        · rfl
        · rfl
        · rfl
        · rw [show (0 : Int32) = nI 0 from rfl, show (1 : Int32) = nI 1 from rfl, show (2 : Int32) = nI 2 from rfl, show (3 : Int32) = nI 3 from rfl, show (4 : Int32) = nI 4 from rfl, if_neg (fun z => by have := (eq 0 (by decide)).1 z; omega), if_neg (fun z => by have := (eq 1 (by decide)).1 z; omega), if_neg (fun z => by have := (eq 2 (by decide)).1 z; omega), if_neg (fun z => by have := (eq 3 (by decide)).1 z; omega), if_neg (fun z => by have := (eq 4 (by decide)).1 z; omega), if_neg (by omega), if_neg (by omega), if_neg (by omega), if_neg (by omega), if_neg (by omega)]
      have M : f_X12_ofState fu (nI n) y.1 y.2.1 y.2.2.1 y.2.2.2.2.2.2.2.1 y.2.2.2.2.2.2.2.2.1 y.2.2.2.2.2.2.2.2.2.1 (nI j) = (if j = 0 then some x.2.2.2.2.2.2.1 else if j = 1 then some (nI (fldN (fun j x => x + o j) 0 36 0)) else if j = 2 then some x.2.2.2.2.2.2.2.1 else if j = 3 then some x.2.2.2.2.2.1 else if j = 4 then some (nI (fldN (fun j x => if v j = 6 then x else x ||| 2 ^ j) 0 n 0)) else some (-1)) := by
        have hz : nI (j / 10) = (0 : Int32) := by rw [show j / 10 = 0 by omega]; rfl
        simp only [f_X12_ofState, ltn, show (10 : Int32) = nI 10 from rfl, show (100 : Int32) = nI 100 from rfl, if_pos ((lt 100 (by decide)).2 (show j < 100 by omega)), ed, if_pos hz, bnd_some, e_X12_allOwed o3 hn hf, ← sum_36 hn o4, e_X12_sitters v1 v3 hn hf, c2, c3, h2, h3, s7]
        rcases (show j = 0 ∨ j = 1 ∨ j = 2 ∨ j = 3 ∨ j = 4 ∨ 5 ≤ j by omega) with rfl | rfl | rfl | rfl | rfl | q2
        · rfl
        · rfl
        · rfl
        · rfl
        · rfl
        · rw [show (0 : Int32) = nI 0 from rfl, show (1 : Int32) = nI 1 from rfl, show (2 : Int32) = nI 2 from rfl, show (3 : Int32) = nI 3 from rfl, show (4 : Int32) = nI 4 from rfl, if_neg (fun z => by have := (eq 0 (by decide)).1 z; omega), if_neg (fun z => by have := (eq 1 (by decide)).1 z; omega), if_neg (fun z => by have := (eq 2 (by decide)).1 z; omega), if_neg (fun z => by have := (eq 3 (by decide)).1 z; omega), if_neg (fun z => by have := (eq 4 (by decide)).1 z; omega), if_neg (by omega), if_neg (by omega), if_neg (by omega), if_neg (by omega), if_neg (by omega)]
      rw [C, M]
      rcases (show j = 0 ∨ j = 1 ∨ j = 2 ∨ j = 3 ∨ j = 4 ∨ 5 ≤ j by omega) with rfl | rfl | rfl | rfl | rfl | q2
      · exact ⟨_, rfl, rfl⟩
      · exact ⟨_, rfl, rfl⟩
      · exact ⟨_, rfl, rfl⟩
      · exact ⟨_, rfl, rfl⟩
      · exact ⟨_, rfl, rfl⟩
      · rw [if_neg (by omega), if_neg (by omega), if_neg (by omega), if_neg (by omega), if_neg (by omega)]
        exact ⟨_, rfl, rfl⟩
    · have hz : ¬ nI (j / 10) = (0 : Int32) := fun z => by have := (eq2 0 (by decide)).1 z; omega
      have hz1 : nI (j / 10) = (1 : Int32) := by rw [show j / 10 = 1 by omega]; rfl
      have e1 : j % 10 = j - 10 := by omega
      simp only [f_X1_tell, f_X12_ofState, ltn, show (10 : Int32) = nI 10 from rfl, show (20 : Int32) = nI 20 from rfl, show (30 : Int32) = nI 30 from rfl, show (100 : Int32) = nI 100 from rfl, if_neg (fun z => absurd ((lt 10 (by decide)).1 z) (by omega)), if_neg (fun z => absurd ((le 30 (by decide)).1 z) (by omega)), ej, has1_n hn (show j % 10 < 2 ^ 31 by omega), bnd_some, if_pos ((lt 100 (by decide)).2 (show j < 100 by omega)), ed, if_neg hz, if_pos hz1]
      by_cases hk : j % 10 < n
      · rw [if_pos hk, if_neg i10, if_neg (fun z => absurd ((le 20 (by decide)).1 z) (by omega)), if_neg (nI_ge hk (by omega))]
        rw [rdi_n (show j % 10 < 6 by omega) (by decide) rfl, rdi_n (show j % 10 < 6 by omega) (by decide) (s1 (j % 10) hk).symm]
        exact ⟨_, rfl, rfl⟩
      · rw [if_neg hk, if_pos i00, if_pos (nI_le (by omega) (by omega))]
        exact ⟨_, rfl, rfl⟩
    · have hz : ¬ nI (j / 10) = (0 : Int32) := fun z => by have := (eq2 0 (by decide)).1 z; omega
      have hz1 : ¬ nI (j / 10) = (1 : Int32) := fun z => by have := (eq2 1 (by decide)).1 z; omega
      have hz2 : nI (j / 10) = (2 : Int32) := by rw [show j / 10 = 2 by omega]; rfl
      simp only [f_X1_tell, f_X12_ofState, ltn, show (10 : Int32) = nI 10 from rfl, show (20 : Int32) = nI 20 from rfl, show (30 : Int32) = nI 30 from rfl, show (100 : Int32) = nI 100 from rfl, if_neg (fun z => absurd ((lt 10 (by decide)).1 z) (by omega)), if_neg (fun z => absurd ((le 30 (by decide)).1 z) (by omega)), ej, has1_n hn (show j % 10 < 2 ^ 31 by omega), bnd_some, if_pos ((lt 100 (by decide)).2 (show j < 100 by omega)), ed, if_neg hz, if_neg hz1, if_pos hz2]
      by_cases hk : j % 10 < n
      · rw [if_pos hk, if_neg i10, if_pos ((le 20 (by decide)).2 (by omega)), if_neg (nI_ge hk (by omega))]
        rw [rdi_n (show j % 10 < 6 by omega) (by decide) (v2 _ (by omega)), rdi_n (show j % 10 < 6 by omega) (by decide) (v3 _ (by omega))]
        exact ⟨_, rfl, rfl⟩
      · rw [if_neg hk, if_pos i00, if_pos (nI_le (by omega) (by omega))]
        exact ⟨_, rfl, rfl⟩
    · have hz : ¬ nI (j / 10) = (0 : Int32) := fun z => by have := (eq2 0 (by decide)).1 z; omega
      have hz1 : ¬ nI (j / 10) = (1 : Int32) := fun z => by have := (eq2 1 (by decide)).1 z; omega
      have hz2 : ¬ nI (j / 10) = (2 : Int32) := fun z => by have := (eq2 2 (by decide)).1 z; omega
      simp only [f_X1_tell, f_X12_ofState, ltn, show (10 : Int32) = nI 10 from rfl, show (20 : Int32) = nI 20 from rfl, show (30 : Int32) = nI 30 from rfl, show (100 : Int32) = nI 100 from rfl, if_neg (fun z => absurd ((lt 10 (by decide)).1 z) (by omega)), if_pos ((le 30 (by decide)).2 (show 30 ≤ j by omega)), bnd_some, cse, if_pos ((lt 100 (by decide)).2 (show j < 100 by omega)), ed, if_neg hz, if_neg hz1, if_neg hz2]
      refine ⟨-1, ?_, rfl⟩
      rw [show (0 : Int32) = nI 0 from rfl, show (1 : Int32) = nI 1 from rfl, show (2 : Int32) = nI 2 from rfl, show (3 : Int32) = nI 3 from rfl, show (4 : Int32) = nI 4 from rfl, if_neg (fun z => by have := (eq 0 (by decide)).1 z; omega), if_neg (fun z => by have := (eq 1 (by decide)).1 z; omega), if_neg (fun z => by have := (eq 2 (by decide)).1 z; omega), if_neg (fun z => by have := (eq 3 (by decide)).1 z; omega), if_neg (fun z => by have := (eq 4 (by decide)).1 z; omega)]
    · have e7 : (nI j - nI 100) / nI 10 = nI ((j - 100) / 10) := by rw [pk_sub (by omega), pk_div (by omega) (by decide) (by decide)]
      simp only [f_X1_tell, f_X12_ofState, ltn, show (10 : Int32) = nI 10 from rfl, show (30 : Int32) = nI 30 from rfl, show (100 : Int32) = nI 100 from rfl, show (160 : Int32) = nI 160 from rfl, show (200 : Int32) = nI 200 from rfl, if_neg (fun z => absurd ((lt 10 (by decide)).1 z) (by omega)), if_pos ((le 30 (by decide)).2 (show 30 ≤ j by omega)), bnd_some, cse, if_neg (fun z => absurd ((lt 100 (by decide)).1 z) (by omega)), if_neg (fun z => absurd ((le 200 (by decide)).1 z) (by omega)), if_neg (fun z => absurd ((le 160 (by decide)).1 z) (by omega)), e7, ej, has1_n hn (show j % 10 < 2 ^ 31 by omega), has1_n hn (show (j - 100) / 10 < 2 ^ 31 by omega), isP_n hn (show j % 10 < 2 ^ 31 by omega), isP_n hn (show (j - 100) / 10 < 2 ^ 31 by omega)]
      by_cases hk : (j - 100) / 10 < n
      · rw [if_pos hk, if_neg i10, if_neg i10]
        by_cases hk2 : j % 10 < n
        · rw [if_pos hk2, if_neg i10, if_neg i10, e_X12_owed o3 (by omega) (by omega), show (6 : Int32) = nI 6 from rfl, pk_mul, nI_add, rdi_n (show 6 * ((j - 100) / 10) + j % 10 < 36 by omega) (by decide) (o2 _ (by omega))]
          exact ⟨_, rfl, rfl⟩
        · rw [if_neg hk2, if_pos i00, if_pos i00]
          exact ⟨_, rfl, rfl⟩
      · rw [if_neg hk, if_pos i00, if_pos i00]
        exact ⟨_, rfl, rfl⟩
    · have e7 : (nI j - nI 100) / nI 10 = nI ((j - 100) / 10) := by rw [pk_sub (by omega), pk_div (by omega) (by decide) (by decide)]
      simp only [f_X1_tell, f_X12_ofState, ltn, show (10 : Int32) = nI 10 from rfl, show (30 : Int32) = nI 30 from rfl, show (100 : Int32) = nI 100 from rfl, show (160 : Int32) = nI 160 from rfl, show (200 : Int32) = nI 200 from rfl, if_neg (fun z => absurd ((lt 10 (by decide)).1 z) (by omega)), if_pos ((le 30 (by decide)).2 (show 30 ≤ j by omega)), bnd_some, cse, if_neg (fun z => absurd ((lt 100 (by decide)).1 z) (by omega)), if_neg (fun z => absurd ((le 200 (by decide)).1 z) (by omega)), if_pos ((le 160 (by decide)).2 (show 160 ≤ j by omega)), e7, has1_n hn (show (j - 100) / 10 < 2 ^ 31 by omega)]
      rw [if_neg (show ¬ (j - 100) / 10 < n by omega), if_pos i00]
      exact ⟨_, rfl, rfl⟩
  · refine ⟨-1, ?_, ?_⟩
    · simp only [f_X1_tell, show (10 : Int32) = nI 10 from rfl, show (100 : Int32) = nI 100 from rfl, if_pos (lt0_k hx (show 10 < 2 ^ 31 by decide)), if_pos (lt0_k hx (show 100 < 2 ^ 31 by decide)), bnd_some, cse]
      rw [show (0 : Int32) = nI 0 from rfl, show (1 : Int32) = nI 1 from rfl, show (2 : Int32) = nI 2 from rfl, show (3 : Int32) = nI 3 from rfl, show (4 : Int32) = nI 4 from rfl, if_neg (lt0_ne hx (by decide)), if_neg (lt0_ne hx (by decide)), if_neg (lt0_ne hx (by decide)), if_neg (lt0_ne hx (by decide)), if_neg (lt0_ne hx (by decide))]
    · have n1 : ¬ p / 10 = 1 := neg_div_ne hx (k := 1) (by decide) (by decide)
      have n2 : ¬ p / 10 = 2 := neg_div_ne hx (k := 2) (by decide) (by decide)
      simp only [f_X12_ofState, ltn, show (100 : Int32) = nI 100 from rfl, if_pos (lt0_k hx (show 100 < 2 ^ 31 by decide)), if_neg n1, if_neg n2]
      rw [show (0 : Int32) = nI 0 from rfl, show (1 : Int32) = nI 1 from rfl, show (2 : Int32) = nI 2 from rfl, show (3 : Int32) = nI 3 from rfl, show (4 : Int32) = nI 4 from rfl, if_neg (lt0_ne hx (a := 0) (by decide)), if_neg (lt0_ne hx (a := 1) (by decide)), if_neg (lt0_ne hx (a := 2) (by decide)), if_neg (lt0_ne hx (a := 3) (by decide)), if_neg (lt0_ne hx (a := 4) (by decide))]
      split <;> rfl
  · refine ⟨-1, ?_, ?_⟩
    · simp only [f_X1_tell, show (10 : Int32) = nI 10 from rfl, show (30 : Int32) = nI 30 from rfl, show (100 : Int32) = nI 100 from rfl, show (200 : Int32) = nI 200 from rfl, if_neg (ge_k hx (by decide) (show 10 ≤ 200 by decide)), if_pos (ge_le hx (by decide) (show 30 ≤ 200 by decide)), if_neg (ge_k hx (by decide) (show 100 ≤ 200 by decide)), if_pos hx, bnd_some, cse]
      rw [show (0 : Int32) = nI 0 from rfl, show (1 : Int32) = nI 1 from rfl, show (2 : Int32) = nI 2 from rfl, show (3 : Int32) = nI 3 from rfl, show (4 : Int32) = nI 4 from rfl, if_neg (ge_ne hx (by decide) (by decide)), if_neg (ge_ne hx (by decide) (by decide)), if_neg (ge_ne hx (by decide) (by decide)), if_neg (ge_ne hx (by decide) (by decide)), if_neg (ge_ne hx (by decide) (by decide))]
    · simp only [f_X12_ofState, ltn, show (100 : Int32) = nI 100 from rfl, show (160 : Int32) = nI 160 from rfl, if_neg (ge_k hx (by decide) (show 100 ≤ 200 by decide)), if_pos (ge_le hx (by decide) (show 160 ≤ 200 by decide))]
end L8
