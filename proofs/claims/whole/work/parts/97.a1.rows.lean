/-! ===== rows as numbers ===== -/
def numk (m : Nat) (r : Nat → Nat) (k : Nat) : Nat := fldN (fun p x => x * m + r p) 0 k 0
def dg (m n i p : Nat) : Nat := i / m ^ (n - 1 - p) % m
def clm (n : Nat) (h r : Nat → Nat) : Prop := ∀ a, a < n → ∀ b, b < a → r a = r b → r a < 6 → bi (h a) b = 0
def clmB (n : Nat) (h r : Nat → Nat) : Bool := (List.range n).all (fun a => (List.range a).all (fun b => !(r a == r b) || (Nat.ble 6 (r a) || bi (h a) b == 0)))
section ROW
variable {fu n m k p i t : Nat} {r s h : Nat → Nat} {M rw_ ha : FN}
theorem numk_succ : numk m r (k + 1) = numk m r k * m + r k := by
  unfold numk
  rw [fldN_succ, Nat.zero_add]
theorem numk_congr : ∀ k, (∀ q, q < k → r q = s q) → numk m r k = numk m s k := by
  intro k
  induction k with
  | zero => intro _; rfl
  | succ k ih =>
    intro e
    rw [numk_succ, numk_succ, ih (fun q hq => e q (by omega)), e k (by omega)]
theorem mul_lt_ {a b x y : Nat} (h : a < b) (hx : x < m) : a * m + x < b * m + y := by
  have h1 : (a + 1) * m ≤ b * m := Nat.mul_le_mul_right m h
  rw [Nat.succ_mul] at h1
  omega
theorem numk_lt : ∀ d, (∀ q, q < p → r q = s q) → r p < s p → (∀ q, q < p + 1 + d → r q < m) → numk m r (p + 1 + d) < numk m s (p + 1 + d) := by
  intro d
  induction d with
  | zero =>
    intro e l _
    rw [Nat.add_zero, numk_succ, numk_succ, numk_congr p e]
    omega
  | succ d ih =>
    intro e l b
    rw [show p + 1 + (d + 1) = (p + 1 + d) + 1 by omega, numk_succ, numk_succ]
    exact mul_lt_ (ih e l (fun q hq => b q (by omega))) (b _ (by omega))
theorem numk_bd : ∀ k, (∀ q, q < k → r q < m) → numk m r k < m ^ k := by
  intro k
  induction k with
  | zero => intro _; exact Nat.one_pos
  | succ k ih =>
    intro b
    have h1 := ih (fun q hq => b q (by omega))
    rw [numk_succ, Nat.pow_succ]
    have := mul_lt_ (m := m) (y := 0) h1 (b k (by omega))
    omega
theorem numk_inj : ∀ k, (∀ q, q < k → r q < m) → (∀ q, q < k → s q < m) → numk m r k = numk m s k → ∀ q, q < k → r q = s q := by
  intro k
  induction k with
  | zero => intro _ _ _ q hq; exact absurd hq (Nat.not_lt_zero _)
  | succ k ih =>
    intro b1 b2 e q hq
    rw [numk_succ, numk_succ] at e
    have e1 : numk m r k = numk m s k := by
      rcases Nat.lt_trichotomy (numk m r k) (numk m s k) with c | c | c
      · have := mul_lt_ (m := m) (y := s k) c (b1 k (by omega)); omega
      · exact c
      · have := mul_lt_ (m := m) (y := r k) c (b2 k (by omega)); omega
    rw [e1] at e
    by_cases c : q = k
    · rw [c]; omega
    · exact ih (fun q hq => b1 q (by omega)) (fun q hq => b2 q (by omega)) e1 q (by omega)
theorem dg_lt (hm : 0 < m) : dg m n i p < m := Nat.mod_lt _ hm
theorem numk_dg (hi : i < m ^ n) : numk m (dg m n i) n = i := by
  have key : ∀ k, k ≤ n → numk m (dg m n i) k = i / m ^ (n - k) := by
    intro k
    induction k with
    | zero => intro _; rw [Nat.sub_zero, Nat.div_eq_of_lt hi]; rfl
    | succ k ih =>
      intro hk
      rw [numk_succ, ih (by omega)]
      show i / m ^ (n - k) * m + i / m ^ (n - 1 - k) % m = i / m ^ (n - (k + 1))
      rw [show n - k = (n - 1 - k) + 1 by omega, show n - (k + 1) = n - 1 - k by omega, Nat.pow_succ, ← Nat.div_div_eq_div_mul, Nat.mul_comm]
      exact Nat.div_add_mod _ _
  rw [key n (Nat.le_refl n), Nat.sub_self, Nat.pow_zero, Nat.div_one]
/-- a row with its number -/
theorem row_num (b : ∀ q, q < n → r q < m) : numk m r n < m ^ n ∧ ∀ q, q < n → dg m n (numk m r n) q = r q := by
  have h1 := numk_bd n b
  refine ⟨h1, fun q hq => ?_⟩
  have hm : 0 < m := by have := b q hq; omega
  exact numk_inj n (fun q _ => dg_lt hm) b (numk_dg h1) q hq
theorem clm_congr (e : ∀ q, q < n → r q = s q) (hc : clm n h r) : clm n h s := by
  intro a ha b hb e1 l
  rw [← e a ha, ← e b (by omega)] at e1
  rw [← e a ha] at l
  exact hc a ha b hb e1 l
theorem clmB_t : clmB n h r = true ↔ clm n h r := by
  unfold clmB clm
  rw [List.all_eq_true]
  constructor
  · intro z a ha b hb e l
    have z1 := List.all_eq_true.1 (z a (List.mem_range.2 ha)) b (List.mem_range.2 hb)
    simp only [Bool.or_eq_true, Bool.not_eq_true', beq_eq_false_iff_ne, beq_iff_eq] at z1
    rcases z1 with z1 | z1 | z1
    · exact absurd e z1
    · have := Nat.le_of_ble_eq_true z1; omega
    · exact z1
  · intro z a ha
    rw [List.all_eq_true]
    intro b hb
    have ha := List.mem_range.1 ha
    have hb := List.mem_range.1 hb
    simp only [Bool.or_eq_true, Bool.not_eq_true', beq_eq_false_iff_ne, beq_iff_eq]
    by_cases e : r a = r b
    · by_cases l : r a < 6
      · exact Or.inr (Or.inr (z a ha b hb e l))
      · exact Or.inr (Or.inl (Nat.ble_eq_true_of_le (by omega)))
    · exact Or.inl e
theorem e_isCalm (hR : ∀ q, q < n → rw_ q = nI (r q)) (hr : ∀ q, q < n → r q < 2 ^ 31) (hM : ∀ i, i < 6 → M (55 * t + 13 + i) = nI (h i)) (h64 : ∀ i, i < 6 → h i < 64) (ht : t < 8) (hn : n ≤ 6) (hf : 100 ≤ fu) : f_X12_isCalm fu M (nI t) (nI n) rw_ = some (if clmB n h r = true then 1 else 0) := by
  have hz := lp_all (fu := fu) (step := f_X12_isCalm_L2 fu M (nI t) (nI n) rw_) n (fun a => (List.range a).all (fun b => !(r a == r b) || (Nat.ble 6 (r a) || bi (h a) b == 0))) (fun a ha => by
    have hy := lp_all (fu := fu) (step := f_X12_isCalm_L12 fu M (nI t) rw_ (nI a)) a (fun b => !(r a == r b) || (Nat.ble 6 (r a) || bi (h a) b == 0)) (fun b hb => by
      have ra := hr a ha
      have rb := hr b (by omega)
      have hbl := bi_lt (h a) b
      simp only [f_X12_isCalm_L12]
      rw [if_neg (nI_ge hb (by omega)), rdi_n (show a < 6 by omega) (by decide) (hR a ha), bnd_some, rdi_n (show b < 6 by omega) (by decide) (hR b (by omega)), bnd_some, bnd_some, e_X12_hates hM h64 ht (by omega) (by omega), bnd_some, nI_1]
      by_cases e : r a = r b
      · rw [if_pos (by rw [e])]
        by_cases l : 6 ≤ r a
        · rw [if_pos (show (6 : Int32) ≤ nI (r a) from nI_le l ra), if_pos]
          simp only [Bool.or_eq_true]
          exact Or.inr (Or.inl (Nat.ble_eq_true_of_le l))
        · rw [if_neg (show ¬ (6 : Int32) ≤ nI (r a) by rw [show (6 : Int32) = nI 6 from rfl]; exact nI_ge (by omega) (by decide))]
          by_cases c : bi (h a) b = 0
          · rw [if_pos ((nI_eq0 (by omega)).2 c), if_pos]
            simp only [Bool.or_eq_true]
            exact Or.inr (Or.inr (beq_iff_eq.2 c))
          · rw [if_neg (fun z => c ((nI_eq0 (by omega)).1 z)), if_neg]
            simp only [Bool.or_eq_true, Bool.not_eq_true', beq_eq_false_iff_ne, beq_iff_eq]
            rintro (z | z | z)
            · exact z e
            · exact l (Nat.le_of_ble_eq_true z)
            · exact c z
      · rw [if_neg (fun z => e ((nI_eq ra rb).1 z)), if_pos]
        simp only [Bool.or_eq_true, Bool.not_eq_true', beq_eq_false_iff_ne]
        exact Or.inl e) (by
      simp only [f_X12_isCalm_L12, if_pos (nI_le (Nat.le_refl a) (by omega : a < 2 ^ 31))]) (by omega)
    simp only [f_X12_isCalm_L2, if_neg (nI_ge ha (by omega : n < 2 ^ 31))]
    rw [hy, bnd_some]
    by_cases q : ((List.range a).all fun b => !(r a == r b) || (Nat.ble 6 (r a) || bi (h a) b == 0)) = true
    · rw [if_pos q, if_pos q, ← nI_1]; rfl
    · rw [if_neg q, if_neg q]; rfl) (by
    simp only [f_X12_isCalm_L2, if_pos (nI_le (Nat.le_refl n) (by omega : n < 2 ^ 31))]) (by omega)
  unfold f_X12_isCalm
  rw [bnd_r hz]
  unfold clmB
  by_cases q : ((List.range n).all fun a => (List.range a).all fun b => !(r a == r b) || (Nat.ble 6 (r a) || bi (h a) b == 0)) = true
  · rw [if_pos q, if_pos q]; rfl
  · rw [if_neg q, if_neg q]; rfl
theorem e_rowsOf (hn : n ≤ 6) (hf : 100 ≤ fu) : f_X12_rowsOf fu (nI n) (nI m) = some (nI (m ^ n)) := by
  have k := lp_up (step := f_X12_rowsOf_L4 (nI n) (nI m)) (fun j (x : Nat) => (nI x, nI j)) (fun _ x => x * m) n (fun x => nI x) (fun j x => x = m ^ j) (fun j x hj hx => by
    refine ⟨by simp only [f_X12_rowsOf_L4, if_neg (nI_ge hj (by omega : n < 2 ^ 31)), ltn, pk_mul, nI_1], ?_⟩
    show x * m = m ^ (j + 1)
    rw [hx, Nat.pow_succ]) (fun x _ => by simp only [f_X12_rowsOf_L4, if_pos (nI_le (Nat.le_refl n) (by omega : n < 2 ^ 31))]) n fu 0 1 (by omega) (by omega) rfl
  unfold f_X12_rowsOf
  refine (bnd_r k.1).trans ?_
  show some (nI _) = _
  rw [k.2]
theorem ok_layRow (hn : n ≤ 6) (hm : 0 < m) (hm7 : m ≤ 7) (hi : i < 2 ^ 31) (hf : 100 ≤ fu) : ok (f_X12_layRow fu (nI n) rw_ (nI i) (nI m)) (fun R => ∀ p, p < n → R p = nI (dg m n i p)) := by
  unfold f_X12_layRow
  refine ok_ltn (ok_bnd (ok_mono (ok_up (step := f_X12_layRow_L10 (nI m)) (P := fun R => ∀ p, p < n → R p = nI (dg m n i p)) n (fun j s => s.1 = nI (i / m ^ j) ∧ s.2.1 = nI (n - j) - 1 ∧ ∀ p, n - j ≤ p → p < n → s.2.2 p = nI (dg m n i p)) ?_ ?_ n fu 0 _ (by omega) (by omega) ⟨by show nI i = nI (i / m ^ 0); rw [Nat.pow_zero, Nat.div_one], rfl, fun p h1 h2 => absurd h1 (by omega)⟩) (fun R hR => ok_some hR)))
  · rintro j ⟨a, c, R⟩ hj ⟨rfl, rfl, h1⟩
    have h1 : ∀ p, n - j ≤ p → p < n → R p = nI (dg m n i p) := h1
    have hl : i / m ^ j < 2 ^ 31 := Nat.lt_of_le_of_lt (Nat.div_le_self _ _) hi
    obtain ⟨b, hb⟩ : ∃ b, n - j = b + 1 := ⟨n - j - 1, by omega⟩
    have e1 : nI (n - j) - 1 = nI b := by rw [hb]; exact nI_pred b
    simp only [f_X12_layRow_L10]
    rw [if_neg (by rw [e1]; exact nI_pos (by omega)), e1, rmi_n hl hm (by omega), bnd_some, wri_n (show b < 6 by omega) (by decide), bnd_some, dvi_n hl hm (by omega), bnd_some]
    refine ok_some ⟨?_, ?_, fun p h2 h3 => ?_⟩
    · show nI (i / m ^ j / m) = nI (i / m ^ (j + 1))
      rw [Nat.pow_succ, Nat.div_div_eq_div_mul]
    · show nI b + (-1) = nI (n - (j + 1)) - 1
      rw [am1, show n - (j + 1) = b by omega]
    · by_cases e : p = b
      · rw [e]
        refine pk_us.trans ?_
        unfold dg
        rw [show n - 1 - b = j by omega]
      · exact (pk_un e).trans (h1 p (by omega) h3)
  · rintro ⟨a, c, R⟩ ⟨rfl, rfl, h1⟩
    simp only [f_X12_layRow_L10, Nat.sub_self]
    rw [if_pos (by decide)]
    exact ok_some (fun p hp => h1 p (by omega) hp)
/-- whether he is free to sit there -/
theorem e_isFree {v : Nat} (hR : ∀ q, q < p → rw_ q = nI (r q)) (hr : ∀ q, q < p → r q < 2 ^ 31) (hv : v < 2 ^ 31) (hha : ∀ i, i < 6 → ha i = nI (h i)) (h64 : ∀ i, i < 6 → h i < 64) (hp : p < 6) (hf : 100 ≤ fu) : (f_X6_isFree fu 6 ha rw_ (nI p) (nI v) = some 1 ∧ ∀ b, b < p → v = r b → bi (h p) b = 0) ∨ (f_X6_isFree fu 6 ha rw_ (nI p) (nI v) = some 0 ∧ ∃ b, b < p ∧ v = r b ∧ ¬ bi (h p) b = 0) := by
  have hz := lp_all (fu := fu) (step := f_X6_isFree_L3 fu ha rw_ (nI p) (nI v) 6) p (fun b => !(v == r b) || bi (h p) b == 0) (fun b hb => by
    have rb := hr b hb
    have hbl := bi_lt (h p) b
    simp only [f_X6_isFree_L3]
    rw [if_neg (nI_ge hb (by omega)), rdi_n (show b < 6 by omega) (by decide) (hR b hb), bnd_some, e_X9_hates hha h64 (by omega) (by omega), bnd_some, nI_1]
    by_cases e : v = r b
    · rw [if_pos (by rw [e])]
      by_cases c : bi (h p) b = 0
      · rw [if_pos ((nI_eq0 (by omega)).2 c), if_pos]
        simp only [Bool.or_eq_true]
        exact Or.inr (beq_iff_eq.2 c)
      · rw [if_neg (fun z => c ((nI_eq0 (by omega)).1 z)), if_neg]
        simp only [Bool.or_eq_true, Bool.not_eq_true', beq_eq_false_iff_ne, beq_iff_eq]
        rintro (z | z)
        · exact z e
        · exact c z
    · rw [if_neg (fun z => e ((nI_eq rb hv).1 z).symm), if_pos]
      simp only [Bool.or_eq_true, Bool.not_eq_true', beq_eq_false_iff_ne]
      exact Or.inl e) (by
    simp only [f_X6_isFree_L3, if_pos (nI_le (Nat.le_refl p) (by omega : p < 2 ^ 31))]) (by omega)
  unfold f_X6_isFree
  rw [bnd_r hz]
  by_cases q : ((List.range p).all fun b => !(v == r b) || bi (h p) b == 0) = true
  · rw [if_pos q]
    refine Or.inl ⟨rfl, fun b hb e => ?_⟩
    have z1 := List.all_eq_true.1 q b (List.mem_range.2 hb)
    simp only [Bool.or_eq_true, Bool.not_eq_true', beq_eq_false_iff_ne, beq_iff_eq] at z1
    rcases z1 with z1 | z1
    · exact absurd e z1
    · exact z1
  · rw [if_neg q]
    refine Or.inr ⟨rfl, ?_⟩
    rw [List.all_eq_true] at q
    obtain ⟨b, hb⟩ := Classical.not_forall.1 q
    obtain ⟨hb1, hb2⟩ := Classical.not_imp.1 hb
    simp only [Bool.or_eq_true, Bool.not_eq_true', beq_eq_false_iff_ne, beq_iff_eq, not_or, Classical.not_not] at hb2
    exact ⟨b, List.mem_range.1 hb1, hb2.1, hb2.2⟩
end ROW
