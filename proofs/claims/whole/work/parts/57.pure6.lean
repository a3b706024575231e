/-! ===== sets as numbers ===== -/
def bt (a j : Nat) : Prop := bi a j = 1
theorem bi_tb (a j : Nat) : bi a j = (a.testBit j).toNat := by
  unfold bi
  rw [Nat.testBit_eq_decide_div_mod_eq]
  have := Nat.mod_lt (a / 2 ^ j) (show 2 > 0 by decide)
  by_cases q : a / 2 ^ j % 2 = 1
  · simp [q]
  · simp [q]; omega
theorem bt_tb (a j : Nat) : bt a j ↔ a.testBit j = true := by
  unfold bt
  rw [bi_tb]
  cases a.testBit j <;> simp
theorem bi_01 (a j : Nat) : bi a j = 0 ∨ bt a j := by
  have := bi_lt a j
  unfold bt
  omega
theorem bi0 {a j : Nat} : bi a j = 0 ↔ ¬ bt a j := by
  have := bi_lt a j
  unfold bt
  omega
theorem bt_or {a b j : Nat} : bt (a ||| b) j ↔ bt a j ∨ bt b j := by
  simp only [bt_tb, Nat.testBit_or, Bool.or_eq_true]
theorem bt_and {a b j : Nat} : bt (a &&& b) j ↔ bt a j ∧ bt b j := by
  simp only [bt_tb, Nat.testBit_and, Bool.and_eq_true]
theorem bt_pow {k j : Nat} : bt (2 ^ k) j ↔ k = j := by
  simp only [bt_tb, Nat.testBit_two_pow, decide_eq_true_eq]
theorem bt_0 {j : Nat} : ¬ bt 0 j := by
  simp [bt_tb]
theorem bt_lt {a n j : Nat} (h : a < 2 ^ n) (hb : bt a j) : j < n := by
  by_cases q : j < n
  · exact q
  · have h2 : a.testBit j = false := Nat.testBit_lt_two_pow (Nat.lt_of_lt_of_le h (Nat.pow_le_pow_right (by decide) (by omega)))
    rw [bt_tb, h2] at hb
    cases hb
theorem bt_ext {a b : Nat} (h : ∀ j, bt a j ↔ bt b j) : a = b := by
  apply Nat.eq_of_testBit_eq
  intro j
  have := h j
  simp only [bt_tb] at this
  cases h1 : a.testBit j <;> cases h2 : b.testBit j <;> simp [h1, h2] at this ⊢
theorem or_pow {a b n : Nat} (ha : a < 2 ^ n) (hb : b < 2 ^ n) : a ||| b < 2 ^ n := Nat.or_lt_two_pow ha hb
theorem p64 {n : Nat} (hn : n ≤ 6) {a : Nat} (h : a < 2 ^ n) : a < 64 := Nat.lt_of_lt_of_le h (Nat.pow_le_pow_right (n := 2) (by decide) hn)
theorem pw_lt {k n : Nat} (h : k < n) : 2 ^ k < 2 ^ n := Nat.pow_lt_pow_right (by decide) h
def sub (a b : Nat) : Prop := ∀ j, bt a j → bt b j
theorem sub_or {a b : Nat} (h : sub a b) : a ||| b = b := bt_ext (fun j => by rw [bt_or]; exact ⟨fun z => z.elim (h j) id, Or.inr⟩)
def on (s : Nat) : Nat := fldN (fun j x => if bi s j = 0 then x else x + 1) 0 6 0
theorem on_lt0 : ∀ s, s < 64 → ∀ r, r < 64 → s ||| r = r → s ≠ r → on s < on r := by decide +kernel
theorem on_le0 : ∀ n, n ≤ 6 → ∀ s, s < 2 ^ n → on s ≤ n := by decide +kernel
theorem on_pow : ∀ p, p < 6 → on (2 ^ p) = 1 := by decide
theorem on_add : ∀ j, j < 6 → ∀ x, x < 2 ^ j → on (x ||| 2 ^ j) = on x + 1 ∧ x ||| 2 ^ j < 2 ^ (j + 1) := by decide +kernel
theorem bc_0 : ∀ s, s < 64 → f_J6_bitCount_0f7a4 0 (nI s) = some (nI (on s)) := by decide +kernel
theorem e_bc {fu s : Nat} (h : s < 64) : f_J6_bitCount_0f7a4 fu (nI s) = some (nI (on s)) := bc_0 s h
theorem e_ones {fu s : Nat} (h : s < 64) (hf : 100 ≤ fu) : f_X12_ones fu (nI s) = some (nI (on s)) := by
  have h := lp_up0 (step := f_X12_ones_L4 fu (nI s)) (fun j x => (nI x, nI j)) (fun j x => if bi s j = 0 then x else x + 1) 6 (fun x => nI x) (fun j x hj => by
    have := bi_lt s j
    simp only [f_X12_ones_L4, show (6 : Int32) = nI 6 from rfl, if_neg (nI_ge hj (by decide : 6 < 2 ^ 31)), e_X12_has (fu := fu) h hj, bnd_some, ltn, nI_1, nI_eq0 (show bi s j < 2 ^ 31 by omega), i0_add]
    split <;> rfl) (fun x => by
    simp only [f_X12_ones_L4, show (6 : Int32) = nI 6 from rfl, if_pos (nI_le (Nat.le_refl 6) (by decide : 6 < 2 ^ 31))]) (fu := fu) (a := 0) (by omega)
  unfold f_X12_ones
  exact bnd_r h
/-- repeated -/
def it (f : Nat → Nat) : Nat → Nat → Nat
  | 0, s => s
  | k + 1, s => it f k (f s)
theorem it_fix {f : Nat → Nat} {s : Nat} (h : f s = s) : ∀ k, it f k s = s := by
  intro k
  induction k with
  | zero => rfl
  | succ k ih => show it f k (f s) = s; rw [h]; exact ih
theorem it_pred {f : Nat → Nat} {P : Nat → Prop} (hp : ∀ s, P s → P (f s)) : ∀ k s, P s → P (it f k s) := by
  intro k
  induction k with
  | zero => intro s h; exact h
  | succ k ih => intro s h; exact ih (f s) (hp s h)
theorem fix_it {n : Nat} (hn : n ≤ 6) {f : Nat → Nat} (hf : ∀ s, s < 2 ^ n → f s < 2 ^ n ∧ sub s (f s)) : ∀ k s, s < 2 ^ n → n ≤ on s + k → f (it f k s) = it f k s := by
  have key : ∀ s, s < 2 ^ n → f s = s ∨ on s < on (f s) := by
    intro s hs
    by_cases q : f s = s
    · exact Or.inl q
    · exact Or.inr (on_lt0 s (p64 hn hs) (f s) (p64 hn (hf s hs).1) (sub_or (hf s hs).2) (fun z => q z.symm))
  intro k
  induction k with
  | zero =>
    intro s hs h
    rcases key s hs with q | q
    · exact q
    · have := on_le0 n hn (f s) (hf s hs).1
      omega
  | succ k ih =>
    intro s hs h
    rcases key s hs with q | q
    · rw [it_fix q]; exact q
    · exact ih (f s) (hf s hs).1 (by omega)
theorem it_more {f : Nat → Nat} : ∀ k m s, f (it f k s) = it f k s → it f (k + m) s = it f k s := by
  intro k
  induction k with
  | zero => intro m s h; rw [Nat.zero_add]; exact it_fix h m
  | succ k ih =>
    intro m s h
    rw [show k + 1 + m = (k + m) + 1 by omega]
    exact ih m (f s) h
/-- how many of n -/
def cnt (P : Nat → Prop) [DecidablePred P] (n : Nat) : Nat := fldN (fun j x => x + if P j then 1 else 0) 0 n 0
theorem cnt_succ (P : Nat → Prop) [DecidablePred P] (n : Nat) : cnt P (n + 1) = cnt P n + if P n then 1 else 0 := by
  unfold cnt
  rw [fldN_succ, Nat.zero_add]
theorem cnt_le {P Q : Nat → Prop} [DecidablePred P] [DecidablePred Q] : ∀ n, (∀ j, j < n → P j → Q j) → cnt P n ≤ cnt Q n := by
  intro n
  induction n with
  | zero => intro _; exact Nat.le_refl _
  | succ n ih =>
    intro h
    rw [cnt_succ, cnt_succ]
    have := ih (fun j hj => h j (by omega))
    by_cases q : P n
    · rw [if_pos q, if_pos (h n (by omega) q)]; omega
    · rw [if_neg q]; omega
theorem cnt_lt {P Q : Nat → Prop} [DecidablePred P] [DecidablePred Q] : ∀ n, (∀ j, j < n → P j → Q j) → (∃ j, j < n ∧ ¬ P j ∧ Q j) → cnt P n < cnt Q n := by
  intro n
  induction n with
  | zero => rintro _ ⟨j, hj, _⟩; omega
  | succ n ih =>
    rintro h ⟨j, hj, h1, h2⟩
    rw [cnt_succ, cnt_succ]
    by_cases q : j = n
    · subst q
      have := cnt_le j (fun i hi => h i (by omega))
      rw [if_neg h1, if_pos h2]; omega
    · have := ih (fun j hj => h j (by omega)) ⟨j, by omega, h1, h2⟩
      by_cases q : P n
      · rw [if_pos q, if_pos (h n (by omega) q)]; omega
      · rw [if_neg q]; omega
theorem cnt_all (n : Nat) : cnt (fun _ => True) n = n := by
  induction n with
  | zero => rfl
  | succ n ih => rw [cnt_succ, ih]; rfl
theorem pigeon : ∀ (n : Nat) (f : Nat → Nat), (∀ i, i ≤ n → f i < n) → ∃ i j, i < j ∧ j ≤ n ∧ f i = f j := by
  intro n
  induction n with
  | zero => intro f h; exact absurd (h 0 (Nat.le_refl _)) (by omega)
  | succ n ih =>
    intro f h
    by_cases q : ∃ i, i ≤ n ∧ f i = f (n + 1)
    · obtain ⟨i, hi, e⟩ := q
      exact ⟨i, n + 1, by omega, Nat.le_refl _, e⟩
    · have hq : ∀ i, i ≤ n → f i ≠ f (n + 1) := fun i hi e => q ⟨i, hi, e⟩
      obtain ⟨i, j, h1, h2, e⟩ := ih (fun i => if f i = n then f (n + 1) else f i) (fun i hi => by
        have h3 := h i (by omega)
        have h4 := h (n + 1) (Nat.le_refl _)
        have h5 := hq i hi
        by_cases q2 : f i = n
        · simp only [if_pos q2]; omega
        · simp only [if_neg q2]; omega)
      refine ⟨i, j, h1, by omega, ?_⟩
      have h3 := hq i (by omega)
      have h4 := hq j (by omega)
      by_cases q2 : f i = n
      · by_cases q3 : f j = n
        · omega
        · rw [if_pos q2, if_neg q3] at e; exact absurd e.symm h4
      · by_cases q3 : f j = n
        · rw [if_neg q2, if_pos q3] at e; exact absurd e h3
        · rw [if_neg q2, if_neg q3] at e; exact e
/-- the sum over pairs, either way -/
theorem pairs {f : Nat → Nat → Nat} (hs : ∀ a b, f a b = f b a) : ∀ n, n ≤ 6 → fldN (fun a x => fldN (fun b x => x + f a b) (a + 1) (n - (a + 1)) x) 0 n 0 = fldN (fun a x => fldN (fun b x => x + f a b) 0 a x) 0 n 0 := by
  intro n hn
  have h1 := hs 0 1
  have h2 := hs 0 2
  have h3 := hs 0 3
  have h4 := hs 0 4
  have h5 := hs 0 5
  have h6 := hs 1 2
  have h7 := hs 1 3
  have h8 := hs 1 4
  have h9 := hs 1 5
  have h10 := hs 2 3
  have h11 := hs 2 4
  have h12 := hs 2 5
  have h13 := hs 3 4
  have h14 := hs 3 5
  have h15 := hs 4 5
  rcases (show n = 0 ∨ n = 1 ∨ n = 2 ∨ n = 3 ∨ n = 4 ∨ n = 5 ∨ n = 6 by omega) with rfl | rfl | rfl | rfl | rfl | rfl | rfl <;> simp only [fldN, Nat.reduceAdd, Nat.reduceSub] <;> omega
def sPair (n : Nat) (f : Nat → Nat → Nat) : Nat := fldN (fun a x => fldN (fun b x => x + f a b) 0 a x) 0 n 0
theorem sPair_le {f : Nat → Nat → Nat} {B : Nat} : ∀ n, n ≤ 6 → (∀ a b, a < 6 → b < 6 → f a b ≤ B) → sPair n f ≤ 15 * B := by
  intro n hn h
  have h1 := h 1 0 (by decide) (by decide)
  have h2 := h 2 0 (by decide) (by decide)
  have h3 := h 2 1 (by decide) (by decide)
  have h4 := h 3 0 (by decide) (by decide)
  have h5 := h 3 1 (by decide) (by decide)
  have h6 := h 3 2 (by decide) (by decide)
  have h7 := h 4 0 (by decide) (by decide)
  have h8 := h 4 1 (by decide) (by decide)
  have h9 := h 4 2 (by decide) (by decide)
  have h10 := h 4 3 (by decide) (by decide)
  have h11 := h 5 0 (by decide) (by decide)
  have h12 := h 5 1 (by decide) (by decide)
  have h13 := h 5 2 (by decide) (by decide)
  have h14 := h 5 3 (by decide) (by decide)
  have h15 := h 5 4 (by decide) (by decide)
  unfold sPair
  rcases (show n = 0 ∨ n = 1 ∨ n = 2 ∨ n = 3 ∨ n = 4 ∨ n = 5 ∨ n = 6 by omega) with rfl | rfl | rfl | rfl | rfl | rfl | rfl <;> simp only [fldN, Nat.reduceAdd] <;> omega
/-- two loops, the inner one from the next: the class's way -/
theorem lp_pairC {s1 s2 : (Int32 × Int32) → Option ((Int32 × Int32) ⊕ Int32)} {inn : (Int32 × Int32) → (Int32 × Int32) → Option ((Int32 × Int32) ⊕ Int32)} {fu n : Nat} (f : Nat → Nat → Nat) (hs : ∀ a b, f a b = f b a) (hn : n ≤ 6) (hf : 100 ≤ fu)
    (h1 : ∀ a x, a < n → s1 (nI x, nI a) = bnd (lp (inn (nI x, nI a)) fu (nI x, nI (a + 1))) (fun v => some (.inl (v, nI (a + 1)))))
    (h2 : ∀ x, s1 (nI x, nI n) = some (.inr (nI x)))
    (h3 : ∀ a z b x, a < n → a < b → b < n → inn (nI z, nI a) (nI x, nI b) = some (.inl (nI (x + f a b), nI (b + 1))))
    (h4 : ∀ a z x, a < n → inn (nI z, nI a) (nI x, nI n) = some (.inr (nI x))) : lp s1 fu (0, 0) = some (nI (sPair n f)) := by
  have := lp_up0 (step := s1) (fun j x => (nI x, nI j)) (fun a x => fldN (fun b x => x + f a b) (a + 1) (n - (a + 1)) x) n (fun x => nI x) (fun a x ha => by
    have := (lp_up (step := inn (nI x, nI a)) (fun j x => (nI x, nI j)) (fun b x => x + f a b) n (fun x => nI x) (fun j _ => a < j) (fun j x' hj hP => ⟨h3 a x j x' ha hP hj, by omega⟩) (fun x' _ => h4 a x x' ha) (n - (a + 1)) fu (a + 1) x (by omega) (by omega) (by omega)).1
    rw [h1 a x ha, this, bnd_some]) (fun x => h2 x) (fu := fu) (a := 0) (by omega)
  rw [show ((0 : Int32), (0 : Int32)) = (nI 0, nI 0) from rfl, this, pairs hs n hn]
  rfl
theorem lp_pairM {s1 : (Int32 × Int32) → Option ((Int32 × Int32) ⊕ Int32)} {inn : (Int32 × Int32) → (Int32 × Int32) → Option ((Int32 × Int32) ⊕ Int32)} {fu n : Nat} (f : Nat → Nat → Nat) (hn : n ≤ 6) (hf : 100 ≤ fu)
    (h1 : ∀ a x, a < n → s1 (nI x, nI a) = bnd (lp (inn (nI x, nI a)) fu (nI x, nI 0)) (fun v => some (.inl (v, nI (a + 1)))))
    (h2 : ∀ x, s1 (nI x, nI n) = some (.inr (nI x)))
    (h3 : ∀ a z b x, a < n → b < a → inn (nI z, nI a) (nI x, nI b) = some (.inl (nI (x + f a b), nI (b + 1))))
    (h4 : ∀ a z x, a < n → inn (nI z, nI a) (nI x, nI a) = some (.inr (nI x))) : lp s1 fu (0, 0) = some (nI (sPair n f)) :=
  lp_up0 (step := s1) (fun j x => (nI x, nI j)) (fun a x => fldN (fun b x => x + f a b) 0 a x) n (fun x => nI x) (fun a x ha => by
    have := lp_up0 (step := inn (nI x, nI a)) (fun j x => (nI x, nI j)) (fun b x => x + f a b) a (fun x => nI x) (fun j x' hj => h3 a x j x' ha hj) (fun x' => h4 a x x' ha) (fu := fu) (a := x) (by omega)
    rw [h1 a x ha, this, bnd_some]) (fun x => h2 x) (fu := fu) (a := 0) (by omega)
theorem nle (a b : Int32) : ¬ a ≤ b ↔ b < a := by
  rw [fa_le, fa_lt]; omega
/-- a mask by members -/
theorem mask_on {P : Nat → Prop} [DecidablePred P] : ∀ n, n ≤ 6 → on (fldN (fun j x => if P j then x else x ||| 2 ^ j) 0 n 0) = fldN (fun j x => if P j then x else x + 1) 0 n 0 ∧ fldN (fun j x => if P j then x else x ||| 2 ^ j) 0 n 0 < 2 ^ n := by
  intro n
  induction n with
  | zero => intro _; exact ⟨show on 0 = 0 by decide, show 0 < 2 ^ 0 by decide⟩
  | succ n ih =>
    intro hn
    obtain ⟨h1, h2⟩ := ih (by omega)
    rw [fldN_succ, fldN_succ, Nat.zero_add]
    by_cases q : P n
    · rw [if_pos q, if_pos q]
      exact ⟨h1, Nat.lt_trans h2 (pw_lt (by omega))⟩
    · rw [if_neg q, if_neg q]
      have := on_add n (by omega) _ h2
      exact ⟨by rw [this.1, h1], this.2⟩
theorem mask_bt {P : Nat → Prop} [DecidablePred P] {i : Nat} : ∀ n, (bt (fldN (fun j x => if P j then x else x ||| 2 ^ j) 0 n 0) i ↔ i < n ∧ ¬ P i) := by
  intro n
  induction n with
  | zero => exact ⟨fun h => absurd h bt_0, fun h => absurd h.1 (by omega)⟩
  | succ n ih =>
    rw [fldN_succ, Nat.zero_add]
    by_cases q : P n
    · rw [if_pos q, ih]
      constructor
      · rintro ⟨h1, h2⟩; exact ⟨by omega, h2⟩
      · rintro ⟨h1, h2⟩
        refine ⟨?_, h2⟩
        by_cases e : i = n
        · rw [e] at h2; exact absurd q h2
        · omega
    · rw [if_neg q, bt_or, ih, bt_pow]
      constructor
      · rintro (⟨h1, h2⟩ | h)
        · exact ⟨by omega, h2⟩
        · rw [← h]; exact ⟨by omega, q⟩
      · rintro ⟨h1, h2⟩
        by_cases e : i = n
        · exact Or.inr e.symm
        · exact Or.inl ⟨by omega, h2⟩
theorem sum_0 {f : Nat → Nat} : ∀ n, (fldN (fun j x => x + f j) 0 n 0 = 0 ↔ ∀ j, j < n → f j = 0) := by
  intro n
  induction n with
  | zero => exact ⟨fun _ j hj => absurd hj (by omega), fun _ => rfl⟩
  | succ n ih =>
    rw [fldN_succ, Nat.zero_add]
    constructor
    · intro h j hj
      by_cases e : j = n
      · rw [e]; omega
      · exact (ih.1 (by omega)) j (by omega)
    · intro h
      have h1 := ih.2 (fun j hj => h j (by omega))
      have h2 := h n (by omega)
      omega
