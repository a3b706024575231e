/-! ===== greater, lesser, in; fractions ===== -/
theorem e_greater {fu : Nat} (a b : Int32) : f_X12_greater fu a b = some (jmax a b) := by
  unfold f_X12_greater jmax
  by_cases h : a < b
  · rw [if_pos h, if_pos (by rw [fa_le]; rw [fa_lt] at h; omega)]
  · by_cases h2 : a ≤ b
    · have e : a = b := by rw [fa_eq]; rw [fa_le] at h2; rw [fa_lt] at h; omega
      rw [if_pos h2, if_neg h, e]
    · rw [if_neg h2, if_neg h]
theorem e_lesser {fu : Nat} (a b : Int32) : f_X12_lesser fu a b = some (jmin a b) := by
  unfold f_X12_lesser jmin
  by_cases h : b < a
  · rw [if_pos h, if_pos (by rw [fa_le]; rw [fa_lt] at h; omega)]
  · by_cases h2 : b ≤ a
    · have e : b = a := by rw [fa_eq]; rw [fa_le] at h2; rw [fa_lt] at h; omega
      rw [if_pos h2, if_neg h, e]
    · rw [if_neg h2, if_neg h]
theorem jmax_n {a b : Nat} (ha : a < 2 ^ 31) (hb : b < 2 ^ 31) : jmax (nI a) (nI b) = nI (max a b) := by
  unfold jmax
  by_cases h : a < b
  · rw [if_pos (nI_lt h hb), Nat.max_eq_right (by omega)]
  · rw [if_neg (nI_nlt (by omega) ha), Nat.max_eq_left (by omega)]
theorem jmin_n {a b : Nat} (ha : a < 2 ^ 31) (hb : b < 2 ^ 31) : jmin (nI a) (nI b) = nI (min a b) := by
  unfold jmin
  by_cases h : b < a
  · rw [if_pos (nI_lt h ha), Nat.min_eq_right (by omega)]
  · rw [if_neg (nI_nlt (by omega) hb), Nat.min_eq_left (by omega)]
theorem rng {fu : Nat} (x : Int32) (N : Nat) (hN : N < 2 ^ 31) : (∃ j, j ≤ N ∧ x = nI j ∧ f_X12_in fu x 0 (nI N) = some 1 ∧ ¬ x < 0 ∧ x ≤ nI N ∧ ¬ nI N < x) ∨ (f_X12_in fu x 0 (nI N) = some 0 ∧ (x < 0 ∨ (¬ x < 0 ∧ ¬ x ≤ nI N ∧ nI N < x))) := by
  by_cases h1 : x < 0
  · exact Or.inr ⟨by simp only [f_X12_in, if_pos h1], Or.inl h1⟩
  · obtain ⟨j, hj, rfl⟩ := nI_of h1
    by_cases h2 : j ≤ N
    · have h3 : ¬ nI N < nI j := nI_nlt h2 hN
      exact Or.inl ⟨j, h2, rfl, by simp only [f_X12_in, if_neg h1, if_neg h3], h1, nI_le h2 hN, h3⟩
    · have h3 : nI N < nI j := nI_lt (by omega) hj
      exact Or.inr ⟨by simp only [f_X12_in, if_neg h1, if_pos h3], Or.inr ⟨h1, nI_ge (by omega) hj, h3⟩⟩
theorem half {b r : Nat} (hr : r < b) (h0 : 0 < r) : 2 * (b % r) < b := by
  have h1 : b % r < r := Nat.mod_lt _ h0
  have h2 := Nat.div_add_mod b r
  have h3 : 1 ≤ b / r := (Nat.one_le_div_iff h0).2 (by omega)
  have h4 : r * 1 ≤ r * (b / r) := Nat.mul_le_mul_left r h3
  omega
theorem jrl_n {a b : Nat} (ha : a < 2 ^ 63) (h0 : 0 < b) (hb : b < 2 ^ 63) : rml (lN a) (lN b) = some (lN (a % b)) := by
  unfold rml jrl
  rw [if_neg (by rw [show (0 : Int64) = lN 0 from rfl, pk_lEQ hb (by decide)]; omega), pk_lRem ha h0 hb]
theorem lN_z {b : Nat} (hb : b < 2 ^ 63) : lg_cmp (lN b) 0 = 0 ↔ b = 0 := by
  rw [lg_cmp_eq, show (0 : Int64) = lN 0 from rfl, pk_lEQ hb (by decide)]
theorem gcd1 : ∀ (k a b c fu : Nat), b < 2 ^ k → a < 2 ^ 63 → b < 2 ^ 63 → c + 2 * k + 1 ≤ 200 → 2 * k + 1 < fu → lp f_X3_lowest_L9 fu (lN a, lN b, nI c) = some (lN (Nat.gcd a b)) ∧ lp f_X12_common_L6 fu (lN a, lN b) = some (lN (Nat.gcd a b)) := by
  have stop : ∀ (a c f : Nat), c < 200 → lp f_X3_lowest_L9 (f + 1) (lN a, lN 0, nI c) = some (lN a) ∧ lp f_X12_common_L6 (f + 1) (lN a, lN 0) = some (lN a) := by
    intro a c f hc
    constructor
    · show bnd (f_X3_lowest_L9 (lN a, lN 0, nI c)) _ = _
      simp only [f_X3_lowest_L9, li_200, if_neg (nI_ge hc (by decide : 200 < 2 ^ 31)), if_pos ((lN_z (b := 0) (by decide)).2 rfl), bnd_some]
    · show bnd (f_X12_common_L6 (lN a, lN 0)) _ = _
      simp only [f_X12_common_L6, if_pos ((lN_z (b := 0) (by decide)).2 rfl), bnd_some]
  have one : ∀ (a b c f : Nat), c < 200 → a < 2 ^ 63 → b < 2 ^ 63 → 0 < b → lp f_X3_lowest_L9 (f + 1) (lN a, lN b, nI c) = lp f_X3_lowest_L9 f (lN b, lN (a % b), nI (c + 1)) ∧ lp f_X12_common_L6 (f + 1) (lN a, lN b) = lp f_X12_common_L6 f (lN b, lN (a % b)) := by
    intro a b c f hc ha hb h0
    have hz : ¬ lg_cmp (lN b) 0 = 0 := fun z => absurd ((lN_z hb).1 z) (by omega)
    constructor
    · show bnd (f_X3_lowest_L9 (lN a, lN b, nI c)) _ = _
      simp only [f_X3_lowest_L9, li_200, if_neg (nI_ge hc (by decide : 200 < 2 ^ 31)), if_neg hz, jrl_n ha h0 hb, bnd_some, nI_1]
    · show bnd (f_X12_common_L6 (lN a, lN b)) _ = _
      simp only [f_X12_common_L6, if_neg hz, jrl_n ha h0 hb, bnd_some]
  intro k
  induction k with
  | zero =>
    intro a b c fu hb ha _ hc hf
    have : b = 0 := by simpa using hb
    subst this
    obtain ⟨f, rfl⟩ : ∃ f, fu = f + 1 := ⟨fu - 1, by omega⟩
    rw [Nat.gcd_zero_right]
    exact stop a c f (by omega)
  | succ k ih =>
    intro a b c fu hb ha hb2 hc hf
    obtain ⟨f, rfl⟩ : ∃ f, fu = f + 1 := ⟨fu - 1, by omega⟩
    by_cases h0 : b = 0
    · subst h0
      rw [Nat.gcd_zero_right]
      exact stop a c f (by omega)
    · have hr : a % b < b := Nat.mod_lt _ (by omega)
      obtain ⟨f, rfl⟩ : ∃ g, f = g + 1 := ⟨f - 1, by omega⟩
      rw [(one a b c (f + 1) (by omega) ha hb2 (by omega)).1, (one a b c (f + 1) (by omega) ha hb2 (by omega)).2]
      have eg : Nat.gcd a b = Nat.gcd b (a % b) := by rw [Nat.gcd_comm a b, Nat.gcd_rec b a, Nat.gcd_comm]
      by_cases h1 : a % b = 0
      · rw [h1, eg, h1, Nat.gcd_zero_right]
        exact stop b (c + 1) f (by omega)
      · rw [(one b (a % b) (c + 1) f (by omega) hb2 (by omega) (by omega)).1, (one b (a % b) (c + 1) f (by omega) hb2 (by omega) (by omega)).2]
        have hh := half hr (by omega)
        have eg2 : Nat.gcd b (a % b) = Nat.gcd (a % b) (b % (a % b)) := by rw [Nat.gcd_comm b (a % b), Nat.gcd_rec (a % b) b, Nat.gcd_comm]
        rw [eg, eg2]
        exact ih (a % b) (b % (a % b)) (c + 2) f (by rw [Nat.pow_succ] at hb; omega) (by omega) (by omega) (by omega) (by omega)
def sPart (a b : Nat) (u : Int32) : Int64 := if u = 0 then lN (a / Nat.gcd b a) else lN (b / Nat.gcd b a)
theorem dvl_n {a b : Nat} (ha : a < 2 ^ 63) (h0 : 0 < b) (hb : b < 2 ^ 63) : dvl (lN a) (lN b) = some (lN (a / b)) := by
  unfold dvl
  rw [if_neg (by rw [show (0 : Int64) = lN 0 from rfl, pk_lEQ hb (by decide)]; omega), pk_lDiv ha h0 hb]
theorem e_lowest {fu a b : Nat} {u : Int32} (ha : a < 2 ^ 63) (h0 : 0 < b) (hb : b < 2 ^ 63) (hf : 200 ≤ fu) : f_X3_lowest fu (lN a) (lN b) u = some (sPart a b u) ∧ f_X12_part fu (lN a) (lN b) u = some (sPart a b u) := by
  obtain ⟨g1, g2⟩ := gcd1 63 b a 0 fu ha hb ha (by omega) (by omega)
  have gp : 0 < Nat.gcd b a := Nat.gcd_pos_of_pos_left a h0
  have gl : Nat.gcd b a < 2 ^ 63 := Nat.lt_of_le_of_lt (Nat.gcd_le_left a h0) hb
  have hz : ¬ lg_cmp (lN (Nat.gcd b a)) 0 = 0 := fun z => absurd ((lN_z gl).1 z) (by omega)
  have g1' : lp f_X3_lowest_L9 fu (lN b, lN a, (0 : Int32)) = some (lN (Nat.gcd b a)) := g1
  unfold f_X3_lowest f_X12_part f_X12_common sPart
  simp only [g1', g2, bnd_some, if_neg hz, dvl_n ha gp gl, dvl_n hb gp gl]
  constructor <;> (split <;> rfl)
/-! ===== sums and firsts ===== -/
theorem fld_le {f : Nat → Nat} {B : Nat} : ∀ (k j x : Nat), (∀ i, i < j + k → f i ≤ B) → fldN (fun j x => x + f j) j k x ≤ x + B * k := by
  intro k
  induction k with
  | zero => intro j x _; show x ≤ _; omega
  | succ k ih =>
    intro j x h
    have h1 := ih (j + 1) (x + f j) (fun i hi => h i (by omega))
    have h2 := h j (by omega)
    show fldN _ (j + 1) k (x + f j) ≤ _
    rw [Nat.mul_succ]
    omega
theorem sOwes_le {n p : Nat} {o : Nat → Nat} (hn : n ≤ 6) (hp : p < 6) (h9 : ∀ i, i < 36 → o i ≤ 99) : sOwes n o p ≤ 594 := by
  have := fld_le (f := fun j => o (6 * p + j)) (B := 99) n 0 0 (fun i hi => h9 _ (by omega))
  unfold sOwes
  omega
theorem sOwed_le {n p : Nat} {o : Nat → Nat} (hn : n ≤ 6) (hp : p < 6) (h9 : ∀ i, i < 36 → o i ≤ 99) : sOwed n o p ≤ 594 := by
  have := fld_le (f := fun j => o (6 * j + p)) (B := 99) n 0 0 (fun i hi => h9 _ (by omega))
  unfold sOwed
  omega
/-- who is first by an order (none: nobody) -/
def enc : Option Nat → Int32
  | none => -1
  | some k => nI k
def encV (v : Nat → Int32) (d : Int32) : Option Nat → Int32
  | none => d
  | some k => v k
def fst (lt : Nat → Nat → Prop) [∀ a b, Decidable (lt a b)] (j : Nat) (b : Option Nat) : Option Nat := match b with
  | none => some j
  | some k => if lt k j then some j else some k
def bel (n : Nat) (b : Option Nat) : Prop := ∀ k, b = some k → k < n
theorem bel_fst {lt : Nat → Nat → Prop} [∀ a b, Decidable (lt a b)] {j : Nat} {b : Option Nat} (h : bel j b) : bel (j + 1) (fst lt j b) := by
  intro k hk
  cases b with
  | none => cases hk; omega
  | some i =>
    have := h i rfl
    unfold fst at hk
    simp only at hk
    split at hk <;> (cases hk; omega)
theorem nI_nm1 {k : Nat} (h : k < 2 ^ 31) : ¬ nI k = (-1 : Int32) := by
  rw [fa_eq, nI_toInt h]
  show ¬ ((k : Int) = -1)
  omega
theorem nI_nlm1 {k : Nat} (h : k < 2 ^ 31) : ¬ nI k ≤ (-1 : Int32) := by
  rw [fa_le, nI_toInt h]
  show ¬ ((k : Int) ≤ -1)
  omega
section P5
variable {fu n t p : Nat} {w pu h o : Nat → Nat} {wi pr ha ow : Nat → Int32}
def sRel (n : Nat) (o : Nat → Nat) (x : Int32) : Int32 := fldN (fun j z => z + jmax 0 (nI (sOwes n o j) - x)) 0 n 0
theorem e_X0_forgivenDownTo {x : Int32} (ho : ∀ i, i < 36 → ow i = nI (o i)) (hn : n ≤ 6) (hf : 100 ≤ fu) : f_X0_forgivenDownTo fu (nI n) ow x = some (sRel n o x) := by
  have h := lp_up0 (step := f_X0_forgivenDownTo_L4 fu (nI n) ow x) (fun j z => (z, nI j)) (fun j z => z + jmax 0 (nI (sOwes n o j) - x)) n (fun z => z) (fun j z hj => by
    simp only [f_X0_forgivenDownTo_L4, if_neg (nI_ge hj (by omega : n < 2 ^ 31)), e_X9_owesInAll (fu := fu) ho hn (by omega : j < 6) hf, bnd_some, ltn, nI_1]) (fun z => by
    simp only [f_X0_forgivenDownTo_L4, if_pos (nI_le (Nat.le_refl n) (by omega : n < 2 ^ 31))]) (fu := fu) (a := (0 : Int32)) (by omega)
  unfold f_X0_forgivenDownTo
  exact bnd_r h
theorem e_relief {x : Int32} {y : HT} (hy : Hd t n pu o y) (hn : n ≤ 6) (hf : 100 ≤ fu) : lp (f_X12_relief_L30 fu x y) fu ((0 : Int32), (0 : Int32)) = some (sRel n o x) := by
  obtain ⟨y1, y2, y3, -, y5, -, y7, -, -⟩ := hy
  exact lp_up0 (step := f_X12_relief_L30 fu x y) (fun j z => (z, nI j)) (fun j z => z + jmax 0 (nI (sOwes n o j) - x)) n (fun z => z) (fun j z hj => by
    simp only [f_X12_relief_L30, y3, if_neg (nI_ge hj (by omega : n < 2 ^ 31)), e_X12_owesAll (fu := fu) y7 hn (by omega : j < 6) hf, e_greater, bnd_some, ltn, nI_1]) (fun z => by
    simp only [f_X12_relief_L30, y3, if_pos (nI_le (Nat.le_refl n) (by omega : n < 2 ^ 31))]) (fu := fu) (a := (0 : Int32)) (by omega)
def sGst (n : Nat) (pu : Nat → Nat) (x : Int32) : Nat := fldN (fun j z => z + if nI (pu j) < x then 0 else 1) 0 n 0
theorem sGst_le {x : Int32} : sGst n pu x ≤ n := by
  have := fld_le (f := fun j => if nI (pu j) < x then 0 else 1) (B := 1) n 0 0 (fun i _ => by by_cases q : nI (pu i) < x <;> simp [q])
  unfold sGst
  omega
theorem e_X3_ofGuest {x u : Int32} (hpr : ∀ i, i < n → pr i = nI (pu i)) (h0 : 0 < n) (hn : n ≤ 6) (hf : 200 ≤ fu) : f_X3_ofGuest fu (nI n) pr x u = some (sPart (sGst n pu x) n u) := by
  have h := lp_up0 (step := f_X3_ofGuest_L5 (nI n) pr x) (fun j z => (nI z, nI j)) (fun j z => z + if nI (pu j) < x then 0 else 1) n (fun z => nI z) (fun j z hj => by
    simp only [f_X3_ofGuest_L5, if_neg (nI_ge hj (by omega : n < 2 ^ 31)), rdi_n (by omega : j < 6) (by decide) (hpr j hj), bnd_some, ltn, nI_1]
    split <;> rfl) (fun z => by
    simp only [f_X3_ofGuest_L5, if_pos (nI_le (Nat.le_refl n) (by omega : n < 2 ^ 31))]) (fu := fu) (a := 0) (by omega)
  have hl := sGst_le (n := n) (pu := pu) (x := x)
  unfold f_X3_ofGuest
  rw [show ((0 : Int32), (0 : Int32)) = (nI 0, nI 0) from rfl, bnd_r h]
  show bnd (f_X3_lowest fu (nI (sGst n pu x)).toInt64 _ _) _ = _
  rw [nI_l (by omega), nI_l (by omega), (e_lowest (by omega) h0 (by omega) hf).1]
  rfl
theorem e_guest {x : Int32} {y : HT} (hy : Hd t n pu o y) (hn : n ≤ 6) (hf : 100 ≤ fu) : lp (f_X12_guest_L40 x y) fu ((0 : Int64), (0 : Int32)) = some (lN (sGst n pu x)) := by
  obtain ⟨y1, y2, y3, -, y5, -, y7, -, -⟩ := hy
  exact lp_up0 (step := f_X12_guest_L40 x y) (fun j z => (lN z, nI j)) (fun j z => z + if nI (pu j) < x then 0 else 1) n (fun z => lN z) (fun j z hj => by
    simp only [f_X12_guest_L40, y3, if_neg (nI_ge hj (by omega : n < 2 ^ 31)), rdi_n (by omega : j < 6) (by decide) (y5 j (by omega)), bnd_some, ltn, nI_1]
    split
    · rw [show (0 : Int64) = lN 0 from rfl, lN_add]
    · rw [show (1 : Int64) = lN 1 from rfl, lN_add]) (fun z => by
    simp only [f_X12_guest_L40, y3, if_pos (nI_le (Nat.le_refl n) (by omega : n < 2 ^ 31))]) (fu := fu) (a := 0) (by omega)
def sRota (n : Nat) (o : Nat → Nat) : Option Nat := fldN (fst (fun k j => sOwed n o k < sOwed n o j)) 0 n none
theorem bel_fld {lt : Nat → Nat → Prop} [∀ a b, Decidable (lt a b)] : ∀ (k j : Nat) (b : Option Nat), bel j b → bel (j + k) (fldN (fst lt) j k b) := by
  intro k
  induction k with
  | zero => intro j b h; exact h
  | succ k ih =>
    intro j b h
    have := ih (j + 1) (fst lt j b) (bel_fst h)
    rw [show j + (k + 1) = j + 1 + k by omega]
    exact this
theorem e_X0_longestRota {u : Int32} (ho : ∀ i, i < 36 → ow i = nI (o i)) (h9 : ∀ i, i < 36 → o i ≤ 99) (hn : n ≤ 6) (hf : 100 ≤ fu) : f_X0_longestRota fu (nI n) ow u = some (if u = 0 then encV (fun k => nI (sOwed n o k)) 0 (sRota n o) else enc (sRota n o)) := by
  have h := lp_up (step := f_X0_longestRota_L7 fu (nI n) ow) (fun j b => (encV (fun k => nI (sOwed n o k)) (-1) b, enc b, nI j)) (fst (fun k j => sOwed n o k < sOwed n o j)) n (fun b => (encV (fun k => nI (sOwed n o k)) (-1) b, enc b)) (fun j b => bel j b) (fun j b hj hb => by
    refine ⟨?_, bel_fst hb⟩
    have l1 := sOwed_le (p := j) hn (by omega) h9
    simp only [f_X0_longestRota_L7, if_neg (nI_ge hj (by omega : n < 2 ^ 31)), e_X9_isOwedInAll (fu := fu) ho hn (by omega : j < 6) hf, bnd_some, ltn, nI_1]
    cases b with
    | none =>
      exact if_neg (nI_nlm1 (show sOwed n o j < 2 ^ 31 by omega))
    | some k =>
      have := hb k rfl
      have l2 := sOwed_le (p := k) hn (by omega) h9
      simp only [encV, fst, enc, nI_leI (show sOwed n o j < 2 ^ 31 by omega) (show sOwed n o k < 2 ^ 31 by omega)]
      by_cases q : sOwed n o k < sOwed n o j
      · rw [if_neg (by omega), if_pos q]
      · rw [if_pos (by omega), if_neg q]) (fun b _ => by
    simp only [f_X0_longestRota_L7, if_pos (nI_le (Nat.le_refl n) (by omega : n < 2 ^ 31))]) n fu 0 none (by omega) (by omega) (fun k hk => by cases hk)
  unfold f_X0_longestRota
  rw [show ((-1 : Int32), (-1 : Int32), (0 : Int32)) = (encV (fun k => nI (sOwed n o k)) (-1) none, enc none, nI 0) from rfl, bnd_r h.1]
  have hb := h.2
  show (if u = 0 then some (jmax 0 (encV (fun k => nI (sOwed n o k)) (-1) (sRota n o))) else some (enc (sRota n o))) = _
  change bel n (sRota n o) at hb
  by_cases q : u = 0
  · rw [if_pos q, if_pos q]
    cases e : sRota n o with
    | none => rfl
    | some k =>
      have := hb k e
      have l2 := sOwed_le (p := k) hn (by omega) h9
      show some (jmax (nI 0) (nI (sOwed n o k))) = _
      rw [jmax_n (by decide) (by omega), Nat.max_eq_right (by omega)]
      rfl
  · rw [if_neg q, if_neg q]
theorem e_rota {y : HT} (hy : Hd t n pu o y) (h9 : ∀ i, i < 36 → o i ≤ 99) (hn : n ≤ 6) (hf : 100 ≤ fu) : lp (f_X12_rota_L21 fu y) fu ((-1 : Int32), (0 : Int32)) = some (enc (sRota n o)) ∧ bel n (sRota n o) := by
  obtain ⟨y1, y2, y3, -, y5, -, y7, -, -⟩ := hy
  exact lp_up (step := f_X12_rota_L21 fu y) (fun j b => (enc b, nI j)) (fst (fun k j => sOwed n o k < sOwed n o j)) n (fun b => enc b) (fun j b => bel j b) (fun j b hj hb => by
    refine ⟨?_, bel_fst hb⟩
    have l1 := sOwed_le (p := j) hn (by omega) h9
    simp only [f_X12_rota_L21, y3, if_neg (nI_ge hj (by omega : n < 2 ^ 31)), e_X12_owedAll (fu := fu) y7 hn (by omega : j < 6) hf, bnd_some, ltn, nI_1]
    cases b with
    | none => simp only [enc, fst, if_true]
    | some k =>
      have := hb k rfl
      have l2 := sOwed_le (p := k) hn (by omega) h9
      simp only [fst, enc, if_neg (nI_nm1 (show k < 2 ^ 31 by omega)), e_X12_owedAll (fu := fu) y7 hn (by omega : k < 6) hf, bnd_some, nI_leI (show sOwed n o j < 2 ^ 31 by omega) (show sOwed n o k < 2 ^ 31 by omega)]
      by_cases q : sOwed n o k < sOwed n o j
      · rw [if_neg (by omega), if_pos q]
      · rw [if_pos (by omega), if_neg q]) (fun b _ => by
    simp only [f_X12_rota_L21, y3, if_pos (nI_le (Nat.le_refl n) (by omega : n < 2 ^ 31))]) n fu 0 none (by omega) (by omega) (fun k hk => by cases hk)
end P5
