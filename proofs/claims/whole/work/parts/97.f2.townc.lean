/-! ===== what a town's lines tell ===== -/
def TwO (n : Nat) (w pu h o : Nat → Nat) (tm m : Nat) (x : KT) (told : FN) (far : Int32) : Prop :=
  TwC n w pu h o x.1 x.2.1 x.2.2.1 x.2.2.2.1 x.2.2.2.2.1 ∧ TwM n w pu h o told 0 ∧ x.2.2.2.2.2.2.2.2.2 = nI tm ∧ m ≤ 6 ∧ ((m = 0 ∧ far = -1) ∨ ∃ t, m = t + 1 ∧ far = nI t) ∧ (∀ j, tm < 2 ^ j ↔ m ≤ j) ∧ (∀ i, i < 6 → w i ≤ 9) ∧ (∀ i, i < 6 → pu i ≤ 99) ∧ (∀ i, i < 6 → ∀ j, tm < 2 ^ j → h i < 2 ^ j) ∧ (∀ i, i < 36 → o i ≤ 30) ∧ (∀ i j, i < 6 → j < 6 → (bt (h i) j ↔ bt (h j) i)) ∧ (∀ i, i < 6 → ¬ bt (h i) i) ∧ (∀ a b, a < 6 → b < 6 → o (6 * a + b) ≠ 0 → a ≠ b ∧ ∀ j, tm < 2 ^ j → a < j ∧ b < j)
def KTw : Int32 → KT → FN → Int32 → Prop := fun cf x told far => ∃ n, n ≤ 6 ∧ told 0 = nI n ∧ (cf = 0 → ∃ w pu h o tm m, TwO n w pu h o tm m x told far)
section TWC
variable {n tm m : Nat} {w pu h o : Nat → Nat} {p q : Int32} {wi pr ha ow : FN} {d e : Int32} {c l : FN} {told : FN} {far : Int32}
/-- all whom the town tells of are there: it is a town -/
theorem TwO_V {x : KT} (T : TwO n w pu h o tm m x told far) (hn : n ≤ 6) (ht : tm < 2 ^ n) : TwV n w pu h o := by
  obtain ⟨t1, t2, t3, t4, t5, t6, t7, t8, t9, t10, t11, t12, t13⟩ := T
  refine ⟨hn, t7, t8, fun i hi => t9 i hi n ht, t10, fun i j hi hj => ?_, fun i hi => ?_, fun a b ha hb hab => ?_⟩
  · rcases bi_01 (h i) j with z | z
    · rcases bi_01 (h j) i with y | y
      · rw [z, y]
      · have z' : bi (h i) j = 1 := (t11 i j hi hj).2 y
        omega
    · have y : bi (h j) i = 1 := (t11 i j hi hj).1 z
      have z : bi (h i) j = 1 := z
      rw [z, y]
  · rcases bi_01 (h i) i with z | z
    · exact z
    · exact absurd z (t12 i hi)
  · by_cases z : o (6 * a + b) = 0
    · exact z
    · obtain ⟨y1, y2⟩ := t13 a b ha hb z
      have := y2 n ht
      omega
theorem m1_le6 : ∀ t, t < 6 → (-1 : Int32) ≤ nI t := by decide
theorem pwlt2 {a j : Nat} : 2 ^ a < 2 ^ j ↔ a < j := Nat.pow_lt_pow_iff_right (by decide)
theorem or_lt {a b j : Nat} : a ||| b < 2 ^ j ↔ a < 2 ^ j ∧ b < 2 ^ j :=
  ⟨fun z => ⟨Nat.lt_of_le_of_lt Nat.left_le_or z, Nat.lt_of_le_of_lt Nat.right_le_or z⟩, fun z => Nat.or_lt_two_pow z.1 z.2⟩
/-- a person more -/
theorem TwO_person {v0 v1 : Nat} {wi9 pr9 told9 : FN} (T : TwO n w pu h o tm m (p, wi, pr, ha, ow, d, c, e, l, q) told far) (hn : n < 6) (h0 : v0 ≤ 9) (h1 : v1 ≤ 99) (a1 : wi9 = upd wi n (nI v0)) (a2 : pr9 = upd pr n (nI v1)) (a3 : told9 = upd (upd (upd told (1 + n) (nI v0)) (7 + n) (nI v1)) 0 (nI (n + 1))) :
    ∃ w' pu', TwO (n + 1) w' pu' h o tm m (nI (n + 1), wi9, pr9, ha, ow, d, c, e, l, q) told9 far := by
  obtain ⟨⟨c1, c2, c3, c4, c5⟩, ⟨m1, m2, m3, m4, m5⟩, t3, t4, t5, t6, t7, t8, t9⟩ := T
  refine ⟨fun i => if i = n then v0 else w i, fun i => if i = n then v1 else pu i, ⟨rfl, fun i hi => ?_, fun i hi => ?_, c4, c5⟩, ⟨?_, fun i hi => ?_, fun i hi => ?_, fun i hi => ?_, fun i hi => ?_⟩, t3, t4, t5, t6, fun i hi => ?_, fun i hi => ?_, t9⟩
  · show wi9 i = nI (if i = n then v0 else w i)
    rw [a1]
    by_cases z : i = n
    · rw [if_pos z, z]; exact pk_us
    · rw [if_neg z, pk_un z]; exact c2 i (by omega)
  · show pr9 i = nI (if i = n then v1 else pu i)
    rw [a2]
    by_cases z : i = n
    · rw [if_pos z, z]; exact pk_us
    · rw [if_neg z, pk_un z]; exact c3 i (by omega)
  · rw [a3]; exact pk_us
  · rw [a3, pk_un (by omega), pk_un (by omega)]
    show _ = nI (if i = n then v0 else w i)
    by_cases z : i = n
    · rw [if_pos z, z, show 0 + 1 + n = 1 + n by omega]; exact pk_us
    · rw [if_neg z, pk_un (by omega)]; exact m2 i hi
  · rw [a3, pk_un (by omega)]
    show _ = nI (if i = n then v1 else pu i)
    by_cases z : i = n
    · rw [if_pos z, z, show 0 + 7 + n = 7 + n by omega]; exact pk_us
    · rw [if_neg z, pk_un (by omega), pk_un (by omega)]; exact m3 i hi
  · rw [a3, pk_un (by omega), pk_un (by omega), pk_un (by omega)]; exact m4 i hi
  · rw [a3, pk_un (by omega), pk_un (by omega), pk_un (by omega)]; exact m5 i hi
  · show (if i = n then v0 else w i) ≤ 9
    by_cases z : i = n
    · rw [if_pos z]; exact h0
    · rw [if_neg z]; exact t7 i hi
  · show (if i = n then v1 else pu i) ≤ 99
    by_cases z : i = n
    · rw [if_pos z]; exact h1
    · rw [if_neg z]; exact t8 i hi
/-- how far it tells, with two more -/
theorem far_two {a b : Nat} (ha : a < 6) (hb : b < 6) (h4 : m ≤ 6) (h5 : (m = 0 ∧ far = -1) ∨ ∃ t, m = t + 1 ∧ far = nI t) (h6 : ∀ j, tm < 2 ^ j ↔ m ≤ j) {fu : Nat} : ∃ x11 far' m', f_X12_greater fu (nI a) (nI b) = some x11 ∧ f_X12_greater fu far x11 = some far' ∧ m' ≤ 6 ∧ ((m' = 0 ∧ far' = -1) ∨ ∃ t, m' = t + 1 ∧ far' = nI t) ∧ ∀ j, tm ||| (2 ^ a ||| 2 ^ b) < 2 ^ j ↔ m' ≤ j := by
  have g1 : f_X12_greater fu (nI a) (nI b) = some (nI (max a b)) := by
    unfold f_X12_greater
    by_cases z : a ≤ b
    · rw [if_pos (nI_le z (by omega)), Nat.max_eq_right z]
    · rw [if_neg (nI_ge (by omega) (by omega)), Nat.max_eq_left (by omega)]
  refine ⟨nI (max a b), nI (max (m - 1) (max a b)), max m (max a b + 1), g1, ?_, by omega, Or.inr ⟨max (m - 1) (max a b), by omega, rfl⟩, fun j => ?_⟩
  · unfold f_X12_greater
    rcases h5 with ⟨z1, z2⟩ | ⟨t, z1, z2⟩
    · rw [z2, if_pos (m1_le6 _ (by omega)), show max (m - 1) (max a b) = max a b by omega]
    · rw [z2]
      by_cases y : t ≤ max a b
      · rw [if_pos (nI_le y (by omega)), show max (m - 1) (max a b) = max a b by omega]
      · rw [if_neg (nI_ge (by omega) (by omega)), show max (m - 1) (max a b) = t by omega]
  · rw [or_lt, or_lt, pwlt2, pwlt2, h6]
    omega
end TWC
