/-! ===== hate and owes: what they add ===== -/
section TWD
variable {fu n tm m a b : Nat} {w pu h o : Nat → Nat} {p q : Int32} {wi pr ha ow : FN} {d e : Int32} {c l : FN} {told : FN} {far : Int32}
def hN (h : Nat → Nat) (a b i : Nat) : Nat := if i = a then h a ||| 2 ^ b else if i = b then h b ||| 2 ^ a else h i
theorem hN_bt {i j : Nat} (hab : a ≠ b) : bt (hN h a b i) j ↔ bt (h i) j ∨ (i = a ∧ j = b) ∨ (i = b ∧ j = a) := by
  unfold hN
  by_cases z : i = a
  · rw [if_pos z, bt_or, bt_pow, z]
    constructor
    · rintro (y | y)
      · exact Or.inl y
      · exact Or.inr (Or.inl ⟨rfl, y.symm⟩)
    · rintro (y | ⟨-, y⟩ | ⟨y, -⟩)
      · exact Or.inl y
      · exact Or.inr y.symm
      · exact absurd y hab
  · rw [if_neg z]
    by_cases y : i = b
    · rw [if_pos y, bt_or, bt_pow, y]
      constructor
      · rintro (u | u)
        · exact Or.inl u
        · exact Or.inr (Or.inr ⟨rfl, u.symm⟩)
      · rintro (u | ⟨u, -⟩ | ⟨-, u⟩)
        · exact Or.inl u
        · exact absurd u.symm hab
        · exact Or.inr u.symm
    · rw [if_neg y]
      exact ⟨Or.inl, fun u => u.elim id (fun u => u.elim (fun u => absurd u.1 z) (fun u => absurd u.1 y))⟩
theorem TwO_hate {far' : Int32} {m' : Nat} (T : TwO n w pu h o tm m (p, wi, pr, ha, ow, d, c, e, l, q) told far) (ha6 : a < 6) (hb6 : b < 6) (hab : a ≠ b) (f1 : m' ≤ 6) (f2 : (m' = 0 ∧ far' = -1) ∨ ∃ t, m' = t + 1 ∧ far' = nI t) (f3 : ∀ j, tm ||| (2 ^ a ||| 2 ^ b) < 2 ^ j ↔ m' ≤ j) :
    TwO n w pu (hN h a b) o (tm ||| (2 ^ a ||| 2 ^ b)) m' (p, wi, pr, upd (upd ha a (nI (h a ||| 2 ^ b))) b (nI (h b ||| 2 ^ a)), ow, d, c, e, l, nI (tm ||| (2 ^ a ||| 2 ^ b))) (upd (upd told (13 + a) (nI (h a ||| 2 ^ b))) (13 + b) (nI (h b ||| 2 ^ a))) far' := by
  obtain ⟨⟨c1, c2, c3, c4, c5⟩, ⟨m1, m2, m3, m4, m5⟩, t3, t4, t5, t6, t7, t8, t9, t10, t11, t12, t13⟩ := T
  refine ⟨⟨c1, c2, c3, fun i hi => ?_, c5⟩, ⟨?_, fun i hi => ?_, fun i hi => ?_, fun i hi => ?_, fun i hi => ?_⟩, rfl, f1, f2, f3, t7, t8, fun i hi j hj => ?_, t10, fun i j hi hj => ?_, fun i hi => ?_, fun a' b' ha' hb' ho => ?_⟩
  · show upd (upd ha a (nI (h a ||| 2 ^ b))) b (nI (h b ||| 2 ^ a)) i = nI (hN h a b i)
    unfold hN
    by_cases z : i = a
    · rw [if_pos z, z, pk_un hab]; exact pk_us
    · rw [if_neg z]
      by_cases y : i = b
      · rw [if_pos y, y]; exact pk_us
      · rw [if_neg y, pk_un y, pk_un z]; exact c4 i hi
  · rw [pk_un (by omega), pk_un (by omega)]; exact m1
  · rw [pk_un (by omega), pk_un (by omega)]; exact m2 i hi
  · rw [pk_un (by omega), pk_un (by omega)]; exact m3 i hi
  · unfold hN
    by_cases z : i = a
    · rw [if_pos z, z, pk_un (show 0 + 13 + a ≠ 13 + b by clear f2 t5; omega), show 0 + 13 + a = 13 + a by clear f2 t5; omega]; exact pk_us
    · rw [if_neg z]
      by_cases y : i = b
      · rw [if_pos y, y, show 0 + 13 + b = 13 + b by omega]; exact pk_us
      · rw [if_neg y, pk_un (by omega), pk_un (by omega)]; exact m4 i hi
  · rw [pk_un (by omega), pk_un (by omega)]; exact m5 i hi
  · rw [or_lt, or_lt] at hj
    unfold hN
    by_cases z : i = a
    · rw [if_pos z, or_lt]; exact ⟨t9 a ha6 j hj.1, hj.2.2⟩
    · rw [if_neg z]
      by_cases y : i = b
      · rw [if_pos y, or_lt]; exact ⟨t9 b hb6 j hj.1, hj.2.1⟩
      · rw [if_neg y]; exact t9 i hi j hj.1
  · rw [hN_bt hab, hN_bt hab, t11 i j hi hj]
    constructor
    · rintro (y | ⟨y1, y2⟩ | ⟨y1, y2⟩)
      · exact Or.inl y
      · exact Or.inr (Or.inr ⟨y2, y1⟩)
      · exact Or.inr (Or.inl ⟨y2, y1⟩)
    · rintro (y | ⟨y1, y2⟩ | ⟨y1, y2⟩)
      · exact Or.inl y
      · exact Or.inr (Or.inr ⟨y2, y1⟩)
      · exact Or.inr (Or.inl ⟨y2, y1⟩)
  · rw [hN_bt hab]
    rintro (y | ⟨y1, y2⟩ | ⟨y1, y2⟩)
    · exact t12 i hi y
    · exact hab (y1.symm.trans y2)
    · exact hab (y2.symm.trans y1)
  · obtain ⟨z1, z2⟩ := t13 a' b' ha' hb' ho
    exact ⟨z1, fun j hj => z2 j (or_lt.1 hj).1⟩
theorem TwO_owes {far' : Int32} {m' v : Nat} (T : TwO n w pu h o tm m (p, wi, pr, ha, ow, d, c, e, l, q) told far) (ha6 : a < 6) (hb6 : b < 6) (hab : a ≠ b) (hv : v ≤ 30) (f1 : m' ≤ 6) (f2 : (m' = 0 ∧ far' = -1) ∨ ∃ t, m' = t + 1 ∧ far' = nI t) (f3 : ∀ j, tm ||| (2 ^ a ||| 2 ^ b) < 2 ^ j ↔ m' ≤ j) :
    TwO n w pu h (fun i => if i = 6 * a + b then v else o i) (tm ||| (2 ^ a ||| 2 ^ b)) m' (p, wi, pr, ha, upd ow (6 * a + b) (nI v), d, c, e, l, nI (tm ||| (2 ^ a ||| 2 ^ b))) (upd told (19 + 6 * a + b) (nI v)) far' := by
  obtain ⟨⟨c1, c2, c3, c4, c5⟩, ⟨m1, m2, m3, m4, m5⟩, t3, t4, t5, t6, t7, t8, t9, t10, t11, t12, t13⟩ := T
  refine ⟨⟨c1, c2, c3, c4, fun i hi => ?_⟩, ⟨?_, fun i hi => ?_, fun i hi => ?_, fun i hi => ?_, fun i hi => ?_⟩, rfl, f1, f2, f3, t7, t8, fun i hi j hj => t9 i hi j (or_lt.1 hj).1, fun i hi => ?_, t11, t12, fun a' b' ha' hb' ho => ?_⟩
  · show upd ow (6 * a + b) (nI v) i = nI (if i = 6 * a + b then v else o i)
    by_cases z : i = 6 * a + b
    · rw [if_pos z, z]; exact pk_us
    · rw [if_neg z, pk_un z]; exact c5 i hi
  · rw [pk_un (by omega)]; exact m1
  · rw [pk_un (by omega)]; exact m2 i hi
  · rw [pk_un (by omega)]; exact m3 i hi
  · rw [pk_un (by omega)]; exact m4 i hi
  · show _ = nI (if i = 6 * a + b then v else o i)
    by_cases z : i = 6 * a + b
    · rw [if_pos z, z, show 0 + 19 + (6 * a + b) = 19 + 6 * a + b by omega]; exact pk_us
    · rw [if_neg z, pk_un (by omega)]; exact m5 i hi
  · show (if i = 6 * a + b then v else o i) ≤ 30
    by_cases z : i = 6 * a + b
    · rw [if_pos z]; exact hv
    · rw [if_neg z]; exact t10 i hi
  · have ho : (if 6 * a' + b' = 6 * a + b then v else o (6 * a' + b')) ≠ 0 := ho
    by_cases z : 6 * a' + b' = 6 * a + b
    · obtain rfl : a' = a := by omega
      obtain rfl : b' = b := by omega
      refine ⟨hab, fun j hj => ?_⟩
      have := or_lt.1 (or_lt.1 hj).2
      exact ⟨pwlt2.1 this.1, pwlt2.1 this.2⟩
    · rw [if_neg z] at ho
      obtain ⟨z1, z2⟩ := t13 a' b' ha' hb' ho
      exact ⟨z1, fun j hj => z2 j (or_lt.1 hj).1⟩
/-- the class keeps a line of a town -/
theorem C_keepP {v0 v1 y2 : Int32} (hn : n < 6) : f_X5_keepOfTown fu (nI n) wi pr ha ow q 0 v0 v1 y2 = some (nI (n + 1), upd wi n v0, upd pr n v1, ha, ow, q) := by
  unfold f_X5_keepOfTown
  rw [if_pos rfl, if_neg (show ¬ (6 : Int32) ≤ nI n by rw [show (6 : Int32) = nI 6 from rfl]; exact nI_ge hn (by decide)), wri_n hn (by decide), bnd_some, wri_n hn (by decide), bnd_some]
  dsimp only [ltn]
  rw [nI_1]
theorem ab_ok {a : Nat} (h : a < 6) : ¬ nI a < 0 ∧ ¬ (6 : Int32) ≤ nI a ∧ nI a < (6 : Int32) := by
  refine ⟨?_, ?_, nI_lt (b := 6) h (by decide)⟩
  · rw [show (0 : Int32) = nI 0 from rfl]; exact nI_nlt (Nat.zero_le a) (by omega)
  · rw [show (6 : Int32) = nI 6 from rfl]; exact nI_ge h (by decide)
theorem C_keepH {y2 : Int32} (ha6 : a < 6) (hb6 : b < 6) (hab : a ≠ b) (h1 : ha a = nI (h a)) (h2 : ha b = nI (h b)) : f_X5_keepOfTown fu p wi pr ha ow (nI tm) 1 (nI a) (nI b) y2 = some (p, wi, pr, upd (upd ha a (nI (h a ||| 2 ^ b))) b (nI (h b ||| 2 ^ a)), ow, nI (tm ||| (2 ^ a ||| 2 ^ b))) := by
  obtain ⟨a1, a2, a3⟩ := ab_ok ha6
  obtain ⟨b1, b2, b3⟩ := ab_ok hb6
  unfold f_X5_keepOfTown
  rw [if_neg (by decide), if_neg a1, if_neg a2, if_neg b1, if_pos b3]
  dsimp only [ltn]
  rw [if_pos rfl, rdi_n ha6 (by decide) h1, bnd_some, jshl_1 b (by omega), jshl_1 a (by omega), fa_or, fa_or, fa_or, wri_n ha6 (by decide), bnd_some, rdi_n hb6 (by decide) ((pk_un (Ne.symm hab)).trans h2), bnd_some, fa_or, wri_n hb6 (by decide), bnd_some]
theorem C_keepO {y2 : Int32} (ha6 : a < 6) (hb6 : b < 6) : f_X5_keepOfTown fu p wi pr ha ow (nI tm) 2 (nI a) (nI b) y2 = some (p, wi, pr, ha, upd ow (6 * a + b) y2, nI (tm ||| (2 ^ a ||| 2 ^ b))) := by
  obtain ⟨a1, a2, a3⟩ := ab_ok ha6
  obtain ⟨b1, b2, b3⟩ := ab_ok hb6
  unfold f_X5_keepOfTown
  rw [if_neg (by decide), if_neg a1, if_neg a2, if_neg b1, if_pos b3]
  dsimp only [ltn]
  rw [if_neg (by decide), show (6 : Int32) * nI a + nI b = nI (6 * a + b) by rw [show (6 : Int32) = nI 6 from rfl, pk_mul, nI_add], wri_n (show 6 * a + b < 36 by omega) (by decide), bnd_some, jshl_1 b (by omega), jshl_1 a (by omega), fa_or, fa_or]
end TWD
