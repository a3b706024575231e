/-! ===== weeks by a seed ===== -/
theorem jushr16 (x : Int32) : ∃ v, v < 65536 ∧ jushr x 16 = nI v := by
  have h := pk_ushr x 16 16 (by decide)
  refine ⟨x.toBitVec.toNat / 2 ^ 16, ?_, ?_⟩
  · have := x.toBitVec.isLt; omega
  · have h2 := x.toBitVec.isLt
    apply Int32.toBitVec_inj.1
    apply BitVec.eq_of_toNat_eq
    rw [pk_tn (by omega)]
    exact h
theorem rmi_n {a d : Nat} (ha : a < 2 ^ 31) (h0 : 0 < d) (hd : d < 2 ^ 31) : rmi (nI a) (nI d) = some (nI (a % d)) := by
  unfold rmi
  rw [if_neg (by rw [nI_eq0 hd]; omega), jrm_n ha h0 hd]
theorem draw_n {fu m : Nat} (seed : Int32) (h0 : 0 < m) (hm : m < 2 ^ 31) {k : Int32} (hk : k = nI m) : ∃ q s, q < m ∧ f_X1_below fu seed k = some (nI q, s) ∧ f_X12_draw fu seed k = some (nI q, s) := by
  subst hk
  obtain ⟨v, hv, e⟩ := jushr16 (seed * 1103515245 + 12345)
  have h1 : (1 : Int32) ≤ nI m := by rw [show (1 : Int32) = nI 1 from rfl]; exact nI_le (by omega) hm
  refine ⟨v % m, seed * 1103515245 + 12345, Nat.mod_lt _ h0, ?_, ?_⟩
  · simp only [f_X1_below, ltn, if_pos h1, e, rmi_n (show v < 2 ^ 31 by omega) h0 hm, bnd_some]
  · simp only [f_X12_draw, ltn, e, rmi_n (show v < 2 ^ 31 by omega) h0 hm, bnd_some]
abbrev CTs : Type := FN × FN × FN × FN × FN × Int32 × Int32 × Int32 × Int32 × Int32 × Int32 × Int32 × Int32
abbrev MTs : Type := Int32 × Int32 × Int32 × Int32 × Int32 × Int32 × Int32 × FN × FN × FN × FN × FN × Int32
def app (x : CT) (s : Int32) : CTs := (x.1, x.2.1, x.2.2.1, x.2.2.2.1, x.2.2.2.2.1, x.2.2.2.2.2.1, x.2.2.2.2.2.2.1, x.2.2.2.2.2.2.2.1, x.2.2.2.2.2.2.2.2.1, x.2.2.2.2.2.2.2.2.2.1, x.2.2.2.2.2.2.2.2.2.2.1, x.2.2.2.2.2.2.2.2.2.2.2, s)
def appM (y : MT) (s : Int32) : MTs := (y.1, y.2.1, y.2.2.1, y.2.2.2.1, y.2.2.2.2.1, y.2.2.2.2.2.1, y.2.2.2.2.2.2.1, y.2.2.2.2.2.2.2.1, y.2.2.2.2.2.2.2.2.1, y.2.2.2.2.2.2.2.2.2.1, y.2.2.2.2.2.2.2.2.2.2.1, y.2.2.2.2.2.2.2.2.2.2.2, s)
theorem does_eq' {fu n B t k d : Nat} {h : Nat → Nat} {ha M : FN} {x : CT} {y : MT} {a b c kk dd : Int32} (S : SR n B x y) (hha : ∀ i, i < 6 → ha i = nI (h i)) (h64 : ∀ i, i < 6 → h i < 64) (hM : ∀ i, i < 6 → M (55 * t + 13 + i) = nI (h i)) (ht : t < 8) (hn : n ≤ 6) (hB : B < 1000) (hd : d < 2 ^ 31) (hk : k ≤ 6) (hc : 1 ≤ k → k ≤ 3 → ∃ u, u ≤ 30 ∧ c = nI u) (hf : 100 ≤ fu) (hkk : kk = nI k) (hdd : dd = nI d) :
    ∃ (r : Int32) (x' : CT) (y' : MT), f_X1_mayDo fu (nI n) ha x.1 x.2.1 x.2.2.1 x.2.2.2.1 x.2.2.2.2.1 x.2.2.2.2.2.1 x.2.2.2.2.2.2.1 x.2.2.2.2.2.2.2.1 dd x.2.2.2.2.2.2.2.2.1 x.2.2.2.2.2.2.2.2.2.1 x.2.2.2.2.2.2.2.2.2.2.1 x.2.2.2.2.2.2.2.2.2.2.2 kk a b c = some (r, x') ∧ f_X12_does fu M (nI t) (nI n) y.1 y.2.1 y.2.2.1 y.2.2.2.1 y.2.2.2.2.1 y.2.2.2.2.2.1 y.2.2.2.2.2.2.1 y.2.2.2.2.2.2.2.1 y.2.2.2.2.2.2.2.2.1 y.2.2.2.2.2.2.2.2.2.1 y.2.2.2.2.2.2.2.2.2.2.1 y.2.2.2.2.2.2.2.2.2.2.2 kk a b c = some (r, y') ∧ SR n (B + 1) x' y' := by
  subst hkk
  subst hdd
  obtain ⟨r, x', y', h1, h2, h3, h4, h5⟩ := does_eq (fu := fu) (d := d) (a := a) (b := b) (c := c) S hha h64 hM ht hn hB hd hk hc hf
  exact ⟨r, x', y', h1, h2, h4⟩
section L9
variable {fu n B t : Nat} {h : Nat → Nat} {ha M : FN} {x : CT} {y : MT}
theorem on6 {q : Nat} {seed s1 : Int32} (S : SR n B x y) (hha : ∀ i, i < 6 → ha i = nI (h i)) (h64 : ∀ i, i < 6 → h i < 64) (hM : ∀ i, i < 6 → M (55 * t + 13 + i) = nI (h i)) (ht : t < 8) (hn : n ≤ 6) (n2 : 2 ≤ n) (hB : B < 1000) (hf : 100 ≤ fu) (q2 : f_X12_draw fu seed 10 = some (nI q, s1)) (c3 : ¬ nI q < 6) (m1 : nI q ≤ 7) (m3 : ¬ nI q ≤ 5) (c6 : nI q = 6) :
    ∃ (x' : CT) (y' : MT) (s' : Int32), f_X1_driftOn fu (nI n) ha x.1 x.2.1 x.2.2.1 x.2.2.2.1 x.2.2.2.2.1 x.2.2.2.2.2.1 x.2.2.2.2.2.2.1 x.2.2.2.2.2.2.2.1 0 x.2.2.2.2.2.2.2.2.1 x.2.2.2.2.2.2.2.2.2.1 x.2.2.2.2.2.2.2.2.2.2.1 x.2.2.2.2.2.2.2.2.2.2.2 s1 (nI q) = some (app x' s') ∧ f_X12_drawDeed fu M (nI t) (nI n) y.1 y.2.1 y.2.2.1 y.2.2.2.1 y.2.2.2.2.1 y.2.2.2.2.2.1 y.2.2.2.2.2.2.1 y.2.2.2.2.2.2.2.1 y.2.2.2.2.2.2.2.2.1 y.2.2.2.2.2.2.2.2.2.1 y.2.2.2.2.2.2.2.2.2.2.1 y.2.2.2.2.2.2.2.2.2.2.2 seed = some (appM y' s') ∧ SR n (B + 1) x' y' := by
  have m2 : (2 : Int32) ≤ nI n := by rw [show (2 : Int32) = nI 2 from rfl]; exact nI_le n2 (by omega)
  obtain ⟨a, s2, ha2, a1, a2⟩ := draw_n (fu := fu) (m := n) s1 (by omega) (by omega) rfl
  obtain ⟨r, X, Y, e1, e2, e4⟩ := does_eq' (fu := fu) (k := 4) (d := 0) (a := nI a) (b := -1) (c := -1) (kk := 4) (dd := 0) S hha h64 hM ht hn hB (by decide) (by decide) (fun _ z => absurd z (by decide)) hf rfl rfl
  refine ⟨X, Y, s2, ?_, ?_, e4⟩
  · unfold f_X1_driftOn
    rw [a1, bnd_some, if_neg c3, if_pos c6, e1, bnd_some]
    rfl
  · unfold f_X12_drawDeed
    rw [q2, bnd_some, if_pos m1, if_pos m2, a2, bnd_some, if_neg m3, if_pos c6, e2, bnd_some]
    rfl
theorem on7 {q : Nat} {seed s1 : Int32} (S : SR n B x y) (hha : ∀ i, i < 6 → ha i = nI (h i)) (h64 : ∀ i, i < 6 → h i < 64) (hM : ∀ i, i < 6 → M (55 * t + 13 + i) = nI (h i)) (ht : t < 8) (hn : n ≤ 6) (n2 : 2 ≤ n) (hB : B < 1000) (hf : 100 ≤ fu) (q2 : f_X12_draw fu seed 10 = some (nI q, s1)) (c3 : ¬ nI q < 6) (m1 : nI q ≤ 7) (m3 : ¬ nI q ≤ 5) (c6 : ¬ nI q = 6) :
    ∃ (x' : CT) (y' : MT) (s' : Int32), f_X1_driftOn fu (nI n) ha x.1 x.2.1 x.2.2.1 x.2.2.2.1 x.2.2.2.2.1 x.2.2.2.2.2.1 x.2.2.2.2.2.2.1 x.2.2.2.2.2.2.2.1 0 x.2.2.2.2.2.2.2.2.1 x.2.2.2.2.2.2.2.2.2.1 x.2.2.2.2.2.2.2.2.2.2.1 x.2.2.2.2.2.2.2.2.2.2.2 s1 (nI q) = some (app x' s') ∧ f_X12_drawDeed fu M (nI t) (nI n) y.1 y.2.1 y.2.2.1 y.2.2.2.1 y.2.2.2.2.1 y.2.2.2.2.2.1 y.2.2.2.2.2.2.1 y.2.2.2.2.2.2.2.1 y.2.2.2.2.2.2.2.2.1 y.2.2.2.2.2.2.2.2.2.1 y.2.2.2.2.2.2.2.2.2.2.1 y.2.2.2.2.2.2.2.2.2.2.2 seed = some (appM y' s') ∧ SR n (B + 1) x' y' := by
  have m2 : (2 : Int32) ≤ nI n := by rw [show (2 : Int32) = nI 2 from rfl]; exact nI_le n2 (by omega)
  obtain ⟨a, s2, ha2, a1, a2⟩ := draw_n (fu := fu) (m := n) s1 (by omega) (by omega) rfl
  obtain ⟨r, X, Y, e1, e2, e4⟩ := does_eq' (fu := fu) (k := 5) (d := 0) (a := nI a) (b := -1) (c := -1) (kk := 5) (dd := 0) S hha h64 hM ht hn hB (by decide) (by decide) (fun _ z => absurd z (by decide)) hf rfl rfl
  refine ⟨X, Y, s2, ?_, ?_, e4⟩
  · unfold f_X1_driftOn
    rw [a1, bnd_some, if_neg c3, if_neg c6, e1, bnd_some]
    rfl
  · unfold f_X12_drawDeed
    rw [q2, bnd_some, if_pos m1, if_pos m2, a2, bnd_some, if_neg m3, if_neg c6, e2, bnd_some]
    rfl
theorem on3 {q : Nat} {seed s1 : Int32} (S : SR n B x y) (hha : ∀ i, i < 6 → ha i = nI (h i)) (h64 : ∀ i, i < 6 → h i < 64) (hM : ∀ i, i < 6 → M (55 * t + 13 + i) = nI (h i)) (ht : t < 8) (hn : n ≤ 6) (n2 : 2 ≤ n) (hB : B < 1000) (hf : 100 ≤ fu) (q2 : f_X12_draw fu seed 10 = some (nI q, s1)) (c3 : nI q < 6) (m1 : nI q ≤ 7) (m3 : nI q ≤ 5) (c4 : 3 ≤ nI q) (c5 : nI q = 3) :
    ∃ (x' : CT) (y' : MT) (s' : Int32), f_X1_driftOn fu (nI n) ha x.1 x.2.1 x.2.2.1 x.2.2.2.1 x.2.2.2.2.1 x.2.2.2.2.2.1 x.2.2.2.2.2.2.1 x.2.2.2.2.2.2.2.1 0 x.2.2.2.2.2.2.2.2.1 x.2.2.2.2.2.2.2.2.2.1 x.2.2.2.2.2.2.2.2.2.2.1 x.2.2.2.2.2.2.2.2.2.2.2 s1 (nI q) = some (app x' s') ∧ f_X12_drawDeed fu M (nI t) (nI n) y.1 y.2.1 y.2.2.1 y.2.2.2.1 y.2.2.2.2.1 y.2.2.2.2.2.1 y.2.2.2.2.2.2.1 y.2.2.2.2.2.2.2.1 y.2.2.2.2.2.2.2.2.1 y.2.2.2.2.2.2.2.2.2.1 y.2.2.2.2.2.2.2.2.2.2.1 y.2.2.2.2.2.2.2.2.2.2.2 seed = some (appM y' s') ∧ SR n (B + 1) x' y' := by
  have m2 : (2 : Int32) ≤ nI n := by rw [show (2 : Int32) = nI 2 from rfl]; exact nI_le n2 (by omega)
  obtain ⟨a, s2, ha2, a1, a2⟩ := draw_n (fu := fu) (m := n) s1 (by omega) (by omega) rfl
  obtain ⟨b0, s3, hb0, b01, b02⟩ := draw_n (fu := fu) (m := n - 1) s2 (by omega) (by omega) rfl
  have en : nI n - 1 = nI (n - 1) := by rw [show (1 : Int32) = nI 1 from rfl, pk_sub (by omega)]
  have eb : rmi (nI b0 + 1 + nI a) (nI n) = some (nI ((b0 + 1 + a) % n)) := by rw [nI_1, nI_add, rmi_n (by omega) (by omega) (by omega)]
  obtain ⟨u, s4, hu, u1, u2⟩ := draw_n (fu := fu) (m := 5) (k := 5) s3 (by decide) (by decide) rfl
  obtain ⟨r, X, Y, e1, e2, e4⟩ := does_eq' (fu := fu) (k := 1) (d := 0) (a := nI a) (b := nI ((b0 + 1 + a) % n)) (c := nI (1 + u)) (kk := 1) (dd := 0) S hha h64 hM ht hn hB (by decide) (by decide) (fun _ _ => ⟨1 + u, by omega, rfl⟩) hf rfl rfl
  refine ⟨X, Y, s4, ?_, ?_, e4⟩
  · unfold f_X1_driftOn
    rw [a1, bnd_some, if_pos c3, if_pos m2]
    simp only
    rw [en, b01, bnd_some]
    simp only
    rw [eb, bnd_some, bnd_some, if_pos c4]
    simp only
    rw [u1, bnd_some]
    simp only [ltn]
    rw [i1_add, if_pos c5, e1, bnd_some]
    rfl
  · unfold f_X12_drawDeed
    rw [q2, bnd_some]
    simp only
    rw [if_pos m1, if_pos m2, a2, bnd_some, if_pos m3]
    simp only
    rw [en, b02, bnd_some]
    simp only
    rw [eb, bnd_some, if_pos c4, if_pos c5, bnd_some, if_pos c4, u2, bnd_some]
    simp only
    rw [i1_add, e2, bnd_some]
    rfl
theorem on4 {q : Nat} {seed s1 : Int32} (S : SR n B x y) (hha : ∀ i, i < 6 → ha i = nI (h i)) (h64 : ∀ i, i < 6 → h i < 64) (hM : ∀ i, i < 6 → M (55 * t + 13 + i) = nI (h i)) (ht : t < 8) (hn : n ≤ 6) (n2 : 2 ≤ n) (hB : B < 1000) (hf : 100 ≤ fu) (q2 : f_X12_draw fu seed 10 = some (nI q, s1)) (c3 : nI q < 6) (m1 : nI q ≤ 7) (m3 : nI q ≤ 5) (c4 : 3 ≤ nI q) (c5 : ¬ nI q = 3) (c6 : nI q = 4) :
    ∃ (x' : CT) (y' : MT) (s' : Int32), f_X1_driftOn fu (nI n) ha x.1 x.2.1 x.2.2.1 x.2.2.2.1 x.2.2.2.2.1 x.2.2.2.2.2.1 x.2.2.2.2.2.2.1 x.2.2.2.2.2.2.2.1 0 x.2.2.2.2.2.2.2.2.1 x.2.2.2.2.2.2.2.2.2.1 x.2.2.2.2.2.2.2.2.2.2.1 x.2.2.2.2.2.2.2.2.2.2.2 s1 (nI q) = some (app x' s') ∧ f_X12_drawDeed fu M (nI t) (nI n) y.1 y.2.1 y.2.2.1 y.2.2.2.1 y.2.2.2.2.1 y.2.2.2.2.2.1 y.2.2.2.2.2.2.1 y.2.2.2.2.2.2.2.1 y.2.2.2.2.2.2.2.2.1 y.2.2.2.2.2.2.2.2.2.1 y.2.2.2.2.2.2.2.2.2.2.1 y.2.2.2.2.2.2.2.2.2.2.2 seed = some (appM y' s') ∧ SR n (B + 1) x' y' := by
  have m2 : (2 : Int32) ≤ nI n := by rw [show (2 : Int32) = nI 2 from rfl]; exact nI_le n2 (by omega)
  obtain ⟨a, s2, ha2, a1, a2⟩ := draw_n (fu := fu) (m := n) s1 (by omega) (by omega) rfl
  obtain ⟨b0, s3, hb0, b01, b02⟩ := draw_n (fu := fu) (m := n - 1) s2 (by omega) (by omega) rfl
  have en : nI n - 1 = nI (n - 1) := by rw [show (1 : Int32) = nI 1 from rfl, pk_sub (by omega)]
  have eb : rmi (nI b0 + 1 + nI a) (nI n) = some (nI ((b0 + 1 + a) % n)) := by rw [nI_1, nI_add, rmi_n (by omega) (by omega) (by omega)]
  obtain ⟨u, s4, hu, u1, u2⟩ := draw_n (fu := fu) (m := 5) (k := 5) s3 (by decide) (by decide) rfl
  obtain ⟨r, X, Y, e1, e2, e4⟩ := does_eq' (fu := fu) (k := 2) (d := 0) (a := nI a) (b := nI ((b0 + 1 + a) % n)) (c := nI (1 + u)) (kk := 2) (dd := 0) S hha h64 hM ht hn hB (by decide) (by decide) (fun _ _ => ⟨1 + u, by omega, rfl⟩) hf rfl rfl
  refine ⟨X, Y, s4, ?_, ?_, e4⟩
  · unfold f_X1_driftOn
    rw [a1, bnd_some, if_pos c3, if_pos m2]
    simp only
    rw [en, b01, bnd_some]
    simp only
    rw [eb, bnd_some, bnd_some, if_pos c4]
    simp only
    rw [u1, bnd_some]
    simp only [ltn]
    rw [i1_add, if_neg c5, if_pos c6, e1, bnd_some]
    rfl
  · unfold f_X12_drawDeed
    rw [q2, bnd_some]
    simp only
    rw [if_pos m1, if_pos m2, a2, bnd_some, if_pos m3]
    simp only
    rw [en, b02, bnd_some]
    simp only
    rw [eb, bnd_some, if_pos c4, if_neg c5, if_pos c6, bnd_some, if_pos c4, u2, bnd_some]
    simp only
    rw [i1_add, e2, bnd_some]
    rfl
theorem on5 {q : Nat} {seed s1 : Int32} (S : SR n B x y) (hha : ∀ i, i < 6 → ha i = nI (h i)) (h64 : ∀ i, i < 6 → h i < 64) (hM : ∀ i, i < 6 → M (55 * t + 13 + i) = nI (h i)) (ht : t < 8) (hn : n ≤ 6) (n2 : 2 ≤ n) (hB : B < 1000) (hf : 100 ≤ fu) (q2 : f_X12_draw fu seed 10 = some (nI q, s1)) (c3 : nI q < 6) (m1 : nI q ≤ 7) (m3 : nI q ≤ 5) (c4 : 3 ≤ nI q) (c5 : ¬ nI q = 3) (c6 : ¬ nI q = 4) :
    ∃ (x' : CT) (y' : MT) (s' : Int32), f_X1_driftOn fu (nI n) ha x.1 x.2.1 x.2.2.1 x.2.2.2.1 x.2.2.2.2.1 x.2.2.2.2.2.1 x.2.2.2.2.2.2.1 x.2.2.2.2.2.2.2.1 0 x.2.2.2.2.2.2.2.2.1 x.2.2.2.2.2.2.2.2.2.1 x.2.2.2.2.2.2.2.2.2.2.1 x.2.2.2.2.2.2.2.2.2.2.2 s1 (nI q) = some (app x' s') ∧ f_X12_drawDeed fu M (nI t) (nI n) y.1 y.2.1 y.2.2.1 y.2.2.2.1 y.2.2.2.2.1 y.2.2.2.2.2.1 y.2.2.2.2.2.2.1 y.2.2.2.2.2.2.2.1 y.2.2.2.2.2.2.2.2.1 y.2.2.2.2.2.2.2.2.2.1 y.2.2.2.2.2.2.2.2.2.2.1 y.2.2.2.2.2.2.2.2.2.2.2 seed = some (appM y' s') ∧ SR n (B + 1) x' y' := by
  have m2 : (2 : Int32) ≤ nI n := by rw [show (2 : Int32) = nI 2 from rfl]; exact nI_le n2 (by omega)
  obtain ⟨a, s2, ha2, a1, a2⟩ := draw_n (fu := fu) (m := n) s1 (by omega) (by omega) rfl
  obtain ⟨b0, s3, hb0, b01, b02⟩ := draw_n (fu := fu) (m := n - 1) s2 (by omega) (by omega) rfl
  have en : nI n - 1 = nI (n - 1) := by rw [show (1 : Int32) = nI 1 from rfl, pk_sub (by omega)]
  have eb : rmi (nI b0 + 1 + nI a) (nI n) = some (nI ((b0 + 1 + a) % n)) := by rw [nI_1, nI_add, rmi_n (by omega) (by omega) (by omega)]
  obtain ⟨u, s4, hu, u1, u2⟩ := draw_n (fu := fu) (m := 5) (k := 5) s3 (by decide) (by decide) rfl
  obtain ⟨r, X, Y, e1, e2, e4⟩ := does_eq' (fu := fu) (k := 3) (d := 0) (a := nI a) (b := nI ((b0 + 1 + a) % n)) (c := nI (1 + u)) (kk := 3) (dd := 0) S hha h64 hM ht hn hB (by decide) (by decide) (fun _ _ => ⟨1 + u, by omega, rfl⟩) hf rfl rfl
  refine ⟨X, Y, s4, ?_, ?_, e4⟩
  · unfold f_X1_driftOn
    rw [a1, bnd_some, if_pos c3, if_pos m2]
    simp only
    rw [en, b01, bnd_some]
    simp only
    rw [eb, bnd_some, bnd_some, if_pos c4]
    simp only
    rw [u1, bnd_some]
    simp only [ltn]
    rw [i1_add, if_neg c5, if_neg c6, e1, bnd_some]
    rfl
  · unfold f_X12_drawDeed
    rw [q2, bnd_some]
    simp only
    rw [if_pos m1, if_pos m2, a2, bnd_some, if_pos m3]
    simp only
    rw [en, b02, bnd_some]
    simp only
    rw [eb, bnd_some, if_pos c4, if_neg c5, if_neg c6, bnd_some, if_pos c4, u2, bnd_some]
    simp only
    rw [i1_add, e2, bnd_some]
    rfl
theorem on0 {q : Nat} {seed s1 : Int32} (S : SR n B x y) (hha : ∀ i, i < 6 → ha i = nI (h i)) (h64 : ∀ i, i < 6 → h i < 64) (hM : ∀ i, i < 6 → M (55 * t + 13 + i) = nI (h i)) (ht : t < 8) (hn : n ≤ 6) (n2 : 2 ≤ n) (hB : B < 1000) (hf : 100 ≤ fu) (q2 : f_X12_draw fu seed 10 = some (nI q, s1)) (c3 : nI q < 6) (m1 : nI q ≤ 7) (m3 : nI q ≤ 5) (c4 : ¬ 3 ≤ nI q) :
    ∃ (x' : CT) (y' : MT) (s' : Int32), f_X1_driftOn fu (nI n) ha x.1 x.2.1 x.2.2.1 x.2.2.2.1 x.2.2.2.2.1 x.2.2.2.2.2.1 x.2.2.2.2.2.2.1 x.2.2.2.2.2.2.2.1 0 x.2.2.2.2.2.2.2.2.1 x.2.2.2.2.2.2.2.2.2.1 x.2.2.2.2.2.2.2.2.2.2.1 x.2.2.2.2.2.2.2.2.2.2.2 s1 (nI q) = some (app x' s') ∧ f_X12_drawDeed fu M (nI t) (nI n) y.1 y.2.1 y.2.2.1 y.2.2.2.1 y.2.2.2.2.1 y.2.2.2.2.2.1 y.2.2.2.2.2.2.1 y.2.2.2.2.2.2.2.1 y.2.2.2.2.2.2.2.2.1 y.2.2.2.2.2.2.2.2.2.1 y.2.2.2.2.2.2.2.2.2.2.1 y.2.2.2.2.2.2.2.2.2.2.2 seed = some (appM y' s') ∧ SR n (B + 1) x' y' := by
  have m2 : (2 : Int32) ≤ nI n := by rw [show (2 : Int32) = nI 2 from rfl]; exact nI_le n2 (by omega)
  obtain ⟨a, s2, ha2, a1, a2⟩ := draw_n (fu := fu) (m := n) s1 (by omega) (by omega) rfl
  obtain ⟨b0, s3, hb0, b01, b02⟩ := draw_n (fu := fu) (m := n - 1) s2 (by omega) (by omega) rfl
  have en : nI n - 1 = nI (n - 1) := by rw [show (1 : Int32) = nI 1 from rfl, pk_sub (by omega)]
  have eb : rmi (nI b0 + 1 + nI a) (nI n) = some (nI ((b0 + 1 + a) % n)) := by rw [nI_1, nI_add, rmi_n (by omega) (by omega) (by omega)]
  obtain ⟨r, X, Y, e1, e2, e4⟩ := does_eq' (fu := fu) (k := 0) (d := 0) (a := nI a) (b := nI ((b0 + 1 + a) % n)) (c := -1) (kk := 0) (dd := 0) S hha h64 hM ht hn hB (by decide) (by decide) (fun z _ => absurd z (by decide)) hf rfl rfl
  refine ⟨X, Y, s3, ?_, ?_, e4⟩
  · unfold f_X1_driftOn
    rw [a1, bnd_some, if_pos c3, if_pos m2]
    simp only
    rw [en, b01, bnd_some]
    simp only
    rw [eb, bnd_some, bnd_some, if_neg c4]
    simp only
    rw [e1, bnd_some]
    rfl
  · unfold f_X12_drawDeed
    rw [q2, bnd_some]
    simp only
    rw [if_pos m1, if_pos m2, a2, bnd_some, if_pos m3]
    simp only
    rw [en, b02, bnd_some]
    simp only
    rw [eb, bnd_some, if_neg c4, bnd_some, if_neg c4, e2, bnd_some]
    rfl
theorem on_all {q : Nat} {seed s1 : Int32} (S : SR n B x y) (hha : ∀ i, i < 6 → ha i = nI (h i)) (h64 : ∀ i, i < 6 → h i < 64) (hM : ∀ i, i < 6 → M (55 * t + 13 + i) = nI (h i)) (ht : t < 8) (hn : n ≤ 6) (n2 : 2 ≤ n) (hB : B < 1000) (hf : 100 ≤ fu) (q2 : f_X12_draw fu seed 10 = some (nI q, s1)) (q8 : q < 8) :
    ∃ (x' : CT) (y' : MT) (s' : Int32), f_X1_driftOn fu (nI n) ha x.1 x.2.1 x.2.2.1 x.2.2.2.1 x.2.2.2.2.1 x.2.2.2.2.2.1 x.2.2.2.2.2.2.1 x.2.2.2.2.2.2.2.1 0 x.2.2.2.2.2.2.2.2.1 x.2.2.2.2.2.2.2.2.2.1 x.2.2.2.2.2.2.2.2.2.2.1 x.2.2.2.2.2.2.2.2.2.2.2 s1 (nI q) = some (app x' s') ∧ f_X12_drawDeed fu M (nI t) (nI n) y.1 y.2.1 y.2.2.1 y.2.2.2.1 y.2.2.2.2.1 y.2.2.2.2.2.1 y.2.2.2.2.2.2.1 y.2.2.2.2.2.2.2.1 y.2.2.2.2.2.2.2.2.1 y.2.2.2.2.2.2.2.2.2.1 y.2.2.2.2.2.2.2.2.2.2.1 y.2.2.2.2.2.2.2.2.2.2.2 seed = some (appM y' s') ∧ SR n (B + 1) x' y' := by
  have lt : ∀ b : Nat, b < 2 ^ 31 → (nI q < nI b ↔ q < b) := fun b hb => nI_ltI (by omega) hb
  have le : ∀ b : Nat, b < 2 ^ 31 → (nI b ≤ nI q ↔ b ≤ q) := fun b hb => nI_leI hb (by omega)
  have le2 : ∀ b : Nat, b < 2 ^ 31 → (nI q ≤ nI b ↔ q ≤ b) := fun b hb => nI_leI (by omega) hb
  have eq : ∀ b : Nat, b < 2 ^ 31 → (nI q = nI b ↔ q = b) := fun b hb => nI_eq (by omega) hb
  have m1 : nI q ≤ 7 := (le2 7 (by decide)).2 (by omega)
  by_cases q6 : q < 6
  · have c3 : nI q < 6 := (lt 6 (by decide)).2 q6
    have m3 : nI q ≤ 5 := (le2 5 (by decide)).2 (by omega)
    by_cases q3 : 3 ≤ q
    · have c4 : 3 ≤ nI q := (le 3 (by decide)).2 q3
      by_cases e3 : q = 3
      · exact on3 S hha h64 hM ht hn n2 hB hf q2 c3 m1 m3 c4 ((eq 3 (by decide)).2 e3)
      · have c5 : ¬ nI q = 3 := fun z => e3 ((eq 3 (by decide)).1 z)
        by_cases e4 : q = 4
        · exact on4 S hha h64 hM ht hn n2 hB hf q2 c3 m1 m3 c4 c5 ((eq 4 (by decide)).2 e4)
        · exact on5 S hha h64 hM ht hn n2 hB hf q2 c3 m1 m3 c4 c5 (fun z => e4 ((eq 4 (by decide)).1 z))
    · exact on0 S hha h64 hM ht hn n2 hB hf q2 c3 m1 m3 (fun z => q3 ((le 3 (by decide)).1 z))
  · have c3 : ¬ nI q < 6 := fun z => q6 ((lt 6 (by decide)).1 z)
    have m3 : ¬ nI q ≤ 5 := fun z => by have := (le2 5 (by decide)).1 z; omega
    by_cases e6 : q = 6
    · exact on6 S hha h64 hM ht hn n2 hB hf q2 c3 m1 m3 ((eq 6 (by decide)).2 e6)
    · exact on7 S hha h64 hM ht hn n2 hB hf q2 c3 m1 m3 (fun z => e6 ((eq 6 (by decide)).1 z))
theorem draw_step {x1 : BT} {m i : Nat} (seed : Int32) (S : SR n B x y) (b1 : x1.1 = nI n) (b2 : x1.2.1 = ha) (b3 : x1.2.2.2.2.2.2.2.2.2.2.1 = 0) (hha : ∀ i, i < 6 → ha i = nI (h i)) (h64 : ∀ i, i < 6 → h i < 64) (hM : ∀ i, i < 6 → M (55 * t + 13 + i) = nI (h i)) (ht : t < 8) (hn : n ≤ 6) (hB : B < 1000) (him : i < m) (hm : m ≤ 60) (hf : 100 ≤ fu) :
    ∃ (x' : CT) (y' : MT) (s' : Int32), f_X1_drift_L13 fu (nI m) x1 (nI i, app x seed) = some (.inl (nI (i + 1), app x' s')) ∧ f_X12_drawDeed fu M (nI t) (nI n) y.1 y.2.1 y.2.2.1 y.2.2.2.1 y.2.2.2.2.1 y.2.2.2.2.2.1 y.2.2.2.2.2.2.1 y.2.2.2.2.2.2.2.1 y.2.2.2.2.2.2.2.2.1 y.2.2.2.2.2.2.2.2.2.1 y.2.2.2.2.2.2.2.2.2.2.1 y.2.2.2.2.2.2.2.2.2.2.2 seed = some (appM y' s') ∧ SR n (B + 1) x' y' := by
  obtain ⟨q, s1, hq, q1, q2⟩ := draw_n (fu := fu) (m := 10) (k := 10) seed (by decide) (by decide) rfl
  have hi : ¬ nI m ≤ (nI i, app x seed).1 := nI_ge him (by omega)
  by_cases q8 : 8 ≤ q
  · obtain ⟨X, Y, e1, e2, hS⟩ := hour_eq (fu := fu) S hB hf
    have c1 : ¬ nI q < (8 : Int32) := by rw [show (8 : Int32) = nI 8 from rfl]; exact nI_nlt q8 (by omega)
    have m1 : ¬ nI q ≤ (7 : Int32) := by rw [show (7 : Int32) = nI 7 from rfl]; exact nI_ge (by omega) (by omega)
    refine ⟨(x.1, X.1, X.2.1, x.2.2.2.1, x.2.2.2.2.1, x.2.2.2.2.2.1, X.2.2, x.2.2.2.2.2.2.2.1, x.2.2.2.2.2.2.2.2.1, x.2.2.2.2.2.2.2.2.2.1, x.2.2.2.2.2.2.2.2.2.2.1, x.2.2.2.2.2.2.2.2.2.2.2), (Y.1, y.2.1, y.2.2.1, y.2.2.2.1, y.2.2.2.2.1, y.2.2.2.2.2.1, Y.2.1, y.2.2.2.2.2.2.2.1, Y.2.2.1, Y.2.2.2, y.2.2.2.2.2.2.2.2.2.2.1, y.2.2.2.2.2.2.2.2.2.2.2), s1, ?_, ?_, hS⟩
    · unfold f_X1_drift_L13
      rw [if_neg hi]
      show bnd (f_X1_below fu seed 10) _ = _
      rw [q1, bnd_some, if_neg c1]
      show bnd (f_X1_nextHour fu x.2.1 x.2.2.1 x.2.2.2.2.2.2.1) _ = _
      rw [e1, bnd_some, show (nI i, app x seed).1 = nI i from rfl, nI_1]
      rfl
    · unfold f_X12_drawDeed
      rw [q2, bnd_some, if_neg m1, e2, bnd_some]
      rfl
  · have c1 : nI q < (8 : Int32) := by rw [show (8 : Int32) = nI 8 from rfl]; exact nI_lt (by omega) (by decide)
    have m1 : nI q ≤ (7 : Int32) := by rw [show (7 : Int32) = nI 7 from rfl]; exact nI_le (by omega) (by decide)
    by_cases n2 : 2 ≤ n
    · have c2 : ¬ nI n < (2 : Int32) := by rw [show (2 : Int32) = nI 2 from rfl]; exact nI_nlt n2 (by omega)
      obtain ⟨x', y', s', h1, h2, h3⟩ := on_all S hha h64 hM ht hn n2 hB hf q2 (by omega)
      refine ⟨x', y', s', ?_, h2, h3⟩
      unfold f_X1_drift_L13
      rw [if_neg hi]
      show bnd (f_X1_below fu seed 10) _ = _
      rw [q1, bnd_some, if_pos c1, b1, b2, b3, if_neg c2]
      show bnd (f_X1_driftOn fu (nI n) ha x.1 x.2.1 x.2.2.1 x.2.2.2.1 x.2.2.2.2.1 x.2.2.2.2.2.1 x.2.2.2.2.2.2.1 x.2.2.2.2.2.2.2.1 0 x.2.2.2.2.2.2.2.2.1 x.2.2.2.2.2.2.2.2.2.1 x.2.2.2.2.2.2.2.2.2.2.1 x.2.2.2.2.2.2.2.2.2.2.2 s1 (nI q)) _ = _
      rw [h1, bnd_some, show (nI i, app x seed).1 = nI i from rfl, nI_1]
    · have c2 : nI n < (2 : Int32) := by rw [show (2 : Int32) = nI 2 from rfl]; exact nI_lt (by omega) (by decide)
      have m2 : ¬ (2 : Int32) ≤ nI n := by rw [show (2 : Int32) = nI 2 from rfl]; exact nI_ge (by omega) (by decide)
      refine ⟨x, y, s1, ?_, ?_, SRx.mono S (by omega)⟩
      · unfold f_X1_drift_L13
        rw [if_neg hi]
        show bnd (f_X1_below fu seed 10) _ = _
        rw [q1, bnd_some, if_pos c1, b1, if_pos c2, show (nI i, app x seed).1 = nI i from rfl, nI_1]
        rfl
      · unfold f_X12_drawDeed
        rw [q2, bnd_some, if_pos m1, if_neg m2]
        rfl
theorem drift_drawn {x1 : BT} {z : HT} {m : Nat} (b1 : x1.1 = nI n) (b2 : x1.2.1 = ha) (b3 : x1.2.2.2.2.2.2.2.2.2.2.1 = 0) (z1 : z.2.1 = nI t) (z2 : z.2.2.1 = nI n) (hha : ∀ i, i < 6 → ha i = nI (h i)) (h64 : ∀ i, i < 6 → h i < 64) (hM : ∀ i, i < 6 → M (55 * t + 13 + i) = nI (h i)) (ht : t < 8) (hn : n ≤ 6) (hm : m ≤ 60) (hf : 100 ≤ fu) :
    ∀ (k i g g2 : Nat) (x : CT) (y : MT) (seed : Int32), i + k = m → k < g → k < g2 → SR n i x y → ∃ (x' : CT) (y' : MT) (s' : Int32), lp (f_X1_drift_L13 fu (nI m) x1) g (nI i, app x seed) = some (app x' s') ∧ lp (f_X12_drawn_L33 fu M (nI m) z) g2 (nI i, appM y seed) = some (appM y' s') ∧ SR n 60 x' y' := by
  intro k
  induction k with
  | zero =>
    intro i g g2 x y seed hi hg hg2 S
    obtain ⟨g, rfl⟩ : ∃ f, g = f + 1 := ⟨g - 1, by omega⟩
    obtain ⟨g2, rfl⟩ : ∃ f, g2 = f + 1 := ⟨g2 - 1, by omega⟩
    have hi : i = m := by omega
    subst hi
    refine ⟨x, y, seed, ?_, ?_, SRx.mono S hm⟩
    · show bnd (f_X1_drift_L13 fu (nI i) x1 (nI i, app x seed)) _ = _
      unfold f_X1_drift_L13
      rw [if_pos (show nI i ≤ (nI i, app x seed).1 from nI_le (Nat.le_refl i) (by omega))]
      rfl
    · show bnd (f_X12_drawn_L33 fu M (nI i) z (nI i, appM y seed)) _ = _
      unfold f_X12_drawn_L33
      rw [if_pos (show nI i ≤ (nI i, appM y seed).1 from nI_le (Nat.le_refl i) (by omega))]
      rfl
  | succ k ih =>
    intro i g g2 x y seed hi hg hg2 S
    obtain ⟨g, rfl⟩ : ∃ f, g = f + 1 := ⟨g - 1, by omega⟩
    obtain ⟨g2, rfl⟩ : ∃ f, g2 = f + 1 := ⟨g2 - 1, by omega⟩
    obtain ⟨x', y', s', e1, e2, S'⟩ := draw_step (fu := fu) (m := m) (i := i) seed S b1 b2 b3 hha h64 hM ht hn (by omega) (by omega) hm hf
    obtain ⟨x2, y2, s2, d1, d2, d3⟩ := ih (i + 1) g g2 x' y' s' (by omega) (by omega) (by omega) S'
    refine ⟨x2, y2, s2, ?_, ?_, d3⟩
    · show bnd (f_X1_drift_L13 fu (nI m) x1 (nI i, app x seed)) _ = _
      rw [e1]
      exact d1
    · show bnd (f_X12_drawn_L33 fu M (nI m) z (nI i, appM y seed)) _ = _
      have e3 : f_X12_drawn_L33 fu M (nI m) z (nI i, appM y seed) = some (.inl (nI (i + 1), appM y' s')) := by
        unfold f_X12_drawn_L33
        rw [if_neg (show ¬ nI m ≤ (nI i, appM y seed).1 from nI_ge (by omega) (by omega)), z1, z2]
        show bnd (f_X12_drawDeed fu M (nI t) (nI n) y.1 y.2.1 y.2.2.1 y.2.2.2.1 y.2.2.2.2.1 y.2.2.2.2.2.1 y.2.2.2.2.2.2.1 y.2.2.2.2.2.2.2.1 y.2.2.2.2.2.2.2.2.1 y.2.2.2.2.2.2.2.2.2.1 y.2.2.2.2.2.2.2.2.2.2.1 y.2.2.2.2.2.2.2.2.2.2.2 seed) _ = _
        rw [e2, bnd_some]
        show some (Sum.inl (nI i + 1, _)) = _
        rw [nI_1]
      rw [e3]
      exact d2
end L9
