/-! ===== the told things together, and copies ===== -/
abbrev TT : Type := FN × Int32 × Int32 × Int32 × FN × Int32 × FN × FN × FN × FN × Int32 × FN × FN × FN × FN × Int32 × FN × Int32 × FN × Int32 × FN × Int32 × FN
abbrev RT : Type := FN × FN × FN × FN × FN × FN × FN × FN
def TIs (s : Nat) (cn : FN) (p0 : Int32) (w0 u0 h0 o0 : FN) (p1 : Int32) (w1 u1 h1 o1 : FN) (mn M : FN) : Prop := ∃ c, c ≤ 2 ∧ cn 0 = nI c ∧ mn (3 * s) = nI c ∧ (0 < c → ∃ n w pu h o, TwV n w pu h o ∧ TwC n w pu h o p0 w0 u0 h0 o0 ∧ TwM n w pu h o M (110 * s)) ∧ (1 < c → ∃ n w pu h o, TwV n w pu h o ∧ TwC n w pu h o p1 w1 u1 h1 o1 ∧ TwM n w pu h o M (110 * s + 55))
def WIs (s : Nat) (cn : FN) (d0 : Int32) (c0 : FN) (d1 : Int32) (c1 mn W : FN) : Prop := ∃ c, c ≤ 2 ∧ cn 1 = nI c ∧ mn (3 * s + 1) = nI c ∧ (0 < c → ∃ d, WkR d d0 c0 W (322 * s)) ∧ (1 < c → ∃ d, WkR d d1 c1 W (322 * s + 161))
def LIs (s : Nat) (cn : FN) (d0 : Int32) (c0 : FN) (d1 : Int32) (c1 mn L : FN) : Prop := ∃ c, c ≤ 2 ∧ cn 2 = nI c ∧ mn (3 * s + 2) = nI c ∧ (0 < c → ∃ d, LgR d d0 c0 L (50 * s)) ∧ (1 < c → ∃ d, LgR d d1 c1 L (50 * s + 25))
def szN (m : Nat) (d : Int32) : Prop := ∃ k, k ≤ m ∧ d = nI k
/-- what is told in the class (x) is what the reference's slot s holds -/
def TS (s : Nat) (x : TT) (R : RT) : Prop := TPs s x.1 x.2.1 R.1 R.2.1 ∧ R.2.2.1 s = x.2.2.1 ∧ R.2.2.2.1 s = x.2.2.2.1 ∧ TIs s x.2.2.2.2.1 x.2.2.2.2.2.1 x.2.2.2.2.2.2.1 x.2.2.2.2.2.2.2.1 x.2.2.2.2.2.2.2.2.1 x.2.2.2.2.2.2.2.2.2.1 x.2.2.2.2.2.2.2.2.2.2.1 x.2.2.2.2.2.2.2.2.2.2.2.1 x.2.2.2.2.2.2.2.2.2.2.2.2.1 x.2.2.2.2.2.2.2.2.2.2.2.2.2.1 x.2.2.2.2.2.2.2.2.2.2.2.2.2.2.1 R.2.2.2.2.1 R.2.2.2.2.2.1 ∧ WIs s x.2.2.2.2.1 x.2.2.2.2.2.2.2.2.2.2.2.2.2.2.2.1 x.2.2.2.2.2.2.2.2.2.2.2.2.2.2.2.2.1 x.2.2.2.2.2.2.2.2.2.2.2.2.2.2.2.2.2.1 x.2.2.2.2.2.2.2.2.2.2.2.2.2.2.2.2.2.2.1 R.2.2.2.2.1 R.2.2.2.2.2.2.1 ∧ LIs s x.2.2.2.2.1 x.2.2.2.2.2.2.2.2.2.2.2.2.2.2.2.2.2.2.2.1 x.2.2.2.2.2.2.2.2.2.2.2.2.2.2.2.2.2.2.2.2.1 x.2.2.2.2.2.2.2.2.2.2.2.2.2.2.2.2.2.2.2.2.2.1 x.2.2.2.2.2.2.2.2.2.2.2.2.2.2.2.2.2.2.2.2.2.2 R.2.2.2.2.1 R.2.2.2.2.2.2.2 ∧ szN 40 x.2.2.2.2.2.2.2.2.2.2.2.2.2.2.2.1 ∧ szN 40 x.2.2.2.2.2.2.2.2.2.2.2.2.2.2.2.2.2.1 ∧ szN 8 x.2.2.2.2.2.2.2.2.2.2.2.2.2.2.2.2.2.2.2.1 ∧ szN 8 x.2.2.2.2.2.2.2.2.2.2.2.2.2.2.2.2.2.2.2.2.2.1
/-- z is a copy of x -/
def TCp (x z : TT) : Prop := (z.2.1 = x.2.1 ∧ ∀ L, L ≤ 600 → x.2.1 = nI L → ∀ i, i < L → z.1 i = x.1 i) ∧ z.2.2.1 = x.2.2.1 ∧ z.2.2.2.1 = x.2.2.2.1 ∧ (∀ i, i < 3 → z.2.2.2.2.1 i = x.2.2.2.2.1 i) ∧ (z.2.2.2.2.2.1 = x.2.2.2.2.2.1 ∧ (∀ i, i < 6 → z.2.2.2.2.2.2.1 i = x.2.2.2.2.2.2.1 i) ∧ (∀ i, i < 6 → z.2.2.2.2.2.2.2.1 i = x.2.2.2.2.2.2.2.1 i) ∧ (∀ i, i < 6 → z.2.2.2.2.2.2.2.2.1 i = x.2.2.2.2.2.2.2.2.1 i) ∧ ∀ i, i < 36 → z.2.2.2.2.2.2.2.2.2.1 i = x.2.2.2.2.2.2.2.2.2.1 i) ∧ (z.2.2.2.2.2.2.2.2.2.2.1 = x.2.2.2.2.2.2.2.2.2.2.1 ∧ (∀ i, i < 6 → z.2.2.2.2.2.2.2.2.2.2.2.1 i = x.2.2.2.2.2.2.2.2.2.2.2.1 i) ∧ (∀ i, i < 6 → z.2.2.2.2.2.2.2.2.2.2.2.2.1 i = x.2.2.2.2.2.2.2.2.2.2.2.2.1 i) ∧ (∀ i, i < 6 → z.2.2.2.2.2.2.2.2.2.2.2.2.2.1 i = x.2.2.2.2.2.2.2.2.2.2.2.2.2.1 i) ∧ ∀ i, i < 36 → z.2.2.2.2.2.2.2.2.2.2.2.2.2.2.1 i = x.2.2.2.2.2.2.2.2.2.2.2.2.2.2.1 i) ∧ (z.2.2.2.2.2.2.2.2.2.2.2.2.2.2.2.1 = x.2.2.2.2.2.2.2.2.2.2.2.2.2.2.2.1 ∧ ∀ d, d ≤ 40 → x.2.2.2.2.2.2.2.2.2.2.2.2.2.2.2.1 = nI d → ∀ i, i < 4 * d → z.2.2.2.2.2.2.2.2.2.2.2.2.2.2.2.2.1 i = x.2.2.2.2.2.2.2.2.2.2.2.2.2.2.2.2.1 i) ∧ (z.2.2.2.2.2.2.2.2.2.2.2.2.2.2.2.2.2.1 = x.2.2.2.2.2.2.2.2.2.2.2.2.2.2.2.2.2.1 ∧ ∀ d, d ≤ 40 → x.2.2.2.2.2.2.2.2.2.2.2.2.2.2.2.2.2.1 = nI d → ∀ i, i < 4 * d → z.2.2.2.2.2.2.2.2.2.2.2.2.2.2.2.2.2.2.1 i = x.2.2.2.2.2.2.2.2.2.2.2.2.2.2.2.2.2.2.1 i) ∧ (z.2.2.2.2.2.2.2.2.2.2.2.2.2.2.2.2.2.2.2.1 = x.2.2.2.2.2.2.2.2.2.2.2.2.2.2.2.2.2.2.2.1 ∧ ∀ d, d ≤ 8 → x.2.2.2.2.2.2.2.2.2.2.2.2.2.2.2.2.2.2.2.1 = nI d → ∀ i, i < 3 * d → z.2.2.2.2.2.2.2.2.2.2.2.2.2.2.2.2.2.2.2.2.1 i = x.2.2.2.2.2.2.2.2.2.2.2.2.2.2.2.2.2.2.2.2.1 i) ∧ (z.2.2.2.2.2.2.2.2.2.2.2.2.2.2.2.2.2.2.2.2.2.1 = x.2.2.2.2.2.2.2.2.2.2.2.2.2.2.2.2.2.2.2.2.2.1 ∧ ∀ d, d ≤ 8 → x.2.2.2.2.2.2.2.2.2.2.2.2.2.2.2.2.2.2.2.2.2.1 = nI d → ∀ i, i < 3 * d → z.2.2.2.2.2.2.2.2.2.2.2.2.2.2.2.2.2.2.2.2.2.2 i = x.2.2.2.2.2.2.2.2.2.2.2.2.2.2.2.2.2.2.2.2.2.2 i)
theorem TCp_refl (x : TT) : TCp x x := ⟨⟨rfl, fun _ _ _ _ _ => rfl⟩, rfl, rfl, fun _ _ => rfl, ⟨rfl, fun _ _ => rfl, fun _ _ => rfl, fun _ _ => rfl, fun _ _ => rfl⟩, ⟨rfl, fun _ _ => rfl, fun _ _ => rfl, fun _ _ => rfl, fun _ _ => rfl⟩, ⟨rfl, fun _ _ _ _ _ => rfl⟩, ⟨rfl, fun _ _ _ _ _ => rfl⟩, ⟨rfl, fun _ _ _ _ _ => rfl⟩, ⟨rfl, fun _ _ _ _ _ => rfl⟩⟩
/-- slot t of R2 is slot s of R -/
def RCp (s t : Nat) (R R2 : RT) : Prop := (∀ i, i < 600 → ∀ b, b < 256 → R.1 (600 * s + i) = sbN b → R2.1 (600 * t + i) = sbN b) ∧ R2.2.1 t = R.2.1 s ∧ R2.2.2.1 t = R.2.2.1 s ∧ R2.2.2.2.1 t = R.2.2.2.1 s ∧ (∀ i, i < 3 → R2.2.2.2.2.1 (3 * t + i) = R.2.2.2.2.1 (3 * s + i)) ∧ (∀ i, i < 110 → R2.2.2.2.2.2.1 (110 * t + i) = R.2.2.2.2.2.1 (110 * s + i)) ∧ (∀ i, i < 322 → R2.2.2.2.2.2.2.1 (322 * t + i) = R.2.2.2.2.2.2.1 (322 * s + i)) ∧ (∀ i, i < 50 → R2.2.2.2.2.2.2.2 (50 * t + i) = R.2.2.2.2.2.2.2 (50 * s + i))
theorem TwM_copy {n : Nat} {w pu h o : Nat → Nat} {M M2 : FN} {b b2 : Nat} (H : TwM n w pu h o M b) (e : ∀ i, i < 55 → M2 (b2 + i) = M (b + i)) : TwM n w pu h o M2 b2 := by
  obtain ⟨h1, h2, h3, h4, h5⟩ := H
  refine ⟨(e 0 (by decide)).trans h1, fun i hi => ?_, fun i hi => ?_, fun i hi => ?_, fun i hi => ?_⟩
  · rw [Nat.add_assoc, e _ (by omega), ← Nat.add_assoc]; exact h2 i hi
  · rw [Nat.add_assoc, e _ (by omega), ← Nat.add_assoc]; exact h3 i hi
  · rw [Nat.add_assoc, e _ (by omega), ← Nat.add_assoc]; exact h4 i hi
  · rw [Nat.add_assoc, e _ (by omega), ← Nat.add_assoc]; exact h5 i hi
theorem TwC_copy {n : Nat} {w pu h o : Nat → Nat} {p0 p1 : Int32} {a0 b0 c0 d0 a1 b1 c1 d1 : FN} (hn : n ≤ 6) (H : TwC n w pu h o p0 a0 b0 c0 d0) (e : p1 = p0 ∧ (∀ i, i < 6 → a1 i = a0 i) ∧ (∀ i, i < 6 → b1 i = b0 i) ∧ (∀ i, i < 6 → c1 i = c0 i) ∧ ∀ i, i < 36 → d1 i = d0 i) : TwC n w pu h o p1 a1 b1 c1 d1 := by
  obtain ⟨h1, h2, h3, h4, h5⟩ := H
  obtain ⟨e1, e2, e3, e4, e5⟩ := e
  exact ⟨e1.trans h1, fun i hi => (e2 i (by omega)).trans (h2 i hi), fun i hi => (e3 i (by omega)).trans (h3 i hi), fun i hi => (e4 i hi).trans (h4 i hi), fun i hi => (e5 i hi).trans (h5 i hi)⟩
theorem WkR_copy {d : Nat} {dd dd2 : Int32} {cc cc2 W W2 : FN} {b b2 : Nat} (H : WkR d dd cc W b) (e1 : dd2 = dd) (e2 : ∀ d, d ≤ 40 → dd = nI d → ∀ i, i < 4 * d → cc2 i = cc i) (e3 : ∀ i, i < 161 → W2 (b2 + i) = W (b + i)) : WkR d dd2 cc2 W2 b2 := by
  obtain ⟨h1, h2, h3, h4, h5⟩ := H
  have e2 := e2 d h1 h2
  refine ⟨h1, e1.trans h2, (e3 0 (by decide)).trans h3, fun i hi => ?_, fun j hj => ?_⟩
  · rw [e2 i hi, h4 i hi, Nat.add_assoc, Nat.add_assoc, e3 _ (by omega)]
  · rw [e2 (4 * j) (by omega), e2 (4 * j + 3) (by omega)]
    exact h5 j hj
theorem LgR_copy {d : Nat} {dd dd2 : Int32} {cc cc2 W W2 : FN} {b b2 : Nat} (H : LgR d dd cc W b) (e1 : dd2 = dd) (e2 : ∀ d, d ≤ 8 → dd = nI d → ∀ i, i < 3 * d → cc2 i = cc i) (e3 : ∀ i, i < 25 → W2 (b2 + i) = W (b + i)) : LgR d dd2 cc2 W2 b2 := by
  obtain ⟨h1, h2, h3, h4, h5⟩ := H
  have e2 := e2 d h1 h2
  refine ⟨h1, e1.trans h2, (e3 0 (by decide)).trans h3, fun i hi => ?_, fun j hj => ?_⟩
  · rw [e2 i hi, h4 i hi, Nat.add_assoc, Nat.add_assoc, e3 _ (by omega)]
  · rw [e2 (3 * j) (by omega), e2 (3 * j + 1) (by omega), e2 (3 * j + 2) (by omega)]
    exact h5 j hj
theorem szN_copy {m : Nat} {a b : Int32} (h : szN m a) (e : b = a) : szN m b := by rw [e]; exact h
theorem TS_copy {s t : Nat} {x z : TT} {R R2 : RT} (T : TS s x R) (C : TCp x z) (K : RCp s t R R2) : TS t z R2 := by
  obtain ⟨⟨L, l1, l2, l3, l4⟩, t2, t3, ⟨c, c1, c2, c3, c4, c5⟩, ⟨d, d1, d2, d3', d4, d5⟩, ⟨f, f1, f2, f3, f4, f5⟩, z1, z2, z3, z4⟩ := T
  obtain ⟨⟨a1, a2⟩, a3, a4, a5, a6, a7, ⟨a8, a9⟩, ⟨b1, b2⟩, ⟨b3, b4⟩, ⟨b5, b6⟩⟩ := C
  obtain ⟨k1, k2, k3, k4, k5, k6, k7, k8⟩ := K
  refine ⟨⟨L, l1, a1.trans l2, k2.trans l3, fun i hi => ?_⟩, k3.trans (t2.trans a3.symm), k4.trans (t3.trans a4.symm), ⟨c, c1, (a5 0 (by decide)).trans c2, (k5 0 (by decide)).trans c3, fun q => ?_, fun q => ?_⟩, ⟨d, d1, (a5 1 (by decide)).trans d2, (k5 1 (by decide)).trans d3', fun q => ?_, fun q => ?_⟩, ⟨f, f1, (a5 2 (by decide)).trans f2, (k5 2 (by decide)).trans f3, fun q => ?_, fun q => ?_⟩, szN_copy z1 a8, szN_copy z2 b1, szN_copy z3 b3, szN_copy z4 b5⟩
  · obtain ⟨b, q1, q2, q3⟩ := l4 i hi
    exact ⟨b, q1, (a2 L l1 l2 i hi).trans q2, k1 i (by omega) b q1 q3⟩
  · obtain ⟨n, w, pu, h, o, V, TC, TM⟩ := c4 q
    exact ⟨n, w, pu, h, o, V, TwC_copy V.1 TC a6, TwM_copy TM (fun i hi => k6 i (by omega))⟩
  · obtain ⟨n, w, pu, h, o, V, TC, TM⟩ := c5 q
    exact ⟨n, w, pu, h, o, V, TwC_copy V.1 TC a7, TwM_copy TM (fun i hi => by rw [Nat.add_assoc, Nat.add_assoc]; exact k6 (55 + i) (by omega))⟩
  · obtain ⟨n, TK⟩ := d4 q
    exact ⟨n, WkR_copy TK a8 a9 (fun i hi => k7 i (by omega))⟩
  · obtain ⟨n, TK⟩ := d5 q
    exact ⟨n, WkR_copy TK b1 b2 (fun i hi => by rw [Nat.add_assoc, Nat.add_assoc]; exact k7 (161 + i) (by omega))⟩
  · obtain ⟨n, TK⟩ := f4 q
    exact ⟨n, LgR_copy TK b3 b4 (fun i hi => k8 i (by omega))⟩
  · obtain ⟨n, TK⟩ := f5 q
    exact ⟨n, LgR_copy TK b5 b6 (fun i hi => by rw [Nat.add_assoc, Nat.add_assoc]; exact k8 (25 + i) (by omega))⟩
theorem cp_k {N k : Nat} {f g : FN} (hk : k ≤ N) (hN : N < 2 ^ 31) : cpi N N f g 0 0 (nI k) = some (va_cpy f g 0 0 k) := by
  unfold cpi
  have z : (0 : Int32).toNatClampNeg = 0 := rfl
  rw [if_neg, z, nI_clamp (by omega)]
  rw [z, nI_clamp (by omega)]
  rintro (h | h | h | h | h)
  · exact absurd h (by decide)
  · exact absurd h (by decide)
  · exact absurd h (nI_pos (by omega))
  · omega
  · omega
theorem cpb_k {k : Nat} {f g : FN} (hk : k ≤ 600) (hB : ∀ i, i < k → ∃ b, b < 256 ∧ f i = sbN b) : cpb 600 600 f g 0 0 (nI k) = some (va_cpy f g 0 0 k) := by
  unfold cpb
  have z : (0 : Int32).toNatClampNeg = 0 := rfl
  rw [if_neg, z, nI_clamp (by omega), if_pos]
  · rw [List.all_eq_true]
    intro i hi
    obtain ⟨b, b1, b2⟩ := hB i (List.mem_range.1 hi)
    rw [Nat.zero_add, b2, ← nar0 b b1]
    exact pk_fb _
  · rw [z, nI_clamp (by omega)]
    rintro (h | h | h | h | h)
    · exact absurd h (by decide)
    · exact absurd h (by decide)
    · exact absurd h (nI_pos (by omega))
    · omega
    · omega
theorem ok_copy {fu s : Nat} {x : TT} {R : RT} {a1 : FN} {a2 : Int32} {a3 : Int32} {a4 : Int32} {a5 : FN} {a6 : Int32} {a7 : FN} {a8 : FN} {a9 : FN} {a10 : FN} {a11 : Int32} {a12 : FN} {a13 : FN} {a14 : FN} {a15 : FN} {a16 : Int32} {a17 : FN} {a18 : Int32} {a19 : FN} {a20 : Int32} {a21 : FN} {a22 : Int32} {a23 : FN} (T : TS s x R) (hf : 100 ≤ fu) : ok (f_X8_copy fu a1 a2 a3 a4 a5 a6 a7 a8 a9 a10 a11 a12 a13 a14 a15 a16 a17 a18 a19 a20 a21 a22 a23 x.1 x.2.1 x.2.2.1 x.2.2.2.1 x.2.2.2.2.1 x.2.2.2.2.2.1 x.2.2.2.2.2.2.1 x.2.2.2.2.2.2.2.1 x.2.2.2.2.2.2.2.2.1 x.2.2.2.2.2.2.2.2.2.1 x.2.2.2.2.2.2.2.2.2.2.1 x.2.2.2.2.2.2.2.2.2.2.2.1 x.2.2.2.2.2.2.2.2.2.2.2.2.1 x.2.2.2.2.2.2.2.2.2.2.2.2.2.1 x.2.2.2.2.2.2.2.2.2.2.2.2.2.2.1 x.2.2.2.2.2.2.2.2.2.2.2.2.2.2.2.1 x.2.2.2.2.2.2.2.2.2.2.2.2.2.2.2.2.1 x.2.2.2.2.2.2.2.2.2.2.2.2.2.2.2.2.2.1 x.2.2.2.2.2.2.2.2.2.2.2.2.2.2.2.2.2.2.1 x.2.2.2.2.2.2.2.2.2.2.2.2.2.2.2.2.2.2.2.1 x.2.2.2.2.2.2.2.2.2.2.2.2.2.2.2.2.2.2.2.2.1 x.2.2.2.2.2.2.2.2.2.2.2.2.2.2.2.2.2.2.2.2.2.1 x.2.2.2.2.2.2.2.2.2.2.2.2.2.2.2.2.2.2.2.2.2.2) (TCp x) := by
  obtain ⟨⟨L, l1', l2', l3', l4'⟩, t2, t3, -, -, -, ⟨w0, w01, w02⟩, ⟨w1, w11, w12⟩, ⟨l0, l01, l02⟩, ⟨l1, l11, l12⟩⟩ := T
  have c6 : ∀ f g : FN, cpi 6 6 f g 0 0 6 = some (va_cpy f g 0 0 6) := fun f g => cp_k (k := 6) (by decide) (by decide)
  have c36 : ∀ f g : FN, cpi 36 36 f g 0 0 36 = some (va_cpy f g 0 0 36) := fun f g => cp_k (k := 36) (by decide) (by decide)
  have c3 : ∀ f g : FN, cpi 3 3 f g 0 0 3 = some (va_cpy f g 0 0 3) := fun f g => cp_k (k := 3) (by decide) (by decide)
  have cw : ∀ (d : Nat) (dd : Int32) (f g : FN), d ≤ 40 → dd = nI d → cpi 160 160 f g 0 0 (4 * dd) = some (va_cpy f g 0 0 (4 * d)) := fun d dd f g hd e => by rw [e, show (4 : Int32) = nI 4 from rfl, pk_mul]; exact cp_k (by omega) (by decide)
  have cl : ∀ (d : Nat) (dd : Int32) (f g : FN), d ≤ 8 → dd = nI d → cpi 24 24 f g 0 0 (3 * dd) = some (va_cpy f g 0 0 (3 * d)) := fun d dd f g hd e => by rw [e, show (3 : Int32) = nI 3 from rfl, pk_mul]; exact cp_k (by omega) (by decide)
  have e0 : f_X8_copy_L57 fu x.2.2.2.2.2.1 x.2.2.2.2.2.2.1 x.2.2.2.2.2.2.2.1 x.2.2.2.2.2.2.2.2.1 x.2.2.2.2.2.2.2.2.2.1 x.2.2.2.2.2.2.2.2.2.2.1 x.2.2.2.2.2.2.2.2.2.2.2.1 x.2.2.2.2.2.2.2.2.2.2.2.2.1 x.2.2.2.2.2.2.2.2.2.2.2.2.2.1 x.2.2.2.2.2.2.2.2.2.2.2.2.2.2.1 x.2.2.2.2.2.2.2.2.2.2.2.2.2.2.2.1 x.2.2.2.2.2.2.2.2.2.2.2.2.2.2.2.2.1 x.2.2.2.2.2.2.2.2.2.2.2.2.2.2.2.2.2.1 x.2.2.2.2.2.2.2.2.2.2.2.2.2.2.2.2.2.2.1 x.2.2.2.2.2.2.2.2.2.2.2.2.2.2.2.2.2.2.2.1 x.2.2.2.2.2.2.2.2.2.2.2.2.2.2.2.2.2.2.2.2.1 x.2.2.2.2.2.2.2.2.2.2.2.2.2.2.2.2.2.2.2.2.2.1 x.2.2.2.2.2.2.2.2.2.2.2.2.2.2.2.2.2.2.2.2.2.2 ((0 : Int32), a6, a7, a8, a9, a10, a11, a12, a13, a14, a15, a16, a17, a18, a19, a20, a21, a22, a23) = some (.inl ((1 : Int32), x.2.2.2.2.2.1, va_cpy x.2.2.2.2.2.2.1 a7 0 0 6, va_cpy x.2.2.2.2.2.2.2.1 a8 0 0 6, va_cpy x.2.2.2.2.2.2.2.2.1 a9 0 0 6, va_cpy x.2.2.2.2.2.2.2.2.2.1 a10 0 0 36, a11, a12, a13, a14, a15, x.2.2.2.2.2.2.2.2.2.2.2.2.2.2.2.1, va_cpy x.2.2.2.2.2.2.2.2.2.2.2.2.2.2.2.2.1 a17 0 0 (4 * w0), a18, a19, x.2.2.2.2.2.2.2.2.2.2.2.2.2.2.2.2.2.2.2.1, va_cpy x.2.2.2.2.2.2.2.2.2.2.2.2.2.2.2.2.2.2.2.2.1 a21 0 0 (3 * l0), a22, a23)) := by
    simp only [f_X8_copy_L57, f_X9_copy, f_X10_copy, f_X2_copy]
    rw [if_neg (by decide), if_pos trivial, c6, bnd_some, c6, bnd_some, c6, bnd_some, c36, bnd_some, bnd_some, cw w0 _ _ _ w01 w02, bnd_some, bnd_some, cl l0 _ _ _ l01 l02, bnd_some, bnd_some, show (0 : Int32) + 1 = 1 by decide] <;> rfl
  have e1 : f_X8_copy_L57 fu x.2.2.2.2.2.1 x.2.2.2.2.2.2.1 x.2.2.2.2.2.2.2.1 x.2.2.2.2.2.2.2.2.1 x.2.2.2.2.2.2.2.2.2.1 x.2.2.2.2.2.2.2.2.2.2.1 x.2.2.2.2.2.2.2.2.2.2.2.1 x.2.2.2.2.2.2.2.2.2.2.2.2.1 x.2.2.2.2.2.2.2.2.2.2.2.2.2.1 x.2.2.2.2.2.2.2.2.2.2.2.2.2.2.1 x.2.2.2.2.2.2.2.2.2.2.2.2.2.2.2.1 x.2.2.2.2.2.2.2.2.2.2.2.2.2.2.2.2.1 x.2.2.2.2.2.2.2.2.2.2.2.2.2.2.2.2.2.1 x.2.2.2.2.2.2.2.2.2.2.2.2.2.2.2.2.2.2.1 x.2.2.2.2.2.2.2.2.2.2.2.2.2.2.2.2.2.2.2.1 x.2.2.2.2.2.2.2.2.2.2.2.2.2.2.2.2.2.2.2.2.1 x.2.2.2.2.2.2.2.2.2.2.2.2.2.2.2.2.2.2.2.2.2.1 x.2.2.2.2.2.2.2.2.2.2.2.2.2.2.2.2.2.2.2.2.2.2 ((1 : Int32), x.2.2.2.2.2.1, va_cpy x.2.2.2.2.2.2.1 a7 0 0 6, va_cpy x.2.2.2.2.2.2.2.1 a8 0 0 6, va_cpy x.2.2.2.2.2.2.2.2.1 a9 0 0 6, va_cpy x.2.2.2.2.2.2.2.2.2.1 a10 0 0 36, a11, a12, a13, a14, a15, x.2.2.2.2.2.2.2.2.2.2.2.2.2.2.2.1, va_cpy x.2.2.2.2.2.2.2.2.2.2.2.2.2.2.2.2.1 a17 0 0 (4 * w0), a18, a19, x.2.2.2.2.2.2.2.2.2.2.2.2.2.2.2.2.2.2.2.1, va_cpy x.2.2.2.2.2.2.2.2.2.2.2.2.2.2.2.2.2.2.2.2.1 a21 0 0 (3 * l0), a22, a23) = some (.inl ((2 : Int32), x.2.2.2.2.2.1, va_cpy x.2.2.2.2.2.2.1 a7 0 0 6, va_cpy x.2.2.2.2.2.2.2.1 a8 0 0 6, va_cpy x.2.2.2.2.2.2.2.2.1 a9 0 0 6, va_cpy x.2.2.2.2.2.2.2.2.2.1 a10 0 0 36, x.2.2.2.2.2.2.2.2.2.2.1, va_cpy x.2.2.2.2.2.2.2.2.2.2.2.1 a12 0 0 6, va_cpy x.2.2.2.2.2.2.2.2.2.2.2.2.1 a13 0 0 6, va_cpy x.2.2.2.2.2.2.2.2.2.2.2.2.2.1 a14 0 0 6, va_cpy x.2.2.2.2.2.2.2.2.2.2.2.2.2.2.1 a15 0 0 36, x.2.2.2.2.2.2.2.2.2.2.2.2.2.2.2.1, va_cpy x.2.2.2.2.2.2.2.2.2.2.2.2.2.2.2.2.1 a17 0 0 (4 * w0), x.2.2.2.2.2.2.2.2.2.2.2.2.2.2.2.2.2.1, va_cpy x.2.2.2.2.2.2.2.2.2.2.2.2.2.2.2.2.2.2.1 a19 0 0 (4 * w1), x.2.2.2.2.2.2.2.2.2.2.2.2.2.2.2.2.2.2.2.1, va_cpy x.2.2.2.2.2.2.2.2.2.2.2.2.2.2.2.2.2.2.2.2.1 a21 0 0 (3 * l0), x.2.2.2.2.2.2.2.2.2.2.2.2.2.2.2.2.2.2.2.2.2.1, va_cpy x.2.2.2.2.2.2.2.2.2.2.2.2.2.2.2.2.2.2.2.2.2.2 a23 0 0 (3 * l1))) := by
    simp only [f_X8_copy_L57, f_X9_copy, f_X10_copy, f_X2_copy]
    rw [if_neg (by decide), if_neg (by decide), if_pos trivial, c6, bnd_some, c6, bnd_some, c6, bnd_some, c36, bnd_some, bnd_some, cw w1 _ _ _ w11 w12, bnd_some, bnd_some, cl l1 _ _ _ l11 l12, bnd_some, bnd_some, show (1 : Int32) + 1 = 2 by decide] <;> rfl
  have e2 : f_X8_copy_L57 fu x.2.2.2.2.2.1 x.2.2.2.2.2.2.1 x.2.2.2.2.2.2.2.1 x.2.2.2.2.2.2.2.2.1 x.2.2.2.2.2.2.2.2.2.1 x.2.2.2.2.2.2.2.2.2.2.1 x.2.2.2.2.2.2.2.2.2.2.2.1 x.2.2.2.2.2.2.2.2.2.2.2.2.1 x.2.2.2.2.2.2.2.2.2.2.2.2.2.1 x.2.2.2.2.2.2.2.2.2.2.2.2.2.2.1 x.2.2.2.2.2.2.2.2.2.2.2.2.2.2.2.1 x.2.2.2.2.2.2.2.2.2.2.2.2.2.2.2.2.1 x.2.2.2.2.2.2.2.2.2.2.2.2.2.2.2.2.2.1 x.2.2.2.2.2.2.2.2.2.2.2.2.2.2.2.2.2.2.1 x.2.2.2.2.2.2.2.2.2.2.2.2.2.2.2.2.2.2.2.1 x.2.2.2.2.2.2.2.2.2.2.2.2.2.2.2.2.2.2.2.2.1 x.2.2.2.2.2.2.2.2.2.2.2.2.2.2.2.2.2.2.2.2.2.1 x.2.2.2.2.2.2.2.2.2.2.2.2.2.2.2.2.2.2.2.2.2.2 ((2 : Int32), x.2.2.2.2.2.1, va_cpy x.2.2.2.2.2.2.1 a7 0 0 6, va_cpy x.2.2.2.2.2.2.2.1 a8 0 0 6, va_cpy x.2.2.2.2.2.2.2.2.1 a9 0 0 6, va_cpy x.2.2.2.2.2.2.2.2.2.1 a10 0 0 36, x.2.2.2.2.2.2.2.2.2.2.1, va_cpy x.2.2.2.2.2.2.2.2.2.2.2.1 a12 0 0 6, va_cpy x.2.2.2.2.2.2.2.2.2.2.2.2.1 a13 0 0 6, va_cpy x.2.2.2.2.2.2.2.2.2.2.2.2.2.1 a14 0 0 6, va_cpy x.2.2.2.2.2.2.2.2.2.2.2.2.2.2.1 a15 0 0 36, x.2.2.2.2.2.2.2.2.2.2.2.2.2.2.2.1, va_cpy x.2.2.2.2.2.2.2.2.2.2.2.2.2.2.2.2.1 a17 0 0 (4 * w0), x.2.2.2.2.2.2.2.2.2.2.2.2.2.2.2.2.2.1, va_cpy x.2.2.2.2.2.2.2.2.2.2.2.2.2.2.2.2.2.2.1 a19 0 0 (4 * w1), x.2.2.2.2.2.2.2.2.2.2.2.2.2.2.2.2.2.2.2.1, va_cpy x.2.2.2.2.2.2.2.2.2.2.2.2.2.2.2.2.2.2.2.2.1 a21 0 0 (3 * l0), x.2.2.2.2.2.2.2.2.2.2.2.2.2.2.2.2.2.2.2.2.2.1, va_cpy x.2.2.2.2.2.2.2.2.2.2.2.2.2.2.2.2.2.2.2.2.2.2 a23 0 0 (3 * l1)) = some (.inr (x.2.2.2.2.2.1, va_cpy x.2.2.2.2.2.2.1 a7 0 0 6, va_cpy x.2.2.2.2.2.2.2.1 a8 0 0 6, va_cpy x.2.2.2.2.2.2.2.2.1 a9 0 0 6, va_cpy x.2.2.2.2.2.2.2.2.2.1 a10 0 0 36, x.2.2.2.2.2.2.2.2.2.2.1, va_cpy x.2.2.2.2.2.2.2.2.2.2.2.1 a12 0 0 6, va_cpy x.2.2.2.2.2.2.2.2.2.2.2.2.1 a13 0 0 6, va_cpy x.2.2.2.2.2.2.2.2.2.2.2.2.2.1 a14 0 0 6, va_cpy x.2.2.2.2.2.2.2.2.2.2.2.2.2.2.1 a15 0 0 36, x.2.2.2.2.2.2.2.2.2.2.2.2.2.2.2.1, va_cpy x.2.2.2.2.2.2.2.2.2.2.2.2.2.2.2.2.1 a17 0 0 (4 * w0), x.2.2.2.2.2.2.2.2.2.2.2.2.2.2.2.2.2.1, va_cpy x.2.2.2.2.2.2.2.2.2.2.2.2.2.2.2.2.2.2.1 a19 0 0 (4 * w1), x.2.2.2.2.2.2.2.2.2.2.2.2.2.2.2.2.2.2.2.1, va_cpy x.2.2.2.2.2.2.2.2.2.2.2.2.2.2.2.2.2.2.2.2.1 a21 0 0 (3 * l0), x.2.2.2.2.2.2.2.2.2.2.2.2.2.2.2.2.2.2.2.2.2.1, va_cpy x.2.2.2.2.2.2.2.2.2.2.2.2.2.2.2.2.2.2.2.2.2.2 a23 0 0 (3 * l1))) := by
    simp only [f_X8_copy_L57]
    rw [if_pos (by decide)]
  unfold f_X8_copy
  rw [l2', cpb_k l1' (fun i hi => by obtain ⟨b, q1, q2, q3⟩ := l4' i hi; exact ⟨b, q1, q2⟩), bnd_some, c3, bnd_some, lp_s e0 (by omega), lp_s e1 (by omega), lp_e e2 (by omega), bnd_some]
  refine ok_some ⟨⟨l2'.symm, fun K k1 k2 i hi => ?_⟩, rfl, rfl, fun i hi => cpy_e hi, ⟨rfl, fun i hi => cpy_e hi, fun i hi => cpy_e hi, fun i hi => cpy_e hi, fun i hi => cpy_e hi⟩, ⟨rfl, fun i hi => cpy_e hi, fun i hi => cpy_e hi, fun i hi => cpy_e hi, fun i hi => cpy_e hi⟩, ⟨rfl, fun d d1 d2 i hi => ?_⟩, ⟨rfl, fun d d1 d2 i hi => ?_⟩, ⟨rfl, fun d d1 d2 i hi => ?_⟩, ⟨rfl, fun d d1 d2 i hi => ?_⟩⟩
  · have : L = K := (nI_eq (by omega) (by omega)).1 (l2'.symm.trans k2)
    exact cpy_e (by omega)
  · have : w0 = d := (nI_eq (by omega) (by omega)).1 (w02.symm.trans d2)
    exact cpy_e (by omega)
  · have : w1 = d := (nI_eq (by omega) (by omega)).1 (w12.symm.trans d2)
    exact cpy_e (by omega)
  · have : l0 = d := (nI_eq (by omega) (by omega)).1 (l02.symm.trans d2)
    exact cpy_e (by omega)
  · have : l1 = d := (nI_eq (by omega) (by omega)).1 (l12.symm.trans d2)
    exact cpy_e (by omega)
theorem ok_copyRow {fu N w a b : Nat} {f : FN} {wI aI bI : Int32} (hw : wI = nI w) (ha : wI * aI = nI a) (hb : wI * bI = nI b) (h1 : a + w ≤ N) (h2 : b + w ≤ N) (hN : N < 2 ^ 31) (hd : a + w ≤ b ∨ b + w ≤ a) (hf : w < fu) : ok (f_X12_copyRow fu N f wI aI bI) (fun g => (∀ i, i < w → g (b + i) = f (a + i)) ∧ ∀ i, (i < b ∨ b + w ≤ i) → g i = f i) := by
  unfold f_X12_copyRow
  refine ok_bnd (ok_mono (ok_up (step := f_X12_copyRow_L3 wI aI bI N) (P := fun g => (∀ i, i < w → g (b + i) = f (a + i)) ∧ ∀ i, (i < b ∨ b + w ≤ i) → g i = f i) w (fun j st => st.1 = nI j ∧ (∀ i, i < j → st.2 (b + i) = f (a + i)) ∧ ∀ i, (i < b ∨ b + w ≤ i) → st.2 i = f i) ?_ ?_ w fu 0 _ (by omega) hf ⟨rfl, fun i hi => absurd hi (Nat.not_lt_zero _), fun _ _ => rfl⟩) (fun g hg => ok_some hg))
  · rintro j ⟨c, g⟩ hj ⟨rfl, g1, g2⟩
    have g1 : ∀ i, i < j → g (b + i) = f (a + i) := g1
    have g2 : ∀ i, (i < b ∨ b + w ≤ i) → g i = f i := g2
    simp only [f_X12_copyRow_L3]
    rw [ha, hb, hw, if_neg (nI_ge hj (by omega)), nI_add, nI_add, rdi_n (show a + j < N by omega) hN (g2 (a + j) (by omega)), bnd_some, wri_n (show b + j < N by omega) hN, bnd_some]
    refine ok_some ⟨nI_1 j, fun i hi => ?_, fun i hi => (pk_un (by omega)).trans (g2 i hi)⟩
    by_cases e : i = j
    · rw [e]; exact pk_us
    · exact (pk_un (by omega)).trans (g1 i (by omega))
  · rintro ⟨c, g⟩ ⟨rfl, g1, g2⟩
    simp only [f_X12_copyRow_L3]
    rw [hw, if_pos (nI_le (Nat.le_refl w) (by omega))]
    exact ok_some ⟨g1, g2⟩
theorem ok_copyTape {fu a b : Nat} {f : FN} (ha : a < 4) (hb : b < 4) (hab : a ≠ b) (hf : 1000 ≤ fu) : ok (lp (f_X12_copyAll_L2 (nI a) (nI b)) fu ((0 : Int32), f)) (fun g => (∀ i, i < 600 → g (600 * b + i) = vp_nar .byte (f (600 * a + i))) ∧ ∀ i, (i < 600 * b ∨ 600 * b + 600 ≤ i) → g i = f i) := by
  refine ok_up 600 (fun j st => st.1 = nI j ∧ (∀ i, i < j → st.2 (600 * b + i) = vp_nar .byte (f (600 * a + i))) ∧ ∀ i, (i < 600 * b ∨ 600 * b + 600 ≤ i) → st.2 i = f i) ?_ ?_ 600 fu 0 _ (by omega) (by omega) ⟨rfl, fun i hi => absurd hi (Nat.not_lt_zero _), fun _ _ => rfl⟩
  · rintro j ⟨c, g⟩ hj ⟨rfl, g1, g2⟩
    have g1 : ∀ i, i < j → g (600 * b + i) = vp_nar .byte (f (600 * a + i)) := g1
    have g2 : ∀ i, (i < 600 * b ∨ 600 * b + 600 ≤ i) → g i = f i := g2
    simp only [f_X12_copyAll_L2]
    rw [show (600 : Int32) = nI 600 from rfl, if_neg (nI_ge hj (by decide)), pk_mul, pk_mul, nI_add, nI_add, rdi_n (show 600 * a + j < 2400 by omega) (by decide) (g2 (600 * a + j) (by omega)), bnd_some, wri_n (show 600 * b + j < 2400 by omega) (by decide), bnd_some]
    refine ok_some ⟨nI_1 j, fun i hi => ?_, fun i hi => (pk_un (by omega)).trans (g2 i hi)⟩
    by_cases e : i = j
    · rw [e]; exact pk_us
    · exact (pk_un (by omega)).trans (g1 i (by omega))
  · rintro ⟨c, g⟩ ⟨rfl, g1, g2⟩
    simp only [f_X12_copyAll_L2]
    rw [if_pos (by decide)]
    exact ok_some ⟨g1, g2⟩
theorem ok_copyAll {fu a b : Nat} {R : RT} (ha : a < 4) (hb : b < 4) (hab : a ≠ b) (hf : 1000 ≤ fu) : ok (f_X12_copyAll fu R.1 R.2.1 R.2.2.1 R.2.2.2.1 R.2.2.2.2.1 R.2.2.2.2.2.1 R.2.2.2.2.2.2.1 R.2.2.2.2.2.2.2 (nI a) (nI b)) (fun R2 => RCp a b R R2 ∧ ∀ u, u < 4 → u ≠ b → RCp u u R R2) := by
  unfold f_X12_copyAll
  refine ok_bnd (ok_mono (ok_copyTape ha hb hab hf) ?_)
  rintro g1 ⟨u1, v1⟩
  refine ok_bnd (ok_mono (ok_copyRow (w := 1) (a := 1 * a) (b := 1 * b) rfl (pk_mul 1 a) (pk_mul 1 b) (by omega) (by omega) (by decide) (by omega) (by omega)) ?_)
  rintro g2 ⟨u2, v2⟩
  refine ok_bnd (ok_mono (ok_copyRow (w := 1) (a := 1 * a) (b := 1 * b) rfl (pk_mul 1 a) (pk_mul 1 b) (by omega) (by omega) (by decide) (by omega) (by omega)) ?_)
  rintro g3 ⟨u3, v3⟩
  refine ok_bnd (ok_mono (ok_copyRow (w := 1) (a := 1 * a) (b := 1 * b) rfl (pk_mul 1 a) (pk_mul 1 b) (by omega) (by omega) (by decide) (by omega) (by omega)) ?_)
  rintro g4 ⟨u4, v4⟩
  refine ok_bnd (ok_mono (ok_copyRow (w := 3) (a := 3 * a) (b := 3 * b) rfl (pk_mul 3 a) (pk_mul 3 b) (by omega) (by omega) (by decide) (by omega) (by omega)) ?_)
  rintro g5 ⟨u5, v5⟩
  refine ok_bnd (ok_mono (ok_copyRow (w := 110) (a := 110 * a) (b := 110 * b) rfl (pk_mul 110 a) (pk_mul 110 b) (by omega) (by omega) (by decide) (by omega) (by omega)) ?_)
  rintro g6 ⟨u6, v6⟩
  refine ok_bnd (ok_mono (ok_copyRow (w := 322) (a := 322 * a) (b := 322 * b) rfl (pk_mul 322 a) (pk_mul 322 b) (by omega) (by omega) (by decide) (by omega) (by omega)) ?_)
  rintro g7 ⟨u7, v7⟩
  refine ok_bnd (ok_mono (ok_copyRow (w := 50) (a := 50 * a) (b := 50 * b) rfl (pk_mul 50 a) (pk_mul 50 b) (by omega) (by omega) (by decide) (by omega) (by omega)) ?_)
  rintro g8 ⟨u8, v8⟩
  refine ok_some ⟨⟨fun i hi c hc e => ?_, ?_, ?_, ?_, u5, u6, u7, u8⟩, fun u hu hne => ⟨fun i hi c hc e => ?_, ?_, ?_, ?_, fun i hi => v5 _ (by omega), fun i hi => v6 _ (by omega), fun i hi => v7 _ (by omega), fun i hi => v8 _ (by omega)⟩⟩
  · show g1 (600 * b + i) = sbN c
    rw [u1 i hi, e]
    exact nar_sb c hc
  · have := u2 0 (by decide)
    rw [Nat.one_mul, Nat.one_mul] at this
    exact this
  · have := u3 0 (by decide)
    rw [Nat.one_mul, Nat.one_mul] at this
    exact this
  · have := u4 0 (by decide)
    rw [Nat.one_mul, Nat.one_mul] at this
    exact this
  · exact (v1 _ (by omega)).trans e
  · exact v2 u (by omega)
  · exact v3 u (by omega)
  · exact v4 u (by omega)
