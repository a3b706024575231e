section L3
variable {fu n B t k d : Nat} {h : Nat → Nat} {ha M : FN} {pu ow se kp wk : FN} {si cl sa fi va le fo wh sa2 qu va2 le2 fo2 su : Int32} {pu2 be de st vi : FN}
theorem bz01 {x : Int32} (h : x = 0 ∨ x = 1) : bz x = some x := if_pos h
theorem prs1 (x : Int32) (hn : n ≤ 6) : (∃ p, p < n ∧ x = nI p ∧ f_X1_has fu (nI n) x = some 1 ∧ f_X12_isPerson fu (nI n) x = some 1) ∨ (f_X1_has fu (nI n) x = some 0 ∧ f_X12_isPerson fu (nI n) x = some 0) := prs x hn
def Fst (fi : Int32) (d : Nat) (x : CT) : Prop := (fi ≠ -1 → x.2.2.2.2.2.2.2.2.1 = fi) ∧ (fi = -1 → x.2.2.2.2.2.2.2.2.1 = -1 ∨ x.2.2.2.2.2.2.2.2.1 = nI d)
theorem does_eq {a b c : Int32} (S : SRx n B pu ow se kp wk si cl sa fi va le fo wh sa2 qu va2 le2 fo2 su pu2 be de st vi) (hha : ∀ i, i < 6 → ha i = nI (h i)) (h64 : ∀ i, i < 6 → h i < 64) (hM : ∀ i, i < 6 → M (55 * t + 13 + i) = nI (h i)) (ht : t < 8) (hn : n ≤ 6) (hB : B < 1000) (hd : d < 2 ^ 31) (hk : k ≤ 6) (hc : 1 ≤ k → k ≤ 3 → ∃ u, u ≤ 30 ∧ c = nI u) (hf : 100 ≤ fu) :
    ∃ (r : Int32) (x : CT) (y : MT), f_X1_mayDo fu (nI n) ha pu ow se kp wk si cl sa (nI d) fi va le fo (nI k) a b c = some (r, x) ∧ f_X12_does fu M (nI t) (nI n) wh sa2 qu va2 le2 fo2 su pu2 be de st vi (nI k) a b c = some (r, y) ∧ (r = 0 ∨ r = 1) ∧ SR n (B + 1) x y ∧ Fst fi d x := by
  have S0 := S.mono (show B ≤ B + 1 by omega)
  have F0 : (fi ≠ -1 → fi = fi) ∧ (fi = -1 → fi = -1 ∨ fi = nI d) := ⟨fun _ => rfl, fun z => Or.inl z⟩
  by_cases k6 : k = 6
  · subst k6
    obtain ⟨x, y, e1, e2, hS⟩ := hour_eq (fu := fu) S hB hf
    refine ⟨1, (pu, x.1, x.2.1, kp, wk, si, x.2.2, sa, fi, va, le, fo), (y.1, sa2, qu, va2, le2, fo2, y.2.1, pu2, y.2.2.1, y.2.2.2, st, vi), ?_, ?_, Or.inr rfl, hS, F0⟩
    · simp only [f_X1_mayDo]
      rw [if_pos (show nI 6 = (6 : Int32) from rfl), e1, bnd_some]
    · simp only [f_X12_does]
      rw [if_pos (show nI 6 = (6 : Int32) from rfl), e2, bnd_some]
  · have c6 : ¬ nI k = (6 : Int32) := by rw [show (6 : Int32) = nI 6 from rfl, nI_eq (by omega) (by decide)]; exact k6
    rcases prs1 (fu := fu) a hn with ⟨p, hp, rfl, r1, r2⟩ | ⟨r1, r2⟩
    · have ek : ∀ j, j < 2 ^ 31 → (nI k = nI j ↔ k = j) := fun j hj => nI_eq (by omega) hj
      by_cases k4 : k = 4
      · subst k4
        obtain ⟨s1, s2, s3, s4, s5, s6, s7, s8⟩ := S0
        refine ⟨1, (pu, ow, se, kp, wk, si ||| jshl 1 (nI p), cl, sa, fi, va, le, fo), (wh, sa2, qu ||| jshl 1 (nI p), va2, le2, fo2, su, pu2, be, de, st, vi), ?_, ?_, Or.inr rfl, ⟨s1, s2, s3, s4, s5, s6, by rw [s7], s8⟩, F0⟩
        · simp only [f_X1_mayDo]
          rw [if_neg c6, r1, bnd_some, if_neg i10, if_pos (show nI 4 = (4 : Int32) from rfl)]
          rfl
        · simp only [f_X12_does]
          rw [if_neg c6, r2, bnd_some, if_neg i10, if_pos (show (4 : Int32) ≤ nI 4 by decide), bnd_some]
          simp only [cse]
          rw [if_neg (by decide), if_neg (by decide), if_neg (by decide), if_neg (by decide), if_pos (by decide)]
          rfl
      · by_cases k5 : k = 5
        · subst k5
          obtain ⟨s1, s2, s3, s4, s5, s6, s7, s8⟩ := S0
          refine ⟨1, (pu, ow, se, kp, wk, si &&& (jshl 1 (nI p) ^^^ (-1)), cl, sa, fi, va, le, fo), (wh, sa2, qu &&& (jshl 1 (nI p) ^^^ (-1)), va2, le2, fo2, su, pu2, be, de, st, vi), ?_, ?_, Or.inr rfl, ⟨s1, s2, s3, s4, s5, s6, by rw [s7], s8⟩, F0⟩
          · simp only [f_X1_mayDo]
            rw [if_neg c6, r1, bnd_some, if_neg i10, if_neg (by decide), if_pos (show nI 5 = (5 : Int32) from rfl)]
            rfl
          · simp only [f_X12_does]
            rw [if_neg c6, r2, bnd_some, if_neg i10, if_pos (show (4 : Int32) ≤ nI 5 by decide), bnd_some]
            simp only [cse]
            rw [if_neg (by decide), if_neg (by decide), if_neg (by decide), if_neg (by decide), if_neg (by decide)]
            rfl
        · have c4 : ¬ nI k = (4 : Int32) := by rw [show (4 : Int32) = nI 4 from rfl, ek 4 (by decide)]; exact k4
          have c5 : ¬ nI k = (5 : Int32) := by rw [show (5 : Int32) = nI 5 from rfl, ek 5 (by decide)]; exact k5
          have m4 : ¬ (4 : Int32) ≤ nI k := nI_ge (a := k) (b := 4) (by omega) (by decide)
          rcases prs1 (fu := fu) b hn with ⟨q, hq, rfl, t1, t2⟩ | ⟨t1, t2⟩
          · rcases (show k = 0 ∨ k = 1 ∨ k = 2 ∨ k = 3 by omega) with rfl | rfl | rfl | rfl
            · obtain ⟨x, y, e1, e2, e3, e4, e5, e6⟩ := sit_eq (fu := fu) S hha h64 hM ht hn hB hd hp hq hf
              refine ⟨x.1, (pu, x.2.1, x.2.2.1, x.2.2.2.1, x.2.2.2.2.1, si, cl, x.2.2.2.2.2.1, x.2.2.2.2.2.2.1, x.2.2.2.2.2.2.2, le, fo), (wh, y.2.1, qu, y.2.2.1, le2, fo2, su, pu2, y.2.2.2.1, y.2.2.2.2.1, y.2.2.2.2.2.1, y.2.2.2.2.2.2), ?_, ?_, e4, e5, e6⟩
              · simp only [f_X1_mayDo]
                rw [if_neg c6, r1, bnd_some, if_neg i10, if_neg c4, if_neg c5, t1, bnd_some, if_neg i10, if_pos (by decide), e1, bnd_some, bz01 e4, bnd_some]
              · simp only [f_X12_does]
                rw [if_neg c6, r2, bnd_some, if_neg i10, if_neg m4, t2, bnd_some, if_neg i10, bnd_some]
                simp only [cse]
                rw [if_pos (by decide), e2, bnd_some, ← e3, bz01 e4, bnd_some]
            · obtain ⟨u, hu, rfl⟩ := hc (by omega) (by omega)
              obtain ⟨x, y, e1, e2, e3, e4, e5⟩ := lend_eq (fu := fu) S hn hu hp hq
              refine ⟨x.1, (x.2.1, x.2.2.1, se, kp, wk, si, cl, sa, fi, va, x.2.2.2, fo), (wh, sa2, qu, va2, y.2.1, fo2, su, y.2.2.1, be, y.2.2.2, st, vi), ?_, ?_, e4, e5, F0⟩
              · simp only [f_X1_mayDo]
                rw [if_neg c6, r1, bnd_some, if_neg i10, if_neg c4, if_neg c5, t1, bnd_some, if_neg i10, if_neg (by decide), if_neg (by decide), if_pos (by decide), e1, bnd_some, bz01 e4, bnd_some]
              · simp only [f_X12_does]
                rw [if_neg c6, r2, bnd_some, if_neg i10, if_neg m4, t2, bnd_some, if_neg i10, bnd_some]
                simp only [cse]
                rw [if_neg (by decide), if_pos (by decide), e2, bnd_some, ← e3, bz01 e4, bnd_some]
            · obtain ⟨u, hu, rfl⟩ := hc (by omega) (by omega)
              obtain ⟨x, y, e1, e2, e3, e4, e5⟩ := pay_eq (fu := fu) S hn hu hp hq
              refine ⟨x.1, (x.2.1, x.2.2, se, kp, wk, si, cl, sa, fi, va, le, fo), (wh, sa2, qu, va2, le2, fo2, su, y.2.1, be, y.2.2, st, vi), ?_, ?_, e4, e5, F0⟩
              · simp only [f_X1_mayDo]
                rw [if_neg c6, r1, bnd_some, if_neg i10, if_neg c4, if_neg c5, t1, bnd_some, if_neg i10, if_neg (by decide), if_neg (by decide), if_neg (by decide), e1, bnd_some, bz01 e4, bnd_some]
              · simp only [f_X12_does]
                rw [if_neg c6, r2, bnd_some, if_neg i10, if_neg m4, t2, bnd_some, if_neg i10, bnd_some]
                simp only [cse]
                rw [if_neg (by decide), if_neg (by decide), if_pos (by decide), e2, bnd_some, ← e3, bz01 e4, bnd_some]
            · obtain ⟨u, hu, rfl⟩ := hc (by omega) (by omega)
              obtain ⟨x, y, e1, e2, e3, e4, e5⟩ := forgive_eq (fu := fu) S hn hu hp hq
              refine ⟨x.1, (pu, x.2.1, se, kp, wk, si, cl, sa, fi, va, le, x.2.2), (wh, sa2, qu, va2, le2, y.2.1, su, pu2, be, y.2.2, st, vi), ?_, ?_, e4, e5, F0⟩
              · simp only [f_X1_mayDo]
                rw [if_neg c6, r1, bnd_some, if_neg i10, if_neg c4, if_neg c5, t1, bnd_some, if_neg i10, if_neg (by decide), if_pos (by decide), e1, bnd_some, bz01 e4, bnd_some]
              · simp only [f_X12_does]
                rw [if_neg c6, r2, bnd_some, if_neg i10, if_neg m4, t2, bnd_some, if_neg i10, bnd_some]
                simp only [cse]
                rw [if_neg (by decide), if_neg (by decide), if_neg (by decide), if_pos (by decide), e2, bnd_some, ← e3, bz01 e4, bnd_some]
          · refine ⟨0, (pu, ow, se, kp, wk, si, cl, sa, fi, va, le, fo), (wh, sa2, qu, va2, le2, fo2, su, pu2, be, de, st, vi), ?_, ?_, Or.inl rfl, S0, F0⟩
            · simp only [f_X1_mayDo]
              rw [if_neg c6, r1, bnd_some, if_neg i10, if_neg c4, if_neg c5, t1, bnd_some, if_pos i00]
            · simp only [f_X12_does]
              rw [if_neg c6, r2, bnd_some, if_neg i10, if_neg m4, t2, bnd_some, if_pos i00, bnd_some]
              rfl
    · refine ⟨0, (pu, ow, se, kp, wk, si, cl, sa, fi, va, le, fo), (wh, sa2, qu, va2, le2, fo2, su, pu2, be, de, st, vi), ?_, ?_, Or.inl rfl, S0, F0⟩
      · simp only [f_X1_mayDo]
        rw [if_neg c6, r1, bnd_some, if_pos i00]
      · simp only [f_X12_does]
        rw [if_neg c6, r2, bnd_some, if_pos i00]
end L3
/-! ===== weeks ===== -/
/-- a week in class and reference -/
def WkR (d : Nat) (dd : Int32) (cc W : FN) (b : Nat) : Prop := d ≤ 40 ∧ dd = nI d ∧ W b = nI d ∧ (∀ i, i < 4 * d → cc i = W (b + 1 + i)) ∧ ∀ j, j < d → ∃ k, k ≤ 6 ∧ cc (4 * j) = nI k ∧ (1 ≤ k → k ≤ 3 → ∃ u, u ≤ 30 ∧ cc (4 * j + 3) = nI u)
section L4
variable {fu n B t k d wn : Nat} {h : Nat → Nat} {ha M cc W : FN} {dd : Int32}
theorem tell_n {j i : Nat} (hd : d ≤ 40) (hj : j < d) (hi : i < 4) : f_X10_tell fu (nI d) cc (nI j) (nI i) = some (cc (4 * j + i)) := by
  simp only [f_X10_tell, if_neg (nI_nm1 (show j < 2 ^ 31 by omega)), bnd_some, cse, if_neg (nI_pos (show j < 2 ^ 31 by omega)), if_neg (nI_ge hj (by omega : d < 2 ^ 31)), if_neg (nI_pos (show i < 2 ^ 31 by omega)), show (3 : Int32) = nI 3 from rfl, show (4 : Int32) = nI 4 from rfl, if_pos (nI_le (show i ≤ 3 by omega) (by decide : 3 < 2 ^ 31)), pk_mul, nI_add]
  rw [rdi_n (show 4 * j + i < 160 by omega) (by decide) rfl]
  rfl
theorem deedOf_n {j i : Nat} (hw : wn < 2) (hd : d ≤ 40) (hj : j < d) (hi : i < 4) : f_X12_deedOf fu W (nI wn) (nI j) (nI i) = some (W (161 * wn + 1 + (4 * j + i))) := by
  simp only [f_X12_deedOf, show (161 : Int32) = nI 161 from rfl, show (1 : Int32) = nI 1 from rfl, show (4 : Int32) = nI 4 from rfl, pk_mul, nI_add]
  rw [rdi_n (show 161 * wn + 1 + 4 * j + i < 1288 by omega) (by decide) rfl, bnd_some, Nat.add_assoc]
theorem deeds_n (hw : wn < 2) (hW : W (161 * wn) = nI d) : f_X12_deeds fu W (nI wn) = some (nI d) := by
  simp only [f_X12_deeds, show (161 : Int32) = nI 161 from rfl, pk_mul]
  rw [rdi_n (show 161 * wn < 1288 by omega) (by decide) hW]
  rfl
abbrev CTd : Type := FN × FN × FN × FN × FN × Int32 × Int32 × Int32 × Int32 × Int32 × Int32 × Int32 × Int32
def ins (x : CT) (d : Int32) : CTd := (x.1, x.2.1, x.2.2.1, x.2.2.2.1, x.2.2.2.2.1, x.2.2.2.2.2.1, x.2.2.2.2.2.2.1, x.2.2.2.2.2.2.2.1, d, x.2.2.2.2.2.2.2.2.1, x.2.2.2.2.2.2.2.2.2.1, x.2.2.2.2.2.2.2.2.2.2.1, x.2.2.2.2.2.2.2.2.2.2.2)
def fsto (x : CT) : Int32 := x.2.2.2.2.2.2.2.2.1
/-- the class's deed and the reference's -/
def CD (fu n : Nat) (ha cc : FN) (j : Nat) (x : CT) : Option (Int32 × CT) := f_X1_mayDo fu (nI n) ha x.1 x.2.1 x.2.2.1 x.2.2.2.1 x.2.2.2.2.1 x.2.2.2.2.2.1 x.2.2.2.2.2.2.1 x.2.2.2.2.2.2.2.1 (nI j) x.2.2.2.2.2.2.2.2.1 x.2.2.2.2.2.2.2.2.2.1 x.2.2.2.2.2.2.2.2.2.2.1 x.2.2.2.2.2.2.2.2.2.2.2 (cc (4 * j)) (cc (4 * j + 1)) (cc (4 * j + 2)) (cc (4 * j + 3))
def MD (fu t n wn : Nat) (M W : FN) (j : Nat) (y : MT) : Option (Int32 × MT) := f_X12_doesDeed fu M W (nI t) (nI n) y.1 y.2.1 y.2.2.1 y.2.2.2.1 y.2.2.2.2.1 y.2.2.2.2.2.1 y.2.2.2.2.2.2.1 y.2.2.2.2.2.2.2.1 y.2.2.2.2.2.2.2.2.1 y.2.2.2.2.2.2.2.2.2.1 y.2.2.2.2.2.2.2.2.2.2.1 y.2.2.2.2.2.2.2.2.2.2.2 (nI wn) (nI j)
theorem deed_eq {j : Nat} {x : CT} {y : MT} (S : SR n B x y) (hha : ∀ i, i < 6 → ha i = nI (h i)) (h64 : ∀ i, i < 6 → h i < 64) (hM : ∀ i, i < 6 → M (55 * t + 13 + i) = nI (h i)) (ht : t < 8) (hn : n ≤ 6) (hB : B < 1000) (hw : wn < 2) (K : WkR d dd cc W (161 * wn)) (hj : j < d) (hf : 100 ≤ fu) :
    ∃ (r : Int32) (x' : CT) (y' : MT), CD fu n ha cc j x = some (r, x') ∧ MD fu t n wn M W j y = some (r, y') ∧ (r = 0 ∨ r = 1) ∧ SR n (B + 1) x' y' ∧ Fst (fsto x) j x' := by
  obtain ⟨k1, k2, k3, k4, k5⟩ := K
  obtain ⟨k, hk, e0, hc⟩ := k5 j hj
  obtain ⟨r, x', y', h1, h2, h3, h4, h5⟩ := does_eq (fu := fu) (a := cc (4 * j + 1)) (b := cc (4 * j + 2)) (c := cc (4 * j + 3)) (d := j) S hha h64 hM ht hn hB (by omega) hk hc hf
  refine ⟨r, x', y', ?_, ?_, h3, h4, h5⟩
  · unfold CD
    rw [e0]
    exact h1
  · unfold MD f_X12_doesDeed
    rw [show (0 : Int32) = nI 0 from rfl, show (1 : Int32) = nI 1 from rfl, show (2 : Int32) = nI 2 from rfl, show (3 : Int32) = nI 3 from rfl, deedOf_n hw k1 hj (by decide), bnd_some, deedOf_n hw k1 hj (by decide), bnd_some, deedOf_n hw k1 hj (by decide), bnd_some, deedOf_n hw k1 hj (by decide), bnd_some, ← k4 (4 * j + 0) (by omega), ← k4 (4 * j + 1) (by omega), ← k4 (4 * j + 2) (by omega), ← k4 (4 * j + 3) (by omega), Nat.add_zero, e0, h2, bnd_some, bz01 h3, bnd_some]
end L4
