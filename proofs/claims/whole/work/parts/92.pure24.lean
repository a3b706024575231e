/-! ===== fits: the reference ===== -/
/-- a log in the reference -/
def LgM (f lg : Nat) (kd A B : Nat → Nat) (Lo : FN) : Prop := Lo (25 * lg) = nI f ∧ ∀ j, j < f → Lo (25 * lg + 1 + 3 * j) = nI (kd j) ∧ Lo (25 * lg + 1 + 3 * j + 1) = nI (A j) ∧ Lo (25 * lg + 1 + 3 * j + 2) = nI (B j)
theorem log_both {f lg n : Nat} {ff : Int32} {cc Lo : FN} (K : LgR f ff cc Lo (25 * lg)) : ∃ kd A B, LgN f n kd A B ff cc ∧ LgM f lg kd A B Lo := by
  obtain ⟨k1, k2, k3, k4, k5⟩ := K
  have cl : ∀ (a : Nat) (z : Int32), a < 6 → z = nI a → z = nI z.toNatClampNeg ∧ z.toNatClampNeg < 6 := by
    intro a z ha e
    rw [e, nI_clamp (by omega)]
    exact ⟨rfl, ha⟩
  have all : ∀ j, j < f → cc (3 * j) = nI (cc (3 * j)).toNatClampNeg ∧ cc (3 * j + 1) = nI (cc (3 * j + 1)).toNatClampNeg ∧ cc (3 * j + 2) = nI (cc (3 * j + 2)).toNatClampNeg ∧ (cc (3 * j)).toNatClampNeg < 2 ∧ (cc (3 * j + 1)).toNatClampNeg < 6 ∧ (cc (3 * j + 2)).toNatClampNeg < 6 := by
    intro j hj
    obtain ⟨h0, ⟨a, a1, a2⟩, ⟨b, b1, b2⟩⟩ := k5 j hj
    have ea := cl a _ a1 a2
    have eb := cl b _ b1 b2
    rcases h0 with h0 | h0
    · rw [h0]; exact ⟨by decide, ea.1, eb.1, by decide, ea.2, eb.2⟩
    · rw [h0]; exact ⟨by decide, ea.1, eb.1, by decide, ea.2, eb.2⟩
  refine ⟨fun j => (cc (3 * j)).toNatClampNeg, fun j => (cc (3 * j + 1)).toNatClampNeg, fun j => (cc (3 * j + 2)).toNatClampNeg, ⟨k1, k2, all⟩, k3, fun j hj => ?_⟩
  obtain ⟨c0, c1, c2, -⟩ := all j hj
  have e0 := k4 (3 * j) (by omega)
  have e1 := k4 (3 * j + 1) (by omega)
  have e2 := k4 (3 * j + 2) (by omega)
  refine ⟨?_, ?_, ?_⟩
  · rw [← e0]; exact c0
  · rw [Nat.add_assoc, ← e1]; exact c1
  · rw [Nat.add_assoc, ← e2]; exact c2
section SUM
variable {fu n f t lg d : Nat} {w pu h o kd A B : Nat → Nat} {Lo M : FN}
theorem e_facts (L : LgM f lg kd A B Lo) (hl : lg < 8) : f_X12_facts fu Lo (nI lg) = some (nI f) := by
  unfold f_X12_facts
  rw [show (25 : Int32) = nI 25 from rfl, pk_mul, rdi_n (show 25 * lg < 200 by omega) (by decide) L.1]
  rfl
theorem e_factOf {j wt : Nat} {v : Int32} (hl : lg < 8) (hj : j < 8) (hw : wt < 3) (e : Lo (25 * lg + 1 + 3 * j + wt) = v) : f_X12_factOf fu Lo (nI lg) (nI j) (nI wt) = some v := by
  unfold f_X12_factOf
  rw [show (25 : Int32) = nI 25 from rfl, show (1 : Int32) = nI 1 from rfl, show (3 : Int32) = nI 3 from rfl, pk_mul, pk_mul, nI_add, nI_add, nI_add, rdi_n (show 25 * lg + 1 + 3 * j + wt < 200 by omega) (by decide) e]
  rfl
theorem e_isFit {ot : Nat} (L : LgM f lg kd A B Lo) (K : ∀ j, j < f → kd j < 2 ∧ A j < 6 ∧ B j < 6) (h8 : f ≤ 8) (hl : lg < 8) (hM : ∀ i, i < 6 → M (55 * t + 13 + i) = nI (h i)) (h64' : ∀ i, i < 6 → h i < 64) (ht : t < 8) (hn : n ≤ 6) (hd : d < n) (ho0 : 0 < ot) (ho : ot < 2 ^ n) (hf : 100 ≤ fu) : f_X12_isFit fu M Lo (nI t) (nI n) (nI lg) (nI d) (nI ot) = some (if ftN n h f kd A B d ot = true then 1 else 0) := by
  have h64 := pw64 hn
  have hor : ot ||| 2 ^ d < 2 ^ n := or_pow ho (pw_lt hd)
  have hb := bi_lt ot d
  have C : ∀ j, j < f → ∀ z : Int32, (z = 1) → f_X12_isFit_L36 fu Lo (nI n) (nI lg) (nI (ot ||| 2 ^ d)) (z, nI j) = some (.inl (if ((decide (A j < n) && decide (B j < n)) && (decide (bi (ot ||| 2 ^ d) (A j) = 1 ∧ bi (ot ||| 2 ^ d) (B j) = 1) == (kd j == 0))) = true then 1 else 0, nI (j + 1))) := by
    rintro j hj z rfl
    obtain ⟨k0, k1, k2⟩ := K j hj
    obtain ⟨c0, c1, c2⟩ := L.2 j hj
    have s1 := bi_lt (ot ||| 2 ^ d) (A j)
    have s2 := bi_lt (ot ||| 2 ^ d) (B j)
    have f0 : f_X12_factOf fu Lo (nI lg) (nI j) 0 = some (nI (kd j)) := e_factOf (wt := 0) hl (by omega) (by decide) c0
    have f1 : f_X12_factOf fu Lo (nI lg) (nI j) 1 = some (nI (A j)) := e_factOf (wt := 1) hl (by omega) (by decide) c1
    have f2 : f_X12_factOf fu Lo (nI lg) (nI j) 2 = some (nI (B j)) := e_factOf (wt := 2) hl (by omega) (by decide) c2
    have both : (if nI (bi (ot ||| 2 ^ d) (A j)) = 0 then some (0 : Int32) else bnd (f_X12_has fu (nI (ot ||| 2 ^ d)) (nI (B j))) (fun x19 => if x19 = 0 then some (0 : Int32) else some (1 : Int32))) = some (if bi (ot ||| 2 ^ d) (A j) = 1 ∧ bi (ot ||| 2 ^ d) (B j) = 1 then 1 else 0) := by
      rw [e_X12_has (show ot ||| 2 ^ d < 64 by omega) k2, bnd_some]
      by_cases q1 : bi (ot ||| 2 ^ d) (A j) = 1
      · rw [if_neg (fun z => by have := (nI_eq0 (by omega)).1 z; omega)]
        by_cases q2 : bi (ot ||| 2 ^ d) (B j) = 1
        · rw [if_neg (fun z => by have := (nI_eq0 (by omega)).1 z; omega), if_pos ⟨q1, q2⟩]
        · rw [if_pos ((nI_eq0 (by omega)).2 (by omega)), if_neg (fun z => q2 z.2)]
      · rw [if_pos ((nI_eq0 (by omega)).2 (by omega)), if_neg (fun z => q1 z.1)]
    simp only [f_X12_isFit_L36, e_facts L hl, bnd_some, if_neg (nI_ge hj (by omega : f < 2 ^ 31)), f0, f1, f2, e_X12_has (show ot ||| 2 ^ d < 64 by omega) k1, isP_n hn (show A j < 2 ^ 31 by omega), isP_n hn (show B j < 2 ^ 31 by omega)]
    rw [if_neg i10, both, bnd_some]
    by_cases a1 : A j < n
    · rw [if_pos a1, if_neg i10]
      by_cases b1 : B j < n
      · rw [if_pos b1, if_neg i10]
        by_cases q : bi (ot ||| 2 ^ d) (A j) = 1 ∧ bi (ot ||| 2 ^ d) (B j) = 1
        · rw [if_pos q]
          by_cases q2 : kd j = 0
          · rw [q2, if_pos (show nI 0 = 0 from rfl), bnd_some, if_pos rfl, if_pos (by rw [decide_eq_true a1, decide_eq_true b1, decide_eq_true q]; rfl), nI_1]
          · rw [if_neg (fun z => q2 ((nI_eq0 (by omega)).1 z)), bnd_some, if_neg i10, if_neg (by rw [decide_eq_true a1, decide_eq_true b1, decide_eq_true q, show kd j = 1 by omega]; decide), nI_1]
        · rw [if_neg q]
          by_cases q2 : kd j = 0
          · rw [q2, if_pos (show nI 0 = 0 from rfl), bnd_some, if_neg (by decide), if_neg (by rw [decide_eq_true a1, decide_eq_true b1, decide_eq_false q]; decide), nI_1]
          · rw [if_neg (fun z => q2 ((nI_eq0 (by omega)).1 z)), bnd_some, if_pos rfl, if_pos (by rw [decide_eq_true a1, decide_eq_true b1, decide_eq_false q, show kd j = 1 by omega]; rfl), nI_1]
      · rw [if_neg b1, if_pos i00, if_neg (by rw [decide_eq_false b1, Bool.and_false, Bool.false_and]; decide), nI_1]
    · rw [if_neg a1, if_pos i00, if_neg (by rw [decide_eq_false a1, Bool.false_and, Bool.false_and]; decide), nI_1]
  have ex0 : ∀ j, f_X12_isFit_L36 fu Lo (nI n) (nI lg) (nI (ot ||| 2 ^ d)) (0, nI j) = some (.inr 0) := by
    intro j
    simp only [f_X12_isFit_L36, e_facts L hl, bnd_some]
    split
    · rfl
    · rw [if_pos trivial]
  have ex1 : f_X12_isFit_L36 fu Lo (nI n) (nI lg) (nI (ot ||| 2 ^ d)) (1, nI f) = some (.inr 1) := by
    simp only [f_X12_isFit_L36, e_facts L hl, bnd_some, if_pos (nI_le (Nat.le_refl f) (by omega : f < 2 ^ 31))]
  have key : ∀ k j fu', j + k = f → k + 1 < fu' → lp (f_X12_isFit_L36 fu Lo (nI n) (nI lg) (nI (ot ||| 2 ^ d))) fu' (1, nI j) = some (if ((List.range' j k).all (fun j => (decide (A j < n) && decide (B j < n)) && (decide (bi (ot ||| 2 ^ d) (A j) = 1 ∧ bi (ot ||| 2 ^ d) (B j) = 1) == (kd j == 0)))) = true then 1 else 0) := by
    intro k
    induction k with
    | zero =>
      intro j fu' hj hf'
      rw [show j = f by omega, lp_e ex1 (by omega)]
      rfl
    | succ k ih =>
      intro j fu' hj hf'
      rw [lp_s (C j (by omega) 1 rfl) (by omega), List.range'_succ, List.all_cons]
      by_cases q : ((decide (A j < n) && decide (B j < n)) && (decide (bi (ot ||| 2 ^ d) (A j) = 1 ∧ bi (ot ||| 2 ^ d) (B j) = 1) == (kd j == 0))) = true
      · rw [if_pos q, q, Bool.true_and]
        exact ih (j + 1) (fu' - 1) (by omega) (by omega)
      · rw [if_neg q, lp_e (ex0 (j + 1)) (by omega), Bool.eq_false_iff.2 q, Bool.false_and]
        rfl
  have spl : (List.range f).all (fun j => (decide (A j < n) && decide (B j < n)) && (decide (bi (ot ||| 2 ^ d) (A j) = 1 ∧ bi (ot ||| 2 ^ d) (B j) = 1) == (kd j == 0))) = (isOfN f n A B && agrN f kd A B (ot ||| 2 ^ d)) := by
    rw [Bool.eq_iff_iff]
    unfold isOfN agrN
    rw [Bool.and_eq_true, List.all_eq_true, List.all_eq_true, List.all_eq_true]
    constructor
    · intro z
      refine ⟨fun x hx => ?_, fun x hx => ?_⟩
      · have := z x hx; rw [Bool.and_eq_true] at this; exact this.1
      · have := z x hx; rw [Bool.and_eq_true] at this; exact this.2
    · rintro ⟨z1, z2⟩ x hx
      rw [Bool.and_eq_true]
      exact ⟨z1 x hx, z2 x hx⟩
  unfold f_X12_isFit
  rw [if_neg (nI_ne0 ho0 (by omega)), e_X12_has (show ot < 64 by omega) (show d < 6 by omega), bnd_some]
  have fin : ∀ v : Int32, (v = if (bi ot d == 0 && sNone n h ot) = true then 1 else 0) → bnd (some v) (fun v2 => ltn (nI ot ||| jshl 1 (nI d)) (fun x3 => bnd (lp (f_X12_isFit_L36 fu Lo (nI n) (nI lg) x3) fu (v2, (0 : Int32))) (fun v20 => bnd (bz v20) (fun z21 => some z21)))) = some (if ftN n h f kd A B d ot = true then 1 else 0) := by
    intro v hv
    rw [bnd_some]
    dsimp only [ltn]
    rw [jshl_1 d (by omega), fa_or]
    by_cases q : (bi ot d == 0 && sNone n h ot) = true
    · rw [if_pos q] at hv
      have k0 := key f 0 fu (by omega) (by omega)
      rw [← List.range_eq_range', spl] at k0
      have k0 : lp (f_X12_isFit_L36 fu Lo (nI n) (nI lg) (nI (ot ||| 2 ^ d))) fu (1, (0 : Int32)) = _ := k0
      rw [hv, k0, bnd_some]
      have e : ftN n h f kd A B d ot = (isOfN f n A B && agrN f kd A B (ot ||| 2 ^ d)) := by
        rw [Bool.and_eq_true] at q
        unfold ftN
        rw [q.1, q.2, Bool.true_and, Bool.and_true]
      rw [e]
      by_cases q2 : (isOfN f n A B && agrN f kd A B (ot ||| 2 ^ d)) = true
      · rw [if_pos q2]; rfl
      · rw [if_neg q2]; rfl
    · rw [if_neg q] at hv
      have k0 : lp (f_X12_isFit_L36 fu Lo (nI n) (nI lg) (nI (ot ||| 2 ^ d))) fu (0, (0 : Int32)) = some 0 := lp_e (ex0 0) (by omega)
      rw [hv, k0, bnd_some]
      have e : ftN n h f kd A B d ot = false := by
        rw [Bool.eq_false_iff]
        intro z
        unfold ftN at z
        simp only [Bool.and_eq_true] at z
        exact q (by rw [Bool.and_eq_true]; exact ⟨z.2.1, z.2.2.2⟩)
      rw [e]
      rfl
  by_cases q : bi ot d = 0
  · rw [if_pos ((nI_eq0 (by omega)).2 q), e_X12_hateNone hM h64' ht hn (show ot < 64 by omega) hf, bnd_some]
    by_cases q2 : sNone n h ot = true
    · rw [if_pos q2, if_neg i10]
      exact fin 1 (by rw [if_pos (by rw [q2, beq_iff_eq.2 q]; rfl)])
    · rw [if_neg q2, if_pos i00]
      exact fin 0 (by rw [if_neg (by rw [Bool.and_eq_true]; exact fun z => q2 z.2)])
  · rw [if_neg (fun z => q ((nI_eq0 (by omega)).1 z))]
    exact fin 0 (by rw [if_neg (by rw [Bool.and_eq_true, beq_iff_eq]; exact fun z => q z.1)])
theorem ok_layLoop {y : HT} {x1 : Int32 × Int32} {a0 : FN} (hy : Hd t n pu o y) (hx : x1.2 = nI lg) (L : LgM f lg kd A B Lo) (K : ∀ j, j < f → kd j < 2 ∧ A j < 6 ∧ B j < 6) (h8 : f ≤ 8) (hl : lg < 8) (hM : ∀ i, i < 6 → M (55 * t + 13 + i) = nI (h i)) (h64' : ∀ i, i < 6 → h i < 64) (ht : t < 8) (hn : n ≤ 6) (hf : 100 ≤ fu) : ok (lp (f_X12_layLog_L25 fu M Lo x1 y) fu ((0 : Int32), a0, (0 : Int32))) (fun v => inL v.2 v.1 (lsN n (ftN n h f kd A B))) := by
  obtain ⟨y1, y2, y3, -, y5, -, y7, -, -⟩ := hy
  have h64 := pw64 hn
  have hpos := Nat.two_pow_pos n
  refine ok_up n (fun d s => s.1 = nI d ∧ inL s.2.2 s.2.1 (fldN (gDe n (ftN n h f kd A B)) 0 d (0, fun _ => 0)) ∧ okL n d 0 (fldN (gDe n (ftN n h f kd A B)) 0 d (0, fun _ => 0))) ?_ ?_ n fu 0 _ (by omega) (by omega) ⟨rfl, ⟨rfl, fun i hi => absurd hi (Nat.not_lt_zero _)⟩, Nat.zero_le _, fun i hi => absurd hi (Nat.not_lt_zero _), fun i j _ hj => absurd hj (Nat.not_lt_zero _)⟩
  · rintro d ⟨c, a, sz⟩ hd ⟨rfl, g1, g2⟩
    have g1 : inL sz a _ := g1
    simp only [f_X12_layLog_L25, y3, if_neg (nI_ge hd (by omega : n < 2 ^ 31))]
    rw [fldN_succ (gDe n (ftN n h f kd A B)) d 0 (0, fun _ => 0), Nat.zero_add]
    generalize fldN (gDe n (ftN n h f kd A B)) 0 d (0, fun _ => 0) = x0 at g1 g2 ⊢
    refine ok_bnd (ok_mono (ok_up (step := f_X12_layLog_L36 fu M Lo x1 y (nI d, a, sz)) (P := fun v => inL v.2 v.1 (gDe n (ftN n h f kd A B) d x0) ∧ okL n (d + 1) 0 (gDe n (ftN n h f kd A B) d x0)) (2 ^ n - 1) (fun k s => s.1 = nI (1 + k) ∧ inL s.2.2 s.2.1 (fldN (gOt (ftN n h f kd A B) d) 1 k x0) ∧ okL n d k (fldN (gOt (ftN n h f kd A B) d) 1 k x0)) ?_ ?_ (2 ^ n - 1) fu 0 _ (by omega) (by omega) ⟨rfl, g1, g2⟩) (fun v hv => ok_some ⟨nI_1 d, hv⟩))
    · rintro k ⟨c, a, sz⟩ hk ⟨rfl, g1, g2⟩
      have g1 : inL sz a _ := g1
      rw [fldN_succ (gOt (ftN n h f kd A B) d) k 1 x0]
      generalize fldN (gOt (ftN n h f kd A B) d) 1 k x0 = x at g1 g2 ⊢
      have zl := zc_le d (by omega) k (by omega)
      have len : x.1 ≤ 31 * d + zc d k := g2.1
      simp only [f_X12_layLog_L36, y2, y3, hx, jshl_1' hn, if_neg (nI_ge (show 1 + k < 2 ^ n by omega) (by omega : 2 ^ n < 2 ^ 31)), e_isFit (fu := fu) L K h8 hl hM h64' ht hn hd (show 0 < 1 + k by omega) (show 1 + k < 2 ^ n by omega) hf, bnd_some]
      by_cases z : ftN n h f kd A B d (1 + k) = true
      · have e : gOt (ftN n h f kd A B) d (1 + k) x = addN x (100 * d + (1 + k)) := by unfold gOt; rw [if_pos z]
        have q1 : bi (1 + k) d = 0 := by unfold ftN at z; simp only [Bool.and_eq_true, beq_iff_eq] at z; exact z.2.1
        rw [if_pos z, if_neg i10, e]
        refine ok_ltn ?_
        rw [g1.1, show (100 : Int32) = nI 100 from rfl, pk_mul, nI_add, wri_n (show x.1 < 192 by omega) (by decide), bnd_some]
        refine ok_ltn ?_
        rw [nI_1 x.1]
        exact ok_some ⟨nI_1 (1 + k), inL_add g1, okL_add hn hd (by omega) g2 q1⟩
      · have e : gOt (ftN n h f kd A B) d (1 + k) x = x := by unfold gOt; rw [if_neg z]
        rw [if_neg z, if_pos i00, e]
        exact ok_some ⟨nI_1 (1 + k), g1, okL_skip g2⟩
    · rintro ⟨c, a, sz⟩ ⟨rfl, g1, g2⟩
      simp only [f_X12_layLog_L36, y3, jshl_1' hn]
      rw [if_pos (nI_le (show 2 ^ n ≤ 1 + (2 ^ n - 1) by omega) (by omega))]
      exact ok_some ⟨g1, okL_next (by omega) (by omega) g2⟩
  · rintro ⟨c, a, sz⟩ ⟨rfl, g1, g2⟩
    simp only [f_X12_layLog_L25, y3, if_pos (nI_le (Nat.le_refl n) (by omega : n < 2 ^ 31))]
    exact ok_some g1
end SUM
