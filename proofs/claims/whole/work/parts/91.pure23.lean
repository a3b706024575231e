/-! ===== fits: the suspects ===== -/
theorem tog0 : ∀ s, s < 64 → ∀ a, a < 6 → ∀ b, b < 6 → ((jshr (nI s) (nI a) &&& jshr (nI s) (nI b)) &&& 1) = nI (if bi s a = 1 ∧ bi s b = 1 then 1 else 0) := by decide +kernel
def zc (d k : Nat) : Nat := fldN (fun o x => if bi o d = 0 then x + 1 else x) 1 k 0
theorem zc_le : ∀ d, d < 6 → ∀ k, k ≤ 63 → zc d k ≤ 31 := by decide +kernel
theorem zc_succ (d k : Nat) : zc d (k + 1) = if bi (1 + k) d = 0 then zc d k + 1 else zc d k := by
  unfold zc
  rw [fldN_succ]
/-- a log's facts, as numbers -/
def LgN (f n : Nat) (kd A B : Nat → Nat) (ff : Int32) (cc : FN) : Prop := f ≤ 8 ∧ ff = nI f ∧ ∀ j, j < f → cc (3 * j) = nI (kd j) ∧ cc (3 * j + 1) = nI (A j) ∧ cc (3 * j + 2) = nI (B j) ∧ kd j < 2 ∧ A j < 6 ∧ B j < 6
def isOfN (f n : Nat) (A B : Nat → Nat) : Bool := (List.range f).all (fun j => decide (A j < n) && decide (B j < n))
def agrN (f : Nat) (kd A B : Nat → Nat) (S : Nat) : Bool := (List.range f).all (fun j => decide (bi S (A j) = 1 ∧ bi S (B j) = 1) == (kd j == 0))
def ftN (n : Nat) (h : Nat → Nat) (f : Nat) (kd A B : Nat → Nat) (d ot : Nat) : Bool := isOfN f n A B && (bi ot d == 0 && (agrN f kd A B (ot ||| 2 ^ d) && sNone n h ot))
abbrev NL : Type := Nat × (Nat → Nat)
def addN (x : NL) (v : Nat) : NL := (x.1 + 1, fun i => if i = x.1 then v else x.2 i)
def gOt (ft : Nat → Nat → Bool) (d ot : Nat) (x : NL) : NL := if ft d ot = true then addN x (100 * d + ot) else x
def gDe (n : Nat) (ft : Nat → Nat → Bool) (d : Nat) (x : NL) : NL := fldN (gOt ft d) 1 (2 ^ n - 1) x
def lsN (n : Nat) (ft : Nat → Nat → Bool) : NL := fldN (gDe n ft) 0 n (0, fun _ => 0)
def inL (sz : Int32) (a : FN) (x : NL) : Prop := sz = nI x.1 ∧ ∀ i, i < x.1 → a i = nI (x.2 i)
/-- what holds of the list when the numbers below (d, ot) are through -/
def okL (n d k : Nat) (x : NL) : Prop := x.1 ≤ 31 * d + zc d k ∧ (∀ i, i < x.1 → x.2 i / 100 ≤ d ∧ x.2 i / 100 < n ∧ 0 < x.2 i % 100 ∧ x.2 i % 100 < 64) ∧ ∀ i j, i ≤ j → j < x.1 → x.2 i / 100 ≤ x.2 j / 100
section SUS
variable {fu n f d k : Nat} {w pu h o kd A B : Nat → Nat} {ff : Int32} {cc ha : FN} {ft : Nat → Nat → Bool}
theorem okL_add {x : NL} (hn : n ≤ 6) (hd : d < n) (hk : 1 + k < 2 ^ n) (hx : okL n d k x) (hz : bi (1 + k) d = 0) : okL n d (k + 1) (addN x (100 * d + (1 + k))) := by
  have h64 := pw64 hn
  obtain ⟨h1, h2, h3⟩ := hx
  have e1 : (100 * d + (1 + k)) / 100 = d := by omega
  have e2 : (100 * d + (1 + k)) % 100 = 1 + k := by omega
  refine ⟨?_, fun i hi => ?_, fun i j hij hj => ?_⟩
  · show x.1 + 1 ≤ _
    rw [zc_succ, if_pos hz]
    omega
  · show (if i = x.1 then 100 * d + (1 + k) else x.2 i) / 100 ≤ d ∧ (if i = x.1 then 100 * d + (1 + k) else x.2 i) / 100 < n ∧ 0 < (if i = x.1 then 100 * d + (1 + k) else x.2 i) % 100 ∧ (if i = x.1 then 100 * d + (1 + k) else x.2 i) % 100 < 64
    have hi : i < x.1 + 1 := hi
    by_cases e : i = x.1
    · rw [if_pos e, e1, e2]; omega
    · rw [if_neg e]; exact h2 i (by omega)
  · have hj : j < x.1 + 1 := hj
    show (if i = x.1 then 100 * d + (1 + k) else x.2 i) / 100 ≤ (if j = x.1 then 100 * d + (1 + k) else x.2 j) / 100
    by_cases ej : j = x.1
    · rw [if_pos ej, e1]
      by_cases e : i = x.1
      · rw [if_pos e, e1]; exact Nat.le_refl _
      · rw [if_neg e]; exact (h2 i (by omega)).1
    · rw [if_neg ej, if_neg (by omega)]
      exact h3 i j hij (by omega)
theorem okL_skip {x : NL} (hx : okL n d k x) : okL n d (k + 1) x := by
  refine ⟨?_, hx.2⟩
  have := hx.1
  rw [zc_succ]
  split <;> omega
theorem okL_next {x : NL} (hd : d < 6) (hk : k ≤ 63) (hx : okL n d k x) : okL n (d + 1) 0 x := by
  have z := zc_le d hd k hk
  have z0 : zc (d + 1) 0 = 0 := rfl
  refine ⟨?_, fun i hi => ?_, hx.2.2⟩
  · have := hx.1
    omega
  · have := hx.2.1 i hi
    omega
theorem inL_add {sz : Int32} {a : FN} {x : NL} {v : Nat} (hx : inL sz a x) : inL (nI (x.1 + 1)) (upd a x.1 (nI v)) (addN x v) := by
  refine ⟨rfl, fun i hi => ?_⟩
  have hi : i < x.1 + 1 := hi
  show upd a x.1 (nI v) i = nI (if i = x.1 then v else x.2 i)
  by_cases e : i = x.1
  · rw [e, if_pos rfl]; exact pk_us
  · rw [if_neg e]
    exact (pk_un e).trans (hx.2 i (by omega))
theorem e_isOf (L : LgN f n kd A B ff cc) (hn : n ≤ 6) (hf : 100 ≤ fu) : f_X2_isOf fu ff cc (nI n) = some (if isOfN f n A B = true then 1 else 0) := by
  obtain ⟨h8, rfl, hL⟩ := L
  have hz := lp_all (fu := fu) (step := f_X2_isOf_L2 fu (nI f) cc (nI n)) f (fun j => decide (A j < n) && decide (B j < n)) (fun j hj => by
    obtain ⟨c0, c1, c2, k0, k1, k2⟩ := hL j hj
    simp only [f_X2_isOf_L2, if_neg (nI_ge hj (by omega : f < 2 ^ 31)), li_3, li_1, li_2, pk_mul, nI_add]
    rw [rdi_n (show 3 * j + 1 < 24 by omega) (by decide) c1, bnd_some, has_n hn (by omega), bnd_some, rdi_n (show 3 * j + 2 < 24 by omega) (by decide) c2, bnd_some, has_n hn (by omega), bnd_some]
    by_cases q1 : A j < n
    · rw [if_pos q1, if_neg i10]
      by_cases q2 : B j < n
      · rw [if_pos q2, if_neg i10, if_pos (by rw [Bool.and_eq_true]; exact ⟨decide_eq_true q1, decide_eq_true q2⟩)]
      · rw [if_neg q2, if_pos i00, if_neg (by rw [Bool.and_eq_true]; exact fun z => q2 (of_decide_eq_true z.2))]
    · rw [if_neg q1, if_pos i00, if_neg (by rw [Bool.and_eq_true]; exact fun z => q1 (of_decide_eq_true z.1))]) (by
    simp only [f_X2_isOf_L2, if_pos (nI_le (Nat.le_refl f) (by omega : f < 2 ^ 31))]) (by omega)
  unfold f_X2_isOf
  rw [bnd_r hz]
  unfold isOfN
  by_cases q : ((List.range f).all fun j => decide (A j < n) && decide (B j < n)) = true
  · rw [if_pos q, if_pos q]; rfl
  · rw [if_neg q, if_neg q]; rfl
theorem e_agrees {S : Nat} (L : LgN f n kd A B ff cc) (hS : S < 64) (hf : 100 ≤ fu) : f_X2_agrees fu ff cc (nI S) = some (if agrN f kd A B S = true then 1 else 0) := by
  obtain ⟨h8, rfl, hL⟩ := L
  have hz := lp_all (fu := fu) (step := f_X2_agrees_L2 (nI f) cc (nI S)) f (fun j => decide (bi S (A j) = 1 ∧ bi S (B j) = 1) == (kd j == 0)) (fun j hj => by
    obtain ⟨c0, c1, c2, k0, k1, k2⟩ := hL j hj
    simp only [f_X2_agrees_L2, if_neg (nI_ge hj (by omega : f < 2 ^ 31)), li_3, li_2, pk_mul, nI_1, nI_add]
    rw [rdi_n (show 3 * j + 1 < 24 by omega) (by decide) c1, bnd_some, rdi_n (show 3 * j + 2 < 24 by omega) (by decide) c2, bnd_some, tog0 S hS (A j) k1 (B j) k2, rdi_n (show 3 * j < 24 by omega) (by decide) c0]
    by_cases q1 : bi S (A j) = 1 ∧ bi S (B j) = 1
    · rw [if_pos q1, if_neg (by decide), bnd_some, bnd_some]
      by_cases q2 : kd j = 0
      · rw [q2, if_pos (show nI 0 = 0 from rfl), bnd_some, if_pos rfl, if_pos (by rw [decide_eq_true q1]; rfl)]
      · rw [if_neg (fun z => q2 ((nI_eq0 (by omega)).1 z)), bnd_some, if_neg i10, if_neg (by rw [decide_eq_true q1, show kd j = 1 by omega]; decide)]
    · rw [if_neg q1, if_pos (show nI 0 = 0 from rfl), bnd_some, bnd_some]
      by_cases q2 : kd j = 0
      · rw [q2, if_pos (show nI 0 = 0 from rfl), bnd_some, if_neg (by decide), if_neg (by rw [decide_eq_false q1]; decide)]
      · rw [if_neg (fun z => q2 ((nI_eq0 (by omega)).1 z)), bnd_some, if_pos rfl, if_pos (by rw [decide_eq_false q1, show kd j = 1 by omega]; rfl)]) (by
    simp only [f_X2_agrees_L2, if_pos (nI_le (Nat.le_refl f) (by omega : f < 2 ^ 31))]) (by omega)
  unfold f_X2_agrees
  rw [bnd_r hz]
  unfold agrN
  by_cases q : ((List.range f).all fun j => decide (bi S (A j) = 1 ∧ bi S (B j) = 1) == (kd j == 0)) = true
  · rw [if_pos q, if_pos q]; rfl
  · rw [if_neg q, if_neg q]; rfl
theorem ok_find {sz0 pe0 : Int32} {a0 : FN} (L : LgN f n kd A B ff cc) (hha : ∀ i, i < 6 → ha i = nI (h i)) (h64' : ∀ i, i < 6 → h i < 64) (hn : n ≤ 6) (hf : 100 ≤ fu) : ok (f_X7_find fu sz0 pe0 a0 (nI n) ha ff cc) (fun x => x.1 = 1 ∧ x.2.2.1 = nI n ∧ inL x.2.1 x.2.2.2 (lsN n (ftN n h f kd A B)) ∧ okL n n 0 (lsN n (ftN n h f kd A B))) := by
  have h64 := pw64 hn
  have hpos := Nat.two_pow_pos n
  unfold f_X7_find
  refine ok_bnd (ok_eq (e_isOf L hn hf) ?_)
  by_cases q : isOfN f n A B = true
  · rw [if_pos q, if_neg i10]
    refine ok_bnd (ok_mono (ok_up (step := f_X7_find_L35 fu (nI n) ha ff cc) (P := fun v => inL v.1 v.2 (lsN n (ftN n h f kd A B)) ∧ okL n n 0 (lsN n (ftN n h f kd A B))) n (fun d s => s.1 = nI d ∧ inL s.2.1 s.2.2 (fldN (gDe n (ftN n h f kd A B)) 0 d (0, fun _ => 0)) ∧ okL n d 0 (fldN (gDe n (ftN n h f kd A B)) 0 d (0, fun _ => 0))) ?_ ?_ n fu 0 _ (by omega) (by omega) ⟨rfl, ⟨rfl, fun i hi => absurd hi (Nat.not_lt_zero _)⟩, Nat.zero_le _, fun i hi => absurd hi (Nat.not_lt_zero _), fun i j _ hj => absurd hj (Nat.not_lt_zero _)⟩) ?_)
    · rintro d ⟨c, sz, a⟩ hd ⟨rfl, g1, g2⟩
      have g1 : inL sz a _ := g1
      simp only [f_X7_find_L35, if_neg (nI_ge hd (by omega : n < 2 ^ 31))]
      rw [fldN_succ (gDe n (ftN n h f kd A B)) d 0 (0, fun _ => 0), Nat.zero_add]
      generalize fldN (gDe n (ftN n h f kd A B)) 0 d (0, fun _ => 0) = x0 at g1 g2 ⊢
      refine ok_bnd (ok_mono (ok_up (step := f_X7_find_L46 fu (nI n) ha ff cc (nI d, sz, a)) (P := fun v => inL v.1 v.2 (gDe n (ftN n h f kd A B) d x0) ∧ okL n (d + 1) 0 (gDe n (ftN n h f kd A B) d x0)) (2 ^ n - 1) (fun k s => s.1 = nI (1 + k) ∧ inL s.2.1 s.2.2 (fldN (gOt (ftN n h f kd A B) d) 1 k x0) ∧ okL n d k (fldN (gOt (ftN n h f kd A B) d) 1 k x0)) ?_ ?_ (2 ^ n - 1) fu 0 _ (by omega) (by omega) ⟨rfl, g1, g2⟩) (fun v hv => ok_some ⟨nI_1 d, hv⟩))
      · rintro k ⟨c, sz, a⟩ hk ⟨rfl, g1, g2⟩
        have g1 : inL sz a _ := g1
        rw [fldN_succ (gOt (ftN n h f kd A B) d) k 1 x0]
        generalize fldN (gOt (ftN n h f kd A B) d) 1 k x0 = x at g1 g2 ⊢
        have zl := zc_le d (by omega) k (by omega)
        have len : x.1 ≤ 31 * d + zc d k := g2.1
        have hor : (1 + k) ||| 2 ^ d < 2 ^ n := or_pow (by omega) (pw_lt hd)
        have skip : ftN n h f kd A B d (1 + k) = false → (nI (1 + k) + 1 = nI (1 + (k + 1)) ∧ inL sz a (gOt (ftN n h f kd A B) d (1 + k) x) ∧ okL n d (k + 1) (gOt (ftN n h f kd A B) d (1 + k) x)) := by
          intro z
          have e : gOt (ftN n h f kd A B) d (1 + k) x = x := by unfold gOt; rw [if_neg (by rw [z]; decide)]
          rw [e]
          exact ⟨nI_1 (1 + k), g1, okL_skip g2⟩
        simp only [f_X7_find_L46, jshl_1' hn, if_neg (nI_ge (show 1 + k < 2 ^ n by omega) (by omega : 2 ^ n < 2 ^ 31)), jbi (show 1 + k < 64 by omega) (show d < 6 by omega), jshl_1 d (by omega), fa_or, e_agrees L (show (1 + k) ||| 2 ^ d < 64 by omega) hf, e_X9_noneHate hha h64' hn (show 1 + k < 64 by omega) hf, bnd_some]
        have hb := bi_lt (1 + k) d
        by_cases q1 : bi (1 + k) d = 0
        · rw [if_pos ((nI_eq0 (by omega)).2 q1)]
          by_cases q2 : agrN f kd A B ((1 + k) ||| 2 ^ d) = true
          · rw [if_pos q2, if_neg i10]
            by_cases q3 : sNone n h (1 + k) = true
            · rw [if_pos q3, if_neg i10]
              have z : ftN n h f kd A B d (1 + k) = true := by unfold ftN; rw [q, q2, q3, beq_iff_eq.2 q1]; rfl
              have e : gOt (ftN n h f kd A B) d (1 + k) x = addN x (100 * d + (1 + k)) := by unfold gOt; rw [if_pos z]
              have zl2 := zc_le d (by omega) (k + 1) (by omega)
              rw [zc_succ, if_pos q1] at zl2
              have ea : f_X7_add fu sz a (((100 : Int32) * nI d) + nI (1 + k)) = some (nI (x.1 + 1), upd a x.1 (nI (100 * d + (1 + k)))) := by
                unfold f_X7_add
                rw [g1.1, if_neg (show ¬ (186 : Int32) ≤ nI x.1 by rw [show (186 : Int32) = nI 186 from rfl]; exact nI_ge (by omega) (by decide)), wri_n (show x.1 < 186 by omega) (by decide), bnd_some]
                dsimp only [ltn]
                rw [nI_1, show (100 : Int32) = nI 100 from rfl, pk_mul, nI_add]
              rw [ea, bnd_some, e]
              exact ok_some ⟨nI_1 (1 + k), inL_add g1, okL_add hn hd (by omega) g2 q1⟩
            · rw [if_neg q3, if_pos i00]
              exact ok_some (skip (by unfold ftN; rw [Bool.eq_false_iff]; intro z; simp only [Bool.and_eq_true] at z; exact q3 z.2.2.2))
          · rw [if_neg q2, if_pos i00]
            exact ok_some (skip (by unfold ftN; rw [Bool.eq_false_iff]; intro z; simp only [Bool.and_eq_true] at z; exact q2 z.2.2.1))
        · rw [if_neg (fun z => q1 ((nI_eq0 (by omega)).1 z))]
          exact ok_some (skip (by unfold ftN; rw [Bool.eq_false_iff]; intro z; simp only [Bool.and_eq_true, beq_iff_eq] at z; exact q1 z.2.1))
      · rintro ⟨c, sz, a⟩ ⟨rfl, g1, g2⟩
        simp only [f_X7_find_L46, jshl_1' hn]
        rw [if_pos (nI_le (show 2 ^ n ≤ 1 + (2 ^ n - 1) by omega) (by omega))]
        exact ok_some ⟨g1, okL_next (by omega) (by omega) g2⟩
    · rintro ⟨c, sz, a⟩ ⟨rfl, g1, g2⟩
      simp only [f_X7_find_L35, if_pos (nI_le (Nat.le_refl n) (by omega : n < 2 ^ 31))]
      exact ok_some ⟨g1, g2⟩
    · rintro ⟨sz, a⟩ ⟨g1, g2⟩
      exact ok_some ⟨rfl, rfl, g1, g2⟩
  · rw [if_neg q, if_pos i00]
    have none_ : ∀ d ot x, gOt (ftN n h f kd A B) d ot x = x := by
      intro d ot x
      unfold gOt ftN
      rw [if_neg (fun z => by simp only [Bool.and_eq_true] at z; exact q z.1)]
    have e0 : lsN n (ftN n h f kd A B) = (0, fun _ => 0) := by
      have in_ : ∀ d k (j : Nat) x, fldN (gOt (ftN n h f kd A B) d) j k x = x := by
        intro d k
        induction k with
        | zero => intro j x; rfl
        | succ k ih => intro j x; show fldN (gOt (ftN n h f kd A B) d) (j + 1) k (gOt (ftN n h f kd A B) d j x) = x; rw [none_]; exact ih _ _
      have out_ : ∀ k (j : Nat) x, fldN (gDe n (ftN n h f kd A B)) j k x = x := by
        intro k
        induction k with
        | zero => intro j x; rfl
        | succ k ih => intro j x; show fldN (gDe n (ftN n h f kd A B)) (j + 1) k (gDe n (ftN n h f kd A B) j x) = x; rw [show gDe n (ftN n h f kd A B) j x = x from in_ _ _ _ _]; exact ih _ _
      exact out_ n 0 _
    rw [e0]
    exact ok_some ⟨rfl, rfl, ⟨rfl, fun i hi => absurd hi (Nat.not_lt_zero _)⟩, Nat.zero_le _, fun i hi => absurd hi (Nat.not_lt_zero _), fun i j _ hj => absurd hj (Nat.not_lt_zero _)⟩
end SUS
