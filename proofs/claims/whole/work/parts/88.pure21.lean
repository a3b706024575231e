/-! ===== choice ===== -/
def iZ (z : Int) : Int32 := Int32.ofInt z
theorem iZ_sub (a b : Int) : iZ a - iZ b = iZ (a - b) := (Int32.ofInt_sub a b).symm
theorem iZ_add (a b : Int) : iZ a + iZ b = iZ (a + b) := (Int32.ofInt_add a b).symm
theorem iZ_neg (a : Int) : -iZ a = iZ (-a) := (Int32.ofInt_neg a).symm
theorem iZ_n (n : Nat) : nI n = iZ (n : Int) := Int32.ofInt_eq_ofNat.symm
theorem iZ_t {z : Int} (h1 : -1000000 ≤ z) (h2 : z ≤ 1000000) : (iZ z).toInt = z := Int32.toInt_ofInt_of_le (by omega) (by omega)
theorem iZ_le {a b : Int} (h1 : -1000000 ≤ a) (h2 : a ≤ 1000000) (h3 : -1000000 ≤ b) (h4 : b ≤ 1000000) : iZ a ≤ iZ b ↔ a ≤ b := by
  rw [fa_le, iZ_t h1 h2, iZ_t h3 h4]
theorem iZ_max {a b : Int} (h1 : -1000000 ≤ a) (h2 : a ≤ 1000000) (h3 : -1000000 ≤ b) (h4 : b ≤ 1000000) : jmax (iZ a) (iZ b) = iZ (max a b) := by
  unfold jmax
  by_cases q : a < b
  · rw [if_pos (by rw [fa_lt, iZ_t h1 h2, iZ_t h3 h4]; exact q), show max a b = b by omega]
  · rw [if_neg (by rw [fa_lt, iZ_t h1 h2, iZ_t h3 h4]; exact q), show max a b = a by omega]
def oV (d : Int) : Option Int → Int
  | none => d
  | some v => v
def om (x : Option Int) (a : Int) : Option Int := match x with
  | none => some a
  | some v => some (max v a)
def bO (c : Nat → Bool) (f : Nat → Int) (n : Nat) : Option Int := fldN (fun p x => if c p = true then om x (f p) else x) 0 n none
section BO
variable {c : Nat → Bool} {f g : Nat → Int} {m : Int}
theorem bO_succ (n : Nat) : bO c f (n + 1) = if c n = true then om (bO c f n) (f n) else bO c f n := by
  unfold bO
  rw [fldN_succ, Nat.zero_add]
theorem om_bd {x : Option Int} {a : Int} (hx : ∀ v, x = some v → -m ≤ v ∧ v ≤ m) (h1 : -m ≤ a) (h2 : a ≤ m) : ∀ v, om x a = some v → -m ≤ v ∧ v ≤ m := by
  intro v hv
  cases x with
  | none =>
    have e : a = v := Option.some.inj hv
    omega
  | some u =>
    have e : max u a = v := Option.some.inj hv
    have := hx u rfl
    omega
theorem bO_bd : ∀ n, (∀ p, p < n → c p = true → -m ≤ f p ∧ f p ≤ m) → ∀ v, bO c f n = some v → -m ≤ v ∧ v ≤ m := by
  intro n
  induction n with
  | zero => intro _ v hv; cases hv
  | succ n ih =>
    intro h v hv
    have ih := ih (fun p hp hc => h p (by omega) hc)
    rw [bO_succ] at hv
    by_cases q : c n = true
    · rw [if_pos q] at hv
      exact om_bd ih (h n (by omega) q).1 (h n (by omega) q).2 v hv
    · rw [if_neg q] at hv
      exact ih v hv
theorem om_ne (x : Option Int) (a : Int) : om x a ≠ none := by
  cases x <;> intro z <;> cases z
theorem bO_none : ∀ n, bO c f n = none ↔ ∀ p, p < n → ¬ c p = true := by
  intro n
  induction n with
  | zero => exact ⟨fun _ p hp => absurd hp (Nat.not_lt_zero _), fun _ => rfl⟩
  | succ n ih =>
    rw [bO_succ]
    by_cases q : c n = true
    · rw [if_pos q]
      exact ⟨fun z => absurd z (om_ne _ _), fun z => absurd q (z n (by omega))⟩
    · rw [if_neg q, ih]
      constructor
      · intro z p hp
        by_cases e : p = n
        · rw [e]; exact q
        · exact z p (by omega)
      · intro z p hp
        exact z p (by omega)
theorem bO_congr {c' : Nat → Bool} : ∀ n, (∀ p, p < n → c p = c' p ∧ (c p = true → f p = g p)) → bO c f n = bO c' g n := by
  intro n
  induction n with
  | zero => intro _; rfl
  | succ n ih =>
    intro h
    rw [bO_succ, bO_succ, ih (fun p hp => h p (by omega)), ← (h n (by omega)).1]
    by_cases q : c n = true
    · rw [if_pos q, if_pos q, (h n (by omega)).2 q]
    · rw [if_neg q, if_neg q]
end BO
def gI (w h : Nat → Nat) (p mi : Nat) : Int := if h p &&& mi = 0 then (w p : Int) else -(w p : Int)
def fre (mi th p : Nat) : Bool := bi (mi ||| th) p == 0
theorem fre_t {mi th p : Nat} : fre mi th p = true ↔ bi (mi ||| th) p = 0 := beq_iff_eq
def vL (n : Nat) (w h : Nat → Nat) : Nat → Nat → Nat → Int
  | 0, _, _ => 0
  | k + 1, mi, th => oV 0 (bO (fre mi th) (fun p => gI w h p mi - vL n w h k th (mi ||| 2 ^ p)) n)
section CHC
variable {fu n t p k mi th : Nat} {w pu h o : Nat → Nat} {wi ha M : FN}
theorem gI_bd (hw : ∀ i, i < 6 → w i ≤ 9) (hp : p < 6) : -9 ≤ gI w h p mi ∧ gI w h p mi ≤ 9 := by
  unfold gI
  have := hw p hp
  split <;> omega
theorem oV_bd {m : Int} {x : Option Int} (hm : 0 ≤ m) (hx : ∀ v, x = some v → -m ≤ v ∧ v ≤ m) : -m ≤ oV 0 x ∧ oV 0 x ≤ m := by
  cases x with
  | none => show -m ≤ 0 ∧ 0 ≤ m; omega
  | some v => exact hx v rfl
theorem vL_bd (hw : ∀ i, i < 6 → w i ≤ 9) (hn : n ≤ 6) : ∀ (k mi th : Nat), -(9 * (k : Int)) ≤ vL n w h k mi th ∧ vL n w h k mi th ≤ 9 * (k : Int) := by
  intro k
  induction k with
  | zero => intro mi th; show -(9 * ((0 : Nat) : Int)) ≤ 0 ∧ 0 ≤ 9 * ((0 : Nat) : Int); omega
  | succ k ih =>
    intro mi th
    refine oV_bd (by omega) (bO_bd n (fun p hp _ => ?_))
    have h1 := ih th (mi ||| 2 ^ p)
    have h2 := gI_bd (h := h) (mi := mi) hw (show p < 6 by omega)
    show -(9 * ((k + 1 : Nat) : Int)) ≤ gI w h p mi - vL n w h k th (mi ||| 2 ^ p) ∧ gI w h p mi - vL n w h k th (mi ||| 2 ^ p) ≤ 9 * ((k + 1 : Nat) : Int)
    omega
theorem e_X6_gain (hwi : ∀ i, i < n → wi i = nI (w i)) (hha : ∀ i, i < 6 → ha i = nI (h i)) (h64 : ∀ i, i < 6 → h i < 64) (hn : n ≤ 6) (hp : p < n) : f_X6_gain fu wi ha (nI p) (nI mi) = some (iZ (gI w h p mi)) := by
  have hl : h p &&& mi < 2 ^ 31 := Nat.lt_of_le_of_lt Nat.and_le_left (by have := h64 p (by omega); omega)
  simp only [f_X6_gain, rdi_n (show p < 6 by omega) (by decide) (hha p (by omega)), rdi_n (show p < 6 by omega) (by decide) (hwi p hp), bnd_some, fa_and, nI_eq0 hl]
  unfold gI
  by_cases q : h p &&& mi = 0
  · rw [if_pos q, if_pos q, iZ_n]
  · rw [if_neg q, if_neg q, iZ_n, iZ_neg]
theorem e_X6_leadOf (hwi : ∀ i, i < n → wi i = nI (w i)) (hha : ∀ i, i < 6 → ha i = nI (h i)) (h64' : ∀ i, i < 6 → h i < 64) (hw : ∀ i, i < 6 → w i ≤ 9) (hn : n ≤ 6) (hf : 100 ≤ fu) : ∀ k, k ≤ 5 → ∀ dp, k < dp → ∀ mi th, mi < 2 ^ n → th < 2 ^ n → f_X6_leadOf fu dp (nI n) wi ha (nI mi) (nI th) (nI k) = some (iZ (vL n w h k mi th)) := by
  have h64 := pw64 hn
  have hpos := Nat.two_pow_pos n
  intro k
  induction k with
  | zero =>
    intro _ dp hdp mi th _ _
    obtain ⟨d, rfl⟩ : ∃ d, dp = d + 1 := ⟨dp - 1, by omega⟩
    show F_X6_leadOf (f_X6_leadOf fu d) fu (nI n) wi ha (nI mi) (nI th) (nI 0) = _
    unfold F_X6_leadOf
    dsimp only [ltn]
    rw [if_pos (by decide)]
    rfl
  | succ k ih =>
    intro hk dp hdp mi th hmi hth
    obtain ⟨d, rfl⟩ : ∃ d, dp = d + 1 := ⟨dp - 1, by omega⟩
    have hor : mi ||| th < 2 ^ n := or_pow hmi hth
    show F_X6_leadOf (f_X6_leadOf fu d) fu (nI n) wi ha (nI mi) (nI th) (nI (k + 1)) = _
    unfold F_X6_leadOf
    dsimp only [ltn]
    have ef : ((nI mi ||| nI th) ^^^ (-1)) &&& (jshl 1 (nI n) - 1) = nI ((2 ^ n - 1) &&& (63 - (mi ||| th))) := by
      have e1 : nI (2 ^ n) - 1 = nI (2 ^ n - 1) := by rw [show (1 : Int32) = nI 1 from rfl, pk_sub (by omega)]
      rw [fa_or, jshl_1' hn, e1, Int32.and_comm, and_not (2 ^ n - 1) (by omega) (mi ||| th) (by omega)]
    have fl : (2 ^ n - 1) &&& (63 - (mi ||| th)) < 64 := Nat.lt_of_le_of_lt Nat.and_le_left (by omega)
    have fb' : ∀ j, j < n → (bi ((2 ^ n - 1) &&& (63 - (mi ||| th))) j = 1 ↔ fre mi th j = true) := by
      intro j hj
      rw [dif0 (2 ^ n - 1) (by omega) (mi ||| th) (by omega) j (by omega), fre_t]
      exact ⟨fun z => z.2, fun z => ⟨ful_bi n hn j hj, z⟩⟩
    rw [ef, if_neg (nI_nle (by omega) (by omega)), if_neg (show ¬ (5 : Int32) < nI (k + 1) by rw [show (5 : Int32) = nI 5 from rfl]; exact nI_nlt (by omega) (by decide))]
    generalize hF : (2 ^ n - 1) &&& (63 - (mi ||| th)) = F at fl fb' ⊢
    by_cases z : F = 0
    · rw [if_pos (by rw [z]; rfl)]
      have e : bO (fre mi th) (fun p => gI w h p mi - vL n w h k th (mi ||| 2 ^ p)) n = none := (bO_none n).2 (fun p hp hc => by
        have := (fb' p hp).2 hc
        rw [z] at this
        exact absurd this bt_0)
      show _ = some (iZ (oV 0 (bO (fre mi th) (fun p => gI w h p mi - vL n w h k th (mi ||| 2 ^ p)) n)))
      rw [e]
      rfl
    · rw [if_neg (fun u => z ((nI_eq0 (by omega)).1 u))]
      have key := (lp_up (step := f_X6_leadOf_L40 fu (f_X6_leadOf fu d) (nI n) wi ha (nI mi) (nI th) (nI (k + 1)) (nI F)) (fun j (x : Option Int) => (iZ (oV (-999) x), nI j)) (fun j x => if fre mi th j = true then om x (gI w h j mi - vL n w h k th (mi ||| 2 ^ j)) else x) n (fun x => iZ (oV (-999) x)) (fun _ x => ∀ v, x = some v → -200 ≤ v ∧ v ≤ 200) (fun j x hj hx => by
        have h1 := vL_bd (h := h) hw hn k th (mi ||| 2 ^ j)
        have h2 := gI_bd (h := h) (mi := mi) hw (show j < 6 by omega)
        have hb := bi_lt F j
        refine ⟨?_, ?_⟩
        · simp only [f_X6_leadOf_L40, if_neg (nI_ge hj (by omega : n < 2 ^ 31)), jbi fl (show j < 6 by omega), nI_eq0 (show bi F j < 2 ^ 31 by omega), nI_1]
          by_cases q : bi F j = 0
          · rw [if_pos q, if_neg (fun u => by have := (fb' j hj).2 u; omega)]
          · have q1 : fre mi th j = true := (fb' j hj).1 (by omega)
            rw [if_neg q, if_pos q1, e_X6_gain hwi hha h64' hn hj, bnd_some, jshl_1 j (by omega), fa_or, show nI (k + 1) - 1 = nI k from nI_pred k, ih (by omega) d (by omega) th (mi ||| 2 ^ j) hth (or_pow hmi (pw_lt hj)), bnd_some, iZ_sub]
            dsimp only [ltn]
            cases x with
            | none =>
              show some (Sum.inl (jmax (iZ (-999)) (iZ _), nI (j + 1))) = some (Sum.inl (iZ _, nI (j + 1)))
              rw [iZ_max (by omega) (by omega) (by omega) (by omega), show max (-999) (gI w h j mi - vL n w h k th (mi ||| 2 ^ j)) = gI w h j mi - vL n w h k th (mi ||| 2 ^ j) by omega]
              rfl
            | some v =>
              have := hx v rfl
              show some (Sum.inl (jmax (iZ v) (iZ _), nI (j + 1))) = some (Sum.inl (iZ _, nI (j + 1)))
              rw [iZ_max (by omega) (by omega) (by omega) (by omega)]
              rfl
        · show ∀ v, (if fre mi th j = true then om x (gI w h j mi - vL n w h k th (mi ||| 2 ^ j)) else x) = some v → -200 ≤ v ∧ v ≤ 200
          by_cases q : fre mi th j = true
          · rw [if_pos q]
            exact om_bd hx (by omega) (by omega)
          · rw [if_neg q]
            exact hx) (fun x _ => by
        simp only [f_X6_leadOf_L40, if_pos (nI_le (Nat.le_refl n) (by omega : n < 2 ^ 31))]) n fu 0 none (by omega) (by omega) (fun v hv => by cases hv)).1
      refine (bnd_r key).trans ?_
      show some (iZ (oV (-999) (bO (fre mi th) (fun p => gI w h p mi - vL n w h k th (mi ||| 2 ^ p)) n))) = some (iZ (oV 0 (bO (fre mi th) (fun p => gI w h p mi - vL n w h k th (mi ||| 2 ^ p)) n)))
      cases e : bO (fre mi th) (fun p => gI w h p mi - vL n w h k th (mi ||| 2 ^ p)) n with
      | none =>
        exfalso
        have e := (bO_none n).1 e
        apply z
        apply bt_ext
        intro j
        constructor
        · intro u
          have hj : j < n := by
            rcases Nat.lt_or_ge j n with q | q
            · exact q
            · exfalso
              rw [← hF] at u
              have u2 := (bt_and.1 u).1
              exact absurd (bt_lt (show 2 ^ n - 1 < 2 ^ n by omega) u2) (by omega)
          exact absurd ((fb' j hj).1 u) (e j hj)
        · intro u; exact absurd u bt_0
      | some v => rfl
/-- how the greatest, or the least, and the first that is it are kept -/
def gF (up : Bool) (c : Nat → Bool) (cd : Nat → Int32) (p : Nat) (x : Int32 × Int32) : Int32 × Int32 := if c p = true then (if x.2 = -1 then (cd p, nI p) else if up = true then (if cd p ≤ x.1 then x else (cd p, nI p)) else (if x.1 ≤ cd p then x else (cd p, nI p))) else x
theorem gF_val {up : Bool} {c : Nat → Bool} {cd : Nat → Int32} {f : Nat → Int} (hb : ∀ p, p < n → c p = true → -200 ≤ f p ∧ f p ≤ 200) (hc : ∀ p, p < n → c p = true → cd p = if up = true then iZ (f p) else iZ (-(f p))) (hn : n ≤ 6) : ∀ k, k ≤ n → ((fldN (gF up c cd) 0 k (0, -1)).2 = -1 ↔ bO c f k = none) ∧ (fldN (gF up c cd) 0 k (0, -1)).1 = if up = true then iZ (oV 0 (bO c f k)) else iZ (-(oV 0 (bO c f k))) := by
  intro k
  induction k with
  | zero =>
    intro _
    refine ⟨⟨fun _ => rfl, fun _ => rfl⟩, ?_⟩
    cases up <;> rfl
  | succ k ih =>
    intro hk
    obtain ⟨i1, i2⟩ := ih (by omega)
    have hb' := bO_bd (c := c) (f := f) (m := 200) k (fun p hp hq => hb p (by omega) hq)
    rw [fldN_succ (gF up c cd) k 0 (0, -1), Nat.zero_add, bO_succ]
    generalize fldN (gF up c cd) 0 k (0, -1) = x at i1 i2 ⊢
    by_cases q : c k = true
    · have c1 := hc k (by omega) q
      have b1 := hb k (by omega) q
      have nk : ¬ nI k = (-1 : Int32) := nI_nm1 (by omega)
      rw [if_pos q]
      unfold gF
      rw [if_pos q]
      cases e : bO c f k with
      | none =>
        rw [if_pos (i1.2 e)]
        refine ⟨⟨fun z => absurd z nk, fun z => absurd z (om_ne _ _)⟩, ?_⟩
        exact c1
      | some v =>
        have hv := hb' v e
        have n1 : ¬ x.2 = -1 := fun z => by rw [i1.1 z] at e; cases e
        rw [e] at i2
        rw [if_neg n1]
        cases up with
        | true =>
          rw [if_pos rfl] at c1 i2
          have i2 : x.1 = iZ v := i2
          rw [if_pos rfl, if_pos rfl, c1, i2]
          by_cases u : f k ≤ v
          · rw [if_pos ((iZ_le (by omega) (by omega) (by omega) (by omega)).2 u)]
            refine ⟨⟨fun z => absurd z n1, fun z => absurd z (om_ne _ _)⟩, ?_⟩
            show x.1 = iZ (max v (f k))
            rw [i2, show max v (f k) = v by omega]
          · rw [if_neg (fun z => u ((iZ_le (by omega) (by omega) (by omega) (by omega)).1 z))]
            refine ⟨⟨fun z => absurd z nk, fun z => absurd z (om_ne _ _)⟩, ?_⟩
            show iZ (f k) = iZ (max v (f k))
            rw [show max v (f k) = f k by omega]
        | false =>
          rw [if_neg Bool.false_ne_true] at c1 i2
          have i2 : x.1 = iZ (-v) := i2
          rw [if_neg Bool.false_ne_true, if_neg Bool.false_ne_true, c1, i2]
          by_cases u : -v ≤ -(f k)
          · rw [if_pos ((iZ_le (by omega) (by omega) (by omega) (by omega)).2 u)]
            refine ⟨⟨fun z => absurd z n1, fun z => absurd z (om_ne _ _)⟩, ?_⟩
            show x.1 = iZ (-(max v (f k)))
            rw [i2, show max v (f k) = v by omega]
          · rw [if_neg (fun z => u ((iZ_le (by omega) (by omega) (by omega) (by omega)).1 z))]
            refine ⟨⟨fun z => absurd z nk, fun z => absurd z (om_ne _ _)⟩, ?_⟩
            show iZ (-(f k)) = iZ (-(max v (f k)))
            rw [show max v (f k) = f k by omega]
    · rw [if_neg q]
      unfold gF
      rw [if_neg q]
      exact ⟨i1, i2⟩
/-- the first choice in the class -/
def topF (n : Nat) (w h : Nat → Nat) (m : Nat) : Int32 × Int32 := if m = 0 then (0, -1) else fldN (gF true (fun _ => true) (fun p => iZ (gI w h p 0 - vL n w h (m - 1) 0 (2 ^ p)))) 0 n (0, -1)
theorem e_bestChoice {m : Nat} {u : Int32} (hwi : ∀ i, i < n → wi i = nI (w i)) (hha : ∀ i, i < 6 → ha i = nI (h i)) (h64' : ∀ i, i < 6 → h i < 64) (hw : ∀ i, i < 6 → w i ≤ 9) (hn : n ≤ 6) (hm : m ≤ 5) (hf : 100 ≤ fu) : f_X6_bestChoice fu (nI n) wi ha (nI m) u = some (if u = 0 then (topF n w h m).1 else (topF n w h m).2) := by
  have hpos := Nat.two_pow_pos n
  have key : lp (f_X6_bestChoice_L8 fu (nI n) wi ha (nI m)) fu ((0 : Int32), (-1 : Int32), (0 : Int32)) = some (topF n w h m) := by
    by_cases z : m = 0
    · subst z
      refine lp_e ?_ (by omega)
      simp only [f_X6_bestChoice_L8]
      by_cases q : nI n ≤ 0
      · rw [if_pos q]; rfl
      · rw [if_neg q, if_pos (by decide)]; rfl
    · unfold topF
      rw [if_neg z]
      exact (lp_up (step := f_X6_bestChoice_L8 fu (nI n) wi ha (nI m)) (fun j (x : Int32 × Int32) => (x.1, x.2, nI j)) (gF true (fun _ => true) (fun p => iZ (gI w h p 0 - vL n w h (m - 1) 0 (2 ^ p)))) n (fun x => (x.1, x.2)) (fun _ _ => True) (fun j x hj _ => by
        refine ⟨?_, trivial⟩
        have e1 := e_X6_gain (fu := fu) (mi := 0) hwi hha h64' hn hj
        have e2 := e_X6_leadOf hwi hha h64' hw hn hf (m - 1) (by omega) 8 (by omega) 0 (2 ^ j) hpos (pw_lt hj)
        have e3 : nI m - 1 = nI (m - 1) := by rw [show (1 : Int32) = nI 1 from rfl, pk_sub (by omega)]
        simp only [f_X6_bestChoice_L8, if_neg (nI_ge hj (by omega : n < 2 ^ 31)), if_neg (nI_nle (show 0 < m by omega) (by omega)), jshl_1 j (by omega), e3]
        rw [show (0 : Int32) = nI 0 from rfl, e1, bnd_some, e2, bnd_some, iZ_sub]
        dsimp only [ltn]
        rw [nI_1]
        unfold gF
        rw [if_pos rfl]
        by_cases q1 : x.2 = -1
        · rw [if_pos q1, if_pos q1]
        · rw [if_neg q1, if_neg q1, if_pos rfl]
          split <;> rfl) (fun x _ => by
        simp only [f_X6_bestChoice_L8, if_pos (nI_le (Nat.le_refl n) (by omega : n < 2 ^ 31))]) n fu 0 (0, -1) (by omega) (by omega) trivial).1
  unfold f_X6_bestChoice
  rw [key, bnd_some]
  split <;> rfl
end CHC
