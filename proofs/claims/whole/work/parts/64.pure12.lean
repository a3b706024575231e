/-! ===== the shortest ring ===== -/
def fi (g : Nat → Prop) [DecidablePred g] : Nat → Nat → Option Nat
  | _, 0 => none
  | c, k + 1 => if g c then some c else fi g (c + 1) k
theorem fi_spec {g : Nat → Prop} [DecidablePred g] : ∀ k c, (fi g c k = none → ∀ j, c ≤ j → j < c + k → ¬ g j) ∧ ∀ m, fi g c k = some m → c ≤ m ∧ m < c + k ∧ g m ∧ ∀ j, c ≤ j → j < m → ¬ g j := by
  intro k
  induction k with
  | zero => intro c; exact ⟨fun _ j h1 h2 => by omega, fun m hm => by cases hm⟩
  | succ k ih =>
    intro c
    unfold fi
    by_cases q : g c
    · rw [if_pos q]
      refine ⟨fun z => (by cases z), fun m hm => ?_⟩
      cases hm
      exact ⟨Nat.le_refl _, by omega, q, fun j h1 h2 => by omega⟩
    · rw [if_neg q]
      refine ⟨fun z j h1 h2 => ?_, fun m hm => ?_⟩
      · by_cases e : j = c
        · rw [e]; exact q
        · exact (ih (c + 1)).1 z j (by omega) (by omega)
      · obtain ⟨h1, h2, h3, h4⟩ := (ih (c + 1)).2 m hm
        refine ⟨by omega, by omega, h3, fun j h5 h6 => ?_⟩
        by_cases e : j = c
        · rw [e]; exact q
        · exact h4 j (by omega) h6
theorem it_succ {f : Nat → Nat} : ∀ k s, f (it f k s) = it f (k + 1) s := by
  intro k
  induction k with
  | zero => intro s; rfl
  | succ k ih => intro s; exact ih (f s)
section P12
variable {fu n t p a b : Nat} {w pu h o : Nat → Nat} {wi pr ha ow db M : Nat → Int32}
def gCs (n : Nat) (o : Nat → Nat) (s j x : Nat) : Nat := if bi s j = 0 then x else x ||| sCred n o j
def sCs (n : Nat) (o : Nat → Nat) (s : Nat) : Nat := fldN (gCs n o s) 0 n 0
theorem sCs_lt {s : Nat} (hn : n ≤ 6) : sCs n o s < 2 ^ n := by
  refine fld_lt (n := n) (fun j x hj hx => ?_) n 0 0 (by omega) Nat.one_le_two_pow
  unfold gCs
  split
  · exact hx
  · exact or_pow hx (sCred_lt hn)
theorem sCs_bt {s y : Nat} : bt (sCs n o s) y ↔ ∃ j, j < n ∧ bt s j ∧ y < n ∧ o (6 * j + y) ≠ 0 := by
  have key : ∀ k, k ≤ n → (bt (fldN (gCs n o s) 0 k 0) y ↔ ∃ j, j < k ∧ bt s j ∧ y < n ∧ o (6 * j + y) ≠ 0) := by
    intro k
    induction k with
    | zero => intro _; exact ⟨fun z => absurd z bt_0, fun ⟨j, hj, _⟩ => absurd hj (by omega)⟩
    | succ k ih =>
      intro hk
      rw [fldN_succ, Nat.zero_add]
      have ih := ih (by omega)
      have hc : bt (sCred n o k) y ↔ y < n ∧ ¬ o (6 * k + y) = 0 := mask_bt (P := fun j => o (6 * k + j) = 0) n
      show bt (gCs n o s k _) y ↔ _
      unfold gCs
      by_cases q : bi s k = 0
      · rw [if_pos q]
        show bt (fldN (gCs n o s) 0 k 0) y ↔ _
        rw [ih]
        constructor
        · rintro ⟨j, hj, h1⟩; exact ⟨j, by omega, h1⟩
        · rintro ⟨j, hj, h1, h2⟩
          by_cases e : j = k
          · rw [e] at h1; exact absurd h1 (bi0.1 q)
          · exact ⟨j, by omega, h1, h2⟩
      · rw [if_neg q, bt_or]
        show bt (fldN (gCs n o s) 0 k 0) y ∨ _ ↔ _
        rw [ih, hc]
        constructor
        · rintro (⟨j, hj, h1⟩ | h1)
          · exact ⟨j, by omega, h1⟩
          · exact ⟨k, by omega, (bi_01 _ _).resolve_left q, h1⟩
        · rintro ⟨j, hj, h1, h2⟩
          by_cases e : j = k
          · rw [e] at h2; exact Or.inr h2
          · exact Or.inl ⟨j, by omega, h1, h2⟩
  exact key n (Nat.le_refl _)
/-- back at p after k steps -/
def rch (n : Nat) (o : Nat → Nat) (p k : Nat) : Nat := it (sCs n o) k (2 ^ p)
theorem rch_lt {k : Nat} (hn : n ≤ 6) (hp : p < n) : rch n o p k < 2 ^ n :=
  it_pred (P := fun s => s < 2 ^ n) (fun _ _ => sCs_lt hn) k (2 ^ p) (pw_lt hp)
theorem rch_s {k : Nat} : sCs n o (rch n o p k) = rch n o p (k + 1) := it_succ k (2 ^ p)
def edg (n : Nat) (o : Nat → Nat) (a b : Nat) : Prop := a < n ∧ b < n ∧ o (6 * a + b) ≠ 0
theorem walk : ∀ k y, bt (rch n o p k) y → ∃ f : Nat → Nat, f 0 = p ∧ f k = y ∧ ∀ i, i < k → edg n o (f i) (f (i + 1)) := by
  intro k
  induction k with
  | zero =>
    intro y hy
    exact ⟨fun _ => p, rfl, bt_pow.1 hy, fun i hi => absurd hi (by omega)⟩
  | succ k ih =>
    intro y hy
    rw [← rch_s] at hy
    obtain ⟨j, h1, h2, h3, h4⟩ := sCs_bt.1 hy
    obtain ⟨f, f1, f2, f3⟩ := ih j h2
    refine ⟨fun i => if i = k + 1 then y else f i, ?_, ?_, fun i hi => ?_⟩
    · show (if 0 = k + 1 then y else f 0) = p
      rw [if_neg (by omega)]; exact f1
    · show (if k + 1 = k + 1 then y else f (k + 1)) = y
      rw [if_pos rfl]
    · show edg n o (if i = k + 1 then y else f i) (if i + 1 = k + 1 then y else f (i + 1))
      rw [if_neg (by omega)]
      by_cases e : i = k
      · rw [if_pos (by omega), e, f2]; exact ⟨h1, h3, h4⟩
      · rw [if_neg (by omega)]; exact f3 i (by omega)
theorem back {f : Nat → Nat} : ∀ m i, (∀ j, i ≤ j → j < i + m → edg n o (f j) (f (j + 1))) → bt (rch n o (f i) m) (f (i + m)) := by
  intro m
  induction m with
  | zero => intro i _; exact bt_pow.2 rfl
  | succ m ih =>
    intro i h
    rw [← rch_s]
    have e := h (i + m) (by omega) (by omega)
    exact sCs_bt.2 ⟨f (i + m), e.1, ih i (fun j h1 h2 => h j h1 (by omega)), e.2.1, e.2.2⟩
def lst (n : Nat) (o : Nat → Nat) (N B x : Nat) : Prop := 1 ≤ x ∧ x ≤ B ∧ (∃ p, p < N ∧ bt (rch n o p x) p) ∧ ∀ p, p < N → ∀ k, 1 ≤ k → k ≤ B → bt (rch n o p k) p → x ≤ k
def nor (n : Nat) (o : Nat → Nat) (N B : Nat) : Prop := ∀ p, p < N → ∀ k, 1 ≤ k → k ≤ B → ¬ bt (rch n o p k) p
theorem ring_n {x : Nat} (hx : lst n o n 6 x) : x ≤ n := by
  by_cases q : x ≤ n
  · exact q
  · obtain ⟨h1, h2, ⟨p, hp, hb⟩, h3⟩ := hx
    obtain ⟨f, f1, f2, f3⟩ := walk x p hb
    obtain ⟨i, j, hij, hj, e⟩ := pigeon n f (fun i hi => (f3 i (by omega)).1)
    have hbk := back (f := f) (n := n) (o := o) (j - i) i (fun m m1 m2 => f3 m (by omega))
    rw [show i + (j - i) = j by omega, ← e] at hbk
    have := h3 (f i) (f3 i (by omega)).1 (j - i) (by omega) (by omega) hbk
    omega
theorem e_X12_creditorsOf {s : Nat} (ho : ∀ i, i < 36 → db i = nI (o i)) (h9 : ∀ i, i < 36 → o i ≤ 99) (hn : n ≤ 6) (hs : s < 64) (hf : 100 ≤ fu) : f_X12_creditorsOf fu (nI n) db (nI s) = some (nI (sCs n o s)) := by
  have h := lp_up0 (step := f_X12_creditorsOf_L4 fu (nI n) db (nI s)) (fun j x => (nI x, nI j)) (gCs n o s) n (fun x => nI x) (fun j x hj => by
    have := bi_lt s j
    simp only [f_X12_creditorsOf_L4, if_neg (nI_ge hj (by omega : n < 2 ^ 31)), e_X12_has (fu := fu) hs (by omega : j < 6), e_X12_creditors (fu := fu) ho h9 hn (by omega : j < 6) hf, bnd_some, ltn, nI_1, fa_or, nI_eq0 (show bi s j < 2 ^ 31 by omega), i0_or]
    unfold gCs
    split <;> rfl) (fun x => by
    simp only [f_X12_creditorsOf_L4, if_pos (nI_le (Nat.le_refl n) (by omega : n < 2 ^ 31))]) (fu := fu) (a := 0) (by omega)
  unfold f_X12_creditorsOf
  exact bnd_r h
theorem e_onward {s : Nat} {c : Int32} (ho : ∀ i, i < 36 → ow i = nI (o i)) (h9 : ∀ i, i < 36 → o i ≤ 99) (hn : n ≤ 6) (hs : s < 64) (hf : 100 ≤ fu) : lp (f_X0_stepsBackTo_L20 fu (nI n) ow (nI s, c)) fu ((0 : Int32), (0 : Int32)) = some (nI (sCs n o s)) :=
  lp_up0 (step := f_X0_stepsBackTo_L20 fu (nI n) ow (nI s, c)) (fun j x => (nI x, nI j)) (gCs n o s) n (fun x => nI x) (fun j x hj => by
    have := bi_lt s j
    simp only [f_X0_stepsBackTo_L20, if_neg (nI_ge hj (by omega : n < 2 ^ 31)), jbi hs (by omega : j < 6), e_X9_creditorsOf (fu := fu) ho h9 hn (by omega : j < 6) hf, bnd_some, ltn, nI_1, fa_or, nI_eq0 (show bi s j < 2 ^ 31 by omega)]
    unfold gCs
    split <;> rfl) (fun x => by
    simp only [f_X0_stepsBackTo_L20, if_pos (nI_le (Nat.le_refl n) (by omega : n < 2 ^ 31))]) (fu := fu) (a := 0) (by omega)
theorem e_X0_stepsBackTo (ho : ∀ i, i < 36 → ow i = nI (o i)) (h9 : ∀ i, i < 36 → o i ≤ 99) (hn : n ≤ 6) (hp : p < n) (hf : 100 ≤ fu) : f_X0_stepsBackTo fu (nI n) ow (nI p) = some (enc (fi (fun k => bi (rch n o p k) p = 1) 1 n)) := by
  have key : ∀ k c f, c + k = n + 1 → k < f → 1 ≤ c → lp (f_X0_stepsBackTo_L6 fu (nI n) ow (nI p)) f (nI (rch n o p (c - 1)), nI c) = some (match fi (fun k => bi (rch n o p k) p = 1) c k with
      | none => .inr ()
      | some m => .inl (nI m)) := by
    intro k
    induction k with
    | zero =>
      intro c f hc hf _
      obtain ⟨f, rfl⟩ : ∃ g, f = g + 1 := ⟨f - 1, by omega⟩
      show bnd (f_X0_stepsBackTo_L6 fu (nI n) ow (nI p) (_, nI c)) _ = _
      simp only [f_X0_stepsBackTo_L6, if_pos (nI_lt (show n < c by omega) (by omega : c < 2 ^ 31)), bnd_some]
      rfl
    | succ k ih =>
      intro c f hc hg h1
      obtain ⟨f, rfl⟩ : ∃ g, f = g + 1 := ⟨f - 1, by omega⟩
      have hl := rch_lt (o := o) (k := c - 1) hn hp
      have hl2 := rch_lt (o := o) (k := c) hn hp
      have hbl := bi_lt (rch n o p c) p
      have e1 : sCs n o (rch n o p (c - 1)) = rch n o p c := by rw [rch_s, show c - 1 + 1 = c by omega]
      show bnd (f_X0_stepsBackTo_L6 fu (nI n) ow (nI p) (nI (rch n o p (c - 1)), nI c)) _ = _
      simp only [f_X0_stepsBackTo_L6, if_neg (nI_nlt (show c ≤ n by omega) (by omega : n < 2 ^ 31)), e_onward ho h9 hn (p64 hn hl) hf, bnd_some, e1, jbi (p64 hn hl2) (show p < 6 by omega), nI_eq0 (show bi (rch n o p c) p < 2 ^ 31 by omega), nI_1]
      unfold fi
      by_cases q : bi (rch n o p c) p = 0
      · rw [if_pos q, if_neg (show ¬ bi (rch n o p c) p = 1 by omega), bnd_some]
        have := ih (c + 1) f (by omega) (by omega) (by omega)
        rw [show c + 1 - 1 = c by omega] at this
        exact this
      · rw [if_neg q, if_pos (show bi (rch n o p c) p = 1 by omega), bnd_some]
  unfold f_X0_stepsBackTo ltn
  rw [jshl_1 p (by omega)]
  have := key n 1 fu (by omega) (by omega) (by omega)
  have e0 : rch n o p (1 - 1) = 2 ^ p := rfl
  rw [e0] at this
  refine Eq.trans (bnd_r this) ?_
  cases fi (fun k => bi (rch n o p k) p = 1) 1 n <;> rfl
def gSr (n : Nat) (o : Nat → Nat) (j : Nat) (b : Option Nat) : Option Nat := match fi (fun k => bi (rch n o j k) j = 1) 1 n with
  | none => b
  | some i => match b with
    | none => some i
    | some x => if i < x then some i else some x
theorem e_X0_shortestRing (ho : ∀ i, i < 36 → ow i = nI (o i)) (h9 : ∀ i, i < 36 → o i ≤ 99) (hn : n ≤ 6) (hf : 100 ≤ fu) : ∃ b, f_X0_shortestRing fu (nI n) ow = some (enc b) ∧ (b = none → nor n o n n) ∧ ∀ x, b = some x → lst n o n n x := by
  have out := lp_up (step := f_X0_shortestRing_L4 fu (nI n) ow) (fun j b => (enc b, nI j)) (gSr n o) n (fun b => enc b) (fun j b => (b = none → nor n o j n) ∧ ∀ x, b = some x → lst n o j n x) (fun j b hj hb => by
    have hfi := fi_spec (g := fun k => bi (rch n o j k) j = 1) n 1
    have e1 := e_X0_stepsBackTo (fu := fu) ho h9 hn hj hf
    refine ⟨?_, ?_⟩
    · simp only [f_X0_shortestRing_L4, if_neg (nI_ge hj (by omega : n < 2 ^ 31)), e1, bnd_some, nI_1]
      unfold gSr
      cases e : fi (fun k => bi (rch n o j k) j = 1) 1 n with
      | none => rw [if_pos (show enc none = -1 from rfl)]
      | some i =>
        have hi := (hfi.2 i e)
        rw [if_neg (enc_no (by omega))]
        cases b with
        | none => rw [if_pos (show enc none = -1 from rfl)]
        | some x =>
          obtain ⟨x1, x2, -⟩ := hb.2 x rfl
          rw [if_neg (enc_no (by omega))]
          by_cases q : i < x
          · have hc : ¬ enc (some x) ≤ enc (some i) := nI_ge q (by omega)
            rw [if_neg hc]
            simp only [if_pos q]
          · have hc : enc (some x) ≤ enc (some i) := nI_le (by omega) (by omega)
            rw [if_pos hc]
            simp only [if_neg q]
    · unfold gSr
      cases e : fi (fun k => bi (rch n o j k) j = 1) 1 n with
      | none =>
        have hno := hfi.1 e
        refine ⟨fun z p hp k k1 k2 hk => ?_, fun x hx => ?_⟩
        · by_cases ep : p = j
          · rw [ep] at hk; exact hno k k1 (by omega) hk
          · exact hb.1 z p (by omega) k k1 k2 hk
        · obtain ⟨x1, x2, ⟨p, hp, hpx⟩, x4⟩ := hb.2 x hx
          refine ⟨x1, x2, ⟨p, by omega, hpx⟩, fun p hp k k1 k2 hk => ?_⟩
          by_cases ep : p = j
          · rw [ep] at hk; exact absurd hk (hno k k1 (by omega))
          · exact x4 p (by omega) k k1 k2 hk
      | some i =>
        obtain ⟨i1, i2, i3, i4⟩ := hfi.2 i e
        have hmin : ∀ k, 1 ≤ k → k ≤ n → bt (rch n o j k) j → i ≤ k := by
          intro k k1 k2 hk
          by_cases q : i ≤ k
          · exact q
          · exact absurd hk (i4 k k1 (by omega))
        cases b with
        | none =>
          refine ⟨fun z => (by cases z), fun x hx => ?_⟩
          cases hx
          refine ⟨i1, by omega, ⟨j, by omega, i3⟩, fun p hp k k1 k2 hk => ?_⟩
          by_cases ep : p = j
          · rw [ep] at hk; exact hmin k k1 k2 hk
          · exact absurd hk (hb.1 rfl p (by omega) k k1 k2)
        | some x =>
          obtain ⟨x1, x2, ⟨p0, hp0, hpx⟩, x4⟩ := hb.2 x rfl
          by_cases q : i < x
          · simp only [if_pos q]
            refine ⟨fun z => (by cases z), fun y hy => ?_⟩
            cases hy
            refine ⟨i1, by omega, ⟨j, by omega, i3⟩, fun p hp k k1 k2 hk => ?_⟩
            by_cases ep : p = j
            · rw [ep] at hk; exact hmin k k1 k2 hk
            · have := x4 p (by omega) k k1 k2 hk; omega
          · simp only [if_neg q]
            refine ⟨fun z => (by cases z), fun y hy => ?_⟩
            cases hy
            refine ⟨x1, x2, ⟨p0, by omega, hpx⟩, fun p hp k k1 k2 hk => ?_⟩
            by_cases ep : p = j
            · rw [ep] at hk; have := hmin k k1 k2 hk; omega
            · exact x4 p (by omega) k k1 k2 hk) (fun b _ => by
    simp only [f_X0_shortestRing_L4, if_pos (nI_le (Nat.le_refl n) (by omega : n < 2 ^ 31))]) n fu 0 none (by omega) (by omega) ⟨fun _ p hp => absurd hp (by omega), fun x hx => by cases hx⟩
  refine ⟨_, ?_, out.2.1, out.2.2⟩
  unfold f_X0_shortestRing
  rw [show ((-1 : Int32), (0 : Int32)) = (enc none, nI 0) from rfl, bnd_r out.1]
def gMr (n : Nat) (o : Nat → Nat) (p k x : Nat) : Nat := if bi (rch n o p k) p = 0 then x else min x k
def sMr (n : Nat) (o : Nat → Nat) (p x : Nat) : Nat := fldN (gMr n o p) 1 6 x
theorem sMr_spec {x : Nat} : sMr n o p x ≤ x ∧ (sMr n o p x = x ∨ (1 ≤ sMr n o p x ∧ sMr n o p x ≤ 6 ∧ bt (rch n o p (sMr n o p x)) p)) ∧ ∀ k, 1 ≤ k → k ≤ 6 → bt (rch n o p k) p → sMr n o p x ≤ k := by
  have key : ∀ m c y, 1 ≤ c → fldN (gMr n o p) c m y ≤ y ∧ (fldN (gMr n o p) c m y = y ∨ (c ≤ fldN (gMr n o p) c m y ∧ fldN (gMr n o p) c m y < c + m ∧ bt (rch n o p (fldN (gMr n o p) c m y)) p)) ∧ ∀ k, c ≤ k → k < c + m → bt (rch n o p k) p → fldN (gMr n o p) c m y ≤ k := by
    intro m
    induction m with
    | zero => intro c y _; exact ⟨Nat.le_refl _, Or.inl rfl, fun k h1 h2 => by omega⟩
    | succ m ih =>
      intro c y hc
      show fldN (gMr n o p) (c + 1) m (gMr n o p c y) ≤ y ∧ (fldN (gMr n o p) (c + 1) m (gMr n o p c y) = y ∨ (c ≤ fldN (gMr n o p) (c + 1) m (gMr n o p c y) ∧ fldN (gMr n o p) (c + 1) m (gMr n o p c y) < c + (m + 1) ∧ bt (rch n o p (fldN (gMr n o p) (c + 1) m (gMr n o p c y))) p)) ∧ ∀ k, c ≤ k → k < c + (m + 1) → bt (rch n o p k) p → fldN (gMr n o p) (c + 1) m (gMr n o p c y) ≤ k
      obtain ⟨h1, h2, h3⟩ := ih (c + 1) (gMr n o p c y) (by omega)
      generalize fldN (gMr n o p) (c + 1) m (gMr n o p c y) = v at h1 h2 h3 ⊢
      unfold gMr at h1 h2
      rcases bi_01 (rch n o p c) p with q | q
      · rw [if_pos q] at h1 h2
        refine ⟨h1, ?_, fun k k1 k2 hk => ?_⟩
        · rcases h2 with e | ⟨e1, e2, e3⟩
          · exact Or.inl e
          · exact Or.inr ⟨by omega, by omega, e3⟩
        · by_cases e : k = c
          · rw [e] at hk; exact absurd hk (bi0.1 q)
          · exact h3 k (by omega) (by omega) hk
      · rw [if_neg (fun z => bi0.1 z q)] at h1 h2
        refine ⟨by omega, ?_, fun k k1 k2 hk => ?_⟩
        · rcases h2 with e | ⟨e1, e2, e3⟩
          · by_cases l : y ≤ c
            · exact Or.inl (by omega)
            · refine Or.inr ?_
              have : v = c := by omega
              rw [this]
              exact ⟨Nat.le_refl _, by omega, q⟩
          · exact Or.inr ⟨by omega, by omega, e3⟩
        · by_cases e : k = c
          · omega
          · exact h3 k (by omega) (by omega) hk
  obtain ⟨h1, h2, h3⟩ := key 6 1 x (by omega)
  refine ⟨h1, ?_, fun k k1 k2 hk => h3 k k1 (by omega) hk⟩
  rcases h2 with e | ⟨e1, e2, e3⟩
  · exact Or.inl e
  · exact Or.inr ⟨e1, by show fldN (gMr n o p) 1 6 x ≤ 6; omega, e3⟩
theorem e_X12_shortestRing (ho : ∀ i, i < 36 → db i = nI (o i)) (h9 : ∀ i, i < 36 → o i ≤ 99) (hn : n ≤ 6) (hf : 100 ≤ fu) : ∃ b, f_X12_shortestRing fu (nI n) db = some (enc b) ∧ (b = none → nor n o n 6) ∧ ∀ x, b = some x → lst n o n 6 x := by
  have inn : ∀ p x z, p < n → x ≤ 1000000 → lp (f_X12_shortestRing_L21 fu (nI n) db (z, nI p)) fu (nI x, nI (2 ^ p), (1 : Int32)) = some (nI (sMr n o p x)) := by
    intro p x z hp hx
    exact (lp_up (step := f_X12_shortestRing_L21 fu (nI n) db (z, nI p)) (fun k x => (nI x, nI (rch n o p (k - 1)), nI k)) (gMr n o p) 7 (fun x => nI x) (fun k x => 1 ≤ k ∧ x ≤ 1000000) (fun k x hk hx => by
      obtain ⟨k1, k2⟩ := hx
      have hl := rch_lt (o := o) (k := k - 1) hn hp
      have hl2 := rch_lt (o := o) (k := k) hn hp
      have hbl := bi_lt (rch n o p k) p
      have e1 : sCs n o (rch n o p (k - 1)) = rch n o p k := by rw [rch_s, show k - 1 + 1 = k by omega]
      refine ⟨?_, by omega, ?_⟩
      · simp only [f_X12_shortestRing_L21, show (6 : Int32) = nI 6 from rfl, if_neg (nI_nlt (show k ≤ 6 by omega) (by decide : 6 < 2 ^ 31)), e_X12_creditorsOf (fu := fu) ho h9 hn (p64 hn hl) hf, bnd_some, e1, e_X12_has (fu := fu) (p64 hn hl2) (show p < 6 by omega), nI_eq0 (show bi (rch n o p k) p < 2 ^ 31 by omega), e_lesser, jmin_n (show x < 2 ^ 31 by omega) (show k < 2 ^ 31 by omega), nI_1, show k + 1 - 1 = k by omega]
        unfold gMr
        split <;> rfl
      · unfold gMr
        split <;> omega) (fun x _ => by
      simp only [f_X12_shortestRing_L21, show (6 : Int32) = nI 6 from rfl, if_pos (nI_lt (show 6 < 7 by omega) (by decide : 7 < 2 ^ 31))]) 6 fu 1 x (by omega) (by omega) ⟨by omega, hx⟩).1
  have out := lp_up (step := f_X12_shortestRing_L6 fu (nI n) db) (fun j x => (nI x, nI j)) (fun p x => sMr n o p x) n (fun x => nI x) (fun j x => x ≤ 1000000 ∧ (x = 1000000 ∨ (1 ≤ x ∧ x ≤ 6 ∧ ∃ p, p < j ∧ bt (rch n o p x) p)) ∧ ∀ p, p < j → ∀ k, 1 ≤ k → k ≤ 6 → bt (rch n o p k) p → x ≤ k) (fun j x hj hx => by
    obtain ⟨h1, h2, h3⟩ := hx
    obtain ⟨m1, m2, m3⟩ := sMr_spec (n := n) (o := o) (p := j) (x := x)
    refine ⟨?_, by omega, ?_, fun p hp k k1 k2 hk => ?_⟩
    · simp only [f_X12_shortestRing_L6, if_neg (nI_ge hj (by omega : n < 2 ^ 31)), ltn, jshl_1 j (by omega), inn j x (nI x) hj h1, bnd_some, nI_1]
    · rcases m2 with e | ⟨e1, e2, e3⟩
      · rw [e]
        rcases h2 with e2 | ⟨e2, e3, p, hp, e4⟩
        · exact Or.inl e2
        · exact Or.inr ⟨e2, e3, p, by omega, e4⟩
      · exact Or.inr ⟨e1, e2, j, by omega, e3⟩
    · by_cases e : p = j
      · rw [e] at hk; exact m3 k k1 k2 hk
      · have := h3 p (by omega) k k1 k2 hk; omega) (fun x _ => by
    simp only [f_X12_shortestRing_L6, if_pos (nI_le (Nat.le_refl n) (by omega : n < 2 ^ 31))]) n fu 0 1000000 (by omega) (by omega) ⟨by omega, Or.inl rfl, fun p hp => absurd hp (by omega)⟩
  obtain ⟨o1, o2, o3, o4⟩ := out
  unfold f_X12_shortestRing
  rw [show ((1000000 : Int32), (0 : Int32)) = (nI 1000000, nI 0) from rfl, bnd_r o1]
  generalize fldN (fun p x => sMr n o p x) 0 n 1000000 = v at o1 o2 o3 o4 ⊢
  have hv : nI v = (1000000 : Int32) ↔ v = 1000000 := by rw [show (1000000 : Int32) = nI 1000000 from rfl, nI_eq (by omega) (by decide)]
  by_cases q : v = 1000000
  · refine ⟨none, ?_, fun _ p hp k k1 k2 hk => ?_, fun x hx => by cases hx⟩
    · rw [if_pos (hv.2 q)]; rfl
    · have := o4 p hp k k1 k2 hk; omega
  · refine ⟨some v, ?_, fun z => (by cases z), fun x hx => ?_⟩
    · rw [if_neg (fun z => q (hv.1 z))]; rfl
    · cases hx
      rcases o3 with e | ⟨e1, e2, e3⟩
      · exact absurd e q
      · exact ⟨e1, e2, e3, o4⟩
theorem ring_eq (ho : ∀ i, i < 36 → ow i = nI (o i)) (ho2 : ∀ i, i < 36 → db i = nI (o i)) (h9 : ∀ i, i < 36 → o i ≤ 99) (hn : n ≤ 6) (hf : 100 ≤ fu) : ∃ v, f_X0_shortestRing fu (nI n) ow = some v ∧ f_X12_shortestRing fu (nI n) db = some v := by
  obtain ⟨b, b1, b2, b3⟩ := e_X0_shortestRing (fu := fu) ho h9 hn hf
  obtain ⟨c, c1, c2, c3⟩ := e_X12_shortestRing (fu := fu) ho2 h9 hn hf
  refine ⟨enc b, b1, ?_⟩
  rw [c1]
  have : b = c := by
    cases b with
    | none =>
      cases c with
      | none => rfl
      | some y =>
        have hy := c3 y rfl
        have hyn := ring_n hy
        obtain ⟨y1, y2, ⟨p, hp, y3⟩, y4⟩ := hy
        exact absurd y3 (b2 rfl p hp y y1 hyn)
    | some x =>
      obtain ⟨x1, x2, ⟨p, hp, x3⟩, x4⟩ := b3 x rfl
      cases c with
      | none => exact absurd x3 (c2 rfl p hp x x1 (by omega))
      | some y =>
        have hy := c3 y rfl
        have hyn := ring_n hy
        obtain ⟨y1, y2, ⟨p', hp', y3⟩, y4⟩ := hy
        have l1 := x4 p' hp' y y1 hyn y3
        have l2 := y4 p hp x x1 (by omega) x3
        rw [show x = y by omega]
  rw [this]
end P12
