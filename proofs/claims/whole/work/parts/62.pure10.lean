/-! ===== feuds ===== -/
section P10
variable {fu n t p a b : Nat} {w pu h o : Nat → Nat} {wi pr ha ow db M : Nat → Int32}
def gFe (h : Nat → Nat) (j s : Nat) : Nat := if bi s j = 0 then s else s ||| h j
def sFe (n : Nat) (h : Nat → Nat) (s : Nat) : Nat := fldN (gFe h) 0 n s
theorem gFe_sub {j s : Nat} : sub s (gFe h j s) := by
  unfold gFe
  split
  · exact fun _ z => z
  · exact fun i z => bt_or.2 (Or.inl z)
theorem gFe_lt {j s : Nat} (hh : h j < 2 ^ n) (hs : s < 2 ^ n) : gFe h j s < 2 ^ n := by
  unfold gFe
  split
  · exact hs
  · exact or_pow hs hh
theorem sFe_ok {s : Nat} (hn : n ≤ 6) (hh : ∀ i, i < 6 → h i < 2 ^ n) (hs : s < 2 ^ n) : sFe n h s < 2 ^ n ∧ sub s (sFe n h s) :=
  ⟨fld_lt (fun j _ hj hs => gFe_lt (hh j (by omega)) hs) n 0 s (by omega) hs, fld_sub (fun _ _ => gFe_sub) n 0 s⟩
theorem fld_it {f : Nat → Nat} : ∀ k j s, fldN (fun _ s => f s) j k s = it f k s := by
  intro k
  induction k with
  | zero => intro j s; rfl
  | succ k ih => intro j s; exact ih (j + 1) (f s)
def clo (n : Nat) (h : Nat → Nat) (p : Nat) : Nat := it (sFe n h) n (2 ^ p)
theorem clo_fix (hn : n ≤ 6) (hh : ∀ i, i < 6 → h i < 2 ^ n) (hp : p < n) : sFe n h (clo n h p) = clo n h p :=
  fix_it hn (fun _ hs => sFe_ok hn hh hs) n (2 ^ p) (pw_lt hp) (by omega)
theorem clo_lt (hn : n ≤ 6) (hh : ∀ i, i < 6 → h i < 2 ^ n) (hp : p < n) : clo n h p < 2 ^ n :=
  it_pred (P := fun s => s < 2 ^ n) (fun _ hs => (sFe_ok hn hh hs).1) n (2 ^ p) (pw_lt hp)
theorem clo_self (hn : n ≤ 6) (hh : ∀ i, i < 6 → h i < 2 ^ n) (hp : p < n) : bt (clo n h p) p :=
  (it_pred (P := fun s => s < 2 ^ n ∧ bt s p) (fun _ hs => ⟨(sFe_ok hn hh hs.1).1, (sFe_ok hn hh hs.1).2 p hs.2⟩) n (2 ^ p) ⟨pw_lt hp, bt_pow.2 rfl⟩).2
theorem sFe_has {x : Nat} : ∀ k j s, j ≤ x → x < j + k → bt s x → sub (h x) (fldN (gFe h) j k s) := by
  intro k
  induction k with
  | zero => intro j s h1 h2; omega
  | succ k ih =>
    intro j s h1 h2 hb
    by_cases q : x = j
    · subst q
      intro i hi
      refine fld_sub (fun _ _ => gFe_sub) k (x + 1) _ i ?_
      unfold gFe
      rw [if_neg (fun z => bi0.1 z hb)]
      exact bt_or.2 (Or.inr hi)
    · exact ih (j + 1) (gFe h j s) (by omega) (by omega) (gFe_sub x hb)
theorem clo_closed {x : Nat} (hn : n ≤ 6) (hh : ∀ i, i < 6 → h i < 2 ^ n) (hp : p < n) (hx : bt (clo n h p) x) : sub (h x) (clo n h p) := by
  have hl := bt_lt (clo_lt hn hh hp) hx
  have := sFe_has (h := h) n 0 (clo n h p) (by omega) (by omega) hx
  have e : fldN (gFe h) 0 n (clo n h p) = clo n h p := clo_fix hn hh hp
  rw [e] at this
  exact this
theorem clo_min {T : Nat → Prop} (hT : ∀ x y, x < n → T x → bt (h x) y → T y) (h0 : T p) : ∀ x, bt (clo n h p) x → T x := by
  have h1 : ∀ k j s, j + k ≤ n → (∀ x, bt s x → T x) → ∀ x, bt (fldN (gFe h) j k s) x → T x := by
    intro k
    induction k with
    | zero => intro j s _ hs; exact hs
    | succ k ih =>
      intro j s hj hs
      refine ih (j + 1) (gFe h j s) (by omega) (fun x hx => ?_)
      unfold gFe at hx
      by_cases q : bi s j = 0
      · rw [if_pos q] at hx; exact hs x hx
      · rw [if_neg q] at hx
        rcases bt_or.1 hx with z | z
        · exact hs x z
        · exact hT j x (by omega) (hs j ((bi_01 _ _).resolve_left q)) z
  exact it_pred (P := fun s => ∀ x, bt s x → T x) (fun s hs => h1 n 0 s (by omega) hs) n (2 ^ p) (fun x hx => by rw [← bt_pow.1 hx]; exact h0)
theorem clo_tr {q : Nat} (hn : n ≤ 6) (hh : ∀ i, i < 6 → h i < 2 ^ n) (hp : p < n) (hq : bt (clo n h p) q) : sub (clo n h q) (clo n h p) :=
  clo_min (T := fun z => bt (clo n h p) z) (fun _ y _ hx hy => clo_closed hn hh hp hx y hy) hq
theorem clo_sy {q : Nat} (hn : n ≤ 6) (hh : ∀ i, i < 6 → h i < 2 ^ n) (hsy : ∀ i j, i < 6 → j < 6 → bi (h i) j = bi (h j) i) (hp : p < n) (hq : bt (clo n h p) q) : bt (clo n h q) p := by
  refine (clo_min (p := p) (T := fun x => x < n ∧ bt (clo n h x) p) (fun x y hx hT hy => ?_) ⟨hp, clo_self hn hh hp⟩ q hq).2
  have hyn : y < n := bt_lt (hh x (by omega)) hy
  refine ⟨hyn, ?_⟩
  have hyx : bt (h y) x := by unfold bt; rw [hsy y x (by omega) (by omega)]; exact hy
  have h1 : bt (clo n h y) x := clo_closed hn hh hyn (clo_self hn hh hyn) x hyx
  exact clo_tr hn hh hyn h1 p hT.2
theorem e_X6_feudOf (hha : ∀ i, i < 6 → ha i = nI (h i)) (hh : ∀ i, i < 6 → h i < 2 ^ n) (hn : n ≤ 6) (hp : p < n) (hf : 100 ≤ fu) : f_X6_feudOf fu (nI n) ha (nI p) = some (nI (clo n h p)) := by
  have inn : ∀ s, s < 2 ^ n → lp (f_X6_feudOf_L17 (nI n) ha) fu (nI s, (0 : Int32)) = some (nI (sFe n h s)) := by
    intro s hs
    exact (lp_up (step := f_X6_feudOf_L17 (nI n) ha) (fun j x => (nI x, nI j)) (gFe h) n (fun x => nI x) (fun _ x => x < 2 ^ n) (fun j x hj hx => by
      refine ⟨?_, gFe_lt (hh j (by omega)) hx⟩
      have := bi_lt x j
      simp only [f_X6_feudOf_L17, if_neg (nI_ge hj (by omega : n < 2 ^ 31)), jbi (p64 hn hx) (by omega : j < 6), rdi_n (by omega : j < 6) (by decide) (hha j (by omega)), bnd_some, ltn, nI_1, fa_or, nI_eq0 (show bi x j < 2 ^ 31 by omega)]
      unfold gFe
      split <;> rfl) (fun x _ => by
      simp only [f_X6_feudOf_L17, if_pos (nI_le (Nat.le_refl n) (by omega : n < 2 ^ 31))]) n fu 0 s (by omega) (by omega) hs).1
  have out := (lp_up (step := f_X6_feudOf_L6 fu (nI n) ha) (fun j x => (nI x, nI j)) (fun _ x => sFe n h x) n (fun x => nI x) (fun _ x => x < 2 ^ n) (fun j x hj hx => by
    refine ⟨?_, (sFe_ok hn hh hx).1⟩
    simp only [f_X6_feudOf_L6, if_neg (nI_ge hj (by omega : n < 2 ^ 31)), inn x hx, bnd_some, nI_1]) (fun x _ => by
    simp only [f_X6_feudOf_L6, if_pos (nI_le (Nat.le_refl n) (by omega : n < 2 ^ 31))]) n fu 0 (2 ^ p) (by omega) (by omega) (pw_lt hp)).1
  rw [fld_it] at out
  unfold f_X6_feudOf ltn
  rw [jshl_1 p (by omega)]
  exact bnd_r out
theorem e_X12_feudOf (hM : ∀ i, i < 6 → M (55 * t + 13 + i) = nI (h i)) (hh : ∀ i, i < 6 → h i < 2 ^ n) (ht : t < 8) (hn : n ≤ 6) (hp : p < n) (hf : 100 ≤ fu) : f_X12_feudOf fu M (nI t) (nI n) (nI p) = some (nI (clo n h p)) := by
  have inn : ∀ s, s < 2 ^ n → lp (f_X12_feudOf_L15 fu M (nI t) (nI n)) fu (nI s, (0 : Int32)) = some (nI (sFe n h s)) := by
    intro s hs
    exact (lp_up (step := f_X12_feudOf_L15 fu M (nI t) (nI n)) (fun j x => (nI x, nI j)) (gFe h) n (fun x => nI x) (fun _ x => x < 2 ^ n) (fun j x hj hx => by
      refine ⟨?_, gFe_lt (hh j (by omega)) hx⟩
      have := bi_lt x j
      have e1 : f_X12_of fu M (nI t) (nI (13 + j)) = some (nI (h j)) := e_X12_of (by rw [← hM j (by omega), Nat.add_assoc]) (by omega)
      simp only [f_X12_feudOf_L15, if_neg (nI_ge hj (by omega : n < 2 ^ 31)), e_X12_has (fu := fu) (p64 hn hx) (by omega : j < 6), li_13, nI_add, e1, bnd_some, ltn, nI_1, fa_or, nI_eq0 (show bi x j < 2 ^ 31 by omega), i0_or]
      unfold gFe
      split <;> rfl) (fun x _ => by
      simp only [f_X12_feudOf_L15, if_pos (nI_le (Nat.le_refl n) (by omega : n < 2 ^ 31))]) n fu 0 s (by omega) (by omega) hs).1
  have out := (lp_up (step := f_X12_feudOf_L6 fu M (nI t) (nI n)) (fun j x => (nI x, nI j)) (fun _ x => sFe n h x) 6 (fun x => nI x) (fun _ x => x < 2 ^ n) (fun j x hj hx => by
    refine ⟨?_, (sFe_ok hn hh hx).1⟩
    simp only [f_X12_feudOf_L6, show (6 : Int32) = nI 6 from rfl, if_neg (nI_ge hj (by decide : 6 < 2 ^ 31)), inn x hx, bnd_some, nI_1]) (fun x _ => by
    simp only [f_X12_feudOf_L6, show (6 : Int32) = nI 6 from rfl, if_pos (nI_le (Nat.le_refl 6) (by decide : 6 < 2 ^ 31))]) 6 fu 0 (2 ^ p) (by omega) (by omega) (pw_lt hp)).1
  rw [fld_it, show (6 : Nat) = n + (6 - n) by omega, it_more n (6 - n) (2 ^ p) (clo_fix hn hh hp)] at out
  unfold f_X12_feudOf ltn
  rw [jshl_1 p (by omega)]
  exact bnd_r out
theorem bt_m1 {q : Nat} : bt (2 ^ p - 1) q ↔ q < p := by
  rw [bt_tb, Nat.testBit_two_pow_sub_one, decide_eq_true_eq]
theorem clo_least : clo n h p &&& (2 ^ p - 1) = 0 ↔ ∀ q, q < p → ¬ bt (clo n h p) q := by
  constructor
  · intro e q hq hb
    have : bt (clo n h p &&& (2 ^ p - 1)) q := bt_and.2 ⟨hb, bt_m1.2 hq⟩
    rw [e] at this
    exact bt_0 this
  · intro H
    refine bt_ext (fun j => ⟨fun z => ?_, fun z => absurd z bt_0⟩)
    have := bt_and.1 z
    exact absurd this.1 (H j (bt_m1.1 this.2))
def gFs (n : Nat) (h : Nat → Nat) (j x : Nat) : Nat := if clo n h j &&& (2 ^ j - 1) = 0 then x + 1 else x
def sFs (n : Nat) (h : Nat → Nat) : Nat := fldN (gFs n h) 0 n 0
def gSe (n : Nat) (h : Nat → Nat) (j : Nat) (x : Nat × Nat) : Nat × Nat := if bi x.1 j = 0 then (x.1 ||| clo n h j, x.2 + 1) else x
theorem e_X6_feuds (hha : ∀ i, i < 6 → ha i = nI (h i)) (hh : ∀ i, i < 6 → h i < 2 ^ n) (hsy : ∀ i j, i < 6 → j < 6 → bi (h i) j = bi (h j) i) (hn : n ≤ 6) (hf : 100 ≤ fu) : f_X6_feuds fu (nI n) ha = some (nI (sFs n h)) := by
  have out := lp_up (step := f_X6_feuds_L6 fu (nI n) ha) (fun j (x : Nat × Nat) => (nI x.1, nI x.2, nI j)) (gSe n h) n (fun x => nI x.2) (fun j x => x.1 < 2 ^ n ∧ (∀ i, bt x.1 i ↔ ∃ q, q < j ∧ bt (clo n h q) i) ∧ x.2 = fldN (gFs n h) 0 j 0) (fun j x hj hx => by
    obtain ⟨h1, h2, h3⟩ := hx
    have := bi_lt x.1 j
    have key : bi x.1 j = 0 ↔ clo n h j &&& (2 ^ j - 1) = 0 := by
      rw [clo_least, bi0, h2]
      constructor
      · intro z q hq hb
        exact z ⟨q, hq, clo_sy hn hh hsy hj hb⟩
      · rintro z ⟨q, hq, hb⟩
        exact z q hq (clo_sy hn hh hsy (by omega) hb)
    refine ⟨?_, ?_⟩
    · simp only [f_X6_feuds_L6, if_neg (nI_ge hj (by omega : n < 2 ^ 31)), jbi (p64 hn h1) (by omega : j < 6), e_X6_feudOf (fu := fu) hha hh hn hj hf, bnd_some, ltn, nI_1, fa_or, nI_eq0 (show bi x.1 j < 2 ^ 31 by omega)]
      unfold gSe
      by_cases q : bi x.1 j = 0
      · rw [if_pos q, if_pos q]
      · rw [if_neg q, if_neg q]
    · unfold gSe
      by_cases q : bi x.1 j = 0
      · rw [if_pos q]
        refine ⟨or_pow h1 (clo_lt hn hh hj), fun i => ?_, ?_⟩
        · show bt (x.1 ||| clo n h j) i ↔ _
          rw [bt_or, h2]
          constructor
          · rintro (⟨q, hq, hb⟩ | hb)
            · exact ⟨q, by omega, hb⟩
            · exact ⟨j, by omega, hb⟩
          · rintro ⟨q, hq, hb⟩
            by_cases e : q = j
            · rw [e] at hb; exact Or.inr hb
            · exact Or.inl ⟨q, by omega, hb⟩
        · show x.2 + 1 = _
          rw [fldN_succ, Nat.zero_add, ← h3]
          unfold gFs
          rw [if_pos (key.1 q)]
      · rw [if_neg q]
        refine ⟨h1, fun i => ?_, ?_⟩
        · rw [h2]
          constructor
          · rintro ⟨q, hq, hb⟩; exact ⟨q, by omega, hb⟩
          · rintro ⟨r, hr, hb⟩
            by_cases e : r = j
            · rw [e] at hb
              obtain ⟨q', hq', hb'⟩ := (h2 j).1 ((bi_01 _ _).resolve_left q)
              exact ⟨q', hq', clo_tr hn hh (by omega) hb' i hb⟩
            · exact ⟨r, by omega, hb⟩
        · rw [fldN_succ, Nat.zero_add, ← h3]
          unfold gFs
          rw [if_neg (fun z => q (key.2 z))]) (fun x _ => by
    simp only [f_X6_feuds_L6, if_pos (nI_le (Nat.le_refl n) (by omega : n < 2 ^ 31))]) n fu 0 (0, 0) (by omega) (by omega) ⟨Nat.one_le_two_pow, fun i => ⟨fun z => absurd z bt_0, fun ⟨q, hq, _⟩ => absurd hq (by omega)⟩, rfl⟩
  unfold f_X6_feuds
  rw [show ((0 : Int32), (0 : Int32), (0 : Int32)) = (nI 0, nI 0, nI 0) from rfl, bnd_r out.1, out.2.2.2]
  rfl
theorem e_X12_feuds (hM : ∀ i, i < 6 → M (55 * t + 13 + i) = nI (h i)) (hh : ∀ i, i < 6 → h i < 2 ^ n) (ht : t < 8) (hn : n ≤ 6) (hf : 100 ≤ fu) : f_X12_feuds fu M (nI t) (nI n) = some (nI (sFs n h)) := by
  have out := lp_up0 (step := f_X12_feuds_L4 fu M (nI t) (nI n)) (fun j x => (nI x, nI j)) (gFs n h) n (fun x => nI x) (fun j x hj => by
    have l1 := p64 hn (clo_lt hn hh hj)
    have l2 : clo n h j &&& (2 ^ j - 1) < 2 ^ 31 := Nat.lt_of_le_of_lt Nat.and_le_left (by omega)
    have e1 : nI (2 ^ j) - 1 = nI (2 ^ j - 1) := by rw [show (1 : Int32) = nI 1 from rfl, pk_sub Nat.one_le_two_pow]
    simp only [f_X12_feuds_L4, if_neg (nI_ge hj (by omega : n < 2 ^ 31)), e_X12_feudOf (fu := fu) hM hh ht hn hj hf, bnd_some, ltn, nI_1, jshl_1 j (by omega), e1, fa_and, nI_eq0 l2, i0_add]
    unfold gFs
    split <;> rfl) (fun x => by
    simp only [f_X12_feuds_L4, if_pos (nI_le (Nat.le_refl n) (by omega : n < 2 ^ 31))]) (fu := fu) (a := 0) (by omega)
  unfold f_X12_feuds
  exact bnd_r out
end P10
