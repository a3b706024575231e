/-! ===== ruin; the rings' numbers ===== -/
section P9
variable {fu n t p a b : Nat} {w pu h o : Nat → Nat} {wi pr ha ow db M : Nat → Int32}
def sStl (n : Nat) (o : Nat → Nat) (p set : Nat) : Nat := fldN (fun j x => x + if bi set j = 0 then o (6 * j + p) else 0) 0 n 0
theorem sStl_le {set : Nat} (hn : n ≤ 6) (hp : p < 6) (h9 : ∀ i, i < 36 → o i ≤ 99) : sStl n o p set ≤ 594 := by
  have := fld_le (f := fun j => if bi set j = 0 then o (6 * j + p) else 0) (B := 99) n 0 0 (fun i hi => by
    have := h9 (6 * i + p) (by omega)
    show (if bi set i = 0 then o (6 * i + p) else 0) ≤ 99
    split <;> omega)
  unfold sStl
  omega
theorem e_X0_stillOwedTo {set : Nat} (ho : ∀ i, i < 36 → ow i = nI (o i)) (hn : n ≤ 6) (hp : p < 6) (hs : set < 64) (hf : 100 ≤ fu) : f_X0_stillOwedTo fu (nI n) ow (nI p) (nI set) = some (nI (sStl n o p set)) := by
  have h := lp_up0 (step := f_X0_stillOwedTo_L5 fu (nI n) ow (nI p) (nI set)) (fun j x => (nI x, nI j)) (fun j x => x + if bi set j = 0 then o (6 * j + p) else 0) n (fun x => nI x) (fun j x hj => by
    have := bi_lt set j
    simp only [f_X0_stillOwedTo_L5, if_neg (nI_ge hj (by omega : n < 2 ^ 31)), jbi hs (by omega : j < 6), e_X9_owes (fu := fu) ho (by omega : j < 6) hp, bnd_some, ltn, nI_add, nI_1, nI_eq0 (show bi set j < 2 ^ 31 by omega)]
    split <;> rfl) (fun x => by
    simp only [f_X0_stillOwedTo_L5, if_pos (nI_le (Nat.le_refl n) (by omega : n < 2 ^ 31))]) (fu := fu) (a := 0) (by omega)
  unfold f_X0_stillOwedTo
  exact bnd_r h
def gRui (n : Nat) (pu o : Nat → Nat) (j s : Nat) : Nat := if sOwes n o j ≤ pu j + sStl n o j s then s else s ||| 2 ^ j
def sRui (n : Nat) (pu o : Nat → Nat) (s : Nat) : Nat := fldN (gRui n pu o) 0 n s
theorem gRui_lt {j s : Nat} (hj : j < n) (hs : s < 2 ^ n) : gRui n pu o j s < 2 ^ n := by
  unfold gRui
  split
  · exact hs
  · exact or_pow hs (pw_lt hj)
theorem gRui_sub {j s : Nat} : sub s (gRui n pu o j s) := by
  unfold gRui
  split
  · exact fun _ z => z
  · exact fun i z => bt_or.2 (Or.inl z)
theorem fld_sub {g : Nat → Nat → Nat} (hg : ∀ j s, sub s (g j s)) : ∀ k j s, sub s (fldN g j k s) := by
  intro k
  induction k with
  | zero => intro j s; exact fun _ z => z
  | succ k ih => intro j s; exact fun i z => ih (j + 1) (g j s) i (hg j s i z)
theorem fld_lt {N : Nat} {g : Nat → Nat → Nat} (hg : ∀ j s, j < n → s < N → g j s < N) : ∀ k j s, j + k ≤ n → s < N → fldN g j k s < N := by
  intro k
  induction k with
  | zero => intro j s _ hs; exact hs
  | succ k ih => intro j s hj hs; exact ih (j + 1) (g j s) (by omega) (hg j s (by omega) hs)
theorem sRui_ok {s : Nat} (hs : s < 2 ^ n) : sRui n pu o s < 2 ^ n ∧ sub s (sRui n pu o s) :=
  ⟨fld_lt (fun _ _ hj hs => gRui_lt hj hs) n 0 s (by omega) hs, fld_sub (fun _ _ => gRui_sub) n 0 s⟩
theorem e_ruin_C {s : Nat} (hpr : ∀ i, i < n → pr i = nI (pu i)) (hpu : ∀ i, i < 6 → pu i ≤ 99) (ho : ∀ i, i < 36 → ow i = nI (o i)) (h9 : ∀ i, i < 36 → o i ≤ 99) (hn : n ≤ 6) (hs : s < 2 ^ n) (hf : 100 ≤ fu) : lp (f_X0_ruinedBy_L20 fu (nI n) pr ow) fu (nI s, (0 : Int32)) = some (nI (sRui n pu o s)) :=
  (lp_up (step := f_X0_ruinedBy_L20 fu (nI n) pr ow) (fun j x => (nI x, nI j)) (gRui n pu o) n (fun x => nI x) (fun _ x => x < 2 ^ n) (fun j x hj hx => by
    refine ⟨?_, gRui_lt hj hx⟩
    have l1 := sOwes_le (p := j) hn (by omega) h9
    have l2 := sStl_le (p := j) (set := x) hn (by omega) h9
    have l3 := hpu j (by omega)
    simp only [f_X0_ruinedBy_L20, if_neg (nI_ge hj (by omega : n < 2 ^ 31)), e_X9_owesInAll (fu := fu) ho hn (by omega : j < 6) hf, rdi_n (by omega : j < 6) (by decide) (hpr j hj), e_X0_stillOwedTo (fu := fu) ho hn (by omega : j < 6) (p64 hn hx) hf, bnd_some, ltn, nI_add, nI_1, jshl_1 j (by omega), fa_or, nI_leI (show sOwes n o j < 2 ^ 31 by omega) (show pu j + sStl n o j x < 2 ^ 31 by omega)]
    unfold gRui
    split <;> rfl) (fun x _ => by
    simp only [f_X0_ruinedBy_L20, if_pos (nI_le (Nat.le_refl n) (by omega : n < 2 ^ 31))]) n fu 0 s (by omega) (by omega) hs).1
theorem e_ruin_M {s : Nat} {y : HT} (hy : Hd t n pu o y) (hpu : ∀ i, i < 6 → pu i ≤ 99) (h9 : ∀ i, i < 36 → o i ≤ 99) (hn : n ≤ 6) (hs : s < 2 ^ n) (hf : 100 ≤ fu) : lp (f_X12_ruin_L42 fu y) fu (nI s, (0 : Int32)) = some (nI (sRui n pu o s)) := by
  obtain ⟨y1, y2, y3, -, y5, -, y7, -, -⟩ := hy
  exact (lp_up (step := f_X12_ruin_L42 fu y) (fun j x => (nI x, nI j)) (gRui n pu o) n (fun x => nI x) (fun _ x => x < 2 ^ n) (fun j x hj hx => by
    refine ⟨?_, gRui_lt hj hx⟩
    have l1 := sOwes_le (p := j) hn (by omega) h9
    have l2 := sStl_le (p := j) (set := x) hn (by omega) h9
    have l3 := hpu j (by omega)
    have hg := lp_up0 (step := f_X12_ruin_L63 fu y (nI x, nI j)) (fun i z => (nI z, nI i)) (fun i z => z + if bi x i = 0 then o (6 * i + j) else 0) n (fun z => nI z) (fun i z hi => by
      have := bi_lt x i
      simp only [f_X12_ruin_L63, y3, if_neg (nI_ge hi (by omega : n < 2 ^ 31)), e_X12_has (fu := fu) (p64 hn hx) (by omega : i < 6), e_X12_owed (fu := fu) y7 (by omega : i < 6) (by omega : j < 6), bnd_some, ltn, nI_add, nI_1, nI_eq0 (show bi x i < 2 ^ 31 by omega), i0_add]
      split <;> rfl) (fun z => by
      simp only [f_X12_ruin_L63, y3, if_pos (nI_le (Nat.le_refl n) (by omega : n < 2 ^ 31))]) (fu := fu) (a := pu j) (by omega)
    have hsum : ∀ k i z, fldN (fun i z => z + if bi x i = 0 then o (6 * i + j) else 0) i k z = z + fldN (fun i z => z + if bi x i = 0 then o (6 * i + j) else 0) i k 0 := by
      intro k
      induction k with
      | zero => intro i z; rfl
      | succ k ih =>
        intro i z
        show fldN _ (i + 1) k (z + _) = z + fldN _ (i + 1) k (0 + _)
        rw [ih (i + 1) (z + _), ih (i + 1) (0 + _)]
        omega
    rw [hsum] at hg
    have hg' : lp (f_X12_ruin_L63 fu y (nI x, nI j)) fu (nI (pu j), (0 : Int32)) = some (nI (pu j + sStl n o j x)) := hg
    simp only [f_X12_ruin_L42, y3, if_neg (nI_ge hj (by omega : n < 2 ^ 31)), e_X12_owesAll (fu := fu) y7 hn (by omega : j < 6) hf, rdi_n (by omega : j < 6) (by decide) (y5 j (by omega)), hg', bnd_some, ltn, nI_1, jshl_1 j (by omega), fa_or, nI_leI (show sOwes n o j < 2 ^ 31 by omega) (show pu j + sStl n o j x < 2 ^ 31 by omega), i0_or]
    unfold gRui
    split <;> rfl) (fun x _ => by
    simp only [f_X12_ruin_L42, y3, if_pos (nI_le (Nat.le_refl n) (by omega : n < 2 ^ 31))]) n fu 0 s (by omega) (by omega) hs).1
theorem e_X0_ruinedBy (hpr : ∀ i, i < n → pr i = nI (pu i)) (hpu : ∀ i, i < 6 → pu i ≤ 99) (ho : ∀ i, i < 36 → ow i = nI (o i)) (h9 : ∀ i, i < 36 → o i ≤ 99) (hn : n ≤ 6) (hp : p < n) (hf : 100 ≤ fu) : f_X0_ruinedBy fu (nI n) pr ow (nI p) = some (nI (it (sRui n pu o) n (2 ^ p))) := by
  have key : ∀ k g s c, c + k = n → k < g → s < 2 ^ n → lp (f_X0_ruinedBy_L6 fu (nI n) pr ow) g (nI s, nI c) = some (nI (it (sRui n pu o) k s)) := by
    intro k
    induction k with
    | zero =>
      intro g s c hc hg hs
      obtain ⟨g, rfl⟩ : ∃ f, g = f + 1 := ⟨g - 1, by omega⟩
      have : c = n := by omega
      subst this
      show bnd (f_X0_ruinedBy_L6 fu (nI c) pr ow (nI s, nI c)) _ = _
      simp only [f_X0_ruinedBy_L6, if_pos (nI_le (Nat.le_refl c) (by omega : c < 2 ^ 31)), bnd_some]
      rfl
    | succ k ih =>
      intro g s c hc hg hs
      obtain ⟨g, rfl⟩ : ∃ f, g = f + 1 := ⟨g - 1, by omega⟩
      have h64 := p64 hn hs
      have h65 := p64 hn (sRui_ok (pu := pu) (o := o) hs).1
      show bnd (f_X0_ruinedBy_L6 fu (nI n) pr ow (nI s, nI c)) _ = _
      simp only [f_X0_ruinedBy_L6, if_neg (nI_ge (show c < n by omega) (by omega : n < 2 ^ 31)), e_ruin_C hpr hpu ho h9 hn hs hf, bnd_some, nI_eq (show sRui n pu o s < 2 ^ 31 by omega) (show s < 2 ^ 31 by omega), nI_1]
      by_cases q : sRui n pu o s = s
      · rw [if_pos q, bnd_some, q, it_fix q]
      · rw [if_neg q, bnd_some]
        exact ih g (sRui n pu o s) (c + 1) (by omega) (by omega) (sRui_ok hs).1
  unfold f_X0_ruinedBy ltn
  rw [jshl_1 p (by omega)]
  exact bnd_r (key n fu (2 ^ p) 0 (by omega) (by omega) (pw_lt hp))
theorem e_X12_ruin {y : HT} (hy : Hd t n pu o y) (hpu : ∀ i, i < 6 → pu i ≤ 99) (h9 : ∀ i, i < 36 → o i ≤ 99) (hn : n ≤ 6) (hp : p < n) (hf : 100 ≤ fu) : lp (f_X12_ruin_L30 fu y) fu (nI (2 ^ p), (0 : Int32)) = some (nI (it (sRui n pu o) n (2 ^ p))) := by
  have key : ∀ k g s c, k + 2 ≤ g → s < 2 ^ n → c < 2 ^ n → s ≠ c → sRui n pu o (it (sRui n pu o) k s) = it (sRui n pu o) k s → lp (f_X12_ruin_L30 fu y) g (nI s, nI c) = some (nI (it (sRui n pu o) k s)) := by
    have one : ∀ g s c, s < 2 ^ n → c < 2 ^ n → s ≠ c → lp (f_X12_ruin_L30 fu y) (g + 1) (nI s, nI c) = lp (f_X12_ruin_L30 fu y) g (nI (sRui n pu o s), nI s) := by
      intro g s c hs hc hsc
      have h64 := p64 hn hs
      have h65 := p64 hn hc
      show bnd (f_X12_ruin_L30 fu y (nI s, nI c)) _ = _
      simp only [f_X12_ruin_L30, e_ruin_M hy hpu h9 hn hs hf, bnd_some]
      rw [if_neg (by rw [nI_eq (by omega) (by omega)]; exact hsc), bnd_some]
    have stop : ∀ g s, lp (f_X12_ruin_L30 fu y) (g + 1) (nI s, nI s) = some (nI s) := by
      intro g s
      show bnd (f_X12_ruin_L30 fu y (nI s, nI s)) _ = _
      simp only [f_X12_ruin_L30, if_true, bnd_some]
    intro k
    induction k with
    | zero =>
      intro g s c hg hs hc hsc hx
      obtain ⟨g, rfl⟩ : ∃ f, g = f + 1 + 1 := ⟨g - 2, by omega⟩
      have hx' : sRui n pu o s = s := hx
      rw [one (g + 1) s c hs hc hsc, hx', stop]
      rfl
    | succ k ih =>
      intro g s c hg hs hc hsc hx
      obtain ⟨g, rfl⟩ : ∃ f, g = f + 1 := ⟨g - 1, by omega⟩
      rw [one g s c hs hc hsc]
      by_cases q : sRui n pu o s = s
      · obtain ⟨g, rfl⟩ : ∃ f, g = f + 1 := ⟨g - 1, by omega⟩
        rw [q, stop, it_fix q]
      · exact ih g (sRui n pu o s) s (by omega) (sRui_ok hs).1 hs q hx
  refine key n fu (2 ^ p) 0 (by omega) (pw_lt hp) Nat.one_le_two_pow (fun e => absurd e (Nat.ne_of_gt Nat.one_le_two_pow)) ?_
  exact fix_it hn (fun s hs => sRui_ok hs) n (2 ^ p) (pw_lt hp) (by omega)
/-- loners -/
theorem cred0 : sCred n o p = 0 ↔ sOwes n o p = 0 := by
  unfold sOwes
  rw [sum_0 (f := fun j => o (6 * p + j))]
  constructor
  · intro h j hj
    by_cases q : o (6 * p + j) = 0
    · exact q
    · have := (mask_bt (P := fun j => o (6 * p + j) = 0) n).2 ⟨hj, q⟩
      have e : fldN (fun j x => if o (6 * p + j) = 0 then x else x ||| 2 ^ j) 0 n 0 = 0 := h
      rw [e] at this
      exact absurd this bt_0
  · intro h
    refine bt_ext (fun j => ⟨fun z => ?_, fun z => absurd z bt_0⟩)
    have := (mask_bt (P := fun j => o (6 * p + j) = 0) n).1 z
    exact absurd (h j this.1) this.2
theorem debt0 : sDebt n o p = 0 ↔ sOwed n o p = 0 := by
  unfold sOwed
  rw [sum_0 (f := fun j => o (6 * j + p))]
  constructor
  · intro h j hj
    by_cases q : o (6 * j + p) = 0
    · exact q
    · have := (mask_bt (P := fun j => o (6 * j + p) = 0) n).2 ⟨hj, q⟩
      have e : fldN (fun j x => if o (6 * j + p) = 0 then x else x ||| 2 ^ j) 0 n 0 = 0 := h
      rw [e] at this
      exact absurd this bt_0
  · intro h
    refine bt_ext (fun j => ⟨fun z => ?_, fun z => absurd z bt_0⟩)
    have := (mask_bt (P := fun j => o (6 * j + p) = 0) n).1 z
    exact absurd (h j this.1) this.2
theorem sDebt_lt (hn : n ≤ 6) : sDebt n o p < 2 ^ n ∧ on (sDebt n o p) = sCnt n o p := by
  have := mask_on (P := fun j => o (6 * j + p) = 0) n hn
  exact ⟨this.2, this.1⟩
theorem sCred_lt (hn : n ≤ 6) : sCred n o p < 2 ^ n := (mask_on (P := fun j => o (6 * p + j) = 0) n hn).2
def sLon (n : Nat) (o : Nat → Nat) : Nat := fldN (fun j x => if sOwes n o j = 0 ∧ sOwed n o j = 0 then x ||| 2 ^ j else x) 0 n 0
theorem e_X6_loners (ho : ∀ i, i < 36 → ow i = nI (o i)) (h9 : ∀ i, i < 36 → o i ≤ 99) (hn : n ≤ 6) (hf : 100 ≤ fu) : f_X6_loners fu (nI n) ow = some (nI (sLon n o)) := by
  have h := lp_up0 (step := f_X6_loners_L4 fu (nI n) ow) (fun j x => (nI x, nI j)) (fun j x => if sOwes n o j = 0 ∧ sOwed n o j = 0 then x ||| 2 ^ j else x) n (fun x => nI x) (fun j x hj => by
    have l1 := p64 hn (sCred_lt (o := o) (p := j) hn)
    have l2 := p64 hn (sDebt_lt (o := o) (p := j) hn).1
    simp only [f_X6_loners_L4, if_neg (nI_ge hj (by omega : n < 2 ^ 31)), e_X9_creditorsOf (fu := fu) ho h9 hn (by omega : j < 6) hf, e_X9_debtorsOf (fu := fu) ho h9 hn (by omega : j < 6) hf, bnd_some, ltn, nI_1, jshl_1 j (by omega), fa_or, nI_eq0 (show sCred n o j < 2 ^ 31 by omega), nI_eq0 (show sDebt n o j < 2 ^ 31 by omega), cred0, debt0]
    by_cases q : sOwes n o j = 0
    · by_cases q2 : sOwed n o j = 0
      · rw [if_pos q, if_pos q2, if_pos ⟨q, q2⟩]
      · rw [if_pos q, if_neg q2, if_neg (fun z => q2 z.2)]
    · rw [if_neg q, if_neg (fun z => q z.1)]) (fun x => by
    simp only [f_X6_loners_L4, if_pos (nI_le (Nat.le_refl n) (by omega : n < 2 ^ 31))]) (fu := fu) (a := 0) (by omega)
  unfold f_X6_loners
  exact bnd_r h
theorem e_X12_loners (ho : ∀ i, i < 36 → db i = nI (o i)) (h9 : ∀ i, i < 36 → o i ≤ 99) (hn : n ≤ 6) (hf : 100 ≤ fu) : f_X12_loners fu (nI n) db = some (nI (sLon n o)) := by
  have h := lp_up0 (step := f_X12_loners_L4 fu (nI n) db) (fun j x => (nI x, nI j)) (fun j x => if sOwes n o j = 0 ∧ sOwed n o j = 0 then x ||| 2 ^ j else x) n (fun x => nI x) (fun j x hj => by
    have l1 := sOwes_le (p := j) hn (by omega) h9
    have l2 := sOwed_le (p := j) hn (by omega) h9
    simp only [f_X12_loners_L4, if_neg (nI_ge hj (by omega : n < 2 ^ 31)), e_X12_owesAll (fu := fu) ho hn (by omega : j < 6) hf, e_X12_owedAll (fu := fu) ho hn (by omega : j < 6) hf, bnd_some, ltn, nI_1, jshl_1 j (by omega), fa_or, nI_eq0 (show sOwes n o j < 2 ^ 31 by omega), nI_eq0 (show sOwed n o j < 2 ^ 31 by omega), i0_or]
    by_cases q : sOwes n o j = 0
    · by_cases q2 : sOwed n o j = 0
      · rw [if_pos q, if_pos q2, if_pos ⟨q, q2⟩]
      · rw [if_pos q, if_neg q2, if_neg (fun z => q2 z.2)]
    · rw [if_neg q, if_neg (fun z => q z.1)]) (fun x => by
    simp only [f_X12_loners_L4, if_pos (nI_le (Nat.le_refl n) (by omega : n < 2 ^ 31))]) (fu := fu) (a := 0) (by omega)
  unfold f_X12_loners
  exact bnd_r h
/-- the richest, the favourite -/
theorem fst_n {lt : Nat → Nat → Prop} [∀ a b, Decidable (lt a b)] {j : Nat} : fst lt j none = some j := rfl
theorem fst_y {lt : Nat → Nat → Prop} [∀ a b, Decidable (lt a b)] {j k : Nat} (h : lt k j) : fst lt j (some k) = some j := if_pos h
theorem fst_no {lt : Nat → Nat → Prop} [∀ a b, Decidable (lt a b)] {j k : Nat} (h : ¬ lt k j) : fst lt j (some k) = some k := if_neg h
theorem enc_no {k : Nat} (h : k < 2 ^ 31) : ¬ enc (some k) = (-1 : Int32) := nI_nm1 h
theorem nle' {a b : Int32} (h : ¬ b < a) : a ≤ b := by rw [fa_le]; rw [fa_lt] at h; omega
def vW (n : Nat) (pu o : Nat → Nat) (k : Nat) : Int32 := nI (pu k) + sNet n o k
def sRich (n : Nat) (pu o : Nat → Nat) : Option Nat := fldN (fst (fun k j => vW n pu o k < vW n pu o j)) 0 n none
def sFav (n : Nat) (o : Nat → Nat) : Option Nat := fldN (fst (fun k j => sCnt n o k < sCnt n o j)) 0 n none
theorem e_X0_richest (hpr : ∀ i, i < n → pr i = nI (pu i)) (ho : ∀ i, i < 36 → ow i = nI (o i)) (hn : n ≤ 6) (hf : 100 ≤ fu) : f_X0_richest fu (nI n) pr ow = some (enc (sRich n pu o)) := by
  have h := lp_up (step := f_X0_richest_L6 fu (nI n) pr ow) (fun j b => (enc b, encV (vW n pu o) 0 b, nI j)) (fst (fun k j => vW n pu o k < vW n pu o j)) n (fun b => enc b) (fun j b => bel j b) (fun j b hj hb => by
    refine ⟨?_, bel_fst hb⟩
    have e1 : f_X9_wealthOf fu (nI n) pr ow (nI j) = some (vW n pu o j) := e_X9_wealthOf hpr ho hn hj hf
    simp only [f_X0_richest_L6, if_neg (nI_ge hj (by omega : n < 2 ^ 31)), e1, bnd_some, nI_1]
    cases b with
    | none => rw [if_pos (show enc none = -1 from rfl), fst_n]; rfl
    | some k =>
      have := hb k rfl
      rw [if_neg (enc_no (by omega))]
      by_cases q : vW n pu o k < vW n pu o j
      · rw [fst_y (lt := fun k j => vW n pu o k < vW n pu o j) q]; exact if_neg ((nle _ _).2 q)
      · rw [fst_no (lt := fun k j => vW n pu o k < vW n pu o j) q]; exact if_pos (nle' q)) (fun b _ => by
    simp only [f_X0_richest_L6, if_pos (nI_le (Nat.le_refl n) (by omega : n < 2 ^ 31))]) n fu 0 none (by omega) (by omega) (fun k hk => by cases hk)
  unfold f_X0_richest
  exact bnd_r h.1
theorem e_first_1 (hpr : ∀ i, i < 6 → pr i = nI (pu i)) (ho : ∀ i, i < 36 → db i = nI (o i)) (hn : n ≤ 6) (hf : 100 ≤ fu) : f_X12_first fu (nI n) pr db 1 = some (enc (sRich n pu o)) := by
  have h := lp_up (step := f_X12_first_L4 fu (nI n) pr db 1) (fun j b => (enc b, nI j)) (fst (fun k j => vW n pu o k < vW n pu o j)) n (fun b => enc b) (fun j b => bel j b) (fun j b hj hb => by
    refine ⟨?_, bel_fst hb⟩
    have e1 : f_X12_wealthOf fu (nI n) pr db (nI j) = some (vW n pu o j) := e_X12_wealthOf hpr ho hn (by omega) hf
    simp only [f_X12_first_L4, if_neg (nI_ge hj (by omega : n < 2 ^ 31)), e1, bnd_some, nI_1]
    cases b with
    | none => rw [if_pos (show enc none = -1 from rfl), fst_n, bnd_some, if_neg i10]; rfl
    | some k =>
      have := hb k rfl
      have e2 : f_X12_wealthOf fu (nI n) pr db (enc (some k)) = some (vW n pu o k) := e_X12_wealthOf hpr ho hn (by omega) hf
      rw [if_neg (enc_no (by omega)), if_neg i10, e2, bnd_some]
      by_cases q : vW n pu o k < vW n pu o j
      · rw [fst_y (lt := fun k j => vW n pu o k < vW n pu o j) q, if_neg ((nle _ _).2 q), bnd_some, if_neg i10]; rfl
      · rw [fst_no (lt := fun k j => vW n pu o k < vW n pu o j) q, if_pos (nle' q), bnd_some, if_pos i00]) (fun b _ => by
    simp only [f_X12_first_L4, if_pos (nI_le (Nat.le_refl n) (by omega : n < 2 ^ 31))]) n fu 0 none (by omega) (by omega) (fun k hk => by cases hk)
  unfold f_X12_first
  exact bnd_r h.1
theorem sCnt_le (hn : n ≤ 6) : sCnt n o p ≤ 6 := by
  rw [← (sDebt_lt hn).2]
  exact Nat.le_trans (on_le0 n hn _ (sDebt_lt hn).1) hn
theorem e_bcD (hn : n ≤ 6) : f_J6_bitCount_0f7a4 fu (nI (sDebt n o p)) = some (nI (sCnt n o p)) := by
  obtain ⟨h1, h2⟩ := sDebt_lt (o := o) (p := p) hn
  rw [← h2]
  exact e_bc (p64 hn h1)
theorem e_X0_favourite (ho : ∀ i, i < 36 → ow i = nI (o i)) (h9 : ∀ i, i < 36 → o i ≤ 99) (hn : n ≤ 6) (hf : 100 ≤ fu) : f_X0_favourite fu (nI n) ow = some (enc (sFav n o)) := by
  have h := lp_up (step := f_X0_favourite_L6 fu (nI n) ow) (fun j b => (enc b, encV (fun k => nI (sCnt n o k)) (-1) b, nI j)) (fst (fun k j => sCnt n o k < sCnt n o j)) n (fun b => enc b) (fun j b => bel j b) (fun j b hj hb => by
    refine ⟨?_, bel_fst hb⟩
    have l1 := sCnt_le (o := o) (p := j) hn
    have e0 := e_X9_debtorsOf (fu := fu) ho h9 hn (by omega : j < 6) hf
    have e1 := e_bcD (fu := fu) (o := o) (p := j) hn
    show f_X0_favourite_L6 fu (nI n) ow (_, _, nI j) = _
    unfold f_X0_favourite_L6
    simp only
    rw [if_neg (nI_ge hj (by omega : n < 2 ^ 31)), e0, bnd_some, e1, bnd_some, nI_1]
    cases b with
    | none =>
      have hc : ¬ nI (sCnt n o j) ≤ encV (fun k => nI (sCnt n o k)) (-1) none := nI_nlm1 (show sCnt n o j < 2 ^ 31 by omega)
      rw [if_neg hc, fst_n]; rfl
    | some k =>
      have := hb k rfl
      have l2 := sCnt_le (o := o) (p := k) hn
      by_cases q : sCnt n o k < sCnt n o j
      · have hc : ¬ nI (sCnt n o j) ≤ encV (fun k => nI (sCnt n o k)) (-1) (some k) := nI_ge q (by omega)
        rw [fst_y (lt := fun k j => sCnt n o k < sCnt n o j) q, if_neg hc]; rfl
      · have hc : nI (sCnt n o j) ≤ encV (fun k => nI (sCnt n o k)) (-1) (some k) := nI_le (by omega) (by omega)
        rw [fst_no (lt := fun k j => sCnt n o k < sCnt n o j) q, if_pos hc]) (fun b _ => by
    simp only [f_X0_favourite_L6, if_pos (nI_le (Nat.le_refl n) (by omega : n < 2 ^ 31))]) n fu 0 none (by omega) (by omega) (fun k hk => by cases hk)
  unfold f_X0_favourite
  rw [show ((-1 : Int32), (-1 : Int32), (0 : Int32)) = (enc none, encV (fun k => nI (sCnt n o k)) (-1) none, nI 0) from rfl, bnd_r h.1]
  rfl
theorem e_first_0 (ho : ∀ i, i < 36 → db i = nI (o i)) (h9 : ∀ i, i < 36 → o i ≤ 99) (hn : n ≤ 6) (hf : 100 ≤ fu) : f_X12_first fu (nI n) pr db 0 = some (enc (sFav n o)) := by
  have h := lp_up (step := f_X12_first_L4 fu (nI n) pr db 0) (fun j b => (enc b, nI j)) (fst (fun k j => sCnt n o k < sCnt n o j)) n (fun b => enc b) (fun j b => bel j b) (fun j b hj hb => by
    refine ⟨?_, bel_fst hb⟩
    have l1 := sCnt_le (o := o) (p := j) hn
    simp only [f_X12_first_L4, if_neg (nI_ge hj (by omega : n < 2 ^ 31)), e_X12_debtors (fu := fu) ho h9 hn (by omega : j < 6) hf, bnd_some, nI_1]
    cases b with
    | none => rw [if_pos (show enc none = -1 from rfl), fst_n, bnd_some, if_neg i10]; rfl
    | some k =>
      have := hb k rfl
      have l2 := sCnt_le (o := o) (p := k) hn
      have e2 : f_X12_debtors fu (nI n) db (enc (some k)) = some (nI (sCnt n o k)) := e_X12_debtors ho h9 hn (by omega) hf
      rw [if_neg (enc_no (by omega)), if_true, e2, bnd_some]
      by_cases q : sCnt n o k < sCnt n o j
      · rw [fst_y (lt := fun k j => sCnt n o k < sCnt n o j) q, if_neg (nI_ge q (by omega)), bnd_some, if_neg i10]; rfl
      · rw [fst_no (lt := fun k j => sCnt n o k < sCnt n o j) q, if_pos (nI_le (by omega) (by omega)), bnd_some, if_pos i00]) (fun b _ => by
    simp only [f_X12_first_L4, if_pos (nI_le (Nat.le_refl n) (by omega : n < 2 ^ 31))]) n fu 0 none (by omega) (by omega) (fun k hk => by cases hk)
  unfold f_X12_first
  exact bnd_r h.1
end P9
