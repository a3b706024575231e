/-! ===== courts, parties, firsts, loners ===== -/
theorem and_not : ∀ s, s < 64 → ∀ g, g < 64 → ((nI s &&& (nI g ^^^ (-1))) = nI (s &&& (63 - g))) := by decide +kernel
theorem i10 : ¬ (1 : Int32) = 0 := by decide
theorem i00 : (0 : Int32) = 0 := rfl
theorem all_p0 : ∀ s, s < 64 → ∀ g, g < 64 → ∀ p, p < 6 → decide (s &&& (63 - g) = 2 ^ p) = ((List.range 6).all (fun q => bi s q == 0 || ((bi g q == 0) == (q == p))) && bi s p == 1) := by decide +kernel
theorem all_p (s : Nat) (hs : s < 64) (g : Nat) (hg : g < 64) (p : Nat) (hp : p < 6) : (s &&& (63 - g) = 2 ^ p ↔ (∀ q, q < 6 → bi s q = 1 → (bi g q = 0 ↔ q = p)) ∧ bi s p = 1) := by
  have h := all_p0 s hs g hg p hp
  rw [show (s &&& (63 - g) = 2 ^ p) = (decide (s &&& (63 - g) = 2 ^ p) = true) by simp, h]
  simp only [Bool.and_eq_true, List.all_eq_true, List.mem_range, Bool.or_eq_true, beq_iff_eq]
  constructor
  · rintro ⟨h1, h2⟩
    refine ⟨fun q hq h3 => ?_, h2⟩
    rcases h1 q hq with e | e
    · omega
    · have e2 : (bi g q = 0) = (q = p) := by
        have := congrArg (fun z => z = true) e
        simpa only [beq_iff_eq] using this
      rw [e2]
  · rintro ⟨h1, h2⟩
    refine ⟨fun q hq => ?_, h2⟩
    rcases (show bi s q = 0 ∨ bi s q = 1 by have := bi_lt s q; omega) with e | e
    · exact Or.inl e
    · refine Or.inr ?_
      have := h1 q hq e
      by_cases z : q = p
      · rw [this.2 z, z]; simp
      · have z2 : ¬ bi g q = 0 := fun y => z (this.1 y)
        rw [Bool.eq_iff_iff]
        simp only [beq_iff_eq]
        exact ⟨fun y => absurd y z2, fun y => absurd y z⟩
section P8
variable {fu n t p a b : Nat} {w pu h o : Nat → Nat} {wi pr ha ow db M : Nat → Int32}
def sAll (n : Nat) (h : Nat → Nat) (set : Nat) : Bool := (List.range n).all (fun a => (List.range a).all (fun b => bi set a == 0 || (bi set b == 0 || bi (h a) b == 1)))
theorem sAll_t {set : Nat} : sAll n h set = true ↔ ∀ a, a < n → ∀ b, b < a → bt set a → bt set b → bt (h a) b := by
  unfold sAll
  simp only [List.all_eq_true, List.mem_range, Bool.or_eq_true, beq_iff_eq]
  constructor
  · intro H a hab b hb h1 h2
    rcases H a hab b hb with e | e | e
    · exact absurd h1 (bi0.1 e)
    · exact absurd h2 (bi0.1 e)
    · exact e
  · intro H a hab b hb
    rcases bi_01 set a with e | e
    · exact Or.inl e
    · rcases bi_01 set b with e2 | e2
      · exact Or.inr (Or.inl e2)
      · exact Or.inr (Or.inr (H a hab b hb e e2))
theorem e_X9_allHate (hha : ∀ i, i < 6 → ha i = nI (h i)) (V : TwV n w pu h o) {set : Nat} (hs : set < 2 ^ n) (hf : 100 ≤ fu) : f_X9_allHate fu (nI n) ha (nI set) = some (if sAll n h set = true then 1 else 0) := by
  have hn := V.1
  have hs6 := p64 hn hs
  have hz := lp_all (fu := fu) (step := f_X9_allHate_L2 (nI n) ha (nI set)) n (fun j => bi set j == 0 || decide (set &&& (63 - h j) = 2 ^ j)) (fun j hj => by
    have hb := bi_lt set j
    have h6 := V.h64 (i := j) (by omega)
    have hl : set &&& (63 - h j) < 2 ^ 31 := Nat.lt_of_le_of_lt Nat.and_le_left (by omega)
    have hp : 2 ^ j < 2 ^ 31 := Nat.pow_lt_pow_right (by decide) (by omega)
    simp only [f_X9_allHate_L2, if_neg (nI_ge hj (by omega : n < 2 ^ 31)), jbi hs6 (by omega : j < 6), rdi_n (by omega : j < 6) (by decide) (hha j (by omega)), bnd_some, and_not set hs6 (h j) h6, jshl_1 j (by omega), nI_eq hl hp, nI_1, nI_eq0 (show bi set j < 2 ^ 31 by omega), Bool.or_eq_true, beq_iff_eq, decide_eq_true_eq]
    by_cases q : bi set j = 0
    · rw [if_pos q, if_pos (Or.inl q)]
    · by_cases q2 : set &&& (63 - h j) = 2 ^ j
      · rw [if_neg q, if_pos q2, if_pos (Or.inr q2)]
      · rw [if_neg q, if_neg q2, if_neg (fun z => z.elim q q2)]) (by
    simp only [f_X9_allHate_L2, if_pos (nI_le (Nat.le_refl n) (by omega : n < 2 ^ 31))]) (by omega)
  unfold f_X9_allHate
  rw [bnd_r hz]
  have key : ((List.range n).all fun j => bi set j == 0 || decide (set &&& (63 - h j) = 2 ^ j)) = true ↔ sAll n h set = true := by
    rw [sAll_t]
    simp only [List.all_eq_true, List.mem_range, Bool.or_eq_true, beq_iff_eq, decide_eq_true_eq]
    constructor
    · intro H a hab b hb h1 h2
      rcases H a hab with e | e
      · exact absurd h1 (bi0.1 e)
      · have := ((all_p set hs6 (h a) (V.h64 (by omega)) a (by omega)).1 e).1 b (by omega) h2
        rcases bi_01 (h a) b with e2 | e2
        · have := this.1 e2; omega
        · exact e2
    · intro H p hp
      rcases bi_01 set p with e | e
      · exact Or.inl e
      · refine Or.inr ((all_p set hs6 (h p) (V.h64 (by omega)) p (by omega)).2 ⟨fun q hq hsq => ?_, e⟩)
        have hqn : q < n := bt_lt hs hsq
        constructor
        · intro z
          by_cases e1 : q = p
          · exact e1
          · rcases (show q < p ∨ p < q by omega) with l | l
            · exact absurd (H p hp q l e hsq) (bi0.1 z)
            · have := H q hqn p l hsq e
              unfold bt at this
              rw [V.2.2.2.2.2.1 q p (by omega) (by omega), z] at this
              cases this
        · intro e1
          rw [e1]
          exact V.2.2.2.2.2.2.1 p (by omega)
  by_cases q : sAll n h set = true
  · rw [if_pos (key.2 q), if_pos q]; rfl
  · rw [if_neg (fun z => q (key.1 z)), if_neg q]; rfl
theorem e_X12_allHate (hM : ∀ i, i < 6 → M (55 * t + 13 + i) = nI (h i)) (h64 : ∀ i, i < 6 → h i < 64) (ht : t < 8) {set : Nat} (hn : n ≤ 6) (hs : set < 64) (hf : 100 ≤ fu) : f_X12_allHate fu M (nI t) (nI n) (nI set) = some (if sAll n h set = true then 1 else 0) := by
  have hz := lp_all (fu := fu) (step := f_X12_allHate_L2 fu M (nI t) (nI n) (nI set)) n (fun a => (List.range a).all (fun b => bi set a == 0 || (bi set b == 0 || bi (h a) b == 1))) (fun a hab => by
    have hz2 := lp_all (fu := fu) (step := f_X12_allHate_L12 fu M (nI t) (nI set) (nI a)) a (fun b => bi set a == 0 || (bi set b == 0 || bi (h a) b == 1)) (fun b hb => by
      have h1 := bi_lt set a
      have h2 := bi_lt set b
      have h3 := bi_lt (h a) b
      simp only [f_X12_allHate_L12, if_neg (nI_ge hb (by omega : a < 2 ^ 31)), e_X12_has (fu := fu) hs (by omega : a < 6), e_X12_has (fu := fu) hs (by omega : b < 6), e_X12_hates (fu := fu) hM h64 ht (by omega : a < 6) (by omega : b < 6), bnd_some, nI_1, nI_eq0 (show bi set a < 2 ^ 31 by omega), nI_eq0 (show bi set b < 2 ^ 31 by omega), nI_eq0 (show bi (h a) b < 2 ^ 31 by omega), Bool.or_eq_true, beq_iff_eq]
      by_cases q : bi set a = 0
      · rw [if_pos q, if_pos (Or.inl q)]
      · by_cases q2 : bi set b = 0
        · rw [if_neg q, if_pos q2, if_pos (Or.inr (Or.inl q2))]
        · by_cases q3 : bi (h a) b = 0
          · rw [if_neg q, if_neg q2, if_pos q3, if_neg (fun z => by omega)]
          · rw [if_neg q, if_neg q2, if_neg q3, if_pos (Or.inr (Or.inr (by omega)))]) (by
      simp only [f_X12_allHate_L12, if_pos (nI_le (Nat.le_refl a) (by omega : a < 2 ^ 31))]) (by omega)
    simp only [f_X12_allHate_L2, if_neg (nI_ge hab (by omega : n < 2 ^ 31)), hz2, bnd_some, nI_1]
    by_cases q : ((List.range a).all fun b => bi set a == 0 || (bi set b == 0 || bi (h a) b == 1)) = true
    · rw [if_pos q, if_pos q]; rfl
    · rw [if_neg q, if_neg q]; rfl) (by
    simp only [f_X12_allHate_L2, if_pos (nI_le (Nat.le_refl n) (by omega : n < 2 ^ 31))]) (by omega)
  unfold f_X12_allHate
  rw [bnd_r hz]
  unfold sAll
  by_cases q : ((List.range n).all fun a => (List.range a).all (fun b => bi set a == 0 || (bi set b == 0 || bi (h a) b == 1))) = true
  · rw [if_pos q, if_pos q]; rfl
  · rw [if_neg q, if_neg q]; rfl
def sTo (n : Nat) (o : Nat → Nat) (p set : Nat) : Nat := fldN (fun j x => x + if bi set j = 0 then 0 else o (6 * p + j)) 0 n 0
theorem sTo_le {set : Nat} (hn : n ≤ 6) (hp : p < 6) (h9 : ∀ i, i < 36 → o i ≤ 99) : sTo n o p set ≤ 594 := by
  have := fld_le (f := fun j => if bi set j = 0 then 0 else o (6 * p + j)) (B := 99) n 0 0 (fun i hi => by
    have := h9 (6 * p + i) (by omega)
    show (if bi set i = 0 then 0 else o (6 * p + i)) ≤ 99
    split <;> omega)
  unfold sTo
  omega
theorem sTo_0 : sTo n o p 0 = 0 := (sum_0 n).2 (fun j _ => by rw [if_pos]; unfold bi; simp)
theorem e_X0_owesTo {set : Nat} (ho : ∀ i, i < 36 → ow i = nI (o i)) (hn : n ≤ 6) (hp : p < 6) (hs : set < 64) (hf : 100 ≤ fu) : f_X0_owesTo fu (nI n) ow (nI p) (nI set) = some (nI (sTo n o p set)) := by
  have h := lp_up0 (step := f_X0_owesTo_L5 fu (nI n) ow (nI p) (nI set)) (fun j x => (nI x, nI j)) (fun j x => x + if bi set j = 0 then 0 else o (6 * p + j)) n (fun x => nI x) (fun j x hj => by
    have := bi_lt set j
    simp only [f_X0_owesTo_L5, if_neg (nI_ge hj (by omega : n < 2 ^ 31)), jbi hs (by omega : j < 6), e_X9_owes (fu := fu) ho hp (by omega : j < 6), bnd_some, ltn, nI_add, nI_1, nI_eq0 (show bi set j < 2 ^ 31 by omega)]
    split <;> rfl) (fun x => by
    simp only [f_X0_owesTo_L5, if_pos (nI_le (Nat.le_refl n) (by omega : n < 2 ^ 31))]) (fu := fu) (a := 0) (by omega)
  unfold f_X0_owesTo
  exact bnd_r h
theorem e_X12_owesThem {set : Nat} (ho : ∀ i, i < 36 → db i = nI (o i)) (hn : n ≤ 6) (hp : p < 6) (hs : set < 64) (hf : 100 ≤ fu) : f_X12_owesThem fu (nI n) db (nI p) (nI set) = some (nI (sTo n o p set)) := by
  have h := lp_up0 (step := f_X12_owesThem_L5 fu (nI n) db (nI p) (nI set)) (fun j x => (nI x, nI j)) (fun j x => x + if bi set j = 0 then 0 else o (6 * p + j)) n (fun x => nI x) (fun j x hj => by
    have := bi_lt set j
    simp only [f_X12_owesThem_L5, if_neg (nI_ge hj (by omega : n < 2 ^ 31)), e_X12_has (fu := fu) hs (by omega : j < 6), e_X12_owed (fu := fu) ho hp (by omega : j < 6), bnd_some, ltn, nI_add, nI_1, nI_eq0 (show bi set j < 2 ^ 31 by omega), i0_add]
    split <;> rfl) (fun x => by
    simp only [f_X12_owesThem_L5, if_pos (nI_le (Nat.le_refl n) (by omega : n < 2 ^ 31))]) (fu := fu) (a := 0) (by omega)
  unfold f_X12_owesThem
  exact bnd_r h
def gCrt (n : Nat) (h o : Nat → Nat) (p : Nat) (s b : Nat) : Nat := if sTo n o p b < sTo n o p s ∧ sAll n h s = true then s else b
def sCrt (n : Nat) (h o : Nat → Nat) (p : Nat) : Nat := fldN (gCrt n h o p) 1 (2 ^ n - 1) 0
theorem gCrt_y {s c : Nat} (h1 : sTo n o p c < sTo n o p s) (h2 : sAll n h s = true) : gCrt n h o p s c = s := if_pos ⟨h1, h2⟩
theorem gCrt_n {s c : Nat} (h1 : ¬ (sTo n o p c < sTo n o p s ∧ sAll n h s = true)) : gCrt n h o p s c = c := if_neg h1
theorem gCrt_lt {s c : Nat} (hs : s < 2 ^ n) (hc : c < 2 ^ n) : gCrt n h o p s c < 2 ^ n := by
  unfold gCrt
  split <;> assumption
theorem e_court_C {u : Int32} (hha : ∀ i, i < 6 → ha i = nI (h i)) (V : TwV n w pu h o) (ho : ∀ i, i < 36 → ow i = nI (o i)) (hp : p < 6) (hf : 100 ≤ fu) : f_X0_hardestCourt fu (nI n) ha ow (nI p) u = some (if u = 0 then nI (sTo n o p (sCrt n h o p)) else nI (sCrt n h o p)) := by
  have hn := V.1
  have h9 : ∀ i, i < 36 → o i ≤ 99 := fun i hi => Nat.le_trans (V.2.2.2.2.1 i hi) (by decide)
  have h1n : 1 ≤ 2 ^ n := Nat.one_le_two_pow
  have h64 : 2 ^ n ≤ 64 := Nat.pow_le_pow_right (n := 2) (by decide) hn
  have hh := lp_up (step := f_X0_hardestCourt_L8 fu (nI n) ha ow (nI p)) (fun s c => (nI (sTo n o p c), nI c, nI s)) (gCrt n h o p) (2 ^ n) (fun c => (nI (sTo n o p c), nI c)) (fun s c => c < 2 ^ n) (fun s c hs hc => by
    refine ⟨?_, gCrt_lt hs hc⟩
    have l1 := sTo_le (set := s) hn hp h9
    have l2 := sTo_le (set := c) hn hp h9
    simp only [f_X0_hardestCourt_L8, jshl_1 n (by omega), if_neg (nI_ge hs (by omega : 2 ^ n < 2 ^ 31)), e_X9_allHate (fu := fu) hha V hs hf, e_X0_owesTo (fu := fu) ho hn hp (p64 hn hs) hf, bnd_some, nI_1]
    by_cases q : sAll n h s = true
    · rw [if_pos q, if_neg i10, bnd_some]
      simp only [nI_leI (show sTo n o p s < 2 ^ 31 by omega) (show sTo n o p c < 2 ^ 31 by omega)]
      by_cases q2 : sTo n o p c < sTo n o p s
      · rw [if_neg (by omega), gCrt_y q2 q]
      · rw [if_pos (by omega), gCrt_n (fun z => q2 z.1)]
    · rw [if_neg q, if_pos i00, bnd_some, if_pos (nI_pos' (by omega)), gCrt_n (fun z => q z.2)]) (fun c _ => by
    simp only [f_X0_hardestCourt_L8, jshl_1 n (by omega), if_pos (nI_le (Nat.le_refl (2 ^ n)) (by omega : 2 ^ n < 2 ^ 31))]) (2 ^ n - 1) fu 1 0 (by omega) (by omega) (by omega)
  unfold f_X0_hardestCourt
  have h0 := hh.1
  rw [sTo_0] at h0
  rw [show ((0 : Int32), (0 : Int32), (1 : Int32)) = (nI 0, nI 0, nI 1) from rfl, bnd_r h0]
  by_cases q : u = 0
  · rw [if_pos q, if_pos q]; rfl
  · rw [if_neg q, if_neg q]; rfl
theorem e_court_M {y : HT} (hy : Hd t n pu o y) (hM : ∀ i, i < 6 → M (55 * t + 13 + i) = nI (h i)) (ht : t < 8) (V : TwV n w pu h o) (hp : p < 6) (hf : 100 ≤ fu) : lp (f_X12_court_L29 fu M (nI p) y) fu ((0 : Int32), (1 : Int32)) = some (nI (sCrt n h o p)) ∧ sCrt n h o p < 2 ^ n := by
  obtain ⟨y1, y2, y3, -, y5, -, y7, -, -⟩ := hy
  have hn := V.1
  have h9 : ∀ i, i < 36 → o i ≤ 99 := fun i hi => Nat.le_trans (V.2.2.2.2.1 i hi) (by decide)
  have h1n : 1 ≤ 2 ^ n := Nat.one_le_two_pow
  have h64 : 2 ^ n ≤ 64 := Nat.pow_le_pow_right (n := 2) (by decide) hn
  exact lp_up (step := f_X12_court_L29 fu M (nI p) y) (fun s c => (nI c, nI s)) (gCrt n h o p) (2 ^ n) (fun c => nI c) (fun s c => c < 2 ^ n) (fun s c hs hc => by
    refine ⟨?_, gCrt_lt hs hc⟩
    have l1 := sTo_le (set := s) hn hp h9
    have l2 := sTo_le (set := c) hn hp h9
    simp only [f_X12_court_L29, y2, y3, jshl_1 n (by omega), if_neg (nI_ge hs (by omega : 2 ^ n < 2 ^ 31)), e_X12_allHate (fu := fu) hM (fun i hi => V.h64 hi) ht hn (p64 hn hs) hf, e_X12_owesThem (fu := fu) y7 hn hp (p64 hn hs) hf, e_X12_owesThem (fu := fu) y7 hn hp (p64 hn hc) hf, bnd_some, nI_1]
    simp only [nI_leI (show sTo n o p s < 2 ^ 31 by omega) (show sTo n o p c < 2 ^ 31 by omega)]
    by_cases q2 : sTo n o p c < sTo n o p s
    · rw [if_neg (by omega)]
      by_cases q : sAll n h s = true
      · rw [if_pos q, if_neg i10, gCrt_y q2 q]
      · rw [if_neg q, if_pos i00, gCrt_n (fun z => q z.2)]
    · rw [if_pos (by omega), gCrt_n (fun z => q2 z.1)]) (fun c _ => by
    simp only [f_X12_court_L29, y3, jshl_1 n (by omega), if_pos (nI_le (Nat.le_refl (2 ^ n)) (by omega : 2 ^ n < 2 ^ 31))]) (2 ^ n - 1) fu 1 0 (by omega) (by omega) (by omega)
/-- parties -/
theorem sWit_le {set : Nat} (hn : n ≤ 6) (hw : ∀ i, i < 6 → w i ≤ 9) : sWit n w set ≤ 54 := by
  have := fld_le (f := fun j => if bi set j = 0 then 0 else w j) (B := 9) n 0 0 (fun i hi => by
    have := hw i (by omega)
    show (if bi set i = 0 then 0 else w i) ≤ 9
    split <;> omega)
  have e : sWit n w set = fldN (fun j x => x + if bi set j = 0 then 0 else w j) 0 n 0 := fldN_congr n 0 0 (fun i x _ _ => by
    by_cases q : bi set i = 0
    · rw [if_pos q, if_pos q]; rfl
    · rw [if_neg q, if_neg q])
  omega
def gPty (n : Nat) (w h : Nat → Nat) (k : Int32) (s : Nat) (c : Option Nat) : Option Nat := if nI (on s) = k ∧ sNone n h s = true then fst (fun a b => sWit n w a < sWit n w b) s c else c
def sPty (n : Nat) (w h : Nat → Nat) (k : Int32) : Option Nat := fldN (gPty n w h k) 0 (2 ^ n) none
theorem gPty_y {k : Int32} {s : Nat} {c : Option Nat} (h1 : nI (on s) = k) (h2 : sNone n h s = true) : gPty n w h k s c = fst (fun a b => sWit n w a < sWit n w b) s c := if_pos ⟨h1, h2⟩
theorem gPty_n {k : Int32} {s : Nat} {c : Option Nat} (h1 : ¬ (nI (on s) = k ∧ sNone n h s = true)) : gPty n w h k s c = c := if_neg h1
theorem gPty_b {k : Int32} {s : Nat} {c : Option Nat} (hc : bel s c) : bel (s + 1) (gPty n w h k s c) := by
  unfold gPty
  split
  · exact bel_fst hc
  · exact fun i hi => by have := hc i hi; omega
theorem e_party_C {k u : Int32} (hwi : ∀ i, i < n → wi i = nI (w i)) (hha : ∀ i, i < 6 → ha i = nI (h i)) (V : TwV n w pu h o) (hf : 100 ≤ fu) : f_X6_wittiestParty fu (nI n) wi ha k u = some (if u = 0 then encV (fun c => nI (sWit n w c)) (-1) (sPty n w h k) else enc (sPty n w h k)) := by
  have hn := V.1
  have h64 : 2 ^ n ≤ 64 := Nat.pow_le_pow_right (n := 2) (by decide) hn
  have hh := lp_up (step := f_X6_wittiestParty_L8 fu (nI n) wi ha k) (fun s c => (encV (fun c => nI (sWit n w c)) (-1) c, enc c, nI s)) (gPty n w h k) (2 ^ n) (fun c => (encV (fun c => nI (sWit n w c)) (-1) c, enc c)) (fun s c => bel s c) (fun s c hs hc => by
    refine ⟨?_, gPty_b hc⟩
    have l1 := sWit_le (set := s) hn V.2.1
    simp only [f_X6_wittiestParty_L8, jshl_1 n (by omega), if_neg (nI_ge hs (by omega : 2 ^ n < 2 ^ 31)), e_bc (fu := fu) (p64 hn hs), e_X9_noneHate (fu := fu) hha (fun i hi => V.h64 hi) hn (p64 hn hs) hf, e_X9_witOf (fu := fu) hwi hn (p64 hn hs) hf, bnd_some, nI_1]
    by_cases q1 : nI (on s) = k
    · rw [if_pos q1]
      by_cases q : sNone n h s = true
      · rw [if_pos q, if_neg i10, gPty_y q1 q]
        cases c with
        | none => exact if_neg (nI_nlm1 (show sWit n w s < 2 ^ 31 by omega))
        | some c =>
          have l2 := sWit_le (set := c) hn V.2.1
          simp only [encV, fst, enc, nI_leI (show sWit n w s < 2 ^ 31 by omega) (show sWit n w c < 2 ^ 31 by omega)]
          by_cases q2 : sWit n w c < sWit n w s
          · rw [if_neg (by omega), if_pos q2]
          · rw [if_pos (by omega), if_neg q2]
      · rw [if_neg q, if_pos i00, gPty_n (fun z => q z.2)]
    · rw [if_neg q1, gPty_n (fun z => q1 z.1)]) (fun c _ => by
    simp only [f_X6_wittiestParty_L8, jshl_1 n (by omega), if_pos (nI_le (Nat.le_refl (2 ^ n)) (by omega : 2 ^ n < 2 ^ 31))]) (2 ^ n) fu 0 none (by omega) (by omega) (fun i hi => by cases hi)
  unfold f_X6_wittiestParty
  rw [show ((-1 : Int32), (-1 : Int32), (0 : Int32)) = (encV (fun c => nI (sWit n w c)) (-1) none, enc none, nI 0) from rfl, bnd_r hh.1]
  by_cases q : u = 0
  · rw [if_pos q, if_pos q]; rfl
  · rw [if_neg q, if_neg q]; rfl
theorem e_party_M {k : Int32} {y : HT} (hy : Hd t n pu o y) (hW : ∀ i, i < 6 → M (55 * t + 1 + i) = nI (w i)) (hM : ∀ i, i < 6 → M (55 * t + 13 + i) = nI (h i)) (ht : t < 8) (V : TwV n w pu h o) (hf : 100 ≤ fu) : lp (f_X12_party_L31 fu M k y) fu ((-1 : Int32), (0 : Int32)) = some (enc (sPty n w h k)) ∧ bel (2 ^ n) (sPty n w h k) := by
  obtain ⟨y1, y2, y3, -, y5, -, y7, -, -⟩ := hy
  have hn := V.1
  have h64 : 2 ^ n ≤ 64 := Nat.pow_le_pow_right (n := 2) (by decide) hn
  exact lp_up (step := f_X12_party_L31 fu M k y) (fun s c => (enc c, nI s)) (gPty n w h k) (2 ^ n) (fun c => enc c) (fun s c => bel s c) (fun s c hs hc => by
    refine ⟨?_, gPty_b hc⟩
    have l1 := sWit_le (set := s) hn V.2.1
    simp only [f_X12_party_L31, y2, y3, jshl_1 n (by omega), if_neg (nI_ge hs (by omega : 2 ^ n < 2 ^ 31)), e_ones (fu := fu) (p64 hn hs) hf, e_X12_hateNone (fu := fu) hM (fun i hi => V.h64 hi) ht hn (p64 hn hs) hf, e_X12_witsOf (fu := fu) hW ht hn (p64 hn hs) hf, bnd_some, nI_1]
    by_cases q1 : nI (on s) = k
    · rw [if_pos q1]
      by_cases q : sNone n h s = true
      · rw [if_pos q, if_neg i10, bnd_some, if_neg i10, gPty_y q1 q]
        cases c with
        | none => simp only [enc, fst, if_true]
        | some c =>
          have hcl := hc c rfl
          have l2 := sWit_le (set := c) hn V.2.1
          simp only [fst, enc, if_neg (nI_nm1 (show c < 2 ^ 31 by omega)), e_X12_witsOf (fu := fu) hW ht hn (show c < 64 by omega) hf, bnd_some, nI_leI (show sWit n w s < 2 ^ 31 by omega) (show sWit n w c < 2 ^ 31 by omega)]
          by_cases q2 : sWit n w c < sWit n w s
          · rw [if_neg (by omega), if_pos q2]
          · rw [if_pos (by omega), if_neg q2]
      · rw [if_neg q, if_pos i00, bnd_some, if_pos i00, gPty_n (fun z => q z.2)]
    · rw [if_neg q1, bnd_some, if_pos i00, gPty_n (fun z => q1 z.1)]) (fun c _ => by
    simp only [f_X12_party_L31, y3, jshl_1 n (by omega), if_pos (nI_le (Nat.le_refl (2 ^ n)) (by omega : 2 ^ n < 2 ^ 31))]) (2 ^ n) fu 0 none (by omega) (by omega) (fun i hi => by cases hi)
theorem sPty_no {k : Int32} (hn : n ≤ 6) (hk : ∀ j, j ≤ 6 → nI j ≠ k) : sPty n w h k = none := by
  have : sPty n w h k = fldN (fun _ c => c) 0 (2 ^ n) (none : Option Nat) := fldN_congr (2 ^ n) 0 none (fun s c _ hs => by
    unfold gPty
    rw [if_neg (fun z => hk (on s) (Nat.le_trans (on_le0 n hn s (by omega)) hn) z.1)])
  rw [this]
  generalize 2 ^ n = m
  have : ∀ m j, fldN (fun _ (c : Option Nat) => c) j m none = none := by
    intro m
    induction m with
    | zero => intro j; rfl
    | succ m ih => intro j; exact ih (j + 1)
  exact this m 0
end P8
