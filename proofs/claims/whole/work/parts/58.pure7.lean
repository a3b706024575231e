/-! ===== pairs, courts, parties, firsts ===== -/
section P7
variable {fu n t p a b : Nat} {w pu h o : Nat → Nat} {wi pr ha ow db M : Nat → Int32}
theorem e_X9_hates (hha : ∀ i, i < 6 → ha i = nI (h i)) (h64 : ∀ i, i < 6 → h i < 64) (ha6 : a < 6) (hb : b < 6) : f_X9_hates fu ha (nI a) (nI b) = some (nI (bi (h a) b)) := by
  have := bi_lt (h a) b
  simp only [f_X9_hates, rdi_n ha6 (by decide) (hha a ha6), bnd_some, jbi (h64 a ha6) hb, nI_eq0 (show bi (h a) b < 2 ^ 31 by omega)]
  rcases (show bi (h a) b = 0 ∨ bi (h a) b = 1 by omega) with e | e <;> rw [e] <;> rfl
def fMut (o : Nat → Nat) (a b : Nat) : Nat := min (o (6 * a + b)) (o (6 * b + a))
theorem fMut_s (a b : Nat) : fMut o a b = fMut o b a := Nat.min_comm _ _
theorem e_X0_mutual (ho : ∀ i, i < 36 → ow i = nI (o i)) (h9 : ∀ i, i < 36 → o i ≤ 99) (hn : n ≤ 6) (hf : 100 ≤ fu) : f_X0_mutual fu (nI n) ow = some (nI (sPair n (fMut o))) := by
  unfold f_X0_mutual
  refine bnd_r (lp_pairC (s2 := fun _ => none) (inn := f_X0_mutual_L16 fu (nI n) ow) (fMut o) fMut_s hn hf (fun a x hab => ?_) (fun x => ?_) (fun a z b x hab h1 h2 => ?_) (fun a z x hab => ?_))
  · simp only [f_X0_mutual_L4, if_neg (nI_ge hab (by omega : n < 2 ^ 31)), ltn, nI_1]
  · simp only [f_X0_mutual_L4, if_pos (nI_le (Nat.le_refl n) (by omega : n < 2 ^ 31))]
  · have l1 := h9 (6 * a + b) (by omega)
    have l2 := h9 (6 * b + a) (by omega)
    simp only [f_X0_mutual_L16, if_neg (nI_ge h2 (by omega : n < 2 ^ 31)), e_X9_owes (fu := fu) ho (by omega : a < 6) (by omega : b < 6), e_X9_owes (fu := fu) ho (by omega : b < 6) (by omega : a < 6), bnd_some, ltn, nI_1, jmin_n (show o (6 * a + b) < 2 ^ 31 by omega) (show o (6 * b + a) < 2 ^ 31 by omega), nI_add]
    rfl
  · simp only [f_X0_mutual_L16, if_pos (nI_le (Nat.le_refl n) (by omega : n < 2 ^ 31))]
theorem e_X12_mutual (ho : ∀ i, i < 36 → db i = nI (o i)) (h9 : ∀ i, i < 36 → o i ≤ 99) (hn : n ≤ 6) (hf : 100 ≤ fu) : f_X12_mutual fu (nI n) db = some (nI (sPair n (fMut o))) := by
  unfold f_X12_mutual
  refine bnd_r (lp_pairM (inn := f_X12_mutual_L14 fu db) (fMut o) hn hf (fun a x hab => ?_) (fun x => ?_) (fun a z b x hab h1 => ?_) (fun a z x hab => ?_))
  · simp only [f_X12_mutual_L4, if_neg (nI_ge hab (by omega : n < 2 ^ 31)), nI_1]; rfl
  · simp only [f_X12_mutual_L4, if_pos (nI_le (Nat.le_refl n) (by omega : n < 2 ^ 31))]
  · have l1 := h9 (6 * a + b) (by omega)
    have l2 := h9 (6 * b + a) (by omega)
    simp only [f_X12_mutual_L14, if_neg (nI_ge h1 (by omega : a < 2 ^ 31)), e_X12_owed (fu := fu) ho (by omega : a < 6) (by omega : b < 6), e_X12_owed (fu := fu) ho (by omega : b < 6) (by omega : a < 6), bnd_some, ltn, nI_1, e_lesser, jmin_n (show o (6 * a + b) < 2 ^ 31 by omega) (show o (6 * b + a) < 2 ^ 31 by omega), nI_add]
    rfl
  · simp only [f_X12_mutual_L14, if_pos (nI_le (Nat.le_refl a) (by omega : a < 2 ^ 31))]
def fTwi (w pu : Nat → Nat) (a b : Nat) : Nat := if w a = w b ∧ pu a = pu b then 1 else 0
theorem fTwi_s (a b : Nat) : fTwi w pu a b = fTwi w pu b a := by
  unfold fTwi
  by_cases q : w a = w b ∧ pu a = pu b
  · rw [if_pos q, if_pos ⟨q.1.symm, q.2.symm⟩]
  · rw [if_neg q, if_neg (fun z => q ⟨z.1.symm, z.2.symm⟩)]
theorem e_X0_twins (hwi : ∀ i, i < n → wi i = nI (w i)) (hpr : ∀ i, i < n → pr i = nI (pu i)) (hw : ∀ i, i < 6 → w i ≤ 9) (hp : ∀ i, i < 6 → pu i ≤ 99) (hn : n ≤ 6) (hf : 100 ≤ fu) : f_X0_twins fu (nI n) wi pr = some (nI (sPair n (fTwi w pu))) := by
  unfold f_X0_twins
  refine bnd_r (lp_pairC (s2 := fun _ => none) (inn := f_X0_twins_L16 (nI n) wi pr) (fTwi w pu) fTwi_s hn hf (fun a x hab => ?_) (fun x => ?_) (fun a z b x hab h1 h2 => ?_) (fun a z x hab => ?_))
  · simp only [f_X0_twins_L4, if_neg (nI_ge hab (by omega : n < 2 ^ 31)), ltn, nI_1]
  · simp only [f_X0_twins_L4, if_pos (nI_le (Nat.le_refl n) (by omega : n < 2 ^ 31))]
  · have l1 := hw a (by omega)
    have l2 := hw b (by omega)
    have l3 := hp a (by omega)
    have l4 := hp b (by omega)
    simp only [f_X0_twins_L16, if_neg (nI_ge h2 (by omega : n < 2 ^ 31)), rdi_n (by omega : a < 6) (by decide) (hwi a hab), rdi_n (by omega : b < 6) (by decide) (hwi b h2), rdi_n (by omega : a < 6) (by decide) (hpr a hab), rdi_n (by omega : b < 6) (by decide) (hpr b h2), bnd_some, ltn, nI_1, nI_eq (show w a < 2 ^ 31 by omega) (show w b < 2 ^ 31 by omega), nI_eq (show pu a < 2 ^ 31 by omega) (show pu b < 2 ^ 31 by omega), fTwi]
    by_cases q : w a = w b
    · by_cases q2 : pu a = pu b
      · rw [if_pos q, if_pos q2, if_pos ⟨q, q2⟩]
      · rw [if_pos q, if_neg q2, if_neg (fun z => q2 z.2)]; rfl
    · rw [if_neg q, if_neg (fun z => q z.1)]; rfl
  · simp only [f_X0_twins_L16, if_pos (nI_le (Nat.le_refl n) (by omega : n < 2 ^ 31))]
theorem e_X12_twins (hM : ∀ i, i < 6 → M (55 * t + 1 + i) = nI (w i)) (ht : t < 8) (hpr : ∀ i, i < 6 → pr i = nI (pu i)) (hw : ∀ i, i < 6 → w i ≤ 9) (hp : ∀ i, i < 6 → pu i ≤ 99) (hn : n ≤ 6) (hf : 100 ≤ fu) : f_X12_twins fu M (nI t) (nI n) pr = some (nI (sPair n (fTwi w pu))) := by
  unfold f_X12_twins
  refine bnd_r (lp_pairM (inn := f_X12_twins_L14 fu M (nI t) pr) (fTwi w pu) hn hf (fun a x hab => ?_) (fun x => ?_) (fun a z b x hab h1 => ?_) (fun a z x hab => ?_))
  · simp only [f_X12_twins_L4, if_neg (nI_ge hab (by omega : n < 2 ^ 31)), nI_1]; rfl
  · simp only [f_X12_twins_L4, if_pos (nI_le (Nat.le_refl n) (by omega : n < 2 ^ 31))]
  · have l1 := hw a (by omega)
    have l2 := hw b (by omega)
    have l3 := hp a (by omega)
    have l4 := hp b (by omega)
    have e1 : f_X12_of fu M (nI t) (nI (1 + a)) = some (nI (w a)) := e_X12_of (by rw [← hM a (by omega), Nat.add_assoc]) (by omega)
    have e2 : f_X12_of fu M (nI t) (nI (1 + b)) = some (nI (w b)) := e_X12_of (by rw [← hM b (by omega), Nat.add_assoc]) (by omega)
    simp only [f_X12_twins_L14, if_neg (nI_ge h1 (by omega : a < 2 ^ 31)), i1_add, e1, e2, rdi_n (by omega : a < 6) (by decide) (hpr a (by omega)), rdi_n (by omega : b < 6) (by decide) (hpr b (by omega)), bnd_some, ltn, nI_1, nI_eq (show w a < 2 ^ 31 by omega) (show w b < 2 ^ 31 by omega), nI_eq (show pu a < 2 ^ 31 by omega) (show pu b < 2 ^ 31 by omega), fTwi, i0_add]
    by_cases q : w a = w b
    · by_cases q2 : pu a = pu b
      · rw [if_pos q, if_pos q2, if_pos ⟨q, q2⟩]
      · rw [if_pos q, if_neg q2, if_neg (fun z => q2 z.2)]; rfl
    · rw [if_neg q, if_neg (fun z => q z.1)]; rfl
  · simp only [f_X12_twins_L14, if_pos (nI_le (Nat.le_refl a) (by omega : a < 2 ^ 31))]
/-- meetings -/
def fMee (h o : Nat → Nat) (u : Int32) (a b : Nat) : Nat := if u = 0 then bi (h a) b else if o (6 * a + b) + o (6 * b + a) = 0 then 0 else 1
theorem fMee_le {u : Int32} (a b : Nat) : fMee h o u a b ≤ 1 := by
  unfold fMee
  have := bi_lt (h a) b
  split
  · omega
  · split <;> omega
def cpl (n : Nat) : Nat := fldN (fun a x => fldN (fun _ x => x + 1) (a + 1) (n - (a + 1)) x) 0 n 0
theorem cpl_n : ∀ n, n ≤ 6 → cpl n = n * (n - 1) / 2 := by decide
theorem fldN_pr {α β : Type} {f : Nat → α → α} {g : Nat → β → β} : ∀ (k j : Nat) (x : α × β), fldN (fun j x => (f j x.1, g j x.2)) j k x = (fldN f j k x.1, fldN g j k x.2) := by
  intro k
  induction k with
  | zero => intro j x; rfl
  | succ k ih => intro j x; exact ih (j + 1) _
theorem e_X3_ofMeeting {u v : Int32} (hha : ∀ i, i < 6 → ha i = nI (h i)) (h64 : ∀ i, i < 6 → h i < 64) (hsy : ∀ i j, i < 6 → j < 6 → bi (h i) j = bi (h j) i) (ho : ∀ i, i < 36 → ow i = nI (o i)) (h9 : ∀ i, i < 36 → o i ≤ 99) (h2 : 2 ≤ n) (hn : n ≤ 6) (hf : 200 ≤ fu) : f_X3_ofMeeting fu (nI n) ha ow u v = some (sPart (sPair n (fMee h o u)) (n * (n - 1) / 2) v) := by
  have hh := lp_up0 (step := f_X3_ofMeeting_L8 fu (nI n) ha ow u) (fun j (x : Nat × Nat) => (nI x.1, nI x.2, nI j)) (fun a x => (fldN (fun _ x => x + 1) (a + 1) (n - (a + 1)) x.1, fldN (fun b x => x + fMee h o u a b) (a + 1) (n - (a + 1)) x.2)) n (fun x => (nI x.1, nI x.2)) (fun a x hab => by
    have := (lp_up (step := f_X3_ofMeeting_L23 fu (nI n) ha ow u (nI x.1, nI x.2, nI a)) (fun j (x : Nat × Nat) => (nI x.1, nI x.2, nI j)) (fun b x => (x.1 + 1, x.2 + fMee h o u a b)) n (fun x => (nI x.1, nI x.2)) (fun j _ => a < j) (fun b x' hb hP => by
      refine ⟨?_, by omega⟩
      have l1 := h9 (6 * a + b) (by omega)
      have l2 := h9 (6 * b + a) (by omega)
      have := bi_lt (h a) b
      simp only [f_X3_ofMeeting_L23, if_neg (nI_ge hb (by omega : n < 2 ^ 31)), e_X9_hates (fu := fu) hha h64 (by omega : a < 6) (by omega : b < 6), e_X9_owes (fu := fu) ho (by omega : a < 6) (by omega : b < 6), e_X9_owes (fu := fu) ho (by omega : b < 6) (by omega : a < 6), bnd_some, nI_1, nI_add, nI_eq0 (show bi (h a) b < 2 ^ 31 by omega), nI_le0 (show o (6 * a + b) + o (6 * b + a) < 2 ^ 31 by omega), fMee]
      by_cases q : u = 0
      · rw [if_pos q, if_pos q]
        rcases (show bi (h a) b = 0 ∨ bi (h a) b = 1 by omega) with e | e <;> rw [e] <;> rfl
      · rw [if_neg q, if_neg q]
        split <;> rfl) (fun x' _ => by
      simp only [f_X3_ofMeeting_L23, if_pos (nI_le (Nat.le_refl n) (by omega : n < 2 ^ 31))]) (n - (a + 1)) fu (a + 1) x (by omega) (by omega) (by omega)).1
    simp only [f_X3_ofMeeting_L8, if_neg (nI_ge hab (by omega : n < 2 ^ 31)), ltn, nI_1, this, bnd_some]
    rw [fldN_pr (f := fun _ x => x + 1) (g := fun b x => x + fMee h o u a b)]) (fun x => by
    simp only [f_X3_ofMeeting_L8, if_pos (nI_le (Nat.le_refl n) (by omega : n < 2 ^ 31))]) (fu := fu) (a := (0, 0)) (by omega)
  rw [fldN_pr (f := fun a x => fldN (fun _ x => x + 1) (a + 1) (n - (a + 1)) x) (g := fun a x => fldN (fun b x => x + fMee h o u a b) (a + 1) (n - (a + 1)) x)] at hh
  have hsp : fldN (fun a x => fldN (fun b x => x + fMee h o u a b) (a + 1) (n - (a + 1)) x) 0 n 0 = sPair n (fMee h o u) := by
    let f' : Nat → Nat → Nat := fun a b => if a < 6 ∧ b < 6 then fMee h o u a b else 0
    have hs : ∀ a b, f' a b = f' b a := by
      intro a b
      by_cases q : a < 6 ∧ b < 6
      · show (if a < 6 ∧ b < 6 then fMee h o u a b else 0) = (if b < 6 ∧ a < 6 then fMee h o u b a else 0)
        rw [if_pos q, if_pos ⟨q.2, q.1⟩]
        unfold fMee
        rw [hsy a b q.1 q.2, Nat.add_comm (o (6 * a + b))]
      · show (if a < 6 ∧ b < 6 then fMee h o u a b else 0) = (if b < 6 ∧ a < 6 then fMee h o u b a else 0)
        rw [if_neg q, if_neg (fun z => q ⟨z.2, z.1⟩)]
    have := pairs hs n hn
    have c1 : fldN (fun a x => fldN (fun b x => x + fMee h o u a b) (a + 1) (n - (a + 1)) x) 0 n 0 = fldN (fun a x => fldN (fun b x => x + f' a b) (a + 1) (n - (a + 1)) x) 0 n 0 := by
      refine fldN_congr n 0 0 (fun a x h1 h2 => ?_)
      refine fldN_congr _ _ _ (fun b y h3 h4 => ?_)
      show y + fMee h o u a b = y + (if a < 6 ∧ b < 6 then fMee h o u a b else 0)
      rw [if_pos ⟨by omega, by omega⟩]
    have c2 : sPair n (fMee h o u) = fldN (fun a x => fldN (fun b x => x + f' a b) 0 a x) 0 n 0 := by
      refine fldN_congr n 0 0 (fun a x h1 h2 => ?_)
      refine fldN_congr _ _ _ (fun b y h3 h4 => ?_)
      show y + fMee h o u a b = y + (if a < 6 ∧ b < 6 then fMee h o u a b else 0)
      rw [if_pos ⟨by omega, by omega⟩]
    rw [c1, c2, this]
  have hcp : fldN (fun a x => fldN (fun _ x => x + 1) (a + 1) (n - (a + 1)) x) 0 n 0 = n * (n - 1) / 2 := cpl_n n hn
  simp only [hsp, hcp] at hh
  have hl := sPair_le (f := fMee h o u) (B := 1) n hn (fun a b _ _ => fMee_le a b)
  have hc : 0 < n * (n - 1) / 2 ∧ n * (n - 1) / 2 ≤ 15 := by
    rcases (show n = 2 ∨ n = 3 ∨ n = 4 ∨ n = 5 ∨ n = 6 by omega) with rfl | rfl | rfl | rfl | rfl <;> decide
  unfold f_X3_ofMeeting
  rw [show ((0 : Int32), (0 : Int32), (0 : Int32)) = (nI 0, nI 0, nI 0) from rfl, bnd_r hh]
  show bnd (f_X3_lowest fu (nI _).toInt64 (nI _).toInt64 _) _ = _
  rw [nI_l (by omega), nI_l (by omega), (e_lowest (by omega) hc.1 (by omega) hf).1]
  rfl
theorem e_meet {u : Int32} {y : HT} (hy : Hd t n pu o y) (ht : t < 8) (hM : ∀ i, i < 6 → M (55 * t + 13 + i) = nI (h i)) (h64 : ∀ i, i < 6 → h i < 64) (h9 : ∀ i, i < 36 → o i ≤ 99) (hn : n ≤ 6) (hf : 200 ≤ fu) : lp (f_X12_meet_L31 fu M u y) fu ((0 : Int64), (0 : Int32)) = some (lN (sPair n (fMee h o u))) := by
  obtain ⟨y1, y2, y3, -, y5, -, y7, -, -⟩ := hy
  exact lp_up0 (step := f_X12_meet_L31 fu M u y) (fun j x => (lN x, nI j)) (fun a x => fldN (fun b x => x + fMee h o u a b) 0 a x) n (fun x => lN x) (fun a x hab => by
    have := lp_up0 (step := f_X12_meet_L43 fu M u y (lN x, nI a)) (fun j x => (lN x, nI j)) (fun b x => x + fMee h o u a b) a (fun x => lN x) (fun b x' hb => by
      have l1 := h9 (6 * a + b) (by omega)
      have l2 := h9 (6 * b + a) (by omega)
      have := bi_lt (h a) b
      simp only [f_X12_meet_L43, y2, if_neg (nI_ge hb (by omega : a < 2 ^ 31)), e_X12_hates (fu := fu) hM h64 ht (by omega : a < 6) (by omega : b < 6), e_X12_owed (fu := fu) y7 (by omega : a < 6) (by omega : b < 6), e_X12_owed (fu := fu) y7 (by omega : b < 6) (by omega : a < 6), bnd_some, ltn, nI_1, nI_le0 (show o (6 * b + a) < 2 ^ 31 by omega), fMee]
      by_cases q : u = 0
      · rw [if_pos q, if_pos q, bnd_some]
        rcases (show bi (h a) b = 0 ∨ bi (h a) b = 1 by omega) with e | e <;> rw [e]
        · rw [if_pos (show nI 0 = 0 from rfl), show (0 : Int64) = lN 0 from rfl, lN_add]
        · rw [if_neg (by decide), show (1 : Int64) = lN 1 from rfl, lN_add]
      · rw [if_neg q, if_neg q]
        have z1 : (0 : Int32) < nI (o (6 * a + b)) ↔ o (6 * a + b) ≠ 0 := by
          rw [show (0 : Int32) = nI 0 from rfl, nI_ltI (by decide) (by omega)]; omega
        by_cases q2 : o (6 * a + b) = 0
        · rw [if_neg (fun z => z1.1 z q2)]
          by_cases q3 : o (6 * b + a) = 0
          · rw [if_pos q3, if_pos (by omega), bnd_some, if_pos rfl, show (0 : Int64) = lN 0 from rfl, lN_add]
          · rw [if_neg q3, if_neg (by omega), bnd_some, if_neg (by decide), show (1 : Int64) = lN 1 from rfl, lN_add]
        · rw [if_pos (z1.2 q2), if_neg (by omega), bnd_some, if_neg (by decide), show (1 : Int64) = lN 1 from rfl, lN_add]) (fun x' => by
      simp only [f_X12_meet_L43, if_pos (nI_le (Nat.le_refl a) (by omega : a < 2 ^ 31))]) (fu := fu) (a := x) (by omega)
    have this' : lp (f_X12_meet_L43 fu M u y (lN x, nI a)) fu (lN x, (0 : Int32)) = _ := this
    simp only [f_X12_meet_L31, y3, if_neg (nI_ge hab (by omega : n < 2 ^ 31)), nI_1, this', bnd_some]) (fun x => by
    simp only [f_X12_meet_L31, y3, if_pos (nI_le (Nat.le_refl n) (by omega : n < 2 ^ 31))]) (fu := fu) (a := 0) (by omega)
end P7
