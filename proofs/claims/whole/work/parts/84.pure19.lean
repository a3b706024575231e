/-! ===== borrow ===== -/
theorem lp_s {σ ρ : Type} {step : σ → Option (σ ⊕ ρ)} {s s' : σ} (h : step s = some (.inl s')) {n : Nat} (hn : 0 < n) : lp step n s = lp step (n - 1) s' := by
  obtain ⟨m, rfl⟩ : ∃ m, n = m + 1 := ⟨n - 1, by omega⟩
  show bnd (step s) _ = _
  rw [h]
  rfl
theorem lp_e {σ ρ : Type} {step : σ → Option (σ ⊕ ρ)} {s : σ} {r : ρ} (h : step s = some (.inr r)) {n : Nat} (hn : 0 < n) : lp step n s = some r := by
  obtain ⟨m, rfl⟩ : ∃ m, n = m + 1 := ⟨n - 1, by omega⟩
  show bnd (step s) _ = _
  rw [h]
  rfl
theorem on_ful : ∀ n, n ≤ 6 → on (2 ^ n - 1) = n := by decide
theorem bi_or : ∀ s, s < 64 → ∀ q, q < 6 → ∀ r, r < 6 → (bi (s ||| 2 ^ q) r = 1 ↔ bi s r = 1 ∨ r = q) := by decide +kernel
/-- the wittiest of those below j that a set has not -/
def bstW (w : Nat → Nat) (H j : Nat) (b : Option Nat) : Prop := match b with
  | none => ∀ r, r < j → bi H r = 1
  | some m => m < j ∧ bi H m = 0 ∧ ∀ r, r < j → bi H r = 0 → w r < w m ∨ (w r = w m ∧ m ≤ r)
section BRW
variable {fu n t q H per : Nat} {w pu h o : Nat → Nat} {wi pr M : FN}
theorem ok_wittiest (hW : ∀ i, i < 6 → M (55 * t + 1 + i) = nI (w i)) (ht : t < 8) (hw : ∀ i, i < 6 → w i ≤ 9) (hn : n ≤ 6) (hH : H < 64) (hf : 100 ≤ fu) : ok (f_X12_wittiest fu M (nI t) (nI n) (nI H)) (fun r => ∃ b, r = enc b ∧ bstW w H n b) := by
  unfold f_X12_wittiest
  refine ok_bnd (ok_mono (ok_up (step := f_X12_wittiest_L4 fu M (nI t) (nI n) (nI H)) (P := fun r => ∃ b, r = enc b ∧ bstW w H n b) n (fun j s => s.2 = nI j ∧ ∃ b, s.1 = enc b ∧ bstW w H j b) ?_ ?_ n fu 0 _ (by omega) (by omega) ⟨rfl, none, rfl, fun r hr => absurd hr (by omega)⟩) (fun r hr => ok_some hr))
  · rintro j ⟨c, i⟩ hj ⟨rfl, b, rfl, hb⟩
    have hbl := bi_lt H j
    have w1 := hw j (by omega)
    have e1 : f_X12_of fu M (nI t) (nI (1 + j)) = some (nI (w j)) := e_X12_of (by rw [← hW j (by omega), Nat.add_assoc]) (by omega)
    simp only [f_X12_wittiest_L4, if_neg (nI_ge hj (by omega : n < 2 ^ 31)), e_X12_has (fu := fu) hH (show j < 6 by omega)]
    cases b with
    | none =>
      rw [if_pos (show enc none = -1 from rfl), bnd_some, bnd_some, if_neg i10]
      have hb : ∀ r, r < j → bi H r = 1 := hb
      by_cases z : bi H j = 0
      · rw [if_pos ((nI_eq0 (by omega)).2 z)]
        refine ok_some ⟨nI_1 j, some j, rfl, by omega, z, fun r hr hz => ?_⟩
        by_cases e : r = j
        · rw [e]; exact Or.inr ⟨rfl, Nat.le_refl _⟩
        · have := hb r (by omega)
          omega
      · rw [if_neg (fun u => z ((nI_eq0 (by omega)).1 u))]
        refine ok_some ⟨nI_1 j, none, rfl, fun r hr => ?_⟩
        by_cases e : r = j
        · rw [e]; omega
        · exact hb r (by omega)
    | some m =>
      obtain ⟨m1, m2, m3⟩ : m < j ∧ bi H m = 0 ∧ ∀ r, r < j → bi H r = 0 → w r < w m ∨ (w r = w m ∧ m ≤ r) := hb
      have w2 := hw m (by omega)
      have e2 : f_X12_of fu M (nI t) (nI (1 + m)) = some (nI (w m)) := e_X12_of (by rw [← hW m (by omega), Nat.add_assoc]) (by omega)
      rw [if_neg (show ¬ enc (some m) = -1 from nI_nm1 (by omega)), i1_add, e1, bnd_some]
      rw [show enc (some m) = nI m from rfl, i1_add, e2, bnd_some]
      by_cases z : bi H j = 0
      · by_cases q : w j ≤ w m
        · rw [if_pos (nI_le q (by omega)), bnd_some, bnd_some, if_pos ((nI_eq0 (by omega)).2 z), if_pos i00]
          refine ok_some ⟨nI_1 j, some m, rfl, by omega, m2, fun r hr hz => ?_⟩
          by_cases e : r = j
          · rw [e]; omega
          · exact m3 r (by omega) hz
        · rw [if_neg (nI_ge (by omega) (by omega)), bnd_some, bnd_some, if_pos ((nI_eq0 (by omega)).2 z), if_neg i10]
          refine ok_some ⟨nI_1 j, some j, rfl, by omega, z, fun r hr hz => ?_⟩
          by_cases e : r = j
          · rw [e]; omega
          · have := m3 r (by omega) hz
            omega
      · have fin : ∀ v : Int32, ok (bnd (some v) (fun v6 => bnd (some (nI (bi H j))) (fun x7 => if x7 = 0 then if v6 = 0 then some (Sum.inl (nI m, (nI j + 1))) else some (Sum.inl (nI j, (nI j + 1))) else some (Sum.inl (nI m, (nI j + 1)))))) (fun x => match x with
            | .inl (s' : Int32 × Int32) => s'.2 = nI (j + 1) ∧ ∃ b, s'.1 = enc b ∧ bstW w H (j + 1) b
            | .inr (r : Int32) => ∃ b, r = enc b ∧ bstW w H n b) := by
          intro v
          rw [bnd_some, bnd_some, if_neg (fun u => z ((nI_eq0 (by omega)).1 u))]
          refine ok_some ⟨nI_1 j, some m, rfl, by omega, m2, fun r hr hz => ?_⟩
          by_cases e : r = j
          · rw [e] at hz; exact absurd hz z
          · exact m3 r (by omega) hz
        by_cases q : w j ≤ w m
        · rw [if_pos (nI_le q (by omega))]
          exact ok_mono (fin _) (fun x hx => by cases x <;> exact hx)
        · rw [if_neg (nI_ge (by omega) (by omega))]
          exact ok_mono (fin _) (fun x hx => by cases x <;> exact hx)
  · rintro ⟨c, i⟩ ⟨rfl, b, rfl, hb⟩
    simp only [f_X12_wittiest_L4, if_pos (nI_le (Nat.le_refl n) (by omega : n < 2 ^ 31))]
    exact ok_some ⟨b, rfl, hb⟩
theorem e_wittiest (hW : ∀ i, i < 6 → M (55 * t + 1 + i) = nI (w i)) (ht : t < 8) (hw : ∀ i, i < 6 → w i ≤ 9) (hn : n ≤ 6) (hH : H < 64) (hq : q < n) (hz : bi H q = 0) (hb : ∀ r, r < n → bi H r = 0 → w r < w q ∨ (w r = w q ∧ q ≤ r)) (hf : 100 ≤ fu) : f_X12_wittiest fu M (nI t) (nI n) (nI H) = some (nI q) := by
  obtain ⟨r, e, b, rfl, h2⟩ := ok_wittiest (fu := fu) hW ht hw hn hH hf
  rw [e]
  cases b with
  | none =>
    have h2 : ∀ r, r < n → bi H r = 1 := h2
    have := h2 q hq
    omega
  | some m =>
    obtain ⟨m1, m2, m3⟩ : m < n ∧ bi H m = 0 ∧ ∀ r, r < n → bi H r = 0 → w r < w m ∨ (w r = w m ∧ m ≤ r) := h2
    have a1 := hb m m1 m2
    have a2 := m3 q hq hz
    rw [show m = q by omega]
    rfl
theorem e_brow {y : HT} {l td : Int32} {f : FN} (hy : Hd t n pu o y) (hW : ∀ i, i < 6 → M (55 * t + 1 + i) = nI (w i)) (ht : t < 8) (hw : ∀ i, i < 6 → w i ≤ 9) (hn : n ≤ 6) (hH : H < 2 ^ n) (hq : q < n) (hz : bi H q = 0) (hb : ∀ r, r < n → bi H r = 0 → w r < w q ∨ (w r = w q ∧ q ≤ r)) (hf : 100 ≤ fu) : f_X12_borrow_L69 fu M y (nI H, l, td, nI (on H), f) = some (.inl (nI (H ||| 2 ^ q), l - jmin l (nI (pu q)), td + jmin l (nI (pu q)) * (10 - nI (w q)), nI (on (H ||| 2 ^ q)), upd f q (jmin l (nI (pu q))))) := by
  obtain ⟨y1, y2, y3, -, y5, -, y7, -, -⟩ := hy
  have h64 := pw64 hn
  have o1 := on_or0 n hn H hH q hq hz
  have o2 := on_le0 n hn (H ||| 2 ^ q) (or_pow hH (pw_lt hq))
  have e1 : f_X12_of fu M (nI t) (nI (1 + q)) = some (nI (w q)) := e_X12_of (by rw [← hW q (by omega), Nat.add_assoc]) (by omega)
  simp only [f_X12_borrow_L69, y2, y3, if_neg (nI_ge (show on H < n by omega) (by omega : n < 2 ^ 31)), e_wittiest (fu := fu) hW ht hw hn (show H < 64 by omega) hq hz hb hf, bnd_some, rdi_n (show q < 6 by omega) (by decide) (y5 q (by omega)), e_lesser, wri_n (show q < 6 by omega) (by decide : 6 < 2 ^ 31), rdi_n (show q < 6 by omega) (by decide) (pk_us (f := f) (k := q) (x := jmin l (nI (pu q)))), i1_add, e1, ltn, jshl_1 q (by omega), fa_or, nI_1, o1]
theorem e_bend {y : HT} {l td : Int32} {f : FN} (hy : Hd t n pu o y) (hn : n ≤ 6) : f_X12_borrow_L69 fu M y (nI (2 ^ n - 1), l, td, nI (on (2 ^ n - 1)), f) = some (.inr (l, td, f)) := by
  obtain ⟨y1, y2, y3, -, y5, -, y7, -, -⟩ := hy
  simp only [f_X12_borrow_L69, y3, on_ful n hn, if_pos (nI_le (Nat.le_refl n) (by omega : n < 2 ^ 31))]
/-- class and reference take alike -/
theorem ok_tedious {y : HT} {p3 p4 : Int32} {f0 : FN} (hy : Hd t n pu o y) (hwi : ∀ i, i < n → wi i = nI (w i)) (hpr : ∀ i, i < n → pr i = nI (pu i)) (hW : ∀ i, i < 6 → M (55 * t + 1 + i) = nI (w i)) (ht : t < 8) (hw : ∀ i, i < 6 → w i ≤ 9) (hn : n ≤ 6) (hper : per < n) (h0 : f0 per = 0) (hf : 1000 ≤ fu) : ok (lp (f_X4_leastTedious_L13 fu (nI n) wi pr (nI per) p4) fu (p3, (0 : Int32), (0 : Int32), (9 : Int32))) (fun v => ∃ f, lp (f_X12_borrow_L69 fu M y) fu (nI (2 ^ per), p3, (0 : Int32), (1 : Int32), f0) = some (v.1, v.2.1, f) ∧ ∀ r, p4 = nI r → r < n → f r = v.2.2) := by
  have h64 := pw64 hn
  have hpos := Nat.two_pow_pos n
  have key : ∀ (wt : Nat) (s2 : Int32 × Int32 × Int32 × Int32), wt ≤ 9 → s2.2.2.2 = nI wt → (∃ H f fu', H < 2 ^ n ∧ (∀ r, r < n → (bi H r = 1 ↔ (r = per ∨ wt < w r))) ∧ lp (f_X12_borrow_L69 fu M y) fu (nI (2 ^ per), p3, (0 : Int32), (1 : Int32), f0) = lp (f_X12_borrow_L69 fu M y) fu' (nI H, s2.1, s2.2.1, nI (on H), f) ∧ fu ≤ fu' + on H ∧ ∀ r, p4 = nI r → r < n → bi H r = 1 → f r = s2.2.2.1) →
      ok (lp (f_X4_leastTedious_L21 (nI n) wi pr (nI per) p4 s2) fu (s2.1, s2.2.1, s2.2.2.1, (0 : Int32))) (fun v => ∃ H f fu', H < 2 ^ n ∧ (∀ r, r < n → (bi H r = 1 ↔ (r = per ∨ wt ≤ w r))) ∧ lp (f_X12_borrow_L69 fu M y) fu (nI (2 ^ per), p3, (0 : Int32), (1 : Int32), f0) = lp (f_X12_borrow_L69 fu M y) fu' (nI H, v.1, v.2.1, nI (on H), f) ∧ fu ≤ fu' + on H ∧ ∀ r, p4 = nI r → r < n → bi H r = 1 → f r = v.2.2) := by
    intro wt s2 hwt e2 h1
    refine ok_up n (fun j s => s.2.2.2 = nI j ∧ ∃ H f fu', H < 2 ^ n ∧ (∀ r, r < n → (bi H r = 1 ↔ (r = per ∨ wt < w r ∨ (w r = wt ∧ r < j)))) ∧ lp (f_X12_borrow_L69 fu M y) fu (nI (2 ^ per), p3, (0 : Int32), (1 : Int32), f0) = lp (f_X12_borrow_L69 fu M y) fu' (nI H, s.1, s.2.1, nI (on H), f) ∧ fu ≤ fu' + on H ∧ ∀ r, p4 = nI r → r < n → bi H r = 1 → f r = s.2.2.1) ?_ ?_ n fu 0 _ (by omega) (by omega) ⟨rfl, ?_⟩
    · rintro j ⟨l, td, fo, c⟩ hj ⟨rfl, H, f, fu', g1, g2, g3, g4, g5⟩
      have g3 : lp (f_X12_borrow_L69 fu M y) fu (nI (2 ^ per), p3, (0 : Int32), (1 : Int32), f0) = lp (f_X12_borrow_L69 fu M y) fu' (nI H, l, td, nI (on H), f) := g3
      have g5 : ∀ r, p4 = nI r → r < n → bi H r = 1 → f r = fo := g5
      have wj := hw j (by omega)
      have hoH := on_le0 n hn H g1
      have skip : (j = per ∨ ¬ w j = wt) → ∃ H f fu', H < 2 ^ n ∧ (∀ r, r < n → (bi H r = 1 ↔ (r = per ∨ wt < w r ∨ (w r = wt ∧ r < j + 1)))) ∧ lp (f_X12_borrow_L69 fu M y) fu (nI (2 ^ per), p3, (0 : Int32), (1 : Int32), f0) = lp (f_X12_borrow_L69 fu M y) fu' (nI H, l, td, nI (on H), f) ∧ fu ≤ fu' + on H ∧ ∀ r, p4 = nI r → r < n → bi H r = 1 → f r = fo := by
        intro hs
        refine ⟨H, f, fu', g1, fun r hr => ?_, g3, g4, g5⟩
        rw [g2 r hr]
        by_cases e : r = j
        · rw [e]
          rcases hs with hs | hs
          · exact ⟨fun _ => Or.inl hs, fun _ => Or.inl hs⟩
          · constructor <;> intro z <;> omega
        · constructor <;> intro z <;> omega
      simp only [f_X4_leastTedious_L21, if_neg (nI_ge hj (by omega : n < 2 ^ 31)), nI_eq (show j < 2 ^ 31 by omega) (show per < 2 ^ 31 by omega), rdi_n (show j < 6 by omega) (by decide) (hwi j hj), rdi_n (show j < 6 by omega) (by decide) (hpr j hj), bnd_some, e2, nI_eq (show w j < 2 ^ 31 by omega) (show wt < 2 ^ 31 by omega), nI_1]
      by_cases q1 : j = per
      · rw [if_pos q1]
        exact ok_some ⟨rfl, skip (Or.inl q1)⟩
      · rw [if_neg q1]
        by_cases q2 : w j = wt
        · rw [if_pos q2]
          have hz : bi H j = 0 := by
            rcases bi_01 H j with z | z
            · exact z
            · have := (g2 j hj).1 z
              omega
          have hb : ∀ r, r < n → bi H r = 0 → w r < w j ∨ (w r = w j ∧ j ≤ r) := by
            intro r hr z
            have : ¬ (r = per ∨ wt < w r ∨ (w r = wt ∧ r < j)) := fun z2 => by
              have := (g2 r hr).2 z2
              omega
            omega
          have est := e_brow (fu := fu) (l := l) (td := td) (f := f) hy hW ht hw hn g1 hj hz hb (by omega)
          have o1 := on_or0 n hn H g1 j hj hz
          have g6 := g3.trans (lp_s est (by omega))
          have mem : ∀ r, r < n → (bi (H ||| 2 ^ j) r = 1 ↔ (r = per ∨ wt < w r ∨ (w r = wt ∧ r < j + 1))) := by
            intro r hr
            rw [bi_or H (by omega) j (by omega) r (by omega), g2 r hr]
            by_cases e : r = j
            · rw [e]; constructor <;> intro z <;> omega
            · constructor <;> intro z <;> omega
          dsimp only [ltn]
          rw [q2] at g6
          by_cases q3 : nI j = p4
          · rw [if_pos q3]
            refine ok_some ⟨rfl, H ||| 2 ^ j, upd f j (jmin l (nI (pu j))), fu' - 1, or_pow g1 (pw_lt hj), mem, g6, by omega, fun r er hr hb2 => ?_⟩
            have : j = r := (nI_eq (by omega) (by omega)).1 (q3.trans er)
            rw [← this]
            exact pk_us
          · rw [if_neg q3]
            refine ok_some ⟨rfl, H ||| 2 ^ j, upd f j (jmin l (nI (pu j))), fu' - 1, or_pow g1 (pw_lt hj), mem, g6, by omega, fun r er hr hb2 => ?_⟩
            have hne : r ≠ j := fun e => q3 (by rw [er, e])
            have : bi H r = 1 := by
              rcases (bi_or H (by omega) j (by omega) r (by omega)).1 hb2 with z | z
              · exact z
              · exact absurd z hne
            exact (pk_un hne).trans (g5 r er hr this)
        · rw [if_neg q2]
          exact ok_some ⟨rfl, skip (Or.inr q2)⟩
    · rintro ⟨l, td, fo, c⟩ ⟨rfl, H, f, fu', g1, g2, g3, g4, g5⟩
      simp only [f_X4_leastTedious_L21, if_pos (nI_le (Nat.le_refl n) (by omega : n < 2 ^ 31))]
      refine ok_some ⟨H, f, fu', g1, fun r hr => ?_, g3, g4, g5⟩
      rw [g2 r hr]
      constructor <;> intro z <;> omega
    · obtain ⟨H, f, fu', g1, g2, g3, g4, g5⟩ := h1
      refine ⟨H, f, fu', g1, fun r hr => ?_, g3, g4, g5⟩
      rw [g2 r hr]
      constructor <;> intro z <;> omega
  refine ok_up 10 (fun j s => s.2.2.2 = nI (10 - j) - 1 ∧ ∃ H f fu', H < 2 ^ n ∧ (∀ r, r < n → (bi H r = 1 ↔ (r = per ∨ 10 - j ≤ w r))) ∧ lp (f_X12_borrow_L69 fu M y) fu (nI (2 ^ per), p3, (0 : Int32), (1 : Int32), f0) = lp (f_X12_borrow_L69 fu M y) fu' (nI H, s.1, s.2.1, nI (on H), f) ∧ fu ≤ fu' + on H ∧ ∀ r, p4 = nI r → r < n → bi H r = 1 → f r = s.2.2.1) ?_ ?_ 10 fu 0 _ (by omega) (by omega) ⟨(show (9 : Int32) = nI (10 - 0) - 1 by decide), 2 ^ per, f0, fu, pw_lt hper, fun r hr => ?_, ?_, by omega, fun r er hr hb => ?_⟩
  · rintro j ⟨l, td, fo, c⟩ hj ⟨rfl, hI⟩
    obtain ⟨wt, hwt⟩ : ∃ wt, 10 - j = wt + 1 := ⟨9 - j, by omega⟩
    have e1 : nI (10 - j) - 1 = nI wt := by rw [hwt]; exact nI_pred wt
    simp only [f_X4_leastTedious_L13]
    rw [if_neg (by rw [e1]; exact nI_pos (by omega))]
    refine ok_bnd (ok_mono (key wt (l, td, fo, nI (10 - j) - 1) (by omega) e1 ?_) ?_)
    · obtain ⟨H, f, fu', g1, g2, g3, g4, g5⟩ := hI
      refine ⟨H, f, fu', g1, fun r hr => ?_, g3, g4, g5⟩
      rw [g2 r hr]
      constructor <;> intro z <;> omega
    · rintro ⟨l2, td2, fo2⟩ ⟨H, f, fu', g1, g2, g3, g4, g5⟩
      refine ok_some ⟨?_, H, f, fu', g1, fun r hr => ?_, g3, g4, g5⟩
      · show nI (10 - j) - 1 + (-1) = nI (10 - (j + 1)) - 1
        rw [e1, show 10 - (j + 1) = wt by omega, am1]
      · rw [g2 r hr, show 10 - (j + 1) = wt by omega]
  · rintro ⟨l, td, fo, c⟩ ⟨rfl, H, f, fu', g1, g2, g3, g4, g5⟩
    simp only [f_X4_leastTedious_L13, Nat.sub_self]
    rw [if_pos (by decide)]
    have hH : H = 2 ^ n - 1 := by
      apply bt_ext
      intro j
      by_cases hj : j < n
      · exact ⟨fun _ => ful_bi n hn j hj, fun _ => (g2 j hj).2 (Or.inr (by omega))⟩
      · exact ⟨fun z => absurd (bt_lt g1 z) hj, fun z => absurd (bt_lt (show 2 ^ n - 1 < 2 ^ n by omega) z) hj⟩
    have hoH := on_le0 n hn H g1
    have g3 : lp (f_X12_borrow_L69 fu M y) fu (nI (2 ^ per), p3, (0 : Int32), (1 : Int32), f0) = lp (f_X12_borrow_L69 fu M y) fu' (nI H, l, td, nI (on H), f) := g3
    have f1 : 0 < fu' := by omega
    subst hH
    refine ok_some ⟨f, g3.trans (lp_e (e_bend hy hn) f1), fun r er hr => g5 r er hr (ful_bi n hn r hr)⟩
  · have p2 := hw r (by omega)
    constructor
    · intro z
      exact Or.inl ((bt_pow (k := per) (j := r)).1 z).symm
    · rintro (z | z)
      · exact (bt_pow (k := per) (j := r)).2 z.symm
      · omega
  · rw [on_pow per (by omega)]
    rfl
  · have e : per = r := (bt_pow (k := per) (j := r)).1 hb
    show f0 r = 0
    rw [← e]
    exact h0
end BRW
