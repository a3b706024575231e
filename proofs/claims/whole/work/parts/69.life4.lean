/-! ===== a week is lived ===== -/
section L5
variable {fu n t d wn : Nat} {h : Nat → Nat} {ha M cc W : FN} {dd : Int32}
abbrev BT : Type := Int32 × FN × FN × FN × FN × FN × FN × Int32 × Int32 × Int32 × Int32 × Int32 × Int32 × Int32 × Int32
theorem live_step {x1 : BT} {j m : Nat} {x : CT} {r : Int32} {x' : CT} (b1 : x1.1 = nI n) (b2 : x1.2.1 = ha) (hd : d ≤ 40) (hm : m ≤ d) (hj : j < m) (hC : CD fu n ha cc j x = some (r, x')) (hr : r = 0 ∨ r = 1) : f_X1_live_L15 fu (nI d) cc x1 (nI m) (ins x (nI j)) = some (if r = 0 then .inr (ins x' (nI j)) else .inl (ins x' (nI (j + 1)))) := by
  have e0 := tell_n (fu := fu) (cc := cc) (i := 0) hd (show j < d by omega) (by decide)
  have e1 := tell_n (fu := fu) (cc := cc) (i := 1) hd (show j < d by omega) (by decide)
  have e2 := tell_n (fu := fu) (cc := cc) (i := 2) hd (show j < d by omega) (by decide)
  have e3 := tell_n (fu := fu) (cc := cc) (i := 3) hd (show j < d by omega) (by decide)
  rw [show nI 0 = (0 : Int32) from rfl, Nat.add_zero] at e0
  rw [show nI 1 = (1 : Int32) from rfl] at e1
  rw [show nI 2 = (2 : Int32) from rfl] at e2
  rw [show nI 3 = (3 : Int32) from rfl] at e3
  unfold CD at hC
  unfold f_X1_live_L15
  simp only [ins, if_neg (nI_ge hj (by omega : m < 2 ^ 31)), e0, e1, e2, e3, bnd_some, b1, b2, hC, ltn, nI_1]
  rcases hr with rfl | rfl <;> rfl
theorem live_end {x1 : BT} {m : Nat} {x : CT} (hm : m ≤ 40) : f_X1_live_L15 fu (nI d) cc x1 (nI m) (ins x (nI m)) = some (.inr (ins x (nI m))) := by
  unfold f_X1_live_L15
  exact if_pos (nI_le (Nat.le_refl m) (by omega : m < 2 ^ 31))
theorem play_step {m j : Nat} {y y' : MT} {r : Int32} (hm : m ≤ 40) (hj : j < m) (hD : MD fu t n wn M W j y = some (r, y')) (hr : r = 0 ∨ r = 1) : f_X12_play_L2 fu M W (nI t) (nI n) (nI wn) (nI m) (nI j, y) = some (if r = 0 then .inr (nI j, y') else .inl (nI (j + 1), y')) := by
  unfold MD at hD
  unfold f_X12_play_L2
  simp only [if_neg (nI_ge hj (by omega : m < 2 ^ 31)), hD, bnd_some, nI_1]
  rcases hr with rfl | rfl <;> rfl
theorem play_end {m : Nat} {y : MT} (hm : m ≤ 40) : f_X12_play_L2 fu M W (nI t) (nI n) (nI wn) (nI m) (nI m, y) = some (.inr (nI m, y)) := by
  unfold f_X12_play_L2
  simp only [if_pos (nI_le (Nat.le_refl m) (by omega : m < 2 ^ 31))]
theorem live_play {x1 : BT} (b1 : x1.1 = nI n) (b2 : x1.2.1 = ha) (hha : ∀ i, i < 6 → ha i = nI (h i)) (h64 : ∀ i, i < 6 → h i < 64) (hM : ∀ i, i < 6 → M (55 * t + 13 + i) = nI (h i)) (ht : t < 8) (hn : n ≤ 6) (hw : wn < 2) (K : WkR d dd cc W (161 * wn)) {m : Nat} (hm : m ≤ d) (hf : 100 ≤ fu) :
    ∀ (k j g g2 : Nat) (x : CT) (y : MT), j + k = m → k < g → k < g2 → SR n j x y → ∃ (c : Nat) (x' : CT) (y' : MT), j ≤ c ∧ c ≤ m ∧ lp (f_X1_live_L15 fu (nI d) cc x1 (nI m)) g (ins x (nI j)) = some (ins x' (nI c)) ∧ lp (f_X12_play_L2 fu M W (nI t) (nI n) (nI wn) (nI m)) g2 (nI j, y) = some (nI c, y') ∧ SR n 41 x' y' := by
  have hd := K.1
  intro k
  induction k with
  | zero =>
    intro j g g2 x y hj hg hg2 S
    obtain ⟨g, rfl⟩ : ∃ f, g = f + 1 := ⟨g - 1, by omega⟩
    obtain ⟨g2, rfl⟩ : ∃ f, g2 = f + 1 := ⟨g2 - 1, by omega⟩
    have hj : j = m := by omega
    subst hj
    refine ⟨j, x, y, Nat.le_refl _, Nat.le_refl _, ?_, ?_, SRx.mono S (by omega)⟩
    · show bnd (f_X1_live_L15 fu (nI d) cc x1 (nI j) (ins x (nI j))) _ = _
      rw [live_end (by omega)]; rfl
    · show bnd (f_X12_play_L2 fu M W (nI t) (nI n) (nI wn) (nI j) (nI j, y)) _ = _
      rw [play_end (by omega)]; rfl
  | succ k ih =>
    intro j g g2 x y hj hg hg2 S
    obtain ⟨g, rfl⟩ : ∃ f, g = f + 1 := ⟨g - 1, by omega⟩
    obtain ⟨g2, rfl⟩ : ∃ f, g2 = f + 1 := ⟨g2 - 1, by omega⟩
    obtain ⟨r, x', y', h1, h2, h3, h4, h5⟩ := deed_eq (fu := fu) S hha h64 hM ht hn (by omega) hw K (show j < d by omega) hf
    have eC := live_step (x1 := x1) (m := m) b1 b2 hd hm (by omega) h1 h3
    have eM := play_step (m := m) (j := j) (by omega) (by omega) h2 h3
    rcases h3 with rfl | rfl
    · refine ⟨j, x', y', Nat.le_refl _, by omega, ?_, ?_, SRx.mono h4 (by omega)⟩
      · show bnd (f_X1_live_L15 fu (nI d) cc x1 (nI m) (ins x (nI j))) _ = _
        rw [eC]; rfl
      · show bnd (f_X12_play_L2 fu M W (nI t) (nI n) (nI wn) (nI m) (nI j, y)) _ = _
        rw [eM]; rfl
    · obtain ⟨c, x2, y2, c1, c2, c3, c4, c5⟩ := ih (j + 1) g g2 x' y' (by omega) (by omega) (by omega) h4
      refine ⟨c, x2, y2, by omega, c2, ?_, ?_, c5⟩
      · show bnd (f_X1_live_L15 fu (nI d) cc x1 (nI m) (ins x (nI j))) _ = _
        rw [eC]; exact c3
      · show bnd (f_X12_play_L2 fu M W (nI t) (nI n) (nI wn) (nI m) (nI j, y)) _ = _
        rw [eM]; exact c4
/-- the reference's other way, with where sitting began -/
theorem live_after {x1 : BT} {z1 : Int32 × Int32 × Int32 × Int32 × Int32 × Int32 × Int32 × Int32 × Int32 × Int32 × FN × FN × FN × FN × FN × Int32} (b1 : x1.1 = nI n) (b2 : x1.2.1 = ha) (z2 : z1.2.1 = nI t) (z3 : z1.2.2.1 = nI n) (z4 : z1.2.2.2.2.2.2.2.2.2.2.2.2.2.2.2 = nI wn) (hha : ∀ i, i < 6 → ha i = nI (h i)) (h64 : ∀ i, i < 6 → h i < 64) (hM : ∀ i, i < 6 → M (55 * t + 13 + i) = nI (h i)) (ht : t < 8) (hn : n ≤ 6) (hw : wn < 2) (K : WkR d dd cc W (161 * wn)) (hf : 100 ≤ fu) :
    ∀ (k j g g2 : Nat) (x : CT) (y : MT), j + k = d → k < g → k + 2 < g2 → SR n j x y → ∃ (c : Nat) (x' : CT) (y' : MT), lp (f_X1_live_L15 fu (nI d) cc x1 (nI d)) g (ins x (nI j)) = some (ins x' (nI c)) ∧ lp (f_X12_after_L36 fu M W z1) g2 (fsto x, (1 : Int32), nI j, y) = some (fsto x', y') ∧ SR n 41 x' y' := by
  have hd := K.1
  have hW := K.2.2.1
  have stop : ∀ (g2 : Nat) (f c : Int32) (y : MT), lp (f_X12_after_L36 fu M W z1) (g2 + 1) (f, (0 : Int32), c, y) = some (f, y) := by
    intro g2 f c y
    show bnd (f_X12_after_L36 fu M W z1 (f, (0 : Int32), c, y)) _ = _
    unfold f_X12_after_L36
    rfl
  have hsat : ∀ (B : Nat) (x : CT) (y : MT), B < 1000 → SR n B x y → (fsto x = -1 ↔ y.2.1 ≤ 0) := by
    intro B x y hB S
    obtain ⟨s1, s2, s3, s4, s5, s6, s7, s8, ⟨s, h1, h2, h3, h4⟩, s10⟩ := S
    rw [h3, nI_le0 (by omega)]
    unfold fsto
    rcases h4 with ⟨e1, e2⟩ | ⟨e1, e2⟩
    · exact ⟨fun _ => e1, fun _ => e2⟩
    · exact ⟨fun z => absurd z e2, fun z => by omega⟩
  intro k
  induction k with
  | zero =>
    intro j g g2 x y hj hg hg2 S
    obtain ⟨g, rfl⟩ : ∃ f, g = f + 1 := ⟨g - 1, by omega⟩
    obtain ⟨g2, rfl⟩ : ∃ f, g2 = f + 1 + 1 := ⟨g2 - 2, by omega⟩
    have hj : j = d := by omega
    subst hj
    refine ⟨j, x, y, ?_, ?_, SRx.mono S (by omega)⟩
    · show bnd (f_X1_live_L15 fu (nI j) cc x1 (nI j) (ins x (nI j))) _ = _
      rw [live_end (by omega)]; rfl
    · show bnd (f_X12_after_L36 fu M W z1 (fsto x, (1 : Int32), nI j, y)) _ = _
      have e : f_X12_after_L36 fu M W z1 (fsto x, (1 : Int32), nI j, y) = some (.inl (fsto x, (0 : Int32), nI (j + 1), y)) := by
        unfold f_X12_after_L36
        simp only [if_neg i10, z4, deeds_n hw hW, bnd_some, if_pos (nI_le (Nat.le_refl j) (by omega : j < 2 ^ 31)), nI_1]
        by_cases q : fsto x = -1
        · rw [if_pos q, if_pos ((hsat j x y (by omega) S).1 q)]
        · rw [if_neg q]
      rw [e]
      exact stop g2 (fsto x) (nI (j + 1)) y
  | succ k ih =>
    intro j g g2 x y hj hg hg2 S
    obtain ⟨g, rfl⟩ : ∃ f, g = f + 1 := ⟨g - 1, by omega⟩
    obtain ⟨g2, rfl⟩ : ∃ f, g2 = f + 1 := ⟨g2 - 1, by omega⟩
    obtain ⟨r, x', y', h1, h2, h3, h4, h5⟩ := deed_eq (fu := fu) S hha h64 hM ht hn (by omega) hw K (show j < d by omega) hf
    have eC := live_step (x1 := x1) (m := d) b1 b2 hd (Nat.le_refl _) (by omega) h1 h3
    have eM : f_X12_after_L36 fu M W z1 (fsto x, (1 : Int32), nI j, y) = some (.inl (fsto x', r, nI (j + 1), y')) := by
      have h2' := h2
      unfold MD at h2'
      unfold f_X12_after_L36
      simp only [if_neg i10, z4, z2, z3, deeds_n hw hW, bnd_some, if_neg (nI_ge (show j < d by omega) (by omega : d < 2 ^ 31)), h2', nI_1]
      have hs := hsat (j + 1) x' y' (by omega) h4
      have hr : bnd (α := Int32 × MT) (β := (Int32 × Int32 × Int32 × MT) ⊕ (Int32 × MT)) (if r = 0 then some (0, y') else some (1, y')) = bnd (some (r, y')) := by rcases h3 with rfl | rfl <;> rfl
      refine (congrFun hr _).trans ?_
      rw [bnd_some]
      by_cases q : fsto x = -1
      · rw [if_pos q]
        by_cases q2 : fsto x' = -1
        · rw [if_pos (hs.1 q2), q2, q]
        · rw [if_neg (fun z => q2 (hs.2 z))]
          rcases h5.2 q with e | e
          · exact absurd e q2
          · rw [show fsto x' = nI j from e]
      · rw [if_neg q, show fsto x' = fsto x from h5.1 q]
    rcases h3 with rfl | rfl
    · refine ⟨j, x', y', ?_, ?_, SRx.mono h4 (by omega)⟩
      · show bnd (f_X1_live_L15 fu (nI d) cc x1 (nI d) (ins x (nI j))) _ = _
        rw [eC]; rfl
      · show bnd (f_X12_after_L36 fu M W z1 (fsto x, (1 : Int32), nI j, y)) _ = _
        rw [eM]
        obtain ⟨g2, rfl⟩ : ∃ f, g2 = f + 1 := ⟨g2 - 1, by omega⟩
        exact stop g2 (fsto x') (nI (j + 1)) y'
    · obtain ⟨c, x2, y2, c3, c4, c5⟩ := ih (j + 1) g g2 x' y' (by omega) (by omega) (by omega) h4
      refine ⟨c, x2, y2, ?_, ?_, c5⟩
      · show bnd (f_X1_live_L15 fu (nI d) cc x1 (nI d) (ins x (nI j))) _ = _
        rw [eC]; exact c3
      · show bnd (f_X12_after_L36 fu M W z1 (fsto x, (1 : Int32), nI j, y)) _ = _
        rw [eM]; exact c4
end L5
/-! ===== the beginning ===== -/
theorem cp_all {N : Nat} {f g : FN} (hN : N < 2 ^ 31) : cpi N N f g 0 0 (nI N) = some (va_cpy f g 0 0 N) := by
  unfold cpi
  have hc : ¬ nI N < 0 := nI_pos hN
  have h0 : (0 : Int32).toNatClampNeg = 0 := rfl
  rw [if_neg (fun z => by
    rcases z with z | z | z | z | z
    · exact absurd z (by decide)
    · exact absurd z (by decide)
    · exact hc z
    · rw [nI_clamp hN, h0] at z; omega
    · rw [nI_clamp hN, h0] at z; omega), nI_clamp hN, h0]
theorem cpy_e {N i : Nat} {f g : FN} (hi : i < N) : va_cpy f g 0 0 N i = f i := by
  rw [pk_cpy_in (by omega) (by omega), Nat.zero_add, Nat.sub_zero]
theorem begin_ok {fu n t : Nat} {w pu h o : Nat → Nat} {o1 p8 p9 p10 p11 p12 p13 p14 p15 : Int32} {f2 f3 f4 f5 f6 f7 wi pr ha ow : FN} {y : HT} (V : TwV n w pu h o) (hwi : ∀ i, i < n → wi i = nI (w i)) (hpr : ∀ i, i < n → pr i = nI (pu i)) (hha : ∀ i, i < 6 → ha i = nI (h i)) (how : ∀ i, i < 36 → ow i = nI (o i)) (hy : Hd t n pu o y) (hf : 100 ≤ fu) :
    ∃ (x1 : BT), f_X1_begin fu o1 f2 f3 f4 f5 f6 f7 p8 p9 p10 p11 p12 p13 p14 p15 (nI n) pr ha ow = some x1 ∧ x1.1 = nI n ∧ (∀ i, i < 6 → x1.2.1 i = nI (h i)) ∧ x1.2.2.2.2.2.2.2.2.2.2.1 = 0 ∧ SR n 0 (x1.2.2.1, x1.2.2.2.1, x1.2.2.2.2.1, x1.2.2.2.2.2.1, x1.2.2.2.2.2.2.1, x1.2.2.2.2.2.2.2.1, x1.2.2.2.2.2.2.2.2.1, x1.2.2.2.2.2.2.2.2.2.1, x1.2.2.2.2.2.2.2.2.2.2.2.1, x1.2.2.2.2.2.2.2.2.2.2.2.2.1, x1.2.2.2.2.2.2.2.2.2.2.2.2.2.1, x1.2.2.2.2.2.2.2.2.2.2.2.2.2.2) y.2.2.2 ∧ x1.2.2.2.2.2.2.2.2.2.2.2.1 = -1 := by
  obtain ⟨y1, y2, y3, ⟨a1, a2, a3, a4, a5, a6, a7⟩, y5, y6, y7, y8, y9⟩ := hy
  obtain ⟨g1, e1, g1h⟩ := fill_ok (fu := fu) (N := 6) (f := f5) (v := 6) (by decide) (by omega)
  obtain ⟨g2, e2, g2h⟩ := fill_ok (fu := fu) (N := 6) (f := f6) (v := 0) (by decide) (by omega)
  obtain ⟨g3, e3, g3h⟩ := fill_ok (fu := fu) (N := 6) (f := f7) (v := 0) (by decide) (by omega)
  have c1 : cpi 6 6 ha f2 0 0 6 = some (va_cpy ha f2 0 0 6) := cp_all (by decide)
  have c2 : cpi 6 6 pr f3 0 0 6 = some (va_cpy pr f3 0 0 6) := cp_all (by decide)
  have c3 : cpi 36 36 ow f4 0 0 36 = some (va_cpy ow f4 0 0 36) := cp_all (by decide)
  refine ⟨(nI n, va_cpy ha f2 0 0 6, va_cpy pr f3 0 0 6, va_cpy ow f4 0 0 36, g1, g2, g3, 0, 0, 0, 0, -1, 0, 0, 0), ?_, rfl, fun i hi => ?_, rfl, ⟨fun i hi => ?_, fun i hi => ?_, fun a b ha2 hb2 hab => ?_, fun i hi => ?_, fun i hi => ?_, fun i hi => ?_, ?_, ⟨0, by omega, rfl, a1, a7⟩, ⟨0, by omega, rfl, a2, Or.inl ⟨rfl, rfl⟩⟩, a4.symm, a5.symm, a6.symm⟩, rfl⟩
  · simp only [f_X1_begin, c1, c2, c3, e1, e2, e3, bnd_some]
  · show va_cpy ha f2 0 0 6 i = _
    rw [cpy_e hi]; exact hha i hi
  · show va_cpy pr f3 0 0 6 i = y.2.2.2.2.2.2.2.2.2.2.1 i
    have hn6 := V.1
    have hi : i < n := hi
    rw [cpy_e (by omega), hpr i hi, y5 i (by omega)]
  · refine ⟨o i, Nat.le_trans (V.2.2.2.2.1 i hi) (by decide), ?_, y7 i hi⟩
    show va_cpy ow f4 0 0 36 i = _
    rw [cpy_e hi]; exact how i hi
  · show va_cpy ow f4 0 0 36 (6 * a + b) = _
    rw [cpy_e (by omega), how _ (by omega), V.2.2.2.2.2.2.2 a b ha2 hb2 (by omega)]
  · exact ⟨6, Nat.le_refl _, g1h i hi, y6 i hi⟩
  · show g2 i = y.2.2.2.2.2.2.2.2.2.2.2.2.2.1 i
    rw [g2h i hi, y8 i hi]
  · show g3 i = y.2.2.2.2.2.2.2.2.2.2.2.2.2.2 i
    rw [g3h i hi, y9 i hi]
  · exact a3.symm
