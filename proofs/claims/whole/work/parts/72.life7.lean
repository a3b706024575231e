section L10
variable {fu n t d wn m : Nat} {w pu h o : Nat → Nat} {o1 p8 p9 p10 p11 p12 p13 p14 p15 p16 dd : Int32} {f2 f3 f4 f5 f6 f7 wi pr ha ow cc W M : FN} {y : HT}
theorem live_eq (V : TwV n w pu h o) (hwi : ∀ i, i < n → wi i = nI (w i)) (hpr : ∀ i, i < n → pr i = nI (pu i)) (hha : ∀ i, i < 6 → ha i = nI (h i)) (how : ∀ i, i < 36 → ow i = nI (o i)) (hM : ∀ i, i < 6 → M (55 * t + 13 + i) = nI (h i)) (ht : t < 8) (hy : Hd t n pu o y) (hw : wn < 2) (K : WkR d dd cc W (161 * wn)) (hm : m ≤ d) (hf : 200 ≤ fu) : ∃ (c : Nat) (x' : CT) (y' : MT) (h' : FN), c ≤ m ∧ f_X1_live fu o1 f2 f3 f4 f5 f6 f7 p8 p9 p10 p11 p12 p13 p14 p15 (nI n) pr ha ow (nI d) cc (nI m) = some (nI c, nI n, h', ins x' (nI c)) ∧ f_X12_play fu M W (nI t) (nI n) y.2.2.2.1 y.2.2.2.2.1 y.2.2.2.2.2.1 y.2.2.2.2.2.2.1 y.2.2.2.2.2.2.2.1 y.2.2.2.2.2.2.2.2.1 y.2.2.2.2.2.2.2.2.2.1 y.2.2.2.2.2.2.2.2.2.2.1 y.2.2.2.2.2.2.2.2.2.2.2.1 y.2.2.2.2.2.2.2.2.2.2.2.2.1 y.2.2.2.2.2.2.2.2.2.2.2.2.2.1 y.2.2.2.2.2.2.2.2.2.2.2.2.2.2 (nI wn) (nI m) = some (nI c, y') ∧ SR n 41 x' y' := by
  obtain ⟨x1, e1, e2, e3, e4, e5, e6⟩ := begin_ok (fu := fu) (o1 := o1) (f2 := f2) (f3 := f3) (f4 := f4) (f5 := f5) (f6 := f6) (f7 := f7) (p8 := p8) (p9 := p9) (p10 := p10) (p11 := p11) (p12 := p12) (p13 := p13) (p14 := p14) (p15 := p15) V hwi hpr hha how hy (by omega)
  have hd := K.1
  obtain ⟨c, x', y', c1, c2, c3, c4, c5⟩ := live_play (fu := fu) (x1 := x1) (ha := x1.2.1) (M := M) (t := t) e2 rfl e3 (fun i hi => V.h64 hi) hM ht V.1 hw K hm (by omega) m 0 fu fu _ _ (by omega) (by omega) (by omega) e5
  refine ⟨c, x', y', x1.2.1, c2, ?_, ?_, c5⟩
  · unfold f_X1_live
    rw [e1, bnd_some]
    unfold ltn
    rw [jmin_n (by omega) (by omega), Nat.min_eq_left hm]
    have c3' : lp (f_X1_live_L15 fu (nI d) cc x1 (nI m)) fu (x1.2.2.1, x1.2.2.2.1, x1.2.2.2.2.1, x1.2.2.2.2.2.1, x1.2.2.2.2.2.2.1, x1.2.2.2.2.2.2.2.1, x1.2.2.2.2.2.2.2.2.1, x1.2.2.2.2.2.2.2.2.2.1, x1.2.2.2.2.2.2.2.2.2.2.1, x1.2.2.2.2.2.2.2.2.2.2.2.1, x1.2.2.2.2.2.2.2.2.2.2.2.2.1, x1.2.2.2.2.2.2.2.2.2.2.2.2.2.1, x1.2.2.2.2.2.2.2.2.2.2.2.2.2.2) = some (ins x' (nI c)) := by
      rw [e4]
      exact c3
    show bnd (lp _ fu _) _ = _
    rw [c3', bnd_some, e2]
    rfl
  · unfold f_X12_play
    have c4' : lp (f_X12_play_L2 fu M W (nI t) (nI n) (nI wn) (nI m)) fu ((0 : Int32), y.2.2.2.1, y.2.2.2.2.1, y.2.2.2.2.2.1, y.2.2.2.2.2.2.1, y.2.2.2.2.2.2.2.1, y.2.2.2.2.2.2.2.2.1, y.2.2.2.2.2.2.2.2.2.1, y.2.2.2.2.2.2.2.2.2.2.1, y.2.2.2.2.2.2.2.2.2.2.2.1, y.2.2.2.2.2.2.2.2.2.2.2.2.1, y.2.2.2.2.2.2.2.2.2.2.2.2.2.1, y.2.2.2.2.2.2.2.2.2.2.2.2.2.2) = some (nI c, y') := c4
    rw [c4', bnd_some]
theorem after_eq {z : Int32 × Int32 × Int32 × Int32 × Int32 × Int32 × Int32 × Int32 × Int32 × Int32 × FN × FN × FN × FN × FN × Int32} (V : TwV n w pu h o) (hwi : ∀ i, i < n → wi i = nI (w i)) (hpr : ∀ i, i < n → pr i = nI (pu i)) (hha : ∀ i, i < 6 → ha i = nI (h i)) (how : ∀ i, i < 36 → ow i = nI (o i)) (hM : ∀ i, i < 6 → M (55 * t + 13 + i) = nI (h i)) (ht : t < 8) (hy : Hd t n pu o y) (hw : wn < 2) (K : WkR d dd cc W (161 * wn)) (z2 : z.2.1 = nI t) (z3 : z.2.2.1 = nI n) (z4 : z.2.2.2.2.2.2.2.2.2.2.2.2.2.2.2 = nI wn) (hf : 200 ≤ fu) : ∃ (c : Nat) (x' : CT) (y' : MT) (h' : FN), f_X1_live fu o1 f2 f3 f4 f5 f6 f7 p8 p9 p10 p11 p12 p13 p14 p15 (nI n) pr ha ow (nI d) cc (nI d) = some (nI c, nI n, h', ins x' (nI c)) ∧ lp (f_X12_after_L36 fu M W z) fu ((-1 : Int32), (1 : Int32), (0 : Int32), y.2.2.2.1, y.2.2.2.2.1, y.2.2.2.2.2.1, y.2.2.2.2.2.2.1, y.2.2.2.2.2.2.2.1, y.2.2.2.2.2.2.2.2.1, y.2.2.2.2.2.2.2.2.2.1, y.2.2.2.2.2.2.2.2.2.2.1, y.2.2.2.2.2.2.2.2.2.2.2.1, y.2.2.2.2.2.2.2.2.2.2.2.2.1, y.2.2.2.2.2.2.2.2.2.2.2.2.2.1, y.2.2.2.2.2.2.2.2.2.2.2.2.2.2) = some (fsto x', y') ∧ SR n 41 x' y' := by
  obtain ⟨x1, e1, e2, e3, e4, e5, e6⟩ := begin_ok (fu := fu) (o1 := o1) (f2 := f2) (f3 := f3) (f4 := f4) (f5 := f5) (f6 := f6) (f7 := f7) (p8 := p8) (p9 := p9) (p10 := p10) (p11 := p11) (p12 := p12) (p13 := p13) (p14 := p14) (p15 := p15) V hwi hpr hha how hy (by omega)
  have hd := K.1
  obtain ⟨c, x', y', c3, c4, c5⟩ := live_after (fu := fu) (x1 := x1) (z1 := z) (ha := x1.2.1) (M := M) (t := t) e2 rfl z2 z3 z4 e3 (fun i hi => V.h64 hi) hM ht V.1 hw K (by omega) d 0 fu fu _ _ (by omega) (by omega) (by omega) e5
  refine ⟨c, x', y', x1.2.1, ?_, ?_, c5⟩
  · unfold f_X1_live
    rw [e1, bnd_some]
    unfold ltn
    rw [jmin_n (by omega) (by omega), Nat.min_eq_left (Nat.le_refl d)]
    have c3' : lp (f_X1_live_L15 fu (nI d) cc x1 (nI d)) fu (x1.2.2.1, x1.2.2.2.1, x1.2.2.2.2.1, x1.2.2.2.2.2.1, x1.2.2.2.2.2.2.1, x1.2.2.2.2.2.2.2.1, x1.2.2.2.2.2.2.2.2.1, x1.2.2.2.2.2.2.2.2.2.1, x1.2.2.2.2.2.2.2.2.2.2.1, x1.2.2.2.2.2.2.2.2.2.2.2.1, x1.2.2.2.2.2.2.2.2.2.2.2.2.1, x1.2.2.2.2.2.2.2.2.2.2.2.2.2.1, x1.2.2.2.2.2.2.2.2.2.2.2.2.2.2) = some (ins x' (nI c)) := by
      rw [e4]
      exact c3
    show bnd (lp _ fu _) _ = _
    rw [c3', bnd_some, e2]
    rfl
  · have e7 : fsto (x1.2.2.1, x1.2.2.2.1, x1.2.2.2.2.1, x1.2.2.2.2.2.1, x1.2.2.2.2.2.2.1, x1.2.2.2.2.2.2.2.1, x1.2.2.2.2.2.2.2.2.1, x1.2.2.2.2.2.2.2.2.2.1, x1.2.2.2.2.2.2.2.2.2.2.2.1, x1.2.2.2.2.2.2.2.2.2.2.2.2.1, x1.2.2.2.2.2.2.2.2.2.2.2.2.2.1, x1.2.2.2.2.2.2.2.2.2.2.2.2.2.2) = -1 := e6
    rw [e7] at c4
    exact c4
theorem drawn_eq (V : TwV n w pu h o) (hwi : ∀ i, i < n → wi i = nI (w i)) (hpr : ∀ i, i < n → pr i = nI (pu i)) (hha : ∀ i, i < 6 → ha i = nI (h i)) (how : ∀ i, i < 36 → ow i = nI (o i)) (hM : ∀ i, i < 6 → M (55 * t + 13 + i) = nI (h i)) (ht : t < 8) (hy : Hd t n pu o y) (seed : Int32) (hm : m ≤ 60) (hf : 200 ≤ fu) : ∃ (x' : CT) (y' : MT) (s' : Int32) (h' : FN), f_X1_drift fu o1 f2 f3 f4 f5 f6 f7 p8 p9 p10 p11 p12 p13 p14 p15 p16 (nI n) pr ha ow seed (nI m) = some (nI n, h', x'.1, x'.2.1, x'.2.2.1, x'.2.2.2.1, x'.2.2.2.2.1, x'.2.2.2.2.2.1, x'.2.2.2.2.2.2.1, x'.2.2.2.2.2.2.2.1, (0 : Int32), x'.2.2.2.2.2.2.2.2.1, x'.2.2.2.2.2.2.2.2.2.1, x'.2.2.2.2.2.2.2.2.2.2.1, x'.2.2.2.2.2.2.2.2.2.2.2, s') ∧ lp (f_X12_drawn_L33 fu M (nI m) y) fu ((0 : Int32), y.2.2.2.1, y.2.2.2.2.1, y.2.2.2.2.2.1, y.2.2.2.2.2.2.1, y.2.2.2.2.2.2.2.1, y.2.2.2.2.2.2.2.2.1, y.2.2.2.2.2.2.2.2.2.1, y.2.2.2.2.2.2.2.2.2.2.1, y.2.2.2.2.2.2.2.2.2.2.2.1, y.2.2.2.2.2.2.2.2.2.2.2.2.1, y.2.2.2.2.2.2.2.2.2.2.2.2.2.1, y.2.2.2.2.2.2.2.2.2.2.2.2.2.2, seed) = some (appM y' s') ∧ SR n 60 x' y' := by
  obtain ⟨x1, e1, e2, e3, e4, e5, e6⟩ := begin_ok (fu := fu) (o1 := o1) (f2 := f2) (f3 := f3) (f4 := f4) (f5 := f5) (f6 := f6) (f7 := f7) (p8 := p8) (p9 := p9) (p10 := p10) (p11 := p11) (p12 := p12) (p13 := p13) (p14 := p14) (p15 := p15) V hwi hpr hha how hy (by omega)
  obtain ⟨x', y', s', c3, c4, c5⟩ := drift_drawn (fu := fu) (x1 := x1) (z := y) (ha := x1.2.1) (M := M) (t := t) e2 rfl e4 hy.2.1 hy.2.2.1 e3 (fun i hi => V.h64 hi) hM ht V.1 hm (by omega) m 0 fu fu _ _ seed (by omega) (by omega) (by omega) e5
  refine ⟨x', y', s', x1.2.1, ?_, c4, c5⟩
  unfold f_X1_drift
  rw [e1, bnd_some]
  have c3' : lp (f_X1_drift_L13 fu (nI m) x1) fu ((0 : Int32), x1.2.2.1, x1.2.2.2.1, x1.2.2.2.2.1, x1.2.2.2.2.2.1, x1.2.2.2.2.2.2.1, x1.2.2.2.2.2.2.2.1, x1.2.2.2.2.2.2.2.2.1, x1.2.2.2.2.2.2.2.2.2.1, x1.2.2.2.2.2.2.2.2.2.2.2.1, x1.2.2.2.2.2.2.2.2.2.2.2.2.1, x1.2.2.2.2.2.2.2.2.2.2.2.2.2.1, x1.2.2.2.2.2.2.2.2.2.2.2.2.2.2, seed) = some (app x' s') := c3
  rw [c3', bnd_some, e2, e4]
  rfl
/-- what is told after a week -/
theorem tellAfter_eq {x : CT} {y : MT} {j : Nat} (S : SR n 41 x y) (hn : n ≤ 6) (hj : j ≤ 7) (hf : 100 ≤ fu) : ∃ v, f_X1_tellAfter fu (nI n) x.2.1 x.2.2.2.1 x.2.2.2.2.1 x.2.2.2.2.2.2.1 x.2.2.2.2.2.2.2.2.1 x.2.2.2.2.2.2.2.2.2.1 x.2.2.2.2.2.2.2.2.2.2.1 x.2.2.2.2.2.2.2.2.2.2.2 (nI j) = some v ∧
    (j = 0 → fsto x = v) ∧ (j = 1 → f_X12_mostOf fu (nI n) y.2.2.2.2.2.2.2.2.2.2.1 y.2.2.2.2.2.2.2.2.2.2.2 0 = some v) ∧ (j = 2 → f_X12_mostOf fu (nI n) y.2.2.2.2.2.2.2.2.2.2.1 y.2.2.2.2.2.2.2.2.2.2.2 1 = some v) ∧ (j = 3 → y.2.2.2.1 = v) ∧ (j = 4 → y.2.2.2.2.1 = v) ∧ (j = 5 → y.2.2.2.2.2.1 = v) ∧ (j = 6 → y.2.2.2.2.2.2.1 = v) ∧ (j = 7 → f_X12_freeOnes fu (nI n) y.2.2.2.2.2.2.2.2.2.1 = some v) := by
  obtain ⟨o, oa, ob, oc, od⟩ := SR_o S
  obtain ⟨s1, s2, s3, s4, s5, s6, s7, ⟨c, c1, c2, c3, c4⟩, ⟨s, h1, h2, h3, h4⟩, s10, s11, s12⟩ := S
  rcases (show j = 0 ∨ j = 1 ∨ j = 2 ∨ j = 3 ∨ j = 4 ∨ j = 5 ∨ j = 6 ∨ j = 7 by omega) with rfl | rfl | rfl | rfl | rfl | rfl | rfl | rfl
  · exact ⟨_, rfl, fun _ => rfl, fun z => absurd z (by decide), fun z => absurd z (by decide), fun z => absurd z (by decide), fun z => absurd z (by decide), fun z => absurd z (by decide), fun z => absurd z (by decide), fun z => absurd z (by decide)⟩
  · refine ⟨(fldN (gMo x.2.2.2.1) 0 n (-1, 0)).1, ?_, fun z => absurd z (by decide), fun _ => e_X12_mostOf (f := x.2.2.2.1) (fun i hi => by rw [if_pos i00]; exact s5 i hi) hn hf, fun z => absurd z (by decide), fun z => absurd z (by decide), fun z => absurd z (by decide), fun z => absurd z (by decide), fun z => absurd z (by decide), fun z => absurd z (by decide)⟩
    unfold f_X1_tellAfter
    rw [if_neg (by decide), if_pos (by decide), e_X1_mostOften hn hf, bnd_some]
  · refine ⟨(fldN (gMo x.2.2.2.2.1) 0 n (-1, 0)).1, ?_, fun z => absurd z (by decide), fun z => absurd z (by decide), fun _ => e_X12_mostOf (f := x.2.2.2.2.1) (fun i hi => by rw [if_neg i10]; exact s6 i hi) hn hf, fun z => absurd z (by decide), fun z => absurd z (by decide), fun z => absurd z (by decide), fun z => absurd z (by decide), fun z => absurd z (by decide)⟩
    unfold f_X1_tellAfter
    rw [if_neg (by decide), if_neg (by decide), if_pos (by decide), e_X1_mostOften hn hf, bnd_some]
  · exact ⟨_, rfl, fun z => absurd z (by decide), fun z => absurd z (by decide), fun z => absurd z (by decide), fun _ => s10.symm, fun z => absurd z (by decide), fun z => absurd z (by decide), fun z => absurd z (by decide), fun z => absurd z (by decide)⟩
  · exact ⟨_, rfl, fun z => absurd z (by decide), fun z => absurd z (by decide), fun z => absurd z (by decide), fun z => absurd z (by decide), fun _ => s11.symm, fun z => absurd z (by decide), fun z => absurd z (by decide), fun z => absurd z (by decide)⟩
  · exact ⟨_, rfl, fun z => absurd z (by decide), fun z => absurd z (by decide), fun z => absurd z (by decide), fun z => absurd z (by decide), fun z => absurd z (by decide), fun _ => s12.symm, fun z => absurd z (by decide), fun z => absurd z (by decide)⟩
  · refine ⟨nI (c / 10), ?_, fun z => absurd z (by decide), fun z => absurd z (by decide), fun z => absurd z (by decide), fun z => absurd z (by decide), fun z => absurd z (by decide), fun z => absurd z (by decide), fun _ => c4, fun z => absurd z (by decide)⟩
    unfold f_X1_tellAfter
    rw [if_neg (by decide), if_neg (by decide), if_neg (by decide), if_neg (by decide), if_neg (by decide), if_neg (by decide), if_pos (by decide), c2, show (10 : Int32) = nI 10 from rfl, pk_div (by omega) (by decide) (by decide)]
  · refine ⟨nI (fldN (gFr n o) 0 n 0), ?_, fun z => absurd z (by decide), fun z => absurd z (by decide), fun z => absurd z (by decide), fun z => absurd z (by decide), fun z => absurd z (by decide), fun z => absurd z (by decide), fun z => absurd z (by decide), fun _ => e_X12_freeOnes oc oa hn hf⟩
    unfold f_X1_tellAfter
    rw [if_neg (by decide), if_neg (by decide), if_neg (by decide), if_neg (by decide), if_neg (by decide), if_neg (by decide), if_neg (by decide), if_pos (by decide), e_X1_free ob oa hn hf, bnd_some]
end L10
/-! ===== which week, which log ===== -/
def WI (cn : FN) (d0 : Int32) (c0 : FN) (d1 : Int32) (c1 mn W : FN) : Prop := ∃ c, c ≤ 2 ∧ cn 1 = nI c ∧ mn 1 = nI c ∧ (0 < c → ∃ d, WkR d d0 c0 W 0) ∧ (1 < c → ∃ d, WkR d d1 c1 W 161)
theorem selW {fu : Nat} {cn : FN} {d0 : Int32} {c0 : FN} {d1 : Int32} {c1 mn W : FN} (I : WI cn d0 c0 d1 c1 mn W) (x : Int32) :
    (f_X8_weekAt fu cn x = some (-1) ∧ ∀ z, f_X12_hasWeek fu mn z x = some (0, x)) ∨ (x = nI 0 ∧ f_X8_weekAt fu cn x = some 0 ∧ (∀ z, f_X12_hasWeek fu mn z (nI 0) = some (1, nI 0)) ∧ ∃ d, WkR d d0 c0 W (161 * 0)) ∨ (x = nI 1 ∧ f_X8_weekAt fu cn x = some 1 ∧ (∀ z, f_X12_hasWeek fu mn z (nI 1) = some (1, nI 1)) ∧ ∃ d, WkR d d1 c1 W (161 * 1)) := by
  obtain ⟨c, hc, e1, e2, t0, t1⟩ := I
  rcases sel_is (fu := fu) (sr := 1) (by decide) hc e1 e2 x with ⟨k, hk, rfl, q1, q2⟩ | ⟨q1, q2⟩
  · rcases (show k = 0 ∨ k = 1 by omega) with rfl | rfl
    · refine Or.inr (Or.inl ⟨rfl, ?_, fun z => ?_, t0 hk⟩)
      · unfold f_X8_weekAt
        rw [show (1 : Int32) = nI 1 from rfl, q1]
        rfl
      · unfold f_X12_hasWeek
        rw [show (1 : Int32) = nI 1 from rfl, q2]
        rfl
    · refine Or.inr (Or.inr ⟨rfl, ?_, fun z => ?_, t1 hk⟩)
      · unfold f_X8_weekAt
        rw [show (1 : Int32) = nI 1 from rfl, q1]
        rfl
      · unfold f_X12_hasWeek
        rw [show (1 : Int32) = nI 1 from rfl, q2]
        rfl
  · refine Or.inl ⟨?_, fun z => ?_⟩
    · unfold f_X8_weekAt
      rw [show (1 : Int32) = nI 1 from rfl, q1]
      rfl
    · unfold f_X12_hasWeek
      rw [show (1 : Int32) = nI 1 from rfl, q2]
      rfl
/-- a log in class and reference -/
def LgR (f : Nat) (ff : Int32) (cc L : FN) (b : Nat) : Prop := f ≤ 8 ∧ ff = nI f ∧ L b = nI f ∧ (∀ i, i < 3 * f → cc i = L (b + 1 + i)) ∧ ∀ j, j < f → (cc (3 * j) = 0 ∨ cc (3 * j) = 1) ∧ (∃ a, a < 6 ∧ cc (3 * j + 1) = nI a) ∧ (∃ a, a < 6 ∧ cc (3 * j + 2) = nI a)
def LI (cn : FN) (d0 : Int32) (c0 : FN) (d1 : Int32) (c1 mn L : FN) : Prop := ∃ c, c ≤ 2 ∧ cn 2 = nI c ∧ mn 2 = nI c ∧ (0 < c → ∃ d, LgR d d0 c0 L 0) ∧ (1 < c → ∃ d, LgR d d1 c1 L 25)
theorem selL {fu : Nat} {cn : FN} {d0 : Int32} {c0 : FN} {d1 : Int32} {c1 mn L : FN} (I : LI cn d0 c0 d1 c1 mn L) (x : Int32) :
    (f_X8_logAt fu cn x = some (-1) ∧ ∀ z, f_X12_hasLog fu mn z x = some (0, x)) ∨ (x = nI 0 ∧ f_X8_logAt fu cn x = some 0 ∧ (∀ z, f_X12_hasLog fu mn z (nI 0) = some (1, nI 0)) ∧ ∃ d, LgR d d0 c0 L (25 * 0)) ∨ (x = nI 1 ∧ f_X8_logAt fu cn x = some 1 ∧ (∀ z, f_X12_hasLog fu mn z (nI 1) = some (1, nI 1)) ∧ ∃ d, LgR d d1 c1 L (25 * 1)) := by
  obtain ⟨c, hc, e1, e2, t0, t1⟩ := I
  rcases sel_is (fu := fu) (sr := 2) (by decide) hc e1 e2 x with ⟨k, hk, rfl, q1, q2⟩ | ⟨q1, q2⟩
  · rcases (show k = 0 ∨ k = 1 by omega) with rfl | rfl
    · refine Or.inr (Or.inl ⟨rfl, ?_, fun z => ?_, t0 hk⟩)
      · unfold f_X8_logAt
        rw [show (2 : Int32) = nI 2 from rfl, q1]
        rfl
      · unfold f_X12_hasLog
        rw [show (2 : Int32) = nI 2 from rfl, q2]
        rfl
    · refine Or.inr (Or.inr ⟨rfl, ?_, fun z => ?_, t1 hk⟩)
      · unfold f_X8_logAt
        rw [show (2 : Int32) = nI 2 from rfl, q1]
        rfl
      · unfold f_X12_hasLog
        rw [show (2 : Int32) = nI 2 from rfl, q2]
        rfl
  · refine Or.inl ⟨?_, fun z => ?_⟩
    · unfold f_X8_logAt
      rw [show (2 : Int32) = nI 2 from rfl, q1]
      rfl
    · unfold f_X12_hasLog
      rw [show (2 : Int32) = nI 2 from rfl, q2]
      rfl
/-- week and town laid out together -/
theorem ok_lay {fu n t wn : Nat} {w pu h o : Nat → Nat} {M many : FN} {a1 a2 a3 a4 a5 a6 a7 a8 a9 a10 : Int32} {b1 b2 b3 b4 b5 : FN} (hM : TwM n w pu h o M (55 * t)) (ht : t < 2) (his : f_X12_is fu many 0 (nI t) = some 1) (hwk : ∀ z, f_X12_hasWeek fu many z (nI wn) = some (1, nI wn)) (hf : 100 ≤ fu) : ok (f_X12_layAll fu many M a1 a2 a3 a4 a5 a6 a7 a8 a9 b1 b2 b3 b4 b5 a10 (nI t) (nI wn)) (fun z => ∃ y : HT, Hd t n pu o y ∧ z = ((1 : Int32), y.2.1, y.2.2.1, y.2.2.2.1, y.2.2.2.2.1, y.2.2.2.2.2.1, y.2.2.2.2.2.2.1, y.2.2.2.2.2.2.2.1, y.2.2.2.2.2.2.2.2.1, y.2.2.2.2.2.2.2.2.2.1, y.2.2.2.2.2.2.2.2.2.2.1, y.2.2.2.2.2.2.2.2.2.2.2.1, y.2.2.2.2.2.2.2.2.2.2.2.2.1, y.2.2.2.2.2.2.2.2.2.2.2.2.2.1, y.2.2.2.2.2.2.2.2.2.2.2.2.2.2, nI wn)) := by
  unfold f_X12_layAll
  refine ok_bnd (ok_eq (hwk _) ?_)
  rw [if_neg i10]
  refine ok_bnd (ok_mono (ok_hand hM ht his hf) ?_)
  intro y hy
  rw [if_neg (by rw [hy.1]; exact i10)]
  exact ok_some ⟨y, hy, rfl⟩
theorem no_lay1 {fu : Nat} {M many : FN} {a1 a2 a3 a4 a5 a6 a7 a8 a9 a10 x1 x2 : Int32} {b1 b2 b3 b4 b5 : FN} (hwk : ∀ z, f_X12_hasWeek fu many z x2 = some (0, x2)) : ok (f_X12_layAll fu many M a1 a2 a3 a4 a5 a6 a7 a8 a9 b1 b2 b3 b4 b5 a10 x1 x2) (fun z => z.1 = 0) := by
  unfold f_X12_layAll
  refine ok_bnd (ok_eq (hwk _) ?_)
  rw [if_pos i00]
  exact ok_some rfl
theorem no_lay2 {fu : Nat} {M many : FN} {a1 a2 a3 a4 a5 a6 a7 a8 a9 a10 x1 x2 : Int32} {b1 b2 b3 b4 b5 : FN} (hwk : ∀ z, f_X12_hasWeek fu many z x2 = some (1, x2)) (his : f_X12_is fu many 0 x1 = some 0) : ok (f_X12_layAll fu many M a1 a2 a3 a4 a5 a6 a7 a8 a9 b1 b2 b3 b4 b5 a10 x1 x2) (fun z => z.1 = 0) := by
  unfold f_X12_layAll
  refine ok_bnd (ok_eq (hwk _) ?_)
  rw [if_neg i10]
  refine ok_bnd (ok_mono (no_hand his) ?_)
  intro y hy
  rw [if_pos hy]
  exact ok_some rfl
