/-! ===== text: class and reference together ===== -/
section TX3
variable {fu : Nat} {tp : FN} {ln flt plc : Int32} {cn : FN} {q0 : Int32} {w0 u0 h0 o0 : FN} {q1 : Int32} {w1 u1 h1 o1 : FN} {d0 : Int32} {c0 : FN} {d1 : Int32} {c1 : FN} {e0 : Int32} {l0 : FN} {e1 : Int32} {l1 : FN}
variable {mt ms fl pl mn tw wk lo : FN} {code rc len bg so mv wr mf mp far gd : Int32} {wd : Int64} {told rd : FN}
variable {p d e cf cp rl nx st tk vl q : Int32} {wi pr ha ow c l num : FN} {p2 : Int32}
theorem S_textj {j cc : Nat} (hj : j < 3) (T : TS 0 (tp, ln, flt, plc, cn, q0, w0, u0, h0, o0, q1, w1, u1, h1, o1, d0, c0, d1, c1, e0, l0, e1, l1) (mt, ms, fl, pl, mn, tw, wk, lo)) (hcc : cn j = nI cc) (hmm : mn j = nI cc) (hc2 : cc ≤ 2) (hf : 1000 ≤ fu) : ∃ (X : TxC) (Y : TxM), f_X11_text fu tp ln flt plc cn q0 w0 u0 h0 o0 q1 w1 u1 h1 o1 d0 c0 d1 c1 e0 l0 e1 l1 p wi pr ha ow d c e l cf cp num rl nx st tk vl q (nI j) p2 = some X ∧ f_X12_text fu code mt ms fl pl mn tw wk lo rc len bg so mv wd wr mf mp told rd far gd (nI j) p2 = some Y ∧ X.1 = Y.1 ∧ TS 0 (tp, X.2.1, X.2.2.1, X.2.2.2.1, X.2.2.2.2.1, X.2.2.2.2.2.1, X.2.2.2.2.2.2.1, X.2.2.2.2.2.2.2.1, X.2.2.2.2.2.2.2.2.1, X.2.2.2.2.2.2.2.2.2.1, X.2.2.2.2.2.2.2.2.2.2.1, X.2.2.2.2.2.2.2.2.2.2.2.1, X.2.2.2.2.2.2.2.2.2.2.2.2.1, X.2.2.2.2.2.2.2.2.2.2.2.2.2.1, X.2.2.2.2.2.2.2.2.2.2.2.2.2.2.1, X.2.2.2.2.2.2.2.2.2.2.2.2.2.2.2.1, X.2.2.2.2.2.2.2.2.2.2.2.2.2.2.2.2.1, X.2.2.2.2.2.2.2.2.2.2.2.2.2.2.2.2.2.1, X.2.2.2.2.2.2.2.2.2.2.2.2.2.2.2.2.2.2.1, X.2.2.2.2.2.2.2.2.2.2.2.2.2.2.2.2.2.2.2.1, X.2.2.2.2.2.2.2.2.2.2.2.2.2.2.2.2.2.2.2.2.1, X.2.2.2.2.2.2.2.2.2.2.2.2.2.2.2.2.2.2.2.2.2.1, X.2.2.2.2.2.2.2.2.2.2.2.2.2.2.2.2.2.2.2.2.2.2.1) (mt, Y.2.2.1, Y.2.2.2.1, Y.2.2.2.2.1, Y.2.2.2.2.2.1, Y.2.2.2.2.2.2.1, Y.2.2.2.2.2.2.2.1, Y.2.2.2.2.2.2.2.2.1) ∧ UnR (mt, ms, fl, pl, mn, tw, wk, lo) (mt, Y.2.2.1, Y.2.2.2.1, Y.2.2.2.2.1, Y.2.2.2.2.2.1, Y.2.2.2.2.2.2.1, Y.2.2.2.2.2.2.2.1, Y.2.2.2.2.2.2.2.2.1) := by
  have T0 := T
  obtain ⟨⟨L, hL, hl, hs, hB⟩, -⟩ := T
  have hl : ln = nI L := hl
  have hs : ms 0 = nI L := hs
  obtain ⟨B, hB⟩ : ∃ B : Nat → Nat, ∀ i, i < L → B i < 256 ∧ tp i = sbN (B i) ∧ mt i = sbN (B i) := by
    refine ⟨fun i => if h : i < L then Classical.choose (hB i h) else 0, fun i hi => ?_⟩
    have h := Classical.choose_spec (hB i hi)
    dsimp only
    rw [dif_pos hi]
    refine ⟨h.1, h.2.1, ?_⟩
    exact (congrArg mt (show i = 600 * 0 + i by omega)).trans h.2.2
  rcases place_ex (fu := fu) (cn := cn) (mn := mn) hj hc2 hcc hmm p2 with ⟨g1, g2⟩ | ⟨v, c', cn', g1, g2, g3, g4, g5, g6, g7, g8⟩
  · exact X_text0 T0 g1 (Or.inr ⟨j, cc, rfl, hj, hmm, g2⟩)
  · have hM := M_text (fu := fu) (j := j) (c := cc) (v := v) (c' := c') (mn := mn) (p2 := p2) (code := code) (mt := mt) (ms := ms) (fl := fl) (pl := pl) (tw := tw) (wk := wk) (lo := lo) (rc := rc) (len := len) (bg := bg) (so := so) (mv := mv) (wr := wr) (mf := mf) (mp := mp) (far := far) (gd := gd) (wd := wd) (told := told) (rd := rd) hj hmm (by
      rcases g8 with ⟨k1, k2, k3, k4⟩ | k
      · exact Or.inl ⟨k1, k2, hc2, k3, k4⟩
      · exact Or.inr k)
    obtain ⟨x2, y, r1, r2, K⟩ := J_text (fu := fu) (L := L) (tape := tp) (mt := mt) (p := p) (d := d) (e := e) (cf := cf) (cp := cp) (len := rl) (nx := nx) (st := st) (tk := tk) (vl := vl) (q := q) (wi := wi) (pr := pr) (ha := ha) (ow := ow) (c := c) (l := l) (num := num) (fl := upd fl 0 0) (pl := upd pl 0 (-1)) (rc := rc) (bg := bg) (so := so) (mv := mv) (wr := wr) (mf := mf) (mp := mp) (far := far) (gd := gd) (wd := wd) (told := told) (rd := rd) (p1 := j) (by omega) hB hL hf
    rw [← hl] at r1
    rw [← hs] at r2
    rcases K with ⟨k1, k2, k3, k4⟩ | ⟨k1, k9, k2, k3, k4, G1, G2, G3⟩
    · exact X_text1 (cc := cc) T0 g1 hM r1 r2 k1 k2 k3 k4
    · rcases (show j = 0 ∨ j = 1 ∨ j = 2 by omega) with rfl | rfl | rfl
      · rcases (show v = 0 ∨ v = 1 by omega) with rfl | rfl
        · exact X_good00 T0 hf g1 hM r1 r2 k1 k9 k2 k3 k4 (G1 rfl) g5 g3 g2 g4 hcc hc2 g6 g7
        · exact X_good01 T0 hf g1 hM r1 r2 k1 k9 k2 k3 k4 (G1 rfl) g5 g3 g2 g4 hcc hc2 g6 g7
      · rcases (show v = 0 ∨ v = 1 by omega) with rfl | rfl
        · exact X_good10 T0 hf g1 hM r1 r2 k1 k9 k2 k3 k4 (G2 rfl) g5 g3 g2 g4 hcc hc2 g6 g7
        · exact X_good11 T0 hf g1 hM r1 r2 k1 k9 k2 k3 k4 (G2 rfl) g5 g3 g2 g4 hcc hc2 g6 g7
      · rcases (show v = 0 ∨ v = 1 by omega) with rfl | rfl
        · exact X_good20 T0 hf g1 hM r1 r2 k1 k9 k2 k3 k4 (G3 rfl) g5 g3 g2 g4 hcc hc2 g6 g7
        · exact X_good21 T0 hf g1 hM r1 r2 k1 k9 k2 k3 k4 (G3 rfl) g5 g3 g2 g4 hcc hc2 g6 g7
theorem S_text {p1 : Int32} (T : TS 0 (tp, ln, flt, plc, cn, q0, w0, u0, h0, o0, q1, w1, u1, h1, o1, d0, c0, d1, c1, e0, l0, e1, l1) (mt, ms, fl, pl, mn, tw, wk, lo)) (hf : 1000 ≤ fu) : ∃ (X : TxC) (Y : TxM), f_X11_text fu tp ln flt plc cn q0 w0 u0 h0 o0 q1 w1 u1 h1 o1 d0 c0 d1 c1 e0 l0 e1 l1 p wi pr ha ow d c e l cf cp num rl nx st tk vl q p1 p2 = some X ∧ f_X12_text fu code mt ms fl pl mn tw wk lo rc len bg so mv wd wr mf mp told rd far gd p1 p2 = some Y ∧ X.1 = Y.1 ∧ TS 0 (tp, X.2.1, X.2.2.1, X.2.2.2.1, X.2.2.2.2.1, X.2.2.2.2.2.1, X.2.2.2.2.2.2.1, X.2.2.2.2.2.2.2.1, X.2.2.2.2.2.2.2.2.1, X.2.2.2.2.2.2.2.2.2.1, X.2.2.2.2.2.2.2.2.2.2.1, X.2.2.2.2.2.2.2.2.2.2.2.1, X.2.2.2.2.2.2.2.2.2.2.2.2.1, X.2.2.2.2.2.2.2.2.2.2.2.2.2.1, X.2.2.2.2.2.2.2.2.2.2.2.2.2.2.1, X.2.2.2.2.2.2.2.2.2.2.2.2.2.2.2.1, X.2.2.2.2.2.2.2.2.2.2.2.2.2.2.2.2.1, X.2.2.2.2.2.2.2.2.2.2.2.2.2.2.2.2.2.1, X.2.2.2.2.2.2.2.2.2.2.2.2.2.2.2.2.2.2.1, X.2.2.2.2.2.2.2.2.2.2.2.2.2.2.2.2.2.2.2.1, X.2.2.2.2.2.2.2.2.2.2.2.2.2.2.2.2.2.2.2.2.1, X.2.2.2.2.2.2.2.2.2.2.2.2.2.2.2.2.2.2.2.2.2.1, X.2.2.2.2.2.2.2.2.2.2.2.2.2.2.2.2.2.2.2.2.2.2.1) (mt, Y.2.2.1, Y.2.2.2.1, Y.2.2.2.2.1, Y.2.2.2.2.2.1, Y.2.2.2.2.2.2.1, Y.2.2.2.2.2.2.2.1, Y.2.2.2.2.2.2.2.2.1) ∧ UnR (mt, ms, fl, pl, mn, tw, wk, lo) (mt, Y.2.2.1, Y.2.2.2.1, Y.2.2.2.2.1, Y.2.2.2.2.2.1, Y.2.2.2.2.2.2.1, Y.2.2.2.2.2.2.2.1, Y.2.2.2.2.2.2.2.2.1) := by
  rcases rng (fu := fu) p1 2 (by decide) with ⟨j, hj, rfl, -⟩ | ⟨i1, i2⟩
  · obtain ⟨cc, k1, k2, k3⟩ : ∃ cc, cc ≤ 2 ∧ cn j = nI cc ∧ mn j = nI cc := by
      obtain ⟨-, -, -, ⟨a, a1, a2, a3, -⟩, ⟨b, b1, b2, b3, -⟩, ⟨f, f1, f2, f3, -⟩, -⟩ := T
      rcases (show j = 0 ∨ j = 1 ∨ j = 2 by omega) with rfl | rfl | rfl
      · exact ⟨a, a1, a2, a3⟩
      · exact ⟨b, b1, b2, b3⟩
      · exact ⟨f, f1, f2, f3⟩
    exact S_textj (by omega) T k2 k3 k1 hf
  · refine X_text0 T ?_ (Or.inl i1)
    unfold f_X8_hasPlaceFor
    rcases i2 with i2 | ⟨i2, i3, -⟩
    · rw [if_pos i2]
    · rw [if_neg i2, if_neg (show ¬ p1 ≤ (2 : Int32) from i3)]
end TX3
