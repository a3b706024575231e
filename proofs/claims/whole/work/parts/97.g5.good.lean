/-! ===== text: what is told goes to its place, both sides ===== -/
section TX2
variable {fu : Nat} {tp : FN} {ln flt plc : Int32} {cn : FN} {q0 : Int32} {w0 u0 h0 o0 : FN} {q1 : Int32} {w1 u1 h1 o1 : FN} {d0 : Int32} {c0 : FN} {d1 : Int32} {c1 : FN} {e0 : Int32} {l0 : FN} {e1 : Int32} {l1 : FN}
variable {mt ms fl pl mn tw wk lo : FN} {code rc len bg so mv wr mf mp far gd : Int32} {wd : Int64} {told rd : FN}
variable {p d e cf cp rl nx st tk vl q : Int32} {wi pr ha ow c l num : FN} {p2 : Int32}
theorem tk_00 {x2 : RdT} {cn' : FN} (hC : f_X8_hasPlaceFor fu cn (nI 0) p2 = some 1) (ht : takeC cn (nI 0) p2 = some (nI 0, cn')) : f_X8_take fu cn q0 w0 u0 h0 o0 q1 w1 u1 h1 o1 d0 c0 d1 c1 e0 l0 e1 l1 x2.1 x2.2.1 x2.2.2.1 x2.2.2.2.1 x2.2.2.2.2.1 x2.2.2.2.2.2.1 x2.2.2.2.2.2.2.1 x2.2.2.2.2.2.2.2.1 x2.2.2.2.2.2.2.2.2.1 (nI 0) p2 = some (nI 0, cn', x2.1, va_cpy x2.2.1 w0 0 0 6, va_cpy x2.2.2.1 u0 0 0 6, va_cpy x2.2.2.2.1 h0 0 0 6, va_cpy x2.2.2.2.2.1 o0 0 0 36, q1, w1, u1, h1, o1, d0, c0, d1, c1, e0, l0, e1, l1) := by
  unfold takeC at ht
  unfold f_X8_take f_X9_copy
  rw [hC, bnd_some, if_neg i10, ht, bnd_some]
  dsimp only
  rw [if_pos (show nI 0 = (0 : Int32) from rfl), if_pos (show nI 0 = (0 : Int32) from rfl), cp6, bnd_some, cp6, bnd_some, cp6, bnd_some, cp36, bnd_some, bnd_some]
theorem X_good00 {cc c' : Nat} {cn' : FN} {x2 : RdT} {y : RxT} (T : TS 0 (tp, ln, flt, plc, cn, q0, w0, u0, h0, o0, q1, w1, u1, h1, o1, d0, c0, d1, c1, e0, l0, e1, l1) (mt, ms, fl, pl, mn, tw, wk, lo)) (hf : 1000 ≤ fu) (hC : f_X8_hasPlaceFor fu cn (nI 0) p2 = some 1) (hM : f_X12_text fu code mt ms fl pl mn tw wk lo rc len bg so mv wd wr mf mp told rd far gd (nI 0) p2 = bnd (f_X12_readText fu mt (upd fl 0 0) (upd pl 0 (-1)) rc (ms 0) bg so mv wd wr mf mp told rd far gd (nI 0)) (mCont fu mn tw wk lo (ms 0) (upd ms 0 0) (nI 0) (nI 0) (upd mn 0 (nI c')))) (r1 : f_X5_read fu p wi pr ha ow d c e l cf cp num tp rl nx st tk vl q (nI 0) ln = some x2) (r2 : f_X12_readText fu mt (upd fl 0 0) (upd pl 0 (-1)) rc (ms 0) bg so mv wd wr mf mp told rd far gd (nI 0) = some y) (k1 : x2.2.2.2.2.2.2.2.2.2.1 = 0) (k9 : x2.2.2.2.2.2.2.2.2.2.2.1 = -1) (k2 : y.1 = 1) (k3 : y.2.1 = upd (upd fl 0 0) 0 0) (k4 : y.2.2.1 = upd (upd pl 0 (-1)) 0 (-1)) (G : ∃ n w' pu h' o', TwV n w' pu h' o' ∧ TwC n w' pu h' o' x2.1 x2.2.1 x2.2.2.1 x2.2.2.2.1 x2.2.2.2.2.1 ∧ TwM n w' pu h' o' y.2.2.2.2.2.2.2.2.2.2.2.1 0) (ht : takeC cn (nI 0) p2 = some (nI 0, cn')) (hc' : c' ≤ 2) (hv : 0 < c') (hu : ∀ u, u ≠ 0 → u < c' → u < cc) (hcc : cn 0 = nI cc) (hc2 : cc ≤ 2) (b1 : cn' 0 = nI c') (b2 : ∀ i, i ≠ 0 → cn' i = cn i) : ∃ (X : TxC) (Y : TxM), f_X11_text fu tp ln flt plc cn q0 w0 u0 h0 o0 q1 w1 u1 h1 o1 d0 c0 d1 c1 e0 l0 e1 l1 p wi pr ha ow d c e l cf cp num rl nx st tk vl q (nI 0) p2 = some X ∧ f_X12_text fu code mt ms fl pl mn tw wk lo rc len bg so mv wd wr mf mp told rd far gd (nI 0) p2 = some Y ∧ X.1 = Y.1 ∧ TS 0 (tp, X.2.1, X.2.2.1, X.2.2.2.1, X.2.2.2.2.1, X.2.2.2.2.2.1, X.2.2.2.2.2.2.1, X.2.2.2.2.2.2.2.1, X.2.2.2.2.2.2.2.2.1, X.2.2.2.2.2.2.2.2.2.1, X.2.2.2.2.2.2.2.2.2.2.1, X.2.2.2.2.2.2.2.2.2.2.2.1, X.2.2.2.2.2.2.2.2.2.2.2.2.1, X.2.2.2.2.2.2.2.2.2.2.2.2.2.1, X.2.2.2.2.2.2.2.2.2.2.2.2.2.2.1, X.2.2.2.2.2.2.2.2.2.2.2.2.2.2.2.1, X.2.2.2.2.2.2.2.2.2.2.2.2.2.2.2.2.1, X.2.2.2.2.2.2.2.2.2.2.2.2.2.2.2.2.2.1, X.2.2.2.2.2.2.2.2.2.2.2.2.2.2.2.2.2.2.1, X.2.2.2.2.2.2.2.2.2.2.2.2.2.2.2.2.2.2.2.1, X.2.2.2.2.2.2.2.2.2.2.2.2.2.2.2.2.2.2.2.2.1, X.2.2.2.2.2.2.2.2.2.2.2.2.2.2.2.2.2.2.2.2.2.1, X.2.2.2.2.2.2.2.2.2.2.2.2.2.2.2.2.2.2.2.2.2.2.1) (mt, Y.2.2.1, Y.2.2.2.1, Y.2.2.2.2.1, Y.2.2.2.2.2.1, Y.2.2.2.2.2.2.1, Y.2.2.2.2.2.2.2.1, Y.2.2.2.2.2.2.2.2.1) ∧ UnR (mt, ms, fl, pl, mn, tw, wk, lo) (mt, Y.2.2.1, Y.2.2.2.1, Y.2.2.2.2.1, Y.2.2.2.2.2.1, Y.2.2.2.2.2.2.1, Y.2.2.2.2.2.2.2.1, Y.2.2.2.2.2.2.2.2.1) := by
  obtain ⟨t1, t2, t3, tt, tw_, tl_, z1, z2, z3, z4⟩ := T
  obtain ⟨g, s0, s1, s2⟩ := store_ok (fu := fu) (N := 440) (w := 55) (v := 0) (M := tw) (told := y.2.2.2.2.2.2.2.2.2.2.2.1) (by decide) (by decide) (by decide) (by decide) hf
  have s0 : f_X12_store fu 440 y.2.2.2.2.2.2.2.2.2.2.2.1 tw 55 (nI 0) = some g := s0
  have f0 : y.2.1 0 = x2.2.2.2.2.2.2.2.2.2.1 := by rw [k3, k1]; exact pk_us
  have f1 : y.2.2.1 0 = x2.2.2.2.2.2.2.2.2.2.2.1 := by rw [k4, k9]; exact pk_us
  have f2 : ∀ i, i ≠ 0 → y.2.1 i = fl i := fun i hi => by rw [k3]; exact (pk_un hi).trans (pk_un hi)
  have f3 : ∀ i, i ≠ 0 → y.2.2.1 i = pl i := fun i hi => by rw [k4]; exact (pk_un hi).trans (pk_un hi)
  obtain ⟨n, w', pu, h', o', V, TC, TM⟩ := G
  obtain ⟨a, a1, a2, a3, a4, a5⟩ := tt
  have ea : a = cc := (nI_eq (by omega) (by omega)).1 (a2.symm.trans hcc)
  subst ea
  have A : TIs 0 cn' x2.1 (va_cpy x2.2.1 w0 0 0 6) (va_cpy x2.2.2.1 u0 0 0 6) (va_cpy x2.2.2.2.1 h0 0 0 6) (va_cpy x2.2.2.2.2.1 o0 0 0 36) q1 w1 u1 h1 o1 (upd mn 0 (nI c')) g := ⟨c', hc', b1, pk_us, fun _ => ⟨n, w', pu, h', o', V, TwC_copy V.1 TC ⟨rfl, fun i hi => cpy_e hi, fun i hi => cpy_e hi, fun i hi => cpy_e hi, fun i hi => cpy_e hi⟩, TwM_copy TM (fun i hi => (congrArg g (show 110 * 0 + i = 55 * 0 + i by omega)).trans ((s1 i hi).trans (congrArg y.2.2.2.2.2.2.2.2.2.2.2.1 (show i = 0 + i by omega))))⟩, fun z => by obtain ⟨n2, w2', pu2, h2', o2', V2, TC2, TM2⟩ := a5 (hu 1 (by decide) z); exact ⟨n2, w2', pu2, h2', o2', V2, TC2, TwM_copy TM2 (fun i hi => s2 _ (by omega))⟩⟩
  have Bw : WIs 0 cn' d0 c0 d1 c1 (upd mn 0 (nI c')) wk := WIs_keep tw_ (b2 1 (by decide)) (pk_un (by decide))
  have Bl : LIs 0 cn' e0 l0 e1 l1 (upd mn 0 (nI c')) lo := LIs_keep tl_ (b2 2 (by decide)) (pk_un (by decide))
  have tk' := tk_00 (x2 := x2) (q0 := q0) (w0 := w0) (u0 := u0) (h0 := h0) (o0 := o0) (q1 := q1) (w1 := w1) (u1 := u1) (h1 := h1) (o1 := o1) (d0 := d0) (c0 := c0) (d1 := d1) (c1 := c1) (e0 := e0) (l0 := l0) (e1 := e1) (l1 := l1) hC ht
  rw [hM, r2, bnd_some]
  unfold f_X11_text mCont
  rw [hC, bnd_some, if_neg i10, r1, bnd_some, if_pos k1, tk', bnd_some, if_neg (show ¬ y.1 = 0 by rw [k2]; exact i10), if_pos (show nI 0 = (0 : Int32) from rfl), s0, bnd_some]
  refine ⟨_, _, rfl, rfl, rfl, ?_, ?_⟩
  · show TS 0 (tp, (0 : Int32), x2.2.2.2.2.2.2.2.2.2.1, x2.2.2.2.2.2.2.2.2.2.2.1, cn', x2.1, va_cpy x2.2.1 w0 0 0 6, va_cpy x2.2.2.1 u0 0 0 6, va_cpy x2.2.2.2.1 h0 0 0 6, va_cpy x2.2.2.2.2.1 o0 0 0 36, q1, w1, u1, h1, o1, d0, c0, d1, c1, e0, l0, e1, l1) (mt, upd ms 0 0, y.2.1, y.2.2.1, upd mn 0 (nI c'), g, wk, lo)
    exact ⟨⟨0, by decide, rfl, (show upd ms 0 0 0 = nI 0 from pk_us), fun i hi => absurd hi (Nat.not_lt_zero _)⟩, f0, f1, A, Bw, Bl, z1, z2, z3, z4⟩
  · exact ⟨rfl, fun i hi => (show upd ms 0 0 i = ms i from pk_un hi), f2, f3, fun i hi => (show upd mn 0 (nI c') i = mn i from pk_un (by omega)), fun i hi => s2 i (by omega), fun _ _ => rfl, fun _ _ => rfl⟩
theorem tk_01 {x2 : RdT} {cn' : FN} (hC : f_X8_hasPlaceFor fu cn (nI 0) p2 = some 1) (ht : takeC cn (nI 0) p2 = some (nI 1, cn')) : f_X8_take fu cn q0 w0 u0 h0 o0 q1 w1 u1 h1 o1 d0 c0 d1 c1 e0 l0 e1 l1 x2.1 x2.2.1 x2.2.2.1 x2.2.2.2.1 x2.2.2.2.2.1 x2.2.2.2.2.2.1 x2.2.2.2.2.2.2.1 x2.2.2.2.2.2.2.2.1 x2.2.2.2.2.2.2.2.2.1 (nI 0) p2 = some (nI 1, cn', q0, w0, u0, h0, o0, x2.1, va_cpy x2.2.1 w1 0 0 6, va_cpy x2.2.2.1 u1 0 0 6, va_cpy x2.2.2.2.1 h1 0 0 6, va_cpy x2.2.2.2.2.1 o1 0 0 36, d0, c0, d1, c1, e0, l0, e1, l1) := by
  unfold takeC at ht
  unfold f_X8_take f_X9_copy
  rw [hC, bnd_some, if_neg i10, ht, bnd_some]
  dsimp only
  rw [if_pos (show nI 0 = (0 : Int32) from rfl), if_neg (show ¬ nI 1 = (0 : Int32) by decide), if_pos (show nI 1 = (1 : Int32) from rfl), cp6, bnd_some, cp6, bnd_some, cp6, bnd_some, cp36, bnd_some, bnd_some]
theorem X_good01 {cc c' : Nat} {cn' : FN} {x2 : RdT} {y : RxT} (T : TS 0 (tp, ln, flt, plc, cn, q0, w0, u0, h0, o0, q1, w1, u1, h1, o1, d0, c0, d1, c1, e0, l0, e1, l1) (mt, ms, fl, pl, mn, tw, wk, lo)) (hf : 1000 ≤ fu) (hC : f_X8_hasPlaceFor fu cn (nI 0) p2 = some 1) (hM : f_X12_text fu code mt ms fl pl mn tw wk lo rc len bg so mv wd wr mf mp told rd far gd (nI 0) p2 = bnd (f_X12_readText fu mt (upd fl 0 0) (upd pl 0 (-1)) rc (ms 0) bg so mv wd wr mf mp told rd far gd (nI 0)) (mCont fu mn tw wk lo (ms 0) (upd ms 0 0) (nI 0) (nI 1) (upd mn 0 (nI c')))) (r1 : f_X5_read fu p wi pr ha ow d c e l cf cp num tp rl nx st tk vl q (nI 0) ln = some x2) (r2 : f_X12_readText fu mt (upd fl 0 0) (upd pl 0 (-1)) rc (ms 0) bg so mv wd wr mf mp told rd far gd (nI 0) = some y) (k1 : x2.2.2.2.2.2.2.2.2.2.1 = 0) (k9 : x2.2.2.2.2.2.2.2.2.2.2.1 = -1) (k2 : y.1 = 1) (k3 : y.2.1 = upd (upd fl 0 0) 0 0) (k4 : y.2.2.1 = upd (upd pl 0 (-1)) 0 (-1)) (G : ∃ n w' pu h' o', TwV n w' pu h' o' ∧ TwC n w' pu h' o' x2.1 x2.2.1 x2.2.2.1 x2.2.2.2.1 x2.2.2.2.2.1 ∧ TwM n w' pu h' o' y.2.2.2.2.2.2.2.2.2.2.2.1 0) (ht : takeC cn (nI 0) p2 = some (nI 1, cn')) (hc' : c' ≤ 2) (hv : 1 < c') (hu : ∀ u, u ≠ 1 → u < c' → u < cc) (hcc : cn 0 = nI cc) (hc2 : cc ≤ 2) (b1 : cn' 0 = nI c') (b2 : ∀ i, i ≠ 0 → cn' i = cn i) : ∃ (X : TxC) (Y : TxM), f_X11_text fu tp ln flt plc cn q0 w0 u0 h0 o0 q1 w1 u1 h1 o1 d0 c0 d1 c1 e0 l0 e1 l1 p wi pr ha ow d c e l cf cp num rl nx st tk vl q (nI 0) p2 = some X ∧ f_X12_text fu code mt ms fl pl mn tw wk lo rc len bg so mv wd wr mf mp told rd far gd (nI 0) p2 = some Y ∧ X.1 = Y.1 ∧ TS 0 (tp, X.2.1, X.2.2.1, X.2.2.2.1, X.2.2.2.2.1, X.2.2.2.2.2.1, X.2.2.2.2.2.2.1, X.2.2.2.2.2.2.2.1, X.2.2.2.2.2.2.2.2.1, X.2.2.2.2.2.2.2.2.2.1, X.2.2.2.2.2.2.2.2.2.2.1, X.2.2.2.2.2.2.2.2.2.2.2.1, X.2.2.2.2.2.2.2.2.2.2.2.2.1, X.2.2.2.2.2.2.2.2.2.2.2.2.2.1, X.2.2.2.2.2.2.2.2.2.2.2.2.2.2.1, X.2.2.2.2.2.2.2.2.2.2.2.2.2.2.2.1, X.2.2.2.2.2.2.2.2.2.2.2.2.2.2.2.2.1, X.2.2.2.2.2.2.2.2.2.2.2.2.2.2.2.2.2.1, X.2.2.2.2.2.2.2.2.2.2.2.2.2.2.2.2.2.2.1, X.2.2.2.2.2.2.2.2.2.2.2.2.2.2.2.2.2.2.2.1, X.2.2.2.2.2.2.2.2.2.2.2.2.2.2.2.2.2.2.2.2.1, X.2.2.2.2.2.2.2.2.2.2.2.2.2.2.2.2.2.2.2.2.2.1, X.2.2.2.2.2.2.2.2.2.2.2.2.2.2.2.2.2.2.2.2.2.2.1) (mt, Y.2.2.1, Y.2.2.2.1, Y.2.2.2.2.1, Y.2.2.2.2.2.1, Y.2.2.2.2.2.2.1, Y.2.2.2.2.2.2.2.1, Y.2.2.2.2.2.2.2.2.1) ∧ UnR (mt, ms, fl, pl, mn, tw, wk, lo) (mt, Y.2.2.1, Y.2.2.2.1, Y.2.2.2.2.1, Y.2.2.2.2.2.1, Y.2.2.2.2.2.2.1, Y.2.2.2.2.2.2.2.1, Y.2.2.2.2.2.2.2.2.1) := by
  obtain ⟨t1, t2, t3, tt, tw_, tl_, z1, z2, z3, z4⟩ := T
  obtain ⟨g, s0, s1, s2⟩ := store_ok (fu := fu) (N := 440) (w := 55) (v := 1) (M := tw) (told := y.2.2.2.2.2.2.2.2.2.2.2.1) (by decide) (by decide) (by decide) (by decide) hf
  have s0 : f_X12_store fu 440 y.2.2.2.2.2.2.2.2.2.2.2.1 tw 55 (nI 1) = some g := s0
  have f0 : y.2.1 0 = x2.2.2.2.2.2.2.2.2.2.1 := by rw [k3, k1]; exact pk_us
  have f1 : y.2.2.1 0 = x2.2.2.2.2.2.2.2.2.2.2.1 := by rw [k4, k9]; exact pk_us
  have f2 : ∀ i, i ≠ 0 → y.2.1 i = fl i := fun i hi => by rw [k3]; exact (pk_un hi).trans (pk_un hi)
  have f3 : ∀ i, i ≠ 0 → y.2.2.1 i = pl i := fun i hi => by rw [k4]; exact (pk_un hi).trans (pk_un hi)
  obtain ⟨n, w', pu, h', o', V, TC, TM⟩ := G
  obtain ⟨a, a1, a2, a3, a4, a5⟩ := tt
  have ea : a = cc := (nI_eq (by omega) (by omega)).1 (a2.symm.trans hcc)
  subst ea
  have A : TIs 0 cn' q0 w0 u0 h0 o0 x2.1 (va_cpy x2.2.1 w1 0 0 6) (va_cpy x2.2.2.1 u1 0 0 6) (va_cpy x2.2.2.2.1 h1 0 0 6) (va_cpy x2.2.2.2.2.1 o1 0 0 36) (upd mn 0 (nI c')) g := ⟨c', hc', b1, pk_us, fun z => by obtain ⟨n2, w2', pu2, h2', o2', V2, TC2, TM2⟩ := a4 (hu 0 (by decide) z); exact ⟨n2, w2', pu2, h2', o2', V2, TC2, TwM_copy TM2 (fun i hi => s2 _ (by omega))⟩, fun _ => ⟨n, w', pu, h', o', V, TwC_copy V.1 TC ⟨rfl, fun i hi => cpy_e hi, fun i hi => cpy_e hi, fun i hi => cpy_e hi, fun i hi => cpy_e hi⟩, TwM_copy TM (fun i hi => (congrArg g (show 110 * 0 + 55 + i = 55 * 1 + i by omega)).trans ((s1 i hi).trans (congrArg y.2.2.2.2.2.2.2.2.2.2.2.1 (show i = 0 + i by omega))))⟩⟩
  have Bw : WIs 0 cn' d0 c0 d1 c1 (upd mn 0 (nI c')) wk := WIs_keep tw_ (b2 1 (by decide)) (pk_un (by decide))
  have Bl : LIs 0 cn' e0 l0 e1 l1 (upd mn 0 (nI c')) lo := LIs_keep tl_ (b2 2 (by decide)) (pk_un (by decide))
  have tk' := tk_01 (x2 := x2) (q0 := q0) (w0 := w0) (u0 := u0) (h0 := h0) (o0 := o0) (q1 := q1) (w1 := w1) (u1 := u1) (h1 := h1) (o1 := o1) (d0 := d0) (c0 := c0) (d1 := d1) (c1 := c1) (e0 := e0) (l0 := l0) (e1 := e1) (l1 := l1) hC ht
  rw [hM, r2, bnd_some]
  unfold f_X11_text mCont
  rw [hC, bnd_some, if_neg i10, r1, bnd_some, if_pos k1, tk', bnd_some, if_neg (show ¬ y.1 = 0 by rw [k2]; exact i10), if_pos (show nI 0 = (0 : Int32) from rfl), s0, bnd_some]
  refine ⟨_, _, rfl, rfl, rfl, ?_, ?_⟩
  · show TS 0 (tp, (0 : Int32), x2.2.2.2.2.2.2.2.2.2.1, x2.2.2.2.2.2.2.2.2.2.2.1, cn', q0, w0, u0, h0, o0, x2.1, va_cpy x2.2.1 w1 0 0 6, va_cpy x2.2.2.1 u1 0 0 6, va_cpy x2.2.2.2.1 h1 0 0 6, va_cpy x2.2.2.2.2.1 o1 0 0 36, d0, c0, d1, c1, e0, l0, e1, l1) (mt, upd ms 0 0, y.2.1, y.2.2.1, upd mn 0 (nI c'), g, wk, lo)
    exact ⟨⟨0, by decide, rfl, (show upd ms 0 0 0 = nI 0 from pk_us), fun i hi => absurd hi (Nat.not_lt_zero _)⟩, f0, f1, A, Bw, Bl, z1, z2, z3, z4⟩
  · exact ⟨rfl, fun i hi => (show upd ms 0 0 i = ms i from pk_un hi), f2, f3, fun i hi => (show upd mn 0 (nI c') i = mn i from pk_un (by omega)), fun i hi => s2 i (by omega), fun _ _ => rfl, fun _ _ => rfl⟩
theorem tk_10 {x2 : RdT} {cn' : FN} {m : Nat} (hm1 : m ≤ 40) (hm2 : x2.2.2.2.2.2.1 = nI m) (hC : f_X8_hasPlaceFor fu cn (nI 1) p2 = some 1) (ht : takeC cn (nI 1) p2 = some (nI 0, cn')) : f_X8_take fu cn q0 w0 u0 h0 o0 q1 w1 u1 h1 o1 d0 c0 d1 c1 e0 l0 e1 l1 x2.1 x2.2.1 x2.2.2.1 x2.2.2.2.1 x2.2.2.2.2.1 x2.2.2.2.2.2.1 x2.2.2.2.2.2.2.1 x2.2.2.2.2.2.2.2.1 x2.2.2.2.2.2.2.2.2.1 (nI 1) p2 = some (nI 0, cn', q0, w0, u0, h0, o0, q1, w1, u1, h1, o1, x2.2.2.2.2.2.1, va_cpy x2.2.2.2.2.2.2.1 c0 0 0 (4 * m), d1, c1, e0, l0, e1, l1) := by
  unfold takeC at ht
  unfold f_X8_take f_X10_copy
  rw [hC, bnd_some, if_neg i10, ht, bnd_some]
  dsimp only
  rw [if_neg (show ¬ nI 1 = (0 : Int32) by decide), if_pos (show nI 1 = (1 : Int32) from rfl), if_pos (show nI 0 = (0 : Int32) from rfl), cpw _ _ hm1 hm2, bnd_some, bnd_some]
theorem X_good10 {cc c' : Nat} {cn' : FN} {x2 : RdT} {y : RxT} (T : TS 0 (tp, ln, flt, plc, cn, q0, w0, u0, h0, o0, q1, w1, u1, h1, o1, d0, c0, d1, c1, e0, l0, e1, l1) (mt, ms, fl, pl, mn, tw, wk, lo)) (hf : 1000 ≤ fu) (hC : f_X8_hasPlaceFor fu cn (nI 1) p2 = some 1) (hM : f_X12_text fu code mt ms fl pl mn tw wk lo rc len bg so mv wd wr mf mp told rd far gd (nI 1) p2 = bnd (f_X12_readText fu mt (upd fl 0 0) (upd pl 0 (-1)) rc (ms 0) bg so mv wd wr mf mp told rd far gd (nI 1)) (mCont fu mn tw wk lo (ms 0) (upd ms 0 0) (nI 1) (nI 0) (upd mn 1 (nI c')))) (r1 : f_X5_read fu p wi pr ha ow d c e l cf cp num tp rl nx st tk vl q (nI 1) ln = some x2) (r2 : f_X12_readText fu mt (upd fl 0 0) (upd pl 0 (-1)) rc (ms 0) bg so mv wd wr mf mp told rd far gd (nI 1) = some y) (k1 : x2.2.2.2.2.2.2.2.2.2.1 = 0) (k9 : x2.2.2.2.2.2.2.2.2.2.2.1 = -1) (k2 : y.1 = 1) (k3 : y.2.1 = upd (upd fl 0 0) 0 0) (k4 : y.2.2.1 = upd (upd pl 0 (-1)) 0 (-1)) (G : ∃ m, WkR m x2.2.2.2.2.2.1 x2.2.2.2.2.2.2.1 y.2.2.2.2.2.2.2.2.2.2.2.1 0) (ht : takeC cn (nI 1) p2 = some (nI 0, cn')) (hc' : c' ≤ 2) (hv : 0 < c') (hu : ∀ u, u ≠ 0 → u < c' → u < cc) (hcc : cn 1 = nI cc) (hc2 : cc ≤ 2) (b1 : cn' 1 = nI c') (b2 : ∀ i, i ≠ 1 → cn' i = cn i) : ∃ (X : TxC) (Y : TxM), f_X11_text fu tp ln flt plc cn q0 w0 u0 h0 o0 q1 w1 u1 h1 o1 d0 c0 d1 c1 e0 l0 e1 l1 p wi pr ha ow d c e l cf cp num rl nx st tk vl q (nI 1) p2 = some X ∧ f_X12_text fu code mt ms fl pl mn tw wk lo rc len bg so mv wd wr mf mp told rd far gd (nI 1) p2 = some Y ∧ X.1 = Y.1 ∧ TS 0 (tp, X.2.1, X.2.2.1, X.2.2.2.1, X.2.2.2.2.1, X.2.2.2.2.2.1, X.2.2.2.2.2.2.1, X.2.2.2.2.2.2.2.1, X.2.2.2.2.2.2.2.2.1, X.2.2.2.2.2.2.2.2.2.1, X.2.2.2.2.2.2.2.2.2.2.1, X.2.2.2.2.2.2.2.2.2.2.2.1, X.2.2.2.2.2.2.2.2.2.2.2.2.1, X.2.2.2.2.2.2.2.2.2.2.2.2.2.1, X.2.2.2.2.2.2.2.2.2.2.2.2.2.2.1, X.2.2.2.2.2.2.2.2.2.2.2.2.2.2.2.1, X.2.2.2.2.2.2.2.2.2.2.2.2.2.2.2.2.1, X.2.2.2.2.2.2.2.2.2.2.2.2.2.2.2.2.2.1, X.2.2.2.2.2.2.2.2.2.2.2.2.2.2.2.2.2.2.1, X.2.2.2.2.2.2.2.2.2.2.2.2.2.2.2.2.2.2.2.1, X.2.2.2.2.2.2.2.2.2.2.2.2.2.2.2.2.2.2.2.2.1, X.2.2.2.2.2.2.2.2.2.2.2.2.2.2.2.2.2.2.2.2.2.1, X.2.2.2.2.2.2.2.2.2.2.2.2.2.2.2.2.2.2.2.2.2.2.1) (mt, Y.2.2.1, Y.2.2.2.1, Y.2.2.2.2.1, Y.2.2.2.2.2.1, Y.2.2.2.2.2.2.1, Y.2.2.2.2.2.2.2.1, Y.2.2.2.2.2.2.2.2.1) ∧ UnR (mt, ms, fl, pl, mn, tw, wk, lo) (mt, Y.2.2.1, Y.2.2.2.1, Y.2.2.2.2.1, Y.2.2.2.2.2.1, Y.2.2.2.2.2.2.1, Y.2.2.2.2.2.2.2.1, Y.2.2.2.2.2.2.2.2.1) := by
  obtain ⟨t1, t2, t3, tt, tw_, tl_, z1, z2, z3, z4⟩ := T
  obtain ⟨g, s0, s1, s2⟩ := store_ok (fu := fu) (N := 1288) (w := 161) (v := 0) (M := wk) (told := y.2.2.2.2.2.2.2.2.2.2.2.1) (by decide) (by decide) (by decide) (by decide) hf
  have s0 : f_X12_store fu 1288 y.2.2.2.2.2.2.2.2.2.2.2.1 wk 161 (nI 0) = some g := s0
  have f0 : y.2.1 0 = x2.2.2.2.2.2.2.2.2.2.1 := by rw [k3, k1]; exact pk_us
  have f1 : y.2.2.1 0 = x2.2.2.2.2.2.2.2.2.2.2.1 := by rw [k4, k9]; exact pk_us
  have f2 : ∀ i, i ≠ 0 → y.2.1 i = fl i := fun i hi => by rw [k3]; exact (pk_un hi).trans (pk_un hi)
  have f3 : ∀ i, i ≠ 0 → y.2.2.1 i = pl i := fun i hi => by rw [k4]; exact (pk_un hi).trans (pk_un hi)
  obtain ⟨m, TM⟩ := G
  have hm1 := TM.1
  have hm2 := TM.2.1
  obtain ⟨a, a1, a2, a3, a4, a5⟩ := tw_
  have ea : a = cc := (nI_eq (by omega) (by omega)).1 (a2.symm.trans hcc)
  subst ea
  have A : TIs 0 cn' q0 w0 u0 h0 o0 q1 w1 u1 h1 o1 (upd mn 1 (nI c')) tw := TIs_keep tt (b2 0 (by decide)) (pk_un (by decide))
  have Bw : WIs 0 cn' x2.2.2.2.2.2.1 (va_cpy x2.2.2.2.2.2.2.1 c0 0 0 (4 * m)) d1 c1 (upd mn 1 (nI c')) g := ⟨c', hc', b1, pk_us, fun _ => ⟨m, WkR_copy TM rfl (fun dd q1' q2' i hi => by have : m = dd := (nI_eq (by omega) (by omega)).1 (hm2.symm.trans q2'); exact cpy_e (by omega)) (fun i hi => (congrArg g (show 322 * 0 + i = 161 * 0 + i by omega)).trans ((s1 i hi).trans (congrArg y.2.2.2.2.2.2.2.2.2.2.2.1 (show i = 0 + i by omega))))⟩, fun z => by obtain ⟨n2, TM2⟩ := a5 (hu 1 (by decide) z); exact ⟨n2, WkR_copy TM2 rfl (fun _ _ _ _ _ => rfl) (fun i hi => s2 _ (by omega))⟩⟩
  have Bl : LIs 0 cn' e0 l0 e1 l1 (upd mn 1 (nI c')) lo := LIs_keep tl_ (b2 2 (by decide)) (pk_un (by decide))
  have tk' := tk_10 (x2 := x2) (q0 := q0) (w0 := w0) (u0 := u0) (h0 := h0) (o0 := o0) (q1 := q1) (w1 := w1) (u1 := u1) (h1 := h1) (o1 := o1) (d0 := d0) (c0 := c0) (d1 := d1) (c1 := c1) (e0 := e0) (l0 := l0) (e1 := e1) (l1 := l1) hm1 hm2 hC ht
  rw [hM, r2, bnd_some]
  unfold f_X11_text mCont
  rw [hC, bnd_some, if_neg i10, r1, bnd_some, if_pos k1, tk', bnd_some, if_neg (show ¬ y.1 = 0 by rw [k2]; exact i10), if_neg (show ¬ nI 1 = (0 : Int32) by decide), if_pos (show nI 1 = (1 : Int32) from rfl), s0, bnd_some]
  refine ⟨_, _, rfl, rfl, rfl, ?_, ?_⟩
  · show TS 0 (tp, (0 : Int32), x2.2.2.2.2.2.2.2.2.2.1, x2.2.2.2.2.2.2.2.2.2.2.1, cn', q0, w0, u0, h0, o0, q1, w1, u1, h1, o1, x2.2.2.2.2.2.1, va_cpy x2.2.2.2.2.2.2.1 c0 0 0 (4 * m), d1, c1, e0, l0, e1, l1) (mt, upd ms 0 0, y.2.1, y.2.2.1, upd mn 1 (nI c'), tw, g, lo)
    exact ⟨⟨0, by decide, rfl, (show upd ms 0 0 0 = nI 0 from pk_us), fun i hi => absurd hi (Nat.not_lt_zero _)⟩, f0, f1, A, Bw, Bl, ⟨m, hm1, hm2⟩, z2, z3, z4⟩
  · exact ⟨rfl, fun i hi => (show upd ms 0 0 i = ms i from pk_un hi), f2, f3, fun i hi => (show upd mn 1 (nI c') i = mn i from pk_un (by omega)), fun _ _ => rfl, fun i hi => s2 i (by omega), fun _ _ => rfl⟩
theorem tk_11 {x2 : RdT} {cn' : FN} {m : Nat} (hm1 : m ≤ 40) (hm2 : x2.2.2.2.2.2.1 = nI m) (hC : f_X8_hasPlaceFor fu cn (nI 1) p2 = some 1) (ht : takeC cn (nI 1) p2 = some (nI 1, cn')) : f_X8_take fu cn q0 w0 u0 h0 o0 q1 w1 u1 h1 o1 d0 c0 d1 c1 e0 l0 e1 l1 x2.1 x2.2.1 x2.2.2.1 x2.2.2.2.1 x2.2.2.2.2.1 x2.2.2.2.2.2.1 x2.2.2.2.2.2.2.1 x2.2.2.2.2.2.2.2.1 x2.2.2.2.2.2.2.2.2.1 (nI 1) p2 = some (nI 1, cn', q0, w0, u0, h0, o0, q1, w1, u1, h1, o1, d0, c0, x2.2.2.2.2.2.1, va_cpy x2.2.2.2.2.2.2.1 c1 0 0 (4 * m), e0, l0, e1, l1) := by
  unfold takeC at ht
  unfold f_X8_take f_X10_copy
  rw [hC, bnd_some, if_neg i10, ht, bnd_some]
  dsimp only
  rw [if_neg (show ¬ nI 1 = (0 : Int32) by decide), if_pos (show nI 1 = (1 : Int32) from rfl), if_neg (show ¬ nI 1 = (0 : Int32) by decide), if_pos (show nI 1 = (1 : Int32) from rfl), cpw _ _ hm1 hm2, bnd_some, bnd_some]
theorem X_good11 {cc c' : Nat} {cn' : FN} {x2 : RdT} {y : RxT} (T : TS 0 (tp, ln, flt, plc, cn, q0, w0, u0, h0, o0, q1, w1, u1, h1, o1, d0, c0, d1, c1, e0, l0, e1, l1) (mt, ms, fl, pl, mn, tw, wk, lo)) (hf : 1000 ≤ fu) (hC : f_X8_hasPlaceFor fu cn (nI 1) p2 = some 1) (hM : f_X12_text fu code mt ms fl pl mn tw wk lo rc len bg so mv wd wr mf mp told rd far gd (nI 1) p2 = bnd (f_X12_readText fu mt (upd fl 0 0) (upd pl 0 (-1)) rc (ms 0) bg so mv wd wr mf mp told rd far gd (nI 1)) (mCont fu mn tw wk lo (ms 0) (upd ms 0 0) (nI 1) (nI 1) (upd mn 1 (nI c')))) (r1 : f_X5_read fu p wi pr ha ow d c e l cf cp num tp rl nx st tk vl q (nI 1) ln = some x2) (r2 : f_X12_readText fu mt (upd fl 0 0) (upd pl 0 (-1)) rc (ms 0) bg so mv wd wr mf mp told rd far gd (nI 1) = some y) (k1 : x2.2.2.2.2.2.2.2.2.2.1 = 0) (k9 : x2.2.2.2.2.2.2.2.2.2.2.1 = -1) (k2 : y.1 = 1) (k3 : y.2.1 = upd (upd fl 0 0) 0 0) (k4 : y.2.2.1 = upd (upd pl 0 (-1)) 0 (-1)) (G : ∃ m, WkR m x2.2.2.2.2.2.1 x2.2.2.2.2.2.2.1 y.2.2.2.2.2.2.2.2.2.2.2.1 0) (ht : takeC cn (nI 1) p2 = some (nI 1, cn')) (hc' : c' ≤ 2) (hv : 1 < c') (hu : ∀ u, u ≠ 1 → u < c' → u < cc) (hcc : cn 1 = nI cc) (hc2 : cc ≤ 2) (b1 : cn' 1 = nI c') (b2 : ∀ i, i ≠ 1 → cn' i = cn i) : ∃ (X : TxC) (Y : TxM), f_X11_text fu tp ln flt plc cn q0 w0 u0 h0 o0 q1 w1 u1 h1 o1 d0 c0 d1 c1 e0 l0 e1 l1 p wi pr ha ow d c e l cf cp num rl nx st tk vl q (nI 1) p2 = some X ∧ f_X12_text fu code mt ms fl pl mn tw wk lo rc len bg so mv wd wr mf mp told rd far gd (nI 1) p2 = some Y ∧ X.1 = Y.1 ∧ TS 0 (tp, X.2.1, X.2.2.1, X.2.2.2.1, X.2.2.2.2.1, X.2.2.2.2.2.1, X.2.2.2.2.2.2.1, X.2.2.2.2.2.2.2.1, X.2.2.2.2.2.2.2.2.1, X.2.2.2.2.2.2.2.2.2.1, X.2.2.2.2.2.2.2.2.2.2.1, X.2.2.2.2.2.2.2.2.2.2.2.1, X.2.2.2.2.2.2.2.2.2.2.2.2.1, X.2.2.2.2.2.2.2.2.2.2.2.2.2.1, X.2.2.2.2.2.2.2.2.2.2.2.2.2.2.1, X.2.2.2.2.2.2.2.2.2.2.2.2.2.2.2.1, X.2.2.2.2.2.2.2.2.2.2.2.2.2.2.2.2.1, X.2.2.2.2.2.2.2.2.2.2.2.2.2.2.2.2.2.1, X.2.2.2.2.2.2.2.2.2.2.2.2.2.2.2.2.2.2.1, X.2.2.2.2.2.2.2.2.2.2.2.2.2.2.2.2.2.2.2.1, X.2.2.2.2.2.2.2.2.2.2.2.2.2.2.2.2.2.2.2.2.1, X.2.2.2.2.2.2.2.2.2.2.2.2.2.2.2.2.2.2.2.2.2.1, X.2.2.2.2.2.2.2.2.2.2.2.2.2.2.2.2.2.2.2.2.2.2.1) (mt, Y.2.2.1, Y.2.2.2.1, Y.2.2.2.2.1, Y.2.2.2.2.2.1, Y.2.2.2.2.2.2.1, Y.2.2.2.2.2.2.2.1, Y.2.2.2.2.2.2.2.2.1) ∧ UnR (mt, ms, fl, pl, mn, tw, wk, lo) (mt, Y.2.2.1, Y.2.2.2.1, Y.2.2.2.2.1, Y.2.2.2.2.2.1, Y.2.2.2.2.2.2.1, Y.2.2.2.2.2.2.2.1, Y.2.2.2.2.2.2.2.2.1) := by
  obtain ⟨t1, t2, t3, tt, tw_, tl_, z1, z2, z3, z4⟩ := T
  obtain ⟨g, s0, s1, s2⟩ := store_ok (fu := fu) (N := 1288) (w := 161) (v := 1) (M := wk) (told := y.2.2.2.2.2.2.2.2.2.2.2.1) (by decide) (by decide) (by decide) (by decide) hf
  have s0 : f_X12_store fu 1288 y.2.2.2.2.2.2.2.2.2.2.2.1 wk 161 (nI 1) = some g := s0
  have f0 : y.2.1 0 = x2.2.2.2.2.2.2.2.2.2.1 := by rw [k3, k1]; exact pk_us
  have f1 : y.2.2.1 0 = x2.2.2.2.2.2.2.2.2.2.2.1 := by rw [k4, k9]; exact pk_us
  have f2 : ∀ i, i ≠ 0 → y.2.1 i = fl i := fun i hi => by rw [k3]; exact (pk_un hi).trans (pk_un hi)
  have f3 : ∀ i, i ≠ 0 → y.2.2.1 i = pl i := fun i hi => by rw [k4]; exact (pk_un hi).trans (pk_un hi)
  obtain ⟨m, TM⟩ := G
  have hm1 := TM.1
  have hm2 := TM.2.1
  obtain ⟨a, a1, a2, a3, a4, a5⟩ := tw_
  have ea : a = cc := (nI_eq (by omega) (by omega)).1 (a2.symm.trans hcc)
  subst ea
  have A : TIs 0 cn' q0 w0 u0 h0 o0 q1 w1 u1 h1 o1 (upd mn 1 (nI c')) tw := TIs_keep tt (b2 0 (by decide)) (pk_un (by decide))
  have Bw : WIs 0 cn' d0 c0 x2.2.2.2.2.2.1 (va_cpy x2.2.2.2.2.2.2.1 c1 0 0 (4 * m)) (upd mn 1 (nI c')) g := ⟨c', hc', b1, pk_us, fun z => by obtain ⟨n2, TM2⟩ := a4 (hu 0 (by decide) z); exact ⟨n2, WkR_copy TM2 rfl (fun _ _ _ _ _ => rfl) (fun i hi => s2 _ (by omega))⟩, fun _ => ⟨m, WkR_copy TM rfl (fun dd q1' q2' i hi => by have : m = dd := (nI_eq (by omega) (by omega)).1 (hm2.symm.trans q2'); exact cpy_e (by omega)) (fun i hi => (congrArg g (show 322 * 0 + 161 + i = 161 * 1 + i by omega)).trans ((s1 i hi).trans (congrArg y.2.2.2.2.2.2.2.2.2.2.2.1 (show i = 0 + i by omega))))⟩⟩
  have Bl : LIs 0 cn' e0 l0 e1 l1 (upd mn 1 (nI c')) lo := LIs_keep tl_ (b2 2 (by decide)) (pk_un (by decide))
  have tk' := tk_11 (x2 := x2) (q0 := q0) (w0 := w0) (u0 := u0) (h0 := h0) (o0 := o0) (q1 := q1) (w1 := w1) (u1 := u1) (h1 := h1) (o1 := o1) (d0 := d0) (c0 := c0) (d1 := d1) (c1 := c1) (e0 := e0) (l0 := l0) (e1 := e1) (l1 := l1) hm1 hm2 hC ht
  rw [hM, r2, bnd_some]
  unfold f_X11_text mCont
  rw [hC, bnd_some, if_neg i10, r1, bnd_some, if_pos k1, tk', bnd_some, if_neg (show ¬ y.1 = 0 by rw [k2]; exact i10), if_neg (show ¬ nI 1 = (0 : Int32) by decide), if_pos (show nI 1 = (1 : Int32) from rfl), s0, bnd_some]
  refine ⟨_, _, rfl, rfl, rfl, ?_, ?_⟩
  · show TS 0 (tp, (0 : Int32), x2.2.2.2.2.2.2.2.2.2.1, x2.2.2.2.2.2.2.2.2.2.2.1, cn', q0, w0, u0, h0, o0, q1, w1, u1, h1, o1, d0, c0, x2.2.2.2.2.2.1, va_cpy x2.2.2.2.2.2.2.1 c1 0 0 (4 * m), e0, l0, e1, l1) (mt, upd ms 0 0, y.2.1, y.2.2.1, upd mn 1 (nI c'), tw, g, lo)
    exact ⟨⟨0, by decide, rfl, (show upd ms 0 0 0 = nI 0 from pk_us), fun i hi => absurd hi (Nat.not_lt_zero _)⟩, f0, f1, A, Bw, Bl, z1, ⟨m, hm1, hm2⟩, z3, z4⟩
  · exact ⟨rfl, fun i hi => (show upd ms 0 0 i = ms i from pk_un hi), f2, f3, fun i hi => (show upd mn 1 (nI c') i = mn i from pk_un (by omega)), fun _ _ => rfl, fun i hi => s2 i (by omega), fun _ _ => rfl⟩
theorem tk_20 {x2 : RdT} {cn' : FN} {m : Nat} (hm1 : m ≤ 8) (hm2 : x2.2.2.2.2.2.2.2.1 = nI m) (hC : f_X8_hasPlaceFor fu cn (nI 2) p2 = some 1) (ht : takeC cn (nI 2) p2 = some (nI 0, cn')) : f_X8_take fu cn q0 w0 u0 h0 o0 q1 w1 u1 h1 o1 d0 c0 d1 c1 e0 l0 e1 l1 x2.1 x2.2.1 x2.2.2.1 x2.2.2.2.1 x2.2.2.2.2.1 x2.2.2.2.2.2.1 x2.2.2.2.2.2.2.1 x2.2.2.2.2.2.2.2.1 x2.2.2.2.2.2.2.2.2.1 (nI 2) p2 = some (nI 0, cn', q0, w0, u0, h0, o0, q1, w1, u1, h1, o1, d0, c0, d1, c1, x2.2.2.2.2.2.2.2.1, va_cpy x2.2.2.2.2.2.2.2.2.1 l0 0 0 (3 * m), e1, l1) := by
  unfold takeC at ht
  unfold f_X8_take f_X2_copy
  rw [hC, bnd_some, if_neg i10, ht, bnd_some]
  dsimp only
  rw [if_neg (show ¬ nI 2 = (0 : Int32) by decide), if_neg (show ¬ nI 2 = (1 : Int32) by decide), if_pos (show nI 0 = (0 : Int32) from rfl), cpg _ _ hm1 hm2, bnd_some, bnd_some]
theorem X_good20 {cc c' : Nat} {cn' : FN} {x2 : RdT} {y : RxT} (T : TS 0 (tp, ln, flt, plc, cn, q0, w0, u0, h0, o0, q1, w1, u1, h1, o1, d0, c0, d1, c1, e0, l0, e1, l1) (mt, ms, fl, pl, mn, tw, wk, lo)) (hf : 1000 ≤ fu) (hC : f_X8_hasPlaceFor fu cn (nI 2) p2 = some 1) (hM : f_X12_text fu code mt ms fl pl mn tw wk lo rc len bg so mv wd wr mf mp told rd far gd (nI 2) p2 = bnd (f_X12_readText fu mt (upd fl 0 0) (upd pl 0 (-1)) rc (ms 0) bg so mv wd wr mf mp told rd far gd (nI 2)) (mCont fu mn tw wk lo (ms 0) (upd ms 0 0) (nI 2) (nI 0) (upd mn 2 (nI c')))) (r1 : f_X5_read fu p wi pr ha ow d c e l cf cp num tp rl nx st tk vl q (nI 2) ln = some x2) (r2 : f_X12_readText fu mt (upd fl 0 0) (upd pl 0 (-1)) rc (ms 0) bg so mv wd wr mf mp told rd far gd (nI 2) = some y) (k1 : x2.2.2.2.2.2.2.2.2.2.1 = 0) (k9 : x2.2.2.2.2.2.2.2.2.2.2.1 = -1) (k2 : y.1 = 1) (k3 : y.2.1 = upd (upd fl 0 0) 0 0) (k4 : y.2.2.1 = upd (upd pl 0 (-1)) 0 (-1)) (G : ∃ m, LgR m x2.2.2.2.2.2.2.2.1 x2.2.2.2.2.2.2.2.2.1 y.2.2.2.2.2.2.2.2.2.2.2.1 0) (ht : takeC cn (nI 2) p2 = some (nI 0, cn')) (hc' : c' ≤ 2) (hv : 0 < c') (hu : ∀ u, u ≠ 0 → u < c' → u < cc) (hcc : cn 2 = nI cc) (hc2 : cc ≤ 2) (b1 : cn' 2 = nI c') (b2 : ∀ i, i ≠ 2 → cn' i = cn i) : ∃ (X : TxC) (Y : TxM), f_X11_text fu tp ln flt plc cn q0 w0 u0 h0 o0 q1 w1 u1 h1 o1 d0 c0 d1 c1 e0 l0 e1 l1 p wi pr ha ow d c e l cf cp num rl nx st tk vl q (nI 2) p2 = some X ∧ f_X12_text fu code mt ms fl pl mn tw wk lo rc len bg so mv wd wr mf mp told rd far gd (nI 2) p2 = some Y ∧ X.1 = Y.1 ∧ TS 0 (tp, X.2.1, X.2.2.1, X.2.2.2.1, X.2.2.2.2.1, X.2.2.2.2.2.1, X.2.2.2.2.2.2.1, X.2.2.2.2.2.2.2.1, X.2.2.2.2.2.2.2.2.1, X.2.2.2.2.2.2.2.2.2.1, X.2.2.2.2.2.2.2.2.2.2.1, X.2.2.2.2.2.2.2.2.2.2.2.1, X.2.2.2.2.2.2.2.2.2.2.2.2.1, X.2.2.2.2.2.2.2.2.2.2.2.2.2.1, X.2.2.2.2.2.2.2.2.2.2.2.2.2.2.1, X.2.2.2.2.2.2.2.2.2.2.2.2.2.2.2.1, X.2.2.2.2.2.2.2.2.2.2.2.2.2.2.2.2.1, X.2.2.2.2.2.2.2.2.2.2.2.2.2.2.2.2.2.1, X.2.2.2.2.2.2.2.2.2.2.2.2.2.2.2.2.2.2.1, X.2.2.2.2.2.2.2.2.2.2.2.2.2.2.2.2.2.2.2.1, X.2.2.2.2.2.2.2.2.2.2.2.2.2.2.2.2.2.2.2.2.1, X.2.2.2.2.2.2.2.2.2.2.2.2.2.2.2.2.2.2.2.2.2.1, X.2.2.2.2.2.2.2.2.2.2.2.2.2.2.2.2.2.2.2.2.2.2.1) (mt, Y.2.2.1, Y.2.2.2.1, Y.2.2.2.2.1, Y.2.2.2.2.2.1, Y.2.2.2.2.2.2.1, Y.2.2.2.2.2.2.2.1, Y.2.2.2.2.2.2.2.2.1) ∧ UnR (mt, ms, fl, pl, mn, tw, wk, lo) (mt, Y.2.2.1, Y.2.2.2.1, Y.2.2.2.2.1, Y.2.2.2.2.2.1, Y.2.2.2.2.2.2.1, Y.2.2.2.2.2.2.2.1, Y.2.2.2.2.2.2.2.2.1) := by
  obtain ⟨t1, t2, t3, tt, tw_, tl_, z1, z2, z3, z4⟩ := T
  obtain ⟨g, s0, s1, s2⟩ := store_ok (fu := fu) (N := 200) (w := 25) (v := 0) (M := lo) (told := y.2.2.2.2.2.2.2.2.2.2.2.1) (by decide) (by decide) (by decide) (by decide) hf
  have s0 : f_X12_store fu 200 y.2.2.2.2.2.2.2.2.2.2.2.1 lo 25 (nI 0) = some g := s0
  have f0 : y.2.1 0 = x2.2.2.2.2.2.2.2.2.2.1 := by rw [k3, k1]; exact pk_us
  have f1 : y.2.2.1 0 = x2.2.2.2.2.2.2.2.2.2.2.1 := by rw [k4, k9]; exact pk_us
  have f2 : ∀ i, i ≠ 0 → y.2.1 i = fl i := fun i hi => by rw [k3]; exact (pk_un hi).trans (pk_un hi)
  have f3 : ∀ i, i ≠ 0 → y.2.2.1 i = pl i := fun i hi => by rw [k4]; exact (pk_un hi).trans (pk_un hi)
  obtain ⟨m, TM⟩ := G
  have hm1 := TM.1
  have hm2 := TM.2.1
  obtain ⟨a, a1, a2, a3, a4, a5⟩ := tl_
  have ea : a = cc := (nI_eq (by omega) (by omega)).1 (a2.symm.trans hcc)
  subst ea
  have A : TIs 0 cn' q0 w0 u0 h0 o0 q1 w1 u1 h1 o1 (upd mn 2 (nI c')) tw := TIs_keep tt (b2 0 (by decide)) (pk_un (by decide))
  have Bw : WIs 0 cn' d0 c0 d1 c1 (upd mn 2 (nI c')) wk := WIs_keep tw_ (b2 1 (by decide)) (pk_un (by decide))
  have Bl : LIs 0 cn' x2.2.2.2.2.2.2.2.1 (va_cpy x2.2.2.2.2.2.2.2.2.1 l0 0 0 (3 * m)) e1 l1 (upd mn 2 (nI c')) g := ⟨c', hc', b1, pk_us, fun _ => ⟨m, LgR_copy TM rfl (fun dd q1' q2' i hi => by have : m = dd := (nI_eq (by omega) (by omega)).1 (hm2.symm.trans q2'); exact cpy_e (by omega)) (fun i hi => (congrArg g (show 50 * 0 + i = 25 * 0 + i by omega)).trans ((s1 i hi).trans (congrArg y.2.2.2.2.2.2.2.2.2.2.2.1 (show i = 0 + i by omega))))⟩, fun z => by obtain ⟨n2, TM2⟩ := a5 (hu 1 (by decide) z); exact ⟨n2, LgR_copy TM2 rfl (fun _ _ _ _ _ => rfl) (fun i hi => s2 _ (by omega))⟩⟩
  have tk' := tk_20 (x2 := x2) (q0 := q0) (w0 := w0) (u0 := u0) (h0 := h0) (o0 := o0) (q1 := q1) (w1 := w1) (u1 := u1) (h1 := h1) (o1 := o1) (d0 := d0) (c0 := c0) (d1 := d1) (c1 := c1) (e0 := e0) (l0 := l0) (e1 := e1) (l1 := l1) hm1 hm2 hC ht
  rw [hM, r2, bnd_some]
  unfold f_X11_text mCont
  rw [hC, bnd_some, if_neg i10, r1, bnd_some, if_pos k1, tk', bnd_some, if_neg (show ¬ y.1 = 0 by rw [k2]; exact i10), if_neg (show ¬ nI 2 = (0 : Int32) by decide), if_neg (show ¬ nI 2 = (1 : Int32) by decide), s0, bnd_some]
  refine ⟨_, _, rfl, rfl, rfl, ?_, ?_⟩
  · show TS 0 (tp, (0 : Int32), x2.2.2.2.2.2.2.2.2.2.1, x2.2.2.2.2.2.2.2.2.2.2.1, cn', q0, w0, u0, h0, o0, q1, w1, u1, h1, o1, d0, c0, d1, c1, x2.2.2.2.2.2.2.2.1, va_cpy x2.2.2.2.2.2.2.2.2.1 l0 0 0 (3 * m), e1, l1) (mt, upd ms 0 0, y.2.1, y.2.2.1, upd mn 2 (nI c'), tw, wk, g)
    exact ⟨⟨0, by decide, rfl, (show upd ms 0 0 0 = nI 0 from pk_us), fun i hi => absurd hi (Nat.not_lt_zero _)⟩, f0, f1, A, Bw, Bl, z1, z2, ⟨m, hm1, hm2⟩, z4⟩
  · exact ⟨rfl, fun i hi => (show upd ms 0 0 i = ms i from pk_un hi), f2, f3, fun i hi => (show upd mn 2 (nI c') i = mn i from pk_un (by omega)), fun _ _ => rfl, fun _ _ => rfl, fun i hi => s2 i (by omega)⟩
theorem tk_21 {x2 : RdT} {cn' : FN} {m : Nat} (hm1 : m ≤ 8) (hm2 : x2.2.2.2.2.2.2.2.1 = nI m) (hC : f_X8_hasPlaceFor fu cn (nI 2) p2 = some 1) (ht : takeC cn (nI 2) p2 = some (nI 1, cn')) : f_X8_take fu cn q0 w0 u0 h0 o0 q1 w1 u1 h1 o1 d0 c0 d1 c1 e0 l0 e1 l1 x2.1 x2.2.1 x2.2.2.1 x2.2.2.2.1 x2.2.2.2.2.1 x2.2.2.2.2.2.1 x2.2.2.2.2.2.2.1 x2.2.2.2.2.2.2.2.1 x2.2.2.2.2.2.2.2.2.1 (nI 2) p2 = some (nI 1, cn', q0, w0, u0, h0, o0, q1, w1, u1, h1, o1, d0, c0, d1, c1, e0, l0, x2.2.2.2.2.2.2.2.1, va_cpy x2.2.2.2.2.2.2.2.2.1 l1 0 0 (3 * m)) := by
  unfold takeC at ht
  unfold f_X8_take f_X2_copy
  rw [hC, bnd_some, if_neg i10, ht, bnd_some]
  dsimp only
  rw [if_neg (show ¬ nI 2 = (0 : Int32) by decide), if_neg (show ¬ nI 2 = (1 : Int32) by decide), if_neg (show ¬ nI 1 = (0 : Int32) by decide), if_pos (show nI 1 = (1 : Int32) from rfl), cpg _ _ hm1 hm2, bnd_some, bnd_some]
theorem X_good21 {cc c' : Nat} {cn' : FN} {x2 : RdT} {y : RxT} (T : TS 0 (tp, ln, flt, plc, cn, q0, w0, u0, h0, o0, q1, w1, u1, h1, o1, d0, c0, d1, c1, e0, l0, e1, l1) (mt, ms, fl, pl, mn, tw, wk, lo)) (hf : 1000 ≤ fu) (hC : f_X8_hasPlaceFor fu cn (nI 2) p2 = some 1) (hM : f_X12_text fu code mt ms fl pl mn tw wk lo rc len bg so mv wd wr mf mp told rd far gd (nI 2) p2 = bnd (f_X12_readText fu mt (upd fl 0 0) (upd pl 0 (-1)) rc (ms 0) bg so mv wd wr mf mp told rd far gd (nI 2)) (mCont fu mn tw wk lo (ms 0) (upd ms 0 0) (nI 2) (nI 1) (upd mn 2 (nI c')))) (r1 : f_X5_read fu p wi pr ha ow d c e l cf cp num tp rl nx st tk vl q (nI 2) ln = some x2) (r2 : f_X12_readText fu mt (upd fl 0 0) (upd pl 0 (-1)) rc (ms 0) bg so mv wd wr mf mp told rd far gd (nI 2) = some y) (k1 : x2.2.2.2.2.2.2.2.2.2.1 = 0) (k9 : x2.2.2.2.2.2.2.2.2.2.2.1 = -1) (k2 : y.1 = 1) (k3 : y.2.1 = upd (upd fl 0 0) 0 0) (k4 : y.2.2.1 = upd (upd pl 0 (-1)) 0 (-1)) (G : ∃ m, LgR m x2.2.2.2.2.2.2.2.1 x2.2.2.2.2.2.2.2.2.1 y.2.2.2.2.2.2.2.2.2.2.2.1 0) (ht : takeC cn (nI 2) p2 = some (nI 1, cn')) (hc' : c' ≤ 2) (hv : 1 < c') (hu : ∀ u, u ≠ 1 → u < c' → u < cc) (hcc : cn 2 = nI cc) (hc2 : cc ≤ 2) (b1 : cn' 2 = nI c') (b2 : ∀ i, i ≠ 2 → cn' i = cn i) : ∃ (X : TxC) (Y : TxM), f_X11_text fu tp ln flt plc cn q0 w0 u0 h0 o0 q1 w1 u1 h1 o1 d0 c0 d1 c1 e0 l0 e1 l1 p wi pr ha ow d c e l cf cp num rl nx st tk vl q (nI 2) p2 = some X ∧ f_X12_text fu code mt ms fl pl mn tw wk lo rc len bg so mv wd wr mf mp told rd far gd (nI 2) p2 = some Y ∧ X.1 = Y.1 ∧ TS 0 (tp, X.2.1, X.2.2.1, X.2.2.2.1, X.2.2.2.2.1, X.2.2.2.2.2.1, X.2.2.2.2.2.2.1, X.2.2.2.2.2.2.2.1, X.2.2.2.2.2.2.2.2.1, X.2.2.2.2.2.2.2.2.2.1, X.2.2.2.2.2.2.2.2.2.2.1, X.2.2.2.2.2.2.2.2.2.2.2.1, X.2.2.2.2.2.2.2.2.2.2.2.2.1, X.2.2.2.2.2.2.2.2.2.2.2.2.2.1, X.2.2.2.2.2.2.2.2.2.2.2.2.2.2.1, X.2.2.2.2.2.2.2.2.2.2.2.2.2.2.2.1, X.2.2.2.2.2.2.2.2.2.2.2.2.2.2.2.2.1, X.2.2.2.2.2.2.2.2.2.2.2.2.2.2.2.2.2.1, X.2.2.2.2.2.2.2.2.2.2.2.2.2.2.2.2.2.2.1, X.2.2.2.2.2.2.2.2.2.2.2.2.2.2.2.2.2.2.2.1, X.2.2.2.2.2.2.2.2.2.2.2.2.2.2.2.2.2.2.2.2.1, X.2.2.2.2.2.2.2.2.2.2.2.2.2.2.2.2.2.2.2.2.2.1, X.2.2.2.2.2.2.2.2.2.2.2.2.2.2.2.2.2.2.2.2.2.2.1) (mt, Y.2.2.1, Y.2.2.2.1, Y.2.2.2.2.1, Y.2.2.2.2.2.1, Y.2.2.2.2.2.2.1, Y.2.2.2.2.2.2.2.1, Y.2.2.2.2.2.2.2.2.1) ∧ UnR (mt, ms, fl, pl, mn, tw, wk, lo) (mt, Y.2.2.1, Y.2.2.2.1, Y.2.2.2.2.1, Y.2.2.2.2.2.1, Y.2.2.2.2.2.2.1, Y.2.2.2.2.2.2.2.1, Y.2.2.2.2.2.2.2.2.1) := by
  obtain ⟨t1, t2, t3, tt, tw_, tl_, z1, z2, z3, z4⟩ := T
  obtain ⟨g, s0, s1, s2⟩ := store_ok (fu := fu) (N := 200) (w := 25) (v := 1) (M := lo) (told := y.2.2.2.2.2.2.2.2.2.2.2.1) (by decide) (by decide) (by decide) (by decide) hf
  have s0 : f_X12_store fu 200 y.2.2.2.2.2.2.2.2.2.2.2.1 lo 25 (nI 1) = some g := s0
  have f0 : y.2.1 0 = x2.2.2.2.2.2.2.2.2.2.1 := by rw [k3, k1]; exact pk_us
  have f1 : y.2.2.1 0 = x2.2.2.2.2.2.2.2.2.2.2.1 := by rw [k4, k9]; exact pk_us
  have f2 : ∀ i, i ≠ 0 → y.2.1 i = fl i := fun i hi => by rw [k3]; exact (pk_un hi).trans (pk_un hi)
  have f3 : ∀ i, i ≠ 0 → y.2.2.1 i = pl i := fun i hi => by rw [k4]; exact (pk_un hi).trans (pk_un hi)
  obtain ⟨m, TM⟩ := G
  have hm1 := TM.1
  have hm2 := TM.2.1
  obtain ⟨a, a1, a2, a3, a4, a5⟩ := tl_
  have ea : a = cc := (nI_eq (by omega) (by omega)).1 (a2.symm.trans hcc)
  subst ea
  have A : TIs 0 cn' q0 w0 u0 h0 o0 q1 w1 u1 h1 o1 (upd mn 2 (nI c')) tw := TIs_keep tt (b2 0 (by decide)) (pk_un (by decide))
  have Bw : WIs 0 cn' d0 c0 d1 c1 (upd mn 2 (nI c')) wk := WIs_keep tw_ (b2 1 (by decide)) (pk_un (by decide))
  have Bl : LIs 0 cn' e0 l0 x2.2.2.2.2.2.2.2.1 (va_cpy x2.2.2.2.2.2.2.2.2.1 l1 0 0 (3 * m)) (upd mn 2 (nI c')) g := ⟨c', hc', b1, pk_us, fun z => by obtain ⟨n2, TM2⟩ := a4 (hu 0 (by decide) z); exact ⟨n2, LgR_copy TM2 rfl (fun _ _ _ _ _ => rfl) (fun i hi => s2 _ (by omega))⟩, fun _ => ⟨m, LgR_copy TM rfl (fun dd q1' q2' i hi => by have : m = dd := (nI_eq (by omega) (by omega)).1 (hm2.symm.trans q2'); exact cpy_e (by omega)) (fun i hi => (congrArg g (show 50 * 0 + 25 + i = 25 * 1 + i by omega)).trans ((s1 i hi).trans (congrArg y.2.2.2.2.2.2.2.2.2.2.2.1 (show i = 0 + i by omega))))⟩⟩
  have tk' := tk_21 (x2 := x2) (q0 := q0) (w0 := w0) (u0 := u0) (h0 := h0) (o0 := o0) (q1 := q1) (w1 := w1) (u1 := u1) (h1 := h1) (o1 := o1) (d0 := d0) (c0 := c0) (d1 := d1) (c1 := c1) (e0 := e0) (l0 := l0) (e1 := e1) (l1 := l1) hm1 hm2 hC ht
  rw [hM, r2, bnd_some]
  unfold f_X11_text mCont
  rw [hC, bnd_some, if_neg i10, r1, bnd_some, if_pos k1, tk', bnd_some, if_neg (show ¬ y.1 = 0 by rw [k2]; exact i10), if_neg (show ¬ nI 2 = (0 : Int32) by decide), if_neg (show ¬ nI 2 = (1 : Int32) by decide), s0, bnd_some]
  refine ⟨_, _, rfl, rfl, rfl, ?_, ?_⟩
  · show TS 0 (tp, (0 : Int32), x2.2.2.2.2.2.2.2.2.2.1, x2.2.2.2.2.2.2.2.2.2.2.1, cn', q0, w0, u0, h0, o0, q1, w1, u1, h1, o1, d0, c0, d1, c1, e0, l0, x2.2.2.2.2.2.2.2.1, va_cpy x2.2.2.2.2.2.2.2.2.1 l1 0 0 (3 * m)) (mt, upd ms 0 0, y.2.1, y.2.2.1, upd mn 2 (nI c'), tw, wk, g)
    exact ⟨⟨0, by decide, rfl, (show upd ms 0 0 0 = nI 0 from pk_us), fun i hi => absurd hi (Nat.not_lt_zero _)⟩, f0, f1, A, Bw, Bl, z1, z2, z3, ⟨m, hm1, hm2⟩⟩
  · exact ⟨rfl, fun i hi => (show upd ms 0 0 i = ms i from pk_un hi), f2, f3, fun i hi => (show upd mn 2 (nI c') i = mn i from pk_un (by omega)), fun _ _ => rfl, fun _ _ => rfl, fun i hi => s2 i (by omega)⟩
end TX2
