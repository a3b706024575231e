/-! ===== text: class and reference ===== -/
/-- the reference's other slots are as they were -/
def UnR (R R2 : RT) : Prop := R2.1 = R.1 ∧ (∀ i, i ≠ 0 → R2.2.1 i = R.2.1 i) ∧ (∀ i, i ≠ 0 → R2.2.2.1 i = R.2.2.1 i) ∧ (∀ i, i ≠ 0 → R2.2.2.2.1 i = R.2.2.2.1 i) ∧ (∀ i, 3 ≤ i → R2.2.2.2.2.1 i = R.2.2.2.2.1 i) ∧ (∀ i, 110 ≤ i → R2.2.2.2.2.2.1 i = R.2.2.2.2.2.1 i) ∧ (∀ i, 322 ≤ i → R2.2.2.2.2.2.2.1 i = R.2.2.2.2.2.2.1 i) ∧ (∀ i, 50 ≤ i → R2.2.2.2.2.2.2.2 i = R.2.2.2.2.2.2.2 i)
theorem UnR_cp {R R2 : RT} {u : Nat} (H : UnR R R2) (hu : 0 < u) : RCp u u R R2 := by
  obtain ⟨h1, h2, h3, h4, h5, h6, h7, h8⟩ := H
  exact ⟨fun i _ b _ e => by rw [h1]; exact e, h2 u (by omega), h3 u (by omega), h4 u (by omega), fun i hi => h5 _ (by omega), fun i hi => h6 _ (by omega), fun i hi => h7 _ (by omega), fun i hi => h8 _ (by omega)⟩
abbrev TxC : Type := Int32 × Int32 × Int32 × Int32 × FN × Int32 × FN × FN × FN × FN × Int32 × FN × FN × FN × FN × Int32 × FN × Int32 × FN × Int32 × FN × Int32 × FN × RdT
section TXT
variable {fu : Nat} {tp : FN} {ln flt plc : Int32} {cn : FN} {q0 : Int32} {w0 u0 h0 o0 : FN} {q1 : Int32} {w1 u1 h1 o1 : FN} {d0 : Int32} {c0 : FN} {d1 : Int32} {c1 : FN} {e0 : Int32} {l0 : FN} {e1 : Int32} {l1 : FN}
variable {mt ms fl pl mn tw wk lo : FN} {code rc len bg so mv wr mf mp far gd : Int32} {wd : Int64} {told rd : FN}
variable {p d e cf cp rl nx st tk vl q : Int32} {wi pr ha ow c l num : FN} {p2 : Int32}
theorem TIs_keep {cn2 mn2 : FN} (H : TIs 0 cn q0 w0 u0 h0 o0 q1 w1 u1 h1 o1 mn tw) (e1 : cn2 0 = cn 0) (e2 : mn2 0 = mn 0) : TIs 0 cn2 q0 w0 u0 h0 o0 q1 w1 u1 h1 o1 mn2 tw := by
  obtain ⟨c, k1, k2, k3, k4⟩ := H
  exact ⟨c, k1, e1.trans k2, Eq.trans (b := mn 0) e2 k3, k4⟩
theorem WIs_keep {cn2 mn2 : FN} (H : WIs 0 cn d0 c0 d1 c1 mn wk) (e1 : cn2 1 = cn 1) (e2 : mn2 1 = mn 1) : WIs 0 cn2 d0 c0 d1 c1 mn2 wk := by
  obtain ⟨c, k1, k2, k3, k4⟩ := H
  exact ⟨c, k1, e1.trans k2, Eq.trans (b := mn 1) e2 k3, k4⟩
theorem LIs_keep {cn2 mn2 : FN} (H : LIs 0 cn e0 l0 e1 l1 mn lo) (g1 : cn2 2 = cn 2) (g2 : mn2 2 = mn 2) : LIs 0 cn2 e0 l0 e1 l1 mn2 lo := by
  obtain ⟨c, k1, k2, k3, k4⟩ := H
  exact ⟨c, k1, g1.trans k2, Eq.trans (b := mn 2) g2 k3, k4⟩
theorem cp6 (f g : FN) : cpi 6 6 f g 0 0 6 = some (va_cpy f g 0 0 6) := cp_k (k := 6) (by decide) (by decide)
theorem cp36 (f g : FN) : cpi 36 36 f g 0 0 36 = some (va_cpy f g 0 0 36) := cp_k (k := 36) (by decide) (by decide)
theorem cpw {m : Nat} {dd : Int32} (f g : FN) (hd : m ≤ 40) (e : dd = nI m) : cpi 160 160 f g 0 0 (4 * dd) = some (va_cpy f g 0 0 (4 * m)) := by
  rw [e, show (4 : Int32) = nI 4 from rfl, pk_mul]; exact cp_k (by omega) (by decide)
theorem cpg {m : Nat} {dd : Int32} (f g : FN) (hd : m ≤ 8) (e : dd = nI m) : cpi 24 24 f g 0 0 (3 * dd) = some (va_cpy f g 0 0 (3 * m)) := by
  rw [e, show (3 : Int32) = nI 3 from rfl, pk_mul]; exact cp_k (by omega) (by decide)
theorem nar_c9 (f g : FN) {p2 p9 : Int32} (e : p9 = p2) : p9 = p2 ∧ ∀ i, i < 6 → va_cpy f g 0 0 6 i = f i := ⟨e, fun i hi => cpy_e hi⟩
theorem X_text0 {p1 : Int32} (T : TS 0 (tp, ln, flt, plc, cn, q0, w0, u0, h0, o0, q1, w1, u1, h1, o1, d0, c0, d1, c1, e0, l0, e1, l1) (mt, ms, fl, pl, mn, tw, wk, lo)) (hC : f_X8_hasPlaceFor fu cn p1 p2 = some 0) (hM : f_X12_in fu p1 0 2 = some 0 ∨ ∃ j c, p1 = nI j ∧ j < 3 ∧ mn j = nI c ∧ ((p2 = -1 ∧ c = 2) ∨ (¬ p2 = -1 ∧ f_X12_is fu mn (nI j) p2 = some 0))) : ∃ (X : TxC) (Y : TxM), f_X11_text fu tp ln flt plc cn q0 w0 u0 h0 o0 q1 w1 u1 h1 o1 d0 c0 d1 c1 e0 l0 e1 l1 p wi pr ha ow d c e l cf cp num rl nx st tk vl q p1 p2 = some X ∧ f_X12_text fu code mt ms fl pl mn tw wk lo rc len bg so mv wd wr mf mp told rd far gd p1 p2 = some Y ∧ X.1 = Y.1 ∧ TS 0 (tp, X.2.1, X.2.2.1, X.2.2.2.1, X.2.2.2.2.1, X.2.2.2.2.2.1, X.2.2.2.2.2.2.1, X.2.2.2.2.2.2.2.1, X.2.2.2.2.2.2.2.2.1, X.2.2.2.2.2.2.2.2.2.1, X.2.2.2.2.2.2.2.2.2.2.1, X.2.2.2.2.2.2.2.2.2.2.2.1, X.2.2.2.2.2.2.2.2.2.2.2.2.1, X.2.2.2.2.2.2.2.2.2.2.2.2.2.1, X.2.2.2.2.2.2.2.2.2.2.2.2.2.2.1, X.2.2.2.2.2.2.2.2.2.2.2.2.2.2.2.1, X.2.2.2.2.2.2.2.2.2.2.2.2.2.2.2.2.1, X.2.2.2.2.2.2.2.2.2.2.2.2.2.2.2.2.2.1, X.2.2.2.2.2.2.2.2.2.2.2.2.2.2.2.2.2.2.1, X.2.2.2.2.2.2.2.2.2.2.2.2.2.2.2.2.2.2.2.1, X.2.2.2.2.2.2.2.2.2.2.2.2.2.2.2.2.2.2.2.2.1, X.2.2.2.2.2.2.2.2.2.2.2.2.2.2.2.2.2.2.2.2.2.1, X.2.2.2.2.2.2.2.2.2.2.2.2.2.2.2.2.2.2.2.2.2.2.1) (mt, Y.2.2.1, Y.2.2.2.1, Y.2.2.2.2.1, Y.2.2.2.2.2.1, Y.2.2.2.2.2.2.1, Y.2.2.2.2.2.2.2.1, Y.2.2.2.2.2.2.2.2.1) ∧ UnR (mt, ms, fl, pl, mn, tw, wk, lo) (mt, Y.2.2.1, Y.2.2.2.1, Y.2.2.2.2.1, Y.2.2.2.2.2.1, Y.2.2.2.2.2.2.1, Y.2.2.2.2.2.2.2.1, Y.2.2.2.2.2.2.2.2.1) := by
  obtain ⟨t1, t2, t3, t4⟩ := T
  unfold f_X11_text
  rw [hC, bnd_some, if_pos i00, M_text0 hM]
  refine ⟨_, _, rfl, rfl, rfl, ⟨⟨0, by decide, rfl, (show upd ms 0 0 0 = nI 0 from pk_us), fun i hi => absurd hi (Nat.not_lt_zero _)⟩, (show upd fl 0 0 0 = (0 : Int32) from pk_us), (show upd pl 0 (-1) 0 = (-1 : Int32) from pk_us), t4⟩, rfl, fun i hi => (show upd ms 0 0 i = ms i from pk_un hi), fun i hi => (show upd fl 0 0 i = fl i from pk_un hi), fun i hi => (show upd pl 0 (-1) i = pl i from pk_un hi), fun _ _ => rfl, fun _ _ => rfl, fun _ _ => rfl, fun _ _ => rfl⟩
theorem X_text1 {j cc v c' : Nat} {x2 : RdT} {y : RxT} (T : TS 0 (tp, ln, flt, plc, cn, q0, w0, u0, h0, o0, q1, w1, u1, h1, o1, d0, c0, d1, c1, e0, l0, e1, l1) (mt, ms, fl, pl, mn, tw, wk, lo)) (hC : f_X8_hasPlaceFor fu cn (nI j) p2 = some 1) (hM : f_X12_text fu code mt ms fl pl mn tw wk lo rc len bg so mv wd wr mf mp told rd far gd (nI j) p2 = bnd (f_X12_readText fu mt (upd fl 0 0) (upd pl 0 (-1)) rc (ms 0) bg so mv wd wr mf mp told rd far gd (nI j)) (mCont fu mn tw wk lo (ms 0) (upd ms 0 0) (nI j) (nI v) (upd mn j (nI c')))) (r1 : f_X5_read fu p wi pr ha ow d c e l cf cp num tp rl nx st tk vl q (nI j) ln = some x2) (r2 : f_X12_readText fu mt (upd fl 0 0) (upd pl 0 (-1)) rc (ms 0) bg so mv wd wr mf mp told rd far gd (nI j) = some y) (k1 : ¬ x2.2.2.2.2.2.2.2.2.2.1 = 0) (k2 : y.1 = 0) (k3 : y.2.1 = upd (upd fl 0 0) 0 x2.2.2.2.2.2.2.2.2.2.1) (k4 : y.2.2.1 = upd (upd pl 0 (-1)) 0 x2.2.2.2.2.2.2.2.2.2.2.1) : ∃ (X : TxC) (Y : TxM), f_X11_text fu tp ln flt plc cn q0 w0 u0 h0 o0 q1 w1 u1 h1 o1 d0 c0 d1 c1 e0 l0 e1 l1 p wi pr ha ow d c e l cf cp num rl nx st tk vl q (nI j) p2 = some X ∧ f_X12_text fu code mt ms fl pl mn tw wk lo rc len bg so mv wd wr mf mp told rd far gd (nI j) p2 = some Y ∧ X.1 = Y.1 ∧ TS 0 (tp, X.2.1, X.2.2.1, X.2.2.2.1, X.2.2.2.2.1, X.2.2.2.2.2.1, X.2.2.2.2.2.2.1, X.2.2.2.2.2.2.2.1, X.2.2.2.2.2.2.2.2.1, X.2.2.2.2.2.2.2.2.2.1, X.2.2.2.2.2.2.2.2.2.2.1, X.2.2.2.2.2.2.2.2.2.2.2.1, X.2.2.2.2.2.2.2.2.2.2.2.2.1, X.2.2.2.2.2.2.2.2.2.2.2.2.2.1, X.2.2.2.2.2.2.2.2.2.2.2.2.2.2.1, X.2.2.2.2.2.2.2.2.2.2.2.2.2.2.2.1, X.2.2.2.2.2.2.2.2.2.2.2.2.2.2.2.2.1, X.2.2.2.2.2.2.2.2.2.2.2.2.2.2.2.2.2.1, X.2.2.2.2.2.2.2.2.2.2.2.2.2.2.2.2.2.2.1, X.2.2.2.2.2.2.2.2.2.2.2.2.2.2.2.2.2.2.2.1, X.2.2.2.2.2.2.2.2.2.2.2.2.2.2.2.2.2.2.2.2.1, X.2.2.2.2.2.2.2.2.2.2.2.2.2.2.2.2.2.2.2.2.2.1, X.2.2.2.2.2.2.2.2.2.2.2.2.2.2.2.2.2.2.2.2.2.2.1) (mt, Y.2.2.1, Y.2.2.2.1, Y.2.2.2.2.1, Y.2.2.2.2.2.1, Y.2.2.2.2.2.2.1, Y.2.2.2.2.2.2.2.1, Y.2.2.2.2.2.2.2.2.1) ∧ UnR (mt, ms, fl, pl, mn, tw, wk, lo) (mt, Y.2.2.1, Y.2.2.2.1, Y.2.2.2.2.1, Y.2.2.2.2.2.1, Y.2.2.2.2.2.2.1, Y.2.2.2.2.2.2.2.1, Y.2.2.2.2.2.2.2.2.1) := by
  obtain ⟨t1, t2, t3, t4⟩ := T
  rw [hM, r2, bnd_some]
  unfold f_X11_text mCont
  rw [hC, bnd_some, if_neg i10, r1, bnd_some, if_neg k1, if_pos k2]
  refine ⟨_, _, rfl, rfl, rfl, ⟨⟨0, by decide, rfl, (show upd ms 0 0 0 = nI 0 from pk_us), fun i hi => absurd hi (Nat.not_lt_zero _)⟩, ?_, ?_, t4⟩, rfl, fun i hi => (show upd ms 0 0 i = ms i from pk_un hi), fun i hi => ?_, fun i hi => ?_, fun _ _ => rfl, fun _ _ => rfl, fun _ _ => rfl, fun _ _ => rfl⟩
  · show y.2.1 0 = _
    rw [k3]; exact pk_us
  · show y.2.2.1 0 = _
    rw [k4]; exact pk_us
  · show y.2.1 i = fl i
    rw [k3]; exact (pk_un hi).trans (pk_un hi)
  · show y.2.2.1 i = pl i
    rw [k4]; exact (pk_un hi).trans (pk_un hi)
end TXT
