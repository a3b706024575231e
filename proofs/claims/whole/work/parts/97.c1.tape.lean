/-! ===== the tape: feed and end ===== -/
/-- a byte, signed -/
def sbN (b : Nat) : Int32 := if b < 128 then nI b else nI b - 256
theorem sb_all : ∀ b, b < 256 → (Int8.ofNat b).toInt32 = sbN b := by decide +kernel
theorem byte_ex (y : Int32) : ∃ b, b < 256 ∧ vp_nar .byte (jbyte y) = sbN b := by
  refine ⟨y.toInt8.toBitVec.toNat, y.toInt8.toBitVec.isLt, ?_⟩
  have e : Int8.ofNat y.toInt8.toBitVec.toNat = y.toInt8 := by
    apply Int8.toBitVec_inj.1
    show BitVec.ofNat 8 y.toInt8.toBitVec.toNat = y.toInt8.toBitVec
    exact BitVec.ofNat_toNat _ _ ▸ by simp
  unfold jbyte
  rw [pk_vb, ← sb_all _ y.toInt8.toBitVec.isLt, e]
theorem nar0 : ∀ b, b < 256 → (sbN b).toInt8.toInt32 = sbN b := by decide +kernel
theorem nar_sb (b : Nat) (hb : b < 256) : vp_nar .byte (sbN b) = sbN b := (vp_nar_byte _).trans (nar0 b hb)
/-- the fed bytes in class and reference (slot s) -/
def TPs (s : Nat) (tape : FN) (len : Int32) (mt ms : FN) : Prop := ∃ L, L ≤ 600 ∧ len = nI L ∧ ms s = nI L ∧ ∀ i, i < L → ∃ b, b < 256 ∧ tape i = sbN b ∧ mt (600 * s + i) = sbN b
def bB (p : Int32) (j : Nat) : Int32 := vp_nar .byte (jbyte (jshr p (nI (32 - 8 * j) - 8)))
section TAP
variable {fu L : Nat} {tape mt ms : FN} {p : Int32}
theorem sh_s : ∀ j, j < 4 → ¬ (nI (32 - 8 * j) - 8 < 0) ∧ nI (32 - 8 * j) - 8 + (-8) = nI (32 - 8 * (j + 1)) - 8 := by decide
theorem ok_put (hL : L + 4 ≤ 600) (hf : 100 ≤ fu) : ok (f_X8_put fu tape (nI L) p) (fun x => x.2 = nI (L + 4) ∧ (∀ i, i < L → x.1 i = tape i) ∧ ∀ j, j < 4 → x.1 (L + j) = bB p j) := by
  unfold f_X8_put
  refine ok_bnd (ok_mono (ok_up (step := f_X8_put_L3 p) (P := fun x => x.2 = nI (L + 4) ∧ (∀ i, i < L → x.1 i = tape i) ∧ ∀ j, j < 4 → x.1 (L + j) = bB p j) 4 (fun j st => st.1 = nI (32 - 8 * j) - 8 ∧ st.2.2 = nI (L + j) ∧ (∀ i, i < L → st.2.1 i = tape i) ∧ ∀ i, i < j → st.2.1 (L + i) = bB p i) ?_ ?_ 4 fu 0 _ (by omega) (by omega) ⟨by show (24 : Int32) = nI (32 - 8 * 0) - 8; decide, rfl, fun _ _ => rfl, fun i hi => absurd hi (Nat.not_lt_zero _)⟩) (fun x hx => ok_some hx))
  · rintro j ⟨c, T, l⟩ hj ⟨rfl, rfl, g1, g2⟩
    obtain ⟨s1, s2⟩ := sh_s j hj
    simp only [f_X8_put_L3]
    rw [if_neg s1, if_neg (show ¬ (600 : Int32) ≤ nI (L + j) by rw [show (600 : Int32) = nI 600 from rfl]; exact nI_ge (by omega) (by decide))]
    refine ok_ltn ?_
    rw [wri_n (show L + j < 600 by omega) (by decide), bnd_some]
    refine ok_ltn ?_
    refine ok_some ⟨s2, nI_1 (L + j), fun i hi => (pk_un (by omega)).trans (g1 i hi), fun i hi => ?_⟩
    by_cases e : i = j
    · rw [e]; exact pk_us
    · exact (pk_un (by omega)).trans (g2 i (by omega))
  · rintro ⟨c, T, l⟩ ⟨rfl, rfl, g1, g2⟩
    simp only [f_X8_put_L3]
    rw [if_pos (by decide)]
    exact ok_some ⟨rfl, g1, g2⟩
theorem ok_four (hs : ms 0 = nI L) (hL : L + 4 ≤ 600) (hf : 100 ≤ fu) : ok (f_X12_four fu mt ms p) (fun x => x.2 0 = nI (L + 4) ∧ (∀ i, i ≠ 0 → x.2 i = ms i) ∧ (∀ i, i < L → x.1 i = mt i) ∧ (∀ j, j < 4 → x.1 (L + j) = bB p j) ∧ ∀ i, 600 ≤ i → x.1 i = mt i) := by
  unfold f_X12_four
  refine ok_bnd (ok_mono (ok_up (step := f_X12_four_L3 p) (P := fun x => x.2 0 = nI (L + 4) ∧ (∀ i, i ≠ 0 → x.2 i = ms i) ∧ (∀ i, i < L → x.1 i = mt i) ∧ (∀ j, j < 4 → x.1 (L + j) = bB p j) ∧ ∀ i, 600 ≤ i → x.1 i = mt i) 4 (fun j st => st.1 = nI (32 - 8 * j) - 8 ∧ st.2.2 0 = nI (L + j) ∧ (∀ i, i ≠ 0 → st.2.2 i = ms i) ∧ (∀ i, i < L → st.2.1 i = mt i) ∧ (∀ i, i < j → st.2.1 (L + i) = bB p i) ∧ ∀ i, 600 ≤ i → st.2.1 i = mt i) ?_ ?_ 4 fu 0 _ (by omega) (by omega) ⟨by show (24 : Int32) = nI (32 - 8 * 0) - 8; decide, hs, fun _ _ => rfl, fun _ _ => rfl, fun i hi => absurd hi (Nat.not_lt_zero _), fun _ _ => rfl⟩) (fun x hx => ok_some hx))
  · rintro j ⟨c, T, z⟩ hj ⟨rfl, g0, g1, g2, g3, g4⟩
    obtain ⟨s1, s2⟩ := sh_s j hj
    have g0 : z 0 = nI (L + j) := g0
    have r0 : rdi 4 z 0 = some (nI (L + j)) := rdi_n (k := 0) (by decide) (by decide) g0
    have w0 : ∀ v : Int32, wri 4 z 0 v = some (upd z 0 v) := fun v => wri_n (k := 0) (by decide) (by decide)
    simp only [f_X12_four_L3]
    rw [if_neg s1, r0, bnd_some]
    refine ok_ltn ?_
    rw [wri_n (show L + j < 2400 by omega) (by decide), bnd_some]
    refine ok_ltn ?_
    rw [r0, bnd_some]
    refine ok_ltn ?_
    rw [w0, bnd_some]
    refine ok_some ⟨s2, (show upd z 0 (nI (L + j) + 1) 0 = nI (L + (j + 1)) from pk_us.trans (nI_1 (L + j))), fun i hi => (pk_un hi).trans (g1 i hi), fun i hi => (pk_un (by omega)).trans (g2 i hi), fun i hi => ?_, fun i hi => (pk_un (by omega)).trans (g4 i hi)⟩
    by_cases e : i = j
    · rw [e]; exact pk_us
    · exact (pk_un (by omega)).trans (g3 i (by omega))
  · rintro ⟨c, T, z⟩ ⟨rfl, g0, g1, g2, g3, g4⟩
    simp only [f_X12_four_L3]
    rw [if_pos (by decide)]
    exact ok_some ⟨g0, g1, g2, g3, g4⟩
/-- both tapes grow alike -/
theorem ok_both (hs : ms 0 = nI L) (hL : L + 4 ≤ 600) (hB : ∀ i, i < L → ∃ b, b < 256 ∧ tape i = sbN b ∧ mt i = sbN b) (hf : 100 ≤ fu) : ∃ (x : FN × Int32) (y : FN × FN), f_X8_put fu tape (nI L) p = some x ∧ f_X12_four fu mt ms p = some y ∧ x.2 = nI (L + 4) ∧ y.2 0 = nI (L + 4) ∧ (∀ i, i ≠ 0 → y.2 i = ms i) ∧ (∀ i, i < L + 4 → ∃ b, b < 256 ∧ x.1 i = sbN b ∧ y.1 i = sbN b) ∧ ∀ i, 600 ≤ i → y.1 i = mt i := by
  obtain ⟨x, ex, x1, x2, x3⟩ := ok_put (fu := fu) (tape := tape) (p := p) hL hf
  obtain ⟨y, ey, y0, y1, y2, y3, y4⟩ := ok_four (fu := fu) (mt := mt) (p := p) hs hL hf
  refine ⟨x, y, ex, ey, x1, y0, y1, fun i hi => ?_, y4⟩
  by_cases c : i < L
  · obtain ⟨b, b1, b2, b3⟩ := hB i c
    exact ⟨b, b1, (x2 i c).trans b2, (y2 i c).trans b3⟩
  · obtain ⟨j, hj⟩ : ∃ j, i = L + j := ⟨i - L, by omega⟩
    obtain ⟨b, b1, b2⟩ := byte_ex (jshr p (nI (32 - 8 * j) - 8))
    rw [hj]
    exact ⟨b, b1, (x3 j (by omega)).trans b2, (y3 j (by omega)).trans b2⟩
theorem S_feed {len code p1 p2 p3 p4 p5 : Int32} (T : TPs 0 tape len mt ms) (hf : 100 ≤ fu) : ∃ (x : Int32 × FN × Int32) (y : Int32 × Int32 × FN × FN), f_X11_feed fu tape len p1 p2 p3 p4 p5 = some x ∧ f_X12_feed fu code mt ms p1 p2 p3 p4 p5 = some y ∧ x.1 = y.1 ∧ TPs 0 x.2.1 x.2.2 y.2.2.1 y.2.2.2 ∧ (∀ i, i ≠ 0 → y.2.2.2 i = ms i) ∧ ∀ i, 600 ≤ i → y.2.2.1 i = mt i := by
  obtain ⟨L, hL, rfl, hs, hB⟩ := T
  have hB : ∀ i, i < L → ∃ b, b < 256 ∧ tape i = sbN b ∧ mt i = sbN b := fun i hi => by
    obtain ⟨b, b1, b2, b3⟩ := hB i hi
    exact ⟨b, b1, b2, by rw [Nat.mul_zero, Nat.zero_add] at b3; exact b3⟩
  have r0 : ∀ z : FN, rdi 4 z 0 = some (z 0) := fun z => rdi_n (k := 0) (by decide) (by decide) rfl
  unfold f_X11_feed f_X12_feed
  rw [r0, bnd_some, hs, show (20 : Int32) = nI 20 from rfl, show (600 : Int32) = nI 600 from rfl, nI_add]
  by_cases c : L + 20 ≤ 600
  · rw [if_pos (nI_le c (by decide)), if_pos (nI_le c (by decide))]
    obtain ⟨x1, y1, e1, f1, a1, b1, c1, d1, g1⟩ := ok_both (fu := fu) (p := p1) hs (by omega) hB hf
    obtain ⟨x2, y2, e2, f2, a2, b2, c2, d2, g2⟩ := ok_both (fu := fu) (p := p2) b1 (by omega) d1 hf
    obtain ⟨x3, y3, e3, f3, a3, b3, c3, d3', g3⟩ := ok_both (fu := fu) (p := p3) b2 (by omega) d2 hf
    obtain ⟨x4, y4, e4, f4, a4, b4, c4, d4, g4⟩ := ok_both (fu := fu) (p := p4) b3 (by omega) d3' hf
    obtain ⟨x5, y5, e5, f5, a5, b5, c5, d5, g5⟩ := ok_both (fu := fu) (p := p5) b4 (by omega) d4 hf
    rw [e1, bnd_some, a1, e2, bnd_some, a2, e3, bnd_some, a3, e4, bnd_some, a4, e5, bnd_some, f1, bnd_some, f2, bnd_some, f3, bnd_some, f4, bnd_some, f5, bnd_some, r0, bnd_some]
    refine ⟨_, _, rfl, rfl, a5.trans b5.symm, ⟨L + 4 + 4 + 4 + 4 + 4, by omega, a5, b5, fun i hi => ?_⟩, fun i hi => ((((c5 i hi).trans (c4 i hi)).trans (c3 i hi)).trans (c2 i hi)).trans (c1 i hi), fun i hi => ((((g5 i hi).trans (g4 i hi)).trans (g3 i hi)).trans (g2 i hi)).trans (g1 i hi)⟩
    obtain ⟨b, q1, q2, q3⟩ := d5 i hi
    exact ⟨b, q1, q2, show y5.1 (600 * 0 + i) = sbN b by rw [Nat.mul_zero, Nat.zero_add]; exact q3⟩
  · rw [if_neg (nI_ge (by omega) (by omega)), if_neg (nI_ge (by omega) (by omega))]
    refine ⟨_, _, rfl, rfl, rfl, ⟨L, hL, rfl, hs, fun i hi => ?_⟩, fun _ _ => rfl, fun _ _ => rfl⟩
    obtain ⟨b, q1, q2, q3⟩ := hB i hi
    exact ⟨b, q1, q2, show mt (600 * 0 + i) = sbN b by rw [Nat.mul_zero, Nat.zero_add]; exact q3⟩
theorem S_end {len code p1 : Int32} (T : TPs 0 tape len mt ms) : ∃ (x : Int32 × Int32) (y : Int32 × Int32 × FN), f_X11_end fu len p1 = some x ∧ f_X12_end fu code ms p1 = some y ∧ x.1 = y.1 ∧ TPs 0 tape x.2 mt y.2.2 ∧ ∀ i, i ≠ 0 → y.2.2 i = ms i := by
  have T0 := T
  obtain ⟨L, hL, rfl, hs, hB⟩ := T
  have r0 : rdi 4 ms 0 = some (nI L) := rdi_n (k := 0) (by decide) (by decide) hs
  have w0 : ∀ v : Int32, wri 4 ms 0 v = some (upd ms 0 v) := fun v => wri_n (k := 0) (by decide) (by decide)
  unfold f_X11_end f_X12_end
  rw [r0, bnd_some]
  rcases rng (fu := fu) p1 L (by omega) with ⟨j, hj, rfl, i1, i2, i3, i4⟩ | ⟨i1, i2⟩
  · rw [if_neg i2, if_pos i3, i1, bnd_some, if_neg i10, w0, bnd_some]
    exact ⟨_, _, rfl, rfl, rfl, ⟨j, by omega, rfl, (show upd ms 0 (nI j) 0 = nI j from pk_us), fun i hi => hB i (by omega)⟩, fun i hi => pk_un hi⟩
  · rw [i1, bnd_some, if_pos i00]
    rcases i2 with i2 | ⟨i2, i3, i4⟩
    · rw [if_pos i2]
      exact ⟨_, _, rfl, rfl, rfl, T0, fun _ _ => rfl⟩
    · rw [if_neg i2, if_neg i3]
      exact ⟨_, _, rfl, rfl, rfl, T0, fun _ _ => rfl⟩
end TAP
