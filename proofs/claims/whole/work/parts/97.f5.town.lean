/-! ===== a line of a town, both sides ===== -/
section TWJ
variable {fu L i a b k v n x : Nat} {w : Int64} {tape mt : FN} {cf cp mf mp : Int32} {p0 d0 e0 q0 : Int32} {w0 u0 h0 o0 c0 l0 num : FN} {vl ml wr far gd : Int32} {told rd : FN}
theorem KTw_bad {cf2 far9 : Int32} {y : KT} {t9 : FN} (hc : ¬ cf2 = 0) (hn : n ≤ 6) (h : t9 0 = nI n) : KTw cf2 y t9 far9 := ⟨n, hn, h, fun z => absurd z hc⟩
theorem J_town_P (ht : ∀ i, i ≤ L → ∃ a b k v w, Tk fu tape mt L i a b k v w) (hL : L ≤ 600) (T : Tk fu tape mt L i a b k v w) (hk : k = 1) (F : Ff i cf cp mf mp) (hn : n ≤ 6) (ht0 : told 0 = nI n) (hR : cf = 0 → ∃ w pu h o tm m, TwO n w pu h o tm m (p0, w0, u0, h0, o0, d0, c0, e0, l0, q0) told far) (hf : 1000 ≤ fu) (hform : f_X5_formOf fu tape (nI b) (nI a) (nI k) 0 = some 0) (hw0 : lg_cmp w (lN (wC 0)) = 0) :
    LOut fu tape mt L i (f_X5_readLine fu p0 w0 u0 h0 o0 d0 c0 e0 l0 cf cp num tape (nI L) (nI b) (nI a) (nI k) vl q0 0) (f_X12_allLines_L2 fu mt (nI L) 0 (1, nI b, nI a, nI (kM k), ml, w, wr, mf, mp, told, rd, far, gd)) KTw := by
  obtain ⟨t1, t2, t3, t4, t5, t6, t7, t8, t9⟩ := T
  have ab := t6 (by omega)
  have hp : cf = 0 → p0 = nI n := by
    intro z
    obtain ⟨_, _, _, _, _, _, R⟩ := hR z
    exact R.1.1
  obtain ⟨x3, hx3, hx4⟩ : ∃ x3, f_X5_isOneTooMany fu p0 d0 e0 0 0 = some x3 ∧ (cf = 0 → (x3 = 0 ↔ n < 6)) := by
    unfold f_X5_isOneTooMany
    rw [if_pos rfl, if_pos rfl]
    by_cases c : p0 < 6
    · rw [if_pos c]
      refine ⟨0, rfl, fun z => ⟨fun _ => ?_, fun _ => rfl⟩⟩
      rw [hp z] at c
      exact Nat.lt_of_not_le (fun y => nI_nlt (a := n) (b := 6) y (by omega) c)
    · rw [if_neg c]
      refine ⟨1, rfl, fun z => ⟨fun y => absurd y (by decide), fun y => ?_⟩⟩
      rw [hp z] at c
      exact absurd (nI_lt (a := n) (b := 6) y (by decide)) c
  obtain ⟨cf1, cp1, mf1, mp1, g1, g2, g3, g4⟩ := J_full (fu := fu) (a := a) (b := b) (Ff_mono F t1) (by omega) ab ht0 hn (by decide) hx4
  have g2 : f_X12_full fu mf mp told 6 (nI a) = some (mf1, mp1) := g2
  obtain ⟨num0, f1, f2⟩ := fill_ok (fu := fu) (N := 3) (f := num) (v := -1) (by decide) (by omega)
  obtain ⟨rc1, bg1, so1, vl1, wd1, k1, k2⟩ := tok_next (fu := fu) (i := b) ht t3 (nI a) (nI (kM k)) ml w
  refine J_fin (x1 := 0) (x3 := x3) (cf1 := cf1) (cp1 := cp1) (num0 := num0) (wn := 2) (w6 := w) ht (by decide) hform hx3 g1 f1 rfl (fun z => by have := (kM_0 k t4).1 z; omega) (by rw [if_pos ((kM_2 k t4).2 hk)]) ?_
  rcases J_person (fu := fu) (p0 := p0) (d0 := d0) (e0 := e0) (q0 := q0) (w0 := w0) (u0 := u0) (h0 := h0) (o0 := o0) (c0 := c0) (l0 := l0) (nums := num0) (idx := 0) (hi := 9) (st := nI a) (tk := nI k) (vl0 := vl) (wr := wr) (gd := 1) (rd := rd) (n := fu) ht hL k2 g3 (Or.inl ⟨rfl, rfl⟩) (by omega) with ⟨a', y, j1, j2, j3, j4⟩ | ⟨v0, b2, st', cf', cp', mf', mp', rc', bg', so', vl', wd', gd', j1, j3, j4, j5, j6, j7, j8, j9⟩
  · obtain ⟨zz, zz1, zz2⟩ := P_s1 (far := far) hw0 g2 k1 j4 rfl rfl
    exact Or.inl ⟨a', y, zz, j1, ⟨j2, j3⟩, zz1, zz2⟩
  · rcases J_person (fu := fu) (p0 := p0) (d0 := d0) (e0 := e0) (q0 := q0) (w0 := w0) (u0 := u0) (h0 := h0) (o0 := o0) (c0 := c0) (l0 := l0) (nums := upd num0 0 (nI v0)) (idx := 1) (hi := 99) (st := st') (tk := 2) (vl0 := nI v0) (wr := wr) (gd := gd') (rd := upd rd 0 (nI v0)) (n := fu - 1) ht hL j7 j8 (Or.inr ⟨rfl, rfl⟩) (by omega) with ⟨a', y, i1, i2, i3, i4⟩ | ⟨v1, b3, st3, cf3, cp3, mf3, mp3, rc3, bg3, so3, vl3, wd3, gd3, i1, i3, i4, i5, i6, i7, i8, i9⟩
    · obtain ⟨zz, zz1, zz2⟩ := P_s2 (far := far) hw0 g2 k1 j6 i4 rfl rfl
      exact Or.inl ⟨a', y, zz, j5.trans i1, ⟨i2, i3⟩, zz1, zz2⟩
    · obtain ⟨y9, m1, m2, m3⟩ := P_go (far := far) (n := n) (y0 := v0) (y1 := v1) hw0 g2 k1 j6 i6 ht0 hn ((pk_un (by decide)).trans pk_us) pk_us
      obtain ⟨a2, b2', k2', v2', w2, T2, q1, q2, q3, q4, q5⟩ := i7
      refine Or.inr ⟨b3, a2, b2', k2', v2', w2, cf3, cp3, upd (upd num0 0 (nI v0)) 1 (nI v1), st3, 2, nI v1, vl3, wd3, wr, mf3, mp3, y9, upd (upd rd 0 (nI v0)) 1 (nI v1), far, gd3, by omega, T2, j5.trans (i5.trans (L51_end (wn := 2) (by omega) (by decide))), by rw [m1, q1, q2, q3], i8, fun hc => ?_, fun hc => ?_⟩
      · by_cases e : n = 6
        · exact KTw_bad hc hn (by rw [m2 e]; exact ht0)
        · exact KTw_bad (n := n + 1) hc (by omega) (by rw [m3 (by omega)]; exact pk_us)
      · rcases i9 with ⟨s1, s2, s3⟩ | ⟨s1, s2⟩
        · rcases j9 with ⟨r1, r2, r3⟩ | ⟨r1, r2⟩
          · rcases g4 with ⟨z1, z2⟩ | z
            · have c0' : cf = 0 := by rw [← z1, ← r2, ← s2]; exact hc
              have lt6 := z2 c0'
              obtain ⟨w', pu', hh', oo', tm, mm, R⟩ := hR c0'
              obtain ⟨w9, pu9, R9⟩ := TwO_person R lt6 r1 s1 rfl rfl (m3 lt6)
              refine ⟨(nI (n + 1), upd w0 n (nI v0), upd u0 n (nI v1), h0, o0, d0, c0, e0, l0, q0), ?_, n + 1, by omega, by rw [m3 lt6]; exact pk_us, fun _ => ⟨w9, pu9, hh', oo', tm, mm, R9⟩⟩
              show f_X5_keepLine fu p0 w0 u0 h0 o0 d0 c0 e0 l0 (upd (upd num0 0 (nI v0)) 1 (nI v1)) q0 0 0 = _
              unfold f_X5_keepLine
              rw [if_pos rfl, show rdi 3 (upd (upd num0 0 (nI v0)) 1 (nI v1)) 0 = some (nI v0) from rdi_n (k := 0) (by decide) (by decide) ((pk_un (by decide)).trans pk_us), bnd_some, show rdi 3 (upd (upd num0 0 (nI v0)) 1 (nI v1)) 1 = some (nI v1) from rdi_n (k := 1) (by decide) (by decide) pk_us, bnd_some, show rdi 3 (upd (upd num0 0 (nI v0)) 1 (nI v1)) 2 = some (-1) from rdi_n (k := 2) (by decide) (by decide) ((pk_un (by decide)).trans ((pk_un (by decide)).trans (f2 2 (by decide)))), bnd_some, hp c0', C_keepP lt6, bnd_some]
            · exact absurd (r2.symm.trans (s2.symm.trans hc)) z
          · exact absurd (s2.symm.trans hc) r1
        · exact absurd hc s1
end TWJ
