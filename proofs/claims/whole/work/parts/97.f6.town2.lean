/-! ===== hate and owes, both sides ===== -/
section TWK
variable {fu L i a b k v n : Nat} {w : Int64} {tape mt : FN} {cf cp mf mp : Int32} {p0 d0 e0 q0 : Int32} {w0 u0 h0 o0 c0 l0 num : FN} {vl ml wr far gd : Int32} {told rd : FN}
theorem gr_ex {x y : Int32} : ∃ z, f_X12_greater fu x y = some z := by
  unfold f_X12_greater
  by_cases c : x ≤ y
  · rw [if_pos c]; exact ⟨_, rfl⟩
  · rw [if_neg c]; exact ⟨_, rfl⟩
theorem J_town_H (ht : ∀ i, i ≤ L → ∃ a b k v w, Tk fu tape mt L i a b k v w) (hL : L ≤ 600) (T : Tk fu tape mt L i a b k v w) (hk : k = 1) (F : Ff i cf cp mf mp) (hn : n ≤ 6) (ht0 : told 0 = nI n) (hR : cf = 0 → ∃ w pu h o tm m, TwO n w pu h o tm m (p0, w0, u0, h0, o0, d0, c0, e0, l0, q0) told far) (hf : 1000 ≤ fu) (hform : f_X5_formOf fu tape (nI b) (nI a) (nI k) 0 = some 1) (hw0 : ¬ lg_cmp w (lN (wC 0)) = 0) (hw1 : lg_cmp w (lN (wC 1)) = 0) (hw2 : ¬ lg_cmp w (lN (wC 2)) = 0) :
    LOut fu tape mt L i (f_X5_readLine fu p0 w0 u0 h0 o0 d0 c0 e0 l0 cf cp num tape (nI L) (nI b) (nI a) (nI k) vl q0 0) (f_X12_allLines_L2 fu mt (nI L) 0 (1, nI b, nI a, nI (kM k), ml, w, wr, mf, mp, told, rd, far, gd)) KTw := by
  obtain ⟨t1, t2, t3, t4, t5, t6, t7, t8, t9⟩ := T
  have ab := t6 (by omega)
  have g3 : Ff b cf cp mf mp := Ff_mono F (by omega)
  obtain ⟨num0, f1, f2⟩ := fill_ok (fu := fu) (N := 3) (f := num) (v := -1) (by decide) (by omega)
  obtain ⟨rc1, bg1, so1, vl1, wd1, k1, k2⟩ := tok_next (fu := fu) (i := b) ht t3 (nI a) (nI (kM k)) ml w
  refine J_fin (x1 := 1) (x3 := 0) (cf1 := cf) (cp1 := cp) (num0 := num0) (wn := 2) (w6 := w) ht (by decide) hform rfl (if_pos rfl) f1 rfl (fun z => by have := (kM_0 k t4).1 z; omega) (by rw [if_pos ((kM_2 k t4).2 hk)]) ?_
  rcases J_two (fu := fu) (p0 := p0) (d0 := d0) (e0 := e0) (q0 := q0) (p1 := 0) (x1 := 1) (w0 := w0) (u0 := u0) (h0 := h0) (o0 := o0) (c0 := c0) (l0 := l0) (nums := num0) (wn := 2) (kx := 0) (st := nI a) (tk := nI k) (vl0 := vl) (wr := wr) (gd := 1) (rd := rd) ht hL (fun z => absurd z.2 (by decide)) k2 g3 (by decide) (by decide) (by decide) hf with ⟨a', y, z, j1, j2, j3, j4, j5, j6⟩ | ⟨v0, v1, b2, st', cf', cp', mf', mp', rc', bg', so', vl', wd', gd', j1, j2, j3, j4, j5, j6, j7, j8, j9⟩
  · obtain ⟨zz, zz1, zz2⟩ := H_s (told := told) (far := far) hw0 (Or.inl hw1) k1 j4 j5 j6
    exact Or.inl ⟨a', y, zz, j1, ⟨j2, j3⟩, zz1, zz2⟩
  · obtain ⟨a2, b2', k2', v2, w2, T2, q1, q2, q3, q4, q5⟩ := j7
    have e0' : upd (upd rd 0 (nI v0)) (0 + 1) (nI v1) 0 = nI v0 := (pk_un (by decide)).trans pk_us
    have e1' : upd (upd rd 0 (nI v0)) (0 + 1) (nI v1) 1 = nI v1 := pk_us
    have lend := j5.trans (L51_end (fu := fu) (p0 := p0) (d0 := d0) (e0 := e0) (q0 := q0) (p1 := 0) (x1 := 1) (w0 := w0) (u0 := u0) (h0 := h0) (o0 := o0) (c0 := c0) (l0 := l0) (tape := tape) (L := L) (wn := 2) (by omega) (by decide))
    by_cases hc : cf' = 0
    · rcases j9 with ⟨s1, s2, s3, s4, s5⟩ | ⟨s1, s2⟩
      · have c0' : cf = 0 := s4.symm.trans hc
        obtain ⟨w', pu', hh', oo', tm, mm, R⟩ := hR c0'
        obtain ⟨x11, far9, m9, x1, x2, y1, y2, y3⟩ := far_two (fu := fu) s1 s2 R.2.2.2.1 R.2.2.2.2.1 R.2.2.2.2.2.1
        have G := (H_go (told := told) (far := far) hw0 hw1 hw2 k1 j6 e0' e1' x1 x2).2 (by rw [s5]; decide) s1 s2 s3
        have tw := TwO_hate R s1 s2 s3 y1 y2 y3
        have ha := R.1.2.2.2.1
        have hm := R.2.1.2.2.2.1
        have e3 : told (13 + v0) = nI (hh' v0) := by have := hm v0 s1; rwa [show 0 + 13 + v0 = 13 + v0 by omega] at this
        have e4 : told (13 + v1) = nI (hh' v1) := by have := hm v1 s2; rwa [show 0 + 13 + v1 = 13 + v1 by omega] at this
        rw [e3, e4, fa_or, fa_or] at G
        refine Or.inr ⟨b2, a2, b2', k2', v2, w2, cf', cp', upd (upd num0 0 (nI v0)) 1 (nI v1), st', 2, nI v1, vl', wd', wr, mf', mp', _, upd (upd rd 0 (nI v0)) (0 + 1) (nI v1), far9, gd', by omega, T2, lend, by rw [G, q1, q2, q3], j8, fun z => absurd hc z, fun _ => ⟨_, ?_, n, hn, tw.2.1.1, fun _ => ⟨w', pu', _, oo', _, m9, tw⟩⟩⟩
        show f_X5_keepLine fu p0 w0 u0 h0 o0 d0 c0 e0 l0 (upd (upd num0 0 (nI v0)) 1 (nI v1)) q0 0 1 = _
        unfold f_X5_keepLine
        rw [if_pos rfl, show rdi 3 (upd (upd num0 0 (nI v0)) 1 (nI v1)) 0 = some (nI v0) from rdi_n (k := 0) (by decide) (by decide) ((pk_un (by decide)).trans pk_us), bnd_some, show rdi 3 (upd (upd num0 0 (nI v0)) 1 (nI v1)) 1 = some (nI v1) from rdi_n (k := 1) (by decide) (by decide) pk_us, bnd_some, show rdi 3 (upd (upd num0 0 (nI v0)) 1 (nI v1)) 2 = some (-1) from rdi_n (k := 2) (by decide) (by decide) ((pk_un (by decide)).trans ((pk_un (by decide)).trans (f2 2 (by decide)))), bnd_some, show q0 = nI tm from R.2.2.1, C_keepH (h := hh') s1 s2 s3 (ha v0 s1) (ha v1 s2), bnd_some]
      · exact absurd hc s1
    · obtain ⟨x11, x1⟩ := gr_ex (fu := fu) (x := nI v0) (y := nI v1)
      obtain ⟨far9, x2⟩ := gr_ex (fu := fu) (x := far) (y := x11)
      have G := H_go (told := told) (far := far) hw0 hw1 hw2 k1 j6 e0' e1' x1 x2
      by_cases g : gd' = 0
      · exact Or.inr ⟨b2, a2, b2', k2', v2, w2, cf', cp', upd (upd num0 0 (nI v0)) 1 (nI v1), st', 2, nI v1, vl', wd', wr, mf', mp', told, upd (upd rd 0 (nI v0)) (0 + 1) (nI v1), far9, gd', by omega, T2, lend, by rw [G.1 g, q1, q2, q3], j8, fun z => KTw_bad hc hn ht0, fun z => absurd z hc⟩
      · rcases j9 with ⟨s1, s2, s3, s4, s5⟩ | ⟨s1, s2⟩
        · exact Or.inr ⟨b2, a2, b2', k2', v2, w2, cf', cp', upd (upd num0 0 (nI v0)) 1 (nI v1), st', 2, nI v1, vl', wd', wr, mf', mp', _, upd (upd rd 0 (nI v0)) (0 + 1) (nI v1), far9, gd', by omega, T2, lend, by rw [G.2 g s1 s2 s3, q1, q2, q3], j8, fun z => KTw_bad hc hn ((pk_un (by omega)).trans ((pk_un (by omega)).trans ht0)), fun z => absurd z hc⟩
        · exact absurd s2 g
theorem J_town_O (ht : ∀ i, i ≤ L → ∃ a b k v w, Tk fu tape mt L i a b k v w) (hL : L ≤ 600) (T : Tk fu tape mt L i a b k v w) (hk : k = 1) (F : Ff i cf cp mf mp) (hn : n ≤ 6) (ht0 : told 0 = nI n) (hR : cf = 0 → ∃ w pu h o tm m, TwO n w pu h o tm m (p0, w0, u0, h0, o0, d0, c0, e0, l0, q0) told far) (hf : 1000 ≤ fu) (hform : f_X5_formOf fu tape (nI b) (nI a) (nI k) 0 = some 2) (hw0 : ¬ lg_cmp w (lN (wC 0)) = 0) (hw1 : ¬ lg_cmp w (lN (wC 1)) = 0) (hw2 : lg_cmp w (lN (wC 2)) = 0) :
    LOut fu tape mt L i (f_X5_readLine fu p0 w0 u0 h0 o0 d0 c0 e0 l0 cf cp num tape (nI L) (nI b) (nI a) (nI k) vl q0 0) (f_X12_allLines_L2 fu mt (nI L) 0 (1, nI b, nI a, nI (kM k), ml, w, wr, mf, mp, told, rd, far, gd)) KTw := by
  obtain ⟨t1, t2, t3, t4, t5, t6, t7, t8, t9⟩ := T
  have ab := t6 (by omega)
  have g3 : Ff b cf cp mf mp := Ff_mono F (by omega)
  obtain ⟨num0, f1, f2⟩ := fill_ok (fu := fu) (N := 3) (f := num) (v := -1) (by decide) (by omega)
  obtain ⟨rc1, bg1, so1, vl1, wd1, k1, k2⟩ := tok_next (fu := fu) (i := b) ht t3 (nI a) (nI (kM k)) ml w
  refine J_fin (x1 := 2) (x3 := 0) (cf1 := cf) (cp1 := cp) (num0 := num0) (wn := 3) (w6 := w) ht (by decide) hform rfl (if_pos rfl) f1 rfl (fun z => by have := (kM_0 k t4).1 z; omega) (by rw [if_pos ((kM_2 k t4).2 hk)]) ?_
  rcases J_two (fu := fu) (p0 := p0) (d0 := d0) (e0 := e0) (q0 := q0) (p1 := 0) (x1 := 2) (w0 := w0) (u0 := u0) (h0 := h0) (o0 := o0) (c0 := c0) (l0 := l0) (nums := num0) (wn := 3) (kx := 0) (st := nI a) (tk := nI k) (vl0 := vl) (wr := wr) (gd := 1) (rd := rd) ht hL (fun z => absurd z.2 (by decide)) k2 g3 (by decide) (by decide) (by decide) hf with ⟨a', y, z, j1, j2, j3, j4, j5, j6⟩ | ⟨v0, v1, b2, st', cf', cp', mf', mp', rc', bg', so', vl', wd', gd', j1, j2, j3, j4, j5, j6, j7, j8, j9⟩
  · obtain ⟨zz, zz1, zz2⟩ := H_s (told := told) (far := far) hw0 (Or.inr ⟨hw1, hw2⟩) k1 j4 j5 j6
    exact Or.inl ⟨a', y, zz, j1, ⟨j2, j3⟩, zz1, zz2⟩
  · rcases J_third (fu := fu) (p0 := p0) (d0 := d0) (e0 := e0) (q0 := q0) (p1 := 0) (x1 := 2) (w0 := w0) (u0 := u0) (h0 := h0) (o0 := o0) (c0 := c0) (l0 := l0) (nums := upd (upd num0 0 (nI v0)) 1 (nI v1)) (kx := 2) (lo := 0) (st := st') (tk := 2) (vl0 := nI v1) (wr := wr) (gd := gd') (rd := upd (upd rd 0 (nI v0)) (0 + 1) (nI v1)) (n := fu - 1 - 1) ht hL (fun z => absurd z.2 (by decide)) j7 j8 (by decide) (Or.inl ⟨rfl, rfl⟩) (by omega) with ⟨a', y, i1, i2, i3, i4⟩ | ⟨v2, b3, st3, cf3, cp3, mf3, mp3, rc3, bg3, so3, vl3, wd3, gd3, i1, i2, i3, i4, i5, i6, i7, i8⟩
    · obtain ⟨zz, zz1, zz2⟩ := O_s (told := told) (far := far) hw0 hw1 hw2 k1 j6 i4 rfl rfl
      exact Or.inl ⟨a', y, zz, j5.trans i1, ⟨i2, i3⟩, zz1, zz2⟩
    · obtain ⟨a2, b2', k2', v2', w2, T2, q1, q2, q3, q4, q5⟩ := i6
      have e0' : upd (upd (upd rd 0 (nI v0)) (0 + 1) (nI v1)) 2 (nI v2) 0 = nI v0 := (pk_un (by decide)).trans ((pk_un (by decide)).trans pk_us)
      have e1' : upd (upd (upd rd 0 (nI v0)) (0 + 1) (nI v1)) 2 (nI v2) 1 = nI v1 := (pk_un (by decide)).trans pk_us
      have e2' : upd (upd (upd rd 0 (nI v0)) (0 + 1) (nI v1)) 2 (nI v2) 2 = nI v2 := pk_us
      have lend := j5.trans i4
      by_cases hc : cf3 = 0
      · rcases i8 with ⟨z1, z2, z3, z4⟩ | ⟨z1, z2⟩
        · rcases j9 with ⟨s1, s2, s3, s4, s5⟩ | ⟨s1, s2⟩
          · have c0' : cf = 0 := s4.symm.trans (z3.symm.trans hc)
            obtain ⟨w', pu', hh', oo', tm, mm, R⟩ := hR c0'
            obtain ⟨x11, far9, m9, x1, x2, y1, y2, y3⟩ := far_two (fu := fu) s1 s2 R.2.2.2.1 R.2.2.2.2.1 R.2.2.2.2.2.1
            have G := (O_go (told := told) (far := far) hw0 hw1 hw2 k1 j6 i5 e0' e1' x1 x2).2 (by rw [z4, s5]; decide) s1 s2
            have tw := TwO_owes R s1 s2 s3 z2 y1 y2 y3
            rw [e2'] at G
            refine Or.inr ⟨b3, a2, b2', k2', v2', w2, cf3, cp3, upd (upd (upd num0 0 (nI v0)) 1 (nI v1)) 2 (nI v2), st3, 2, nI v2, vl3, wd3, wr, mf3, mp3, _, upd (upd (upd rd 0 (nI v0)) (0 + 1) (nI v1)) 2 (nI v2), far9, gd3, by omega, T2, lend, by rw [G, q1, q2, q3], i7, fun z => absurd hc z, fun _ => ⟨_, ?_, n, hn, tw.2.1.1, fun _ => ⟨w', pu', hh', _, _, m9, tw⟩⟩⟩
            show f_X5_keepLine fu p0 w0 u0 h0 o0 d0 c0 e0 l0 (upd (upd (upd num0 0 (nI v0)) 1 (nI v1)) 2 (nI v2)) q0 0 2 = _
            unfold f_X5_keepLine
            rw [if_pos rfl, show rdi 3 (upd (upd (upd num0 0 (nI v0)) 1 (nI v1)) 2 (nI v2)) 0 = some (nI v0) from rdi_n (k := 0) (by decide) (by decide) ((pk_un (by decide)).trans ((pk_un (by decide)).trans pk_us)), bnd_some, show rdi 3 (upd (upd (upd num0 0 (nI v0)) 1 (nI v1)) 2 (nI v2)) 1 = some (nI v1) from rdi_n (k := 1) (by decide) (by decide) ((pk_un (by decide)).trans pk_us), bnd_some, show rdi 3 (upd (upd (upd num0 0 (nI v0)) 1 (nI v1)) 2 (nI v2)) 2 = some (nI v2) from rdi_n (k := 2) (by decide) (by decide) pk_us, bnd_some, show q0 = nI tm from R.2.2.1, C_keepO s1 s2, bnd_some]
          · exact absurd (z3.symm.trans hc) s1
        · exact absurd hc z1
      · obtain ⟨x11, x1⟩ := gr_ex (fu := fu) (x := nI v0) (y := nI v1)
        obtain ⟨far9, x2⟩ := gr_ex (fu := fu) (x := far) (y := x11)
        have G := O_go (told := told) (far := far) hw0 hw1 hw2 k1 j6 i5 e0' e1' x1 x2
        by_cases g : gd3 = 0
        · exact Or.inr ⟨b3, a2, b2', k2', v2', w2, cf3, cp3, upd (upd (upd num0 0 (nI v0)) 1 (nI v1)) 2 (nI v2), st3, 2, nI v2, vl3, wd3, wr, mf3, mp3, told, upd (upd (upd rd 0 (nI v0)) (0 + 1) (nI v1)) 2 (nI v2), far9, gd3, by omega, T2, lend, by rw [G.1 g, q1, q2, q3], i7, fun z => KTw_bad hc hn ht0, fun z => absurd z hc⟩
        · rcases i8 with ⟨z1, z2, z3, z4⟩ | ⟨z1, z2⟩
          · rcases j9 with ⟨s1, s2, s3, s4, s5⟩ | ⟨s1, s2⟩
            · exact Or.inr ⟨b3, a2, b2', k2', v2', w2, cf3, cp3, upd (upd (upd num0 0 (nI v0)) 1 (nI v1)) 2 (nI v2), st3, 2, nI v2, vl3, wd3, wr, mf3, mp3, _, upd (upd (upd rd 0 (nI v0)) (0 + 1) (nI v1)) 2 (nI v2), far9, gd3, by omega, T2, lend, by rw [G.2 g s1 s2, q1, q2, q3], i7, fun z => KTw_bad hc hn ((pk_un (by omega)).trans ht0), fun z => absurd z hc⟩
            · exact absurd (z4.trans s2) g
          · exact absurd z2 g
end TWK
