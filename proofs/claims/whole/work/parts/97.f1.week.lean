/-! ===== a line of a week, both sides ===== -/
def KWk : Int32 → KT → FN → Int32 → Prop := fun cf x told _ => ∃ n, n ≤ 40 ∧ told 0 = nI n ∧ (cf = 0 → WkR n x.2.2.2.2.2.1 x.2.2.2.2.2.2.1 told 0)
section WKJ
variable {fu L i a b k v n x : Nat} {w : Int64} {tape mt : FN} {cf cp mf mp cf2 : Int32} {p0 d0 e0 q0 : Int32} {w0 u0 h0 o0 c0 l0 num num2 rd9 : FN} {vl ml wr far gd : Int32} {told rd : FN}
theorem WkR_add {l l9 told told9 : FN} {y1 y2 y3 : Int32} (R : WkR n d0 l told 0) (hn : n < 40) (hx : x ≤ 6) (hu : 1 ≤ x → x ≤ 3 → ∃ u, u ≤ 30 ∧ y3 = nI u) (a1 : l9 (4 * n) = nI x) (a2 : l9 (4 * n + 1) = y1) (a3 : l9 (4 * n + 2) = y2) (a4 : l9 (4 * n + 3) = y3) (a5 : ∀ j, j < 4 * n → l9 j = l j) (b0 : told9 0 = nI (n + 1)) (b1 : told9 (1 + 4 * n) = nI x) (b2 : told9 (1 + 4 * n + 1) = y1) (b3 : told9 (1 + 4 * n + 2) = y2) (b4 : told9 (1 + 4 * n + 3) = y3) (b5 : ∀ j, 0 < j → j < 1 + 4 * n → told9 j = told j) : WkR (n + 1) (nI (n + 1)) l9 told9 0 := by
  obtain ⟨r1, r2, r3, r4, r5⟩ := R
  refine ⟨by omega, rfl, b0, fun i hi => ?_, fun j hj => ?_⟩
  · rcases Nat.lt_or_ge i (4 * n) with c | c
    · rw [a5 i c, r4 i c, b5 (0 + 1 + i) (by omega) (by omega)]
    · have : i = 4 * n ∨ i = 4 * n + 1 ∨ i = 4 * n + 2 ∨ i = 4 * n + 3 := by omega
      rcases this with rfl | rfl | rfl | rfl
      · rw [a1, show 0 + 1 + 4 * n = 1 + 4 * n by omega, b1]
      · rw [a2, show 0 + 1 + (4 * n + 1) = 1 + 4 * n + 1 by omega, b2]
      · rw [a3, show 0 + 1 + (4 * n + 2) = 1 + 4 * n + 2 by omega, b3]
      · rw [a4, show 0 + 1 + (4 * n + 3) = 1 + 4 * n + 3 by omega, b4]
  · rcases Nat.lt_or_ge j n with c | c
    · obtain ⟨s, s1, s2, s3⟩ := r5 j c
      rw [a5 (4 * j) (by omega), a5 (4 * j + 3) (by omega)]
      exact ⟨s, s1, s2, s3⟩
    · obtain rfl : j = n := by omega
      refine ⟨x, hx, a1, fun z1 z2 => ?_⟩
      obtain ⟨u, u1, u2⟩ := hu z1 z2
      exact ⟨u, u1, a4.trans u2⟩
theorem W_keep (hx : x ≤ 6) (ht0 : told 0 = nI n) (hn : n ≤ 40) (hR : cf = 0 → WkR n d0 c0 told 0) (e1 : rd9 1 = num2 0) (e2 : rd9 2 = num2 1) (e3 : rd9 3 = num2 2) (hc : cf2 = 0 → cf = 0 ∧ n < 40 ∧ (1 ≤ x → x ≤ 3 → ∃ u, u ≤ 30 ∧ num2 2 = nI u)) (hf : 1000 ≤ fu) :
    ∃ t9, f_X12_keepRow fu told (upd rd9 0 (nI x)) 4 40 = some t9 ∧ (¬ cf2 = 0 → KWk cf2 (p0, w0, u0, h0, o0, d0, c0, e0, l0, q0) t9 far) ∧ (cf2 = 0 → ∃ x9, f_X5_keepLine fu p0 w0 u0 h0 o0 d0 c0 e0 l0 num2 q0 1 (nI x) = some x9 ∧ KWk cf2 x9 t9 far) := by
  obtain ⟨t9, m1, m2, m3⟩ := keepRow_ok (fu := fu) (rd := upd rd9 0 (nI x)) (p := 4) ht0 hn (by decide) (by decide) (by decide) (by omega)
  refine ⟨t9, m1, fun z => ?_, fun z => ?_⟩
  · by_cases e : n = 40
    · exact ⟨40, Nat.le_refl _, by rw [m2 e, ht0, e], fun y => absurd y z⟩
    · exact ⟨n + 1, by omega, (m3 (by omega)).1, fun y => absurd y z⟩
  · obtain ⟨z1, z2, z3⟩ := hc z
    have RR := hR z1
    obtain ⟨l9, y1, y2, y3, y4, y5, y6⟩ := add10_ok (fu := fu) (n := n) (l0 := c0) (num := num2) (p := nI x) z2
    obtain ⟨mm1, mm2, mm3⟩ := m3 z2
    refine ⟨(p0, w0, u0, h0, o0, nI (n + 1), l9, e0, l0, q0), ?_, n + 1, by omega, mm1, fun _ => ?_⟩
    · unfold f_X5_keepLine
      rw [if_neg (by decide), if_pos rfl, RR.2.1, y1, bnd_some]
    · exact WkR_add RR z2 hx z3 y2 y3 y4 y5 y6 mm1 ((mm2 0 (by decide)).trans pk_us) ((mm2 1 (by decide)).trans ((pk_un (by decide)).trans e1)) ((mm2 2 (by decide)).trans ((pk_un (by decide)).trans e2)) ((mm2 3 (by decide)).trans ((pk_un (by decide)).trans e3)) mm3
theorem W_nums (hx : x ≤ 6) : ∃ wn, f_X5_numbersOf fu 1 (nI x) = some (nI wn) ∧ ((x = 6 ∧ wn = 0) ∨ ((x = 4 ∨ x = 5) ∧ wn = 1) ∨ (x = 0 ∧ wn = 2) ∨ ((1 ≤ x ∧ x ≤ 3) ∧ wn = 3)) := by
  have : x = 0 ∨ x = 1 ∨ x = 2 ∨ x = 3 ∨ x = 4 ∨ x = 5 ∨ x = 6 := by omega
  rcases this with rfl | rfl | rfl | rfl | rfl | rfl | rfl
  · exact ⟨2, rfl, by omega⟩
  · exact ⟨3, rfl, by omega⟩
  · exact ⟨3, rfl, by omega⟩
  · exact ⟨3, rfl, by omega⟩
  · exact ⟨1, rfl, by omega⟩
  · exact ⟨1, rfl, by omega⟩
  · exact ⟨0, rfl, by omega⟩
theorem J_week_go (ht : ∀ i, i ≤ L → ∃ a b k v w, Tk fu tape mt L i a b k v w) (hL : L ≤ 600) (T : Tk fu tape mt L i a b k v w) (hk : k = 1) (F : Ff i cf cp mf mp) (hn : n ≤ 40) (ht0 : told 0 = nI n) (hR : cf = 0 → WkR n d0 c0 told 0) (hf : 1000 ≤ fu) (hx : x ≤ 6) (hform : f_X5_formOf fu tape (nI b) (nI a) (nI k) 1 = some (nI x)) (hd : f_X12_deedBy fu w = some (nI x)) :
    LOut fu tape mt L i (f_X5_readLine fu p0 w0 u0 h0 o0 d0 c0 e0 l0 cf cp num tape (nI L) (nI b) (nI a) (nI k) vl q0 1) (f_X12_allLines_L2 fu mt (nI L) 1 (1, nI b, nI a, nI (kM k), ml, w, wr, mf, mp, told, rd, far, gd)) KWk := by
  obtain ⟨t1, t2, t3, t4, t5, t6, t7, t8, t9⟩ := T
  have ab := t6 (by omega)
  obtain ⟨x3, hx3, hx4⟩ : ∃ x3, f_X5_isOneTooMany fu p0 d0 e0 1 (nI x) = some x3 ∧ (cf = 0 → (x3 = 0 ↔ n < 40)) := by
    unfold f_X5_isOneTooMany
    rw [if_neg (by decide), if_pos rfl]
    by_cases c : d0 < 40
    · rw [if_pos c]
      refine ⟨0, rfl, fun z => ⟨fun _ => ?_, fun _ => rfl⟩⟩
      rw [(hR z).2.1] at c
      exact Nat.lt_of_not_le (fun y => nI_nlt (a := n) (b := 40) y (by omega) c)
    · rw [if_neg c]
      refine ⟨1, rfl, fun z => ⟨fun y => absurd y (by decide), fun y => ?_⟩⟩
      rw [(hR z).2.1] at c
      exact absurd (nI_lt (a := n) (b := 40) y (by decide)) c
  obtain ⟨cf1, cp1, mf1, mp1, g1, g2, g3, g4⟩ := J_full (fu := fu) (a := a) (b := b) (Ff_mono F t1) (by omega) ab ht0 hn (by decide) hx4
  have g2 : f_X12_full fu mf mp told 40 (nI a) = some (mf1, mp1) := g2
  have g5 : cf1 = 0 → cf = 0 ∧ n < 40 := by
    intro z
    rcases g4 with ⟨r1, r2⟩ | r
    · exact ⟨r1.symm.trans z, r2 (r1.symm.trans z)⟩
    · exact absurd z r
  obtain ⟨num0, f1, f2⟩ := fill_ok (fu := fu) (N := 3) (f := num) (v := -1) (by decide) (by omega)
  obtain ⟨rc1, bg1, so1, vl1, wd1, k1, k2⟩ := tok_next (fu := fu) (i := b) ht t3 (nI a) (nI (kM k)) ml w
  obtain ⟨wn, n1, n2⟩ := W_nums (fu := fu) hx
  have r1 : rd8 rd 1 = -1 := (pk_un (by decide)).trans ((pk_un (by decide)).trans pk_us)
  have r2 : rd8 rd 2 = -1 := (pk_un (by decide)).trans pk_us
  have r3 : rd8 rd 3 = -1 := pk_us
  have z0 := f2 0 (by decide)
  have z1 := f2 1 (by decide)
  have z2 := f2 2 (by decide)
  refine J_fin (x1 := nI x) (x3 := x3) (cf1 := cf1) (cp1 := cp1) (num0 := num0) (wn := wn) (w6 := w) ht (nI_nm1 (by omega)) hform hx3 g1 f1 n1 (fun z => by have := (kM_0 k t4).1 z; omega) (by rw [if_pos ((kM_2 k t4).2 hk)]) ?_
  rcases n2 with ⟨s1, rfl⟩ | ⟨s1, rfl⟩ | s
  · obtain ⟨y9, m1, m2, m3⟩ := W_keep (fu := fu) (p0 := p0) (d0 := d0) (e0 := e0) (q0 := q0) (w0 := w0) (u0 := u0) (h0 := h0) (o0 := o0) (c0 := c0) (l0 := l0) (far := far) (cf2 := cf1) (num2 := num0) (rd9 := rd8 rd) hx ht0 hn hR (r1.trans z0.symm) (r2.trans z1.symm) (r3.trans z2.symm) (fun z => ⟨(g5 z).1, (g5 z).2, fun _ _ => by omega⟩) hf
    obtain ⟨a2, b2, k2', v2, w2, T2, q1, q2, q3, q4, q5⟩ := k2
    refine Or.inr ⟨b, a2, b2, k2', v2, w2, cf1, cp1, num0, nI a, nI k, vl, vl1, wd1, wr, mf1, mp1, y9, upd (rd8 rd) 0 (nI x), far, 1, by omega, T2, L51_end (wn := 0) (by omega) (by decide), ?_, g3, m2, m3⟩
    rw [W_go0 hd g2 k1 s1 m1, q1, q2, q3]
  · rcases J_one (fu := fu) (p0 := p0) (d0 := d0) (e0 := e0) (q0 := q0) (p1 := 1) (x1 := nI x) (w0 := w0) (u0 := u0) (h0 := h0) (o0 := o0) (c0 := c0) (l0 := l0) (nums := num0) (wn := 1) (kx := 1) (st := nI a) (tk := nI k) (vl0 := vl) (wr := wr) (gd := 1) (rd := rd8 rd) ht hL (fun z => absurd z.1 (by decide)) k2 g3 (by decide) (by decide) (by decide) hf with ⟨a', y, j1, j2, j3, j4⟩ | ⟨v0, b2, st', cf', cp', mf', mp', rc', bg', so', vl', wd', gd', j1, j3, j4, j5, j6, j7, j8, j9⟩
    · obtain ⟨zz, zz1, zz2⟩ := W_go1s (far := far) hd g2 k1 s1 j4 rfl rfl
      exact Or.inl ⟨a', y, zz, j1, ⟨j2, j3⟩, zz1, zz2⟩
    · obtain ⟨y9, m1, m2, m3⟩ := W_keep (fu := fu) (p0 := p0) (d0 := d0) (e0 := e0) (q0 := q0) (w0 := w0) (u0 := u0) (h0 := h0) (o0 := o0) (c0 := c0) (l0 := l0) (far := far) (cf2 := cf') (num2 := upd num0 0 (nI v0)) (rd9 := upd (rd8 rd) 1 (nI v0)) hx ht0 hn hR (pk_us.trans pk_us.symm) ((pk_un (by decide)).trans (r2.trans (z1.symm.trans (pk_un (by decide)).symm))) ((pk_un (by decide)).trans (r3.trans (z2.symm.trans (pk_un (by decide)).symm))) (fun z => by
          rcases j9 with ⟨y1, y2, y3⟩ | ⟨y1, y2⟩
          · exact ⟨(g5 (y2.symm.trans z)).1, (g5 (y2.symm.trans z)).2, fun _ _ => by omega⟩
          · exact absurd z y1) hf
      obtain ⟨a2, b2', k2', v2, w2, T2, q1, q2, q3, q4, q5⟩ := j7
      refine Or.inr ⟨b2, a2, b2', k2', v2, w2, cf', cp', _, st', 2, nI v0, vl', wd', wr, mf', mp', y9, upd (upd (rd8 rd) 1 (nI v0)) 0 (nI x), far, gd', by omega, T2, j5.trans (L51_end (wn := 1) (by omega) (by decide)), ?_, j8, m2, m3⟩
      rw [W_go1 hd g2 k1 s1 j6 m1, q1, q2, q3]
  · have hw1 : 1 < wn := by omega
    have hw3 : wn ≤ 3 := by omega
    rcases J_two (fu := fu) (p0 := p0) (d0 := d0) (e0 := e0) (q0 := q0) (p1 := 1) (x1 := nI x) (w0 := w0) (u0 := u0) (h0 := h0) (o0 := o0) (c0 := c0) (l0 := l0) (nums := num0) (wn := wn) (kx := 1) (st := nI a) (tk := nI k) (vl0 := vl) (wr := wr) (gd := 1) (rd := rd8 rd) ht hL (fun z => absurd z.1 (by decide)) k2 g3 hw1 hw3 (by decide) hf with ⟨a', y, z, j1, j2, j3, j4, j5, j6⟩ | ⟨v0, v1, b2, st', cf', cp', mf', mp', rc', bg', so', vl', wd', gd', j1, j2, j3, j4, j5, j6, j7, j8, j9⟩
    · obtain ⟨zz, zz1, zz2⟩ := W_go2s (far := far) hd g2 k1 (by omega) j4 j5 j6
      exact Or.inl ⟨a', y, zz, j1, ⟨j2, j3⟩, zz1, zz2⟩
    · have g6 : cf' = 0 → cf = 0 ∧ n < 40 := by
        intro z
        rcases j9 with ⟨y1, y2, y3, y4, y5⟩ | ⟨y1, y2⟩
        · exact g5 (y4.symm.trans z)
        · exact absurd z y1
      rcases s with ⟨s1, rfl⟩ | ⟨s1, rfl⟩
      · obtain ⟨y9, m1, m2, m3⟩ := W_keep (fu := fu) (p0 := p0) (d0 := d0) (e0 := e0) (q0 := q0) (w0 := w0) (u0 := u0) (h0 := h0) (o0 := o0) (c0 := c0) (l0 := l0) (far := far) (cf2 := cf') (num2 := upd (upd num0 0 (nI v0)) 1 (nI v1)) (rd9 := upd (upd (rd8 rd) 1 (nI v0)) (1 + 1) (nI v1)) hx ht0 hn hR (((pk_un (by decide)).trans pk_us).trans ((pk_un (by decide)).trans pk_us).symm) (pk_us.trans pk_us.symm) (((pk_un (by decide)).trans ((pk_un (by decide)).trans r3)).trans ((pk_un (by decide)).trans ((pk_un (by decide)).trans z2)).symm) (fun z => ⟨(g6 z).1, (g6 z).2, fun _ _ => by omega⟩) hf
        obtain ⟨a2, b2', k2', v2, w2, T2, q1, q2, q3, q4, q5⟩ := j7
        refine Or.inr ⟨b2, a2, b2', k2', v2, w2, cf', cp', _, st', 2, nI v1, vl', wd', wr, mf', mp', y9, upd (upd (upd (rd8 rd) 1 (nI v0)) (1 + 1) (nI v1)) 0 (nI x), far, gd', by omega, T2, j5.trans (L51_end (wn := 2) (by omega) (by decide)), ?_, j8, m2, m3⟩
        rw [W_go2 hd g2 k1 s1 j6 m1, q1, q2, q3]
      · rcases J_third (fu := fu) (p0 := p0) (d0 := d0) (e0 := e0) (q0 := q0) (p1 := 1) (x1 := nI x) (w0 := w0) (u0 := u0) (h0 := h0) (o0 := o0) (c0 := c0) (l0 := l0) (nums := upd (upd num0 0 (nI v0)) 1 (nI v1)) (kx := 3) (lo := 1) (st := st') (tk := 2) (vl0 := nI v1) (wr := wr) (gd := gd') (rd := upd (upd (rd8 rd) 1 (nI v0)) (1 + 1) (nI v1)) (n := fu - 1 - 1) ht hL (fun z => absurd z.1 (by decide)) j7 j8 (by decide) (Or.inr ⟨by decide, rfl⟩) (by omega) with ⟨a', y, i1, i2, i3, i4⟩ | ⟨v2, b3, st3, cf3, cp3, mf3, mp3, rc3, bg3, so3, vl3, wd3, gd3, i1, i2, i3, i4, i5, i6, i7, i8⟩
        · obtain ⟨zz, zz1, zz2⟩ := W_go3s (far := far) hd g2 k1 s1 j6 i4 rfl rfl
          exact Or.inl ⟨a', y, zz, j5.trans i1, ⟨i2, i3⟩, zz1, zz2⟩
        · obtain ⟨y9, m1, m2, m3⟩ := W_keep (fu := fu) (p0 := p0) (d0 := d0) (e0 := e0) (q0 := q0) (w0 := w0) (u0 := u0) (h0 := h0) (o0 := o0) (c0 := c0) (l0 := l0) (far := far) (cf2 := cf3) (num2 := upd (upd (upd num0 0 (nI v0)) 1 (nI v1)) 2 (nI v2)) (rd9 := upd (upd (upd (rd8 rd) 1 (nI v0)) (1 + 1) (nI v1)) 3 (nI v2)) hx ht0 hn hR (((pk_un (by decide)).trans ((pk_un (by decide)).trans pk_us)).trans ((pk_un (by decide)).trans ((pk_un (by decide)).trans pk_us)).symm) (((pk_un (by decide)).trans pk_us).trans ((pk_un (by decide)).trans pk_us).symm) (pk_us.trans pk_us.symm) (fun z => by
              rcases i8 with ⟨y1, y2, y3, y4⟩ | ⟨y1, y2⟩
              · exact ⟨(g6 (y3.symm.trans z)).1, (g6 (y3.symm.trans z)).2, fun _ _ => ⟨v2, y2, pk_us⟩⟩
              · exact absurd z y1) hf
          obtain ⟨a2, b2', k2', v2', w2, T2, q1, q2, q3, q4, q5⟩ := i6
          refine Or.inr ⟨b3, a2, b2', k2', v2', w2, cf3, cp3, _, st3, 2, nI v2, vl3, wd3, wr, mf3, mp3, y9, upd (upd (upd (upd (rd8 rd) 1 (nI v0)) (1 + 1) (nI v1)) 3 (nI v2)) 0 (nI x), far, gd3, by omega, T2, j5.trans i4, ?_, i7, m2, m3⟩
          rw [W_go3 hd g2 k1 s1 j6 i5 m1, q1, q2, q3]
theorem J_week (ht : ∀ i, i ≤ L → ∃ a b k v w, Tk fu tape mt L i a b k v w) (hL : L ≤ 600) (T : Tk fu tape mt L i a b k v w) (hk : k ≠ 0) (F : Ff i cf cp mf mp) (x0 : KT) (he : x0 = (p0, w0, u0, h0, o0, d0, c0, e0, l0, q0)) (hK : KWk cf x0 told far) (hf : 1000 ≤ fu) :
    LOut fu tape mt L i (f_X5_readLine fu p0 w0 u0 h0 o0 d0 c0 e0 l0 cf cp num tape (nI L) (nI b) (nI a) (nI k) vl q0 1) (f_X12_allLines_L2 fu mt (nI L) 1 (1, nI b, nI a, nI (kM k), ml, w, wr, mf, mp, told, rd, far, gd)) KWk := by
  subst he
  obtain ⟨n, k1, k2, k3⟩ := hK
  have T0 := T
  obtain ⟨t1, t2, t3, t4, t5, t6, t7, t8, t9⟩ := T0
  have ns : ¬ nI (kM k) = 0 := fun z => hk ((kM_0 k t4).1 z)
  have stop : f_X5_formOf fu tape (nI b) (nI a) (nI k) 1 = some (-1) → ∀ w6, (if nI (kM k) = 2 then some w else some (0 : Int64)) = some w6 → f_X12_deedBy fu w6 = some (-1) → LOut fu tape mt L i (f_X5_readLine fu p0 w0 u0 h0 o0 d0 c0 e0 l0 cf cp num tape (nI L) (nI b) (nI a) (nI k) vl q0 1) (f_X12_allLines_L2 fu mt (nI L) 1 (1, nI b, nI a, nI (kM k), ml, w, wr, mf, mp, told, rd, far, gd)) KWk := by
    intro e w6 hw y1
    obtain ⟨y, c1, c2⟩ := C_noform (fu := fu) (L := L) (p0 := p0) (w0 := w0) (u0 := u0) (h0 := h0) (o0 := o0) (d0 := d0) (c0 := c0) (e0 := e0) (l0 := l0) (cf := cf) (cp := cp) (num := num) (vl := vl) (q0 := q0) e
    obtain ⟨z, z1, z2⟩ := W_fail (fu := fu) (L := L) (a := a) (mt := mt) (rc := nI b) (so := nI (kM k)) (ml := ml) (wd := w) (wr := wr) (mf := mf) (mp := mp) (told := told) (rd := rd) (far := far) y1
    obtain ⟨s, m1, m2⟩ := M_step0 (gd := gd) ns hw z1 z2
    exact Or.inl ⟨a, y, s, c1, c2, m1, m2⟩
  by_cases c : k = 1
  · have fo : f_X5_formOf fu tape (nI b) (nI a) (nI k) 1 = bnd (f_X5_formOfWeek fu tape (nI b) (nI a)) (fun x2 => some x2) := by
      unfold f_X5_formOf
      rw [if_pos ((kC_1 k t4).2 c), if_neg (by decide), if_pos rfl]
    rcases W_form (t9 c) with ⟨x, x1, x2, x3⟩ | ⟨x2, x3⟩
    · exact J_week_go ht hL T c F k1 k2 k3 hf x1 (by rw [fo, x2, bnd_some]) x3
    · exact stop (by rw [fo, x2, bnd_some]) w (by rw [if_pos ((kM_2 k t4).2 c)]) x3
  · exact stop (by unfold f_X5_formOf; rw [if_neg (fun z => c ((kC_1 k t4).1 z))]) 0 (by rw [if_neg (fun z => c ((kM_2 k t4).1 z))]) rfl
end WKJ
