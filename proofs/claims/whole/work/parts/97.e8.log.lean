/-! ===== a line of a log, both sides ===== -/
def KLg : Int32 → KT → FN → Int32 → Prop := fun cf x told _ => ∃ n, n ≤ 8 ∧ told 0 = nI n ∧ (cf = 0 → LgR n x.2.2.2.2.2.2.2.1 x.2.2.2.2.2.2.2.2.1 told 0)
section LGL
variable {fu L i a b k v n : Nat} {w : Int64} {tape mt : FN} {cf cp mf mp : Int32} {p0 d0 e0 q0 : Int32} {w0 u0 h0 o0 c0 l0 num : FN} {vl ml wr far gd : Int32} {wd w6 : Int64} {told rd : FN} {rc bg so : Int32}
theorem M_log_fail (h1 : ¬ lg_cmp w6 (lN (wC 10)) = 0) (h2 : ¬ lg_cmp w6 (lN (wC 11)) = 0) : ∃ z, MLn fu mt (nI L) 2 rc (nI a) so ml wd wr mf mp told rd far w6 = some z ∧ MStop z a := by
  have h1 : ¬ lg_cmp w6 (8390038316256879986 : Int64) = 0 := h1
  have h2 : ¬ lg_cmp w6 (418497262196 : Int64) = 0 := h2
  unfold MLn f_X12_logLine
  rw [if_neg (by decide), if_neg (by decide), if_neg h1, if_neg h2]
  exact ⟨_, rfl, rfl, rfl⟩
theorem LgR_add {l l9 told told9 : FN} {x v0 v1 : Nat} (R : LgR n e0 l told 0) (hn : n < 8) (hx : x = 0 ∨ x = 1) (hv0 : v0 < 6) (hv1 : v1 < 6) (a1 : l9 (3 * n) = nI x) (a2 : l9 (3 * n + 1) = nI v0) (a3 : l9 (3 * n + 2) = nI v1) (a4 : ∀ j, j < 3 * n → l9 j = l j) (b0 : told9 0 = nI (n + 1)) (b1 : told9 (1 + 3 * n) = nI x) (b2 : told9 (1 + 3 * n + 1) = nI v0) (b3 : told9 (1 + 3 * n + 2) = nI v1) (b4 : ∀ j, 0 < j → j < 1 + 3 * n → told9 j = told j) : LgR (n + 1) (nI (n + 1)) l9 told9 0 := by
  obtain ⟨r1, r2, r3, r4, r5⟩ := R
  refine ⟨by omega, rfl, b0, fun i hi => ?_, fun j hj => ?_⟩
  · rcases Nat.lt_or_ge i (3 * n) with c | c
    · rw [a4 i c, r4 i c, b4 (0 + 1 + i) (by omega) (by omega)]
    · have : i = 3 * n ∨ i = 3 * n + 1 ∨ i = 3 * n + 2 := by omega
      rcases this with rfl | rfl | rfl
      · rw [a1, show 0 + 1 + 3 * n = 1 + 3 * n by omega, b1]
      · rw [a2, show 0 + 1 + (3 * n + 1) = 1 + 3 * n + 1 by omega, b2]
      · rw [a3, show 0 + 1 + (3 * n + 2) = 1 + 3 * n + 2 by omega, b3]
  · rcases Nat.lt_or_ge j n with c | c
    · obtain ⟨s1, s2, s3⟩ := r5 j c
      rw [a4 (3 * j) (by omega), a4 (3 * j + 1) (by omega), a4 (3 * j + 2) (by omega)]
      exact ⟨s1, s2, s3⟩
    · obtain rfl : j = n := by omega
      refine ⟨?_, ⟨v0, hv0, a2⟩, ⟨v1, hv1, a3⟩⟩
      rcases hx with rfl | rfl
      · exact Or.inl a1
      · exact Or.inr a1
theorem J_log_go {x : Nat} (ht : ∀ i, i ≤ L → ∃ a b k v w, Tk fu tape mt L i a b k v w) (hL : L ≤ 600) (T : Tk fu tape mt L i a b k v w) (hk : k = 1) (F : Ff i cf cp mf mp) (hn : n ≤ 8) (ht0 : told 0 = nI n) (hR : cf = 0 → LgR n e0 l0 told 0) (hf : 1000 ≤ fu) (hform : f_X5_formOf fu tape (nI b) (nI a) (nI k) 2 = some (nI x)) (hx : (x = 0 ∧ lg_cmp w (lN (wC 10)) = 0) ∨ (x = 1 ∧ ¬ lg_cmp w (lN (wC 10)) = 0 ∧ lg_cmp w (lN (wC 11)) = 0)) :
    LOut fu tape mt L i (f_X5_readLine fu p0 w0 u0 h0 o0 d0 c0 e0 l0 cf cp num tape (nI L) (nI b) (nI a) (nI k) vl q0 2) (f_X12_allLines_L2 fu mt (nI L) 2 (1, nI b, nI a, nI (kM k), ml, w, wr, mf, mp, told, rd, far, gd)) KLg := by
  obtain ⟨t1, t2, t3, t4, t5, t6, t7, t8, t9⟩ := T
  have ab := t6 (by omega)
  have hx01 : x = 0 ∨ x = 1 := by
    rcases hx with z | z
    · exact Or.inl z.1
    · exact Or.inr z.1
  obtain ⟨x3, hx3, hx4⟩ : ∃ x3, f_X5_isOneTooMany fu p0 d0 e0 2 (nI x) = some x3 ∧ (cf = 0 → (x3 = 0 ↔ n < 8)) := by
    unfold f_X5_isOneTooMany
    rw [if_neg (by decide), if_neg (by decide)]
    by_cases c : e0 < 8
    · rw [if_pos c]
      refine ⟨0, rfl, fun z => ⟨fun _ => ?_, fun _ => rfl⟩⟩
      rw [(hR z).2.1] at c
      exact Nat.lt_of_not_le (fun y => nI_nlt (a := n) (b := 8) y (by omega) c)
    · rw [if_neg c]
      refine ⟨1, rfl, fun z => ⟨fun y => absurd y (by decide), fun y => ?_⟩⟩
      rw [(hR z).2.1] at c
      exact absurd (nI_lt (a := n) (b := 8) y (by decide)) c
  obtain ⟨cf1, cp1, mf1, mp1, g1, g2, g3, g4⟩ := J_full (fu := fu) (a := a) (b := b) (Ff_mono F t1) (by omega) ab ht0 hn (by decide) hx4
  have g2 : f_X12_full fu mf mp told 8 (nI a) = some (mf1, mp1) := g2
  obtain ⟨num0, f1, f2⟩ := fill_ok (fu := fu) (N := 3) (f := num) (v := -1) (by decide) (by omega)
  obtain ⟨rc1, bg1, so1, vl1, wd1, k1, k2⟩ := tok_next (fu := fu) (i := b) ht t3 (nI a) (nI (kM k)) ml w
  have mln : MLn fu mt (nI L) 2 (nI b) (nI a) (nI (kM k)) ml w wr mf mp told rd far w = bnd (f_X12_takeTwo fu mt rc1 (nI L) bg1 so1 vl1 wd1 wr mf1 mp1 rd 1 (nI 1)) (fun x5 => if x5.1 = 0 then some (0, x5.2.1, x5.2.2.1, x5.2.2.2.1, x5.2.2.2.2.1, x5.2.2.2.2.2.1, x5.2.2.2.2.2.2.1, x5.2.2.2.2.2.2.2.1, x5.2.2.2.2.2.2.2.2.1, told, x5.2.2.2.2.2.2.2.2.2.1, far, x5.2.2.2.2.2.2.2.2.2.2) else bnd (wri 4 x5.2.2.2.2.2.2.2.2.2.1 (nI 0) (nI x)) (fun x6 => bnd (f_X12_keepRow fu told x6 (nI 3) (nI 8)) (fun x7 => some (1, x5.2.1, x5.2.2.1, x5.2.2.2.1, x5.2.2.2.2.1, x5.2.2.2.2.2.1, x5.2.2.2.2.2.2.1, x5.2.2.2.2.2.2.2.1, x5.2.2.2.2.2.2.2.2.1, x7, x6, far, x5.2.2.2.2.2.2.2.2.2.2)))) := by
    have asc : ∀ {α β γ : Type} (o : Option α) (f : α → Option β) (g : β → Option γ), bnd (bnd o f) g = bnd o (fun y => bnd (f y) g) := by
      intro α β γ o f g
      cases o <;> rfl
    unfold MLn f_X12_logLine
    rw [if_neg (by decide), if_neg (by decide)]
    rcases hx with ⟨rfl, z1⟩ | ⟨rfl, z1, z2⟩
    · have z1 : lg_cmp w (8390038316256879986 : Int64) = 0 := z1
      rw [if_pos z1, bnd_some]
      dsimp only [cse]
      rw [g2, bnd_some]
      dsimp only
      rw [k1, bnd_some]
      dsimp only
      rw [asc]
      congr 1
      funext x5
      by_cases c : x5.1 = 0
      · rw [if_pos c, if_pos c, bnd_some]
      · rw [if_neg c, if_neg c, if_pos z1, asc]
        congr 1
        funext x6
        rw [asc]
        rfl
    · have z1 : ¬ lg_cmp w (8390038316256879986 : Int64) = 0 := z1
      have z2 : lg_cmp w (418497262196 : Int64) = 0 := z2
      rw [if_neg z1, if_pos z2, bnd_some]
      dsimp only [cse]
      rw [g2, bnd_some]
      dsimp only
      rw [k1, bnd_some]
      dsimp only
      rw [asc]
      congr 1
      funext x5
      by_cases c : x5.1 = 0
      · rw [if_pos c, if_pos c, bnd_some]
      · rw [if_neg c, if_neg c, if_neg z1, asc]
        congr 1
        funext x6
        rw [asc]
        rfl
  refine J_fin (x1 := nI x) (x3 := x3) (cf1 := cf1) (cp1 := cp1) (num0 := num0) (wn := 2) (w6 := w) ht (nI_nm1 (by omega)) hform hx3 g1 f1 ?_ (fun z => by have := (kM_0 k t4).1 z; omega) (by rw [if_pos ((kM_2 k t4).2 hk)]) ?_
  · unfold f_X5_numbersOf
    rw [if_neg (by decide), if_neg (by decide)]
    rfl
  · rw [mln]
    rcases J_two (fu := fu) (p0 := p0) (d0 := d0) (e0 := e0) (q0 := q0) (p1 := 2) (x1 := nI x) (w0 := w0) (u0 := u0) (h0 := h0) (o0 := o0) (c0 := c0) (l0 := l0) (nums := num0) (wn := 2) (kx := 1) (st := nI a) (tk := nI k) (vl0 := vl) (wr := wr) (gd := 1) (rd := rd) ht hL (fun z => absurd z.1 (by decide)) k2 g3 (by decide) (by decide) (by decide) hf with ⟨a', y, z, j1, j2, j3, j4, j5, j6⟩ | ⟨v0, v1, b2, st', cf', cp', mf', mp', rc', bg', so', vl', wd', gd', j1, j2, j3, j4, j5, j6, j7, j8, j9⟩
    · rw [j4, bnd_some, if_pos j5]
      exact Or.inl ⟨a', y, _, j1, ⟨j2, j3⟩, rfl, rfl, j6⟩
    · rw [j6, bnd_some, if_neg i10]
      dsimp only
      rw [wri_n (show 0 < 4 by decide) (by decide), bnd_some]
      obtain ⟨t9', m1, m2, m3⟩ := keepRow_ok (fu := fu) (rd := upd (upd (upd rd 1 (nI v0)) (1 + 1) (nI v1)) 0 (nI x)) (p := 3) ht0 hn (by decide) (by decide) (by decide) (by omega)
      rw [m1, bnd_some]
      obtain ⟨a2, b2', k2', v2, w2, T2, q1, q2, q3, q4, q5⟩ := j7
      refine Or.inr ⟨b2, a2, b2', k2', v2, w2, cf', cp', _, st', 2, nI v1, vl', wd', wr, mf', mp', t9', _, far, gd', by omega, T2, j5.trans (L51_end (by omega) (by decide)), by rw [q1, q2, q3], j8, fun hc => ?_, fun hc => ?_⟩
      · by_cases e : n = 8
        · exact ⟨8, Nat.le_refl _, by rw [m2 e, ht0, e], fun z => absurd z hc⟩
        · exact ⟨n + 1, by omega, (m3 (by omega)).1, fun z => absurd z hc⟩
      · rcases j9 with ⟨s1, s2, s3, s4, s5⟩ | ⟨s1, s2⟩
        · rcases g4 with ⟨r1, r2⟩ | r
          · have c0' : cf = 0 := by rw [← r1, ← s4]; exact hc
            have lt8 := r2 c0'
            have RR := hR c0'
            obtain ⟨l9, y1, y2, y3, y4, y5⟩ := add2_ok (fu := fu) (n := n) (l0 := l0) (num := upd (upd num0 0 (nI v0)) 1 (nI v1)) (p := nI x) lt8
            obtain ⟨mm1, mm2, mm3⟩ := m3 lt8
            refine ⟨(p0, w0, u0, h0, o0, d0, c0, nI (n + 1), l9, q0), ?_, n + 1, by omega, mm1, fun _ => ?_⟩
            · show f_X5_keepLine fu p0 w0 u0 h0 o0 d0 c0 e0 l0 (upd (upd num0 0 (nI v0)) 1 (nI v1)) q0 2 (nI x) = _
              unfold f_X5_keepLine
              rw [if_neg (by decide), if_neg (by decide), RR.2.1, y1, bnd_some]
            · exact LgR_add RR lt8 hx01 s1 s2 y2 (y3.trans ((pk_un (by decide)).trans pk_us)) (y4.trans pk_us) y5 mm1 ((mm2 0 (by decide)).trans pk_us) ((mm2 1 (by decide)).trans ((pk_un (by decide)).trans ((pk_un (by decide)).trans pk_us))) ((mm2 2 (by decide)).trans ((pk_un (by decide)).trans pk_us)) mm3
          · exact absurd (s4.symm.trans hc) r
        · exact absurd hc s1
theorem J_log (ht : ∀ i, i ≤ L → ∃ a b k v w, Tk fu tape mt L i a b k v w) (hL : L ≤ 600) (T : Tk fu tape mt L i a b k v w) (hk : k ≠ 0) (F : Ff i cf cp mf mp) (x0 : KT) (he : x0 = (p0, w0, u0, h0, o0, d0, c0, e0, l0, q0)) (hK : KLg cf x0 told far) (hf : 1000 ≤ fu) :
    LOut fu tape mt L i (f_X5_readLine fu p0 w0 u0 h0 o0 d0 c0 e0 l0 cf cp num tape (nI L) (nI b) (nI a) (nI k) vl q0 2) (f_X12_allLines_L2 fu mt (nI L) 2 (1, nI b, nI a, nI (kM k), ml, w, wr, mf, mp, told, rd, far, gd)) KLg := by
  subst he
  obtain ⟨n, k1, k2, k3⟩ := hK
  have T0 := T
  obtain ⟨t1, t2, t3, t4, t5, t6, t7, t8, t9⟩ := T0
  have ns : ¬ nI (kM k) = 0 := fun z => hk ((kM_0 k t4).1 z)
  have stop : f_X5_formOf fu tape (nI b) (nI a) (nI k) 2 = some (-1) → ∀ w6, (if nI (kM k) = 2 then some w else some (0 : Int64)) = some w6 → ¬ lg_cmp w6 (lN (wC 10)) = 0 → ¬ lg_cmp w6 (lN (wC 11)) = 0 → LOut fu tape mt L i (f_X5_readLine fu p0 w0 u0 h0 o0 d0 c0 e0 l0 cf cp num tape (nI L) (nI b) (nI a) (nI k) vl q0 2) (f_X12_allLines_L2 fu mt (nI L) 2 (1, nI b, nI a, nI (kM k), ml, w, wr, mf, mp, told, rd, far, gd)) KLg := by
    intro e w6 hw y1 y2
    obtain ⟨y, c1, c2⟩ := C_noform (fu := fu) (L := L) (p0 := p0) (w0 := w0) (u0 := u0) (h0 := h0) (o0 := o0) (d0 := d0) (c0 := c0) (e0 := e0) (l0 := l0) (cf := cf) (cp := cp) (num := num) (vl := vl) (q0 := q0) e
    obtain ⟨z, z1, z2⟩ := M_log_fail (fu := fu) (L := L) (a := a) (mt := mt) (rc := nI b) (so := nI (kM k)) (ml := ml) (wd := w) (wr := wr) (mf := mf) (mp := mp) (told := told) (rd := rd) (far := far) y1 y2
    obtain ⟨s, m1, m2⟩ := M_step0 (gd := gd) ns hw z1 z2
    exact Or.inl ⟨a, y, s, c1, c2, m1, m2⟩
  by_cases c : k = 1
  · have fo : f_X5_formOf fu tape (nI b) (nI a) (nI k) 2 = bnd (f_X5_isWord fu tape (nI b) (nI a) 10) (fun x3 => if x3 = 0 then bnd (f_X5_isWord fu tape (nI b) (nI a) 11) (fun x4 => if x4 = 0 then some (-1) else some 1) else some 0) := by
      unfold f_X5_formOf
      rw [if_pos ((kC_1 k t4).2 c), if_neg (by decide), if_neg (by decide)]
    have W := t9 c
    rcases W 10 (by decide) with ⟨p1, p2⟩ | ⟨p1, p2⟩
    · exact J_log_go (x := 0) ht hL T c F k1 k2 k3 hf (by rw [fo, p1, bnd_some, if_neg i10]; rfl) (Or.inl ⟨rfl, p2⟩)
    · rcases W 11 (by decide) with ⟨r1, r2⟩ | ⟨r1, r2⟩
      · exact J_log_go (x := 1) ht hL T c F k1 k2 k3 hf (by rw [fo, p1, bnd_some, if_pos i00, r1, bnd_some, if_neg i10]; rfl) (Or.inr ⟨rfl, p2, r2⟩)
      · exact stop (by rw [fo, p1, bnd_some, if_pos i00, r1, bnd_some, if_pos i00]) w (by rw [if_pos ((kM_2 k t4).2 c)]) p2 r2
  · exact stop (by unfold f_X5_formOf; rw [if_neg (fun z => c ((kC_1 k t4).1 z))]) 0 (by rw [if_neg (fun z => c ((kM_2 k t4).1 z))]) (by decide) (by decide)
end LGL
