/-! ===== one, two, three numbers ===== -/
section NU3
variable {fu L i : Nat} {tape mt : FN} {cf cp mf mp : Int32} {p0 d0 e0 q0 p1 x1 : Int32} {w0 u0 h0 o0 c0 l0 nums : FN} {wn kx : Nat} {st tk vl0 rc bg so vl wr gd : Int32} {wd : Int64} {rd : FN}
theorem take_of {lo hi idx : Int32} {z : TkT} (e : f_X12_takeBut fu mt rc (nI L) bg so vl wd wr mf mp rd gd idx lo hi (-1) = some z) (h : z.1 = 0 ∨ z.1 = 1) : f_X12_take fu mt rc (nI L) bg so vl wd wr mf mp rd gd idx lo hi = some z := by
  unfold f_X12_take
  rw [e, bnd_some]
  have hb : bz z.1 = some z.1 := by
    rcases h with h | h
    · rw [h]; rfl
    · rw [h]; rfl
  rw [hb, bnd_some]
/-- one number of a person (silent, talks), or the first of two -/
theorem J_one (ht : ∀ i, i ≤ L → ∃ a b k v w, Tk fu tape mt L i a b k v w) (hL : L ≤ 600) (hn : ¬ (p1 = 0 ∧ x1 = 0)) (R : RTok fu tape mt L i rc bg so vl wd) (F : Ff i cf cp mf mp) (hw0 : 0 < wn) (hw : wn ≤ 3) (hkx : kx < 4) (hf : 1000 ≤ fu) :
    (∃ a y, lp (f_X5_readLine_L51 fu p0 w0 u0 h0 o0 d0 c0 e0 l0 tape (nI L) q0 p1 x1 (nI wn)) fu ((0 : Int32), cf, cp, nums, nI i, st, tk, vl0) = some (.inl y) ∧ y.2.2.2.2.2.2.2.2.2.1 = 1 ∧ y.2.2.2.2.2.2.2.2.2.2.1 = nI a ∧ f_X12_take fu mt rc (nI L) bg so vl wd wr mf mp rd gd (nI kx) 0 5 = some (0, rc, bg, so, vl, wd, nI a, mf, mp, rd, gd)) ∨
    (∃ v b st' cf' cp' mf' mp' rc' bg' so' vl' wd' gd', v ≤ 99 ∧ i < b ∧ b ≤ L ∧ lp (f_X5_readLine_L51 fu p0 w0 u0 h0 o0 d0 c0 e0 l0 tape (nI L) q0 p1 x1 (nI wn)) fu ((0 : Int32), cf, cp, nums, nI i, st, tk, vl0) = lp (f_X5_readLine_L51 fu p0 w0 u0 h0 o0 d0 c0 e0 l0 tape (nI L) q0 p1 x1 (nI wn)) (fu - 1) (nI 1, cf', cp', upd nums 0 (nI v), nI b, st', 2, nI v) ∧ f_X12_take fu mt rc (nI L) bg so vl wd wr mf mp rd gd (nI kx) 0 5 = some (1, rc', bg', so', vl', wd', wr, mf', mp', upd rd kx (nI v), gd') ∧ RTok fu tape mt L b rc' bg' so' vl' wd' ∧ Ff b cf' cp' mf' mp' ∧ ((v < 6 ∧ cf' = cf ∧ gd' = gd) ∨ (¬ cf' = 0 ∧ gd' = 0))) := by
  rcases NSj (fu := fu) (p0 := p0) (d0 := d0) (e0 := e0) (q0 := q0) (p1 := p1) (x1 := x1) (w0 := w0) (u0 := u0) (h0 := h0) (o0 := o0) (c0 := c0) (l0 := l0) (nums := nums) (wn := wn) (idx := 0) (kx := kx) (lo := 0) (hi := 5) (st := st) (tk := tk) (vl0 := vl0) (but := -1) (wr := wr) (gd := gd) (rd := rd) ht hL R F hw0 hw hkx (by decide) (by decide) (fun v hv => cb_0 hn hv) with ⟨a, y, h1, h2, h3, h4⟩ | ⟨v, b, st', cf', cp', mf', mp', rc', bg', so', vl', wd', gd', h1, h2, h3, h4, h5, h6, h7, h8⟩
  · exact Or.inl ⟨a, y, lp_e h1 (by omega), h2, h3, take_of h4 (Or.inl rfl)⟩
  · refine Or.inr ⟨v, b, st', cf', cp', mf', mp', rc', bg', so', vl', wd', gd', h1, h2, h3, lp_s h4 (by omega), take_of h5 (Or.inr rfl), h6, h7, ?_⟩
    rcases h8 with ⟨z1, z2, z3⟩ | z
    · exact Or.inl ⟨by have := z1.1.2; omega, z2, z3⟩
    · exact Or.inr z
theorem J_two (ht : ∀ i, i ≤ L → ∃ a b k v w, Tk fu tape mt L i a b k v w) (hL : L ≤ 600) (hn : ¬ (p1 = 0 ∧ x1 = 0)) (R : RTok fu tape mt L i rc bg so vl wd) (F : Ff i cf cp mf mp) (hw0 : 1 < wn) (hw : wn ≤ 3) (hkx : kx < 3) (hf : 1000 ≤ fu) :
    (∃ a y z, lp (f_X5_readLine_L51 fu p0 w0 u0 h0 o0 d0 c0 e0 l0 tape (nI L) q0 p1 x1 (nI wn)) fu ((0 : Int32), cf, cp, nums, nI i, st, tk, vl0) = some (.inl y) ∧ y.2.2.2.2.2.2.2.2.2.1 = 1 ∧ y.2.2.2.2.2.2.2.2.2.2.1 = nI a ∧ f_X12_takeTwo fu mt rc (nI L) bg so vl wd wr mf mp rd gd (nI kx) = some z ∧ z.1 = 0 ∧ z.2.2.2.2.2.2.1 = nI a) ∨
    (∃ v0 v1 b st' cf' cp' mf' mp' rc' bg' so' vl' wd' gd', v0 ≤ 99 ∧ v1 ≤ 99 ∧ i < b ∧ b ≤ L ∧ lp (f_X5_readLine_L51 fu p0 w0 u0 h0 o0 d0 c0 e0 l0 tape (nI L) q0 p1 x1 (nI wn)) fu ((0 : Int32), cf, cp, nums, nI i, st, tk, vl0) = lp (f_X5_readLine_L51 fu p0 w0 u0 h0 o0 d0 c0 e0 l0 tape (nI L) q0 p1 x1 (nI wn)) (fu - 1 - 1) (nI 2, cf', cp', upd (upd nums 0 (nI v0)) 1 (nI v1), nI b, st', 2, nI v1) ∧ f_X12_takeTwo fu mt rc (nI L) bg so vl wd wr mf mp rd gd (nI kx) = some (1, rc', bg', so', vl', wd', wr, mf', mp', upd (upd rd kx (nI v0)) (kx + 1) (nI v1), gd') ∧ RTok fu tape mt L b rc' bg' so' vl' wd' ∧ Ff b cf' cp' mf' mp' ∧ ((v0 < 6 ∧ v1 < 6 ∧ v0 ≠ v1 ∧ cf' = cf ∧ gd' = gd) ∨ (¬ cf' = 0 ∧ gd' = 0))) := by
  unfold f_X12_takeTwo
  rcases J_one (fu := fu) (p0 := p0) (d0 := d0) (e0 := e0) (q0 := q0) (p1 := p1) (x1 := x1) (w0 := w0) (u0 := u0) (h0 := h0) (o0 := o0) (c0 := c0) (l0 := l0) (nums := nums) (wn := wn) (kx := kx) (st := st) (tk := tk) (vl0 := vl0) (wr := wr) (gd := gd) (rd := rd) ht hL hn R F (by omega) hw (by omega) hf with ⟨a, y, h1, h2, h3, h4⟩ | ⟨v0, b0, st0, cf0, cp0, mf0, mp0, rc0, bg0, so0, vl0', wd0, gd0, h1, h2, h3, h4, h5, h6, h7, h8⟩
  · rw [h4, bnd_some, if_pos i00]
    exact Or.inl ⟨a, y, _, h1, h2, h3, rfl, rfl, rfl⟩
  · rw [h5, bnd_some, if_neg i10]
    have rr : rdi 4 (upd rd kx (nI v0)) (nI kx) = some (nI v0) := rdi_n (by omega) (by decide) pk_us
    have nz : (upd nums 0 (nI v0)) 0 = nI v0 := pk_us
    rcases NSj (fu := fu) (p0 := p0) (d0 := d0) (e0 := e0) (q0 := q0) (p1 := p1) (x1 := x1) (w0 := w0) (u0 := u0) (h0 := h0) (o0 := o0) (c0 := c0) (l0 := l0) (nums := upd nums 0 (nI v0)) (wn := wn) (idx := 1) (kx := kx + 1) (lo := 0) (hi := 5) (st := st0) (tk := 2) (vl0 := nI v0) (but := nI v0) (wr := wr) (gd := gd0) (rd := upd rd kx (nI v0)) ht hL h6 h7 hw0 hw (by omega) (by decide) (by decide) (fun v hv => ⟨(cb_1 hn ((pk_un (by decide)).trans nz)).1, (cb_1 hn ((pk_un (by decide)).trans nz)).2 hv⟩) with ⟨a, y, g1, g2, g3, g4⟩ | ⟨v, b, st', cf', cp', mf', mp', rc', bg', so', vl', wd', gd', g1, g2, g3, g4, g5, g6, g7, g8⟩
    · have g4 : f_X12_takeBut fu mt rc0 (nI L) bg0 so0 vl0' wd0 wr mf0 mp0 (upd rd kx (nI v0)) gd0 (nI kx + 1) 0 5 (nI v0) = some (0, rc0, bg0, so0, vl0', wd0, nI a, mf0, mp0, upd rd kx (nI v0), gd0) := by
        rw [nI_1]; exact g4
      rw [rr, bnd_some, g4, bnd_some, if_pos i00]
      exact Or.inl ⟨a, y, _, h4.trans (lp_e g1 (by omega)), g2, g3, rfl, rfl, rfl⟩
    · have g5 : f_X12_takeBut fu mt rc0 (nI L) bg0 so0 vl0' wd0 wr mf0 mp0 (upd rd kx (nI v0)) gd0 (nI kx + 1) 0 5 (nI v0) = some (1, rc', bg', so', vl', wd', wr, mf', mp', upd (upd rd kx (nI v0)) (kx + 1) (nI v), gd') := by
        rw [nI_1]; exact g5
      rw [rr, bnd_some, g5, bnd_some, if_neg i10]
      refine Or.inr ⟨v0, v, b, st', cf', cp', mf', mp', rc', bg', so', vl', wd', gd', h1, g1, by omega, g3, h4.trans (lp_s g4 (by omega)), rfl, g6, g7, ?_⟩
      rcases g8 with ⟨z1, z2, z3⟩ | z
      · rcases h8 with ⟨y1, y2, y3⟩ | ⟨y1, y2⟩
        · refine Or.inl ⟨y1, by have := z1.1.2; omega, fun e => z1.2 (by rw [e]), z2.trans y2, z3.trans y3⟩
        · exact Or.inr ⟨by rw [z2]; exact y1, z3.trans y2⟩
      · exact Or.inr z
end NU3
