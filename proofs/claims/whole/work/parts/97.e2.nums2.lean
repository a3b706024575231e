/-! ===== numbers, class and reference together ===== -/
abbrev L51s : Type := Int32 × Int32 × Int32 × FN × Int32 × Int32 × Int32 × Int32
abbrev LnT : Type := Int32 × FN × FN × FN × FN × Int32 × FN × Int32 × FN × Int32 × Int32 × FN × Int32 × Int32 × Int32 × Int32 × Int32
abbrev TkT : Type := Int32 × Int32 × Int32 × Int32 × Int32 × Int64 × Int32 × Int32 × Int32 × FN × Int32
section NU2
variable {fu L i a b k v : Nat} {w : Int64} {tape mt : FN} {cf cp mf mp : Int32}
theorem nm1 {v : Nat} (hv : v ≤ 99) : ¬ nI v = (-1 : Int32) := nI_nm1 (by omega)
theorem cb_p0 {nums : FN} (hv : v ≤ 99) : (okr 0 9 (-1) v → f_X5_canBe fu nums (nI v) 0 0 (nI 0) = some 1) ∧ (¬ okr 0 9 (-1) v → f_X5_canBe fu nums (nI v) 0 0 (nI 0) = some 0) := by
  unfold f_X5_canBe
  rw [if_pos rfl, if_pos rfl, if_neg (by decide)]
  by_cases c : v ≤ 9
  · rw [if_neg (show ¬ (9 : Int32) < nI v by rw [show (9 : Int32) = nI 9 from rfl]; exact nI_nlt c (by decide))]
    exact ⟨fun _ => rfl, fun h => absurd ⟨⟨Nat.zero_le _, c⟩, nm1 hv⟩ h⟩
  · rw [if_pos (show (9 : Int32) < nI v from nI_lt (a := 9) (by omega) (by omega))]
    exact ⟨fun h => absurd h.1.2 c, fun _ => rfl⟩
theorem cb_p1 {nums : FN} (hv : v ≤ 99) : (okr 0 99 (-1) v → f_X5_canBe fu nums (nI v) 0 0 (nI 1) = some 1) ∧ (¬ okr 0 99 (-1) v → f_X5_canBe fu nums (nI v) 0 0 (nI 1) = some 0) := by
  unfold f_X5_canBe
  rw [if_pos rfl, if_pos rfl, if_pos rfl]
  exact ⟨fun _ => rfl, fun h => absurd ⟨⟨Nat.zero_le _, hv⟩, nm1 hv⟩ h⟩
theorem cb_gen {nums : FN} {p1 x1 q : Int32} (h : ¬ (p1 = 0 ∧ x1 = 0)) : f_X5_canBe fu nums (nI v) p1 x1 q = if q = 2 then if (30 : Int32) < nI v then some 0 else if p1 = 0 then some 1 else if nI v < 1 then some 0 else some 1 else if (6 : Int32) ≤ nI v then some 0 else if q = 0 then some 1 else bnd (rdi 3 nums 0) (fun x3 => if nI v = x3 then some 0 else some 1) := by
  unfold f_X5_canBe
  by_cases c : p1 = 0
  · rw [if_pos c, if_neg (fun z => h ⟨c, z⟩)]
    rfl
  · rw [if_neg c]
    rfl
theorem cb_0 {nums : FN} {p1 x1 : Int32} (h : ¬ (p1 = 0 ∧ x1 = 0)) (hv : v ≤ 99) : (okr 0 5 (-1) v → f_X5_canBe fu nums (nI v) p1 x1 (nI 0) = some 1) ∧ (¬ okr 0 5 (-1) v → f_X5_canBe fu nums (nI v) p1 x1 (nI 0) = some 0) := by
  rw [cb_gen h, if_neg (by decide)]
  by_cases c : v ≤ 5
  · rw [if_neg (show ¬ (6 : Int32) ≤ nI v by rw [show (6 : Int32) = nI 6 from rfl]; exact nI_ge (by omega) (by decide)), if_pos (by decide)]
    exact ⟨fun _ => rfl, fun h => absurd ⟨⟨Nat.zero_le _, c⟩, nm1 hv⟩ h⟩
  · rw [if_pos (show (6 : Int32) ≤ nI v from nI_le (a := 6) (by omega) (by omega))]
    exact ⟨fun h => absurd h.1.2 c, fun _ => rfl⟩
theorem cb_1 {nums : FN} {p1 x1 : Int32} {v0 : Nat} (h : ¬ (p1 = 0 ∧ x1 = 0)) (h0 : nums 0 = nI v0) : (okr 0 5 (nI v0) v → f_X5_canBe fu nums (nI v) p1 x1 (nI 1) = some 1) ∧ (v ≤ 99 → ¬ okr 0 5 (nI v0) v → f_X5_canBe fu nums (nI v) p1 x1 (nI 1) = some 0) := by
  have r0 : rdi 3 nums 0 = some (nI v0) := rdi_n (k := 0) (by decide) (by decide) h0
  rw [cb_gen h, if_neg (by decide), if_neg (show ¬ nI 1 = (0 : Int32) by decide), r0, bnd_some]
  refine ⟨fun o => ?_, fun hv o => ?_⟩
  · have := o.1.2
    rw [if_neg (show ¬ (6 : Int32) ≤ nI v by rw [show (6 : Int32) = nI 6 from rfl]; exact nI_ge (by omega) (by decide)), if_neg o.2]
  · by_cases c : v ≤ 5
    · rw [if_neg (show ¬ (6 : Int32) ≤ nI v by rw [show (6 : Int32) = nI 6 from rfl]; exact nI_ge (by omega) (by decide)), if_pos (Classical.not_not.1 (fun z => o ⟨⟨Nat.zero_le _, c⟩, z⟩))]
    · rw [if_pos (show (6 : Int32) ≤ nI v from nI_le (a := 6) (by omega) (by omega))]
theorem cb_2 {nums : FN} {p1 x1 : Int32} {lo : Nat} (h : ¬ (p1 = 0 ∧ x1 = 0)) (hv : v ≤ 99) (hlo : (p1 = 0 ∧ lo = 0) ∨ (¬ p1 = 0 ∧ lo = 1)) : (okr lo 30 (-1) v → f_X5_canBe fu nums (nI v) p1 x1 (nI 2) = some 1) ∧ (¬ okr lo 30 (-1) v → f_X5_canBe fu nums (nI v) p1 x1 (nI 2) = some 0) := by
  rw [cb_gen h, if_pos (by decide)]
  by_cases c : v ≤ 30
  · rw [if_neg (show ¬ (30 : Int32) < nI v by rw [show (30 : Int32) = nI 30 from rfl]; exact nI_nlt c (by decide))]
    rcases hlo with ⟨l1, l2⟩ | ⟨l1, l2⟩
    · rw [if_pos l1]
      exact ⟨fun _ => rfl, fun h => absurd ⟨⟨by omega, c⟩, nm1 hv⟩ h⟩
    · rw [if_neg l1]
      by_cases d : v < 1
      · rw [if_pos (show nI v < (1 : Int32) from nI_lt (b := 1) d (by decide))]
        exact ⟨fun h => by have := h.1.1; omega, fun _ => rfl⟩
      · rw [if_neg (show ¬ nI v < (1 : Int32) by rw [show (1 : Int32) = nI 1 from rfl]; exact nI_nlt (by omega) (by omega))]
        exact ⟨fun _ => rfl, fun h => absurd ⟨⟨by omega, c⟩, nm1 hv⟩ h⟩
  · rw [if_pos (show (30 : Int32) < nI v from nI_lt (a := 30) (by omega) (by omega))]
    exact ⟨fun h => absurd h.1.2 c, fun _ => rfl⟩
/-- one number: both stop, or both go on -/
theorem NSj {p0 d0 e0 q0 p1 x1 : Int32} {w0 u0 h0 o0 c0 l0 nums : FN} {wn idx kx lo hi : Nat} {st tk vl0 but rc bg so vl wr gd : Int32} {wd : Int64} {rd : FN} (ht : ∀ i, i ≤ L → ∃ a b k v w, Tk fu tape mt L i a b k v w) (hL : L ≤ 600) (R : RTok fu tape mt L i rc bg so vl wd) (F : Ff i cf cp mf mp) (hidx : idx < wn) (hw : wn ≤ 3) (hkx : kx < 4) (hl : lo < 100) (hh : hi < 100)
    (hc : ∀ v, v ≤ 99 → (okr lo hi but v → f_X5_canBe fu (upd nums idx (nI v)) (nI v) p1 x1 (nI idx) = some 1) ∧ (¬ okr lo hi but v → f_X5_canBe fu (upd nums idx (nI v)) (nI v) p1 x1 (nI idx) = some 0)) :
    (∃ a y, f_X5_readLine_L51 fu p0 w0 u0 h0 o0 d0 c0 e0 l0 tape (nI L) q0 p1 x1 (nI wn) (nI idx, cf, cp, nums, nI i, st, tk, vl0) = some (.inr (.inl y)) ∧ y.2.2.2.2.2.2.2.2.2.1 = 1 ∧ y.2.2.2.2.2.2.2.2.2.2.1 = nI a ∧ f_X12_takeBut fu mt rc (nI L) bg so vl wd wr mf mp rd gd (nI kx) (nI lo) (nI hi) but = some (0, rc, bg, so, vl, wd, nI a, mf, mp, rd, gd)) ∨
    (∃ v b st' cf' cp' mf' mp' rc' bg' so' vl' wd' gd', v ≤ 99 ∧ i < b ∧ b ≤ L ∧ f_X5_readLine_L51 fu p0 w0 u0 h0 o0 d0 c0 e0 l0 tape (nI L) q0 p1 x1 (nI wn) (nI idx, cf, cp, nums, nI i, st, tk, vl0) = some (.inl (nI (idx + 1), cf', cp', upd nums idx (nI v), nI b, st', 2, nI v)) ∧ f_X12_takeBut fu mt rc (nI L) bg so vl wd wr mf mp rd gd (nI kx) (nI lo) (nI hi) but = some (1, rc', bg', so', vl', wd', wr, mf', mp', upd rd kx (nI v), gd') ∧ RTok fu tape mt L b rc' bg' so' vl' wd' ∧ Ff b cf' cp' mf' mp' ∧ ((okr lo hi but v ∧ cf' = cf ∧ gd' = gd) ∨ (¬ cf' = 0 ∧ gd' = 0))) := by
  obtain ⟨a, b, k, v, w, T, r1, r2, r3, r4, r5⟩ := R
  subst r2
  have T0 := T
  obtain ⟨t1, t2, t3, t4, t5, t6, t7, t8, t9⟩ := T0
  have Rt := R_takeBut (fu := fu) (idx := kx) (lo := lo) (hi := hi) (but := but) (rc := rc) (so := so) (vl := vl) (wr := wr) (gd := gd) (wd := wd) (rd := rd) (mf := mf) (mp := mp) ht hL T r1 r3 r4 hkx hl hh
  have Ct := C_num (fu := fu) (p0 := p0) (d0 := d0) (e0 := e0) (q0 := q0) (p1 := p1) (x1 := x1) (w0 := w0) (u0 := u0) (h0 := h0) (o0 := o0) (c0 := c0) (l0 := l0) (nums := nums) (wn := wn) (idx := idx) (st := st) (tk := tk) (vl := vl0) (cf := cf) (cp := cp) T hidx hw
  by_cases hk : k = 2
  · right
    have ab := t6 (by omega)
    obtain ⟨rc', bg', so', vl', wd', e1, e2, e3⟩ := Rt.2 hk
    obtain ⟨c1, c2⟩ := Ct.2 hk
    obtain ⟨k1, k2⟩ := hc v t5
    by_cases o : okr lo hi but v
    · exact ⟨v, b, nI a, cf, cp, mf, mp, rc', bg', so', vl', wd', gd, t5, by omega, t3, c1 (k1 o), e2 o, e1, Ff_mono F (by omega), Or.inl ⟨o, rfl, rfl⟩⟩
    · obtain ⟨cf', cp', mf', mp', f1, f2, f3, f4⟩ := Ff_note (fu := fu) (g := 2) (a := a) (b := b) (Or.inl rfl) (Ff_mono F t1) (by omega) ab
      exact ⟨v, b, nI a, cf', cp', mf', mp', rc', bg', so', vl', wd', 0, t5, by omega, t3, c2 (k2 o) cf' cp' f1, e3 o mf' mp' f2, e1, f3, Or.inr ⟨f4, rfl⟩⟩
  · left
    obtain ⟨y, y1, y2, y3⟩ := Ct.1 hk
    exact ⟨a, y, y1, y2, y3, Rt.1 hk⟩
end NU2
