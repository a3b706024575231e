/-! ===== faults and numbers ===== -/
/-- no fault so far, or the same one in both, at a place before a -/
def Ff (a : Nat) (cf cp mf mp : Int32) : Prop := (cf = 0 ∧ mf = 0 ∧ cp = -1) ∨ ∃ f pl, (f = 2 ∨ f = 3) ∧ cf = nI f ∧ mf = nI f ∧ cp = nI pl ∧ mp = nI pl ∧ pl < a
def RTok (fu : Nat) (tape mt : FN) (L i : Nat) (rc bg so vl : Int32) (wd : Int64) : Prop := ∃ a b k v w, Tk fu tape mt L i a b k v w ∧ rc = nI b ∧ bg = nI a ∧ so = nI (kM k) ∧ (k = 2 → vl = nI v) ∧ wd = w
theorem kM_3 : ∀ k, k ≤ 4 → (nI (kM k) = 3 ↔ k = 2) := by decide
theorem kM_4 : ∀ k, k ≤ 4 → (nI (kM k) = 4 ↔ k = 3) := by decide
theorem kM_2 : ∀ k, k ≤ 4 → (nI (kM k) = 2 ↔ k = 1) := by decide
theorem kM_0 : ∀ k, k ≤ 4 → (nI (kM k) = 0 ↔ k = 0) := by decide
theorem kC_2 : ∀ k, k ≤ 4 → (nI k = 2 ↔ k = 2) := by decide
theorem kC_3 : ∀ k, k ≤ 4 → (nI k = 3 ↔ k = 3) := by decide
theorem kC_1 : ∀ k, k ≤ 4 → (nI k = 1 ↔ k = 1) := by decide
theorem kC_0 : ∀ k, k ≤ 4 → (nI k = 0 ↔ k = 0) := by decide
section NUM
variable {fu L i a b k v : Nat} {w : Int64} {tape mt : FN} {cf cp mf mp : Int32}
theorem Ff_mono (F : Ff a cf cp mf mp) (h : a ≤ b) : Ff b cf cp mf mp := by
  rcases F with F | ⟨f, pl, h1, h2, h3, h4, h5, h6⟩
  · exact Or.inl F
  · exact Or.inr ⟨f, pl, h1, h2, h3, h4, h5, by omega⟩
theorem Ff_0 (F : Ff a cf cp mf mp) : cf = 0 ↔ mf = 0 := by
  rcases F with ⟨h1, h2, h3⟩ | ⟨f, pl, h1, h2, h3, h4, h5, h6⟩
  · exact ⟨fun _ => h2, fun _ => h1⟩
  · rw [h2, h3]
theorem Ff_note {g : Nat} (hg : g = 2 ∨ g = 3) (F : Ff a cf cp mf mp) (ha : a < 2 ^ 30) (hab : a < b) : ∃ cf' cp' mf' mp', f_X5_note fu cf cp (nI g) (nI a) = some (cf', cp') ∧ f_X12_later fu mf mp (nI g) (nI a) = some (mf', mp') ∧ Ff b cf' cp' mf' mp' ∧ ¬ cf' = 0 := by
  unfold f_X5_note f_X12_later
  rcases F with ⟨h1, h2, h3⟩ | ⟨f, pl, h1, h2, h3, h4, h5, h6⟩
  · rw [if_pos h1, if_pos h2]
    exact ⟨_, _, _, _, rfl, rfl, Or.inr ⟨g, a, hg, rfl, rfl, rfl, rfl, hab⟩, nI_ne0 (by omega) (by omega)⟩
  · have n0 : ¬ cf = 0 := by rw [h2]; exact nI_ne0 (by omega) (by omega)
    have n1 : ¬ mf = 0 := by rw [h3]; exact nI_ne0 (by omega) (by omega)
    rw [if_neg n0, if_neg n1, if_neg (by rw [h5]; exact nI_nlt (by omega) (by omega)), if_neg (by rw [h5]; intro z; have := (nI_eq (by omega) (by omega)).1 z; omega)]
    exact ⟨_, _, _, _, rfl, rfl, Or.inr ⟨f, pl, h1, h2, h3, h4, h5, by omega⟩, n0⟩
theorem tok_next (ht : ∀ i, i ≤ L → ∃ a b k v w, Tk fu tape mt L i a b k v w) (hi : i ≤ L) (bg0 so0 v0 : Int32) (w0 : Int64) : ∃ rc bg so vl wd, f_X12_token fu mt (nI i) (nI L) bg0 so0 v0 w0 = some (rc, bg, so, vl, wd) ∧ RTok fu tape mt L i rc bg so vl wd := by
  obtain ⟨a, b, k, v, w, T⟩ := ht i hi
  obtain ⟨vm, e1, e2⟩ := T.2.2.2.2.2.2.2.1 bg0 so0 v0 w0
  exact ⟨_, _, _, _, _, e1, a, b, k, v, w, T, rfl, rfl, rfl, e2, rfl⟩
/-- whether a number may be there -/
def okr (lo hi : Nat) (but : Int32) (v : Nat) : Prop := (lo ≤ v ∧ v ≤ hi) ∧ ¬ nI v = but
theorem in_r {lo hi : Nat} (hv : v < 2 ^ 31) (hl : lo < 2 ^ 31) (hh : hi < 2 ^ 31) : f_X12_in fu (nI v) (nI lo) (nI hi) = some (if lo ≤ v ∧ v ≤ hi then 1 else 0) := by
  unfold f_X12_in
  by_cases c1 : v < lo
  · rw [if_pos (nI_lt c1 hl), if_neg (fun z => by omega)]
  · rw [if_neg (nI_nlt (by omega) hv)]
    by_cases c2 : hi < v
    · rw [if_pos (nI_lt c2 hv), if_neg (fun z => by omega)]
    · rw [if_neg (nI_nlt (by omega) hh), if_pos ⟨by omega, by omega⟩]
theorem R_takeBut {idx lo hi : Nat} {but rc so vl wr gd : Int32} {wd : Int64} {rd : FN} (ht : ∀ i, i ≤ L → ∃ a b k v w, Tk fu tape mt L i a b k v w) (hL : L ≤ 600) (T : Tk fu tape mt L i a b k v w) (hrc : rc = nI b) (hso : so = nI (kM k)) (hvl : k = 2 → vl = nI v) (hidx : idx < 4) (hl : lo < 100) (hh : hi < 100) :
    (k ≠ 2 → f_X12_takeBut fu mt rc (nI L) (nI a) so vl wd wr mf mp rd gd (nI idx) (nI lo) (nI hi) but = some (0, rc, nI a, so, vl, wd, nI a, mf, mp, rd, gd)) ∧
    (k = 2 → ∃ rc' bg' so' vl' wd', RTok fu tape mt L b rc' bg' so' vl' wd' ∧ (okr lo hi but v → f_X12_takeBut fu mt rc (nI L) (nI a) so vl wd wr mf mp rd gd (nI idx) (nI lo) (nI hi) but = some (1, rc', bg', so', vl', wd', wr, mf, mp, upd rd idx (nI v), gd)) ∧ (¬ okr lo hi but v → ∀ mf' mp', f_X12_later fu mf mp 2 (nI a) = some (mf', mp') → f_X12_takeBut fu mt rc (nI L) (nI a) so vl wd wr mf mp rd gd (nI idx) (nI lo) (nI hi) but = some (1, rc', bg', so', vl', wd', wr, mf', mp', upd rd idx (nI v), 0))) := by
  obtain ⟨t1, t2, t3, t4, t5, t6, t7, t8, t9⟩ := T
  refine ⟨fun hk => ?_, fun hk => ?_⟩
  · unfold f_X12_takeBut
    rw [hso, if_neg (fun z => hk ((kM_3 k t4).1 z))]
    rfl
  · obtain ⟨rc', bg', so', vl', wd', e1, e2⟩ := tok_next (fu := fu) (i := b) ht t3 (nI a) so vl wd
    have hv := hvl hk
    refine ⟨rc', bg', so', vl', wd', e2, fun ho => ?_, fun ho mf' mp' el => ?_⟩
    · unfold f_X12_takeBut
      rw [hrc, e1, hso, if_pos ((kM_3 k t4).2 hk), hv, wri_n hidx (by decide), bnd_some, in_r (by omega) (by omega) (by omega), bnd_some, if_pos ho.1, if_neg i10, if_neg ho.2, bnd_some]
    · unfold f_X12_takeBut
      rw [hrc, e1, hso, if_pos ((kM_3 k t4).2 hk), hv, wri_n hidx (by decide), bnd_some, in_r (by omega) (by omega) (by omega), bnd_some, el]
      by_cases c : lo ≤ v ∧ v ≤ hi
      · rw [if_pos c, if_neg i10, if_pos (Classical.not_not.1 (fun z => ho ⟨c, z⟩)), bnd_some, bnd_some]
      · rw [if_neg c, if_pos i00, bnd_some, bnd_some]
/-- the class takes a number -/
theorem C_num {p0 d0 e0 q0 p1 x1 : Int32} {w0 u0 h0 o0 c0 l0 nums : FN} {wn idx : Nat} {st tk vl : Int32} (T : Tk fu tape mt L i a b k v w) (hidx : idx < wn) (hw : wn ≤ 3) :
    (k ≠ 2 → ∃ y, f_X5_readLine_L51 fu p0 w0 u0 h0 o0 d0 c0 e0 l0 tape (nI L) q0 p1 x1 (nI wn) (nI idx, cf, cp, nums, nI i, st, tk, vl) = some (.inr (.inl y)) ∧ y.2.2.2.2.2.2.2.2.2.1 = 1 ∧ y.2.2.2.2.2.2.2.2.2.2.1 = nI a) ∧
    (k = 2 → (f_X5_canBe fu (upd nums idx (nI v)) (nI v) p1 x1 (nI idx) = some 1 → f_X5_readLine_L51 fu p0 w0 u0 h0 o0 d0 c0 e0 l0 tape (nI L) q0 p1 x1 (nI wn) (nI idx, cf, cp, nums, nI i, st, tk, vl) = some (.inl (nI (idx + 1), cf, cp, upd nums idx (nI v), nI b, nI a, 2, nI v))) ∧ (f_X5_canBe fu (upd nums idx (nI v)) (nI v) p1 x1 (nI idx) = some 0 → ∀ cf' cp', f_X5_note fu cf cp 2 (nI a) = some (cf', cp') → f_X5_readLine_L51 fu p0 w0 u0 h0 o0 d0 c0 e0 l0 tape (nI L) q0 p1 x1 (nI wn) (nI idx, cf, cp, nums, nI i, st, tk, vl) = some (.inl (nI (idx + 1), cf', cp', upd nums idx (nI v), nI b, nI a, 2, nI v)))) := by
  obtain ⟨t1, t2, t3, t4, t5, t6, t7, t8, t9⟩ := T
  obtain ⟨vc, e1, e2⟩ := t7 st tk vl
  refine ⟨fun hk => ?_, fun hk => ⟨fun hc => ?_, fun hc cf' cp' hn => ?_⟩⟩
  · simp only [f_X5_readLine_L51]
    rw [if_neg (nI_ge hidx (by omega)), e1, bnd_some, if_neg (fun z => hk ((kC_2 k t4).1 z))]
    exact ⟨_, rfl, rfl, rfl⟩
  · simp only [f_X5_readLine_L51]
    rw [if_neg (nI_ge hidx (by omega)), e1, bnd_some, if_pos ((kC_2 k t4).2 hk), e2 hk, wri_n (show idx < 3 by omega) (by decide), bnd_some, hc, bnd_some, if_neg i10, nI_1, hk]
    rfl
  · simp only [f_X5_readLine_L51]
    rw [if_neg (nI_ge hidx (by omega)), e1, bnd_some, if_pos ((kC_2 k t4).2 hk), e2 hk, wri_n (show idx < 3 by omega) (by decide), bnd_some, hc, bnd_some, if_pos i00, hn, bnd_some, nI_1, hk]
    rfl
end NUM
