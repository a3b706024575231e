/-! ===== the end of the numbers, three numbers, one too many ===== -/
section NU4
variable {fu L i a b : Nat} {tape mt : FN} {cf cp mf mp : Int32} {p0 d0 e0 q0 p1 x1 : Int32} {w0 u0 h0 o0 c0 l0 nums : FN} {wn kx : Nat} {st tk vl0 rc bg so vl wr gd : Int32} {wd : Int64} {rd : FN}
/-- once there is a fault, a later one changes nothing -/
theorem Ff_keep {g : Int32} (F : Ff a cf cp mf mp) (h : ¬ cf = 0) (ha : a < 2 ^ 30) (hb : a ≤ b) (hb2 : b < 2 ^ 30) : f_X5_note fu cf cp g (nI b) = some (cf, cp) ∧ f_X12_later fu mf mp g (nI b) = some (mf, mp) := by
  unfold f_X5_note f_X12_later
  rcases F with ⟨h1, h2, h3⟩ | ⟨f, pl, h1, h2, h3, h4, h5, h6⟩
  · exact absurd h1 h
  · have n1 : ¬ mf = 0 := by rw [h3]; exact nI_ne0 (by omega) (by omega)
    rw [if_neg h, if_neg n1, if_neg (by rw [h5]; exact nI_nlt (by omega) (by omega)), if_neg (by rw [h5]; intro z; have := (nI_eq (by omega) (by omega)).1 z; omega)]
    exact ⟨rfl, rfl⟩
/-- one line too many: both note it, or neither does -/
theorem J_full {told : FN} {n cap : Nat} {x3 : Int32} (F : Ff a cf cp mf mp) (ha : a < 2 ^ 30) (hab : a < b) (ht : told 0 = nI n) (hn : n ≤ cap) (hc : cap < 100) (hx : cf = 0 → (x3 = 0 ↔ n < cap)) :
    ∃ cf' cp' mf' mp', (if x3 = 0 then some (cf, cp) else bnd (f_X5_note fu cf cp 3 (nI a)) (fun x24 => some (x24.1, x24.2))) = some (cf', cp') ∧ f_X12_full fu mf mp told (nI cap) (nI a) = some (mf', mp') ∧ Ff b cf' cp' mf' mp' ∧ ((cf' = cf ∧ (cf = 0 → n < cap)) ∨ ¬ cf' = 0) := by
  unfold f_X12_full
  rw [show rdi 161 told 0 = some (nI n) from rdi_n (k := 0) (by decide) (by decide) ht, bnd_some]
  by_cases c0 : cf = 0
  · have hx := hx c0
    by_cases c : n < cap
    · rw [if_pos (hx.2 c), if_neg (fun z => by have := (nI_eq (by omega) (by omega)).1 z; omega)]
      exact ⟨_, _, _, _, rfl, rfl, Ff_mono F (by omega), Or.inl ⟨rfl, fun _ => c⟩⟩
    · obtain ⟨cf', cp', mf', mp', f1, f2, f3, f4⟩ := Ff_note (fu := fu) (g := 3) (a := a) (b := b) (Or.inr rfl) F ha hab
      have f1 : f_X5_note fu cf cp 3 (nI a) = some (cf', cp') := f1
      have f2 : f_X12_later fu mf mp 3 (nI a) = some (mf', mp') := f2
      rw [if_neg (fun z => c (hx.1 z)), if_pos (by rw [show n = cap by omega]), f1, f2, bnd_some, bnd_some]
      exact ⟨_, _, _, _, rfl, rfl, f3, Or.inr f4⟩
  · obtain ⟨k1, k2⟩ := Ff_keep (fu := fu) (g := 3) F c0 ha (Nat.le_refl a) ha
    rw [k1, k2, bnd_some, bnd_some]
    refine ⟨cf, cp, mf, mp, ?_, ?_, Ff_mono F (by omega), Or.inr c0⟩
    · by_cases z : x3 = 0
      · rw [if_pos z]
      · rw [if_neg z]
    · by_cases z : nI n = nI cap
      · rw [if_pos z]
      · rw [if_neg z]
/-- all numbers are there -/
theorem L51_end {n : Nat} (hn : 0 < n) : wn ≤ 3 → lp (f_X5_readLine_L51 fu p0 w0 u0 h0 o0 d0 c0 e0 l0 tape (nI L) q0 p1 x1 (nI wn)) n (nI wn, cf, cp, nums, nI i, st, tk, vl0) = some (.inr (cf, cp, nums, nI i, st, tk, vl0)) := by
  intro h
  refine lp_e ?_ hn
  simp only [f_X5_readLine_L51]
  rw [if_pos (nI_le (Nat.le_refl _) (by omega))]
/-- the third number (owes, lend, pay, forgive) -/
theorem J_third {lo : Nat} (ht : ∀ i, i ≤ L → ∃ a b k v w, Tk fu tape mt L i a b k v w) (hL : L ≤ 600) (hn : ¬ (p1 = 0 ∧ x1 = 0)) (R : RTok fu tape mt L i rc bg so vl wd) (F : Ff i cf cp mf mp) (hkx : kx < 4) (hlo : (p1 = 0 ∧ lo = 0) ∨ (¬ p1 = 0 ∧ lo = 1)) {n : Nat} (hf : 2 ≤ n) :
    (∃ a y, lp (f_X5_readLine_L51 fu p0 w0 u0 h0 o0 d0 c0 e0 l0 tape (nI L) q0 p1 x1 (nI 3)) n (nI 2, cf, cp, nums, nI i, st, tk, vl0) = some (.inl y) ∧ y.2.2.2.2.2.2.2.2.2.1 = 1 ∧ y.2.2.2.2.2.2.2.2.2.2.1 = nI a ∧ f_X12_take fu mt rc (nI L) bg so vl wd wr mf mp rd gd (nI kx) (nI lo) 30 = some (0, rc, bg, so, vl, wd, nI a, mf, mp, rd, gd)) ∨
    (∃ v b st' cf' cp' mf' mp' rc' bg' so' vl' wd' gd', v ≤ 99 ∧ i < b ∧ b ≤ L ∧ lp (f_X5_readLine_L51 fu p0 w0 u0 h0 o0 d0 c0 e0 l0 tape (nI L) q0 p1 x1 (nI 3)) n (nI 2, cf, cp, nums, nI i, st, tk, vl0) = some (.inr (cf', cp', upd nums 2 (nI v), nI b, st', 2, nI v)) ∧ f_X12_take fu mt rc (nI L) bg so vl wd wr mf mp rd gd (nI kx) (nI lo) 30 = some (1, rc', bg', so', vl', wd', wr, mf', mp', upd rd kx (nI v), gd') ∧ RTok fu tape mt L b rc' bg' so' vl' wd' ∧ Ff b cf' cp' mf' mp' ∧ ((lo ≤ v ∧ v ≤ 30 ∧ cf' = cf ∧ gd' = gd) ∨ (¬ cf' = 0 ∧ gd' = 0))) := by
  rcases NSj (fu := fu) (p0 := p0) (d0 := d0) (e0 := e0) (q0 := q0) (p1 := p1) (x1 := x1) (w0 := w0) (u0 := u0) (h0 := h0) (o0 := o0) (c0 := c0) (l0 := l0) (nums := nums) (wn := 3) (idx := 2) (kx := kx) (lo := lo) (hi := 30) (st := st) (tk := tk) (vl0 := vl0) (but := -1) (wr := wr) (gd := gd) (rd := rd) ht hL R F (by decide) (by decide) hkx (by omega) (by decide) (fun v hv => cb_2 hn hv hlo) with ⟨a, y, h1, h2, h3, h4⟩ | ⟨v, b, st', cf', cp', mf', mp', rc', bg', so', vl', wd', gd', h1, h2, h3, h4, h5, h6, h7, h8⟩
  · exact Or.inl ⟨a, y, lp_e h1 (by omega), h2, h3, take_of h4 (Or.inl rfl)⟩
  · refine Or.inr ⟨v, b, st', cf', cp', mf', mp', rc', bg', so', vl', wd', gd', h1, h2, h3, (lp_s h4 (by omega)).trans (L51_end (by omega) (by decide)), take_of h5 (Or.inr rfl), h6, h7, ?_⟩
    rcases h8 with ⟨z1, z2, z3⟩ | z
    · exact Or.inl ⟨z1.1.1, z1.1.2, z2, z3⟩
    · exact Or.inr z
/-- the two numbers of a person -/
theorem J_person {idx hi : Nat} (ht : ∀ i, i ≤ L → ∃ a b k v w, Tk fu tape mt L i a b k v w) (hL : L ≤ 600) (R : RTok fu tape mt L i rc bg so vl wd) (F : Ff i cf cp mf mp) (hh : (idx = 0 ∧ hi = 9) ∨ (idx = 1 ∧ hi = 99)) {n : Nat} (hf : 0 < n) :
    (∃ a y, lp (f_X5_readLine_L51 fu p0 w0 u0 h0 o0 d0 c0 e0 l0 tape (nI L) q0 0 0 (nI 2)) n (nI idx, cf, cp, nums, nI i, st, tk, vl0) = some (.inl y) ∧ y.2.2.2.2.2.2.2.2.2.1 = 1 ∧ y.2.2.2.2.2.2.2.2.2.2.1 = nI a ∧ f_X12_take fu mt rc (nI L) bg so vl wd wr mf mp rd gd (nI idx) 0 (nI hi) = some (0, rc, bg, so, vl, wd, nI a, mf, mp, rd, gd)) ∨
    (∃ v b st' cf' cp' mf' mp' rc' bg' so' vl' wd' gd', v ≤ 99 ∧ i < b ∧ b ≤ L ∧ lp (f_X5_readLine_L51 fu p0 w0 u0 h0 o0 d0 c0 e0 l0 tape (nI L) q0 0 0 (nI 2)) n (nI idx, cf, cp, nums, nI i, st, tk, vl0) = lp (f_X5_readLine_L51 fu p0 w0 u0 h0 o0 d0 c0 e0 l0 tape (nI L) q0 0 0 (nI 2)) (n - 1) (nI (idx + 1), cf', cp', upd nums idx (nI v), nI b, st', 2, nI v) ∧ f_X12_take fu mt rc (nI L) bg so vl wd wr mf mp rd gd (nI idx) 0 (nI hi) = some (1, rc', bg', so', vl', wd', wr, mf', mp', upd rd idx (nI v), gd') ∧ RTok fu tape mt L b rc' bg' so' vl' wd' ∧ Ff b cf' cp' mf' mp' ∧ ((v ≤ hi ∧ cf' = cf ∧ gd' = gd) ∨ (¬ cf' = 0 ∧ gd' = 0))) := by
  rcases NSj (fu := fu) (p0 := p0) (d0 := d0) (e0 := e0) (q0 := q0) (p1 := 0) (x1 := 0) (w0 := w0) (u0 := u0) (h0 := h0) (o0 := o0) (c0 := c0) (l0 := l0) (nums := nums) (wn := 2) (idx := idx) (kx := idx) (lo := 0) (hi := hi) (st := st) (tk := tk) (vl0 := vl0) (but := -1) (wr := wr) (gd := gd) (rd := rd) ht hL R F (by omega) (by decide) (by omega) (by omega) (by omega) (fun v hv => by
      rcases hh with ⟨rfl, rfl⟩ | ⟨rfl, rfl⟩
      · exact cb_p0 hv
      · exact cb_p1 hv) with ⟨a, y, h1, h2, h3, h4⟩ | ⟨v, b, st', cf', cp', mf', mp', rc', bg', so', vl', wd', gd', h1, h2, h3, h4, h5, h6, h7, h8⟩
  · exact Or.inl ⟨a, y, lp_e h1 hf, h2, h3, take_of h4 (Or.inl rfl)⟩
  · refine Or.inr ⟨v, b, st', cf', cp', mf', mp', rc', bg', so', vl', wd', gd', h1, h2, h3, lp_s h4 hf, take_of h5 (Or.inr rfl), h6, h7, ?_⟩
    rcases h8 with ⟨z1, z2, z3⟩ | z
    · exact Or.inl ⟨z1.1.2, z2, z3⟩
    · exact Or.inr z
end NU4
