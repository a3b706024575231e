/-! ===== the pure side: words ===== -/
def ok {α : Type} (o : Option α) (P : α → Prop) : Prop := ∃ x, o = some x ∧ P x
theorem ok_some {α : Type} {x : α} {P : α → Prop} (h : P x) : ok (some x) P := ⟨x, rfl, h⟩
theorem ok_bnd {α β : Type} {o : Option α} {f : α → Option β} {P : β → Prop} (h : ok o (fun x => ok (f x) P)) : ok (bnd o f) P := by
  obtain ⟨x, hx, y, hy, hp⟩ := h
  exact ⟨y, by rw [hx]; exact hy, hp⟩
theorem ok_mono {α : Type} {o : Option α} {P Q : α → Prop} (h : ok o P) (hq : ∀ x, P x → Q x) : ok o Q := by
  obtain ⟨x, hx, hp⟩ := h
  exact ⟨x, hx, hq x hp⟩
theorem ok_eq {α : Type} {o : Option α} {v : α} {P : α → Prop} (h : o = some v) (hp : P v) : ok o P := ⟨v, h, hp⟩
theorem ok_ltn {α β : Type} {a : α} {f : α → Option β} {P : β → Prop} (h : ok (f a) P) : ok (ltn a f) P := h
theorem ok_ite {α : Type} {c : Prop} [Decidable c] {a b : Option α} {P : α → Prop} (h1 : c → ok a P) (h2 : ¬ c → ok b P) : ok (if c then a else b) P := by
  by_cases h : c
  · rw [if_pos h]; exact h1 h
  · rw [if_neg h]; exact h2 h
theorem ok_lp {σ ρ : Type} {step : σ → Option (σ ⊕ ρ)} {P : ρ → Prop} (I : σ → Prop) (μ : σ → Nat) (h : ∀ s, I s → ok (step s) (fun x => match x with
    | .inl s' => I s' ∧ μ s' < μ s
    | .inr r => P r)) : ∀ (n : Nat) (s : σ), I s → μ s < n → ok (lp step n s) P := by
  intro n
  induction n with
  | zero => intro s _ hs; exact absurd hs (Nat.not_lt_zero _)
  | succ n ih =>
    intro s hI hs
    obtain ⟨x, hx, hp⟩ := h s hI
    cases x with
    | inl s' =>
      obtain ⟨r, hr, hq⟩ := ih s' hp.1 (by have := hp.2; omega)
      exact ⟨r, by show bnd (step s) _ = _; rw [hx]; exact hr, hq⟩
    | inr r => exact ⟨r, by show bnd (step s) _ = _; rw [hx]; rfl, hp⟩
/-- g j, g (j + 1) .. k times -/
def fldN {α : Type} (g : Nat → α → α) : Nat → Nat → α → α
  | _, 0, a => a
  | j, k + 1, a => fldN g (j + 1) k (g j a)
theorem fldN_succ {α : Type} (g : Nat → α → α) : ∀ (k j : Nat) (a : α), fldN g j (k + 1) a = g (j + k) (fldN g j k a) := by
  intro k
  induction k with
  | zero => intro j a; rfl
  | succ k ih =>
    intro j a
    show fldN g (j + 1) (k + 1) (g j a) = _
    rw [ih (j + 1) (g j a)]
    show g (j + 1 + k) _ = g (j + (k + 1)) _
    rw [show j + 1 + k = j + (k + 1) by omega]
    rfl
theorem fldN_congr {α : Type} {g h : Nat → α → α} : ∀ (k j : Nat) (a : α), (∀ i b, j ≤ i → i < j + k → g i b = h i b) → fldN g j k a = fldN h j k a := by
  intro k
  induction k with
  | zero => intro j a _; rfl
  | succ k ih =>
    intro j a e
    show fldN g (j + 1) k (g j a) = fldN h (j + 1) k (h j a)
    rw [e j a (Nat.le_refl _) (by omega)]
    exact ih (j + 1) _ (fun i b h1 h2 => e i b (by omega) (by omega))
theorem lp_up {σ ρ α : Type} {step : σ → Option (σ ⊕ ρ)} (mk : Nat → α → σ) (g : Nat → α → α) (N : Nat) (ex : α → ρ) (P : Nat → α → Prop) (hs : ∀ j a, j < N → P j a → step (mk j a) = some (.inl (mk (j + 1) (g j a))) ∧ P (j + 1) (g j a)) (he : ∀ a, P N a → step (mk N a) = some (.inr (ex a))) :
    ∀ (k fu j : Nat) (a : α), j + k = N → k < fu → P j a → lp step fu (mk j a) = some (ex (fldN g j k a)) ∧ P N (fldN g j k a) := by
  intro k
  induction k with
  | zero =>
    intro fu j a hj hf hP
    have hj : j = N := by omega
    subst hj
    obtain ⟨f, rfl⟩ : ∃ f, fu = f + 1 := ⟨fu - 1, by omega⟩
    refine ⟨?_, hP⟩
    show bnd (step _) _ = _
    rw [he a hP]
    rfl
  | succ k ih =>
    intro fu j a hj hf hP
    obtain ⟨f, rfl⟩ : ∃ f, fu = f + 1 := ⟨fu - 1, by omega⟩
    obtain ⟨h1, h2⟩ := hs j a (by omega) hP
    have := ih f (j + 1) (g j a) (by omega) (by omega) h2
    refine ⟨?_, this.2⟩
    show bnd (step _) _ = _
    rw [h1]
    exact this.1
theorem lp_up0 {σ ρ α : Type} {step : σ → Option (σ ⊕ ρ)} (mk : Nat → α → σ) (g : Nat → α → α) (N : Nat) (ex : α → ρ) (hs : ∀ j a, j < N → step (mk j a) = some (.inl (mk (j + 1) (g j a)))) (he : ∀ a, step (mk N a) = some (.inr (ex a))) {fu : Nat} {a : α} (hf : N < fu) : lp step fu (mk 0 a) = some (ex (fldN g 0 N a)) :=
  (lp_up mk g N ex (fun _ _ => True) (fun j a h _ => ⟨hs j a h, trivial⟩) (fun a _ => he a) N fu 0 a (by omega) hf trivial).1
theorem bnd_r {α β : Type} {o : Option α} {v : α} {f : α → Option β} (h : o = some v) : bnd o f = f v := by rw [h]; rfl
theorem rdi_n {n k : Nat} {f : Nat → Int32} {v : Int32} (hk : k < n) (hn : n < 2 ^ 31) (hf : f k = v) : rdi n f (nI k) = some v := by
  unfold rdi
  rw [if_neg (nI_in hk hn), nI_clamp (by omega), hf]
theorem wri_n {n k : Nat} {f : Nat → Int32} {x : Int32} (hk : k < n) (hn : n < 2 ^ 31) : wri n f (nI k) x = some (upd f k x) := by
  unfold wri
  rw [if_neg (nI_in hk hn), nI_clamp (by omega)]
theorem fa_lt (a b : Int32) : a < b ↔ a.toInt < b.toInt := Int32.lt_iff_toInt_lt
theorem fa_le (a b : Int32) : a ≤ b ↔ a.toInt ≤ b.toInt := Int32.le_iff_toInt_le
theorem fa_eq (a b : Int32) : a = b ↔ a.toInt = b.toInt := Int32.toInt_inj.symm
theorem fa_and (a b : Nat) : nI a &&& nI b = nI (a &&& b) := by
  apply Int32.toBitVec_inj.1
  show BitVec.ofNat 32 a &&& BitVec.ofNat 32 b = BitVec.ofNat 32 (a &&& b)
  apply BitVec.eq_of_getLsbD_eq
  intro i hi
  simp [hi]
theorem fa_or (a b : Nat) : nI a ||| nI b = nI (a ||| b) := by
  apply Int32.toBitVec_inj.1
  show BitVec.ofNat 32 a ||| BitVec.ofNat 32 b = BitVec.ofNat 32 (a ||| b)
  apply BitVec.eq_of_getLsbD_eq
  intro i hi
  simp [hi]
theorem jshl_1 : ∀ j, j < 7 → jshl 1 (nI j) = nI (2 ^ j) := by decide
theorem jbit : ∀ a, a < 64 → ∀ p, p < 6 → (jshr (nI a) (nI p) &&& 1) = nI (a / 2 ^ p % 2) := by decide +kernel
theorem li_0 : (0 : Int32) = nI 0 := rfl
theorem li_1 : (1 : Int32) = nI 1 := rfl
theorem li_2 : (2 : Int32) = nI 2 := rfl
theorem li_3 : (3 : Int32) = nI 3 := rfl
theorem li_4 : (4 : Int32) = nI 4 := rfl
theorem li_5 : (5 : Int32) = nI 5 := rfl
theorem li_6 : (6 : Int32) = nI 6 := rfl
theorem li_7 : (7 : Int32) = nI 7 := rfl
theorem li_8 : (8 : Int32) = nI 8 := rfl
theorem li_9 : (9 : Int32) = nI 9 := rfl
theorem li_10 : (10 : Int32) = nI 10 := rfl
theorem li_12 : (12 : Int32) = nI 12 := rfl
theorem li_13 : (13 : Int32) = nI 13 := rfl
theorem li_16 : (16 : Int32) = nI 16 := rfl
theorem li_19 : (19 : Int32) = nI 19 := rfl
theorem li_20 : (20 : Int32) = nI 20 := rfl
theorem li_24 : (24 : Int32) = nI 24 := rfl
theorem li_25 : (25 : Int32) = nI 25 := rfl
theorem li_30 : (30 : Int32) = nI 30 := rfl
theorem li_32 : (32 : Int32) = nI 32 := rfl
theorem li_36 : (36 : Int32) = nI 36 := rfl
theorem li_40 : (40 : Int32) = nI 40 := rfl
theorem li_48 : (48 : Int32) = nI 48 := rfl
theorem li_50 : (50 : Int32) = nI 50 := rfl
theorem li_55 : (55 : Int32) = nI 55 := rfl
theorem li_57 : (57 : Int32) = nI 57 := rfl
theorem li_59 : (59 : Int32) = nI 59 := rfl
theorem li_60 : (60 : Int32) = nI 60 := rfl
theorem li_64 : (64 : Int32) = nI 64 := rfl
theorem li_97 : (97 : Int32) = nI 97 := rfl
theorem li_99 : (99 : Int32) = nI 99 := rfl
theorem li_100 : (100 : Int32) = nI 100 := rfl
theorem li_110 : (110 : Int32) = nI 110 := rfl
theorem li_122 : (122 : Int32) = nI 122 := rfl
theorem li_160 : (160 : Int32) = nI 160 := rfl
theorem li_161 : (161 : Int32) = nI 161 := rfl
theorem li_186 : (186 : Int32) = nI 186 := rfl
theorem li_192 : (192 : Int32) = nI 192 := rfl
theorem li_200 : (200 : Int32) = nI 200 := rfl
theorem li_255 : (255 : Int32) = nI 255 := rfl
theorem li_322 : (322 : Int32) = nI 322 := rfl
theorem li_384 : (384 : Int32) = nI 384 := rfl
theorem li_440 : (440 : Int32) = nI 440 := rfl
theorem li_448 : (448 : Int32) = nI 448 := rfl
theorem li_600 : (600 : Int32) = nI 600 := rfl
theorem li_729 : (729 : Int32) = nI 729 := rfl
theorem li_1288 : (1288 : Int32) = nI 1288 := rfl
theorem li_2400 : (2400 : Int32) = nI 2400 := rfl
theorem li_12345 : (12345 : Int32) = nI 12345 := rfl
theorem li_1000000 : (1000000 : Int32) = nI 1000000 := rfl
theorem li_1103515245 : (1103515245 : Int32) = nI 1103515245 := rfl
