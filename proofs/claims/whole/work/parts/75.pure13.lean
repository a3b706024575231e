/-! ===== counting loops with what holds; the greatest; the first ===== -/
theorem ok_up {σ ρ : Type} {step : σ → Option (σ ⊕ ρ)} {P : ρ → Prop} (N : Nat) (I : Nat → σ → Prop) (hs : ∀ j s, j < N → I j s → ok (step s) (fun x => match x with
    | .inl s' => I (j + 1) s'
    | .inr r => P r)) (he : ∀ s, I N s → ok (step s) (fun x => match x with
    | .inl _ => False
    | .inr r => P r)) : ∀ (k fu j : Nat) (s : σ), j + k = N → k < fu → I j s → ok (lp step fu s) P := by
  intro k
  induction k with
  | zero =>
    intro fu j s hj hf hI
    have hj : j = N := by omega
    subst hj
    obtain ⟨f, rfl⟩ : ∃ f, fu = f + 1 := ⟨fu - 1, by omega⟩
    obtain ⟨x, hx, hp⟩ := he s hI
    cases x with
    | inl s' => exact False.elim hp
    | inr r => exact ⟨r, by show bnd (step s) _ = _; rw [hx]; rfl, hp⟩
  | succ k ih =>
    intro fu j s hj hf hI
    obtain ⟨f, rfl⟩ : ∃ f, fu = f + 1 := ⟨fu - 1, by omega⟩
    obtain ⟨x, hx, hp⟩ := hs j s (by omega) hI
    cases x with
    | inl s' =>
      obtain ⟨r, hr, hq⟩ := ih f (j + 1) s' (by omega) (by omega) hp
      exact ⟨r, by show bnd (step s) _ = _; rw [hx]; exact hr, hq⟩
    | inr r => exact ⟨r, by show bnd (step s) _ = _; rw [hx]; rfl, hp⟩
theorem lp_to {ρ : Type} {step : Int32 → Option (Int32 ⊕ ρ)} {r : ρ} {fu : Nat} (b : Nat) (hs : ∀ i, i < b → step (nI i) = some (.inl (nI (i + 1)))) (he : step (nI b) = some (.inr r)) (hf : b < fu) : lp step fu (nI 0) = some r :=
  lp_up0 (α := Unit) (fun j _ => nI j) (fun _ a => a) b (fun _ => r) (fun j _ h => hs j h) (fun _ => he) (a := ()) hf
theorem am1 (x : Int32) : x + (-1) = x - 1 := (Int32.sub_eq_add_neg x 1).symm
def mx (c : Nat → Bool) (f : Nat → Nat) (n x : Nat) : Nat := fldN (fun b x => if c b = true then max x (f b) else x) 0 n x
section MX
variable {c : Nat → Bool} {f : Nat → Nat} {x B : Nat}
theorem mx_succ (n : Nat) : mx c f (n + 1) x = if c n = true then max (mx c f n x) (f n) else mx c f n x := by
  unfold mx
  rw [fldN_succ, Nat.zero_add]
theorem mx_init : ∀ n, x ≤ mx c f n x := by
  intro n
  induction n with
  | zero => exact Nat.le_refl _
  | succ n ih =>
    rw [mx_succ]
    split
    · exact Nat.le_trans ih (Nat.le_max_left _ _)
    · exact ih
theorem mx_ge : ∀ n b, b < n → c b = true → f b ≤ mx c f n x := by
  intro n
  induction n with
  | zero => intro b hb _; exact absurd hb (Nat.not_lt_zero _)
  | succ n ih =>
    intro b hb hc
    rw [mx_succ]
    by_cases e : b = n
    · subst e
      rw [if_pos hc]
      exact Nat.le_max_right _ _
    · have := ih b (by omega) hc
      split
      · exact Nat.le_trans this (Nat.le_max_left _ _)
      · exact this
theorem mx_le : ∀ n, x ≤ B → (∀ b, b < n → c b = true → f b ≤ B) → mx c f n x ≤ B := by
  intro n
  induction n with
  | zero => intro h _; exact h
  | succ n ih =>
    intro h hb
    have := ih h (fun b q hc => hb b (by omega) hc)
    rw [mx_succ]
    split
    · rename_i hc
      exact Nat.max_le.2 ⟨this, hb n (by omega) hc⟩
    · exact this
theorem mx_at : ∀ n, mx c f n x = x ∨ ∃ b, b < n ∧ c b = true ∧ mx c f n x = f b := by
  intro n
  induction n with
  | zero => exact Or.inl rfl
  | succ n ih =>
    have key : mx c f n x = x ∨ ∃ b, b < n + 1 ∧ c b = true ∧ mx c f n x = f b := by
      rcases ih with h | ⟨b, h1, h2, h3⟩
      · exact Or.inl h
      · exact Or.inr ⟨b, by omega, h2, h3⟩
    rw [mx_succ]
    by_cases hc : c n = true
    · rw [if_pos hc]
      rcases Nat.le_total (f n) (mx c f n x) with q | q
      · rw [Nat.max_eq_left q]; exact key
      · rw [Nat.max_eq_right q]; exact Or.inr ⟨n, by omega, hc, rfl⟩
    · rw [if_neg hc]; exact key
end MX
/-- the first of j .. j + k - 1 that is so, else d -/
def fr (c : Nat → Bool) (d : Nat) : Nat → Nat → Nat
  | 0, _ => d
  | k + 1, j => if c j = true then j else fr c d k (j + 1)
theorem fr_p {c : Nat → Bool} {d : Nat} : ∀ k j, (∃ b, j ≤ b ∧ b < j + k ∧ c b = true ∧ (∀ i, j ≤ i → i < b → ¬ c i = true) ∧ fr c d k j = b) ∨ ((∀ i, j ≤ i → i < j + k → ¬ c i = true) ∧ fr c d k j = d) := by
  intro k
  induction k with
  | zero => intro j; exact Or.inr ⟨fun i h1 h2 => by omega, rfl⟩
  | succ k ih =>
    intro j
    show (∃ b, j ≤ b ∧ b < j + (k + 1) ∧ c b = true ∧ (∀ i, j ≤ i → i < b → ¬ c i = true) ∧ (if c j = true then j else fr c d k (j + 1)) = b) ∨ ((∀ i, j ≤ i → i < j + (k + 1) → ¬ c i = true) ∧ (if c j = true then j else fr c d k (j + 1)) = d)
    by_cases hc : c j = true
    · rw [if_pos hc]
      exact Or.inl ⟨j, Nat.le_refl _, by omega, hc, fun i h1 h2 => by omega, rfl⟩
    · rw [if_neg hc]
      rcases ih (j + 1) with ⟨b, h1, h2, h3, h4, h5⟩ | ⟨h1, h2⟩
      · refine Or.inl ⟨b, by omega, by omega, h3, fun i q1 q2 => ?_, h5⟩
        by_cases e : i = j
        · rw [e]; exact hc
        · exact h4 i (by omega) q2
      · refine Or.inr ⟨fun i q1 q2 => ?_, h2⟩
        by_cases e : i = j
        · rw [e]; exact hc
        · exact h1 i (by omega) (by omega)
theorem fr_lt {c : Nat → Bool} {d n : Nat} (h : fr c d n 0 ≠ d) : fr c d n 0 < n := by
  rcases fr_p (c := c) (d := d) n 0 with ⟨b, h1, h2, h3, h4, h5⟩ | ⟨h1, h2⟩
  · omega
  · exact absurd h2 h
theorem jmax_far {x : Nat} (h : x < 2 ^ 31) : jmax (nI x) (-1000000) = nI x := by
  unfold jmax
  rw [if_neg]
  rw [fa_lt, nI_toInt h]
  have : (-1000000 : Int32).toInt = -1000000 := by decide
  omega
theorem far_ne {x : Nat} (h : x < 2 ^ 31) : ¬ (-1000000 : Int32) = nI x := by
  rw [fa_eq, nI_toInt h]
  have : (-1000000 : Int32).toInt = -1000000 := by decide
  omega
theorem jshl_1' {n : Nat} (h : n ≤ 6) : jshl 1 (nI n) = nI (2 ^ n) := jshl_1 n (by omega)
theorem pw64 {n : Nat} (h : n ≤ 6) : 2 ^ n ≤ 64 := Nat.pow_le_pow_right (n := 2) (by decide) h
/-! ===== lenders ===== -/
def cpV (w pu : Nat → Nat) (a b : Nat) : Nat := if pu a ≤ pu b then 0 else w b
def mayL (a had b : Nat) : Bool := b != a && bi had b == 0
theorem mayL_t {a had b : Nat} : mayL a had b = true ↔ b ≠ a ∧ bi had b = 0 := by simp [mayL]
def Lk (n : Nat) (w pu : Nat → Nat) : Nat → Nat → Nat
  | 0, _ => 0
  | k + 1, had => mx (mayL (n - (k + 1)) had) (fun b => cpV w pu (n - (k + 1)) b + Lk n w pu k (had ||| 2 ^ b)) n (Lk n w pu k had)
section LND
variable {fu n t a b had k : Nat} {w pu h o : Nat → Nat} {wi pr tb M : FN}
theorem cpV_le (hw : ∀ i, i < 6 → w i ≤ 9) (hb : b < 6) : cpV w pu a b ≤ 9 := by
  unfold cpV
  have := hw b hb
  split <;> omega
theorem Lk_le (hw : ∀ i, i < 6 → w i ≤ 9) (hn : n ≤ 6) : ∀ k had, Lk n w pu k had ≤ 9 * k := by
  intro k
  induction k with
  | zero => intro had; exact Nat.le_refl _
  | succ k ih =>
    intro had
    have h0 := ih had
    show mx (mayL (n - (k + 1)) had) (fun b => cpV w pu (n - (k + 1)) b + Lk n w pu k (had ||| 2 ^ b)) n (Lk n w pu k had) ≤ 9 * (k + 1)
    refine mx_le n (by omega) (fun b hb _ => ?_)
    have h1 := ih (had ||| 2 ^ b)
    have h2 := cpV_le (pu := pu) (a := n - (k + 1)) hw (show b < 6 by omega)
    show cpV w pu (n - (k + 1)) b + Lk n w pu k (had ||| 2 ^ b) ≤ _
    omega
theorem Lk_s (ha : a < n) : Lk n w pu (n - a) had = mx (mayL a had) (fun b => cpV w pu a b + Lk n w pu (n - (a + 1)) (had ||| 2 ^ b)) n (Lk n w pu (n - (a + 1)) had) := by
  obtain ⟨k, hk⟩ : ∃ k, n - a = k + 1 := ⟨n - a - 1, by omega⟩
  have h1 : n - (a + 1) = k := by omega
  have h2 : n - (k + 1) = a := by omega
  rw [hk, h1]
  simp only [Lk, h2]
theorem Lk_100 (hw : ∀ i, i < 6 → w i ≤ 9) (hn : n ≤ 6) : Lk n w pu (n - a) had ≤ 54 := by
  have := Lk_le (pu := pu) hw hn (n - a) had
  omega
theorem e_X4_worthWith {v : Nat} (hwi : ∀ i, i < n → wi i = nI (w i)) (hpr : ∀ i, i < n → pr i = nI (pu i)) (hp : ∀ i, i < 6 → pu i ≤ 99) (hn : n ≤ 6) (ha : a < n) (hb : b < n) (hh : had < 64) (hT : tb (64 * (a + 1) + (had ||| 2 ^ b)) = nI v) : f_X4_worthWith fu tb wi pr (nI a) (nI b) (nI had) = some (nI (cpV w pu a b + v)) := by
  have h1 := hp a (by omega)
  have h2 := hp b (by omega)
  have h3 : had ||| 2 ^ b < 2 ^ 6 := or_pow (n := 6) hh (pw_lt (by omega))
  simp only [f_X4_worthWith, rdi_n (show a < 6 by omega) (by decide) (hpr a ha), rdi_n (show b < 6 by omega) (by decide) (hpr b hb), rdi_n (show b < 6 by omega) (by decide) (hwi b hb), bnd_some, jshl_1 b (by omega), fa_or, nI_1, li_64, pk_mul, nI_add, rdi_n (show 64 * (a + 1) + (had ||| 2 ^ b) < 448 by omega) (by decide) hT]
  unfold cpV
  by_cases q : pu a ≤ pu b
  · rw [if_pos (nI_le q (by omega)), if_pos q, bnd_some, show (0 : Int32) = nI 0 from rfl, nI_add]
  · rw [if_neg (nI_ge (by omega) (by omega)), if_neg q, bnd_some, nI_add]
theorem e_X4_mostWorth (hwi : ∀ i, i < n → wi i = nI (w i)) (hpr : ∀ i, i < n → pr i = nI (pu i)) (hw : ∀ i, i < 6 → w i ≤ 9) (hp : ∀ i, i < 6 → pu i ≤ 99) (hn : n ≤ 6) (ha : a < n) (hh : had < 2 ^ n) (hT : ∀ s, s < 2 ^ n → tb (64 * (a + 1) + s) = nI (Lk n w pu (n - (a + 1)) s)) (hf : 100 ≤ fu) : f_X4_mostWorth fu tb (nI n) wi pr (nI a) (nI had) = some (nI (Lk n w pu (n - a) had)) := by
  have h64 := pw64 hn
  have h0 := Lk_100 (pu := pu) (a := a + 1) (had := had) hw hn
  have key := (lp_up (step := f_X4_mostWorth_L18 fu tb (nI n) wi pr (nI a) (nI had)) (fun j x => (nI x, nI j)) (fun j x => if mayL a had j = true then max x (cpV w pu a j + Lk n w pu (n - (a + 1)) (had ||| 2 ^ j)) else x) n (fun x => nI x) (fun _ x => x ≤ 100) (fun j x hj hx => by
    have b1 := Lk_100 (pu := pu) (a := a + 1) (had := had ||| 2 ^ j) hw hn
    have b2 := cpV_le (pu := pu) (a := a) hw (show j < 6 by omega)
    have b3 := bi_lt had j
    have e1 := e_X4_worthWith (fu := fu) hwi hpr hp hn ha hj (show had < 64 by omega) (hT (had ||| 2 ^ j) (or_pow hh (pw_lt hj)))
    have m1 : max x (cpV w pu a j + Lk n w pu (n - (a + 1)) (had ||| 2 ^ j)) ≤ 100 := Nat.max_le.2 ⟨hx, by omega⟩
    refine ⟨?_, ?_⟩
    · simp only [f_X4_mostWorth_L18, if_neg (nI_ge hj (by omega : n < 2 ^ 31)), nI_eq (show j < 2 ^ 31 by omega) (show a < 2 ^ 31 by omega), jbi (show had < 64 by omega) (show j < 6 by omega), nI_eq0 (show bi had j < 2 ^ 31 by omega), e1, bnd_some, ltn, jmax_n (show x < 2 ^ 31 by omega) (show cpV w pu a j + Lk n w pu (n - (a + 1)) (had ||| 2 ^ j) < 2 ^ 31 by omega), nI_1]
      by_cases q : j = a
      · rw [if_pos q, if_neg (fun z => (mayL_t.1 z).1 q)]
      · rw [if_neg q]
        by_cases q2 : bi had j = 0
        · rw [if_pos q2, if_pos (mayL_t.2 ⟨q, q2⟩)]
        · rw [if_neg q2, if_neg (fun z => q2 (mayL_t.1 z).2)]
    · show (if mayL a had j = true then max x (cpV w pu a j + Lk n w pu (n - (a + 1)) (had ||| 2 ^ j)) else x) ≤ 100
      split
      · exact m1
      · exact hx) (fun x _ => by
    simp only [f_X4_mostWorth_L18, if_pos (nI_le (Nat.le_refl n) (by omega : n < 2 ^ 31))]) n fu 0 (Lk n w pu (n - (a + 1)) had) (by omega) (by omega) (by omega)).1
  simp only [f_X4_mostWorth, nI_1, li_64, pk_mul, nI_add]
  rw [rdi_n (show 64 * (a + 1) + had < 448 by omega) (by decide) (hT had hh), bnd_some, Lk_s ha]
  exact bnd_r key
theorem ok_X4_row {s4 : Int32 × FN} (hs4 : s4.1 = nI a) (hwi : ∀ i, i < n → wi i = nI (w i)) (hpr : ∀ i, i < n → pr i = nI (pu i)) (hw : ∀ i, i < 6 → w i ≤ 9) (hp : ∀ i, i < 6 → pu i ≤ 99) (hn : n ≤ 6) (ha : a < n) (hT : ∀ s, s < 2 ^ n → tb (64 * (a + 1) + s) = nI (Lk n w pu (n - (a + 1)) s)) (hf : 100 ≤ fu) : ok (lp (f_X4_bestLending_L22 fu (nI n) wi pr s4) fu ((0 : Int32), tb)) (fun T => (∀ s, s < 2 ^ n → T (64 * a + s) = nI (Lk n w pu (n - a) s)) ∧ ∀ i, 64 * (a + 1) ≤ i → T i = tb i) := by
  have h64 := pw64 hn
  refine ok_up (2 ^ n) (fun j s => s.1 = nI j ∧ (∀ q, q < j → s.2 (64 * a + q) = nI (Lk n w pu (n - a) q)) ∧ ∀ i, 64 * (a + 1) ≤ i → s.2 i = tb i) ?_ ?_ (2 ^ n) fu 0 _ (by omega) (by omega) ⟨rfl, fun q h => absurd h (by omega), fun _ _ => rfl⟩
  · rintro j ⟨c, T⟩ hj ⟨rfl, h1, h2⟩
    simp only [f_X4_bestLending_L22, jshl_1' hn, if_neg (nI_ge hj (by omega : 2 ^ n < 2 ^ 31)), hs4]
    refine ok_bnd (ok_eq (e_X4_mostWorth hwi hpr hw hp hn ha hj (fun s hs => (h2 _ (by omega)).trans (hT s hs)) hf) ?_)
    rw [show (64 : Int32) = nI 64 from rfl, pk_mul, nI_add, wri_n (show 64 * a + j < 448 by omega) (by decide), bnd_some]
    refine ok_some ⟨nI_1 j, fun q hq => ?_, fun i hi => ?_⟩
    · by_cases e : q = j
      · rw [e]; exact pk_us
      · exact (pk_un (by omega)).trans (h1 q (by omega))
    · exact (pk_un (by omega)).trans (h2 i hi)
  · rintro ⟨c, T⟩ ⟨rfl, h1, h2⟩
    simp only [f_X4_bestLending_L22, jshl_1' hn, if_pos (nI_le (Nat.le_refl (2 ^ n)) (by omega : 2 ^ n < 2 ^ 31))]
    exact ok_some ⟨h1, h2⟩
theorem ok_X4_table (hwi : ∀ i, i < n → wi i = nI (w i)) (hpr : ∀ i, i < n → pr i = nI (pu i)) (hw : ∀ i, i < 6 → w i ≤ 9) (hp : ∀ i, i < 6 → pu i ≤ 99) (hn : n ≤ 6) (h0 : ∀ i, i < 448 → tb i = 0) (hf : 100 ≤ fu) : ok (lp (f_X4_bestLending_L15 fu (nI n) wi pr) fu (nI n - 1, tb)) (fun T => ∀ a, a ≤ n → ∀ s, s < 2 ^ n → T (64 * a + s) = nI (Lk n w pu (n - a) s)) := by
  have h64 := pw64 hn
  refine ok_up n (fun j s => s.1 = nI (n - j) - 1 ∧ ∀ a, n - j ≤ a → a ≤ n → ∀ q, q < 2 ^ n → s.2 (64 * a + q) = nI (Lk n w pu (n - a) q)) ?_ ?_ n fu 0 _ (by omega) (by omega) ⟨rfl, ?_⟩
  · rintro j ⟨c, T⟩ hj ⟨rfl, h1⟩
    obtain ⟨a, ha⟩ : ∃ a, n - j = a + 1 := ⟨n - j - 1, by omega⟩
    have e1 : nI (n - j) - 1 = nI a := by rw [ha]; exact nI_pred a
    have h1 : ∀ a, n - j ≤ a → a ≤ n → ∀ q, q < 2 ^ n → T (64 * a + q) = nI (Lk n w pu (n - a) q) := h1
    simp only [f_X4_bestLending_L15]
    rw [if_neg (by rw [e1]; exact nI_pos (by omega))]
    refine ok_bnd (ok_mono (ok_X4_row (a := a) e1 hwi hpr hw hp hn (by omega) (fun s hs => h1 (a + 1) (by omega) (by omega) s hs) hf) ?_)
    rintro T2 ⟨g1, g2⟩
    refine ok_some ⟨?_, ?_⟩
    · show nI (n - j) - 1 + (-1) = nI (n - (j + 1)) - 1
      rw [e1, show n - (j + 1) = a by omega, am1]
    · intro a' h1' h2' q hq
      by_cases e : a' = a
      · rw [e]; exact g1 q hq
      · exact (g2 _ (by omega)).trans (h1 a' (by omega) h2' q hq)
  · rintro ⟨c, T⟩ ⟨rfl, h1⟩
    simp only [f_X4_bestLending_L15, Nat.sub_self]
    rw [if_pos (by decide)]
    exact ok_some (fun a ha q hq => h1 a (by omega) ha q hq)
  · intro a h1 h2 q hq
    show tb (64 * a + q) = _
    rw [show a = n by omega, h0 _ (by omega), Nat.sub_self]
    rfl
/-- to whom he lends -/
def isBw (n : Nat) (w pu : Nat → Nat) (a had b : Nat) : Bool := mayL a had b && (cpV w pu a b + Lk n w pu (n - (a + 1)) (had ||| 2 ^ b) == Lk n w pu (n - a) had)
def fb (n : Nat) (w pu : Nat → Nat) (a had : Nat) : Nat := fr (isBw n w pu a had) 6 n 0
theorem isBw_t : isBw n w pu a had b = true ↔ (b ≠ a ∧ bi had b = 0) ∧ cpV w pu a b + Lk n w pu (n - (a + 1)) (had ||| 2 ^ b) = Lk n w pu (n - a) had := by
  unfold isBw
  rw [Bool.and_eq_true, mayL_t, beq_iff_eq]
theorem e_X4_firstBorrower (hwi : ∀ i, i < n → wi i = nI (w i)) (hpr : ∀ i, i < n → pr i = nI (pu i)) (hw : ∀ i, i < 6 → w i ≤ 9) (hp : ∀ i, i < 6 → pu i ≤ 99) (hn : n ≤ 6) (ha : a < n) (hh : had < 2 ^ n) (hT : ∀ a, a ≤ n → ∀ s, s < 2 ^ n → tb (64 * a + s) = nI (Lk n w pu (n - a) s)) (hf : 100 ≤ fu) : f_X4_firstBorrower fu tb (nI n) wi pr (nI a) (nI had) = some (nI (fb n w pu a had)) := by
  have h64 := pw64 hn
  have h0 := Lk_100 (pu := pu) (a := a) (had := had) hw hn
  have est : ∀ i, i < n → f_X4_firstBorrower_L16 fu tb (nI n) wi pr (nI a) (nI had) (nI (Lk n w pu (n - a) had)) (nI i) = if isBw n w pu a had i = true then some (.inr (.inl (nI i))) else some (.inl (nI (i + 1))) := by
    intro i hi
    have b1 := Lk_100 (pu := pu) (a := a + 1) (had := had ||| 2 ^ i) hw hn
    have b2 := cpV_le (pu := pu) (a := a) hw (show i < 6 by omega)
    have b3 := bi_lt had i
    have e1 := e_X4_worthWith (fu := fu) hwi hpr hp hn ha hi (show had < 64 by omega) (hT (a + 1) (by omega) (had ||| 2 ^ i) (or_pow hh (pw_lt hi)))
    simp only [f_X4_firstBorrower_L16, if_neg (nI_ge hi (by omega : n < 2 ^ 31)), nI_eq (show i < 2 ^ 31 by omega) (show a < 2 ^ 31 by omega), jbi (show had < 64 by omega) (show i < 6 by omega), nI_eq0 (show bi had i < 2 ^ 31 by omega), e1, bnd_some, nI_eq (show cpV w pu a i + Lk n w pu (n - (a + 1)) (had ||| 2 ^ i) < 2 ^ 31 by omega) (show Lk n w pu (n - a) had < 2 ^ 31 by omega), nI_1, isBw_t]
    by_cases q : i = a
    · rw [if_pos q, if_neg (fun z => z.1.1 q)]
    · rw [if_neg q]
      by_cases q2 : bi had i = 0
      · rw [if_pos q2]
        by_cases q3 : cpV w pu a i + Lk n w pu (n - (a + 1)) (had ||| 2 ^ i) = Lk n w pu (n - a) had
        · rw [if_pos q3, if_pos ⟨⟨q, q2⟩, q3⟩]
        · rw [if_neg q3, if_neg (fun z => q3 z.2)]
      · rw [if_neg q2, if_neg (fun z => q2 z.1.2)]
  simp only [f_X4_firstBorrower, li_64, pk_mul, nI_add]
  rw [rdi_n (show 64 * a + had < 448 by omega) (by decide) (hT a (by omega) had hh), bnd_some]
  unfold fb
  rcases fr_p (c := isBw n w pu a had) (d := 6) n 0 with ⟨b, h1, h2, h3, h4, h5⟩ | ⟨h1, h2⟩
  · rw [h5]
    have key := lp_to (fu := fu) (step := f_X4_firstBorrower_L16 fu tb (nI n) wi pr (nI a) (nI had) (nI (Lk n w pu (n - a) had))) (r := .inl (nI b)) b (fun i hi => by rw [est i (by omega), if_neg (h4 i (by omega) hi)]) (by rw [est b (by omega), if_pos h3]) (by omega)
    exact bnd_r key
  · rw [h2]
    have key := lp_to (fu := fu) (step := f_X4_firstBorrower_L16 fu tb (nI n) wi pr (nI a) (nI had) (nI (Lk n w pu (n - a) had))) (r := .inr ()) n (fun i hi => by rw [est i (by omega), if_neg (h1 i (by omega) (by omega))]) (by simp only [f_X4_firstBorrower_L16, if_pos (nI_le (Nat.le_refl n) (by omega : n < 2 ^ 31))]) (by omega)
    exact bnd_r key
def gL (n : Nat) (w pu : Nat → Nat) (j : Nat) (x : Nat × Nat) : Nat × Nat := (if fb n w pu j x.1 = 6 then x.1 else x.1 ||| 2 ^ fb n w pu j x.1, fb n w pu j x.1)
theorem fb_lt (h : fb n w pu a had ≠ 6) : fb n w pu a had < n := fr_lt h
theorem fb_7 (hn : n ≤ 6) : fb n w pu a had ≤ 6 := by
  by_cases e : fb n w pu a had = 6
  · omega
  · have := fb_lt e; omega
theorem gL_lt {j : Nat} {x : Nat × Nat} (hx : x.1 < 2 ^ n) : (gL n w pu j x).1 < 2 ^ n := by
  show (if fb n w pu j x.1 = 6 then x.1 else x.1 ||| 2 ^ fb n w pu j x.1) < 2 ^ n
  split
  · exact hx
  · rename_i q
    exact or_pow hx (pw_lt (fb_lt q))
theorem ok_X4_bestLending {p2 : Int32} (hwi : ∀ i, i < n → wi i = nI (w i)) (hpr : ∀ i, i < n → pr i = nI (pu i)) (hw : ∀ i, i < 6 → w i ≤ 9) (hp : ∀ i, i < 6 → pu i ≤ 99) (hn : n ≤ 6) (hf : 1000 ≤ fu) : (p2 = -1 → ok (f_X4_bestLending fu tb (nI n) wi pr p2) (fun x => x.1 = nI (Lk n w pu n 0))) ∧ ∀ k, k < n → p2 = nI k → ok (f_X4_bestLending fu tb (nI n) wi pr p2) (fun x => x.1 = nI (fldN (gL n w pu) 0 (k + 1) (0, 6)).2) := by
  have h64 := pw64 hn
  obtain ⟨T0, e0, hT0⟩ := fill_ok (fu := fu) (N := 448) (f := tb) (v := 0) (by decide) (by omega)
  obtain ⟨T, eT, hT⟩ := ok_X4_table (fu := fu) hwi hpr hw hp hn hT0 (by omega)
  refine ⟨fun e => ?_, fun k hk e => ?_⟩
  · unfold f_X4_bestLending
    refine ok_bnd (ok_eq e0 (ok_ltn (ok_bnd (ok_eq eT ?_))))
    rw [if_pos e]
    exact ok_bnd (ok_eq (rdi_n (n := 448) (k := 0) (by decide) (by decide) (hT 0 (by omega) 0 (Nat.two_pow_pos n))) (ok_some rfl))
  · unfold f_X4_bestLending
    refine ok_bnd (ok_eq e0 (ok_ltn (ok_bnd (ok_eq eT ?_))))
    rw [if_neg (by rw [e]; exact nI_nm1 (by omega))]
    subst e
    have key := (lp_up (step := f_X4_bestLending_L86 fu (nI n) wi pr (nI k) T) (fun j (x : Nat × Nat) => (nI x.1, nI x.2, nI j)) (gL n w pu) (k + 1) (fun x => nI x.2) (fun _ x => x.1 < 2 ^ n) (fun j x hj hx => by
      refine ⟨?_, gL_lt hx⟩
      have b7 := fb_7 (w := w) (pu := pu) (a := j) (had := x.1) hn
      simp only [f_X4_bestLending_L86, if_neg (nI_nlt (show j ≤ k by omega) (by omega : k < 2 ^ 31)), if_neg (nI_ge (show j < n by omega) (by omega : n < 2 ^ 31)), e_X4_firstBorrower (fu := fu) hwi hpr hw hp hn (show j < n by omega) hx hT (by omega), bnd_some, ltn, show (6 : Int32) = nI 6 from rfl, nI_eq (show fb n w pu j x.1 < 2 ^ 31 by omega) (show 6 < 2 ^ 31 by decide), nI_1, jshl_1' b7, fa_or, gL]
      split <;> rfl) (fun x _ => by
      simp only [f_X4_bestLending_L86, if_pos (nI_lt (show k < k + 1 by omega) (by omega))]) (k + 1) fu 0 (0, 6) (by omega) (by omega) (Nat.two_pow_pos n)).1
    refine ok_bnd (ok_eq key ?_)
    exact ok_some rfl
end LND
