/-! ===== chains ===== -/
section MX2
variable {c : Nat → Bool} {f g : Nat → Nat} {x : Nat}
theorem mx_congr : ∀ n, (∀ b, b < n → c b = true → f b = g b) → mx c f n x = mx c g n x := by
  intro n
  induction n with
  | zero => intro _; rfl
  | succ n ih =>
    intro e
    rw [mx_succ, mx_succ, ih (fun b hb hc => e b (by omega) hc)]
    split
    · rename_i hc
      rw [e n (by omega) hc]
    · rfl
theorem mx_none : ∀ n, (∀ b, b < n → ¬ c b = true) → mx c f n x = x := by
  intro n
  induction n with
  | zero => intro _; rfl
  | succ n ih =>
    intro e
    rw [mx_succ, ih (fun b hb => e b (by omega)), if_neg (e n (by omega))]
theorem mx_cc {c' : Nat → Bool} : ∀ n, (∀ b, b < n → c b = c' b) → mx c f n x = mx c' f n x := by
  intro n
  induction n with
  | zero => intro _; rfl
  | succ n ih =>
    intro e
    rw [mx_succ, mx_succ, ih (fun b hb => e b (by omega)), e n (by omega)]
end MX2
theorem on_or0 : ∀ n, n ≤ 6 → ∀ s, s < 2 ^ n → ∀ p, p < n → bi s p = 0 → on (s ||| 2 ^ p) = on s + 1 := by decide +kernel
theorem on_z : on 0 = 0 := by decide
theorem or_gt0 : ∀ s, s < 64 → ∀ p, p < 6 → bi s p = 0 → s < (s ||| 2 ^ p) := by decide +kernel
theorem bi_or0 : ∀ s, s < 64 → ∀ p, p < 6 → bi (s ||| 2 ^ p) p = 1 := by decide +kernel
theorem ful_bi : ∀ n, n ≤ 6 → ∀ p, p < n → bi (2 ^ n - 1) p = 1 := by decide +kernel
theorem left0 : ∀ s, s < 64 → ∀ g, g < 64 → ∀ p, p < 6 → ((s &&& (63 - g)) &&& 2 ^ p = 0 ↔ ¬ (bi s p = 1 ∧ bi g p = 0)) := by decide +kernel
def mayC (o : Nat → Nat) (ah had p : Nat) : Bool := bi had p == 0 && (ah == 6 || o (6 * ah + p) != 0)
theorem mayC_t {o : Nat → Nat} {ah had p : Nat} : mayC o ah had p = true ↔ bi had p = 0 ∧ (ah = 6 ∨ o (6 * ah + p) ≠ 0) := by simp [mayC]
def Ch (n : Nat) (o : Nat → Nat) : Nat → Nat → Nat → Nat
  | 0, _, _ => 0
  | k + 1, ah, had => mx (mayC o ah had) (fun p => 1 + Ch n o k p (had ||| 2 ^ p)) n 0
def cB (n : Nat) (o : Nat → Nat) (ah had : Nat) : Nat := Ch n o (n - on had) ah had
section CHN
variable {fu n t a p had ah k : Nat} {w pu h o : Nat → Nat} {ow db tb v7 : FN}
theorem Ch_le : ∀ k ah had, Ch n o k ah had ≤ k := by
  intro k
  induction k with
  | zero => intro ah had; exact Nat.le_refl _
  | succ k ih =>
    intro ah had
    show mx (mayC o ah had) (fun p => 1 + Ch n o k p (had ||| 2 ^ p)) n 0 ≤ k + 1
    refine mx_le n (Nat.zero_le _) (fun b _ _ => ?_)
    have := ih b (had ||| 2 ^ b)
    show 1 + Ch n o k b (had ||| 2 ^ b) ≤ _
    omega
theorem cB_le (hn : n ≤ 6) : cB n o ah had ≤ 6 := by
  have := Ch_le (n := n) (o := o) (n - on had) ah had
  unfold cB
  omega
theorem cB_s (hn : n ≤ 6) (hh : had < 2 ^ n) : cB n o ah had = mx (mayC o ah had) (fun p => 1 + cB n o p (had ||| 2 ^ p)) n 0 := by
  have h1 := on_le0 n hn had hh
  cases e : n - on had with
  | zero =>
    unfold cB
    rw [e]
    refine (mx_none n (fun p hp hc => ?_)).symm
    have q := (mayC_t.1 hc).1
    have h2 := on_or0 n hn had hh p hp q
    have h3 := on_le0 n hn (had ||| 2 ^ p) (or_pow hh (pw_lt hp))
    omega
  | succ k =>
    unfold cB
    rw [e]
    show mx (mayC o ah had) (fun p => 1 + Ch n o k p (had ||| 2 ^ p)) n 0 = _
    refine mx_congr n (fun p hp hc => ?_)
    have h2 := on_or0 n hn had hh p hp (mayC_t.1 hc).1
    show 1 + Ch n o k p (had ||| 2 ^ p) = 1 + Ch n o (n - on (had ||| 2 ^ p)) p (had ||| 2 ^ p)
    rw [show n - on (had ||| 2 ^ p) = k by omega]
/-- the first with whom it goes on -/
def isC (n : Nat) (o : Nat → Nat) (ah had p : Nat) : Bool := mayC o ah had p && (1 + cB n o p (had ||| 2 ^ p) == cB n o ah had)
theorem isC_t : isC n o ah had p = true ↔ (bi had p = 0 ∧ (ah = 6 ∨ o (6 * ah + p) ≠ 0)) ∧ 1 + cB n o p (had ||| 2 ^ p) = cB n o ah had := by
  unfold isC
  rw [Bool.and_eq_true, mayC_t, beq_iff_eq]
def fc (n : Nat) (o : Nat → Nat) (ah had : Nat) : Nat := fr (isC n o ah had) 6 n 0
theorem fc_p (hn : n ≤ 6) (hh : had < 2 ^ n) (h0 : 0 < cB n o ah had) : fc n o ah had < n ∧ isC n o ah had (fc n o ah had) = true ∧ ∀ i, i < fc n o ah had → ¬ isC n o ah had i = true := by
  unfold fc
  rcases fr_p (c := isC n o ah had) (d := 6) n 0 with ⟨b, h1, h2, h3, h4, h5⟩ | ⟨h1, h2⟩
  · rw [h5]
    exact ⟨by omega, h3, fun i hi => h4 i (by omega) hi⟩
  · exfalso
    rcases mx_at (c := mayC o ah had) (f := fun p => 1 + cB n o p (had ||| 2 ^ p)) (x := 0) n with z | ⟨b, z1, z2, z3⟩
    · rw [cB_s hn hh, z] at h0
      exact absurd h0 (by omega)
    · exact h1 b (by omega) (by omega) (isC_t.2 ⟨mayC_t.1 z2, by rw [cB_s (ah := ah) hn hh]; exact z3.symm⟩)
def gC (n : Nat) (o : Nat → Nat) (_ : Nat) (x : Nat × Nat) : Nat × Nat := (x.1 ||| 2 ^ fc n o x.2 x.1, fc n o x.2 x.1)
theorem pathC (hn : n ≤ 6) : ∀ i, i ≤ cB n o 6 0 → (fldN (gC n o) 0 i (0, 6)).1 < 2 ^ n ∧ cB n o (fldN (gC n o) 0 i (0, 6)).2 (fldN (gC n o) 0 i (0, 6)).1 = cB n o 6 0 - i ∧ (0 < i → (fldN (gC n o) 0 i (0, 6)).2 < n) ∧ (i = 0 → (fldN (gC n o) 0 i (0, 6)).2 = 6) := by
  intro i
  induction i with
  | zero => intro _; exact ⟨Nat.two_pow_pos n, rfl, fun z => absurd z (by omega), fun _ => rfl⟩
  | succ i ih =>
    intro hi
    obtain ⟨h1, h2, -, -⟩ := ih (by omega)
    rw [fldN_succ (gC n o) i 0 (0, 6)]
    generalize fldN (gC n o) 0 i (0, 6) = x at h1 h2 ⊢
    obtain ⟨q1, q2, -⟩ := fc_p (o := o) (ah := x.2) hn h1 (by omega)
    have q3 := (isC_t.1 q2).2
    refine ⟨or_pow h1 (pw_lt q1), ?_, fun _ => q1, fun z => absurd z (by omega)⟩
    show cB n o (fc n o x.2 x.1) (x.1 ||| 2 ^ fc n o x.2 x.1) = _
    omega
/-! the class -/
theorem e_left {A g : Nat} (hA : A < 64) (hg : g < 64) (hp : p < 6) : ((nI A &&& (nI g ^^^ (-1))) &&& jshl 1 (nI p)) = 0 ↔ ¬ (bi A p = 1 ∧ bi g p = 0) := by
  rw [and_not A hA g hg, jshl_1 p (by omega), fa_and, nI_eq0 (Nat.lt_of_le_of_lt Nat.and_le_left (Nat.lt_of_le_of_lt Nat.and_le_left (by omega)))]
  exact left0 A hA g hg p hp
theorem e_X4_longestOf {A : Nat} (hA : A < 64) (hAb : ∀ p, p < n → (bi A p = 1 ↔ (ah = 6 ∨ o (6 * ah + p) ≠ 0))) (hn : n ≤ 6) (hh : had < 2 ^ n) (hT : ∀ p, p < n → bi had p = 0 → tb (6 * (had ||| 2 ^ p) + p) = nI (1 + cB n o p (had ||| 2 ^ p))) (hf : 100 ≤ fu) : f_X4_longestOf fu tb (nI n) (nI A) (nI had) = some (nI (cB n o ah had)) := by
  have h64 := pw64 hn
  have key := (lp_up (step := f_X4_longestOf_L6 tb (nI n) (nI A) (nI had)) (fun j x => (nI x, nI j)) (fun j x => if mayC o ah had j = true then max x (1 + cB n o j (had ||| 2 ^ j)) else x) n (fun x => nI x) (fun _ x => x ≤ 100) (fun j x hj hx => by
    have b1 := cB_le (o := o) (ah := j) (had := had ||| 2 ^ j) hn
    have h3 := or_pow hh (pw_lt hj)
    refine ⟨?_, ?_⟩
    · simp only [f_X4_longestOf_L6, if_neg (nI_ge hj (by omega : n < 2 ^ 31)), e_left hA (show had < 64 by omega) (show j < 6 by omega), nI_1]
      by_cases q : bi A j = 1 ∧ bi had j = 0
      · rw [if_neg (fun z => z q), if_pos (mayC_t.2 ⟨q.2, (hAb j hj).1 q.1⟩), jshl_1 j (by omega), fa_or, show (6 : Int32) = nI 6 from rfl, pk_mul, nI_add, rdi_n (show 6 * (had ||| 2 ^ j) + j < 448 by omega) (by decide) (hT j hj q.2), bnd_some]
        unfold ltn
        rw [jmax_n (by omega) (by omega)]
      · rw [if_pos q, if_neg (fun z => q ⟨(hAb j hj).2 (mayC_t.1 z).2, (mayC_t.1 z).1⟩)]
    · show (if mayC o ah had j = true then max x (1 + cB n o j (had ||| 2 ^ j)) else x) ≤ 100
      split
      · exact Nat.max_le.2 ⟨hx, by omega⟩
      · exact hx) (fun x _ => by
    simp only [f_X4_longestOf_L6, if_pos (nI_le (Nat.le_refl n) (by omega : n < 2 ^ 31))]) n fu 0 0 (by omega) (by omega) (by omega)).1
  unfold f_X4_longestOf
  rw [cB_s hn hh]
  exact bnd_r key
theorem sCred_bi (hn : n ≤ 6) (hp : p < n) : sCred n o a < 64 ∧ (bi (sCred n o a) p = 1 ↔ (a = 6 ∨ o (6 * a + p) ≠ 0)) ∨ a = 6 := by
  by_cases e : a = 6
  · exact Or.inr e
  · refine Or.inl ⟨p64 hn (mask_on (P := fun j => o (6 * a + j) = 0) n hn).2, ?_⟩
    have := mask_bt (P := fun j => o (6 * a + j) = 0) (i := p) n
    constructor
    · intro z
      exact Or.inr (this.1 z).2
    · intro z
      exact this.2 ⟨hp, z.resolve_left e⟩
theorem sCred_64 (hn : n ≤ 6) : sCred n o a < 64 := p64 hn (mask_on (P := fun j => o (6 * a + j) = 0) n hn).2
theorem sCred_b (hn : n ≤ 6) (ha : a < 6) : ∀ p, p < n → (bi (sCred n o a) p = 1 ↔ (a = 6 ∨ o (6 * a + p) ≠ 0)) := by
  intro p hp
  rcases sCred_bi (o := o) (a := a) hn hp with z | z
  · exact z.2
  · omega
theorem ful_b (hn : n ≤ 6) : ∀ p, p < n → (bi (2 ^ n - 1) p = 1 ↔ ((6 : Nat) = 6 ∨ o (6 * 6 + p) ≠ 0)) := fun p hp => ⟨fun _ => Or.inl rfl, fun _ => ful_bi n hn p hp⟩
theorem e_X4_firstOf {A : Nat} (hA : A < 64) (hAb : ∀ p, p < n → (bi A p = 1 ↔ (ah = 6 ∨ o (6 * ah + p) ≠ 0))) (hn : n ≤ 6) (hh : had < 2 ^ n) (h0 : 0 < cB n o ah had) (hT : ∀ p, p < n → bi had p = 0 → tb (6 * (had ||| 2 ^ p) + p) = nI (1 + cB n o p (had ||| 2 ^ p))) (hf : 100 ≤ fu) : f_X4_firstOf fu tb (nI n) (nI A) (nI had) (nI (cB n o ah had)) = some (nI (fc n o ah had)) := by
  have h64 := pw64 hn
  have b0 := cB_le (o := o) (ah := ah) (had := had) hn
  obtain ⟨q1, q2, q3⟩ := fc_p hn hh h0
  have est : ∀ i, i < n → f_X4_firstOf_L3 tb (nI n) (nI A) (nI had) (nI (cB n o ah had)) (nI i) = if isC n o ah had i = true then some (.inr (.inl (nI i))) else some (.inl (nI (i + 1))) := by
    intro i hi
    have b1 := cB_le (o := o) (ah := i) (had := had ||| 2 ^ i) hn
    have h3 := or_pow hh (pw_lt hi)
    simp only [f_X4_firstOf_L3, if_neg (nI_ge hi (by omega : n < 2 ^ 31)), e_left hA (show had < 64 by omega) (show i < 6 by omega), nI_1, isC_t]
    by_cases q : bi A i = 1 ∧ bi had i = 0
    · rw [if_neg (fun z => z q), jshl_1 i (by omega), fa_or, show (6 : Int32) = nI 6 from rfl, pk_mul, nI_add, rdi_n (show 6 * (had ||| 2 ^ i) + i < 448 by omega) (by decide) (hT i hi q.2), bnd_some]
      by_cases e : 1 + cB n o i (had ||| 2 ^ i) = cB n o ah had
      · rw [if_pos ((nI_eq (by omega) (by omega)).2 e), if_pos ⟨⟨q.2, (hAb i hi).1 q.1⟩, e⟩]
      · rw [if_neg (fun z => e ((nI_eq (by omega) (by omega)).1 z)), if_neg (fun z => e z.2)]
    · rw [if_pos q, if_neg (fun z => q ⟨(hAb i hi).2 z.1.2, z.1.1⟩)]
  unfold f_X4_firstOf
  have key := lp_to (fu := fu) (step := f_X4_firstOf_L3 tb (nI n) (nI A) (nI had) (nI (cB n o ah had))) (r := .inl (nI (fc n o ah had))) (fc n o ah had) (fun i hi => by rw [est i (by omega), if_neg (q3 i hi)]) (by rw [est _ q1, if_pos q2]) (by omega)
  exact bnd_r key
theorem ok_onward (ho : ∀ i, i < 36 → ow i = nI (o i)) (h9 : ∀ i, i < 36 → o i ≤ 99) (hn : n ≤ 6) (hf : 100 ≤ fu) {f0 : FN} : ok (lp (f_X4_longestChain_L2 fu (nI n) ow) fu ((0 : Int32), f0)) (fun v => ∀ p, p < n → v p = nI (sCred n o p)) := by
  refine ok_up n (fun j s => s.1 = nI j ∧ ∀ p, p < j → s.2 p = nI (sCred n o p)) ?_ ?_ n fu 0 _ (by omega) (by omega) ⟨rfl, fun p hp => absurd hp (by omega)⟩
  · rintro j ⟨c, v⟩ hj ⟨rfl, h1⟩
    simp only [f_X4_longestChain_L2, if_neg (nI_ge hj (by omega : n < 2 ^ 31)), e_X9_creditorsOf (fu := fu) ho h9 hn (show j < 6 by omega) hf, bnd_some, wri_n (show j < 6 by omega) (by decide : 6 < 2 ^ 31)]
    exact ok_some ⟨nI_1 j, upd_lt (g := fun p => nI (sCred n o p)) h1 rfl⟩
  · rintro ⟨c, v⟩ ⟨rfl, h1⟩
    simp only [f_X4_longestChain_L2, if_pos (nI_le (Nat.le_refl n) (by omega : n < 2 ^ 31))]
    exact ok_some h1
theorem ok_crow {s10 : Int32 × FN} {us : Nat} (hs : s10.1 = nI us) (hv : ∀ p, p < n → v7 p = nI (sCred n o p)) (hn : n ≤ 6) (hu : us < 2 ^ n) (hT : ∀ u, us < u → u < 2 ^ n → ∀ q, q < n → bi u q = 1 → tb (6 * u + q) = nI (1 + cB n o q u)) (hf : 100 ≤ fu) : ok (lp (f_X4_longestChain_L43 fu (nI n) v7 s10) fu ((0 : Int32), tb)) (fun T => ∀ u, us ≤ u → u < 2 ^ n → ∀ q, q < n → bi u q = 1 → T (6 * u + q) = nI (1 + cB n o q u)) := by
  have h64 := pw64 hn
  refine ok_up n (fun j s => s.1 = nI j ∧ (∀ q, q < j → bi us q = 1 → s.2 (6 * us + q) = nI (1 + cB n o q us)) ∧ ∀ i, 6 * (us + 1) ≤ i → s.2 i = tb i) ?_ ?_ n fu 0 _ (by omega) (by omega) ⟨rfl, fun q h => absurd h (by omega), fun _ _ => rfl⟩
  · rintro j ⟨c, T⟩ hj ⟨rfl, h1, h2⟩
    have h1 : ∀ q, q < j → bi us q = 1 → T (6 * us + q) = nI (1 + cB n o q us) := h1
    have h2 : ∀ i, 6 * (us + 1) ≤ i → T i = tb i := h2
    have hb := bi_lt us j
    simp only [f_X4_longestChain_L43, if_neg (nI_ge hj (by omega : n < 2 ^ 31)), hs, jbi (show us < 64 by omega) (show j < 6 by omega), nI_eq0 (show bi us j < 2 ^ 31 by omega)]
    by_cases q : bi us j = 0
    · rw [if_pos q]
      refine ok_some ⟨nI_1 j, fun r hr hb => ?_, h2⟩
      by_cases e : r = j
      · rw [e] at hb; omega
      · exact h1 r (by omega) hb
    · rw [if_neg q, rdi_n (show j < 6 by omega) (by decide) (hv j hj), bnd_some, e_X4_longestOf (fu := fu) (ah := j) (sCred_64 hn) (sCred_b hn (by omega)) hn hu (fun p hp hb => ?_) hf, bnd_some]
      · refine ok_ltn ?_
        rw [show (1 : Int32) = nI 1 from rfl, show (6 : Int32) = nI 6 from rfl, pk_mul, nI_add, nI_add, wri_n (show 6 * us + j < 448 by omega) (by decide), bnd_some]
        refine ok_some ⟨nI_add j 1, fun r hr hb => ?_, fun i hi => (pk_un (by omega)).trans (h2 i hi)⟩
        by_cases e : r = j
        · rw [e]; exact pk_us
        · exact (pk_un (by omega)).trans (h1 r (by omega) hb)
      · have g1 := or_gt0 us (by omega) p (by omega) hb
        rw [h2 _ (by omega)]
        exact hT _ g1 (or_pow hu (pw_lt hp)) p hp (bi_or0 us (by omega) p (by omega))
  · rintro ⟨c, T⟩ ⟨rfl, h1, h2⟩
    simp only [f_X4_longestChain_L43, if_pos (nI_le (Nat.le_refl n) (by omega : n < 2 ^ 31))]
    refine ok_some (fun u u1 u2 q hq hb => ?_)
    by_cases e : u = us
    · rw [e] at hb ⊢; exact h1 q hq hb
    · exact (h2 _ (by omega)).trans (hT u (by omega) u2 q hq hb)
theorem ok_ctable (hv : ∀ p, p < n → v7 p = nI (sCred n o p)) (hn : n ≤ 6) (hf : 100 ≤ fu) : ok (lp (f_X4_longestChain_L36 fu (nI n) v7) fu (nI (2 ^ n - 1), tb)) (fun T => ∀ u, 0 < u → u < 2 ^ n → ∀ q, q < n → bi u q = 1 → T (6 * u + q) = nI (1 + cB n o q u)) := by
  have h64 := pw64 hn
  have hpos := Nat.two_pow_pos n
  refine ok_up (2 ^ n - 1) (fun j s => s.1 = nI (2 ^ n - 1 - j) ∧ ∀ u, 2 ^ n - 1 - j < u → u < 2 ^ n → ∀ q, q < n → bi u q = 1 → s.2 (6 * u + q) = nI (1 + cB n o q u)) ?_ ?_ (2 ^ n - 1) fu 0 _ (by omega) (by omega) ⟨rfl, fun u h1 h2 => absurd h1 (by omega)⟩
  · rintro j ⟨c, T⟩ hj ⟨rfl, h1⟩
    simp only [f_X4_longestChain_L36]
    rw [if_neg (nI_nle (by omega) (by omega))]
    refine ok_bnd (ok_mono (ok_crow (us := 2 ^ n - 1 - j) rfl hv hn (by omega) h1 hf) ?_)
    intro T2 hT2
    refine ok_some ⟨?_, fun u h1 h2 => hT2 u (by omega) h2⟩
    show nI (2 ^ n - 1 - j) + (-1) = nI (2 ^ n - 1 - (j + 1))
    rw [show 2 ^ n - 1 - j = (2 ^ n - 1 - (j + 1)) + 1 by omega]
    exact pk_m1 _
  · rintro ⟨c, T⟩ ⟨rfl, h1⟩
    simp only [f_X4_longestChain_L36, Nat.sub_self]
    rw [if_pos (by decide)]
    exact ok_some (fun u u0 => h1 u (by omega))
theorem ok_X4_chain {f0 : FN} {p2 : Int32} (ho : ∀ i, i < 36 → ow i = nI (o i)) (h9 : ∀ i, i < 36 → o i ≤ 99) (hn : n ≤ 6) (hf : 1000 ≤ fu) : ok (f_X4_longestChain fu tb f0 (nI n) ow p2) (fun x => (p2 = -1 → x.1 = nI (cB n o 6 0)) ∧ (∀ k, p2 = nI k → k < cB n o 6 0 → x.1 = nI (fldN (gC n o) 0 (k + 1) (0, 6)).2) ∧ (¬ p2 = -1 → (p2 < 0 ∨ nI (cB n o 6 0) ≤ p2) → x.1 = -1)) := by
  have h64 := pw64 hn
  have hpos := Nat.two_pow_pos n
  have bm := cB_le (o := o) (ah := 6) (had := 0) hn
  unfold f_X4_longestChain
  refine ok_bnd (ok_mono (ok_onward ho h9 hn (by omega)) ?_)
  intro v hv
  have e1 : jshl 1 (nI n) - 1 = nI (2 ^ n - 1) := by rw [jshl_1' hn, show (1 : Int32) = nI 1 from rfl, pk_sub (by omega)]
  refine ok_ltn ?_
  rw [e1]
  refine ok_bnd (ok_mono (ok_ctable hv hn (by omega)) ?_)
  intro T hT
  have hT0 : ∀ had, had < 2 ^ n → ∀ p, p < n → bi had p = 0 → T (6 * (had ||| 2 ^ p) + p) = nI (1 + cB n o p (had ||| 2 ^ p)) := by
    intro had hh p hp hb
    have g1 := or_gt0 had (by omega) p (by omega) hb
    exact hT _ (by omega) (or_pow hh (pw_lt hp)) p hp (bi_or0 had (by omega) p (by omega))
  refine ok_ltn ?_
  refine ok_bnd (ok_eq (e_X4_longestOf (fu := fu) (ah := 6) (had := 0) (show 2 ^ n - 1 < 64 by omega) (ful_b hn) hn hpos (hT0 0 hpos) (by omega)) ?_)
  refine ok_ite (fun q => ?_) (fun q => ?_)
  · refine ok_some ⟨fun _ => rfl, fun k e hk => ?_, fun z => absurd q z⟩
    exact absurd (e.symm.trans q) (nI_nm1 (by omega))
  · refine ok_ite (fun q1 => ?_) (fun q1 => ?_)
    · refine ok_some ⟨fun z => absurd z q, fun k e hk => ?_, fun _ _ => rfl⟩
      rw [e] at q1
      exact absurd q1 (nI_pos (by omega))
    · obtain ⟨k, hk, rfl⟩ := nI_of q1
      refine ok_ite (fun q2 => ?_) (fun q2 => ?_)
      · rw [nI_ltI hk (by omega)] at q2
        refine ok_bnd (ok_eq (e_X4_firstOf (fu := fu) (ah := 6) (had := 0) (show 2 ^ n - 1 < 64 by omega) (ful_b hn) hn hpos (by omega) (hT0 0 hpos) (by omega)) ?_)
        have key := lp_up (step := f_X4_longestChain_L156 fu (nI n) (nI k) v T (nI (cB n o 6 0))) (fun j (x : Nat × Nat) => (nI x.1, nI x.2, nI j)) (fun _ x => (x.1 ||| 2 ^ x.2, fc n o x.2 (x.1 ||| 2 ^ x.2))) (k + 1) (fun x => nI x.2) (fun j x => 0 < j ∧ (x.1 ||| 2 ^ x.2, x.2) = fldN (gC n o) 0 j (0, 6)) (fun j x hj hx => by
          obtain ⟨hx0, hx⟩ := hx
          obtain ⟨z1, z2, z3, -⟩ := pathC (o := o) hn j (by omega)
          have z3 := z3 hx0
          rw [← hx] at z1 z2 z3
          have z1 : x.1 ||| 2 ^ x.2 < 2 ^ n := z1
          have z2 : cB n o x.2 (x.1 ||| 2 ^ x.2) = cB n o 6 0 - j := z2
          have z3 : x.2 < n := z3
          refine ⟨?_, by omega, ?_⟩
          · simp only [f_X4_longestChain_L156, if_neg (nI_nlt (show j ≤ k by omega) (by omega : k < 2 ^ 31)), if_neg (nI_nm1 (show x.2 < 2 ^ 31 by omega)), jshl_1 x.2 (by omega), fa_or, ltn, rdi_n (show x.2 < 6 by omega) (by decide) (hv x.2 z3), bnd_some, pk_sub (show j ≤ cB n o 6 0 by omega), nI_1]
            rw [← z2, e_X4_firstOf (fu := fu) (ah := x.2) (sCred_64 hn) (sCred_b hn (by omega)) hn z1 (by omega) (hT0 _ z1) (by omega), bnd_some]
          · show ((x.1 ||| 2 ^ x.2) ||| 2 ^ fc n o x.2 (x.1 ||| 2 ^ x.2), fc n o x.2 (x.1 ||| 2 ^ x.2)) = _
            rw [fldN_succ (gC n o) j 0 (0, 6), ← hx]
            rfl) (fun x _ => by
          simp only [f_X4_longestChain_L156, if_pos (nI_lt (show k < k + 1 by omega) (by omega))]) k fu 1 (0, fc n o 6 0) (by omega) (by omega) ⟨by omega, by
            show (0 ||| 2 ^ fc n o 6 0, fc n o 6 0) = gC n o 0 (0, 6)
            rfl⟩
        refine ok_bnd (ok_eq key.1 ?_)
        refine ok_some ⟨fun z => absurd z q, fun k' e' hk' => ?_, fun _ z => ?_⟩
        · have e2 : k = k' := (nI_eq hk (by omega)).1 e'
          rw [← e2, ← key.2.2]
        · rcases z with z | z
          · exact absurd z q1
          · exact absurd z (nI_ge q2 (by omega))
      · rw [nI_ltI hk (by omega)] at q2
        refine ok_some ⟨fun z => absurd z q, fun k' e' hk' => ?_, fun _ _ => rfl⟩
        have e2 : k = k' := (nI_eq hk (by omega)).1 e'
        omega
end CHN
