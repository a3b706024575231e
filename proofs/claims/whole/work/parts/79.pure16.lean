/-! ===== chains: the reference ===== -/
section CHM
variable {fu n t a p had ah k : Nat} {w pu h o : Nat → Nat} {db tb : FN}
theorem e_chainBy (ho : ∀ i, i < 36 → db i = nI (o i)) (h9 : ∀ i, i < 36 → o i ≤ 99) (hn : n ≤ 6) (hh : had < 2 ^ n) (hp : p < n) (ha : ah < n ∨ ah = 6) (hT : bi had p = 0 → tb (64 * p + (had ||| 2 ^ p)) = nI (cB n o p (had ||| 2 ^ p))) : f_X12_chainBy fu db tb (nI had) (nI ah) (nI p) = some (nI (if mayC o ah had p = true then 1 + cB n o p (had ||| 2 ^ p) else 0)) := by
  have h64 := pw64 hn
  have h3 := or_pow hh (pw_lt hp)
  have hb := bi_lt had p
  unfold f_X12_chainBy
  rw [e_X12_has (show had < 64 by omega) (show p < 6 by omega), bnd_some]
  by_cases q : bi had p = 0
  · rw [if_pos ((nI_eq0 (by omega)).2 q)]
    by_cases q6 : ah = 6
    · rw [if_pos (show nI ah = 6 by rw [q6]; rfl), bnd_some, if_neg i10, jshl_1 p (by omega), fa_or, show (64 : Int32) = nI 64 from rfl, pk_mul, nI_add, rdi_n (show 64 * p + (had ||| 2 ^ p) < 448 by omega) (by decide) (hT q), bnd_some, show (1 : Int32) = nI 1 from rfl, nI_add, if_pos (mayC_t.2 ⟨q, Or.inl q6⟩)]
    · have h1 := h9 (6 * ah + p) (by omega)
      rw [if_neg (show ¬ nI ah = 6 by rw [show (6 : Int32) = nI 6 from rfl, nI_eq (by omega) (by decide)]; exact q6), e_X12_owed ho (by omega) (by omega), bnd_some]
      by_cases q7 : o (6 * ah + p) = 0
      · rw [if_pos ((nI_le0 (by omega)).2 q7), bnd_some, if_pos i00, if_neg (fun z => (mayC_t.1 z).2.elim q6 (fun f => f q7))]
        rfl
      · rw [if_neg (fun z => q7 ((nI_le0 (by omega)).1 z)), bnd_some, if_neg i10, jshl_1 p (by omega), fa_or, show (64 : Int32) = nI 64 from rfl, pk_mul, nI_add, rdi_n (show 64 * p + (had ||| 2 ^ p) < 448 by omega) (by decide) (hT q), bnd_some, show (1 : Int32) = nI 1 from rfl, nI_add, if_pos (mayC_t.2 ⟨q, Or.inr q7⟩)]
  · rw [if_neg (fun z => q ((nI_eq0 (by omega)).1 z)), bnd_some, if_pos i00, if_neg (fun z => q (mayC_t.1 z).1)]
    rfl
theorem e_cin {s3 s7 : Int32 × FN} (h3 : s3.1 = nI had) (h7 : s7.1 = nI ah) (ho : ∀ i, i < 36 → db i = nI (o i)) (h9 : ∀ i, i < 36 → o i ≤ 99) (hn : n ≤ 6) (hh : had < 2 ^ n) (ha : ah < n ∨ ah = 6) (hT : ∀ p, p < n → bi had p = 0 → s7.2 (64 * p + (had ||| 2 ^ p)) = nI (cB n o p (had ||| 2 ^ p))) (hf : 100 ≤ fu) : lp (f_X12_findChains_L26 fu (nI n) db s3 s7) fu ((0 : Int32), (0 : Int32)) = some (nI (cB n o ah had)) := by
  have key := (lp_up (step := f_X12_findChains_L26 fu (nI n) db s3 s7) (fun j x => (nI x, nI j)) (fun j x => if mayC o ah had j = true then max x (1 + cB n o j (had ||| 2 ^ j)) else x) n (fun x => nI x) (fun _ x => x ≤ 100) (fun j x hj hx => by
    have b1 := cB_le (o := o) (ah := j) (had := had ||| 2 ^ j) hn
    refine ⟨?_, ?_⟩
    · have e1 : (if nI ah < nI n then some (Sum.inr ()) else if nI ah = (6 : Int32) then some (Sum.inr ()) else some (Sum.inl (Sum.inr (nI x)))) = (some (Sum.inr ()) : Option (((Int32 × Int32) ⊕ Int32) ⊕ Unit)) := by
        rcases ha with ha | ha
        · rw [if_pos (nI_lt ha (by omega))]
        · rw [if_pos (show nI ah = 6 by rw [ha]; rfl)]
          split <;> rfl
      simp only [f_X12_findChains_L26, if_neg (nI_ge hj (by omega : n < 2 ^ 31)), h3, h7, e1, bnd_some, cse, e_chainBy (fu := fu) ho h9 hn hh hj ha (hT j hj), e_greater, nI_1]
      by_cases q : mayC o ah had j = true
      · rw [if_pos q, if_pos q, jmax_n (by omega) (by omega)]
      · rw [if_neg q, if_neg q, jmax_n (by omega) (by omega), Nat.max_eq_left (Nat.zero_le _)]
    · show (if mayC o ah had j = true then max x (1 + cB n o j (had ||| 2 ^ j)) else x) ≤ 100
      split
      · exact Nat.max_le.2 ⟨hx, by omega⟩
      · exact hx) (fun x _ => by
    simp only [f_X12_findChains_L26, if_pos (nI_le (Nat.le_refl n) (by omega : n < 2 ^ 31))]) n fu 0 0 (by omega) (by omega) (by omega)).1
  rw [cB_s hn hh]
  exact key
theorem e_cin0 {s3 s7 : Int32 × FN} (h7 : s7.1 = nI ah) (hn : n ≤ 6) (h1 : n ≤ ah) (h2 : ah < 6) (hf : 100 ≤ fu) : lp (f_X12_findChains_L26 fu (nI n) db s3 s7) fu ((0 : Int32), (0 : Int32)) = some (0 : Int32) :=
  lp_up0 (step := f_X12_findChains_L26 fu (nI n) db s3 s7) (α := Unit) (fun _ _ => ((0 : Int32), (0 : Int32))) (fun _ x => x) 0 (fun _ => (0 : Int32)) (fun j _ hj => absurd hj (by omega)) (fun _ => by
    simp only [f_X12_findChains_L26, h7, if_neg (nI_nlt h1 (by omega : ah < 2 ^ 31)), if_neg (show ¬ nI ah = 6 by rw [show (6 : Int32) = nI 6 from rfl, nI_eq (by omega) (by decide)]; omega), bnd_some, cse]
    split <;> rfl) (a := ()) (by omega)
theorem ok_carow {s3 : Int32 × FN} (h3 : s3.1 = nI had) (ho : ∀ i, i < 36 → db i = nI (o i)) (h9 : ∀ i, i < 36 → o i ≤ 99) (hn : n ≤ 6) (hh : had < 2 ^ n) (hT : ∀ hd, had < hd → hd < 2 ^ n → ∀ ah, (ah < n ∨ ah = 6) → tb (64 * ah + hd) = nI (cB n o ah hd)) (hf : 100 ≤ fu) : ok (lp (f_X12_findChains_L15 fu (nI n) db s3) fu ((0 : Int32), tb)) (fun T => ∀ hd, had ≤ hd → hd < 2 ^ n → ∀ ah, (ah < n ∨ ah = 6) → T (64 * ah + hd) = nI (cB n o ah hd)) := by
  have h64 := pw64 hn
  refine ok_up 7 (fun q s => s.1 = nI q ∧ (∀ ah, ah < q → (ah < n ∨ ah = 6) → s.2 (64 * ah + had) = nI (cB n o ah had)) ∧ ∀ ah hd, hd ≠ had → hd < 64 → s.2 (64 * ah + hd) = tb (64 * ah + hd)) ?_ ?_ 7 fu 0 _ (by omega) (by omega) ⟨rfl, fun q h => absurd h (by omega), fun _ _ _ _ => rfl⟩
  · rintro q ⟨c, T⟩ hq ⟨rfl, h1, h2⟩
    have h1 : ∀ ah, ah < q → (ah < n ∨ ah = 6) → T (64 * ah + had) = nI (cB n o ah had) := h1
    have h2 : ∀ ah hd, hd ≠ had → hd < 64 → T (64 * ah + hd) = tb (64 * ah + hd) := h2
    have e6 : ¬ (6 : Int32) < nI q := by rw [show (6 : Int32) = nI 6 from rfl]; exact nI_nlt (by omega) (by decide)
    have fin : ∀ v : Int32, ((q < n ∨ q = 6) → v = nI (cB n o q had)) → ok (bnd (wri 448 T (((64 : Int32) * nI q) + s3.1) v) (fun x20 => some (Sum.inl ((nI q + 1), x20)))) (fun x => match x with
        | .inl (s' : Int32 × FN) => s'.1 = nI (q + 1) ∧ (∀ ah, ah < q + 1 → (ah < n ∨ ah = 6) → s'.2 (64 * ah + had) = nI (cB n o ah had)) ∧ ∀ ah hd, hd ≠ had → hd < 64 → s'.2 (64 * ah + hd) = tb (64 * ah + hd)
        | .inr (r : FN) => ∀ hd, had ≤ hd → hd < 2 ^ n → ∀ ah, (ah < n ∨ ah = 6) → r (64 * ah + hd) = nI (cB n o ah hd)) := by
      intro v hv
      rw [h3, show (64 : Int32) = nI 64 from rfl, pk_mul, nI_add, wri_n (show 64 * q + had < 448 by omega) (by decide), bnd_some]
      refine ok_some ⟨nI_1 q, fun a ha hc => ?_, fun a hd hne hl => (pk_un (by omega)).trans (h2 a hd hne hl)⟩
      by_cases e : a = q
      · rw [e] at hc ⊢; exact pk_us.trans (hv hc)
      · exact (pk_un (by omega)).trans (h1 a (by omega) hc)
    simp only [f_X12_findChains_L15, if_neg e6]
    by_cases qa : q < n ∨ q = 6
    · refine ok_bnd (ok_eq (e_cin (ah := q) (s7 := (nI q, T)) h3 rfl ho h9 hn hh qa (fun p hp hb => ?_) hf) (ok_mono (fin _ (fun _ => rfl)) (fun x hx => by cases x <;> exact hx)))
      have g1 := or_gt0 had (by omega) p (by omega) hb
      have g2 := or_pow hh (pw_lt hp)
      show T (64 * p + (had ||| 2 ^ p)) = _
      rw [h2 p _ (by omega) (by omega)]
      exact hT _ g1 g2 p (Or.inl hp)
    · exact ok_bnd (ok_eq (e_cin0 (ah := q) (s7 := (nI q, T)) rfl hn (by omega) (by omega) hf) (ok_mono (fin _ (fun z => absurd z qa)) (fun x hx => by cases x <;> exact hx)))
  · rintro ⟨c, T⟩ ⟨rfl, h1, h2⟩
    simp only [f_X12_findChains_L15]
    rw [if_pos (by decide)]
    refine ok_some (fun hd d1 d2 a ha => ?_)
    by_cases e : hd = had
    · rw [e]; exact h1 a (by omega) ha
    · exact (h2 a hd e (by omega)).trans (hT hd (by omega) d2 a ha)
theorem ok_findChains (ho : ∀ i, i < 36 → db i = nI (o i)) (h9 : ∀ i, i < 36 → o i ≤ 99) (hn : n ≤ 6) (hf : 100 ≤ fu) : ok (f_X12_findChains fu (nI n) db tb) (fun T => ∀ hd, hd < 2 ^ n → ∀ ah, (ah < n ∨ ah = 6) → T (64 * ah + hd) = nI (cB n o ah hd)) := by
  have h64 := pw64 hn
  have hpos := Nat.two_pow_pos n
  unfold f_X12_findChains
  refine ok_ltn ?_
  refine ok_bnd (ok_mono (ok_up (step := f_X12_findChains_L9 fu (nI n) db) (P := fun T => ∀ hd, hd < 2 ^ n → ∀ ah, (ah < n ∨ ah = 6) → T (64 * ah + hd) = nI (cB n o ah hd)) (2 ^ n) (fun j s => s.1 = nI (2 ^ n - j) - 1 ∧ ∀ hd, 2 ^ n - j ≤ hd → hd < 2 ^ n → ∀ ah, (ah < n ∨ ah = 6) → s.2 (64 * ah + hd) = nI (cB n o ah hd)) ?_ ?_ (2 ^ n) fu 0 _ (by omega) (by omega) ⟨by rw [jshl_1' hn]; rfl, fun hd h1 h2 => absurd h1 (by omega)⟩) (fun T hT => ok_some hT))
  · rintro j ⟨c, T⟩ hj ⟨rfl, h1⟩
    obtain ⟨a, ha⟩ : ∃ a, 2 ^ n - j = a + 1 := ⟨2 ^ n - j - 1, by omega⟩
    have e1 : nI (2 ^ n - j) - 1 = nI a := by rw [ha]; exact nI_pred a
    have h1 : ∀ hd, 2 ^ n - j ≤ hd → hd < 2 ^ n → ∀ ah, (ah < n ∨ ah = 6) → T (64 * ah + hd) = nI (cB n o ah hd) := h1
    simp only [f_X12_findChains_L9]
    rw [if_neg (by rw [e1]; exact nI_pos (by omega))]
    refine ok_bnd (ok_mono (ok_carow (had := a) e1 ho h9 hn (by omega) (fun hd d1 d2 => h1 hd (by omega) d2) hf) ?_)
    intro T2 hT2
    refine ok_some ⟨?_, fun hd d1 d2 => hT2 hd (by omega) d2⟩
    show nI (2 ^ n - j) - 1 + (-1) = nI (2 ^ n - (j + 1)) - 1
    rw [e1, show 2 ^ n - (j + 1) = a by omega, am1]
  · rintro ⟨c, T⟩ ⟨rfl, h1⟩
    simp only [f_X12_findChains_L9, Nat.sub_self]
    rw [if_pos (by decide)]
    exact ok_some (fun hd d1 => h1 hd (by omega) d1)
theorem e_cfirst {y : HT} {s8 : Int32 × Int32 × Int32} (hy : Hd t n pu o y) (h5 : s8.1 = nI had) (h6 : s8.2.1 = nI ah) (h9 : ∀ i, i < 36 → o i ≤ 99) (hn : n ≤ 6) (hh : had < 2 ^ n) (ha : ah < n ∨ ah = 6) (h0 : 0 < cB n o ah had) (hT : ∀ hd, hd < 2 ^ n → ∀ ah, (ah < n ∨ ah = 6) → tb (64 * ah + hd) = nI (cB n o ah hd)) (hf : 100 ≤ fu) : lp (f_X12_chain_L74 fu y tb s8) fu (0 : Int32) = some (nI (fc n o ah had)) := by
  obtain ⟨y1, y2, y3, -, y5, -, y7, -, -⟩ := hy
  have h64 := pw64 hn
  have b0 := cB_le (o := o) (ah := ah) (had := had) hn
  obtain ⟨q1, q2, q3⟩ := fc_p hn hh h0
  have est : ∀ i, i < n → f_X12_chain_L74 fu y tb s8 (nI i) = if isC n o ah had i = true then some (.inr (nI i)) else some (.inl (nI (i + 1))) := by
    intro i hi
    have b1 := cB_le (o := o) (ah := i) (had := had ||| 2 ^ i) hn
    simp only [f_X12_chain_L74, h5, h6, e_chainBy (fu := fu) y7 h9 hn hh hi ha (fun _ => hT _ (or_pow hh (pw_lt hi)) i (Or.inl hi)), bnd_some, li_64, pk_mul, nI_add, rdi_n (show 64 * ah + had < 448 by omega) (by decide) (hT had hh ah ha), nI_1]
    by_cases q : mayC o ah had i = true
    · rw [if_pos q]
      by_cases e : 1 + cB n o i (had ||| 2 ^ i) = cB n o ah had
      · rw [if_pos ((nI_eq (by omega) (by omega)).2 e), if_pos (isC_t.2 ⟨mayC_t.1 q, e⟩)]
      · rw [if_neg (fun z => e ((nI_eq (by omega) (by omega)).1 z)), if_neg (fun z => e (isC_t.1 z).2)]
    · rw [if_neg q, if_neg (fun z => absurd ((nI_eq (by omega) (by omega)).1 z) (by omega)), if_neg (fun z => q (mayC_t.2 (isC_t.1 z).1))]
  exact lp_to (fu := fu) (step := f_X12_chain_L74 fu y tb s8) (r := nI (fc n o ah had)) (fc n o ah had) (fun i hi => by rw [est i (by omega), if_neg (q3 i hi)]) (by rw [est _ q1, if_pos q2]) (by omega)
theorem e_chain {y : HT} (hy : Hd t n pu o y) (h9 : ∀ i, i < 36 → o i ≤ 99) (hn : n ≤ 6) (hk : k < cB n o 6 0) (hT : ∀ hd, hd < 2 ^ n → ∀ ah, (ah < n ∨ ah = 6) → tb (64 * ah + hd) = nI (cB n o ah hd)) (hf : 100 ≤ fu) : lp (f_X12_chain_L65 fu (nI k) y tb) fu ((0 : Int32), (6 : Int32), (0 : Int32)) = some (nI (fldN (gC n o) 0 (k + 1) (0, 6)).2) := by
  have h64 := pw64 hn
  have bm := cB_le (o := o) (ah := 6) (had := 0) hn
  exact (lp_up (step := f_X12_chain_L65 fu (nI k) y tb) (fun j (x : Nat × Nat) => (nI x.1, nI x.2, nI j)) (gC n o) (k + 1) (fun x => nI x.2) (fun j x => x = fldN (gC n o) 0 j (0, 6)) (fun j x hj hx => by
    obtain ⟨z1, z2, z3, z4⟩ := pathC (o := o) hn j (by omega)
    rw [← hx] at z1 z2 z3 z4
    have ha : x.2 < n ∨ x.2 = 6 := by
      by_cases e : j = 0
      · exact Or.inr (z4 e)
      · exact Or.inl (z3 (by omega))
    obtain ⟨c1, -, -⟩ := fc_p (o := o) (ah := x.2) hn z1 (by omega)
    refine ⟨?_, ?_⟩
    · simp only [f_X12_chain_L65, if_neg (nI_nlt (show j ≤ k by omega) (by omega : k < 2 ^ 31))]
      rw [e_cfirst (s8 := (nI x.1, nI x.2, nI j)) hy rfl rfl h9 hn z1 ha (by omega) hT hf, bnd_some]
      simp only [ltn, nI_1, jshl_1 (fc n o x.2 x.1) (by omega), fa_or, gC]
    · show gC n o j x = _
      rw [fldN_succ (gC n o) j 0 (0, 6), ← hx, Nat.zero_add]) (fun x _ => by
    simp only [f_X12_chain_L65, if_pos (nI_lt (show k < k + 1 by omega) (by omega))]) (k + 1) fu 0 (0, 6) (by omega) (by omega) rfl).1
end CHM
