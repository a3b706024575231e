/-! ===== tables ===== -/
def tkf (r : Nat → Nat) (k : Nat) : Nat := fldN (fun i x => max x (r i + 1)) 0 k 0
/-- a row that goes on from p, new tables in their order -/
def GT (n m : Nat) (h : Nat → Nat) (p : Nat) (r s : Nat → Nat) : Prop := (∀ q, q < p → s q = r q) ∧ ∀ q, p ≤ q → q < n → s q < m ∧ s q ≤ tkf s q ∧ ∀ b, b < q → s q = s b → bi (h q) b = 0
/-- the first calm row of m tables -/
def LC (n m : Nat) (h : Nat → Nat) (i : Nat) : Prop := i < m ^ n ∧ clm n h (dg m n i) ∧ ∀ j, j < i → ¬ clm n h (dg m n j)
section TBL
variable {fu n m k p i t : Nat} {w pu o r s h : Nat → Nat} {M rw_ ha : FN}
theorem tkf_succ : tkf r (k + 1) = max (tkf r k) (r k + 1) := by
  unfold tkf
  rw [fldN_succ, Nat.zero_add]
theorem tkf_congr : ∀ k, (∀ q, q < k → r q = s q) → tkf r k = tkf s k := by
  intro k
  induction k with
  | zero => intro _; rfl
  | succ k ih => intro e; rw [tkf_succ, tkf_succ, ih (fun q hq => e q (by omega)), e k (by omega)]
theorem tkf_ge : ∀ k i, i < k → r i + 1 ≤ tkf r k := by
  intro k
  induction k with
  | zero => intro i hi; exact absurd hi (Nat.not_lt_zero _)
  | succ k ih =>
    intro i hi
    rw [tkf_succ]
    by_cases e : i = k
    · rw [e]; exact Nat.le_max_right _ _
    · exact Nat.le_trans (ih i (by omega)) (Nat.le_max_left _ _)
theorem tkf_le : ∀ k, (∀ q, q < k → r q < m) → tkf r k ≤ m := by
  intro k
  induction k with
  | zero => intro _; exact Nat.zero_le _
  | succ k ih =>
    intro b
    have h1 := ih (fun q hq => b q (by omega))
    have h2 := b k (by omega)
    rw [tkf_succ]
    omega
theorem ok_canSeat (hha : ∀ i, i < 6 → ha i = nI (h i)) (h64 : ∀ i, i < 6 → h i < 64) (hn : n ≤ 6) (hm : m ≤ 6) (hf : 100 ≤ fu) : ∀ e p, p + e = n → ∀ dp, e < dp → ∀ (r : Nat → Nat) (row : FN), (∀ q, q < p → row q = nI (r q)) → (∀ q, q < p → r q < m) → ok (f_X6_canSeat fu dp 6 (nI n) ha row (nI p) (nI m) (nI (tkf r p))) (fun x => (∀ q, q < p → x.2 q = nI (r q)) ∧ ((x.1 = 1 ∧ ∃ r', GT n m h p r r' ∧ (∀ q, q < n → x.2 q = nI (r' q)) ∧ ∀ s, GT n m h p r s → numk m r' n ≤ numk m s n) ∨ (x.1 = 0 ∧ ∀ s, ¬ GT n m h p r s))) := by
  intro e
  induction e with
  | zero =>
    intro p hp dp hdp r row hr hb
    obtain ⟨d, rfl⟩ : ∃ d, dp = d + 1 := ⟨dp - 1, by omega⟩
    have hpn : p = n := by omega
    subst hpn
    show ok (F_X6_canSeat (f_X6_canSeat fu d) fu 6 (nI p) ha row (nI p) (nI m) (nI (tkf r p))) _
    unfold F_X6_canSeat
    rw [if_pos (nI_le (Nat.le_refl p) (by omega))]
    exact ok_some ⟨hr, Or.inl ⟨rfl, r, ⟨fun _ _ => rfl, fun q h1 h2 => absurd h1 (by omega)⟩, hr, fun s hs => Nat.le_of_eq (numk_congr p (fun q hq => (hs.1 q hq).symm))⟩⟩
  | succ e ih =>
    intro p hp dp hdp r row hr hb
    obtain ⟨d, rfl⟩ : ∃ d, dp = d + 1 := ⟨dp - 1, by omega⟩
    have tk6 := tkf_le p hb
    show ok (F_X6_canSeat (f_X6_canSeat fu d) fu 6 (nI n) ha row (nI p) (nI m) (nI (tkf r p))) _
    unfold F_X6_canSeat
    rw [if_neg (nI_ge (show p < n by omega) (by omega)), if_pos (nI_lt (show p < 6 by omega) (by decide))]
    refine ok_bnd (ok_mono (ok_up (step := f_X6_canSeat_L19 fu (f_X6_canSeat fu d) (nI n) ha (nI p) (nI m) (nI (tkf r p)) 6) (P := fun x => match x with
      | .inl y => y.1 = 1 ∧ (∀ q, q < p → y.2 q = nI (r q)) ∧ ∃ r', GT n m h p r r' ∧ (∀ q, q < n → y.2 q = nI (r' q)) ∧ ∀ s, GT n m h p r s → numk m r' n ≤ numk m s n
      | .inr y => (∀ q, q < p → y q = nI (r q)) ∧ ∀ s, ¬ GT n m h p r s) (min m (tkf r p + 1)) (fun v st => st.1 = nI v ∧ (∀ q, q < p → st.2 q = nI (r q)) ∧ ∀ s, GT n m h p r s → v ≤ s p) ?_ ?_ (min m (tkf r p + 1)) fu 0 _ (by omega) (by omega) ⟨rfl, hr, fun _ _ => Nat.zero_le _⟩) ?_)
    · rintro v ⟨c, R⟩ hv ⟨rfl, g1, g2⟩
      have g1 : ∀ q, q < p → R q = nI (r q) := g1
      have hvm : v < m := by omega
      have hvt : v ≤ tkf r p := by omega
      simp only [f_X6_canSeat_L19]
      rw [if_neg (nI_ge hvm (by omega)), if_neg (nI_nlt hvt (by omega))]
      rcases e_isFree (fu := fu) (v := v) g1 (fun q hq => by have := hb q hq; omega) (by omega) hha h64 (show p < 6 by omega) hf with ⟨f1, f2⟩ | ⟨f1, b, f2, f3, f4⟩
      · rw [f1, bnd_some, if_neg i10, wri_n (show p < 6 by omega) (by decide), bnd_some, nI_1 p, nI_1 v, jmax_n (by omega) (by omega)]
        have et : max (tkf r p) (v + 1) = tkf (fun q => if q = p then v else r q) (p + 1) := by
          rw [tkf_succ, tkf_congr (r := fun q => if q = p then v else r q) (s := r) p (fun q hq => if_neg (by omega))]
          show _ = max (tkf r p) ((if p = p then v else r p) + 1)
          rw [if_pos rfl]
        rw [et]
        have pre : ∀ q, q < p + 1 → upd R p (nI v) q = nI (if q = p then v else r q) := by
          intro q hq
          by_cases c : q = p
          · rw [c, if_pos rfl]; exact pk_us
          · rw [if_neg c]; exact (pk_un c).trans (g1 q (by omega))
        have big : ∀ s, GT n m h p r s → s p = v → GT n m h (p + 1) (fun q => if q = p then v else r q) s := by
          intro s hs e1
          refine ⟨fun q hq => ?_, fun q h1 h2 => hs.2 q (by omega) h2⟩
          show s q = if q = p then v else r q
          by_cases c : q = p
          · rw [if_pos c, c]; exact e1
          · rw [if_neg c]; exact hs.1 q (by omega)
        refine ok_bnd (ok_mono (ih (p + 1) (by omega) d (by omega) (fun q => if q = p then v else r q) (upd R p (nI v)) pre (fun q hq => by
          by_cases c : q = p
          · rw [if_pos c]; exact hvm
          · rw [if_neg c]; exact hb q (by omega))) ?_)
        rintro ⟨a, R2⟩ ⟨k1, k2⟩
        have k1 : ∀ q, q < p + 1 → R2 q = nI (if q = p then v else r q) := k1
        have k1' : ∀ q, q < p → R2 q = nI (r q) := fun q hq => by have := k1 q (by omega); rw [if_neg (by omega)] at this; exact this
        rcases k2 with ⟨ea, r', q1, q2, q3⟩ | ⟨ea, q1⟩
        · have ea : a = 1 := ea
          subst ea
          rw [if_neg i10]
          have rp : r' p = v := (q1.1 p (by omega)).trans (if_pos rfl)
          have rq : ∀ q, q < p → r' q = r q := fun q hq => (q1.1 q (by omega)).trans (if_neg (by omega))
          have gt : GT n m h p r r' := by
            refine ⟨rq, fun q h1 h2 => ?_⟩
            by_cases c : q = p
            · rw [c, rp]
              refine ⟨hvm, ?_, fun b hb2 e2 => f2 b hb2 (by rw [e2]; exact rq b hb2)⟩
              rw [tkf_congr p rq]; exact hvt
            · exact q1.2 q (by omega) h2
          refine ok_some ⟨rfl, k1', r', gt, q2, fun s hs => ?_⟩
          have g3 := g2 s hs
          by_cases c : s p = v
          · exact q3 s (big s hs c)
          · obtain ⟨dd, hdd⟩ : ∃ dd, n = p + 1 + dd := ⟨n - (p + 1), by omega⟩
            rw [hdd]
            exact Nat.le_of_lt (numk_lt dd (fun q hq => (rq q hq).trans (hs.1 q hq).symm) (by rw [rp]; omega) (fun q hq => by
              by_cases c2 : q < p
              · rw [rq q c2]; exact hb q c2
              · exact (gt.2 q (by omega) (by omega)).1))
        · have ea : a = 0 := ea
          subst ea
          rw [if_pos i00]
          refine ok_some ⟨rfl, k1', fun s hs => ?_⟩
          have g3 := g2 s hs
          by_cases c : s p = v
          · exact absurd (big s hs c) (q1 s)
          · omega
      · rw [f1, bnd_some, if_pos i00, nI_1]
        refine ok_some ⟨rfl, g1, fun s hs => ?_⟩
        have g3 := g2 s hs
        by_cases c : s p = v
        · exfalso
          apply f4
          exact (hs.2 p (Nat.le_refl p) (by omega)).2.2 b f2 (by rw [c, f3]; exact (hs.1 b f2).symm)
        · omega
    · rintro ⟨c, R⟩ ⟨rfl, g1, g2⟩
      have nn : ∀ s, ¬ GT n m h p r s := by
        intro s hs
        have g3 := g2 s hs
        have g4 := hs.2 p (Nat.le_refl p) (by omega)
        have g5 := tkf_congr (r := s) (s := r) p hs.1
        omega
      simp only [f_X6_canSeat_L19]
      by_cases c : m ≤ tkf r p + 1
      · rw [if_pos (nI_le (by omega) (by omega))]
        exact ok_some ⟨g1, nn⟩
      · rw [if_neg (nI_ge (by omega) (by omega)), if_pos (nI_lt (by omega) (by omega))]
        exact ok_some ⟨g1, nn⟩
    · intro x hx
      cases x with
      | inl y => exact ok_some ⟨hx.2.1, Or.inl ⟨hx.1, hx.2.2⟩⟩
      | inr y => exact ok_some ⟨hx.1, Or.inr ⟨rfl, hx.2⟩⟩
/-- the first calm row takes new tables in their order -/
theorem LC_can (hm : m ≤ 6) (L : LC n m h i) : GT n m h 0 (fun _ => 0) (dg m n i) := by
  obtain ⟨l1, l2, l3⟩ := L
  refine ⟨fun q hq => absurd hq (Nat.not_lt_zero _), fun q _ hq => ?_⟩
  have m0 : 0 < m := by
    rcases Nat.eq_zero_or_pos m with e | e
    · rw [e, Nat.zero_pow (by omega)] at l1
      exact absurd l1 (Nat.not_lt_zero _)
    · exact e
  have fm : ∀ q, dg m n i q < m := fun q => dg_lt m0
  refine ⟨fm q, ?_, fun b hb e => l2 q hq b hb e (by have := fm q; omega)⟩
  rcases Nat.lt_or_ge (tkf (dg m n i) q) (dg m n i q) with c | c
  · exfalso
    generalize hf : dg m n i = f at *
    generalize ht : tkf f q = t at *
    have fv : f q < m := fm q
    have sm : ∀ p, p < q → f p < t := fun p hp => by have := tkf_ge (r := f) q p hp; omega
    have b1 : ∀ p, p < n → (if f p = t then f q else if f p = f q then t else f p) < m := by
      intro p hp
      have := fm p
      split
      · exact fv
      · split <;> omega
    have inj : ∀ a b, (if f a = t then f q else if f a = f q then t else f a) = (if f b = t then f q else if f b = f q then t else f b) → f a = f b := by
      intro a b
      repeat' split
      all_goals (intro e3; omega)
    obtain ⟨n1, n2⟩ := row_num (m := m) (r := fun p => if f p = t then f q else if f p = f q then t else f p) b1
    have lt : numk m (fun p => if f p = t then f q else if f p = f q then t else f p) n < i := by
      have e2 := numk_dg l1
      rw [hf] at e2
      obtain ⟨dd, hdd⟩ : ∃ dd, n = q + 1 + dd := ⟨n - (q + 1), by omega⟩
      have := numk_lt (m := m) (p := q) (r := fun p => if f p = t then f q else if f p = f q then t else f p) (s := f) dd (fun p hp => by
        have := sm p hp
        show (if f p = t then f q else if f p = f q then t else f p) = f p
        rw [if_neg (by omega), if_neg (by omega)]) (by
        show (if f q = t then f q else if f q = f q then t else f q) < f q
        rw [if_neg (by omega), if_pos rfl]; exact c) (fun p hp => b1 p (by omega))
      rw [← hdd, e2] at this
      exact this
    refine l3 _ lt (clm_congr (fun p hp => (n2 p hp).symm) (fun a ha b hb e3 l => ?_))
    exact l2 a ha b hb (inj a b e3) (by have := fm a; omega)
  · exact c
theorem ok_seatTop {row : FN} (hha : ∀ i, i < 6 → ha i = nI (h i)) (h64 : ∀ i, i < 6 → h i < 64) (hn : n ≤ 6) (hm : m ≤ 6) (hf : 100 ≤ fu) : ok (f_X6_canSeat fu 8 6 (nI n) ha row 0 (nI m) 0) (fun x => (x.1 = 1 ∧ ∃ i, LC n m h i ∧ ∀ q, q < n → x.2 q = nI (dg m n i q)) ∨ (x.1 = 0 ∧ ∀ i, i < m ^ n → ¬ clm n h (dg m n i))) := by
  have z := ok_canSeat (fu := fu) (ha := ha) hha h64 hn hm hf n 0 (by omega) 8 (by omega) (fun _ => 0) row (fun q hq => absurd hq (Nat.not_lt_zero _)) (fun q hq => absurd hq (Nat.not_lt_zero _))
  refine ok_mono z ?_
  rintro ⟨a, R⟩ ⟨-, hx⟩
  have first : ∀ j, j < m ^ n → clm n h (dg m n j) → ∃ i, LC n m h i := by
    intro j hj hc
    obtain ⟨i, ⟨hi, hi2⟩, hl⟩ := pk_least (fun i => i < m ^ n ∧ clm n h (dg m n i)) ⟨j, hj, hc⟩
    exact ⟨i, hi, hi2, fun j' hj' z => hl j' hj' ⟨by omega, z⟩⟩
  rcases hx with ⟨ea, r', q1, q2, q3⟩ | ⟨ea, q1⟩
  · have rm : ∀ q, q < n → r' q < m := fun q hq => (q1.2 q (Nat.zero_le _) hq).1
    have rc : clm n h r' := fun a ha b hb e _ => (q1.2 a (Nat.zero_le _) ha).2.2 b hb e
    obtain ⟨n1, n2⟩ := row_num rm
    obtain ⟨i, L⟩ := first _ n1 (clm_congr (fun q hq => (n2 q hq).symm) rc)
    refine Or.inl ⟨ea, i, L, fun q hq => ?_⟩
    have h1 := q3 _ (LC_can hm L)
    rw [numk_dg L.1] at h1
    have h2 : i ≤ numk m r' n := by
      rcases Nat.lt_or_ge (numk m r' n) i with c | c
      · exact absurd (clm_congr (fun q hq => (n2 q hq).symm) rc) (L.2.2 _ c)
      · exact c
    have h3 : numk m r' n = i := by omega
    have := n2 q hq
    rw [h3] at this
    rw [this]
    exact q2 q hq
  · refine Or.inr ⟨ea, fun i hi hc => ?_⟩
    obtain ⟨i2, L⟩ := first i hi hc
    exact q1 _ (LC_can hm L)
/-- the fewest tables, and their first row -/
def FT (n : Nat) (h : Nat → Nat) (m i : Nat) : Prop := m ≤ n ∧ LC n m h i ∧ ∀ m', m' < m → ∀ i, i < m' ^ n → ¬ clm n h (dg m' n i)
theorem FT_ex (h0 : 0 < n) : ∃ m i, FT n h m i := by
  have e : ∃ m, m ≤ n ∧ ∃ i, i < m ^ n ∧ clm n h (dg m n i) := by
    obtain ⟨n1, n2⟩ := row_num (n := n) (m := n) (r := fun p => p) (fun q hq => hq)
    refine ⟨n, Nat.le_refl n, _, n1, clm_congr (r := fun p => p) (fun q hq => (n2 q hq).symm) (fun a ha b hb e _ => ?_)⟩
    have e : a = b := e
    omega
  obtain ⟨m, ⟨hm, i, hi, hc⟩, hl⟩ := pk_least _ e
  obtain ⟨i2, ⟨hi2, hc2⟩, hl2⟩ := pk_least (fun i => i < m ^ n ∧ clm n h (dg m n i)) ⟨i, hi, hc⟩
  refine ⟨m, i2, hm, ⟨hi2, hc2, fun j hj z => hl2 j hj ⟨by omega, z⟩⟩, fun m' hm' i hi hc => hl m' hm' ⟨by omega, i, hi, hc⟩⟩
theorem LC_un {j : Nat} (L1 : LC n m h i) (L2 : LC n m h j) : i = j := by
  rcases Nat.lt_trichotomy i j with c | c | c
  · exact absurd L1.2.1 (L2.2.2 i c)
  · exact c
  · exact absurd L2.2.1 (L1.2.2 j c)
theorem ok_fewestTables {p2 : Int32} {row : FN} (hha : ∀ i, i < 6 → ha i = nI (h i)) (h64 : ∀ i, i < 6 → h i < 64) (hn : n ≤ 6) (F : FT n h m i) (hf : 1000 ≤ fu) : ok (f_X6_fewestTables fu row (nI n) ha p2) (fun x => (p2 = -1 → x.1 = nI m) ∧ ∀ k, k < n → p2 = nI k → x.1 = nI (dg m n i k)) := by
  obtain ⟨fm, fl, fn⟩ := F
  unfold f_X6_fewestTables
  have fin : ∀ v8 : FN, (∀ q, q < n → v8 q = nI (dg m n i q)) → ok (if p2 < 0 then some (nI m, v8) else if p2 < 6 then bnd (rdi 6 v8 p2) (fun x9 => some (x9, v8)) else some (nI m, v8)) (fun x => (p2 = -1 → x.1 = nI m) ∧ ∀ k, k < n → p2 = nI k → x.1 = nI (dg m n i k)) := by
    intro v8 hv
    refine ok_ite (fun q => ?_) (fun q => ?_)
    · refine ok_some ⟨fun _ => rfl, fun k hk e => ?_⟩
      rw [e] at q
      exact absurd q (nI_pos (by omega))
    · refine ok_ite (fun q2 => ?_) (fun q2 => ?_)
      · obtain ⟨j, hj, rfl⟩ := nI_of q
        have j6 : j < 6 := by rw [show (6 : Int32) = nI 6 from rfl, nI_ltI hj (by decide)] at q2; exact q2
        rw [rdi_n j6 (by decide) rfl, bnd_some]
        refine ok_some ⟨fun z => absurd z (nI_nm1 hj), fun k hk e => ?_⟩
        have e2 : j = k := (nI_eq hj (by omega)).1 e
        show v8 j = _
        rw [e2]
        exact hv k hk
      · refine ok_some ⟨fun _ => rfl, fun k hk e => ?_⟩
        rw [e] at q2
        exact absurd (show nI k < 6 from nI_lt (b := 6) (by omega) (by decide)) q2
  refine ok_bnd (ok_mono (ok_up (step := f_X6_fewestTables_L2 fu (nI n) ha) (P := fun v => (v.1 = nI m ∧ m < n ∧ ∀ q, q < n → v.2 q = nI (dg m n i q)) ∨ (v.1 = nI m ∧ m = n)) n (fun j s => s.1 = nI j ∧ j ≤ m) ?_ ?_ n fu 0 _ (by omega) (by omega) ⟨rfl, Nat.zero_le _⟩) ?_)
  · rintro j ⟨c, R⟩ hj ⟨rfl, g1⟩
    simp only [f_X6_fewestTables_L2]
    rw [if_neg (nI_ge hj (by omega))]
    refine ok_bnd (ok_mono (ok_seatTop (m := j) hha h64 hn (by omega) (by omega)) ?_)
    rintro ⟨a, R2⟩ hx
    rcases hx with ⟨ea, i2, L, q2⟩ | ⟨ea, q1⟩
    · have ea : a = 1 := ea
      subst ea
      rw [if_neg i10]
      have jm : j = m := by
        rcases Nat.lt_or_ge j m with c | c
        · exact absurd L.2.1 (fn j c i2 L.1)
        · have g1 : j ≤ m := g1; omega
      subst jm
      rw [LC_un L fl] at q2
      exact ok_some (Or.inl ⟨rfl, hj, q2⟩)
    · have ea : a = 0 := ea
      subst ea
      rw [if_pos i00]
      refine ok_some ⟨nI_1 j, ?_⟩
      rcases Nat.lt_or_ge j m with c | c
      · exact c
      · have g1 : j ≤ m := g1
        have jm : j = m := by omega
        subst jm
        exact absurd fl.2.1 (q1 i fl.1)
  · rintro ⟨c, R⟩ ⟨rfl, g1⟩
    have g1 : n ≤ m := g1
    have e : m = n := by omega
    simp only [f_X6_fewestTables_L2, if_pos (nI_le (Nat.le_refl n) (by omega : n < 2 ^ 31))]
    exact ok_some (Or.inr ⟨by rw [e], e⟩)
  · rintro ⟨a, R⟩ hx
    rcases hx with ⟨ea, c, q2⟩ | ⟨ea, c⟩
    · have ea : a = nI m := ea
      subst ea
      rw [if_neg (show ¬ nI m = nI n from fun z => by have := (nI_eq (by omega) (by omega)).1 z; omega), bnd_some]
      exact fin R q2
    · have ea : a = nI m := ea
      subst ea
      subst c
      rw [if_pos rfl]
      have st := ok_seatTop (fu := fu) (row := R) (m := m) hha h64 hn hn (by omega)
      obtain ⟨⟨a2, R2⟩, e2, hx⟩ := st
      have e2 : f_X6_canSeat fu 8 6 (nI m) ha R 0 (nI m) 0 = some (a2, R2) := e2
      rw [e2, bnd_some, bnd_some]
      rcases hx with ⟨_, i2, L, q2⟩ | ⟨_, q1⟩
      · rw [LC_un L fl] at q2
        exact fin R2 q2
      · exact absurd fl.2.1 (q1 i fl.1)
theorem e_tables0 {p2 : Int32} {row : FN} (e : p2 = -1) (hf : 100 ≤ fu) : ok (f_X6_fewestTables fu row (nI 0) ha p2) (fun x => x.1 = 0) := by
  unfold f_X6_fewestTables
  have e1 : lp (f_X6_fewestTables_L2 fu (nI 0) ha) fu ((0 : Int32), row) = some (0, row) := lp_e (by simp only [f_X6_fewestTables_L2]; rw [if_pos (by decide)]) (by omega)
  have e2 : f_X6_canSeat fu 8 6 (nI 0) ha row 0 0 0 = some (1, row) := by
    show F_X6_canSeat (f_X6_canSeat fu 7) fu 6 (nI 0) ha row 0 0 0 = _
    unfold F_X6_canSeat
    rw [if_pos (by decide)]
  rw [e1, bnd_some]
  show ok (bnd (if (0 : Int32) = nI 0 then bnd (f_X6_canSeat fu 8 6 (nI 0) ha row 0 0 0) (fun x10 => some x10.2) else some row) (fun v8 => if p2 < 0 then some ((0 : Int32), v8) else if p2 < 6 then bnd (rdi 6 v8 p2) (fun x9 => some (x9, v8)) else some ((0 : Int32), v8))) _
  rw [if_pos (show (0 : Int32) = nI 0 from rfl), e2, bnd_some, bnd_some, if_pos (by rw [e]; decide)]
  exact ok_some rfl
abbrev QT : Type := Int32 × Int32 × Int32 × Int32 × Int32 × Int32 × Int32 × Int32 × Int32 × Int32 × Int32 × FN × FN × FN × FN × FN × FN
theorem ok_tablesM {y : HT} {p2 : Int32} {row : FN} (hy : Hd t n pu o y) (hM : ∀ i, i < 6 → M (55 * t + 13 + i) = nI (h i)) (h64 : ∀ i, i < 6 → h i < 64) (ht : t < 8) (hn : n ≤ 6) (F : FT n h m i) (m0 : 0 < m) (hp2 : p2 = -1 ∨ ∃ k, k < n ∧ p2 = nI k) (hf : 200000 ≤ fu) : ok (lp (f_X12_tables_L31 fu M p2 y) fu ((1 : Int32), row)) (fun x => ∃ z : QT, x = .inl z ∧ (p2 = -1 → z.1 = nI m) ∧ ∀ k, k < n → p2 = nI k → z.1 = nI (dg m n i k)) := by
  obtain ⟨y1, y2, y3, -, y5, -, y7, -, -⟩ := hy
  obtain ⟨fm, fl, fn⟩ := F
  have inner : ∀ (m' : Nat) (s4 : Int32 × FN), s4.1 = nI m' → 0 < m' → m' ≤ m → ok (lp (f_X12_tables_L42 fu M p2 y s4) fu ((0 : Int32), s4.2)) (fun x => (m' < m → ∃ R, x = .inr R) ∧ (m' = m → ∃ z : QT, x = .inl z ∧ (p2 = -1 → z.1 = nI m) ∧ ∀ k, k < n → p2 = nI k → z.1 = nI (dg m n i k))) := by
    intro m' s4 e4 h0 hm'
    have pb : m' ^ n ≤ 6 ^ 6 := Nat.le_trans (Nat.pow_le_pow_left (by omega) n) (Nat.pow_le_pow_right (by decide) hn)
    have pb2 : 6 ^ 6 = 46656 := by decide
    refine ok_up (m' ^ n) (fun j s => s.1 = nI j ∧ (m' = m → j ≤ i)) ?_ ?_ (m' ^ n) fu 0 _ (by omega) (by omega) ⟨rfl, fun _ => Nat.zero_le _⟩
    · rintro j ⟨c, R⟩ hj ⟨rfl, g1⟩
      have g1 : m' = m → j ≤ i := g1
      simp only [f_X12_tables_L42, y2, y3, e4]
      rw [e_rowsOf hn (by omega), bnd_some, if_neg (nI_ge hj (by omega))]
      refine ok_bnd (ok_mono (ok_layRow hn h0 (by omega) (show j < 2 ^ 31 by omega) (by omega)) ?_)
      intro R2 hR2
      refine ok_bnd (ok_eq (e_isCalm (r := dg m' n j) hR2 (fun q _ => by have := dg_lt (m := m') (n := n) (i := j) (p := q) h0; omega) hM h64 ht hn (by omega)) ?_)
      by_cases c : clmB n h (dg m' n j) = true
      · have cc := clmB_t.1 c
        have em : m' = m := by
          rcases Nat.lt_or_ge m' m with z | z
          · exact absurd cc (fn m' z j hj)
          · omega
        have ej : j = i := by
          have := g1 em
          rcases Nat.lt_or_ge j i with z | z
          · rw [em] at cc; exact absurd cc (fl.2.2 j z)
          · omega
        rw [if_pos c, if_neg i10]
        rcases hp2 with e | ⟨k, hk, e⟩
        · rw [if_pos e]
          refine ok_some ⟨fun z => absurd z (by omega), fun _ => ⟨_, rfl, fun _ => by rw [em], fun k hk e2 => ?_⟩⟩
          exact absurd (e2.symm.trans e) (nI_nm1 (by omega))
        · rw [if_neg (by rw [e]; exact nI_nm1 (by omega)), e, rdi_n (show k < 6 by omega) (by decide) (hR2 k hk), bnd_some]
          refine ok_some ⟨fun z => absurd z (by omega), fun _ => ⟨_, rfl, fun z => absurd z (nI_nm1 (by omega)), fun k2 hk2 e2 => ?_⟩⟩
          have : k = k2 := (nI_eq (by omega) (by omega)).1 e2
          rw [← this, em, ej]
      · rw [if_neg c, if_pos i00]
        refine ok_some ⟨nI_1 j, fun em => ?_⟩
        have := g1 em
        rcases Nat.lt_or_ge j i with z | z
        · exact z
        · have ej : j = i := by omega
          rw [em, ej] at c
          exact absurd (clmB_t.2 fl.2.1) c
    · rintro ⟨c, R⟩ ⟨rfl, g1⟩
      have g1 : m' = m → m' ^ n ≤ i := g1
      simp only [f_X12_tables_L42, y2, y3, e4]
      rw [e_rowsOf hn (by omega), bnd_some, if_pos (nI_le (Nat.le_refl _) (by omega))]
      refine ok_some ⟨fun _ => ⟨R, rfl⟩, fun em => ?_⟩
      have := g1 em
      rw [em] at this
      have := fl.1
      omega
  refine ok_up m (fun j s => s.1 = nI (j + 1) ∧ j < m) ?_ ?_ m fu 0 _ (by omega) (by omega) ⟨rfl, m0⟩
  · rintro j ⟨c, R⟩ hj ⟨rfl, g1⟩
    simp only [f_X12_tables_L31, y3]
    rw [if_neg (nI_nlt (show j + 1 ≤ n by omega) (by omega))]
    refine ok_bnd (ok_mono (inner (j + 1) (nI (j + 1), R) rfl (by omega) (by omega)) ?_)
    rintro x ⟨h1, h2⟩
    rcases Nat.lt_or_ge (j + 1) m with z | z
    · obtain ⟨R2, rfl⟩ := h1 z
      exact ok_some ⟨nI_1 (j + 1), z⟩
    · obtain ⟨q, rfl, q1, q2⟩ := h2 (by omega)
      exact ok_some ⟨q, rfl, q1, q2⟩
  · rintro ⟨c, R⟩ ⟨_, g1⟩
    exact absurd g1 (Nat.lt_irrefl _)
end TBL
