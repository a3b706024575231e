/-! ===== lenders: the reference ===== -/
section LNM
variable {fu n t a b had k : Nat} {w pu h o : Nat → Nat} {pr tb M : FN}
theorem e_X12_couple (hM : ∀ i, i < 6 → M (55 * t + 1 + i) = nI (w i)) (ht : t < 8) (hpr : ∀ i, i < 6 → pr i = nI (pu i)) (hp : ∀ i, i < 6 → pu i ≤ 99) (ha : a < 6) (hb : b < 6) : f_X12_couple fu M (nI t) pr (nI a) (nI b) = some (nI (cpV w pu a b)) := by
  have e1 : f_X12_of fu M (nI t) (nI (1 + b)) = some (nI (w b)) := e_X12_of (by rw [← hM b hb, Nat.add_assoc]) (by omega)
  have h1 := hp a ha
  have h2 := hp b hb
  simp only [f_X12_couple, rdi_n ha (by decide) (hpr a ha), rdi_n hb (by decide) (hpr b hb), bnd_some, i1_add, e1]
  unfold cpV
  by_cases q : pu a ≤ pu b
  · rw [if_pos (nI_le q (by omega)), if_pos q]; rfl
  · rw [if_neg (nI_ge (by omega) (by omega)), if_neg q]
theorem e_lend6 {v : Nat} (ha : a < 6) (hh : had < 64) (hT : tb (64 * (a + 1) + had) = nI v) : f_X12_lendingBy fu M (nI t) (nI n) pr tb (nI a) (nI had) (nI 6) = some (nI v) := by
  unfold f_X12_lendingBy
  rw [if_pos (show nI 6 = (6 : Int32) from rfl), nI_1, show (64 : Int32) = nI 64 from rfl, pk_mul, nI_add, rdi_n (show 64 * (a + 1) + had < 448 by omega) (by decide) hT]
  rfl
theorem e_lend (hM : ∀ i, i < 6 → M (55 * t + 1 + i) = nI (w i)) (ht : t < 8) (hpr : ∀ i, i < 6 → pr i = nI (pu i)) (hp : ∀ i, i < 6 → pu i ≤ 99) (hn : n ≤ 6) (ha : a < 6) (hb : b < 6) (hh : had < 64) (hT : ∀ s, s < 64 → tb (64 * (a + 1) + s) = nI (Lk n w pu (n - (a + 1)) s)) : f_X12_lendingBy fu M (nI t) (nI n) pr tb (nI a) (nI had) (nI b) = some (if b < n ∧ b ≠ a ∧ bi had b = 0 then nI (cpV w pu a b + Lk n w pu (n - (a + 1)) (had ||| 2 ^ b)) else -1000000) := by
  have h3 : had ||| 2 ^ b < 2 ^ 6 := or_pow (n := 6) hh (pw_lt (by omega))
  have hb2 := bi_lt had b
  unfold f_X12_lendingBy
  rw [if_neg (show ¬ nI b = 6 by rw [show (6 : Int32) = nI 6 from rfl, nI_eq (by omega) (by decide)]; omega)]
  by_cases q1 : b < n
  · rw [if_neg (nI_ge q1 (by omega))]
    by_cases q2 : b = a
    · rw [if_pos (by rw [q2]), if_neg (fun z => z.2.1 q2)]
    · rw [if_neg (by rw [nI_eq (by omega) (by omega)]; exact q2), e_X12_has hh hb, bnd_some]
      by_cases q3 : bi had b = 0
      · rw [if_pos ((nI_eq0 (by omega)).2 q3), e_X12_couple hM ht hpr hp ha hb, bnd_some, nI_1, jshl_1 b (by omega), fa_or, show (64 : Int32) = nI 64 from rfl, pk_mul, nI_add, rdi_n (show 64 * (a + 1) + (had ||| 2 ^ b) < 448 by omega) (by decide) (hT _ h3), bnd_some, nI_add, if_pos ⟨q1, q2, q3⟩]
      · rw [if_neg (fun z => q3 ((nI_eq0 (by omega)).1 z)), if_neg (fun z => q3 z.2.2)]
  · rw [if_pos (nI_le (by omega) (by omega)), if_neg (fun z => q1 z.1)]
def mayN (n a had b : Nat) : Bool := decide (b < n) && mayL a had b
theorem mayN_t : mayN n a had b = true ↔ b < n ∧ b ≠ a ∧ bi had b = 0 := by
  unfold mayN
  rw [Bool.and_eq_true, decide_eq_true_eq, mayL_t]
def gR (n : Nat) (w pu : Nat → Nat) (a had j x : Nat) : Nat := if j = 6 then max x (Lk n w pu (n - (a + 1)) had) else if mayN n a had j = true then max x (cpV w pu a j + Lk n w pu (n - (a + 1)) (had ||| 2 ^ j)) else x
theorem gR_eq (hn : n ≤ 6) (ha : a < n) : fldN (gR n w pu a had) 0 7 0 = Lk n w pu (n - a) had := by
  have e1 : fldN (gR n w pu a had) 0 6 0 = mx (mayN n a had) (fun b => cpV w pu a b + Lk n w pu (n - (a + 1)) (had ||| 2 ^ b)) 6 0 := by
    unfold mx
    refine fldN_congr 6 0 0 (fun i x _ hi => ?_)
    show (if i = 6 then _ else _) = _
    rw [if_neg (by omega)]
  have e2 : fldN (gR n w pu a had) 0 7 0 = max (fldN (gR n w pu a had) 0 6 0) (Lk n w pu (n - (a + 1)) had) := by
    rw [fldN_succ (gR n w pu a had) 6 0 0]
    show (if 0 + 6 = 6 then _ else _) = _
    rw [if_pos rfl]
  rw [e2, e1, Lk_s ha]
  refine Nat.le_antisymm (Nat.max_le.2 ⟨mx_le 6 (Nat.zero_le _) (fun b hb hc => ?_), mx_init n⟩) (mx_le n (Nat.le_max_right _ _) (fun b hb hc => ?_))
  · have := mayN_t.1 hc
    exact mx_ge (c := mayL a had) (f := fun b => cpV w pu a b + Lk n w pu (n - (a + 1)) (had ||| 2 ^ b)) n b this.1 (mayL_t.2 this.2)
  · exact Nat.le_trans (mx_ge (c := mayN n a had) (f := fun b => cpV w pu a b + Lk n w pu (n - (a + 1)) (had ||| 2 ^ b)) (x := 0) 6 b (by omega) (mayN_t.2 ⟨hb, mayL_t.1 hc⟩)) (Nat.le_max_left _ _)
theorem e_lrow {s2 s6 : Int32 × FN} (h2 : s2.1 = nI a) (h6 : s6.1 = nI had) (hM : ∀ i, i < 6 → M (55 * t + 1 + i) = nI (w i)) (ht : t < 8) (hpr : ∀ i, i < 6 → pr i = nI (pu i)) (hw : ∀ i, i < 6 → w i ≤ 9) (hp : ∀ i, i < 6 → pu i ≤ 99) (hn : n ≤ 6) (ha : a ≤ n) (hh : had < 64) (hT : a < n → ∀ s, s < 64 → s6.2 (64 * (a + 1) + s) = nI (Lk n w pu (n - (a + 1)) s)) (hf : 100 ≤ fu) : lp (f_X12_findLendings_L22 fu M (nI t) (nI n) pr s2 s6) fu ((0 : Int32), (0 : Int32)) = some (nI (Lk n w pu (n - a) had)) := by
  by_cases q : a < n
  · have key := (lp_up (step := f_X12_findLendings_L22 fu M (nI t) (nI n) pr s2 s6) (fun j x => (nI x, nI j)) (gR n w pu a had) 7 (fun x => nI x) (fun _ x => x ≤ 100) (fun j x hj hx => by
      have b0 := Lk_100 (pu := pu) (a := a + 1) (had := had) hw hn
      have b1 := Lk_100 (pu := pu) (a := a + 1) (had := had ||| 2 ^ j) hw hn
      by_cases e : j = 6
      · subst e
        refine ⟨?_, ?_⟩
        · simp only [f_X12_findLendings_L22, h2, h6, if_neg (nI_ge q (by omega : n < 2 ^ 31)), e_lend6 (fu := fu) (M := M) (t := t) (n := n) (pr := pr) (show a < 6 by omega) hh (hT q had hh), bnd_some, e_greater, jmax_n (show x < 2 ^ 31 by omega) (show Lk n w pu (n - (a + 1)) had < 2 ^ 31 by omega), nI_1, gR]
          rw [if_neg (by decide)]
          rfl
        · show max x (Lk n w pu (n - (a + 1)) had) ≤ 100
          exact Nat.max_le.2 ⟨hx, by omega⟩
      · have b2 := cpV_le (pu := pu) (a := a) hw (show j < 6 by omega)
        have e6 : ¬ (6 : Int32) < nI j := by rw [show (6 : Int32) = nI 6 from rfl]; exact nI_nlt (by omega) (by decide)
        refine ⟨?_, ?_⟩
        · simp only [f_X12_findLendings_L22, h2, h6, if_neg e6, if_neg (nI_ge q (by omega : n < 2 ^ 31)), e_lend (fu := fu) hM ht hpr hp hn (show a < 6 by omega) (show j < 6 by omega) hh (hT q), bnd_some, e_greater, nI_1, gR, if_neg e, mayN_t]
          by_cases q2 : j < n ∧ j ≠ a ∧ bi had j = 0
          · rw [if_pos q2, if_pos q2, jmax_n (show x < 2 ^ 31 by omega) (show cpV w pu a j + Lk n w pu (n - (a + 1)) (had ||| 2 ^ j) < 2 ^ 31 by omega)]
          · rw [if_neg q2, if_neg q2, jmax_far (by omega)]
        · show (if j = 6 then _ else if mayN n a had j = true then _ else _) ≤ 100
          rw [if_neg e]
          split
          · exact Nat.max_le.2 ⟨hx, by omega⟩
          · exact hx) (fun x _ => by
      simp only [f_X12_findLendings_L22]
      rw [if_pos (by decide)]) 7 fu 0 0 (by omega) (by omega) (by omega)).1
    rw [gR_eq hn q] at key
    exact key
  · have e : a = n := by omega
    have key := lp_up0 (step := f_X12_findLendings_L22 fu M (nI t) (nI n) pr s2 s6) (α := Unit) (fun _ _ => ((0 : Int32), (0 : Int32))) (fun _ x => x) 0 (fun _ => (0 : Int32)) (fun j _ hj => absurd hj (by omega)) (fun _ => by
      simp only [f_X12_findLendings_L22, h2, e, if_pos (nI_le (Nat.le_refl n) (by omega : n < 2 ^ 31))]
      rw [if_neg (by decide)]) (fu := fu) (a := ()) (by omega)
    rw [key, e, Nat.sub_self]
    rfl
theorem ok_frow {s2 : Int32 × FN} (h2 : s2.1 = nI a) (hM : ∀ i, i < 6 → M (55 * t + 1 + i) = nI (w i)) (ht : t < 8) (hpr : ∀ i, i < 6 → pr i = nI (pu i)) (hw : ∀ i, i < 6 → w i ≤ 9) (hp : ∀ i, i < 6 → pu i ≤ 99) (hn : n ≤ 6) (ha : a ≤ n) (hT : a < n → ∀ s, s < 64 → tb (64 * (a + 1) + s) = nI (Lk n w pu (n - (a + 1)) s)) (hf : 100 ≤ fu) : ok (lp (f_X12_findLendings_L11 fu M (nI t) (nI n) pr s2) fu ((0 : Int32), tb)) (fun T => (∀ s, s < 64 → T (64 * a + s) = nI (Lk n w pu (n - a) s)) ∧ ∀ i, 64 * (a + 1) ≤ i → T i = tb i) := by
  refine ok_up 64 (fun j s => s.1 = nI j ∧ (∀ q, q < j → s.2 (64 * a + q) = nI (Lk n w pu (n - a) q)) ∧ ∀ i, 64 * (a + 1) ≤ i → s.2 i = tb i) ?_ ?_ 64 fu 0 _ (by omega) (by omega) ⟨rfl, fun q h => absurd h (by omega), fun _ _ => rfl⟩
  · rintro j ⟨c, T⟩ hj ⟨rfl, h1, h3⟩
    have h3 : ∀ i, 64 * (a + 1) ≤ i → T i = tb i := h3
    have h1 : ∀ q, q < j → T (64 * a + q) = nI (Lk n w pu (n - a) q) := h1
    have e64 : ¬ (64 : Int32) ≤ nI j := by rw [show (64 : Int32) = nI 64 from rfl]; exact nI_ge hj (by decide)
    simp only [f_X12_findLendings_L11, if_neg e64]
    refine ok_bnd (ok_eq (e_lrow (a := a) (had := j) (s6 := (nI j, T)) h2 rfl hM ht hpr hw hp hn ha hj (fun q s hs => (h3 _ (by omega)).trans (hT q s hs)) hf) ?_)
    rw [h2, show (64 : Int32) = nI 64 from rfl, pk_mul, nI_add, wri_n (show 64 * a + j < 448 by omega) (by decide), bnd_some]
    refine ok_some ⟨nI_1 j, fun q hq => ?_, fun i hi => ?_⟩
    · by_cases e : q = j
      · rw [e]; exact pk_us
      · exact (pk_un (by omega)).trans (h1 q (by omega))
    · exact (pk_un (by omega)).trans (h3 i hi)
  · rintro ⟨c, T⟩ ⟨rfl, h1, h3⟩
    simp only [f_X12_findLendings_L11]
    rw [if_pos (by decide)]
    exact ok_some ⟨h1, h3⟩
theorem ok_findLendings (hM : ∀ i, i < 6 → M (55 * t + 1 + i) = nI (w i)) (ht : t < 8) (hpr : ∀ i, i < 6 → pr i = nI (pu i)) (hw : ∀ i, i < 6 → w i ≤ 9) (hp : ∀ i, i < 6 → pu i ≤ 99) (hn : n ≤ 6) (hf : 100 ≤ fu) : ok (f_X12_findLendings fu M (nI t) (nI n) pr tb) (fun T => ∀ a, a ≤ n → ∀ s, s < 64 → T (64 * a + s) = nI (Lk n w pu (n - a) s)) := by
  unfold f_X12_findLendings
  refine ok_bnd (ok_mono (ok_up (step := f_X12_findLendings_L5 fu M (nI t) (nI n) pr) (P := fun T => ∀ a, a ≤ n → ∀ s, s < 64 → T (64 * a + s) = nI (Lk n w pu (n - a) s)) (n + 1) (fun j s => s.1 = nI (n + 1 - j) - 1 ∧ ∀ a, n + 1 - j ≤ a → a ≤ n → ∀ q, q < 64 → s.2 (64 * a + q) = nI (Lk n w pu (n - a) q)) ?_ ?_ (n + 1) fu 0 _ (by omega) (by omega) ⟨(nI_pred n).symm, fun a h1 h2 => absurd h1 (by omega)⟩) (fun T hT => ok_some hT))
  · rintro j ⟨c, T⟩ hj ⟨rfl, h1⟩
    obtain ⟨a, ha⟩ : ∃ a, n + 1 - j = a + 1 := ⟨n - j, by omega⟩
    have e1 : nI (n + 1 - j) - 1 = nI a := by rw [ha]; exact nI_pred a
    have h1 : ∀ a, n + 1 - j ≤ a → a ≤ n → ∀ q, q < 64 → T (64 * a + q) = nI (Lk n w pu (n - a) q) := h1
    simp only [f_X12_findLendings_L5]
    rw [if_neg (by rw [e1]; exact nI_pos (by omega))]
    refine ok_bnd (ok_mono (ok_frow (a := a) e1 hM ht hpr hw hp hn (by omega) (fun q s hs => h1 (a + 1) (by omega) (by omega) s hs) hf) ?_)
    rintro T2 ⟨g1, g2⟩
    refine ok_some ⟨?_, ?_⟩
    · show nI (n + 1 - j) - 1 + (-1) = nI (n + 1 - (j + 1)) - 1
      rw [e1, show n + 1 - (j + 1) = a by omega, am1]
    · intro a' h1' h2' q hq
      by_cases e : a' = a
      · rw [e]; exact g1 q hq
      · exact (g2 _ (by omega)).trans (h1 a' (by omega) h2' q hq)
  · rintro ⟨c, T⟩ ⟨rfl, h1⟩
    simp only [f_X12_findLendings_L5, Nat.sub_self]
    rw [if_pos (by decide)]
    exact ok_some (fun a ha q hq => h1 a (by omega) ha q hq)
theorem e_lfirst {y : HT} {s5 : Int32 × Int32 × Int32} (hy : Hd t n pu o y) (h5 : s5.1 = nI had) (h6 : s5.2.2 = nI a) (hM : ∀ i, i < 6 → M (55 * t + 1 + i) = nI (w i)) (ht : t < 8) (hw : ∀ i, i < 6 → w i ≤ 9) (hp : ∀ i, i < 6 → pu i ≤ 99) (hn : n ≤ 6) (ha : a < n) (hh : had < 2 ^ n) (hT : ∀ a, a ≤ n → ∀ s, s < 64 → tb (64 * a + s) = nI (Lk n w pu (n - a) s)) (hf : 100 ≤ fu) : lp (f_X12_lenders_L51 fu M y tb s5) fu (0 : Int32) = some (nI (fb n w pu a had)) := by
  obtain ⟨y1, y2, y3, -, y5, -, y7, -, -⟩ := hy
  have h64 := pw64 hn
  have h0 := Lk_100 (pu := pu) (a := a) (had := had) hw hn
  have est : ∀ i, i < 6 → f_X12_lenders_L51 fu M y tb s5 (nI i) = if i < n ∧ isBw n w pu a had i = true then some (.inr (nI i)) else some (.inl (nI (i + 1))) := by
    intro i hi
    have b1 := Lk_100 (pu := pu) (a := a + 1) (had := had ||| 2 ^ i) hw hn
    have b2 := cpV_le (pu := pu) (a := a) hw (show i < 6 by omega)
    simp only [f_X12_lenders_L51, h5, h6, y2, y3, e_lend (fu := fu) hM ht y5 hp hn (show a < 6 by omega) hi (show had < 64 by omega) (hT (a + 1) (by omega)), bnd_some, li_64, pk_mul, nI_add, rdi_n (show 64 * a + had < 448 by omega) (by decide) (hT a (by omega) had (by omega)), nI_1, isBw_t]
    by_cases q : i < n ∧ i ≠ a ∧ bi had i = 0
    · rw [if_pos q]
      by_cases q3 : cpV w pu a i + Lk n w pu (n - (a + 1)) (had ||| 2 ^ i) = Lk n w pu (n - a) had
      · rw [if_pos ((nI_eq (by omega) (by omega)).2 q3), if_pos ⟨q.1, q.2, q3⟩]
      · rw [if_neg (fun z => q3 ((nI_eq (by omega) (by omega)).1 z)), if_neg (fun z => q3 z.2.2)]
    · rw [if_neg q, if_neg (far_ne (by omega)), if_neg (fun z => q ⟨z.1, z.2.1⟩)]
  unfold fb
  rcases fr_p (c := isBw n w pu a had) (d := 6) n 0 with ⟨b, h1, h2, h3, h4, h5'⟩ | ⟨h1, h2⟩
  · rw [h5']
    exact lp_to (fu := fu) (step := f_X12_lenders_L51 fu M y tb s5) (r := nI b) b (fun i hi => by rw [est i (by omega), if_neg (fun z => h4 i (by omega) hi z.2)]) (by rw [est b (by omega), if_pos ⟨by omega, h3⟩]) (by omega)
  · rw [h2]
    have e6 : Lk n w pu (n - a) had = Lk n w pu (n - (a + 1)) had := by
      rcases mx_at (c := mayL a had) (f := fun b => cpV w pu a b + Lk n w pu (n - (a + 1)) (had ||| 2 ^ b)) (x := Lk n w pu (n - (a + 1)) had) n with z | ⟨b, z1, z2, z3⟩
      · rw [Lk_s ha]; exact z
      · exact absurd (isBw_t.2 ⟨mayL_t.1 z2, by rw [Lk_s ha]; exact z3.symm⟩) (h1 b (by omega) (by omega))
    exact lp_to (fu := fu) (step := f_X12_lenders_L51 fu M y tb s5) (r := nI 6) 6 (fun i hi => by rw [est i (by omega), if_neg (fun z => h1 i (by omega) (by omega) z.2)]) (by
      simp only [f_X12_lenders_L51, h5, h6, y2, y3, e_lend6 (fu := fu) (M := M) (t := t) (n := n) (pr := y.2.2.2.2.2.2.2.2.2.2.1) (show a < 6 by omega) (show had < 64 by omega) (hT (a + 1) (by omega) had (by omega)), bnd_some, li_64, pk_mul, nI_add, rdi_n (show 64 * a + had < 448 by omega) (by decide) (hT a (by omega) had (by omega)), e6]
      rw [if_pos trivial]) (by omega)
theorem e_lenders {y : HT} (hy : Hd t n pu o y) (hM : ∀ i, i < 6 → M (55 * t + 1 + i) = nI (w i)) (ht : t < 8) (hw : ∀ i, i < 6 → w i ≤ 9) (hp : ∀ i, i < 6 → pu i ≤ 99) (hn : n ≤ 6) (hk : k < n) (hT : ∀ a, a ≤ n → ∀ s, s < 64 → tb (64 * a + s) = nI (Lk n w pu (n - a) s)) (hf : 100 ≤ fu) : lp (f_X12_lenders_L42 fu M (nI k) y tb) fu ((0 : Int32), (6 : Int32), (0 : Int32)) = some (nI (fldN (gL n w pu) 0 (k + 1) (0, 6)).2) := by
  have h64 := pw64 hn
  exact (lp_up (step := f_X12_lenders_L42 fu M (nI k) y tb) (fun j (x : Nat × Nat) => (nI x.1, nI x.2, nI j)) (gL n w pu) (k + 1) (fun x => nI x.2) (fun _ x => x.1 < 2 ^ n) (fun j x hj hx => by
    refine ⟨?_, gL_lt hx⟩
    have b7 := fb_7 (w := w) (pu := pu) (a := j) (had := x.1) hn
    simp only [f_X12_lenders_L42, if_neg (nI_nlt (show j ≤ k by omega) (by omega : k < 2 ^ 31))]
    rw [e_lfirst (s5 := (nI x.1, nI x.2, nI j)) hy rfl rfl hM ht hw hp hn (show j < n by omega) hx hT hf, bnd_some]
    simp only [ltn, show (6 : Int32) = nI 6 from rfl, nI_leI (show 6 < 2 ^ 31 by decide) (show fb n w pu j x.1 < 2 ^ 31 by omega), nI_1, jshl_1' b7, fa_or, gL, i0_or]
    by_cases q : fb n w pu j x.1 = 6
    · rw [if_pos (by omega), if_pos q]
    · rw [if_neg (by omega), if_neg q]) (fun x _ => by
    simp only [f_X12_lenders_L42, if_pos (nI_lt (show k < k + 1 by omega) (by omega))]) (k + 1) fu 0 (0, 6) (by omega) (by omega) (Nat.two_pow_pos n)).1
/-- a person, or all -/
theorem kprs (x : Int32) (hn : n ≤ 6) : (x = -1 ∧ f_X12_in fu x (-1) (nI n - 1) = some 1) ∨ (∃ p, p < n ∧ x = nI p ∧ ¬ x = -1 ∧ f_X9_has fu (nI n) x = some 1 ∧ f_X12_in fu x (-1) (nI n - 1) = some 1) ∨ (¬ x = -1 ∧ f_X9_has fu (nI n) x = some 0 ∧ f_X12_in fu x (-1) (nI n - 1) = some 0) := by
  have hm := nI_m1 n (by omega)
  have h1 : (-1 : Int32).toInt = -1 := by decide
  have h0 : (0 : Int32).toInt = 0 := rfl
  by_cases e : x = -1
  · refine Or.inl ⟨e, ?_⟩
    have q1 : ¬ x < -1 := by rw [fa_lt, e]; omega
    have q2 : ¬ nI n - 1 < x := by rw [fa_lt, e, hm, h1]; omega
    simp only [f_X12_in, if_neg q1, if_neg q2]
  · by_cases q : x < 0
    · have q1 : x < -1 := by rw [fa_lt] at q ⊢; rw [fa_eq] at e; omega
      exact Or.inr (Or.inr ⟨e, by simp only [f_X9_has, if_pos q], by simp only [f_X12_in, if_pos q1]⟩)
    · obtain ⟨j, hj, rfl⟩ := nI_of q
      have hji : (nI j).toInt = (j : Int) := nI_toInt hj
      have q1 : ¬ nI j < -1 := by rw [fa_lt, hji, h1]; omega
      by_cases h2 : j < n
      · have q2 : ¬ nI n - 1 < nI j := by rw [fa_lt, hm, hji]; omega
        exact Or.inr (Or.inl ⟨j, h2, rfl, e, by simp only [f_X9_has, if_neg q, if_neg (nI_ge h2 (by omega : n < 2 ^ 31))], by simp only [f_X12_in, if_neg q1, if_neg q2]⟩)
      · have q2 : nI n - 1 < nI j := by rw [fa_lt, hm, hji]; omega
        exact Or.inr (Or.inr ⟨e, by simp only [f_X9_has, if_neg q, if_pos (nI_le (show n ≤ j by omega) hj)], by simp only [f_X12_in, if_neg q1, if_pos q2]⟩)
end LNM
