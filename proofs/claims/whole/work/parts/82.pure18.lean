/-! ===== settled: class and reference ===== -/
theorem and_z : ∀ s, s < 64 → s &&& (63 - s) = 0 := by decide +kernel
theorem sub_and {g s : Nat} (h : sub g s) : g &&& s = g := bt_ext (fun j => by rw [bt_and]; exact ⟨fun z => z.1, fun z => ⟨z, h j z⟩⟩)
section STC
variable {fu n t p k s g : Nat} {w pu h o : Nat → Nat} {ow db tb sm : FN}
theorem e_X12_netsOf (ho : ∀ i, i < 36 → db i = nI (o i)) (hn : n ≤ 6) (hs : s < 64) (hf : 100 ≤ fu) : f_X12_netsOf fu (nI n) db (nI s) = some (sS n o n s) := by
  have h := lp_up0 (step := f_X12_netsOf_L4 fu (nI n) db (nI s)) (fun j (x : Int32) => (x, nI j)) (fun j x => if bi s j = 0 then x else x + sNet n o j) n (fun x => x) (fun j x hj => by
    have hb := bi_lt s j
    simp only [f_X12_netsOf_L4, if_neg (nI_ge hj (by omega : n < 2 ^ 31)), e_X12_has (fu := fu) hs (by omega : j < 6), e_X12_netOf (fu := fu) ho hn (by omega : j < 6) hf, bnd_some, ltn, i0_add, nI_1, nI_eq0 (show bi s j < 2 ^ 31 by omega)]
    split <;> rfl) (fun x => by
    simp only [f_X12_netsOf_L4, if_pos (nI_le (Nat.le_refl n) (by omega : n < 2 ^ 31))]) (fu := fu) (a := 0) (by omega)
  unfold f_X12_netsOf
  exact bnd_r h
theorem ok_sums (ho : ∀ i, i < 36 → ow i = nI (o i)) (hn : n ≤ 6) (h0 : sm 0 = 0) (hf : 100 ≤ fu) : ok (lp (f_X4_fewestPayments_L16 fu (nI n) ow) fu ((0 : Int32), sm)) (fun S => ∀ s, s < 2 ^ n → S s = sS n o n s) := by
  have h64 := pw64 hn
  refine ok_up n (fun j st => st.1 = nI j ∧ ∀ s, s < 2 ^ j → st.2 s = sS n o n s) ?_ ?_ n fu 0 _ (by omega) (by omega) ⟨rfl, fun s hs => ?_⟩
  · rintro j ⟨c, S⟩ hj ⟨rfl, h1⟩
    have h1 : ∀ s, s < 2 ^ j → S s = sS n o n s := h1
    have j1 : 2 ^ (j + 1) = 2 ^ j * 2 := Nat.pow_succ ..
    have j2 : 2 ^ (j + 1) ≤ 64 := pw64 (by omega)
    have jl : jshl 1 (nI j) = nI (2 ^ j) := jshl_1' (by omega)
    simp only [f_X4_fewestPayments_L16, if_neg (nI_ge hj (by omega : n < 2 ^ 31)), e_X9_netOf (fu := fu) ho hn (show j < 6 by omega) hf, bnd_some]
    refine ok_bnd (ok_mono (ok_up (step := f_X4_fewestPayments_L33 (nI j, S) (sNet n o j)) (P := fun S2 => ∀ s, s < 2 ^ (j + 1) → S2 s = sS n o n s) (2 ^ j) (fun q st => st.1 = nI q ∧ (∀ s, s < 2 ^ j → st.2 s = sS n o n s) ∧ ∀ s, s < q → st.2 (2 ^ j + s) = sS n o n (2 ^ j + s)) ?_ ?_ (2 ^ j) fu 0 _ (by omega) (by omega) ⟨rfl, h1, fun s hs => absurd hs (by omega)⟩) (fun S2 h2 => ok_some ⟨nI_1 j, h2⟩))
    · rintro q ⟨c, S'⟩ hq ⟨rfl, g1, g2⟩
      have g1 : ∀ s, s < 2 ^ j → S' s = sS n o n s := g1
      have g2 : ∀ s, s < q → S' (2 ^ j + s) = sS n o n (2 ^ j + s) := g2
      simp only [f_X4_fewestPayments_L33, jl, if_neg (nI_ge hq (by omega : 2 ^ j < 2 ^ 31)), rdi_n (show q < 64 by omega) (by decide) (g1 q hq), bnd_some, ltn, fa_or]
      rw [or_ad j (by omega) q hq, wri_n (show 2 ^ j + q < 64 by omega) (by decide), bnd_some]
      refine ok_some ⟨nI_1 q, fun s hs => (pk_un (by omega)).trans (g1 s hs), fun s hs => ?_⟩
      by_cases e : s = q
      · rw [e]
        refine pk_us.trans ?_
        rw [← or_ad j (by omega) q hq]
        exact (sS_or hn hj hq).symm
      · exact (pk_un (by omega)).trans (g2 s (by omega))
    · rintro ⟨c, S'⟩ ⟨rfl, g1, g2⟩
      simp only [f_X4_fewestPayments_L33, jl, if_pos (nI_le (Nat.le_refl (2 ^ j)) (by omega : 2 ^ j < 2 ^ 31))]
      refine ok_some (fun s hs => ?_)
      by_cases e : s < 2 ^ j
      · exact g1 s e
      · obtain ⟨r, hr⟩ : ∃ r, s = 2 ^ j + r := ⟨s - 2 ^ j, by omega⟩
        rw [hr]
        exact g2 r (by omega)
  · rintro ⟨c, S⟩ ⟨rfl, h1⟩
    simp only [f_X4_fewestPayments_L16, if_pos (nI_le (Nat.le_refl n) (by omega : n < 2 ^ 31))]
    exact ok_some h1
  · have e : s = 0 := by
      have : 2 ^ 0 = 1 := rfl
      omega
    show sm s = _
    rw [e, h0, sS_0]
theorem e_mostGroups (hn : n ≤ 6) (hs : s < 2 ^ n) (s0 : 0 < s) (hS : ∀ s, s < 2 ^ n → sm s = sS n o n s) (hT : ∀ r, r < s → tb r = nI (cS n o r)) (hf : 100 ≤ fu) : f_X4_mostGroups fu sm tb (nI n) (nI s) = some (nI (cS n o s)) := by
  have h64 := pw64 hn
  have key := lp_up (step := f_X4_mostGroups_L5 tb (nI n) (nI s)) (fun j x => (nI x, nI j)) (fun j x => if (bi s j == 1) = true then max x (cS n o (s ^^^ 2 ^ j)) else x) n (fun x => nI x) (fun _ x => x ≤ 100) (fun j x hj hx => by
    have hb := bi_lt s j
    refine ⟨?_, ?_⟩
    · simp only [f_X4_mostGroups_L5, if_neg (nI_ge hj (by omega : n < 2 ^ 31)), jbi (show s < 64 by omega) (show j < 6 by omega), nI_eq0 (show bi s j < 2 ^ 31 by omega), nI_1, beq_iff_eq]
      by_cases q : bi s j = 0
      · rw [if_pos q, if_neg (by omega)]
      · have q1 : bi s j = 1 := by omega
        have x1 := (xor1 s (by omega) j (by omega) q1).1
        have b1 := cS_le (o := o) (s := s ^^^ 2 ^ j) hn (by omega)
        rw [if_neg q, if_pos q1, jshl_1 j (by omega), fa_xor, rdi_n (show s ^^^ 2 ^ j < 448 by omega) (by decide) (hT _ x1), bnd_some]
        unfold ltn
        rw [jmax_n (by omega) (by omega)]
    · show (if (bi s j == 1) = true then max x (cS n o (s ^^^ 2 ^ j)) else x) ≤ 100
      split
      · rename_i q
        have q1 : bi s j = 1 := by simpa using q
        have x1 := (xor1 s (by omega) j (by omega) q1).1
        have b1 := cS_le (o := o) (s := s ^^^ 2 ^ j) hn (by omega)
        exact Nat.max_le.2 ⟨hx, by omega⟩
      · exact hx) (fun x _ => by
    simp only [f_X4_mostGroups_L5, if_pos (nI_le (Nat.le_refl n) (by omega : n < 2 ^ 31))]) n fu 0 0 (by omega) (by omega) (by omega)
  unfold f_X4_mostGroups
  refine (bnd_r key.1).trans ?_
  show bnd (rdi 64 sm (nI s)) _ = _
  rw [rdi_n (show s < 64 by omega) (by decide) (hS s hs), bnd_some, cS_s hn hs s0]
  show (if sS n o n s = 0 then some (nI (mx (fun p => bi s p == 1) (fun p => cS n o (s ^^^ 2 ^ p)) n 0) + 1) else some (nI (mx (fun p => bi s p == 1) (fun p => cS n o (s ^^^ 2 ^ p)) n 0))) = _
  by_cases q : sS n o n s = 0
  · rw [if_pos q, if_pos q, nI_1]
  · rw [if_neg q, if_neg q, Nat.add_zero]
theorem ok_X4_few (ho : ∀ i, i < 36 → ow i = nI (o i)) (hn : n ≤ 6) (hf : 100 ≤ fu) : ok (f_X4_fewestPayments fu sm tb (nI n) ow) (fun x => x.1 = nI n - nI (cS n o (2 ^ n - 1))) := by
  have h64 := pw64 hn
  have hpos := Nat.two_pow_pos n
  unfold f_X4_fewestPayments
  refine ok_bnd (ok_eq (wri_n (k := 0) (by decide) (by decide)) ?_)
  refine ok_bnd (ok_eq (wri_n (k := 0) (by decide) (by decide)) ?_)
  refine ok_bnd (ok_mono (ok_sums (sm := upd sm 0 0) ho hn pk_us hf) ?_)
  intro S hS
  refine ok_bnd (ok_mono (ok_up (step := f_X4_fewestPayments_L75 fu (nI n) S) (P := fun T => ∀ s, s < 2 ^ n → T s = nI (cS n o s)) (2 ^ n) (fun j st => 0 < j ∧ st.1 = nI j ∧ ∀ s, s < j → st.2 s = nI (cS n o s)) ?_ ?_ (2 ^ n - 1) fu 1 _ (by omega) (by omega) ⟨by decide, rfl, fun s hs => ?_⟩) ?_)
  · rintro j ⟨c, T⟩ hj ⟨j0, rfl, h1⟩
    simp only [f_X4_fewestPayments_L75, jshl_1' hn, if_neg (nI_ge hj (by omega : 2 ^ n < 2 ^ 31))]
    refine ok_bnd (ok_eq (e_mostGroups hn hj j0 hS h1 hf) ?_)
    rw [wri_n (show j < 448 by omega) (by decide), bnd_some]
    refine ok_some ⟨by omega, nI_1 j, upd_lt (g := fun s => nI (cS n o s)) h1 rfl⟩
  · rintro ⟨c, T⟩ ⟨j0, rfl, h1⟩
    simp only [f_X4_fewestPayments_L75, jshl_1' hn, if_pos (nI_le (Nat.le_refl (2 ^ n)) (by omega : 2 ^ n < 2 ^ 31))]
    exact ok_some h1
  · rw [show s = 0 by omega, cS_0]
    exact (pk_us : upd tb 0 (0 : Int32) 0 = 0)
  intro T hT
  rw [jshl_1' hn, show (1 : Int32) = nI 1 from rfl, pk_sub (by omega), rdi_n (show 2 ^ n - 1 < 448 by omega) (by decide) (hT _ (by omega)), bnd_some]
  exact ok_some rfl
theorem ok_heap {y : HT} {s4 : Int32 × FN} {v9 : Int32} (hy : Hd t n pu o y) (h4 : s4.1 = nI s) (hn : n ≤ 6) (hs : s < 2 ^ n) (s0 : 0 < s) (hH : ∀ r, r < s → sS n o n r = 0 → s4.2 r = nI (cS n o r)) (h9 : sS n o n s = 0 → v9 = nI 1) (hf : 100 ≤ fu) : ok (lp (f_X12_settled_L57 fu y s4) fu (v9, nI ((s - 1) &&& s))) (fun r => sS n o n s = 0 → r = nI (cS n o s)) := by
  obtain ⟨y1, y2, y3, -, y5, -, y7, -, -⟩ := hy
  have h64 := pw64 hn
  have c6 := cS_le (o := o) hn hs
  have l0 : (s - 1) &&& s ≤ s - 1 := Nat.and_le_left
  refine ok_lp (fun st => ∃ part, st.2 = nI part ∧ part < s ∧ sub part s ∧ (sS n o n s = 0 → ∃ v, st.1 = nI v ∧ 1 ≤ v ∧ v ≤ cS n o s ∧ ∀ g, sub g s → part < g → g < s → sS n o n g = 0 → 1 + cS n o (s &&& (63 - g)) ≤ v)) (fun st => st.2.toNatClampNeg) ?_ fu _ ⟨(s - 1) &&& s, rfl, by omega, fun j hj => (bt_and.1 hj).2, fun z => ⟨1, h9 z, Nat.le_refl _, ?_, fun g g1 g2 g3 _ => ?_⟩⟩ ?_
  · rintro ⟨m, c⟩ ⟨part, rfl, hp, hsub, hz⟩
    simp only [f_X12_settled_L57, h4]
    by_cases p0 : part = 0
    · subst p0
      rw [if_pos (by decide)]
      refine ok_some (fun z => ?_)
      obtain ⟨v, ev, v1, v2, v3⟩ := hz z
      obtain ⟨g, g0, g1, g2, g3, g4⟩ := cS_ex (o := o) hn hs s0 z
      have ev : m = nI v := ev
      have : cS n o s ≤ v := by
        by_cases e : g = s
        · rw [e, and_z s (by omega), cS_0] at g4
          omega
        · have := v3 g g1 g0 (by omega) g3
          omega
      rw [ev, show v = cS n o s by omega]
    · have l1 : (part - 1) &&& s ≤ part - 1 := Nat.and_le_left
      have ep : (nI part - 1) &&& nI s = nI ((part - 1) &&& s) := by rw [show (1 : Int32) = nI 1 from rfl, pk_sub (by omega), fa_and]
      have cov : ∀ g, sub g s → (part - 1) &&& s < g → g < s → ¬ g = part → part < g := by
        intro g g1 g2 g3 g4
        rcases Nat.lt_or_ge part g with q | q
        · exact q
        · have := sm0 (s := s) (q := part) (g := g) (by omega) (by omega) (sub_and hsub) (sub_and g1) (by omega)
          omega
      have mu : ∀ v : Int32, (v, nI ((part - 1) &&& s)).2.toNatClampNeg < (m, nI part).2.toNatClampNeg := by
        intro v
        show (nI ((part - 1) &&& s)).toNatClampNeg < (nI part).toNatClampNeg
        rw [nI_clamp (by omega), nI_clamp (by omega)]
        omega
      rw [if_neg (nI_nle (by omega) (by omega)), y3, e_X12_netsOf y7 hn (show part < 64 by omega) hf, bnd_some, ep]
      by_cases zp : sS n o n part = 0
      · have dl : (s &&& (63 - part)) < s := dif_lt (by omega) (by omega) (by omega) hsub
        rw [if_pos zp, and_not s (by omega) part (by omega), rdi_n (k := s &&& (63 - part)) (by omega) (by decide) rfl, bnd_some, e_greater, bnd_some]
        refine ok_ltn (ok_some ⟨⟨(part - 1) &&& s, rfl, by omega, fun j hj => (bt_and.1 hj).2, fun z => ?_⟩, mu _⟩)
        obtain ⟨v, ev, v1, v2, v3⟩ := hz z
        have ev : m = nI v := ev
        have ez := sS_dif (n := n) (o := o) (s := s) (g := part) (by omega) (by omega) hsub n hn
        rw [z, zp, Int32.zero_add] at ez
        have up := cS_up (o := o) hn hs z (show 0 < part by omega) hsub (by omega)
        refine ⟨max v (1 + cS n o (s &&& (63 - part))), ?_, Nat.le_trans v1 (Nat.le_max_left _ _), Nat.max_le.2 ⟨v2, up⟩, fun g g1 g2 g3 g4 => ?_⟩
        · show jmax m (1 + s4.2 (s &&& (63 - part))) = _
          rw [ev, hH _ dl ez.symm, show (1 : Int32) = nI 1 from rfl, nI_add, jmax_n (by omega) (by omega)]
        · by_cases e : g = part
          · rw [e]; exact Nat.le_max_right _ _
          · exact Nat.le_trans (v3 g g1 (cov g g1 g2 g3 e) g3 g4) (Nat.le_max_left _ _)
      · rw [if_neg zp]
        refine ok_ltn (ok_some ⟨⟨(part - 1) &&& s, rfl, by omega, fun j hj => (bt_and.1 hj).2, fun z => ?_⟩, mu _⟩)
        obtain ⟨v, ev, v1, v2, v3⟩ := hz z
        refine ⟨v, ev, v1, v2, fun g g1 g2 g3 g4 => v3 g g1 (cov g g1 g2 g3 (fun e => zp (by rw [← e]; exact g4))) g3 g4⟩
  · have := cS_up (o := o) (g := s) hn hs z s0 (fun _ q => q) (by omega)
    omega
  · have := sm0 (s := s) (q := s) (g := g) (by omega) (by omega) (Nat.and_self s) (sub_and g1) (by omega)
    omega
  · show (nI ((s - 1) &&& s)).toNatClampNeg < fu
    rw [nI_clamp (by omega)]
    omega
theorem ok_settled {y : HT} (hy : Hd t n pu o y) (hn : n ≤ 6) (h0 : tb 0 = 0) (hf : 100 ≤ fu) : ok (lp (f_X12_settled_L24 fu y) fu ((1 : Int32), tb)) (fun T => ∀ s, s < 2 ^ n → sS n o n s = 0 → T s = nI (cS n o s)) := by
  have hy' := hy
  obtain ⟨y1, y2, y3, -, y5, -, y7, -, -⟩ := hy
  have h64 := pw64 hn
  have hpos := Nat.two_pow_pos n
  refine ok_up (2 ^ n) (fun j st => 0 < j ∧ st.1 = nI j ∧ ∀ s, s < j → sS n o n s = 0 → st.2 s = nI (cS n o s)) ?_ ?_ (2 ^ n - 1) fu 1 _ (by omega) (by omega) ⟨by decide, rfl, fun s hs _ => ?_⟩
  · rintro j ⟨c, T⟩ hj ⟨j0, rfl, h1⟩
    have h1 : ∀ s, s < j → sS n o n s = 0 → T s = nI (cS n o s) := h1
    simp only [f_X12_settled_L24, y3, jshl_1' hn, if_neg (nI_ge hj (by omega : 2 ^ n < 2 ^ 31))]
    rw [e_X12_netsOf y7 hn (show j < 64 by omega) hf, bnd_some]
    have ep : (nI j - 1) &&& nI j = nI ((j - 1) &&& j) := by rw [show (1 : Int32) = nI 1 from rfl, pk_sub (by omega), fa_and]
    have ev : ∃ v9 : Int32, (if sS n o n j = 0 then some (1 : Int32) else some (-1000000)) = some v9 ∧ (sS n o n j = 0 → v9 = nI 1) := by
      by_cases q : sS n o n j = 0
      · exact ⟨1, by rw [if_pos q], fun _ => rfl⟩
      · exact ⟨-1000000, by rw [if_neg q], fun z => absurd z q⟩
    obtain ⟨v9, ev1, ev2⟩ := ev
    rw [ev1, bnd_some]
    refine ok_ltn ?_
    rw [ep]
    refine ok_bnd (ok_mono (ok_heap (s4 := (nI j, T)) hy' rfl hn hj j0 h1 ev2 hf) ?_)
    intro r hr
    rw [wri_n (show j < 64 by omega) (by decide), bnd_some]
    refine ok_some ⟨by omega, nI_1 j, fun s hs z => ?_⟩
    by_cases e : s = j
    · rw [e] at z ⊢
      exact pk_us.trans (hr z)
    · exact (pk_un (by omega)).trans (h1 s (by omega) z)
  · rintro ⟨c, T⟩ ⟨j0, rfl, h1⟩
    simp only [f_X12_settled_L24, y3, jshl_1' hn, if_pos (nI_le (Nat.le_refl (2 ^ n)) (by omega : 2 ^ n < 2 ^ 31))]
    exact ok_some h1
  · show tb s = _
    rw [show s = 0 by omega, h0]
    rfl
end STC
