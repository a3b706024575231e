theorem lp_all2 {fu : Nat} {R : Type} {step : Int32 → Option (Int32 ⊕ (R ⊕ Unit))} (r : R) (N : Nat) (g : Nat → Bool) (hs : ∀ j, j < N → step (nI j) = if g j = true then some (.inl (nI (j + 1))) else some (.inr (.inl r))) (he : step (nI N) = some (.inr (.inr ()))) (hf : N < fu) : lp step fu 0 = some (if (List.range N).all g = true then .inr () else .inl r) := by
  have key : ∀ (k fu j : Nat), j + k = N → k < fu → lp step fu (nI j) = some (if (List.range' j k).all g = true then .inr () else .inl r) := by
    intro k
    induction k with
    | zero =>
      intro fu j hj hf
      have hj : j = N := by omega
      subst hj
      obtain ⟨f, rfl⟩ : ∃ f, fu = f + 1 := ⟨fu - 1, by omega⟩
      show bnd (step _) _ = _
      rw [he]
      rfl
    | succ k ih =>
      intro fu j hj hf
      obtain ⟨f, rfl⟩ : ∃ f, fu = f + 1 := ⟨fu - 1, by omega⟩
      show bnd (step _) _ = _
      rw [hs j (by omega)]
      by_cases hg : g j = true
      · rw [if_pos hg]
        show lp step f (nI (j + 1)) = _
        rw [ih f (j + 1) (by omega) (by omega), List.range'_succ, List.all_cons, hg, Bool.true_and]
      · rw [if_neg hg, List.range'_succ, List.all_cons]
        simp only [Bool.not_eq_true] at hg
        rw [hg]
        rfl
  have := key N fu 0 (by omega) hf
  rw [List.range_eq_range']
  exact this
section L2
variable {fu n B t k d a b : Nat} {h : Nat → Nat} {ha M : FN} {pu ow se kp wk : FN} {si cl sa fi va le fo wh sa2 qu va2 le2 fo2 su : Int32} {pu2 be de st vi : FN}
theorem lt1_n {v : Nat} (hv : v < 2 ^ 31) : nI v < (1 : Int32) ↔ v = 0 := by
  rw [show (1 : Int32) = nI 1 from rfl, nI_ltI hv (by decide)]; omega
theorem sit_eq (S : SRx n B pu ow se kp wk si cl sa fi va le fo wh sa2 qu va2 le2 fo2 su pu2 be de st vi) (hha : ∀ i, i < 6 → ha i = nI (h i)) (h64 : ∀ i, i < 6 → h i < 64) (hM : ∀ i, i < 6 → M (55 * t + 13 + i) = nI (h i)) (ht : t < 8) (hn : n ≤ 6) (hB : B < 1000) (hd : d < 2 ^ 31) (ha6 : a < n) (hb6 : b < n) (hf : 100 ≤ fu) :
    ∃ x y, f_X1_maySit fu (nI n) ha ow se kp wk si sa (nI d) fi va (nI a) (nI b) = some x ∧ f_X12_sits fu M (nI t) (nI n) sa2 qu va2 be de st vi (nI a) (nI b) = some y ∧ x.1 = y.1 ∧ (x.1 = 0 ∨ x.1 = 1) ∧ SRx n (B + 1) pu x.2.1 x.2.2.1 x.2.2.2.1 x.2.2.2.2.1 si cl x.2.2.2.2.2.1 x.2.2.2.2.2.2.1 x.2.2.2.2.2.2.2 le fo wh y.2.1 qu y.2.2.1 le2 fo2 su pu2 y.2.2.2.1 y.2.2.2.2.1 y.2.2.2.2.2.1 y.2.2.2.2.2.2 ∧ (fi ≠ -1 → x.2.2.2.2.2.2.1 = fi) ∧ (fi = -1 → x.2.2.2.2.2.2.1 = -1 ∨ x.2.2.2.2.2.2.1 = nI d) := by
  have S0 := S.mono (show B ≤ B + 1 by omega)
  obtain ⟨s1, s2, s3, s4, s5, s6, s7, s8, ⟨s, h1, rfl, rfl, h2⟩, s9, s10⟩ := S
  obtain ⟨v, v1, v2, v3⟩ := s2 (6 * b + a) (by omega)
  obtain ⟨q, q1, q2, q3⟩ := s4 a (by omega)
  subst s7
  subst s9
  have hno : ∀ (X : Int32 × FN × FN × FN × FN × Int32 × Int32 × Int32) (Y : Int32 × Int32 × Int32 × FN × FN × FN × FN), X = (0, ow, se, kp, wk, nI s, fi, va) → Y = (0, nI s, va, be, de, st, vi) → X.1 = Y.1 ∧ (X.1 = 0 ∨ X.1 = 1) ∧ SRx n (B + 1) pu X.2.1 X.2.2.1 X.2.2.2.1 X.2.2.2.2.1 si cl X.2.2.2.2.2.1 X.2.2.2.2.2.2.1 X.2.2.2.2.2.2.2 le fo wh Y.2.1 si Y.2.2.1 le2 fo2 su pu2 Y.2.2.2.1 Y.2.2.2.2.1 Y.2.2.2.2.2.1 Y.2.2.2.2.2.2 ∧ (fi ≠ -1 → X.2.2.2.2.2.2.1 = fi) ∧ (fi = -1 → X.2.2.2.2.2.2.1 = -1 ∨ X.2.2.2.2.2.2.1 = nI d) := by
    rintro X Y rfl rfl
    exact ⟨rfl, Or.inl rfl, S0, fun _ => rfl, fun z => Or.inl z⟩
  have er : rdi 36 ow (nI (6 * b + a)) = some (nI v) := rdi_n (by omega) (by decide) v2
  have em : f_X12_owed fu de (nI b) (nI a) = some (nI v) := by
    simp only [f_X12_owed, li_6, pk_mul, nI_add]
    rw [rdi_n (by omega) (by decide) v3]
    rfl
  have er2 : rdi 6 se (nI a) = some (nI q) := rdi_n (by omega) (by decide) q2
  have em2 : rdi 6 be (nI a) = some (nI q) := rdi_n (by omega) (by decide) q3
  have ex : (6 : Int32) * nI b + nI a = nI (6 * b + a) := by rw [show (6 : Int32) = nI 6 from rfl, pk_mul, nI_add]
  by_cases z1 : v = 0
  · refine ⟨_, _, ?_, ?_, hno _ _ rfl rfl⟩
    · simp only [f_X1_maySit, ltn, ex, er, bnd_some]
      rw [if_pos ((lt1_n (by omega)).2 z1)]
    · simp only [f_X12_sits, em, bnd_some]
      rw [if_pos ((nI_eq0 (by omega)).2 z1)]
  · have c1 : ¬ nI v < (1 : Int32) := fun z => z1 ((lt1_n (by omega)).1 z)
    have m1 : ¬ nI v = (0 : Int32) := fun z => z1 ((nI_eq0 (by omega)).1 z)
    by_cases z2 : q = 6
    · have c2 : nI q = (6 : Int32) := by rw [z2]; rfl
      have m2 : (6 : Int32) ≤ nI q := by rw [z2]; decide
      have lC := lp_all2 (fu := fu) (step := f_X1_maySit_L33 (nI n) ha ow se kp wk (nI s) fi va (nI a) (nI b)) (0, ow, se, kp, wk, nI s, fi, va) n (fun j => decide (¬ se j = nI b) || bi (h a) j == 0) (fun j hj => by
        have := bi_lt (h a) j
        simp only [f_X1_maySit_L33, if_neg (nI_ge hj (by omega : n < 2 ^ 31)), rdi_n (show j < 6 by omega) (by decide) (rfl : se j = se j), rdi_n (show a < 6 by omega) (by decide) (hha a (by omega)), bnd_some, jbi (h64 a (by omega)) (show j < 6 by omega), nI_eq0 (show bi (h a) j < 2 ^ 31 by omega), nI_1, Bool.or_eq_true, decide_eq_true_eq, beq_iff_eq]
        by_cases y1 : se j = nI b
        · rw [if_pos y1]
          by_cases y2 : bi (h a) j = 0
          · rw [if_pos y2, if_pos (Or.inr y2)]
          · rw [if_neg y2, if_neg (fun z => z.elim (fun w => w y1) y2)]
        · rw [if_neg y1, if_pos (Or.inl y1)]) (by
        simp only [f_X1_maySit_L33, if_pos (nI_le (Nat.le_refl n) (by omega : n < 2 ^ 31))]) (by omega)
      have lM := lp_all2 (fu := fu) (step := f_X12_sits_L24 fu M (nI t) (nI n) (nI s) va be de st vi (nI a) (nI b)) (0, nI s, va, be, de, st, vi) n (fun j => decide (¬ se j = nI b) || bi (h a) j == 0) (fun j hj => by
        have := bi_lt (h a) j
        have hsb : be j = se j := by obtain ⟨_, _, w1, w2⟩ := s4 j (by omega); rw [w1, w2]
        simp only [f_X12_sits_L24, if_neg (nI_ge hj (by omega : n < 2 ^ 31)), rdi_n (show j < 6 by omega) (by decide) hsb, e_X12_hates (fu := fu) hM h64 ht (show a < 6 by omega) (show j < 6 by omega), bnd_some, nI_eq0 (show bi (h a) j < 2 ^ 31 by omega), nI_1, Bool.or_eq_true, decide_eq_true_eq, beq_iff_eq]
        by_cases y1 : se j = nI b
        · rw [if_pos y1]
          by_cases y2 : bi (h a) j = 0
          · rw [if_pos y2, if_pos (Or.inr y2)]
          · rw [if_neg y2, if_neg (fun z => z.elim (fun w => w y1) y2)]
        · rw [if_neg y1, if_pos (Or.inl y1)]) (by
        simp only [f_X12_sits_L24, if_pos (nI_le (Nat.le_refl n) (by omega : n < 2 ^ 31))]) (by omega)
      by_cases z3 : ((List.range n).all fun j => decide (¬ se j = nI b) || bi (h a) j == 0) = true
      · rw [if_pos z3] at lC lM
        have w1 : wri 6 se (nI a) (nI b) = some (upd se a (nI b)) := wri_n (by omega) (by decide)
        have w2 : wri 6 be (nI a) (nI b) = some (upd be a (nI b)) := wri_n (by omega) (by decide)
        have r1 : rdi 6 kp (nI a) = some (kp a) := rdi_n (by omega) (by decide) rfl
        have r2 : rdi 6 wk (nI b) = some (wk b) := rdi_n (by omega) (by decide) rfl
        have r3 : rdi 6 st (nI a) = some (kp a) := rdi_n (by omega) (by decide) (s5 a (by omega)).symm
        have r4 : rdi 6 vi (nI b) = some (wk b) := rdi_n (by omega) (by decide) (s6 b (by omega)).symm
        have w3 : ∀ f : FN, ∀ x, wri 6 f (nI a) x = some (upd f a x) := fun f x => wri_n (by omega) (by decide)
        have w4 : ∀ f : FN, ∀ x, wri 6 f (nI b) x = some (upd f b x) := fun f x => wri_n (by omega) (by decide)
        have w5 : ∀ f : FN, ∀ x, wri 36 f (nI (6 * b + a)) x = some (upd f (6 * b + a) x) := fun f x => wri_n (by omega) (by decide)
        have r5 : rdi 36 de (nI (6 * b + a)) = some (nI v) := rdi_n (by omega) (by decide) v3
        have e1 : nI v - 1 = nI (v - 1) := by rw [show (1 : Int32) = nI 1 from rfl, pk_sub (by omega)]
        have hfi : (if fi = (-1 : Int32) then some (nI d) else some fi) = some (if fi = -1 then nI d else fi) := by split <;> rfl
        have hF : (0 < s + 1 ∧ (if fi = -1 then nI d else fi) ≠ -1) := ⟨by omega, by
          by_cases y : fi = -1
          · rw [if_pos y]; exact nI_nm1 hd
          · rw [if_neg y]; exact y⟩
        have hF1 : fi ≠ -1 → (if fi = -1 then nI d else fi) = fi := fun y => if_neg y
        have hF2 : fi = -1 → (if fi = -1 then nI d else fi) = -1 ∨ (if fi = -1 then nI d else fi) = nI d := fun y => Or.inr (if_pos y)
        have hse := updE (k := a) (B := 6) (v := b) s4 (by omega)
        by_cases z4 : (jshr si (nI b) &&& 1) = 0
        · refine ⟨(1, upd ow (6 * b + a) (nI (v - 1)), upd se a (nI b), upd kp a (kp a + 1), upd wk b (wk b + 1), nI (s + 1), (if fi = -1 then nI d else fi), va), (1, nI (s + 1), va, upd be a (nI b), upd de (6 * b + a) (nI (v - 1)), upd st a (kp a + 1), upd vi b (wk b + 1)), ?_, ?_, rfl, Or.inr rfl, ⟨s1, updE s2 (by omega), upd0 s3 rfl hb6 ha6 hn, hse, upd6 s5 rfl, upd6 s6 rfl, rfl, ?_, ⟨s + 1, by omega, rfl, rfl, Or.inr hF⟩, rfl, s10⟩, hF1, hF2⟩
          · simp only [f_X1_maySit, ltn, ex, er, bnd_some, if_neg c1, er2, if_pos c2, lC, cse, w1, hfi, nI_1, r1, w3, r2, w4, if_pos z4, w5, e1]
          · simp only [f_X12_sits, ltn, em, bnd_some, if_neg m1, em2, if_pos m2, lM, cse, w2, nI_1, r3, w3, r4, w4, has_z, if_pos z4, ex, r5, e1, w5]
            rfl
          · obtain ⟨c, c3, c4⟩ := s8; exact ⟨c, by omega, c4⟩
        · refine ⟨(1, ow, upd se a (nI b), upd kp a (kp a + 1), upd wk b (wk b + 1), nI (s + 1), (if fi = -1 then nI d else fi), va + 1), (1, nI (s + 1), va + 1, upd be a (nI b), de, upd st a (kp a + 1), upd vi b (wk b + 1)), ?_, ?_, rfl, Or.inr rfl, ⟨s1, s2, s3, hse, upd6 s5 rfl, upd6 s6 rfl, rfl, ?_, ⟨s + 1, by omega, rfl, rfl, Or.inr hF⟩, rfl, s10⟩, hF1, hF2⟩
          · simp only [f_X1_maySit, ltn, ex, er, bnd_some, if_neg c1, er2, if_pos c2, lC, cse, w1, hfi, nI_1, r1, w3, r2, w4, if_neg z4]
          · simp only [f_X12_sits, ltn, em, bnd_some, if_neg m1, em2, if_pos m2, lM, cse, w2, nI_1, r3, w3, r4, w4, has_z, if_neg z4, if_neg i10]
          · obtain ⟨c, c3, c4⟩ := s8; exact ⟨c, by omega, c4⟩
      · rw [if_neg z3] at lC lM
        refine ⟨_, _, ?_, ?_, hno _ _ rfl rfl⟩
        · simp only [f_X1_maySit, ltn, ex, er, bnd_some, if_neg c1, er2, if_pos c2, lC, cse]
        · simp only [f_X12_sits, em, bnd_some, if_neg m1, em2, if_pos m2, lM, cse]
    · have c2 : ¬ nI q = (6 : Int32) := by rw [show (6 : Int32) = nI 6 from rfl, nI_eq (by omega) (by decide)]; exact z2
      have m2 : ¬ (6 : Int32) ≤ nI q := nI_ge (a := q) (b := 6) (by omega) (by decide)
      refine ⟨_, _, ?_, ?_, hno _ _ rfl rfl⟩
      · simp only [f_X1_maySit, ltn, ex, er, bnd_some, if_neg c1, er2, if_neg c2]
      · simp only [f_X12_sits, em, bnd_some, if_neg m1, em2, if_neg m2]
theorem forgive_eq {u : Nat} (S : SRx n B pu ow se kp wk si cl sa fi va le fo wh sa2 qu va2 le2 fo2 su pu2 be de st vi) (hn : n ≤ 6) (hu : u ≤ 30) (ha6 : a < n) (hb6 : b < n) :
    ∃ x y, f_X1_mayForgive fu ow fo (nI a) (nI b) (nI u) = some x ∧ f_X12_forgives fu fo2 de (nI a) (nI b) (nI u) = some y ∧ x.1 = y.1 ∧ (x.1 = 0 ∨ x.1 = 1) ∧ SRx n (B + 1) pu x.2.1 se kp wk si cl sa fi va le x.2.2 wh sa2 qu va2 le2 y.2.1 su pu2 be y.2.2 st vi := by
  have S0 := S.mono (show B ≤ B + 1 by omega)
  obtain ⟨s1, s2, s3, s4, s5, s6, s7, s8, s9, s10, s11, s12⟩ := S0
  obtain ⟨v, v1, v2, v3⟩ := s2 (6 * b + a) (by omega)
  subst s12
  have er : rdi 36 ow (nI (6 * b + a)) = some (nI v) := rdi_n (by omega) (by decide) v2
  have er' : rdi 36 de (nI (6 * b + a)) = some (nI v) := rdi_n (by omega) (by decide) v3
  have ex : (6 : Int32) * nI b + nI a = nI (6 * b + a) := by rw [show (6 : Int32) = nI 6 from rfl, pk_mul, nI_add]
  have em : f_X12_owed fu de (nI b) (nI a) = some (nI v) := by simp only [f_X12_owed, ex, er', bnd_some]
  have w5 : ∀ f : FN, ∀ x, wri 36 f (nI (6 * b + a)) x = some (upd f (6 * b + a) x) := fun f x => wri_n (by omega) (by decide)
  by_cases z : u ≤ v
  · have c1 : nI u ≤ nI v := nI_le z (by omega)
    refine ⟨(1, upd ow (6 * b + a) (nI (v - u)), fo + nI u), (1, fo + nI u, upd de (6 * b + a) (nI (v - u))), ?_, ?_, rfl, Or.inr rfl, s1, updE s2 (by omega), upd0 s3 rfl hb6 ha6 hn, s4, s5, s6, s7, s8, s9, s10, s11, rfl⟩
    · simp only [f_X1_mayForgive, ltn, ex, er, bnd_some, if_pos c1, pk_sub z, w5]
    · simp only [f_X12_forgives, ltn, ex, em, er', bnd_some, if_pos c1, pk_sub z, w5]
  · have c1 : ¬ nI u ≤ nI v := nI_ge (by omega) (by omega)
    refine ⟨(0, ow, fo), (0, fo, de), ?_, ?_, rfl, Or.inl rfl, s1, s2, s3, s4, s5, s6, s7, s8, s9, s10, s11, rfl⟩
    · simp only [f_X1_mayForgive, ltn, ex, er, bnd_some, if_neg c1]
    · simp only [f_X12_forgives, em, bnd_some, if_neg c1]
/-- the purse's side -/
theorem gives_e {c : Int32} (hpa : pu a = pu2 a) (hpb : pu b = pu2 b) (ha6 : a < 6) (hb6 : b < 6) : f_X12_gives fu pu2 (nI a) (nI b) c = some (if pu a < c then (0, pu2) else if pu b + c ≤ 99 then (1, upd (upd pu2 a (pu a - c)) b (upd pu2 a (pu a - c) b + c)) else (0, pu2)) := by
  have r1 : rdi 6 pu2 (nI a) = some (pu a) := rdi_n ha6 (by decide) hpa.symm
  have r2 : rdi 6 pu2 (nI b) = some (pu b) := rdi_n hb6 (by decide) hpb.symm
  have r3 : ∀ f : FN, rdi 6 f (nI b) = some (f b) := fun f => rdi_n hb6 (by decide) rfl
  have w1 : ∀ f : FN, ∀ x, wri 6 f (nI a) x = some (upd f a x) := fun f x => wri_n ha6 (by decide)
  have w2 : ∀ f : FN, ∀ x, wri 6 f (nI b) x = some (upd f b x) := fun f x => wri_n hb6 (by decide)
  by_cases z1 : pu a < c
  · simp only [f_X12_gives, r1, bnd_some, if_pos z1]
  · by_cases z2 : pu b + c ≤ 99
    · simp only [f_X12_gives, r1, bnd_some, if_neg z1, r2, if_pos z2, ltn, w1]
      rw [r3, bnd_some, w2, bnd_some]
    · simp only [f_X12_gives, r1, bnd_some, if_neg z1, r2, if_neg z2]
theorem lend_eq {u : Nat} (S : SRx n B pu ow se kp wk si cl sa fi va le fo wh sa2 qu va2 le2 fo2 su pu2 be de st vi) (hn : n ≤ 6) (hu : u ≤ 30) (ha6 : a < n) (hb6 : b < n) :
    ∃ x y, f_X1_mayLend fu pu ow le (nI a) (nI b) (nI u) = some x ∧ f_X12_lends fu le2 pu2 de (nI a) (nI b) (nI u) = some y ∧ x.1 = y.1 ∧ (x.1 = 0 ∨ x.1 = 1) ∧ SRx n (B + 1) x.2.1 x.2.2.1 se kp wk si cl sa fi va x.2.2.2 fo wh sa2 qu va2 y.2.1 fo2 su y.2.2.1 be y.2.2.2 st vi := by
  have S0 := S.mono (show B ≤ B + 1 by omega)
  obtain ⟨s1, s2, s3, s4, s5, s6, s7, s8, s9, s10, s11, s12⟩ := S0
  obtain ⟨v, v1, v2, v3⟩ := s2 (6 * b + a) (by omega)
  subst s11
  have er : rdi 36 ow (nI (6 * b + a)) = some (nI v) := rdi_n (by omega) (by decide) v2
  have er' : rdi 36 de (nI (6 * b + a)) = some (nI v) := rdi_n (by omega) (by decide) v3
  have ex : (6 : Int32) * nI b + nI a = nI (6 * b + a) := by rw [show (6 : Int32) = nI 6 from rfl, pk_mul, nI_add]
  have em : f_X12_owed fu de (nI b) (nI a) = some (nI v) := by simp only [f_X12_owed, ex, er', bnd_some]
  have w5 : ∀ f : FN, ∀ x, wri 36 f (nI (6 * b + a)) x = some (upd f (6 * b + a) x) := fun f x => wri_n (by omega) (by decide)
  have r1 : rdi 6 pu (nI a) = some (pu a) := rdi_n (by omega) (by decide) rfl
  have r2 : ∀ f : FN, rdi 6 f (nI b) = some (f b) := fun f => rdi_n (by omega) (by decide) rfl
  have w1 : ∀ f : FN, ∀ x, wri 6 f (nI a) x = some (upd f a x) := fun f x => wri_n (by omega) (by decide)
  have w2 : ∀ f : FN, ∀ x, wri 6 f (nI b) x = some (upd f b x) := fun f x => wri_n (by omega) (by decide)
  have eg := gives_e (fu := fu) (c := nI u) (s1 a ha6) (s1 b hb6) (show a < 6 by omega) (show b < 6 by omega)
  have hno : SRx n (B + 1) pu ow se kp wk si cl sa fi va le fo wh sa2 qu va2 le fo2 su pu2 be de st vi := ⟨s1, s2, s3, s4, s5, s6, s7, s8, s9, s10, rfl, s12⟩
  have z3 : nI (v + u) ≤ (99 : Int32) ↔ v + u ≤ 99 := by rw [show (99 : Int32) = nI 99 from rfl, nI_leI (by omega) (by decide)]
  have z3' : (99 : Int32) < nI (v + u) ↔ ¬ v + u ≤ 99 := by rw [show (99 : Int32) = nI 99 from rfl, nI_ltI (by decide) (by omega)]; omega
  by_cases y3 : v + u ≤ 99
  · have m3 : ¬ (99 : Int32) < nI (v + u) := fun z => z3'.1 z y3
    by_cases y1 : pu a < nI u
    · refine ⟨(0, pu, ow, le), (0, le, pu2, de), ?_, ?_, rfl, Or.inl rfl, hno⟩
      · simp only [f_X1_mayLend, ltn, r1, bnd_some, if_pos y1]
      · simp only [f_X12_lends, em, bnd_some, nI_add, if_neg m3, eg, if_pos y1, if_true]
    · by_cases y2 : pu b + nI u ≤ 99
      · have c2 : ¬ (99 : Int32) < pu b + nI u := fun z => (nle _ _).2 z y2
        refine ⟨(1, upd (upd pu a (pu a - nI u)) b (upd pu a (pu a - nI u) b + nI u), upd ow (6 * b + a) (nI (v + u)), le + nI u), (1, le + nI u, upd (upd pu2 a (pu a - nI u)) b (upd pu2 a (pu a - nI u) b + nI u), upd de (6 * b + a) (nI (v + u))), ?_, ?_, rfl, Or.inr rfl, ?_, updE s2 y3, upd0 s3 rfl hb6 ha6 hn, s4, s5, s6, s7, s8, s9, s10, rfl, s12⟩
        · simp only [f_X1_mayLend, ltn, r1, r2, bnd_some, if_neg y1, if_neg c2, ex, er, w1, nI_add, if_pos (z3.2 y3), w2, w5]
        · simp only [f_X12_lends, ltn, em, bnd_some, nI_add, if_neg m3, eg, if_neg y1, if_pos y2, if_neg i10, ex, er', w5]
        · refine upd6 (upd6 s1 rfl) ?_
          rw [upd6 (k := a) s1 rfl b (by omega)]
      · have c2 : (99 : Int32) < pu b + nI u := (nle _ _).1 y2
        refine ⟨(0, pu, ow, le), (0, le, pu2, de), ?_, ?_, rfl, Or.inl rfl, hno⟩
        · simp only [f_X1_mayLend, ltn, r1, r2, bnd_some, if_neg y1, if_pos c2]
        · simp only [f_X12_lends, em, bnd_some, nI_add, if_neg m3, eg, if_neg y1, if_neg y2, if_true]
  · have m3 : (99 : Int32) < nI (v + u) := z3'.2 y3
    refine ⟨(0, pu, ow, le), (0, le, pu2, de), ?_, ?_, rfl, Or.inl rfl, hno⟩
    · by_cases y1 : pu a < nI u
      · simp only [f_X1_mayLend, ltn, r1, bnd_some, if_pos y1]
      · by_cases c2 : (99 : Int32) < pu b + nI u
        · simp only [f_X1_mayLend, ltn, r1, r2, bnd_some, if_neg y1, if_pos c2]
        · simp only [f_X1_mayLend, ltn, r1, r2, bnd_some, if_neg y1, if_neg c2, ex, er, nI_add, if_neg (fun z => y3 (z3.1 z))]
    · simp only [f_X12_lends, em, bnd_some, nI_add, if_pos m3]
theorem pay_eq {u : Nat} (S : SRx n B pu ow se kp wk si cl sa fi va le fo wh sa2 qu va2 le2 fo2 su pu2 be de st vi) (hn : n ≤ 6) (hu : u ≤ 30) (ha6 : a < n) (hb6 : b < n) :
    ∃ x y, f_X1_mayPay fu pu ow (nI a) (nI b) (nI u) = some x ∧ f_X12_pays fu pu2 de (nI a) (nI b) (nI u) = some y ∧ x.1 = y.1 ∧ (x.1 = 0 ∨ x.1 = 1) ∧ SRx n (B + 1) x.2.1 x.2.2 se kp wk si cl sa fi va le fo wh sa2 qu va2 le2 fo2 su y.2.1 be y.2.2 st vi := by
  have S0 := S.mono (show B ≤ B + 1 by omega)
  have hno := S0
  obtain ⟨s1, s2, s3, s4⟩ := S0
  obtain ⟨v, v1, v2, v3⟩ := s2 (6 * a + b) (by omega)
  have er : rdi 36 ow (nI (6 * a + b)) = some (nI v) := rdi_n (by omega) (by decide) v2
  have er' : rdi 36 de (nI (6 * a + b)) = some (nI v) := rdi_n (by omega) (by decide) v3
  have ex : (6 : Int32) * nI a + nI b = nI (6 * a + b) := by rw [show (6 : Int32) = nI 6 from rfl, pk_mul, nI_add]
  have em : f_X12_owed fu de (nI a) (nI b) = some (nI v) := by simp only [f_X12_owed, ex, er', bnd_some]
  have w5 : ∀ f : FN, ∀ x, wri 36 f (nI (6 * a + b)) x = some (upd f (6 * a + b) x) := fun f x => wri_n (by omega) (by decide)
  have r1 : rdi 6 pu (nI a) = some (pu a) := rdi_n (by omega) (by decide) rfl
  have r2 : ∀ f : FN, rdi 6 f (nI b) = some (f b) := fun f => rdi_n (by omega) (by decide) rfl
  have w1 : ∀ f : FN, ∀ x, wri 6 f (nI a) x = some (upd f a x) := fun f x => wri_n (by omega) (by decide)
  have w2 : ∀ f : FN, ∀ x, wri 6 f (nI b) x = some (upd f b x) := fun f x => wri_n (by omega) (by decide)
  have eg := gives_e (fu := fu) (c := nI u) (s1 a ha6) (s1 b hb6) (show a < 6 by omega) (show b < 6 by omega)
  by_cases z : u ≤ v
  · have c1 : ¬ nI v < nI u := nI_nlt z (by omega)
    by_cases y1 : pu a < nI u
    · refine ⟨(0, pu, ow), (0, pu2, de), ?_, ?_, rfl, Or.inl rfl, hno⟩
      · simp only [f_X1_mayPay, ltn, ex, er, r1, bnd_some, if_neg c1, if_pos y1]
      · simp only [f_X12_pays, em, bnd_some, if_neg c1, eg, if_pos y1, if_true]
    · by_cases y2 : pu b + nI u ≤ 99
      · refine ⟨(1, upd (upd pu a (pu a - nI u)) b (upd pu a (pu a - nI u) b + nI u), upd ow (6 * a + b) (nI (v - u))), (1, upd (upd pu2 a (pu a - nI u)) b (upd pu2 a (pu a - nI u) b + nI u), upd de (6 * a + b) (nI (v - u))), ?_, ?_, rfl, Or.inr rfl, ?_, updE s2 (by omega), upd0 s3 rfl ha6 hb6 hn, s4⟩
        · simp only [f_X1_mayPay, ltn, ex, er, r1, r2, bnd_some, if_neg c1, if_neg y1, if_pos y2, w1, w2, pk_sub z, w5]
        · simp only [f_X12_pays, ltn, em, bnd_some, if_neg c1, eg, if_neg y1, if_pos y2, if_neg i10, ex, er', pk_sub z, w5]
        · refine upd6 (upd6 s1 rfl) ?_
          rw [upd6 (k := a) s1 rfl b (by omega)]
      · refine ⟨(0, pu, ow), (0, pu2, de), ?_, ?_, rfl, Or.inl rfl, hno⟩
        · simp only [f_X1_mayPay, ltn, ex, er, r1, r2, bnd_some, if_neg c1, if_neg y1, if_neg y2]
        · simp only [f_X12_pays, em, bnd_some, if_neg c1, eg, if_neg y1, if_neg y2, if_true]
  · have c1 : nI v < nI u := nI_lt (by omega) (by omega)
    refine ⟨(0, pu, ow), (0, pu2, de), ?_, ?_, rfl, Or.inl rfl, hno⟩
    · simp only [f_X1_mayPay, ltn, ex, er, bnd_some, if_pos c1]
    · simp only [f_X12_pays, em, bnd_some, if_pos c1]
end L2
