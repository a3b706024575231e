/-! ===== a town that lives on: class and reference, deed by deed ===== -/
abbrev FN : Type := Nat → Int32
abbrev CT : Type := FN × FN × FN × FN × FN × Int32 × Int32 × Int32 × Int32 × Int32 × Int32 × Int32
abbrev MT : Type := Int32 × Int32 × Int32 × Int32 × Int32 × Int32 × Int32 × FN × FN × FN × FN × FN
def SRx (n B : Nat) (pu ow se kp wk : FN) (si cl sa fi va le fo wh sa2 qu va2 le2 fo2 su : Int32) (pu2 be de st vi : FN) : Prop :=
  (∀ i, i < n → pu i = pu2 i) ∧ (∀ i, i < 36 → ∃ v, v ≤ 99 ∧ ow i = nI v ∧ de i = nI v) ∧ (∀ a b, a < 6 → b < 6 → n ≤ a ∨ n ≤ b → ow (6 * a + b) = nI 0) ∧ (∀ i, i < 6 → ∃ v, v ≤ 6 ∧ se i = nI v ∧ be i = nI v) ∧ (∀ i, i < 6 → kp i = st i) ∧ (∀ i, i < 6 → wk i = vi i) ∧ si = qu ∧ (∃ c, c ≤ B ∧ cl = nI c ∧ wh = nI c ∧ su = nI (c / 10)) ∧ (∃ s, s ≤ B ∧ sa = nI s ∧ sa2 = nI s ∧ ((s = 0 ∧ fi = -1) ∨ (0 < s ∧ fi ≠ -1))) ∧ va = va2 ∧ le = le2 ∧ fo = fo2
def SR (n B : Nat) (x : CT) (y : MT) : Prop := SRx n B x.1 x.2.1 x.2.2.1 x.2.2.2.1 x.2.2.2.2.1 x.2.2.2.2.2.1 x.2.2.2.2.2.2.1 x.2.2.2.2.2.2.2.1 x.2.2.2.2.2.2.2.2.1 x.2.2.2.2.2.2.2.2.2.1 x.2.2.2.2.2.2.2.2.2.2.1 x.2.2.2.2.2.2.2.2.2.2.2 y.1 y.2.1 y.2.2.1 y.2.2.2.1 y.2.2.2.2.1 y.2.2.2.2.2.1 y.2.2.2.2.2.2.1 y.2.2.2.2.2.2.2.1 y.2.2.2.2.2.2.2.2.1 y.2.2.2.2.2.2.2.2.2.1 y.2.2.2.2.2.2.2.2.2.2.1 y.2.2.2.2.2.2.2.2.2.2.2
theorem SRx.mono {n B B' : Nat} {pu ow se kp wk : FN} {si cl sa fi va le fo wh sa2 qu va2 le2 fo2 su : Int32} {pu2 be de st vi : FN} (S : SRx n B pu ow se kp wk si cl sa fi va le fo wh sa2 qu va2 le2 fo2 su pu2 be de st vi) (h : B ≤ B') : SRx n B' pu ow se kp wk si cl sa fi va le fo wh sa2 qu va2 le2 fo2 su pu2 be de st vi := by
  obtain ⟨s1, s2, s3, s4, s5, s6, s7, ⟨c, c1, c2⟩, ⟨s, h1, h2⟩, s10⟩ := S
  exact ⟨s1, s2, s3, s4, s5, s6, s7, ⟨c, by omega, c2⟩, ⟨s, by omega, h2⟩, s10⟩
theorem fill_ok {fu N : Nat} {f : FN} {v : Int32} (hN : N < 2 ^ 30) (hf : N + 1 < fu) : ∃ g, f_J7_fill_53178 fu N f v = some g ∧ ∀ i, i < N → g i = v := by
  have key : ∀ k j f' fu, j + k = N → k < fu → (∀ i, i < j → f' i = v) → ∃ g, lp (f_J7_fill_53178_L5 v (nI N) N) fu (nI j, f') = some g ∧ ∀ i, i < N → g i = v := by
    intro k
    induction k with
    | zero =>
      intro j f' fu hj hf h
      obtain ⟨fu, rfl⟩ : ∃ g, fu = g + 1 := ⟨fu - 1, by omega⟩
      have hj : j = N := by omega
      subst hj
      refine ⟨f', ?_, h⟩
      show bnd (f_J7_fill_53178_L5 v (nI j) j (nI j, f')) _ = _
      simp only [f_J7_fill_53178_L5, if_pos (nI_le (Nat.le_refl j) (by omega : j < 2 ^ 31)), bnd_some]
    | succ k ih =>
      intro j f' fu hj hf h
      obtain ⟨fu, rfl⟩ : ∃ g, fu = g + 1 := ⟨fu - 1, by omega⟩
      obtain ⟨g, g1, g2⟩ := ih (j + 1) (upd f' j v) fu (by omega) (by omega) (upd_lt (g := fun _ => v) h rfl)
      refine ⟨g, ?_, g2⟩
      show bnd (f_J7_fill_53178_L5 v (nI N) N (nI j, f')) _ = _
      simp only [f_J7_fill_53178_L5, if_neg (nI_ge (show j < N by omega) (by omega : N < 2 ^ 31)), wri_n (show j < N by omega) (by omega), bnd_some, nI_1]
      exact g1
  obtain ⟨g, g1, g2⟩ := key N 0 f fu (by omega) (by omega) (fun i hi => absurd hi (by omega))
  refine ⟨g, ?_, g2⟩
  unfold f_J7_fill_53178 ltn
  exact bnd_r g1
theorem goes6 {fu : Nat} {f : FN} (hf : 10 < fu) : ∃ g, lp f_X12_goesOn_L12 fu ((0 : Int32), f) = some g ∧ ∀ i, i < 6 → g i = 6 := by
  have key : ∀ k j f' fu, j + k = 6 → k < fu → (∀ i, i < j → f' i = 6) → ∃ g, lp f_X12_goesOn_L12 fu (nI j, f') = some g ∧ ∀ i, i < 6 → g i = 6 := by
    intro k
    induction k with
    | zero =>
      intro j f' fu hj hf h
      obtain ⟨fu, rfl⟩ : ∃ g, fu = g + 1 := ⟨fu - 1, by omega⟩
      have hj : j = 6 := by omega
      subst hj
      refine ⟨f', ?_, h⟩
      show bnd (f_X12_goesOn_L12 (nI 6, f')) _ = _
      simp only [f_X12_goesOn_L12]
      rfl
    | succ k ih =>
      intro j f' fu hj hf h
      obtain ⟨fu, rfl⟩ : ∃ g, fu = g + 1 := ⟨fu - 1, by omega⟩
      obtain ⟨g, g1, g2⟩ := ih (j + 1) (upd f' j 6) fu (by omega) (by omega) (upd_lt (g := fun _ => 6) h rfl)
      refine ⟨g, ?_, g2⟩
      show bnd (f_X12_goesOn_L12 (nI j, f')) _ = _
      have hc : ¬ (6 : Int32) ≤ nI j := nI_ge (a := j) (b := 6) (by omega) (by decide)
      simp only [f_X12_goesOn_L12, if_neg hc, wri_n (show j < 6 by omega) (by decide), bnd_some, nI_1]
      exact g1
  exact key 6 0 f fu (by omega) (by omega) (fun i hi => absurd hi (by omega))
def sun (v : Nat) : Nat := if v = 0 then 0 else min 99 (v + 1)
theorem sun_le {v : Nat} : sun v ≤ 99 := by unfold sun; split <;> omega
theorem e_onSunday {fu v : Nat} (hv : v ≤ 99) : f_X1_onSunday fu (nI v) = some (nI (sun v)) := by
  unfold f_X1_onSunday sun
  by_cases q : v = 0
  · subst q; rfl
  · rw [if_neg (by rw [nI_eq0 (by omega)]; exact q), if_neg q, nI_1, show (99 : Int32) = nI 99 from rfl, jmin_n (by decide) (by omega)]
theorem sunC {fu : Nat} {f : FN} {o : Nat → Nat} (ho : ∀ i, i < 36 → o i ≤ 99 ∧ f i = nI (o i)) (hf : 50 < fu) : ∃ g, lp (f_X1_nextHour_L31 fu) fu ((0 : Int32), f) = some g ∧ ∀ i, i < 36 → g i = nI (sun (o i)) := by
  have key : ∀ k j f' fu', j + k = 36 → k < fu' → (∀ i, i < j → f' i = nI (sun (o i))) → (∀ i, j ≤ i → i < 36 → f' i = nI (o i)) → ∃ g, lp (f_X1_nextHour_L31 fu) fu' (nI j, f') = some g ∧ ∀ i, i < 36 → g i = nI (sun (o i)) := by
    intro k
    induction k with
    | zero =>
      intro j f' fu' hj hf h _
      obtain ⟨fu', rfl⟩ : ∃ g, fu' = g + 1 := ⟨fu' - 1, by omega⟩
      have hj : j = 36 := by omega
      subst hj
      refine ⟨f', ?_, h⟩
      show bnd (f_X1_nextHour_L31 fu (nI 36, f')) _ = _
      simp only [f_X1_nextHour_L31]
      rfl
    | succ k ih =>
      intro j f' fu' hj hf h h2
      obtain ⟨fu', rfl⟩ : ∃ g, fu' = g + 1 := ⟨fu' - 1, by omega⟩
      obtain ⟨g, g1, g2⟩ := ih (j + 1) (upd f' j (nI (sun (o j)))) fu' (by omega) (by omega) (upd_lt (g := fun i => nI (sun (o i))) h rfl) (fun i h3 h4 => by rw [pk_un (by omega)]; exact h2 i (by omega) h4)
      refine ⟨g, ?_, g2⟩
      show bnd (f_X1_nextHour_L31 fu (nI j, f')) _ = _
      have hc : ¬ (36 : Int32) ≤ nI j := nI_ge (a := j) (b := 36) (by omega) (by decide)
      simp only [f_X1_nextHour_L31, if_neg hc, rdi_n (show j < 36 by omega) (by decide) (h2 j (Nat.le_refl _) (by omega)), e_onSunday (ho j (by omega)).1, wri_n (show j < 36 by omega) (by decide), bnd_some, nI_1]
      exact g1
  exact key 36 0 f fu (by omega) (by omega) (fun i hi => absurd hi (by omega)) (fun i _ hi => (ho i hi).2)
theorem sunM {fu : Nat} {f : FN} {o : Nat → Nat} (ho : ∀ i, i < 36 → o i ≤ 99 ∧ f i = nI (o i)) (hf : 50 < fu) : ∃ g, lp (f_X12_goesOn_L54 fu) fu ((0 : Int32), f) = some g ∧ ∀ i, i < 36 → g i = nI (sun (o i)) := by
  have key : ∀ k j f' fu', j + k = 36 → k < fu' → (∀ i, i < j → f' i = nI (sun (o i))) → (∀ i, j ≤ i → i < 36 → f' i = nI (o i)) → ∃ g, lp (f_X12_goesOn_L54 fu) fu' (nI j, f') = some g ∧ ∀ i, i < 36 → g i = nI (sun (o i)) := by
    intro k
    induction k with
    | zero =>
      intro j f' fu' hj hf h _
      obtain ⟨fu', rfl⟩ : ∃ g, fu' = g + 1 := ⟨fu' - 1, by omega⟩
      have hj : j = 36 := by omega
      subst hj
      refine ⟨f', ?_, h⟩
      show bnd (f_X12_goesOn_L54 fu (nI 36, f')) _ = _
      simp only [f_X12_goesOn_L54]
      rfl
    | succ k ih =>
      intro j f' fu' hj hf h h2
      obtain ⟨fu', rfl⟩ : ∃ g, fu' = g + 1 := ⟨fu' - 1, by omega⟩
      obtain ⟨g, g1, g2⟩ := ih (j + 1) (upd f' j (nI (sun (o j)))) fu' (by omega) (by omega) (upd_lt (g := fun i => nI (sun (o i))) h rfl) (fun i h3 h4 => by rw [pk_un (by omega)]; exact h2 i (by omega) h4)
      refine ⟨g, ?_, g2⟩
      have h9 := (ho j (by omega)).1
      show bnd (f_X12_goesOn_L54 fu (nI j, f')) _ = _
      have hc : ¬ (36 : Int32) ≤ nI j := nI_ge (a := j) (b := 36) (by omega) (by decide)
      have e : f_X12_goesOn_L54 fu (nI j, f') = some (.inl (nI (j + 1), upd f' j (nI (sun (o j))))) := by
        simp only [f_X12_goesOn_L54, if_neg hc, rdi_n (show j < 36 by omega) (by decide) (h2 j (Nat.le_refl _) (by omega)), wri_n (show j < 36 by omega) (by decide), bnd_some, nI_1, nI_le0 (show o j < 2 ^ 31 by omega), e_lesser, show (99 : Int32) = nI 99 from rfl, jmin_n (show 99 < 2 ^ 31 by decide) (show o j + 1 < 2 ^ 31 by omega)]
        unfold sun
        split <;> rfl
      rw [e]
      exact g1
  exact key 36 0 f fu (by omega) (by omega) (fun i hi => absurd hi (by omega)) (fun i _ hi => (ho i hi).2)
theorem jrm_n {a d : Nat} (ha : a < 2 ^ 31) (h0 : 0 < d) (hd : d < 2 ^ 31) : jrm (nI a) (nI d) = nI (a % d) := pk_rem ha h0 hd
theorem upd6 {N k : Nat} {f g : FN} {x x' : Int32} (h : ∀ i, i < N → f i = g i) (hx : x = x') : ∀ i, i < N → upd f k x i = upd g k x' i := by
  intro i hi
  unfold upd
  by_cases q : i = k
  · rw [if_pos q, if_pos q]; exact hx
  · rw [if_neg q, if_neg q]; exact h i hi
theorem updE {N k B : Nat} {f g : FN} {v : Nat} (h : ∀ i, i < N → ∃ v, v ≤ B ∧ f i = nI v ∧ g i = nI v) (hv : v ≤ B) : ∀ i, i < N → ∃ v', v' ≤ B ∧ upd f k (nI v) i = nI v' ∧ upd g k (nI v) i = nI v' := by
  intro i hi
  unfold upd
  by_cases q : i = k
  · rw [if_pos q, if_pos q]; exact ⟨v, hv, rfl, rfl⟩
  · rw [if_neg q, if_neg q]; exact h i hi
theorem upd0 {n k : Nat} {f : FN} {x : Int32} {a' b' : Nat} (h : ∀ a b, a < 6 → b < 6 → n ≤ a ∨ n ≤ b → f (6 * a + b) = nI 0) (hk : k = 6 * a' + b') (ha : a' < n) (hb : b' < n) (hn : n ≤ 6) : ∀ a b, a < 6 → b < 6 → n ≤ a ∨ n ≤ b → upd f k x (6 * a + b) = nI 0 := by
  intro a b ha2 hb2 hab
  rw [pk_un (by omega)]
  exact h a b ha2 hb2 hab
theorem and1 (x : Int32) : x &&& 1 = 0 ∨ x &&& 1 = 1 := by
  have h := pk_and x (m := 1) 1 (by decide)
  rcases (show x.toBitVec.toNat % 2 ^ 1 = 0 ∨ x.toBitVec.toNat % 2 ^ 1 = 1 by omega) with e | e
  · left; rw [h, e]; rfl
  · right; rw [h, e]; rfl
theorem has_z {fu : Nat} {x p : Int32} : f_X12_has fu x p = some (if (jshr x p &&& 1) = 0 then 0 else 1) := by
  simp only [f_X12_has]
  rcases and1 (jshr x p) with e | e
  · rw [e]; rfl
  · rw [e]; rfl
section L1
variable {fu n B t k d : Nat} {h : Nat → Nat} {ha M : FN} {pu ow se kp wk : FN} {si cl sa fi va le fo wh sa2 qu va2 le2 fo2 su : Int32} {pu2 be de st vi : FN}
theorem hour_eq (S : SRx n B pu ow se kp wk si cl sa fi va le fo wh sa2 qu va2 le2 fo2 su pu2 be de st vi) (hB : B < 1000) (hf : 100 ≤ fu) : ∃ x y, f_X1_nextHour fu ow se cl = some x ∧ f_X12_goesOn fu wh su be de = some y ∧ SRx n (B + 1) pu x.1 x.2.1 kp wk si x.2.2 sa fi va le fo y.1 sa2 qu va2 le2 fo2 y.2.1 pu2 y.2.2.1 y.2.2.2 st vi := by
  obtain ⟨s1, s2, s3, s4, s5, s6, s7, ⟨c, c1, rfl, rfl, rfl⟩, ⟨s, h1, h2⟩, s10⟩ := S
  obtain ⟨g1, e1, g1h⟩ := fill_ok (fu := fu) (N := 6) (f := se) (v := 6) (by decide) (by omega)
  obtain ⟨g2, e2, g2h⟩ := goes6 (fu := fu) (f := be) (by omega)
  have hse : ∀ i, i < 6 → ∃ v, v ≤ 6 ∧ g1 i = nI v ∧ g2 i = nI v := fun i hi => ⟨6, Nat.le_refl _, g1h i hi, g2h i hi⟩
  have hj : jrm (nI (c + 1)) 10 = nI ((c + 1) % 10) := jrm_n (by omega) (by decide) (by decide)
  have hz : nI ((c + 1) % 10) = 0 ↔ (c + 1) % 10 = 0 := nI_eq0 (by omega)
  by_cases q : (c + 1) % 10 = 0
  · have hex : ∃ o : Nat → Nat, ∀ i, i < 36 → o i ≤ 99 ∧ ow i = nI (o i) ∧ de i = nI (o i) := by
      refine ⟨fun i => (ow i).toNatClampNeg, fun i hi => ?_⟩
      obtain ⟨v, v1, v2, v3⟩ := s2 i hi
      show (ow i).toNatClampNeg ≤ 99 ∧ ow i = nI (ow i).toNatClampNeg ∧ de i = nI (ow i).toNatClampNeg
      rw [v2, nI_clamp (by omega), v3]
      exact ⟨v1, rfl, rfl⟩
    obtain ⟨o, ho⟩ := hex
    obtain ⟨f1, k1, k1h⟩ := sunC (fu := fu) (f := ow) (o := o) (fun i hi => ⟨(ho i hi).1, (ho i hi).2.1⟩) (by omega)
    obtain ⟨f2, k2, k2h⟩ := sunM (fu := fu) (f := de) (o := o) (fun i hi => ⟨(ho i hi).1, (ho i hi).2.2⟩) (by omega)
    refine ⟨(f1, g1, nI (c + 1)), (nI (c + 1), nI (c / 10 + 1), g2, f2), ?_, ?_, s1, fun i hi => ⟨sun (o i), sun_le, k1h i hi, k2h i hi⟩, fun a b ha hb hab => ?_, hse, s5, s6, s7, ⟨c + 1, by omega, rfl, rfl, ?_⟩, ⟨s, by omega, h2⟩, s10⟩
    · unfold f_X1_nextHour
      rw [e1, bnd_some]
      simp only [ltn, nI_1, hj, hz, if_pos q, k1, bnd_some]
    · unfold f_X12_goesOn
      simp only [ltn, nI_1, e2, bnd_some, hj, hz, if_pos q, k2]
    · show f1 (6 * a + b) = nI 0
      rw [k1h _ (by omega)]
      have := s3 a b ha hb hab
      rw [(ho _ (by omega)).2.1, nI_eq (by have := (ho (6 * a + b) (by omega)).1; omega) (by decide)] at this
      rw [this]
      rfl
    · show nI (c / 10 + 1) = nI ((c + 1) / 10)
      rw [show (c + 1) / 10 = c / 10 + 1 by omega]
  · refine ⟨(ow, g1, nI (c + 1)), (nI (c + 1), nI (c / 10), g2, de), ?_, ?_, s1, s2, s3, hse, s5, s6, s7, ⟨c + 1, by omega, rfl, rfl, ?_⟩, ⟨s, by omega, h2⟩, s10⟩
    · unfold f_X1_nextHour
      rw [e1, bnd_some]
      simp only [ltn, nI_1, hj, hz, if_neg q]
    · unfold f_X12_goesOn
      simp only [ltn, nI_1, e2, bnd_some, hj, hz, if_neg q]
    · show nI (c / 10) = nI ((c + 1) / 10)
      rw [show (c + 1) / 10 = c / 10 by omega]
end L1
