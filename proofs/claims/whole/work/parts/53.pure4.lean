/-! ===== hand: the reference lays a town out ===== -/
abbrev HT : Type := Int32 × Int32 × Int32 × Int32 × Int32 × Int32 × Int32 × Int32 × Int32 × Int32 × (Nat → Int32) × (Nat → Int32) × (Nat → Int32) × (Nat → Int32) × (Nat → Int32)
def Hd (t n : Nat) (pu o : Nat → Nat) (x : HT) : Prop := x.1 = 1 ∧ x.2.1 = nI t ∧ x.2.2.1 = nI n ∧ (x.2.2.2.1 = 0 ∧ x.2.2.2.2.1 = 0 ∧ x.2.2.2.2.2.1 = 0 ∧ x.2.2.2.2.2.2.1 = 0 ∧ x.2.2.2.2.2.2.2.1 = 0 ∧ x.2.2.2.2.2.2.2.2.1 = 0 ∧ x.2.2.2.2.2.2.2.2.2.1 = 0) ∧ (∀ i, i < 6 → x.2.2.2.2.2.2.2.2.2.2.1 i = nI (pu i)) ∧ (∀ i, i < 6 → x.2.2.2.2.2.2.2.2.2.2.2.1 i = 6) ∧ (∀ i, i < 36 → x.2.2.2.2.2.2.2.2.2.2.2.2.1 i = nI (o i)) ∧ (∀ i, i < 6 → x.2.2.2.2.2.2.2.2.2.2.2.2.2.1 i = 0) ∧ (∀ i, i < 6 → x.2.2.2.2.2.2.2.2.2.2.2.2.2.2 i = 0)
theorem upd_lt {f : Nat → Int32} {j : Nat} {x : Int32} {g : Nat → Int32} (h : ∀ i, i < j → f i = g i) (hx : x = g j) : ∀ i, i < j + 1 → upd f j x i = g i := by
  intro i hi
  unfold upd
  by_cases q : i = j
  · rw [if_pos q, q]; exact hx
  · rw [if_neg q]; exact h i (by omega)
section HND
variable {fu n t : Nat} {w pu h o : Nat → Nat} {M many : Nat → Int32}
theorem ok_hand {a1 a2 a3 a4 a5 a6 a7 a8 a9 : Int32} {b1 b2 b3 b4 b5 : Nat → Int32} (hM : TwM n w pu h o M (55 * t)) (ht : t < 2) (his : f_X12_is fu many 0 (nI t) = some 1) (hf : 100 ≤ fu) : ok (f_X12_hand fu many M a1 a2 a3 a4 a5 a6 a7 a8 a9 b1 b2 b3 b4 b5 (nI t)) (Hd t n pu o) := by
  unfold f_X12_hand
  refine ok_bnd (ok_eq his ?_)
  rw [if_neg (by decide)]
  refine ok_bnd (ok_eq (e_X12_of (k := 0) (v := nI n) (by rw [← hM.1]; rfl) (by omega)) ?_)
  refine ok_bnd (ok_mono (ok_lp (step := f_X12_hand_L62 fu M (nI t)) (P := fun v => (∀ i, i < 6 → v.1 i = nI (pu i)) ∧ (∀ i, i < 6 → v.2.1 i = 6) ∧ (∀ i, i < 6 → v.2.2.1 i = 0) ∧ (∀ i, i < 6 → v.2.2.2 i = 0)) (fun s => ∃ j, j ≤ 6 ∧ s.1 = nI j ∧ (∀ i, i < j → s.2.1 i = nI (pu i)) ∧ (∀ i, i < j → s.2.2.1 i = 6) ∧ (∀ i, i < j → s.2.2.2.1 i = 0) ∧ (∀ i, i < j → s.2.2.2.2 i = 0)) (fun s => 6 - s.1.toNatClampNeg) ?_ fu _ ⟨0, by omega, rfl, fun _ h => absurd h (by omega), fun _ h => absurd h (by omega), fun _ h => absurd h (by omega), fun _ h => absurd h (by omega)⟩ (by show 6 - _ < fu; omega)) ?_)
  · rintro ⟨c, u1, u2, u3, u4⟩ ⟨j, hj, rfl, h1, h2, h3, h4⟩
    simp only [f_X12_hand_L62]
    by_cases q : j = 6
    · subst q
      rw [if_pos (by decide)]
      exact ok_some ⟨h1, h2, h3, h4⟩
    · have hj6 : j < 6 := by omega
      have e1 : f_X12_of fu M (nI t) (7 + nI j) = some (nI (pu j)) := by
        rw [show (7 : Int32) + nI j = nI (7 + j) by rw [show (7 : Int32) = nI 7 from rfl, nI_add]]
        exact e_X12_of (by rw [← hM.2.2.1 j hj6, Nat.add_assoc]) (by omega)
      rw [show (6 : Int32) = nI 6 from rfl, if_neg (nI_ge hj6 (by decide)), e1]
      simp only [bnd_some, wri_n hj6 (by decide : 6 < 2 ^ 31)]
      refine ok_some ⟨⟨j + 1, by omega, nI_1 j, upd_lt h1 rfl, upd_lt (g := fun _ => 6) h2 rfl, upd_lt (g := fun _ => 0) h3 rfl, upd_lt (g := fun _ => 0) h4 rfl⟩, ?_⟩
      show 6 - (nI j + 1).toNatClampNeg < 6 - (nI j).toNatClampNeg
      rw [nI_1, nI_clamp (by omega), nI_clamp (by omega)]
      omega
  rintro ⟨v1, v2, v3, v4⟩ ⟨g1, g2, g3, g4⟩
  refine ok_bnd (ok_mono (ok_lp (step := f_X12_hand_L112 fu M (nI t)) (P := fun v => ∀ i, i < 36 → v i = nI (o i)) (fun s => ∃ j, j ≤ 36 ∧ s.1 = nI j ∧ (∀ i, i < j → s.2 i = nI (o i))) (fun s => 36 - s.1.toNatClampNeg) ?_ fu _ ⟨0, by omega, rfl, fun _ h => absurd h (by omega)⟩ (by show 36 - _ < fu; omega)) ?_)
  · rintro ⟨c, u1⟩ ⟨j, hj, rfl, h1⟩
    simp only [f_X12_hand_L112]
    by_cases q : j = 36
    · subst q
      rw [if_pos (by decide)]
      exact ok_some h1
    · have hj6 : j < 36 := by omega
      have e1 : f_X12_of fu M (nI t) (19 + nI j) = some (nI (o j)) := by
        rw [show (19 : Int32) + nI j = nI (19 + j) by rw [show (19 : Int32) = nI 19 from rfl, nI_add]]
        exact e_X12_of (by rw [← hM.2.2.2.2 j hj6, Nat.add_assoc]) (by omega)
      rw [show (36 : Int32) = nI 36 from rfl, if_neg (nI_ge hj6 (by decide)), e1]
      simp only [bnd_some, wri_n hj6 (by decide : 36 < 2 ^ 31)]
      refine ok_some ⟨⟨j + 1, by omega, nI_1 j, upd_lt h1 rfl⟩, ?_⟩
      show 36 - (nI j + 1).toNatClampNeg < 36 - (nI j).toNatClampNeg
      rw [nI_1, nI_clamp (by omega), nI_clamp (by omega)]
      omega
  intro v hv
  exact ok_some ⟨rfl, rfl, rfl, ⟨rfl, rfl, rfl, rfl, rfl, rfl, rfl⟩, g1, g2, hv, g3, g4⟩
theorem no_hand {a1 a2 a3 a4 a5 a6 a7 a8 a9 : Int32} {b1 b2 b3 b4 b5 : Nat → Int32} {x : Int32} (his : f_X12_is fu many 0 x = some 0) : ok (f_X12_hand fu many M a1 a2 a3 a4 a5 a6 a7 a8 a9 b1 b2 b3 b4 b5 x) (fun y => y.1 = 0) := by
  unfold f_X12_hand
  refine ok_bnd (ok_eq his ?_)
  rw [if_pos rfl]
  exact ok_some rfl
end HND
/-! ===== which one of two ===== -/
theorem sel_is {fu : Nat} {cn mn : Nat → Int32} {c sr : Nat} (hs : sr < 3) (hc : c ≤ 2) (h1 : cn sr = nI c) (h2 : mn sr = nI c) (x : Int32) : (∃ k, k < c ∧ x = nI k ∧ f_X8_holds fu cn (nI sr) x = some 1 ∧ f_X12_is fu mn (nI sr) x = some 1) ∨ (f_X8_holds fu cn (nI sr) x = some 0 ∧ f_X12_is fu mn (nI sr) x = some 0) := by
  have hm := nI_m1 c (by omega)
  by_cases q : x < 0
  · refine Or.inr ⟨?_, ?_⟩
    · simp only [f_X8_holds, if_pos q]
    · simp only [f_X12_is, f_X12_in, if_pos q, rdi_n (by omega : sr < 12) (by decide) h2, bnd_some]; rfl
  · obtain ⟨j, hj, rfl⟩ := nI_of q
    have hji : (nI j).toInt = (j : Int) := nI_toInt hj
    by_cases h3 : j < c
    · refine Or.inl ⟨j, h3, rfl, ?_, ?_⟩
      · simp only [f_X8_holds, if_neg q, if_neg (show ¬ (2 : Int32) ≤ nI j by rw [show (2 : Int32) = nI 2 from rfl]; exact nI_ge (by omega) (by decide)), rdi_n hs (by decide) h1, bnd_some, if_neg (nI_ge h3 (by omega))]
      · have h4 : ¬ nI c - 1 < nI j := by rw [fa_lt, hm, hji]; omega
        simp only [f_X12_is, f_X12_in, if_neg q, if_neg h4, rdi_n (by omega : sr < 12) (by decide) h2, bnd_some]; rfl
    · refine Or.inr ⟨?_, ?_⟩
      · simp only [f_X8_holds, if_neg q, rdi_n hs (by decide) h1, bnd_some, if_pos (nI_le (show c ≤ j by omega) hj), ite_self]
      · have h4 : nI c - 1 < nI j := by rw [fa_lt, hm, hji]; omega
        simp only [f_X12_is, f_X12_in, if_neg q, if_pos h4, rdi_n (by omega : sr < 12) (by decide) h2, bnd_some]; rfl
/-- the towns that are told, in class and reference (slot 0) -/
def TI (cn : Nat → Int32) (p0 : Int32) (w0 u0 h0 o0 : Nat → Int32) (p1 : Int32) (w1 u1 h1 o1 : Nat → Int32) (mn M : Nat → Int32) : Prop :=
  ∃ c, c ≤ 2 ∧ cn 0 = nI c ∧ mn 0 = nI c ∧ (0 < c → ∃ n w pu h o, TwV n w pu h o ∧ TwC n w pu h o p0 w0 u0 h0 o0 ∧ TwM n w pu h o M 0) ∧ (1 < c → ∃ n w pu h o, TwV n w pu h o ∧ TwC n w pu h o p1 w1 u1 h1 o1 ∧ TwM n w pu h o M 55)
theorem selT {fu : Nat} {cn : Nat → Int32} {p0 : Int32} {w0 u0 h0 o0 : Nat → Int32} {p1 : Int32} {w1 u1 h1 o1 : Nat → Int32} {mn M : Nat → Int32} (I : TI cn p0 w0 u0 h0 o0 p1 w1 u1 h1 o1 mn M) (x : Int32) :
    (f_X8_townAt fu cn x = some (-1) ∧ f_X12_is fu mn 0 x = some 0) ∨ (x = nI 0 ∧ f_X8_townAt fu cn x = some 0 ∧ f_X12_is fu mn 0 (nI 0) = some 1 ∧ ∃ n w pu h o, TwV n w pu h o ∧ TwC n w pu h o p0 w0 u0 h0 o0 ∧ TwM n w pu h o M (55 * 0)) ∨ (x = nI 1 ∧ f_X8_townAt fu cn x = some 1 ∧ f_X12_is fu mn 0 (nI 1) = some 1 ∧ ∃ n w pu h o, TwV n w pu h o ∧ TwC n w pu h o p1 w1 u1 h1 o1 ∧ TwM n w pu h o M (55 * 1)) := by
  obtain ⟨c, hc, e1, e2, t0, t1⟩ := I
  rcases sel_is (fu := fu) (sr := 0) (by decide) hc e1 e2 x with ⟨k, hk, rfl, q1, q2⟩ | ⟨q1, q2⟩
  · rcases (show k = 0 ∨ k = 1 by omega) with rfl | rfl
    · refine Or.inr (Or.inl ⟨rfl, ?_, q2, t0 hk⟩)
      unfold f_X8_townAt
      rw [show (0 : Int32) = nI 0 from rfl, q1]
      rfl
    · refine Or.inr (Or.inr ⟨rfl, ?_, q2, t1 hk⟩)
      unfold f_X8_townAt
      rw [show (0 : Int32) = nI 0 from rfl, q1]
      rfl
  · refine Or.inl ⟨?_, q2⟩
    unfold f_X8_townAt
    rw [show (0 : Int32) = nI 0 from rfl, q1]
    rfl
def Agr {α β γ : Type} (a : Option α) (g : α → γ) (b : Option β) (k : β → γ) : Prop := ∃ x y, a = some x ∧ b = some y ∧ g x = k y
theorem agr_of {α β γ : Type} {a : Option α} {g : α → γ} {b : Option β} {k : β → γ} (v : γ) (h1 : ok a (fun x => g x = v)) (h2 : ok b (fun y => k y = v)) : Agr a g b k := by
  obtain ⟨x, e1, q1⟩ := h1
  obtain ⟨y, e2, q2⟩ := h2
  exact ⟨x, y, e1, e2, q1.trans q2.symm⟩
