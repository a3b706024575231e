/-! ===== what is asked of the list ===== -/
def alN (v : Nat) : Nat := v % 100 ||| 2 ^ (v / 100)
def tgN (x : NL) (a b : Nat) : Nat := fldN (fun i z => z + if bi (alN (x.2 i)) a = 1 ∧ bi (alN (x.2 i)) b = 1 then 1 else 0) 0 x.1 0
theorem tgN_le {x : NL} {a b : Nat} : tgN x a b ≤ x.1 := by
  have := fld_le (f := fun i => if bi (alN (x.2 i)) a = 1 ∧ bi (alN (x.2 i)) b = 1 then 1 else 0) (B := 1) x.1 0 0 (fun i _ => by split <;> omega)
  unfold tgN
  omega
section LST
variable {fu n a b : Nat} {x : NL} {ar br : FN}
theorem okL_186 (hn : n ≤ 6) (h : okL n n 0 x) : x.1 ≤ 186 := by
  have h1 := h.1
  have : zc n 0 = 0 := rfl
  omega
theorem okL_v (hn : n ≤ 6) (h : okL n n 0 x) {i : Nat} (hi : i < x.1) : x.2 i < 2 ^ 31 ∧ x.2 i / 100 < 6 ∧ x.2 i % 100 < 64 ∧ alN (x.2 i) < 64 := by
  obtain ⟨-, h1, h2, h3⟩ := h.2.1 i hi
  refine ⟨by omega, by omega, h3, ?_⟩
  exact or_pow (n := 6) h3 (pw_lt (by omega))
theorem e_al {v : Nat} (h1 : v < 2 ^ 31) (h2 : v / 100 < 6) : jrm (nI v) 100 ||| jshl 1 (nI v / 100) = nI (alN v) := by
  rw [show (100 : Int32) = nI 100 from rfl, jrm_n h1 (by decide) (by decide), pk_div h1 (by decide) (by decide), jshl_1 (v / 100) (by omega), fa_or]
  rfl
theorem e_X7_together (hn : n ≤ 6) (h : okL n n 0 x) (hr : ∀ i, i < x.1 → ar i = nI (x.2 i)) (ha : a < 6) (hb : b < 6) (hf : 1000 ≤ fu) : f_X7_together fu (nI x.1) ar (nI a) (nI b) = some (nI (tgN x a b)) := by
  have l := okL_186 hn h
  have key := lp_up0 (step := f_X7_together_L5 (nI x.1) ar (nI a) (nI b)) (fun j z => (nI z, nI j)) (fun i z => z + if bi (alN (x.2 i)) a = 1 ∧ bi (alN (x.2 i)) b = 1 then 1 else 0) x.1 (fun z => nI z) (fun j z hj => by
    obtain ⟨v1, v2, v3, v4⟩ := okL_v hn h hj
    simp only [f_X7_together_L5, if_neg (nI_ge hj (by omega : x.1 < 2 ^ 31)), rdi_n (show j < 186 by omega) (by decide) (hr j hj), bnd_some, ltn, e_al v1 v2, tog0 _ v4 a ha b hb, nI_add, nI_1]) (fun z => by
    simp only [f_X7_together_L5, if_pos (nI_le (Nat.le_refl x.1) (by omega : x.1 < 2 ^ 31))]) (fu := fu) (a := 0) (by omega)
  unfold f_X7_together
  exact bnd_r key
theorem e_X12_together (hn : n ≤ 6) (h : okL n n 0 x) (hr : ∀ i, i < x.1 → br i = nI (x.2 i)) (ha : a < 6) (hb : b < 6) (hf : 1000 ≤ fu) : f_X12_manyTogether fu br (nI x.1) (nI a) (nI b) = some (nI (tgN x a b)) := by
  have l := okL_186 hn h
  have key := lp_up0 (step := f_X12_manyTogether_L5 fu br (nI x.1) (nI a) (nI b)) (fun j z => (nI z, nI j)) (fun i z => z + if bi (alN (x.2 i)) a = 1 ∧ bi (alN (x.2 i)) b = 1 then 1 else 0) x.1 (fun z => nI z) (fun j z hj => by
    obtain ⟨v1, v2, v3, v4⟩ := okL_v hn h hj
    have b1 := bi_lt (alN (x.2 j)) a
    have b2 := bi_lt (alN (x.2 j)) b
    simp only [f_X12_manyTogether_L5, if_neg (nI_ge hj (by omega : x.1 < 2 ^ 31)), rdi_n (show j < 192 by omega) (by decide) (hr j hj), bnd_some, ltn, f_X12_allOf, e_al v1 v2, e_X12_has v4 ha, e_X12_has v4 hb, i0_add, nI_1]
    by_cases q1 : bi (alN (x.2 j)) a = 1
    · rw [if_neg (fun z => by have := (nI_eq0 (by omega)).1 z; omega)]
      by_cases q2 : bi (alN (x.2 j)) b = 1
      · rw [if_neg (fun z => by have := (nI_eq0 (by omega)).1 z; omega), if_pos ⟨q1, q2⟩]
      · rw [if_pos ((nI_eq0 (by omega)).2 (by omega)), if_neg (fun z => q2 z.2)] <;> rfl
    · rw [if_pos ((nI_eq0 (by omega)).2 (by omega)), if_neg (fun z => q1 z.1)] <;> rfl) (fun z => by
    simp only [f_X12_manyTogether_L5, if_pos (nI_le (Nat.le_refl x.1) (by omega : x.1 < 2 ^ 31))]) (fu := fu) (a := 0) (by omega)
  unfold f_X12_manyTogether
  exact bnd_r key
/-- who it must be -/
def suN (x : NL) : Int32 := if x.1 = 0 then -1 else if x.2 0 / 100 = x.2 (x.1 - 1) / 100 then nI (x.2 0 / 100) else -1
theorem e_X7_sure (hn : n ≤ 6) (h : okL n n 0 x) (hr : ∀ i, i < x.1 → ar i = nI (x.2 i)) : f_X7_sure fu (nI x.1) ar = some (suN x) := by
  have l := okL_186 hn h
  unfold f_X7_sure suN
  by_cases q : x.1 = 0
  · rw [if_pos (by rw [q]; decide), if_pos q]
  · obtain ⟨v1, v2, -⟩ := okL_v hn h (show 0 < x.1 by omega)
    obtain ⟨u1, u2, -⟩ := okL_v hn h (show x.1 - 1 < x.1 by omega)
    have r0 : rdi 186 ar 0 = some (nI (x.2 0)) := rdi_n (k := 0) (by decide) (by decide) (hr 0 (by omega))
    rw [if_neg (nI_nle (by omega) (by omega)), if_neg q, r0, bnd_some, show nI x.1 - 1 = nI (x.1 - 1) by rw [show (1 : Int32) = nI 1 from rfl, pk_sub (by omega)], rdi_n (show x.1 - 1 < 186 by omega) (by decide) (hr _ (by omega)), bnd_some, bnd_some, show (100 : Int32) = nI 100 from rfl, pk_div v1 (by decide) (by decide), pk_div u1 (by decide) (by decide)]
    by_cases e : x.2 0 / 100 = x.2 (x.1 - 1) / 100
    · rw [if_pos (by rw [e]), if_pos e]
    · rw [if_neg (fun z => e ((nI_eq (by omega) (by omega)).1 z)), if_neg e]
theorem e_X12_sure (hn : n ≤ 6) (h : okL n n 0 x) (hr : ∀ i, i < x.1 → br i = nI (x.2 i)) (hf : 1000 ≤ fu) : f_X12_sure fu br (nI x.1) = some (suN x) := by
  have l := okL_186 hn h
  unfold f_X12_sure suN
  by_cases q : x.1 = 0
  · have e1 : lp (f_X12_sure_L23 br (nI x.1)) fu ((-1 : Int32), (0 : Int32)) = some (-1) := lp_e (by simp only [f_X12_sure_L23]; rw [if_pos (by rw [q]; decide)]) (by omega)
    rw [if_pos (by rw [q]; rfl), if_pos q, bnd_some, e1]
    rfl
  · obtain ⟨v1, v2, -⟩ := okL_v hn h (show 0 < x.1 by omega)
    have r0 : rdi 192 br 0 = some (nI (x.2 0)) := rdi_n (k := 0) (by decide) (by decide) (hr 0 (by omega))
    rw [if_neg (nI_ne0 (by omega) (by omega)), if_neg q, r0, bnd_some, bnd_some, show (100 : Int32) = nI 100 from rfl, pk_div v1 (by decide) (by decide)]
    have key := lp_up (step := f_X12_sure_L23 br (nI x.1)) (fun j (z : Int32) => (z, nI j)) (fun j z => if nI (x.2 j / 100) = z then z else -1) x.1 (fun z => z) (fun j z => z = if ∀ i, i < j → x.2 i / 100 = x.2 0 / 100 then nI (x.2 0 / 100) else -1) (fun j z hj hz => by
      obtain ⟨u1, u2, -⟩ := okL_v hn h hj
      refine ⟨?_, ?_⟩
      · simp only [f_X12_sure_L23, if_neg (nI_ge hj (by omega : x.1 < 2 ^ 31)), rdi_n (show j < 192 by omega) (by decide) (hr j hj), bnd_some, li_100, pk_div u1 (show 0 < 100 by decide) (show 100 < 2 ^ 31 by decide), nI_1]
        split <;> rfl
      · show (if nI (x.2 j / 100) = z then z else -1) = _
        rw [hz]
        by_cases c1 : ∀ i, i < j → x.2 i / 100 = x.2 0 / 100
        · rw [if_pos c1]
          by_cases c2 : x.2 j / 100 = x.2 0 / 100
          · rw [if_pos (by rw [c2]), if_pos]
            intro i hi
            by_cases e : i = j
            · rw [e]; exact c2
            · exact c1 i (by omega)
          · rw [if_neg (fun u => c2 ((nI_eq (by omega) (by omega)).1 u)), if_neg (fun u => c2 (u j (by omega)))]
        · rw [if_neg c1, if_neg (nI_nm1 (by omega)), if_neg (fun u => c1 (fun i hi => u i (by omega)))]) (fun z _ => by
      simp only [f_X12_sure_L23, if_pos (nI_le (Nat.le_refl x.1) (by omega : x.1 < 2 ^ 31))]) x.1 fu 0 (nI (x.2 0 / 100)) (by omega) (by omega) (by rw [if_pos (fun i hi => absurd hi (by omega))])
    refine (bnd_r key.1).trans ?_
    show some _ = _
    rw [key.2]
    by_cases e : x.2 0 / 100 = x.2 (x.1 - 1) / 100
    · rw [if_pos e, if_pos]
      intro i hi
      have m1 := h.2.2 0 i (by omega) hi
      have m2 := h.2.2 i (x.1 - 1) (by omega) (by omega)
      omega
    · rw [if_neg e, if_neg (fun u => e (u (x.1 - 1) (by omega)).symm)]
/-- the two to be watched -/
def byN (x : NL) (a b : Nat) : Nat := max (tgN x a b) (x.1 - tgN x a b)
def gWb (x : NL) (a b : Nat) (s : Option (Nat × Nat)) : Option (Nat × Nat) := match s with
  | none => some (10 * a + b, byN x a b)
  | some v => if v.2 ≤ byN x a b then some v else some (10 * a + b, byN x a b)
def gWa (n : Nat) (x : NL) (a : Nat) (s : Option (Nat × Nat)) : Option (Nat × Nat) := fldN (gWb x a) (a + 1) (n - (a + 1)) s
def waN (n : Nat) (x : NL) : Option (Nat × Nat) := if x.1 = 0 then none else fldN (gWa n x) 0 n none
def eW1 : Option (Nat × Nat) → Int32
  | none => -1
  | some v => nI v.1
def eW2 (d : Int32) : Option (Nat × Nat) → Int32
  | none => d
  | some v => nI v.2
def okW (x : NL) (s : Option (Nat × Nat)) : Prop := ∀ v, s = some v → v.2 ≤ x.1
theorem byN_le : byN x a b ≤ x.1 := by
  have := tgN_le (x := x) (a := a) (b := b)
  unfold byN
  omega
theorem gWb_s {v : Nat × Nat} : gWb x a b (some v) = if v.2 ≤ byN x a b then some v else some (10 * a + b, byN x a b) := rfl
theorem okW_b {s : Option (Nat × Nat)} (h : okW x s) : okW x (gWb x a b s) := by
  intro v hv
  have := byN_le (x := x) (a := a) (b := b)
  cases s with
  | none => cases hv; exact this
  | some u =>
    have hu := h u rfl
    rw [gWb_s] at hv
    by_cases q : u.2 ≤ byN x a b
    · rw [if_pos q] at hv; cases hv; exact hu
    · rw [if_neg q] at hv; cases hv; exact this
theorem e_by (hl : x.1 ≤ 186) : jmax (nI (tgN x a b)) (nI x.1 - nI (tgN x a b)) = nI (byN x a b) := by
  have := tgN_le (x := x) (a := a) (b := b)
  rw [pk_sub this, jmax_n (by omega) (by omega)]
  rfl
theorem e_X7_watch (hn : n ≤ 6) (h : okL n n 0 x) (hr : ∀ i, i < x.1 → ar i = nI (x.2 i)) (hf : 1000 ≤ fu) : f_X7_watch fu (nI x.1) (nI n) ar = some (eW1 (waN n x)) := by
  have l := okL_186 hn h
  unfold f_X7_watch
  dsimp only [ltn]
  rw [nI_1]
  by_cases q : x.1 = 0
  · have e1 : lp (f_X7_watch_L11 fu (nI x.1) (nI n) ar) fu ((-1 : Int32), nI (x.1 + 1), (0 : Int32)) = some (-1) := lp_e (by
      simp only [f_X7_watch_L11]
      by_cases z : nI n ≤ 0
      · rw [if_pos z]
      · rw [if_neg z, if_pos (by rw [q]; decide)]) (by omega)
    rw [e1, bnd_some]
    unfold waN
    rw [if_pos q]
    rfl
  · have inn : ∀ (a : Nat) (s : Option (Nat × Nat)) (s3 : Int32 × Int32 × Int32), a < n → okW x s → s3.2.2 = nI a → lp (f_X7_watch_L31 fu (nI x.1) (nI n) ar s3) fu (eW1 s, eW2 (nI (x.1 + 1)) s, nI (a + 1)) = some (eW1 (gWa n x a s), eW2 (nI (x.1 + 1)) (gWa n x a s)) ∧ okW x (gWa n x a s) := by
      intro a s s3 ha hs e3
      exact (lp_up (step := f_X7_watch_L31 fu (nI x.1) (nI n) ar s3) (fun j s => (eW1 s, eW2 (nI (x.1 + 1)) s, nI j)) (gWb x a) n (fun s => (eW1 s, eW2 (nI (x.1 + 1)) s)) (fun _ s => okW x s) (fun j s hj hs => by
        refine ⟨?_, okW_b hs⟩
        have bl := byN_le (x := x) (a := a) (b := j)
        simp only [f_X7_watch_L31, if_neg (nI_ge hj (by omega : n < 2 ^ 31)), e3, e_X7_together hn h hr (show a < 6 by omega) (show j < 6 by omega) hf, bnd_some]
        dsimp only [ltn]
        rw [e_by l, show (10 : Int32) = nI 10 from rfl, pk_mul, nI_add, nI_1]
        cases s with
        | none =>
          rw [show eW2 (nI (x.1 + 1)) none = nI (x.1 + 1) from rfl, if_neg (nI_ge (by omega) (by omega))]
          rfl
        | some v =>
          rw [show eW2 (nI (x.1 + 1)) (some v) = nI v.2 from rfl]
          have hv := hs v rfl
          rw [gWb_s]
          by_cases u : v.2 ≤ byN x a j
          · rw [if_pos (nI_le u (by omega)), if_pos u]; rfl
          · rw [if_neg (nI_ge (by omega) (by omega)), if_neg u]; rfl) (fun s _ => by
        simp only [f_X7_watch_L31, if_pos (nI_le (Nat.le_refl n) (by omega : n < 2 ^ 31))]) (n - (a + 1)) fu (a + 1) s (by omega) (by omega) hs)
    have key := (lp_up (step := f_X7_watch_L11 fu (nI x.1) (nI n) ar) (fun j s => (eW1 s, eW2 (nI (x.1 + 1)) s, nI j)) (gWa n x) n (fun s => eW1 s) (fun _ s => okW x s) (fun j s hj hs => by
      obtain ⟨i1, i2⟩ := inn j s (eW1 s, eW2 (nI (x.1 + 1)) s, nI j) hj hs rfl
      refine ⟨?_, i2⟩
      simp only [f_X7_watch_L11, if_neg (nI_ge hj (by omega : n < 2 ^ 31)), if_neg (nI_nle (show 0 < x.1 by omega) (by omega))]
      dsimp only [ltn]
      rw [nI_1, i1, bnd_some]) (fun s _ => by
      simp only [f_X7_watch_L11, if_pos (nI_le (Nat.le_refl n) (by omega : n < 2 ^ 31))]) n fu 0 none (by omega) (by omega) (fun v hv => by cases hv)).1
    refine (bnd_r key).trans ?_
    unfold waN
    rw [if_neg q]
theorem e_X12_watch (hn : n ≤ 6) (h : okL n n 0 x) (hr : ∀ i, i < x.1 → br i = nI (x.2 i)) (hf : 1000 ≤ fu) : f_X12_watch fu (nI n) br (nI x.1) = some (eW1 (waN n x)) := by
  have l := okL_186 hn h
  unfold f_X12_watch
  by_cases q : x.1 = 0
  · have e1 : lp (f_X12_watch_L8 fu (nI n) br (nI x.1)) fu ((-1 : Int32), (1000000 : Int32), (0 : Int32)) = some (-1) := lp_e (by
      simp only [f_X12_watch_L8]
      by_cases z : nI n ≤ 0
      · rw [if_pos z]
      · rw [if_neg z, if_pos (by rw [q]; decide)]) (by omega)
    rw [e1, bnd_some]
    unfold waN
    rw [if_pos q]
    rfl
  · have inn : ∀ (a : Nat) (s : Option (Nat × Nat)) (s3 : Int32 × Int32 × Int32), a < n → okW x s → s3.2.2 = nI a → lp (f_X12_watch_L28 fu (nI n) br (nI x.1) s3) fu (eW1 s, eW2 (nI 1000000) s, nI (a + 1)) = some (eW1 (gWa n x a s), eW2 (nI 1000000) (gWa n x a s)) ∧ okW x (gWa n x a s) := by
      intro a s s3 ha hs e3
      exact (lp_up (step := f_X12_watch_L28 fu (nI n) br (nI x.1) s3) (fun j s => (eW1 s, eW2 (nI 1000000) s, nI j)) (gWb x a) n (fun s => (eW1 s, eW2 (nI 1000000) s)) (fun _ s => okW x s) (fun j s hj hs => by
        refine ⟨?_, okW_b hs⟩
        have bl := byN_le (x := x) (a := a) (b := j)
        simp only [f_X12_watch_L28, if_neg (nI_ge hj (by omega : n < 2 ^ 31)), e3, e_X12_together hn h hr (show a < 6 by omega) (show j < 6 by omega) hf, bnd_some, e_greater, e_lesser]
        dsimp only [ltn]
        rw [e_by l, show (10 : Int32) = nI 10 from rfl, pk_mul, nI_add, nI_1]
        cases s with
        | none =>
          rw [show eW2 (nI 1000000) none = nI 1000000 from rfl, if_neg (nI_ge (by omega) (by decide)), jmin_n (by decide) (by omega), Nat.min_eq_right (by omega)]
          rfl
        | some v =>
          rw [show eW2 (nI 1000000) (some v) = nI v.2 from rfl]
          have hv := hs v rfl
          rw [gWb_s]
          by_cases u : v.2 ≤ byN x a j
          · rw [if_pos (nI_le u (by omega)), if_pos u, jmin_n (by omega) (by omega), Nat.min_eq_left u]; rfl
          · rw [if_neg (nI_ge (by omega) (by omega)), if_neg u, jmin_n (by omega) (by omega), Nat.min_eq_right (by omega)]; rfl) (fun s _ => by
        simp only [f_X12_watch_L28, if_pos (nI_le (Nat.le_refl n) (by omega : n < 2 ^ 31))]) (n - (a + 1)) fu (a + 1) s (by omega) (by omega) hs)
    have key := (lp_up (step := f_X12_watch_L8 fu (nI n) br (nI x.1)) (fun j s => (eW1 s, eW2 (nI 1000000) s, nI j)) (gWa n x) n (fun s => eW1 s) (fun _ s => okW x s) (fun j s hj hs => by
      obtain ⟨i1, i2⟩ := inn j s (eW1 s, eW2 (nI 1000000) s, nI j) hj hs rfl
      refine ⟨?_, i2⟩
      simp only [f_X12_watch_L8, if_neg (nI_ge hj (by omega : n < 2 ^ 31)), if_neg (nI_nle (show 0 < x.1 by omega) (by omega))]
      dsimp only [ltn]
      rw [nI_1, i1, bnd_some]) (fun s _ => by
      simp only [f_X12_watch_L8, if_pos (nI_le (Nat.le_refl n) (by omega : n < 2 ^ 31))]) n fu 0 none (by omega) (by omega) (fun v hv => by cases hv)).1
    refine (bnd_r key).trans ?_
    unfold waN
    rw [if_neg q]
/-- with how many he sits -/
def coN (u : Int32) (x : NL) (i v : Nat) : Nat := if u = 0 then min v (on (x.2 i % 100)) else max v (on (x.2 i % 100))
theorem on_64 : ∀ s, s < 64 → on s ≤ 6 := by decide +kernel
theorem coN_le {u : Int32} (hn : n ≤ 6) (h : okL n n 0 x) {i v : Nat} (hi : i < x.1) (hv : v ≤ 6) : coN u x i v ≤ 6 := by
  have := on_64 (x.2 i % 100) (okL_v hn h hi).2.2.1
  unfold coN
  split <;> omega
theorem e_co_z {u : Int32} (q : x.1 = 0) (hf : 1000 ≤ fu) : lp (f_X7_company_L4 fu (nI x.1) ar u) fu ((-1 : Int32), (0 : Int32)) = some (-1) := lp_e (by simp only [f_X7_company_L4]; rw [if_pos (by rw [q]; decide)]) (by omega)
theorem e_co_0 {u : Int32} (hn : n ≤ 6) (h : okL n n 0 x) (hr : ∀ i, i < x.1 → ar i = nI (x.2 i)) (q : ¬ x.1 = 0) : f_X7_company_L4 fu (nI x.1) ar u ((-1 : Int32), (0 : Int32)) = some (.inl (nI (on (x.2 0 % 100)), nI 1)) := by
  have l := okL_186 hn h
  obtain ⟨v1, v2, v3, v4⟩ := okL_v hn h (show 0 < x.1 by omega)
  have r0 : rdi 186 ar 0 = some (nI (x.2 0)) := rdi_n (k := 0) (by decide) (by decide) (hr 0 (by omega))
  have b0 : f_J6_bitCount_0f7a4 fu (nI (x.2 0 % 100)) = some (nI (on (x.2 0 % 100))) := e_bc v3
  generalize on (x.2 0 % 100) = c at b0 ⊢
  simp only [f_X7_company_L4]
  rw [if_neg (nI_nle (by omega) (by omega)), r0, bnd_some, show (100 : Int32) = nI 100 from rfl, jrm_n v1 (by decide) (by decide), b0, bnd_some, if_pos trivial, show (0 : Int32) + 1 = nI 1 by decide]
theorem e_co_s {u : Int32} (hn : n ≤ 6) (h : okL n n 0 x) (hr : ∀ i, i < x.1 → ar i = nI (x.2 i)) {j z : Nat} (hj : j < x.1) (hz : z ≤ 6) : f_X7_company_L4 fu (nI x.1) ar u (nI z, nI j) = some (.inl (nI (coN u x j z), nI (j + 1))) := by
  have l := okL_186 hn h
  obtain ⟨u1, u2, u3, u4⟩ := okL_v hn h hj
  have o6 := on_64 (x.2 j % 100) u3
  have b0 : f_J6_bitCount_0f7a4 fu (nI (x.2 j % 100)) = some (nI (on (x.2 j % 100))) := e_bc u3
  unfold coN
  generalize on (x.2 j % 100) = c at b0 o6 ⊢
  simp only [f_X7_company_L4]
  rw [if_neg (nI_ge hj (by omega)), rdi_n (show j < 186 by omega) (by decide) (hr j hj), bnd_some, show (100 : Int32) = nI 100 from rfl, jrm_n u1 (by decide) (by decide), b0, bnd_some, if_neg (nI_nm1 (by omega)), nI_1]
  by_cases q0 : u = 0
  · rw [if_pos q0, if_pos q0]
    by_cases q1 : z ≤ c
    · rw [if_pos (nI_le q1 (by omega)), Nat.min_eq_left q1]
    · rw [if_neg (nI_ge (by omega) (by omega)), Nat.min_eq_right (by omega)]
  · rw [if_neg q0, if_neg q0]
    by_cases q1 : c ≤ z
    · rw [if_pos (nI_le q1 (by omega)), Nat.max_eq_left q1]
    · rw [if_neg (nI_ge (by omega) (by omega)), Nat.max_eq_right (by omega)]
theorem e_X7_company {u : Int32} (hn : n ≤ 6) (h : okL n n 0 x) (hr : ∀ i, i < x.1 → ar i = nI (x.2 i)) (hf : 1000 ≤ fu) : f_X7_company fu (nI x.1) ar u = some (if x.1 = 0 then -1 else nI (fldN (coN u x) 1 (x.1 - 1) (on (x.2 0 % 100)))) := by
  have l := okL_186 hn h
  unfold f_X7_company
  by_cases q : x.1 = 0
  · rw [e_co_z q hf, if_pos q, bnd_some]
  · obtain ⟨v1, v2, v3, v4⟩ := okL_v hn h (show 0 < x.1 by omega)
    have o6 := on_64 (x.2 0 % 100) v3
    have e0 := e_co_0 (fu := fu) (u := u) hn h hr q
    generalize on (x.2 0 % 100) = c at e0 o6 ⊢
    obtain ⟨fu1, hfu⟩ : ∃ fu1, fu = fu1 + 1 := ⟨fu - 1, by omega⟩
    have key := (lp_up (step := f_X7_company_L4 fu (nI x.1) ar u) (fun j (z : Nat) => (nI z, nI j)) (coN u x) x.1 (fun z => nI z) (fun _ z => z ≤ 6) (fun j z hj hz => ⟨e_co_s hn h hr hj hz, coN_le hn h hj hz⟩) (fun z _ => by
      simp only [f_X7_company_L4, if_pos (nI_le (Nat.le_refl x.1) (by omega : x.1 < 2 ^ 31))]) (x.1 - 1) fu1 1 c (by omega) (by omega) o6).1
    have e2 := lp_s e0 (show 0 < fu by omega)
    rw [show fu - 1 = fu1 by omega, key] at e2
    rw [if_neg q, e2, bnd_some]
theorem e_X12_fewest {u : Int32} {z1 : Int32 × Int32 × Int32 × Int32 × Int32 × Int32 × Int32 × Int32 × Int32 × Int32 × FN × FN × FN × FN × FN × Int32 × FN × Int32} (hn : n ≤ 6) (h : okL n n 0 x) (e17 : ∀ i, i < x.1 → z1.2.2.2.2.2.2.2.2.2.2.2.2.2.2.2.2.1 i = nI (x.2 i)) (e18 : z1.2.2.2.2.2.2.2.2.2.2.2.2.2.2.2.2.2 = nI x.1) (h0 : 0 < x.1) (hf : 1000 ≤ fu) : lp (f_X12_fewest_L40 fu u z1) fu (nI (on (x.2 0 % 100)), (0 : Int32)) = some (nI (fldN (coN u x) 1 (x.1 - 1) (on (x.2 0 % 100)))) := by
  have l := okL_186 hn h
  obtain ⟨v1, v2, v3, v4⟩ := okL_v hn h h0
  have key := (lp_up (step := f_X12_fewest_L40 fu u z1) (fun j (z : Nat) => (nI z, nI j)) (coN u x) x.1 (fun z => nI z) (fun _ z => z ≤ 6) (fun j z hj hz => by
    obtain ⟨u1, u2, u3, u4⟩ := okL_v hn h hj
    have o6 := on_64 (x.2 j % 100) u3
    refine ⟨?_, coN_le hn h hj hz⟩
    simp only [f_X12_fewest_L40, e18, if_neg (nI_ge hj (by omega : x.1 < 2 ^ 31)), rdi_n (show j < 192 by omega) (by decide) (e17 j hj), bnd_some, li_100, jrm_n u1 (show 0 < 100 by decide) (show 100 < 2 ^ 31 by decide), e_ones (fu := fu) u3 (by omega), e_lesser, e_greater, jmin_n (show z < 2 ^ 31 by omega) (show on (x.2 j % 100) < 2 ^ 31 by omega), jmax_n (show z < 2 ^ 31 by omega) (show on (x.2 j % 100) < 2 ^ 31 by omega), nI_1, coN]
    split <;> rfl) (fun z _ => by
    simp only [f_X12_fewest_L40, e18, if_pos (nI_le (Nat.le_refl x.1) (by omega : x.1 < 2 ^ 31))]) x.1 fu 0 (on (x.2 0 % 100)) (by omega) (by omega) (on_64 _ v3)).1
  refine key.trans ?_
  obtain ⟨k, hk⟩ : ∃ k, x.1 = k + 1 := ⟨x.1 - 1, by omega⟩
  rw [hk, Nat.add_sub_cancel]
  show some (nI (fldN (coN u x) (0 + 1) k (coN u x 0 (on (x.2 0 % 100))))) = _
  rw [show coN u x 0 (on (x.2 0 % 100)) = on (x.2 0 % 100) by unfold coN; split <;> omega]
end LST
