/-! ===== choice: the reference ===== -/
def d3 (s p : Nat) : Nat := s / 3 ^ p % 3
theorem d3_lt (s p : Nat) : d3 s p < 3 := Nat.mod_lt _ (by decide)
theorem th0 : ∀ s, s < 729 → ∀ p, p < 6 → d3 s p = 0 → ∀ wh, wh < 3 → ∀ q, q < 6 → d3 (s + wh * 3 ^ p) q = if q = p then wh else d3 s q := by decide +kernel
theorem th1 : ∀ n, n ≤ 6 → ∀ s, s < 3 ^ n → ∀ p, p < n → d3 s p = 0 → s + 2 * 3 ^ p < 3 ^ n := by decide +kernel
theorem th2 : ∀ p, p < 6 → ∀ q, q < 6 → d3 (3 ^ p) q = if q = p then 1 else 0 := by decide +kernel
/-- who is chosen by whom (none: 0) -/
def sC (n s wh : Nat) : Nat := fldN (fun j x => if ¬ d3 s j = wh then x else x ||| 2 ^ j) 0 n 0
theorem sC_bt {n s wh j : Nat} : bt (sC n s wh) j ↔ j < n ∧ d3 s j = wh := by
  have := mask_bt (P := fun j => ¬ d3 s j = wh) (i := j) n
  show bt (fldN (fun j x => if ¬ d3 s j = wh then x else x ||| 2 ^ j) 0 n 0) j ↔ _
  rw [this, Classical.not_not]
theorem sC_lt {n s wh : Nat} (hn : n ≤ 6) : sC n s wh < 2 ^ n := (mask_on (P := fun j => ¬ d3 s j = wh) n hn).2
def Kc (n s : Nat) : Nat := n - on (sC n s 0)
theorem p3_6 {n : Nat} (hn : n ≤ 6) : 3 ^ n ≤ 729 := Nat.pow_le_pow_right (n := 3) (by decide) hn
section CHM2
variable {fu n t p s wh m : Nat} {w pu h o : Nat → Nat} {M T : FN}
theorem gF_congr {up up' : Bool} {c c' : Nat → Bool} {cd cd' : Nat → Int32} {x : Int32 × Int32} (h1 : c p = true) (h2 : c' p = true) (h3 : up = up') (h4 : cd p = cd' p) : gF up c cd p x = gF up' c' cd' p x := by
  unfold gF
  rw [if_pos h1, if_pos h2, h3, h4]
theorem st_step (hn : n ≤ 6) (hs : s < 3 ^ n) (hp : p < n) (hd : d3 s p = 0) (h1 : 1 ≤ wh) (h2 : wh < 3) : s + wh * 3 ^ p < 3 ^ n ∧ s < s + wh * 3 ^ p ∧ sC n (s + wh * 3 ^ p) wh = sC n s wh ||| 2 ^ p ∧ sC n (s + wh * 3 ^ p) (3 - wh) = sC n s (3 - wh) ∧ Kc n (s + wh * 3 ^ p) = Kc n s + 1 := by
  have h7 := p3_6 hn
  have hpos : 0 < 3 ^ p := Nat.pow_pos (by decide)
  have b1 := th1 n hn s hs p hp hd
  have b2 : wh * 3 ^ p ≤ 2 * 3 ^ p := Nat.mul_le_mul_right _ (by omega)
  have b3 : 1 * 3 ^ p ≤ wh * 3 ^ p := Nat.mul_le_mul_right _ h1
  have dg := th0 s (by omega) p (by omega) hd wh h2
  have e1 : sC n (s + wh * 3 ^ p) wh = sC n s wh ||| 2 ^ p := by
    apply bt_ext
    intro j
    rw [bt_or, bt_pow, sC_bt, sC_bt]
    constructor
    · rintro ⟨z1, z2⟩
      rw [dg j (by omega)] at z2
      by_cases e : j = p
      · exact Or.inr e.symm
      · rw [if_neg e] at z2; exact Or.inl ⟨z1, z2⟩
    · rintro (⟨z1, z2⟩ | z)
      · refine ⟨z1, ?_⟩
        rw [dg j (by omega)]
        by_cases e : j = p
        · rw [if_pos e]
        · rw [if_neg e]; exact z2
      · rw [← z]
        exact ⟨hp, by rw [dg p (by omega), if_pos rfl]⟩
  have e2 : sC n (s + wh * 3 ^ p) (3 - wh) = sC n s (3 - wh) := by
    apply bt_ext
    intro j
    rw [sC_bt, sC_bt]
    constructor
    · rintro ⟨z1, z2⟩
      rw [dg j (by omega)] at z2
      by_cases e : j = p
      · rw [if_pos e] at z2; omega
      · rw [if_neg e] at z2; exact ⟨z1, z2⟩
    · rintro ⟨z1, z2⟩
      refine ⟨z1, ?_⟩
      rw [dg j (by omega)]
      by_cases e : j = p
      · rw [e, hd] at z2; omega
      · rw [if_neg e]; exact z2
  have e3 : sC n s 0 = sC n (s + wh * 3 ^ p) 0 ||| 2 ^ p := by
    apply bt_ext
    intro j
    rw [bt_or, bt_pow, sC_bt, sC_bt]
    constructor
    · rintro ⟨z1, z2⟩
      by_cases e : j = p
      · exact Or.inr e.symm
      · exact Or.inl ⟨z1, by rw [dg j (by omega), if_neg e]; exact z2⟩
    · rintro (⟨z1, z2⟩ | z)
      · rw [dg j (by omega)] at z2
        by_cases e : j = p
        · rw [e]; exact ⟨hp, hd⟩
        · rw [if_neg e] at z2; exact ⟨z1, z2⟩
      · rw [← z]; exact ⟨hp, hd⟩
  have nb : bi (sC n (s + wh * 3 ^ p) 0) p = 0 := bi0.2 (fun z => by
    have := (sC_bt.1 z).2
    rw [dg p (by omega), if_pos rfl] at this
    omega)
  have o1 := on_or0 n hn (sC n (s + wh * 3 ^ p) 0) (sC_lt hn) p hp nb
  have o2 := on_le0 n hn (sC n s 0) (sC_lt hn)
  refine ⟨by omega, by omega, e1, e2, ?_⟩
  unfold Kc
  rw [← e3] at o1
  omega
theorem free_d (hn : n ≤ 6) (hp : p < n) : fre (sC n s 1) (sC n s 2) p = true ↔ d3 s p = 0 := by
  rw [fre_t, bi0, bt_or, sC_bt, sC_bt]
  have := d3_lt s p
  constructor
  · intro z
    rcases (show d3 s p = 0 ∨ d3 s p = 1 ∨ d3 s p = 2 by omega) with q | q | q
    · exact q
    · exact absurd (Or.inl ⟨hp, q⟩) z
    · exact absurd (Or.inr ⟨hp, q⟩) z
  · rintro q (⟨_, z⟩ | ⟨_, z⟩) <;> omega
theorem fre_c {a b : Nat} : fre a b p = fre b a p := by
  unfold fre
  rw [Nat.or_comm]
/-- what is left is worth, as the first one sees it -/
def Vc (n : Nat) (w h : Nat → Nat) (m s : Nat) : Int := if Kc n s % 2 = 0 then vL n w h (m - Kc n s) (sC n s 1) (sC n s 2) else -(vL n w h (m - Kc n s) (sC n s 2) (sC n s 1))
theorem Vc_bd (hw : ∀ i, i < 6 → w i ≤ 9) (hn : n ≤ 6) (hm : m ≤ 5) : -100 ≤ Vc n w h m s ∧ Vc n w h m s ≤ 100 := by
  unfold Vc
  have h1 := vL_bd (h := h) hw hn (m - Kc n s) (sC n s 1) (sC n s 2)
  have h2 := vL_bd (h := h) hw hn (m - Kc n s) (sC n s 2) (sC n s 1)
  split <;> omega
theorem e_threes (hp : p ≤ 6) (hf : 100 ≤ fu) : f_X12_threes fu (nI p) = some (nI (3 ^ p)) := by
  have k := lp_up (step := f_X12_threes_L4 (nI p)) (fun j (x : Nat) => (nI x, nI j)) (fun _ x => x * 3) p (fun x => nI x) (fun j x => x = 3 ^ j) (fun j x hj hx => by
    refine ⟨by simp only [f_X12_threes_L4, if_neg (nI_ge hj (by omega : p < 2 ^ 31)), ltn, li_3, pk_mul, nI_1], ?_⟩
    show x * 3 = 3 ^ (j + 1)
    rw [hx, Nat.pow_succ]) (fun x _ => by simp only [f_X12_threes_L4, if_pos (nI_le (Nat.le_refl p) (by omega : p < 2 ^ 31))]) p fu 0 1 (by omega) (by omega) rfl
  unfold f_X12_threes
  refine (bnd_r k.1).trans ?_
  show some (nI _) = _
  rw [k.2]
theorem dvi_n {a b : Nat} (ha : a < 2 ^ 31) (h0 : 0 < b) (hb : b < 2 ^ 31) : dvi (nI a) (nI b) = some (nI (a / b)) := by
  unfold dvi
  rw [if_neg (nI_ne0 h0 hb), pk_div ha h0 hb]
theorem p3_le {j : Nat} (hj : j < 6) : 0 < 3 ^ j ∧ 3 ^ j < 2 ^ 31 := ⟨Nat.pow_pos (by decide), Nat.lt_of_le_of_lt (Nat.pow_le_pow_right (n := 3) (by decide) (show j ≤ 6 by omega)) (by decide)⟩
theorem e_digit {j : Nat} (hs : s < 2 ^ 31) (hj : j < 6) : jrm (nI (s / 3 ^ j)) 3 = nI (d3 s j) := by
  rw [show (3 : Int32) = nI 3 from rfl, jrm_n (Nat.lt_of_le_of_lt (Nat.div_le_self _ _) hs) (by decide) (by decide)]
  rfl
theorem e_chosenBy (hn : n ≤ 6) (hs : s < 729) (hwh : wh < 3) (hf : 100 ≤ fu) : f_X12_chosenBy fu (nI n) (nI s) (nI wh) = some (nI (sC n s wh)) := by
  have k := lp_up0 (step := f_X12_chosenBy_L5 fu (nI n) (nI s) (nI wh)) (fun j (x : Nat) => (nI x, nI j)) (fun j x => if ¬ d3 s j = wh then x else x ||| 2 ^ j) n (fun x => nI x) (fun j x hj => by
    have hp3 := p3_le (show j < 6 by omega)
    have hd := d3_lt s j
    simp only [f_X12_chosenBy_L5, if_neg (nI_ge hj (by omega : n < 2 ^ 31)), e_threes (show j ≤ 6 by omega) hf, bnd_some, dvi_n (show s < 2 ^ 31 by omega) hp3.1 hp3.2, e_digit (show s < 2 ^ 31 by omega) (show j < 6 by omega), nI_eq (show d3 s j < 2 ^ 31 by omega) (show wh < 2 ^ 31 by omega), ltn, jshl_1 j (by omega), fa_or, nI_1, i0_or]
    by_cases q : d3 s j = wh
    · rw [if_pos q, if_neg (fun z => z q)]
    · rw [if_neg q, if_pos q]) (fun x => by
    simp only [f_X12_chosenBy_L5, if_pos (nI_le (Nat.le_refl n) (by omega : n < 2 ^ 31))]) (fu := fu) (a := 0) (by omega)
  unfold f_X12_chosenBy
  exact bnd_r k
theorem ok_findChoice {fo : Int32} (hW : ∀ i, i < 6 → M (55 * t + 1 + i) = nI (w i)) (hM : ∀ i, i < 6 → M (55 * t + 13 + i) = nI (h i)) (ht : t < 8) (hw : ∀ i, i < 6 → w i ≤ 9) (h64 : ∀ i, i < 6 → h i < 64) (hn : n ≤ 6) (hs : s < 3 ^ n) (hm : m ≤ 5) (hT : ∀ r, s < r → r < 3 ^ n → T r = iZ (Vc n w h m r)) (hf : 100 ≤ fu) : ok (f_X12_findChoice fu M (nI t) (nI n) T fo (nI s) (nI m)) (fun x => x.1 s = iZ (Vc n w h m s) ∧ (∀ i, i ≠ s → x.1 i = T i) ∧ (s = 0 → (x.1 0, x.2) = topF n w h m)) := by
  have h7 := p3_6 hn
  have kn : Kc n s ≤ 6 := by unfold Kc; omega
  have on6 := on_le0 n hn (sC n s 0) (sC_lt hn)
  have h62 : 2 ^ n ≤ 64 := pw64 hn
  have sc0 := sC_lt (s := s) (wh := 0) hn
  unfold f_X12_findChoice
  refine ok_bnd (ok_eq (e_chosenBy (wh := 0) hn (by omega) (by decide) hf) ?_)
  refine ok_bnd (ok_eq (e_ones (by omega) hf) (ok_ltn (ok_ltn ?_)))
  have ek : nI n - nI (on (sC n s 0)) = nI (Kc n s) := by rw [pk_sub on6]; rfl
  have ew : 1 + jrm (nI (Kc n s)) 2 = nI (1 + Kc n s % 2) := by rw [show (2 : Int32) = nI 2 from rfl, jrm_n (by omega) (by decide) (by decide), i1_add]
  rw [ek, ew]
  have wl : 1 + Kc n s % 2 < 3 := by omega
  refine ok_bnd (ok_eq (e_chosenBy (wh := 1 + Kc n s % 2) hn (by omega) wl hf) ?_)
  rw [wri_n (show s < 729 by omega) (by decide), bnd_some]
  generalize hwh : 1 + Kc n s % 2 = wh at wl
  -- the value of going on with p
  have cand : ∀ p, p < n → d3 s p = 0 → Kc n s < m → T (s + wh * 3 ^ p) = iZ (Vc n w h m (s + wh * 3 ^ p)) := by
    intro p hp hd hk
    obtain ⟨g1, g2, -⟩ := st_step hn hs hp hd (show 1 ≤ wh by omega) wl
    exact hT _ g2 g1
  -- the step's value
  have vs : ∀ p, p < n → d3 s p = 0 → Kc n s < m → Vc n w h m (s + wh * 3 ^ p) = if wh = 1 then -(vL n w h (m - 1 - Kc n s) (sC n s 2) (sC n s 1 ||| 2 ^ p)) else vL n w h (m - 1 - Kc n s) (sC n s 1) (sC n s 2 ||| 2 ^ p) := by
    intro p hp hd hk
    obtain ⟨g1, g2, g3, g4, g5⟩ := st_step hn hs hp hd (show 1 ≤ wh by omega) wl
    unfold Vc
    rw [g5, show m - (Kc n s + 1) = m - 1 - Kc n s by omega]
    by_cases q : wh = 1
    · rw [if_pos q, if_neg (by omega)]
      rw [q] at g3 g4 ⊢
      rw [g3, show sC n (s + 1 * 3 ^ p) 2 = sC n s 2 from g4]
    · have q2 : wh = 2 := by omega
      rw [if_neg q, if_pos (by omega)]
      rw [q2] at g3 g4 ⊢
      rw [g3, show sC n (s + 2 * 3 ^ p) 1 = sC n s 1 from g4]
  by_cases km : Kc n s < m
  · have up1 : (decide (wh = 1)) = true ↔ wh = 1 := decide_eq_true_iff
    have main : ok (lp (f_X12_findChoice_L46 fu M (nI t) (nI n) (nI s) (nI m) (nI (Kc n s)) (nI wh) (nI (sC n s wh))) fu ((0 : Int32), upd T s 0, (-1 : Int32))) (fun v => (v.1 s, v.2) = fldN (gF (decide (wh = 1)) (fun p => d3 s p == 0) (fun p => if wh = 1 then iZ (gI w h p (sC n s 1) - vL n w h (m - 1 - Kc n s) (sC n s 2) (sC n s 1 ||| 2 ^ p)) else iZ (-(gI w h p (sC n s 2) - vL n w h (m - 1 - Kc n s) (sC n s 1) (sC n s 2 ||| 2 ^ p))))) 0 n (0, -1) ∧ ∀ i, i ≠ s → v.1 i = T i) := by
      refine ok_up n (fun j st => st.1 = nI j ∧ (st.2.1 s, st.2.2) = fldN (gF (decide (wh = 1)) (fun p => d3 s p == 0) (fun p => if wh = 1 then iZ (gI w h p (sC n s 1) - vL n w h (m - 1 - Kc n s) (sC n s 2) (sC n s 1 ||| 2 ^ p)) else iZ (-(gI w h p (sC n s 2) - vL n w h (m - 1 - Kc n s) (sC n s 1) (sC n s 2 ||| 2 ^ p))))) 0 j (0, -1) ∧ ∀ i, i ≠ s → st.2.1 i = T i) ?_ ?_ n fu 0 _ (by omega) (by omega) ⟨rfl, by show (upd T s 0 s, (-1 : Int32)) = (0, -1); rw [pk_us], fun i hi => pk_un hi⟩
      · rintro j ⟨c, T2, fo2⟩ hj ⟨rfl, g1, g2⟩
        have g1 : (T2 s, fo2) = _ := g1
        have g2 : ∀ i, i ≠ s → T2 i = T i := g2
        have hp3 := p3_le (show j < 6 by omega)
        have hd := d3_lt s j
        have wj := hw j (by omega)
        simp only [f_X12_findChoice_L46]
        rw [if_neg (nI_ge hj (by omega)), if_neg (nI_ge km (by omega)), e_threes (show j ≤ 6 by omega) hf, bnd_some, dvi_n (show s < 2 ^ 31 by omega) hp3.1 hp3.2, bnd_some, e_digit (show s < 2 ^ 31 by omega) (show j < 6 by omega)]
        by_cases q : d3 s j = 0
        · rw [if_pos ((nI_eq0 (by omega)).2 q)]
          have sc := sC_lt (s := s) (wh := wh) hn
          have hl : h j &&& sC n s wh < 2 ^ 31 := Nat.lt_of_le_of_lt Nat.and_le_right (by omega)
          have o13 : f_X12_of fu M (nI t) (13 + nI j) = some (nI (h j)) := by
            rw [show (13 : Int32) + nI j = nI (13 + j) by rw [show (13 : Int32) = nI 13 from rfl, nI_add]]
            exact e_X12_of (by rw [← hM j (by omega), Nat.add_assoc]) (by omega)
          have o1 : f_X12_of fu M (nI t) (1 + nI j) = some (nI (w j)) := by
            rw [i1_add]
            exact e_X12_of (by rw [← hW j (by omega), Nat.add_assoc]) (by omega)
          have eg : (if (nI (h j) &&& nI (sC n s wh)) = 0 then bnd (f_X12_of fu M (nI t) (1 + nI j)) (fun x26 => some x26) else bnd (f_X12_of fu M (nI t) (1 + nI j)) (fun x27 => some (-x27))) = some (iZ (gI w h j (sC n s wh))) := by
            rw [o1, bnd_some, bnd_some, fa_and]
            unfold gI
            by_cases u : h j &&& sC n s wh = 0
            · rw [if_pos ((nI_eq0 hl).2 u), if_pos u, iZ_n]
            · rw [if_neg (fun z => u ((nI_eq0 hl).1 z)), if_neg u, iZ_n, iZ_neg]
          obtain ⟨s1, s2, -⟩ := st_step hn hs hj q (show 1 ≤ wh by omega) wl
          have ec : T2 (s + wh * 3 ^ j) = iZ (if wh = 1 then -(vL n w h (m - 1 - Kc n s) (sC n s 2) (sC n s 1 ||| 2 ^ j)) else vL n w h (m - 1 - Kc n s) (sC n s 1) (sC n s 2 ||| 2 ^ j)) := by
            rw [g2 _ (by omega), cand j hj q km, vs j hj q km]
          have es : (if nI wh = (1 : Int32) then some (iZ (gI w h j (sC n s wh))) else some (-(iZ (gI w h j (sC n s wh))))) = some (iZ (if wh = 1 then gI w h j (sC n s 1) else -(gI w h j (sC n s 2)))) := by
            by_cases u : wh = 1
            · rw [if_pos (show nI wh = 1 by rw [u]; rfl), if_pos u, u]
            · rw [if_neg (show ¬ nI wh = 1 by rw [show (1 : Int32) = nI 1 from rfl, nI_eq (by omega) (by decide)]; exact u), if_neg u, show wh = 2 by omega, iZ_neg]
          rw [o13, bnd_some, eg, bnd_some, es, bnd_some, bnd_some, pk_mul, nI_add, rdi_n (show s + wh * 3 ^ j < 729 by omega) (by decide) ec, bnd_some, iZ_add]
          refine ok_ltn ?_
          have hcd : iZ ((if wh = 1 then gI w h j (sC n s 1) else -(gI w h j (sC n s 2))) + (if wh = 1 then -(vL n w h (m - 1 - Kc n s) (sC n s 2) (sC n s 1 ||| 2 ^ j)) else vL n w h (m - 1 - Kc n s) (sC n s 1) (sC n s 2 ||| 2 ^ j))) = (if wh = 1 then iZ (gI w h j (sC n s 1) - vL n w h (m - 1 - Kc n s) (sC n s 2) (sC n s 1 ||| 2 ^ j)) else iZ (-(gI w h j (sC n s 2) - vL n w h (m - 1 - Kc n s) (sC n s 1) (sC n s 2 ||| 2 ^ j)))) := by
            by_cases u : wh = 1
            · rw [if_pos u, if_pos u, if_pos u, Int.sub_eq_add_neg]
            · rw [if_neg u, if_neg u, if_neg u]
              congr 1
              omega
          rw [hcd]
          generalize hgc : (fun p => if wh = 1 then iZ (gI w h p (sC n s 1) - vL n w h (m - 1 - Kc n s) (sC n s 2) (sC n s 1 ||| 2 ^ p)) else iZ (-(gI w h p (sC n s 2) - vL n w h (m - 1 - Kc n s) (sC n s 1) (sC n s 2 ||| 2 ^ p)))) = cd at g1 ⊢
          have hcj : (if wh = 1 then iZ (gI w h j (sC n s 1) - vL n w h (m - 1 - Kc n s) (sC n s 2) (sC n s 1 ||| 2 ^ j)) else iZ (-(gI w h j (sC n s 2) - vL n w h (m - 1 - Kc n s) (sC n s 1) (sC n s 2 ||| 2 ^ j)))) = cd j := by rw [← hgc]
          rw [hcj]
          have stp : fldN (gF (decide (wh = 1)) (fun p => d3 s p == 0) cd) 0 (j + 1) (0, -1) = (if fo2 = -1 then (cd j, nI j) else if decide (wh = 1) = true then (if cd j ≤ T2 s then (T2 s, fo2) else (cd j, nI j)) else (if T2 s ≤ cd j then (T2 s, fo2) else (cd j, nI j))) := by
            rw [fldN_succ _ j 0 (0, -1), Nat.zero_add, ← g1]
            unfold gF
            rw [if_pos (beq_iff_eq.2 q)]
          have wr : ∀ v : Int32, wri 729 T2 (nI s) v = some (upd T2 s v) := fun v => wri_n (by omega) (by decide)
          have same : (T2 s, fo2) = fldN (gF (decide (wh = 1)) (fun p => d3 s p == 0) cd) 0 (j + 1) (0, -1) → ((nI j + 1 : Int32) = nI (j + 1) ∧ (T2 s, fo2) = fldN (gF (decide (wh = 1)) (fun p => d3 s p == 0) cd) 0 (j + 1) (0, -1) ∧ ∀ i, i ≠ s → T2 i = T i) := fun z => ⟨nI_1 j, z, g2⟩
          have neww : (cd j, nI j) = fldN (gF (decide (wh = 1)) (fun p => d3 s p == 0) cd) 0 (j + 1) (0, -1) → ((nI j + 1 : Int32) = nI (j + 1) ∧ (upd T2 s (cd j) s, nI j) = fldN (gF (decide (wh = 1)) (fun p => d3 s p == 0) cd) 0 (j + 1) (0, -1) ∧ ∀ i, i ≠ s → upd T2 s (cd j) i = T i) := fun z => ⟨nI_1 j, by rw [pk_us]; exact z, fun i hi => (pk_un hi).trans (g2 i hi)⟩
          by_cases f1 : fo2 = -1
          · rw [if_pos f1, wr, bnd_some]
            exact ok_some (neww (by rw [stp, if_pos f1]))
          · rw [if_neg f1]
            rw [if_neg f1] at stp
            by_cases u : wh = 1
            · rw [if_pos (show nI wh = 1 by rw [u]; rfl), rdi_n (show s < 729 by omega) (by decide) rfl, bnd_some]
              rw [if_pos (up1.2 u)] at stp
              by_cases l : cd j ≤ T2 s
              · rw [if_pos l]
                exact ok_some (same (by rw [stp, if_pos l]))
              · rw [if_neg l, wr, bnd_some]
                exact ok_some (neww (by rw [stp, if_neg l]))
            · rw [if_neg (show ¬ nI wh = 1 by rw [show (1 : Int32) = nI 1 from rfl, nI_eq (by omega) (by decide)]; exact u), rdi_n (show s < 729 by omega) (by decide) rfl, bnd_some]
              rw [if_neg (fun z => u (up1.1 z))] at stp
              by_cases l : T2 s ≤ cd j
              · rw [if_pos l]
                exact ok_some (same (by rw [stp, if_pos l]))
              · rw [if_neg l, wr, bnd_some]
                exact ok_some (neww (by rw [stp, if_neg l]))
        · rw [if_neg (fun z => q ((nI_eq0 (by omega)).1 z))]
          refine ok_some ⟨nI_1 j, ?_, g2⟩
          show (T2 s, fo2) = _
          rw [fldN_succ _ j 0 (0, -1), Nat.zero_add, ← g1]
          unfold gF
          rw [if_neg (fun z => q (beq_iff_eq.1 z))]
      · rintro ⟨c, T2, fo2⟩ ⟨rfl, g1, g2⟩
        simp only [f_X12_findChoice_L46, if_pos (nI_le (Nat.le_refl n) (by omega : n < 2 ^ 31))]
        exact ok_some ⟨g1, g2⟩
    refine ok_bnd (ok_mono main ?_)
    rintro ⟨T2, fo2⟩ ⟨g1, g2⟩
    have g1 : (T2 s, fo2) = _ := g1
    obtain ⟨k', hk'⟩ : ∃ k', m - Kc n s = k' + 1 := ⟨m - Kc n s - 1, by omega⟩
    have hk1 : m - 1 - Kc n s = k' := by omega
    have val : T2 s = iZ (Vc n w h m s) := by
      have e1 := congrArg Prod.fst g1
      refine Eq.trans e1 ?_
      unfold Vc
      rw [hk']
      by_cases u : wh = 1
      · have gv := (gF_val (n := n) (up := decide (wh = 1)) (c := fun p => d3 s p == 0) (f := fun p => gI w h p (sC n s 1) - vL n w h k' (sC n s 2) (sC n s 1 ||| 2 ^ p)) (cd := fun p => if wh = 1 then iZ (gI w h p (sC n s 1) - vL n w h (m - 1 - Kc n s) (sC n s 2) (sC n s 1 ||| 2 ^ p)) else iZ (-(gI w h p (sC n s 2) - vL n w h (m - 1 - Kc n s) (sC n s 1) (sC n s 2 ||| 2 ^ p)))) (fun p hp _ => by
          have z1 := vL_bd (h := h) hw hn k' (sC n s 2) (sC n s 1 ||| 2 ^ p)
          have z2 := gI_bd (h := h) (mi := sC n s 1) hw (show p < 6 by omega)
          show -200 ≤ gI w h p (sC n s 1) - vL n w h k' (sC n s 2) (sC n s 1 ||| 2 ^ p) ∧ gI w h p (sC n s 1) - vL n w h k' (sC n s 2) (sC n s 1 ||| 2 ^ p) ≤ 200
          omega) (fun p hp _ => by rw [if_pos (up1.2 u), if_pos u, hk1]) hn n (Nat.le_refl n)).2
        refine gv.trans ?_
        rw [if_pos (up1.2 u), if_pos (show Kc n s % 2 = 0 by omega)]
        show iZ (oV 0 _) = iZ (oV 0 (bO (fre (sC n s 1) (sC n s 2)) (fun p => gI w h p (sC n s 1) - vL n w h k' (sC n s 2) (sC n s 1 ||| 2 ^ p)) n))
        rw [bO_congr (c' := fre (sC n s 1) (sC n s 2)) n (fun p hp => ⟨?_, fun _ => rfl⟩)]
        rw [Bool.eq_iff_iff, beq_iff_eq, free_d hn hp]
      · have gv := (gF_val (n := n) (up := decide (wh = 1)) (c := fun p => d3 s p == 0) (f := fun p => gI w h p (sC n s 2) - vL n w h k' (sC n s 1) (sC n s 2 ||| 2 ^ p)) (cd := fun p => if wh = 1 then iZ (gI w h p (sC n s 1) - vL n w h (m - 1 - Kc n s) (sC n s 2) (sC n s 1 ||| 2 ^ p)) else iZ (-(gI w h p (sC n s 2) - vL n w h (m - 1 - Kc n s) (sC n s 1) (sC n s 2 ||| 2 ^ p)))) (fun p hp _ => by
          have z1 := vL_bd (h := h) hw hn k' (sC n s 1) (sC n s 2 ||| 2 ^ p)
          have z2 := gI_bd (h := h) (mi := sC n s 2) hw (show p < 6 by omega)
          show -200 ≤ gI w h p (sC n s 2) - vL n w h k' (sC n s 1) (sC n s 2 ||| 2 ^ p) ∧ gI w h p (sC n s 2) - vL n w h k' (sC n s 1) (sC n s 2 ||| 2 ^ p) ≤ 200
          omega) (fun p hp _ => by rw [if_neg (fun z => u (up1.1 z)), if_neg u, hk1]) hn n (Nat.le_refl n)).2
        refine gv.trans ?_
        rw [if_neg (fun z => u (up1.1 z)), if_neg (show ¬ Kc n s % 2 = 0 by omega)]
        show iZ (-(oV 0 _)) = iZ (-(oV 0 (bO (fre (sC n s 2) (sC n s 1)) (fun p => gI w h p (sC n s 2) - vL n w h k' (sC n s 1) (sC n s 2 ||| 2 ^ p)) n)))
        rw [bO_congr (c' := fre (sC n s 2) (sC n s 1)) n (fun p hp => ⟨?_, fun _ => rfl⟩)]
        rw [fre_c, Bool.eq_iff_iff, beq_iff_eq, free_d hn hp]
    refine ok_some ⟨val, g2, fun z => ?_⟩
    subst z
    have k0 : Kc n 0 = 0 := by
      unfold Kc
      have : sC n 0 0 = 2 ^ n - 1 := by
        apply bt_ext
        intro j
        rw [sC_bt]
        constructor
        · rintro ⟨z1, -⟩; exact ful_bi n hn j z1
        · intro z
          exact ⟨bt_lt (show 2 ^ n - 1 < 2 ^ n by have := Nat.two_pow_pos n; omega) z, by unfold d3; rw [Nat.zero_div]⟩
      rw [this, on_ful n hn, Nat.sub_self]
    have s1 : ∀ x, 1 ≤ x → sC n 0 x = 0 := by
      intro x hx
      apply bt_ext
      intro j
      rw [sC_bt]
      constructor
      · rintro ⟨-, z⟩
        unfold d3 at z
        rw [Nat.zero_div] at z
        omega
      · intro z; exact absurd z bt_0
    have w1 : wh = 1 := by omega
    have tz : topF n w h m = fldN (gF true (fun _ => true) (fun p => iZ (gI w h p 0 - vL n w h (m - 1) 0 (2 ^ p)))) 0 n (0, -1) := by
      unfold topF
      rw [if_neg (by omega)]
    rw [tz]
    refine g1.trans ?_
    refine fldN_congr n 0 (0, -1) (fun i b _ hi => ?_)
    refine gF_congr (beq_iff_eq.2 (by unfold d3; rw [Nat.zero_div])) rfl (decide_eq_true w1) ((if_pos w1).trans ?_)
    rw [s1 1 (by decide), s1 2 (by decide), k0, Nat.sub_zero, Nat.zero_or]
  · have v0 : Vc n w h m s = 0 := by
      unfold Vc
      rw [show m - Kc n s = 0 by omega]
      split
      · rfl
      · show -(0 : Int) = 0; omega
    have e1 : lp (f_X12_findChoice_L46 fu M (nI t) (nI n) (nI s) (nI m) (nI (Kc n s)) (nI wh) (nI (sC n s wh))) fu ((0 : Int32), upd T s 0, (-1 : Int32)) = some (upd T s 0, -1) := by
      refine lp_e ?_ (by omega)
      simp only [f_X12_findChoice_L46]
      by_cases q : nI n ≤ 0
      · rw [if_pos q]
      · rw [if_neg q, if_pos (nI_le (by omega) (by omega))]
    refine ok_bnd (ok_eq e1 (ok_some ⟨?_, fun i hi => pk_un hi, fun z => ?_⟩))
    · show upd T s 0 s = _
      rw [pk_us, v0]
      rfl
    · have k0 : m = 0 := by
        rcases Nat.eq_zero_or_pos m with e | e
        · exact e
        · exfalso
          apply km
          have : Kc n s = 0 := by
            unfold Kc
            have : sC n s 0 = 2 ^ n - 1 := by
              apply bt_ext
              intro j
              rw [sC_bt, z]
              constructor
              · rintro ⟨z1, -⟩; exact ful_bi n hn j z1
              · intro z
                exact ⟨bt_lt (show 2 ^ n - 1 < 2 ^ n by have := Nat.two_pow_pos n; omega) z, by unfold d3; rw [Nat.zero_div]⟩
            rw [this, on_ful n hn, Nat.sub_self]
          omega
      unfold topF
      rw [if_pos k0]
      show (upd T s 0 0, (-1 : Int32)) = _
      rw [z, pk_us]
theorem ok_choice {y : HT} {fo : Int32} (hy : Hd t n pu o y) (hW : ∀ i, i < 6 → M (55 * t + 1 + i) = nI (w i)) (hM : ∀ i, i < 6 → M (55 * t + 13 + i) = nI (h i)) (ht : t < 8) (hw : ∀ i, i < 6 → w i ≤ 9) (h64 : ∀ i, i < 6 → h i < 64) (hn : n ≤ 6) (hm : m ≤ 5) (hf : 1000 ≤ fu) : ok (lp (f_X12_choice_L37 fu M (nI m) y) fu (nI (3 ^ n) - 1, T, fo)) (fun v => (v.1 0, v.2) = topF n w h m) := by
  obtain ⟨y1, y2, y3, -, y5, -, y7, -, -⟩ := hy
  have h7 := p3_6 hn
  have hpos : 0 < 3 ^ n := Nat.pow_pos (by decide)
  refine ok_up (3 ^ n) (fun j st => st.1 = nI (3 ^ n - j) - 1 ∧ (∀ r, 3 ^ n - j ≤ r → r < 3 ^ n → st.2.1 r = iZ (Vc n w h m r)) ∧ (j = 3 ^ n → (st.2.1 0, st.2.2) = topF n w h m)) ?_ ?_ (3 ^ n) fu 0 _ (by omega) (by omega) ⟨rfl, fun r h1 h2 => absurd h1 (by omega), fun z => absurd z (by omega)⟩
  · rintro j ⟨c, T2, fo2⟩ hj ⟨rfl, h1, -⟩
    have h1 : ∀ r, 3 ^ n - j ≤ r → r < 3 ^ n → T2 r = iZ (Vc n w h m r) := h1
    obtain ⟨a, ha⟩ : ∃ a, 3 ^ n - j = a + 1 := ⟨3 ^ n - j - 1, by omega⟩
    have e1 : nI (3 ^ n - j) - 1 = nI a := by rw [ha]; exact nI_pred a
    simp only [f_X12_choice_L37, y2, y3]
    rw [if_neg (by rw [e1]; exact nI_pos (by omega)), e1]
    refine ok_bnd (ok_mono (ok_findChoice hW hM ht hw h64 hn (show a < 3 ^ n by omega) hm (fun r r1 r2 => h1 r (by omega) r2) (by omega)) ?_)
    rintro ⟨T3, fo3⟩ ⟨g1, g2, g3⟩
    have g1 : T3 a = iZ (Vc n w h m a) := g1
    have g2 : ∀ i, i ≠ a → T3 i = T2 i := g2
    refine ok_some ⟨?_, fun r r1 r2 => ?_, fun z => g3 (by omega)⟩
    · show nI a + (-1) = nI (3 ^ n - (j + 1)) - 1
      rw [show 3 ^ n - (j + 1) = a by omega, am1]
    · show T3 r = _
      by_cases e : r = a
      · rw [e]; exact g1
      · rw [g2 r e]; exact h1 r (by omega) r2
  · rintro ⟨c, T2, fo2⟩ ⟨rfl, h1, h2⟩
    simp only [f_X12_choice_L37, Nat.sub_self]
    rw [if_pos (by decide)]
    exact ok_some (h2 rfl)
end CHM2
