/-! ===== talk ===== -/
theorem rdl_n {n k : Nat} {f : Nat → Int64} {v : Int64} (hk : k < n) (hn : n < 2 ^ 31) (hf : f k = v) : rdl n f (nI k) = some v := by
  unfold rdl
  rw [if_neg (nI_in hk hn), nI_clamp (by omega), hf]
theorem wrl_n {n k : Nat} {f : Nat → Int64} {x : Int64} (hk : k < n) (hn : n < 2 ^ 31) : wrl n f (nI k) x = some (vp_updL f k x) := by
  unfold wrl
  rw [if_neg (nI_in hk hn), nI_clamp (by omega)]
theorem fillL_ok {fu N : Nat} {f : Nat → Int64} {v : Int64} (hN : N < 2 ^ 30) (hf : N + 1 < fu) : ok (f_J7_fill_d0a16 fu N f v) (fun g => ∀ i, i < N → g i = v) := by
  unfold f_J7_fill_d0a16
  refine ok_ltn (ok_bnd (ok_mono (ok_up (step := f_J7_fill_d0a16_L6 v (nI N) N) (P := fun g => ∀ i, i < N → g i = v) N (fun j s => s.1 = nI j ∧ ∀ i, i < j → s.2 i = v) ?_ ?_ N fu 0 _ (by omega) (by omega) ⟨rfl, fun i hi => absurd hi (by omega)⟩) (fun g hg => ok_some hg)))
  · rintro j ⟨c, g⟩ hj ⟨rfl, h1⟩
    simp only [f_J7_fill_d0a16_L6, if_neg (nI_ge hj (by omega : N < 2 ^ 31)), wrl_n hj (by omega : N < 2 ^ 31), bnd_some]
    refine ok_some ⟨nI_1 j, fun i hi => ?_⟩
    by_cases e : i = j
    · rw [e]; exact pk_uLs
    · exact (pk_uLn e).trans (h1 i (by omega))
  · rintro ⟨c, g⟩ ⟨rfl, h1⟩
    simp only [f_J7_fill_d0a16_L6, if_pos (nI_le (Nat.le_refl N) (by omega : N < 2 ^ 31))]
    exact ok_some h1
def Bt (p : Nat) : Nat → Nat → Nat
  | 0, j => if j = 0 then 1 else 0
  | i + 1, j => Bt p i j * (10 - p) + (if j = 0 then 0 else Bt p i (j - 1) * p)
def Wy (n : Nat) : Nat → Nat
  | 0 => 1
  | k + 1 => Wy n k * (n - k) / (k + 1)
theorem tk0 : ((List.range 11).all fun p => (List.range 13).all fun n => (List.range (n + 1)).all fun k => Bt p n k == Wy n k * p ^ k * (10 - p) ^ (n - k)) = true := by decide +kernel
theorem tk1 : ((List.range 13).all fun n => (List.range (n + 1)).all fun k => Nat.ble (Wy n k) 1000) = true := by decide +kernel
theorem tk {p n k : Nat} (hp : p ≤ 10) (hn : n ≤ 12) (hk : k ≤ n) : Bt p n k = Wy n k * p ^ k * (10 - p) ^ (n - k) := by
  have h1 := List.all_eq_true.1 tk0 p (List.mem_range.2 (by omega))
  have h2 := List.all_eq_true.1 h1 n (List.mem_range.2 (by omega))
  have h3 := List.all_eq_true.1 h2 k (List.mem_range.2 (by omega))
  exact beq_iff_eq.1 h3
theorem Wy_le {n k : Nat} (hn : n ≤ 12) (hk : k ≤ n) : Wy n k ≤ 1000 := by
  have h2 := List.all_eq_true.1 tk1 n (List.mem_range.2 (by omega))
  have h3 := List.all_eq_true.1 h2 k (List.mem_range.2 (by omega))
  exact Nat.le_of_ble_eq_true h3
theorem Bt_hi {p : Nat} : ∀ i j, i < j → Bt p i j = 0 := by
  intro i
  induction i with
  | zero => intro j hj; show (if j = 0 then 1 else 0) = 0; rw [if_neg (by omega)]
  | succ i ih =>
    intro j hj
    show Bt p i j * (10 - p) + (if j = 0 then 0 else Bt p i (j - 1) * p) = 0
    rw [ih j (by omega), if_neg (by omega), ih (j - 1) (by omega), Nat.zero_mul, Nat.zero_mul]
theorem Bt_le {p : Nat} (hp : p ≤ 10) : ∀ i j, Bt p i j ≤ 10 ^ i := by
  intro i
  induction i with
  | zero => intro j; show (if j = 0 then 1 else 0) ≤ 1; split <;> omega
  | succ i ih =>
    intro j
    show Bt p i j * (10 - p) + (if j = 0 then 0 else Bt p i (j - 1) * p) ≤ 10 ^ (i + 1)
    have h1 : Bt p i j * (10 - p) ≤ 10 ^ i * (10 - p) := Nat.mul_le_mul_right _ (ih j)
    have h2 : (if j = 0 then 0 else Bt p i (j - 1) * p) ≤ 10 ^ i * p := by
      split
      · exact Nat.zero_le _
      · exact Nat.mul_le_mul_right _ (ih (j - 1))
    have h3 : 10 ^ i * (10 - p) + 10 ^ i * p = 10 ^ (i + 1) := by
      rw [← Nat.mul_add, Nat.sub_add_cancel hp, Nat.pow_succ]
    omega
/-- in how many ways he talked d times or more -/
def sT (p n d : Nat) : Nat := fldN (fun k x => x + if k < d then 0 else Bt p n k) 0 (n + 1) 0
section TLK
variable {fu n t p d a : Nat} {w pu h o : Nat → Nat} {ow : FN}
theorem ten_le {i : Nat} (hi : i ≤ 12) : 10 ^ i ≤ 1000000000000 := Nat.le_trans (Nat.pow_le_pow_right (by decide) hi) (by decide)
theorem sT_le (hp : p ≤ 10) (hn : n ≤ 12) : sT p n d < 2 ^ 63 := by
  have h1 := fld_le (f := fun k => if k < d then 0 else Bt p n k) (B := 1000000000000) (n + 1) 0 0 (fun i _ => by
    split
    · exact Nat.zero_le _
    · exact Nat.le_trans (Bt_le hp n i) (ten_le hn))
  have h2 : sT p n d ≤ 0 + 1000000000000 * (n + 1) := h1
  have h3 : 1000000000000 * (n + 1) ≤ 1000000000000 * 13 := Nat.mul_le_mul_left _ (by omega)
  omega
theorem e_power {k x : Nat} (hk : k < 100) (hf : 1000 ≤ fu) : f_X12_power fu (lN x) (nI k) = some (lN (x ^ k)) := by
  have h := (lp_up (step := f_X12_power_L5 (lN x) (nI k)) (fun j (y : Nat) => (lN y, nI j)) (fun _ y => y * x) k (fun y => lN y) (fun j y => y = x ^ j) (fun j y hj hy => by
    refine ⟨by simp only [f_X12_power_L5, if_neg (nI_ge hj (by omega : k < 2 ^ 31)), ltn, lN_mul, nI_1], ?_⟩
    show y * x = x ^ (j + 1)
    rw [hy, Nat.pow_succ]) (fun y _ => by simp only [f_X12_power_L5, if_pos (nI_le (Nat.le_refl k) (by omega : k < 2 ^ 31))]) k fu 0 1 (by omega) (by omega) rfl)
  unfold f_X12_power
  refine (bnd_r h.1).trans ?_
  show some (lN _) = _
  rw [h.2]
theorem c10 (hp : p ≤ 10) : ((10 : Int32) - nI p).toInt64 = lN (10 - p) := by
  rw [show (10 : Int32) = nI 10 from rfl, pk_sub hp, nI_l (by omega)]
theorem ok_tin {i : Nat} {f : Nat → Int64} (hp : p ≤ 10) (hi : i < 12) (hc : ∀ j, j ≤ 12 → f j = lN (Bt p i j)) (hf : 100 ≤ fu) : ok (lp (f_X4_oddsOfTalk_L46 (nI p)) fu (nI (i + 1), f)) (fun g => g 0 = lN (Bt p i 0) ∧ ∀ j, 0 < j → j ≤ 12 → g j = lN (Bt p (i + 1) j)) := by
  refine ok_up (i + 1) (fun k s => s.1 = nI (i + 1 - k) ∧ (∀ j, j ≤ i + 1 - k → s.2 j = lN (Bt p i j)) ∧ ∀ j, i + 1 - k < j → j ≤ 12 → s.2 j = lN (Bt p (i + 1) j)) ?_ ?_ (i + 1) fu 0 _ (by omega) (by omega) ⟨rfl, fun j hj => hc j (by omega), fun j h1 h2 => ?_⟩
  · rintro k ⟨c, g⟩ hk ⟨rfl, h1, h2⟩
    have h1 : ∀ j, j ≤ i + 1 - k → g j = lN (Bt p i j) := h1
    have h2 : ∀ j, i + 1 - k < j → j ≤ 12 → g j = lN (Bt p (i + 1) j) := h2
    obtain ⟨m, hm⟩ : ∃ m, i + 1 - k = m + 1 := ⟨i - k, by omega⟩
    rw [hm] at h1 h2
    simp only [f_X4_oddsOfTalk_L46, hm]
    rw [if_neg (nI_nle (by omega) (by omega)), rdl_n (show m + 1 < 13 by omega) (by decide) (h1 (m + 1) (by omega)), bnd_some, show nI (m + 1) - 1 = nI m from nI_pred m, rdl_n (show m < 13 by omega) (by decide) (h1 m (by omega)), bnd_some, c10 hp, nI_l (by omega), lN_mul, lN_mul, lN_add]
    refine ok_ltn ?_
    rw [wrl_n (show m + 1 < 13 by omega) (by decide), bnd_some]
    refine ok_some ⟨?_, fun j hj => ?_, fun j j1 j2 => ?_⟩
    · show nI (m + 1) + (-1) = nI (i + 1 - (k + 1))
      rw [pk_m1, show i + 1 - (k + 1) = m by omega]
    · exact (pk_uLn (by omega)).trans (h1 j (by omega))
    · by_cases e : j = m + 1
      · rw [e]
        refine pk_uLs.trans ?_
        show _ = lN (Bt p i (m + 1) * (10 - p) + (if m + 1 = 0 then 0 else Bt p i (m + 1 - 1) * p))
        rw [if_neg (by omega), Nat.add_sub_cancel]
      · exact (pk_uLn e).trans (h2 j (by omega) j2)
  · rintro ⟨c, g⟩ ⟨rfl, h1, h2⟩
    simp only [f_X4_oddsOfTalk_L46, Nat.sub_self]
    rw [if_pos (by decide)]
    exact ok_some ⟨h1 0 (by omega), fun j j1 j2 => h2 j (by omega) j2⟩
  · show f j = _
    rw [hc j h2, Bt_hi i j (by omega), Bt_hi (i + 1) j (by omega)]
theorem ok_tall {f : Nat → Int64} (hp : p ≤ 10) (hn : n ≤ 12) (hc : ∀ j, j ≤ 12 → f j = lN (Bt p 0 j)) (hf : 100 ≤ fu) : ok (lp (f_X4_oddsOfTalk_L21 fu (nI p) (nI n)) fu ((1 : Int64), (1 : Int32), f)) (fun v => v.1 = lN (10 ^ n) ∧ ∀ j, j ≤ 12 → v.2 j = lN (Bt p n j)) := by
  refine ok_up n (fun k s => s.1 = lN (10 ^ k) ∧ s.2.1 = nI (k + 1) ∧ ∀ j, j ≤ 12 → s.2.2 j = lN (Bt p k j)) ?_ ?_ n fu 0 _ (by omega) (by omega) ⟨rfl, rfl, hc⟩
  · rintro k ⟨a, c, g⟩ hk ⟨rfl, rfl, h1⟩
    simp only [f_X4_oddsOfTalk_L21]
    rw [if_neg (nI_nlt (show k + 1 ≤ n by omega) (by omega)), if_neg (show ¬ (12 : Int32) < nI (k + 1) by rw [show (12 : Int32) = nI 12 from rfl]; exact nI_nlt (by omega) (by decide))]
    refine ok_ltn (ok_bnd (ok_mono (ok_tin hp (by omega) h1 hf) ?_))
    rintro g2 ⟨e0, e1⟩
    refine ok_ltn ?_
    refine ok_bnd (ok_eq (rdl_n (n := 13) (k := 0) (by decide) (by decide) e0) (ok_ltn ?_))
    rw [c10 hp, lN_mul]
    refine ok_bnd (ok_eq (wrl_n (n := 13) (k := 0) (by decide) (by decide)) (ok_some ⟨?_, nI_1 (k + 1), fun j hj => ?_⟩))
    · show lN (10 ^ k) * 10 = lN (10 ^ (k + 1))
      rw [show (10 : Int64) = lN 10 from rfl, lN_mul, Nat.pow_succ]
    · by_cases e : j = 0
      · rw [e]
        show vp_updL g2 0 (lN (Bt p k 0 * (10 - p))) 0 = _
        refine pk_uLs.trans ?_
        show _ = lN (Bt p k 0 * (10 - p) + (if 0 = 0 then 0 else Bt p k (0 - 1) * p))
        rw [if_pos rfl, Nat.add_zero]
      · exact (pk_uLn e).trans (e1 j (by omega) hj)
  · rintro ⟨a, c, g⟩ ⟨rfl, rfl, h1⟩
    simp only [f_X4_oddsOfTalk_L21]
    rw [if_pos (nI_lt (by omega) (by omega))]
    exact ok_some ⟨rfl, h1⟩
theorem e_tsum {v : Int64 × (Nat → Int64)} (hn : n ≤ 12) (hd : d < 2 ^ 31) (hv : ∀ j, j ≤ 12 → v.2 j = lN (Bt p n j)) (hf : 100 ≤ fu) : lp (f_X4_oddsOfTalk_L116 (nI n) v) fu ((0 : Int64), nI d) = some (lN (sT p n d)) := by
  by_cases q : d ≤ n
  · have key := (lp_up (step := f_X4_oddsOfTalk_L116 (nI n) v) (fun j (x : Nat) => (lN x, nI j)) (fun j x => x + Bt p n j) (n + 1) (fun x => lN x) (fun _ _ => True) (fun j x hj _ => by
      refine ⟨?_, trivial⟩
      simp only [f_X4_oddsOfTalk_L116, if_neg (nI_nlt (show j ≤ n by omega) (by omega : n < 2 ^ 31)), if_neg (show ¬ (12 : Int32) < nI j by rw [show (12 : Int32) = nI 12 from rfl]; exact nI_nlt (by omega) (by decide)), if_pos (nI_pos' (show j < 2 ^ 31 by omega)), rdl_n (show j < 13 by omega) (by decide) (hv j (by omega)), bnd_some, ltn, lN_add, nI_1]) (fun x _ => by
      simp only [f_X4_oddsOfTalk_L116, if_pos (nI_lt (show n < n + 1 by omega) (by omega))]) (n + 1 - d) fu d 0 (by omega) (by omega) trivial).1
    have e : sT p n d = fldN (fun j x => x + Bt p n j) d (n + 1 - d) 0 := by
      unfold sT
      have h1 := sum_split (f := fun k => if k < d then 0 else Bt p n k) d (n + 1 - d) 0
      rw [show d + (n + 1 - d) = n + 1 by omega, Nat.zero_add] at h1
      rw [h1, sum_zero (f := fun k => if k < d then 0 else Bt p n k) d 0 (fun i _ hi => if_pos (by omega)), Nat.zero_add]
      refine fldN_congr _ _ _ (fun i b hi _ => ?_)
      rw [if_neg (by omega)]
    rw [e]
    exact key
  · have e : sT p n d = 0 := sum_zero (f := fun k => if k < d then 0 else Bt p n k) (n + 1) 0 (fun i _ hi => if_pos (by omega))
    rw [e]
    refine lp_e ?_ (by omega)
    simp only [f_X4_oddsOfTalk_L116]
    rw [if_pos (nI_lt (by omega) hd)]
    rfl
theorem ok_X4_odds {f : Nat → Int64} {u : Int32} (hp : p ≤ 10) (hn : n ≤ 12) (hd : d < 2 ^ 31) (hf : 1000 ≤ fu) : ok (f_X4_oddsOfTalk fu f (nI d) (nI p) (nI n) u) (fun x => x.1 = sPart (sT p n d) (10 ^ n) u) := by
  unfold f_X4_oddsOfTalk
  refine ok_bnd (ok_mono (fillL_ok (by decide) (by omega)) ?_)
  intro g hg
  refine ok_bnd (ok_eq (wrl_n (n := 13) (k := 0) (by decide) (by decide)) ?_)
  refine ok_bnd (ok_mono (ok_tall hp hn (fun j hj => ?_) (by omega)) ?_)
  · by_cases e : j = 0
    · rw [e]; exact pk_uLs
    · refine (pk_uLn e).trans ?_
      rw [hg j (by omega)]
      show (0 : Int64) = lN (if j = 0 then 1 else 0)
      rw [if_neg e]
      rfl
  · rintro ⟨a, g2⟩ ⟨rfl, h2⟩
    refine ok_bnd (ok_eq (e_tsum (p := p) hn hd h2 (by omega)) ?_)
    have t1 := ten_le hn
    exact ok_bnd (ok_eq (e_lowest (sT_le hp hn) (Nat.pow_pos (by decide)) (by omega) (by omega)).1 (ok_some rfl))
theorem e_talk {y : HT} (hy : Hd t n pu o y) (hn6 : n ≤ 6) (ha : a < n) {m : Nat} (hp : p ≤ 10) (hm : m ≤ 12) (h9 : ∀ i, i < 36 → o i ≤ 99) (hf : 1000 ≤ fu) : lp (f_X12_talk_L55 fu (nI a) (nI p) (nI m) y) fu ((0 : Int64), (1 : Int64), (0 : Int32)) = some (lN (sT p m (sOwes n o a))) := by
  obtain ⟨y1, y2, y3, -, y5, -, y7, -, -⟩ := hy
  have ho := sOwes_le hn6 (show a < 6 by omega) h9
  have key := (lp_up (step := f_X12_talk_L55 fu (nI a) (nI p) (nI m) y) (fun j (x : Nat × Nat) => (lN x.1, lN x.2, nI j)) (fun j x => (x.1 + if j < sOwes n o a then 0 else Bt p m j, Wy m (j + 1))) (m + 1) (fun x => lN x.1) (fun j x => x.2 = Wy m j) (fun j x hj hx => by
    refine ⟨?_, rfl⟩
    have w1 := Wy_le hm (show j ≤ m by omega)
    have e1 : (if nI j < nI (sOwes n o a) then some (0 : Int64) else bnd (f_X12_power fu ((nI p).toInt64) (nI j)) (fun x14 => bnd (f_X12_power fu ((10 : Int64) - ((nI p).toInt64)) (nI m - nI j)) (fun x15 => some ((lN x.2 * x14) * x15)))) = some (lN (if j < sOwes n o a then 0 else Bt p m j)) := by
      by_cases q : j < sOwes n o a
      · rw [if_pos (nI_lt q (by omega)), if_pos q]
        rfl
      · rw [if_neg (nI_nlt (by omega) (by omega)), if_neg q, nI_l (by omega), e_power (by omega) hf, bnd_some, show (10 : Int64) = lN 10 from rfl, lN_sub hp, pk_sub (by omega), e_power (by omega) hf, bnd_some, lN_mul, lN_mul, tk hp hm (by omega), hx]
    have h2 : x.2 * (m - j) ≤ 1000 * 12 := Nat.mul_le_mul (by omega) (by omega)
    have e2 : dvl (lN x.2 * ((nI m - nI j)).toInt64) ((nI j + 1)).toInt64 = some (lN (Wy m (j + 1))) := by
      rw [pk_sub (by omega), nI_l (by omega), nI_1, nI_l (by omega), lN_mul, dvl_n (by omega) (by omega) (by omega), hx]
      rfl
    simp only [f_X12_talk_L55, if_neg (nI_nlt (show j ≤ m by omega) (by omega : m < 2 ^ 31)), y3, e_X12_owesAll (fu := fu) y7 hn6 (show a < 6 by omega) (by omega), bnd_some]
    rw [e1, bnd_some]
    dsimp only [ltn]
    rw [lN_add, e2, bnd_some, nI_1]) (fun x _ => by
    simp only [f_X12_talk_L55, if_pos (nI_lt (show m < m + 1 by omega) (by omega))]) (m + 1) fu 0 (0, 1) (by omega) (by omega) rfl).1
  refine key.trans ?_
  have e3 : ∀ k, (fldN (fun j (x : Nat × Nat) => (x.1 + if j < sOwes n o a then 0 else Bt p m j, Wy m (j + 1))) 0 k (0, 1)).1 = fldN (fun j x => x + if j < sOwes n o a then 0 else Bt p m j) 0 k 0 := by
    intro k
    induction k with
    | zero => rfl
    | succ k ih =>
      rw [fldN_succ, fldN_succ, ← ih]
  rw [e3]
  rfl
end TLK
