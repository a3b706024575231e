/-! ===== the k-th bore ===== -/
theorem lp_find {fu : Nat} {step : Int32 → Option (Int32 ⊕ (Int32 ⊕ Unit))} (N : Nat) (g : Nat → Prop) [DecidablePred g] (hs : ∀ j, j < N → step (nI j) = if g j then some (.inr (.inl (nI j))) else some (.inl (nI (j + 1)))) (he : step (nI N) = some (.inr (.inr ()))) (hf : N < fu) :
    (∀ m, m < N → g m → (∀ j, j < m → ¬ g j) → lp step fu 0 = some (.inl (nI m))) ∧ ((∀ j, j < N → ¬ g j) → lp step fu 0 = some (.inr ())) := by
  have one : ∀ f j, j < N → ¬ g j → lp step (f + 1) (nI j) = lp step f (nI (j + 1)) := by
    intro f j hj hg
    show bnd (step (nI j)) _ = _
    rw [hs j hj, if_neg hg]
    rfl
  constructor
  · intro m hm hg hn
    have key : ∀ k j f, j + k = m → k < f → lp step f (nI j) = some (.inl (nI m)) := by
      intro k
      induction k with
      | zero =>
        intro j f hj hf
        obtain ⟨f, rfl⟩ : ∃ g, f = g + 1 := ⟨f - 1, by omega⟩
        have hj : j = m := by omega
        subst hj
        show bnd (step (nI j)) _ = _
        rw [hs j hm, if_pos hg]
        rfl
      | succ k ih =>
        intro j f hj hf
        obtain ⟨f, rfl⟩ : ∃ g, f = g + 1 := ⟨f - 1, by omega⟩
        rw [one f j (by omega) (hn j (by omega))]
        exact ih (j + 1) f (by omega) (by omega)
    exact key m 0 fu (by omega) (by omega)
  · intro hn
    have key : ∀ k j f, j + k = N → k < f → lp step f (nI j) = some (.inr ()) := by
      intro k
      induction k with
      | zero =>
        intro j f hj hf
        obtain ⟨f, rfl⟩ : ∃ g, f = g + 1 := ⟨f - 1, by omega⟩
        have hj : j = N := by omega
        subst hj
        show bnd (step (nI j)) _ = _
        rw [he]
        rfl
      | succ k ih =>
        intro j f hj hf
        obtain ⟨f, rfl⟩ : ∃ g, f = g + 1 := ⟨f - 1, by omega⟩
        rw [one f j (by omega) (hn j (by omega))]
        exact ih (j + 1) f (by omega) (by omega)
    exact key N 0 fu (by omega) (by omega)
section P11
variable {fu n t p a b : Nat} {w pu h o : Nat → Nat} {wi pr ha ow db M : Nat → Int32}
def wl (w : Nat → Nat) (q p : Nat) : Prop := w q < w p ∨ (w q = w p ∧ q < p)
def rnk (w : Nat → Nat) (n p : Nat) : Nat := cnt (fun q => w q < w p ∨ (w q = w p ∧ q < p)) n
theorem rnk_lt {q : Nat} (hq : q < n) (h : wl w q p) : rnk w n q < rnk w n p := by
  unfold rnk
  refine cnt_lt n (fun j _ hj => ?_) ⟨q, hq, ?_, h⟩
  · unfold wl at h; omega
  · omega
theorem rnk_inj {q : Nat} (hp : p < n) (hq : q < n) (h : rnk w n p = rnk w n q) : p = q := by
  by_cases e : p = q
  · exact e
  · rcases (show wl w p q ∨ wl w q p by unfold wl; omega) with z | z
    · have := rnk_lt hp z; omega
    · have := rnk_lt hq z; omega
theorem rnk_n (hp : p < n) : rnk w n p < n := by
  have := cnt_lt (P := fun q => w q < w p ∨ (w q = w p ∧ q < p)) (Q := fun _ => True) n (fun _ _ _ => trivial) ⟨p, hp, by omega, trivial⟩
  rw [cnt_all] at this
  exact this
theorem e_X6_boreAt {k : Int32} (hwi : ∀ i, i < n → wi i = nI (w i)) (hw : ∀ i, i < 6 → w i ≤ 9) (hn : n ≤ 6) (hf : 100 ≤ fu) :
    (∀ m, m < n → nI (rnk w n m) = k → f_X6_boreAt fu (nI n) wi k = some (nI m)) ∧ ((∀ m, m < n → nI (rnk w n m) ≠ k) → f_X6_boreAt fu (nI n) wi k = some (-2)) := by
  have inn : ∀ p, p < n → lp (f_X6_boreAt_L15 (nI n) wi (nI p)) fu ((0 : Int32), (0 : Int32)) = some (nI (rnk w n p)) := by
    intro p hp
    exact lp_up0 (step := f_X6_boreAt_L15 (nI n) wi (nI p)) (fun j x => (nI x, nI j)) (fun j x => x + if w j < w p ∨ (w j = w p ∧ j < p) then 1 else 0) n (fun x => nI x) (fun j x hj => by
      have l1 := hw j (by omega)
      have l2 := hw p (by omega)
      simp only [f_X6_boreAt_L15, if_neg (nI_ge hj (by omega : n < 2 ^ 31)), rdi_n (by omega : j < 6) (by decide) (hwi j hj), rdi_n (by omega : p < 6) (by decide) (hwi p hp), bnd_some, nI_1, nI_ltI (show w j < 2 ^ 31 by omega) (show w p < 2 ^ 31 by omega), nI_eq (show w j < 2 ^ 31 by omega) (show w p < 2 ^ 31 by omega), nI_leI (show p < 2 ^ 31 by omega) (show j < 2 ^ 31 by omega)]
      by_cases q1 : w j < w p
      · rw [if_pos q1, if_pos (Or.inl q1)]
      · rw [if_neg q1]
        by_cases q2 : w j = w p
        · rw [if_pos q2]
          by_cases q3 : p ≤ j
          · rw [if_pos q3, if_neg (by omega)]; rfl
          · rw [if_neg q3, if_pos (Or.inr ⟨q2, by omega⟩)]
        · rw [if_neg q2, if_neg (by omega)]; rfl) (fun x => by
      simp only [f_X6_boreAt_L15, if_pos (nI_le (Nat.le_refl n) (by omega : n < 2 ^ 31))]) (fu := fu) (a := 0) (by omega)
  have out := lp_find (fu := fu) (step := f_X6_boreAt_L2 fu (nI n) wi k) n (fun j => nI (rnk w n j) = k) (fun j hj => by
    simp only [f_X6_boreAt_L2, if_neg (nI_ge hj (by omega : n < 2 ^ 31)), inn j hj, bnd_some, nI_1]) (by
    simp only [f_X6_boreAt_L2, if_pos (nI_le (Nat.le_refl n) (by omega : n < 2 ^ 31))]) (by omega)
  unfold f_X6_boreAt
  constructor
  · intro m hm hk
    rw [bnd_r (out.1 m hm hk (fun j hj e => ?_))]
    · rfl
    · have r1 := rnk_n (w := w) hm
      have r2 := rnk_n (w := w) (show j < n by omega)
      have e2 : nI (rnk w n j) = nI (rnk w n m) := e.trans hk.symm
      rw [nI_eq (by omega) (by omega)] at e2
      have := rnk_inj (by omega) hm e2
      omega
  · intro hk
    rw [bnd_r (out.2 hk)]
    rfl
def gBo (w : Nat → Nat) (had j : Nat) (b : Option Nat) : Option Nat := if bi had j = 0 then fst (fun k j => w j < w k) j b else b
def sBo (w : Nat → Nat) (n had : Nat) : Option Nat := fldN (gBo w had) 0 n none
def isB (w : Nat → Nat) (had j : Nat) (b : Option Nat) : Prop := (b = none → ∀ q, q < j → bt had q) ∧ ∀ m, b = some m → m < j ∧ bi had m = 0 ∧ ∀ q, q < j → bi had q = 0 → ¬ wl w q m
theorem isB_step {had j : Nat} {b : Option Nat} (h : isB w had j b) : isB w had (j + 1) (gBo w had j b) := by
  unfold gBo
  by_cases q : bi had j = 0
  · rw [if_pos q]
    cases b with
    | none =>
      refine ⟨fun z => (by cases z), fun m hm => ?_⟩
      have hm' : some j = some m := hm
      cases hm'
      refine ⟨by omega, q, fun r hr h0 => ?_⟩
      by_cases e : r = j
      · subst e; unfold wl; omega
      · exact absurd (h.1 rfl r (by omega)) (bi0.1 h0)
    | some m =>
      obtain ⟨h1, h2, h3⟩ := h.2 m rfl
      by_cases z : w j < w m
      · rw [fst_y (lt := fun k j => w j < w k) z]
        refine ⟨fun z => (by cases z), fun m' hm => ?_⟩
        cases hm
        refine ⟨by omega, q, fun r hr h0 => ?_⟩
        by_cases e : r = j
        · subst e; unfold wl; omega
        · have := h3 r (by omega) h0
          unfold wl at this ⊢
          omega
      · rw [fst_no (lt := fun k j => w j < w k) z]
        refine ⟨fun z => (by cases z), fun m' hm => ?_⟩
        cases hm
        refine ⟨by omega, h2, fun r hr h0 => ?_⟩
        by_cases e : r = j
        · subst e; unfold wl; omega
        · exact h3 r (by omega) h0
  · rw [if_neg q]
    refine ⟨fun z r hr => ?_, fun m hm => ?_⟩
    · by_cases e : r = j
      · rw [e]; exact (bi_01 _ _).resolve_left q
      · exact h.1 z r (by omega)
    · obtain ⟨h1, h2, h3⟩ := h.2 m hm
      refine ⟨by omega, h2, fun r hr h0 => ?_⟩
      by_cases e : r = j
      · rw [e] at h0; exact absurd h0 q
      · exact h3 r (by omega) h0
def dwn (w : Nat → Nat) (n had i : Nat) : Prop := had < 2 ^ n ∧ cnt (fun q => bi had q = 1) n = i ∧ ∀ q r, q < n → r < n → bt had r → wl w q r → bt had q
theorem dwn_step {had i m : Nat} (hn : n ≤ 6) (hd : dwn w n had i) (hb : isB w had n (some m)) : dwn w n (had ||| 2 ^ m) (i + 1) ∧ rnk w n m = i ∧ m < n := by
  obtain ⟨h1, h2, h3⟩ := hd
  obtain ⟨k1, k2, k3⟩ := hb.2 m rfl
  have hsame : ∀ q, q < n → (wl w q m ↔ bi had q = 1) := by
    intro q hq
    constructor
    · intro z
      rcases bi_01 had q with e | e
      · exact absurd z (k3 q hq e)
      · exact e
    · intro z
      have hne : q ≠ m := fun e => by rw [e] at z; omega
      rcases (show wl w q m ∨ wl w m q by unfold wl; omega) with y | y
      · exact y
      · exact absurd (h3 m q k1 hq z y) (bi0.1 k2)
  refine ⟨⟨or_pow h1 (pw_lt k1), ?_, ?_⟩, ?_, k1⟩
  · have key : ∀ N, N ≤ n → cnt (fun q => bi (had ||| 2 ^ m) q = 1) N = cnt (fun q => bi had q = 1) N + if m < N then 1 else 0 := by
      intro N
      induction N with
      | zero => intro _; rfl
      | succ N ih =>
        intro hN
        rw [cnt_succ, cnt_succ, ih (by omega)]
        have hbt : bi (had ||| 2 ^ m) N = 1 ↔ bi had N = 1 ∨ m = N := by
          have := bt_or (a := had) (b := 2 ^ m) (j := N)
          rw [bt_pow] at this
          exact this
        by_cases e : m = N
        · subst e
          rw [if_pos (hbt.2 (Or.inr rfl)), if_neg (show ¬ bi had m = 1 by omega), if_neg (by omega), if_pos (by omega)]
        · by_cases e2 : bi had N = 1
          · rw [if_pos (hbt.2 (Or.inl e2)), if_pos e2]
            by_cases e3 : m < N
            · rw [if_pos e3, if_pos (by omega)]
            · rw [if_neg e3, if_neg (by omega)]
          · rw [if_neg (fun z => (hbt.1 z).elim e2 e), if_neg e2]
            by_cases e3 : m < N
            · rw [if_pos e3, if_pos (by omega)]
            · rw [if_neg e3, if_neg (by omega)]
    rw [key n (Nat.le_refl _), h2, if_pos k1]
  · intro q r hq hr hbr hql
    rw [bt_or, bt_pow] at hbr ⊢
    rcases hbr with z | z
    · exact Or.inl (h3 q r hq hr z hql)
    · rw [← z] at hql
      exact Or.inl ((hsame q hq).1 hql)
  · rw [← h2]
    refine Nat.le_antisymm (cnt_le n (fun q hq z => (hsame q hq).1 z)) (cnt_le n (fun q hq z => (hsame q hq).2 z))
theorem e_X12_bore {k : Nat} (hW : ∀ i, i < 6 → M (55 * t + 1 + i) = nI (w i)) (ht : t < 8) (hw : ∀ i, i < 6 → w i ≤ 9) (hn : n ≤ 6) (hk : k < n) (hf : 100 ≤ fu) : ∃ m, m < n ∧ rnk w n m = k ∧ f_X12_bore fu M (nI t) (nI n) (nI k) = some (nI m) := by
  have inn : ∀ had z i, had < 2 ^ n → lp (f_X12_bore_L18 fu M (nI t) (nI n) (nI had, z, i)) fu ((-1 : Int32), (0 : Int32)) = some (enc (sBo w n had)) ∧ isB w had n (sBo w n had) := by
    intro had z i hh
    exact lp_up (step := f_X12_bore_L18 fu M (nI t) (nI n) (nI had, z, i)) (fun j b => (enc b, nI j)) (gBo w had) n (fun b => enc b) (fun j b => isB w had j b) (fun j b hj hb => by
      refine ⟨?_, isB_step hb⟩
      have l0 := bi_lt had j
      have l1 := hw j (by omega)
      have e1 : f_X12_of fu M (nI t) (nI (1 + j)) = some (nI (w j)) := e_X12_of (by rw [← hW j (by omega), Nat.add_assoc]) (by omega)
      simp only [f_X12_bore_L18, if_neg (nI_ge hj (by omega : n < 2 ^ 31)), i1_add, e1, e_X12_has (fu := fu) (p64 hn hh) (by omega : j < 6), bnd_some, nI_1, nI_eq0 (show bi had j < 2 ^ 31 by omega)]
      cases b with
      | none =>
        rw [if_pos (show enc none = -1 from rfl), bnd_some, if_neg i10]
        unfold gBo
        by_cases q : bi had j = 0
        · rw [if_pos q, if_pos q, fst_n]; rfl
        · rw [if_neg q, if_neg q]
      | some m =>
        obtain ⟨k1, k2, k3⟩ := hb.2 m rfl
        have l2 := hw m (by omega)
        have e2 : f_X12_of fu M (nI t) (1 + enc (some m)) = some (nI (w m)) := by
          show f_X12_of fu M (nI t) (1 + nI m) = _
          rw [i1_add]
          exact e_X12_of (by rw [← hW m (by omega), Nat.add_assoc]) (by omega)
        rw [if_neg (enc_no (by omega)), e2, bnd_some]
        unfold gBo
        by_cases z : w j < w m
        · rw [if_neg (nI_ge z (by omega)), bnd_some, if_neg i10, fst_y (lt := fun k j => w j < w k) z]
          by_cases q : bi had j = 0
          · rw [if_pos q, if_pos q]; rfl
          · rw [if_neg q, if_neg q]
        · rw [if_pos (nI_le (by omega) (by omega)), bnd_some, if_pos i00, fst_no (lt := fun k j => w j < w k) z]
          by_cases q : bi had j = 0
          · rw [if_pos q, if_pos q]
          · rw [if_neg q, if_neg q]) (fun b _ => by
      simp only [f_X12_bore_L18, if_pos (nI_le (Nat.le_refl n) (by omega : n < 2 ^ 31))]) n fu 0 none (by omega) (by omega) ⟨fun _ q hq => absurd hq (by omega), fun m hm => by cases hm⟩
  have out := lp_up (step := f_X12_bore_L7 fu M (nI t) (nI n) (nI k)) (fun i (x : Nat × Int32) => (nI x.1, x.2, nI i)) (fun _ x => (x.1 ||| 2 ^ (sBo w n x.1).getD 0, nI ((sBo w n x.1).getD 0))) (k + 1) (fun x => x.2) (fun i x => dwn w n x.1 i ∧ (0 < i → ∃ m, m < n ∧ rnk w n m + 1 = i ∧ x.2 = nI m)) (fun i x hi hx => by
    obtain ⟨hd, hm⟩ := hx
    obtain ⟨z1, z2⟩ := inn x.1 x.2 (nI i) hd.1
    cases e : sBo w n x.1 with
    | none =>
      rw [e] at z2
      have := z2.1 rfl
      have c1 : cnt (fun _ => True) n ≤ cnt (fun q => bi x.1 q = 1) n := cnt_le n (fun j hj _ => this j hj)
      rw [cnt_all, hd.2.1] at c1
      omega
    | some m =>
      rw [e] at z1 z2
      obtain ⟨d1, d2, d3⟩ := dwn_step hn hd z2
      refine ⟨?_, d1, fun _ => ⟨m, d3, by rw [d2], rfl⟩⟩
      have z1' : lp (f_X12_bore_L18 fu M (nI t) (nI n) (nI x.1, x.2, nI i)) fu ((-1 : Int32), (0 : Int32)) = some (nI m) := z1
      simp only [f_X12_bore_L7, if_neg (nI_nlt (show i ≤ k by omega) (by omega : k < 2 ^ 31)), z1', bnd_some, ltn, jshl_1 m (by omega), fa_or, nI_1]
      rfl) (fun x _ => by
    simp only [f_X12_bore_L7, if_pos (nI_lt (show k < k + 1 by omega) (by omega : k + 1 < 2 ^ 31))]) (k + 1) fu 0 (0, -1) (by omega) (by omega) ⟨⟨Nat.one_le_two_pow, ?_, fun q r _ _ z _ => absurd z bt_0⟩, fun z => absurd z (by omega)⟩
  · obtain ⟨m, m1, m2, m3⟩ := out.2.2 (by omega)
    refine ⟨m, m1, by omega, ?_⟩
    unfold f_X12_bore
    rw [show ((0 : Int32), (-1 : Int32), (0 : Int32)) = (nI 0, -1, nI 0) from rfl, bnd_r out.1, m3]
  · have : ∀ N, cnt (fun q => bi 0 q = 1) N = 0 := by
      intro N
      induction N with
      | zero => rfl
      | succ N ih =>
        rw [cnt_succ, ih, if_neg (show ¬ bi 0 N = 1 from bt_0 (j := N))]
    exact this n
end P11
