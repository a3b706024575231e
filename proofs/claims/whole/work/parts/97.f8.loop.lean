/-! ===== all lines, both sides ===== -/
abbrev BgT : Type := Int32 × FN × FN × Int32 × Int32 × Int32 × Int32 × Int32 × Int32 × Int32
/-- what a whole text leaves -/
def AOut (fu : Nat) (tape mt : FN) (L : Nat) (cl : Option LnT) (ml : Option MLT) (K : Int32 → KT → FN → Int32 → Prop) : Prop :=
  (∃ a y s, cl = some y ∧ CStop y a ∧ ml = some s ∧ MStop s a) ∨
  (∃ j a b v w p w9 u h o d c e l q cf cp num vl vm wr mf mp told rd far gd, j ≤ L ∧ Tk fu tape mt L j a b 0 v w ∧ cl = some (p, w9, u, h, o, d, c, e, l, cf, cp, num, nI b, nI a, 0, vl, q) ∧ ml = some (1, nI b, nI a, 0, vm, w, wr, mf, mp, told, rd, far, gd) ∧ Ff j cf cp mf mp ∧ K cf (p, w9, u, h, o, d, c, e, l, q) told far)
section LOOP
variable {fu L : Nat} {tape mt : FN} {p1 : Int32} {K : Int32 → KT → FN → Int32 → Prop} {x1 : BgT}
theorem ix600 {j : Nat} (h : j ≤ 600) : ¬ (600 : Int32) < nI j := by
  rw [show (600 : Int32) = nI 600 from rfl]
  exact nI_nlt h (by decide)
theorem L11_stop {j a : Nat} {y : LnT} (h : j ≤ 600) (hy : CStop y a) : f_X5_read_L11 fu tape p1 x1 (nI j, y) = some (.inr y) := by
  simp only [f_X5_read_L11]
  rw [if_neg (ix600 h)]
  by_cases c : y.2.2.2.2.2.2.2.2.2.2.2.2.2.2.1 = 0
  · rw [if_pos c]
  · rw [if_neg c, if_pos hy.1]
theorem L2_stop {a : Nat} {s : MLT} (hs : MStop s a) : f_X12_allLines_L2 fu mt (nI L) p1 s = some (.inr s) := by
  simp only [f_X12_allLines_L2]
  rw [if_pos hs.1]
theorem Ff_not1 {i : Nat} {cf cp mf mp : Int32} (F : Ff i cf cp mf mp) : ¬ cf = 1 := by
  rcases F with ⟨h1, h2, h3⟩ | ⟨f, pl, h1, h2, h3, h4, h5, h6⟩
  · rw [h1]; decide
  · rw [h2]
    rcases h1 with rfl | rfl
    · decide
    · decide
theorem J_loop (hx : x1.2.2.2.2.2.2.2.1 = nI L) (hL : L ≤ 600)
    (hline : ∀ (i a b k v : Nat) (w : Int64) (cf cp mf mp p d e q vl ml wr far gd : Int32) (w0 u h o c l num told rd : FN), Tk fu tape mt L i a b k v w → k ≠ 0 → Ff i cf cp mf mp → K cf (p, w0, u, h, o, d, c, e, l, q) told far → LOut fu tape mt L i (f_X5_readLine fu p w0 u h o d c e l cf cp num tape (nI L) (nI b) (nI a) (nI k) vl q p1) (f_X12_allLines_L2 fu mt (nI L) p1 (1, nI b, nI a, nI (kM k), ml, w, wr, mf, mp, told, rd, far, gd)) K) :
    ∀ (r i x n a b k v : Nat) (w : Int64) (cf cp mf mp p d e q vl ml wr far gd : Int32) (w0 u h o c l num told rd : FN), L - i ≤ r → i ≤ L → x ≤ i → r + 2 ≤ n → Tk fu tape mt L i a b k v w → Ff i cf cp mf mp → K cf (p, w0, u, h, o, d, c, e, l, q) told far → AOut fu tape mt L (lp (f_X5_read_L11 fu tape p1 x1) n (nI x, p, w0, u, h, o, d, c, e, l, cf, cp, num, nI b, nI a, nI k, vl, q)) (lp (f_X12_allLines_L2 fu mt (nI L) p1) n (1, nI b, nI a, nI (kM k), ml, w, wr, mf, mp, told, rd, far, gd)) K := by
  intro r
  induction r with
  | zero =>
    intro i x n a b k v w cf cp mf mp p d e q vl ml wr far gd w0 u h o c l num told rd hr hi hxi hn T F hK
    have t := T
    obtain ⟨t1, t2, t3, t4, t5, t6, t7⟩ := t
    have hk : k = 0 := Classical.byContradiction (fun z => by have := t6 z; omega)
    subst hk
    refine Or.inr ⟨i, a, b, v, w, p, w0, u, h, o, d, c, e, l, q, cf, cp, num, vl, ml, wr, mf, mp, told, rd, far, gd, hi, T, lp_e ?_ (by omega), lp_e ?_ (by omega), F, hK⟩
    · simp only [f_X5_read_L11]
      rw [if_neg (ix600 (by omega)), if_pos (show nI 0 = (0 : Int32) from rfl)]
      rfl
    · simp only [f_X12_allLines_L2]
      rw [if_neg i10, if_pos (show nI (kM 0) = (0 : Int32) from rfl)]
      rfl
  | succ r ih =>
    intro i x n a b k v w cf cp mf mp p d e q vl ml wr far gd w0 u h o c l num told rd hr hi hxi hn T F hK
    by_cases hk : k = 0
    · subst hk
      refine Or.inr ⟨i, a, b, v, w, p, w0, u, h, o, d, c, e, l, q, cf, cp, num, vl, ml, wr, mf, mp, told, rd, far, gd, hi, T, lp_e ?_ (by omega), lp_e ?_ (by omega), F, hK⟩
      · simp only [f_X5_read_L11]
        rw [if_neg (ix600 (by omega)), if_pos (show nI 0 = (0 : Int32) from rfl)]
        rfl
      · simp only [f_X12_allLines_L2]
        rw [if_neg i10, if_pos (show nI (kM 0) = (0 : Int32) from rfl)]
        rfl
    · have lt1 := T.2.2.2.2.2.1 hk
      have lt2 := T.1
      have lt3 := T.2.2.1
      have step : ∀ y, f_X5_readLine fu p w0 u h o d c e l cf cp num tape (nI L) (nI b) (nI a) (nI k) vl q p1 = some y → f_X5_read_L11 fu tape p1 x1 (nI x, p, w0, u, h, o, d, c, e, l, cf, cp, num, nI b, nI a, nI k, vl, q) = some (.inl (nI (x + 1), y)) := by
        intro y hy
        simp only [f_X5_read_L11]
        rw [if_neg (ix600 (by omega)), if_neg (fun z => hk ((kC_0 k T.2.2.2.1).1 z)), if_neg (Ff_not1 F), hx, hy, bnd_some, nI_1]
      rcases hline i a b k v w cf cp mf mp p d e q vl ml wr far gd w0 u h o c l num told rd T hk F hK with ⟨a', y, s, l1, l2, l3, l4⟩ | ⟨j, a', b', k', v', w', p', w9, u', h', o', d', c', e', l', q', cf', cp', num', vl', vm, wr', mf', mp', told', rd', far', gd', l1, l2, l3, l4, l5, l6, l7, l8, l9⟩
      · refine Or.inl ⟨a', y, s, ?_, l2, ?_, l4⟩
        · rw [lp_s (step y l1) (by omega)]
          exact lp_e (L11_stop (by omega) l2) (by omega)
        · rw [lp_s l3 (by omega)]
          exact lp_e (L2_stop l4) (by omega)
      · rw [lp_s (step _ l4) (by omega), lp_s l5 (by omega)]
        exact ih j (x + 1) (n - 1) a' b' k' v' w' cf' cp' mf' mp' p' d' e' q' vl' vm wr' far' gd' w9 u' h' o' c' l' num' told' rd' (by omega) l2 (by omega) (by omega) l3 l8 l9
end LOOP
