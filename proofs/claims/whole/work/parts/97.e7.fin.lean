/-! ===== the end of a line, both sides ===== -/
abbrev KT : Type := Int32 × FN × FN × FN × FN × Int32 × FN × Int32 × FN × Int32
/-- what one line leaves: both stop at one place, or both stand before the next line -/
def LOut (fu : Nat) (tape mt : FN) (L i : Nat) (line : Option LnT) (step : Option (MLT ⊕ MLT)) (K : Int32 → KT → FN → Int32 → Prop) : Prop :=
  (∃ a y s, line = some y ∧ CStop y a ∧ step = some (.inl s) ∧ MStop s a) ∨
  (∃ j a b k v w p w9 u h o d c e l q cf cp num vl vm wr mf mp told rd far gd, i < j ∧ j ≤ L ∧ Tk fu tape mt L j a b k v w ∧ line = some (p, w9, u, h, o, d, c, e, l, cf, cp, num, nI b, nI a, nI k, vl, q) ∧ step = some (.inl (1, nI b, nI a, nI (kM k), vm, w, wr, mf, mp, told, rd, far, gd)) ∧ (k = 2 → vl = nI v) ∧ (k = 2 → vm = nI v) ∧ Ff j cf cp mf mp ∧ K cf (p, w9, u, h, o, d, c, e, l, q) told far)
/-- what its numbers leave -/
def NOut (fu : Nat) (tape mt : FN) (L i : Nat) (lpr : Option (LnT ⊕ (Int32 × Int32 × FN × Int32 × Int32 × Int32 × Int32))) (ml : Option MLT) (keep : FN → Option KT) (x0 : KT) (K : Int32 → KT → FN → Int32 → Prop) : Prop :=
  (∃ a y z, lpr = some (.inl y) ∧ CStop y a ∧ ml = some z ∧ MStop z a) ∨
  (∃ i2 a2 b2 k2 v2 w2 cf2 cp2 num2 st2 tk2 vl2 vl1 wd1 wr1 mf1 mp1 told1 rd1 far1 gd1, i < i2 ∧ Tk fu tape mt L i2 a2 b2 k2 v2 w2 ∧ lpr = some (.inr (cf2, cp2, num2, nI i2, st2, tk2, vl2)) ∧ ml = some (1, nI b2, nI a2, nI (kM k2), vl1, wd1, wr1, mf1, mp1, told1, rd1, far1, gd1) ∧ Ff i2 cf2 cp2 mf1 mp1 ∧ (¬ cf2 = 0 → K cf2 x0 told1 far1) ∧ (cf2 = 0 → ∃ x9, keep num2 = some x9 ∧ K cf2 x9 told1 far1))
section FIN
variable {fu L i : Nat} {tape mt : FN} {cf cp cf1 cp1 : Int32} {p0 d0 e0 q0 p1 x1 x3 : Int32} {w0 u0 h0 o0 c0 l0 num num0 : FN} {wn : Nat} {nx st tk vl : Int32} {rc bg so ml wr mf mp far gd : Int32} {wd w6 : Int64} {told rd : FN} {K : Int32 → KT → FN → Int32 → Prop}
theorem J_fin (ht : ∀ i, i ≤ L → ∃ a b k v w, Tk fu tape mt L i a b k v w) (hx1 : ¬ x1 = -1) (h : f_X5_formOf fu tape nx st tk p1 = some x1) (h3 : f_X5_isOneTooMany fu p0 d0 e0 p1 x1 = some x3) (h5 : (if x3 = 0 then some (cf, cp) else bnd (f_X5_note fu cf cp 3 st) (fun x24 => some (x24.1, x24.2))) = some (cf1, cp1)) (h6 : f_J7_fill_53178 fu 3 num (-1) = some num0) (h7 : f_X5_numbersOf fu p1 x1 = some (nI wn)) (hs : ¬ so = 0) (hw : (if so = 2 then some wd else some (0 : Int64)) = some w6)
    (hN : NOut fu tape mt L i (lp (f_X5_readLine_L51 fu p0 w0 u0 h0 o0 d0 c0 e0 l0 tape (nI L) q0 p1 x1 (nI wn)) fu ((0 : Int32), cf1, cp1, num0, nx, st, tk, vl)) (MLn fu mt (nI L) p1 rc bg so ml wd wr mf mp told rd far w6) (fun z => f_X5_keepLine fu p0 w0 u0 h0 o0 d0 c0 e0 l0 z q0 p1 x1) (p0, w0, u0, h0, o0, d0, c0, e0, l0, q0) K) :
    LOut fu tape mt L i (f_X5_readLine fu p0 w0 u0 h0 o0 d0 c0 e0 l0 cf cp num tape (nI L) nx st tk vl q0 p1) (f_X12_allLines_L2 fu mt (nI L) p1 (1, rc, bg, so, ml, wd, wr, mf, mp, told, rd, far, gd)) K := by
  rcases hN with ⟨a, y, z, n1, n2, n3, n4⟩ | ⟨i2, a2, b2, k2, v2, w2, cf2, cp2, num2, st2, tk2, vl2, vl1, wd1, wr1, mf1, mp1, told1, rd1, far1, gd1, n1, n2, n3, n4, n5, n6, n7⟩
  · obtain ⟨s, m1, m2⟩ := M_step0 (gd := gd) hs hw n3 n4
    exact Or.inl ⟨a, y, s, C_line_stop hx1 h h3 h5 h6 h7 n1, n2, m1, m2⟩
  · have C := C_line_go n2 hx1 h h3 h5 h6 h7 n3
    have M := M_step1 (gd := gd) n2 hs hw n4
    by_cases hk : k2 = 3
    · obtain ⟨a', b', k', v', w', T'⟩ := ht b2 n2.2.2.1
      obtain ⟨vc, c1, c2, c3⟩ := C.2 hk a' b' k' v' w' T'
      obtain ⟨vm, m1, m2⟩ := M.2 hk a' b' k' v' w' T'
      have lt : a2 < b2 := n2.2.2.2.2.2.1 (by omega)
      have le := n2.1
      by_cases hc : cf2 = 0
      · obtain ⟨⟨p9, w9, u9, h9, o9, d9, c9, e9, l9, q9⟩, k1, k2⟩ := n7 hc
        exact Or.inr ⟨b2, a', b', k', v', w', _, _, _, _, _, _, _, _, _, _, _, _, _, _, _, _, _, _, _, _, _, _, by omega, n2.2.2.1, T', c3 hc _ _ _ _ _ _ _ _ _ _ k1, m2, c1, m1, Ff_mono n5 (by omega), k2⟩
      · exact Or.inr ⟨b2, a', b', k', v', w', _, _, _, _, _, _, _, _, _, _, _, _, _, _, _, _, _, _, _, _, _, _, by omega, n2.2.2.1, T', c2 hc, m2, c1, m1, Ff_mono n5 (by omega), n6 hc⟩
    · obtain ⟨y, c1, c2⟩ := C.1 hk
      obtain ⟨s, m1, m2⟩ := M.1 hk
      exact Or.inl ⟨a2, y, s, c1, c2, m1, m2⟩
end FIN
/-! ===== rows of the class ===== -/
theorem cpi_n {N M s d n : Nat} {f g : FN} (h1 : s + n ≤ N) (h2 : d + n ≤ M) (hN : N < 2 ^ 30) (hM : M < 2 ^ 30) : cpi N M f g (nI s) (nI d) (nI n) = some (va_cpy f g s d n) := by
  unfold cpi
  rw [nI_clamp (show s < 2 ^ 31 by omega), nI_clamp (show d < 2 ^ 31 by omega), nI_clamp (show n < 2 ^ 31 by omega), if_neg]
  rintro (z | z | z | z | z)
  · exact nI_nlt (Nat.zero_le s) (by omega) z
  · exact nI_nlt (Nat.zero_le d) (by omega) z
  · exact nI_nlt (Nat.zero_le n) (by omega) z
  · omega
  · omega
theorem add2_ok {fu n : Nat} {l0 num : FN} {p : Int32} (hn : n < 8) : ∃ l, f_X2_add fu 3 (nI n) l0 num p = some (nI (n + 1), l) ∧ l (3 * n) = p ∧ l (3 * n + 1) = num 0 ∧ l (3 * n + 2) = num 1 ∧ ∀ j, j < 3 * n → l j = l0 j := by
  unfold f_X2_add
  rw [if_neg (show ¬ (8 : Int32) ≤ nI n by rw [show (8 : Int32) = nI 8 from rfl]; exact nI_ge hn (by decide)), if_pos (by decide), show (3 : Int32) * nI n = nI (3 * n) by rw [show (3 : Int32) = nI 3 from rfl, pk_mul], wri_n (show 3 * n < 24 by omega) (by decide), bnd_some, show cpi 3 24 num (upd l0 (3 * n) p) 0 (nI (3 * n) + 1) 2 = some (va_cpy num (upd l0 (3 * n) p) 0 (3 * n + 1) 2) by rw [nI_1]; exact cpi_n (s := 0) (n := 2) (by decide) (by omega) (by decide) (by decide), bnd_some]
  dsimp only [ltn]
  rw [nI_1]
  refine ⟨_, rfl, ?_, ?_, ?_, fun j hj => ?_⟩
  · unfold va_cpy; rw [if_neg (by omega)]; exact pk_us
  · unfold va_cpy; rw [if_pos (by omega)]; exact congrArg num (by omega)
  · unfold va_cpy; rw [if_pos (by omega)]; exact congrArg num (by omega)
  · unfold va_cpy; rw [if_neg (by omega)]; exact pk_un (by omega)
theorem add10_ok {fu n : Nat} {l0 num : FN} {p : Int32} (hn : n < 40) : ∃ l, f_X10_add fu 3 (nI n) l0 num p = some (nI (n + 1), l) ∧ l (4 * n) = p ∧ l (4 * n + 1) = num 0 ∧ l (4 * n + 2) = num 1 ∧ l (4 * n + 3) = num 2 ∧ ∀ j, j < 4 * n → l j = l0 j := by
  unfold f_X10_add
  rw [if_neg (show ¬ (40 : Int32) ≤ nI n by rw [show (40 : Int32) = nI 40 from rfl]; exact nI_ge hn (by decide)), if_pos (by decide), show (4 : Int32) * nI n = nI (4 * n) by rw [show (4 : Int32) = nI 4 from rfl, pk_mul], wri_n (show 4 * n < 160 by omega) (by decide), bnd_some, show cpi 3 160 num (upd l0 (4 * n) p) 0 (nI (4 * n) + 1) 3 = some (va_cpy num (upd l0 (4 * n) p) 0 (4 * n + 1) 3) by rw [nI_1]; exact cpi_n (s := 0) (n := 3) (by decide) (by omega) (by decide) (by decide), bnd_some]
  dsimp only [ltn]
  rw [nI_1]
  refine ⟨_, rfl, ?_, ?_, ?_, ?_, fun j hj => ?_⟩
  · unfold va_cpy; rw [if_neg (by omega)]; exact pk_us
  · unfold va_cpy; rw [if_pos (by omega)]; exact congrArg num (by omega)
  · unfold va_cpy; rw [if_pos (by omega)]; exact congrArg num (by omega)
  · unfold va_cpy; rw [if_pos (by omega)]; exact congrArg num (by omega)
  · unfold va_cpy; rw [if_neg (by omega)]; exact pk_un (by omega)
