/-! ===== a line of the class, from its numbers on ===== -/
section LN1
variable {fu L i a b : Nat} {tape mt : FN} {cf cp cf1 cp1 cf2 cp2 : Int32} {p0 d0 e0 q0 p1 x1 x3 : Int32} {w0 u0 h0 o0 c0 l0 num num0 num2 : FN} {wn : Nat} {nx st tk vl st2 tk2 vl2 : Int32}
/-- the class stops at a place -/
def CStop (y : LnT) (a : Nat) : Prop := y.2.2.2.2.2.2.2.2.2.1 = 1 ∧ y.2.2.2.2.2.2.2.2.2.2.1 = nI a
theorem C_noform (h : f_X5_formOf fu tape nx (nI a) tk p1 = some (-1)) : ∃ y, f_X5_readLine fu p0 w0 u0 h0 o0 d0 c0 e0 l0 cf cp num tape (nI L) nx (nI a) tk vl q0 p1 = some y ∧ CStop y a := by
  unfold f_X5_readLine
  rw [h, bnd_some, if_pos rfl]
  exact ⟨_, rfl, rfl, rfl⟩
theorem C_line_stop {y : LnT} (hx1 : ¬ x1 = -1) (h : f_X5_formOf fu tape nx st tk p1 = some x1) (h3 : f_X5_isOneTooMany fu p0 d0 e0 p1 x1 = some x3) (h5 : (if x3 = 0 then some (cf, cp) else bnd (f_X5_note fu cf cp 3 st) (fun x24 => some (x24.1, x24.2))) = some (cf1, cp1)) (h6 : f_J7_fill_53178 fu 3 num (-1) = some num0) (h7 : f_X5_numbersOf fu p1 x1 = some (nI wn))
    (hl : lp (f_X5_readLine_L51 fu p0 w0 u0 h0 o0 d0 c0 e0 l0 tape (nI L) q0 p1 x1 (nI wn)) fu ((0 : Int32), cf1, cp1, num0, nx, st, tk, vl) = some (.inl y)) : f_X5_readLine fu p0 w0 u0 h0 o0 d0 c0 e0 l0 cf cp num tape (nI L) nx st tk vl q0 p1 = some y := by
  unfold f_X5_readLine
  rw [h, bnd_some, if_neg hx1, h3, bnd_some, h5, bnd_some, h6, bnd_some, h7, bnd_some, hl, bnd_some]
  rfl
theorem C_line_go {k v : Nat} {w : Int64} (T : Tk fu tape mt L i a b k v w) (hx1 : ¬ x1 = -1) (h : f_X5_formOf fu tape nx st tk p1 = some x1) (h3 : f_X5_isOneTooMany fu p0 d0 e0 p1 x1 = some x3) (h5 : (if x3 = 0 then some (cf, cp) else bnd (f_X5_note fu cf cp 3 st) (fun x24 => some (x24.1, x24.2))) = some (cf1, cp1)) (h6 : f_J7_fill_53178 fu 3 num (-1) = some num0) (h7 : f_X5_numbersOf fu p1 x1 = some (nI wn))
    (hl : lp (f_X5_readLine_L51 fu p0 w0 u0 h0 o0 d0 c0 e0 l0 tape (nI L) q0 p1 x1 (nI wn)) fu ((0 : Int32), cf1, cp1, num0, nx, st, tk, vl) = some (.inr (cf2, cp2, num2, nI i, st2, tk2, vl2))) :
    (k ≠ 3 → ∃ y, f_X5_readLine fu p0 w0 u0 h0 o0 d0 c0 e0 l0 cf cp num tape (nI L) nx st tk vl q0 p1 = some y ∧ CStop y a) ∧
    (k = 3 → ∀ a' b' k' v' w', Tk fu tape mt L b a' b' k' v' w' → ∃ vl', (k' = 2 → vl' = nI v') ∧ (¬ cf2 = 0 → f_X5_readLine fu p0 w0 u0 h0 o0 d0 c0 e0 l0 cf cp num tape (nI L) nx st tk vl q0 p1 = some (p0, w0, u0, h0, o0, d0, c0, e0, l0, cf2, cp2, num2, nI b', nI a', nI k', vl', q0)) ∧ (cf2 = 0 → ∀ p9 w9 u9 h9 o9 d9 c9 e9 l9 q9, f_X5_keepLine fu p0 w0 u0 h0 o0 d0 c0 e0 l0 num2 q0 p1 x1 = some (p9, w9, u9, h9, o9, d9, c9, e9, l9, q9) → f_X5_readLine fu p0 w0 u0 h0 o0 d0 c0 e0 l0 cf cp num tape (nI L) nx st tk vl q0 p1 = some (p9, w9, u9, h9, o9, d9, c9, e9, l9, cf2, cp2, num2, nI b', nI a', nI k', vl', q9))) := by
  obtain ⟨t1, t2, t3, t4, t5, t6, t7, t8, t9⟩ := T
  obtain ⟨vc, e1, e2⟩ := t7 st2 tk2 vl2
  unfold f_X5_readLine
  rw [h, bnd_some, if_neg hx1, h3, bnd_some, h5, bnd_some, h6, bnd_some, h7, bnd_some, hl, bnd_some]
  refine ⟨fun hk => ?_, fun hk a' b' k' v' w' T' => ?_⟩
  · dsimp only [cse]
    rw [e1, bnd_some, if_neg (fun z => hk ((kC_3 k t4).1 z))]
    exact ⟨_, rfl, rfl, rfl⟩
  · obtain ⟨vc', g1, g2⟩ := T'.2.2.2.2.2.2.1 (nI a) (nI k) vc
    refine ⟨vc', g2, fun hc => ?_, fun hc p9 w9 u9 h9 o9 d9 c9 e9 l9 q9 hk9 => ?_⟩
    · dsimp only [cse]
      rw [e1, bnd_some, if_pos ((kC_3 k t4).2 hk), if_neg hc]
      dsimp only
      rw [g1, bnd_some]
    · dsimp only [cse]
      rw [e1, bnd_some, if_pos ((kC_3 k t4).2 hk), if_pos hc, hk9, bnd_some]
      dsimp only
      rw [g1, bnd_some]
end LN1
