/-! ===== a place for what is told ===== -/
abbrev TxM : Type := Int32 × Int32 × FN × FN × FN × FN × FN × FN × FN × Int32 × Int32 × Int32 × Int32 × Int32 × Int64 × Int32 × Int32 × Int32 × FN × FN × Int32 × Int32
def mCont (fu : Nat) (o_many o_towns o_weeks o_logs : FN) (x1 : Int32) (x2 : FN) (p1 v9 : Int32) (x14 : FN) (x7 : RxT) : Option TxM := if x7.1 = 0 then some ((-1 : Int32), (0 : Int32), x2, x7.2.1, x7.2.2.1, o_many, o_towns, o_weeks, o_logs, x7.2.2.2.1, x1, x7.2.2.2.2.1, x7.2.2.2.2.2.1, x7.2.2.2.2.2.2.1, x7.2.2.2.2.2.2.2.1, x7.2.2.2.2.2.2.2.2.1, x7.2.2.2.2.2.2.2.2.2.1, x7.2.2.2.2.2.2.2.2.2.2.1, x7.2.2.2.2.2.2.2.2.2.2.2.1, x7.2.2.2.2.2.2.2.2.2.2.2.2.1, x7.2.2.2.2.2.2.2.2.2.2.2.2.2.1, x7.2.2.2.2.2.2.2.2.2.2.2.2.2.2) else if p1 = 0 then bnd (α := (Nat → Int32)) (f_X12_store fu 440 x7.2.2.2.2.2.2.2.2.2.2.2.1 o_towns (55 : Int32) v9) (fun x15 => some (v9, (0 : Int32), x2, x7.2.1, x7.2.2.1, x14, x15, o_weeks, o_logs, x7.2.2.2.1, x1, x7.2.2.2.2.1, x7.2.2.2.2.2.1, x7.2.2.2.2.2.2.1, x7.2.2.2.2.2.2.2.1, x7.2.2.2.2.2.2.2.2.1, x7.2.2.2.2.2.2.2.2.2.1, x7.2.2.2.2.2.2.2.2.2.2.1, x7.2.2.2.2.2.2.2.2.2.2.2.1, x7.2.2.2.2.2.2.2.2.2.2.2.2.1, x7.2.2.2.2.2.2.2.2.2.2.2.2.2.1, x7.2.2.2.2.2.2.2.2.2.2.2.2.2.2)) else if p1 = (1 : Int32) then bnd (α := (Nat → Int32)) (f_X12_store fu 1288 x7.2.2.2.2.2.2.2.2.2.2.2.1 o_weeks (161 : Int32) v9) (fun x16 => some (v9, (0 : Int32), x2, x7.2.1, x7.2.2.1, x14, o_towns, x16, o_logs, x7.2.2.2.1, x1, x7.2.2.2.2.1, x7.2.2.2.2.2.1, x7.2.2.2.2.2.2.1, x7.2.2.2.2.2.2.2.1, x7.2.2.2.2.2.2.2.2.1, x7.2.2.2.2.2.2.2.2.2.1, x7.2.2.2.2.2.2.2.2.2.2.1, x7.2.2.2.2.2.2.2.2.2.2.2.1, x7.2.2.2.2.2.2.2.2.2.2.2.2.1, x7.2.2.2.2.2.2.2.2.2.2.2.2.2.1, x7.2.2.2.2.2.2.2.2.2.2.2.2.2.2)) else bnd (α := (Nat → Int32)) (f_X12_store fu 200 x7.2.2.2.2.2.2.2.2.2.2.2.1 o_logs (25 : Int32) v9) (fun x17 => some (v9, (0 : Int32), x2, x7.2.1, x7.2.2.1, x14, o_towns, o_weeks, x17, x7.2.2.2.1, x1, x7.2.2.2.2.1, x7.2.2.2.2.2.1, x7.2.2.2.2.2.2.1, x7.2.2.2.2.2.2.2.1, x7.2.2.2.2.2.2.2.2.1, x7.2.2.2.2.2.2.2.2.2.1, x7.2.2.2.2.2.2.2.2.2.2.1, x7.2.2.2.2.2.2.2.2.2.2.2.1, x7.2.2.2.2.2.2.2.2.2.2.2.2.1, x7.2.2.2.2.2.2.2.2.2.2.2.2.2.1, x7.2.2.2.2.2.2.2.2.2.2.2.2.2.2))
section PLC
variable {fu j c v c' : Nat} {cn mn : FN} {p1 p2 : Int32} {code : Int32} {mt ms fl pl tw wk lo : FN} {rc len bg so mv wr mf mp far gd : Int32} {wd : Int64} {told rd : FN}
def takeC (cn : FN) (p1 p2 : Int32) : Option (Int32 × FN) := if p2 = (-1 : Int32) then bnd (rdi 3 cn p1) (fun x16 => bnd (rdi 3 cn p1) (fun x17 => ltn (x17 + (1 : Int32)) (fun x18 => bnd (wri 3 cn p1 x18) (fun x19 => some (x16, x19))))) else some (p2, cn)
theorem m1_no {v : Nat} (h : v < 100) : ¬ nI v = (-1 : Int32) := nI_nm1 (by omega)
theorem place_ex (hj : j < 3) (hc : c ≤ 2) (h1 : cn j = nI c) (h2 : mn j = nI c) (p2 : Int32) :
    (f_X8_hasPlaceFor fu cn (nI j) p2 = some 0 ∧ ((p2 = -1 ∧ c = 2) ∨ (¬ p2 = -1 ∧ f_X12_is fu mn (nI j) p2 = some 0))) ∨
    (∃ v c' cn', f_X8_hasPlaceFor fu cn (nI j) p2 = some 1 ∧ v < c' ∧ c' ≤ 2 ∧ (∀ u, u ≠ v → u < c' → u < c) ∧ takeC cn (nI j) p2 = some (nI v, cn') ∧ cn' j = nI c' ∧ (∀ i, i ≠ j → cn' i = cn i) ∧ ((p2 = -1 ∧ ¬ c = 2 ∧ v = c ∧ c' = c + 1) ∨ (¬ p2 = -1 ∧ f_X12_is fu mn (nI j) p2 = some 1 ∧ p2 = nI v ∧ c' = c))) := by
  have r3 : rdi 3 cn (nI j) = some (nI c) := rdi_n hj (by decide) h1
  have hp : f_X8_hasPlaceFor fu cn (nI j) p2 = if p2 = (-1 : Int32) then bnd (rdi 3 cn (nI j)) (fun x1 => if (2 : Int32) ≤ x1 then some 0 else some 1) else bnd (f_X8_holds fu cn (nI j) p2) (fun x2 => bnd (bz x2) (fun z3 => some z3)) := by
    unfold f_X8_hasPlaceFor
    rw [if_neg (nI_pos (by omega)), if_pos (show nI j ≤ (2 : Int32) from nI_le (b := 2) (by omega) (by decide))]
  rw [hp]
  by_cases e : p2 = -1
  · rw [if_pos e, r3, bnd_some]
    by_cases k : c = 2
    · rw [if_pos (show (2 : Int32) ≤ nI c by rw [k]; decide)]
      exact Or.inl ⟨rfl, Or.inl ⟨e, k⟩⟩
    · rw [if_neg (show ¬ (2 : Int32) ≤ nI c by rw [show (2 : Int32) = nI 2 from rfl]; exact nI_ge (by omega) (by decide))]
      refine Or.inr ⟨c, c + 1, upd cn j (nI (c + 1)), rfl, by omega, by omega, fun u q1 q2 => by omega, ?_, pk_us, fun i hi => pk_un hi, Or.inl ⟨e, k, rfl, rfl⟩⟩
      unfold takeC
      rw [if_pos e, r3, bnd_some, bnd_some]
      dsimp only [ltn]
      rw [nI_1, wri_n hj (by decide), bnd_some]
  · rw [if_neg e]
    rcases sel_is (fu := fu) hj hc h1 h2 p2 with ⟨v, v1, v2, v3, v4⟩ | ⟨v3, v4⟩
    · rw [v3, bnd_some]
      refine Or.inr ⟨v, c, cn, rfl, v1, hc, fun u _ q => q, ?_, h1, fun _ _ => rfl, Or.inr ⟨e, v4, v2, rfl⟩⟩
      unfold takeC
      rw [if_neg e, v2]
    · rw [v3, bnd_some]
      exact Or.inl ⟨rfl, Or.inr ⟨e, v4⟩⟩
theorem M_text (hj : j < 3) (h2 : mn j = nI c) (H : (p2 = -1 ∧ ¬ c = 2 ∧ c ≤ 2 ∧ v = c ∧ c' = c + 1) ∨ (¬ p2 = -1 ∧ f_X12_is fu mn (nI j) p2 = some 1 ∧ p2 = nI v ∧ c' = c)) : f_X12_text fu code mt ms fl pl mn tw wk lo rc len bg so mv wd wr mf mp told rd far gd (nI j) p2 = bnd (f_X12_readText fu mt (upd fl 0 0) (upd pl 0 (-1)) rc (ms 0) bg so mv wd wr mf mp told rd far gd (nI j)) (mCont fu mn tw wk lo (ms 0) (upd ms 0 0) (nI j) (nI v) (upd mn j (nI c'))) := by
  have r0 : rdi 4 ms 0 = some (ms 0) := rdi_n (k := 0) (by decide) (by decide) rfl
  have w0 : ∀ (z : FN) (x : Int32), wri 4 z 0 x = some (upd z 0 x) := fun z x => wri_n (k := 0) (by decide) (by decide)
  have r12 : rdi 12 mn (nI j) = some (nI c) := rdi_n (by omega) (by decide) h2
  have w12 : ∀ x : Int32, wri 12 mn (nI j) x = some (upd mn j x) := fun x => wri_n (by omega) (by decide)
  have hin : f_X12_in fu (nI j) 0 2 = some 1 := by
    unfold f_X12_in
    rw [if_neg (nI_pos (by omega)), if_neg (show ¬ (2 : Int32) < nI j by rw [show (2 : Int32) = nI 2 from rfl]; exact nI_nlt (by omega) (by decide))]
  unfold f_X12_text
  rw [r0, bnd_some, w0, bnd_some, w0, bnd_some, w0, bnd_some, hin, bnd_some, if_neg i10]
  rcases H with ⟨k1, k2, k3, k4, k5⟩ | ⟨k1, k2, k3, k4⟩
  · rw [if_pos k1, r12, bnd_some, if_neg (show ¬ nI c = (2 : Int32) from fun z => k2 ((nI_eq (b := 2) (by omega) (by decide)).1 z))]
    congr 1
    funext x7
    unfold mCont
    by_cases e : x7.1 = 0
    · rw [if_pos e, if_pos e]
    · rw [if_neg e, if_neg e, if_pos k1, bnd_some, if_pos k1, bnd_some, bnd_some, bnd_some]
      dsimp only [ltn]
      rw [nI_1, w12, bnd_some, k4, k5]
  · rw [if_neg k1, k2, bnd_some, if_neg i10]
    congr 1
    funext x7
    unfold mCont
    by_cases e : x7.1 = 0
    · rw [if_pos e, if_pos e]
    · rw [if_neg e, if_neg e, if_neg k1, bnd_some, r12, bnd_some, if_neg k1, bnd_some]
      dsimp only [ltn]
      rw [show nI c + 0 = nI c from Int32.add_zero _, w12, bnd_some, k3, k4]
theorem M_text0 (H : f_X12_in fu p1 0 2 = some 0 ∨ ∃ j c, p1 = nI j ∧ j < 3 ∧ mn j = nI c ∧ ((p2 = -1 ∧ c = 2) ∨ (¬ p2 = -1 ∧ f_X12_is fu mn (nI j) p2 = some 0))) : f_X12_text fu code mt ms fl pl mn tw wk lo rc len bg so mv wd wr mf mp told rd far gd p1 p2 = some (-2, 0, upd ms 0 0, upd fl 0 0, upd pl 0 (-1), mn, tw, wk, lo, rc, ms 0, bg, so, mv, wd, wr, mf, mp, told, rd, far, gd) := by
  have r0 : rdi 4 ms 0 = some (ms 0) := rdi_n (k := 0) (by decide) (by decide) rfl
  have w0 : ∀ (z : FN) (x : Int32), wri 4 z 0 x = some (upd z 0 x) := fun z x => wri_n (k := 0) (by decide) (by decide)
  unfold f_X12_text
  rw [r0, bnd_some, w0, bnd_some, w0, bnd_some, w0, bnd_some]
  rcases H with H | ⟨j, c, rfl, hj, h2, H⟩
  · rw [H, bnd_some, if_pos i00]
  · have r12 : rdi 12 mn (nI j) = some (nI c) := rdi_n (by omega) (by decide) h2
    have hin : f_X12_in fu (nI j) 0 2 = some 1 := by
      unfold f_X12_in
      rw [if_neg (nI_pos (by omega)), if_neg (show ¬ (2 : Int32) < nI j by rw [show (2 : Int32) = nI 2 from rfl]; exact nI_nlt (by omega) (by decide))]
    rw [hin, bnd_some, if_neg i10]
    rcases H with ⟨k1, k2⟩ | ⟨k1, k2⟩
    · rw [if_pos k1, r12, bnd_some, if_pos (by rw [k2]; rfl)]
    · rw [if_neg k1, k2, bnd_some, if_pos i00]
/-- what is told goes to its place -/
theorem store_ok {N w : Nat} {M : FN} (hw : w ≤ 161) (hv : v < 2) (hN : w * 2 ≤ N) (hN2 : N < 2 ^ 30) (hf : 1000 ≤ fu) : ∃ g, f_X12_store fu N told M (nI w) (nI v) = some g ∧ (∀ i, i < w → g (w * v + i) = told i) ∧ ∀ i, (i < w * v ∨ w * v + w ≤ i) → g i = M i := by
  have hb : w * v + w ≤ N := by
    have := Nat.mul_le_mul_left w (show v + 1 ≤ 2 by omega)
    rw [Nat.mul_succ] at this
    omega
  show ok (f_X12_store fu N told M (nI w) (nI v)) (fun g => (∀ i, i < w → g (w * v + i) = told i) ∧ ∀ i, (i < w * v ∨ w * v + w ≤ i) → g i = M i)
  unfold f_X12_store
  refine ok_bnd (ok_mono (ok_up (step := f_X12_store_L3 told (nI w) (nI v) N) (P := fun g => (∀ i, i < w → g (w * v + i) = told i) ∧ ∀ i, (i < w * v ∨ w * v + w ≤ i) → g i = M i) w (fun j st => st.1 = nI j ∧ (∀ i, i < j → st.2 (w * v + i) = told i) ∧ ∀ i, (i < w * v ∨ w * v + w ≤ i) → st.2 i = M i) ?_ ?_ w fu 0 _ (by omega) (by omega) ⟨rfl, fun i hi => absurd hi (Nat.not_lt_zero _), fun _ _ => rfl⟩) (fun g hg => ok_some hg))
  · rintro j ⟨x, g⟩ hj ⟨rfl, g1, g2⟩
    have g1 : ∀ i, i < j → g (w * v + i) = told i := g1
    have g2 : ∀ i, (i < w * v ∨ w * v + w ≤ i) → g i = M i := g2
    simp only [f_X12_store_L3]
    rw [if_neg (nI_ge hj (by omega)), rdi_n (show j < 161 by omega) (by decide) rfl, bnd_some, pk_mul, nI_add, wri_n (show w * v + j < N by omega) (by omega), bnd_some]
    refine ok_some ⟨nI_1 j, fun i hi => ?_, fun i hi => (pk_un (by omega)).trans (g2 i hi)⟩
    by_cases e : i = j
    · rw [e]; exact pk_us
    · exact (pk_un (by omega)).trans (g1 i (by omega))
  · rintro ⟨x, g⟩ ⟨rfl, g1, g2⟩
    simp only [f_X12_store_L3]
    rw [if_pos (nI_le (Nat.le_refl w) (by omega))]
    exact ok_some ⟨g1, g2⟩
end PLC
