/-! ===== fits, share, fewest: town and log laid out ===== -/
abbrev LT : Type := Int32 × Int32 × Int32 × Int32 × Int32 × Int32 × Int32 × Int32 × Int32 × Int32 × FN × FN × FN × FN × FN × Int32 × FN × Int32
section LAL
variable {fu n t lg f : Nat} {w pu h o kd A B : Nat → Nat} {M Lo many fi : FN} {a1 a2 a3 a4 a5 a6 a7 a8 a9 a10 fo : Int32} {b1 b2 b3 b4 b5 : FN}
theorem ok_layLog (hT : TwM n w pu h o M (55 * t)) (ht : t < 2) (his : f_X12_is fu many 0 (nI t) = some 1) (hlg : ∀ z, f_X12_hasLog fu many z (nI lg) = some (1, nI lg)) (L : LgM f lg kd A B Lo) (K : ∀ j, j < f → kd j < 2 ∧ A j < 6 ∧ B j < 6) (h8 : f ≤ 8) (hl : lg < 8) (h64' : ∀ i, i < 6 → h i < 64) (hn : n ≤ 6) (hf : 100 ≤ fu) : ok (f_X12_layLog fu many M Lo a1 a2 a3 a4 a5 a6 a7 a8 a9 b1 b2 b3 b4 b5 a10 fi fo (nI t) (nI lg)) (fun z => z.1 = 1 ∧ z.2.2.1 = nI n ∧ inL z.2.2.2.2.2.2.2.2.2.2.2.2.2.2.2.2.2 z.2.2.2.2.2.2.2.2.2.2.2.2.2.2.2.2.1 (lsN n (ftN n h f kd A B))) := by
  unfold f_X12_layLog
  refine ok_bnd (ok_eq (hlg _) ?_)
  rw [if_neg i10]
  refine ok_bnd (ok_mono (ok_hand hT ht his hf) ?_)
  intro y hy
  rw [if_neg (by rw [hy.1]; exact i10)]
  refine ok_bnd (ok_mono (ok_layLoop (x1 := ((1 : Int32), nI lg)) hy rfl L K h8 hl hT.2.2.2.1 h64' (by omega) hn hf) ?_)
  intro v hv
  exact ok_some ⟨rfl, hy.2.2.1, hv⟩
theorem no_layLog1 {x1 x2 : Int32} (hlg : ∀ z, f_X12_hasLog fu many z x2 = some (0, x2)) : ok (f_X12_layLog fu many M Lo a1 a2 a3 a4 a5 a6 a7 a8 a9 b1 b2 b3 b4 b5 a10 fi fo x1 x2) (fun z => z.1 = 0) := by
  unfold f_X12_layLog
  refine ok_bnd (ok_eq (hlg _) ?_)
  rw [if_pos i00]
  exact ok_some rfl
theorem no_layLog2 {x1 x2 : Int32} (hlg : ∀ z, f_X12_hasLog fu many z x2 = some (1, x2)) (his : f_X12_is fu many 0 x1 = some 0) : ok (f_X12_layLog fu many M Lo a1 a2 a3 a4 a5 a6 a7 a8 a9 b1 b2 b3 b4 b5 a10 fi fo x1 x2) (fun z => z.1 = 0) := by
  unfold f_X12_layLog
  refine ok_bnd (ok_eq (hlg _) ?_)
  rw [if_neg i10]
  refine ok_bnd (ok_mono (no_hand his) ?_)
  intro y hy
  rw [if_pos hy]
  exact ok_some rfl
end LAL
def tvN (n : Nat) (x : NL) (p : Int32) : Int32 := if p = 0 then nI x.1 else if p = 1 then suN x else if p = 2 then eW1 (waN n x) else if p < 10 then -2 else if nI x.1 ≤ p - 10 then -2 else nI (x.2 (p - 10).toNatClampNeg)
theorem p_ten {x : NL} {p : Int32} (h1 : ¬ p < 10) (h2 : ¬ nI x.1 ≤ p - 10) (hl : x.1 ≤ 186) : (p - 10).toNatClampNeg < x.1 ∧ p - 10 = nI (p - 10).toNatClampNeg := by
  have t10 : (10 : Int32).toInt = 10 := rfl
  rw [fa_lt, t10] at h1
  have hr := Int32.toInt_lt p
  have e : (p - 10).toInt = p.toInt - 10 := by
    rw [Int32.toInt_sub, t10, Int.bmod_eq_of_le (by omega) (by omega)]
  rw [fa_le, nI_toInt (by omega), e] at h2
  have h3 : ¬ p - 10 < 0 := by rw [fa_lt, e]; have : (0 : Int32).toInt = 0 := rfl; omega
  obtain ⟨j, hj, ej⟩ := nI_of h3
  rw [ej] at e ⊢
  rw [nI_toInt hj] at e
  rw [nI_clamp hj]
  exact ⟨by omega, rfl⟩
theorem e_X7_tell {fu n : Nat} {x : NL} {ar : FN} {p : Int32} (hn : n ≤ 6) (h : okL n n 0 x) (hr : ∀ i, i < x.1 → ar i = nI (x.2 i)) (hf : 1000 ≤ fu) : f_X7_tell fu (nI x.1) (nI n) ar p = some (tvN n x p) := by
  have l := okL_186 hn h
  unfold f_X7_tell tvN
  by_cases q0 : p = 0
  · rw [if_pos q0, if_pos q0]
  · rw [if_neg q0, if_neg q0]
    by_cases q1 : p = 1
    · rw [if_pos q1, if_pos q1, e_X7_sure hn h hr, bnd_some]
    · rw [if_neg q1, if_neg q1]
      by_cases q2 : p = 2
      · rw [if_pos q2, if_pos q2, e_X7_watch hn h hr hf, bnd_some]
      · rw [if_neg q2, if_neg q2]
        by_cases q3 : p < 10
        · rw [if_pos q3, if_pos q3]
        · rw [if_neg q3, if_neg q3]
          by_cases q4 : nI x.1 ≤ p - 10
          · rw [if_pos q4, if_pos q4]
          · rw [if_neg q4, if_neg q4]
            obtain ⟨e1, e2⟩ := p_ten q3 q4 l
            have r : rdi 186 ar (p - 10) = some (nI (x.2 (p - 10).toNatClampNeg)) := by
              rw [e2, nI_clamp (by omega)]
              exact rdi_n (by omega) (by decide) (hr _ e1)
            rw [r, bnd_some]
theorem rd192 {x : NL} {br : FN} {p : Int32} (hr : ∀ i, i < x.1 → br i = nI (x.2 i)) (h1 : ¬ p < 10) (h2 : ¬ nI x.1 ≤ p - 10) (hl : x.1 ≤ 186) : rdi 192 br (p - 10) = some (nI (x.2 (p - 10).toNatClampNeg)) := by
  obtain ⟨e1, e2⟩ := p_ten h1 h2 hl
  rw [e2, nI_clamp (by omega)]
  exact rdi_n (by omega) (by decide) (hr _ e1)
theorem lt10_012 {p : Int32} (h : ¬ p < 10) : ¬ p = 0 ∧ ¬ p = 1 ∧ ¬ p = 2 := by
  refine ⟨?_, ?_, ?_⟩ <;> intro e <;> rw [e] at h <;> exact h (by decide)
