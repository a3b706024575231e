/-! ===== a step of the reference, from its line on; rows kept ===== -/
abbrev MLT : Type := Int32 × Int32 × Int32 × Int32 × Int32 × Int64 × Int32 × Int32 × Int32 × FN × FN × Int32 × Int32
/-- the line of one sort -/
def MLn (fu : Nat) (mt : FN) (L p1 rc bg so vl : Int32) (wd : Int64) (wr mf mp : Int32) (told rd : FN) (far : Int32) (w6 : Int64) : Option MLT :=
  if p1 = 0 then bnd (f_X12_townLine fu mt rc L bg so vl wd wr mf mp told rd far 1 w6 bg) (fun x => some (x.1, x.2.1, x.2.2.1, x.2.2.2.1, x.2.2.2.2.1, x.2.2.2.2.2.1, x.2.2.2.2.2.2.1, x.2.2.2.2.2.2.2.1, x.2.2.2.2.2.2.2.2.1, x.2.2.2.2.2.2.2.2.2.1, x.2.2.2.2.2.2.2.2.2.2.1, x.2.2.2.2.2.2.2.2.2.2.2.1, x.2.2.2.2.2.2.2.2.2.2.2.2))
  else if p1 = 1 then bnd (f_X12_weekLine fu mt rc L bg so vl wd wr mf mp told rd 1 w6 bg) (fun x => some (x.1, x.2.1, x.2.2.1, x.2.2.2.1, x.2.2.2.2.1, x.2.2.2.2.2.1, x.2.2.2.2.2.2.1, x.2.2.2.2.2.2.2.1, x.2.2.2.2.2.2.2.2.1, x.2.2.2.2.2.2.2.2.2.1, x.2.2.2.2.2.2.2.2.2.2.1, far, x.2.2.2.2.2.2.2.2.2.2.2))
  else bnd (f_X12_logLine fu mt rc L bg so vl wd wr mf mp told rd 1 w6 bg) (fun x => some (x.1, x.2.1, x.2.2.1, x.2.2.2.1, x.2.2.2.2.1, x.2.2.2.2.2.1, x.2.2.2.2.2.2.1, x.2.2.2.2.2.2.2.1, x.2.2.2.2.2.2.2.2.1, x.2.2.2.2.2.2.2.2.2.1, x.2.2.2.2.2.2.2.2.2.2.1, far, x.2.2.2.2.2.2.2.2.2.2.2))
section ML1
variable {fu L i a b : Nat} {tape mt : FN} {p1 rc bg so vl wr mf mp far gd rc1 bg1 so1 vl1 wr1 mf1 mp1 far1 gd1 : Int32} {wd wd1 w6 : Int64} {told rd told1 rd1 : FN}
def MStop (s : MLT) (a : Nat) : Prop := s.1 = 0 ∧ s.2.2.2.2.2.2.1 = nI a
theorem M_step0 {v8 : MLT} {a : Nat} (h0 : ¬ so = 0) (hw : (if so = 2 then some wd else some (0 : Int64)) = some w6) (h : MLn fu mt (nI L) p1 rc bg so vl wd wr mf mp told rd far w6 = some v8) (hv : MStop v8 a) : ∃ s, f_X12_allLines_L2 fu mt (nI L) p1 (1, rc, bg, so, vl, wd, wr, mf, mp, told, rd, far, gd) = some (.inl s) ∧ MStop s a := by
  simp only [f_X12_allLines_L2]
  rw [if_neg i10, if_neg h0, hw, bnd_some]
  show ∃ s, bnd (MLn fu mt (nI L) p1 rc bg so vl wd wr mf mp told rd far w6) _ = _ ∧ _
  rw [h, bnd_some, if_pos hv.1, bnd_some, if_pos hv.1]
  exact ⟨_, rfl, hv.1, hv.2⟩
theorem M_step1 {k v : Nat} {w : Int64} (T : Tk fu tape mt L i a b k v w) (h0 : ¬ so = 0) (hw : (if so = 2 then some wd else some (0 : Int64)) = some w6) (h : MLn fu mt (nI L) p1 rc bg so vl wd wr mf mp told rd far w6 = some (1, nI b, nI a, nI (kM k), vl1, wd1, wr1, mf1, mp1, told1, rd1, far1, gd1)) :
    (k ≠ 3 → ∃ s, f_X12_allLines_L2 fu mt (nI L) p1 (1, rc, bg, so, vl, wd, wr, mf, mp, told, rd, far, gd) = some (.inl s) ∧ MStop s a) ∧
    (k = 3 → ∀ a' b' k' v' w', Tk fu tape mt L b a' b' k' v' w' → ∃ vm, (k' = 2 → vm = nI v') ∧ f_X12_allLines_L2 fu mt (nI L) p1 (1, rc, bg, so, vl, wd, wr, mf, mp, told, rd, far, gd) = some (.inl (1, nI b', nI a', nI (kM k'), vm, w', wr1, mf1, mp1, told1, rd1, far1, gd1))) := by
  have t4 := T.2.2.2.1
  have key : f_X12_allLines_L2 fu mt (nI L) p1 (1, rc, bg, so, vl, wd, wr, mf, mp, told, rd, far, gd) = bnd (MLn fu mt (nI L) p1 rc bg so vl wd wr mf mp told rd far w6) (fun v8 => bnd (if v8.1 = 0 then some (v8.1, v8.2.2.2.2.2.2.1) else if v8.2.2.2.1 = (4 : Int32) then some (v8.1, v8.2.2.2.2.2.2.1) else bnd (f_X12_fails fu v8.2.2.1 v8.2.2.2.2.2.2.1) (fun x12 => some (x12.1, x12.2))) (fun v10 => if v10.1 = 0 then some (.inl (v10.1, v8.2.1, v8.2.2.1, v8.2.2.2.1, v8.2.2.2.2.1, v8.2.2.2.2.2.1, v10.2, v8.2.2.2.2.2.2.2.1, v8.2.2.2.2.2.2.2.2.1, v8.2.2.2.2.2.2.2.2.2.1, v8.2.2.2.2.2.2.2.2.2.2.1, v8.2.2.2.2.2.2.2.2.2.2.2.1, v8.2.2.2.2.2.2.2.2.2.2.2.2)) else bnd (f_X12_token fu mt v8.2.1 (nI L) v8.2.2.1 v8.2.2.2.1 v8.2.2.2.2.1 v8.2.2.2.2.2.1) (fun x11 => some (.inl (v10.1, x11.1, x11.2.1, x11.2.2.1, x11.2.2.2.1, x11.2.2.2.2, v10.2, v8.2.2.2.2.2.2.2.1, v8.2.2.2.2.2.2.2.2.1, v8.2.2.2.2.2.2.2.2.2.1, v8.2.2.2.2.2.2.2.2.2.2.1, v8.2.2.2.2.2.2.2.2.2.2.2.1, v8.2.2.2.2.2.2.2.2.2.2.2.2))))) := by
    simp only [f_X12_allLines_L2]
    rw [if_neg i10, if_neg h0, hw, bnd_some]
    rfl
  rw [key, h, bnd_some, if_neg i10]
  refine ⟨fun hk => ?_, fun hk a' b' k' v' w' T' => ?_⟩
  · rw [if_neg (show ¬ nI (kM k) = (4 : Int32) from fun z => hk ((kM_4 k t4).1 z))]
    exact ⟨_, rfl, rfl, rfl⟩
  · obtain ⟨vm, g1, g2⟩ := T'.2.2.2.2.2.2.2.1 (nI a) (nI (kM k)) vl1 wd1
    refine ⟨vm, g2, ?_⟩
    rw [if_pos (show nI (kM k) = (4 : Int32) from (kM_4 k t4).2 hk), bnd_some, if_neg i10]
    dsimp only
    rw [g1, bnd_some]
/-- a row of the reference is kept -/
theorem keepRow_ok {n cap p : Nat} (h0 : told 0 = nI n) (hn : n ≤ cap) (hp : p ≤ 4) (hc : p * cap ≤ 160) (hc2 : cap < 100) (hf : 100 ≤ fu) : ∃ told', f_X12_keepRow fu told rd (nI p) (nI cap) = some told' ∧ (n = cap → told' = told) ∧ (n < cap → told' 0 = nI (n + 1) ∧ (∀ q, q < p → told' (1 + p * n + q) = rd q) ∧ ∀ j, 0 < j → j < 1 + p * n → told' j = told j) := by
  unfold f_X12_keepRow
  rw [show rdi 161 told 0 = some (nI n) from rdi_n (k := 0) (by decide) (by decide) h0, bnd_some]
  by_cases c : n = cap
  · rw [if_pos (by rw [c])]
    exact ⟨told, rfl, fun _ => rfl, fun h => by omega⟩
  · rw [if_neg (fun z => c ((nI_eq (by omega) (by omega)).1 z))]
    have hpn : p * n + p ≤ 160 := by
      have := Nat.mul_le_mul_left p (show n + 1 ≤ cap by omega)
      rw [Nat.mul_succ] at this
      omega
    have key := lp_up (step := f_X12_keepRow_L16 rd (nI p) (nI n)) (fun j (t : FN) => (nI j, t)) (fun j t => upd t (1 + p * n + j) (rd j)) p (fun t => t) (fun j t => (∀ q, q < j → t (1 + p * n + q) = rd q) ∧ ∀ j, j < 1 + p * n → t j = told j) (fun j t hj ht => by
        refine ⟨?_, ?_, ?_⟩
        · simp only [f_X12_keepRow_L16]
          rw [if_neg (nI_ge hj (by omega)), rdi_n (show j < 4 by omega) (by decide) rfl, bnd_some, pk_mul, show (1 : Int32) = nI 1 from rfl, nI_add, nI_add, wri_n (show 1 + p * n + j < 161 by omega) (by decide), bnd_some, nI_add]
        · intro q hq
          by_cases e : q = j
          · rw [e]; exact pk_us
          · rw [pk_un (by omega)]; exact ht.1 q (by omega)
        · intro q hq
          rw [pk_un (by omega)]; exact ht.2 q hq) (fun t _ => by
        simp only [f_X12_keepRow_L16]
        rw [if_pos (nI_le (Nat.le_refl _) (by omega))]) p fu 0 told (by omega) (by omega) ⟨fun q hq => by omega, fun _ _ => rfl⟩
    obtain ⟨k1, k2, k3⟩ := key
    generalize fldN (fun j t => upd t (1 + p * n + j) (rd j)) 0 p told = t1 at k1 k2 k3
    have k1 : lp (f_X12_keepRow_L16 rd (nI p) (nI n)) fu ((0 : Int32), told) = some t1 := k1
    rw [k1, bnd_some]
    dsimp only [ltn]
    rw [show rdi 161 t1 0 = some (nI n) from rdi_n (k := 0) (by decide) (by decide) ((k3 0 (by omega)).trans h0), bnd_some, nI_1, show wri 161 t1 0 (nI (n + 1)) = some (upd t1 0 (nI (n + 1))) from wri_n (k := 0) (by decide) (by decide), bnd_some]
    refine ⟨_, rfl, fun h => absurd h c, fun _ => ⟨pk_us, fun q hq => ?_, fun j h1 h2 => ?_⟩⟩
    · rw [pk_un (by omega)]; exact k2 q hq
    · rw [pk_un (by omega)]; exact k3 j h2
end ML1
