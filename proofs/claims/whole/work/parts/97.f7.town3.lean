/-! ===== any line of a town, both sides ===== -/
section TWL
variable {fu L i a b k v : Nat} {w : Int64} {tape mt : FN} {cf cp mf mp : Int32} {p0 d0 e0 q0 : Int32} {w0 u0 h0 o0 c0 l0 num : FN} {vl ml wr far gd : Int32} {told rd : FN}
theorem lg_eq0 {a b : Int64} (h : lg_cmp a b = 0) : a = b := by
  unfold lg_cmp at h
  by_cases c : b < a
  · rw [if_pos c] at h; exact absurd h (by decide)
  · rw [if_neg c] at h
    by_cases e : a = b
    · exact e
    · rw [if_neg e] at h; exact absurd h (by decide)
theorem J_town (ht : ∀ i, i ≤ L → ∃ a b k v w, Tk fu tape mt L i a b k v w) (hL : L ≤ 600) (T : Tk fu tape mt L i a b k v w) (hk : k ≠ 0) (F : Ff i cf cp mf mp) (x0 : KT) (he : x0 = (p0, w0, u0, h0, o0, d0, c0, e0, l0, q0)) (hK : KTw cf x0 told far) (hf : 1000 ≤ fu) :
    LOut fu tape mt L i (f_X5_readLine fu p0 w0 u0 h0 o0 d0 c0 e0 l0 cf cp num tape (nI L) (nI b) (nI a) (nI k) vl q0 0) (f_X12_allLines_L2 fu mt (nI L) 0 (1, nI b, nI a, nI (kM k), ml, w, wr, mf, mp, told, rd, far, gd)) KTw := by
  subst he
  obtain ⟨n, k1, k2, k3⟩ := hK
  have T0 := T
  obtain ⟨t1, t2, t3, t4, t5, t6, t7, t8, t9⟩ := T0
  have ns : ¬ nI (kM k) = 0 := fun z => hk ((kM_0 k t4).1 z)
  have stop : f_X5_formOf fu tape (nI b) (nI a) (nI k) 0 = some (-1) → ∀ w6, (if nI (kM k) = 2 then some w else some (0 : Int64)) = some w6 → ¬ lg_cmp w6 (lN (wC 0)) = 0 → ¬ lg_cmp w6 (lN (wC 1)) = 0 → ¬ lg_cmp w6 (lN (wC 2)) = 0 → LOut fu tape mt L i (f_X5_readLine fu p0 w0 u0 h0 o0 d0 c0 e0 l0 cf cp num tape (nI L) (nI b) (nI a) (nI k) vl q0 0) (f_X12_allLines_L2 fu mt (nI L) 0 (1, nI b, nI a, nI (kM k), ml, w, wr, mf, mp, told, rd, far, gd)) KTw := by
    intro e w6 hw y0 y1 y2
    obtain ⟨y, c1, c2⟩ := C_noform (fu := fu) (L := L) (p0 := p0) (w0 := w0) (u0 := u0) (h0 := h0) (o0 := o0) (d0 := d0) (c0 := c0) (e0 := e0) (l0 := l0) (cf := cf) (cp := cp) (num := num) (vl := vl) (q0 := q0) e
    obtain ⟨z, z1, z2⟩ := T_fail (fu := fu) (L := L) (a := a) (mt := mt) (rc := nI b) (so := nI (kM k)) (ml := ml) (wd := w) (wr := wr) (mf := mf) (mp := mp) (told := told) (rd := rd) (far := far) y0 y1 y2
    obtain ⟨s, m1, m2⟩ := M_step0 (gd := gd) ns hw z1 z2
    exact Or.inl ⟨a, y, s, c1, c2, m1, m2⟩
  by_cases c : k = 1
  · have fo : f_X5_formOf fu tape (nI b) (nI a) (nI k) 0 = bnd (f_X5_formOfTown fu tape (nI b) (nI a)) (fun x1 => some x1) := by
      unfold f_X5_formOf
      rw [if_pos ((kC_1 k t4).2 c), if_pos rfl]
    unfold f_X5_formOfTown at fo
    have W := t9 c
    rcases W 0 (by decide) with ⟨y1, y2⟩ | ⟨y1, y2⟩
    · exact J_town_P ht hL T c F k1 k2 k3 hf (by rw [fo, y1, bnd_some, if_neg i10]; rfl) y2
    · rcases W 1 (by decide) with ⟨r1, r2⟩ | ⟨r1, r2⟩
      · exact J_town_H ht hL T c F k1 k2 k3 hf (by rw [fo, y1, bnd_some, if_pos i00, r1, bnd_some, if_neg i10]; rfl) y2 r2 (by rw [lg_eq0 r2]; decide)
      · rcases W 2 (by decide) with ⟨s1, s2⟩ | ⟨s1, s2⟩
        · exact J_town_O ht hL T c F k1 k2 k3 hf (by rw [fo, y1, bnd_some, if_pos i00, r1, bnd_some, if_pos i00, s1, bnd_some, if_neg i10]; rfl) y2 r2 s2
        · exact stop (by rw [fo, y1, bnd_some, if_pos i00, r1, bnd_some, if_pos i00, s1, bnd_some, if_pos i00]; rfl) w (by rw [if_pos ((kM_2 k t4).2 c)]) y2 r2 s2
  · exact stop (by unfold f_X5_formOf; rw [if_neg (fun z => c ((kC_1 k t4).1 z))]) 0 (by rw [if_neg (fun z => c ((kM_2 k t4).1 z))]) (by decide) (by decide) (by decide)
end TWL
