/-! ===== a text, both sides ===== -/
abbrev RdT : Type := Int32 × FN × FN × FN × FN × Int32 × FN × Int32 × FN × Int32 × Int32 × FN × Int32 × Int32 × Int32 × Int32 × Int32 × Int32
abbrev RxT : Type := Int32 × FN × FN × Int32 × Int32 × Int32 × Int32 × Int64 × Int32 × Int32 × Int32 × FN × FN × Int32 × Int32
/-- what a good text tells, both sides -/
def CGd (p1 : Int32) (p : Int32) (w u h o : FN) (d : Int32) (c : FN) (e : Int32) (l : FN) (told : FN) : Prop :=
  (p1 = 0 → ∃ n w' pu h' o', TwV n w' pu h' o' ∧ TwC n w' pu h' o' p w u h o ∧ TwM n w' pu h' o' told 0) ∧ (p1 = 1 → ∃ m, WkR m d c told 0) ∧ (p1 = 2 → ∃ m, LgR m e l told 0)
def TOut (p1 : Int32) (fl pl : FN) (x : RdT) (y : RxT) : Prop :=
  (¬ x.2.2.2.2.2.2.2.2.2.1 = 0 ∧ y.1 = 0 ∧ y.2.1 = upd fl 0 x.2.2.2.2.2.2.2.2.2.1 ∧ y.2.2.1 = upd pl 0 x.2.2.2.2.2.2.2.2.2.2.1) ∨
  (x.2.2.2.2.2.2.2.2.2.1 = 0 ∧ x.2.2.2.2.2.2.2.2.2.2.1 = -1 ∧ y.1 = 1 ∧ y.2.1 = upd fl 0 0 ∧ y.2.2.1 = upd pl 0 (-1) ∧ CGd p1 x.1 x.2.1 x.2.2.1 x.2.2.2.1 x.2.2.2.2.1 x.2.2.2.2.2.1 x.2.2.2.2.2.2.1 x.2.2.2.2.2.2.2.1 x.2.2.2.2.2.2.2.2.1 y.2.2.2.2.2.2.2.2.2.2.2.1)
section RDT
variable {fu L : Nat} {B : Nat → Nat} {tape mt : FN} {p1 : Int32} {K : Int32 → KT → FN → Int32 → Prop} {p d e cf cp len nx st tk vl q : Int32} {wi pr ha ow c l num : FN} {fl pl : FN} {rc bg so mv wr mf mp far gd : Int32} {wd : Int64} {told rd : FN}
theorem zero_ok (hf : 200 ≤ fu) : ∃ t, lp f_X12_readText_L2 fu ((0 : Int32), told) = some t ∧ ∀ i, i < 161 → t i = 0 := by
  show ok (lp f_X12_readText_L2 fu ((0 : Int32), told)) (fun t => ∀ i, i < 161 → t i = 0)
  refine ok_up 161 (fun j st => st.1 = nI j ∧ ∀ i, i < j → st.2 i = 0) ?_ ?_ 161 fu 0 _ (by omega) (by omega) ⟨rfl, fun i hi => absurd hi (Nat.not_lt_zero _)⟩
  · rintro j ⟨x, t⟩ hj ⟨rfl, g⟩
    simp only [f_X12_readText_L2]
    rw [show (161 : Int32) = nI 161 from rfl, if_neg (nI_ge hj (by decide)), wri_n hj (by decide), bnd_some]
    refine ok_some ⟨nI_1 j, fun i hi => ?_⟩
    by_cases e : i = j
    · rw [e]; exact pk_us
    · exact (pk_un (by omega)).trans (g i (by omega))
  · rintro ⟨x, t⟩ ⟨rfl, g⟩
    simp only [f_X12_readText_L2]
    rw [show (161 : Int32) = nI 161 from rfl, if_pos (nI_le (Nat.le_refl _) (by decide))]
    exact ok_some g
theorem rbegin_ok (hL : L ≤ 600) (hf : 100 ≤ fu) : ∃ h0 o0, f_X5_begin fu p ha ow d e cf cp len nx q (nI L) = some (0, h0, o0, 0, 0, 0, -1, nI L, 0, 0) ∧ (∀ i, i < 6 → h0 i = 0) ∧ ∀ i, i < 36 → o0 i = 0 := by
  obtain ⟨h0, e1, h1⟩ := fill_ok (fu := fu) (N := 6) (f := ha) (v := 0) (by decide) (by omega)
  obtain ⟨o0, e2, h2⟩ := fill_ok (fu := fu) (N := 36) (f := ow) (v := 0) (by decide) (by omega)
  refine ⟨h0, o0, ?_, h1, h2⟩
  unfold f_X5_begin f_X9_clear
  rw [e1, bnd_some, e2, bnd_some, show (600 : Int32) = nI 600 from rfl, jmin_n (by omega) (by decide), Nat.min_eq_left hL]
  rfl
theorem J_read (hB : ∀ i, i < L → B i < 256 ∧ tape i = sbN (B i) ∧ mt i = sbN (B i)) (hL : L ≤ 600) (hf : 1000 ≤ fu)
    (hline : ∀ (i a b k v : Nat) (w : Int64) (cf cp mf mp p d e q vl ml wr far gd : Int32) (w0 u h o c l num told rd : FN), Tk fu tape mt L i a b k v w → k ≠ 0 → Ff i cf cp mf mp → K cf (p, w0, u, h, o, d, c, e, l, q) told far → LOut fu tape mt L i (f_X5_readLine fu p w0 u h o d c e l cf cp num tape (nI L) (nI b) (nI a) (nI k) vl q p1) (f_X12_allLines_L2 fu mt (nI L) p1 (1, nI b, nI a, nI (kM k), ml, w, wr, mf, mp, told, rd, far, gd)) K)
    (hK0 : ∀ h o t : FN, (∀ i, i < 6 → h i = 0) → (∀ i, i < 36 → o i = 0) → (∀ i, i < 161 → t i = 0) → K 0 (0, wi, pr, h, o, 0, c, 0, l, 0) t (-1))
    (hE : ∀ (p d e q : Int32) (w u h o c l told : FN) (far : Int32), K 0 (p, w, u, h, o, d, c, e, l, q) told far → (p1 = 0 → (jshr q p = 0 ↔ far < told 0)) ∧ ((p1 = 0 → far < told 0) → CGd p1 p w u h o d c e l told)) :
    ∃ x y, f_X5_read fu p wi pr ha ow d c e l cf cp num tape len nx st tk vl q p1 (nI L) = some x ∧ f_X12_readText fu mt fl pl rc (nI L) bg so mv wd wr mf mp told rd far gd p1 = some y ∧ TOut p1 fl pl x y := by
  have ht : ∀ i, i ≤ L → ∃ a b k v w, Tk fu tape mt L i a b k v w := fun i hi => tok hB hL hi hf
  obtain ⟨h0, o0, eb, h1, h2⟩ := rbegin_ok (fu := fu) (p := p) (ha := ha) (ow := ow) (d := d) (e := e) (cf := cf) (cp := cp) (len := len) (nx := nx) (q := q) hL (by omega)
  obtain ⟨t0, e3, h3⟩ := zero_ok (fu := fu) (told := told) (by omega)
  obtain ⟨a, b, k, v, w, T⟩ := ht 0 (Nat.zero_le _)
  obtain ⟨vc, c1, c2⟩ := T.2.2.2.2.2.2.1 st tk vl
  obtain ⟨vm, m1, m2⟩ := T.2.2.2.2.2.2.2.1 bg so mv wd
  have c1 : f_X5_takeToken fu tape (nI L) 0 st tk vl = some (nI b, nI a, nI k, vc) := c1
  have m1 : f_X12_token fu mt 0 (nI L) bg so mv wd = some (nI b, nI a, nI (kM k), vm, w) := m1
  have J := J_loop (fu := fu) (tape := tape) (mt := mt) (p1 := p1) (x1 := (0, h0, o0, 0, 0, 0, -1, nI L, 0, 0)) (K := K) rfl hL hline L 0 0 fu a b k v w 0 (-1) 0 mp 0 0 0 0 vc vm wr (-1) gd wi pr h0 o0 c l num t0 rd (by omega) (Nat.zero_le _) (Nat.le_refl _) (by omega) T (Or.inl ⟨rfl, rfl, rfl⟩) (hK0 h0 o0 t0 h1 h2 h3)
  have r0 : ∀ z : FN, rdi 4 z 0 = some (z 0) := fun z => rdi_n (k := 0) (by decide) (by decide) rfl
  have w0 : ∀ (z : FN) (x : Int32), wri 4 z 0 x = some (upd z 0 x) := fun z x => wri_n (k := 0) (by decide) (by decide)
  unfold f_X5_read f_X12_readText f_X12_allLines
  rw [eb, bnd_some]
  dsimp only
  rw [c1, bnd_some, e3, bnd_some, m1, bnd_some]
  dsimp only
  rcases J with ⟨a', y, s, l1, l2, l3, l4⟩ | ⟨j, a', b', v', w', p', w9, u', h', o', d', c', e', l', q', cf', cp', num', vl', vm', wr', mf', mp', told', rd', far', gd', j1, j2, j3, j4, j5, j6⟩
  · have l1 : lp (f_X5_read_L11 fu tape p1 (0, h0, o0, 0, 0, 0, -1, nI L, 0, 0)) fu ((0 : Int32), 0, wi, pr, h0, o0, 0, c, 0, l, 0, -1, num, nI b, nI a, nI k, vc, 0) = some y := l1
    rw [l1, bnd_some, l3, bnd_some, bz01 (Or.inl l4.1), bnd_some, bnd_some]
    dsimp only
    rw [if_neg (show ¬ y.2.2.2.2.2.2.2.2.2.1 = 0 by rw [l2.1]; exact i10), if_pos l4.1, bnd_some, if_pos l4.1, bnd_some, w0, bnd_some, if_pos l4.1, bnd_some, w0, bnd_some, r0, bnd_some]
    rw [if_neg (show ¬ upd fl 0 (1 : Int32) 0 = 0 by rw [pk_us]; exact i10)]
    refine ⟨_, _, rfl, rfl, Or.inl ⟨?_, rfl, ?_, ?_⟩⟩
    · show ¬ y.2.2.2.2.2.2.2.2.2.1 = 0
      rw [l2.1]; exact i10
    · show upd fl 0 1 = upd fl 0 y.2.2.2.2.2.2.2.2.2.1
      rw [l2.1]
    · show upd pl 0 s.2.2.2.2.2.2.1 = upd pl 0 y.2.2.2.2.2.2.2.2.2.2.1
      rw [l2.2, l4.2]
  · have j3 : lp (f_X5_read_L11 fu tape p1 (0, h0, o0, 0, 0, 0, -1, nI L, 0, 0)) fu ((0 : Int32), 0, wi, pr, h0, o0, 0, c, 0, l, 0, -1, num, nI b, nI a, nI k, vc, 0) = some (p', w9, u', h', o', d', c', e', l', cf', cp', num', nI b', nI a', 0, vl', q') := j3
    rw [j3, bnd_some, j4, bnd_some, bz01 (Or.inr rfl), bnd_some, bnd_some]
    dsimp only
    rw [if_neg i10]
    have aL : a' = L := tok_end hB hL j1 hf j2
    rcases j5 with ⟨f1, f2, f3⟩ | ⟨f, pp, f1, f2, f3, f4, f5, f6⟩
    · subst f1
      subst f2
      subst f3
      obtain ⟨g1, g2⟩ := hE _ _ _ _ _ _ _ _ _ _ _ _ j6
      rw [if_pos i00, if_pos i00]
      by_cases hp : p1 = 0
      · rw [if_pos hp, if_pos hp, show rdi 161 told' 0 = some (told' 0) from rdi_n (k := 0) (by decide) (by decide) rfl, bnd_some]
        by_cases hc : far' < told' 0
        · rw [if_pos ((g1 hp).2 hc), if_pos hc, bnd_some, if_neg i10, bnd_some, w0, bnd_some, if_neg i10, if_pos (show (0 : Int32) ≤ 0 by decide), bnd_some, w0, bnd_some, r0, bnd_some, if_pos (show upd fl 0 (0 : Int32) 0 = 0 from pk_us)]
          exact ⟨_, _, rfl, rfl, Or.inr ⟨rfl, rfl, rfl, rfl, rfl, g2 (fun _ => hc)⟩⟩
        · rw [if_neg (fun z => hc ((g1 hp).1 z)), if_neg hc]
          unfold f_X5_note f_X12_later
          rw [if_pos i00, bnd_some, if_pos i00, bnd_some, bnd_some]
          dsimp only
          rw [if_neg i10, bnd_some, w0, bnd_some, if_neg i10, if_neg (show ¬ (4 : Int32) ≤ 0 by decide), bnd_some, w0, bnd_some, r0, bnd_some, if_neg (show ¬ upd fl 0 (4 : Int32) 0 = 0 by rw [pk_us]; decide)]
          refine ⟨_, _, rfl, rfl, Or.inl ⟨?_, rfl, rfl, ?_⟩⟩
          · show ¬ (4 : Int32) = 0
            decide
          · show upd pl 0 (nI a') = upd pl 0 (nI L)
            rw [aL]
      · rw [if_neg hp, if_neg hp, bnd_some, if_neg i10, bnd_some, w0, bnd_some, if_neg i10, if_pos (show (0 : Int32) ≤ 0 by decide), bnd_some, w0, bnd_some, r0, bnd_some, if_pos (show upd fl 0 (0 : Int32) 0 = 0 from pk_us)]
        exact ⟨_, _, rfl, rfl, Or.inr ⟨rfl, rfl, rfl, rfl, rfl, g2 (fun z => absurd z hp)⟩⟩
    · have n0 : ¬ cf' = 0 := by rw [f2]; exact nI_ne0 (by omega) (by omega)
      have n1 : ¬ mf' = 0 := by rw [f3]; exact nI_ne0 (by omega) (by omega)
      have e1 : mf' = cf' := f3.trans f2.symm
      have e2 : mp' = cp' := f5.trans f4.symm
      subst e1
      subst e2
      have le : ¬ mf' ≤ 0 := by rw [f3]; exact fun z => by have := (nI_le0 (by omega)).1 z; omega
      have fin : ∀ {α : Type} (A Bq : α), (if p1 = 0 then if mf' = 0 then A else Bq else Bq) = Bq := by
        intro α A Bq
        by_cases hp : p1 = 0
        · rw [if_pos hp, if_neg n1]
        · rw [if_neg hp]
      rw [if_neg n1, fin, bnd_some, if_neg i10, bnd_some, w0, bnd_some, if_neg i10, if_neg le, bnd_some, w0, bnd_some, r0, bnd_some, if_neg (show ¬ upd fl 0 mf' 0 = 0 by rw [pk_us]; exact n1)]
      exact ⟨_, _, rfl, rfl, Or.inl ⟨n1, rfl, rfl, rfl⟩⟩
end RDT
