/-! ===== both take the same token ===== -/
theorem sb10 {b : Nat} (h : b < 256) : sbN b = 10 ↔ b = 10 := sb_eq 10 (by decide) b h
theorem n10 {b : Nat} (h : b < 256) : nI b = 10 ↔ b = 10 := nI_eq (b := 10) (by omega) (by decide)
theorem sb32 {b : Nat} (h : b < 256) : sbN b = 32 ↔ b = 32 := sb_eq 32 (by decide) b h
theorem n32 {b : Nat} (h : b < 256) : nI b = 32 ↔ b = 32 := nI_eq (b := 32) (by omega) (by decide)
theorem sb59 {b : Nat} (h : b < 256) : sbN b = 59 ↔ b = 59 := sb_eq 59 (by decide) b h
theorem n59 {b : Nat} (h : b < 256) : nI b = 59 ↔ b = 59 := nI_eq (b := 59) (by omega) (by decide)
section TK2
variable {fu L : Nat} {B : Nat → Nat} {tape mt : FN}
abbrev wsp (B : Nat → Nat) (q : Nat) : Prop := B q = 10 ∨ B q = 32
abbrev ltr (B : Nat → Nat) (q : Nat) : Prop := 97 ≤ B q ∧ B q ≤ 122
abbrev dgt (B : Nat → Nat) (q : Nat) : Prop := 48 ≤ B q ∧ B q ≤ 57
theorem e_skipC (hB : ∀ i, i < L → B i < 256 ∧ tape i = sbN (B i)) (hL : L ≤ 600) {i a : Nat} (hia : i ≤ a) (haL : a ≤ L) (hw : ∀ q, i ≤ q → q < a → wsp B q) (he : a < L → ¬ wsp B a) (hf : 1000 ≤ fu) : lp (f_X5_takeToken_L0 tape (nI L)) fu (nI i) = some (nI a) := by
  refine lp_rg (r := nI a) a hia (fun q h1 h2 => ?_) ?_ (by omega)
  · obtain ⟨b1, b2⟩ := hB q (by omega)
    simp only [f_X5_takeToken_L0]
    rw [if_neg (nI_ge (show q < L by omega) (by omega)), rdi_n (show q < 600 by omega) (by decide) b2, bnd_some, bnd_some]
    dsimp only [ltn]
    rw [nI_1]
    rcases hw q h1 h2 with z | z
    · rw [if_pos ((sb10 b1).2 z)]
    · rw [if_neg (fun u => by have := (sb10 b1).1 u; omega), if_pos ((sb32 b1).2 z)]
  · simp only [f_X5_takeToken_L0]
    by_cases c : a < L
    · obtain ⟨b1, b2⟩ := hB a c
      have n := he c
      rw [if_neg (nI_ge c (by omega)), rdi_n (show a < 600 by omega) (by decide) b2, bnd_some, bnd_some, if_neg (fun u => n (Or.inl ((sb10 b1).1 u))), if_neg (fun u => n (Or.inr ((sb32 b1).1 u)))]
    · rw [if_pos (nI_le (by omega) (by omega))]
theorem e_skipM (hB : ∀ i, i < L → B i < 256 ∧ mt i = sbN (B i)) (hL : L ≤ 600) {i a : Nat} (hia : i ≤ a) (haL : a ≤ L) (hw : ∀ q, i ≤ q → q < a → wsp B q) (he : a < L → ¬ wsp B a) (hf : 1000 ≤ fu) : lp (f_X12_token_L0 fu mt (nI L)) fu (nI i) = some (nI a) := by
  refine lp_rg (r := nI a) a hia (fun q h1 h2 => ?_) ?_ (by omega)
  · obtain ⟨b1, b2⟩ := hB q (by omega)
    simp only [f_X12_token_L0]
    rw [e_see hB hL (by omega), if_pos (show q < L by omega), bnd_some, bnd_some]
    dsimp only [ltn]
    rw [nI_1]
    rcases hw q h1 h2 with z | z
    · rw [if_pos (by rw [z]; rfl)]
    · rw [if_neg (by rw [z]; decide), if_pos (by rw [z]; rfl)]
  · simp only [f_X12_token_L0]
    rw [e_see hB hL haL, bnd_some, bnd_some]
    by_cases c : a < L
    · have b1 := (hB a c).1
      have n := he c
      rw [if_pos c, if_neg (fun u => n (Or.inl ((n10 b1).1 u))), if_neg (fun u => n (Or.inr ((n32 b1).1 u)))]
    · rw [if_neg c, if_neg (by decide), if_neg (by decide)]
theorem e_takeWord (hB : ∀ i, i < L → B i < 256 ∧ tape i = sbN (B i)) (hL : L ≤ 600) {a b : Nat} {tk : Int32} (hab : a ≤ b) (hb : b ≤ L) (hw : ∀ q, a ≤ q → q < b → ltr B q) (he : b < L → ¬ ltr B b) (hf : 1000 ≤ fu) : f_X5_takeWord fu tape (nI L) (nI a) tk = some (nI b, 1) := by
  unfold f_X5_takeWord
  have key : lp (f_X5_takeWord_L0 fu tape (nI L)) fu (nI a) = some (nI b) := by
    refine lp_rg (r := nI b) b hab (fun q h1 h2 => ?_) ?_ (by omega)
    · obtain ⟨b1, b2⟩ := hB q (by omega)
      simp only [f_X5_takeWord_L0]
      rw [if_neg (nI_ge (show q < L by omega) (by omega)), rdi_n (show q < 600 by omega) (by decide) b2, bnd_some, show f_X5_isLetter fu (sbN (B q)) = _ from sb_let (B q) b1, bnd_some, if_pos (hw q h1 h2), if_neg i10]
      dsimp only [ltn]
      rw [nI_1]
    · simp only [f_X5_takeWord_L0]
      by_cases c : b < L
      · obtain ⟨b1, b2⟩ := hB b c
        rw [if_neg (nI_ge c (by omega)), rdi_n (show b < 600 by omega) (by decide) b2, bnd_some, show f_X5_isLetter fu (sbN (B b)) = _ from sb_let (B b) b1, bnd_some, if_neg (he c), if_pos i00]
      · rw [if_pos (nI_le (by omega) (by omega))]
  rw [key, bnd_some]
theorem ok_wordM (hB : ∀ i, i < L → B i < 256 ∧ mt i = sbN (B i)) (hL : L ≤ 600) {a b : Nat} (hab : a ≤ b) (hb : b ≤ L) (hw : ∀ q, a ≤ q → q < b → ltr B q) (he : b < L → ¬ ltr B b) (hf : 1000 ≤ fu) : ok (lp (f_X12_token_L74 fu mt (nI L)) fu ((0 : Int32), nI a, (0 : Int64))) (fun v => v.1 = nI (b - a) ∧ v.2.1 = nI b ∧ (b - a ≤ 8 → v.2.2 = lN (numk 256 (fun q => B (a + q)) (b - a)))) := by
  refine ok_up (b - a) (fun k st => st.1 = nI k ∧ st.2.1 = nI (a + k) ∧ (k ≤ 8 → st.2.2 = lN (numk 256 (fun q => B (a + q)) k))) ?_ ?_ (b - a) fu 0 _ (by omega) (by omega) ⟨rfl, rfl, fun _ => rfl⟩
  · rintro k ⟨n, p, w⟩ hk ⟨rfl, rfl, g⟩
    have g : k ≤ 8 → w = lN (numk 256 (fun q => B (a + q)) k) := g
    have b1 := (hB (a + k) (by omega)).1
    simp only [f_X12_token_L74]
    rw [e_see hB hL (by omega), if_pos (show a + k < L by omega), bnd_some, show f_X12_in fu (nI (B (a + k))) 97 122 = _ from in_let _ b1, bnd_some, if_pos (hw (a + k) (by omega) (by omega)), if_neg i10, bnd_some]
    refine ok_ltn (ok_ltn (ok_some ⟨nI_1 k, nI_1 (a + k), fun h8 => ?_⟩))
    show jshll w 8 ||| (nI (B (a + k))).toInt64 = _
    rw [g (by omega), nI_l (by omega), lg_or8 _ _ b1, numk_succ]
  · rintro ⟨n, p, w⟩ ⟨rfl, rfl, g⟩
    simp only [f_X12_token_L74]
    rw [show a + (b - a) = b by omega, e_see hB hL hb, bnd_some]
    by_cases c : b < L
    · have b1 := (hB b c).1
      rw [if_pos c, show f_X12_in fu (nI (B b)) 97 122 = _ from in_let _ b1, bnd_some, if_neg (he c), if_pos i00]
      exact ok_some ⟨rfl, rfl, g⟩
    · rw [if_neg c, show f_X12_in fu (-1) 97 122 = _ from in_m1.1, bnd_some, if_pos i00]
      exact ok_some ⟨rfl, rfl, g⟩
/-- a number's value, up to two digits -/
def nv (B : Nat → Nat) (a k : Nat) : Nat := fldN (fun q x => 10 * x + (B (a + q) - 48)) 0 k 0
theorem nv_succ {a k : Nat} : nv B a (k + 1) = 10 * nv B a k + (B (a + k) - 48) := by
  unfold nv
  rw [fldN_succ, Nat.zero_add]
theorem nv_le {a : Nat} (hd : ∀ q, q < 2 → B (a + q) ≤ 57) : nv B a 1 ≤ 9 ∧ nv B a 2 ≤ 99 := by
  have h0 := hd 0 (by decide)
  have h1 := hd 1 (by decide)
  have e0 : nv B a 0 = 0 := rfl
  have e1 : nv B a 1 = 10 * nv B a 0 + (B (a + 0) - 48) := nv_succ
  have e2 : nv B a 2 = 10 * nv B a 1 + (B (a + 1) - 48) := nv_succ
  omega
theorem ok_numC (hB : ∀ i, i < L → B i < 256 ∧ tape i = sbN (B i)) (hL : L ≤ 600) {a b : Nat} (hab : a ≤ b) (hb : b ≤ L) (hw : ∀ q, a ≤ q → q < b → dgt B q) (he : b < L → ¬ dgt B b) (hf : 1000 ≤ fu) : ok (lp (f_X5_takeNumber_L5 fu tape (nI L)) fu (nI a, (0 : Int32))) (fun v => v.1 = nI b ∧ (b - a ≤ 2 → v.2 = nI (nv B a (b - a)))) := by
  refine ok_up (b - a) (fun k st => st.1 = nI (a + k) ∧ (k ≤ 2 → st.2 = nI (nv B a k))) ?_ ?_ (b - a) fu 0 _ (by omega) (by omega) ⟨rfl, fun _ => rfl⟩
  · rintro k ⟨p, w⟩ hk ⟨rfl, g⟩
    have g : k ≤ 2 → w = nI (nv B a k) := g
    obtain ⟨b1, b2⟩ := hB (a + k) (by omega)
    have d := hw (a + k) (by omega) (by omega)
    simp only [f_X5_takeNumber_L5]
    rw [if_neg (nI_ge (show a + k < L by omega) (by omega)), rdi_n (show a + k < 600 by omega) (by decide) b2, bnd_some, show f_X5_isDigit fu (sbN (B (a + k))) = _ from sb_dig _ b1, bnd_some, if_pos d, if_neg i10, bnd_some]
    refine ok_ltn (ok_ltn (ok_some ⟨nI_1 (a + k), fun h2 => ?_⟩))
    have k1 : k ≤ 1 := by omega
    have vl : nv B a k ≤ 9 := by
      rcases (show k = 0 ∨ k = 1 by omega) with z | z
      · rw [z]; exact Nat.zero_le _
      · rw [z]
        have e1 := nv_succ (B := B) (a := a) (k := 0)
        have e0 : nv B a 0 = 0 := rfl
        have d0 := (hw (a + 0) (by omega) (by omega)).2
        rw [e1, e0]
        omega
    show 10 * jrm w 100 + sbN (B (a + k)) - 48 = _
    rw [g (by omega), show (100 : Int32) = nI 100 from rfl, jrm_n (by omega) (by decide) (by decide), Nat.mod_eq_of_lt (by omega), show sbN (B (a + k)) = nI (B (a + k)) by unfold sbN; rw [if_pos (by have := d.2; omega)], show (10 : Int32) = nI 10 from rfl, show (48 : Int32) = nI 48 from rfl, pk_mul, nI_add, pk_sub (by have := d.1; omega), nv_succ]
    congr 1
    have := d.1
    omega
  · rintro ⟨p, w⟩ ⟨rfl, g⟩
    simp only [f_X5_takeNumber_L5]
    rw [show a + (b - a) = b by omega]
    by_cases c : b < L
    · obtain ⟨b1, b2⟩ := hB b c
      rw [if_neg (nI_ge c (by omega)), rdi_n (show b < 600 by omega) (by decide) b2, bnd_some, show f_X5_isDigit fu (sbN (B b)) = _ from sb_dig _ b1, bnd_some, if_neg (he c), if_pos i00]
      exact ok_some ⟨rfl, g⟩
    · rw [if_pos (nI_le (by omega) (by omega))]
      exact ok_some ⟨rfl, g⟩
theorem ok_numM (hB : ∀ i, i < L → B i < 256 ∧ mt i = sbN (B i)) (hL : L ≤ 600) {a b : Nat} (hab : a ≤ b) (hb : b ≤ L) (hw : ∀ q, a ≤ q → q < b → dgt B q) (he : b < L → ¬ dgt B b) (hf : 1000 ≤ fu) : ok (lp (f_X12_token_L163 fu mt (nI L)) fu ((0 : Int32), nI a, (0 : Int32))) (fun v => v.1 = nI (b - a) ∧ v.2.1 = nI b ∧ (b - a ≤ 2 → v.2.2 = nI (nv B a (b - a)))) := by
  refine ok_up (b - a) (fun k st => st.1 = nI k ∧ st.2.1 = nI (a + k) ∧ (k ≤ 2 → st.2.2 = nI (nv B a k))) ?_ ?_ (b - a) fu 0 _ (by omega) (by omega) ⟨rfl, rfl, fun _ => rfl⟩
  · rintro k ⟨n, p, w⟩ hk ⟨rfl, rfl, g⟩
    have g : k ≤ 2 → w = nI (nv B a k) := g
    have b1 := (hB (a + k) (by omega)).1
    have d := hw (a + k) (by omega) (by omega)
    simp only [f_X12_token_L163]
    rw [e_see hB hL (by omega), if_pos (show a + k < L by omega), bnd_some, show f_X12_in fu (nI (B (a + k))) 48 57 = _ from in_dig _ b1, bnd_some, if_pos d, if_neg i10, bnd_some]
    by_cases c : 2 ≤ k
    · rw [if_pos (show (2 : Int32) ≤ nI k from nI_le c (by omega))]
      exact ok_ltn (ok_some ⟨nI_1 k, nI_1 (a + k), fun h => absurd h (by omega)⟩)
    · rw [if_neg (show ¬ (2 : Int32) ≤ nI k by rw [show (2 : Int32) = nI 2 from rfl]; exact nI_ge (by omega) (by decide))]
      refine ok_ltn (ok_ltn (ok_some ⟨nI_1 k, nI_1 (a + k), fun _ => ?_⟩))
      show 10 * w + nI (B (a + k)) - 48 = _
      rw [g (by omega), show (10 : Int32) = nI 10 from rfl, show (48 : Int32) = nI 48 from rfl, pk_mul, nI_add, pk_sub (by have := d.1; omega), nv_succ]
      congr 1
      have := d.1
      omega
  · rintro ⟨n, p, w⟩ ⟨rfl, rfl, g⟩
    simp only [f_X12_token_L163]
    rw [show a + (b - a) = b by omega, e_see hB hL hb, bnd_some]
    by_cases c : b < L
    · have b1 := (hB b c).1
      rw [if_pos c, show f_X12_in fu (nI (B b)) 48 57 = _ from in_dig _ b1, bnd_some, if_neg (he c), if_pos i00]
      exact ok_some ⟨rfl, rfl, g⟩
    · rw [if_neg c, show f_X12_in fu (-1) 48 57 = _ from in_m1.2, bnd_some, if_pos i00]
      exact ok_some ⟨rfl, rfl, g⟩
/-- one token -/
def Tk (fu : Nat) (tape mt : FN) (L i a b k v : Nat) (w : Int64) : Prop := i ≤ a ∧ a ≤ b ∧ b ≤ L ∧ k ≤ 4 ∧ v ≤ 99 ∧ (k ≠ 0 → a < b) ∧ tokC fu tape L i a b k v ∧ tokM fu mt L i a b k v w ∧ (k = 1 → wrd fu tape a b w)
theorem tok1 (hB : ∀ i, i < L → B i < 256 ∧ tape i = sbN (B i) ∧ mt i = sbN (B i)) (hL : L ≤ 600) {i : Nat} (hi : i ≤ L) (hf : 1000 ≤ fu) : ∃ a b k v w, Tk fu tape mt L i a b k v w ∧ (k = 0 → a = L) := by
  have hC : ∀ i, i < L → B i < 256 ∧ tape i = sbN (B i) := fun i h => ⟨(hB i h).1, (hB i h).2.1⟩
  have hM : ∀ i, i < L → B i < 256 ∧ mt i = sbN (B i) := fun i h => ⟨(hB i h).1, (hB i h).2.2⟩
  obtain ⟨a, a1, a2, a3, a4⟩ := run_ex (P := wsp B) (L := L) (L - i) i (by omega)
  have sC := e_skipC (fu := fu) hC hL a1 a2 a3 a4 hf
  have sM := e_skipM (fu := fu) hM hL a1 a2 a3 a4 hf
  by_cases c : a < L
  · obtain ⟨b1, b2, b3⟩ := hB a c
    have rC : rdi 600 tape (nI a) = some (sbN (B a)) := rdi_n (by omega) (by decide) b2
    have lC : f_X5_isLetter fu (sbN (B a)) = _ := sb_let _ b1
    have dC : f_X5_isDigit fu (sbN (B a)) = _ := sb_dig _ b1
    have lM : f_X12_in fu (nI (B a)) 97 122 = _ := in_let _ b1
    have dM : f_X12_in fu (nI (B a)) 48 57 = _ := in_dig _ b1
    have se : f_X12_see fu mt (nI a) (nI L) = some (nI (B a)) := by rw [e_see hM hL a2, if_pos c]
    by_cases l : ltr B a
    · obtain ⟨b, c1, c2, c3, c4⟩ := run_ex (P := ltr B) (L := L) (L - a) a (by omega)
      have ab : a < b := by
        rcases Nat.lt_or_ge a b with z | z
        · exact z
        · have : b = a := by omega
          rw [this] at c4
          exact absurd l (c4 c)
      obtain ⟨⟨n, p, w⟩, ew, w1, w2, w3⟩ := ok_wordM (fu := fu) hM hL c1 c2 c3 c4 hf
      have w1 : n = nI (b - a) := w1
      have w2 : p = nI b := w2
      have w3 : b - a ≤ 8 → w = lN (numk 256 (fun q => B (a + q)) (b - a)) := w3
      subst w1
      subst w2
      refine ⟨a, b, 1, 0, if b - a ≤ 8 then w else 0, ⟨a1, c1, c2, by decide, by decide, fun _ => ab, ?_, ?_, fun _ => e_wrd hC hL ab c2 c3 (fun h => by rw [if_pos h]; exact w3 h) (fun h => if_neg h) (by omega)⟩, fun z => absurd z (by decide)⟩
      · intro st0 tk0 v0
        refine ⟨v0, ?_, fun z => absurd z (by decide)⟩
        unfold f_X5_takeToken
        rw [sC, bnd_some, if_pos (nI_lt c (by omega)), rC, bnd_some, lC, bnd_some, if_pos l, if_neg i10, e_takeWord hC hL c1 c2 c3 c4 hf, bnd_some]
        rfl
      · intro bg0 so0 v0 w0
        refine ⟨v0, ?_, fun z => absurd z (by decide)⟩
        unfold f_X12_token
        rw [sM, bnd_some, se, bnd_some, if_pos (nI_pos' (by omega)), lM, bnd_some, if_pos l, if_neg i10, ew, bnd_some]
        by_cases h8 : b - a ≤ 8
        · rw [if_pos (show nI (b - a) ≤ (8 : Int32) from nI_le h8 (by decide)), if_pos h8]; rfl
        · rw [if_neg (show ¬ nI (b - a) ≤ (8 : Int32) by rw [show (8 : Int32) = nI 8 from rfl]; exact nI_ge (by omega) (by omega)), if_neg h8]; rfl
    · by_cases d : dgt B a
      · obtain ⟨b, c1, c2, c3, c4⟩ := run_ex (P := dgt B) (L := L) (L - a) a (by omega)
        have ab : a < b := by
          rcases Nat.lt_or_ge a b with z | z
          · exact z
          · have : b = a := by omega
            rw [this] at c4
            exact absurd d (c4 c)
        obtain ⟨⟨p, v⟩, ev, v1, v2⟩ := ok_numC (fu := fu) hC hL c1 c2 c3 c4 hf
        have v1 : p = nI b := v1
        have v2 : b - a ≤ 2 → v = nI (nv B a (b - a)) := v2
        subst v1
        obtain ⟨⟨n, p, u⟩, eu, u1, u2, u3⟩ := ok_numM (fu := fu) hM hL c1 c2 c3 c4 hf
        have u1 : n = nI (b - a) := u1
        have u2 : p = nI b := u2
        have u3 : b - a ≤ 2 → u = nI (nv B a (b - a)) := u3
        subst u1
        subst u2
        have eC : ∀ (tk0 v0 : Int32), f_X5_takeNumber fu tape (nI L) (nI a) (nI a) tk0 v0 = some (nI b, nI (if b - a ≤ 2 then 2 else 4), v) := by
          intro tk0 v0
          unfold f_X5_takeNumber
          rw [ev, bnd_some]
          show (if nI b - nI a ≤ 2 then _ else _) = _
          rw [pk_sub c1]
          by_cases h2 : b - a ≤ 2
          · rw [if_pos (show nI (b - a) ≤ (2 : Int32) from nI_le h2 (by decide)), if_pos h2]; rfl
          · rw [if_neg (show ¬ nI (b - a) ≤ (2 : Int32) by rw [show (2 : Int32) = nI 2 from rfl]; exact nI_ge (by omega) (by omega)), if_neg h2]; rfl
        have nle : b - a ≤ 2 → nv B a (b - a) ≤ 99 := by
          intro h2
          rcases (show b - a = 1 ∨ b - a = 2 by omega) with z | z
          · have e1 := nv_succ (B := B) (a := a) (k := 0)
            have e0 : nv B a 0 = 0 := rfl
            have d0 := (c3 (a + 0) (by omega) (by omega)).2
            rw [z, e1, e0]
            omega
          · rw [z]
            exact (nv_le (B := B) (a := a) (fun q hq => (c3 (a + q) (by omega) (by omega)).2)).2
        have v99 : (if b - a ≤ 2 then nv B a (b - a) else 0) ≤ 99 := by
          split
          · rename_i h2
            exact nle h2
          · decide
        refine ⟨a, b, if b - a ≤ 2 then 2 else 4, if b - a ≤ 2 then nv B a (b - a) else 0, 0, ⟨a1, c1, c2, by split <;> decide, v99, fun _ => ab, ?_, ?_, fun z => by split at z <;> omega⟩, fun z => by split at z <;> omega⟩
        · intro st0 tk0 v0
          refine ⟨v, ?_, fun z => ?_⟩
          · unfold f_X5_takeToken
            rw [sC, bnd_some, if_pos (nI_lt c (by omega)), rC, bnd_some, lC, bnd_some, if_neg l, if_pos i00, bnd_some, dC, bnd_some, if_pos d, if_neg i10, eC, bnd_some]
          · have h2 : b - a ≤ 2 := by
              rcases Nat.lt_or_ge 2 (b - a) with q | q
              · rw [if_neg (by omega)] at z; omega
              · exact q
            rw [if_pos h2]; exact v2 h2
        · intro bg0 so0 v0 w0
          refine ⟨u, ?_, fun z => ?_⟩
          · unfold f_X12_token
            rw [sM, bnd_some, se, bnd_some, if_pos (nI_pos' (by omega)), lM, bnd_some, if_neg l, if_pos i00, dM, bnd_some, if_pos d, if_neg i10, eu, bnd_some]
            by_cases h2 : b - a ≤ 2
            · rw [if_pos (show nI (b - a) ≤ (2 : Int32) from nI_le h2 (by decide)), if_pos h2]; rfl
            · rw [if_neg (show ¬ nI (b - a) ≤ (2 : Int32) by rw [show (2 : Int32) = nI 2 from rfl]; exact nI_ge (by omega) (by omega)), if_neg h2]; rfl
          · have h2 : b - a ≤ 2 := by
              rcases Nat.lt_or_ge 2 (b - a) with q | q
              · rw [if_neg (by omega)] at z; omega
              · exact q
            rw [if_pos h2]; exact u3 h2
      · refine ⟨a, a + 1, if B a = 59 then 3 else 4, 0, 0, ⟨a1, by omega, by omega, by split <;> decide, by decide, fun _ => by omega, ?_, ?_, fun z => by split at z <;> omega⟩, fun z => by split at z <;> omega⟩
        · intro st0 tk0 v0
          refine ⟨v0, ?_, fun z => by split at z <;> omega⟩
          unfold f_X5_takeToken
          rw [sC, bnd_some, if_pos (nI_lt c (by omega)), rC, bnd_some, lC, bnd_some, if_neg l, if_pos i00, bnd_some, dC, bnd_some, if_neg d, if_pos i00, bnd_some]
          dsimp only [ltn]
          rw [nI_1]
          by_cases h : B a = 59
          · rw [if_pos ((sb59 b1).2 h), if_pos h]; rfl
          · rw [if_neg (fun u => h ((sb59 b1).1 u)), if_neg h]; rfl
        · intro bg0 so0 v0 w0
          refine ⟨v0, ?_, fun z => by split at z <;> omega⟩
          unfold f_X12_token
          rw [sM, bnd_some, se, bnd_some, if_pos (nI_pos' (by omega)), lM, bnd_some, if_neg l, if_pos i00, dM, bnd_some, if_neg d, if_pos i00]
          dsimp only [ltn]
          rw [nI_1]
          by_cases h : B a = 59
          · rw [if_pos (by rw [h]; rfl), if_pos h]; rfl
          · rw [if_neg (fun u => h ((n59 b1).1 u)), if_neg h]; rfl
  · have e : a = L := by omega
    subst e
    refine ⟨a, a, 0, 0, 0, ⟨a1, Nat.le_refl _, Nat.le_refl _, by decide, by decide, fun z => absurd rfl z, ?_, ?_, fun z => absurd z (by decide)⟩, fun _ => rfl⟩
    · intro st0 tk0 v0
      refine ⟨v0, ?_, fun z => absurd z (by decide)⟩
      unfold f_X5_takeToken
      rw [sC, bnd_some, if_neg (nI_nlt (Nat.le_refl a) (by omega))]
      rfl
    · intro bg0 so0 v0 w0
      refine ⟨v0, ?_, fun z => absurd z (by decide)⟩
      unfold f_X12_token
      rw [sM, bnd_some, e_see hM hL a2, if_neg c, bnd_some, if_neg (by decide)]
      rfl
theorem tok (hB : ∀ i, i < L → B i < 256 ∧ tape i = sbN (B i) ∧ mt i = sbN (B i)) (hL : L ≤ 600) {i : Nat} (hi : i ≤ L) (hf : 1000 ≤ fu) : ∃ a b k v w, Tk fu tape mt L i a b k v w := by
  obtain ⟨a, b, k, v, w, T, _⟩ := tok1 hB hL hi hf
  exact ⟨a, b, k, v, w, T⟩
theorem tok_end (hB : ∀ i, i < L → B i < 256 ∧ tape i = sbN (B i) ∧ mt i = sbN (B i)) (hL : L ≤ 600) {i a b v : Nat} {w : Int64} (hi : i ≤ L) (hf : 1000 ≤ fu) (T : Tk fu tape mt L i a b 0 v w) : a = L := by
  obtain ⟨a', b', k', v', w', T', h⟩ := tok1 hB hL hi hf
  obtain ⟨c1, e1, _⟩ := T.2.2.2.2.2.2.1 0 0 0
  obtain ⟨c2, e2, _⟩ := T'.2.2.2.2.2.2.1 0 0 0
  have e := Option.some.inj (e1.symm.trans e2)
  have ea : nI a = nI a' := congrArg (fun z => z.2.1) e
  have ek : nI 0 = nI k' := congrArg (fun z => z.2.2.1) e
  have l1 := T.2.1
  have l2 := T.2.2.1
  have l3 := T'.2.1
  have l4 := T'.2.2.1
  have l5 := T'.2.2.2.1
  have k0 := (nI_eq (by decide) (by omega)).1 ek
  have a0 := (nI_eq (by omega) (by omega)).1 ea
  rw [a0]
  exact h k0.symm
end TK2
