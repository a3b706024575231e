/-! ===== hour ===== -/
def vq (n : Nat) (o s : Nat → Nat) (q : Nat) : Prop := s q = 6 ∨ (s q < n ∧ o (6 * s q + q) ≠ 0)
def cq (h s : Nat → Nat) (q : Nat) : Prop := ∀ b, b < q → s q = s b → s q < 6 → bi (h q) b = 0
def GH (n : Nat) (h o : Nat → Nat) (p : Nat) (r s : Nat → Nat) : Prop := (∀ q, q < p → s q = r q) ∧ ∀ q, p ≤ q → q < n → vq n o s q ∧ cq h s q
/-- how many of those from p on who have debtors sit with nobody -/
def ic (n : Nat) (o s : Nat → Nat) (p e : Nat) : Nat := fldN (fun q x => x + if ¬ sDebt n o q = 0 ∧ s q = 6 then 1 else 0) p e 0
def setp (r : Nat → Nat) (p v q : Nat) : Nat := if q = p then v else r q
def VH (n : Nat) (h o s : Nat → Nat) : Prop := (∀ q, q < n → vq n o s q) ∧ clm n h s
def cS6 (n : Nat) (s : Nat → Nat) : Nat := fldN (fun q x => x + if s q < 6 then 1 else 0) 0 n 0
def mD (n : Nat) (o : Nat → Nat) : Nat := fldN (fun q x => x + if ¬ sDebt n o q = 0 then 1 else 0) 0 n 0
/-- the first fullest row -/
def FH (n : Nat) (h o : Nat → Nat) (a : Nat) : Prop := a < 7 ^ n ∧ VH n h o (dg 7 n a) ∧ ∀ i, i < 7 ^ n → VH n h o (dg 7 n i) → cS6 n (dg 7 n i) ≤ cS6 n (dg 7 n a) ∧ (i < a → cS6 n (dg 7 n i) < cS6 n (dg 7 n a))
section HRS
variable {fu n k p i t : Nat} {w pu o r s h : Nat → Nat} {M rw_ ha db ow : FN}
theorem ic_s {e : Nat} : ic n o s p (e + 1) = (if ¬ sDebt n o p = 0 ∧ s p = 6 then 1 else 0) + ic n o s (p + 1) e := by
  show fldN (fun q x => x + if ¬ sDebt n o q = 0 ∧ s q = 6 then 1 else 0) (p + 1) e (0 + if ¬ sDebt n o p = 0 ∧ s p = 6 then 1 else 0) = _
  rw [sum_app (f := fun q => if ¬ sDebt n o q = 0 ∧ s q = 6 then 1 else 0) e (p + 1), Nat.zero_add]
  rfl
theorem sDebt_b {q v : Nat} (hv : v < n) : bi (sDebt n o q) v = 1 ↔ o (6 * v + q) ≠ 0 := by
  have := mask_bt (P := fun j => o (6 * j + q) = 0) (i := v) n
  constructor
  · intro z; exact (this.1 z).2
  · intro z; exact this.2 ⟨hv, z⟩
theorem sDebt_64 {q : Nat} (hn : n ≤ 6) : sDebt n o q < 64 := p64 hn (mask_on (P := fun j => o (6 * j + q) = 0) n hn).2
theorem GH_set {v : Nat} (hs : GH n h o p r s) (e : s p = v) : GH n h o (p + 1) (setp r p v) s := by
  refine ⟨fun q hq => ?_, fun q h1 h2 => hs.2 q (by omega) h2⟩
  show s q = if q = p then v else r q
  by_cases c : q = p
  · rw [if_pos c, c]; exact e
  · rw [if_neg c]; exact hs.1 q (by omega)
theorem GH_back {v : Nat} (hv : GH n h o (p + 1) (setp r p v) s) (h1 : v = 6 ∨ (v < n ∧ o (6 * v + p) ≠ 0)) (h2 : ∀ b, b < p → v = r b → v < 6 → bi (h p) b = 0) : GH n h o p r s ∧ s p = v := by
  have sp : s p = v := (hv.1 p (by omega)).trans (if_pos rfl)
  have sq : ∀ q, q < p → s q = r q := fun q hq => (hv.1 q (by omega)).trans (if_neg (by omega))
  refine ⟨⟨sq, fun q q1 q2 => ?_⟩, sp⟩
  by_cases c : q = p
  · rw [c]
    refine ⟨?_, fun b hb e l => ?_⟩
    · unfold vq; rw [sp]; exact h1
    · rw [sp] at e l; rw [sq b hb] at e; exact h2 b hb e l
  · exact hv.2 q (by omega) q2
theorem vq_7 (hn : n ≤ 6) {q : Nat} (h : vq n o s q) : s q < 7 := by
  rcases h with h | h <;> omega
theorem ok_canSit (hha : ∀ i, i < 6 → ha i = nI (h i)) (h64 : ∀ i, i < 6 → h i < 64) (hdb : ∀ q, q < n → db q = nI (sDebt n o q)) (hn : n ≤ 6) (hf : 100 ≤ fu) : ∀ e p, p + e = n → ∀ dp, e < dp → ∀ (r : Nat → Nat) (row : FN) (id : Nat), id ≤ 6 → (∀ q, q < p → row q = nI (r q)) → (∀ q, q < p → r q < 7) → ok (f_X6_canSit fu dp 6 6 (nI n) ha db row (nI p) (nI id)) (fun x => (∀ q, q < p → x.2 q = nI (r q)) ∧ ((x.1 = 1 ∧ ∃ r', GH n h o p r r' ∧ ic n o r' p e ≤ id ∧ (∀ q, q < n → x.2 q = nI (r' q)) ∧ ∀ s, GH n h o p r s → ic n o s p e ≤ id → numk 7 r' n ≤ numk 7 s n) ∨ (x.1 = 0 ∧ ∀ s, GH n h o p r s → ¬ ic n o s p e ≤ id))) := by
  intro e
  induction e with
  | zero =>
    intro p hp dp hdp r row id hid hr hb
    obtain ⟨d, rfl⟩ : ∃ d, dp = d + 1 := ⟨dp - 1, by omega⟩
    have hpn : p = n := by omega
    subst hpn
    show ok (F_X6_canSit (f_X6_canSit fu d) fu 6 6 (nI p) ha db row (nI p) (nI id)) _
    unfold F_X6_canSit
    rw [if_pos (nI_le (Nat.le_refl p) (by omega))]
    exact ok_some ⟨hr, Or.inl ⟨rfl, r, ⟨fun _ _ => rfl, fun q h1 h2 => absurd h1 (by omega)⟩, Nat.zero_le _, hr, fun s hs _ => Nat.le_of_eq (numk_congr p (fun q hq => (hs.1 q hq).symm))⟩⟩
  | succ e ih =>
    intro p hp dp hdp r row id hid hr hb
    obtain ⟨d, rfl⟩ : ∃ d, dp = d + 1 := ⟨dp - 1, by omega⟩
    have dl := sDebt_64 (o := o) (q := p) hn
    have pre : ∀ (v : Nat) (R : FN), (∀ q, q < p → R q = nI (r q)) → ∀ q, q < p + 1 → upd R p (nI v) q = nI (setp r p v q) := by
      intro v R g q hq
      show _ = nI (if q = p then v else r q)
      by_cases c : q = p
      · rw [c, if_pos rfl]; exact pk_us
      · rw [if_neg c]; exact (pk_un c).trans (g q (by omega))
    have bnd7 : ∀ v, v < 7 → ∀ q, q < p + 1 → setp r p v q < 7 := by
      intro v hv q hq
      show (if q = p then v else r q) < 7
      by_cases c : q = p
      · rw [if_pos c]; exact hv
      · rw [if_neg c]; exact hb q (by omega)
    have k1s : ∀ (v : Nat) (R2 : FN), (∀ q, q < p + 1 → R2 q = nI (setp r p v q)) → ∀ q, q < p → R2 q = nI (r q) := by
      intro v R2 g q hq
      have := g q (by omega)
      rw [show setp r p v q = r q from if_neg (by omega)] at this
      exact this
    show ok (F_X6_canSit (f_X6_canSit fu d) fu 6 6 (nI n) ha db row (nI p) (nI id)) _
    unfold F_X6_canSit
    rw [if_neg (nI_ge (show p < n by omega) (by omega)), if_neg (nI_ge (show p < 6 by omega) (by decide)), if_pos (nI_lt (show p < 6 by omega) (by decide))]
    refine ok_bnd (ok_mono (ok_up (step := f_X6_canSit_L25 fu (f_X6_canSit fu d) (nI n) ha db (nI p) (nI id) 6 6) (P := fun x => match x with
      | .inl y => y.1 = 1 ∧ (∀ q, q < p → y.2 q = nI (r q)) ∧ ∃ r', GH n h o p r r' ∧ ic n o r' p (e + 1) ≤ id ∧ (∀ q, q < n → y.2 q = nI (r' q)) ∧ ∀ s, GH n h o p r s → ic n o s p (e + 1) ≤ id → numk 7 r' n ≤ numk 7 s n
      | .inr y => (∀ q, q < p → y q = nI (r q)) ∧ ∀ s, GH n h o p r s → ic n o s p (e + 1) ≤ id → s p = 6) n (fun v st => st.1 = nI v ∧ (∀ q, q < p → st.2 q = nI (r q)) ∧ ∀ s, GH n h o p r s → ic n o s p (e + 1) ≤ id → v ≤ s p) ?_ ?_ n fu 0 _ (by omega) (by omega) ⟨rfl, hr, fun _ _ _ => Nat.zero_le _⟩) ?_)
    · rintro v ⟨c, R⟩ hv ⟨rfl, g1, g2⟩
      have g1 : ∀ q, q < p → R q = nI (r q) := g1
      have bl := bi_lt (sDebt n o p) v
      simp only [f_X6_canSit_L25]
      rw [if_neg (nI_ge hv (by omega)), rdi_n (show p < 6 by omega) (by decide) (hdb p (by omega)), bnd_some, jbi dl (show v < 6 by omega)]
      by_cases qb : bi (sDebt n o p) v = 0
      · rw [if_pos ((nI_eq0 (by omega)).2 qb), nI_1]
        refine ok_some ⟨rfl, g1, fun s hs hi => ?_⟩
        have g3 := g2 s hs hi
        by_cases c : s p = v
        · exfalso
          have vv := (hs.2 p (Nat.le_refl p) (by omega)).1
          rcases vv with z | z
          · omega
          · rw [c] at z
            have := (sDebt_b (o := o) (q := p) hv).2 z.2
            omega
        · omega
      · have ob : o (6 * v + p) ≠ 0 := (sDebt_b hv).1 (by omega)
        rw [if_neg (fun z => qb ((nI_eq0 (by omega)).1 z))]
        rcases e_isFree (fu := fu) (v := v) g1 (fun q hq => by have := hb q hq; omega) (by omega) hha h64 (show p < 6 by omega) hf with ⟨f1, f2⟩ | ⟨f1, b, f2, f3, f4⟩
        · rw [f1, bnd_some, if_neg i10, wri_n (show p < 6 by omega) (by decide), bnd_some, nI_1 p]
          refine ok_bnd (ok_mono (ih (p + 1) (by omega) d (by omega) (setp r p v) (upd R p (nI v)) id hid (pre v R g1) (bnd7 v (by omega))) ?_)
          rintro ⟨a, R2⟩ ⟨k1, k2⟩
          have k1' := k1s v R2 k1
          have icv : ∀ s, s p = v → ic n o s p (e + 1) = ic n o s (p + 1) e := by
            intro s e1
            rw [ic_s, if_neg (fun z => by have := z.2; omega), Nat.zero_add]
          rcases k2 with ⟨ea, r', q1, q0, q2, q3⟩ | ⟨ea, q1⟩
          · have ea : a = 1 := ea
            subst ea
            rw [if_neg i10]
            obtain ⟨gt, rp⟩ := GH_back q1 (Or.inr ⟨hv, ob⟩) (fun b hb2 e2 _ => f2 b hb2 e2)
            refine ok_some ⟨rfl, k1', r', gt, by rw [icv r' rp]; exact q0, q2, fun s hs hi => ?_⟩
            have g3 := g2 s hs hi
            by_cases c : s p = v
            · exact q3 s (GH_set hs c) (by rw [← icv s c]; exact hi)
            · obtain ⟨dd, hdd⟩ : ∃ dd, n = p + 1 + dd := ⟨n - (p + 1), by omega⟩
              have := numk_lt (m := 7) (p := p) (r := r') (s := s) dd (fun q hq => (gt.1 q hq).trans (hs.1 q hq).symm) (by rw [rp]; omega) (fun q hq => by
                by_cases c2 : q < p
                · rw [gt.1 q c2]; exact hb q c2
                · exact vq_7 hn (gt.2 q (by omega) (by omega)).1)
              rw [← hdd] at this
              exact Nat.le_of_lt this
          · have ea : a = 0 := ea
            subst ea
            rw [if_pos i00, nI_1]
            refine ok_some ⟨rfl, k1', fun s hs hi => ?_⟩
            have g3 := g2 s hs hi
            by_cases c : s p = v
            · exact absurd (show ic n o s (p + 1) e ≤ id by rw [← icv s c]; exact hi) (q1 s (GH_set hs c))
            · omega
        · rw [f1, bnd_some, if_pos i00, nI_1]
          refine ok_some ⟨rfl, g1, fun s hs hi => ?_⟩
          have g3 := g2 s hs hi
          by_cases c : s p = v
          · exfalso
            apply f4
            exact (hs.2 p (Nat.le_refl p) (by omega)).2 b f2 (by rw [c, f3]; exact (hs.1 b f2).symm) (by omega)
          · omega
    · rintro ⟨c, R⟩ ⟨rfl, g1, g2⟩
      simp only [f_X6_canSit_L25, if_pos (nI_le (Nat.le_refl n) (by omega : n < 2 ^ 31))]
      refine ok_some ⟨g1, fun s hs hi => ?_⟩
      have g3 := g2 s hs hi
      rcases (hs.2 p (Nat.le_refl p) (by omega)).1 with z | z
      · exact z
      · omega
    · intro x hx
      cases x with
      | inl y => exact ok_some ⟨hx.2.1, Or.inl ⟨hx.1, hx.2.2⟩⟩
      | inr y =>
        obtain ⟨g1, g2⟩ : (∀ q, q < p → y q = nI (r q)) ∧ ∀ s, GH n h o p r s → ic n o s p (e + 1) ≤ id → s p = 6 := hx
        show ok (bnd (wri 6 y (nI p) 6) _) _
        rw [show (6 : Int32) = nI 6 from rfl, wri_n (show p < 6 by omega) (by decide), bnd_some, rdi_n (show p < 6 by omega) (by decide) (hdb p (by omega)), bnd_some]
        have fin : ∀ (id2 : Nat) (x12 : Int32 × FN), (∀ s, s p = 6 → (ic n o s p (e + 1) ≤ id ↔ ic n o s (p + 1) e ≤ id2)) → ((∀ q, q < p + 1 → x12.2 q = nI (setp r p 6 q)) ∧ ((x12.1 = 1 ∧ ∃ r', GH n h o (p + 1) (setp r p 6) r' ∧ ic n o r' (p + 1) e ≤ id2 ∧ (∀ q, q < n → x12.2 q = nI (r' q)) ∧ ∀ s, GH n h o (p + 1) (setp r p 6) s → ic n o s (p + 1) e ≤ id2 → numk 7 r' n ≤ numk 7 s n) ∨ (x12.1 = 0 ∧ ∀ s, GH n h o (p + 1) (setp r p 6) s → ¬ ic n o s (p + 1) e ≤ id2))) → ((∀ q, q < p → x12.2 q = nI (r q)) ∧ ((x12.1 = 1 ∧ ∃ r', GH n h o p r r' ∧ ic n o r' p (e + 1) ≤ id ∧ (∀ q, q < n → x12.2 q = nI (r' q)) ∧ ∀ s, GH n h o p r s → ic n o s p (e + 1) ≤ id → numk 7 r' n ≤ numk 7 s n) ∨ (x12.1 = 0 ∧ ∀ s, GH n h o p r s → ¬ ic n o s p (e + 1) ≤ id))) := by
          rintro id2 x12 hid2 ⟨k1, k2⟩
          refine ⟨k1s 6 x12.2 k1, ?_⟩
          rcases k2 with ⟨ea, r', q1, q0, q2, q3⟩ | ⟨ea, q1⟩
          · obtain ⟨gt, rp⟩ := GH_back q1 (Or.inl rfl) (fun b hb2 e2 l => absurd l (Nat.lt_irrefl _))
            refine Or.inl ⟨ea, r', gt, (hid2 r' rp).2 q0, q2, fun s hs hi => ?_⟩
            have e6 := g2 s hs hi
            exact q3 s (GH_set hs e6) ((hid2 s e6).1 hi)
          · refine Or.inr ⟨ea, fun s hs hi => ?_⟩
            have e6 := g2 s hs hi
            exact q1 s (GH_set hs e6) ((hid2 s e6).1 hi)
        by_cases z : sDebt n o p = 0
        · rw [if_pos (by rw [z]; rfl), nI_1]
          refine ok_bnd (ok_mono (ih (p + 1) (by omega) d (by omega) (setp r p 6) (upd y p (nI 6)) id hid (pre 6 y g1) (bnd7 6 (by omega))) ?_)
          rintro ⟨a, R2⟩ hx2
          have f1 := fin id (a, R2) (fun s e6 => by rw [ic_s, if_neg (fun u => u.1 z), Nat.zero_add]) hx2
          have ba : bz a = some a := by
            rcases f1.2 with u | u
            · have u1 : a = 1 := u.1
              rw [u1]; rfl
            · have u1 : a = 0 := u.1
              rw [u1]; rfl
          show ok (bnd (bz a) _) _
          rw [ba, bnd_some]
          exact ok_some f1
        · rw [if_neg (fun u => z ((nI_eq0 (by omega)).1 u))]
          by_cases i0 : id = 0
          · rw [if_pos (by rw [i0]; decide)]
            refine ok_some ⟨fun q hq => (pk_un (by omega)).trans (g1 q hq), Or.inr ⟨rfl, fun s hs hi => ?_⟩⟩
            have e6 := g2 s hs hi
            rw [ic_s, if_pos ⟨z, e6⟩] at hi
            omega
          · rw [if_neg (nI_nle (by omega) (by omega)), nI_1, show nI id - 1 = nI (id - 1) by rw [show (1 : Int32) = nI 1 from rfl, pk_sub (by omega)]]
            refine ok_bnd (ok_mono (ih (p + 1) (by omega) d (by omega) (setp r p 6) (upd y p (nI 6)) (id - 1) (by omega) (pre 6 y g1) (bnd7 6 (by omega))) ?_)
            rintro ⟨a, R2⟩ hx2
            have f1 := fin (id - 1) (a, R2) (fun s e6 => by rw [ic_s, if_pos ⟨z, e6⟩]; omega) hx2
            rcases f1.2 with u | u
            · have u1 : a = 1 := u.1
              subst u1
              rw [if_neg i10]
              exact ok_some f1
            · have u1 : a = 0 := u.1
              subst u1
              rw [if_pos i00]
              exact ok_some f1
theorem VH_GH (hs : VH n h o s) : GH n h o 0 (fun _ => 0) s := ⟨fun q hq => absurd hq (Nat.not_lt_zero _), fun q _ hq => ⟨hs.1 q hq, fun b hb e l => hs.2 q hq b hb e l⟩⟩
theorem GH_VH (hs : GH n h o 0 r s) : VH n h o s := ⟨fun q hq => (hs.2 q (Nat.zero_le _) hq).1, fun q hq b hb e l => (hs.2 q (Nat.zero_le _) hq).2 b hb e l⟩
theorem VH_congr (e : ∀ q, q < n → r q = s q) (hc : VH n h o r) : VH n h o s := by
  refine ⟨fun q hq => ?_, clm_congr e hc.2⟩
  have := hc.1 q hq
  unfold vq at this ⊢
  rw [← e q hq]
  exact this
theorem cS6_congr (e : ∀ q, q < n → r q = s q) : cS6 n r = cS6 n s := by
  unfold cS6
  exact fldN_congr n 0 0 (fun q b _ hq => by rw [e q (by omega)])
theorem cnt_md (hn : n ≤ 6) (hs : VH n h o s) : cS6 n s + ic n o s 0 n = mD n o := by
  unfold cS6 ic mD
  rw [← su_add (f := fun q => if s q < 6 then 1 else 0) (g := fun q => if ¬ sDebt n o q = 0 ∧ s q = 6 then 1 else 0)]
  refine fldN_congr n 0 0 (fun q b _ hq => ?_)
  have hq : q < n := by omega
  rcases hs.1 q hq with z | ⟨z1, z2⟩
  · rw [if_neg (by omega), Nat.zero_add]
    by_cases d : sDebt n o q = 0
    · rw [if_neg (fun u => u.1 d), if_neg (fun u => u d)]
    · rw [if_pos ⟨d, z⟩, if_pos d]
  · have d : ¬ sDebt n o q = 0 := by
      intro d
      have := (sDebt_b (o := o) (q := q) z1).2 z2
      rw [d] at this
      exact absurd this bt_0
    rw [if_pos (by omega), if_neg (fun u => by have := u.2; omega), if_pos d]
theorem mD_6 (hn : n ≤ 6) : mD n o ≤ 6 := by
  have := fld_le (f := fun q => if ¬ sDebt n o q = 0 then 1 else 0) (B := 1) n 0 0 (fun i _ => by split <;> omega)
  unfold mD
  omega
theorem cS6_6 (hn : n ≤ 6) : cS6 n s ≤ 6 := by
  have := fld_le (f := fun q => if s q < 6 then 1 else 0) (B := 1) n 0 0 (fun i _ => by split <;> omega)
  unfold cS6
  omega
theorem ok_sitTop {row : FN} {id a : Nat} (hha : ∀ i, i < 6 → ha i = nI (h i)) (h64 : ∀ i, i < 6 → h i < 64) (hdb : ∀ q, q < n → db q = nI (sDebt n o q)) (hn : n ≤ 6) (F : FH n h o a) (hid : id ≤ 6) (hmd : cS6 n (dg 7 n a) ≤ mD n o - id) (hle : id ≤ mD n o) (hf : 100 ≤ fu) : ok (f_X6_canSit fu 8 6 6 (nI n) ha db row 0 (nI id)) (fun x => (cS6 n (dg 7 n a) = mD n o - id → x.1 = 1 ∧ ∀ q, q < n → x.2 q = nI (dg 7 n a q)) ∧ (cS6 n (dg 7 n a) < mD n o - id → x.1 = 0)) := by
  obtain ⟨f1, f2, f3⟩ := F
  have ca := cnt_md hn f2
  have z := ok_canSit (fu := fu) (ha := ha) (db := db) hha h64 hdb hn hf n 0 (by omega) 8 (by omega) (fun _ => 0) row id hid (fun q hq => absurd hq (Nat.not_lt_zero _)) (fun q hq => absurd hq (Nat.not_lt_zero _))
  refine ok_mono z ?_
  rintro ⟨x1, R⟩ ⟨-, hx⟩
  rcases hx with ⟨ea, r', q1, q0, q2, q3⟩ | ⟨ea, q1⟩
  · have hv := GH_VH q1
    have rm : ∀ q, q < n → r' q < 7 := fun q hq => vq_7 hn (hv.1 q hq)
    obtain ⟨n1, n2⟩ := row_num rm
    have hv2 : VH n h o (dg 7 n (numk 7 r' n)) := VH_congr (fun q hq => (n2 q hq).symm) hv
    have hc := f3 _ n1 hv2
    have c1 := cS6_congr n2
    rw [c1] at hc
    have cm := cnt_md hn hv
    refine ⟨fun e => ⟨ea, fun q hq => ?_⟩, fun e => ?_⟩
    · have h1 := q3 _ (VH_GH f2) (by omega)
      rw [numk_dg f1] at h1
      have h2 : a ≤ numk 7 r' n := by
        rcases Nat.lt_or_ge (numk 7 r' n) a with c | c
        · have := hc.2 c; omega
        · exact c
      have h3 : numk 7 r' n = a := by omega
      have := n2 q hq
      rw [h3] at this
      rw [this]
      exact q2 q hq
    · omega
  · refine ⟨fun e => ?_, fun _ => ea⟩
    exact absurd (show ic n o (dg 7 n a) 0 n ≤ id by omega) (q1 _ (VH_GH f2))
theorem ok_fullest {p2 : Int32} {row d0 : FN} {a : Nat} (hha : ∀ i, i < 6 → ha i = nI (h i)) (h64 : ∀ i, i < 6 → h i < 64) (ho : ∀ i, i < 36 → ow i = nI (o i)) (h9 : ∀ i, i < 36 → o i ≤ 99) (hn : n ≤ 6) (F : FH n h o a) (hf : 1000 ≤ fu) : ok (f_X6_fullestHour fu row d0 (nI n) ha ow p2) (fun x => (p2 = -1 → x.1 = nI (cS6 n (dg 7 n a))) ∧ ∀ k, k < n → p2 = nI k → x.1 = nI (dg 7 n a k)) := by
  have md6 := mD_6 (o := o) hn
  have ca := cnt_md hn F.2.1
  unfold f_X6_fullestHour
  refine ok_bnd (ok_mono (ok_up (step := f_X6_fullestHour_L5 fu (nI n) ow) (P := fun v => v.1 = nI (mD n o) ∧ ∀ q, q < n → v.2 q = nI (sDebt n o q)) n (fun j st => st.1 = nI (fldN (fun q x => x + if ¬ sDebt n o q = 0 then 1 else 0) 0 j 0) ∧ st.2.1 = nI j ∧ ∀ q, q < j → st.2.2 q = nI (sDebt n o q)) ?_ ?_ n fu 0 _ (by omega) (by omega) ⟨rfl, rfl, fun q hq => absurd hq (by omega)⟩) ?_)
  · rintro j ⟨c, i, v⟩ hj ⟨rfl, rfl, g1⟩
    have dl := sDebt_64 (o := o) (q := j) hn
    simp only [f_X6_fullestHour_L5]
    rw [if_neg (nI_ge hj (by omega)), e_X9_debtorsOf ho h9 hn (by omega) (by omega), bnd_some, wri_n (show j < 6 by omega) (by decide), bnd_some, rdi_n (show j < 6 by omega) (by decide) pk_us, bnd_some, fldN_succ, Nat.zero_add]
    by_cases z : sDebt n o j = 0
    · rw [if_pos (by rw [z]; rfl), if_neg (fun u => u z), Nat.add_zero]
      exact ok_some ⟨rfl, nI_1 j, upd_lt (g := fun q => nI (sDebt n o q)) g1 rfl⟩
    · rw [if_neg (fun u => z ((nI_eq0 (by omega)).1 u)), if_pos z]
      exact ok_some ⟨nI_1 _, nI_1 j, upd_lt (g := fun q => nI (sDebt n o q)) g1 rfl⟩
  · rintro ⟨c, i, v⟩ ⟨rfl, rfl, g1⟩
    simp only [f_X6_fullestHour_L5, if_pos (nI_le (Nat.le_refl n) (by omega : n < 2 ^ 31))]
    exact ok_some ⟨rfl, g1⟩
  rintro ⟨md, db⟩ ⟨e1, hdb⟩
  have e1 : md = nI (mD n o) := e1
  subst e1
  have hdb : ∀ q, q < n → db q = nI (sDebt n o q) := hdb
  have cle : cS6 n (dg 7 n a) ≤ mD n o := by omega
  refine ok_bnd (ok_mono (ok_up (step := f_X6_fullestHour_L49 fu (nI n) ha (nI (mD n o), db)) (P := fun v => v.1 = nI (cS6 n (dg 7 n a)) ∧ (0 < cS6 n (dg 7 n a) → ∀ q, q < n → v.2 q = nI (dg 7 n a q))) (mD n o - cS6 n (dg 7 n a)) (fun j st => st.1 = nI (mD n o - j)) ?_ ?_ (mD n o - cS6 n (dg 7 n a)) fu 0 _ (by omega) (by omega) rfl) ?_)
  · rintro j ⟨c, R⟩ hj rfl
    simp only [f_X6_fullestHour_L49]
    rw [if_neg (nI_nle (by omega) (by omega)), pk_sub (by omega), show mD n o - (mD n o - j) = j by omega]
    refine ok_bnd (ok_mono (ok_sitTop hha h64 hdb hn F (id := j) (by omega) (by omega) (by omega) (by omega)) ?_)
    rintro ⟨x1, R2⟩ ⟨-, hx⟩
    have hx : x1 = 0 := hx (by omega)
    subst hx
    rw [if_pos i00]
    refine ok_some ?_
    show nI (mD n o - j) + (-1) = nI (mD n o - (j + 1))
    rw [show mD n o - j = (mD n o - (j + 1)) + 1 by omega]
    exact pk_m1 _
  · rintro ⟨c, R⟩ rfl
    simp only [f_X6_fullestHour_L49]
    rw [show mD n o - (mD n o - cS6 n (dg 7 n a)) = cS6 n (dg 7 n a) by omega]
    by_cases z : cS6 n (dg 7 n a) = 0
    · rw [if_pos (by rw [z]; decide)]
      exact ok_some ⟨rfl, fun u => absurd u (by omega)⟩
    · rw [if_neg (nI_nle (by omega) (by omega)), pk_sub cle]
      refine ok_bnd (ok_mono (ok_sitTop hha h64 hdb hn F (id := mD n o - cS6 n (dg 7 n a)) (by omega) (by omega) (by omega) (by omega)) ?_)
      rintro ⟨x1, R2⟩ ⟨hx, -⟩
      obtain ⟨hx, hr⟩ := hx (by omega)
      have hx : x1 = 1 := hx
      subst hx
      rw [if_neg i10]
      exact ok_some ⟨rfl, fun _ => hr⟩
  rintro ⟨mn, R⟩ ⟨e2, hR⟩
  have e2 : mn = nI (cS6 n (dg 7 n a)) := e2
  subst e2
  have c6 := cS6_6 (s := dg 7 n a) hn
  have fin : ∀ v8 : FN, (∀ q, q < n → v8 q = nI (dg 7 n a q)) → ok (if p2 < 0 then some (nI (cS6 n (dg 7 n a)), v8, db) else if p2 < 6 then bnd (rdi 6 v8 p2) (fun x9 => some (x9, v8, db)) else some (nI (cS6 n (dg 7 n a)), v8, db)) (fun x => (p2 = -1 → x.1 = nI (cS6 n (dg 7 n a))) ∧ ∀ k, k < n → p2 = nI k → x.1 = nI (dg 7 n a k)) := by
    intro v8 hv
    refine ok_ite (fun q => ?_) (fun q => ?_)
    · refine ok_some ⟨fun _ => rfl, fun k hk e => ?_⟩
      rw [e] at q
      exact absurd q (nI_pos (by omega))
    · refine ok_ite (fun q2 => ?_) (fun q2 => ?_)
      · obtain ⟨j, hj, rfl⟩ := nI_of q
        have j6 : j < 6 := by rw [show (6 : Int32) = nI 6 from rfl, nI_ltI hj (by decide)] at q2; exact q2
        rw [rdi_n j6 (by decide) rfl, bnd_some]
        refine ok_some ⟨fun z => absurd z (nI_nm1 hj), fun k hk e => ?_⟩
        have e2 : j = k := (nI_eq hj (by omega)).1 e
        show v8 j = _
        rw [e2]
        exact hv k hk
      · refine ok_some ⟨fun _ => rfl, fun k hk e => ?_⟩
        rw [e] at q2
        exact absurd (show nI k < 6 from nI_lt (b := 6) (by omega) (by decide)) q2
  by_cases z : cS6 n (dg 7 n a) = 0
  · obtain ⟨R2, e3, hR2⟩ := fill_ok (fu := fu) (N := 6) (f := R) (v := 6) (by decide) (by omega)
    show ok (bnd (if nI (cS6 n (dg 7 n a)) = 0 then bnd (f_J7_fill_53178 fu 6 R 6) (fun x18 => some x18) else some R) _) _
    rw [if_pos (by rw [z]; rfl), e3, bnd_some, bnd_some]
    refine fin R2 (fun q hq => ?_)
    rw [hR2 q (by omega)]
    have hz := (sum_0 (f := fun q => if dg 7 n a q < 6 then 1 else 0) n).1 z q hq
    have hz : ¬ dg 7 n a q < 6 := by
      intro u
      have hz : (if dg 7 n a q < 6 then 1 else 0) = 0 := hz
      rw [if_pos u] at hz
      exact absurd hz (by decide)
    have := dg_lt (m := 7) (n := n) (i := a) (p := q) (by decide)
    rw [show dg 7 n a q = 6 by omega]
    rfl
  · show ok (bnd (if nI (cS6 n (dg 7 n a)) = 0 then bnd (f_J7_fill_53178 fu 6 R 6) (fun x18 => some x18) else some R) _) _
    rw [if_neg (fun u => z ((nI_eq0 (by omega)).1 u)), bnd_some]
    exact fin R (hR (by omega))
end HRS
