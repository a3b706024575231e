/-! ===== tokens ===== -/
theorem sb_and : ∀ b, b < 256 → sbN b &&& 255 = nI b := by decide +kernel
theorem sb_eq : ∀ c, c < 128 → ∀ b, b < 256 → (sbN b = nI c ↔ b = c) := by decide +kernel
theorem sb_let : ∀ b, b < 256 → f_X5_isLetter 0 (sbN b) = some (if 97 ≤ b ∧ b ≤ 122 then 1 else 0) := by decide +kernel
theorem sb_dig : ∀ b, b < 256 → f_X5_isDigit 0 (sbN b) = some (if 48 ≤ b ∧ b ≤ 57 then 1 else 0) := by decide +kernel
theorem in_let : ∀ b, b < 256 → f_X12_in 0 (nI b) 97 122 = some (if 97 ≤ b ∧ b ≤ 122 then 1 else 0) := by decide +kernel
theorem in_dig : ∀ b, b < 256 → f_X12_in 0 (nI b) 48 57 = some (if 48 ≤ b ∧ b ≤ 57 then 1 else 0) := by decide +kernel
theorem in_m1 : f_X12_in 0 (-1) 97 122 = some 0 ∧ f_X12_in 0 (-1) 48 57 = some 0 := by decide
/-- from i on as long as it is so -/
theorem run_ex {P : Nat → Prop} {L : Nat} : ∀ k i, i + k = L → ∃ j, i ≤ j ∧ j ≤ L ∧ (∀ q, i ≤ q → q < j → P q) ∧ (j < L → ¬ P j) := by
  intro k
  induction k with
  | zero => intro i hi; exact ⟨i, Nat.le_refl _, by omega, fun q h1 h2 => by omega, fun h => by omega⟩
  | succ k ih =>
    intro i hi
    by_cases c : P i
    · obtain ⟨j, h1, h2, h3, h4⟩ := ih (i + 1) (by omega)
      refine ⟨j, by omega, h2, fun q q1 q2 => ?_, h4⟩
      by_cases e : q = i
      · rw [e]; exact c
      · exact h3 q (by omega) q2
    · exact ⟨i, Nat.le_refl _, by omega, fun q h1 h2 => by omega, fun _ => c⟩
theorem lp_rg {ρ : Type} {step : Int32 → Option (Int32 ⊕ ρ)} {r : ρ} {fu i : Nat} (b : Nat) (hib : i ≤ b) (hs : ∀ q, i ≤ q → q < b → step (nI q) = some (.inl (nI (q + 1)))) (he : step (nI b) = some (.inr r)) (hf : b < fu) : lp step fu (nI i) = some r :=
  (lp_up (α := Unit) (fun j _ => nI j) (fun _ a => a) b (fun _ => r) (fun j _ => i ≤ j) (fun j _ h1 h2 => ⟨hs j h2 h1, by omega⟩) (fun _ _ => he) (b - i) fu i () (by omega) (by omega) (Nat.le_refl i)).1
theorem sh8 (v : Nat) : jshll (lN v) 8 = lN (v * 256) := by
  apply Int64.toBitVec_inj.1
  show (BitVec.ofNat 64 v) <<< (((8 : Int32).toInt64 &&& 63).toBitVec.smod 64) = BitVec.ofNat 64 (v * 256)
  rw [show (((8 : Int32).toInt64 &&& 63).toBitVec.smod 64) = 8#64 by decide]
  apply BitVec.eq_of_toNat_eq
  show ((BitVec.ofNat 64 v) <<< 8).toNat = _
  rw [BitVec.toNat_shiftLeft, BitVec.toNat_ofNat, BitVec.toNat_ofNat, Nat.shiftLeft_eq]
  omega
theorem lg_or8 (v b : Nat) (hb : b < 256) : jshll (lN v) 8 ||| lN b = lN (v * 256 + b) := by
  rw [sh8]
  apply Int64.toBitVec_inj.1
  show BitVec.ofNat 64 (v * 256) ||| BitVec.ofNat 64 b = BitVec.ofNat 64 (v * 256 + b)
  have e : v * 256 + b = v * 256 ||| b := by
    have := Nat.two_pow_add_eq_or_of_lt (i := 8) (b := b) hb v
    rw [show 2 ^ 8 * v = v * 256 by omega] at this
    exact this
  rw [e]
  apply BitVec.eq_of_getLsbD_eq
  intro i hi
  simp [hi]
theorem lgc {a b : Nat} (ha : a < 2 ^ 63) (hb : b < 2 ^ 63) : lg_cmp (lN a) (lN b) = 0 ↔ a = b := by
  unfold lg_cmp
  by_cases c : b < a
  · rw [if_pos ((pk_lLT hb ha).2 c)]
    exact ⟨fun z => absurd z (by decide), fun z => by omega⟩
  · rw [if_neg (fun z => c ((pk_lLT hb ha).1 z))]
    by_cases e : a = b
    · rw [if_pos ((pk_lEQ ha hb).2 e)]
      exact ⟨fun _ => e, fun _ => rfl⟩
    · rw [if_neg (fun z => e ((pk_lEQ ha hb).1 z))]
      exact ⟨fun z => absurd z (by decide), fun z => absurd z e⟩
def wC (k : Nat) : Nat := [123581014175598, 1751217253, 1870095731, 7563636, 1818586724, 7364985, 28832984776406629, 126896627347060, 499850701683, 1752135026, 8390038316256879986, 418497262196].getD k 0
def wL (k : Nat) : Nat := sLen.getD k 0
def cdN (k q : Nat) : Nat := ((sByt.getD k []).getD q 0).toNatClampNeg
theorem cd_all : ∀ k, k < 12 → ∀ q, q < 8 → q < wL k → sch k q = nI (cdN k q) ∧ 97 ≤ cdN k q ∧ cdN k q ≤ 122 := by decide +kernel
theorem wL_all : ∀ k, k < 12 → 0 < wL k ∧ wL k ≤ 8 ∧ wC k = numk 256 (cdN k) (wL k) ∧ wC k < 2 ^ 63 ∧ 0 < wC k := by decide +kernel
/-- a row of letters is not less than a longer one's first place -/
theorem numk_lo {r : Nat → Nat} : ∀ k, (∀ q, q < k + 1 → 0 < r q) → 256 ^ k ≤ numk 256 r (k + 1) := by
  intro k
  induction k with
  | zero => intro h; rw [numk_succ]; have := h 0 (by omega); show 1 ≤ _; omega
  | succ k ih =>
    intro h
    have h1 := ih (fun q hq => h q (by omega))
    rw [numk_succ, Nat.pow_succ]
    exact Nat.le_trans (Nat.mul_le_mul_right 256 h1) (Nat.le_add_right _ _)
theorem numk_ne {r s : Nat → Nat} {j k : Nat} (hj : 0 < j) (hk : 0 < k) (hr : ∀ q, q < j → 0 < r q ∧ r q < 256) (hs : ∀ q, q < k → 0 < s q ∧ s q < 256) (e : numk 256 r j = numk 256 s k) : j = k := by
  have key : ∀ (r s : Nat → Nat) (j k : Nat), j < k → (∀ q, q < j → r q < 256) → (∀ q, q < k → 0 < s q) → numk 256 r j < numk 256 s k := by
    intro r s j k hjk hr hs
    have h1 := numk_bd j hr
    obtain ⟨k', rfl⟩ : ∃ k', k = k' + 1 := ⟨k - 1, by omega⟩
    have h2 := numk_lo k' hs
    have h3 : 256 ^ j ≤ 256 ^ k' := Nat.pow_le_pow_right (by decide) (by omega)
    omega
  rcases Nat.lt_trichotomy j k with c | c | c
  · have := key r s j k c (fun q hq => (hr q hq).2) (fun q hq => (hs q hq).1); omega
  · exact c
  · have := key s r k j c (fun q hq => (hs q hq).2) (fun q hq => (hr q hq).1); omega
def kM (k : Nat) : Nat := [0, 2, 3, 4, 1].getD k 0
section TOK
variable {fu L : Nat} {B : Nat → Nat} {tape mt : FN}
def tokC (fu : Nat) (tape : FN) (L i a b k v : Nat) : Prop := ∀ st0 tk0 v0 : Int32, ∃ vc, f_X5_takeToken fu tape (nI L) (nI i) st0 tk0 v0 = some (nI b, nI a, nI k, vc) ∧ (k = 2 → vc = nI v)
def tokM (fu : Nat) (mt : FN) (L i a b k v : Nat) (w : Int64) : Prop := ∀ (bg0 so0 v0 : Int32) (w0 : Int64), ∃ vm, f_X12_token fu mt (nI i) (nI L) bg0 so0 v0 w0 = some (nI b, nI a, nI (kM k), vm, w) ∧ (k = 2 → vm = nI v)
def wrd (fu : Nat) (tape : FN) (a b : Nat) (w : Int64) : Prop := ∀ k, k < 12 → (f_X5_isWord fu tape (nI b) (nI a) k = some 1 ∧ lg_cmp w (lN (wC k)) = 0) ∨ (f_X5_isWord fu tape (nI b) (nI a) k = some 0 ∧ ¬ lg_cmp w (lN (wC k)) = 0)
theorem e_see (hB : ∀ i, i < L → B i < 256 ∧ mt i = sbN (B i)) (hL : L ≤ 600) {i : Nat} (hi : i ≤ L) : f_X12_see fu mt (nI i) (nI L) = some (if i < L then nI (B i) else -1) := by
  unfold f_X12_see
  by_cases c : i < L
  · obtain ⟨b1, b2⟩ := hB i c
    rw [if_neg (nI_ge c (by omega)), if_pos c, rdi_n (show i < 2400 by omega) (by decide) b2, bnd_some, sb_and _ b1]
  · rw [if_pos (nI_le (by omega) (by omega)), if_neg c]
theorem e_let (hB : ∀ i, i < L → B i < 256 ∧ tape i = sbN (B i)) {i : Nat} (hi : i < L) : f_X5_isLetter fu (sbN (B i)) = some (if 97 ≤ B i ∧ B i ≤ 122 then 1 else 0) := sb_let (B i) (hB i hi).1
theorem e_isWord (hB : ∀ i, i < L → B i < 256 ∧ tape i = sbN (B i)) (hL : L ≤ 600) {a b k : Nat} (hab : a ≤ b) (hb : b ≤ L) (hk : k < 12) (hf : 100 ≤ fu) : (f_X5_isWord fu tape (nI b) (nI a) k = some 1 ∧ b - a = wL k ∧ ∀ q, q < wL k → B (a + q) = cdN k q) ∨ (f_X5_isWord fu tape (nI b) (nI a) k = some 0 ∧ ¬ (b - a = wL k ∧ ∀ q, q < wL k → B (a + q) = cdN k q)) := by
  obtain ⟨w1, w2, -, -, -⟩ := wL_all k hk
  have sl : slen k = some (nI (wL k)) := by unfold slen; rw [if_pos hk]; rfl
  unfold f_X5_isWord
  rw [sl, bnd_some, pk_sub hab]
  by_cases c : b - a = wL k
  · rw [if_pos (by rw [c])]
    have hz := lp_all (fu := fu) (step := f_X5_isWord_L20 tape (nI a) k) (wL k) (fun q => B (a + q) == cdN k q) (fun q hq => by
      obtain ⟨d1, d2, d3'⟩ := cd_all k hk q (by omega) hq
      obtain ⟨b1, b2⟩ := hB (a + q) (by omega)
      have sc : schr k (nI q) = some (sch k q) := by
        unfold schr
        rw [if_pos hk]
        show (if nI q < 0 ∨ wL k ≤ (nI q).toNatClampNeg then none else some (sch k (nI q).toNatClampNeg)) = _
        rw [if_neg (nI_in hq (by omega)), nI_clamp (by omega)]
      simp only [f_X5_isWord_L20]
      rw [sl, bnd_some, if_neg (nI_ge hq (by omega)), nI_add, rdi_n (show a + q < 600 by omega) (by decide) b2, bnd_some, sc, bnd_some, d1, nI_1]
      by_cases e : B (a + q) = cdN k q
      · rw [if_pos ((sb_eq _ (by omega) _ b1).2 e), if_pos (beq_iff_eq.2 e)]
      · rw [if_neg (fun z => e ((sb_eq _ (by omega) _ b1).1 z)), if_neg (fun z => e (beq_iff_eq.1 z))]) (by
      simp only [f_X5_isWord_L20]
      rw [sl, bnd_some, if_pos (nI_le (Nat.le_refl _) (by omega))]) (by omega)
    rw [bnd_r hz]
    by_cases q : ((List.range (wL k)).all fun q => B (a + q) == cdN k q) = true
    · rw [if_pos q]
      exact Or.inl ⟨rfl, c, fun i hi => beq_iff_eq.1 (List.all_eq_true.1 q i (List.mem_range.2 hi))⟩
    · rw [if_neg q]
      exact Or.inr ⟨rfl, fun z => q (List.all_eq_true.2 (fun i hi => beq_iff_eq.2 (z.2 i (List.mem_range.1 hi))))⟩
  · rw [if_neg (fun z => c ((nI_eq (by omega) (by omega)).1 z))]
    exact Or.inr ⟨rfl, fun z => c z.1⟩
theorem e_wrd (hB : ∀ i, i < L → B i < 256 ∧ tape i = sbN (B i)) (hL : L ≤ 600) {a b : Nat} (hab : a < b) (hb : b ≤ L) (hl : ∀ q, a ≤ q → q < b → 97 ≤ B q ∧ B q ≤ 122) {w : Int64} (h1 : b - a ≤ 8 → w = lN (numk 256 (fun q => B (a + q)) (b - a))) (h2 : ¬ b - a ≤ 8 → w = 0) (hf : 100 ≤ fu) : wrd fu tape a b w := by
  intro k hk
  obtain ⟨w1, w2, w3, w4, w5⟩ := wL_all k hk
  by_cases c : b - a ≤ 8
  · have lt : numk 256 (fun q => B (a + q)) (b - a) < 2 ^ 63 := by
      obtain ⟨n, hn⟩ : ∃ n, b - a = n + 1 := ⟨b - a - 1, by omega⟩
      have : ∀ n, n < 8 → (∀ q, q < n + 1 → B (a + q) ≤ 122) → numk 256 (fun q => B (a + q)) (n + 1) < 123 * 256 ^ n := by
        intro n
        induction n with
        | zero => intro _ h; rw [numk_succ]; have := h 0 (by omega); show 0 * 256 + B (a + 0) < 123 * 1; omega
        | succ n ih =>
          intro hn h
          have i1 := ih (by omega) (fun q hq => h q (by omega))
          rw [numk_succ, Nat.pow_succ]
          have i2 := h (n + 1) (by omega)
          show _ * 256 + B (a + (n + 1)) < _
          omega
      have t := this n (by omega) (fun q hq => (hl (a + q) (by omega) (by omega)).2)
      rw [hn]
      have p : 256 ^ n ≤ 256 ^ 7 := Nat.pow_le_pow_right (by decide) (by omega)
      have p2 : 256 ^ 7 = 72057594037927936 := by decide
      omega
    rw [h1 c, lgc lt w4]
    rcases e_isWord (fu := fu) (tape := tape) hB hL (Nat.le_of_lt hab) hb hk hf with ⟨e1, e2, e3⟩ | ⟨e1, e2⟩
    · refine Or.inl ⟨e1, ?_⟩
      rw [w3, e2]
      exact numk_congr _ e3
    · refine Or.inr ⟨e1, fun z => e2 ?_⟩
      rw [w3] at z
      have hr : ∀ q, q < b - a → 0 < B (a + q) ∧ B (a + q) < 256 := fun q hq => by have := hl (a + q) (by omega) (by omega); omega
      have hs : ∀ q, q < wL k → 0 < cdN k q ∧ cdN k q < 256 := fun q hq => by have := cd_all k hk q (by omega) hq; omega
      have en := numk_ne (r := fun q => B (a + q)) (by omega) w1 hr hs z
      refine ⟨en, fun q hq => ?_⟩
      rw [en] at z
      exact numk_inj (wL k) (fun q hq => (hr q (by omega)).2) (fun q hq => (hs q hq).2) z q hq
  · rw [h2 c, show (0 : Int64) = lN 0 from rfl, lgc (by decide) w4]
    rcases e_isWord (fu := fu) (tape := tape) hB hL (Nat.le_of_lt hab) hb hk hf with ⟨e1, e2, e3⟩ | ⟨e1, e2⟩
    · omega
    · exact Or.inr ⟨e1, by omega⟩
end TOK
