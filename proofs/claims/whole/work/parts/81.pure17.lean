/-! ===== settled ===== -/
theorem fa_xor (a b : Nat) : nI a ^^^ nI b = nI (a ^^^ b) := by
  apply Int32.toBitVec_inj.1
  show BitVec.ofNat 32 a ^^^ BitVec.ofNat 32 b = BitVec.ofNat 32 (a ^^^ b)
  apply BitVec.eq_of_getLsbD_eq
  intro i hi
  simp [hi]
theorem xor1 : ∀ s, s < 64 → ∀ p, p < 6 → bi s p = 1 → (s ^^^ 2 ^ p) < s ∧ on (s ^^^ 2 ^ p) + 1 = on s := by decide +kernel
theorem xor2 : ∀ s, s < 64 → ∀ p, p < 6 → bi s p = 1 → ∀ q, q < 6 → (bi (s ^^^ 2 ^ p) q = if q = p then 0 else bi s q) := by decide +kernel
theorem on_ps : ∀ s, s < 64 → 0 < s → 0 < on s := by decide +kernel
theorem dif0 : ∀ s, s < 64 → ∀ g, g < 64 → ∀ j, j < 6 → (bi (s &&& (63 - g)) j = 1 ↔ bi s j = 1 ∧ bi g j = 0) := by decide +kernel
theorem or_ad : ∀ p, p < 6 → ∀ s, s < 2 ^ p → (2 ^ p ||| s) = 2 ^ p + s := by decide +kernel
theorem sm00 : ((List.range 64).all fun s => (List.range 64).all fun q => (q &&& s != q) || (List.range q).all fun g => (g &&& s != g) || Nat.ble g ((q - 1) &&& s)) = true := by decide +kernel
theorem sm0 {s q g : Nat} (hs : s < 64) (hq : q < 64) (h0 : q &&& s = q) (h : g &&& s = g) (hl : g < q) : g ≤ (q - 1) &&& s := by
  have h1 := List.all_eq_true.1 sm00 s (List.mem_range.2 hs)
  have h2 := List.all_eq_true.1 h1 q (List.mem_range.2 hq)
  rw [Bool.or_eq_true] at h2
  rcases h2 with z | z
  · simp [h0] at z
  · have h3 := List.all_eq_true.1 z g (List.mem_range.2 hl)
    rw [Bool.or_eq_true] at h3
    rcases h3 with z | z
    · simp [h] at z
    · exact Nat.le_of_ble_eq_true z
theorem bi_hi {s j : Nat} (h : s < 2 ^ j) : bi s j = 0 := by
  unfold bi
  rw [Nat.div_eq_of_lt h]
theorem bi_of {a b j i : Nat} (h : bt a j ↔ bt b i) : bi a j = bi b i := by
  rcases bi_01 a j with q | q
  · rcases bi_01 b i with q2 | q2
    · rw [q, q2]
    · exact absurd (h.2 q2) (bi0.1 q)
  · have q2 := h.1 q
    rw [show bi a j = 1 from q, show bi b i = 1 from q2]
/-- a sum of the people of a set -/
def sS (n : Nat) (o : Nat → Nat) (k s : Nat) : Int32 := fldN (fun j x => if bi s j = 0 then x else x + sNet n o j) 0 k 0
def cG (n : Nat) (o : Nat → Nat) : Nat → Nat → Nat
  | 0, _ => 0
  | k + 1, s => mx (fun p => bi s p == 1) (fun p => cG n o k (s ^^^ 2 ^ p)) n 0 + (if sS n o n s = 0 then 1 else 0)
def cS (n : Nat) (o : Nat → Nat) (s : Nat) : Nat := cG n o (on s) s
section STL
variable {fu n t p k s g : Nat} {w pu h o : Nat → Nat} {ow db : FN}
theorem sS_succ : sS n o (k + 1) s = if bi s k = 0 then sS n o k s else sS n o k s + sNet n o k := by
  unfold sS
  rw [fldN_succ, Nat.zero_add]
theorem sS_congr {s' : Nat} (h : ∀ j, j < k → bi s j = bi s' j) : sS n o k s = sS n o k s' := by
  unfold sS
  refine fldN_congr k 0 0 (fun i b _ hi => ?_)
  rw [h i (by omega)]
theorem sS_top (hs : s < 2 ^ k) : ∀ m, sS n o (k + m) s = sS n o k s := by
  intro m
  induction m with
  | zero => rfl
  | succ m ih =>
    rw [← Nat.add_assoc, sS_succ, if_pos (bi_hi (Nat.lt_of_lt_of_le hs (Nat.pow_le_pow_right (by decide) (by omega)))), ih]
theorem sS_0 : sS n o n 0 = 0 := by
  have := sS_top (n := n) (o := o) (k := 0) (s := 0) (by decide) n
  rw [Nat.zero_add] at this
  rw [this]
  rfl
theorem sS_or (hn : n ≤ 6) (hp : p < n) (hs : s < 2 ^ p) : sS n o n (2 ^ p ||| s) = sS n o n s + sNet n o p := by
  obtain ⟨m, hm⟩ : ∃ m, n = p + 1 + m := ⟨n - (p + 1), by omega⟩
  have l1 : 2 ^ p ||| s < 2 ^ (p + 1) := or_pow (pw_lt (by omega)) (Nat.lt_trans hs (pw_lt (by omega)))
  have e1 : sS n o n (2 ^ p ||| s) = sS n o (p + 1) (2 ^ p ||| s) := by
    have := sS_top (n := n) (o := o) l1 m
    rw [← hm] at this
    exact this
  have e2 : sS n o n s = sS n o p s := by
    have := sS_top (n := n) (o := o) hs (1 + m)
    rw [show p + (1 + m) = n by omega] at this
    exact this
  have b1 : bi (2 ^ p ||| s) p = 1 := (bt_or (a := 2 ^ p) (b := s) (j := p)).2 (Or.inl (bt_pow.2 rfl))
  rw [e1, e2, sS_succ, if_neg (by rw [b1]; decide), sS_congr (s' := s) (fun j hj => bi_of ?_)]
  rw [bt_or, bt_pow]
  exact ⟨fun z => z.elim (fun e => absurd e (by omega)) id, Or.inr⟩
theorem i_ac1 (a b x : Int32) : a + b + x = a + x + b := by rw [Int32.add_assoc, Int32.add_comm b x, ← Int32.add_assoc]
theorem sS_dif (hs : s < 64) (hg : g < 64) (hsub : sub g s) : ∀ k, k ≤ 6 → sS n o k s = sS n o k g + sS n o k (s &&& (63 - g)) := by
  intro k
  induction k with
  | zero => intro _; rfl
  | succ k ih =>
    intro hk
    have ih := ih (by omega)
    have d := dif0 s hs g hg k (by omega)
    rw [sS_succ, sS_succ, sS_succ]
    rcases bi_01 s k with q | q
    · have q2 : bi g k = 0 := bi0.2 (fun z => (bi0.1 q) (hsub k z))
      have q3 : bi (s &&& (63 - g)) k = 0 := bi0.2 (fun z => (bi0.1 q) (d.1 z).1)
      rw [if_pos q, if_pos q2, if_pos q3, ih]
    · have q' : ¬ bi s k = 0 := fun z => (bi0.1 z) q
      rcases bi_01 g k with q2 | q2
      · have q3 : ¬ bi (s &&& (63 - g)) k = 0 := fun z => (bi0.1 z) (d.2 ⟨q, q2⟩)
        rw [if_neg q', if_pos q2, if_neg q3, ih, Int32.add_assoc]
      · have q2' : ¬ bi g k = 0 := fun z => (bi0.1 z) q2
        have q3 : bi (s &&& (63 - g)) k = 0 := bi0.2 (fun z => q2' (d.1 z).2)
        rw [if_neg q', if_neg q2', if_pos q3, ih, i_ac1]
theorem cG_le : ∀ k s, cG n o k s ≤ k := by
  intro k
  induction k with
  | zero => intro s; exact Nat.le_refl _
  | succ k ih =>
    intro s
    have h1 : mx (fun p => bi s p == 1) (fun p => cG n o k (s ^^^ 2 ^ p)) n 0 ≤ k := mx_le n (Nat.zero_le _) (fun b _ _ => ih _)
    show mx (fun p => bi s p == 1) (fun p => cG n o k (s ^^^ 2 ^ p)) n 0 + (if sS n o n s = 0 then 1 else 0) ≤ k + 1
    split <;> omega
theorem cS_le (hn : n ≤ 6) (hs : s < 2 ^ n) : cS n o s ≤ 6 := by
  have h1 := cG_le (n := n) (o := o) (on s) s
  have h2 := on_le0 n hn s hs
  unfold cS
  omega
theorem cS_0 : cS n o 0 = 0 := rfl
theorem cS_s (hn : n ≤ 6) (hs : s < 2 ^ n) (h0 : 0 < s) : cS n o s = mx (fun p => bi s p == 1) (fun p => cS n o (s ^^^ 2 ^ p)) n 0 + (if sS n o n s = 0 then 1 else 0) := by
  have h64 := pw64 hn
  obtain ⟨k, hk⟩ : ∃ k, on s = k + 1 := ⟨on s - 1, by have := on_ps s (by omega) h0; omega⟩
  have e : mx (fun p => bi s p == 1) (fun p => cG n o k (s ^^^ 2 ^ p)) n 0 = mx (fun p => bi s p == 1) (fun p => cS n o (s ^^^ 2 ^ p)) n 0 := by
    refine mx_congr n (fun p hp hc => ?_)
    have h2 := (xor1 s (by omega) p (by omega) (by simpa using hc)).2
    show cG n o k (s ^^^ 2 ^ p) = cG n o (on (s ^^^ 2 ^ p)) (s ^^^ 2 ^ p)
    rw [show on (s ^^^ 2 ^ p) = k by omega]
  rw [← e]
  unfold cS
  rw [hk]
  rfl
theorem sub_x (hs : s < 64) (hp : p < 6) (hb : bt s p) {T : Nat} (hT : T < 64) (h1 : sub T s) (h2 : ¬ bt T p) : sub T (s ^^^ 2 ^ p) := by
  intro j hj
  have hj6 : j < 6 := bt_lt (n := 6) hT hj
  have := xor2 s hs p hp hb j hj6
  rw [if_neg (fun e => h2 (by rw [← e]; exact hj))] at this
  show bi (s ^^^ 2 ^ p) j = 1
  rw [this]
  exact h1 j hj
theorem cS_mono (hn : n ≤ 6) : ∀ m s T, s < m → s < 2 ^ n → sub T s → T < 2 ^ n → cS n o T ≤ cS n o s := by
  have h64 := pw64 hn
  intro m
  induction m with
  | zero => intro s T h; exact absurd h (Nat.not_lt_zero _)
  | succ m ih =>
    intro s T hm hs h1 hT
    by_cases e : ∀ j, bt s j → bt T j
    · rw [bt_ext (fun j => ⟨h1 j, e j⟩)]
      exact Nat.le_refl _
    · obtain ⟨j, hj⟩ := Classical.not_forall.1 e
      obtain ⟨q1, q2⟩ := Classical.not_imp.1 hj
      have hjn : j < n := bt_lt hs q1
      have x1 := (xor1 s (by omega) j (by omega) q1).1
      have s0 : 0 < s := by omega
      have := ih (s ^^^ 2 ^ j) T (by omega) (by omega) (sub_x (by omega) (by omega) q1 (by omega) h1 q2) hT
      rw [cS_s hn hs s0]
      have g1 := mx_ge (c := fun p => bi s p == 1) (f := fun p => cS n o (s ^^^ 2 ^ p)) (x := 0) n j hjn (beq_iff_eq.2 q1)
      have g1 : cS n o (s ^^^ 2 ^ j) ≤ mx (fun p => bi s p == 1) (fun p => cS n o (s ^^^ 2 ^ p)) n 0 := g1
      omega
theorem cS_att (hn : n ≤ 6) : ∀ m s, s < m → s < 2 ^ n → ∃ T, sub T s ∧ T < 2 ^ n ∧ sS n o n T = 0 ∧ cS n o T = cS n o s := by
  have h64 := pw64 hn
  intro m
  induction m with
  | zero => intro s h; exact absurd h (Nat.not_lt_zero _)
  | succ m ih =>
    intro s hm hs
    by_cases z : sS n o n s = 0
    · exact ⟨s, fun _ q => q, hs, z, rfl⟩
    · have s0 : 0 < s := by
        rcases Nat.eq_zero_or_pos s with e | e
        · rw [e] at z; exact absurd sS_0 z
        · exact e
      have e1 := cS_s (o := o) hn hs s0
      rw [if_neg z, Nat.add_zero] at e1
      rcases mx_at (c := fun p => bi s p == 1) (f := fun p => cS n o (s ^^^ 2 ^ p)) (x := 0) n with q | ⟨b, b1, b2, b3⟩
      · exact ⟨0, fun j hj => absurd hj bt_0, Nat.two_pow_pos n, sS_0, by rw [e1, q]; rfl⟩
      · have b2 : bi s b = 1 := by simpa using b2
        have x1 := (xor1 s (by omega) b (by omega) b2).1
        obtain ⟨T, t1, t2, t3, t4⟩ := ih (s ^^^ 2 ^ b) (by omega) (by omega)
        refine ⟨T, fun j hj => ?_, t2, t3, by rw [t4, e1, b3]⟩
        have hj6 : j < 6 := bt_lt (n := 6) (show T < 2 ^ 6 by omega) hj
        have u := t1 j hj
        have u : bi (s ^^^ 2 ^ b) j = 1 := u
        rw [xor2 s (by omega) b (by omega) b2 j hj6] at u
        by_cases e : j = b
        · rw [if_pos e] at u; exact absurd u (by decide)
        · rw [if_neg e] at u; exact u
theorem dif_lt (hs : s < 64) (hg : g < 64) (h0 : 0 < g) (hsub : sub g s) : (s &&& (63 - g)) < s := by
  have h1 : (s &&& (63 - g)) ≤ s := Nat.and_le_left
  have h2 : (s &&& (63 - g)) ≠ s := by
    intro e
    obtain ⟨p, hp, hb⟩ : ∃ p, p < 6 ∧ bt g p := by
      by_cases q : ∃ p, p < 6 ∧ bt g p
      · exact q
      · exfalso
        have : g = 0 := bt_ext (fun j => ⟨fun z => absurd ⟨j, bt_lt (n := 6) hg z, z⟩ q, fun z => absurd z bt_0⟩)
        omega
    have d := dif0 s hs g hg p hp
    rw [e] at d
    have := (d.1 (hsub p hb)).2
    exact (bi0.1 this) hb
  omega
theorem dif_sub (hs : s < 64) (hg : g < 64) : sub (s &&& (63 - g)) s := by
  intro j hj
  have hj6 : j < 6 := bt_lt (n := 6) (Nat.lt_of_le_of_lt Nat.and_le_left hs) hj
  exact ((dif0 s hs g hg j hj6).1 hj).1
/-- no heap that comes to nothing is worth more -/
theorem cS_up (hn : n ≤ 6) (hs : s < 2 ^ n) (hz : sS n o n s = 0) (h0 : 0 < g) (hsub : sub g s) (hg : g < 64) : 1 + cS n o (s &&& (63 - g)) ≤ cS n o s := by
  have h64 := pw64 hn
  obtain ⟨p, hp, hb⟩ : ∃ p, p < 6 ∧ bt g p := by
    by_cases q : ∃ p, p < 6 ∧ bt g p
    · exact q
    · exfalso
      have : g = 0 := bt_ext (fun j => ⟨fun z => absurd ⟨j, bt_lt (n := 6) hg z, z⟩ q, fun z => absurd z bt_0⟩)
      omega
  have hbs := hsub p hb
  have hpn := bt_lt hs hbs
  have s0 : 0 < s := by
    rcases Nat.eq_zero_or_pos s with e | e
    · rw [e] at hbs; exact absurd hbs bt_0
    · exact e
  have x1 := (xor1 s (by omega) p hp hbs).1
  have dl : (s &&& (63 - g)) < 2 ^ n := Nat.lt_of_le_of_lt Nat.and_le_left hs
  have nb : ¬ bt (s &&& (63 - g)) p := fun z => (bi0.1 ((dif0 s (by omega) g hg p hp).1 z).2) hb
  have m1 := cS_mono (o := o) hn (2 ^ n) (s ^^^ 2 ^ p) (s &&& (63 - g)) (by omega) (by omega) (sub_x (by omega) hp hbs (by omega) (dif_sub (by omega) hg) nb) dl
  have g1 : cS n o (s ^^^ 2 ^ p) ≤ mx (fun p => bi s p == 1) (fun p => cS n o (s ^^^ 2 ^ p)) n 0 := mx_ge (c := fun p => bi s p == 1) (f := fun p => cS n o (s ^^^ 2 ^ p)) (x := 0) n p hpn (beq_iff_eq.2 hbs)
  rw [cS_s hn hs s0, if_pos hz]
  omega
theorem cS_ex (hn : n ≤ 6) (hs : s < 2 ^ n) (s0 : 0 < s) (hz : sS n o n s = 0) : ∃ g, 0 < g ∧ sub g s ∧ g ≤ s ∧ sS n o n g = 0 ∧ cS n o s ≤ 1 + cS n o (s &&& (63 - g)) := by
  have h64 := pw64 hn
  have e1 := cS_s (o := o) hn hs s0
  rw [if_pos hz] at e1
  rcases mx_at (c := fun p => bi s p == 1) (f := fun p => cS n o (s ^^^ 2 ^ p)) (x := 0) n with q | ⟨b, b1, b2, b3⟩
  · exact ⟨s, s0, fun _ z => z, Nat.le_refl _, hz, by rw [e1, q]; omega⟩
  · have b2 : bi s b = 1 := by simpa using b2
    have x1 := (xor1 s (by omega) b (by omega) b2).1
    obtain ⟨T, t1, t2, t3, t4⟩ := cS_att (o := o) hn (2 ^ n) (s ^^^ 2 ^ b) (by omega) (by omega)
    have tj : ∀ j, bt T j → bt s j ∧ j ≠ b := by
      intro j hj
      have hj6 : j < 6 := bt_lt (n := 6) (show T < 2 ^ 6 by omega) hj
      have u : bi (s ^^^ 2 ^ b) j = 1 := t1 j hj
      rw [xor2 s (by omega) b (by omega) b2 j hj6] at u
      by_cases e : j = b
      · rw [if_pos e] at u; exact absurd u (by decide)
      · rw [if_neg e] at u; exact ⟨u, e⟩
    have hT : sub T s := fun j hj => (tj j hj).1
    have gb : bt (s &&& (63 - T)) b := (dif0 s (by omega) T (by omega) b (by omega)).2 ⟨b2, bi0.2 (fun z => (tj b z).2 rfl)⟩
    have gl : (s &&& (63 - T)) < 64 := Nat.lt_of_le_of_lt Nat.and_le_left (by omega)
    have ez := sS_dif (n := n) (o := o) (s := s) (g := T) (by omega) (by omega) hT n hn
    have back : s &&& (63 - (s &&& (63 - T))) = T := by
      apply bt_ext
      intro j
      by_cases hj6 : j < 6
      · have d1 := dif0 s (by omega) (s &&& (63 - T)) gl j hj6
        have d2 := dif0 s (by omega) T (by omega) j hj6
        constructor
        · intro z
          obtain ⟨u1, u2⟩ := d1.1 z
          rcases bi_01 T j with v | v
          · exact absurd (d2.2 ⟨u1, v⟩) (bi0.1 u2)
          · exact v
        · intro z
          exact d1.2 ⟨hT j z, bi0.2 (fun u => (bi0.1 (d2.1 u).2) z)⟩
      · constructor
        · intro z; exact absurd (bt_lt (n := 6) (Nat.lt_of_le_of_lt Nat.and_le_left (by omega)) z) hj6
        · intro z; exact absurd (bt_lt (n := 6) (show T < 2 ^ 6 by omega) z) hj6
    refine ⟨s &&& (63 - T), ?_, dif_sub (by omega) (by omega), Nat.and_le_left, ?_, ?_⟩
    · rcases Nat.eq_zero_or_pos (s &&& (63 - T)) with e | e
      · rw [e] at gb; exact absurd gb bt_0
      · exact e
    · rw [hz, t3] at ez
      rw [Int32.zero_add] at ez
      exact ez.symm
    · rw [back, e1, b3, t4]
      omega
/-- all nets together come to nothing -/
theorem su_succ {f : Nat → Nat} (n : Nat) : fldN (fun j x => x + f j) 0 (n + 1) 0 = fldN (fun j x => x + f j) 0 n 0 + f n := by rw [fldN_succ, Nat.zero_add]
theorem su_add {f g : Nat → Nat} : ∀ n, fldN (fun j x => x + (f j + g j)) 0 n 0 = fldN (fun j x => x + f j) 0 n 0 + fldN (fun j x => x + g j) 0 n 0 := by
  intro n
  induction n with
  | zero => rfl
  | succ n ih =>
    rw [su_succ (f := f), su_succ (f := g), su_succ (f := fun j => f j + g j), ih]
    omega
theorem su_swap {F : Nat → Nat → Nat} (m : Nat) : ∀ n, fldN (fun p x => x + fldN (fun j x => x + F p j) 0 m 0) 0 n 0 = fldN (fun j x => x + fldN (fun p x => x + F p j) 0 n 0) 0 m 0 := by
  intro n
  induction n with
  | zero => exact (sum_zero (f := fun _ => 0) m 0 (fun _ _ _ => rfl)).symm
  | succ n ih =>
    rw [su_succ (f := fun p => fldN (fun j x => x + F p j) 0 m 0), ih, ← su_add (f := fun j => fldN (fun p x => x + F p j) 0 n 0) (g := fun j => F n j)]
    refine fldN_congr m 0 0 (fun i b _ _ => ?_)
    rw [su_succ (f := fun p => F p i)]
theorem sub4 (x y u v : Int32) : x - y + (u - v) = x + u - (y + v) := by
  rw [Int32.sub_eq_add_neg x y, Int32.sub_eq_add_neg u v, Int32.sub_eq_add_neg (x + u), Int32.neg_add, Int32.sub_eq_add_neg (-y) v, Int32.add_assoc x (-y), ← Int32.add_assoc (-y) u, Int32.add_comm (-y) u, Int32.add_assoc u, ← Int32.add_assoc x u]
theorem sS_all (hn : n ≤ 6) : sS n o n (2 ^ n - 1) = 0 := by
  have key : ∀ k, k ≤ n → sS n o k (2 ^ n - 1) = nI (fldN (fun p x => x + sOwed n o p) 0 k 0) - nI (fldN (fun p x => x + sOwes n o p) 0 k 0) := by
    intro k
    induction k with
    | zero => intro _; show (0 : Int32) = nI 0 - nI 0; decide
    | succ k ih =>
      intro hk
      rw [sS_succ, if_neg (by rw [ful_bi n hn k (by omega)]; decide), ih (by omega), su_succ (f := sOwed n o), su_succ (f := sOwes n o), ← nI_add, ← nI_add]
      exact sub4 _ _ _ _
  rw [key n (Nat.le_refl n)]
  have e : fldN (fun p x => x + sOwed n o p) 0 n 0 = fldN (fun p x => x + sOwes n o p) 0 n 0 := su_swap (F := fun p j => o (6 * j + p)) n n
  rw [e]
  simp
end STL
