/-! ===== the law: its arguments, a call of both, its loop's step ===== -/
/-- what stands in the law from its entry on -/
def LawCx (p : Program) (s : State) (m : MethodId) (c : Code) (D : va_G) (g : Nat → ClassId) (z : Nat → Nat) (A : Nat → Prop) (b L : Nat) (xs : Nat → Int32) : Prop :=
  CallFix p m c cL_law 4 s #[Value.ref b] lw_w RL ∧ va_K D gCl (gy g) s ∧ Ex z A s s.heap ∧ Nz s ∧ (∀ q : Nat, s.heap.size ≤ q → A q) ∧ va_X b L xs s s.heap ∧ b < s.heap.size ∧ ¬ A b ∧ L ≤ 3072
def bN (x : Int32) : Int32 := if x = 0 then 0 else 1
section LAW
variable {p : Program} {l : Launch} {e : Env} {s : State} {m : MethodId} {below : List Frame} {meth : Method} {c : Code} {D : va_G} {g : Nat → ClassId} {z : Nat → Nat} {A : Nat → Prop} {b L : Nat} {xs : Nat → Int32} {H : Heap} {locs : List Loc} {cells slots : Nat} {Q : State → Prop} {ls : Array Slot} {rest : List Value} {pc h0 h1 i : Nat}
theorem law_arg {k : Nat} {kn : Int} (X : LawCx p s m c D g z A b L xs) (hS : va_S A s.heap H locs) (hl : lv_has ls 4 [(0, .ref b), (1, .ref h0), (2, .ref h1), (3, .int (nI i))]) (hi : i + 6 ≤ L) (hk : k ≤ 5) (hkn : Int32.ofInt kn = nI k) (d0 : decode cL_law pc = .ok (.aload_n 0, 1)) (d1 : decode cL_law (pc + 1) = .ok (.iload_n 3, 1)) (d2 : decode cL_law (pc + 2) = .ok (.iconst kn, 1)) (d3 : decode cL_law (pc + 3) = .ok (.iadd, 1)) (d4 : decode cL_law (pc + 4) = .ok (.iaload, 1))
    (kk : W p l e room_1 s m #[Value.ref b] below meth c H locs cells slots Q (F0 m (pc + 5) ls (.int (xs (i + k)) :: rest))) : W p l e room_1 s m #[Value.ref b] below meth c H locs cells slots Q (F0 m pc ls rest) := by
  obtain ⟨S, hK, hX, hN, hA, hx, hb, hbA, hL⟩ := X
  refine lv_aload_n S.1 S.2.1 d0 rfl (lv_at hl 0 rfl) ?_
  refine lv_iload_n S.1 S.2.1 d1 rfl (lv_at hl 3 rfl) ?_
  refine lv_iconst (v := nI k) S.1 S.2.1 d2 hkn ?_
  refine lv_iadd S.1 S.2.1 d3 ?_
  rw [nI_add]
  refine va_sld S.1 S.2.1 hx hb hbA hS (vp_in_nI (show i + k < L by omega) (by omega)) d4 ?_
  rw [nI_clamp (by omega)]
  exact kk
theorem law_argb {k : Nat} {kn : Int} (X : LawCx p s m c D g z A b L xs) (hS : va_S A s.heap H locs) (hl : lv_has ls 4 [(0, .ref b), (1, .ref h0), (2, .ref h1), (3, .int (nI i))]) (hi : i + 6 ≤ L) (hk : k ≤ 5) (hkn : Int32.ofInt kn = nI k) (d0 : decode cL_law pc = .ok (.aload_n 0, 1)) (d1 : decode cL_law (pc + 1) = .ok (.iload_n 3, 1)) (d2 : decode cL_law (pc + 2) = .ok (.iconst kn, 1)) (d3 : decode cL_law (pc + 3) = .ok (.iadd, 1)) (d4 : decode cL_law (pc + 4) = .ok (.iaload, 1))
    (d5 : decode cL_law (pc + 5) = .ok (.ifCond .eq 7, 3)) (d6 : decode cL_law (pc + 8) = .ok (.iconst 1, 1)) (d7 : decode cL_law (pc + 9) = .ok (.goto 4, 3)) (d8 : decode cL_law (pc + 12) = .ok (.iconst 0, 1))
    (kk : W p l e room_1 s m #[Value.ref b] below meth c H locs cells slots Q (F0 m (pc + 13) ls (.int (bN (xs (i + k))) :: rest))) : W p l e room_1 s m #[Value.ref b] below meth c H locs cells slots Q (F0 m pc ls rest) := by
  refine law_arg X hS hl hi hk hkn d0 d1 d2 d3 d4 ?_
  have S := X.1
  refine lv_if_eq (tgt := pc + 12) S.1 S.2.1 d5 (by omega) (fun h => ?_) (fun h => ?_)
  · refine lv_iconst (v := 0) S.1 S.2.1 d8 (by decide) ?_
    have e : bN (xs (i + k)) = 0 := if_pos h
    rw [e] at kk
    exact kk
  · refine lv_iconst (v := 1) S.1 S.2.1 d6 (by decide) ?_
    refine lv_goto (tgt := pc + 13) S.1 S.2.1 d7 (by omega) ?_
    have e : bN (xs (i + k)) = 1 := if_neg h
    rw [e] at kk
    exact kk
/-- a way to lay arguments on the stack -/
def Loads (l : Launch) (e : Env) (p : Program) (s : State) (m : MethodId) (b : Nat) (below : List Frame) (meth : Method) (c : Code) (A : Nat → Prop) (Q : State → Prop) (ls : Array Slot) (pc pc2 : Nat) (As : List Value) : Prop :=
  ∀ (H : Heap) (locs : List Loc) (cells slots : Nat) (rest : List Value), va_S A s.heap H locs → W p l e room_1 s m #[Value.ref b] below meth c H locs cells slots Q (F0 m pc2 ls (As.reverse ++ rest)) → W p l e room_1 s m #[Value.ref b] below meth c H locs cells slots Q (F0 m pc ls rest)
theorem law_pair {α : Type} {V : α → Value} {ic ir : Nat} {As : List Value} {wc wm : va_W} {pc1 pc2 : Nat} (X : LawCx p s m c D g z A b L xs) (O : OpOk V l D g z h0 h1 ic ir As) (hV : ∀ x, (V x).category ≤ 2) (hI : Inv g h0 h1 wc wm) (hSt : St A s.heap D (wc ++ wm) H locs) (hl : lv_has ls 4 [(0, .ref b), (1, .ref h0), (2, .ref h1), (3, .int (nI i))]) (hr : cells + 24 ≤ room_1.cells ∧ slots + 1111 ≤ room_1.slots)
    (d0 : decode cL_law pc = .ok (.aload_n 1, 1)) (l1 : Loads l e p s m b below meth c A Q ls (pc + 1) pc1 As) (d1 : decode cL_law pc1 = .ok (.invokevirtual ic, 3)) (d2 : decode cL_law (pc1 + 3) = .ok (.aload_n 2, 1)) (l2 : Loads l e p s m b below meth c A Q ls (pc1 + 4) pc2 As) (d3 : decode cL_law pc2 = .ok (.invokevirtual ir, 3))
    (fin : ∀ (x : α) (wc' wm' : va_W) (H1 : Heap) (locs1 : List Loc), Inv g h0 h1 wc' wm' → St A s.heap D (wc' ++ wm') H1 locs1 → W p l e room_1 s m #[Value.ref b] below meth c H1 locs1 (cells + 24) (slots + 1111) Q (F0 m (pc2 + 3) ls [V x, V x])) :
    W p l e room_1 s m #[Value.ref b] below meth c H locs cells slots Q (F0 m pc ls []) := by
  have X0 := X
  obtain ⟨S, hK, hX, hN, hA, hx, hb, hbA, hL⟩ := X
  obtain ⟨r, PC, o1, o2⟩ := O wc wm hI
  refine lv_aload_n S.1 S.2.1 d0 rfl (lv_at hl 1 rfl) ?_
  refine l1 H locs cells slots [.ref h0] hSt.2.2 ?_
  refine o1 p e s m _ below meth c H locs cells slots Q pc1 ls [] wm A S hK hX hN hA hl.1 (by decide) hr d1 hSt (fun wc' H1 locs1 q1 q2 => ?_)
  refine lv_aload_n S.1 S.2.1 d2 rfl (lv_at hl 2 rfl) ?_
  refine l2 H1 locs1 _ _ [.ref h1, V r] q2.2.2 ?_
  refine o2 wc' q1 p e s m _ below meth c H1 locs1 _ _ Q pc2 ls [V r] wc' A S hK hX hN hA hl.1 (by have := hV r; show (V r).category + 0 ≤ 8; omega) hr d3 (q2.permL List.perm_append_comm) (fun wm' H2 locs2 q3 q4 => ?_)
  exact fin r wc' wm' H2 locs2 q3 (q4.permL List.perm_append_comm)
theorem law_eqI {off : Int} {x : Int32} (X : LawCx p s m c D g z A b L xs) (d : decode cL_law pc = .ok (.if_icmp .eq off, 3)) (ht : (pc : Int) + off = ((1744 : Nat) : Int)) (kk : W p l e room_1 s m #[Value.ref b] below meth c H locs cells slots Q (F0 m 1744 ls [])) : W p l e room_1 s m #[Value.ref b] below meth c H locs cells slots Q (F0 m pc ls [.int x, .int x]) :=
  lv_icmp_eq (tgt := 1744) X.1.1 X.1.2.1 d ht (fun _ => kk) (fun h => absurd rfl h)
theorem law_eqL {off : Int} {x : Int64} (X : LawCx p s m c D g z A b L xs) (d : decode cL_law pc = .ok (.lcmp, 1)) (d2 : decode cL_law (pc + 1) = .ok (.ifCond .eq off, 3)) (ht : ((pc + 1 : Nat) : Int) + off = ((1744 : Nat) : Int)) (kk : W p l e room_1 s m #[Value.ref b] below meth c H locs cells slots Q (F0 m 1744 ls [])) : W p l e room_1 s m #[Value.ref b] below meth c H locs cells slots Q (F0 m pc ls [.long x, .long x]) := by
  refine W.lcmp X.1.1 X.1.2.1 d ?_
  refine lv_if_eq (tgt := 1744) X.1.1 X.1.2.1 d2 ht (fun _ => kk) (fun h => absurd ?_ h)
  unfold lg_cmp
  rw [if_neg (show ¬ x < x from fun z => by have := Int64.lt_iff_toInt_lt.1 z; omega), if_pos rfl]
end LAW
