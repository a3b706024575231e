def f_X12_in (fu : Nat) (p1 : Int32) (p2 : Int32) (p3 : Int32) : Option (Int32) := if p1 < p2 then some (0 : Int32) else if p3 < p1 then some (0 : Int32) else some (1 : Int32)
set_option maxHeartbeats 4000000 in
set_option maxRecDepth 100000 in
theorem c_X12_in {l : Launch} {D : va_G} {g : Nat → ClassId} {fu : Nat} {p1 : Int32} {p2 : Int32} {p3 : Int32} {r : Int32} (hf : f_X12_in fu p1 p2 p3 = some r) : Rd l D (gy g) yX12_in cX12_in 3 (some .boolean) 0 [.int p1, .int p2, .int p3] ([] : va_W) (some (.int r)) := by
  refine Rd.ofZ (by decide) (Nat.le_of_ble_eq_true rfl) ?_
  intro p e s m args below meth c Q S hK hP hret ls hl
  have hl : lv_has ls 3 [(0, .int p1), (1, .int p2), (2, .int p3)] := hl
  refine lv_iload_n S.1 S.2.1 dX12_in_0 rfl (lv_at hl 0 rfl) ?_
  refine lv_iload_n S.1 S.2.1 dX12_in_1 rfl (lv_at hl 1 rfl) ?_
  refine lv_icmp_lt (tgt := 14) S.1 S.2.1 dX12_in_2 (by decide) (fun c_ => ?_) (fun c_ => ?_)
  · have hf := it_p c_ hf
    refine lv_iconst (v := 0) S.1 S.2.1 dX12_in_14 ic_0 ?_
    have e_ := Option.some.inj hf
    subst e_
    exact hret _ _ (Or.inl rfl) dX12_in_15
  · have hf := it_n c_ hf
    refine lv_iload_n S.1 S.2.1 dX12_in_5 rfl (lv_at hl 0 rfl) ?_
    refine lv_iload_n S.1 S.2.1 dX12_in_6 rfl (lv_at hl 2 rfl) ?_
    refine lv_icmp_gt (tgt := 14) S.1 S.2.1 dX12_in_7 (by decide) (fun c_ => ?_) (fun c_ => ?_)
    · have hf := it_p c_ hf
      refine lv_iconst (v := 0) S.1 S.2.1 dX12_in_14 ic_0 ?_
      have e_ := Option.some.inj hf
      subst e_
      exact hret _ _ (Or.inl rfl) dX12_in_15
    · have hf := it_n c_ hf
      refine lv_iconst (v := 1) S.1 S.2.1 dX12_in_10 ic_1 ?_
      refine lv_goto (tgt := 15) S.1 S.2.1 dX12_in_11 (by decide) ?_
      have e_ := Option.some.inj hf
      subst e_
      exact hret _ _ (Or.inr rfl) dX12_in_15
def f_X12_has (fu : Nat) (p1 : Int32) (p2 : Int32) : Option (Int32) := if ((jshr p1 p2) &&& (1 : Int32)) = (1 : Int32) then some (1 : Int32) else some (0 : Int32)
set_option maxHeartbeats 4000000 in
set_option maxRecDepth 100000 in
theorem c_X12_has {l : Launch} {D : va_G} {g : Nat → ClassId} {fu : Nat} {p1 : Int32} {p2 : Int32} {r : Int32} (hf : f_X12_has fu p1 p2 = some r) : Rd l D (gy g) yX12_has cX12_has 2 (some .boolean) 0 [.int p1, .int p2] ([] : va_W) (some (.int r)) := by
  refine Rd.ofZ (by decide) (Nat.le_of_ble_eq_true rfl) ?_
  intro p e s m args below meth c Q S hK hP hret ls hl
  have hl : lv_has ls 2 [(0, .int p1), (1, .int p2)] := hl
  refine lv_iload_n S.1 S.2.1 dX12_has_0 rfl (lv_at hl 0 rfl) ?_
  refine lv_iload_n S.1 S.2.1 dX12_has_1 rfl (lv_at hl 1 rfl) ?_
  refine lv_ishr S.1 S.2.1 dX12_has_2 ?_
  refine lv_iconst (v := 1) S.1 S.2.1 dX12_has_3 ic_1 ?_
  refine lv_iand S.1 S.2.1 dX12_has_4 ?_
  refine lv_iconst (v := 1) S.1 S.2.1 dX12_has_5 ic_1 ?_
  refine lv_icmp_ne (tgt := 13) S.1 S.2.1 dX12_has_6 (by decide) (fun c_ => ?_) (fun c_ => ?_)
  · have hf := it_n c_ hf
    refine lv_iconst (v := 0) S.1 S.2.1 dX12_has_13 ic_0 ?_
    have e_ := Option.some.inj hf
    subst e_
    exact hret _ _ (Or.inl rfl) dX12_has_14
  · have hf := it_p c_ hf
    refine lv_iconst (v := 1) S.1 S.2.1 dX12_has_9 ic_1 ?_
    refine lv_goto (tgt := 14) S.1 S.2.1 dX12_has_10 (by decide) ?_
    have e_ := Option.some.inj hf
    subst e_
    exact hret _ _ (Or.inr rfl) dX12_has_14
def f_X12_greater (fu : Nat) (p1 : Int32) (p2 : Int32) : Option (Int32) := if p1 ≤ p2 then some p2 else some p1
set_option maxHeartbeats 4000000 in
set_option maxRecDepth 100000 in
theorem c_X12_greater {l : Launch} {D : va_G} {g : Nat → ClassId} {fu : Nat} {p1 : Int32} {p2 : Int32} {r : Int32} (hf : f_X12_greater fu p1 p2 = some r) : Rd l D (gy g) yX12_greater cX12_greater 2 (some .int) 0 [.int p1, .int p2] ([] : va_W) (some (.int r)) := by
  refine Rd.ofI (by decide) (Nat.le_of_ble_eq_true rfl) ?_
  intro p e s m args below meth c Q S hK hP hret ls hl
  have hl : lv_has ls 2 [(0, .int p1), (1, .int p2)] := hl
  refine lv_iload_n S.1 S.2.1 dX12_greater_0 rfl (lv_at hl 0 rfl) ?_
  refine lv_iload_n S.1 S.2.1 dX12_greater_1 rfl (lv_at hl 1 rfl) ?_
  refine lv_icmp_le (tgt := 9) S.1 S.2.1 dX12_greater_2 (by decide) (fun c_ => ?_) (fun c_ => ?_)
  · have hf := it_p c_ hf
    refine lv_iload_n S.1 S.2.1 dX12_greater_9 rfl (lv_at hl 1 rfl) ?_
    have e_ := Option.some.inj hf
    subst e_
    exact hret _ _ dX12_greater_10
  · have hf := it_n c_ hf
    refine lv_iload_n S.1 S.2.1 dX12_greater_5 rfl (lv_at hl 0 rfl) ?_
    refine lv_goto (tgt := 10) S.1 S.2.1 dX12_greater_6 (by decide) ?_
    have e_ := Option.some.inj hf
    subst e_
    exact hret _ _ dX12_greater_10
def f_X12_lesser (fu : Nat) (p1 : Int32) (p2 : Int32) : Option (Int32) := if p2 ≤ p1 then some p2 else some p1
set_option maxHeartbeats 4000000 in
set_option maxRecDepth 100000 in
theorem c_X12_lesser {l : Launch} {D : va_G} {g : Nat → ClassId} {fu : Nat} {p1 : Int32} {p2 : Int32} {r : Int32} (hf : f_X12_lesser fu p1 p2 = some r) : Rd l D (gy g) yX12_lesser cX12_lesser 2 (some .int) 0 [.int p1, .int p2] ([] : va_W) (some (.int r)) := by
  refine Rd.ofI (by decide) (Nat.le_of_ble_eq_true rfl) ?_
  intro p e s m args below meth c Q S hK hP hret ls hl
  have hl : lv_has ls 2 [(0, .int p1), (1, .int p2)] := hl
  refine lv_iload_n S.1 S.2.1 dX12_lesser_0 rfl (lv_at hl 0 rfl) ?_
  refine lv_iload_n S.1 S.2.1 dX12_lesser_1 rfl (lv_at hl 1 rfl) ?_
  refine lv_icmp_ge (tgt := 9) S.1 S.2.1 dX12_lesser_2 (by decide) (fun c_ => ?_) (fun c_ => ?_)
  · have hf := it_p c_ hf
    refine lv_iload_n S.1 S.2.1 dX12_lesser_9 rfl (lv_at hl 1 rfl) ?_
    have e_ := Option.some.inj hf
    subst e_
    exact hret _ _ dX12_lesser_10
  · have hf := it_n c_ hf
    refine lv_iload_n S.1 S.2.1 dX12_lesser_5 rfl (lv_at hl 0 rfl) ?_
    refine lv_goto (tgt := 10) S.1 S.2.1 dX12_lesser_6 (by decide) ?_
    have e_ := Option.some.inj hf
    subst e_
    exact hret _ _ dX12_lesser_10
def f_X12_ones_L4 (fu : Nat) (p1 : Int32) (s2 : Int32 × Int32) : Option ((Int32 × Int32) ⊕ (Int32)) := if (6 : Int32) ≤ s2.2 then some (.inr s2.1) else bnd (α := Int32) (f_X12_has fu p1 s2.2) (fun x5 => if x5 = 0 then ltn (s2.1 + (0 : Int32)) (fun x6 => some (.inl (x6, (s2.2 + 1)))) else ltn (s2.1 + (1 : Int32)) (fun x7 => some (.inl (x7, (s2.2 + 1)))))
def f_X12_ones (fu : Nat) (p1 : Int32) : Option (Int32) := bnd (α := Int32) (lp (f_X12_ones_L4 fu p1) fu ((0 : Int32), (0 : Int32))) (fun v8 => some v8)
set_option maxHeartbeats 4000000 in
set_option maxRecDepth 100000 in
theorem c_X12_ones {l : Launch} {D : va_G} {g : Nat → ClassId} {fu : Nat} {p1 : Int32} {r : Int32} (hf : f_X12_ones fu p1 = some r) : Rd l D (gy g) yX12_ones cX12_ones 3 (some .int) 1 [.int p1] ([] : va_W) (some (.int r)) := by
  refine Rd.ofI (by decide) (Nat.le_of_ble_eq_true rfl) ?_
  intro p e s m args below meth c Q S hK hP hret ls hl
  have hl : lv_has ls 3 [(0, .int p1)] := hl
  refine lv_iconst (v := 0) S.1 S.2.1 dX12_ones_0 ic_0 ?_
  refine lv_istore_n (lv' := [(1, .int (0 : Int32)), (0, .int p1)]) S.1 S.2.1 dX12_ones_1 rfl hl (by decide) rfl (fun ls hl => ?_)
  refine lv_iconst (v := 0) S.1 S.2.1 dX12_ones_2 ic_0 ?_
  refine lv_istore_n (lv' := [(2, .int (0 : Int32)), (1, .int (0 : Int32)), (0, .int p1)]) S.1 S.2.1 dX12_ones_3 rfl hl (by decide) rfl (fun ls hl => ?_)
  obtain ⟨x3, hf_, hk3⟩ := bnd_e hf
  have hE3 : ∀ (v8 : Int32), v8 = x3 → ∀ (ls : Array Slot), lv_has ls 3 [(1, .int v8)] → W p l e (rmD 1) s m args below meth c s.heap [] 0 0 Q (F0 m 32 ls []) := by
    intro v8 e_ ls hl
    subst e_
    have hf := hk3
    refine lv_iload_n S.1 S.2.1 dX12_ones_32 rfl (lv_at hl 0 rfl) ?_
    have e_ := Option.some.inj hf
    subst e_
    exact hret _ _ dX12_ones_33
  refine lp_ind (P := fun (s2 : Int32 × Int32) => ∀ (ls : Array Slot), lv_has ls 3 [(0, .int p1), (1, .int s2.1), (2, .int s2.2)] → W p l e (rmD 1) s m args below meth c s.heap [] 0 0 Q (F0 m 4 ls [])) ?_ _ _ hf_ _ (lv_sub hl [2, 1, 0] rfl)
  intro s2 x4 hf hI3 hR3 ls hl
  refine lv_iload_n S.1 S.2.1 dX12_ones_4 rfl (lv_at hl 2 rfl) ?_
  refine lv_bipush (v := 6) S.1 S.2.1 dX12_ones_5 bp_6 ?_
  refine lv_icmp_ge (tgt := 32) S.1 S.2.1 dX12_ones_7 (by decide) (fun c_ => ?_) (fun c_ => ?_)
  · have hf := it_p c_ hf
    have e_ := hR3 _ (Option.some.inj hf).symm
    exact hE3 _ e_ _ (lv_sub hl [1] rfl)
  · have hf := it_n c_ hf
    refine lv_iload_n S.1 S.2.1 dX12_ones_10 rfl (lv_at hl 1 rfl) ?_
    refine lv_iload_n S.1 S.2.1 dX12_ones_11 rfl (lv_at hl 0 rfl) ?_
    refine lv_iload_n S.1 S.2.1 dX12_ones_12 rfl (lv_at hl 2 rfl) ?_
    obtain ⟨x5, hx5, hf⟩ := bnd_e hf
    refine Rd.cS (c_X12_has hx5) S hK va_P.nil kSX12_82 rfl hl.1 [.int s2.1] rfl (Nat.le_of_ble_eq_true rfl) ⟨(Nat.le_of_ble_eq_true rfl), (Nat.le_of_ble_eq_true rfl)⟩ ⟨(Nat.zero_le _), (Nat.zero_le _)⟩ dX12_ones_13 ?_
    refine lv_if_eq (tgt := 23) S.1 S.2.1 dX12_ones_16 (by decide) (fun c_ => ?_) (fun c_ => ?_)
    · have hf := it_p c_ hf
      refine lv_iconst (v := 0) S.1 S.2.1 dX12_ones_23 ic_0 ?_
      refine lv_iadd S.1 S.2.1 dX12_ones_24 ?_
      refine lv_topi (fun x6 ex6 => ?_)
      have hf := ltn_e hf ex6
      refine lv_istore_n (lv' := [(1, .int x6), (0, .int p1), (2, .int s2.2)]) S.1 S.2.1 dX12_ones_25 rfl hl (by decide) rfl (fun ls hl => ?_)
      refine q_iinc (w := 1) (lv' := [(2, .int (s2.2 + 1)), (1, .int x6), (0, .int p1)]) S dX12_ones_26 hl (k := 2) rfl ic_1 (by decide) rfl (fun ls hl => ?_)
      refine lv_goto (tgt := 4) S.1 S.2.1 dX12_ones_29 (by decide) ?_
      exact hI3 _ (Option.some.inj hf).symm _ (lv_sub hl [2, 1, 0] rfl)
    · have hf := it_n c_ hf
      refine lv_iconst (v := 1) S.1 S.2.1 dX12_ones_19 ic_1 ?_
      refine lv_goto (tgt := 24) S.1 S.2.1 dX12_ones_20 (by decide) ?_
      refine lv_iadd S.1 S.2.1 dX12_ones_24 ?_
      refine lv_topi (fun x7 ex7 => ?_)
      have hf := ltn_e hf ex7
      refine lv_istore_n (lv' := [(1, .int x7), (0, .int p1), (2, .int s2.2)]) S.1 S.2.1 dX12_ones_25 rfl hl (by decide) rfl (fun ls hl => ?_)
      refine q_iinc (w := 1) (lv' := [(2, .int (s2.2 + 1)), (1, .int x7), (0, .int p1)]) S dX12_ones_26 hl (k := 2) rfl ic_1 (by decide) rfl (fun ls hl => ?_)
      refine lv_goto (tgt := 4) S.1 S.2.1 dX12_ones_29 (by decide) ?_
      exact hI3 _ (Option.some.inj hf).symm _ (lv_sub hl [2, 1, 0] rfl)
def f_X12_copyRow_L3 (p2 : Int32) (p3 : Int32) (p4 : Int32) (p1_n : Nat) (s2 : Int32 × (Nat → Int32)) : Option ((Int32 × (Nat → Int32)) ⊕ ((Nat → Int32))) := if p2 ≤ s2.1 then some (.inr s2.2) else bnd (α := Int32) (rdi p1_n s2.2 ((p2 * p3) + s2.1)) (fun x5 => bnd (α := (Nat → Int32)) (wri p1_n s2.2 ((p2 * p4) + s2.1) x5) (fun x6 => some (.inl ((s2.1 + 1), x6))))
def f_X12_copyRow (fu : Nat) (p1_n : Nat) (p1_f : (Nat → Int32)) (p2 : Int32) (p3 : Int32) (p4 : Int32) : Option ((Nat → Int32)) := bnd (α := (Nat → Int32)) (lp (f_X12_copyRow_L3 p2 p3 p4 p1_n) fu ((0 : Int32), p1_f)) (fun v7 => some v7)
set_option maxHeartbeats 4000000 in
set_option maxRecDepth 100000 in
theorem c_X12_copyRow {l : Launch} {D : va_G} {g : Nat → ClassId} {fu : Nat} {p1_q0 : Nat} {p1_n : Nat} {p1_f : (Nat → Int32)} {p2 : Int32} {p3 : Int32} {p4 : Int32} {r : (Nat → Int32)} (hf : f_X12_copyRow fu p1_n p1_f p2 p3 p4 = some r) : Wr l D (gy g) yX12_copyRow cX12_copyRow 5 none 0 [.ref p1_q0, .int p2, .int p3, .int p4] (wAI g p1_q0 p1_n p1_f) (wAI g p1_q0 p1_n r) none := by
  refine Wr.ofV (by decide) (Nat.le_of_ble_eq_true rfl) ?_
  intro p e s m args below meth c Q A S hK hA hret ls hl hW
  have hl : lv_has ls 5 [(0, .ref p1_q0), (1, .int p2), (2, .int p3), (3, .int p4)] := hl
  refine lv_iconst (v := 0) S.1 S.2.1 dX12_copyRow_0 ic_0 ?_
  refine lv_istore (lv' := [(4, .int (0 : Int32)), (0, .ref p1_q0), (1, .int p2), (2, .int p3), (3, .int p4)]) S.1 S.2.1 dX12_copyRow_1 hl (by decide) rfl (fun ls hl => ?_)
  obtain ⟨x3, hf_, hk3⟩ := bnd_e hf
  have hE3 : ∀ (v7 : (Nat → Int32)), v7 = x3 → ∀ (ls : Array Slot) (H : Heap) (locs : List Loc), lv_has ls 5 [] → St A s.heap D (wAI g p1_q0 p1_n v7) H locs → W p l e (rmD 0) s m args below meth c H locs 0 0 Q (F0 m 31 ls []) := by
    intro v7 e_ ls H locs hl hW
    subst e_
    have hf := hk3
    have e_ := Option.some.inj hf
    subst e_
    exact hret _ _ _ _ dX12_copyRow_31 hW
  refine lp_ind (P := fun (s2 : Int32 × (Nat → Int32)) => ∀ (ls : Array Slot) (H : Heap) (locs : List Loc), lv_has ls 5 [(0, .ref p1_q0), (1, .int p2), (2, .int p3), (3, .int p4), (4, .int s2.1)] → St A s.heap D (wAI g p1_q0 p1_n s2.2) H locs → W p l e (rmD 0) s m args below meth c H locs 0 0 Q (F0 m 3 ls [])) ?_ _ _ hf_ _ _ _ (lv_sub hl [1, 2, 3, 4, 0] rfl) hW
  intro s2 x4 hf hI3 hR3 ls H locs hl hW
  refine lv_iload S.1 S.2.1 dX12_copyRow_3 (lv_at hl 4 rfl) ?_
  refine lv_iload_n S.1 S.2.1 dX12_copyRow_5 rfl (lv_at hl 1 rfl) ?_
  refine lv_icmp_ge (tgt := 31) S.1 S.2.1 dX12_copyRow_6 (by decide) (fun c_ => ?_) (fun c_ => ?_)
  · have hf := it_p c_ hf
    have e_ := hR3 _ (Option.some.inj hf).symm
    exact hE3 _ e_ _ _ _ (lv_sub hl [] rfl) hW
  · have hf := it_n c_ hf
    refine lv_aload_n S.1 S.2.1 dX12_copyRow_9 rfl (lv_at hl 0 rfl) ?_
    refine lv_iload_n S.1 S.2.1 dX12_copyRow_10 rfl (lv_at hl 1 rfl) ?_
    refine lv_iload_n S.1 S.2.1 dX12_copyRow_11 rfl (lv_at hl 3 rfl) ?_
    refine lv_imul S.1 S.2.1 dX12_copyRow_12 ?_
    refine lv_iload S.1 S.2.1 dX12_copyRow_13 (lv_at hl 4 rfl) ?_
    refine lv_iadd S.1 S.2.1 dX12_copyRow_15 ?_
    refine lv_aload_n S.1 S.2.1 dX12_copyRow_16 rfl (lv_at hl 0 rfl) ?_
    refine lv_iload_n S.1 S.2.1 dX12_copyRow_17 rfl (lv_at hl 1 rfl) ?_
    refine lv_iload_n S.1 S.2.1 dX12_copyRow_18 rfl (lv_at hl 2 rfl) ?_
    refine lv_imul S.1 S.2.1 dX12_copyRow_19 ?_
    refine lv_iload S.1 S.2.1 dX12_copyRow_20 (lv_at hl 4 rfl) ?_
    refine lv_iadd S.1 S.2.1 dX12_copyRow_22 ?_
    obtain ⟨x5, hx5, hf⟩ := bnd_e hf
    refine q_iald S hK hW.1 0 0 rfl rfl hx5 dX12_copyRow_23 ?_
    obtain ⟨x6, hx6, hf⟩ := bnd_e hf
    refine q_iast (ws2 := (wAI g p1_q0 p1_n x6)) S hK hW 0 0 rfl rfl hx6 rfl dX12_copyRow_24 (fun H locs hW => ?_)
    refine q_iinc (w := 1) (lv' := [(4, .int (s2.1 + 1)), (0, .ref p1_q0), (1, .int p2), (2, .int p3), (3, .int p4)]) S dX12_copyRow_25 hl (k := 4) rfl ic_1 (by decide) rfl (fun ls hl => ?_)
    refine lv_goto (tgt := 3) S.1 S.2.1 dX12_copyRow_28 (by decide) ?_
    exact hI3 _ (Option.some.inj hf).symm _ _ _ (lv_sub hl [1, 2, 3, 4, 0] rfl) hW
def f_X12_copyAll_L2 (p1 : Int32) (p2 : Int32) (s2 : Int32 × (Nat → Int32)) : Option ((Int32 × (Nat → Int32)) ⊕ ((Nat → Int32))) := if (600 : Int32) ≤ s2.1 then some (.inr s2.2) else bnd (α := Int32) (rdi 2400 s2.2 (((600 : Int32) * p1) + s2.1)) (fun x5 => bnd (α := (Nat → Int32)) (wri 2400 s2.2 (((600 : Int32) * p2) + s2.1) (vp_nar .byte x5)) (fun x6 => some (.inl ((s2.1 + 1), x6))))
def f_X12_copyAll (fu : Nat) (o_tape : (Nat → Int32)) (o_size : (Nat → Int32)) (o_fault : (Nat → Int32)) (o_faultPlace : (Nat → Int32)) (o_many : (Nat → Int32)) (o_towns : (Nat → Int32)) (o_weeks : (Nat → Int32)) (o_logs : (Nat → Int32)) (p1 : Int32) (p2 : Int32) : Option ((Nat → Int32) × (Nat → Int32) × (Nat → Int32) × (Nat → Int32) × (Nat → Int32) × (Nat → Int32) × (Nat → Int32) × (Nat → Int32)) := bnd (α := (Nat → Int32)) (lp (f_X12_copyAll_L2 p1 p2) fu ((0 : Int32), o_tape)) (fun v7 => bnd (α := (Nat → Int32)) (f_X12_copyRow fu 4 o_size (1 : Int32) p1 p2) (fun x8 => bnd (α := (Nat → Int32)) (f_X12_copyRow fu 4 o_fault (1 : Int32) p1 p2) (fun x9 => bnd (α := (Nat → Int32)) (f_X12_copyRow fu 4 o_faultPlace (1 : Int32) p1 p2) (fun x10 => bnd (α := (Nat → Int32)) (f_X12_copyRow fu 12 o_many (3 : Int32) p1 p2) (fun x11 => bnd (α := (Nat → Int32)) (f_X12_copyRow fu 440 o_towns (110 : Int32) p1 p2) (fun x12 => bnd (α := (Nat → Int32)) (f_X12_copyRow fu 1288 o_weeks (322 : Int32) p1 p2) (fun x13 => bnd (α := (Nat → Int32)) (f_X12_copyRow fu 200 o_logs (50 : Int32) p1 p2) (fun x14 => some (v7, x8, x9, x10, x11, x12, x13, x14)))))))))
set_option maxHeartbeats 4000000 in
set_option maxRecDepth 100000 in
theorem c_X12_copyAll {l : Launch} {D : va_G} {g : Nat → ClassId} {fu : Nat} {o_q0 o_q1 o_q2 o_q3 o_q4 o_q5 o_q6 o_q7 o_q8 o_q9 o_q10 o_q11 o_q12 o_q13 o_q14 o_q15 o_q16 o_q17 o_q18 o_q19 o_q20 o_q21 o_q22 : Nat} {o_code : Int32} {o_tape : (Nat → Int32)} {o_size : (Nat → Int32)} {o_fault : (Nat → Int32)} {o_faultPlace : (Nat → Int32)} {o_many : (Nat → Int32)} {o_towns : (Nat → Int32)} {o_weeks : (Nat → Int32)} {o_logs : (Nat → Int32)} {o_reached : Int32} {o_length : Int32} {o_begins : Int32} {o_sort : Int32} {o_value : Int32} {o_word : Int64} {o_wrongAt : Int32} {o_laterFault : Int32} {o_laterPlace : Int32} {o_told : (Nat → Int32)} {o_read : (Nat → Int32)} {o_farOne : Int32} {o_good : Int32} {o_town : Int32} {o_people : Int32} {o_when : Int32} {o_sat : Int32} {o_quiet : Int32} {o_vain : Int32} {o_lent : Int32} {o_forgiven : Int32} {o_sundays : Int32} {o_purse : (Nat → Int32)} {o_beside : (Nat → Int32)} {o_debts : (Nat → Int32)} {o_sitting : (Nat → Int32)} {o_visited : (Nat → Int32)} {o_week : Int32} {o_heaps : (Nat → Int32)} {o_taken : (Nat → Int32)} {o_best : (Nat → Int32)} {o_more : (Nat → Int32)} {o_firstOne : Int32} {o_log : Int32} {o_fitting : (Nat → Int32)} {o_found : Int32} {o_seed : Int32} {o_row : (Nat → Int32)} {o_saved : (Nat → Int32)} {p1 : Int32} {p2 : Int32} {r : (Nat → Int32) × (Nat → Int32) × (Nat → Int32) × (Nat → Int32) × (Nat → Int32) × (Nat → Int32) × (Nat → Int32) × (Nat → Int32)} (hf : f_X12_copyAll fu o_tape o_size o_fault o_faultPlace o_many o_towns o_weeks o_logs p1 p2 = some r) : Wr l D (gy g) yX12_copyAll cX12_copyAll 4 none 1 [.ref o_q0, .int p1, .int p2] (wMd g o_q0 o_q1 o_q2 o_q3 o_q4 o_q5 o_q6 o_q7 o_q8 o_q9 o_q10 o_q11 o_q12 o_q13 o_q14 o_q15 o_q16 o_q17 o_q18 o_q19 o_q20 o_q21 o_q22 o_code o_tape o_size o_fault o_faultPlace o_many o_towns o_weeks o_logs o_reached o_length o_begins o_sort o_value o_word o_wrongAt o_laterFault o_laterPlace o_told o_read o_farOne o_good o_town o_people o_when o_sat o_quiet o_vain o_lent o_forgiven o_sundays o_purse o_beside o_debts o_sitting o_visited o_week o_heaps o_taken o_best o_more o_firstOne o_log o_fitting o_found o_seed o_row o_saved) (wMd g o_q0 o_q1 o_q2 o_q3 o_q4 o_q5 o_q6 o_q7 o_q8 o_q9 o_q10 o_q11 o_q12 o_q13 o_q14 o_q15 o_q16 o_q17 o_q18 o_q19 o_q20 o_q21 o_q22 o_code r.1 r.2.1 r.2.2.1 r.2.2.2.1 r.2.2.2.2.1 r.2.2.2.2.2.1 r.2.2.2.2.2.2.1 r.2.2.2.2.2.2.2 o_reached o_length o_begins o_sort o_value o_word o_wrongAt o_laterFault o_laterPlace o_told o_read o_farOne o_good o_town o_people o_when o_sat o_quiet o_vain o_lent o_forgiven o_sundays o_purse o_beside o_debts o_sitting o_visited o_week o_heaps o_taken o_best o_more o_firstOne o_log o_fitting o_found o_seed o_row o_saved) none := by
  refine Wr.ofV (by decide) (Nat.le_of_ble_eq_true rfl) ?_
  intro p e s m args below meth c Q A S hK hA hret ls hl hW
  have hl : lv_has ls 4 [(0, .ref o_q0), (1, .int p1), (2, .int p2)] := hl
  refine lv_iconst (v := 0) S.1 S.2.1 dX12_copyAll_0 ic_0 ?_
  refine lv_istore_n (lv' := [(3, .int (0 : Int32)), (0, .ref o_q0), (1, .int p1), (2, .int p2)]) S.1 S.2.1 dX12_copyAll_1 rfl hl (by decide) rfl (fun ls hl => ?_)
  obtain ⟨x3, hf_, hk3⟩ := bnd_e hf
  have hE3 : ∀ (v7 : (Nat → Int32)), v7 = x3 → ∀ (ls : Array Slot) (H : Heap) (locs : List Loc), lv_has ls 4 [(0, .ref o_q0), (1, .int p1), (2, .int p2)] → St A s.heap D (wMd g o_q0 o_q1 o_q2 o_q3 o_q4 o_q5 o_q6 o_q7 o_q8 o_q9 o_q10 o_q11 o_q12 o_q13 o_q14 o_q15 o_q16 o_q17 o_q18 o_q19 o_q20 o_q21 o_q22 o_code v7 o_size o_fault o_faultPlace o_many o_towns o_weeks o_logs o_reached o_length o_begins o_sort o_value o_word o_wrongAt o_laterFault o_laterPlace o_told o_read o_farOne o_good o_town o_people o_when o_sat o_quiet o_vain o_lent o_forgiven o_sundays o_purse o_beside o_debts o_sitting o_visited o_week o_heaps o_taken o_best o_more o_firstOne o_log o_fitting o_found o_seed o_row o_saved) H locs → W p l e (rmD 1) s m args below meth c H locs 0 0 Q (F0 m 39 ls []) := by
    intro v7 e_ ls H locs hl hW
    subst e_
    have hf := hk3
    refine lv_aload_n S.1 S.2.1 dX12_copyAll_39 rfl (lv_at hl 0 rfl) ?_
    refine gfX12_13 S hK hW.1 0 rfl rfl dX12_copyAll_40 ?_
    refine lv_iconst (v := 1) S.1 S.2.1 dX12_copyAll_43 ic_1 ?_
    refine lv_iload_n S.1 S.2.1 dX12_copyAll_44 rfl (lv_at hl 1 rfl) ?_
    refine lv_iload_n S.1 S.2.1 dX12_copyAll_45 rfl (lv_at hl 2 rfl) ?_
    obtain ⟨x8, hx8, hf⟩ := bnd_e hf
    refine Wr.go (ws2 := (wMd g o_q0 o_q1 o_q2 o_q3 o_q4 o_q5 o_q6 o_q7 o_q8 o_q9 o_q10 o_q11 o_q12 o_q13 o_q14 o_q15 o_q16 o_q17 o_q18 o_q19 o_q20 o_q21 o_q22 o_code v7 x8 o_fault o_faultPlace o_many o_towns o_weeks o_logs o_reached o_length o_begins o_sort o_value o_word o_wrongAt o_laterFault o_laterPlace o_told o_read o_farOne o_good o_town o_people o_when o_sat o_quiet o_vain o_lent o_forgiven o_sundays o_purse o_beside o_debts o_sitting o_visited o_week o_heaps o_taken o_best o_more o_firstOne o_log o_fitting o_found o_seed o_row o_saved)) (Wr.runS (c_X12_copyRow hx8) S hK (hW.1.sub (ws' := (wAI g o_q2 4 o_size)) [2] rfl) (hW.2.1.sub (ws' := (wAI g o_q2 4 o_size)) [2] (by decide) rfl) kSX12_86 rfl hl.1 [] rfl (Nat.le_of_ble_eq_true rfl) ⟨(Nat.le_of_ble_eq_true rfl), (Nat.le_of_ble_eq_true rfl)⟩ ⟨(Nat.zero_le _), (Nat.zero_le _)⟩ dX12_copyAll_46) hW hA [2] rfl [(false, 0), (false, 1), (true, 0), (false, 3), (false, 4), (false, 5), (false, 6), (false, 7), (false, 8), (false, 9), (false, 10), (false, 11), (false, 12), (false, 13), (false, 14), (false, 15), (false, 16), (false, 17), (false, 18), (false, 19), (false, 20), (false, 21), (false, 22)] rfl (by decide) rfl (fun H locs hW => ?_)
    refine lv_aload_n S.1 S.2.1 dX12_copyAll_49 rfl (lv_at hl 0 rfl) ?_
    refine gfX12_17 S hK hW.1 0 rfl rfl dX12_copyAll_50 ?_
    refine lv_iconst (v := 1) S.1 S.2.1 dX12_copyAll_53 ic_1 ?_
    refine lv_iload_n S.1 S.2.1 dX12_copyAll_54 rfl (lv_at hl 1 rfl) ?_
    refine lv_iload_n S.1 S.2.1 dX12_copyAll_55 rfl (lv_at hl 2 rfl) ?_
    obtain ⟨x9, hx9, hf⟩ := bnd_e hf
    refine Wr.go (ws2 := (wMd g o_q0 o_q1 o_q2 o_q3 o_q4 o_q5 o_q6 o_q7 o_q8 o_q9 o_q10 o_q11 o_q12 o_q13 o_q14 o_q15 o_q16 o_q17 o_q18 o_q19 o_q20 o_q21 o_q22 o_code v7 x8 x9 o_faultPlace o_many o_towns o_weeks o_logs o_reached o_length o_begins o_sort o_value o_word o_wrongAt o_laterFault o_laterPlace o_told o_read o_farOne o_good o_town o_people o_when o_sat o_quiet o_vain o_lent o_forgiven o_sundays o_purse o_beside o_debts o_sitting o_visited o_week o_heaps o_taken o_best o_more o_firstOne o_log o_fitting o_found o_seed o_row o_saved)) (Wr.runS (c_X12_copyRow hx9) S hK (hW.1.sub (ws' := (wAI g o_q3 4 o_fault)) [3] rfl) (hW.2.1.sub (ws' := (wAI g o_q3 4 o_fault)) [3] (by decide) rfl) kSX12_86 rfl hl.1 [] rfl (Nat.le_of_ble_eq_true rfl) ⟨(Nat.le_of_ble_eq_true rfl), (Nat.le_of_ble_eq_true rfl)⟩ ⟨(Nat.zero_le _), (Nat.zero_le _)⟩ dX12_copyAll_56) hW hA [3] rfl [(false, 0), (false, 1), (false, 2), (true, 0), (false, 4), (false, 5), (false, 6), (false, 7), (false, 8), (false, 9), (false, 10), (false, 11), (false, 12), (false, 13), (false, 14), (false, 15), (false, 16), (false, 17), (false, 18), (false, 19), (false, 20), (false, 21), (false, 22)] rfl (by decide) rfl (fun H locs hW => ?_)
    refine lv_aload_n S.1 S.2.1 dX12_copyAll_59 rfl (lv_at hl 0 rfl) ?_
    refine gfX12_20 S hK hW.1 0 rfl rfl dX12_copyAll_60 ?_
    refine lv_iconst (v := 1) S.1 S.2.1 dX12_copyAll_63 ic_1 ?_
    refine lv_iload_n S.1 S.2.1 dX12_copyAll_64 rfl (lv_at hl 1 rfl) ?_
    refine lv_iload_n S.1 S.2.1 dX12_copyAll_65 rfl (lv_at hl 2 rfl) ?_
    obtain ⟨x10, hx10, hf⟩ := bnd_e hf
    refine Wr.go (ws2 := (wMd g o_q0 o_q1 o_q2 o_q3 o_q4 o_q5 o_q6 o_q7 o_q8 o_q9 o_q10 o_q11 o_q12 o_q13 o_q14 o_q15 o_q16 o_q17 o_q18 o_q19 o_q20 o_q21 o_q22 o_code v7 x8 x9 x10 o_many o_towns o_weeks o_logs o_reached o_length o_begins o_sort o_value o_word o_wrongAt o_laterFault o_laterPlace o_told o_read o_farOne o_good o_town o_people o_when o_sat o_quiet o_vain o_lent o_forgiven o_sundays o_purse o_beside o_debts o_sitting o_visited o_week o_heaps o_taken o_best o_more o_firstOne o_log o_fitting o_found o_seed o_row o_saved)) (Wr.runS (c_X12_copyRow hx10) S hK (hW.1.sub (ws' := (wAI g o_q4 4 o_faultPlace)) [4] rfl) (hW.2.1.sub (ws' := (wAI g o_q4 4 o_faultPlace)) [4] (by decide) rfl) kSX12_86 rfl hl.1 [] rfl (Nat.le_of_ble_eq_true rfl) ⟨(Nat.le_of_ble_eq_true rfl), (Nat.le_of_ble_eq_true rfl)⟩ ⟨(Nat.zero_le _), (Nat.zero_le _)⟩ dX12_copyAll_66) hW hA [4] rfl [(false, 0), (false, 1), (false, 2), (false, 3), (true, 0), (false, 5), (false, 6), (false, 7), (false, 8), (false, 9), (false, 10), (false, 11), (false, 12), (false, 13), (false, 14), (false, 15), (false, 16), (false, 17), (false, 18), (false, 19), (false, 20), (false, 21), (false, 22)] rfl (by decide) rfl (fun H locs hW => ?_)
    refine lv_aload_n S.1 S.2.1 dX12_copyAll_69 rfl (lv_at hl 0 rfl) ?_
    refine gfX12_23 S hK hW.1 0 rfl rfl dX12_copyAll_70 ?_
    refine lv_iconst (v := 3) S.1 S.2.1 dX12_copyAll_73 ic_3 ?_
    refine lv_iload_n S.1 S.2.1 dX12_copyAll_74 rfl (lv_at hl 1 rfl) ?_
    refine lv_iload_n S.1 S.2.1 dX12_copyAll_75 rfl (lv_at hl 2 rfl) ?_
    obtain ⟨x11, hx11, hf⟩ := bnd_e hf
    refine Wr.go (ws2 := (wMd g o_q0 o_q1 o_q2 o_q3 o_q4 o_q5 o_q6 o_q7 o_q8 o_q9 o_q10 o_q11 o_q12 o_q13 o_q14 o_q15 o_q16 o_q17 o_q18 o_q19 o_q20 o_q21 o_q22 o_code v7 x8 x9 x10 x11 o_towns o_weeks o_logs o_reached o_length o_begins o_sort o_value o_word o_wrongAt o_laterFault o_laterPlace o_told o_read o_farOne o_good o_town o_people o_when o_sat o_quiet o_vain o_lent o_forgiven o_sundays o_purse o_beside o_debts o_sitting o_visited o_week o_heaps o_taken o_best o_more o_firstOne o_log o_fitting o_found o_seed o_row o_saved)) (Wr.runS (c_X12_copyRow hx11) S hK (hW.1.sub (ws' := (wAI g o_q5 12 o_many)) [5] rfl) (hW.2.1.sub (ws' := (wAI g o_q5 12 o_many)) [5] (by decide) rfl) kSX12_86 rfl hl.1 [] rfl (Nat.le_of_ble_eq_true rfl) ⟨(Nat.le_of_ble_eq_true rfl), (Nat.le_of_ble_eq_true rfl)⟩ ⟨(Nat.zero_le _), (Nat.zero_le _)⟩ dX12_copyAll_76) hW hA [5] rfl [(false, 0), (false, 1), (false, 2), (false, 3), (false, 4), (true, 0), (false, 6), (false, 7), (false, 8), (false, 9), (false, 10), (false, 11), (false, 12), (false, 13), (false, 14), (false, 15), (false, 16), (false, 17), (false, 18), (false, 19), (false, 20), (false, 21), (false, 22)] rfl (by decide) rfl (fun H locs hW => ?_)
    refine lv_aload_n S.1 S.2.1 dX12_copyAll_79 rfl (lv_at hl 0 rfl) ?_
    refine gfX12_26 S hK hW.1 0 rfl rfl dX12_copyAll_80 ?_
    refine lv_bipush (v := 110) S.1 S.2.1 dX12_copyAll_83 bp_110 ?_
    refine lv_iload_n S.1 S.2.1 dX12_copyAll_85 rfl (lv_at hl 1 rfl) ?_
    refine lv_iload_n S.1 S.2.1 dX12_copyAll_86 rfl (lv_at hl 2 rfl) ?_
    obtain ⟨x12, hx12, hf⟩ := bnd_e hf
    refine Wr.go (ws2 := (wMd g o_q0 o_q1 o_q2 o_q3 o_q4 o_q5 o_q6 o_q7 o_q8 o_q9 o_q10 o_q11 o_q12 o_q13 o_q14 o_q15 o_q16 o_q17 o_q18 o_q19 o_q20 o_q21 o_q22 o_code v7 x8 x9 x10 x11 x12 o_weeks o_logs o_reached o_length o_begins o_sort o_value o_word o_wrongAt o_laterFault o_laterPlace o_told o_read o_farOne o_good o_town o_people o_when o_sat o_quiet o_vain o_lent o_forgiven o_sundays o_purse o_beside o_debts o_sitting o_visited o_week o_heaps o_taken o_best o_more o_firstOne o_log o_fitting o_found o_seed o_row o_saved)) (Wr.runS (c_X12_copyRow hx12) S hK (hW.1.sub (ws' := (wAI g o_q6 440 o_towns)) [6] rfl) (hW.2.1.sub (ws' := (wAI g o_q6 440 o_towns)) [6] (by decide) rfl) kSX12_86 rfl hl.1 [] rfl (Nat.le_of_ble_eq_true rfl) ⟨(Nat.le_of_ble_eq_true rfl), (Nat.le_of_ble_eq_true rfl)⟩ ⟨(Nat.zero_le _), (Nat.zero_le _)⟩ dX12_copyAll_87) hW hA [6] rfl [(false, 0), (false, 1), (false, 2), (false, 3), (false, 4), (false, 5), (true, 0), (false, 7), (false, 8), (false, 9), (false, 10), (false, 11), (false, 12), (false, 13), (false, 14), (false, 15), (false, 16), (false, 17), (false, 18), (false, 19), (false, 20), (false, 21), (false, 22)] rfl (by decide) rfl (fun H locs hW => ?_)
    refine lv_aload_n S.1 S.2.1 dX12_copyAll_90 rfl (lv_at hl 0 rfl) ?_
    refine gfX12_29 S hK hW.1 0 rfl rfl dX12_copyAll_91 ?_
    refine lv_sipush (v := 322) S.1 S.2.1 dX12_copyAll_94 sp_322 ?_
    refine lv_iload_n S.1 S.2.1 dX12_copyAll_97 rfl (lv_at hl 1 rfl) ?_
    refine lv_iload_n S.1 S.2.1 dX12_copyAll_98 rfl (lv_at hl 2 rfl) ?_
    obtain ⟨x13, hx13, hf⟩ := bnd_e hf
    refine Wr.go (ws2 := (wMd g o_q0 o_q1 o_q2 o_q3 o_q4 o_q5 o_q6 o_q7 o_q8 o_q9 o_q10 o_q11 o_q12 o_q13 o_q14 o_q15 o_q16 o_q17 o_q18 o_q19 o_q20 o_q21 o_q22 o_code v7 x8 x9 x10 x11 x12 x13 o_logs o_reached o_length o_begins o_sort o_value o_word o_wrongAt o_laterFault o_laterPlace o_told o_read o_farOne o_good o_town o_people o_when o_sat o_quiet o_vain o_lent o_forgiven o_sundays o_purse o_beside o_debts o_sitting o_visited o_week o_heaps o_taken o_best o_more o_firstOne o_log o_fitting o_found o_seed o_row o_saved)) (Wr.runS (c_X12_copyRow hx13) S hK (hW.1.sub (ws' := (wAI g o_q7 1288 o_weeks)) [7] rfl) (hW.2.1.sub (ws' := (wAI g o_q7 1288 o_weeks)) [7] (by decide) rfl) kSX12_86 rfl hl.1 [] rfl (Nat.le_of_ble_eq_true rfl) ⟨(Nat.le_of_ble_eq_true rfl), (Nat.le_of_ble_eq_true rfl)⟩ ⟨(Nat.zero_le _), (Nat.zero_le _)⟩ dX12_copyAll_99) hW hA [7] rfl [(false, 0), (false, 1), (false, 2), (false, 3), (false, 4), (false, 5), (false, 6), (true, 0), (false, 8), (false, 9), (false, 10), (false, 11), (false, 12), (false, 13), (false, 14), (false, 15), (false, 16), (false, 17), (false, 18), (false, 19), (false, 20), (false, 21), (false, 22)] rfl (by decide) rfl (fun H locs hW => ?_)
    refine lv_aload_n S.1 S.2.1 dX12_copyAll_102 rfl (lv_at hl 0 rfl) ?_
    refine gfX12_32 S hK hW.1 0 rfl rfl dX12_copyAll_103 ?_
    refine lv_bipush (v := 50) S.1 S.2.1 dX12_copyAll_106 bp_50 ?_
    refine lv_iload_n S.1 S.2.1 dX12_copyAll_108 rfl (lv_at hl 1 rfl) ?_
    refine lv_iload_n S.1 S.2.1 dX12_copyAll_109 rfl (lv_at hl 2 rfl) ?_
    obtain ⟨x14, hx14, hf⟩ := bnd_e hf
    refine Wr.go (ws2 := (wMd g o_q0 o_q1 o_q2 o_q3 o_q4 o_q5 o_q6 o_q7 o_q8 o_q9 o_q10 o_q11 o_q12 o_q13 o_q14 o_q15 o_q16 o_q17 o_q18 o_q19 o_q20 o_q21 o_q22 o_code v7 x8 x9 x10 x11 x12 x13 x14 o_reached o_length o_begins o_sort o_value o_word o_wrongAt o_laterFault o_laterPlace o_told o_read o_farOne o_good o_town o_people o_when o_sat o_quiet o_vain o_lent o_forgiven o_sundays o_purse o_beside o_debts o_sitting o_visited o_week o_heaps o_taken o_best o_more o_firstOne o_log o_fitting o_found o_seed o_row o_saved)) (Wr.runS (c_X12_copyRow hx14) S hK (hW.1.sub (ws' := (wAI g o_q8 200 o_logs)) [8] rfl) (hW.2.1.sub (ws' := (wAI g o_q8 200 o_logs)) [8] (by decide) rfl) kSX12_86 rfl hl.1 [] rfl (Nat.le_of_ble_eq_true rfl) ⟨(Nat.le_of_ble_eq_true rfl), (Nat.le_of_ble_eq_true rfl)⟩ ⟨(Nat.zero_le _), (Nat.zero_le _)⟩ dX12_copyAll_110) hW hA [8] rfl [(false, 0), (false, 1), (false, 2), (false, 3), (false, 4), (false, 5), (false, 6), (false, 7), (true, 0), (false, 9), (false, 10), (false, 11), (false, 12), (false, 13), (false, 14), (false, 15), (false, 16), (false, 17), (false, 18), (false, 19), (false, 20), (false, 21), (false, 22)] rfl (by decide) rfl (fun H locs hW => ?_)
    have e_ := Option.some.inj hf
    subst e_
    exact hret _ _ _ _ dX12_copyAll_113 hW
  refine lp_ind (P := fun (s2 : Int32 × (Nat → Int32)) => ∀ (ls : Array Slot) (H : Heap) (locs : List Loc), lv_has ls 4 [(0, .ref o_q0), (1, .int p1), (2, .int p2), (3, .int s2.1)] → St A s.heap D (wMd g o_q0 o_q1 o_q2 o_q3 o_q4 o_q5 o_q6 o_q7 o_q8 o_q9 o_q10 o_q11 o_q12 o_q13 o_q14 o_q15 o_q16 o_q17 o_q18 o_q19 o_q20 o_q21 o_q22 o_code s2.2 o_size o_fault o_faultPlace o_many o_towns o_weeks o_logs o_reached o_length o_begins o_sort o_value o_word o_wrongAt o_laterFault o_laterPlace o_told o_read o_farOne o_good o_town o_people o_when o_sat o_quiet o_vain o_lent o_forgiven o_sundays o_purse o_beside o_debts o_sitting o_visited o_week o_heaps o_taken o_best o_more o_firstOne o_log o_fitting o_found o_seed o_row o_saved) H locs → W p l e (rmD 1) s m args below meth c H locs 0 0 Q (F0 m 2 ls [])) ?_ _ _ hf_ _ _ _ (lv_sub hl [1, 2, 3, 0] rfl) hW
  intro s2 x4 hf hI3 hR3 ls H locs hl hW
  refine lv_iload_n S.1 S.2.1 dX12_copyAll_2 rfl (lv_at hl 3 rfl) ?_
  refine lv_sipush (v := 600) S.1 S.2.1 dX12_copyAll_3 sp_600 ?_
  refine lv_icmp_ge (tgt := 39) S.1 S.2.1 dX12_copyAll_6 (by decide) (fun c_ => ?_) (fun c_ => ?_)
  · have hf := it_p c_ hf
    have e_ := hR3 _ (Option.some.inj hf).symm
    exact hE3 _ e_ _ _ _ (lv_sub hl [0, 1, 2] rfl) hW
  · have hf := it_n c_ hf
    refine lv_aload_n S.1 S.2.1 dX12_copyAll_9 rfl (lv_at hl 0 rfl) ?_
    refine gfX12_7 S hK hW.1 0 rfl rfl dX12_copyAll_10 ?_
    refine lv_sipush (v := 600) S.1 S.2.1 dX12_copyAll_13 sp_600 ?_
    refine lv_iload_n S.1 S.2.1 dX12_copyAll_16 rfl (lv_at hl 2 rfl) ?_
    refine lv_imul S.1 S.2.1 dX12_copyAll_17 ?_
    refine lv_iload_n S.1 S.2.1 dX12_copyAll_18 rfl (lv_at hl 3 rfl) ?_
    refine lv_iadd S.1 S.2.1 dX12_copyAll_19 ?_
    refine lv_aload_n S.1 S.2.1 dX12_copyAll_20 rfl (lv_at hl 0 rfl) ?_
    refine gfX12_7 S hK hW.1 0 rfl rfl dX12_copyAll_21 ?_
    refine lv_sipush (v := 600) S.1 S.2.1 dX12_copyAll_24 sp_600 ?_
    refine lv_iload_n S.1 S.2.1 dX12_copyAll_27 rfl (lv_at hl 1 rfl) ?_
    refine lv_imul S.1 S.2.1 dX12_copyAll_28 ?_
    refine lv_iload_n S.1 S.2.1 dX12_copyAll_29 rfl (lv_at hl 3 rfl) ?_
    refine lv_iadd S.1 S.2.1 dX12_copyAll_30 ?_
    obtain ⟨x5, hx5, hf⟩ := bnd_e hf
    refine q_bald S hK hW.1 1 1 rfl rfl hx5 dX12_copyAll_31 ?_
    obtain ⟨x6, hx6, hf⟩ := bnd_e hf
    refine q_bast (ws2 := (wMd g o_q0 o_q1 o_q2 o_q3 o_q4 o_q5 o_q6 o_q7 o_q8 o_q9 o_q10 o_q11 o_q12 o_q13 o_q14 o_q15 o_q16 o_q17 o_q18 o_q19 o_q20 o_q21 o_q22 o_code x6 o_size o_fault o_faultPlace o_many o_towns o_weeks o_logs o_reached o_length o_begins o_sort o_value o_word o_wrongAt o_laterFault o_laterPlace o_told o_read o_farOne o_good o_town o_people o_when o_sat o_quiet o_vain o_lent o_forgiven o_sundays o_purse o_beside o_debts o_sitting o_visited o_week o_heaps o_taken o_best o_more o_firstOne o_log o_fitting o_found o_seed o_row o_saved)) S hK hW 1 1 rfl rfl hx6 rfl dX12_copyAll_32 (fun H locs hW => ?_)
    refine q_iinc (w := 1) (lv' := [(3, .int (s2.1 + 1)), (0, .ref o_q0), (1, .int p1), (2, .int p2)]) S dX12_copyAll_33 hl (k := 3) rfl ic_1 (by decide) rfl (fun ls hl => ?_)
    refine lv_goto (tgt := 2) S.1 S.2.1 dX12_copyAll_36 (by decide) ?_
    exact hI3 _ (Option.some.inj hf).symm _ _ _ (lv_sub hl [1, 2, 3, 0] rfl) hW
def f_X12_is (fu : Nat) (o_many : (Nat → Int32)) (p1 : Int32) (p2 : Int32) : Option (Int32) := bnd (α := Int32) (rdi 12 o_many p1) (fun x1 => bnd (α := Int32) (f_X12_in fu p2 (0 : Int32) (x1 - (1 : Int32))) (fun x2 => bnd (α := Int32) (bz x2) (fun z3 => some z3)))
set_option maxHeartbeats 4000000 in
set_option maxRecDepth 100000 in
theorem c_X12_is {l : Launch} {D : va_G} {g : Nat → ClassId} {fu : Nat} {o_q0 o_q1 o_q2 o_q3 o_q4 o_q5 o_q6 o_q7 o_q8 o_q9 o_q10 o_q11 o_q12 o_q13 o_q14 o_q15 o_q16 o_q17 o_q18 o_q19 o_q20 o_q21 o_q22 : Nat} {o_code : Int32} {o_tape : (Nat → Int32)} {o_size : (Nat → Int32)} {o_fault : (Nat → Int32)} {o_faultPlace : (Nat → Int32)} {o_many : (Nat → Int32)} {o_towns : (Nat → Int32)} {o_weeks : (Nat → Int32)} {o_logs : (Nat → Int32)} {o_reached : Int32} {o_length : Int32} {o_begins : Int32} {o_sort : Int32} {o_value : Int32} {o_word : Int64} {o_wrongAt : Int32} {o_laterFault : Int32} {o_laterPlace : Int32} {o_told : (Nat → Int32)} {o_read : (Nat → Int32)} {o_farOne : Int32} {o_good : Int32} {o_town : Int32} {o_people : Int32} {o_when : Int32} {o_sat : Int32} {o_quiet : Int32} {o_vain : Int32} {o_lent : Int32} {o_forgiven : Int32} {o_sundays : Int32} {o_purse : (Nat → Int32)} {o_beside : (Nat → Int32)} {o_debts : (Nat → Int32)} {o_sitting : (Nat → Int32)} {o_visited : (Nat → Int32)} {o_week : Int32} {o_heaps : (Nat → Int32)} {o_taken : (Nat → Int32)} {o_best : (Nat → Int32)} {o_more : (Nat → Int32)} {o_firstOne : Int32} {o_log : Int32} {o_fitting : (Nat → Int32)} {o_found : Int32} {o_seed : Int32} {o_row : (Nat → Int32)} {o_saved : (Nat → Int32)} {p1 : Int32} {p2 : Int32} {r : Int32} (hf : f_X12_is fu o_many p1 p2 = some r) : Rd l D (gy g) yX12_is cX12_is 3 (some .boolean) 1 [.ref o_q0, .int p1, .int p2] (wMd g o_q0 o_q1 o_q2 o_q3 o_q4 o_q5 o_q6 o_q7 o_q8 o_q9 o_q10 o_q11 o_q12 o_q13 o_q14 o_q15 o_q16 o_q17 o_q18 o_q19 o_q20 o_q21 o_q22 o_code o_tape o_size o_fault o_faultPlace o_many o_towns o_weeks o_logs o_reached o_length o_begins o_sort o_value o_word o_wrongAt o_laterFault o_laterPlace o_told o_read o_farOne o_good o_town o_people o_when o_sat o_quiet o_vain o_lent o_forgiven o_sundays o_purse o_beside o_debts o_sitting o_visited o_week o_heaps o_taken o_best o_more o_firstOne o_log o_fitting o_found o_seed o_row o_saved) (some (.int r)) := by
  refine Rd.ofZ (by decide) (Nat.le_of_ble_eq_true rfl) ?_
  intro p e s m args below meth c Q S hK hP hret ls hl
  have hl : lv_has ls 3 [(0, .ref o_q0), (1, .int p1), (2, .int p2)] := hl
  refine lv_iload_n S.1 S.2.1 dX12_is_0 rfl (lv_at hl 2 rfl) ?_
  refine lv_iconst (v := 0) S.1 S.2.1 dX12_is_1 ic_0 ?_
  refine lv_aload_n S.1 S.2.1 dX12_is_2 rfl (lv_at hl 0 rfl) ?_
  refine gfX12_23 S hK hP 0 rfl rfl dX12_is_3 ?_
  refine lv_iload_n S.1 S.2.1 dX12_is_6 rfl (lv_at hl 1 rfl) ?_
  obtain ⟨x1, hx1, hf⟩ := bnd_e hf
  refine q_iald S hK hP 5 0 rfl rfl hx1 dX12_is_7 ?_
  refine lv_iconst (v := 1) S.1 S.2.1 dX12_is_8 ic_1 ?_
  refine lv_isub S.1 S.2.1 dX12_is_9 ?_
  obtain ⟨x2, hx2, hf⟩ := bnd_e hf
  refine Rd.cS (c_X12_in hx2) S hK va_P.nil kSX12_90 rfl hl.1 [] rfl (Nat.le_of_ble_eq_true rfl) ⟨(Nat.le_of_ble_eq_true rfl), (Nat.le_of_ble_eq_true rfl)⟩ ⟨(Nat.zero_le _), (Nat.zero_le _)⟩ dX12_is_10 ?_
  obtain ⟨z3, hz3, hf⟩ := bnd_e hf
  obtain ⟨hzz3, ezz3⟩ := bz_e hz3
  rw [ezz3]
  have e_ := Option.some.inj hf
  subst e_
  exact hret _ _ hzz3 dX12_is_13
def f_X12_four_L3 (p1 : Int32) (s2 : Int32 × (Nat → Int32) × (Nat → Int32)) : Option ((Int32 × (Nat → Int32) × (Nat → Int32)) ⊕ ((Nat → Int32) × (Nat → Int32))) := if s2.1 < 0 then some (.inr (s2.2.1, s2.2.2)) else bnd (α := Int32) (rdi 4 s2.2.2 (0 : Int32)) (fun x5 => ltn (jbyte (jshr p1 s2.1)) (fun x6 => bnd (α := (Nat → Int32)) (wri 2400 s2.2.1 x5 (vp_nar .byte x6)) (fun x7 => ltn (0 : Int32) (fun x8 => bnd (α := Int32) (rdi 4 s2.2.2 x8) (fun x9 => ltn (x9 + (1 : Int32)) (fun x10 => bnd (α := (Nat → Int32)) (wri 4 s2.2.2 x8 x10) (fun x11 => some (.inl ((s2.1 + (-8)), x7, x11)))))))))
def f_X12_four (fu : Nat) (o_tape : (Nat → Int32)) (o_size : (Nat → Int32)) (p1 : Int32) : Option ((Nat → Int32) × (Nat → Int32)) := bnd (α := (Nat → Int32) × (Nat → Int32)) (lp (f_X12_four_L3 p1) fu ((24 : Int32), o_tape, o_size)) (fun v12 => some (v12.1, v12.2))
set_option maxHeartbeats 4000000 in
set_option maxRecDepth 100000 in
theorem c_X12_four {l : Launch} {D : va_G} {g : Nat → ClassId} {fu : Nat} {o_q0 o_q1 o_q2 o_q3 o_q4 o_q5 o_q6 o_q7 o_q8 o_q9 o_q10 o_q11 o_q12 o_q13 o_q14 o_q15 o_q16 o_q17 o_q18 o_q19 o_q20 o_q21 o_q22 : Nat} {o_code : Int32} {o_tape : (Nat → Int32)} {o_size : (Nat → Int32)} {o_fault : (Nat → Int32)} {o_faultPlace : (Nat → Int32)} {o_many : (Nat → Int32)} {o_towns : (Nat → Int32)} {o_weeks : (Nat → Int32)} {o_logs : (Nat → Int32)} {o_reached : Int32} {o_length : Int32} {o_begins : Int32} {o_sort : Int32} {o_value : Int32} {o_word : Int64} {o_wrongAt : Int32} {o_laterFault : Int32} {o_laterPlace : Int32} {o_told : (Nat → Int32)} {o_read : (Nat → Int32)} {o_farOne : Int32} {o_good : Int32} {o_town : Int32} {o_people : Int32} {o_when : Int32} {o_sat : Int32} {o_quiet : Int32} {o_vain : Int32} {o_lent : Int32} {o_forgiven : Int32} {o_sundays : Int32} {o_purse : (Nat → Int32)} {o_beside : (Nat → Int32)} {o_debts : (Nat → Int32)} {o_sitting : (Nat → Int32)} {o_visited : (Nat → Int32)} {o_week : Int32} {o_heaps : (Nat → Int32)} {o_taken : (Nat → Int32)} {o_best : (Nat → Int32)} {o_more : (Nat → Int32)} {o_firstOne : Int32} {o_log : Int32} {o_fitting : (Nat → Int32)} {o_found : Int32} {o_seed : Int32} {o_row : (Nat → Int32)} {o_saved : (Nat → Int32)} {p1 : Int32} {r : (Nat → Int32) × (Nat → Int32)} (hf : f_X12_four fu o_tape o_size p1 = some r) : Wr l D (gy g) yX12_four cX12_four 3 none 0 [.ref o_q0, .int p1] (wMd g o_q0 o_q1 o_q2 o_q3 o_q4 o_q5 o_q6 o_q7 o_q8 o_q9 o_q10 o_q11 o_q12 o_q13 o_q14 o_q15 o_q16 o_q17 o_q18 o_q19 o_q20 o_q21 o_q22 o_code o_tape o_size o_fault o_faultPlace o_many o_towns o_weeks o_logs o_reached o_length o_begins o_sort o_value o_word o_wrongAt o_laterFault o_laterPlace o_told o_read o_farOne o_good o_town o_people o_when o_sat o_quiet o_vain o_lent o_forgiven o_sundays o_purse o_beside o_debts o_sitting o_visited o_week o_heaps o_taken o_best o_more o_firstOne o_log o_fitting o_found o_seed o_row o_saved) (wMd g o_q0 o_q1 o_q2 o_q3 o_q4 o_q5 o_q6 o_q7 o_q8 o_q9 o_q10 o_q11 o_q12 o_q13 o_q14 o_q15 o_q16 o_q17 o_q18 o_q19 o_q20 o_q21 o_q22 o_code r.1 r.2 o_fault o_faultPlace o_many o_towns o_weeks o_logs o_reached o_length o_begins o_sort o_value o_word o_wrongAt o_laterFault o_laterPlace o_told o_read o_farOne o_good o_town o_people o_when o_sat o_quiet o_vain o_lent o_forgiven o_sundays o_purse o_beside o_debts o_sitting o_visited o_week o_heaps o_taken o_best o_more o_firstOne o_log o_fitting o_found o_seed o_row o_saved) none := by
  refine Wr.ofV (by decide) (Nat.le_of_ble_eq_true rfl) ?_
  intro p e s m args below meth c Q A S hK hA hret ls hl hW
  have hl : lv_has ls 3 [(0, .ref o_q0), (1, .int p1)] := hl
  refine lv_bipush (v := 24) S.1 S.2.1 dX12_four_0 bp_24 ?_
  refine lv_istore_n (lv' := [(2, .int (24 : Int32)), (0, .ref o_q0), (1, .int p1)]) S.1 S.2.1 dX12_four_2 rfl hl (by decide) rfl (fun ls hl => ?_)
  obtain ⟨x3, hf_, hk3⟩ := bnd_e hf
  have hE3 : ∀ (v12 : (Nat → Int32) × (Nat → Int32)), v12 = x3 → ∀ (ls : Array Slot) (H : Heap) (locs : List Loc), lv_has ls 3 [] → St A s.heap D (wMd g o_q0 o_q1 o_q2 o_q3 o_q4 o_q5 o_q6 o_q7 o_q8 o_q9 o_q10 o_q11 o_q12 o_q13 o_q14 o_q15 o_q16 o_q17 o_q18 o_q19 o_q20 o_q21 o_q22 o_code v12.1 v12.2 o_fault o_faultPlace o_many o_towns o_weeks o_logs o_reached o_length o_begins o_sort o_value o_word o_wrongAt o_laterFault o_laterPlace o_told o_read o_farOne o_good o_town o_people o_when o_sat o_quiet o_vain o_lent o_forgiven o_sundays o_purse o_beside o_debts o_sitting o_visited o_week o_heaps o_taken o_best o_more o_firstOne o_log o_fitting o_found o_seed o_row o_saved) H locs → W p l e (rmD 0) s m args below meth c H locs 0 0 Q (F0 m 38 ls []) := by
    intro v12 e_ ls H locs hl hW
    subst e_
    have hf := hk3
    have e_ := Option.some.inj hf
    subst e_
    exact hret _ _ _ _ dX12_four_38 hW
  refine lp_ind (P := fun (s2 : Int32 × (Nat → Int32) × (Nat → Int32)) => ∀ (ls : Array Slot) (H : Heap) (locs : List Loc), lv_has ls 3 [(0, .ref o_q0), (1, .int p1), (2, .int s2.1)] → St A s.heap D (wMd g o_q0 o_q1 o_q2 o_q3 o_q4 o_q5 o_q6 o_q7 o_q8 o_q9 o_q10 o_q11 o_q12 o_q13 o_q14 o_q15 o_q16 o_q17 o_q18 o_q19 o_q20 o_q21 o_q22 o_code s2.2.1 s2.2.2 o_fault o_faultPlace o_many o_towns o_weeks o_logs o_reached o_length o_begins o_sort o_value o_word o_wrongAt o_laterFault o_laterPlace o_told o_read o_farOne o_good o_town o_people o_when o_sat o_quiet o_vain o_lent o_forgiven o_sundays o_purse o_beside o_debts o_sitting o_visited o_week o_heaps o_taken o_best o_more o_firstOne o_log o_fitting o_found o_seed o_row o_saved) H locs → W p l e (rmD 0) s m args below meth c H locs 0 0 Q (F0 m 3 ls [])) ?_ _ _ hf_ _ _ _ (lv_sub hl [1, 2, 0] rfl) hW
  intro s2 x4 hf hI3 hR3 ls H locs hl hW
  refine lv_iload_n S.1 S.2.1 dX12_four_3 rfl (lv_at hl 2 rfl) ?_
  refine lv_if_lt (tgt := 38) S.1 S.2.1 dX12_four_4 (by decide) (fun c_ => ?_) (fun c_ => ?_)
  · have hf := it_p c_ hf
    have e_ := hR3 _ (Option.some.inj hf).symm
    exact hE3 _ e_ _ _ _ (lv_sub hl [] rfl) hW
  · have hf := it_n c_ hf
    refine lv_aload_n S.1 S.2.1 dX12_four_7 rfl (lv_at hl 0 rfl) ?_
    refine gfX12_7 S hK hW.1 0 rfl rfl dX12_four_8 ?_
    refine lv_aload_n S.1 S.2.1 dX12_four_11 rfl (lv_at hl 0 rfl) ?_
    refine gfX12_13 S hK hW.1 0 rfl rfl dX12_four_12 ?_
    refine lv_iconst (v := 0) S.1 S.2.1 dX12_four_15 ic_0 ?_
    obtain ⟨x5, hx5, hf⟩ := bnd_e hf
    refine q_iald S hK hW.1 2 0 rfl rfl hx5 dX12_four_16 ?_
    refine lv_iload_n S.1 S.2.1 dX12_four_17 rfl (lv_at hl 1 rfl) ?_
    refine lv_iload_n S.1 S.2.1 dX12_four_18 rfl (lv_at hl 2 rfl) ?_
    refine lv_ishr S.1 S.2.1 dX12_four_19 ?_
    refine lv_i2b (v := (jbyte (jshr p1 s2.1))) S.1 S.2.1 dX12_four_20 rfl ?_
    refine lv_topi (fun x6 ex6 => ?_)
    have hf := ltn_e hf ex6
    obtain ⟨x7, hx7, hf⟩ := bnd_e hf
    refine q_bast (ws2 := (wMd g o_q0 o_q1 o_q2 o_q3 o_q4 o_q5 o_q6 o_q7 o_q8 o_q9 o_q10 o_q11 o_q12 o_q13 o_q14 o_q15 o_q16 o_q17 o_q18 o_q19 o_q20 o_q21 o_q22 o_code x7 s2.2.2 o_fault o_faultPlace o_many o_towns o_weeks o_logs o_reached o_length o_begins o_sort o_value o_word o_wrongAt o_laterFault o_laterPlace o_told o_read o_farOne o_good o_town o_people o_when o_sat o_quiet o_vain o_lent o_forgiven o_sundays o_purse o_beside o_debts o_sitting o_visited o_week o_heaps o_taken o_best o_more o_firstOne o_log o_fitting o_found o_seed o_row o_saved)) S hK hW 1 1 rfl rfl hx7 rfl dX12_four_21 (fun H locs hW => ?_)
    refine lv_aload_n S.1 S.2.1 dX12_four_22 rfl (lv_at hl 0 rfl) ?_
    refine gfX12_13 S hK hW.1 0 rfl rfl dX12_four_23 ?_
    refine lv_iconst (v := 0) S.1 S.2.1 dX12_four_26 ic_0 ?_
    refine lv_topi (fun x8 ex8 => ?_)
    have hf := ltn_e hf ex8
    refine lv_dup2_11 S.1 S.2.1 dX12_four_27 rfl rfl ?_
    obtain ⟨x9, hx9, hf⟩ := bnd_e hf
    refine q_iald S hK hW.1 2 0 rfl rfl hx9 dX12_four_28 ?_
    refine lv_iconst (v := 1) S.1 S.2.1 dX12_four_29 ic_1 ?_
    refine lv_iadd S.1 S.2.1 dX12_four_30 ?_
    refine lv_topi (fun x10 ex10 => ?_)
    have hf := ltn_e hf ex10
    obtain ⟨x11, hx11, hf⟩ := bnd_e hf
    refine q_iast (ws2 := (wMd g o_q0 o_q1 o_q2 o_q3 o_q4 o_q5 o_q6 o_q7 o_q8 o_q9 o_q10 o_q11 o_q12 o_q13 o_q14 o_q15 o_q16 o_q17 o_q18 o_q19 o_q20 o_q21 o_q22 o_code x7 x11 o_fault o_faultPlace o_many o_towns o_weeks o_logs o_reached o_length o_begins o_sort o_value o_word o_wrongAt o_laterFault o_laterPlace o_told o_read o_farOne o_good o_town o_people o_when o_sat o_quiet o_vain o_lent o_forgiven o_sundays o_purse o_beside o_debts o_sitting o_visited o_week o_heaps o_taken o_best o_more o_firstOne o_log o_fitting o_found o_seed o_row o_saved)) S hK hW 2 0 rfl rfl hx11 rfl dX12_four_31 (fun H locs hW => ?_)
    refine q_iinc (w := (-8)) (lv' := [(2, .int (s2.1 + (-8))), (0, .ref o_q0), (1, .int p1)]) S dX12_four_32 hl (k := 2) rfl ic_m8 (by decide) rfl (fun ls hl => ?_)
    refine lv_goto (tgt := 3) S.1 S.2.1 dX12_four_35 (by decide) ?_
    exact hI3 _ (Option.some.inj hf).symm _ _ _ (lv_sub hl [1, 2, 0] rfl) hW
def f_X12_feed (fu : Nat) (o_code : Int32) (o_tape : (Nat → Int32)) (o_size : (Nat → Int32)) (p1 : Int32) (p2 : Int32) (p3 : Int32) (p4 : Int32) (p5 : Int32) : Option (Int32 × Int32 × (Nat → Int32) × (Nat → Int32)) := bnd (α := Int32) (rdi 4 o_size (0 : Int32)) (fun x1 => if (x1 + (20 : Int32)) ≤ (600 : Int32) then bnd (α := (Nat → Int32) × (Nat → Int32)) (f_X12_four fu o_tape o_size p1) (fun x2 => bnd (α := (Nat → Int32) × (Nat → Int32)) (f_X12_four fu x2.1 x2.2 p2) (fun x3 => bnd (α := (Nat → Int32) × (Nat → Int32)) (f_X12_four fu x3.1 x3.2 p3) (fun x4 => bnd (α := (Nat → Int32) × (Nat → Int32)) (f_X12_four fu x4.1 x4.2 p4) (fun x5 => bnd (α := (Nat → Int32) × (Nat → Int32)) (f_X12_four fu x5.1 x5.2 p5) (fun x6 => bnd (α := Int32) (rdi 4 x6.2 (0 : Int32)) (fun x7 => some (x7, (0 : Int32), x6.1, x6.2))))))) else some ((-1 : Int32), (0 : Int32), o_tape, o_size))
set_option maxHeartbeats 4000000 in
set_option maxRecDepth 100000 in
theorem c_X12_feed {l : Launch} {D : va_G} {g : Nat → ClassId} {fu : Nat} {o_q0 o_q1 o_q2 o_q3 o_q4 o_q5 o_q6 o_q7 o_q8 o_q9 o_q10 o_q11 o_q12 o_q13 o_q14 o_q15 o_q16 o_q17 o_q18 o_q19 o_q20 o_q21 o_q22 : Nat} {o_code : Int32} {o_tape : (Nat → Int32)} {o_size : (Nat → Int32)} {o_fault : (Nat → Int32)} {o_faultPlace : (Nat → Int32)} {o_many : (Nat → Int32)} {o_towns : (Nat → Int32)} {o_weeks : (Nat → Int32)} {o_logs : (Nat → Int32)} {o_reached : Int32} {o_length : Int32} {o_begins : Int32} {o_sort : Int32} {o_value : Int32} {o_word : Int64} {o_wrongAt : Int32} {o_laterFault : Int32} {o_laterPlace : Int32} {o_told : (Nat → Int32)} {o_read : (Nat → Int32)} {o_farOne : Int32} {o_good : Int32} {o_town : Int32} {o_people : Int32} {o_when : Int32} {o_sat : Int32} {o_quiet : Int32} {o_vain : Int32} {o_lent : Int32} {o_forgiven : Int32} {o_sundays : Int32} {o_purse : (Nat → Int32)} {o_beside : (Nat → Int32)} {o_debts : (Nat → Int32)} {o_sitting : (Nat → Int32)} {o_visited : (Nat → Int32)} {o_week : Int32} {o_heaps : (Nat → Int32)} {o_taken : (Nat → Int32)} {o_best : (Nat → Int32)} {o_more : (Nat → Int32)} {o_firstOne : Int32} {o_log : Int32} {o_fitting : (Nat → Int32)} {o_found : Int32} {o_seed : Int32} {o_row : (Nat → Int32)} {o_saved : (Nat → Int32)} {p1 : Int32} {p2 : Int32} {p3 : Int32} {p4 : Int32} {p5 : Int32} {r : Int32 × Int32 × (Nat → Int32) × (Nat → Int32)} (hf : f_X12_feed fu o_code o_tape o_size p1 p2 p3 p4 p5 = some r) : Wr l D (gy g) yX12_feed cX12_feed 6 (some .int) 1 [.ref o_q0, .int p1, .int p2, .int p3, .int p4, .int p5] (wMd g o_q0 o_q1 o_q2 o_q3 o_q4 o_q5 o_q6 o_q7 o_q8 o_q9 o_q10 o_q11 o_q12 o_q13 o_q14 o_q15 o_q16 o_q17 o_q18 o_q19 o_q20 o_q21 o_q22 o_code o_tape o_size o_fault o_faultPlace o_many o_towns o_weeks o_logs o_reached o_length o_begins o_sort o_value o_word o_wrongAt o_laterFault o_laterPlace o_told o_read o_farOne o_good o_town o_people o_when o_sat o_quiet o_vain o_lent o_forgiven o_sundays o_purse o_beside o_debts o_sitting o_visited o_week o_heaps o_taken o_best o_more o_firstOne o_log o_fitting o_found o_seed o_row o_saved) (wMd g o_q0 o_q1 o_q2 o_q3 o_q4 o_q5 o_q6 o_q7 o_q8 o_q9 o_q10 o_q11 o_q12 o_q13 o_q14 o_q15 o_q16 o_q17 o_q18 o_q19 o_q20 o_q21 o_q22 r.2.1 r.2.2.1 r.2.2.2 o_fault o_faultPlace o_many o_towns o_weeks o_logs o_reached o_length o_begins o_sort o_value o_word o_wrongAt o_laterFault o_laterPlace o_told o_read o_farOne o_good o_town o_people o_when o_sat o_quiet o_vain o_lent o_forgiven o_sundays o_purse o_beside o_debts o_sitting o_visited o_week o_heaps o_taken o_best o_more o_firstOne o_log o_fitting o_found o_seed o_row o_saved) (some (.int r.1)) := by
  refine Wr.ofI (by decide) (Nat.le_of_ble_eq_true rfl) ?_
  intro p e s m args below meth c Q A S hK hA hret ls hl hW
  have hl : lv_has ls 6 [(0, .ref o_q0), (1, .int p1), (2, .int p2), (3, .int p3), (4, .int p4), (5, .int p5)] := hl
  refine lv_aload_n S.1 S.2.1 dX12_feed_0 rfl (lv_at hl 0 rfl) ?_
  refine lv_iconst (v := 0) S.1 S.2.1 dX12_feed_1 ic_0 ?_
  refine pfX12_78 (ws2 := (wMd g o_q0 o_q1 o_q2 o_q3 o_q4 o_q5 o_q6 o_q7 o_q8 o_q9 o_q10 o_q11 o_q12 o_q13 o_q14 o_q15 o_q16 o_q17 o_q18 o_q19 o_q20 o_q21 o_q22 (0 : Int32) o_tape o_size o_fault o_faultPlace o_many o_towns o_weeks o_logs o_reached o_length o_begins o_sort o_value o_word o_wrongAt o_laterFault o_laterPlace o_told o_read o_farOne o_good o_town o_people o_when o_sat o_quiet o_vain o_lent o_forgiven o_sundays o_purse o_beside o_debts o_sitting o_visited o_week o_heaps o_taken o_best o_more o_firstOne o_log o_fitting o_found o_seed o_row o_saved)) S hK hW 0 rfl rfl rfl (Nat.le_of_ble_eq_true rfl) rfl dX12_feed_2 (fun H locs hW => ?_)
  refine lv_aload_n S.1 S.2.1 dX12_feed_5 rfl (lv_at hl 0 rfl) ?_
  refine gfX12_13 S hK hW.1 0 rfl rfl dX12_feed_6 ?_
  refine lv_iconst (v := 0) S.1 S.2.1 dX12_feed_9 ic_0 ?_
  obtain ⟨x1, hx1, hf⟩ := bnd_e hf
  refine q_iald S hK hW.1 2 0 rfl rfl hx1 dX12_feed_10 ?_
  refine lv_bipush (v := 20) S.1 S.2.1 dX12_feed_11 bp_20 ?_
  refine lv_iadd S.1 S.2.1 dX12_feed_13 ?_
  refine lv_sipush (v := 600) S.1 S.2.1 dX12_feed_14 sp_600 ?_
  refine lv_icmp_le (tgt := 22) S.1 S.2.1 dX12_feed_17 (by decide) (fun c_ => ?_) (fun c_ => ?_)
  · have hf := it_p c_ hf
    refine lv_aload_n S.1 S.2.1 dX12_feed_22 rfl (lv_at hl 0 rfl) ?_
    refine lv_iload_n S.1 S.2.1 dX12_feed_23 rfl (lv_at hl 1 rfl) ?_
    obtain ⟨x2, hx2, hf⟩ := bnd_e hf
    refine Wr.goW (Wr.runV (c_X12_four hx2) S hK hW.1 hW.2.1 0 10 rfl rfl kVX12_94 rfl hl.1 [] rfl (Nat.le_of_ble_eq_true rfl) ⟨(Nat.le_of_ble_eq_true rfl), (Nat.le_of_ble_eq_true rfl)⟩ ⟨(Nat.zero_le _), (Nat.zero_le _)⟩ dX12_feed_24) hW hA (fun H locs hW => ?_)
    refine lv_aload_n S.1 S.2.1 dX12_feed_27 rfl (lv_at hl 0 rfl) ?_
    refine lv_iload_n S.1 S.2.1 dX12_feed_28 rfl (lv_at hl 2 rfl) ?_
    obtain ⟨x3, hx3, hf⟩ := bnd_e hf
    refine Wr.goW (Wr.runV (c_X12_four hx3) S hK hW.1 hW.2.1 0 10 rfl rfl kVX12_94 rfl hl.1 [] rfl (Nat.le_of_ble_eq_true rfl) ⟨(Nat.le_of_ble_eq_true rfl), (Nat.le_of_ble_eq_true rfl)⟩ ⟨(Nat.zero_le _), (Nat.zero_le _)⟩ dX12_feed_29) hW hA (fun H locs hW => ?_)
    refine lv_aload_n S.1 S.2.1 dX12_feed_32 rfl (lv_at hl 0 rfl) ?_
    refine lv_iload_n S.1 S.2.1 dX12_feed_33 rfl (lv_at hl 3 rfl) ?_
    obtain ⟨x4, hx4, hf⟩ := bnd_e hf
    refine Wr.goW (Wr.runV (c_X12_four hx4) S hK hW.1 hW.2.1 0 10 rfl rfl kVX12_94 rfl hl.1 [] rfl (Nat.le_of_ble_eq_true rfl) ⟨(Nat.le_of_ble_eq_true rfl), (Nat.le_of_ble_eq_true rfl)⟩ ⟨(Nat.zero_le _), (Nat.zero_le _)⟩ dX12_feed_34) hW hA (fun H locs hW => ?_)
    refine lv_aload_n S.1 S.2.1 dX12_feed_37 rfl (lv_at hl 0 rfl) ?_
    refine lv_iload S.1 S.2.1 dX12_feed_38 (lv_at hl 4 rfl) ?_
    obtain ⟨x5, hx5, hf⟩ := bnd_e hf
    refine Wr.goW (Wr.runV (c_X12_four hx5) S hK hW.1 hW.2.1 0 10 rfl rfl kVX12_94 rfl hl.1 [] rfl (Nat.le_of_ble_eq_true rfl) ⟨(Nat.le_of_ble_eq_true rfl), (Nat.le_of_ble_eq_true rfl)⟩ ⟨(Nat.zero_le _), (Nat.zero_le _)⟩ dX12_feed_40) hW hA (fun H locs hW => ?_)
    refine lv_aload_n S.1 S.2.1 dX12_feed_43 rfl (lv_at hl 0 rfl) ?_
    refine lv_iload S.1 S.2.1 dX12_feed_44 (lv_at hl 5 rfl) ?_
    obtain ⟨x6, hx6, hf⟩ := bnd_e hf
    refine Wr.goW (Wr.runV (c_X12_four hx6) S hK hW.1 hW.2.1 0 10 rfl rfl kVX12_94 rfl hl.1 [] rfl (Nat.le_of_ble_eq_true rfl) ⟨(Nat.le_of_ble_eq_true rfl), (Nat.le_of_ble_eq_true rfl)⟩ ⟨(Nat.zero_le _), (Nat.zero_le _)⟩ dX12_feed_46) hW hA (fun H locs hW => ?_)
    refine lv_aload_n S.1 S.2.1 dX12_feed_49 rfl (lv_at hl 0 rfl) ?_
    refine gfX12_13 S hK hW.1 0 rfl rfl dX12_feed_50 ?_
    refine lv_iconst (v := 0) S.1 S.2.1 dX12_feed_53 ic_0 ?_
    obtain ⟨x7, hx7, hf⟩ := bnd_e hf
    refine q_iald S hK hW.1 2 0 rfl rfl hx7 dX12_feed_54 ?_
    have e_ := Option.some.inj hf
    subst e_
    exact hret _ _ _ _ dX12_feed_55 hW
  · have hf := it_n c_ hf
    refine lv_iconst (v := (-1)) S.1 S.2.1 dX12_feed_20 ic_m1 ?_
    have e_ := Option.some.inj hf
    subst e_
    exact hret _ _ _ _ dX12_feed_21 hW
def f_X12_end (fu : Nat) (o_code : Int32) (o_size : (Nat → Int32)) (p1 : Int32) : Option (Int32 × Int32 × (Nat → Int32)) := bnd (α := Int32) (rdi 4 o_size (0 : Int32)) (fun x1 => bnd (α := Int32) (f_X12_in fu p1 (0 : Int32) x1) (fun x2 => if x2 = 0 then some ((-1 : Int32), (0 : Int32), o_size) else bnd (α := (Nat → Int32)) (wri 4 o_size (0 : Int32) p1) (fun x3 => some (p1, (0 : Int32), x3))))
set_option maxHeartbeats 4000000 in
set_option maxRecDepth 100000 in
theorem c_X12_end {l : Launch} {D : va_G} {g : Nat → ClassId} {fu : Nat} {o_q0 o_q1 o_q2 o_q3 o_q4 o_q5 o_q6 o_q7 o_q8 o_q9 o_q10 o_q11 o_q12 o_q13 o_q14 o_q15 o_q16 o_q17 o_q18 o_q19 o_q20 o_q21 o_q22 : Nat} {o_code : Int32} {o_tape : (Nat → Int32)} {o_size : (Nat → Int32)} {o_fault : (Nat → Int32)} {o_faultPlace : (Nat → Int32)} {o_many : (Nat → Int32)} {o_towns : (Nat → Int32)} {o_weeks : (Nat → Int32)} {o_logs : (Nat → Int32)} {o_reached : Int32} {o_length : Int32} {o_begins : Int32} {o_sort : Int32} {o_value : Int32} {o_word : Int64} {o_wrongAt : Int32} {o_laterFault : Int32} {o_laterPlace : Int32} {o_told : (Nat → Int32)} {o_read : (Nat → Int32)} {o_farOne : Int32} {o_good : Int32} {o_town : Int32} {o_people : Int32} {o_when : Int32} {o_sat : Int32} {o_quiet : Int32} {o_vain : Int32} {o_lent : Int32} {o_forgiven : Int32} {o_sundays : Int32} {o_purse : (Nat → Int32)} {o_beside : (Nat → Int32)} {o_debts : (Nat → Int32)} {o_sitting : (Nat → Int32)} {o_visited : (Nat → Int32)} {o_week : Int32} {o_heaps : (Nat → Int32)} {o_taken : (Nat → Int32)} {o_best : (Nat → Int32)} {o_more : (Nat → Int32)} {o_firstOne : Int32} {o_log : Int32} {o_fitting : (Nat → Int32)} {o_found : Int32} {o_seed : Int32} {o_row : (Nat → Int32)} {o_saved : (Nat → Int32)} {p1 : Int32} {r : Int32 × Int32 × (Nat → Int32)} (hf : f_X12_end fu o_code o_size p1 = some r) : Wr l D (gy g) yX12_end cX12_end 2 (some .int) 1 [.ref o_q0, .int p1] (wMd g o_q0 o_q1 o_q2 o_q3 o_q4 o_q5 o_q6 o_q7 o_q8 o_q9 o_q10 o_q11 o_q12 o_q13 o_q14 o_q15 o_q16 o_q17 o_q18 o_q19 o_q20 o_q21 o_q22 o_code o_tape o_size o_fault o_faultPlace o_many o_towns o_weeks o_logs o_reached o_length o_begins o_sort o_value o_word o_wrongAt o_laterFault o_laterPlace o_told o_read o_farOne o_good o_town o_people o_when o_sat o_quiet o_vain o_lent o_forgiven o_sundays o_purse o_beside o_debts o_sitting o_visited o_week o_heaps o_taken o_best o_more o_firstOne o_log o_fitting o_found o_seed o_row o_saved) (wMd g o_q0 o_q1 o_q2 o_q3 o_q4 o_q5 o_q6 o_q7 o_q8 o_q9 o_q10 o_q11 o_q12 o_q13 o_q14 o_q15 o_q16 o_q17 o_q18 o_q19 o_q20 o_q21 o_q22 r.2.1 o_tape r.2.2 o_fault o_faultPlace o_many o_towns o_weeks o_logs o_reached o_length o_begins o_sort o_value o_word o_wrongAt o_laterFault o_laterPlace o_told o_read o_farOne o_good o_town o_people o_when o_sat o_quiet o_vain o_lent o_forgiven o_sundays o_purse o_beside o_debts o_sitting o_visited o_week o_heaps o_taken o_best o_more o_firstOne o_log o_fitting o_found o_seed o_row o_saved) (some (.int r.1)) := by
  refine Wr.ofI (by decide) (Nat.le_of_ble_eq_true rfl) ?_
  intro p e s m args below meth c Q A S hK hA hret ls hl hW
  have hl : lv_has ls 2 [(0, .ref o_q0), (1, .int p1)] := hl
  refine lv_aload_n S.1 S.2.1 dX12_end_0 rfl (lv_at hl 0 rfl) ?_
  refine lv_iconst (v := 0) S.1 S.2.1 dX12_end_1 ic_0 ?_
  refine pfX12_78 (ws2 := (wMd g o_q0 o_q1 o_q2 o_q3 o_q4 o_q5 o_q6 o_q7 o_q8 o_q9 o_q10 o_q11 o_q12 o_q13 o_q14 o_q15 o_q16 o_q17 o_q18 o_q19 o_q20 o_q21 o_q22 (0 : Int32) o_tape o_size o_fault o_faultPlace o_many o_towns o_weeks o_logs o_reached o_length o_begins o_sort o_value o_word o_wrongAt o_laterFault o_laterPlace o_told o_read o_farOne o_good o_town o_people o_when o_sat o_quiet o_vain o_lent o_forgiven o_sundays o_purse o_beside o_debts o_sitting o_visited o_week o_heaps o_taken o_best o_more o_firstOne o_log o_fitting o_found o_seed o_row o_saved)) S hK hW 0 rfl rfl rfl (Nat.le_of_ble_eq_true rfl) rfl dX12_end_2 (fun H locs hW => ?_)
  refine lv_iload_n S.1 S.2.1 dX12_end_5 rfl (lv_at hl 1 rfl) ?_
  refine lv_iconst (v := 0) S.1 S.2.1 dX12_end_6 ic_0 ?_
  refine lv_aload_n S.1 S.2.1 dX12_end_7 rfl (lv_at hl 0 rfl) ?_
  refine gfX12_13 S hK hW.1 0 rfl rfl dX12_end_8 ?_
  refine lv_iconst (v := 0) S.1 S.2.1 dX12_end_11 ic_0 ?_
  obtain ⟨x1, hx1, hf⟩ := bnd_e hf
  refine q_iald S hK hW.1 2 0 rfl rfl hx1 dX12_end_12 ?_
  obtain ⟨x2, hx2, hf⟩ := bnd_e hf
  refine Rd.cS (c_X12_in hx2) S hK va_P.nil kSX12_90 rfl hl.1 [] rfl (Nat.le_of_ble_eq_true rfl) ⟨(Nat.le_of_ble_eq_true rfl), (Nat.le_of_ble_eq_true rfl)⟩ ⟨(Nat.zero_le _), (Nat.zero_le _)⟩ dX12_end_13 ?_
  refine lv_if_ne (tgt := 21) S.1 S.2.1 dX12_end_16 (by decide) (fun c_ => ?_) (fun c_ => ?_)
  · have hf := it_n c_ hf
    refine lv_aload_n S.1 S.2.1 dX12_end_21 rfl (lv_at hl 0 rfl) ?_
    refine gfX12_13 S hK hW.1 0 rfl rfl dX12_end_22 ?_
    refine lv_iconst (v := 0) S.1 S.2.1 dX12_end_25 ic_0 ?_
    refine lv_iload_n S.1 S.2.1 dX12_end_26 rfl (lv_at hl 1 rfl) ?_
    obtain ⟨x3, hx3, hf⟩ := bnd_e hf
    refine q_iast (ws2 := (wMd g o_q0 o_q1 o_q2 o_q3 o_q4 o_q5 o_q6 o_q7 o_q8 o_q9 o_q10 o_q11 o_q12 o_q13 o_q14 o_q15 o_q16 o_q17 o_q18 o_q19 o_q20 o_q21 o_q22 (0 : Int32) o_tape x3 o_fault o_faultPlace o_many o_towns o_weeks o_logs o_reached o_length o_begins o_sort o_value o_word o_wrongAt o_laterFault o_laterPlace o_told o_read o_farOne o_good o_town o_people o_when o_sat o_quiet o_vain o_lent o_forgiven o_sundays o_purse o_beside o_debts o_sitting o_visited o_week o_heaps o_taken o_best o_more o_firstOne o_log o_fitting o_found o_seed o_row o_saved)) S hK hW 2 0 rfl rfl hx3 rfl dX12_end_27 (fun H locs hW => ?_)
    refine lv_iload_n S.1 S.2.1 dX12_end_28 rfl (lv_at hl 1 rfl) ?_
    have e_ := Option.some.inj hf
    subst e_
    exact hret _ _ _ _ dX12_end_29 hW
  · have hf := it_p c_ hf
    refine lv_iconst (v := (-1)) S.1 S.2.1 dX12_end_19 ic_m1 ?_
    have e_ := Option.some.inj hf
    subst e_
    exact hret _ _ _ _ dX12_end_20 hW
def f_X12_see (fu : Nat) (o_tape : (Nat → Int32)) (o_reached : Int32) (o_length : Int32) : Option (Int32) := if o_length ≤ o_reached then some (-1 : Int32) else bnd (α := Int32) (rdi 2400 o_tape o_reached) (fun x1 => some (x1 &&& (255 : Int32)))
set_option maxHeartbeats 4000000 in
set_option maxRecDepth 100000 in
theorem c_X12_see {l : Launch} {D : va_G} {g : Nat → ClassId} {fu : Nat} {o_q0 o_q1 o_q2 o_q3 o_q4 o_q5 o_q6 o_q7 o_q8 o_q9 o_q10 o_q11 o_q12 o_q13 o_q14 o_q15 o_q16 o_q17 o_q18 o_q19 o_q20 o_q21 o_q22 : Nat} {o_code : Int32} {o_tape : (Nat → Int32)} {o_size : (Nat → Int32)} {o_fault : (Nat → Int32)} {o_faultPlace : (Nat → Int32)} {o_many : (Nat → Int32)} {o_towns : (Nat → Int32)} {o_weeks : (Nat → Int32)} {o_logs : (Nat → Int32)} {o_reached : Int32} {o_length : Int32} {o_begins : Int32} {o_sort : Int32} {o_value : Int32} {o_word : Int64} {o_wrongAt : Int32} {o_laterFault : Int32} {o_laterPlace : Int32} {o_told : (Nat → Int32)} {o_read : (Nat → Int32)} {o_farOne : Int32} {o_good : Int32} {o_town : Int32} {o_people : Int32} {o_when : Int32} {o_sat : Int32} {o_quiet : Int32} {o_vain : Int32} {o_lent : Int32} {o_forgiven : Int32} {o_sundays : Int32} {o_purse : (Nat → Int32)} {o_beside : (Nat → Int32)} {o_debts : (Nat → Int32)} {o_sitting : (Nat → Int32)} {o_visited : (Nat → Int32)} {o_week : Int32} {o_heaps : (Nat → Int32)} {o_taken : (Nat → Int32)} {o_best : (Nat → Int32)} {o_more : (Nat → Int32)} {o_firstOne : Int32} {o_log : Int32} {o_fitting : (Nat → Int32)} {o_found : Int32} {o_seed : Int32} {o_row : (Nat → Int32)} {o_saved : (Nat → Int32)} {r : Int32} (hf : f_X12_see fu o_tape o_reached o_length = some r) : Rd l D (gy g) yX12_see cX12_see 1 (some .int) 0 [.ref o_q0] (wMd g o_q0 o_q1 o_q2 o_q3 o_q4 o_q5 o_q6 o_q7 o_q8 o_q9 o_q10 o_q11 o_q12 o_q13 o_q14 o_q15 o_q16 o_q17 o_q18 o_q19 o_q20 o_q21 o_q22 o_code o_tape o_size o_fault o_faultPlace o_many o_towns o_weeks o_logs o_reached o_length o_begins o_sort o_value o_word o_wrongAt o_laterFault o_laterPlace o_told o_read o_farOne o_good o_town o_people o_when o_sat o_quiet o_vain o_lent o_forgiven o_sundays o_purse o_beside o_debts o_sitting o_visited o_week o_heaps o_taken o_best o_more o_firstOne o_log o_fitting o_found o_seed o_row o_saved) (some (.int r)) := by
  refine Rd.ofI (by decide) (Nat.le_of_ble_eq_true rfl) ?_
  intro p e s m args below meth c Q S hK hP hret ls hl
  have hl : lv_has ls 1 [(0, .ref o_q0)] := hl
  refine lv_aload_n S.1 S.2.1 dX12_see_0 rfl (lv_at hl 0 rfl) ?_
  refine gfX12_98 S hK hP 0 rfl rfl dX12_see_1 ?_
  refine lv_aload_n S.1 S.2.1 dX12_see_4 rfl (lv_at hl 0 rfl) ?_
  refine gfX12_101 S hK hP 0 rfl rfl dX12_see_5 ?_
  refine lv_icmp_ge (tgt := 27) S.1 S.2.1 dX12_see_8 (by decide) (fun c_ => ?_) (fun c_ => ?_)
  · have hf := it_p c_ hf
    refine lv_iconst (v := (-1)) S.1 S.2.1 dX12_see_27 ic_m1 ?_
    have e_ := Option.some.inj hf
    subst e_
    exact hret _ _ dX12_see_28
  · have hf := it_n c_ hf
    refine lv_aload_n S.1 S.2.1 dX12_see_11 rfl (lv_at hl 0 rfl) ?_
    refine gfX12_7 S hK hP 0 rfl rfl dX12_see_12 ?_
    refine lv_aload_n S.1 S.2.1 dX12_see_15 rfl (lv_at hl 0 rfl) ?_
    refine gfX12_98 S hK hP 0 rfl rfl dX12_see_16 ?_
    obtain ⟨x1, hx1, hf⟩ := bnd_e hf
    refine q_bald S hK hP 1 1 rfl rfl hx1 dX12_see_19 ?_
    refine lv_sipush (v := 255) S.1 S.2.1 dX12_see_20 sp_255 ?_
    refine lv_iand S.1 S.2.1 dX12_see_23 ?_
    refine lv_goto (tgt := 28) S.1 S.2.1 dX12_see_24 (by decide) ?_
    have e_ := Option.some.inj hf
    subst e_
    exact hret _ _ dX12_see_28
def f_X12_token_L0 (fu : Nat) (o_tape : (Nat → Int32)) (o_length : Int32) (s2 : Int32) : Option ((Int32) ⊕ (Int32)) := bnd (α := Int32) (f_X12_see fu o_tape s2 o_length) (fun x5 => if x5 = (10 : Int32) then ltn (s2 + (1 : Int32)) (fun x6 => some (.inl x6)) else bnd (α := Int32) (f_X12_see fu o_tape s2 o_length) (fun x7 => if x7 = (32 : Int32) then ltn (s2 + (1 : Int32)) (fun x8 => some (.inl x8)) else some (.inr s2)))
def f_X12_token_L163 (fu : Nat) (o_tape : (Nat → Int32)) (o_length : Int32) (s15 : Int32 × Int32 × Int32) : Option ((Int32 × Int32 × Int32) ⊕ (Int32 × Int32 × Int32)) := bnd (α := Int32) (f_X12_see fu o_tape s15.2.1 o_length) (fun x18 => bnd (α := Int32) (f_X12_in fu x18 (48 : Int32) (57 : Int32)) (fun x19 => if x19 = 0 then some (.inr (s15.1, s15.2.1, s15.2.2)) else if (2 : Int32) ≤ s15.1 then ltn (s15.2.1 + (1 : Int32)) (fun x20 => some (.inl ((s15.1 + 1), x20, s15.2.2))) else bnd (α := Int32) (f_X12_see fu o_tape s15.2.1 o_length) (fun x21 => ltn ((((10 : Int32) * s15.2.2) + x21) - (48 : Int32)) (fun x22 => ltn (s15.2.1 + (1 : Int32)) (fun x23 => some (.inl ((s15.1 + 1), x23, x22)))))))
def f_X12_token_L74 (fu : Nat) (o_tape : (Nat → Int32)) (o_length : Int32) (s26 : Int32 × Int32 × Int64) : Option ((Int32 × Int32 × Int64) ⊕ (Int32 × Int32 × Int64)) := bnd (α := Int32) (f_X12_see fu o_tape s26.2.1 o_length) (fun x29 => bnd (α := Int32) (f_X12_in fu x29 (97 : Int32) (122 : Int32)) (fun x30 => if x30 = 0 then some (.inr (s26.1, s26.2.1, s26.2.2)) else bnd (α := Int32) (f_X12_see fu o_tape s26.2.1 o_length) (fun x31 => ltn ((jshll s26.2.2 (8 : Int32)) ||| (x31.toInt64)) (fun x32 => ltn (s26.2.1 + (1 : Int32)) (fun x33 => some (.inl ((s26.1 + 1), x33, x32)))))))
def f_X12_token (fu : Nat) (o_tape : (Nat → Int32)) (o_reached : Int32) (o_length : Int32) (o_begins : Int32) (o_sort : Int32) (o_value : Int32) (o_word : Int64) : Option (Int32 × Int32 × Int32 × Int32 × Int64) := bnd (α := Int32) (lp (f_X12_token_L0 fu o_tape o_length) fu o_reached) (fun v9 => bnd (α := Int32) (f_X12_see fu o_tape v9 o_length) (fun x10 => if 0 ≤ x10 then bnd (α := Int32) (f_X12_in fu x10 (97 : Int32) (122 : Int32)) (fun x11 => if x11 = 0 then bnd (α := Int32) (f_X12_in fu x10 (48 : Int32) (57 : Int32)) (fun x12 => if x12 = 0 then ltn (v9 + (1 : Int32)) (fun x13 => if x10 = (59 : Int32) then some (x13, v9, (4 : Int32), o_value, (0 : Int64)) else some (x13, v9, (1 : Int32), o_value, (0 : Int64))) else bnd (α := Int32 × Int32 × Int32) (lp (f_X12_token_L163 fu o_tape o_length) fu ((0 : Int32), v9, (0 : Int32))) (fun v24 => if v24.1 ≤ (2 : Int32) then some (v24.2.1, v9, (3 : Int32), v24.2.2, (0 : Int64)) else some (v24.2.1, v9, (1 : Int32), v24.2.2, (0 : Int64)))) else bnd (α := Int32 × Int32 × Int64) (lp (f_X12_token_L74 fu o_tape o_length) fu ((0 : Int32), v9, (0 : Int64))) (fun v34 => if v34.1 ≤ (8 : Int32) then some (v34.2.1, v9, (2 : Int32), o_value, v34.2.2) else some (v34.2.1, v9, (2 : Int32), o_value, (0 : Int64)))) else some (v9, v9, (0 : Int32), o_value, (0 : Int64))))
set_option maxHeartbeats 4000000 in
set_option maxRecDepth 100000 in
theorem c_X12_token {l : Launch} {D : va_G} {g : Nat → ClassId} {fu : Nat} {o_q0 o_q1 o_q2 o_q3 o_q4 o_q5 o_q6 o_q7 o_q8 o_q9 o_q10 o_q11 o_q12 o_q13 o_q14 o_q15 o_q16 o_q17 o_q18 o_q19 o_q20 o_q21 o_q22 : Nat} {o_code : Int32} {o_tape : (Nat → Int32)} {o_size : (Nat → Int32)} {o_fault : (Nat → Int32)} {o_faultPlace : (Nat → Int32)} {o_many : (Nat → Int32)} {o_towns : (Nat → Int32)} {o_weeks : (Nat → Int32)} {o_logs : (Nat → Int32)} {o_reached : Int32} {o_length : Int32} {o_begins : Int32} {o_sort : Int32} {o_value : Int32} {o_word : Int64} {o_wrongAt : Int32} {o_laterFault : Int32} {o_laterPlace : Int32} {o_told : (Nat → Int32)} {o_read : (Nat → Int32)} {o_farOne : Int32} {o_good : Int32} {o_town : Int32} {o_people : Int32} {o_when : Int32} {o_sat : Int32} {o_quiet : Int32} {o_vain : Int32} {o_lent : Int32} {o_forgiven : Int32} {o_sundays : Int32} {o_purse : (Nat → Int32)} {o_beside : (Nat → Int32)} {o_debts : (Nat → Int32)} {o_sitting : (Nat → Int32)} {o_visited : (Nat → Int32)} {o_week : Int32} {o_heaps : (Nat → Int32)} {o_taken : (Nat → Int32)} {o_best : (Nat → Int32)} {o_more : (Nat → Int32)} {o_firstOne : Int32} {o_log : Int32} {o_fitting : (Nat → Int32)} {o_found : Int32} {o_seed : Int32} {o_row : (Nat → Int32)} {o_saved : (Nat → Int32)} {r : Int32 × Int32 × Int32 × Int32 × Int64} (hf : f_X12_token fu o_tape o_reached o_length o_begins o_sort o_value o_word = some r) : Wr l D (gy g) yX12_token cX12_token 3 none 1 [.ref o_q0] (wMd g o_q0 o_q1 o_q2 o_q3 o_q4 o_q5 o_q6 o_q7 o_q8 o_q9 o_q10 o_q11 o_q12 o_q13 o_q14 o_q15 o_q16 o_q17 o_q18 o_q19 o_q20 o_q21 o_q22 o_code o_tape o_size o_fault o_faultPlace o_many o_towns o_weeks o_logs o_reached o_length o_begins o_sort o_value o_word o_wrongAt o_laterFault o_laterPlace o_told o_read o_farOne o_good o_town o_people o_when o_sat o_quiet o_vain o_lent o_forgiven o_sundays o_purse o_beside o_debts o_sitting o_visited o_week o_heaps o_taken o_best o_more o_firstOne o_log o_fitting o_found o_seed o_row o_saved) (wMd g o_q0 o_q1 o_q2 o_q3 o_q4 o_q5 o_q6 o_q7 o_q8 o_q9 o_q10 o_q11 o_q12 o_q13 o_q14 o_q15 o_q16 o_q17 o_q18 o_q19 o_q20 o_q21 o_q22 o_code o_tape o_size o_fault o_faultPlace o_many o_towns o_weeks o_logs r.1 o_length r.2.1 r.2.2.1 r.2.2.2.1 r.2.2.2.2 o_wrongAt o_laterFault o_laterPlace o_told o_read o_farOne o_good o_town o_people o_when o_sat o_quiet o_vain o_lent o_forgiven o_sundays o_purse o_beside o_debts o_sitting o_visited o_week o_heaps o_taken o_best o_more o_firstOne o_log o_fitting o_found o_seed o_row o_saved) none := by
  refine Wr.ofV (by decide) (Nat.le_of_ble_eq_true rfl) ?_
  intro p e s m args below meth c Q A S hK hA hret ls hl hW
  have hl : lv_has ls 3 [(0, .ref o_q0)] := hl
  obtain ⟨x3, hf_, hk3⟩ := bnd_e hf
  have hE3 : ∀ (v9 : Int32), v9 = x3 → ∀ (ls : Array Slot) (H : Heap) (locs : List Loc), lv_has ls 3 [(0, .ref o_q0)] → St A s.heap D (wMd g o_q0 o_q1 o_q2 o_q3 o_q4 o_q5 o_q6 o_q7 o_q8 o_q9 o_q10 o_q11 o_q12 o_q13 o_q14 o_q15 o_q16 o_q17 o_q18 o_q19 o_q20 o_q21 o_q22 o_code o_tape o_size o_fault o_faultPlace o_many o_towns o_weeks o_logs v9 o_length o_begins o_sort o_value o_word o_wrongAt o_laterFault o_laterPlace o_told o_read o_farOne o_good o_town o_people o_when o_sat o_quiet o_vain o_lent o_forgiven o_sundays o_purse o_beside o_debts o_sitting o_visited o_week o_heaps o_taken o_best o_more o_firstOne o_log o_fitting o_found o_seed o_row o_saved) H locs → W p l e (rmD 1) s m args below meth c H locs 0 0 Q (F0 m 31 ls []) := by
    intro v9 e_ ls H locs hl hW
    subst e_
    have hf := hk3
    refine lv_aload_n S.1 S.2.1 dX12_token_31 rfl (lv_at hl 0 rfl) ?_
    refine lv_aload_n S.1 S.2.1 dX12_token_32 rfl (lv_at hl 0 rfl) ?_
    refine gfX12_98 S hK hW.1 0 rfl rfl dX12_token_33 ?_
    refine pfX12_108 (ws2 := (wMd g o_q0 o_q1 o_q2 o_q3 o_q4 o_q5 o_q6 o_q7 o_q8 o_q9 o_q10 o_q11 o_q12 o_q13 o_q14 o_q15 o_q16 o_q17 o_q18 o_q19 o_q20 o_q21 o_q22 o_code o_tape o_size o_fault o_faultPlace o_many o_towns o_weeks o_logs v9 o_length v9 o_sort o_value o_word o_wrongAt o_laterFault o_laterPlace o_told o_read o_farOne o_good o_town o_people o_when o_sat o_quiet o_vain o_lent o_forgiven o_sundays o_purse o_beside o_debts o_sitting o_visited o_week o_heaps o_taken o_best o_more o_firstOne o_log o_fitting o_found o_seed o_row o_saved)) S hK hW 0 rfl rfl rfl (Nat.le_of_ble_eq_true rfl) rfl dX12_token_36 (fun H locs hW => ?_)
    refine lv_aload_n S.1 S.2.1 dX12_token_39 rfl (lv_at hl 0 rfl) ?_
    obtain ⟨x10, hx10, hf⟩ := bnd_e hf
    refine Rd.cV (c_X12_see hx10) S hK hW.1 0 10 rfl rfl kVX12_104 rfl hl.1 [] rfl (Nat.le_of_ble_eq_true rfl) ⟨(Nat.le_of_ble_eq_true rfl), (Nat.le_of_ble_eq_true rfl)⟩ ⟨(Nat.zero_le _), (Nat.zero_le _)⟩ dX12_token_40 ?_
    refine lv_istore_n (lv' := [(1, .int x10), (0, .ref o_q0)]) S.1 S.2.1 dX12_token_43 rfl hl (by decide) rfl (fun ls hl => ?_)
    refine lv_aload_n S.1 S.2.1 dX12_token_44 rfl (lv_at hl 1 rfl) ?_
    refine lv_lconst (v := 0) S.1 S.2.1 dX12_token_45 rfl ?_
    refine pfX12_111 (ws2 := (wMd g o_q0 o_q1 o_q2 o_q3 o_q4 o_q5 o_q6 o_q7 o_q8 o_q9 o_q10 o_q11 o_q12 o_q13 o_q14 o_q15 o_q16 o_q17 o_q18 o_q19 o_q20 o_q21 o_q22 o_code o_tape o_size o_fault o_faultPlace o_many o_towns o_weeks o_logs v9 o_length v9 o_sort o_value (0 : Int64) o_wrongAt o_laterFault o_laterPlace o_told o_read o_farOne o_good o_town o_people o_when o_sat o_quiet o_vain o_lent o_forgiven o_sundays o_purse o_beside o_debts o_sitting o_visited o_week o_heaps o_taken o_best o_more o_firstOne o_log o_fitting o_found o_seed o_row o_saved)) S hK hW 0 rfl rfl rfl (Nat.le_of_ble_eq_true rfl) rfl dX12_token_46 (fun H locs hW => ?_)
    refine lv_iconst (v := 0) S.1 S.2.1 dX12_token_49 ic_0 ?_
    refine lv_istore_n (lv' := [(2, .int (0 : Int32)), (1, .int x10), (0, .ref o_q0)]) S.1 S.2.1 dX12_token_50 rfl hl (by decide) rfl (fun ls hl => ?_)
    refine lv_iload_n S.1 S.2.1 dX12_token_51 rfl (lv_at hl 1 rfl) ?_
    refine lv_if_ge (tgt := 63) S.1 S.2.1 dX12_token_52 (by decide) (fun c_ => ?_) (fun c_ => ?_)
    · have hf := it_p c_ hf
      refine lv_iload_n S.1 S.2.1 dX12_token_63 rfl (lv_at hl 1 rfl) ?_
      refine lv_bipush (v := 97) S.1 S.2.1 dX12_token_64 bp_97 ?_
      refine lv_bipush (v := 122) S.1 S.2.1 dX12_token_66 bp_122 ?_
      obtain ⟨x11, hx11, hf⟩ := bnd_e hf
      refine Rd.cS (c_X12_in hx11) S hK va_P.nil kSX12_90 rfl hl.1 [] rfl (Nat.le_of_ble_eq_true rfl) ⟨(Nat.le_of_ble_eq_true rfl), (Nat.le_of_ble_eq_true rfl)⟩ ⟨(Nat.zero_le _), (Nat.zero_le _)⟩ dX12_token_68 ?_
      refine lv_if_eq (tgt := 147) S.1 S.2.1 dX12_token_71 (by decide) (fun c_ => ?_) (fun c_ => ?_)
      · have hf := it_p c_ hf
        refine lv_iload_n S.1 S.2.1 dX12_token_147 rfl (lv_at hl 1 rfl) ?_
        refine lv_bipush (v := 48) S.1 S.2.1 dX12_token_148 bp_48 ?_
        refine lv_bipush (v := 57) S.1 S.2.1 dX12_token_150 bp_57 ?_
        obtain ⟨x12, hx12, hf⟩ := bnd_e hf
        refine Rd.cS (c_X12_in hx12) S hK va_P.nil kSX12_90 rfl hl.1 [] rfl (Nat.le_of_ble_eq_true rfl) ⟨(Nat.le_of_ble_eq_true rfl), (Nat.le_of_ble_eq_true rfl)⟩ ⟨(Nat.zero_le _), (Nat.zero_le _)⟩ dX12_token_152 ?_
        refine lv_if_eq (tgt := 241) S.1 S.2.1 dX12_token_155 (by decide) (fun c_ => ?_) (fun c_ => ?_)
        · have hf := it_p c_ hf
          refine lv_aload_n S.1 S.2.1 dX12_token_241 rfl (lv_at hl 2 rfl) ?_
          refine lv_dup S.1 S.2.1 dX12_token_242 rfl ?_
          refine gfX12_98 S hK hW.1 0 rfl rfl dX12_token_243 ?_
          refine lv_iconst (v := 1) S.1 S.2.1 dX12_token_246 ic_1 ?_
          refine lv_iadd S.1 S.2.1 dX12_token_247 ?_
          refine lv_topi (fun x13 ex13 => ?_)
          have hf := ltn_e hf ex13
          refine pfX12_98 (ws2 := (wMd g o_q0 o_q1 o_q2 o_q3 o_q4 o_q5 o_q6 o_q7 o_q8 o_q9 o_q10 o_q11 o_q12 o_q13 o_q14 o_q15 o_q16 o_q17 o_q18 o_q19 o_q20 o_q21 o_q22 o_code o_tape o_size o_fault o_faultPlace o_many o_towns o_weeks o_logs x13 o_length v9 o_sort o_value (0 : Int64) o_wrongAt o_laterFault o_laterPlace o_told o_read o_farOne o_good o_town o_people o_when o_sat o_quiet o_vain o_lent o_forgiven o_sundays o_purse o_beside o_debts o_sitting o_visited o_week o_heaps o_taken o_best o_more o_firstOne o_log o_fitting o_found o_seed o_row o_saved)) S hK hW 0 rfl rfl rfl (Nat.le_of_ble_eq_true rfl) rfl dX12_token_248 (fun H locs hW => ?_)
          refine lv_aload_n S.1 S.2.1 dX12_token_251 rfl (lv_at hl 2 rfl) ?_
          refine lv_iload_n S.1 S.2.1 dX12_token_252 rfl (lv_at hl 1 rfl) ?_
          refine lv_bipush (v := 59) S.1 S.2.1 dX12_token_253 bp_59 ?_
          refine lv_icmp_ne (tgt := 262) S.1 S.2.1 dX12_token_255 (by decide) (fun c_ => ?_) (fun c_ => ?_)
          · have hf := it_n c_ hf
            refine lv_iconst (v := 1) S.1 S.2.1 dX12_token_262 ic_1 ?_
            refine pfX12_115 (ws2 := (wMd g o_q0 o_q1 o_q2 o_q3 o_q4 o_q5 o_q6 o_q7 o_q8 o_q9 o_q10 o_q11 o_q12 o_q13 o_q14 o_q15 o_q16 o_q17 o_q18 o_q19 o_q20 o_q21 o_q22 o_code o_tape o_size o_fault o_faultPlace o_many o_towns o_weeks o_logs x13 o_length v9 (1 : Int32) o_value (0 : Int64) o_wrongAt o_laterFault o_laterPlace o_told o_read o_farOne o_good o_town o_people o_when o_sat o_quiet o_vain o_lent o_forgiven o_sundays o_purse o_beside o_debts o_sitting o_visited o_week o_heaps o_taken o_best o_more o_firstOne o_log o_fitting o_found o_seed o_row o_saved)) S hK hW 0 rfl rfl rfl (Nat.le_of_ble_eq_true rfl) rfl dX12_token_263 (fun H locs hW => ?_)
            have e_ := Option.some.inj hf
            subst e_
            exact hret _ _ _ _ dX12_token_266 hW
          · have hf := it_p c_ hf
            refine lv_iconst (v := 4) S.1 S.2.1 dX12_token_258 ic_4 ?_
            refine lv_goto (tgt := 263) S.1 S.2.1 dX12_token_259 (by decide) ?_
            refine pfX12_115 (ws2 := (wMd g o_q0 o_q1 o_q2 o_q3 o_q4 o_q5 o_q6 o_q7 o_q8 o_q9 o_q10 o_q11 o_q12 o_q13 o_q14 o_q15 o_q16 o_q17 o_q18 o_q19 o_q20 o_q21 o_q22 o_code o_tape o_size o_fault o_faultPlace o_many o_towns o_weeks o_logs x13 o_length v9 (4 : Int32) o_value (0 : Int64) o_wrongAt o_laterFault o_laterPlace o_told o_read o_farOne o_good o_town o_people o_when o_sat o_quiet o_vain o_lent o_forgiven o_sundays o_purse o_beside o_debts o_sitting o_visited o_week o_heaps o_taken o_best o_more o_firstOne o_log o_fitting o_found o_seed o_row o_saved)) S hK hW 0 rfl rfl rfl (Nat.le_of_ble_eq_true rfl) rfl dX12_token_263 (fun H locs hW => ?_)
            have e_ := Option.some.inj hf
            subst e_
            exact hret _ _ _ _ dX12_token_266 hW
        · have hf := it_n c_ hf
          refine lv_aload_n S.1 S.2.1 dX12_token_158 rfl (lv_at hl 2 rfl) ?_
          refine lv_iconst (v := 0) S.1 S.2.1 dX12_token_159 ic_0 ?_
          refine pfX12_118 (ws2 := (wMd g o_q0 o_q1 o_q2 o_q3 o_q4 o_q5 o_q6 o_q7 o_q8 o_q9 o_q10 o_q11 o_q12 o_q13 o_q14 o_q15 o_q16 o_q17 o_q18 o_q19 o_q20 o_q21 o_q22 o_code o_tape o_size o_fault o_faultPlace o_many o_towns o_weeks o_logs v9 o_length v9 o_sort (0 : Int32) (0 : Int64) o_wrongAt o_laterFault o_laterPlace o_told o_read o_farOne o_good o_town o_people o_when o_sat o_quiet o_vain o_lent o_forgiven o_sundays o_purse o_beside o_debts o_sitting o_visited o_week o_heaps o_taken o_best o_more o_firstOne o_log o_fitting o_found o_seed o_row o_saved)) S hK hW 0 rfl rfl rfl (Nat.le_of_ble_eq_true rfl) rfl dX12_token_160 (fun H locs hW => ?_)
          obtain ⟨x16, hf_, hk16⟩ := bnd_e hf
          have hE16 : ∀ (v24 : Int32 × Int32 × Int32), v24 = x16 → ∀ (ls : Array Slot) (H : Heap) (locs : List Loc), lv_has ls 3 [(0, .ref o_q0), (2, .int v24.1)] → St A s.heap D (wMd g o_q0 o_q1 o_q2 o_q3 o_q4 o_q5 o_q6 o_q7 o_q8 o_q9 o_q10 o_q11 o_q12 o_q13 o_q14 o_q15 o_q16 o_q17 o_q18 o_q19 o_q20 o_q21 o_q22 o_code o_tape o_size o_fault o_faultPlace o_many o_towns o_weeks o_logs v24.2.1 o_length v9 o_sort v24.2.2 (0 : Int64) o_wrongAt o_laterFault o_laterPlace o_told o_read o_farOne o_good o_town o_people o_when o_sat o_quiet o_vain o_lent o_forgiven o_sundays o_purse o_beside o_debts o_sitting o_visited o_week o_heaps o_taken o_best o_more o_firstOne o_log o_fitting o_found o_seed o_row o_saved) H locs → W p l e (rmD 1) s m args below meth c H locs 0 0 Q (F0 m 224 ls []) := by
            intro v24 e_ ls H locs hl hW
            subst e_
            have hf := hk16
            refine lv_aload_n S.1 S.2.1 dX12_token_224 rfl (lv_at hl 0 rfl) ?_
            refine lv_iload_n S.1 S.2.1 dX12_token_225 rfl (lv_at hl 1 rfl) ?_
            refine lv_iconst (v := 2) S.1 S.2.1 dX12_token_226 ic_2 ?_
            refine lv_icmp_le (tgt := 234) S.1 S.2.1 dX12_token_227 (by decide) (fun c_ => ?_) (fun c_ => ?_)
            · have hf := it_p c_ hf
              refine lv_iconst (v := 3) S.1 S.2.1 dX12_token_234 ic_3 ?_
              refine pfX12_115 (ws2 := (wMd g o_q0 o_q1 o_q2 o_q3 o_q4 o_q5 o_q6 o_q7 o_q8 o_q9 o_q10 o_q11 o_q12 o_q13 o_q14 o_q15 o_q16 o_q17 o_q18 o_q19 o_q20 o_q21 o_q22 o_code o_tape o_size o_fault o_faultPlace o_many o_towns o_weeks o_logs v24.2.1 o_length v9 (3 : Int32) v24.2.2 (0 : Int64) o_wrongAt o_laterFault o_laterPlace o_told o_read o_farOne o_good o_town o_people o_when o_sat o_quiet o_vain o_lent o_forgiven o_sundays o_purse o_beside o_debts o_sitting o_visited o_week o_heaps o_taken o_best o_more o_firstOne o_log o_fitting o_found o_seed o_row o_saved)) S hK hW 0 rfl rfl rfl (Nat.le_of_ble_eq_true rfl) rfl dX12_token_235 (fun H locs hW => ?_)
              refine lv_goto (tgt := 266) S.1 S.2.1 dX12_token_238 (by decide) ?_
              have e_ := Option.some.inj hf
              subst e_
              exact hret _ _ _ _ dX12_token_266 hW
            · have hf := it_n c_ hf
              refine lv_iconst (v := 1) S.1 S.2.1 dX12_token_230 ic_1 ?_
              refine lv_goto (tgt := 235) S.1 S.2.1 dX12_token_231 (by decide) ?_
              refine pfX12_115 (ws2 := (wMd g o_q0 o_q1 o_q2 o_q3 o_q4 o_q5 o_q6 o_q7 o_q8 o_q9 o_q10 o_q11 o_q12 o_q13 o_q14 o_q15 o_q16 o_q17 o_q18 o_q19 o_q20 o_q21 o_q22 o_code o_tape o_size o_fault o_faultPlace o_many o_towns o_weeks o_logs v24.2.1 o_length v9 (1 : Int32) v24.2.2 (0 : Int64) o_wrongAt o_laterFault o_laterPlace o_told o_read o_farOne o_good o_town o_people o_when o_sat o_quiet o_vain o_lent o_forgiven o_sundays o_purse o_beside o_debts o_sitting o_visited o_week o_heaps o_taken o_best o_more o_firstOne o_log o_fitting o_found o_seed o_row o_saved)) S hK hW 0 rfl rfl rfl (Nat.le_of_ble_eq_true rfl) rfl dX12_token_235 (fun H locs hW => ?_)
              refine lv_goto (tgt := 266) S.1 S.2.1 dX12_token_238 (by decide) ?_
              have e_ := Option.some.inj hf
              subst e_
              exact hret _ _ _ _ dX12_token_266 hW
          refine lp_ind (P := fun (s15 : Int32 × Int32 × Int32) => ∀ (ls : Array Slot) (H : Heap) (locs : List Loc), lv_has ls 3 [(0, .ref o_q0), (2, .int s15.1)] → St A s.heap D (wMd g o_q0 o_q1 o_q2 o_q3 o_q4 o_q5 o_q6 o_q7 o_q8 o_q9 o_q10 o_q11 o_q12 o_q13 o_q14 o_q15 o_q16 o_q17 o_q18 o_q19 o_q20 o_q21 o_q22 o_code o_tape o_size o_fault o_faultPlace o_many o_towns o_weeks o_logs s15.2.1 o_length v9 o_sort s15.2.2 (0 : Int64) o_wrongAt o_laterFault o_laterPlace o_told o_read o_farOne o_good o_town o_people o_when o_sat o_quiet o_vain o_lent o_forgiven o_sundays o_purse o_beside o_debts o_sitting o_visited o_week o_heaps o_taken o_best o_more o_firstOne o_log o_fitting o_found o_seed o_row o_saved) H locs → W p l e (rmD 1) s m args below meth c H locs 0 0 Q (F0 m 163 ls [])) ?_ _ _ hf_ _ _ _ (lv_sub hl [2, 0] rfl) hW
          intro s15 x17 hf hI16 hR16 ls H locs hl hW
          refine lv_aload_n S.1 S.2.1 dX12_token_163 rfl (lv_at hl 0 rfl) ?_
          obtain ⟨x18, hx18, hf⟩ := bnd_e hf
          refine Rd.cV (c_X12_see hx18) S hK hW.1 0 10 rfl rfl kVX12_104 rfl hl.1 [] rfl (Nat.le_of_ble_eq_true rfl) ⟨(Nat.le_of_ble_eq_true rfl), (Nat.le_of_ble_eq_true rfl)⟩ ⟨(Nat.zero_le _), (Nat.zero_le _)⟩ dX12_token_164 ?_
          refine lv_bipush (v := 48) S.1 S.2.1 dX12_token_167 bp_48 ?_
          refine lv_bipush (v := 57) S.1 S.2.1 dX12_token_169 bp_57 ?_
          obtain ⟨x19, hx19, hf⟩ := bnd_e hf
          refine Rd.cS (c_X12_in hx19) S hK va_P.nil kSX12_90 rfl hl.1 [] rfl (Nat.le_of_ble_eq_true rfl) ⟨(Nat.le_of_ble_eq_true rfl), (Nat.le_of_ble_eq_true rfl)⟩ ⟨(Nat.zero_le _), (Nat.zero_le _)⟩ dX12_token_171 ?_
          refine lv_if_eq (tgt := 224) S.1 S.2.1 dX12_token_174 (by decide) (fun c_ => ?_) (fun c_ => ?_)
          · have hf := it_p c_ hf
            have e_ := hR16 _ (Option.some.inj hf).symm
            exact hE16 _ e_ _ _ _ (lv_sub hl [0, 1] rfl) hW
          · have hf := it_n c_ hf
            refine lv_aload_n S.1 S.2.1 dX12_token_177 rfl (lv_at hl 0 rfl) ?_
            refine lv_iload_n S.1 S.2.1 dX12_token_178 rfl (lv_at hl 1 rfl) ?_
            refine lv_iconst (v := 2) S.1 S.2.1 dX12_token_179 ic_2 ?_
            refine lv_icmp_ge (tgt := 201) S.1 S.2.1 dX12_token_180 (by decide) (fun c_ => ?_) (fun c_ => ?_)
            · have hf := it_p c_ hf
              refine lv_aload_n S.1 S.2.1 dX12_token_201 rfl (lv_at hl 0 rfl) ?_
              refine gfX12_118 S hK hW.1 0 rfl rfl dX12_token_202 ?_
              refine pfX12_118 (ws2 := (wMd g o_q0 o_q1 o_q2 o_q3 o_q4 o_q5 o_q6 o_q7 o_q8 o_q9 o_q10 o_q11 o_q12 o_q13 o_q14 o_q15 o_q16 o_q17 o_q18 o_q19 o_q20 o_q21 o_q22 o_code o_tape o_size o_fault o_faultPlace o_many o_towns o_weeks o_logs s15.2.1 o_length v9 o_sort s15.2.2 (0 : Int64) o_wrongAt o_laterFault o_laterPlace o_told o_read o_farOne o_good o_town o_people o_when o_sat o_quiet o_vain o_lent o_forgiven o_sundays o_purse o_beside o_debts o_sitting o_visited o_week o_heaps o_taken o_best o_more o_firstOne o_log o_fitting o_found o_seed o_row o_saved)) S hK hW 0 rfl rfl rfl (Nat.le_of_ble_eq_true rfl) rfl dX12_token_205 (fun H locs hW => ?_)
              refine lv_aload_n S.1 S.2.1 dX12_token_208 rfl (lv_at hl 0 rfl) ?_
              refine lv_dup S.1 S.2.1 dX12_token_209 rfl ?_
              refine gfX12_98 S hK hW.1 0 rfl rfl dX12_token_210 ?_
              refine lv_iconst (v := 1) S.1 S.2.1 dX12_token_213 ic_1 ?_
              refine lv_iadd S.1 S.2.1 dX12_token_214 ?_
              refine lv_topi (fun x20 ex20 => ?_)
              have hf := ltn_e hf ex20
              refine pfX12_98 (ws2 := (wMd g o_q0 o_q1 o_q2 o_q3 o_q4 o_q5 o_q6 o_q7 o_q8 o_q9 o_q10 o_q11 o_q12 o_q13 o_q14 o_q15 o_q16 o_q17 o_q18 o_q19 o_q20 o_q21 o_q22 o_code o_tape o_size o_fault o_faultPlace o_many o_towns o_weeks o_logs x20 o_length v9 o_sort s15.2.2 (0 : Int64) o_wrongAt o_laterFault o_laterPlace o_told o_read o_farOne o_good o_town o_people o_when o_sat o_quiet o_vain o_lent o_forgiven o_sundays o_purse o_beside o_debts o_sitting o_visited o_week o_heaps o_taken o_best o_more o_firstOne o_log o_fitting o_found o_seed o_row o_saved)) S hK hW 0 rfl rfl rfl (Nat.le_of_ble_eq_true rfl) rfl dX12_token_215 (fun H locs hW => ?_)
              refine q_iinc (w := 1) (lv' := [(2, .int (s15.1 + 1)), (0, .ref o_q0)]) S dX12_token_218 hl (k := 1) rfl ic_1 (by decide) rfl (fun ls hl => ?_)
              refine lv_goto (tgt := 163) S.1 S.2.1 dX12_token_221 (by decide) ?_
              exact hI16 _ (Option.some.inj hf).symm _ _ _ (lv_sub hl [1, 0] rfl) hW
            · have hf := it_n c_ hf
              refine lv_bipush (v := 10) S.1 S.2.1 dX12_token_183 bp_10 ?_
              refine lv_aload_n S.1 S.2.1 dX12_token_185 rfl (lv_at hl 0 rfl) ?_
              refine gfX12_118 S hK hW.1 0 rfl rfl dX12_token_186 ?_
              refine lv_imul S.1 S.2.1 dX12_token_189 ?_
              refine lv_aload_n S.1 S.2.1 dX12_token_190 rfl (lv_at hl 0 rfl) ?_
              obtain ⟨x21, hx21, hf⟩ := bnd_e hf
              refine Rd.cV (c_X12_see hx21) S hK hW.1 0 10 rfl rfl kVX12_104 rfl hl.1 [.int ((10 : Int32) * s15.2.2), .ref o_q0] rfl (Nat.le_of_ble_eq_true rfl) ⟨(Nat.le_of_ble_eq_true rfl), (Nat.le_of_ble_eq_true rfl)⟩ ⟨(Nat.zero_le _), (Nat.zero_le _)⟩ dX12_token_191 ?_
              refine lv_iadd S.1 S.2.1 dX12_token_194 ?_
              refine lv_bipush (v := 48) S.1 S.2.1 dX12_token_195 bp_48 ?_
              refine lv_isub S.1 S.2.1 dX12_token_197 ?_
              refine lv_goto (tgt := 205) S.1 S.2.1 dX12_token_198 (by decide) ?_
              refine lv_topi (fun x22 ex22 => ?_)
              have hf := ltn_e hf ex22
              refine pfX12_118 (ws2 := (wMd g o_q0 o_q1 o_q2 o_q3 o_q4 o_q5 o_q6 o_q7 o_q8 o_q9 o_q10 o_q11 o_q12 o_q13 o_q14 o_q15 o_q16 o_q17 o_q18 o_q19 o_q20 o_q21 o_q22 o_code o_tape o_size o_fault o_faultPlace o_many o_towns o_weeks o_logs s15.2.1 o_length v9 o_sort x22 (0 : Int64) o_wrongAt o_laterFault o_laterPlace o_told o_read o_farOne o_good o_town o_people o_when o_sat o_quiet o_vain o_lent o_forgiven o_sundays o_purse o_beside o_debts o_sitting o_visited o_week o_heaps o_taken o_best o_more o_firstOne o_log o_fitting o_found o_seed o_row o_saved)) S hK hW 0 rfl rfl rfl (Nat.le_of_ble_eq_true rfl) rfl dX12_token_205 (fun H locs hW => ?_)
              refine lv_aload_n S.1 S.2.1 dX12_token_208 rfl (lv_at hl 0 rfl) ?_
              refine lv_dup S.1 S.2.1 dX12_token_209 rfl ?_
              refine gfX12_98 S hK hW.1 0 rfl rfl dX12_token_210 ?_
              refine lv_iconst (v := 1) S.1 S.2.1 dX12_token_213 ic_1 ?_
              refine lv_iadd S.1 S.2.1 dX12_token_214 ?_
              refine lv_topi (fun x23 ex23 => ?_)
              have hf := ltn_e hf ex23
              refine pfX12_98 (ws2 := (wMd g o_q0 o_q1 o_q2 o_q3 o_q4 o_q5 o_q6 o_q7 o_q8 o_q9 o_q10 o_q11 o_q12 o_q13 o_q14 o_q15 o_q16 o_q17 o_q18 o_q19 o_q20 o_q21 o_q22 o_code o_tape o_size o_fault o_faultPlace o_many o_towns o_weeks o_logs x23 o_length v9 o_sort x22 (0 : Int64) o_wrongAt o_laterFault o_laterPlace o_told o_read o_farOne o_good o_town o_people o_when o_sat o_quiet o_vain o_lent o_forgiven o_sundays o_purse o_beside o_debts o_sitting o_visited o_week o_heaps o_taken o_best o_more o_firstOne o_log o_fitting o_found o_seed o_row o_saved)) S hK hW 0 rfl rfl rfl (Nat.le_of_ble_eq_true rfl) rfl dX12_token_215 (fun H locs hW => ?_)
              refine q_iinc (w := 1) (lv' := [(2, .int (s15.1 + 1)), (0, .ref o_q0)]) S dX12_token_218 hl (k := 1) rfl ic_1 (by decide) rfl (fun ls hl => ?_)
              refine lv_goto (tgt := 163) S.1 S.2.1 dX12_token_221 (by decide) ?_
              exact hI16 _ (Option.some.inj hf).symm _ _ _ (lv_sub hl [1, 0] rfl) hW
      · have hf := it_n c_ hf
        obtain ⟨x27, hf_, hk27⟩ := bnd_e hf
        have hE27 : ∀ (v34 : Int32 × Int32 × Int64), v34 = x27 → ∀ (ls : Array Slot) (H : Heap) (locs : List Loc), lv_has ls 3 [(0, .ref o_q0), (2, .int v34.1)] → St A s.heap D (wMd g o_q0 o_q1 o_q2 o_q3 o_q4 o_q5 o_q6 o_q7 o_q8 o_q9 o_q10 o_q11 o_q12 o_q13 o_q14 o_q15 o_q16 o_q17 o_q18 o_q19 o_q20 o_q21 o_q22 o_code o_tape o_size o_fault o_faultPlace o_many o_towns o_weeks o_logs v34.2.1 o_length v9 o_sort o_value v34.2.2 o_wrongAt o_laterFault o_laterPlace o_told o_read o_farOne o_good o_town o_people o_when o_sat o_quiet o_vain o_lent o_forgiven o_sundays o_purse o_beside o_debts o_sitting o_visited o_week o_heaps o_taken o_best o_more o_firstOne o_log o_fitting o_found o_seed o_row o_saved) H locs → W p l e (rmD 1) s m args below meth c H locs 0 0 Q (F0 m 121 ls []) := by
          intro v34 e_ ls H locs hl hW
          subst e_
          have hf := hk27
          refine lv_aload_n S.1 S.2.1 dX12_token_121 rfl (lv_at hl 0 rfl) ?_
          refine lv_iload_n S.1 S.2.1 dX12_token_122 rfl (lv_at hl 1 rfl) ?_
          refine lv_bipush (v := 8) S.1 S.2.1 dX12_token_123 bp_8 ?_
          refine lv_icmp_le (tgt := 132) S.1 S.2.1 dX12_token_125 (by decide) (fun c_ => ?_) (fun c_ => ?_)
          · have hf := it_p c_ hf
            refine lv_aload_n S.1 S.2.1 dX12_token_132 rfl (lv_at hl 0 rfl) ?_
            refine gfX12_111 S hK hW.1 0 rfl rfl dX12_token_133 ?_
            refine pfX12_111 (ws2 := (wMd g o_q0 o_q1 o_q2 o_q3 o_q4 o_q5 o_q6 o_q7 o_q8 o_q9 o_q10 o_q11 o_q12 o_q13 o_q14 o_q15 o_q16 o_q17 o_q18 o_q19 o_q20 o_q21 o_q22 o_code o_tape o_size o_fault o_faultPlace o_many o_towns o_weeks o_logs v34.2.1 o_length v9 o_sort o_value v34.2.2 o_wrongAt o_laterFault o_laterPlace o_told o_read o_farOne o_good o_town o_people o_when o_sat o_quiet o_vain o_lent o_forgiven o_sundays o_purse o_beside o_debts o_sitting o_visited o_week o_heaps o_taken o_best o_more o_firstOne o_log o_fitting o_found o_seed o_row o_saved)) S hK hW 0 rfl rfl rfl (Nat.le_of_ble_eq_true rfl) rfl dX12_token_136 (fun H locs hW => ?_)
            refine lv_aload_n S.1 S.2.1 dX12_token_139 rfl (lv_at hl 0 rfl) ?_
            refine lv_iconst (v := 2) S.1 S.2.1 dX12_token_140 ic_2 ?_
            refine pfX12_115 (ws2 := (wMd g o_q0 o_q1 o_q2 o_q3 o_q4 o_q5 o_q6 o_q7 o_q8 o_q9 o_q10 o_q11 o_q12 o_q13 o_q14 o_q15 o_q16 o_q17 o_q18 o_q19 o_q20 o_q21 o_q22 o_code o_tape o_size o_fault o_faultPlace o_many o_towns o_weeks o_logs v34.2.1 o_length v9 (2 : Int32) o_value v34.2.2 o_wrongAt o_laterFault o_laterPlace o_told o_read o_farOne o_good o_town o_people o_when o_sat o_quiet o_vain o_lent o_forgiven o_sundays o_purse o_beside o_debts o_sitting o_visited o_week o_heaps o_taken o_best o_more o_firstOne o_log o_fitting o_found o_seed o_row o_saved)) S hK hW 0 rfl rfl rfl (Nat.le_of_ble_eq_true rfl) rfl dX12_token_141 (fun H locs hW => ?_)
            refine lv_goto (tgt := 266) S.1 S.2.1 dX12_token_144 (by decide) ?_
            have e_ := Option.some.inj hf
            subst e_
            exact hret _ _ _ _ dX12_token_266 hW
          · have hf := it_n c_ hf
            refine lv_lconst (v := 0) S.1 S.2.1 dX12_token_128 rfl ?_
            refine lv_goto (tgt := 136) S.1 S.2.1 dX12_token_129 (by decide) ?_
            refine pfX12_111 (ws2 := (wMd g o_q0 o_q1 o_q2 o_q3 o_q4 o_q5 o_q6 o_q7 o_q8 o_q9 o_q10 o_q11 o_q12 o_q13 o_q14 o_q15 o_q16 o_q17 o_q18 o_q19 o_q20 o_q21 o_q22 o_code o_tape o_size o_fault o_faultPlace o_many o_towns o_weeks o_logs v34.2.1 o_length v9 o_sort o_value (0 : Int64) o_wrongAt o_laterFault o_laterPlace o_told o_read o_farOne o_good o_town o_people o_when o_sat o_quiet o_vain o_lent o_forgiven o_sundays o_purse o_beside o_debts o_sitting o_visited o_week o_heaps o_taken o_best o_more o_firstOne o_log o_fitting o_found o_seed o_row o_saved)) S hK hW 0 rfl rfl rfl (Nat.le_of_ble_eq_true rfl) rfl dX12_token_136 (fun H locs hW => ?_)
            refine lv_aload_n S.1 S.2.1 dX12_token_139 rfl (lv_at hl 0 rfl) ?_
            refine lv_iconst (v := 2) S.1 S.2.1 dX12_token_140 ic_2 ?_
            refine pfX12_115 (ws2 := (wMd g o_q0 o_q1 o_q2 o_q3 o_q4 o_q5 o_q6 o_q7 o_q8 o_q9 o_q10 o_q11 o_q12 o_q13 o_q14 o_q15 o_q16 o_q17 o_q18 o_q19 o_q20 o_q21 o_q22 o_code o_tape o_size o_fault o_faultPlace o_many o_towns o_weeks o_logs v34.2.1 o_length v9 (2 : Int32) o_value (0 : Int64) o_wrongAt o_laterFault o_laterPlace o_told o_read o_farOne o_good o_town o_people o_when o_sat o_quiet o_vain o_lent o_forgiven o_sundays o_purse o_beside o_debts o_sitting o_visited o_week o_heaps o_taken o_best o_more o_firstOne o_log o_fitting o_found o_seed o_row o_saved)) S hK hW 0 rfl rfl rfl (Nat.le_of_ble_eq_true rfl) rfl dX12_token_141 (fun H locs hW => ?_)
            refine lv_goto (tgt := 266) S.1 S.2.1 dX12_token_144 (by decide) ?_
            have e_ := Option.some.inj hf
            subst e_
            exact hret _ _ _ _ dX12_token_266 hW
        refine lp_ind (P := fun (s26 : Int32 × Int32 × Int64) => ∀ (ls : Array Slot) (H : Heap) (locs : List Loc), lv_has ls 3 [(0, .ref o_q0), (2, .int s26.1)] → St A s.heap D (wMd g o_q0 o_q1 o_q2 o_q3 o_q4 o_q5 o_q6 o_q7 o_q8 o_q9 o_q10 o_q11 o_q12 o_q13 o_q14 o_q15 o_q16 o_q17 o_q18 o_q19 o_q20 o_q21 o_q22 o_code o_tape o_size o_fault o_faultPlace o_many o_towns o_weeks o_logs s26.2.1 o_length v9 o_sort o_value s26.2.2 o_wrongAt o_laterFault o_laterPlace o_told o_read o_farOne o_good o_town o_people o_when o_sat o_quiet o_vain o_lent o_forgiven o_sundays o_purse o_beside o_debts o_sitting o_visited o_week o_heaps o_taken o_best o_more o_firstOne o_log o_fitting o_found o_seed o_row o_saved) H locs → W p l e (rmD 1) s m args below meth c H locs 0 0 Q (F0 m 74 ls [])) ?_ _ _ hf_ _ _ _ (lv_sub hl [2, 0] rfl) hW
        intro s26 x28 hf hI27 hR27 ls H locs hl hW
        refine lv_aload_n S.1 S.2.1 dX12_token_74 rfl (lv_at hl 0 rfl) ?_
        obtain ⟨x29, hx29, hf⟩ := bnd_e hf
        refine Rd.cV (c_X12_see hx29) S hK hW.1 0 10 rfl rfl kVX12_104 rfl hl.1 [] rfl (Nat.le_of_ble_eq_true rfl) ⟨(Nat.le_of_ble_eq_true rfl), (Nat.le_of_ble_eq_true rfl)⟩ ⟨(Nat.zero_le _), (Nat.zero_le _)⟩ dX12_token_75 ?_
        refine lv_bipush (v := 97) S.1 S.2.1 dX12_token_78 bp_97 ?_
        refine lv_bipush (v := 122) S.1 S.2.1 dX12_token_80 bp_122 ?_
        obtain ⟨x30, hx30, hf⟩ := bnd_e hf
        refine Rd.cS (c_X12_in hx30) S hK va_P.nil kSX12_90 rfl hl.1 [] rfl (Nat.le_of_ble_eq_true rfl) ⟨(Nat.le_of_ble_eq_true rfl), (Nat.le_of_ble_eq_true rfl)⟩ ⟨(Nat.zero_le _), (Nat.zero_le _)⟩ dX12_token_82 ?_
        refine lv_if_eq (tgt := 121) S.1 S.2.1 dX12_token_85 (by decide) (fun c_ => ?_) (fun c_ => ?_)
        · have hf := it_p c_ hf
          have e_ := hR27 _ (Option.some.inj hf).symm
          exact hE27 _ e_ _ _ _ (lv_sub hl [0, 1] rfl) hW
        · have hf := it_n c_ hf
          refine lv_aload_n S.1 S.2.1 dX12_token_88 rfl (lv_at hl 0 rfl) ?_
          refine lv_aload_n S.1 S.2.1 dX12_token_89 rfl (lv_at hl 0 rfl) ?_
          refine gfX12_111 S hK hW.1 0 rfl rfl dX12_token_90 ?_
          refine lv_bipush (v := 8) S.1 S.2.1 dX12_token_93 bp_8 ?_
          refine lv_lshl (v := (jshll s26.2.2 (8 : Int32))) S.1 S.2.1 dX12_token_95 rfl ?_
          refine lv_aload_n S.1 S.2.1 dX12_token_96 rfl (lv_at hl 0 rfl) ?_
          obtain ⟨x31, hx31, hf⟩ := bnd_e hf
          refine Rd.cV (c_X12_see hx31) S hK hW.1 0 10 rfl rfl kVX12_104 rfl hl.1 [.long (jshll s26.2.2 (8 : Int32)), .ref o_q0] rfl (Nat.le_of_ble_eq_true rfl) ⟨(Nat.le_of_ble_eq_true rfl), (Nat.le_of_ble_eq_true rfl)⟩ ⟨(Nat.zero_le _), (Nat.zero_le _)⟩ dX12_token_97 ?_
          refine lv_i2l (v := (x31.toInt64)) S.1 S.2.1 dX12_token_100 rfl ?_
          refine lv_lor S.1 S.2.1 dX12_token_101 ?_
          refine lv_topl (fun x32 ex32 => ?_)
          have hf := ltn_e hf ex32
          refine pfX12_111 (ws2 := (wMd g o_q0 o_q1 o_q2 o_q3 o_q4 o_q5 o_q6 o_q7 o_q8 o_q9 o_q10 o_q11 o_q12 o_q13 o_q14 o_q15 o_q16 o_q17 o_q18 o_q19 o_q20 o_q21 o_q22 o_code o_tape o_size o_fault o_faultPlace o_many o_towns o_weeks o_logs s26.2.1 o_length v9 o_sort o_value x32 o_wrongAt o_laterFault o_laterPlace o_told o_read o_farOne o_good o_town o_people o_when o_sat o_quiet o_vain o_lent o_forgiven o_sundays o_purse o_beside o_debts o_sitting o_visited o_week o_heaps o_taken o_best o_more o_firstOne o_log o_fitting o_found o_seed o_row o_saved)) S hK hW 0 rfl rfl rfl (Nat.le_of_ble_eq_true rfl) rfl dX12_token_102 (fun H locs hW => ?_)
          refine lv_aload_n S.1 S.2.1 dX12_token_105 rfl (lv_at hl 0 rfl) ?_
          refine lv_dup S.1 S.2.1 dX12_token_106 rfl ?_
          refine gfX12_98 S hK hW.1 0 rfl rfl dX12_token_107 ?_
          refine lv_iconst (v := 1) S.1 S.2.1 dX12_token_110 ic_1 ?_
          refine lv_iadd S.1 S.2.1 dX12_token_111 ?_
          refine lv_topi (fun x33 ex33 => ?_)
          have hf := ltn_e hf ex33
          refine pfX12_98 (ws2 := (wMd g o_q0 o_q1 o_q2 o_q3 o_q4 o_q5 o_q6 o_q7 o_q8 o_q9 o_q10 o_q11 o_q12 o_q13 o_q14 o_q15 o_q16 o_q17 o_q18 o_q19 o_q20 o_q21 o_q22 o_code o_tape o_size o_fault o_faultPlace o_many o_towns o_weeks o_logs x33 o_length v9 o_sort o_value x32 o_wrongAt o_laterFault o_laterPlace o_told o_read o_farOne o_good o_town o_people o_when o_sat o_quiet o_vain o_lent o_forgiven o_sundays o_purse o_beside o_debts o_sitting o_visited o_week o_heaps o_taken o_best o_more o_firstOne o_log o_fitting o_found o_seed o_row o_saved)) S hK hW 0 rfl rfl rfl (Nat.le_of_ble_eq_true rfl) rfl dX12_token_112 (fun H locs hW => ?_)
          refine q_iinc (w := 1) (lv' := [(2, .int (s26.1 + 1)), (0, .ref o_q0)]) S dX12_token_115 hl (k := 1) rfl ic_1 (by decide) rfl (fun ls hl => ?_)
          refine lv_goto (tgt := 74) S.1 S.2.1 dX12_token_118 (by decide) ?_
          exact hI27 _ (Option.some.inj hf).symm _ _ _ (lv_sub hl [1, 0] rfl) hW
    · have hf := it_n c_ hf
      refine lv_aload_n S.1 S.2.1 dX12_token_55 rfl (lv_at hl 2 rfl) ?_
      refine lv_iconst (v := 0) S.1 S.2.1 dX12_token_56 ic_0 ?_
      refine pfX12_115 (ws2 := (wMd g o_q0 o_q1 o_q2 o_q3 o_q4 o_q5 o_q6 o_q7 o_q8 o_q9 o_q10 o_q11 o_q12 o_q13 o_q14 o_q15 o_q16 o_q17 o_q18 o_q19 o_q20 o_q21 o_q22 o_code o_tape o_size o_fault o_faultPlace o_many o_towns o_weeks o_logs v9 o_length v9 (0 : Int32) o_value (0 : Int64) o_wrongAt o_laterFault o_laterPlace o_told o_read o_farOne o_good o_town o_people o_when o_sat o_quiet o_vain o_lent o_forgiven o_sundays o_purse o_beside o_debts o_sitting o_visited o_week o_heaps o_taken o_best o_more o_firstOne o_log o_fitting o_found o_seed o_row o_saved)) S hK hW 0 rfl rfl rfl (Nat.le_of_ble_eq_true rfl) rfl dX12_token_57 (fun H locs hW => ?_)
      refine lv_goto (tgt := 266) S.1 S.2.1 dX12_token_60 (by decide) ?_
      have e_ := Option.some.inj hf
      subst e_
      exact hret _ _ _ _ dX12_token_266 hW
  refine lp_ind (P := fun (s2 : Int32) => ∀ (ls : Array Slot) (H : Heap) (locs : List Loc), lv_has ls 3 [(0, .ref o_q0)] → St A s.heap D (wMd g o_q0 o_q1 o_q2 o_q3 o_q4 o_q5 o_q6 o_q7 o_q8 o_q9 o_q10 o_q11 o_q12 o_q13 o_q14 o_q15 o_q16 o_q17 o_q18 o_q19 o_q20 o_q21 o_q22 o_code o_tape o_size o_fault o_faultPlace o_many o_towns o_weeks o_logs s2 o_length o_begins o_sort o_value o_word o_wrongAt o_laterFault o_laterPlace o_told o_read o_farOne o_good o_town o_people o_when o_sat o_quiet o_vain o_lent o_forgiven o_sundays o_purse o_beside o_debts o_sitting o_visited o_week o_heaps o_taken o_best o_more o_firstOne o_log o_fitting o_found o_seed o_row o_saved) H locs → W p l e (rmD 1) s m args below meth c H locs 0 0 Q (F0 m 0 ls [])) ?_ _ _ hf_ _ _ _ (lv_sub hl [0] rfl) hW
  intro s2 x4 hf hI3 hR3 ls H locs hl hW
  refine lv_aload_n S.1 S.2.1 dX12_token_0 rfl (lv_at hl 0 rfl) ?_
  obtain ⟨x5, hx5, hf⟩ := bnd_e hf
  refine Rd.cV (c_X12_see hx5) S hK hW.1 0 10 rfl rfl kVX12_104 rfl hl.1 [] rfl (Nat.le_of_ble_eq_true rfl) ⟨(Nat.le_of_ble_eq_true rfl), (Nat.le_of_ble_eq_true rfl)⟩ ⟨(Nat.zero_le _), (Nat.zero_le _)⟩ dX12_token_1 ?_
  refine lv_bipush (v := 10) S.1 S.2.1 dX12_token_4 bp_10 ?_
  refine lv_icmp_eq (tgt := 18) S.1 S.2.1 dX12_token_6 (by decide) (fun c_ => ?_) (fun c_ => ?_)
  · have hf := it_p c_ hf
    refine lv_aload_n S.1 S.2.1 dX12_token_18 rfl (lv_at hl 0 rfl) ?_
    refine lv_dup S.1 S.2.1 dX12_token_19 rfl ?_
    refine gfX12_98 S hK hW.1 0 rfl rfl dX12_token_20 ?_
    refine lv_iconst (v := 1) S.1 S.2.1 dX12_token_23 ic_1 ?_
    refine lv_iadd S.1 S.2.1 dX12_token_24 ?_
    refine lv_topi (fun x6 ex6 => ?_)
    have hf := ltn_e hf ex6
    refine pfX12_98 (ws2 := (wMd g o_q0 o_q1 o_q2 o_q3 o_q4 o_q5 o_q6 o_q7 o_q8 o_q9 o_q10 o_q11 o_q12 o_q13 o_q14 o_q15 o_q16 o_q17 o_q18 o_q19 o_q20 o_q21 o_q22 o_code o_tape o_size o_fault o_faultPlace o_many o_towns o_weeks o_logs x6 o_length o_begins o_sort o_value o_word o_wrongAt o_laterFault o_laterPlace o_told o_read o_farOne o_good o_town o_people o_when o_sat o_quiet o_vain o_lent o_forgiven o_sundays o_purse o_beside o_debts o_sitting o_visited o_week o_heaps o_taken o_best o_more o_firstOne o_log o_fitting o_found o_seed o_row o_saved)) S hK hW 0 rfl rfl rfl (Nat.le_of_ble_eq_true rfl) rfl dX12_token_25 (fun H locs hW => ?_)
    refine lv_goto (tgt := 0) S.1 S.2.1 dX12_token_28 (by decide) ?_
    exact hI3 _ (Option.some.inj hf).symm _ _ _ (lv_sub hl [0] rfl) hW
  · have hf := it_n c_ hf
    refine lv_aload_n S.1 S.2.1 dX12_token_9 rfl (lv_at hl 0 rfl) ?_
    obtain ⟨x7, hx7, hf⟩ := bnd_e hf
    refine Rd.cV (c_X12_see hx7) S hK hW.1 0 10 rfl rfl kVX12_104 rfl hl.1 [] rfl (Nat.le_of_ble_eq_true rfl) ⟨(Nat.le_of_ble_eq_true rfl), (Nat.le_of_ble_eq_true rfl)⟩ ⟨(Nat.zero_le _), (Nat.zero_le _)⟩ dX12_token_10 ?_
    refine lv_bipush (v := 32) S.1 S.2.1 dX12_token_13 bp_32 ?_
    refine lv_icmp_ne (tgt := 31) S.1 S.2.1 dX12_token_15 (by decide) (fun c_ => ?_) (fun c_ => ?_)
    · have hf := it_n c_ hf
      have e_ := hR3 _ (Option.some.inj hf).symm
      exact hE3 _ e_ _ _ _ (lv_sub hl [0] rfl) hW
    · have hf := it_p c_ hf
      refine lv_aload_n S.1 S.2.1 dX12_token_18 rfl (lv_at hl 0 rfl) ?_
      refine lv_dup S.1 S.2.1 dX12_token_19 rfl ?_
      refine gfX12_98 S hK hW.1 0 rfl rfl dX12_token_20 ?_
      refine lv_iconst (v := 1) S.1 S.2.1 dX12_token_23 ic_1 ?_
      refine lv_iadd S.1 S.2.1 dX12_token_24 ?_
      refine lv_topi (fun x8 ex8 => ?_)
      have hf := ltn_e hf ex8
      refine pfX12_98 (ws2 := (wMd g o_q0 o_q1 o_q2 o_q3 o_q4 o_q5 o_q6 o_q7 o_q8 o_q9 o_q10 o_q11 o_q12 o_q13 o_q14 o_q15 o_q16 o_q17 o_q18 o_q19 o_q20 o_q21 o_q22 o_code o_tape o_size o_fault o_faultPlace o_many o_towns o_weeks o_logs x8 o_length o_begins o_sort o_value o_word o_wrongAt o_laterFault o_laterPlace o_told o_read o_farOne o_good o_town o_people o_when o_sat o_quiet o_vain o_lent o_forgiven o_sundays o_purse o_beside o_debts o_sitting o_visited o_week o_heaps o_taken o_best o_more o_firstOne o_log o_fitting o_found o_seed o_row o_saved)) S hK hW 0 rfl rfl rfl (Nat.le_of_ble_eq_true rfl) rfl dX12_token_25 (fun H locs hW => ?_)
      refine lv_goto (tgt := 0) S.1 S.2.1 dX12_token_28 (by decide) ?_
      exact hI3 _ (Option.some.inj hf).symm _ _ _ (lv_sub hl [0] rfl) hW
def f_X12_fails (fu : Nat) (o_begins : Int32) (o_wrongAt : Int32) : Option (Int32 × Int32) := some ((0 : Int32), o_begins)
set_option maxHeartbeats 4000000 in
set_option maxRecDepth 100000 in
theorem c_X12_fails {l : Launch} {D : va_G} {g : Nat → ClassId} {fu : Nat} {o_q0 o_q1 o_q2 o_q3 o_q4 o_q5 o_q6 o_q7 o_q8 o_q9 o_q10 o_q11 o_q12 o_q13 o_q14 o_q15 o_q16 o_q17 o_q18 o_q19 o_q20 o_q21 o_q22 : Nat} {o_code : Int32} {o_tape : (Nat → Int32)} {o_size : (Nat → Int32)} {o_fault : (Nat → Int32)} {o_faultPlace : (Nat → Int32)} {o_many : (Nat → Int32)} {o_towns : (Nat → Int32)} {o_weeks : (Nat → Int32)} {o_logs : (Nat → Int32)} {o_reached : Int32} {o_length : Int32} {o_begins : Int32} {o_sort : Int32} {o_value : Int32} {o_word : Int64} {o_wrongAt : Int32} {o_laterFault : Int32} {o_laterPlace : Int32} {o_told : (Nat → Int32)} {o_read : (Nat → Int32)} {o_farOne : Int32} {o_good : Int32} {o_town : Int32} {o_people : Int32} {o_when : Int32} {o_sat : Int32} {o_quiet : Int32} {o_vain : Int32} {o_lent : Int32} {o_forgiven : Int32} {o_sundays : Int32} {o_purse : (Nat → Int32)} {o_beside : (Nat → Int32)} {o_debts : (Nat → Int32)} {o_sitting : (Nat → Int32)} {o_visited : (Nat → Int32)} {o_week : Int32} {o_heaps : (Nat → Int32)} {o_taken : (Nat → Int32)} {o_best : (Nat → Int32)} {o_more : (Nat → Int32)} {o_firstOne : Int32} {o_log : Int32} {o_fitting : (Nat → Int32)} {o_found : Int32} {o_seed : Int32} {o_row : (Nat → Int32)} {o_saved : (Nat → Int32)} {r : Int32 × Int32} (hf : f_X12_fails fu o_begins o_wrongAt = some r) : Wr l D (gy g) yX12_fails cX12_fails 1 (some .boolean) 0 [.ref o_q0] (wMd g o_q0 o_q1 o_q2 o_q3 o_q4 o_q5 o_q6 o_q7 o_q8 o_q9 o_q10 o_q11 o_q12 o_q13 o_q14 o_q15 o_q16 o_q17 o_q18 o_q19 o_q20 o_q21 o_q22 o_code o_tape o_size o_fault o_faultPlace o_many o_towns o_weeks o_logs o_reached o_length o_begins o_sort o_value o_word o_wrongAt o_laterFault o_laterPlace o_told o_read o_farOne o_good o_town o_people o_when o_sat o_quiet o_vain o_lent o_forgiven o_sundays o_purse o_beside o_debts o_sitting o_visited o_week o_heaps o_taken o_best o_more o_firstOne o_log o_fitting o_found o_seed o_row o_saved) (wMd g o_q0 o_q1 o_q2 o_q3 o_q4 o_q5 o_q6 o_q7 o_q8 o_q9 o_q10 o_q11 o_q12 o_q13 o_q14 o_q15 o_q16 o_q17 o_q18 o_q19 o_q20 o_q21 o_q22 o_code o_tape o_size o_fault o_faultPlace o_many o_towns o_weeks o_logs o_reached o_length o_begins o_sort o_value o_word r.2 o_laterFault o_laterPlace o_told o_read o_farOne o_good o_town o_people o_when o_sat o_quiet o_vain o_lent o_forgiven o_sundays o_purse o_beside o_debts o_sitting o_visited o_week o_heaps o_taken o_best o_more o_firstOne o_log o_fitting o_found o_seed o_row o_saved) (some (.int r.1)) := by
  refine Wr.ofZ (by decide) (Nat.le_of_ble_eq_true rfl) ?_
  intro p e s m args below meth c Q A S hK hA hret ls hl hW
  have hl : lv_has ls 1 [(0, .ref o_q0)] := hl
  refine lv_aload_n S.1 S.2.1 dX12_fails_0 rfl (lv_at hl 0 rfl) ?_
  refine lv_aload_n S.1 S.2.1 dX12_fails_1 rfl (lv_at hl 0 rfl) ?_
  refine gfX12_108 S hK hW.1 0 rfl rfl dX12_fails_2 ?_
  refine pfX12_121 (ws2 := (wMd g o_q0 o_q1 o_q2 o_q3 o_q4 o_q5 o_q6 o_q7 o_q8 o_q9 o_q10 o_q11 o_q12 o_q13 o_q14 o_q15 o_q16 o_q17 o_q18 o_q19 o_q20 o_q21 o_q22 o_code o_tape o_size o_fault o_faultPlace o_many o_towns o_weeks o_logs o_reached o_length o_begins o_sort o_value o_word o_begins o_laterFault o_laterPlace o_told o_read o_farOne o_good o_town o_people o_when o_sat o_quiet o_vain o_lent o_forgiven o_sundays o_purse o_beside o_debts o_sitting o_visited o_week o_heaps o_taken o_best o_more o_firstOne o_log o_fitting o_found o_seed o_row o_saved)) S hK hW 0 rfl rfl rfl (Nat.le_of_ble_eq_true rfl) rfl dX12_fails_5 (fun H locs hW => ?_)
  refine lv_iconst (v := 0) S.1 S.2.1 dX12_fails_8 ic_0 ?_
  have e_ := Option.some.inj hf
  subst e_
  exact hret _ _ _ _ (Or.inl rfl) dX12_fails_9 hW
def f_X12_later (fu : Nat) (o_laterFault : Int32) (o_laterPlace : Int32) (p1 : Int32) (p2 : Int32) : Option (Int32 × Int32) := if o_laterFault = 0 then some (p1, p2) else if p2 < o_laterPlace then some (p1, p2) else if p2 = o_laterPlace then if o_laterFault ≤ p1 then some (o_laterFault, o_laterPlace) else some (p1, p2) else some (o_laterFault, o_laterPlace)
set_option maxHeartbeats 4000000 in
set_option maxRecDepth 100000 in
theorem c_X12_later {l : Launch} {D : va_G} {g : Nat → ClassId} {fu : Nat} {o_q0 o_q1 o_q2 o_q3 o_q4 o_q5 o_q6 o_q7 o_q8 o_q9 o_q10 o_q11 o_q12 o_q13 o_q14 o_q15 o_q16 o_q17 o_q18 o_q19 o_q20 o_q21 o_q22 : Nat} {o_code : Int32} {o_tape : (Nat → Int32)} {o_size : (Nat → Int32)} {o_fault : (Nat → Int32)} {o_faultPlace : (Nat → Int32)} {o_many : (Nat → Int32)} {o_towns : (Nat → Int32)} {o_weeks : (Nat → Int32)} {o_logs : (Nat → Int32)} {o_reached : Int32} {o_length : Int32} {o_begins : Int32} {o_sort : Int32} {o_value : Int32} {o_word : Int64} {o_wrongAt : Int32} {o_laterFault : Int32} {o_laterPlace : Int32} {o_told : (Nat → Int32)} {o_read : (Nat → Int32)} {o_farOne : Int32} {o_good : Int32} {o_town : Int32} {o_people : Int32} {o_when : Int32} {o_sat : Int32} {o_quiet : Int32} {o_vain : Int32} {o_lent : Int32} {o_forgiven : Int32} {o_sundays : Int32} {o_purse : (Nat → Int32)} {o_beside : (Nat → Int32)} {o_debts : (Nat → Int32)} {o_sitting : (Nat → Int32)} {o_visited : (Nat → Int32)} {o_week : Int32} {o_heaps : (Nat → Int32)} {o_taken : (Nat → Int32)} {o_best : (Nat → Int32)} {o_more : (Nat → Int32)} {o_firstOne : Int32} {o_log : Int32} {o_fitting : (Nat → Int32)} {o_found : Int32} {o_seed : Int32} {o_row : (Nat → Int32)} {o_saved : (Nat → Int32)} {p1 : Int32} {p2 : Int32} {r : Int32 × Int32} (hf : f_X12_later fu o_laterFault o_laterPlace p1 p2 = some r) : Wr l D (gy g) yX12_later cX12_later 3 none 0 [.ref o_q0, .int p1, .int p2] (wMd g o_q0 o_q1 o_q2 o_q3 o_q4 o_q5 o_q6 o_q7 o_q8 o_q9 o_q10 o_q11 o_q12 o_q13 o_q14 o_q15 o_q16 o_q17 o_q18 o_q19 o_q20 o_q21 o_q22 o_code o_tape o_size o_fault o_faultPlace o_many o_towns o_weeks o_logs o_reached o_length o_begins o_sort o_value o_word o_wrongAt o_laterFault o_laterPlace o_told o_read o_farOne o_good o_town o_people o_when o_sat o_quiet o_vain o_lent o_forgiven o_sundays o_purse o_beside o_debts o_sitting o_visited o_week o_heaps o_taken o_best o_more o_firstOne o_log o_fitting o_found o_seed o_row o_saved) (wMd g o_q0 o_q1 o_q2 o_q3 o_q4 o_q5 o_q6 o_q7 o_q8 o_q9 o_q10 o_q11 o_q12 o_q13 o_q14 o_q15 o_q16 o_q17 o_q18 o_q19 o_q20 o_q21 o_q22 o_code o_tape o_size o_fault o_faultPlace o_many o_towns o_weeks o_logs o_reached o_length o_begins o_sort o_value o_word o_wrongAt r.1 r.2 o_told o_read o_farOne o_good o_town o_people o_when o_sat o_quiet o_vain o_lent o_forgiven o_sundays o_purse o_beside o_debts o_sitting o_visited o_week o_heaps o_taken o_best o_more o_firstOne o_log o_fitting o_found o_seed o_row o_saved) none := by
  refine Wr.ofV (by decide) (Nat.le_of_ble_eq_true rfl) ?_
  intro p e s m args below meth c Q A S hK hA hret ls hl hW
  have hl : lv_has ls 3 [(0, .ref o_q0), (1, .int p1), (2, .int p2)] := hl
  refine lv_aload_n S.1 S.2.1 dX12_later_0 rfl (lv_at hl 0 rfl) ?_
  refine gfX12_124 S hK hW.1 0 rfl rfl dX12_later_1 ?_
  refine lv_if_eq (tgt := 31) S.1 S.2.1 dX12_later_4 (by decide) (fun c_ => ?_) (fun c_ => ?_)
  · have hf := it_p c_ hf
    refine lv_aload_n S.1 S.2.1 dX12_later_31 rfl (lv_at hl 0 rfl) ?_
    refine lv_iload_n S.1 S.2.1 dX12_later_32 rfl (lv_at hl 1 rfl) ?_
    refine pfX12_124 (ws2 := (wMd g o_q0 o_q1 o_q2 o_q3 o_q4 o_q5 o_q6 o_q7 o_q8 o_q9 o_q10 o_q11 o_q12 o_q13 o_q14 o_q15 o_q16 o_q17 o_q18 o_q19 o_q20 o_q21 o_q22 o_code o_tape o_size o_fault o_faultPlace o_many o_towns o_weeks o_logs o_reached o_length o_begins o_sort o_value o_word o_wrongAt p1 o_laterPlace o_told o_read o_farOne o_good o_town o_people o_when o_sat o_quiet o_vain o_lent o_forgiven o_sundays o_purse o_beside o_debts o_sitting o_visited o_week o_heaps o_taken o_best o_more o_firstOne o_log o_fitting o_found o_seed o_row o_saved)) S hK hW 0 rfl rfl rfl (Nat.le_of_ble_eq_true rfl) rfl dX12_later_33 (fun H locs hW => ?_)
    refine lv_aload_n S.1 S.2.1 dX12_later_36 rfl (lv_at hl 0 rfl) ?_
    refine lv_iload_n S.1 S.2.1 dX12_later_37 rfl (lv_at hl 2 rfl) ?_
    refine pfX12_127 (ws2 := (wMd g o_q0 o_q1 o_q2 o_q3 o_q4 o_q5 o_q6 o_q7 o_q8 o_q9 o_q10 o_q11 o_q12 o_q13 o_q14 o_q15 o_q16 o_q17 o_q18 o_q19 o_q20 o_q21 o_q22 o_code o_tape o_size o_fault o_faultPlace o_many o_towns o_weeks o_logs o_reached o_length o_begins o_sort o_value o_word o_wrongAt p1 p2 o_told o_read o_farOne o_good o_town o_people o_when o_sat o_quiet o_vain o_lent o_forgiven o_sundays o_purse o_beside o_debts o_sitting o_visited o_week o_heaps o_taken o_best o_more o_firstOne o_log o_fitting o_found o_seed o_row o_saved)) S hK hW 0 rfl rfl rfl (Nat.le_of_ble_eq_true rfl) rfl dX12_later_38 (fun H locs hW => ?_)
    have e_ := Option.some.inj hf
    subst e_
    exact hret _ _ _ _ dX12_later_41 hW
  · have hf := it_n c_ hf
    refine lv_iload_n S.1 S.2.1 dX12_later_7 rfl (lv_at hl 2 rfl) ?_
    refine lv_aload_n S.1 S.2.1 dX12_later_8 rfl (lv_at hl 0 rfl) ?_
    refine gfX12_127 S hK hW.1 0 rfl rfl dX12_later_9 ?_
    refine lv_icmp_lt (tgt := 31) S.1 S.2.1 dX12_later_12 (by decide) (fun c_ => ?_) (fun c_ => ?_)
    · have hf := it_p c_ hf
      refine lv_aload_n S.1 S.2.1 dX12_later_31 rfl (lv_at hl 0 rfl) ?_
      refine lv_iload_n S.1 S.2.1 dX12_later_32 rfl (lv_at hl 1 rfl) ?_
      refine pfX12_124 (ws2 := (wMd g o_q0 o_q1 o_q2 o_q3 o_q4 o_q5 o_q6 o_q7 o_q8 o_q9 o_q10 o_q11 o_q12 o_q13 o_q14 o_q15 o_q16 o_q17 o_q18 o_q19 o_q20 o_q21 o_q22 o_code o_tape o_size o_fault o_faultPlace o_many o_towns o_weeks o_logs o_reached o_length o_begins o_sort o_value o_word o_wrongAt p1 o_laterPlace o_told o_read o_farOne o_good o_town o_people o_when o_sat o_quiet o_vain o_lent o_forgiven o_sundays o_purse o_beside o_debts o_sitting o_visited o_week o_heaps o_taken o_best o_more o_firstOne o_log o_fitting o_found o_seed o_row o_saved)) S hK hW 0 rfl rfl rfl (Nat.le_of_ble_eq_true rfl) rfl dX12_later_33 (fun H locs hW => ?_)
      refine lv_aload_n S.1 S.2.1 dX12_later_36 rfl (lv_at hl 0 rfl) ?_
      refine lv_iload_n S.1 S.2.1 dX12_later_37 rfl (lv_at hl 2 rfl) ?_
      refine pfX12_127 (ws2 := (wMd g o_q0 o_q1 o_q2 o_q3 o_q4 o_q5 o_q6 o_q7 o_q8 o_q9 o_q10 o_q11 o_q12 o_q13 o_q14 o_q15 o_q16 o_q17 o_q18 o_q19 o_q20 o_q21 o_q22 o_code o_tape o_size o_fault o_faultPlace o_many o_towns o_weeks o_logs o_reached o_length o_begins o_sort o_value o_word o_wrongAt p1 p2 o_told o_read o_farOne o_good o_town o_people o_when o_sat o_quiet o_vain o_lent o_forgiven o_sundays o_purse o_beside o_debts o_sitting o_visited o_week o_heaps o_taken o_best o_more o_firstOne o_log o_fitting o_found o_seed o_row o_saved)) S hK hW 0 rfl rfl rfl (Nat.le_of_ble_eq_true rfl) rfl dX12_later_38 (fun H locs hW => ?_)
      have e_ := Option.some.inj hf
      subst e_
      exact hret _ _ _ _ dX12_later_41 hW
    · have hf := it_n c_ hf
      refine lv_iload_n S.1 S.2.1 dX12_later_15 rfl (lv_at hl 2 rfl) ?_
      refine lv_aload_n S.1 S.2.1 dX12_later_16 rfl (lv_at hl 0 rfl) ?_
      refine gfX12_127 S hK hW.1 0 rfl rfl dX12_later_17 ?_
      refine lv_icmp_ne (tgt := 41) S.1 S.2.1 dX12_later_20 (by decide) (fun c_ => ?_) (fun c_ => ?_)
      · have hf := it_n c_ hf
        have e_ := Option.some.inj hf
        subst e_
        exact hret _ _ _ _ dX12_later_41 hW
      · have hf := it_p c_ hf
        refine lv_iload_n S.1 S.2.1 dX12_later_23 rfl (lv_at hl 1 rfl) ?_
        refine lv_aload_n S.1 S.2.1 dX12_later_24 rfl (lv_at hl 0 rfl) ?_
        refine gfX12_124 S hK hW.1 0 rfl rfl dX12_later_25 ?_
        refine lv_icmp_ge (tgt := 41) S.1 S.2.1 dX12_later_28 (by decide) (fun c_ => ?_) (fun c_ => ?_)
        · have hf := it_p c_ hf
          have e_ := Option.some.inj hf
          subst e_
          exact hret _ _ _ _ dX12_later_41 hW
        · have hf := it_n c_ hf
          refine lv_aload_n S.1 S.2.1 dX12_later_31 rfl (lv_at hl 0 rfl) ?_
          refine lv_iload_n S.1 S.2.1 dX12_later_32 rfl (lv_at hl 1 rfl) ?_
          refine pfX12_124 (ws2 := (wMd g o_q0 o_q1 o_q2 o_q3 o_q4 o_q5 o_q6 o_q7 o_q8 o_q9 o_q10 o_q11 o_q12 o_q13 o_q14 o_q15 o_q16 o_q17 o_q18 o_q19 o_q20 o_q21 o_q22 o_code o_tape o_size o_fault o_faultPlace o_many o_towns o_weeks o_logs o_reached o_length o_begins o_sort o_value o_word o_wrongAt p1 o_laterPlace o_told o_read o_farOne o_good o_town o_people o_when o_sat o_quiet o_vain o_lent o_forgiven o_sundays o_purse o_beside o_debts o_sitting o_visited o_week o_heaps o_taken o_best o_more o_firstOne o_log o_fitting o_found o_seed o_row o_saved)) S hK hW 0 rfl rfl rfl (Nat.le_of_ble_eq_true rfl) rfl dX12_later_33 (fun H locs hW => ?_)
          refine lv_aload_n S.1 S.2.1 dX12_later_36 rfl (lv_at hl 0 rfl) ?_
          refine lv_iload_n S.1 S.2.1 dX12_later_37 rfl (lv_at hl 2 rfl) ?_
          refine pfX12_127 (ws2 := (wMd g o_q0 o_q1 o_q2 o_q3 o_q4 o_q5 o_q6 o_q7 o_q8 o_q9 o_q10 o_q11 o_q12 o_q13 o_q14 o_q15 o_q16 o_q17 o_q18 o_q19 o_q20 o_q21 o_q22 o_code o_tape o_size o_fault o_faultPlace o_many o_towns o_weeks o_logs o_reached o_length o_begins o_sort o_value o_word o_wrongAt p1 p2 o_told o_read o_farOne o_good o_town o_people o_when o_sat o_quiet o_vain o_lent o_forgiven o_sundays o_purse o_beside o_debts o_sitting o_visited o_week o_heaps o_taken o_best o_more o_firstOne o_log o_fitting o_found o_seed o_row o_saved)) S hK hW 0 rfl rfl rfl (Nat.le_of_ble_eq_true rfl) rfl dX12_later_38 (fun H locs hW => ?_)
          have e_ := Option.some.inj hf
          subst e_
          exact hret _ _ _ _ dX12_later_41 hW
def f_X12_takeBut (fu : Nat) (o_tape : (Nat → Int32)) (o_reached : Int32) (o_length : Int32) (o_begins : Int32) (o_sort : Int32) (o_value : Int32) (o_word : Int64) (o_wrongAt : Int32) (o_laterFault : Int32) (o_laterPlace : Int32) (o_read : (Nat → Int32)) (o_good : Int32) (p1 : Int32) (p2 : Int32) (p3 : Int32) (p4 : Int32) : Option (Int32 × Int32 × Int32 × Int32 × Int32 × Int64 × Int32 × Int32 × Int32 × (Nat → Int32) × Int32) := if o_sort = (3 : Int32) then bnd (α := (Nat → Int32)) (wri 4 o_read p1 o_value) (fun x1 => bnd (α := Int32) (f_X12_in fu o_value p2 p3) (fun x2 => if x2 = 0 then bnd (α := Int32 × Int32) (f_X12_later fu o_laterFault o_laterPlace (2 : Int32) o_begins) (fun x3 => bnd (α := Int32 × Int32 × Int32 × Int32 × Int64) (f_X12_token fu o_tape o_reached o_length o_begins o_sort o_value o_word) (fun x4 => some ((1 : Int32), x4.1, x4.2.1, x4.2.2.1, x4.2.2.2.1, x4.2.2.2.2, o_wrongAt, x3.1, x3.2, x1, (0 : Int32)))) else if o_value = p4 then bnd (α := Int32 × Int32) (f_X12_later fu o_laterFault o_laterPlace (2 : Int32) o_begins) (fun x5 => bnd (α := Int32 × Int32 × Int32 × Int32 × Int64) (f_X12_token fu o_tape o_reached o_length o_begins o_sort o_value o_word) (fun x6 => some ((1 : Int32), x6.1, x6.2.1, x6.2.2.1, x6.2.2.2.1, x6.2.2.2.2, o_wrongAt, x5.1, x5.2, x1, (0 : Int32)))) else bnd (α := Int32 × Int32 × Int32 × Int32 × Int64) (f_X12_token fu o_tape o_reached o_length o_begins o_sort o_value o_word) (fun x7 => some ((1 : Int32), x7.1, x7.2.1, x7.2.2.1, x7.2.2.2.1, x7.2.2.2.2, o_wrongAt, o_laterFault, o_laterPlace, x1, o_good)))) else bnd (α := Int32 × Int32) (f_X12_fails fu o_begins o_wrongAt) (fun x8 => bnd (α := Int32) (bz x8.1) (fun z9 => some (z9, o_reached, o_begins, o_sort, o_value, o_word, x8.2, o_laterFault, o_laterPlace, o_read, o_good)))
set_option maxHeartbeats 4000000 in
set_option maxRecDepth 100000 in
theorem c_X12_takeBut {l : Launch} {D : va_G} {g : Nat → ClassId} {fu : Nat} {o_q0 o_q1 o_q2 o_q3 o_q4 o_q5 o_q6 o_q7 o_q8 o_q9 o_q10 o_q11 o_q12 o_q13 o_q14 o_q15 o_q16 o_q17 o_q18 o_q19 o_q20 o_q21 o_q22 : Nat} {o_code : Int32} {o_tape : (Nat → Int32)} {o_size : (Nat → Int32)} {o_fault : (Nat → Int32)} {o_faultPlace : (Nat → Int32)} {o_many : (Nat → Int32)} {o_towns : (Nat → Int32)} {o_weeks : (Nat → Int32)} {o_logs : (Nat → Int32)} {o_reached : Int32} {o_length : Int32} {o_begins : Int32} {o_sort : Int32} {o_value : Int32} {o_word : Int64} {o_wrongAt : Int32} {o_laterFault : Int32} {o_laterPlace : Int32} {o_told : (Nat → Int32)} {o_read : (Nat → Int32)} {o_farOne : Int32} {o_good : Int32} {o_town : Int32} {o_people : Int32} {o_when : Int32} {o_sat : Int32} {o_quiet : Int32} {o_vain : Int32} {o_lent : Int32} {o_forgiven : Int32} {o_sundays : Int32} {o_purse : (Nat → Int32)} {o_beside : (Nat → Int32)} {o_debts : (Nat → Int32)} {o_sitting : (Nat → Int32)} {o_visited : (Nat → Int32)} {o_week : Int32} {o_heaps : (Nat → Int32)} {o_taken : (Nat → Int32)} {o_best : (Nat → Int32)} {o_more : (Nat → Int32)} {o_firstOne : Int32} {o_log : Int32} {o_fitting : (Nat → Int32)} {o_found : Int32} {o_seed : Int32} {o_row : (Nat → Int32)} {o_saved : (Nat → Int32)} {p1 : Int32} {p2 : Int32} {p3 : Int32} {p4 : Int32} {r : Int32 × Int32 × Int32 × Int32 × Int32 × Int64 × Int32 × Int32 × Int32 × (Nat → Int32) × Int32} (hf : f_X12_takeBut fu o_tape o_reached o_length o_begins o_sort o_value o_word o_wrongAt o_laterFault o_laterPlace o_read o_good p1 p2 p3 p4 = some r) : Wr l D (gy g) yX12_takeBut cX12_takeBut 5 (some .boolean) 2 [.ref o_q0, .int p1, .int p2, .int p3, .int p4] (wMd g o_q0 o_q1 o_q2 o_q3 o_q4 o_q5 o_q6 o_q7 o_q8 o_q9 o_q10 o_q11 o_q12 o_q13 o_q14 o_q15 o_q16 o_q17 o_q18 o_q19 o_q20 o_q21 o_q22 o_code o_tape o_size o_fault o_faultPlace o_many o_towns o_weeks o_logs o_reached o_length o_begins o_sort o_value o_word o_wrongAt o_laterFault o_laterPlace o_told o_read o_farOne o_good o_town o_people o_when o_sat o_quiet o_vain o_lent o_forgiven o_sundays o_purse o_beside o_debts o_sitting o_visited o_week o_heaps o_taken o_best o_more o_firstOne o_log o_fitting o_found o_seed o_row o_saved) (wMd g o_q0 o_q1 o_q2 o_q3 o_q4 o_q5 o_q6 o_q7 o_q8 o_q9 o_q10 o_q11 o_q12 o_q13 o_q14 o_q15 o_q16 o_q17 o_q18 o_q19 o_q20 o_q21 o_q22 o_code o_tape o_size o_fault o_faultPlace o_many o_towns o_weeks o_logs r.2.1 o_length r.2.2.1 r.2.2.2.1 r.2.2.2.2.1 r.2.2.2.2.2.1 r.2.2.2.2.2.2.1 r.2.2.2.2.2.2.2.1 r.2.2.2.2.2.2.2.2.1 o_told r.2.2.2.2.2.2.2.2.2.1 o_farOne r.2.2.2.2.2.2.2.2.2.2 o_town o_people o_when o_sat o_quiet o_vain o_lent o_forgiven o_sundays o_purse o_beside o_debts o_sitting o_visited o_week o_heaps o_taken o_best o_more o_firstOne o_log o_fitting o_found o_seed o_row o_saved) (some (.int r.1)) := by
  refine Wr.ofZ (by decide) (Nat.le_of_ble_eq_true rfl) ?_
  intro p e s m args below meth c Q A S hK hA hret ls hl hW
  have hl : lv_has ls 5 [(0, .ref o_q0), (1, .int p1), (2, .int p2), (3, .int p3), (4, .int p4)] := hl
  refine lv_aload_n S.1 S.2.1 dX12_takeBut_0 rfl (lv_at hl 0 rfl) ?_
  refine gfX12_115 S hK hW.1 0 rfl rfl dX12_takeBut_1 ?_
  refine lv_iconst (v := 3) S.1 S.2.1 dX12_takeBut_4 ic_3 ?_
  refine lv_icmp_eq (tgt := 13) S.1 S.2.1 dX12_takeBut_5 (by decide) (fun c_ => ?_) (fun c_ => ?_)
  · have hf := it_p c_ hf
    refine lv_aload_n S.1 S.2.1 dX12_takeBut_13 rfl (lv_at hl 0 rfl) ?_
    refine gfX12_38 S hK hW.1 0 rfl rfl dX12_takeBut_14 ?_
    refine lv_iload_n S.1 S.2.1 dX12_takeBut_17 rfl (lv_at hl 1 rfl) ?_
    refine lv_aload_n S.1 S.2.1 dX12_takeBut_18 rfl (lv_at hl 0 rfl) ?_
    refine gfX12_118 S hK hW.1 0 rfl rfl dX12_takeBut_19 ?_
    obtain ⟨x1, hx1, hf⟩ := bnd_e hf
    refine q_iast (ws2 := (wMd g o_q0 o_q1 o_q2 o_q3 o_q4 o_q5 o_q6 o_q7 o_q8 o_q9 o_q10 o_q11 o_q12 o_q13 o_q14 o_q15 o_q16 o_q17 o_q18 o_q19 o_q20 o_q21 o_q22 o_code o_tape o_size o_fault o_faultPlace o_many o_towns o_weeks o_logs o_reached o_length o_begins o_sort o_value o_word o_wrongAt o_laterFault o_laterPlace o_told x1 o_farOne o_good o_town o_people o_when o_sat o_quiet o_vain o_lent o_forgiven o_sundays o_purse o_beside o_debts o_sitting o_visited o_week o_heaps o_taken o_best o_more o_firstOne o_log o_fitting o_found o_seed o_row o_saved)) S hK hW 10 0 rfl rfl hx1 rfl dX12_takeBut_22 (fun H locs hW => ?_)
    refine lv_aload_n S.1 S.2.1 dX12_takeBut_23 rfl (lv_at hl 0 rfl) ?_
    refine gfX12_118 S hK hW.1 0 rfl rfl dX12_takeBut_24 ?_
    refine lv_iload_n S.1 S.2.1 dX12_takeBut_27 rfl (lv_at hl 2 rfl) ?_
    refine lv_iload_n S.1 S.2.1 dX12_takeBut_28 rfl (lv_at hl 3 rfl) ?_
    obtain ⟨x2, hx2, hf⟩ := bnd_e hf
    refine Rd.cS (c_X12_in hx2) S hK va_P.nil kSX12_90 rfl hl.1 [] rfl (Nat.le_of_ble_eq_true rfl) ⟨(Nat.le_of_ble_eq_true rfl), (Nat.le_of_ble_eq_true rfl)⟩ ⟨(Nat.zero_le _), (Nat.zero_le _)⟩ dX12_takeBut_29 ?_
    refine lv_if_eq (tgt := 44) S.1 S.2.1 dX12_takeBut_32 (by decide) (fun c_ => ?_) (fun c_ => ?_)
    · have hf := it_p c_ hf
      refine lv_aload_n S.1 S.2.1 dX12_takeBut_44 rfl (lv_at hl 0 rfl) ?_
      refine lv_iconst (v := 2) S.1 S.2.1 dX12_takeBut_45 ic_2 ?_
      refine lv_aload_n S.1 S.2.1 dX12_takeBut_46 rfl (lv_at hl 0 rfl) ?_
      refine gfX12_108 S hK hW.1 0 rfl rfl dX12_takeBut_47 ?_
      obtain ⟨x3, hx3, hf⟩ := bnd_e hf
      refine Wr.goW (Wr.runV (c_X12_later hx3) S hK hW.1 hW.2.1 0 10 rfl rfl kVX12_134 rfl hl.1 [] rfl (Nat.le_of_ble_eq_true rfl) ⟨(Nat.le_of_ble_eq_true rfl), (Nat.le_of_ble_eq_true rfl)⟩ ⟨(Nat.zero_le _), (Nat.zero_le _)⟩ dX12_takeBut_50) hW hA (fun H locs hW => ?_)
      refine lv_aload_n S.1 S.2.1 dX12_takeBut_53 rfl (lv_at hl 0 rfl) ?_
      refine lv_iconst (v := 0) S.1 S.2.1 dX12_takeBut_54 ic_0 ?_
      refine pfX12_138 (ws2 := (wMd g o_q0 o_q1 o_q2 o_q3 o_q4 o_q5 o_q6 o_q7 o_q8 o_q9 o_q10 o_q11 o_q12 o_q13 o_q14 o_q15 o_q16 o_q17 o_q18 o_q19 o_q20 o_q21 o_q22 o_code o_tape o_size o_fault o_faultPlace o_many o_towns o_weeks o_logs o_reached o_length o_begins o_sort o_value o_word o_wrongAt x3.1 x3.2 o_told x1 o_farOne (0 : Int32) o_town o_people o_when o_sat o_quiet o_vain o_lent o_forgiven o_sundays o_purse o_beside o_debts o_sitting o_visited o_week o_heaps o_taken o_best o_more o_firstOne o_log o_fitting o_found o_seed o_row o_saved)) S hK hW 0 rfl rfl rfl (Nat.le_of_ble_eq_true rfl) rfl dX12_takeBut_55 (fun H locs hW => ?_)
      refine lv_aload_n S.1 S.2.1 dX12_takeBut_58 rfl (lv_at hl 0 rfl) ?_
      obtain ⟨x4, hx4, hf⟩ := bnd_e hf
      refine Wr.goW (Wr.runV (c_X12_token hx4) S hK hW.1 hW.2.1 0 10 rfl rfl kVX12_142 rfl hl.1 [] rfl (Nat.le_of_ble_eq_true rfl) ⟨(Nat.le_of_ble_eq_true rfl), (Nat.le_of_ble_eq_true rfl)⟩ ⟨(Nat.zero_le _), (Nat.zero_le _)⟩ dX12_takeBut_59) hW hA (fun H locs hW => ?_)
      refine lv_iconst (v := 1) S.1 S.2.1 dX12_takeBut_62 ic_1 ?_
      have e_ := Option.some.inj hf
      subst e_
      exact hret _ _ _ _ (Or.inr rfl) dX12_takeBut_63 hW
    · have hf := it_n c_ hf
      refine lv_aload_n S.1 S.2.1 dX12_takeBut_35 rfl (lv_at hl 0 rfl) ?_
      refine gfX12_118 S hK hW.1 0 rfl rfl dX12_takeBut_36 ?_
      refine lv_iload S.1 S.2.1 dX12_takeBut_39 (lv_at hl 4 rfl) ?_
      refine lv_icmp_ne (tgt := 58) S.1 S.2.1 dX12_takeBut_41 (by decide) (fun c_ => ?_) (fun c_ => ?_)
      · have hf := it_n c_ hf
        refine lv_aload_n S.1 S.2.1 dX12_takeBut_58 rfl (lv_at hl 0 rfl) ?_
        obtain ⟨x7, hx7, hf⟩ := bnd_e hf
        refine Wr.goW (Wr.runV (c_X12_token hx7) S hK hW.1 hW.2.1 0 10 rfl rfl kVX12_142 rfl hl.1 [] rfl (Nat.le_of_ble_eq_true rfl) ⟨(Nat.le_of_ble_eq_true rfl), (Nat.le_of_ble_eq_true rfl)⟩ ⟨(Nat.zero_le _), (Nat.zero_le _)⟩ dX12_takeBut_59) hW hA (fun H locs hW => ?_)
        refine lv_iconst (v := 1) S.1 S.2.1 dX12_takeBut_62 ic_1 ?_
        have e_ := Option.some.inj hf
        subst e_
        exact hret _ _ _ _ (Or.inr rfl) dX12_takeBut_63 hW
      · have hf := it_p c_ hf
        refine lv_aload_n S.1 S.2.1 dX12_takeBut_44 rfl (lv_at hl 0 rfl) ?_
        refine lv_iconst (v := 2) S.1 S.2.1 dX12_takeBut_45 ic_2 ?_
        refine lv_aload_n S.1 S.2.1 dX12_takeBut_46 rfl (lv_at hl 0 rfl) ?_
        refine gfX12_108 S hK hW.1 0 rfl rfl dX12_takeBut_47 ?_
        obtain ⟨x5, hx5, hf⟩ := bnd_e hf
        refine Wr.goW (Wr.runV (c_X12_later hx5) S hK hW.1 hW.2.1 0 10 rfl rfl kVX12_134 rfl hl.1 [] rfl (Nat.le_of_ble_eq_true rfl) ⟨(Nat.le_of_ble_eq_true rfl), (Nat.le_of_ble_eq_true rfl)⟩ ⟨(Nat.zero_le _), (Nat.zero_le _)⟩ dX12_takeBut_50) hW hA (fun H locs hW => ?_)
        refine lv_aload_n S.1 S.2.1 dX12_takeBut_53 rfl (lv_at hl 0 rfl) ?_
        refine lv_iconst (v := 0) S.1 S.2.1 dX12_takeBut_54 ic_0 ?_
        refine pfX12_138 (ws2 := (wMd g o_q0 o_q1 o_q2 o_q3 o_q4 o_q5 o_q6 o_q7 o_q8 o_q9 o_q10 o_q11 o_q12 o_q13 o_q14 o_q15 o_q16 o_q17 o_q18 o_q19 o_q20 o_q21 o_q22 o_code o_tape o_size o_fault o_faultPlace o_many o_towns o_weeks o_logs o_reached o_length o_begins o_sort o_value o_word o_wrongAt x5.1 x5.2 o_told x1 o_farOne (0 : Int32) o_town o_people o_when o_sat o_quiet o_vain o_lent o_forgiven o_sundays o_purse o_beside o_debts o_sitting o_visited o_week o_heaps o_taken o_best o_more o_firstOne o_log o_fitting o_found o_seed o_row o_saved)) S hK hW 0 rfl rfl rfl (Nat.le_of_ble_eq_true rfl) rfl dX12_takeBut_55 (fun H locs hW => ?_)
        refine lv_aload_n S.1 S.2.1 dX12_takeBut_58 rfl (lv_at hl 0 rfl) ?_
        obtain ⟨x6, hx6, hf⟩ := bnd_e hf
        refine Wr.goW (Wr.runV (c_X12_token hx6) S hK hW.1 hW.2.1 0 10 rfl rfl kVX12_142 rfl hl.1 [] rfl (Nat.le_of_ble_eq_true rfl) ⟨(Nat.le_of_ble_eq_true rfl), (Nat.le_of_ble_eq_true rfl)⟩ ⟨(Nat.zero_le _), (Nat.zero_le _)⟩ dX12_takeBut_59) hW hA (fun H locs hW => ?_)
        refine lv_iconst (v := 1) S.1 S.2.1 dX12_takeBut_62 ic_1 ?_
        have e_ := Option.some.inj hf
        subst e_
        exact hret _ _ _ _ (Or.inr rfl) dX12_takeBut_63 hW
  · have hf := it_n c_ hf
    refine lv_aload_n S.1 S.2.1 dX12_takeBut_8 rfl (lv_at hl 0 rfl) ?_
    obtain ⟨x8, hx8, hf⟩ := bnd_e hf
    refine Wr.goW (Wr.runV (c_X12_fails hx8) S hK hW.1 hW.2.1 0 10 rfl rfl kVX12_130 rfl hl.1 [] rfl (Nat.le_of_ble_eq_true rfl) ⟨(Nat.le_of_ble_eq_true rfl), (Nat.le_of_ble_eq_true rfl)⟩ ⟨(Nat.zero_le _), (Nat.zero_le _)⟩ dX12_takeBut_9) hW hA (fun H locs hW => ?_)
    obtain ⟨z9, hz9, hf⟩ := bnd_e hf
    obtain ⟨hzz9, ezz9⟩ := bz_e hz9
    rw [ezz9]
    have e_ := Option.some.inj hf
    subst e_
    exact hret _ _ _ _ hzz9 dX12_takeBut_12 hW
def f_X12_take (fu : Nat) (o_tape : (Nat → Int32)) (o_reached : Int32) (o_length : Int32) (o_begins : Int32) (o_sort : Int32) (o_value : Int32) (o_word : Int64) (o_wrongAt : Int32) (o_laterFault : Int32) (o_laterPlace : Int32) (o_read : (Nat → Int32)) (o_good : Int32) (p1 : Int32) (p2 : Int32) (p3 : Int32) : Option (Int32 × Int32 × Int32 × Int32 × Int32 × Int64 × Int32 × Int32 × Int32 × (Nat → Int32) × Int32) := bnd (α := Int32 × Int32 × Int32 × Int32 × Int32 × Int64 × Int32 × Int32 × Int32 × (Nat → Int32) × Int32) (f_X12_takeBut fu o_tape o_reached o_length o_begins o_sort o_value o_word o_wrongAt o_laterFault o_laterPlace o_read o_good p1 p2 p3 (-1 : Int32)) (fun x1 => bnd (α := Int32) (bz x1.1) (fun z2 => some (z2, x1.2.1, x1.2.2.1, x1.2.2.2.1, x1.2.2.2.2.1, x1.2.2.2.2.2.1, x1.2.2.2.2.2.2.1, x1.2.2.2.2.2.2.2.1, x1.2.2.2.2.2.2.2.2.1, x1.2.2.2.2.2.2.2.2.2.1, x1.2.2.2.2.2.2.2.2.2.2)))
set_option maxHeartbeats 4000000 in
set_option maxRecDepth 100000 in
theorem c_X12_take {l : Launch} {D : va_G} {g : Nat → ClassId} {fu : Nat} {o_q0 o_q1 o_q2 o_q3 o_q4 o_q5 o_q6 o_q7 o_q8 o_q9 o_q10 o_q11 o_q12 o_q13 o_q14 o_q15 o_q16 o_q17 o_q18 o_q19 o_q20 o_q21 o_q22 : Nat} {o_code : Int32} {o_tape : (Nat → Int32)} {o_size : (Nat → Int32)} {o_fault : (Nat → Int32)} {o_faultPlace : (Nat → Int32)} {o_many : (Nat → Int32)} {o_towns : (Nat → Int32)} {o_weeks : (Nat → Int32)} {o_logs : (Nat → Int32)} {o_reached : Int32} {o_length : Int32} {o_begins : Int32} {o_sort : Int32} {o_value : Int32} {o_word : Int64} {o_wrongAt : Int32} {o_laterFault : Int32} {o_laterPlace : Int32} {o_told : (Nat → Int32)} {o_read : (Nat → Int32)} {o_farOne : Int32} {o_good : Int32} {o_town : Int32} {o_people : Int32} {o_when : Int32} {o_sat : Int32} {o_quiet : Int32} {o_vain : Int32} {o_lent : Int32} {o_forgiven : Int32} {o_sundays : Int32} {o_purse : (Nat → Int32)} {o_beside : (Nat → Int32)} {o_debts : (Nat → Int32)} {o_sitting : (Nat → Int32)} {o_visited : (Nat → Int32)} {o_week : Int32} {o_heaps : (Nat → Int32)} {o_taken : (Nat → Int32)} {o_best : (Nat → Int32)} {o_more : (Nat → Int32)} {o_firstOne : Int32} {o_log : Int32} {o_fitting : (Nat → Int32)} {o_found : Int32} {o_seed : Int32} {o_row : (Nat → Int32)} {o_saved : (Nat → Int32)} {p1 : Int32} {p2 : Int32} {p3 : Int32} {r : Int32 × Int32 × Int32 × Int32 × Int32 × Int64 × Int32 × Int32 × Int32 × (Nat → Int32) × Int32} (hf : f_X12_take fu o_tape o_reached o_length o_begins o_sort o_value o_word o_wrongAt o_laterFault o_laterPlace o_read o_good p1 p2 p3 = some r) : Wr l D (gy g) yX12_take cX12_take 4 (some .boolean) 3 [.ref o_q0, .int p1, .int p2, .int p3] (wMd g o_q0 o_q1 o_q2 o_q3 o_q4 o_q5 o_q6 o_q7 o_q8 o_q9 o_q10 o_q11 o_q12 o_q13 o_q14 o_q15 o_q16 o_q17 o_q18 o_q19 o_q20 o_q21 o_q22 o_code o_tape o_size o_fault o_faultPlace o_many o_towns o_weeks o_logs o_reached o_length o_begins o_sort o_value o_word o_wrongAt o_laterFault o_laterPlace o_told o_read o_farOne o_good o_town o_people o_when o_sat o_quiet o_vain o_lent o_forgiven o_sundays o_purse o_beside o_debts o_sitting o_visited o_week o_heaps o_taken o_best o_more o_firstOne o_log o_fitting o_found o_seed o_row o_saved) (wMd g o_q0 o_q1 o_q2 o_q3 o_q4 o_q5 o_q6 o_q7 o_q8 o_q9 o_q10 o_q11 o_q12 o_q13 o_q14 o_q15 o_q16 o_q17 o_q18 o_q19 o_q20 o_q21 o_q22 o_code o_tape o_size o_fault o_faultPlace o_many o_towns o_weeks o_logs r.2.1 o_length r.2.2.1 r.2.2.2.1 r.2.2.2.2.1 r.2.2.2.2.2.1 r.2.2.2.2.2.2.1 r.2.2.2.2.2.2.2.1 r.2.2.2.2.2.2.2.2.1 o_told r.2.2.2.2.2.2.2.2.2.1 o_farOne r.2.2.2.2.2.2.2.2.2.2 o_town o_people o_when o_sat o_quiet o_vain o_lent o_forgiven o_sundays o_purse o_beside o_debts o_sitting o_visited o_week o_heaps o_taken o_best o_more o_firstOne o_log o_fitting o_found o_seed o_row o_saved) (some (.int r.1)) := by
  refine Wr.ofZ (by decide) (Nat.le_of_ble_eq_true rfl) ?_
  intro p e s m args below meth c Q A S hK hA hret ls hl hW
  have hl : lv_has ls 4 [(0, .ref o_q0), (1, .int p1), (2, .int p2), (3, .int p3)] := hl
  refine lv_aload_n S.1 S.2.1 dX12_take_0 rfl (lv_at hl 0 rfl) ?_
  refine lv_iload_n S.1 S.2.1 dX12_take_1 rfl (lv_at hl 1 rfl) ?_
  refine lv_iload_n S.1 S.2.1 dX12_take_2 rfl (lv_at hl 2 rfl) ?_
  refine lv_iload_n S.1 S.2.1 dX12_take_3 rfl (lv_at hl 3 rfl) ?_
  refine lv_iconst (v := (-1)) S.1 S.2.1 dX12_take_4 ic_m1 ?_
  obtain ⟨x1, hx1, hf⟩ := bnd_e hf
  refine Wr.goW (Wr.runV (c_X12_takeBut hx1) S hK hW.1 hW.2.1 0 10 rfl rfl kVX12_145 rfl hl.1 [] rfl (Nat.le_of_ble_eq_true rfl) ⟨(Nat.le_of_ble_eq_true rfl), (Nat.le_of_ble_eq_true rfl)⟩ ⟨(Nat.zero_le _), (Nat.zero_le _)⟩ dX12_take_5) hW hA (fun H locs hW => ?_)
  obtain ⟨z2, hz2, hf⟩ := bnd_e hf
  obtain ⟨hzz2, ezz2⟩ := bz_e hz2
  rw [ezz2]
  have e_ := Option.some.inj hf
  subst e_
  exact hret _ _ _ _ hzz2 dX12_take_8 hW
def f_X12_takeTwo (fu : Nat) (o_tape : (Nat → Int32)) (o_reached : Int32) (o_length : Int32) (o_begins : Int32) (o_sort : Int32) (o_value : Int32) (o_word : Int64) (o_wrongAt : Int32) (o_laterFault : Int32) (o_laterPlace : Int32) (o_read : (Nat → Int32)) (o_good : Int32) (p1 : Int32) : Option (Int32 × Int32 × Int32 × Int32 × Int32 × Int64 × Int32 × Int32 × Int32 × (Nat → Int32) × Int32) := bnd (α := Int32 × Int32 × Int32 × Int32 × Int32 × Int64 × Int32 × Int32 × Int32 × (Nat → Int32) × Int32) (f_X12_take fu o_tape o_reached o_length o_begins o_sort o_value o_word o_wrongAt o_laterFault o_laterPlace o_read o_good p1 (0 : Int32) (5 : Int32)) (fun x1 => if x1.1 = 0 then some ((0 : Int32), x1.2.1, x1.2.2.1, x1.2.2.2.1, x1.2.2.2.2.1, x1.2.2.2.2.2.1, x1.2.2.2.2.2.2.1, x1.2.2.2.2.2.2.2.1, x1.2.2.2.2.2.2.2.2.1, x1.2.2.2.2.2.2.2.2.2.1, x1.2.2.2.2.2.2.2.2.2.2) else bnd (α := Int32) (rdi 4 x1.2.2.2.2.2.2.2.2.2.1 p1) (fun x2 => bnd (α := Int32 × Int32 × Int32 × Int32 × Int32 × Int64 × Int32 × Int32 × Int32 × (Nat → Int32) × Int32) (f_X12_takeBut fu o_tape x1.2.1 o_length x1.2.2.1 x1.2.2.2.1 x1.2.2.2.2.1 x1.2.2.2.2.2.1 x1.2.2.2.2.2.2.1 x1.2.2.2.2.2.2.2.1 x1.2.2.2.2.2.2.2.2.1 x1.2.2.2.2.2.2.2.2.2.1 x1.2.2.2.2.2.2.2.2.2.2 (p1 + (1 : Int32)) (0 : Int32) (5 : Int32) x2) (fun x3 => if x3.1 = 0 then some ((0 : Int32), x3.2.1, x3.2.2.1, x3.2.2.2.1, x3.2.2.2.2.1, x3.2.2.2.2.2.1, x3.2.2.2.2.2.2.1, x3.2.2.2.2.2.2.2.1, x3.2.2.2.2.2.2.2.2.1, x3.2.2.2.2.2.2.2.2.2.1, x3.2.2.2.2.2.2.2.2.2.2) else some ((1 : Int32), x3.2.1, x3.2.2.1, x3.2.2.2.1, x3.2.2.2.2.1, x3.2.2.2.2.2.1, x3.2.2.2.2.2.2.1, x3.2.2.2.2.2.2.2.1, x3.2.2.2.2.2.2.2.2.1, x3.2.2.2.2.2.2.2.2.2.1, x3.2.2.2.2.2.2.2.2.2.2))))
set_option maxHeartbeats 4000000 in
set_option maxRecDepth 100000 in
theorem c_X12_takeTwo {l : Launch} {D : va_G} {g : Nat → ClassId} {fu : Nat} {o_q0 o_q1 o_q2 o_q3 o_q4 o_q5 o_q6 o_q7 o_q8 o_q9 o_q10 o_q11 o_q12 o_q13 o_q14 o_q15 o_q16 o_q17 o_q18 o_q19 o_q20 o_q21 o_q22 : Nat} {o_code : Int32} {o_tape : (Nat → Int32)} {o_size : (Nat → Int32)} {o_fault : (Nat → Int32)} {o_faultPlace : (Nat → Int32)} {o_many : (Nat → Int32)} {o_towns : (Nat → Int32)} {o_weeks : (Nat → Int32)} {o_logs : (Nat → Int32)} {o_reached : Int32} {o_length : Int32} {o_begins : Int32} {o_sort : Int32} {o_value : Int32} {o_word : Int64} {o_wrongAt : Int32} {o_laterFault : Int32} {o_laterPlace : Int32} {o_told : (Nat → Int32)} {o_read : (Nat → Int32)} {o_farOne : Int32} {o_good : Int32} {o_town : Int32} {o_people : Int32} {o_when : Int32} {o_sat : Int32} {o_quiet : Int32} {o_vain : Int32} {o_lent : Int32} {o_forgiven : Int32} {o_sundays : Int32} {o_purse : (Nat → Int32)} {o_beside : (Nat → Int32)} {o_debts : (Nat → Int32)} {o_sitting : (Nat → Int32)} {o_visited : (Nat → Int32)} {o_week : Int32} {o_heaps : (Nat → Int32)} {o_taken : (Nat → Int32)} {o_best : (Nat → Int32)} {o_more : (Nat → Int32)} {o_firstOne : Int32} {o_log : Int32} {o_fitting : (Nat → Int32)} {o_found : Int32} {o_seed : Int32} {o_row : (Nat → Int32)} {o_saved : (Nat → Int32)} {p1 : Int32} {r : Int32 × Int32 × Int32 × Int32 × Int32 × Int64 × Int32 × Int32 × Int32 × (Nat → Int32) × Int32} (hf : f_X12_takeTwo fu o_tape o_reached o_length o_begins o_sort o_value o_word o_wrongAt o_laterFault o_laterPlace o_read o_good p1 = some r) : Wr l D (gy g) yX12_takeTwo cX12_takeTwo 2 (some .boolean) 4 [.ref o_q0, .int p1] (wMd g o_q0 o_q1 o_q2 o_q3 o_q4 o_q5 o_q6 o_q7 o_q8 o_q9 o_q10 o_q11 o_q12 o_q13 o_q14 o_q15 o_q16 o_q17 o_q18 o_q19 o_q20 o_q21 o_q22 o_code o_tape o_size o_fault o_faultPlace o_many o_towns o_weeks o_logs o_reached o_length o_begins o_sort o_value o_word o_wrongAt o_laterFault o_laterPlace o_told o_read o_farOne o_good o_town o_people o_when o_sat o_quiet o_vain o_lent o_forgiven o_sundays o_purse o_beside o_debts o_sitting o_visited o_week o_heaps o_taken o_best o_more o_firstOne o_log o_fitting o_found o_seed o_row o_saved) (wMd g o_q0 o_q1 o_q2 o_q3 o_q4 o_q5 o_q6 o_q7 o_q8 o_q9 o_q10 o_q11 o_q12 o_q13 o_q14 o_q15 o_q16 o_q17 o_q18 o_q19 o_q20 o_q21 o_q22 o_code o_tape o_size o_fault o_faultPlace o_many o_towns o_weeks o_logs r.2.1 o_length r.2.2.1 r.2.2.2.1 r.2.2.2.2.1 r.2.2.2.2.2.1 r.2.2.2.2.2.2.1 r.2.2.2.2.2.2.2.1 r.2.2.2.2.2.2.2.2.1 o_told r.2.2.2.2.2.2.2.2.2.1 o_farOne r.2.2.2.2.2.2.2.2.2.2 o_town o_people o_when o_sat o_quiet o_vain o_lent o_forgiven o_sundays o_purse o_beside o_debts o_sitting o_visited o_week o_heaps o_taken o_best o_more o_firstOne o_log o_fitting o_found o_seed o_row o_saved) (some (.int r.1)) := by
  refine Wr.ofZ (by decide) (Nat.le_of_ble_eq_true rfl) ?_
  intro p e s m args below meth c Q A S hK hA hret ls hl hW
  have hl : lv_has ls 2 [(0, .ref o_q0), (1, .int p1)] := hl
  refine lv_aload_n S.1 S.2.1 dX12_takeTwo_0 rfl (lv_at hl 0 rfl) ?_
  refine lv_iload_n S.1 S.2.1 dX12_takeTwo_1 rfl (lv_at hl 1 rfl) ?_
  refine lv_iconst (v := 0) S.1 S.2.1 dX12_takeTwo_2 ic_0 ?_
  refine lv_iconst (v := 5) S.1 S.2.1 dX12_takeTwo_3 ic_5 ?_
  obtain ⟨x1, hx1, hf⟩ := bnd_e hf
  refine Wr.goW (Wr.runV (c_X12_take hx1) S hK hW.1 hW.2.1 0 10 rfl rfl kVX12_149 rfl hl.1 [] rfl (Nat.le_of_ble_eq_true rfl) ⟨(Nat.le_of_ble_eq_true rfl), (Nat.le_of_ble_eq_true rfl)⟩ ⟨(Nat.zero_le _), (Nat.zero_le _)⟩ dX12_takeTwo_4) hW hA (fun H locs hW => ?_)
  refine lv_if_eq (tgt := 32) S.1 S.2.1 dX12_takeTwo_7 (by decide) (fun c_ => ?_) (fun c_ => ?_)
  · have hf := it_p c_ hf
    refine lv_iconst (v := 0) S.1 S.2.1 dX12_takeTwo_32 ic_0 ?_
    have e_ := Option.some.inj hf
    subst e_
    exact hret _ _ _ _ (Or.inl rfl) dX12_takeTwo_33 hW
  · have hf := it_n c_ hf
    refine lv_aload_n S.1 S.2.1 dX12_takeTwo_10 rfl (lv_at hl 0 rfl) ?_
    refine lv_iload_n S.1 S.2.1 dX12_takeTwo_11 rfl (lv_at hl 1 rfl) ?_
    refine lv_iconst (v := 1) S.1 S.2.1 dX12_takeTwo_12 ic_1 ?_
    refine lv_iadd S.1 S.2.1 dX12_takeTwo_13 ?_
    refine lv_iconst (v := 0) S.1 S.2.1 dX12_takeTwo_14 ic_0 ?_
    refine lv_iconst (v := 5) S.1 S.2.1 dX12_takeTwo_15 ic_5 ?_
    refine lv_aload_n S.1 S.2.1 dX12_takeTwo_16 rfl (lv_at hl 0 rfl) ?_
    refine gfX12_38 S hK hW.1 0 rfl rfl dX12_takeTwo_17 ?_
    refine lv_iload_n S.1 S.2.1 dX12_takeTwo_20 rfl (lv_at hl 1 rfl) ?_
    obtain ⟨x2, hx2, hf⟩ := bnd_e hf
    refine q_iald S hK hW.1 10 0 rfl rfl hx2 dX12_takeTwo_21 ?_
    obtain ⟨x3, hx3, hf⟩ := bnd_e hf
    refine Wr.goW (Wr.runV (c_X12_takeBut hx3) S hK hW.1 hW.2.1 0 10 rfl rfl kVX12_145 rfl hl.1 [] rfl (Nat.le_of_ble_eq_true rfl) ⟨(Nat.le_of_ble_eq_true rfl), (Nat.le_of_ble_eq_true rfl)⟩ ⟨(Nat.zero_le _), (Nat.zero_le _)⟩ dX12_takeTwo_22) hW hA (fun H locs hW => ?_)
    refine lv_if_eq (tgt := 32) S.1 S.2.1 dX12_takeTwo_25 (by decide) (fun c_ => ?_) (fun c_ => ?_)
    · have hf := it_p c_ hf
      refine lv_iconst (v := 0) S.1 S.2.1 dX12_takeTwo_32 ic_0 ?_
      have e_ := Option.some.inj hf
      subst e_
      exact hret _ _ _ _ (Or.inl rfl) dX12_takeTwo_33 hW
    · have hf := it_n c_ hf
      refine lv_iconst (v := 1) S.1 S.2.1 dX12_takeTwo_28 ic_1 ?_
      refine lv_goto (tgt := 33) S.1 S.2.1 dX12_takeTwo_29 (by decide) ?_
      have e_ := Option.some.inj hf
      subst e_
      exact hret _ _ _ _ (Or.inr rfl) dX12_takeTwo_33 hW
def f_X12_full (fu : Nat) (o_laterFault : Int32) (o_laterPlace : Int32) (o_told : (Nat → Int32)) (p1 : Int32) (p2 : Int32) : Option (Int32 × Int32) := bnd (α := Int32) (rdi 161 o_told (0 : Int32)) (fun x1 => if x1 = p1 then bnd (α := Int32 × Int32) (f_X12_later fu o_laterFault o_laterPlace (3 : Int32) p2) (fun x2 => some (x2.1, x2.2)) else some (o_laterFault, o_laterPlace))
set_option maxHeartbeats 4000000 in
set_option maxRecDepth 100000 in
theorem c_X12_full {l : Launch} {D : va_G} {g : Nat → ClassId} {fu : Nat} {o_q0 o_q1 o_q2 o_q3 o_q4 o_q5 o_q6 o_q7 o_q8 o_q9 o_q10 o_q11 o_q12 o_q13 o_q14 o_q15 o_q16 o_q17 o_q18 o_q19 o_q20 o_q21 o_q22 : Nat} {o_code : Int32} {o_tape : (Nat → Int32)} {o_size : (Nat → Int32)} {o_fault : (Nat → Int32)} {o_faultPlace : (Nat → Int32)} {o_many : (Nat → Int32)} {o_towns : (Nat → Int32)} {o_weeks : (Nat → Int32)} {o_logs : (Nat → Int32)} {o_reached : Int32} {o_length : Int32} {o_begins : Int32} {o_sort : Int32} {o_value : Int32} {o_word : Int64} {o_wrongAt : Int32} {o_laterFault : Int32} {o_laterPlace : Int32} {o_told : (Nat → Int32)} {o_read : (Nat → Int32)} {o_farOne : Int32} {o_good : Int32} {o_town : Int32} {o_people : Int32} {o_when : Int32} {o_sat : Int32} {o_quiet : Int32} {o_vain : Int32} {o_lent : Int32} {o_forgiven : Int32} {o_sundays : Int32} {o_purse : (Nat → Int32)} {o_beside : (Nat → Int32)} {o_debts : (Nat → Int32)} {o_sitting : (Nat → Int32)} {o_visited : (Nat → Int32)} {o_week : Int32} {o_heaps : (Nat → Int32)} {o_taken : (Nat → Int32)} {o_best : (Nat → Int32)} {o_more : (Nat → Int32)} {o_firstOne : Int32} {o_log : Int32} {o_fitting : (Nat → Int32)} {o_found : Int32} {o_seed : Int32} {o_row : (Nat → Int32)} {o_saved : (Nat → Int32)} {p1 : Int32} {p2 : Int32} {r : Int32 × Int32} (hf : f_X12_full fu o_laterFault o_laterPlace o_told p1 p2 = some r) : Wr l D (gy g) yX12_full cX12_full 3 none 1 [.ref o_q0, .int p1, .int p2] (wMd g o_q0 o_q1 o_q2 o_q3 o_q4 o_q5 o_q6 o_q7 o_q8 o_q9 o_q10 o_q11 o_q12 o_q13 o_q14 o_q15 o_q16 o_q17 o_q18 o_q19 o_q20 o_q21 o_q22 o_code o_tape o_size o_fault o_faultPlace o_many o_towns o_weeks o_logs o_reached o_length o_begins o_sort o_value o_word o_wrongAt o_laterFault o_laterPlace o_told o_read o_farOne o_good o_town o_people o_when o_sat o_quiet o_vain o_lent o_forgiven o_sundays o_purse o_beside o_debts o_sitting o_visited o_week o_heaps o_taken o_best o_more o_firstOne o_log o_fitting o_found o_seed o_row o_saved) (wMd g o_q0 o_q1 o_q2 o_q3 o_q4 o_q5 o_q6 o_q7 o_q8 o_q9 o_q10 o_q11 o_q12 o_q13 o_q14 o_q15 o_q16 o_q17 o_q18 o_q19 o_q20 o_q21 o_q22 o_code o_tape o_size o_fault o_faultPlace o_many o_towns o_weeks o_logs o_reached o_length o_begins o_sort o_value o_word o_wrongAt r.1 r.2 o_told o_read o_farOne o_good o_town o_people o_when o_sat o_quiet o_vain o_lent o_forgiven o_sundays o_purse o_beside o_debts o_sitting o_visited o_week o_heaps o_taken o_best o_more o_firstOne o_log o_fitting o_found o_seed o_row o_saved) none := by
  refine Wr.ofV (by decide) (Nat.le_of_ble_eq_true rfl) ?_
  intro p e s m args below meth c Q A S hK hA hret ls hl hW
  have hl : lv_has ls 3 [(0, .ref o_q0), (1, .int p1), (2, .int p2)] := hl
  refine lv_aload_n S.1 S.2.1 dX12_full_0 rfl (lv_at hl 0 rfl) ?_
  refine gfX12_35 S hK hW.1 0 rfl rfl dX12_full_1 ?_
  refine lv_iconst (v := 0) S.1 S.2.1 dX12_full_4 ic_0 ?_
  obtain ⟨x1, hx1, hf⟩ := bnd_e hf
  refine q_iald S hK hW.1 9 0 rfl rfl hx1 dX12_full_5 ?_
  refine lv_iload_n S.1 S.2.1 dX12_full_6 rfl (lv_at hl 1 rfl) ?_
  refine lv_icmp_ne (tgt := 16) S.1 S.2.1 dX12_full_7 (by decide) (fun c_ => ?_) (fun c_ => ?_)
  · have hf := it_n c_ hf
    have e_ := Option.some.inj hf
    subst e_
    exact hret _ _ _ _ dX12_full_16 hW
  · have hf := it_p c_ hf
    refine lv_aload_n S.1 S.2.1 dX12_full_10 rfl (lv_at hl 0 rfl) ?_
    refine lv_iconst (v := 3) S.1 S.2.1 dX12_full_11 ic_3 ?_
    refine lv_iload_n S.1 S.2.1 dX12_full_12 rfl (lv_at hl 2 rfl) ?_
    obtain ⟨x2, hx2, hf⟩ := bnd_e hf
    refine Wr.goW (Wr.runV (c_X12_later hx2) S hK hW.1 hW.2.1 0 10 rfl rfl kVX12_134 rfl hl.1 [] rfl (Nat.le_of_ble_eq_true rfl) ⟨(Nat.le_of_ble_eq_true rfl), (Nat.le_of_ble_eq_true rfl)⟩ ⟨(Nat.zero_le _), (Nat.zero_le _)⟩ dX12_full_13) hW hA (fun H locs hW => ?_)
    have e_ := Option.some.inj hf
    subst e_
    exact hret _ _ _ _ dX12_full_16 hW
def f_X12_personLine (fu : Nat) (o_tape : (Nat → Int32)) (o_reached : Int32) (o_length : Int32) (o_begins : Int32) (o_sort : Int32) (o_value : Int32) (o_word : Int64) (o_wrongAt : Int32) (o_laterFault : Int32) (o_laterPlace : Int32) (o_told : (Nat → Int32)) (o_read : (Nat → Int32)) (o_good : Int32) (p1 : Int32) : Option (Int32 × Int32 × Int32 × Int32 × Int32 × Int64 × Int32 × Int32 × Int32 × (Nat → Int32) × (Nat → Int32) × Int32) := bnd (α := Int32 × Int32) (f_X12_full fu o_laterFault o_laterPlace o_told (6 : Int32) p1) (fun x1 => bnd (α := Int32 × Int32 × Int32 × Int32 × Int64) (f_X12_token fu o_tape o_reached o_length o_begins o_sort o_value o_word) (fun x2 => bnd (α := Int32 × Int32 × Int32 × Int32 × Int32 × Int64 × Int32 × Int32 × Int32 × (Nat → Int32) × Int32) (f_X12_take fu o_tape x2.1 o_length x2.2.1 x2.2.2.1 x2.2.2.2.1 x2.2.2.2.2 o_wrongAt x1.1 x1.2 o_read o_good (0 : Int32) (0 : Int32) (9 : Int32)) (fun x3 => if x3.1 = 0 then some ((0 : Int32), x3.2.1, x3.2.2.1, x3.2.2.2.1, x3.2.2.2.2.1, x3.2.2.2.2.2.1, x3.2.2.2.2.2.2.1, x3.2.2.2.2.2.2.2.1, x3.2.2.2.2.2.2.2.2.1, o_told, x3.2.2.2.2.2.2.2.2.2.1, x3.2.2.2.2.2.2.2.2.2.2) else bnd (α := Int32 × Int32 × Int32 × Int32 × Int32 × Int64 × Int32 × Int32 × Int32 × (Nat → Int32) × Int32) (f_X12_take fu o_tape x3.2.1 o_length x3.2.2.1 x3.2.2.2.1 x3.2.2.2.2.1 x3.2.2.2.2.2.1 x3.2.2.2.2.2.2.1 x3.2.2.2.2.2.2.2.1 x3.2.2.2.2.2.2.2.2.1 x3.2.2.2.2.2.2.2.2.2.1 x3.2.2.2.2.2.2.2.2.2.2 (1 : Int32) (0 : Int32) (99 : Int32)) (fun x4 => if x4.1 = 0 then some ((0 : Int32), x4.2.1, x4.2.2.1, x4.2.2.2.1, x4.2.2.2.2.1, x4.2.2.2.2.2.1, x4.2.2.2.2.2.2.1, x4.2.2.2.2.2.2.2.1, x4.2.2.2.2.2.2.2.2.1, o_told, x4.2.2.2.2.2.2.2.2.2.1, x4.2.2.2.2.2.2.2.2.2.2) else bnd (α := Int32) (rdi 161 o_told (0 : Int32)) (fun x5 => if (6 : Int32) ≤ x5 then some ((1 : Int32), x4.2.1, x4.2.2.1, x4.2.2.2.1, x4.2.2.2.2.1, x4.2.2.2.2.2.1, x4.2.2.2.2.2.2.1, x4.2.2.2.2.2.2.2.1, x4.2.2.2.2.2.2.2.2.1, o_told, x4.2.2.2.2.2.2.2.2.2.1, x4.2.2.2.2.2.2.2.2.2.2) else bnd (α := Int32) (rdi 4 x4.2.2.2.2.2.2.2.2.2.1 (0 : Int32)) (fun x6 => bnd (α := (Nat → Int32)) (wri 161 o_told ((1 : Int32) + x5) x6) (fun x7 => bnd (α := Int32) (rdi 4 x4.2.2.2.2.2.2.2.2.2.1 (1 : Int32)) (fun x8 => bnd (α := (Nat → Int32)) (wri 161 x7 ((7 : Int32) + x5) x8) (fun x9 => ltn (0 : Int32) (fun x10 => bnd (α := Int32) (rdi 161 x9 x10) (fun x11 => ltn (x11 + (1 : Int32)) (fun x12 => bnd (α := (Nat → Int32)) (wri 161 x9 x10 x12) (fun x13 => some ((1 : Int32), x4.2.1, x4.2.2.1, x4.2.2.2.1, x4.2.2.2.2.1, x4.2.2.2.2.2.1, x4.2.2.2.2.2.2.1, x4.2.2.2.2.2.2.2.1, x4.2.2.2.2.2.2.2.2.1, x13, x4.2.2.2.2.2.2.2.2.2.1, x4.2.2.2.2.2.2.2.2.2.2))))))))))))))
set_option maxHeartbeats 4000000 in
set_option maxRecDepth 100000 in
theorem c_X12_personLine {l : Launch} {D : va_G} {g : Nat → ClassId} {fu : Nat} {o_q0 o_q1 o_q2 o_q3 o_q4 o_q5 o_q6 o_q7 o_q8 o_q9 o_q10 o_q11 o_q12 o_q13 o_q14 o_q15 o_q16 o_q17 o_q18 o_q19 o_q20 o_q21 o_q22 : Nat} {o_code : Int32} {o_tape : (Nat → Int32)} {o_size : (Nat → Int32)} {o_fault : (Nat → Int32)} {o_faultPlace : (Nat → Int32)} {o_many : (Nat → Int32)} {o_towns : (Nat → Int32)} {o_weeks : (Nat → Int32)} {o_logs : (Nat → Int32)} {o_reached : Int32} {o_length : Int32} {o_begins : Int32} {o_sort : Int32} {o_value : Int32} {o_word : Int64} {o_wrongAt : Int32} {o_laterFault : Int32} {o_laterPlace : Int32} {o_told : (Nat → Int32)} {o_read : (Nat → Int32)} {o_farOne : Int32} {o_good : Int32} {o_town : Int32} {o_people : Int32} {o_when : Int32} {o_sat : Int32} {o_quiet : Int32} {o_vain : Int32} {o_lent : Int32} {o_forgiven : Int32} {o_sundays : Int32} {o_purse : (Nat → Int32)} {o_beside : (Nat → Int32)} {o_debts : (Nat → Int32)} {o_sitting : (Nat → Int32)} {o_visited : (Nat → Int32)} {o_week : Int32} {o_heaps : (Nat → Int32)} {o_taken : (Nat → Int32)} {o_best : (Nat → Int32)} {o_more : (Nat → Int32)} {o_firstOne : Int32} {o_log : Int32} {o_fitting : (Nat → Int32)} {o_found : Int32} {o_seed : Int32} {o_row : (Nat → Int32)} {o_saved : (Nat → Int32)} {p1 : Int32} {r : Int32 × Int32 × Int32 × Int32 × Int32 × Int64 × Int32 × Int32 × Int32 × (Nat → Int32) × (Nat → Int32) × Int32} (hf : f_X12_personLine fu o_tape o_reached o_length o_begins o_sort o_value o_word o_wrongAt o_laterFault o_laterPlace o_told o_read o_good p1 = some r) : Wr l D (gy g) yX12_personLine cX12_personLine 3 (some .boolean) 4 [.ref o_q0, .int p1] (wMd g o_q0 o_q1 o_q2 o_q3 o_q4 o_q5 o_q6 o_q7 o_q8 o_q9 o_q10 o_q11 o_q12 o_q13 o_q14 o_q15 o_q16 o_q17 o_q18 o_q19 o_q20 o_q21 o_q22 o_code o_tape o_size o_fault o_faultPlace o_many o_towns o_weeks o_logs o_reached o_length o_begins o_sort o_value o_word o_wrongAt o_laterFault o_laterPlace o_told o_read o_farOne o_good o_town o_people o_when o_sat o_quiet o_vain o_lent o_forgiven o_sundays o_purse o_beside o_debts o_sitting o_visited o_week o_heaps o_taken o_best o_more o_firstOne o_log o_fitting o_found o_seed o_row o_saved) (wMd g o_q0 o_q1 o_q2 o_q3 o_q4 o_q5 o_q6 o_q7 o_q8 o_q9 o_q10 o_q11 o_q12 o_q13 o_q14 o_q15 o_q16 o_q17 o_q18 o_q19 o_q20 o_q21 o_q22 o_code o_tape o_size o_fault o_faultPlace o_many o_towns o_weeks o_logs r.2.1 o_length r.2.2.1 r.2.2.2.1 r.2.2.2.2.1 r.2.2.2.2.2.1 r.2.2.2.2.2.2.1 r.2.2.2.2.2.2.2.1 r.2.2.2.2.2.2.2.2.1 r.2.2.2.2.2.2.2.2.2.1 r.2.2.2.2.2.2.2.2.2.2.1 o_farOne r.2.2.2.2.2.2.2.2.2.2.2 o_town o_people o_when o_sat o_quiet o_vain o_lent o_forgiven o_sundays o_purse o_beside o_debts o_sitting o_visited o_week o_heaps o_taken o_best o_more o_firstOne o_log o_fitting o_found o_seed o_row o_saved) (some (.int r.1)) := by
  refine Wr.ofZ (by decide) (Nat.le_of_ble_eq_true rfl) ?_
  intro p e s m args below meth c Q A S hK hA hret ls hl hW
  have hl : lv_has ls 3 [(0, .ref o_q0), (1, .int p1)] := hl
  refine lv_aload_n S.1 S.2.1 dX12_personLine_0 rfl (lv_at hl 0 rfl) ?_
  refine lv_bipush (v := 6) S.1 S.2.1 dX12_personLine_1 bp_6 ?_
  refine lv_iload_n S.1 S.2.1 dX12_personLine_3 rfl (lv_at hl 1 rfl) ?_
  obtain ⟨x1, hx1, hf⟩ := bnd_e hf
  refine Wr.goW (Wr.runV (c_X12_full hx1) S hK hW.1 hW.2.1 0 10 rfl rfl kVX12_152 rfl hl.1 [] rfl (Nat.le_of_ble_eq_true rfl) ⟨(Nat.le_of_ble_eq_true rfl), (Nat.le_of_ble_eq_true rfl)⟩ ⟨(Nat.zero_le _), (Nat.zero_le _)⟩ dX12_personLine_4) hW hA (fun H locs hW => ?_)
  refine lv_aload_n S.1 S.2.1 dX12_personLine_7 rfl (lv_at hl 0 rfl) ?_
  obtain ⟨x2, hx2, hf⟩ := bnd_e hf
  refine Wr.goW (Wr.runV (c_X12_token hx2) S hK hW.1 hW.2.1 0 10 rfl rfl kVX12_142 rfl hl.1 [] rfl (Nat.le_of_ble_eq_true rfl) ⟨(Nat.le_of_ble_eq_true rfl), (Nat.le_of_ble_eq_true rfl)⟩ ⟨(Nat.zero_le _), (Nat.zero_le _)⟩ dX12_personLine_8) hW hA (fun H locs hW => ?_)
  refine lv_aload_n S.1 S.2.1 dX12_personLine_11 rfl (lv_at hl 0 rfl) ?_
  refine lv_iconst (v := 0) S.1 S.2.1 dX12_personLine_12 ic_0 ?_
  refine lv_iconst (v := 0) S.1 S.2.1 dX12_personLine_13 ic_0 ?_
  refine lv_bipush (v := 9) S.1 S.2.1 dX12_personLine_14 bp_9 ?_
  obtain ⟨x3, hx3, hf⟩ := bnd_e hf
  refine Wr.goW (Wr.runV (c_X12_take hx3) S hK hW.1 hW.2.1 0 10 rfl rfl kVX12_149 rfl hl.1 [] rfl (Nat.le_of_ble_eq_true rfl) ⟨(Nat.le_of_ble_eq_true rfl), (Nat.le_of_ble_eq_true rfl)⟩ ⟨(Nat.zero_le _), (Nat.zero_le _)⟩ dX12_personLine_16) hW hA (fun H locs hW => ?_)
  refine lv_if_eq (tgt := 33) S.1 S.2.1 dX12_personLine_19 (by decide) (fun c_ => ?_) (fun c_ => ?_)
  · have hf := it_p c_ hf
    refine lv_iconst (v := 0) S.1 S.2.1 dX12_personLine_33 ic_0 ?_
    have e_ := Option.some.inj hf
    subst e_
    exact hret _ _ _ _ (Or.inl rfl) dX12_personLine_34 hW
  · have hf := it_n c_ hf
    refine lv_aload_n S.1 S.2.1 dX12_personLine_22 rfl (lv_at hl 0 rfl) ?_
    refine lv_iconst (v := 1) S.1 S.2.1 dX12_personLine_23 ic_1 ?_
    refine lv_iconst (v := 0) S.1 S.2.1 dX12_personLine_24 ic_0 ?_
    refine lv_bipush (v := 99) S.1 S.2.1 dX12_personLine_25 bp_99 ?_
    obtain ⟨x4, hx4, hf⟩ := bnd_e hf
    refine Wr.goW (Wr.runV (c_X12_take hx4) S hK hW.1 hW.2.1 0 10 rfl rfl kVX12_149 rfl hl.1 [] rfl (Nat.le_of_ble_eq_true rfl) ⟨(Nat.le_of_ble_eq_true rfl), (Nat.le_of_ble_eq_true rfl)⟩ ⟨(Nat.zero_le _), (Nat.zero_le _)⟩ dX12_personLine_27) hW hA (fun H locs hW => ?_)
    refine lv_if_ne (tgt := 35) S.1 S.2.1 dX12_personLine_30 (by decide) (fun c_ => ?_) (fun c_ => ?_)
    · have hf := it_n c_ hf
      refine lv_aload_n S.1 S.2.1 dX12_personLine_35 rfl (lv_at hl 0 rfl) ?_
      refine gfX12_35 S hK hW.1 0 rfl rfl dX12_personLine_36 ?_
      refine lv_iconst (v := 0) S.1 S.2.1 dX12_personLine_39 ic_0 ?_
      obtain ⟨x5, hx5, hf⟩ := bnd_e hf
      refine q_iald S hK hW.1 9 0 rfl rfl hx5 dX12_personLine_40 ?_
      refine lv_istore_n (lv' := [(2, .int x5), (0, .ref o_q0), (1, .int p1)]) S.1 S.2.1 dX12_personLine_41 rfl hl (by decide) rfl (fun ls hl => ?_)
      refine lv_iload_n S.1 S.2.1 dX12_personLine_42 rfl (lv_at hl 0 rfl) ?_
      refine lv_bipush (v := 6) S.1 S.2.1 dX12_personLine_43 bp_6 ?_
      refine lv_icmp_ge (tgt := 87) S.1 S.2.1 dX12_personLine_45 (by decide) (fun c_ => ?_) (fun c_ => ?_)
      · have hf := it_p c_ hf
        refine lv_iconst (v := 1) S.1 S.2.1 dX12_personLine_87 ic_1 ?_
        have e_ := Option.some.inj hf
        subst e_
        exact hret _ _ _ _ (Or.inr rfl) dX12_personLine_88 hW
      · have hf := it_n c_ hf
        refine lv_aload_n S.1 S.2.1 dX12_personLine_48 rfl (lv_at hl 1 rfl) ?_
        refine gfX12_35 S hK hW.1 0 rfl rfl dX12_personLine_49 ?_
        refine lv_iconst (v := 1) S.1 S.2.1 dX12_personLine_52 ic_1 ?_
        refine lv_iload_n S.1 S.2.1 dX12_personLine_53 rfl (lv_at hl 0 rfl) ?_
        refine lv_iadd S.1 S.2.1 dX12_personLine_54 ?_
        refine lv_aload_n S.1 S.2.1 dX12_personLine_55 rfl (lv_at hl 1 rfl) ?_
        refine gfX12_38 S hK hW.1 0 rfl rfl dX12_personLine_56 ?_
        refine lv_iconst (v := 0) S.1 S.2.1 dX12_personLine_59 ic_0 ?_
        obtain ⟨x6, hx6, hf⟩ := bnd_e hf
        refine q_iald S hK hW.1 10 0 rfl rfl hx6 dX12_personLine_60 ?_
        obtain ⟨x7, hx7, hf⟩ := bnd_e hf
        refine q_iast (ws2 := (wMd g o_q0 o_q1 o_q2 o_q3 o_q4 o_q5 o_q6 o_q7 o_q8 o_q9 o_q10 o_q11 o_q12 o_q13 o_q14 o_q15 o_q16 o_q17 o_q18 o_q19 o_q20 o_q21 o_q22 o_code o_tape o_size o_fault o_faultPlace o_many o_towns o_weeks o_logs x4.2.1 o_length x4.2.2.1 x4.2.2.2.1 x4.2.2.2.2.1 x4.2.2.2.2.2.1 x4.2.2.2.2.2.2.1 x4.2.2.2.2.2.2.2.1 x4.2.2.2.2.2.2.2.2.1 x7 x4.2.2.2.2.2.2.2.2.2.1 o_farOne x4.2.2.2.2.2.2.2.2.2.2 o_town o_people o_when o_sat o_quiet o_vain o_lent o_forgiven o_sundays o_purse o_beside o_debts o_sitting o_visited o_week o_heaps o_taken o_best o_more o_firstOne o_log o_fitting o_found o_seed o_row o_saved)) S hK hW 9 0 rfl rfl hx7 rfl dX12_personLine_61 (fun H locs hW => ?_)
        refine lv_aload_n S.1 S.2.1 dX12_personLine_62 rfl (lv_at hl 1 rfl) ?_
        refine gfX12_35 S hK hW.1 0 rfl rfl dX12_personLine_63 ?_
        refine lv_bipush (v := 7) S.1 S.2.1 dX12_personLine_66 bp_7 ?_
        refine lv_iload_n S.1 S.2.1 dX12_personLine_68 rfl (lv_at hl 0 rfl) ?_
        refine lv_iadd S.1 S.2.1 dX12_personLine_69 ?_
        refine lv_aload_n S.1 S.2.1 dX12_personLine_70 rfl (lv_at hl 1 rfl) ?_
        refine gfX12_38 S hK hW.1 0 rfl rfl dX12_personLine_71 ?_
        refine lv_iconst (v := 1) S.1 S.2.1 dX12_personLine_74 ic_1 ?_
        obtain ⟨x8, hx8, hf⟩ := bnd_e hf
        refine q_iald S hK hW.1 10 0 rfl rfl hx8 dX12_personLine_75 ?_
        obtain ⟨x9, hx9, hf⟩ := bnd_e hf
        refine q_iast (ws2 := (wMd g o_q0 o_q1 o_q2 o_q3 o_q4 o_q5 o_q6 o_q7 o_q8 o_q9 o_q10 o_q11 o_q12 o_q13 o_q14 o_q15 o_q16 o_q17 o_q18 o_q19 o_q20 o_q21 o_q22 o_code o_tape o_size o_fault o_faultPlace o_many o_towns o_weeks o_logs x4.2.1 o_length x4.2.2.1 x4.2.2.2.1 x4.2.2.2.2.1 x4.2.2.2.2.2.1 x4.2.2.2.2.2.2.1 x4.2.2.2.2.2.2.2.1 x4.2.2.2.2.2.2.2.2.1 x9 x4.2.2.2.2.2.2.2.2.2.1 o_farOne x4.2.2.2.2.2.2.2.2.2.2 o_town o_people o_when o_sat o_quiet o_vain o_lent o_forgiven o_sundays o_purse o_beside o_debts o_sitting o_visited o_week o_heaps o_taken o_best o_more o_firstOne o_log o_fitting o_found o_seed o_row o_saved)) S hK hW 9 0 rfl rfl hx9 rfl dX12_personLine_76 (fun H locs hW => ?_)
        refine lv_aload_n S.1 S.2.1 dX12_personLine_77 rfl (lv_at hl 1 rfl) ?_
        refine gfX12_35 S hK hW.1 0 rfl rfl dX12_personLine_78 ?_
        refine lv_iconst (v := 0) S.1 S.2.1 dX12_personLine_81 ic_0 ?_
        refine lv_topi (fun x10 ex10 => ?_)
        have hf := ltn_e hf ex10
        refine lv_dup2_11 S.1 S.2.1 dX12_personLine_82 rfl rfl ?_
        obtain ⟨x11, hx11, hf⟩ := bnd_e hf
        refine q_iald S hK hW.1 9 0 rfl rfl hx11 dX12_personLine_83 ?_
        refine lv_iconst (v := 1) S.1 S.2.1 dX12_personLine_84 ic_1 ?_
        refine lv_iadd S.1 S.2.1 dX12_personLine_85 ?_
        refine lv_topi (fun x12 ex12 => ?_)
        have hf := ltn_e hf ex12
        obtain ⟨x13, hx13, hf⟩ := bnd_e hf
        refine q_iast (ws2 := (wMd g o_q0 o_q1 o_q2 o_q3 o_q4 o_q5 o_q6 o_q7 o_q8 o_q9 o_q10 o_q11 o_q12 o_q13 o_q14 o_q15 o_q16 o_q17 o_q18 o_q19 o_q20 o_q21 o_q22 o_code o_tape o_size o_fault o_faultPlace o_many o_towns o_weeks o_logs x4.2.1 o_length x4.2.2.1 x4.2.2.2.1 x4.2.2.2.2.1 x4.2.2.2.2.2.1 x4.2.2.2.2.2.2.1 x4.2.2.2.2.2.2.2.1 x4.2.2.2.2.2.2.2.2.1 x13 x4.2.2.2.2.2.2.2.2.2.1 o_farOne x4.2.2.2.2.2.2.2.2.2.2 o_town o_people o_when o_sat o_quiet o_vain o_lent o_forgiven o_sundays o_purse o_beside o_debts o_sitting o_visited o_week o_heaps o_taken o_best o_more o_firstOne o_log o_fitting o_found o_seed o_row o_saved)) S hK hW 9 0 rfl rfl hx13 rfl dX12_personLine_86 (fun H locs hW => ?_)
        refine lv_iconst (v := 1) S.1 S.2.1 dX12_personLine_87 ic_1 ?_
        have e_ := Option.some.inj hf
        subst e_
        exact hret _ _ _ _ (Or.inr rfl) dX12_personLine_88 hW
    · have hf := it_p c_ hf
      refine lv_iconst (v := 0) S.1 S.2.1 dX12_personLine_33 ic_0 ?_
      have e_ := Option.some.inj hf
      subst e_
      exact hret _ _ _ _ (Or.inl rfl) dX12_personLine_34 hW
def f_X12_townLine (fu : Nat) (o_tape : (Nat → Int32)) (o_reached : Int32) (o_length : Int32) (o_begins : Int32) (o_sort : Int32) (o_value : Int32) (o_word : Int64) (o_wrongAt : Int32) (o_laterFault : Int32) (o_laterPlace : Int32) (o_told : (Nat → Int32)) (o_read : (Nat → Int32)) (o_farOne : Int32) (o_good : Int32) (p1 : Int64) (p2 : Int32) : Option (Int32 × Int32 × Int32 × Int32 × Int32 × Int64 × Int32 × Int32 × Int32 × (Nat → Int32) × (Nat → Int32) × Int32 × Int32) := if (lg_cmp p1 (123581014175598 : Int64)) = 0 then bnd (α := Int32 × Int32 × Int32 × Int32 × Int32 × Int64 × Int32 × Int32 × Int32 × (Nat → Int32) × (Nat → Int32) × Int32) (f_X12_personLine fu o_tape o_reached o_length o_begins o_sort o_value o_word o_wrongAt o_laterFault o_laterPlace o_told o_read o_good p2) (fun x1 => bnd (α := Int32) (bz x1.1) (fun z2 => some (z2, x1.2.1, x1.2.2.1, x1.2.2.2.1, x1.2.2.2.2.1, x1.2.2.2.2.2.1, x1.2.2.2.2.2.2.1, x1.2.2.2.2.2.2.2.1, x1.2.2.2.2.2.2.2.2.1, x1.2.2.2.2.2.2.2.2.2.1, x1.2.2.2.2.2.2.2.2.2.2.1, o_farOne, x1.2.2.2.2.2.2.2.2.2.2.2))) else bnd (α := (Int32 × Int32 × Int32 × Int32 × Int32 × Int64 × Int32 × Int32 × Int32 × (Nat → Int32) × (Nat → Int32) × Int32 × Int32) ⊕ (Int32)) (if (lg_cmp p1 (1751217253 : Int64)) = 0 then some (.inr o_wrongAt) else if (lg_cmp p1 (1870095731 : Int64)) = 0 then some (.inr o_wrongAt) else bnd (α := Int32 × Int32) (f_X12_fails fu o_begins o_wrongAt) (fun x31 => bnd (α := Int32) (bz x31.1) (fun z32 => some (.inl (z32, o_reached, o_begins, o_sort, o_value, o_word, x31.2, o_laterFault, o_laterPlace, o_told, o_read, o_farOne, o_good))))) (fun x3 => cse x3 (fun y33 => some y33) (fun v4 => bnd (α := Int32 × Int32 × Int32 × Int32 × Int64) (f_X12_token fu o_tape o_reached o_length o_begins o_sort o_value o_word) (fun x5 => bnd (α := Int32 × Int32 × Int32 × Int32 × Int32 × Int64 × Int32 × Int32 × Int32 × (Nat → Int32) × Int32) (f_X12_takeTwo fu o_tape x5.1 o_length x5.2.1 x5.2.2.1 x5.2.2.2.1 x5.2.2.2.2 v4 o_laterFault o_laterPlace o_read o_good (0 : Int32)) (fun x6 => if x6.1 = 0 then some ((0 : Int32), x6.2.1, x6.2.2.1, x6.2.2.2.1, x6.2.2.2.2.1, x6.2.2.2.2.2.1, x6.2.2.2.2.2.2.1, x6.2.2.2.2.2.2.2.1, x6.2.2.2.2.2.2.2.2.1, o_told, x6.2.2.2.2.2.2.2.2.2.1, o_farOne, x6.2.2.2.2.2.2.2.2.2.2) else bnd (α := (Int32 × Int32 × Int32 × Int32 × Int32 × Int64 × Int32 × Int32 × Int32 × (Nat → Int32) × (Nat → Int32) × Int32 × Int32) ⊕ (Int32 × Int32 × Int32 × Int32 × Int64 × Int32 × Int32 × Int32 × (Nat → Int32) × Int32)) (if (lg_cmp p1 (1870095731 : Int64)) = 0 then bnd (α := Int32 × Int32 × Int32 × Int32 × Int32 × Int64 × Int32 × Int32 × Int32 × (Nat → Int32) × Int32) (f_X12_take fu o_tape x6.2.1 o_length x6.2.2.1 x6.2.2.2.1 x6.2.2.2.2.1 x6.2.2.2.2.2.1 x6.2.2.2.2.2.2.1 x6.2.2.2.2.2.2.2.1 x6.2.2.2.2.2.2.2.2.1 x6.2.2.2.2.2.2.2.2.2.1 x6.2.2.2.2.2.2.2.2.2.2 (2 : Int32) (0 : Int32) (30 : Int32)) (fun x29 => if x29.1 = 0 then some (.inl ((0 : Int32), x29.2.1, x29.2.2.1, x29.2.2.2.1, x29.2.2.2.2.1, x29.2.2.2.2.2.1, x29.2.2.2.2.2.2.1, x29.2.2.2.2.2.2.2.1, x29.2.2.2.2.2.2.2.2.1, o_told, x29.2.2.2.2.2.2.2.2.2.1, o_farOne, x29.2.2.2.2.2.2.2.2.2.2)) else some (.inr (x29.2.1, x29.2.2.1, x29.2.2.2.1, x29.2.2.2.2.1, x29.2.2.2.2.2.1, x29.2.2.2.2.2.2.1, x29.2.2.2.2.2.2.2.1, x29.2.2.2.2.2.2.2.2.1, x29.2.2.2.2.2.2.2.2.2.1, x29.2.2.2.2.2.2.2.2.2.2))) else some (.inr (x6.2.1, x6.2.2.1, x6.2.2.2.1, x6.2.2.2.2.1, x6.2.2.2.2.2.1, x6.2.2.2.2.2.2.1, x6.2.2.2.2.2.2.2.1, x6.2.2.2.2.2.2.2.2.1, x6.2.2.2.2.2.2.2.2.2.1, x6.2.2.2.2.2.2.2.2.2.2))) (fun x7 => cse x7 (fun y30 => some y30) (fun v8 => bnd (α := Int32) (rdi 4 v8.2.2.2.2.2.2.2.2.1 (0 : Int32)) (fun x9 => bnd (α := Int32) (rdi 4 v8.2.2.2.2.2.2.2.2.1 (1 : Int32)) (fun x10 => bnd (α := Int32) (f_X12_greater fu x9 x10) (fun x11 => bnd (α := Int32) (f_X12_greater fu o_farOne x11) (fun x12 => if v8.2.2.2.2.2.2.2.2.2 = 0 then some ((1 : Int32), v8.1, v8.2.1, v8.2.2.1, v8.2.2.2.1, v8.2.2.2.2.1, v8.2.2.2.2.2.1, v8.2.2.2.2.2.2.1, v8.2.2.2.2.2.2.2.1, o_told, v8.2.2.2.2.2.2.2.2.1, x12, v8.2.2.2.2.2.2.2.2.2) else if (lg_cmp p1 (1870095731 : Int64)) = 0 then bnd (α := Int32) (rdi 4 v8.2.2.2.2.2.2.2.2.1 (0 : Int32)) (fun x13 => bnd (α := Int32) (rdi 4 v8.2.2.2.2.2.2.2.2.1 (1 : Int32)) (fun x14 => bnd (α := Int32) (rdi 4 v8.2.2.2.2.2.2.2.2.1 (2 : Int32)) (fun x15 => bnd (α := (Nat → Int32)) (wri 161 o_told (((19 : Int32) + ((6 : Int32) * x13)) + x14) x15) (fun x16 => some ((1 : Int32), v8.1, v8.2.1, v8.2.2.1, v8.2.2.2.1, v8.2.2.2.2.1, v8.2.2.2.2.2.1, v8.2.2.2.2.2.2.1, v8.2.2.2.2.2.2.2.1, x16, v8.2.2.2.2.2.2.2.2.1, x12, v8.2.2.2.2.2.2.2.2.2))))) else bnd (α := Int32) (rdi 4 v8.2.2.2.2.2.2.2.2.1 (0 : Int32)) (fun x17 => ltn ((13 : Int32) + x17) (fun x18 => bnd (α := Int32) (rdi 161 o_told x18) (fun x19 => bnd (α := Int32) (rdi 4 v8.2.2.2.2.2.2.2.2.1 (1 : Int32)) (fun x20 => ltn (x19 ||| (jshl (1 : Int32) x20)) (fun x21 => bnd (α := (Nat → Int32)) (wri 161 o_told x18 x21) (fun x22 => bnd (α := Int32) (rdi 4 v8.2.2.2.2.2.2.2.2.1 (1 : Int32)) (fun x23 => ltn ((13 : Int32) + x23) (fun x24 => bnd (α := Int32) (rdi 161 x22 x24) (fun x25 => bnd (α := Int32) (rdi 4 v8.2.2.2.2.2.2.2.2.1 (0 : Int32)) (fun x26 => ltn (x25 ||| (jshl (1 : Int32) x26)) (fun x27 => bnd (α := (Nat → Int32)) (wri 161 x22 x24 x27) (fun x28 => some ((1 : Int32), v8.1, v8.2.1, v8.2.2.1, v8.2.2.2.1, v8.2.2.2.2.1, v8.2.2.2.2.2.1, v8.2.2.2.2.2.2.1, v8.2.2.2.2.2.2.2.1, x28, v8.2.2.2.2.2.2.2.2.1, x12, v8.2.2.2.2.2.2.2.2.2)))))))))))))))))))))))
set_option maxHeartbeats 4000000 in
set_option maxRecDepth 100000 in
theorem c_X12_townLine {l : Launch} {D : va_G} {g : Nat → ClassId} {fu : Nat} {o_q0 o_q1 o_q2 o_q3 o_q4 o_q5 o_q6 o_q7 o_q8 o_q9 o_q10 o_q11 o_q12 o_q13 o_q14 o_q15 o_q16 o_q17 o_q18 o_q19 o_q20 o_q21 o_q22 : Nat} {o_code : Int32} {o_tape : (Nat → Int32)} {o_size : (Nat → Int32)} {o_fault : (Nat → Int32)} {o_faultPlace : (Nat → Int32)} {o_many : (Nat → Int32)} {o_towns : (Nat → Int32)} {o_weeks : (Nat → Int32)} {o_logs : (Nat → Int32)} {o_reached : Int32} {o_length : Int32} {o_begins : Int32} {o_sort : Int32} {o_value : Int32} {o_word : Int64} {o_wrongAt : Int32} {o_laterFault : Int32} {o_laterPlace : Int32} {o_told : (Nat → Int32)} {o_read : (Nat → Int32)} {o_farOne : Int32} {o_good : Int32} {o_town : Int32} {o_people : Int32} {o_when : Int32} {o_sat : Int32} {o_quiet : Int32} {o_vain : Int32} {o_lent : Int32} {o_forgiven : Int32} {o_sundays : Int32} {o_purse : (Nat → Int32)} {o_beside : (Nat → Int32)} {o_debts : (Nat → Int32)} {o_sitting : (Nat → Int32)} {o_visited : (Nat → Int32)} {o_week : Int32} {o_heaps : (Nat → Int32)} {o_taken : (Nat → Int32)} {o_best : (Nat → Int32)} {o_more : (Nat → Int32)} {o_firstOne : Int32} {o_log : Int32} {o_fitting : (Nat → Int32)} {o_found : Int32} {o_seed : Int32} {o_row : (Nat → Int32)} {o_saved : (Nat → Int32)} {p1 : Int64} {p2 : Int32} {r : Int32 × Int32 × Int32 × Int32 × Int32 × Int64 × Int32 × Int32 × Int32 × (Nat → Int32) × (Nat → Int32) × Int32 × Int32} (hf : f_X12_townLine fu o_tape o_reached o_length o_begins o_sort o_value o_word o_wrongAt o_laterFault o_laterPlace o_told o_read o_farOne o_good p1 p2 = some r) : Wr l D (gy g) yX12_townLine cX12_townLine 4 (some .boolean) 5 [.ref o_q0, .long p1, .int p2] (wMd g o_q0 o_q1 o_q2 o_q3 o_q4 o_q5 o_q6 o_q7 o_q8 o_q9 o_q10 o_q11 o_q12 o_q13 o_q14 o_q15 o_q16 o_q17 o_q18 o_q19 o_q20 o_q21 o_q22 o_code o_tape o_size o_fault o_faultPlace o_many o_towns o_weeks o_logs o_reached o_length o_begins o_sort o_value o_word o_wrongAt o_laterFault o_laterPlace o_told o_read o_farOne o_good o_town o_people o_when o_sat o_quiet o_vain o_lent o_forgiven o_sundays o_purse o_beside o_debts o_sitting o_visited o_week o_heaps o_taken o_best o_more o_firstOne o_log o_fitting o_found o_seed o_row o_saved) (wMd g o_q0 o_q1 o_q2 o_q3 o_q4 o_q5 o_q6 o_q7 o_q8 o_q9 o_q10 o_q11 o_q12 o_q13 o_q14 o_q15 o_q16 o_q17 o_q18 o_q19 o_q20 o_q21 o_q22 o_code o_tape o_size o_fault o_faultPlace o_many o_towns o_weeks o_logs r.2.1 o_length r.2.2.1 r.2.2.2.1 r.2.2.2.2.1 r.2.2.2.2.2.1 r.2.2.2.2.2.2.1 r.2.2.2.2.2.2.2.1 r.2.2.2.2.2.2.2.2.1 r.2.2.2.2.2.2.2.2.2.1 r.2.2.2.2.2.2.2.2.2.2.1 r.2.2.2.2.2.2.2.2.2.2.2.1 r.2.2.2.2.2.2.2.2.2.2.2.2 o_town o_people o_when o_sat o_quiet o_vain o_lent o_forgiven o_sundays o_purse o_beside o_debts o_sitting o_visited o_week o_heaps o_taken o_best o_more o_firstOne o_log o_fitting o_found o_seed o_row o_saved) (some (.int r.1)) := by
  refine Wr.ofZ (by decide) (Nat.le_of_ble_eq_true rfl) ?_
  intro p e s m args below meth c Q A S hK hA hret ls hl hW
  have hl : lv_has ls 4 [(0, .ref o_q0), (1, .long p1), (3, .int p2)] := hl
  refine lv_lload_n S.1 S.2.1 dX12_townLine_0 rfl (lv_at hl 1 rfl) ?_
  refine lv_ldc2 (v := 123581014175598) S.1 S.2.1 S.2.2.2.1 (S.2.2.2.2 _ q_1235) dX12_townLine_1 ?_
  refine W.lcmp S.1 S.2.1 dX12_townLine_4 ?_
  refine lv_if_ne (tgt := 14) S.1 S.2.1 dX12_townLine_5 (by decide) (fun c_ => ?_) (fun c_ => ?_)
  · have hf := it_n c_ hf
    refine lv_lload_n S.1 S.2.1 dX12_townLine_14 rfl (lv_at hl 1 rfl) ?_
    refine lv_ldc2 (v := 1751217253) S.1 S.2.1 S.2.2.2.1 (S.2.2.2.2 _ q_1260) dX12_townLine_15 ?_
    refine W.lcmp S.1 S.2.1 dX12_townLine_18 ?_
    obtain ⟨x3, hf_, hk3⟩ := bnd_e hf
    have hJ3 : ∀ (v4 : Int32), x3 = .inr v4 → ∀ (ls : Array Slot) (H : Heap) (locs : List Loc), lv_has ls 4 [(0, .ref o_q0), (1, .long p1)] → St A s.heap D (wMd g o_q0 o_q1 o_q2 o_q3 o_q4 o_q5 o_q6 o_q7 o_q8 o_q9 o_q10 o_q11 o_q12 o_q13 o_q14 o_q15 o_q16 o_q17 o_q18 o_q19 o_q20 o_q21 o_q22 o_code o_tape o_size o_fault o_faultPlace o_many o_towns o_weeks o_logs o_reached o_length o_begins o_sort o_value o_word v4 o_laterFault o_laterPlace o_told o_read o_farOne o_good o_town o_people o_when o_sat o_quiet o_vain o_lent o_forgiven o_sundays o_purse o_beside o_debts o_sitting o_visited o_week o_heaps o_taken o_best o_more o_firstOne o_log o_fitting o_found o_seed o_row o_saved) H locs → W p l e (rmD 5) s m args below meth c H locs 0 0 Q (F0 m 35 ls []) := by
      intro v4 e_ ls H locs hl hW
      subst e_
      have hf := cse_r hk3
      refine lv_aload_n S.1 S.2.1 dX12_townLine_35 rfl (lv_at hl 0 rfl) ?_
      obtain ⟨x5, hx5, hf⟩ := bnd_e hf
      refine Wr.goW (Wr.runV (c_X12_token hx5) S hK hW.1 hW.2.1 0 10 rfl rfl kVX12_142 rfl hl.1 [] rfl (Nat.le_of_ble_eq_true rfl) ⟨(Nat.le_of_ble_eq_true rfl), (Nat.le_of_ble_eq_true rfl)⟩ ⟨(Nat.zero_le _), (Nat.zero_le _)⟩ dX12_townLine_36) hW hA (fun H locs hW => ?_)
      refine lv_aload_n S.1 S.2.1 dX12_townLine_39 rfl (lv_at hl 0 rfl) ?_
      refine lv_iconst (v := 0) S.1 S.2.1 dX12_townLine_40 ic_0 ?_
      obtain ⟨x6, hx6, hf⟩ := bnd_e hf
      refine Wr.goW (Wr.runV (c_X12_takeTwo hx6) S hK hW.1 hW.2.1 0 10 rfl rfl kVX12_165 rfl hl.1 [] rfl (Nat.le_of_ble_eq_true rfl) ⟨(Nat.le_of_ble_eq_true rfl), (Nat.le_of_ble_eq_true rfl)⟩ ⟨(Nat.zero_le _), (Nat.zero_le _)⟩ dX12_townLine_41) hW hA (fun H locs hW => ?_)
      refine lv_if_eq (tgt := 66) S.1 S.2.1 dX12_townLine_44 (by decide) (fun c_ => ?_) (fun c_ => ?_)
      · have hf := it_p c_ hf
        refine lv_iconst (v := 0) S.1 S.2.1 dX12_townLine_66 ic_0 ?_
        have e_ := Option.some.inj hf
        subst e_
        exact hret _ _ _ _ (Or.inl rfl) dX12_townLine_67 hW
      · have hf := it_n c_ hf
        refine lv_lload_n S.1 S.2.1 dX12_townLine_47 rfl (lv_at hl 1 rfl) ?_
        refine lv_ldc2 (v := 1870095731) S.1 S.2.1 S.2.2.2.1 (S.2.2.2.2 _ q_1261) dX12_townLine_48 ?_
        refine W.lcmp S.1 S.2.1 dX12_townLine_51 ?_
        obtain ⟨x7, hf_, hk7⟩ := bnd_e hf
        have hJ7 : ∀ (v8 : Int32 × Int32 × Int32 × Int32 × Int64 × Int32 × Int32 × Int32 × (Nat → Int32) × Int32), x7 = .inr v8 → ∀ (ls : Array Slot) (H : Heap) (locs : List Loc), lv_has ls 4 [(0, .ref o_q0), (1, .long p1)] → St A s.heap D (wMd g o_q0 o_q1 o_q2 o_q3 o_q4 o_q5 o_q6 o_q7 o_q8 o_q9 o_q10 o_q11 o_q12 o_q13 o_q14 o_q15 o_q16 o_q17 o_q18 o_q19 o_q20 o_q21 o_q22 o_code o_tape o_size o_fault o_faultPlace o_many o_towns o_weeks o_logs v8.1 o_length v8.2.1 v8.2.2.1 v8.2.2.2.1 v8.2.2.2.2.1 v8.2.2.2.2.2.1 v8.2.2.2.2.2.2.1 v8.2.2.2.2.2.2.2.1 o_told v8.2.2.2.2.2.2.2.2.1 o_farOne v8.2.2.2.2.2.2.2.2.2 o_town o_people o_when o_sat o_quiet o_vain o_lent o_forgiven o_sundays o_purse o_beside o_debts o_sitting o_visited o_week o_heaps o_taken o_best o_more o_firstOne o_log o_fitting o_found o_seed o_row o_saved) H locs → W p l e (rmD 5) s m args below meth c H locs 0 0 Q (F0 m 68 ls []) := by
          intro v8 e_ ls H locs hl hW
          subst e_
          have hf := cse_r hk7
          refine lv_aload_n S.1 S.2.1 dX12_townLine_68 rfl (lv_at hl 0 rfl) ?_
          refine lv_aload_n S.1 S.2.1 dX12_townLine_69 rfl (lv_at hl 0 rfl) ?_
          refine gfX12_168 S hK hW.1 0 rfl rfl dX12_townLine_70 ?_
          refine lv_aload_n S.1 S.2.1 dX12_townLine_73 rfl (lv_at hl 0 rfl) ?_
          refine gfX12_38 S hK hW.1 0 rfl rfl dX12_townLine_74 ?_
          refine lv_iconst (v := 0) S.1 S.2.1 dX12_townLine_77 ic_0 ?_
          obtain ⟨x9, hx9, hf⟩ := bnd_e hf
          refine q_iald S hK hW.1 10 0 rfl rfl hx9 dX12_townLine_78 ?_
          refine lv_aload_n S.1 S.2.1 dX12_townLine_79 rfl (lv_at hl 0 rfl) ?_
          refine gfX12_38 S hK hW.1 0 rfl rfl dX12_townLine_80 ?_
          refine lv_iconst (v := 1) S.1 S.2.1 dX12_townLine_83 ic_1 ?_
          obtain ⟨x10, hx10, hf⟩ := bnd_e hf
          refine q_iald S hK hW.1 10 0 rfl rfl hx10 dX12_townLine_84 ?_
          obtain ⟨x11, hx11, hf⟩ := bnd_e hf
          refine Rd.cS (c_X12_greater hx11) S hK va_P.nil kSX12_171 rfl hl.1 [.int o_farOne, .ref o_q0] rfl (Nat.le_of_ble_eq_true rfl) ⟨(Nat.le_of_ble_eq_true rfl), (Nat.le_of_ble_eq_true rfl)⟩ ⟨(Nat.zero_le _), (Nat.zero_le _)⟩ dX12_townLine_85 ?_
          obtain ⟨x12, hx12, hf⟩ := bnd_e hf
          refine Rd.cS (c_X12_greater hx12) S hK va_P.nil kSX12_171 rfl hl.1 [.ref o_q0] rfl (Nat.le_of_ble_eq_true rfl) ⟨(Nat.le_of_ble_eq_true rfl), (Nat.le_of_ble_eq_true rfl)⟩ ⟨(Nat.zero_le _), (Nat.zero_le _)⟩ dX12_townLine_88 ?_
          refine pfX12_168 (ws2 := (wMd g o_q0 o_q1 o_q2 o_q3 o_q4 o_q5 o_q6 o_q7 o_q8 o_q9 o_q10 o_q11 o_q12 o_q13 o_q14 o_q15 o_q16 o_q17 o_q18 o_q19 o_q20 o_q21 o_q22 o_code o_tape o_size o_fault o_faultPlace o_many o_towns o_weeks o_logs v8.1 o_length v8.2.1 v8.2.2.1 v8.2.2.2.1 v8.2.2.2.2.1 v8.2.2.2.2.2.1 v8.2.2.2.2.2.2.1 v8.2.2.2.2.2.2.2.1 o_told v8.2.2.2.2.2.2.2.2.1 x12 v8.2.2.2.2.2.2.2.2.2 o_town o_people o_when o_sat o_quiet o_vain o_lent o_forgiven o_sundays o_purse o_beside o_debts o_sitting o_visited o_week o_heaps o_taken o_best o_more o_firstOne o_log o_fitting o_found o_seed o_row o_saved)) S hK hW 0 rfl rfl rfl (Nat.le_of_ble_eq_true rfl) rfl dX12_townLine_91 (fun H locs hW => ?_)
          refine lv_aload_n S.1 S.2.1 dX12_townLine_94 rfl (lv_at hl 0 rfl) ?_
          refine gfX12_138 S hK hW.1 0 rfl rfl dX12_townLine_95 ?_
          refine lv_if_ne (tgt := 103) S.1 S.2.1 dX12_townLine_98 (by decide) (fun c_ => ?_) (fun c_ => ?_)
          · have hf := it_n c_ hf
            refine lv_lload_n S.1 S.2.1 dX12_townLine_103 rfl (lv_at hl 1 rfl) ?_
            refine lv_ldc2 (v := 1870095731) S.1 S.2.1 S.2.2.2.1 (S.2.2.2.2 _ q_1261) dX12_townLine_104 ?_
            refine W.lcmp S.1 S.2.1 dX12_townLine_107 ?_
            refine lv_if_ne (tgt := 144) S.1 S.2.1 dX12_townLine_108 (by decide) (fun c_ => ?_) (fun c_ => ?_)
            · have hf := it_n c_ hf
              refine lv_aload_n S.1 S.2.1 dX12_townLine_144 rfl (lv_at hl 0 rfl) ?_
              refine gfX12_35 S hK hW.1 0 rfl rfl dX12_townLine_145 ?_
              refine lv_bipush (v := 13) S.1 S.2.1 dX12_townLine_148 bp_13 ?_
              refine lv_aload_n S.1 S.2.1 dX12_townLine_150 rfl (lv_at hl 0 rfl) ?_
              refine gfX12_38 S hK hW.1 0 rfl rfl dX12_townLine_151 ?_
              refine lv_iconst (v := 0) S.1 S.2.1 dX12_townLine_154 ic_0 ?_
              obtain ⟨x17, hx17, hf⟩ := bnd_e hf
              refine q_iald S hK hW.1 10 0 rfl rfl hx17 dX12_townLine_155 ?_
              refine lv_iadd S.1 S.2.1 dX12_townLine_156 ?_
              refine lv_topi (fun x18 ex18 => ?_)
              have hf := ltn_e hf ex18
              refine lv_dup2_11 S.1 S.2.1 dX12_townLine_157 rfl rfl ?_
              obtain ⟨x19, hx19, hf⟩ := bnd_e hf
              refine q_iald S hK hW.1 9 0 rfl rfl hx19 dX12_townLine_158 ?_
              refine lv_iconst (v := 1) S.1 S.2.1 dX12_townLine_159 ic_1 ?_
              refine lv_aload_n S.1 S.2.1 dX12_townLine_160 rfl (lv_at hl 0 rfl) ?_
              refine gfX12_38 S hK hW.1 0 rfl rfl dX12_townLine_161 ?_
              refine lv_iconst (v := 1) S.1 S.2.1 dX12_townLine_164 ic_1 ?_
              obtain ⟨x20, hx20, hf⟩ := bnd_e hf
              refine q_iald S hK hW.1 10 0 rfl rfl hx20 dX12_townLine_165 ?_
              refine lv_ishl S.1 S.2.1 dX12_townLine_166 ?_
              refine lv_ior S.1 S.2.1 dX12_townLine_167 ?_
              refine lv_topi (fun x21 ex21 => ?_)
              have hf := ltn_e hf ex21
              obtain ⟨x22, hx22, hf⟩ := bnd_e hf
              refine q_iast (ws2 := (wMd g o_q0 o_q1 o_q2 o_q3 o_q4 o_q5 o_q6 o_q7 o_q8 o_q9 o_q10 o_q11 o_q12 o_q13 o_q14 o_q15 o_q16 o_q17 o_q18 o_q19 o_q20 o_q21 o_q22 o_code o_tape o_size o_fault o_faultPlace o_many o_towns o_weeks o_logs v8.1 o_length v8.2.1 v8.2.2.1 v8.2.2.2.1 v8.2.2.2.2.1 v8.2.2.2.2.2.1 v8.2.2.2.2.2.2.1 v8.2.2.2.2.2.2.2.1 x22 v8.2.2.2.2.2.2.2.2.1 x12 v8.2.2.2.2.2.2.2.2.2 o_town o_people o_when o_sat o_quiet o_vain o_lent o_forgiven o_sundays o_purse o_beside o_debts o_sitting o_visited o_week o_heaps o_taken o_best o_more o_firstOne o_log o_fitting o_found o_seed o_row o_saved)) S hK hW 9 0 rfl rfl hx22 rfl dX12_townLine_168 (fun H locs hW => ?_)
              refine lv_aload_n S.1 S.2.1 dX12_townLine_169 rfl (lv_at hl 0 rfl) ?_
              refine gfX12_35 S hK hW.1 0 rfl rfl dX12_townLine_170 ?_
              refine lv_bipush (v := 13) S.1 S.2.1 dX12_townLine_173 bp_13 ?_
              refine lv_aload_n S.1 S.2.1 dX12_townLine_175 rfl (lv_at hl 0 rfl) ?_
              refine gfX12_38 S hK hW.1 0 rfl rfl dX12_townLine_176 ?_
              refine lv_iconst (v := 1) S.1 S.2.1 dX12_townLine_179 ic_1 ?_
              obtain ⟨x23, hx23, hf⟩ := bnd_e hf
              refine q_iald S hK hW.1 10 0 rfl rfl hx23 dX12_townLine_180 ?_
              refine lv_iadd S.1 S.2.1 dX12_townLine_181 ?_
              refine lv_topi (fun x24 ex24 => ?_)
              have hf := ltn_e hf ex24
              refine lv_dup2_11 S.1 S.2.1 dX12_townLine_182 rfl rfl ?_
              obtain ⟨x25, hx25, hf⟩ := bnd_e hf
              refine q_iald S hK hW.1 9 0 rfl rfl hx25 dX12_townLine_183 ?_
              refine lv_iconst (v := 1) S.1 S.2.1 dX12_townLine_184 ic_1 ?_
              refine lv_aload_n S.1 S.2.1 dX12_townLine_185 rfl (lv_at hl 0 rfl) ?_
              refine gfX12_38 S hK hW.1 0 rfl rfl dX12_townLine_186 ?_
              refine lv_iconst (v := 0) S.1 S.2.1 dX12_townLine_189 ic_0 ?_
              obtain ⟨x26, hx26, hf⟩ := bnd_e hf
              refine q_iald S hK hW.1 10 0 rfl rfl hx26 dX12_townLine_190 ?_
              refine lv_ishl S.1 S.2.1 dX12_townLine_191 ?_
              refine lv_ior S.1 S.2.1 dX12_townLine_192 ?_
              refine lv_topi (fun x27 ex27 => ?_)
              have hf := ltn_e hf ex27
              obtain ⟨x28, hx28, hf⟩ := bnd_e hf
              refine q_iast (ws2 := (wMd g o_q0 o_q1 o_q2 o_q3 o_q4 o_q5 o_q6 o_q7 o_q8 o_q9 o_q10 o_q11 o_q12 o_q13 o_q14 o_q15 o_q16 o_q17 o_q18 o_q19 o_q20 o_q21 o_q22 o_code o_tape o_size o_fault o_faultPlace o_many o_towns o_weeks o_logs v8.1 o_length v8.2.1 v8.2.2.1 v8.2.2.2.1 v8.2.2.2.2.1 v8.2.2.2.2.2.1 v8.2.2.2.2.2.2.1 v8.2.2.2.2.2.2.2.1 x28 v8.2.2.2.2.2.2.2.2.1 x12 v8.2.2.2.2.2.2.2.2.2 o_town o_people o_when o_sat o_quiet o_vain o_lent o_forgiven o_sundays o_purse o_beside o_debts o_sitting o_visited o_week o_heaps o_taken o_best o_more o_firstOne o_log o_fitting o_found o_seed o_row o_saved)) S hK hW 9 0 rfl rfl hx28 rfl dX12_townLine_193 (fun H locs hW => ?_)
              refine lv_iconst (v := 1) S.1 S.2.1 dX12_townLine_194 ic_1 ?_
              have e_ := Option.some.inj hf
              subst e_
              exact hret _ _ _ _ (Or.inr rfl) dX12_townLine_195 hW
            · have hf := it_p c_ hf
              refine lv_aload_n S.1 S.2.1 dX12_townLine_111 rfl (lv_at hl 0 rfl) ?_
              refine gfX12_35 S hK hW.1 0 rfl rfl dX12_townLine_112 ?_
              refine lv_bipush (v := 19) S.1 S.2.1 dX12_townLine_115 bp_19 ?_
              refine lv_bipush (v := 6) S.1 S.2.1 dX12_townLine_117 bp_6 ?_
              refine lv_aload_n S.1 S.2.1 dX12_townLine_119 rfl (lv_at hl 0 rfl) ?_
              refine gfX12_38 S hK hW.1 0 rfl rfl dX12_townLine_120 ?_
              refine lv_iconst (v := 0) S.1 S.2.1 dX12_townLine_123 ic_0 ?_
              obtain ⟨x13, hx13, hf⟩ := bnd_e hf
              refine q_iald S hK hW.1 10 0 rfl rfl hx13 dX12_townLine_124 ?_
              refine lv_imul S.1 S.2.1 dX12_townLine_125 ?_
              refine lv_iadd S.1 S.2.1 dX12_townLine_126 ?_
              refine lv_aload_n S.1 S.2.1 dX12_townLine_127 rfl (lv_at hl 0 rfl) ?_
              refine gfX12_38 S hK hW.1 0 rfl rfl dX12_townLine_128 ?_
              refine lv_iconst (v := 1) S.1 S.2.1 dX12_townLine_131 ic_1 ?_
              obtain ⟨x14, hx14, hf⟩ := bnd_e hf
              refine q_iald S hK hW.1 10 0 rfl rfl hx14 dX12_townLine_132 ?_
              refine lv_iadd S.1 S.2.1 dX12_townLine_133 ?_
              refine lv_aload_n S.1 S.2.1 dX12_townLine_134 rfl (lv_at hl 0 rfl) ?_
              refine gfX12_38 S hK hW.1 0 rfl rfl dX12_townLine_135 ?_
              refine lv_iconst (v := 2) S.1 S.2.1 dX12_townLine_138 ic_2 ?_
              obtain ⟨x15, hx15, hf⟩ := bnd_e hf
              refine q_iald S hK hW.1 10 0 rfl rfl hx15 dX12_townLine_139 ?_
              obtain ⟨x16, hx16, hf⟩ := bnd_e hf
              refine q_iast (ws2 := (wMd g o_q0 o_q1 o_q2 o_q3 o_q4 o_q5 o_q6 o_q7 o_q8 o_q9 o_q10 o_q11 o_q12 o_q13 o_q14 o_q15 o_q16 o_q17 o_q18 o_q19 o_q20 o_q21 o_q22 o_code o_tape o_size o_fault o_faultPlace o_many o_towns o_weeks o_logs v8.1 o_length v8.2.1 v8.2.2.1 v8.2.2.2.1 v8.2.2.2.2.1 v8.2.2.2.2.2.1 v8.2.2.2.2.2.2.1 v8.2.2.2.2.2.2.2.1 x16 v8.2.2.2.2.2.2.2.2.1 x12 v8.2.2.2.2.2.2.2.2.2 o_town o_people o_when o_sat o_quiet o_vain o_lent o_forgiven o_sundays o_purse o_beside o_debts o_sitting o_visited o_week o_heaps o_taken o_best o_more o_firstOne o_log o_fitting o_found o_seed o_row o_saved)) S hK hW 9 0 rfl rfl hx16 rfl dX12_townLine_140 (fun H locs hW => ?_)
              refine lv_goto (tgt := 194) S.1 S.2.1 dX12_townLine_141 (by decide) ?_
              refine lv_iconst (v := 1) S.1 S.2.1 dX12_townLine_194 ic_1 ?_
              have e_ := Option.some.inj hf
              subst e_
              exact hret _ _ _ _ (Or.inr rfl) dX12_townLine_195 hW
          · have hf := it_p c_ hf
            refine lv_iconst (v := 1) S.1 S.2.1 dX12_townLine_101 ic_1 ?_
            have e_ := Option.some.inj hf
            subst e_
            exact hret _ _ _ _ (Or.inr rfl) dX12_townLine_102 hW
        have hf := hf_
        refine lv_if_ne (tgt := 68) S.1 S.2.1 dX12_townLine_52 (by decide) (fun c_ => ?_) (fun c_ => ?_)
        · have hf := it_n c_ hf
          exact hJ7 _ (Option.some.inj hf).symm _ _ _ (lv_sub hl [0, 1] rfl) hW
        · have hf := it_p c_ hf
          refine lv_aload_n S.1 S.2.1 dX12_townLine_55 rfl (lv_at hl 0 rfl) ?_
          refine lv_iconst (v := 2) S.1 S.2.1 dX12_townLine_56 ic_2 ?_
          refine lv_iconst (v := 0) S.1 S.2.1 dX12_townLine_57 ic_0 ?_
          refine lv_bipush (v := 30) S.1 S.2.1 dX12_townLine_58 bp_30 ?_
          obtain ⟨x29, hx29, hf⟩ := bnd_e hf
          refine Wr.goW (Wr.runV (c_X12_take hx29) S hK hW.1 hW.2.1 0 10 rfl rfl kVX12_149 rfl hl.1 [] rfl (Nat.le_of_ble_eq_true rfl) ⟨(Nat.le_of_ble_eq_true rfl), (Nat.le_of_ble_eq_true rfl)⟩ ⟨(Nat.zero_le _), (Nat.zero_le _)⟩ dX12_townLine_60) hW hA (fun H locs hW => ?_)
          refine lv_if_ne (tgt := 68) S.1 S.2.1 dX12_townLine_63 (by decide) (fun c_ => ?_) (fun c_ => ?_)
          · have hf := it_n c_ hf
            exact hJ7 _ (Option.some.inj hf).symm _ _ _ (lv_sub hl [0, 1] rfl) hW
          · have hf := it_p c_ hf
            refine lv_iconst (v := 0) S.1 S.2.1 dX12_townLine_66 ic_0 ?_
            have e_ := Option.some.inj hf
            subst e_
            have hf := cse_l hk7
            have e_ := Option.some.inj hf
            subst e_
            exact hret _ _ _ _ (Or.inl rfl) dX12_townLine_67 hW
    have hf := hf_
    refine lv_if_eq (tgt := 35) S.1 S.2.1 dX12_townLine_19 (by decide) (fun c_ => ?_) (fun c_ => ?_)
    · have hf := it_p c_ hf
      exact hJ3 _ (Option.some.inj hf).symm _ _ _ (lv_sub hl [0, 1] rfl) hW
    · have hf := it_n c_ hf
      refine lv_lload_n S.1 S.2.1 dX12_townLine_22 rfl (lv_at hl 1 rfl) ?_
      refine lv_ldc2 (v := 1870095731) S.1 S.2.1 S.2.2.2.1 (S.2.2.2.2 _ q_1261) dX12_townLine_23 ?_
      refine W.lcmp S.1 S.2.1 dX12_townLine_26 ?_
      refine lv_if_eq (tgt := 35) S.1 S.2.1 dX12_townLine_27 (by decide) (fun c_ => ?_) (fun c_ => ?_)
      · have hf := it_p c_ hf
        exact hJ3 _ (Option.some.inj hf).symm _ _ _ (lv_sub hl [0, 1] rfl) hW
      · have hf := it_n c_ hf
        refine lv_aload_n S.1 S.2.1 dX12_townLine_30 rfl (lv_at hl 0 rfl) ?_
        obtain ⟨x31, hx31, hf⟩ := bnd_e hf
        refine Wr.goW (Wr.runV (c_X12_fails hx31) S hK hW.1 hW.2.1 0 10 rfl rfl kVX12_130 rfl hl.1 [] rfl (Nat.le_of_ble_eq_true rfl) ⟨(Nat.le_of_ble_eq_true rfl), (Nat.le_of_ble_eq_true rfl)⟩ ⟨(Nat.zero_le _), (Nat.zero_le _)⟩ dX12_townLine_31) hW hA (fun H locs hW => ?_)
        obtain ⟨z32, hz32, hf⟩ := bnd_e hf
        obtain ⟨hzz32, ezz32⟩ := bz_e hz32
        rw [ezz32]
        have e_ := Option.some.inj hf
        subst e_
        have hf := cse_l hk3
        have e_ := Option.some.inj hf
        subst e_
        exact hret _ _ _ _ hzz32 dX12_townLine_34 hW
  · have hf := it_p c_ hf
    refine lv_aload_n S.1 S.2.1 dX12_townLine_8 rfl (lv_at hl 0 rfl) ?_
    refine lv_iload_n S.1 S.2.1 dX12_townLine_9 rfl (lv_at hl 2 rfl) ?_
    obtain ⟨x1, hx1, hf⟩ := bnd_e hf
    refine Wr.goW (Wr.runV (c_X12_personLine hx1) S hK hW.1 hW.2.1 0 10 rfl rfl kVX12_157 rfl hl.1 [] rfl (Nat.le_of_ble_eq_true rfl) ⟨(Nat.le_of_ble_eq_true rfl), (Nat.le_of_ble_eq_true rfl)⟩ ⟨(Nat.zero_le _), (Nat.zero_le _)⟩ dX12_townLine_10) hW hA (fun H locs hW => ?_)
    obtain ⟨z2, hz2, hf⟩ := bnd_e hf
    obtain ⟨hzz2, ezz2⟩ := bz_e hz2
    rw [ezz2]
    have e_ := Option.some.inj hf
    subst e_
    exact hret _ _ _ _ hzz2 dX12_townLine_13 hW
def f_X12_keepRow_L16 (o_read : (Nat → Int32)) (p1 : Int32) (x1 : Int32) (s3 : Int32 × (Nat → Int32)) : Option ((Int32 × (Nat → Int32)) ⊕ ((Nat → Int32))) := if p1 ≤ s3.1 then some (.inr s3.2) else bnd (α := Int32) (rdi 4 o_read s3.1) (fun x6 => bnd (α := (Nat → Int32)) (wri 161 s3.2 (((1 : Int32) + (p1 * x1)) + s3.1) x6) (fun x7 => some (.inl ((s3.1 + 1), x7))))
def f_X12_keepRow (fu : Nat) (o_told : (Nat → Int32)) (o_read : (Nat → Int32)) (p1 : Int32) (p2 : Int32) : Option ((Nat → Int32)) := bnd (α := Int32) (rdi 161 o_told (0 : Int32)) (fun x1 => if x1 = p2 then some o_told else bnd (α := (Nat → Int32)) (lp (f_X12_keepRow_L16 o_read p1 x1) fu ((0 : Int32), o_told)) (fun v8 => ltn (0 : Int32) (fun x9 => bnd (α := Int32) (rdi 161 v8 x9) (fun x10 => ltn (x10 + (1 : Int32)) (fun x11 => bnd (α := (Nat → Int32)) (wri 161 v8 x9 x11) (fun x12 => some x12))))))
set_option maxHeartbeats 4000000 in
set_option maxRecDepth 100000 in
theorem c_X12_keepRow {l : Launch} {D : va_G} {g : Nat → ClassId} {fu : Nat} {o_q0 o_q1 o_q2 o_q3 o_q4 o_q5 o_q6 o_q7 o_q8 o_q9 o_q10 o_q11 o_q12 o_q13 o_q14 o_q15 o_q16 o_q17 o_q18 o_q19 o_q20 o_q21 o_q22 : Nat} {o_code : Int32} {o_tape : (Nat → Int32)} {o_size : (Nat → Int32)} {o_fault : (Nat → Int32)} {o_faultPlace : (Nat → Int32)} {o_many : (Nat → Int32)} {o_towns : (Nat → Int32)} {o_weeks : (Nat → Int32)} {o_logs : (Nat → Int32)} {o_reached : Int32} {o_length : Int32} {o_begins : Int32} {o_sort : Int32} {o_value : Int32} {o_word : Int64} {o_wrongAt : Int32} {o_laterFault : Int32} {o_laterPlace : Int32} {o_told : (Nat → Int32)} {o_read : (Nat → Int32)} {o_farOne : Int32} {o_good : Int32} {o_town : Int32} {o_people : Int32} {o_when : Int32} {o_sat : Int32} {o_quiet : Int32} {o_vain : Int32} {o_lent : Int32} {o_forgiven : Int32} {o_sundays : Int32} {o_purse : (Nat → Int32)} {o_beside : (Nat → Int32)} {o_debts : (Nat → Int32)} {o_sitting : (Nat → Int32)} {o_visited : (Nat → Int32)} {o_week : Int32} {o_heaps : (Nat → Int32)} {o_taken : (Nat → Int32)} {o_best : (Nat → Int32)} {o_more : (Nat → Int32)} {o_firstOne : Int32} {o_log : Int32} {o_fitting : (Nat → Int32)} {o_found : Int32} {o_seed : Int32} {o_row : (Nat → Int32)} {o_saved : (Nat → Int32)} {p1 : Int32} {p2 : Int32} {r : (Nat → Int32)} (hf : f_X12_keepRow fu o_told o_read p1 p2 = some r) : Wr l D (gy g) yX12_keepRow cX12_keepRow 5 none 0 [.ref o_q0, .int p1, .int p2] (wMd g o_q0 o_q1 o_q2 o_q3 o_q4 o_q5 o_q6 o_q7 o_q8 o_q9 o_q10 o_q11 o_q12 o_q13 o_q14 o_q15 o_q16 o_q17 o_q18 o_q19 o_q20 o_q21 o_q22 o_code o_tape o_size o_fault o_faultPlace o_many o_towns o_weeks o_logs o_reached o_length o_begins o_sort o_value o_word o_wrongAt o_laterFault o_laterPlace o_told o_read o_farOne o_good o_town o_people o_when o_sat o_quiet o_vain o_lent o_forgiven o_sundays o_purse o_beside o_debts o_sitting o_visited o_week o_heaps o_taken o_best o_more o_firstOne o_log o_fitting o_found o_seed o_row o_saved) (wMd g o_q0 o_q1 o_q2 o_q3 o_q4 o_q5 o_q6 o_q7 o_q8 o_q9 o_q10 o_q11 o_q12 o_q13 o_q14 o_q15 o_q16 o_q17 o_q18 o_q19 o_q20 o_q21 o_q22 o_code o_tape o_size o_fault o_faultPlace o_many o_towns o_weeks o_logs o_reached o_length o_begins o_sort o_value o_word o_wrongAt o_laterFault o_laterPlace r o_read o_farOne o_good o_town o_people o_when o_sat o_quiet o_vain o_lent o_forgiven o_sundays o_purse o_beside o_debts o_sitting o_visited o_week o_heaps o_taken o_best o_more o_firstOne o_log o_fitting o_found o_seed o_row o_saved) none := by
  refine Wr.ofV (by decide) (Nat.le_of_ble_eq_true rfl) ?_
  intro p e s m args below meth c Q A S hK hA hret ls hl hW
  have hl : lv_has ls 5 [(0, .ref o_q0), (1, .int p1), (2, .int p2)] := hl
  refine lv_aload_n S.1 S.2.1 dX12_keepRow_0 rfl (lv_at hl 0 rfl) ?_
  refine gfX12_35 S hK hW.1 0 rfl rfl dX12_keepRow_1 ?_
  refine lv_iconst (v := 0) S.1 S.2.1 dX12_keepRow_4 ic_0 ?_
  obtain ⟨x1, hx1, hf⟩ := bnd_e hf
  refine q_iald S hK hW.1 9 0 rfl rfl hx1 dX12_keepRow_5 ?_
  refine lv_istore_n (lv' := [(3, .int x1), (0, .ref o_q0), (1, .int p1), (2, .int p2)]) S.1 S.2.1 dX12_keepRow_6 rfl hl (by decide) rfl (fun ls hl => ?_)
  refine lv_iload_n S.1 S.2.1 dX12_keepRow_7 rfl (lv_at hl 0 rfl) ?_
  refine lv_iload_n S.1 S.2.1 dX12_keepRow_8 rfl (lv_at hl 3 rfl) ?_
  refine lv_icmp_ne (tgt := 13) S.1 S.2.1 dX12_keepRow_9 (by decide) (fun c_ => ?_) (fun c_ => ?_)
  · have hf := it_n c_ hf
    refine lv_iconst (v := 0) S.1 S.2.1 dX12_keepRow_13 ic_0 ?_
    refine lv_istore (lv' := [(4, .int (0 : Int32)), (3, .int x1), (0, .ref o_q0), (1, .int p1), (2, .int p2)]) S.1 S.2.1 dX12_keepRow_14 hl (by decide) rfl (fun ls hl => ?_)
    obtain ⟨x4, hf_, hk4⟩ := bnd_e hf
    have hE4 : ∀ (v8 : (Nat → Int32)), v8 = x4 → ∀ (ls : Array Slot) (H : Heap) (locs : List Loc), lv_has ls 5 [(0, .ref o_q0)] → St A s.heap D (wMd g o_q0 o_q1 o_q2 o_q3 o_q4 o_q5 o_q6 o_q7 o_q8 o_q9 o_q10 o_q11 o_q12 o_q13 o_q14 o_q15 o_q16 o_q17 o_q18 o_q19 o_q20 o_q21 o_q22 o_code o_tape o_size o_fault o_faultPlace o_many o_towns o_weeks o_logs o_reached o_length o_begins o_sort o_value o_word o_wrongAt o_laterFault o_laterPlace v8 o_read o_farOne o_good o_town o_people o_when o_sat o_quiet o_vain o_lent o_forgiven o_sundays o_purse o_beside o_debts o_sitting o_visited o_week o_heaps o_taken o_best o_more o_firstOne o_log o_fitting o_found o_seed o_row o_saved) H locs → W p l e (rmD 0) s m args below meth c H locs 0 0 Q (F0 m 48 ls []) := by
      intro v8 e_ ls H locs hl hW
      subst e_
      have hf := hk4
      refine lv_aload_n S.1 S.2.1 dX12_keepRow_48 rfl (lv_at hl 0 rfl) ?_
      refine gfX12_35 S hK hW.1 0 rfl rfl dX12_keepRow_49 ?_
      refine lv_iconst (v := 0) S.1 S.2.1 dX12_keepRow_52 ic_0 ?_
      refine lv_topi (fun x9 ex9 => ?_)
      have hf := ltn_e hf ex9
      refine lv_dup2_11 S.1 S.2.1 dX12_keepRow_53 rfl rfl ?_
      obtain ⟨x10, hx10, hf⟩ := bnd_e hf
      refine q_iald S hK hW.1 9 0 rfl rfl hx10 dX12_keepRow_54 ?_
      refine lv_iconst (v := 1) S.1 S.2.1 dX12_keepRow_55 ic_1 ?_
      refine lv_iadd S.1 S.2.1 dX12_keepRow_56 ?_
      refine lv_topi (fun x11 ex11 => ?_)
      have hf := ltn_e hf ex11
      obtain ⟨x12, hx12, hf⟩ := bnd_e hf
      refine q_iast (ws2 := (wMd g o_q0 o_q1 o_q2 o_q3 o_q4 o_q5 o_q6 o_q7 o_q8 o_q9 o_q10 o_q11 o_q12 o_q13 o_q14 o_q15 o_q16 o_q17 o_q18 o_q19 o_q20 o_q21 o_q22 o_code o_tape o_size o_fault o_faultPlace o_many o_towns o_weeks o_logs o_reached o_length o_begins o_sort o_value o_word o_wrongAt o_laterFault o_laterPlace x12 o_read o_farOne o_good o_town o_people o_when o_sat o_quiet o_vain o_lent o_forgiven o_sundays o_purse o_beside o_debts o_sitting o_visited o_week o_heaps o_taken o_best o_more o_firstOne o_log o_fitting o_found o_seed o_row o_saved)) S hK hW 9 0 rfl rfl hx12 rfl dX12_keepRow_57 (fun H locs hW => ?_)
      have e_ := Option.some.inj hf
      subst e_
      exact hret _ _ _ _ dX12_keepRow_58 hW
    refine lp_ind (P := fun (s3 : Int32 × (Nat → Int32)) => ∀ (ls : Array Slot) (H : Heap) (locs : List Loc), lv_has ls 5 [(0, .ref o_q0), (1, .int p1), (3, .int x1), (4, .int s3.1)] → St A s.heap D (wMd g o_q0 o_q1 o_q2 o_q3 o_q4 o_q5 o_q6 o_q7 o_q8 o_q9 o_q10 o_q11 o_q12 o_q13 o_q14 o_q15 o_q16 o_q17 o_q18 o_q19 o_q20 o_q21 o_q22 o_code o_tape o_size o_fault o_faultPlace o_many o_towns o_weeks o_logs o_reached o_length o_begins o_sort o_value o_word o_wrongAt o_laterFault o_laterPlace s3.2 o_read o_farOne o_good o_town o_people o_when o_sat o_quiet o_vain o_lent o_forgiven o_sundays o_purse o_beside o_debts o_sitting o_visited o_week o_heaps o_taken o_best o_more o_firstOne o_log o_fitting o_found o_seed o_row o_saved) H locs → W p l e (rmD 0) s m args below meth c H locs 0 0 Q (F0 m 16 ls [])) ?_ _ _ hf_ _ _ _ (lv_sub hl [2, 3, 1, 0] rfl) hW
    intro s3 x5 hf hI4 hR4 ls H locs hl hW
    refine lv_iload S.1 S.2.1 dX12_keepRow_16 (lv_at hl 3 rfl) ?_
    refine lv_iload_n S.1 S.2.1 dX12_keepRow_18 rfl (lv_at hl 1 rfl) ?_
    refine lv_icmp_ge (tgt := 48) S.1 S.2.1 dX12_keepRow_19 (by decide) (fun c_ => ?_) (fun c_ => ?_)
    · have hf := it_p c_ hf
      have e_ := hR4 _ (Option.some.inj hf).symm
      exact hE4 _ e_ _ _ _ (lv_sub hl [0] rfl) hW
    · have hf := it_n c_ hf
      refine lv_aload_n S.1 S.2.1 dX12_keepRow_22 rfl (lv_at hl 0 rfl) ?_
      refine gfX12_35 S hK hW.1 0 rfl rfl dX12_keepRow_23 ?_
      refine lv_iconst (v := 1) S.1 S.2.1 dX12_keepRow_26 ic_1 ?_
      refine lv_iload_n S.1 S.2.1 dX12_keepRow_27 rfl (lv_at hl 1 rfl) ?_
      refine lv_iload_n S.1 S.2.1 dX12_keepRow_28 rfl (lv_at hl 2 rfl) ?_
      refine lv_imul S.1 S.2.1 dX12_keepRow_29 ?_
      refine lv_iadd S.1 S.2.1 dX12_keepRow_30 ?_
      refine lv_iload S.1 S.2.1 dX12_keepRow_31 (lv_at hl 3 rfl) ?_
      refine lv_iadd S.1 S.2.1 dX12_keepRow_33 ?_
      refine lv_aload_n S.1 S.2.1 dX12_keepRow_34 rfl (lv_at hl 0 rfl) ?_
      refine gfX12_38 S hK hW.1 0 rfl rfl dX12_keepRow_35 ?_
      refine lv_iload S.1 S.2.1 dX12_keepRow_38 (lv_at hl 3 rfl) ?_
      obtain ⟨x6, hx6, hf⟩ := bnd_e hf
      refine q_iald S hK hW.1 10 0 rfl rfl hx6 dX12_keepRow_40 ?_
      obtain ⟨x7, hx7, hf⟩ := bnd_e hf
      refine q_iast (ws2 := (wMd g o_q0 o_q1 o_q2 o_q3 o_q4 o_q5 o_q6 o_q7 o_q8 o_q9 o_q10 o_q11 o_q12 o_q13 o_q14 o_q15 o_q16 o_q17 o_q18 o_q19 o_q20 o_q21 o_q22 o_code o_tape o_size o_fault o_faultPlace o_many o_towns o_weeks o_logs o_reached o_length o_begins o_sort o_value o_word o_wrongAt o_laterFault o_laterPlace x7 o_read o_farOne o_good o_town o_people o_when o_sat o_quiet o_vain o_lent o_forgiven o_sundays o_purse o_beside o_debts o_sitting o_visited o_week o_heaps o_taken o_best o_more o_firstOne o_log o_fitting o_found o_seed o_row o_saved)) S hK hW 9 0 rfl rfl hx7 rfl dX12_keepRow_41 (fun H locs hW => ?_)
      refine q_iinc (w := 1) (lv' := [(4, .int (s3.1 + 1)), (0, .ref o_q0), (1, .int p1), (3, .int x1)]) S dX12_keepRow_42 hl (k := 3) rfl ic_1 (by decide) rfl (fun ls hl => ?_)
      refine lv_goto (tgt := 16) S.1 S.2.1 dX12_keepRow_45 (by decide) ?_
      exact hI4 _ (Option.some.inj hf).symm _ _ _ (lv_sub hl [1, 2, 3, 0] rfl) hW
  · have hf := it_p c_ hf
    have e_ := Option.some.inj hf
    subst e_
    exact hret _ _ _ _ dX12_keepRow_12 hW
def f_X12_deedBy (fu : Nat) (p1 : Int64) : Option (Int32) := if (lg_cmp p1 (7563636 : Int64)) = 0 then some (0 : Int32) else if (lg_cmp p1 (1818586724 : Int64)) = 0 then some (1 : Int32) else if (lg_cmp p1 (7364985 : Int64)) = 0 then some (2 : Int32) else if (lg_cmp p1 (28832984776406629 : Int64)) = 0 then some (3 : Int32) else if (lg_cmp p1 (126896627347060 : Int64)) = 0 then some (4 : Int32) else if (lg_cmp p1 (499850701683 : Int64)) = 0 then some (5 : Int32) else if (lg_cmp p1 (1752135026 : Int64)) = 0 then some (6 : Int32) else some (-1 : Int32)
set_option maxHeartbeats 4000000 in
set_option maxRecDepth 100000 in
theorem c_X12_deedBy {l : Launch} {D : va_G} {g : Nat → ClassId} {fu : Nat} {o_q0 o_q1 o_q2 o_q3 o_q4 o_q5 o_q6 o_q7 o_q8 o_q9 o_q10 o_q11 o_q12 o_q13 o_q14 o_q15 o_q16 o_q17 o_q18 o_q19 o_q20 o_q21 o_q22 : Nat} {o_code : Int32} {o_tape : (Nat → Int32)} {o_size : (Nat → Int32)} {o_fault : (Nat → Int32)} {o_faultPlace : (Nat → Int32)} {o_many : (Nat → Int32)} {o_towns : (Nat → Int32)} {o_weeks : (Nat → Int32)} {o_logs : (Nat → Int32)} {o_reached : Int32} {o_length : Int32} {o_begins : Int32} {o_sort : Int32} {o_value : Int32} {o_word : Int64} {o_wrongAt : Int32} {o_laterFault : Int32} {o_laterPlace : Int32} {o_told : (Nat → Int32)} {o_read : (Nat → Int32)} {o_farOne : Int32} {o_good : Int32} {o_town : Int32} {o_people : Int32} {o_when : Int32} {o_sat : Int32} {o_quiet : Int32} {o_vain : Int32} {o_lent : Int32} {o_forgiven : Int32} {o_sundays : Int32} {o_purse : (Nat → Int32)} {o_beside : (Nat → Int32)} {o_debts : (Nat → Int32)} {o_sitting : (Nat → Int32)} {o_visited : (Nat → Int32)} {o_week : Int32} {o_heaps : (Nat → Int32)} {o_taken : (Nat → Int32)} {o_best : (Nat → Int32)} {o_more : (Nat → Int32)} {o_firstOne : Int32} {o_log : Int32} {o_fitting : (Nat → Int32)} {o_found : Int32} {o_seed : Int32} {o_row : (Nat → Int32)} {o_saved : (Nat → Int32)} {p1 : Int64} {r : Int32} (hf : f_X12_deedBy fu p1 = some r) : Rd l D (gy g) yX12_deedBy cX12_deedBy 3 (some .int) 0 [.ref o_q0, .long p1] (wMd g o_q0 o_q1 o_q2 o_q3 o_q4 o_q5 o_q6 o_q7 o_q8 o_q9 o_q10 o_q11 o_q12 o_q13 o_q14 o_q15 o_q16 o_q17 o_q18 o_q19 o_q20 o_q21 o_q22 o_code o_tape o_size o_fault o_faultPlace o_many o_towns o_weeks o_logs o_reached o_length o_begins o_sort o_value o_word o_wrongAt o_laterFault o_laterPlace o_told o_read o_farOne o_good o_town o_people o_when o_sat o_quiet o_vain o_lent o_forgiven o_sundays o_purse o_beside o_debts o_sitting o_visited o_week o_heaps o_taken o_best o_more o_firstOne o_log o_fitting o_found o_seed o_row o_saved) (some (.int r)) := by
  refine Rd.ofI (by decide) (Nat.le_of_ble_eq_true rfl) ?_
  intro p e s m args below meth c Q S hK hP hret ls hl
  have hl : lv_has ls 3 [(0, .ref o_q0), (1, .long p1)] := hl
  refine lv_lload_n S.1 S.2.1 dX12_deedBy_0 rfl (lv_at hl 1 rfl) ?_
  refine lv_ldc2 (v := 7563636) S.1 S.2.1 S.2.2.2.1 (S.2.2.2.2 _ q_1277) dX12_deedBy_1 ?_
  refine W.lcmp S.1 S.2.1 dX12_deedBy_4 ?_
  refine lv_if_ne (tgt := 12) S.1 S.2.1 dX12_deedBy_5 (by decide) (fun c_ => ?_) (fun c_ => ?_)
  · have hf := it_n c_ hf
    refine lv_lload_n S.1 S.2.1 dX12_deedBy_12 rfl (lv_at hl 1 rfl) ?_
    refine lv_ldc2 (v := 1818586724) S.1 S.2.1 S.2.2.2.1 (S.2.2.2.2 _ q_1278) dX12_deedBy_13 ?_
    refine W.lcmp S.1 S.2.1 dX12_deedBy_16 ?_
    refine lv_if_ne (tgt := 24) S.1 S.2.1 dX12_deedBy_17 (by decide) (fun c_ => ?_) (fun c_ => ?_)
    · have hf := it_n c_ hf
      refine lv_lload_n S.1 S.2.1 dX12_deedBy_24 rfl (lv_at hl 1 rfl) ?_
      refine lv_ldc2 (v := 7364985) S.1 S.2.1 S.2.2.2.1 (S.2.2.2.2 _ q_1279) dX12_deedBy_25 ?_
      refine W.lcmp S.1 S.2.1 dX12_deedBy_28 ?_
      refine lv_if_ne (tgt := 36) S.1 S.2.1 dX12_deedBy_29 (by decide) (fun c_ => ?_) (fun c_ => ?_)
      · have hf := it_n c_ hf
        refine lv_lload_n S.1 S.2.1 dX12_deedBy_36 rfl (lv_at hl 1 rfl) ?_
        refine lv_ldc2 (v := 28832984776406629) S.1 S.2.1 S.2.2.2.1 (S.2.2.2.2 _ q_1280) dX12_deedBy_37 ?_
        refine W.lcmp S.1 S.2.1 dX12_deedBy_40 ?_
        refine lv_if_ne (tgt := 48) S.1 S.2.1 dX12_deedBy_41 (by decide) (fun c_ => ?_) (fun c_ => ?_)
        · have hf := it_n c_ hf
          refine lv_lload_n S.1 S.2.1 dX12_deedBy_48 rfl (lv_at hl 1 rfl) ?_
          refine lv_ldc2 (v := 126896627347060) S.1 S.2.1 S.2.2.2.1 (S.2.2.2.2 _ q_1281) dX12_deedBy_49 ?_
          refine W.lcmp S.1 S.2.1 dX12_deedBy_52 ?_
          refine lv_if_ne (tgt := 60) S.1 S.2.1 dX12_deedBy_53 (by decide) (fun c_ => ?_) (fun c_ => ?_)
          · have hf := it_n c_ hf
            refine lv_lload_n S.1 S.2.1 dX12_deedBy_60 rfl (lv_at hl 1 rfl) ?_
            refine lv_ldc2 (v := 499850701683) S.1 S.2.1 S.2.2.2.1 (S.2.2.2.2 _ q_1282) dX12_deedBy_61 ?_
            refine W.lcmp S.1 S.2.1 dX12_deedBy_64 ?_
            refine lv_if_ne (tgt := 72) S.1 S.2.1 dX12_deedBy_65 (by decide) (fun c_ => ?_) (fun c_ => ?_)
            · have hf := it_n c_ hf
              refine lv_lload_n S.1 S.2.1 dX12_deedBy_72 rfl (lv_at hl 1 rfl) ?_
              refine lv_ldc2 (v := 1752135026) S.1 S.2.1 S.2.2.2.1 (S.2.2.2.2 _ q_1283) dX12_deedBy_73 ?_
              refine W.lcmp S.1 S.2.1 dX12_deedBy_76 ?_
              refine lv_if_ne (tgt := 85) S.1 S.2.1 dX12_deedBy_77 (by decide) (fun c_ => ?_) (fun c_ => ?_)
              · have hf := it_n c_ hf
                refine lv_iconst (v := (-1)) S.1 S.2.1 dX12_deedBy_85 ic_m1 ?_
                have e_ := Option.some.inj hf
                subst e_
                exact hret _ _ dX12_deedBy_86
              · have hf := it_p c_ hf
                refine lv_bipush (v := 6) S.1 S.2.1 dX12_deedBy_80 bp_6 ?_
                refine lv_goto (tgt := 86) S.1 S.2.1 dX12_deedBy_82 (by decide) ?_
                have e_ := Option.some.inj hf
                subst e_
                exact hret _ _ dX12_deedBy_86
            · have hf := it_p c_ hf
              refine lv_iconst (v := 5) S.1 S.2.1 dX12_deedBy_68 ic_5 ?_
              refine lv_goto (tgt := 86) S.1 S.2.1 dX12_deedBy_69 (by decide) ?_
              have e_ := Option.some.inj hf
              subst e_
              exact hret _ _ dX12_deedBy_86
          · have hf := it_p c_ hf
            refine lv_iconst (v := 4) S.1 S.2.1 dX12_deedBy_56 ic_4 ?_
            refine lv_goto (tgt := 86) S.1 S.2.1 dX12_deedBy_57 (by decide) ?_
            have e_ := Option.some.inj hf
            subst e_
            exact hret _ _ dX12_deedBy_86
        · have hf := it_p c_ hf
          refine lv_iconst (v := 3) S.1 S.2.1 dX12_deedBy_44 ic_3 ?_
          refine lv_goto (tgt := 86) S.1 S.2.1 dX12_deedBy_45 (by decide) ?_
          have e_ := Option.some.inj hf
          subst e_
          exact hret _ _ dX12_deedBy_86
      · have hf := it_p c_ hf
        refine lv_iconst (v := 2) S.1 S.2.1 dX12_deedBy_32 ic_2 ?_
        refine lv_goto (tgt := 86) S.1 S.2.1 dX12_deedBy_33 (by decide) ?_
        have e_ := Option.some.inj hf
        subst e_
        exact hret _ _ dX12_deedBy_86
    · have hf := it_p c_ hf
      refine lv_iconst (v := 1) S.1 S.2.1 dX12_deedBy_20 ic_1 ?_
      refine lv_goto (tgt := 86) S.1 S.2.1 dX12_deedBy_21 (by decide) ?_
      have e_ := Option.some.inj hf
      subst e_
      exact hret _ _ dX12_deedBy_86
  · have hf := it_p c_ hf
    refine lv_iconst (v := 0) S.1 S.2.1 dX12_deedBy_8 ic_0 ?_
    refine lv_goto (tgt := 86) S.1 S.2.1 dX12_deedBy_9 (by decide) ?_
    have e_ := Option.some.inj hf
    subst e_
    exact hret _ _ dX12_deedBy_86
def f_X12_weekLine (fu : Nat) (o_tape : (Nat → Int32)) (o_reached : Int32) (o_length : Int32) (o_begins : Int32) (o_sort : Int32) (o_value : Int32) (o_word : Int64) (o_wrongAt : Int32) (o_laterFault : Int32) (o_laterPlace : Int32) (o_told : (Nat → Int32)) (o_read : (Nat → Int32)) (o_good : Int32) (p1 : Int64) (p2 : Int32) : Option (Int32 × Int32 × Int32 × Int32 × Int32 × Int64 × Int32 × Int32 × Int32 × (Nat → Int32) × (Nat → Int32) × Int32) := bnd (α := Int32) (f_X12_deedBy fu p1) (fun x1 => if x1 = (-1 : Int32) then bnd (α := Int32 × Int32) (f_X12_fails fu o_begins o_wrongAt) (fun x2 => bnd (α := Int32) (bz x2.1) (fun z3 => some (z3, o_reached, o_begins, o_sort, o_value, o_word, x2.2, o_laterFault, o_laterPlace, o_told, o_read, o_good))) else bnd (α := Int32 × Int32) (f_X12_full fu o_laterFault o_laterPlace o_told (40 : Int32) p2) (fun x4 => bnd (α := Int32 × Int32 × Int32 × Int32 × Int64) (f_X12_token fu o_tape o_reached o_length o_begins o_sort o_value o_word) (fun x5 => bnd (α := (Nat → Int32)) (wri 4 o_read (1 : Int32) (-1 : Int32)) (fun x6 => bnd (α := (Nat → Int32)) (wri 4 x6 (2 : Int32) (-1 : Int32)) (fun x7 => bnd (α := (Nat → Int32)) (wri 4 x7 (3 : Int32) (-1 : Int32)) (fun x8 => bnd (α := Int32 × Int32 × Int32 × Int32 × Int32 × Int64 × Int32 × Int32 × Int32 × (Nat → Int32) × Int32) (if x1 = (6 : Int32) then some ((1 : Int32), x5.1, x5.2.1, x5.2.2.1, x5.2.2.2.1, x5.2.2.2.2, o_wrongAt, x4.1, x4.2, x8, o_good) else if (4 : Int32) ≤ x1 then bnd (α := Int32 × Int32 × Int32 × Int32 × Int32 × Int64 × Int32 × Int32 × Int32 × (Nat → Int32) × Int32) (f_X12_take fu o_tape x5.1 o_length x5.2.1 x5.2.2.1 x5.2.2.2.1 x5.2.2.2.2 o_wrongAt x4.1 x4.2 x8 o_good (1 : Int32) (0 : Int32) (5 : Int32)) (fun x18 => if x18.1 = 0 then some ((0 : Int32), x18.2.1, x18.2.2.1, x18.2.2.2.1, x18.2.2.2.2.1, x18.2.2.2.2.2.1, x18.2.2.2.2.2.2.1, x18.2.2.2.2.2.2.2.1, x18.2.2.2.2.2.2.2.2.1, x18.2.2.2.2.2.2.2.2.2.1, x18.2.2.2.2.2.2.2.2.2.2) else some ((1 : Int32), x18.2.1, x18.2.2.1, x18.2.2.2.1, x18.2.2.2.2.1, x18.2.2.2.2.2.1, x18.2.2.2.2.2.2.1, x18.2.2.2.2.2.2.2.1, x18.2.2.2.2.2.2.2.2.1, x18.2.2.2.2.2.2.2.2.2.1, x18.2.2.2.2.2.2.2.2.2.2)) else bnd (α := Int32 × Int32 × Int32 × Int32 × Int32 × Int64 × Int32 × Int32 × Int32 × (Nat → Int32) × Int32) (f_X12_takeTwo fu o_tape x5.1 o_length x5.2.1 x5.2.2.1 x5.2.2.2.1 x5.2.2.2.2 o_wrongAt x4.1 x4.2 x8 o_good (1 : Int32)) (fun x19 => if x19.1 = 0 then some ((0 : Int32), x19.2.1, x19.2.2.1, x19.2.2.2.1, x19.2.2.2.2.1, x19.2.2.2.2.2.1, x19.2.2.2.2.2.2.1, x19.2.2.2.2.2.2.2.1, x19.2.2.2.2.2.2.2.2.1, x19.2.2.2.2.2.2.2.2.2.1, x19.2.2.2.2.2.2.2.2.2.2) else some ((1 : Int32), x19.2.1, x19.2.2.1, x19.2.2.2.1, x19.2.2.2.2.1, x19.2.2.2.2.2.1, x19.2.2.2.2.2.2.1, x19.2.2.2.2.2.2.2.1, x19.2.2.2.2.2.2.2.2.1, x19.2.2.2.2.2.2.2.2.2.1, x19.2.2.2.2.2.2.2.2.2.2))) (fun v10 => if v10.1 = 0 then some ((0 : Int32), v10.2.1, v10.2.2.1, v10.2.2.2.1, v10.2.2.2.2.1, v10.2.2.2.2.2.1, v10.2.2.2.2.2.2.1, v10.2.2.2.2.2.2.2.1, v10.2.2.2.2.2.2.2.2.1, o_told, v10.2.2.2.2.2.2.2.2.2.1, v10.2.2.2.2.2.2.2.2.2.2) else bnd (α := Int32) (f_X12_in fu x1 (1 : Int32) (3 : Int32)) (fun x11 => bnd (α := (Int32 × Int32 × Int32 × Int32 × Int32 × Int64 × Int32 × Int32 × Int32 × (Nat → Int32) × (Nat → Int32) × Int32) ⊕ (Int32 × Int32 × Int32 × Int32 × Int64 × Int32 × Int32 × Int32 × (Nat → Int32) × Int32)) (if x11 = 0 then some (.inr (v10.2.1, v10.2.2.1, v10.2.2.2.1, v10.2.2.2.2.1, v10.2.2.2.2.2.1, v10.2.2.2.2.2.2.1, v10.2.2.2.2.2.2.2.1, v10.2.2.2.2.2.2.2.2.1, v10.2.2.2.2.2.2.2.2.2.1, v10.2.2.2.2.2.2.2.2.2.2)) else bnd (α := Int32 × Int32 × Int32 × Int32 × Int32 × Int64 × Int32 × Int32 × Int32 × (Nat → Int32) × Int32) (f_X12_take fu o_tape v10.2.1 o_length v10.2.2.1 v10.2.2.2.1 v10.2.2.2.2.1 v10.2.2.2.2.2.1 v10.2.2.2.2.2.2.1 v10.2.2.2.2.2.2.2.1 v10.2.2.2.2.2.2.2.2.1 v10.2.2.2.2.2.2.2.2.2.1 v10.2.2.2.2.2.2.2.2.2.2 (3 : Int32) (1 : Int32) (30 : Int32)) (fun x16 => if x16.1 = 0 then some (.inl ((0 : Int32), x16.2.1, x16.2.2.1, x16.2.2.2.1, x16.2.2.2.2.1, x16.2.2.2.2.2.1, x16.2.2.2.2.2.2.1, x16.2.2.2.2.2.2.2.1, x16.2.2.2.2.2.2.2.2.1, o_told, x16.2.2.2.2.2.2.2.2.2.1, x16.2.2.2.2.2.2.2.2.2.2)) else some (.inr (x16.2.1, x16.2.2.1, x16.2.2.2.1, x16.2.2.2.2.1, x16.2.2.2.2.2.1, x16.2.2.2.2.2.2.1, x16.2.2.2.2.2.2.2.1, x16.2.2.2.2.2.2.2.2.1, x16.2.2.2.2.2.2.2.2.2.1, x16.2.2.2.2.2.2.2.2.2.2)))) (fun x12 => cse x12 (fun y17 => some y17) (fun v13 => bnd (α := (Nat → Int32)) (wri 4 v13.2.2.2.2.2.2.2.2.1 (0 : Int32) x1) (fun x14 => bnd (α := (Nat → Int32)) (f_X12_keepRow fu o_told x14 (4 : Int32) (40 : Int32)) (fun x15 => some ((1 : Int32), v13.1, v13.2.1, v13.2.2.1, v13.2.2.2.1, v13.2.2.2.2.1, v13.2.2.2.2.2.1, v13.2.2.2.2.2.2.1, v13.2.2.2.2.2.2.2.1, x15, x14, v13.2.2.2.2.2.2.2.2.2)))))))))))))
set_option maxHeartbeats 4000000 in
set_option maxRecDepth 100000 in
theorem c_X12_weekLine {l : Launch} {D : va_G} {g : Nat → ClassId} {fu : Nat} {o_q0 o_q1 o_q2 o_q3 o_q4 o_q5 o_q6 o_q7 o_q8 o_q9 o_q10 o_q11 o_q12 o_q13 o_q14 o_q15 o_q16 o_q17 o_q18 o_q19 o_q20 o_q21 o_q22 : Nat} {o_code : Int32} {o_tape : (Nat → Int32)} {o_size : (Nat → Int32)} {o_fault : (Nat → Int32)} {o_faultPlace : (Nat → Int32)} {o_many : (Nat → Int32)} {o_towns : (Nat → Int32)} {o_weeks : (Nat → Int32)} {o_logs : (Nat → Int32)} {o_reached : Int32} {o_length : Int32} {o_begins : Int32} {o_sort : Int32} {o_value : Int32} {o_word : Int64} {o_wrongAt : Int32} {o_laterFault : Int32} {o_laterPlace : Int32} {o_told : (Nat → Int32)} {o_read : (Nat → Int32)} {o_farOne : Int32} {o_good : Int32} {o_town : Int32} {o_people : Int32} {o_when : Int32} {o_sat : Int32} {o_quiet : Int32} {o_vain : Int32} {o_lent : Int32} {o_forgiven : Int32} {o_sundays : Int32} {o_purse : (Nat → Int32)} {o_beside : (Nat → Int32)} {o_debts : (Nat → Int32)} {o_sitting : (Nat → Int32)} {o_visited : (Nat → Int32)} {o_week : Int32} {o_heaps : (Nat → Int32)} {o_taken : (Nat → Int32)} {o_best : (Nat → Int32)} {o_more : (Nat → Int32)} {o_firstOne : Int32} {o_log : Int32} {o_fitting : (Nat → Int32)} {o_found : Int32} {o_seed : Int32} {o_row : (Nat → Int32)} {o_saved : (Nat → Int32)} {p1 : Int64} {p2 : Int32} {r : Int32 × Int32 × Int32 × Int32 × Int32 × Int64 × Int32 × Int32 × Int32 × (Nat → Int32) × (Nat → Int32) × Int32} (hf : f_X12_weekLine fu o_tape o_reached o_length o_begins o_sort o_value o_word o_wrongAt o_laterFault o_laterPlace o_told o_read o_good p1 p2 = some r) : Wr l D (gy g) yX12_weekLine cX12_weekLine 6 (some .boolean) 5 [.ref o_q0, .long p1, .int p2] (wMd g o_q0 o_q1 o_q2 o_q3 o_q4 o_q5 o_q6 o_q7 o_q8 o_q9 o_q10 o_q11 o_q12 o_q13 o_q14 o_q15 o_q16 o_q17 o_q18 o_q19 o_q20 o_q21 o_q22 o_code o_tape o_size o_fault o_faultPlace o_many o_towns o_weeks o_logs o_reached o_length o_begins o_sort o_value o_word o_wrongAt o_laterFault o_laterPlace o_told o_read o_farOne o_good o_town o_people o_when o_sat o_quiet o_vain o_lent o_forgiven o_sundays o_purse o_beside o_debts o_sitting o_visited o_week o_heaps o_taken o_best o_more o_firstOne o_log o_fitting o_found o_seed o_row o_saved) (wMd g o_q0 o_q1 o_q2 o_q3 o_q4 o_q5 o_q6 o_q7 o_q8 o_q9 o_q10 o_q11 o_q12 o_q13 o_q14 o_q15 o_q16 o_q17 o_q18 o_q19 o_q20 o_q21 o_q22 o_code o_tape o_size o_fault o_faultPlace o_many o_towns o_weeks o_logs r.2.1 o_length r.2.2.1 r.2.2.2.1 r.2.2.2.2.1 r.2.2.2.2.2.1 r.2.2.2.2.2.2.1 r.2.2.2.2.2.2.2.1 r.2.2.2.2.2.2.2.2.1 r.2.2.2.2.2.2.2.2.2.1 r.2.2.2.2.2.2.2.2.2.2.1 o_farOne r.2.2.2.2.2.2.2.2.2.2.2 o_town o_people o_when o_sat o_quiet o_vain o_lent o_forgiven o_sundays o_purse o_beside o_debts o_sitting o_visited o_week o_heaps o_taken o_best o_more o_firstOne o_log o_fitting o_found o_seed o_row o_saved) (some (.int r.1)) := by
  refine Wr.ofZ (by decide) (Nat.le_of_ble_eq_true rfl) ?_
  intro p e s m args below meth c Q A S hK hA hret ls hl hW
  have hl : lv_has ls 6 [(0, .ref o_q0), (1, .long p1), (3, .int p2)] := hl
  refine lv_aload_n S.1 S.2.1 dX12_weekLine_0 rfl (lv_at hl 0 rfl) ?_
  refine lv_lload_n S.1 S.2.1 dX12_weekLine_1 rfl (lv_at hl 1 rfl) ?_
  obtain ⟨x1, hx1, hf⟩ := bnd_e hf
  refine Rd.cV (c_X12_deedBy hx1) S hK hW.1 0 10 rfl rfl kVX12_189 rfl hl.1 [] rfl (Nat.le_of_ble_eq_true rfl) ⟨(Nat.le_of_ble_eq_true rfl), (Nat.le_of_ble_eq_true rfl)⟩ ⟨(Nat.zero_le _), (Nat.zero_le _)⟩ dX12_weekLine_2 ?_
  refine lv_istore (lv' := [(4, .int x1), (0, .ref o_q0), (1, .long p1), (3, .int p2)]) S.1 S.2.1 dX12_weekLine_5 hl (by decide) rfl (fun ls hl => ?_)
  refine lv_iload S.1 S.2.1 dX12_weekLine_7 (lv_at hl 0 rfl) ?_
  refine lv_iconst (v := (-1)) S.1 S.2.1 dX12_weekLine_9 ic_m1 ?_
  refine lv_icmp_ne (tgt := 18) S.1 S.2.1 dX12_weekLine_10 (by decide) (fun c_ => ?_) (fun c_ => ?_)
  · have hf := it_n c_ hf
    refine lv_aload_n S.1 S.2.1 dX12_weekLine_18 rfl (lv_at hl 1 rfl) ?_
    refine lv_bipush (v := 40) S.1 S.2.1 dX12_weekLine_19 bp_40 ?_
    refine lv_iload_n S.1 S.2.1 dX12_weekLine_21 rfl (lv_at hl 3 rfl) ?_
    obtain ⟨x4, hx4, hf⟩ := bnd_e hf
    refine Wr.goW (Wr.runV (c_X12_full hx4) S hK hW.1 hW.2.1 0 10 rfl rfl kVX12_152 rfl hl.1 [] rfl (Nat.le_of_ble_eq_true rfl) ⟨(Nat.le_of_ble_eq_true rfl), (Nat.le_of_ble_eq_true rfl)⟩ ⟨(Nat.zero_le _), (Nat.zero_le _)⟩ dX12_weekLine_22) hW hA (fun H locs hW => ?_)
    refine lv_aload_n S.1 S.2.1 dX12_weekLine_25 rfl (lv_at hl 1 rfl) ?_
    obtain ⟨x5, hx5, hf⟩ := bnd_e hf
    refine Wr.goW (Wr.runV (c_X12_token hx5) S hK hW.1 hW.2.1 0 10 rfl rfl kVX12_142 rfl hl.1 [] rfl (Nat.le_of_ble_eq_true rfl) ⟨(Nat.le_of_ble_eq_true rfl), (Nat.le_of_ble_eq_true rfl)⟩ ⟨(Nat.zero_le _), (Nat.zero_le _)⟩ dX12_weekLine_26) hW hA (fun H locs hW => ?_)
    refine lv_aload_n S.1 S.2.1 dX12_weekLine_29 rfl (lv_at hl 1 rfl) ?_
    refine gfX12_38 S hK hW.1 0 rfl rfl dX12_weekLine_30 ?_
    refine lv_iconst (v := 1) S.1 S.2.1 dX12_weekLine_33 ic_1 ?_
    refine lv_iconst (v := (-1)) S.1 S.2.1 dX12_weekLine_34 ic_m1 ?_
    obtain ⟨x6, hx6, hf⟩ := bnd_e hf
    refine q_iast (ws2 := (wMd g o_q0 o_q1 o_q2 o_q3 o_q4 o_q5 o_q6 o_q7 o_q8 o_q9 o_q10 o_q11 o_q12 o_q13 o_q14 o_q15 o_q16 o_q17 o_q18 o_q19 o_q20 o_q21 o_q22 o_code o_tape o_size o_fault o_faultPlace o_many o_towns o_weeks o_logs x5.1 o_length x5.2.1 x5.2.2.1 x5.2.2.2.1 x5.2.2.2.2 o_wrongAt x4.1 x4.2 o_told x6 o_farOne o_good o_town o_people o_when o_sat o_quiet o_vain o_lent o_forgiven o_sundays o_purse o_beside o_debts o_sitting o_visited o_week o_heaps o_taken o_best o_more o_firstOne o_log o_fitting o_found o_seed o_row o_saved)) S hK hW 10 0 rfl rfl hx6 rfl dX12_weekLine_35 (fun H locs hW => ?_)
    refine lv_aload_n S.1 S.2.1 dX12_weekLine_36 rfl (lv_at hl 1 rfl) ?_
    refine gfX12_38 S hK hW.1 0 rfl rfl dX12_weekLine_37 ?_
    refine lv_iconst (v := 2) S.1 S.2.1 dX12_weekLine_40 ic_2 ?_
    refine lv_iconst (v := (-1)) S.1 S.2.1 dX12_weekLine_41 ic_m1 ?_
    obtain ⟨x7, hx7, hf⟩ := bnd_e hf
    refine q_iast (ws2 := (wMd g o_q0 o_q1 o_q2 o_q3 o_q4 o_q5 o_q6 o_q7 o_q8 o_q9 o_q10 o_q11 o_q12 o_q13 o_q14 o_q15 o_q16 o_q17 o_q18 o_q19 o_q20 o_q21 o_q22 o_code o_tape o_size o_fault o_faultPlace o_many o_towns o_weeks o_logs x5.1 o_length x5.2.1 x5.2.2.1 x5.2.2.2.1 x5.2.2.2.2 o_wrongAt x4.1 x4.2 o_told x7 o_farOne o_good o_town o_people o_when o_sat o_quiet o_vain o_lent o_forgiven o_sundays o_purse o_beside o_debts o_sitting o_visited o_week o_heaps o_taken o_best o_more o_firstOne o_log o_fitting o_found o_seed o_row o_saved)) S hK hW 10 0 rfl rfl hx7 rfl dX12_weekLine_42 (fun H locs hW => ?_)
    refine lv_aload_n S.1 S.2.1 dX12_weekLine_43 rfl (lv_at hl 1 rfl) ?_
    refine gfX12_38 S hK hW.1 0 rfl rfl dX12_weekLine_44 ?_
    refine lv_iconst (v := 3) S.1 S.2.1 dX12_weekLine_47 ic_3 ?_
    refine lv_iconst (v := (-1)) S.1 S.2.1 dX12_weekLine_48 ic_m1 ?_
    obtain ⟨x8, hx8, hf⟩ := bnd_e hf
    refine q_iast (ws2 := (wMd g o_q0 o_q1 o_q2 o_q3 o_q4 o_q5 o_q6 o_q7 o_q8 o_q9 o_q10 o_q11 o_q12 o_q13 o_q14 o_q15 o_q16 o_q17 o_q18 o_q19 o_q20 o_q21 o_q22 o_code o_tape o_size o_fault o_faultPlace o_many o_towns o_weeks o_logs x5.1 o_length x5.2.1 x5.2.2.1 x5.2.2.2.1 x5.2.2.2.2 o_wrongAt x4.1 x4.2 o_told x8 o_farOne o_good o_town o_people o_when o_sat o_quiet o_vain o_lent o_forgiven o_sundays o_purse o_beside o_debts o_sitting o_visited o_week o_heaps o_taken o_best o_more o_firstOne o_log o_fitting o_found o_seed o_row o_saved)) S hK hW 10 0 rfl rfl hx8 rfl dX12_weekLine_49 (fun H locs hW => ?_)
    refine lv_iload S.1 S.2.1 dX12_weekLine_50 (lv_at hl 0 rfl) ?_
    refine lv_bipush (v := 6) S.1 S.2.1 dX12_weekLine_52 bp_6 ?_
    obtain ⟨x9, hf_, hk9⟩ := bnd_e hf
    have hJ9 : ∀ (v10 : Int32 × Int32 × Int32 × Int32 × Int32 × Int64 × Int32 × Int32 × Int32 × (Nat → Int32) × Int32), v10 = x9 → ∀ (ls : Array Slot) (H : Heap) (locs : List Loc), lv_has ls 6 [(0, .ref o_q0), (4, .int x1)] → St A s.heap D (wMd g o_q0 o_q1 o_q2 o_q3 o_q4 o_q5 o_q6 o_q7 o_q8 o_q9 o_q10 o_q11 o_q12 o_q13 o_q14 o_q15 o_q16 o_q17 o_q18 o_q19 o_q20 o_q21 o_q22 o_code o_tape o_size o_fault o_faultPlace o_many o_towns o_weeks o_logs v10.2.1 o_length v10.2.2.1 v10.2.2.2.1 v10.2.2.2.2.1 v10.2.2.2.2.2.1 v10.2.2.2.2.2.2.1 v10.2.2.2.2.2.2.2.1 v10.2.2.2.2.2.2.2.2.1 o_told v10.2.2.2.2.2.2.2.2.2.1 o_farOne v10.2.2.2.2.2.2.2.2.2.2 o_town o_people o_when o_sat o_quiet o_vain o_lent o_forgiven o_sundays o_purse o_beside o_debts o_sitting o_visited o_week o_heaps o_taken o_best o_more o_firstOne o_log o_fitting o_found o_seed o_row o_saved) H locs → W p l e (rmD 5) s m args below meth c H locs 0 0 Q (F0 m 89 ls [.int v10.1]) := by
      intro v10 e_ ls H locs hl hW
      subst e_
      have hf := hk9
      refine lv_istore (lv' := [(5, .int v10.1), (0, .ref o_q0), (4, .int x1)]) S.1 S.2.1 dX12_weekLine_89 hl (by decide) rfl (fun ls hl => ?_)
      refine lv_iload S.1 S.2.1 dX12_weekLine_91 (lv_at hl 0 rfl) ?_
      refine lv_if_eq (tgt := 117) S.1 S.2.1 dX12_weekLine_93 (by decide) (fun c_ => ?_) (fun c_ => ?_)
      · have hf := it_p c_ hf
        refine lv_iconst (v := 0) S.1 S.2.1 dX12_weekLine_117 ic_0 ?_
        have e_ := Option.some.inj hf
        subst e_
        exact hret _ _ _ _ (Or.inl rfl) dX12_weekLine_118 hW
      · have hf := it_n c_ hf
        refine lv_iload S.1 S.2.1 dX12_weekLine_96 (lv_at hl 2 rfl) ?_
        refine lv_iconst (v := 1) S.1 S.2.1 dX12_weekLine_98 ic_1 ?_
        refine lv_iconst (v := 3) S.1 S.2.1 dX12_weekLine_99 ic_3 ?_
        obtain ⟨x11, hx11, hf⟩ := bnd_e hf
        refine Rd.cS (c_X12_in hx11) S hK va_P.nil kSX12_90 rfl hl.1 [] rfl (Nat.le_of_ble_eq_true rfl) ⟨(Nat.le_of_ble_eq_true rfl), (Nat.le_of_ble_eq_true rfl)⟩ ⟨(Nat.zero_le _), (Nat.zero_le _)⟩ dX12_weekLine_100 ?_
        obtain ⟨x12, hf_, hk12⟩ := bnd_e hf
        have hJ12 : ∀ (v13 : Int32 × Int32 × Int32 × Int32 × Int64 × Int32 × Int32 × Int32 × (Nat → Int32) × Int32), x12 = .inr v13 → ∀ (ls : Array Slot) (H : Heap) (locs : List Loc), lv_has ls 6 [(0, .ref o_q0), (4, .int x1)] → St A s.heap D (wMd g o_q0 o_q1 o_q2 o_q3 o_q4 o_q5 o_q6 o_q7 o_q8 o_q9 o_q10 o_q11 o_q12 o_q13 o_q14 o_q15 o_q16 o_q17 o_q18 o_q19 o_q20 o_q21 o_q22 o_code o_tape o_size o_fault o_faultPlace o_many o_towns o_weeks o_logs v13.1 o_length v13.2.1 v13.2.2.1 v13.2.2.2.1 v13.2.2.2.2.1 v13.2.2.2.2.2.1 v13.2.2.2.2.2.2.1 v13.2.2.2.2.2.2.2.1 o_told v13.2.2.2.2.2.2.2.2.1 o_farOne v13.2.2.2.2.2.2.2.2.2 o_town o_people o_when o_sat o_quiet o_vain o_lent o_forgiven o_sundays o_purse o_beside o_debts o_sitting o_visited o_week o_heaps o_taken o_best o_more o_firstOne o_log o_fitting o_found o_seed o_row o_saved) H locs → W p l e (rmD 5) s m args below meth c H locs 0 0 Q (F0 m 119 ls []) := by
          intro v13 e_ ls H locs hl hW
          subst e_
          have hf := cse_r hk12
          refine lv_aload_n S.1 S.2.1 dX12_weekLine_119 rfl (lv_at hl 0 rfl) ?_
          refine gfX12_38 S hK hW.1 0 rfl rfl dX12_weekLine_120 ?_
          refine lv_iconst (v := 0) S.1 S.2.1 dX12_weekLine_123 ic_0 ?_
          refine lv_iload S.1 S.2.1 dX12_weekLine_124 (lv_at hl 1 rfl) ?_
          obtain ⟨x14, hx14, hf⟩ := bnd_e hf
          refine q_iast (ws2 := (wMd g o_q0 o_q1 o_q2 o_q3 o_q4 o_q5 o_q6 o_q7 o_q8 o_q9 o_q10 o_q11 o_q12 o_q13 o_q14 o_q15 o_q16 o_q17 o_q18 o_q19 o_q20 o_q21 o_q22 o_code o_tape o_size o_fault o_faultPlace o_many o_towns o_weeks o_logs v13.1 o_length v13.2.1 v13.2.2.1 v13.2.2.2.1 v13.2.2.2.2.1 v13.2.2.2.2.2.1 v13.2.2.2.2.2.2.1 v13.2.2.2.2.2.2.2.1 o_told x14 o_farOne v13.2.2.2.2.2.2.2.2.2 o_town o_people o_when o_sat o_quiet o_vain o_lent o_forgiven o_sundays o_purse o_beside o_debts o_sitting o_visited o_week o_heaps o_taken o_best o_more o_firstOne o_log o_fitting o_found o_seed o_row o_saved)) S hK hW 10 0 rfl rfl hx14 rfl dX12_weekLine_126 (fun H locs hW => ?_)
          refine lv_aload_n S.1 S.2.1 dX12_weekLine_127 rfl (lv_at hl 0 rfl) ?_
          refine lv_iconst (v := 4) S.1 S.2.1 dX12_weekLine_128 ic_4 ?_
          refine lv_bipush (v := 40) S.1 S.2.1 dX12_weekLine_129 bp_40 ?_
          obtain ⟨x15, hx15, hf⟩ := bnd_e hf
          refine Wr.goW (Wr.runV (c_X12_keepRow hx15) S hK hW.1 hW.2.1 0 10 rfl rfl kVX12_193 rfl hl.1 [] rfl (Nat.le_of_ble_eq_true rfl) ⟨(Nat.le_of_ble_eq_true rfl), (Nat.le_of_ble_eq_true rfl)⟩ ⟨(Nat.zero_le _), (Nat.zero_le _)⟩ dX12_weekLine_131) hW hA (fun H locs hW => ?_)
          refine lv_iconst (v := 1) S.1 S.2.1 dX12_weekLine_134 ic_1 ?_
          have e_ := Option.some.inj hf
          subst e_
          exact hret _ _ _ _ (Or.inr rfl) dX12_weekLine_135 hW
        have hf := hf_
        refine lv_if_eq (tgt := 119) S.1 S.2.1 dX12_weekLine_103 (by decide) (fun c_ => ?_) (fun c_ => ?_)
        · have hf := it_p c_ hf
          exact hJ12 _ (Option.some.inj hf).symm _ _ _ (lv_sub hl [1, 2] rfl) hW
        · have hf := it_n c_ hf
          refine lv_aload_n S.1 S.2.1 dX12_weekLine_106 rfl (lv_at hl 1 rfl) ?_
          refine lv_iconst (v := 3) S.1 S.2.1 dX12_weekLine_107 ic_3 ?_
          refine lv_iconst (v := 1) S.1 S.2.1 dX12_weekLine_108 ic_1 ?_
          refine lv_bipush (v := 30) S.1 S.2.1 dX12_weekLine_109 bp_30 ?_
          obtain ⟨x16, hx16, hf⟩ := bnd_e hf
          refine Wr.goW (Wr.runV (c_X12_take hx16) S hK hW.1 hW.2.1 0 10 rfl rfl kVX12_149 rfl hl.1 [] rfl (Nat.le_of_ble_eq_true rfl) ⟨(Nat.le_of_ble_eq_true rfl), (Nat.le_of_ble_eq_true rfl)⟩ ⟨(Nat.zero_le _), (Nat.zero_le _)⟩ dX12_weekLine_111) hW hA (fun H locs hW => ?_)
          refine lv_if_ne (tgt := 119) S.1 S.2.1 dX12_weekLine_114 (by decide) (fun c_ => ?_) (fun c_ => ?_)
          · have hf := it_n c_ hf
            exact hJ12 _ (Option.some.inj hf).symm _ _ _ (lv_sub hl [1, 2] rfl) hW
          · have hf := it_p c_ hf
            refine lv_iconst (v := 0) S.1 S.2.1 dX12_weekLine_117 ic_0 ?_
            have e_ := Option.some.inj hf
            subst e_
            have hf := cse_l hk12
            have e_ := Option.some.inj hf
            subst e_
            exact hret _ _ _ _ (Or.inl rfl) dX12_weekLine_118 hW
    have hf := hf_
    refine lv_icmp_eq (tgt := 84) S.1 S.2.1 dX12_weekLine_54 (by decide) (fun c_ => ?_) (fun c_ => ?_)
    · have hf := it_p c_ hf
      refine lv_iconst (v := 1) S.1 S.2.1 dX12_weekLine_84 ic_1 ?_
      refine lv_goto (tgt := 89) S.1 S.2.1 dX12_weekLine_85 (by decide) ?_
      exact hJ9 _ (Option.some.inj hf) _ _ _ (lv_sub hl [1, 0] rfl) hW
    · have hf := it_n c_ hf
      refine lv_iload S.1 S.2.1 dX12_weekLine_57 (lv_at hl 0 rfl) ?_
      refine lv_iconst (v := 4) S.1 S.2.1 dX12_weekLine_59 ic_4 ?_
      refine lv_icmp_ge (tgt := 74) S.1 S.2.1 dX12_weekLine_60 (by decide) (fun c_ => ?_) (fun c_ => ?_)
      · have hf := it_p c_ hf
        refine lv_aload_n S.1 S.2.1 dX12_weekLine_74 rfl (lv_at hl 1 rfl) ?_
        refine lv_iconst (v := 1) S.1 S.2.1 dX12_weekLine_75 ic_1 ?_
        refine lv_iconst (v := 0) S.1 S.2.1 dX12_weekLine_76 ic_0 ?_
        refine lv_iconst (v := 5) S.1 S.2.1 dX12_weekLine_77 ic_5 ?_
        obtain ⟨x18, hx18, hf⟩ := bnd_e hf
        refine Wr.goW (Wr.runV (c_X12_take hx18) S hK hW.1 hW.2.1 0 10 rfl rfl kVX12_149 rfl hl.1 [] rfl (Nat.le_of_ble_eq_true rfl) ⟨(Nat.le_of_ble_eq_true rfl), (Nat.le_of_ble_eq_true rfl)⟩ ⟨(Nat.zero_le _), (Nat.zero_le _)⟩ dX12_weekLine_78) hW hA (fun H locs hW => ?_)
        refine lv_if_eq (tgt := 88) S.1 S.2.1 dX12_weekLine_81 (by decide) (fun c_ => ?_) (fun c_ => ?_)
        · have hf := it_p c_ hf
          refine lv_iconst (v := 0) S.1 S.2.1 dX12_weekLine_88 ic_0 ?_
          exact hJ9 _ (Option.some.inj hf) _ _ _ (lv_sub hl [1, 0] rfl) hW
        · have hf := it_n c_ hf
          refine lv_iconst (v := 1) S.1 S.2.1 dX12_weekLine_84 ic_1 ?_
          refine lv_goto (tgt := 89) S.1 S.2.1 dX12_weekLine_85 (by decide) ?_
          exact hJ9 _ (Option.some.inj hf) _ _ _ (lv_sub hl [1, 0] rfl) hW
      · have hf := it_n c_ hf
        refine lv_aload_n S.1 S.2.1 dX12_weekLine_63 rfl (lv_at hl 1 rfl) ?_
        refine lv_iconst (v := 1) S.1 S.2.1 dX12_weekLine_64 ic_1 ?_
        obtain ⟨x19, hx19, hf⟩ := bnd_e hf
        refine Wr.goW (Wr.runV (c_X12_takeTwo hx19) S hK hW.1 hW.2.1 0 10 rfl rfl kVX12_165 rfl hl.1 [] rfl (Nat.le_of_ble_eq_true rfl) ⟨(Nat.le_of_ble_eq_true rfl), (Nat.le_of_ble_eq_true rfl)⟩ ⟨(Nat.zero_le _), (Nat.zero_le _)⟩ dX12_weekLine_65) hW hA (fun H locs hW => ?_)
        refine lv_if_eq (tgt := 88) S.1 S.2.1 dX12_weekLine_68 (by decide) (fun c_ => ?_) (fun c_ => ?_)
        · have hf := it_p c_ hf
          refine lv_iconst (v := 0) S.1 S.2.1 dX12_weekLine_88 ic_0 ?_
          exact hJ9 _ (Option.some.inj hf) _ _ _ (lv_sub hl [1, 0] rfl) hW
        · have hf := it_n c_ hf
          refine lv_goto (tgt := 84) S.1 S.2.1 dX12_weekLine_71 (by decide) ?_
          refine lv_iconst (v := 1) S.1 S.2.1 dX12_weekLine_84 ic_1 ?_
          refine lv_goto (tgt := 89) S.1 S.2.1 dX12_weekLine_85 (by decide) ?_
          exact hJ9 _ (Option.some.inj hf) _ _ _ (lv_sub hl [1, 0] rfl) hW
  · have hf := it_p c_ hf
    refine lv_aload_n S.1 S.2.1 dX12_weekLine_13 rfl (lv_at hl 1 rfl) ?_
    obtain ⟨x2, hx2, hf⟩ := bnd_e hf
    refine Wr.goW (Wr.runV (c_X12_fails hx2) S hK hW.1 hW.2.1 0 10 rfl rfl kVX12_130 rfl hl.1 [] rfl (Nat.le_of_ble_eq_true rfl) ⟨(Nat.le_of_ble_eq_true rfl), (Nat.le_of_ble_eq_true rfl)⟩ ⟨(Nat.zero_le _), (Nat.zero_le _)⟩ dX12_weekLine_14) hW hA (fun H locs hW => ?_)
    obtain ⟨z3, hz3, hf⟩ := bnd_e hf
    obtain ⟨hzz3, ezz3⟩ := bz_e hz3
    rw [ezz3]
    have e_ := Option.some.inj hf
    subst e_
    exact hret _ _ _ _ hzz3 dX12_weekLine_17 hW
def f_X12_logLine (fu : Nat) (o_tape : (Nat → Int32)) (o_reached : Int32) (o_length : Int32) (o_begins : Int32) (o_sort : Int32) (o_value : Int32) (o_word : Int64) (o_wrongAt : Int32) (o_laterFault : Int32) (o_laterPlace : Int32) (o_told : (Nat → Int32)) (o_read : (Nat → Int32)) (o_good : Int32) (p1 : Int64) (p2 : Int32) : Option (Int32 × Int32 × Int32 × Int32 × Int32 × Int64 × Int32 × Int32 × Int32 × (Nat → Int32) × (Nat → Int32) × Int32) := bnd (α := (Int32 × Int32 × Int32 × Int32 × Int32 × Int64 × Int32 × Int32 × Int32 × (Nat → Int32) × (Nat → Int32) × Int32) ⊕ (Int32)) (if (lg_cmp p1 (8390038316256879986 : Int64)) = 0 then some (.inr o_wrongAt) else if (lg_cmp p1 (418497262196 : Int64)) = 0 then some (.inr o_wrongAt) else bnd (α := Int32 × Int32) (f_X12_fails fu o_begins o_wrongAt) (fun x10 => bnd (α := Int32) (bz x10.1) (fun z11 => some (.inl (z11, o_reached, o_begins, o_sort, o_value, o_word, x10.2, o_laterFault, o_laterPlace, o_told, o_read, o_good))))) (fun x1 => cse x1 (fun y12 => some y12) (fun v2 => bnd (α := Int32 × Int32) (f_X12_full fu o_laterFault o_laterPlace o_told (8 : Int32) p2) (fun x3 => bnd (α := Int32 × Int32 × Int32 × Int32 × Int64) (f_X12_token fu o_tape o_reached o_length o_begins o_sort o_value o_word) (fun x4 => bnd (α := Int32 × Int32 × Int32 × Int32 × Int32 × Int64 × Int32 × Int32 × Int32 × (Nat → Int32) × Int32) (f_X12_takeTwo fu o_tape x4.1 o_length x4.2.1 x4.2.2.1 x4.2.2.2.1 x4.2.2.2.2 v2 x3.1 x3.2 o_read o_good (1 : Int32)) (fun x5 => if x5.1 = 0 then some ((0 : Int32), x5.2.1, x5.2.2.1, x5.2.2.2.1, x5.2.2.2.2.1, x5.2.2.2.2.2.1, x5.2.2.2.2.2.2.1, x5.2.2.2.2.2.2.2.1, x5.2.2.2.2.2.2.2.2.1, o_told, x5.2.2.2.2.2.2.2.2.2.1, x5.2.2.2.2.2.2.2.2.2.2) else if (lg_cmp p1 (8390038316256879986 : Int64)) = 0 then bnd (α := (Nat → Int32)) (wri 4 x5.2.2.2.2.2.2.2.2.2.1 (0 : Int32) (0 : Int32)) (fun x6 => bnd (α := (Nat → Int32)) (f_X12_keepRow fu o_told x6 (3 : Int32) (8 : Int32)) (fun x7 => some ((1 : Int32), x5.2.1, x5.2.2.1, x5.2.2.2.1, x5.2.2.2.2.1, x5.2.2.2.2.2.1, x5.2.2.2.2.2.2.1, x5.2.2.2.2.2.2.2.1, x5.2.2.2.2.2.2.2.2.1, x7, x6, x5.2.2.2.2.2.2.2.2.2.2))) else bnd (α := (Nat → Int32)) (wri 4 x5.2.2.2.2.2.2.2.2.2.1 (0 : Int32) (1 : Int32)) (fun x8 => bnd (α := (Nat → Int32)) (f_X12_keepRow fu o_told x8 (3 : Int32) (8 : Int32)) (fun x9 => some ((1 : Int32), x5.2.1, x5.2.2.1, x5.2.2.2.1, x5.2.2.2.2.1, x5.2.2.2.2.2.1, x5.2.2.2.2.2.2.1, x5.2.2.2.2.2.2.2.1, x5.2.2.2.2.2.2.2.2.1, x9, x8, x5.2.2.2.2.2.2.2.2.2.2))))))))
set_option maxHeartbeats 4000000 in
set_option maxRecDepth 100000 in
theorem c_X12_logLine {l : Launch} {D : va_G} {g : Nat → ClassId} {fu : Nat} {o_q0 o_q1 o_q2 o_q3 o_q4 o_q5 o_q6 o_q7 o_q8 o_q9 o_q10 o_q11 o_q12 o_q13 o_q14 o_q15 o_q16 o_q17 o_q18 o_q19 o_q20 o_q21 o_q22 : Nat} {o_code : Int32} {o_tape : (Nat → Int32)} {o_size : (Nat → Int32)} {o_fault : (Nat → Int32)} {o_faultPlace : (Nat → Int32)} {o_many : (Nat → Int32)} {o_towns : (Nat → Int32)} {o_weeks : (Nat → Int32)} {o_logs : (Nat → Int32)} {o_reached : Int32} {o_length : Int32} {o_begins : Int32} {o_sort : Int32} {o_value : Int32} {o_word : Int64} {o_wrongAt : Int32} {o_laterFault : Int32} {o_laterPlace : Int32} {o_told : (Nat → Int32)} {o_read : (Nat → Int32)} {o_farOne : Int32} {o_good : Int32} {o_town : Int32} {o_people : Int32} {o_when : Int32} {o_sat : Int32} {o_quiet : Int32} {o_vain : Int32} {o_lent : Int32} {o_forgiven : Int32} {o_sundays : Int32} {o_purse : (Nat → Int32)} {o_beside : (Nat → Int32)} {o_debts : (Nat → Int32)} {o_sitting : (Nat → Int32)} {o_visited : (Nat → Int32)} {o_week : Int32} {o_heaps : (Nat → Int32)} {o_taken : (Nat → Int32)} {o_best : (Nat → Int32)} {o_more : (Nat → Int32)} {o_firstOne : Int32} {o_log : Int32} {o_fitting : (Nat → Int32)} {o_found : Int32} {o_seed : Int32} {o_row : (Nat → Int32)} {o_saved : (Nat → Int32)} {p1 : Int64} {p2 : Int32} {r : Int32 × Int32 × Int32 × Int32 × Int32 × Int64 × Int32 × Int32 × Int32 × (Nat → Int32) × (Nat → Int32) × Int32} (hf : f_X12_logLine fu o_tape o_reached o_length o_begins o_sort o_value o_word o_wrongAt o_laterFault o_laterPlace o_told o_read o_good p1 p2 = some r) : Wr l D (gy g) yX12_logLine cX12_logLine 4 (some .boolean) 5 [.ref o_q0, .long p1, .int p2] (wMd g o_q0 o_q1 o_q2 o_q3 o_q4 o_q5 o_q6 o_q7 o_q8 o_q9 o_q10 o_q11 o_q12 o_q13 o_q14 o_q15 o_q16 o_q17 o_q18 o_q19 o_q20 o_q21 o_q22 o_code o_tape o_size o_fault o_faultPlace o_many o_towns o_weeks o_logs o_reached o_length o_begins o_sort o_value o_word o_wrongAt o_laterFault o_laterPlace o_told o_read o_farOne o_good o_town o_people o_when o_sat o_quiet o_vain o_lent o_forgiven o_sundays o_purse o_beside o_debts o_sitting o_visited o_week o_heaps o_taken o_best o_more o_firstOne o_log o_fitting o_found o_seed o_row o_saved) (wMd g o_q0 o_q1 o_q2 o_q3 o_q4 o_q5 o_q6 o_q7 o_q8 o_q9 o_q10 o_q11 o_q12 o_q13 o_q14 o_q15 o_q16 o_q17 o_q18 o_q19 o_q20 o_q21 o_q22 o_code o_tape o_size o_fault o_faultPlace o_many o_towns o_weeks o_logs r.2.1 o_length r.2.2.1 r.2.2.2.1 r.2.2.2.2.1 r.2.2.2.2.2.1 r.2.2.2.2.2.2.1 r.2.2.2.2.2.2.2.1 r.2.2.2.2.2.2.2.2.1 r.2.2.2.2.2.2.2.2.2.1 r.2.2.2.2.2.2.2.2.2.2.1 o_farOne r.2.2.2.2.2.2.2.2.2.2.2 o_town o_people o_when o_sat o_quiet o_vain o_lent o_forgiven o_sundays o_purse o_beside o_debts o_sitting o_visited o_week o_heaps o_taken o_best o_more o_firstOne o_log o_fitting o_found o_seed o_row o_saved) (some (.int r.1)) := by
  refine Wr.ofZ (by decide) (Nat.le_of_ble_eq_true rfl) ?_
  intro p e s m args below meth c Q A S hK hA hret ls hl hW
  have hl : lv_has ls 4 [(0, .ref o_q0), (1, .long p1), (3, .int p2)] := hl
  refine lv_lload_n S.1 S.2.1 dX12_logLine_0 rfl (lv_at hl 1 rfl) ?_
  refine lv_ldc2 (v := 8390038316256879986) S.1 S.2.1 S.2.2.2.1 (S.2.2.2.2 _ q_1292) dX12_logLine_1 ?_
  refine W.lcmp S.1 S.2.1 dX12_logLine_4 ?_
  obtain ⟨x1, hf_, hk1⟩ := bnd_e hf
  have hJ1 : ∀ (v2 : Int32), x1 = .inr v2 → ∀ (ls : Array Slot) (H : Heap) (locs : List Loc), lv_has ls 4 [(0, .ref o_q0), (1, .long p1), (3, .int p2)] → St A s.heap D (wMd g o_q0 o_q1 o_q2 o_q3 o_q4 o_q5 o_q6 o_q7 o_q8 o_q9 o_q10 o_q11 o_q12 o_q13 o_q14 o_q15 o_q16 o_q17 o_q18 o_q19 o_q20 o_q21 o_q22 o_code o_tape o_size o_fault o_faultPlace o_many o_towns o_weeks o_logs o_reached o_length o_begins o_sort o_value o_word v2 o_laterFault o_laterPlace o_told o_read o_farOne o_good o_town o_people o_when o_sat o_quiet o_vain o_lent o_forgiven o_sundays o_purse o_beside o_debts o_sitting o_visited o_week o_heaps o_taken o_best o_more o_firstOne o_log o_fitting o_found o_seed o_row o_saved) H locs → W p l e (rmD 5) s m args below meth c H locs 0 0 Q (F0 m 21 ls []) := by
    intro v2 e_ ls H locs hl hW
    subst e_
    have hf := cse_r hk1
    refine lv_aload_n S.1 S.2.1 dX12_logLine_21 rfl (lv_at hl 0 rfl) ?_
    refine lv_bipush (v := 8) S.1 S.2.1 dX12_logLine_22 bp_8 ?_
    refine lv_iload_n S.1 S.2.1 dX12_logLine_24 rfl (lv_at hl 2 rfl) ?_
    obtain ⟨x3, hx3, hf⟩ := bnd_e hf
    refine Wr.goW (Wr.runV (c_X12_full hx3) S hK hW.1 hW.2.1 0 10 rfl rfl kVX12_152 rfl hl.1 [] rfl (Nat.le_of_ble_eq_true rfl) ⟨(Nat.le_of_ble_eq_true rfl), (Nat.le_of_ble_eq_true rfl)⟩ ⟨(Nat.zero_le _), (Nat.zero_le _)⟩ dX12_logLine_25) hW hA (fun H locs hW => ?_)
    refine lv_aload_n S.1 S.2.1 dX12_logLine_28 rfl (lv_at hl 0 rfl) ?_
    obtain ⟨x4, hx4, hf⟩ := bnd_e hf
    refine Wr.goW (Wr.runV (c_X12_token hx4) S hK hW.1 hW.2.1 0 10 rfl rfl kVX12_142 rfl hl.1 [] rfl (Nat.le_of_ble_eq_true rfl) ⟨(Nat.le_of_ble_eq_true rfl), (Nat.le_of_ble_eq_true rfl)⟩ ⟨(Nat.zero_le _), (Nat.zero_le _)⟩ dX12_logLine_29) hW hA (fun H locs hW => ?_)
    refine lv_aload_n S.1 S.2.1 dX12_logLine_32 rfl (lv_at hl 0 rfl) ?_
    refine lv_iconst (v := 1) S.1 S.2.1 dX12_logLine_33 ic_1 ?_
    obtain ⟨x5, hx5, hf⟩ := bnd_e hf
    refine Wr.goW (Wr.runV (c_X12_takeTwo hx5) S hK hW.1 hW.2.1 0 10 rfl rfl kVX12_165 rfl hl.1 [] rfl (Nat.le_of_ble_eq_true rfl) ⟨(Nat.le_of_ble_eq_true rfl), (Nat.le_of_ble_eq_true rfl)⟩ ⟨(Nat.zero_le _), (Nat.zero_le _)⟩ dX12_logLine_34) hW hA (fun H locs hW => ?_)
    refine lv_if_ne (tgt := 42) S.1 S.2.1 dX12_logLine_37 (by decide) (fun c_ => ?_) (fun c_ => ?_)
    · have hf := it_n c_ hf
      refine lv_aload_n S.1 S.2.1 dX12_logLine_42 rfl (lv_at hl 0 rfl) ?_
      refine gfX12_38 S hK hW.1 0 rfl rfl dX12_logLine_43 ?_
      refine lv_iconst (v := 0) S.1 S.2.1 dX12_logLine_46 ic_0 ?_
      refine lv_lload_n S.1 S.2.1 dX12_logLine_47 rfl (lv_at hl 1 rfl) ?_
      refine lv_ldc2 (v := 8390038316256879986) S.1 S.2.1 S.2.2.2.1 (S.2.2.2.2 _ q_1292) dX12_logLine_48 ?_
      refine W.lcmp S.1 S.2.1 dX12_logLine_51 ?_
      refine lv_if_ne (tgt := 59) S.1 S.2.1 dX12_logLine_52 (by decide) (fun c_ => ?_) (fun c_ => ?_)
      · have hf := it_n c_ hf
        refine lv_iconst (v := 1) S.1 S.2.1 dX12_logLine_59 ic_1 ?_
        obtain ⟨x8, hx8, hf⟩ := bnd_e hf
        refine q_iast (ws2 := (wMd g o_q0 o_q1 o_q2 o_q3 o_q4 o_q5 o_q6 o_q7 o_q8 o_q9 o_q10 o_q11 o_q12 o_q13 o_q14 o_q15 o_q16 o_q17 o_q18 o_q19 o_q20 o_q21 o_q22 o_code o_tape o_size o_fault o_faultPlace o_many o_towns o_weeks o_logs x5.2.1 o_length x5.2.2.1 x5.2.2.2.1 x5.2.2.2.2.1 x5.2.2.2.2.2.1 x5.2.2.2.2.2.2.1 x5.2.2.2.2.2.2.2.1 x5.2.2.2.2.2.2.2.2.1 o_told x8 o_farOne x5.2.2.2.2.2.2.2.2.2.2 o_town o_people o_when o_sat o_quiet o_vain o_lent o_forgiven o_sundays o_purse o_beside o_debts o_sitting o_visited o_week o_heaps o_taken o_best o_more o_firstOne o_log o_fitting o_found o_seed o_row o_saved)) S hK hW 10 0 rfl rfl hx8 rfl dX12_logLine_60 (fun H locs hW => ?_)
        refine lv_aload_n S.1 S.2.1 dX12_logLine_61 rfl (lv_at hl 0 rfl) ?_
        refine lv_iconst (v := 3) S.1 S.2.1 dX12_logLine_62 ic_3 ?_
        refine lv_bipush (v := 8) S.1 S.2.1 dX12_logLine_63 bp_8 ?_
        obtain ⟨x9, hx9, hf⟩ := bnd_e hf
        refine Wr.goW (Wr.runV (c_X12_keepRow hx9) S hK hW.1 hW.2.1 0 10 rfl rfl kVX12_193 rfl hl.1 [] rfl (Nat.le_of_ble_eq_true rfl) ⟨(Nat.le_of_ble_eq_true rfl), (Nat.le_of_ble_eq_true rfl)⟩ ⟨(Nat.zero_le _), (Nat.zero_le _)⟩ dX12_logLine_65) hW hA (fun H locs hW => ?_)
        refine lv_iconst (v := 1) S.1 S.2.1 dX12_logLine_68 ic_1 ?_
        have e_ := Option.some.inj hf
        subst e_
        exact hret _ _ _ _ (Or.inr rfl) dX12_logLine_69 hW
      · have hf := it_p c_ hf
        refine lv_iconst (v := 0) S.1 S.2.1 dX12_logLine_55 ic_0 ?_
        refine lv_goto (tgt := 60) S.1 S.2.1 dX12_logLine_56 (by decide) ?_
        obtain ⟨x6, hx6, hf⟩ := bnd_e hf
        refine q_iast (ws2 := (wMd g o_q0 o_q1 o_q2 o_q3 o_q4 o_q5 o_q6 o_q7 o_q8 o_q9 o_q10 o_q11 o_q12 o_q13 o_q14 o_q15 o_q16 o_q17 o_q18 o_q19 o_q20 o_q21 o_q22 o_code o_tape o_size o_fault o_faultPlace o_many o_towns o_weeks o_logs x5.2.1 o_length x5.2.2.1 x5.2.2.2.1 x5.2.2.2.2.1 x5.2.2.2.2.2.1 x5.2.2.2.2.2.2.1 x5.2.2.2.2.2.2.2.1 x5.2.2.2.2.2.2.2.2.1 o_told x6 o_farOne x5.2.2.2.2.2.2.2.2.2.2 o_town o_people o_when o_sat o_quiet o_vain o_lent o_forgiven o_sundays o_purse o_beside o_debts o_sitting o_visited o_week o_heaps o_taken o_best o_more o_firstOne o_log o_fitting o_found o_seed o_row o_saved)) S hK hW 10 0 rfl rfl hx6 rfl dX12_logLine_60 (fun H locs hW => ?_)
        refine lv_aload_n S.1 S.2.1 dX12_logLine_61 rfl (lv_at hl 0 rfl) ?_
        refine lv_iconst (v := 3) S.1 S.2.1 dX12_logLine_62 ic_3 ?_
        refine lv_bipush (v := 8) S.1 S.2.1 dX12_logLine_63 bp_8 ?_
        obtain ⟨x7, hx7, hf⟩ := bnd_e hf
        refine Wr.goW (Wr.runV (c_X12_keepRow hx7) S hK hW.1 hW.2.1 0 10 rfl rfl kVX12_193 rfl hl.1 [] rfl (Nat.le_of_ble_eq_true rfl) ⟨(Nat.le_of_ble_eq_true rfl), (Nat.le_of_ble_eq_true rfl)⟩ ⟨(Nat.zero_le _), (Nat.zero_le _)⟩ dX12_logLine_65) hW hA (fun H locs hW => ?_)
        refine lv_iconst (v := 1) S.1 S.2.1 dX12_logLine_68 ic_1 ?_
        have e_ := Option.some.inj hf
        subst e_
        exact hret _ _ _ _ (Or.inr rfl) dX12_logLine_69 hW
    · have hf := it_p c_ hf
      refine lv_iconst (v := 0) S.1 S.2.1 dX12_logLine_40 ic_0 ?_
      have e_ := Option.some.inj hf
      subst e_
      exact hret _ _ _ _ (Or.inl rfl) dX12_logLine_41 hW
  have hf := hf_
  refine lv_if_eq (tgt := 21) S.1 S.2.1 dX12_logLine_5 (by decide) (fun c_ => ?_) (fun c_ => ?_)
  · have hf := it_p c_ hf
    exact hJ1 _ (Option.some.inj hf).symm _ _ _ (lv_sub hl [0, 1, 2] rfl) hW
  · have hf := it_n c_ hf
    refine lv_lload_n S.1 S.2.1 dX12_logLine_8 rfl (lv_at hl 1 rfl) ?_
    refine lv_ldc2 (v := 418497262196) S.1 S.2.1 S.2.2.2.1 (S.2.2.2.2 _ q_1293) dX12_logLine_9 ?_
    refine W.lcmp S.1 S.2.1 dX12_logLine_12 ?_
    refine lv_if_eq (tgt := 21) S.1 S.2.1 dX12_logLine_13 (by decide) (fun c_ => ?_) (fun c_ => ?_)
    · have hf := it_p c_ hf
      exact hJ1 _ (Option.some.inj hf).symm _ _ _ (lv_sub hl [0, 1, 2] rfl) hW
    · have hf := it_n c_ hf
      refine lv_aload_n S.1 S.2.1 dX12_logLine_16 rfl (lv_at hl 0 rfl) ?_
      obtain ⟨x10, hx10, hf⟩ := bnd_e hf
      refine Wr.goW (Wr.runV (c_X12_fails hx10) S hK hW.1 hW.2.1 0 10 rfl rfl kVX12_130 rfl hl.1 [] rfl (Nat.le_of_ble_eq_true rfl) ⟨(Nat.le_of_ble_eq_true rfl), (Nat.le_of_ble_eq_true rfl)⟩ ⟨(Nat.zero_le _), (Nat.zero_le _)⟩ dX12_logLine_17) hW hA (fun H locs hW => ?_)
      obtain ⟨z11, hz11, hf⟩ := bnd_e hf
      obtain ⟨hzz11, ezz11⟩ := bz_e hz11
      rw [ezz11]
      have e_ := Option.some.inj hf
      subst e_
      have hf := cse_l hk1
      have e_ := Option.some.inj hf
      subst e_
      exact hret _ _ _ _ hzz11 dX12_logLine_20 hW
def f_X12_allLines_L2 (fu : Nat) (o_tape : (Nat → Int32)) (o_length : Int32) (p1 : Int32) (s2 : Int32 × Int32 × Int32 × Int32 × Int32 × Int64 × Int32 × Int32 × Int32 × (Nat → Int32) × (Nat → Int32) × Int32 × Int32) : Option ((Int32 × Int32 × Int32 × Int32 × Int32 × Int64 × Int32 × Int32 × Int32 × (Nat → Int32) × (Nat → Int32) × Int32 × Int32) ⊕ (Int32 × Int32 × Int32 × Int32 × Int32 × Int64 × Int32 × Int32 × Int32 × (Nat → Int32) × (Nat → Int32) × Int32 × Int32)) := if s2.1 = 0 then some (.inr (s2.1, s2.2.1, s2.2.2.1, s2.2.2.2.1, s2.2.2.2.2.1, s2.2.2.2.2.2.1, s2.2.2.2.2.2.2.1, s2.2.2.2.2.2.2.2.1, s2.2.2.2.2.2.2.2.2.1, s2.2.2.2.2.2.2.2.2.2.1, s2.2.2.2.2.2.2.2.2.2.2.1, s2.2.2.2.2.2.2.2.2.2.2.2.1, s2.2.2.2.2.2.2.2.2.2.2.2.2)) else if s2.2.2.2.1 = 0 then some (.inr (s2.1, s2.2.1, s2.2.2.1, s2.2.2.2.1, s2.2.2.2.2.1, s2.2.2.2.2.2.1, s2.2.2.2.2.2.2.1, s2.2.2.2.2.2.2.2.1, s2.2.2.2.2.2.2.2.2.1, s2.2.2.2.2.2.2.2.2.2.1, s2.2.2.2.2.2.2.2.2.2.2.1, s2.2.2.2.2.2.2.2.2.2.2.2.1, s2.2.2.2.2.2.2.2.2.2.2.2.2)) else bnd (α := Int64) (if s2.2.2.2.1 = (2 : Int32) then some s2.2.2.2.2.2.1 else some (0 : Int64)) (fun v6 => bnd (α := Int32 × Int32 × Int32 × Int32 × Int32 × Int64 × Int32 × Int32 × Int32 × (Nat → Int32) × (Nat → Int32) × Int32 × Int32) (if p1 = 0 then bnd (α := Int32 × Int32 × Int32 × Int32 × Int32 × Int64 × Int32 × Int32 × Int32 × (Nat → Int32) × (Nat → Int32) × Int32 × Int32) (f_X12_townLine fu o_tape s2.2.1 o_length s2.2.2.1 s2.2.2.2.1 s2.2.2.2.2.1 s2.2.2.2.2.2.1 s2.2.2.2.2.2.2.1 s2.2.2.2.2.2.2.2.1 s2.2.2.2.2.2.2.2.2.1 s2.2.2.2.2.2.2.2.2.2.1 s2.2.2.2.2.2.2.2.2.2.2.1 s2.2.2.2.2.2.2.2.2.2.2.2.1 (1 : Int32) v6 s2.2.2.1) (fun x13 => some (x13.1, x13.2.1, x13.2.2.1, x13.2.2.2.1, x13.2.2.2.2.1, x13.2.2.2.2.2.1, x13.2.2.2.2.2.2.1, x13.2.2.2.2.2.2.2.1, x13.2.2.2.2.2.2.2.2.1, x13.2.2.2.2.2.2.2.2.2.1, x13.2.2.2.2.2.2.2.2.2.2.1, x13.2.2.2.2.2.2.2.2.2.2.2.1, x13.2.2.2.2.2.2.2.2.2.2.2.2)) else if p1 = (1 : Int32) then bnd (α := Int32 × Int32 × Int32 × Int32 × Int32 × Int64 × Int32 × Int32 × Int32 × (Nat → Int32) × (Nat → Int32) × Int32) (f_X12_weekLine fu o_tape s2.2.1 o_length s2.2.2.1 s2.2.2.2.1 s2.2.2.2.2.1 s2.2.2.2.2.2.1 s2.2.2.2.2.2.2.1 s2.2.2.2.2.2.2.2.1 s2.2.2.2.2.2.2.2.2.1 s2.2.2.2.2.2.2.2.2.2.1 s2.2.2.2.2.2.2.2.2.2.2.1 (1 : Int32) v6 s2.2.2.1) (fun x14 => some (x14.1, x14.2.1, x14.2.2.1, x14.2.2.2.1, x14.2.2.2.2.1, x14.2.2.2.2.2.1, x14.2.2.2.2.2.2.1, x14.2.2.2.2.2.2.2.1, x14.2.2.2.2.2.2.2.2.1, x14.2.2.2.2.2.2.2.2.2.1, x14.2.2.2.2.2.2.2.2.2.2.1, s2.2.2.2.2.2.2.2.2.2.2.2.1, x14.2.2.2.2.2.2.2.2.2.2.2)) else bnd (α := Int32 × Int32 × Int32 × Int32 × Int32 × Int64 × Int32 × Int32 × Int32 × (Nat → Int32) × (Nat → Int32) × Int32) (f_X12_logLine fu o_tape s2.2.1 o_length s2.2.2.1 s2.2.2.2.1 s2.2.2.2.2.1 s2.2.2.2.2.2.1 s2.2.2.2.2.2.2.1 s2.2.2.2.2.2.2.2.1 s2.2.2.2.2.2.2.2.2.1 s2.2.2.2.2.2.2.2.2.2.1 s2.2.2.2.2.2.2.2.2.2.2.1 (1 : Int32) v6 s2.2.2.1) (fun x15 => some (x15.1, x15.2.1, x15.2.2.1, x15.2.2.2.1, x15.2.2.2.2.1, x15.2.2.2.2.2.1, x15.2.2.2.2.2.2.1, x15.2.2.2.2.2.2.2.1, x15.2.2.2.2.2.2.2.2.1, x15.2.2.2.2.2.2.2.2.2.1, x15.2.2.2.2.2.2.2.2.2.2.1, s2.2.2.2.2.2.2.2.2.2.2.2.1, x15.2.2.2.2.2.2.2.2.2.2.2))) (fun v8 => bnd (α := Int32 × Int32) (if v8.1 = 0 then some (v8.1, v8.2.2.2.2.2.2.1) else if v8.2.2.2.1 = (4 : Int32) then some (v8.1, v8.2.2.2.2.2.2.1) else bnd (α := Int32 × Int32) (f_X12_fails fu v8.2.2.1 v8.2.2.2.2.2.2.1) (fun x12 => some (x12.1, x12.2))) (fun v10 => if v10.1 = 0 then some (.inl (v10.1, v8.2.1, v8.2.2.1, v8.2.2.2.1, v8.2.2.2.2.1, v8.2.2.2.2.2.1, v10.2, v8.2.2.2.2.2.2.2.1, v8.2.2.2.2.2.2.2.2.1, v8.2.2.2.2.2.2.2.2.2.1, v8.2.2.2.2.2.2.2.2.2.2.1, v8.2.2.2.2.2.2.2.2.2.2.2.1, v8.2.2.2.2.2.2.2.2.2.2.2.2)) else bnd (α := Int32 × Int32 × Int32 × Int32 × Int64) (f_X12_token fu o_tape v8.2.1 o_length v8.2.2.1 v8.2.2.2.1 v8.2.2.2.2.1 v8.2.2.2.2.2.1) (fun x11 => some (.inl (v10.1, x11.1, x11.2.1, x11.2.2.1, x11.2.2.2.1, x11.2.2.2.2, v10.2, v8.2.2.2.2.2.2.2.1, v8.2.2.2.2.2.2.2.2.1, v8.2.2.2.2.2.2.2.2.2.1, v8.2.2.2.2.2.2.2.2.2.2.1, v8.2.2.2.2.2.2.2.2.2.2.2.1, v8.2.2.2.2.2.2.2.2.2.2.2.2))))))
def f_X12_allLines (fu : Nat) (o_tape : (Nat → Int32)) (o_reached : Int32) (o_length : Int32) (o_begins : Int32) (o_sort : Int32) (o_value : Int32) (o_word : Int64) (o_wrongAt : Int32) (o_laterFault : Int32) (o_laterPlace : Int32) (o_told : (Nat → Int32)) (o_read : (Nat → Int32)) (o_farOne : Int32) (o_good : Int32) (p1 : Int32) : Option (Int32 × Int32 × Int32 × Int32 × Int32 × Int64 × Int32 × Int32 × Int32 × (Nat → Int32) × (Nat → Int32) × Int32 × Int32) := bnd (α := Int32 × Int32 × Int32 × Int32 × Int32 × Int64 × Int32 × Int32 × Int32 × (Nat → Int32) × (Nat → Int32) × Int32 × Int32) (lp (f_X12_allLines_L2 fu o_tape o_length p1) fu ((1 : Int32), o_reached, o_begins, o_sort, o_value, o_word, o_wrongAt, o_laterFault, o_laterPlace, o_told, o_read, o_farOne, o_good)) (fun v16 => bnd (α := Int32) (bz v16.1) (fun z17 => some (z17, v16.2.1, v16.2.2.1, v16.2.2.2.1, v16.2.2.2.2.1, v16.2.2.2.2.2.1, v16.2.2.2.2.2.2.1, v16.2.2.2.2.2.2.2.1, v16.2.2.2.2.2.2.2.2.1, v16.2.2.2.2.2.2.2.2.2.1, v16.2.2.2.2.2.2.2.2.2.2.1, v16.2.2.2.2.2.2.2.2.2.2.2.1, v16.2.2.2.2.2.2.2.2.2.2.2.2)))
set_option maxHeartbeats 4000000 in
set_option maxRecDepth 100000 in
theorem c_X12_allLines {l : Launch} {D : va_G} {g : Nat → ClassId} {fu : Nat} {o_q0 o_q1 o_q2 o_q3 o_q4 o_q5 o_q6 o_q7 o_q8 o_q9 o_q10 o_q11 o_q12 o_q13 o_q14 o_q15 o_q16 o_q17 o_q18 o_q19 o_q20 o_q21 o_q22 : Nat} {o_code : Int32} {o_tape : (Nat → Int32)} {o_size : (Nat → Int32)} {o_fault : (Nat → Int32)} {o_faultPlace : (Nat → Int32)} {o_many : (Nat → Int32)} {o_towns : (Nat → Int32)} {o_weeks : (Nat → Int32)} {o_logs : (Nat → Int32)} {o_reached : Int32} {o_length : Int32} {o_begins : Int32} {o_sort : Int32} {o_value : Int32} {o_word : Int64} {o_wrongAt : Int32} {o_laterFault : Int32} {o_laterPlace : Int32} {o_told : (Nat → Int32)} {o_read : (Nat → Int32)} {o_farOne : Int32} {o_good : Int32} {o_town : Int32} {o_people : Int32} {o_when : Int32} {o_sat : Int32} {o_quiet : Int32} {o_vain : Int32} {o_lent : Int32} {o_forgiven : Int32} {o_sundays : Int32} {o_purse : (Nat → Int32)} {o_beside : (Nat → Int32)} {o_debts : (Nat → Int32)} {o_sitting : (Nat → Int32)} {o_visited : (Nat → Int32)} {o_week : Int32} {o_heaps : (Nat → Int32)} {o_taken : (Nat → Int32)} {o_best : (Nat → Int32)} {o_more : (Nat → Int32)} {o_firstOne : Int32} {o_log : Int32} {o_fitting : (Nat → Int32)} {o_found : Int32} {o_seed : Int32} {o_row : (Nat → Int32)} {o_saved : (Nat → Int32)} {p1 : Int32} {r : Int32 × Int32 × Int32 × Int32 × Int32 × Int64 × Int32 × Int32 × Int32 × (Nat → Int32) × (Nat → Int32) × Int32 × Int32} (hf : f_X12_allLines fu o_tape o_reached o_length o_begins o_sort o_value o_word o_wrongAt o_laterFault o_laterPlace o_told o_read o_farOne o_good p1 = some r) : Wr l D (gy g) yX12_allLines cX12_allLines 6 (some .boolean) 6 [.ref o_q0, .int p1] (wMd g o_q0 o_q1 o_q2 o_q3 o_q4 o_q5 o_q6 o_q7 o_q8 o_q9 o_q10 o_q11 o_q12 o_q13 o_q14 o_q15 o_q16 o_q17 o_q18 o_q19 o_q20 o_q21 o_q22 o_code o_tape o_size o_fault o_faultPlace o_many o_towns o_weeks o_logs o_reached o_length o_begins o_sort o_value o_word o_wrongAt o_laterFault o_laterPlace o_told o_read o_farOne o_good o_town o_people o_when o_sat o_quiet o_vain o_lent o_forgiven o_sundays o_purse o_beside o_debts o_sitting o_visited o_week o_heaps o_taken o_best o_more o_firstOne o_log o_fitting o_found o_seed o_row o_saved) (wMd g o_q0 o_q1 o_q2 o_q3 o_q4 o_q5 o_q6 o_q7 o_q8 o_q9 o_q10 o_q11 o_q12 o_q13 o_q14 o_q15 o_q16 o_q17 o_q18 o_q19 o_q20 o_q21 o_q22 o_code o_tape o_size o_fault o_faultPlace o_many o_towns o_weeks o_logs r.2.1 o_length r.2.2.1 r.2.2.2.1 r.2.2.2.2.1 r.2.2.2.2.2.1 r.2.2.2.2.2.2.1 r.2.2.2.2.2.2.2.1 r.2.2.2.2.2.2.2.2.1 r.2.2.2.2.2.2.2.2.2.1 r.2.2.2.2.2.2.2.2.2.2.1 r.2.2.2.2.2.2.2.2.2.2.2.1 r.2.2.2.2.2.2.2.2.2.2.2.2 o_town o_people o_when o_sat o_quiet o_vain o_lent o_forgiven o_sundays o_purse o_beside o_debts o_sitting o_visited o_week o_heaps o_taken o_best o_more o_firstOne o_log o_fitting o_found o_seed o_row o_saved) (some (.int r.1)) := by
  refine Wr.ofZ (by decide) (Nat.le_of_ble_eq_true rfl) ?_
  intro p e s m args below meth c Q A S hK hA hret ls hl hW
  have hl : lv_has ls 6 [(0, .ref o_q0), (1, .int p1)] := hl
  refine lv_iconst (v := 1) S.1 S.2.1 dX12_allLines_0 ic_1 ?_
  refine lv_istore_n (lv' := [(2, .int (1 : Int32)), (0, .ref o_q0), (1, .int p1)]) S.1 S.2.1 dX12_allLines_1 rfl hl (by decide) rfl (fun ls hl => ?_)
  obtain ⟨x3, hf_, hk3⟩ := bnd_e hf
  have hE3 : ∀ (v16 : Int32 × Int32 × Int32 × Int32 × Int32 × Int64 × Int32 × Int32 × Int32 × (Nat → Int32) × (Nat → Int32) × Int32 × Int32), v16 = x3 → ∀ (ls : Array Slot) (H : Heap) (locs : List Loc), lv_has ls 6 [(2, .int v16.1)] → St A s.heap D (wMd g o_q0 o_q1 o_q2 o_q3 o_q4 o_q5 o_q6 o_q7 o_q8 o_q9 o_q10 o_q11 o_q12 o_q13 o_q14 o_q15 o_q16 o_q17 o_q18 o_q19 o_q20 o_q21 o_q22 o_code o_tape o_size o_fault o_faultPlace o_many o_towns o_weeks o_logs v16.2.1 o_length v16.2.2.1 v16.2.2.2.1 v16.2.2.2.2.1 v16.2.2.2.2.2.1 v16.2.2.2.2.2.2.1 v16.2.2.2.2.2.2.2.1 v16.2.2.2.2.2.2.2.2.1 v16.2.2.2.2.2.2.2.2.2.1 v16.2.2.2.2.2.2.2.2.2.2.1 v16.2.2.2.2.2.2.2.2.2.2.2.1 v16.2.2.2.2.2.2.2.2.2.2.2.2 o_town o_people o_when o_sat o_quiet o_vain o_lent o_forgiven o_sundays o_purse o_beside o_debts o_sitting o_visited o_week o_heaps o_taken o_best o_more o_firstOne o_log o_fitting o_found o_seed o_row o_saved) H locs → W p l e (rmD 6) s m args below meth c H locs 0 0 Q (F0 m 106 ls []) := by
    intro v16 e_ ls H locs hl hW
    subst e_
    have hf := hk3
    refine lv_iload_n S.1 S.2.1 dX12_allLines_106 rfl (lv_at hl 0 rfl) ?_
    obtain ⟨z17, hz17, hf⟩ := bnd_e hf
    obtain ⟨hzz17, ezz17⟩ := bz_e hz17
    rw [ezz17]
    have e_ := Option.some.inj hf
    subst e_
    exact hret _ _ _ _ hzz17 dX12_allLines_107 hW
  refine lp_ind (P := fun (s2 : Int32 × Int32 × Int32 × Int32 × Int32 × Int64 × Int32 × Int32 × Int32 × (Nat → Int32) × (Nat → Int32) × Int32 × Int32) => ∀ (ls : Array Slot) (H : Heap) (locs : List Loc), lv_has ls 6 [(0, .ref o_q0), (1, .int p1), (2, .int s2.1)] → St A s.heap D (wMd g o_q0 o_q1 o_q2 o_q3 o_q4 o_q5 o_q6 o_q7 o_q8 o_q9 o_q10 o_q11 o_q12 o_q13 o_q14 o_q15 o_q16 o_q17 o_q18 o_q19 o_q20 o_q21 o_q22 o_code o_tape o_size o_fault o_faultPlace o_many o_towns o_weeks o_logs s2.2.1 o_length s2.2.2.1 s2.2.2.2.1 s2.2.2.2.2.1 s2.2.2.2.2.2.1 s2.2.2.2.2.2.2.1 s2.2.2.2.2.2.2.2.1 s2.2.2.2.2.2.2.2.2.1 s2.2.2.2.2.2.2.2.2.2.1 s2.2.2.2.2.2.2.2.2.2.2.1 s2.2.2.2.2.2.2.2.2.2.2.2.1 s2.2.2.2.2.2.2.2.2.2.2.2.2 o_town o_people o_when o_sat o_quiet o_vain o_lent o_forgiven o_sundays o_purse o_beside o_debts o_sitting o_visited o_week o_heaps o_taken o_best o_more o_firstOne o_log o_fitting o_found o_seed o_row o_saved) H locs → W p l e (rmD 6) s m args below meth c H locs 0 0 Q (F0 m 2 ls [])) ?_ _ _ hf_ _ _ _ (lv_sub hl [1, 2, 0] rfl) hW
  intro s2 x4 hf hI3 hR3 ls H locs hl hW
  refine lv_iload_n S.1 S.2.1 dX12_allLines_2 rfl (lv_at hl 2 rfl) ?_
  refine lv_if_eq (tgt := 106) S.1 S.2.1 dX12_allLines_3 (by decide) (fun c_ => ?_) (fun c_ => ?_)
  · have hf := it_p c_ hf
    have e_ := hR3 _ (Option.some.inj hf).symm
    exact hE3 _ e_ _ _ _ (lv_sub hl [2] rfl) hW
  · have hf := it_n c_ hf
    refine lv_aload_n S.1 S.2.1 dX12_allLines_6 rfl (lv_at hl 0 rfl) ?_
    refine gfX12_115 S hK hW.1 0 rfl rfl dX12_allLines_7 ?_
    refine lv_if_eq (tgt := 106) S.1 S.2.1 dX12_allLines_10 (by decide) (fun c_ => ?_) (fun c_ => ?_)
    · have hf := it_p c_ hf
      have e_ := hR3 _ (Option.some.inj hf).symm
      exact hE3 _ e_ _ _ _ (lv_sub hl [2] rfl) hW
    · have hf := it_n c_ hf
      refine lv_aload_n S.1 S.2.1 dX12_allLines_13 rfl (lv_at hl 0 rfl) ?_
      refine gfX12_108 S hK hW.1 0 rfl rfl dX12_allLines_14 ?_
      refine lv_istore_n (lv' := [(3, .int s2.2.2.1), (0, .ref o_q0), (1, .int p1), (2, .int s2.1)]) S.1 S.2.1 dX12_allLines_17 rfl hl (by decide) rfl (fun ls hl => ?_)
      refine lv_aload_n S.1 S.2.1 dX12_allLines_18 rfl (lv_at hl 1 rfl) ?_
      refine gfX12_115 S hK hW.1 0 rfl rfl dX12_allLines_19 ?_
      refine lv_iconst (v := 2) S.1 S.2.1 dX12_allLines_22 ic_2 ?_
      obtain ⟨x5, hf_, hk5⟩ := bnd_e hf
      have hJ5 : ∀ (v6 : Int64), v6 = x5 → ∀ (ls : Array Slot) (H : Heap) (locs : List Loc), lv_has ls 6 [(0, .ref o_q0), (1, .int p1), (3, .int s2.2.2.1)] → St A s.heap D (wMd g o_q0 o_q1 o_q2 o_q3 o_q4 o_q5 o_q6 o_q7 o_q8 o_q9 o_q10 o_q11 o_q12 o_q13 o_q14 o_q15 o_q16 o_q17 o_q18 o_q19 o_q20 o_q21 o_q22 o_code o_tape o_size o_fault o_faultPlace o_many o_towns o_weeks o_logs s2.2.1 o_length s2.2.2.1 s2.2.2.2.1 s2.2.2.2.2.1 s2.2.2.2.2.2.1 s2.2.2.2.2.2.2.1 s2.2.2.2.2.2.2.2.1 s2.2.2.2.2.2.2.2.2.1 s2.2.2.2.2.2.2.2.2.2.1 s2.2.2.2.2.2.2.2.2.2.2.1 s2.2.2.2.2.2.2.2.2.2.2.2.1 s2.2.2.2.2.2.2.2.2.2.2.2.2 o_town o_people o_when o_sat o_quiet o_vain o_lent o_forgiven o_sundays o_purse o_beside o_debts o_sitting o_visited o_week o_heaps o_taken o_best o_more o_firstOne o_log o_fitting o_found o_seed o_row o_saved) H locs → W p l e (rmD 6) s m args below meth c H locs 0 0 Q (F0 m 34 ls [.long v6]) := by
        intro v6 e_ ls H locs hl hW
        subst e_
        have hf := hk5
        refine lv_lstore (lv' := [(4, .long v6), (0, .ref o_q0), (1, .int p1), (3, .int s2.2.2.1)]) S.1 S.2.1 dX12_allLines_34 hl (by decide) rfl (fun ls hl => ?_)
        refine lv_aload_n S.1 S.2.1 dX12_allLines_36 rfl (lv_at hl 1 rfl) ?_
        refine lv_iconst (v := 1) S.1 S.2.1 dX12_allLines_37 ic_1 ?_
        refine pfX12_138 (ws2 := (wMd g o_q0 o_q1 o_q2 o_q3 o_q4 o_q5 o_q6 o_q7 o_q8 o_q9 o_q10 o_q11 o_q12 o_q13 o_q14 o_q15 o_q16 o_q17 o_q18 o_q19 o_q20 o_q21 o_q22 o_code o_tape o_size o_fault o_faultPlace o_many o_towns o_weeks o_logs s2.2.1 o_length s2.2.2.1 s2.2.2.2.1 s2.2.2.2.2.1 s2.2.2.2.2.2.1 s2.2.2.2.2.2.2.1 s2.2.2.2.2.2.2.2.1 s2.2.2.2.2.2.2.2.2.1 s2.2.2.2.2.2.2.2.2.2.1 s2.2.2.2.2.2.2.2.2.2.2.1 s2.2.2.2.2.2.2.2.2.2.2.2.1 (1 : Int32) o_town o_people o_when o_sat o_quiet o_vain o_lent o_forgiven o_sundays o_purse o_beside o_debts o_sitting o_visited o_week o_heaps o_taken o_best o_more o_firstOne o_log o_fitting o_found o_seed o_row o_saved)) S hK hW 0 rfl rfl rfl (Nat.le_of_ble_eq_true rfl) rfl dX12_allLines_38 (fun H locs hW => ?_)
        refine lv_iload_n S.1 S.2.1 dX12_allLines_41 rfl (lv_at hl 2 rfl) ?_
        obtain ⟨x7, hf_, hk7⟩ := bnd_e hf
        have hJ7 : ∀ (v8 : Int32 × Int32 × Int32 × Int32 × Int32 × Int64 × Int32 × Int32 × Int32 × (Nat → Int32) × (Nat → Int32) × Int32 × Int32), v8 = x7 → ∀ (ls : Array Slot) (H : Heap) (locs : List Loc), lv_has ls 6 [(0, .ref o_q0), (1, .int p1)] → St A s.heap D (wMd g o_q0 o_q1 o_q2 o_q3 o_q4 o_q5 o_q6 o_q7 o_q8 o_q9 o_q10 o_q11 o_q12 o_q13 o_q14 o_q15 o_q16 o_q17 o_q18 o_q19 o_q20 o_q21 o_q22 o_code o_tape o_size o_fault o_faultPlace o_many o_towns o_weeks o_logs v8.2.1 o_length v8.2.2.1 v8.2.2.2.1 v8.2.2.2.2.1 v8.2.2.2.2.2.1 v8.2.2.2.2.2.2.1 v8.2.2.2.2.2.2.2.1 v8.2.2.2.2.2.2.2.2.1 v8.2.2.2.2.2.2.2.2.2.1 v8.2.2.2.2.2.2.2.2.2.2.1 v8.2.2.2.2.2.2.2.2.2.2.2.1 v8.2.2.2.2.2.2.2.2.2.2.2.2 o_town o_people o_when o_sat o_quiet o_vain o_lent o_forgiven o_sundays o_purse o_beside o_debts o_sitting o_visited o_week o_heaps o_taken o_best o_more o_firstOne o_log o_fitting o_found o_seed o_row o_saved) H locs → W p l e (rmD 6) s m args below meth c H locs 0 0 Q (F0 m 77 ls [.int v8.1]) := by
          intro v8 e_ ls H locs hl hW
          subst e_
          have hf := hk7
          refine lv_istore_n (lv' := [(2, .int v8.1), (0, .ref o_q0), (1, .int p1)]) S.1 S.2.1 dX12_allLines_77 rfl hl (by decide) rfl (fun ls hl => ?_)
          refine lv_iload_n S.1 S.2.1 dX12_allLines_78 rfl (lv_at hl 0 rfl) ?_
          obtain ⟨x9, hf_, hk9⟩ := bnd_e hf
          have hJ9 : ∀ (v10 : Int32 × Int32), v10 = x9 → ∀ (ls : Array Slot) (H : Heap) (locs : List Loc), lv_has ls 6 [(0, .ref o_q0), (1, .int p1), (2, .int v10.1)] → St A s.heap D (wMd g o_q0 o_q1 o_q2 o_q3 o_q4 o_q5 o_q6 o_q7 o_q8 o_q9 o_q10 o_q11 o_q12 o_q13 o_q14 o_q15 o_q16 o_q17 o_q18 o_q19 o_q20 o_q21 o_q22 o_code o_tape o_size o_fault o_faultPlace o_many o_towns o_weeks o_logs v8.2.1 o_length v8.2.2.1 v8.2.2.2.1 v8.2.2.2.2.1 v8.2.2.2.2.2.1 v10.2 v8.2.2.2.2.2.2.2.1 v8.2.2.2.2.2.2.2.2.1 v8.2.2.2.2.2.2.2.2.2.1 v8.2.2.2.2.2.2.2.2.2.2.1 v8.2.2.2.2.2.2.2.2.2.2.2.1 v8.2.2.2.2.2.2.2.2.2.2.2.2 o_town o_people o_when o_sat o_quiet o_vain o_lent o_forgiven o_sundays o_purse o_beside o_debts o_sitting o_visited o_week o_heaps o_taken o_best o_more o_firstOne o_log o_fitting o_found o_seed o_row o_saved) H locs → W p l e (rmD 6) s m args below meth c H locs 0 0 Q (F0 m 95 ls []) := by
            intro v10 e_ ls H locs hl hW
            subst e_
            have hf := hk9
            refine lv_iload_n S.1 S.2.1 dX12_allLines_95 rfl (lv_at hl 2 rfl) ?_
            refine lv_if_eq (tgt := 103) S.1 S.2.1 dX12_allLines_96 (by decide) (fun c_ => ?_) (fun c_ => ?_)
            · have hf := it_p c_ hf
              refine lv_goto (tgt := 2) S.1 S.2.1 dX12_allLines_103 (by decide) ?_
              exact hI3 _ (Option.some.inj hf).symm _ _ _ (lv_sub hl [0, 1, 2] rfl) hW
            · have hf := it_n c_ hf
              refine lv_aload_n S.1 S.2.1 dX12_allLines_99 rfl (lv_at hl 0 rfl) ?_
              obtain ⟨x11, hx11, hf⟩ := bnd_e hf
              refine Wr.goW (Wr.runV (c_X12_token hx11) S hK hW.1 hW.2.1 0 10 rfl rfl kVX12_142 rfl hl.1 [] rfl (Nat.le_of_ble_eq_true rfl) ⟨(Nat.le_of_ble_eq_true rfl), (Nat.le_of_ble_eq_true rfl)⟩ ⟨(Nat.zero_le _), (Nat.zero_le _)⟩ dX12_allLines_100) hW hA (fun H locs hW => ?_)
              refine lv_goto (tgt := 2) S.1 S.2.1 dX12_allLines_103 (by decide) ?_
              exact hI3 _ (Option.some.inj hf).symm _ _ _ (lv_sub hl [0, 1, 2] rfl) hW
          have hf := hf_
          refine lv_if_eq (tgt := 95) S.1 S.2.1 dX12_allLines_79 (by decide) (fun c_ => ?_) (fun c_ => ?_)
          · have hf := it_p c_ hf
            exact hJ9 _ (Option.some.inj hf) _ _ _ (lv_sub hl [1, 2, 0] rfl) hW
          · have hf := it_n c_ hf
            refine lv_aload_n S.1 S.2.1 dX12_allLines_82 rfl (lv_at hl 1 rfl) ?_
            refine gfX12_115 S hK hW.1 0 rfl rfl dX12_allLines_83 ?_
            refine lv_iconst (v := 4) S.1 S.2.1 dX12_allLines_86 ic_4 ?_
            refine lv_icmp_eq (tgt := 95) S.1 S.2.1 dX12_allLines_87 (by decide) (fun c_ => ?_) (fun c_ => ?_)
            · have hf := it_p c_ hf
              exact hJ9 _ (Option.some.inj hf) _ _ _ (lv_sub hl [1, 2, 0] rfl) hW
            · have hf := it_n c_ hf
              refine lv_aload_n S.1 S.2.1 dX12_allLines_90 rfl (lv_at hl 1 rfl) ?_
              obtain ⟨x12, hx12, hf⟩ := bnd_e hf
              refine Wr.goW (Wr.runV (c_X12_fails hx12) S hK hW.1 hW.2.1 0 10 rfl rfl kVX12_130 rfl hl.1 [] rfl (Nat.le_of_ble_eq_true rfl) ⟨(Nat.le_of_ble_eq_true rfl), (Nat.le_of_ble_eq_true rfl)⟩ ⟨(Nat.zero_le _), (Nat.zero_le _)⟩ dX12_allLines_91) hW hA (fun H locs hW => ?_)
              refine lv_istore_n (lv' := [(2, .int x12.1), (0, .ref o_q0), (1, .int p1)]) S.1 S.2.1 dX12_allLines_94 rfl hl (by decide) rfl (fun ls hl => ?_)
              exact hJ9 _ (Option.some.inj hf) _ _ _ (lv_sub hl [1, 2, 0] rfl) hW
        have hf := hf_
        refine lv_if_ne (tgt := 55) S.1 S.2.1 dX12_allLines_42 (by decide) (fun c_ => ?_) (fun c_ => ?_)
        · have hf := it_n c_ hf
          refine lv_iload_n S.1 S.2.1 dX12_allLines_55 rfl (lv_at hl 2 rfl) ?_
          refine lv_iconst (v := 1) S.1 S.2.1 dX12_allLines_56 ic_1 ?_
          refine lv_icmp_ne (tgt := 70) S.1 S.2.1 dX12_allLines_57 (by decide) (fun c_ => ?_) (fun c_ => ?_)
          · have hf := it_n c_ hf
            refine lv_aload_n S.1 S.2.1 dX12_allLines_70 rfl (lv_at hl 1 rfl) ?_
            refine lv_lload S.1 S.2.1 dX12_allLines_71 (lv_at hl 0 rfl) ?_
            refine lv_iload_n S.1 S.2.1 dX12_allLines_73 rfl (lv_at hl 3 rfl) ?_
            obtain ⟨x15, hx15, hf⟩ := bnd_e hf
            refine Wr.goW (Wr.runV (c_X12_logLine hx15) S hK hW.1 hW.2.1 0 10 rfl rfl kVX12_207 rfl hl.1 [] rfl (Nat.le_of_ble_eq_true rfl) ⟨(Nat.le_of_ble_eq_true rfl), (Nat.le_of_ble_eq_true rfl)⟩ ⟨(Nat.zero_le _), (Nat.zero_le _)⟩ dX12_allLines_74) hW hA (fun H locs hW => ?_)
            exact hJ7 _ (Option.some.inj hf) _ _ _ (lv_sub hl [1, 2] rfl) hW
          · have hf := it_p c_ hf
            refine lv_aload_n S.1 S.2.1 dX12_allLines_60 rfl (lv_at hl 1 rfl) ?_
            refine lv_lload S.1 S.2.1 dX12_allLines_61 (lv_at hl 0 rfl) ?_
            refine lv_iload_n S.1 S.2.1 dX12_allLines_63 rfl (lv_at hl 3 rfl) ?_
            obtain ⟨x14, hx14, hf⟩ := bnd_e hf
            refine Wr.goW (Wr.runV (c_X12_weekLine hx14) S hK hW.1 hW.2.1 0 10 rfl rfl kVX12_204 rfl hl.1 [] rfl (Nat.le_of_ble_eq_true rfl) ⟨(Nat.le_of_ble_eq_true rfl), (Nat.le_of_ble_eq_true rfl)⟩ ⟨(Nat.zero_le _), (Nat.zero_le _)⟩ dX12_allLines_64) hW hA (fun H locs hW => ?_)
            refine lv_goto (tgt := 77) S.1 S.2.1 dX12_allLines_67 (by decide) ?_
            exact hJ7 _ (Option.some.inj hf) _ _ _ (lv_sub hl [1, 2] rfl) hW
        · have hf := it_p c_ hf
          refine lv_aload_n S.1 S.2.1 dX12_allLines_45 rfl (lv_at hl 1 rfl) ?_
          refine lv_lload S.1 S.2.1 dX12_allLines_46 (lv_at hl 0 rfl) ?_
          refine lv_iload_n S.1 S.2.1 dX12_allLines_48 rfl (lv_at hl 3 rfl) ?_
          obtain ⟨x13, hx13, hf⟩ := bnd_e hf
          refine Wr.goW (Wr.runV (c_X12_townLine hx13) S hK hW.1 hW.2.1 0 10 rfl rfl kVX12_200 rfl hl.1 [] rfl (Nat.le_of_ble_eq_true rfl) ⟨(Nat.le_of_ble_eq_true rfl), (Nat.le_of_ble_eq_true rfl)⟩ ⟨(Nat.zero_le _), (Nat.zero_le _)⟩ dX12_allLines_49) hW hA (fun H locs hW => ?_)
          refine lv_goto (tgt := 77) S.1 S.2.1 dX12_allLines_52 (by decide) ?_
          exact hJ7 _ (Option.some.inj hf) _ _ _ (lv_sub hl [1, 2] rfl) hW
      have hf := hf_
      refine lv_icmp_ne (tgt := 33) S.1 S.2.1 dX12_allLines_23 (by decide) (fun c_ => ?_) (fun c_ => ?_)
      · have hf := it_n c_ hf
        refine lv_lconst (v := 0) S.1 S.2.1 dX12_allLines_33 rfl ?_
        exact hJ5 _ (Option.some.inj hf) _ _ _ (lv_sub hl [1, 2, 0] rfl) hW
      · have hf := it_p c_ hf
        refine lv_aload_n S.1 S.2.1 dX12_allLines_26 rfl (lv_at hl 1 rfl) ?_
        refine gfX12_111 S hK hW.1 0 rfl rfl dX12_allLines_27 ?_
        refine lv_goto (tgt := 34) S.1 S.2.1 dX12_allLines_30 (by decide) ?_
        exact hJ5 _ (Option.some.inj hf) _ _ _ (lv_sub hl [1, 2, 0] rfl) hW
def f_X12_readText_L2  (s2 : Int32 × (Nat → Int32)) : Option ((Int32 × (Nat → Int32)) ⊕ ((Nat → Int32))) := if (161 : Int32) ≤ s2.1 then some (.inr s2.2) else bnd (α := (Nat → Int32)) (wri 161 s2.2 s2.1 (0 : Int32)) (fun x5 => some (.inl ((s2.1 + 1), x5)))
def f_X12_readText (fu : Nat) (o_tape : (Nat → Int32)) (o_fault : (Nat → Int32)) (o_faultPlace : (Nat → Int32)) (o_reached : Int32) (o_length : Int32) (o_begins : Int32) (o_sort : Int32) (o_value : Int32) (o_word : Int64) (o_wrongAt : Int32) (o_laterFault : Int32) (o_laterPlace : Int32) (o_told : (Nat → Int32)) (o_read : (Nat → Int32)) (o_farOne : Int32) (o_good : Int32) (p1 : Int32) : Option (Int32 × (Nat → Int32) × (Nat → Int32) × Int32 × Int32 × Int32 × Int32 × Int64 × Int32 × Int32 × Int32 × (Nat → Int32) × (Nat → Int32) × Int32 × Int32) := bnd (α := (Nat → Int32)) (lp (f_X12_readText_L2) fu ((0 : Int32), o_told)) (fun v6 => bnd (α := Int32 × Int32 × Int32 × Int32 × Int64) (f_X12_token fu o_tape (0 : Int32) o_length o_begins o_sort o_value o_word) (fun x7 => bnd (α := Int32 × Int32 × Int32 × Int32 × Int32 × Int64 × Int32 × Int32 × Int32 × (Nat → Int32) × (Nat → Int32) × Int32 × Int32) (f_X12_allLines fu o_tape x7.1 o_length x7.2.1 x7.2.2.1 x7.2.2.2.1 x7.2.2.2.2 o_wrongAt (0 : Int32) o_laterPlace v6 o_read (-1 : Int32) o_good p1) (fun x8 => bnd (α := Int32 × Int32) (if x8.1 = 0 then some (x8.2.2.2.2.2.2.2.1, x8.2.2.2.2.2.2.2.2.1) else if p1 = 0 then if x8.2.2.2.2.2.2.2.1 = 0 then bnd (α := Int32) (rdi 161 x8.2.2.2.2.2.2.2.2.2.1 (0 : Int32)) (fun x18 => if x8.2.2.2.2.2.2.2.2.2.2.2.1 < x18 then some (x8.2.2.2.2.2.2.2.1, x8.2.2.2.2.2.2.2.2.1) else bnd (α := Int32 × Int32) (f_X12_later fu x8.2.2.2.2.2.2.2.1 x8.2.2.2.2.2.2.2.2.1 (4 : Int32) x8.2.2.1) (fun x19 => some (x19.1, x19.2))) else some (x8.2.2.2.2.2.2.2.1, x8.2.2.2.2.2.2.2.2.1) else some (x8.2.2.2.2.2.2.2.1, x8.2.2.2.2.2.2.2.2.1)) (fun v10 => bnd (α := Int32) (if x8.1 = 0 then some (1 : Int32) else some v10.1) (fun v12 => bnd (α := (Nat → Int32)) (wri 4 o_fault (0 : Int32) v12) (fun x13 => bnd (α := Int32) (if x8.1 = 0 then some x8.2.2.2.2.2.2.1 else if v10.1 ≤ 0 then some (-1 : Int32) else some v10.2) (fun v15 => bnd (α := (Nat → Int32)) (wri 4 o_faultPlace (0 : Int32) v15) (fun x16 => bnd (α := Int32) (rdi 4 x13 (0 : Int32)) (fun x17 => if x17 = 0 then some ((1 : Int32), x13, x16, x8.2.1, x8.2.2.1, x8.2.2.2.1, x8.2.2.2.2.1, x8.2.2.2.2.2.1, x8.2.2.2.2.2.2.1, v10.1, v10.2, x8.2.2.2.2.2.2.2.2.2.1, x8.2.2.2.2.2.2.2.2.2.2.1, x8.2.2.2.2.2.2.2.2.2.2.2.1, x8.2.2.2.2.2.2.2.2.2.2.2.2) else some ((0 : Int32), x13, x16, x8.2.1, x8.2.2.1, x8.2.2.2.1, x8.2.2.2.2.1, x8.2.2.2.2.2.1, x8.2.2.2.2.2.2.1, v10.1, v10.2, x8.2.2.2.2.2.2.2.2.2.1, x8.2.2.2.2.2.2.2.2.2.2.1, x8.2.2.2.2.2.2.2.2.2.2.2.1, x8.2.2.2.2.2.2.2.2.2.2.2.2))))))))))
set_option maxHeartbeats 4000000 in
set_option maxRecDepth 100000 in
theorem c_X12_readText {l : Launch} {D : va_G} {g : Nat → ClassId} {fu : Nat} {o_q0 o_q1 o_q2 o_q3 o_q4 o_q5 o_q6 o_q7 o_q8 o_q9 o_q10 o_q11 o_q12 o_q13 o_q14 o_q15 o_q16 o_q17 o_q18 o_q19 o_q20 o_q21 o_q22 : Nat} {o_code : Int32} {o_tape : (Nat → Int32)} {o_size : (Nat → Int32)} {o_fault : (Nat → Int32)} {o_faultPlace : (Nat → Int32)} {o_many : (Nat → Int32)} {o_towns : (Nat → Int32)} {o_weeks : (Nat → Int32)} {o_logs : (Nat → Int32)} {o_reached : Int32} {o_length : Int32} {o_begins : Int32} {o_sort : Int32} {o_value : Int32} {o_word : Int64} {o_wrongAt : Int32} {o_laterFault : Int32} {o_laterPlace : Int32} {o_told : (Nat → Int32)} {o_read : (Nat → Int32)} {o_farOne : Int32} {o_good : Int32} {o_town : Int32} {o_people : Int32} {o_when : Int32} {o_sat : Int32} {o_quiet : Int32} {o_vain : Int32} {o_lent : Int32} {o_forgiven : Int32} {o_sundays : Int32} {o_purse : (Nat → Int32)} {o_beside : (Nat → Int32)} {o_debts : (Nat → Int32)} {o_sitting : (Nat → Int32)} {o_visited : (Nat → Int32)} {o_week : Int32} {o_heaps : (Nat → Int32)} {o_taken : (Nat → Int32)} {o_best : (Nat → Int32)} {o_more : (Nat → Int32)} {o_firstOne : Int32} {o_log : Int32} {o_fitting : (Nat → Int32)} {o_found : Int32} {o_seed : Int32} {o_row : (Nat → Int32)} {o_saved : (Nat → Int32)} {p1 : Int32} {r : Int32 × (Nat → Int32) × (Nat → Int32) × Int32 × Int32 × Int32 × Int32 × Int64 × Int32 × Int32 × Int32 × (Nat → Int32) × (Nat → Int32) × Int32 × Int32} (hf : f_X12_readText fu o_tape o_fault o_faultPlace o_reached o_length o_begins o_sort o_value o_word o_wrongAt o_laterFault o_laterPlace o_told o_read o_farOne o_good p1 = some r) : Wr l D (gy g) yX12_readText cX12_readText 3 (some .boolean) 7 [.ref o_q0, .int p1] (wMd g o_q0 o_q1 o_q2 o_q3 o_q4 o_q5 o_q6 o_q7 o_q8 o_q9 o_q10 o_q11 o_q12 o_q13 o_q14 o_q15 o_q16 o_q17 o_q18 o_q19 o_q20 o_q21 o_q22 o_code o_tape o_size o_fault o_faultPlace o_many o_towns o_weeks o_logs o_reached o_length o_begins o_sort o_value o_word o_wrongAt o_laterFault o_laterPlace o_told o_read o_farOne o_good o_town o_people o_when o_sat o_quiet o_vain o_lent o_forgiven o_sundays o_purse o_beside o_debts o_sitting o_visited o_week o_heaps o_taken o_best o_more o_firstOne o_log o_fitting o_found o_seed o_row o_saved) (wMd g o_q0 o_q1 o_q2 o_q3 o_q4 o_q5 o_q6 o_q7 o_q8 o_q9 o_q10 o_q11 o_q12 o_q13 o_q14 o_q15 o_q16 o_q17 o_q18 o_q19 o_q20 o_q21 o_q22 o_code o_tape o_size r.2.1 r.2.2.1 o_many o_towns o_weeks o_logs r.2.2.2.1 o_length r.2.2.2.2.1 r.2.2.2.2.2.1 r.2.2.2.2.2.2.1 r.2.2.2.2.2.2.2.1 r.2.2.2.2.2.2.2.2.1 r.2.2.2.2.2.2.2.2.2.1 r.2.2.2.2.2.2.2.2.2.2.1 r.2.2.2.2.2.2.2.2.2.2.2.1 r.2.2.2.2.2.2.2.2.2.2.2.2.1 r.2.2.2.2.2.2.2.2.2.2.2.2.2.1 r.2.2.2.2.2.2.2.2.2.2.2.2.2.2 o_town o_people o_when o_sat o_quiet o_vain o_lent o_forgiven o_sundays o_purse o_beside o_debts o_sitting o_visited o_week o_heaps o_taken o_best o_more o_firstOne o_log o_fitting o_found o_seed o_row o_saved) (some (.int r.1)) := by
  refine Wr.ofZ (by decide) (Nat.le_of_ble_eq_true rfl) ?_
  intro p e s m args below meth c Q A S hK hA hret ls hl hW
  have hl : lv_has ls 3 [(0, .ref o_q0), (1, .int p1)] := hl
  refine lv_iconst (v := 0) S.1 S.2.1 dX12_readText_0 ic_0 ?_
  refine lv_istore_n (lv' := [(2, .int (0 : Int32)), (0, .ref o_q0), (1, .int p1)]) S.1 S.2.1 dX12_readText_1 rfl hl (by decide) rfl (fun ls hl => ?_)
  obtain ⟨x3, hf_, hk3⟩ := bnd_e hf
  have hE3 : ∀ (v6 : (Nat → Int32)), v6 = x3 → ∀ (ls : Array Slot) (H : Heap) (locs : List Loc), lv_has ls 3 [(0, .ref o_q0), (1, .int p1)] → St A s.heap D (wMd g o_q0 o_q1 o_q2 o_q3 o_q4 o_q5 o_q6 o_q7 o_q8 o_q9 o_q10 o_q11 o_q12 o_q13 o_q14 o_q15 o_q16 o_q17 o_q18 o_q19 o_q20 o_q21 o_q22 o_code o_tape o_size o_fault o_faultPlace o_many o_towns o_weeks o_logs o_reached o_length o_begins o_sort o_value o_word o_wrongAt o_laterFault o_laterPlace v6 o_read o_farOne o_good o_town o_people o_when o_sat o_quiet o_vain o_lent o_forgiven o_sundays o_purse o_beside o_debts o_sitting o_visited o_week o_heaps o_taken o_best o_more o_firstOne o_log o_fitting o_found o_seed o_row o_saved) H locs → W p l e (rmD 7) s m args below meth c H locs 0 0 Q (F0 m 22 ls []) := by
    intro v6 e_ ls H locs hl hW
    subst e_
    have hf := hk3
    refine lv_aload_n S.1 S.2.1 dX12_readText_22 rfl (lv_at hl 0 rfl) ?_
    refine lv_iconst (v := (-1)) S.1 S.2.1 dX12_readText_23 ic_m1 ?_
    refine pfX12_168 (ws2 := (wMd g o_q0 o_q1 o_q2 o_q3 o_q4 o_q5 o_q6 o_q7 o_q8 o_q9 o_q10 o_q11 o_q12 o_q13 o_q14 o_q15 o_q16 o_q17 o_q18 o_q19 o_q20 o_q21 o_q22 o_code o_tape o_size o_fault o_faultPlace o_many o_towns o_weeks o_logs o_reached o_length o_begins o_sort o_value o_word o_wrongAt o_laterFault o_laterPlace v6 o_read (-1 : Int32) o_good o_town o_people o_when o_sat o_quiet o_vain o_lent o_forgiven o_sundays o_purse o_beside o_debts o_sitting o_visited o_week o_heaps o_taken o_best o_more o_firstOne o_log o_fitting o_found o_seed o_row o_saved)) S hK hW 0 rfl rfl rfl (Nat.le_of_ble_eq_true rfl) rfl dX12_readText_24 (fun H locs hW => ?_)
    refine lv_aload_n S.1 S.2.1 dX12_readText_27 rfl (lv_at hl 0 rfl) ?_
    refine lv_iconst (v := 0) S.1 S.2.1 dX12_readText_28 ic_0 ?_
    refine pfX12_98 (ws2 := (wMd g o_q0 o_q1 o_q2 o_q3 o_q4 o_q5 o_q6 o_q7 o_q8 o_q9 o_q10 o_q11 o_q12 o_q13 o_q14 o_q15 o_q16 o_q17 o_q18 o_q19 o_q20 o_q21 o_q22 o_code o_tape o_size o_fault o_faultPlace o_many o_towns o_weeks o_logs (0 : Int32) o_length o_begins o_sort o_value o_word o_wrongAt o_laterFault o_laterPlace v6 o_read (-1 : Int32) o_good o_town o_people o_when o_sat o_quiet o_vain o_lent o_forgiven o_sundays o_purse o_beside o_debts o_sitting o_visited o_week o_heaps o_taken o_best o_more o_firstOne o_log o_fitting o_found o_seed o_row o_saved)) S hK hW 0 rfl rfl rfl (Nat.le_of_ble_eq_true rfl) rfl dX12_readText_29 (fun H locs hW => ?_)
    refine lv_aload_n S.1 S.2.1 dX12_readText_32 rfl (lv_at hl 0 rfl) ?_
    refine lv_iconst (v := 0) S.1 S.2.1 dX12_readText_33 ic_0 ?_
    refine pfX12_124 (ws2 := (wMd g o_q0 o_q1 o_q2 o_q3 o_q4 o_q5 o_q6 o_q7 o_q8 o_q9 o_q10 o_q11 o_q12 o_q13 o_q14 o_q15 o_q16 o_q17 o_q18 o_q19 o_q20 o_q21 o_q22 o_code o_tape o_size o_fault o_faultPlace o_many o_towns o_weeks o_logs (0 : Int32) o_length o_begins o_sort o_value o_word o_wrongAt (0 : Int32) o_laterPlace v6 o_read (-1 : Int32) o_good o_town o_people o_when o_sat o_quiet o_vain o_lent o_forgiven o_sundays o_purse o_beside o_debts o_sitting o_visited o_week o_heaps o_taken o_best o_more o_firstOne o_log o_fitting o_found o_seed o_row o_saved)) S hK hW 0 rfl rfl rfl (Nat.le_of_ble_eq_true rfl) rfl dX12_readText_34 (fun H locs hW => ?_)
    refine lv_aload_n S.1 S.2.1 dX12_readText_37 rfl (lv_at hl 0 rfl) ?_
    obtain ⟨x7, hx7, hf⟩ := bnd_e hf
    refine Wr.goW (Wr.runV (c_X12_token hx7) S hK hW.1 hW.2.1 0 10 rfl rfl kVX12_142 rfl hl.1 [] rfl (Nat.le_of_ble_eq_true rfl) ⟨(Nat.le_of_ble_eq_true rfl), (Nat.le_of_ble_eq_true rfl)⟩ ⟨(Nat.zero_le _), (Nat.zero_le _)⟩ dX12_readText_38) hW hA (fun H locs hW => ?_)
    refine lv_aload_n S.1 S.2.1 dX12_readText_41 rfl (lv_at hl 0 rfl) ?_
    refine lv_iload_n S.1 S.2.1 dX12_readText_42 rfl (lv_at hl 1 rfl) ?_
    obtain ⟨x8, hx8, hf⟩ := bnd_e hf
    refine Wr.goW (Wr.runV (c_X12_allLines hx8) S hK hW.1 hW.2.1 0 10 rfl rfl kVX12_210 rfl hl.1 [] rfl (Nat.le_of_ble_eq_true rfl) ⟨(Nat.le_of_ble_eq_true rfl), (Nat.le_of_ble_eq_true rfl)⟩ ⟨(Nat.zero_le _), (Nat.zero_le _)⟩ dX12_readText_43) hW hA (fun H locs hW => ?_)
    refine lv_istore_n (lv' := [(2, .int x8.1), (0, .ref o_q0), (1, .int p1)]) S.1 S.2.1 dX12_readText_46 rfl hl (by decide) rfl (fun ls hl => ?_)
    refine lv_iload_n S.1 S.2.1 dX12_readText_47 rfl (lv_at hl 0 rfl) ?_
    obtain ⟨x9, hf_, hk9⟩ := bnd_e hf
    have hJ9 : ∀ (v10 : Int32 × Int32), v10 = x9 → ∀ (ls : Array Slot) (H : Heap) (locs : List Loc), lv_has ls 3 [(0, .ref o_q0), (2, .int x8.1)] → St A s.heap D (wMd g o_q0 o_q1 o_q2 o_q3 o_q4 o_q5 o_q6 o_q7 o_q8 o_q9 o_q10 o_q11 o_q12 o_q13 o_q14 o_q15 o_q16 o_q17 o_q18 o_q19 o_q20 o_q21 o_q22 o_code o_tape o_size o_fault o_faultPlace o_many o_towns o_weeks o_logs x8.2.1 o_length x8.2.2.1 x8.2.2.2.1 x8.2.2.2.2.1 x8.2.2.2.2.2.1 x8.2.2.2.2.2.2.1 v10.1 v10.2 x8.2.2.2.2.2.2.2.2.2.1 x8.2.2.2.2.2.2.2.2.2.2.1 x8.2.2.2.2.2.2.2.2.2.2.2.1 x8.2.2.2.2.2.2.2.2.2.2.2.2 o_town o_people o_when o_sat o_quiet o_vain o_lent o_forgiven o_sundays o_purse o_beside o_debts o_sitting o_visited o_week o_heaps o_taken o_best o_more o_firstOne o_log o_fitting o_found o_seed o_row o_saved) H locs → W p l e (rmD 7) s m args below meth c H locs 0 0 Q (F0 m 84 ls []) := by
      intro v10 e_ ls H locs hl hW
      subst e_
      have hf := hk9
      refine lv_aload_n S.1 S.2.1 dX12_readText_84 rfl (lv_at hl 0 rfl) ?_
      refine gfX12_17 S hK hW.1 0 rfl rfl dX12_readText_85 ?_
      refine lv_iconst (v := 0) S.1 S.2.1 dX12_readText_88 ic_0 ?_
      refine lv_iload_n S.1 S.2.1 dX12_readText_89 rfl (lv_at hl 1 rfl) ?_
      obtain ⟨x11, hf_, hk11⟩ := bnd_e hf
      have hJ11 : ∀ (v12 : Int32), v12 = x11 → ∀ (ls : Array Slot) (H : Heap) (locs : List Loc), lv_has ls 3 [(0, .ref o_q0), (2, .int x8.1)] → St A s.heap D (wMd g o_q0 o_q1 o_q2 o_q3 o_q4 o_q5 o_q6 o_q7 o_q8 o_q9 o_q10 o_q11 o_q12 o_q13 o_q14 o_q15 o_q16 o_q17 o_q18 o_q19 o_q20 o_q21 o_q22 o_code o_tape o_size o_fault o_faultPlace o_many o_towns o_weeks o_logs x8.2.1 o_length x8.2.2.1 x8.2.2.2.1 x8.2.2.2.2.1 x8.2.2.2.2.2.1 x8.2.2.2.2.2.2.1 v10.1 v10.2 x8.2.2.2.2.2.2.2.2.2.1 x8.2.2.2.2.2.2.2.2.2.2.1 x8.2.2.2.2.2.2.2.2.2.2.2.1 x8.2.2.2.2.2.2.2.2.2.2.2.2 o_town o_people o_when o_sat o_quiet o_vain o_lent o_forgiven o_sundays o_purse o_beside o_debts o_sitting o_visited o_week o_heaps o_taken o_best o_more o_firstOne o_log o_fitting o_found o_seed o_row o_saved) H locs → W p l e (rmD 7) s m args below meth c H locs 0 0 Q (F0 m 101 ls [.int v12, .int (0 : Int32), .ref o_q3]) := by
        intro v12 e_ ls H locs hl hW
        subst e_
        have hf := hk11
        obtain ⟨x13, hx13, hf⟩ := bnd_e hf
        refine q_iast (ws2 := (wMd g o_q0 o_q1 o_q2 o_q3 o_q4 o_q5 o_q6 o_q7 o_q8 o_q9 o_q10 o_q11 o_q12 o_q13 o_q14 o_q15 o_q16 o_q17 o_q18 o_q19 o_q20 o_q21 o_q22 o_code o_tape o_size x13 o_faultPlace o_many o_towns o_weeks o_logs x8.2.1 o_length x8.2.2.1 x8.2.2.2.1 x8.2.2.2.2.1 x8.2.2.2.2.2.1 x8.2.2.2.2.2.2.1 v10.1 v10.2 x8.2.2.2.2.2.2.2.2.2.1 x8.2.2.2.2.2.2.2.2.2.2.1 x8.2.2.2.2.2.2.2.2.2.2.2.1 x8.2.2.2.2.2.2.2.2.2.2.2.2 o_town o_people o_when o_sat o_quiet o_vain o_lent o_forgiven o_sundays o_purse o_beside o_debts o_sitting o_visited o_week o_heaps o_taken o_best o_more o_firstOne o_log o_fitting o_found o_seed o_row o_saved)) S hK hW 3 0 rfl rfl hx13 rfl dX12_readText_101 (fun H locs hW => ?_)
        refine lv_aload_n S.1 S.2.1 dX12_readText_102 rfl (lv_at hl 0 rfl) ?_
        refine gfX12_20 S hK hW.1 0 rfl rfl dX12_readText_103 ?_
        refine lv_iconst (v := 0) S.1 S.2.1 dX12_readText_106 ic_0 ?_
        refine lv_iload_n S.1 S.2.1 dX12_readText_107 rfl (lv_at hl 1 rfl) ?_
        obtain ⟨x14, hf_, hk14⟩ := bnd_e hf
        have hJ14 : ∀ (v15 : Int32), v15 = x14 → ∀ (ls : Array Slot) (H : Heap) (locs : List Loc), lv_has ls 3 [(0, .ref o_q0)] → St A s.heap D (wMd g o_q0 o_q1 o_q2 o_q3 o_q4 o_q5 o_q6 o_q7 o_q8 o_q9 o_q10 o_q11 o_q12 o_q13 o_q14 o_q15 o_q16 o_q17 o_q18 o_q19 o_q20 o_q21 o_q22 o_code o_tape o_size x13 o_faultPlace o_many o_towns o_weeks o_logs x8.2.1 o_length x8.2.2.1 x8.2.2.2.1 x8.2.2.2.2.1 x8.2.2.2.2.2.1 x8.2.2.2.2.2.2.1 v10.1 v10.2 x8.2.2.2.2.2.2.2.2.2.1 x8.2.2.2.2.2.2.2.2.2.2.1 x8.2.2.2.2.2.2.2.2.2.2.2.1 x8.2.2.2.2.2.2.2.2.2.2.2.2 o_town o_people o_when o_sat o_quiet o_vain o_lent o_forgiven o_sundays o_purse o_beside o_debts o_sitting o_visited o_week o_heaps o_taken o_best o_more o_firstOne o_log o_fitting o_found o_seed o_row o_saved) H locs → W p l e (rmD 7) s m args below meth c H locs 0 0 Q (F0 m 133 ls [.int v15, .int (0 : Int32), .ref o_q4]) := by
          intro v15 e_ ls H locs hl hW
          subst e_
          have hf := hk14
          obtain ⟨x16, hx16, hf⟩ := bnd_e hf
          refine q_iast (ws2 := (wMd g o_q0 o_q1 o_q2 o_q3 o_q4 o_q5 o_q6 o_q7 o_q8 o_q9 o_q10 o_q11 o_q12 o_q13 o_q14 o_q15 o_q16 o_q17 o_q18 o_q19 o_q20 o_q21 o_q22 o_code o_tape o_size x13 x16 o_many o_towns o_weeks o_logs x8.2.1 o_length x8.2.2.1 x8.2.2.2.1 x8.2.2.2.2.1 x8.2.2.2.2.2.1 x8.2.2.2.2.2.2.1 v10.1 v10.2 x8.2.2.2.2.2.2.2.2.2.1 x8.2.2.2.2.2.2.2.2.2.2.1 x8.2.2.2.2.2.2.2.2.2.2.2.1 x8.2.2.2.2.2.2.2.2.2.2.2.2 o_town o_people o_when o_sat o_quiet o_vain o_lent o_forgiven o_sundays o_purse o_beside o_debts o_sitting o_visited o_week o_heaps o_taken o_best o_more o_firstOne o_log o_fitting o_found o_seed o_row o_saved)) S hK hW 4 0 rfl rfl hx16 rfl dX12_readText_133 (fun H locs hW => ?_)
          refine lv_aload_n S.1 S.2.1 dX12_readText_134 rfl (lv_at hl 0 rfl) ?_
          refine gfX12_17 S hK hW.1 0 rfl rfl dX12_readText_135 ?_
          refine lv_iconst (v := 0) S.1 S.2.1 dX12_readText_138 ic_0 ?_
          obtain ⟨x17, hx17, hf⟩ := bnd_e hf
          refine q_iald S hK hW.1 3 0 rfl rfl hx17 dX12_readText_139 ?_
          refine lv_if_ne (tgt := 147) S.1 S.2.1 dX12_readText_140 (by decide) (fun c_ => ?_) (fun c_ => ?_)
          · have hf := it_n c_ hf
            refine lv_iconst (v := 0) S.1 S.2.1 dX12_readText_147 ic_0 ?_
            have e_ := Option.some.inj hf
            subst e_
            exact hret _ _ _ _ (Or.inl rfl) dX12_readText_148 hW
          · have hf := it_p c_ hf
            refine lv_iconst (v := 1) S.1 S.2.1 dX12_readText_143 ic_1 ?_
            refine lv_goto (tgt := 148) S.1 S.2.1 dX12_readText_144 (by decide) ?_
            have e_ := Option.some.inj hf
            subst e_
            exact hret _ _ _ _ (Or.inr rfl) dX12_readText_148 hW
        have hf := hf_
        refine lv_if_ne (tgt := 118) S.1 S.2.1 dX12_readText_108 (by decide) (fun c_ => ?_) (fun c_ => ?_)
        · have hf := it_n c_ hf
          refine lv_aload_n S.1 S.2.1 dX12_readText_118 rfl (lv_at hl 0 rfl) ?_
          refine gfX12_124 S hK hW.1 0 rfl rfl dX12_readText_119 ?_
          refine lv_if_le (tgt := 132) S.1 S.2.1 dX12_readText_122 (by decide) (fun c_ => ?_) (fun c_ => ?_)
          · have hf := it_p c_ hf
            refine lv_iconst (v := (-1)) S.1 S.2.1 dX12_readText_132 ic_m1 ?_
            exact hJ14 _ (Option.some.inj hf) _ _ _ (lv_sub hl [0] rfl) hW
          · have hf := it_n c_ hf
            refine lv_aload_n S.1 S.2.1 dX12_readText_125 rfl (lv_at hl 0 rfl) ?_
            refine gfX12_127 S hK hW.1 0 rfl rfl dX12_readText_126 ?_
            refine lv_goto (tgt := 133) S.1 S.2.1 dX12_readText_129 (by decide) ?_
            exact hJ14 _ (Option.some.inj hf) _ _ _ (lv_sub hl [0] rfl) hW
        · have hf := it_p c_ hf
          refine lv_aload_n S.1 S.2.1 dX12_readText_111 rfl (lv_at hl 0 rfl) ?_
          refine gfX12_121 S hK hW.1 0 rfl rfl dX12_readText_112 ?_
          refine lv_goto (tgt := 133) S.1 S.2.1 dX12_readText_115 (by decide) ?_
          exact hJ14 _ (Option.some.inj hf) _ _ _ (lv_sub hl [0] rfl) hW
      have hf := hf_
      refine lv_if_eq (tgt := 100) S.1 S.2.1 dX12_readText_90 (by decide) (fun c_ => ?_) (fun c_ => ?_)
      · have hf := it_p c_ hf
        refine lv_iconst (v := 1) S.1 S.2.1 dX12_readText_100 ic_1 ?_
        exact hJ11 _ (Option.some.inj hf) _ _ _ (lv_sub hl [0, 1] rfl) hW
      · have hf := it_n c_ hf
        refine lv_aload_n S.1 S.2.1 dX12_readText_93 rfl (lv_at hl 0 rfl) ?_
        refine gfX12_124 S hK hW.1 0 rfl rfl dX12_readText_94 ?_
        refine lv_goto (tgt := 101) S.1 S.2.1 dX12_readText_97 (by decide) ?_
        exact hJ11 _ (Option.some.inj hf) _ _ _ (lv_sub hl [0, 1] rfl) hW
    have hf := hf_
    refine lv_if_eq (tgt := 84) S.1 S.2.1 dX12_readText_48 (by decide) (fun c_ => ?_) (fun c_ => ?_)
    · have hf := it_p c_ hf
      exact hJ9 _ (Option.some.inj hf) _ _ _ (lv_sub hl [1, 0] rfl) hW
    · have hf := it_n c_ hf
      refine lv_iload_n S.1 S.2.1 dX12_readText_51 rfl (lv_at hl 2 rfl) ?_
      refine lv_if_ne (tgt := 84) S.1 S.2.1 dX12_readText_52 (by decide) (fun c_ => ?_) (fun c_ => ?_)
      · have hf := it_n c_ hf
        exact hJ9 _ (Option.some.inj hf) _ _ _ (lv_sub hl [1, 0] rfl) hW
      · have hf := it_p c_ hf
        refine lv_aload_n S.1 S.2.1 dX12_readText_55 rfl (lv_at hl 1 rfl) ?_
        refine gfX12_124 S hK hW.1 0 rfl rfl dX12_readText_56 ?_
        refine lv_if_ne (tgt := 84) S.1 S.2.1 dX12_readText_59 (by decide) (fun c_ => ?_) (fun c_ => ?_)
        · have hf := it_n c_ hf
          exact hJ9 _ (Option.some.inj hf) _ _ _ (lv_sub hl [1, 0] rfl) hW
        · have hf := it_p c_ hf
          refine lv_aload_n S.1 S.2.1 dX12_readText_62 rfl (lv_at hl 1 rfl) ?_
          refine gfX12_168 S hK hW.1 0 rfl rfl dX12_readText_63 ?_
          refine lv_aload_n S.1 S.2.1 dX12_readText_66 rfl (lv_at hl 1 rfl) ?_
          refine gfX12_35 S hK hW.1 0 rfl rfl dX12_readText_67 ?_
          refine lv_iconst (v := 0) S.1 S.2.1 dX12_readText_70 ic_0 ?_
          obtain ⟨x18, hx18, hf⟩ := bnd_e hf
          refine q_iald S hK hW.1 9 0 rfl rfl hx18 dX12_readText_71 ?_
          refine lv_icmp_lt (tgt := 84) S.1 S.2.1 dX12_readText_72 (by decide) (fun c_ => ?_) (fun c_ => ?_)
          · have hf := it_p c_ hf
            exact hJ9 _ (Option.some.inj hf) _ _ _ (lv_sub hl [1, 0] rfl) hW
          · have hf := it_n c_ hf
            refine lv_aload_n S.1 S.2.1 dX12_readText_75 rfl (lv_at hl 1 rfl) ?_
            refine lv_iconst (v := 4) S.1 S.2.1 dX12_readText_76 ic_4 ?_
            refine lv_aload_n S.1 S.2.1 dX12_readText_77 rfl (lv_at hl 1 rfl) ?_
            refine gfX12_108 S hK hW.1 0 rfl rfl dX12_readText_78 ?_
            obtain ⟨x19, hx19, hf⟩ := bnd_e hf
            refine Wr.goW (Wr.runV (c_X12_later hx19) S hK hW.1 hW.2.1 0 10 rfl rfl kVX12_134 rfl hl.1 [] rfl (Nat.le_of_ble_eq_true rfl) ⟨(Nat.le_of_ble_eq_true rfl), (Nat.le_of_ble_eq_true rfl)⟩ ⟨(Nat.zero_le _), (Nat.zero_le _)⟩ dX12_readText_81) hW hA (fun H locs hW => ?_)
            exact hJ9 _ (Option.some.inj hf) _ _ _ (lv_sub hl [1, 0] rfl) hW
  refine lp_ind (P := fun (s2 : Int32 × (Nat → Int32)) => ∀ (ls : Array Slot) (H : Heap) (locs : List Loc), lv_has ls 3 [(0, .ref o_q0), (1, .int p1), (2, .int s2.1)] → St A s.heap D (wMd g o_q0 o_q1 o_q2 o_q3 o_q4 o_q5 o_q6 o_q7 o_q8 o_q9 o_q10 o_q11 o_q12 o_q13 o_q14 o_q15 o_q16 o_q17 o_q18 o_q19 o_q20 o_q21 o_q22 o_code o_tape o_size o_fault o_faultPlace o_many o_towns o_weeks o_logs o_reached o_length o_begins o_sort o_value o_word o_wrongAt o_laterFault o_laterPlace s2.2 o_read o_farOne o_good o_town o_people o_when o_sat o_quiet o_vain o_lent o_forgiven o_sundays o_purse o_beside o_debts o_sitting o_visited o_week o_heaps o_taken o_best o_more o_firstOne o_log o_fitting o_found o_seed o_row o_saved) H locs → W p l e (rmD 7) s m args below meth c H locs 0 0 Q (F0 m 2 ls [])) ?_ _ _ hf_ _ _ _ (lv_sub hl [1, 2, 0] rfl) hW
  intro s2 x4 hf hI3 hR3 ls H locs hl hW
  refine lv_iload_n S.1 S.2.1 dX12_readText_2 rfl (lv_at hl 2 rfl) ?_
  refine lv_sipush (v := 161) S.1 S.2.1 dX12_readText_3 sp_161 ?_
  refine lv_icmp_ge (tgt := 22) S.1 S.2.1 dX12_readText_6 (by decide) (fun c_ => ?_) (fun c_ => ?_)
  · have hf := it_p c_ hf
    have e_ := hR3 _ (Option.some.inj hf).symm
    exact hE3 _ e_ _ _ _ (lv_sub hl [0, 1] rfl) hW
  · have hf := it_n c_ hf
    refine lv_aload_n S.1 S.2.1 dX12_readText_9 rfl (lv_at hl 0 rfl) ?_
    refine gfX12_35 S hK hW.1 0 rfl rfl dX12_readText_10 ?_
    refine lv_iload_n S.1 S.2.1 dX12_readText_13 rfl (lv_at hl 2 rfl) ?_
    refine lv_iconst (v := 0) S.1 S.2.1 dX12_readText_14 ic_0 ?_
    obtain ⟨x5, hx5, hf⟩ := bnd_e hf
    refine q_iast (ws2 := (wMd g o_q0 o_q1 o_q2 o_q3 o_q4 o_q5 o_q6 o_q7 o_q8 o_q9 o_q10 o_q11 o_q12 o_q13 o_q14 o_q15 o_q16 o_q17 o_q18 o_q19 o_q20 o_q21 o_q22 o_code o_tape o_size o_fault o_faultPlace o_many o_towns o_weeks o_logs o_reached o_length o_begins o_sort o_value o_word o_wrongAt o_laterFault o_laterPlace x5 o_read o_farOne o_good o_town o_people o_when o_sat o_quiet o_vain o_lent o_forgiven o_sundays o_purse o_beside o_debts o_sitting o_visited o_week o_heaps o_taken o_best o_more o_firstOne o_log o_fitting o_found o_seed o_row o_saved)) S hK hW 9 0 rfl rfl hx5 rfl dX12_readText_15 (fun H locs hW => ?_)
    refine q_iinc (w := 1) (lv' := [(2, .int (s2.1 + 1)), (0, .ref o_q0), (1, .int p1)]) S dX12_readText_16 hl (k := 2) rfl ic_1 (by decide) rfl (fun ls hl => ?_)
    refine lv_goto (tgt := 2) S.1 S.2.1 dX12_readText_19 (by decide) ?_
    exact hI3 _ (Option.some.inj hf).symm _ _ _ (lv_sub hl [1, 2, 0] rfl) hW
def f_X12_store_L3 (o_told : (Nat → Int32)) (p2 : Int32) (p3 : Int32) (p1_n : Nat) (s2 : Int32 × (Nat → Int32)) : Option ((Int32 × (Nat → Int32)) ⊕ ((Nat → Int32))) := if p2 ≤ s2.1 then some (.inr s2.2) else bnd (α := Int32) (rdi 161 o_told s2.1) (fun x5 => bnd (α := (Nat → Int32)) (wri p1_n s2.2 ((p2 * p3) + s2.1) x5) (fun x6 => some (.inl ((s2.1 + 1), x6))))
def f_X12_store (fu : Nat) (p1_n : Nat) (o_told : (Nat → Int32)) (p1_f : (Nat → Int32)) (p2 : Int32) (p3 : Int32) : Option ((Nat → Int32)) := bnd (α := (Nat → Int32)) (lp (f_X12_store_L3 o_told p2 p3 p1_n) fu ((0 : Int32), p1_f)) (fun v7 => some v7)
set_option maxHeartbeats 4000000 in
set_option maxRecDepth 100000 in
theorem c_X12_store {l : Launch} {D : va_G} {g : Nat → ClassId} {fu : Nat} {o_q0 o_q1 o_q2 o_q3 o_q4 o_q5 o_q6 o_q7 o_q8 o_q9 o_q10 o_q11 o_q12 o_q13 o_q14 o_q15 o_q16 o_q17 o_q18 o_q19 o_q20 o_q21 o_q22 p1_q0 : Nat} {p1_n : Nat} {o_code : Int32} {o_reached : Int32} {o_length : Int32} {o_begins : Int32} {o_sort : Int32} {o_value : Int32} {o_word : Int64} {o_wrongAt : Int32} {o_laterFault : Int32} {o_laterPlace : Int32} {o_told : (Nat → Int32)} {o_farOne : Int32} {o_good : Int32} {o_town : Int32} {o_people : Int32} {o_when : Int32} {o_sat : Int32} {o_quiet : Int32} {o_vain : Int32} {o_lent : Int32} {o_forgiven : Int32} {o_sundays : Int32} {o_week : Int32} {o_firstOne : Int32} {o_log : Int32} {o_found : Int32} {o_seed : Int32} {p1_f : (Nat → Int32)} {p2 : Int32} {p3 : Int32} {r : (Nat → Int32)} (hf : f_X12_store fu p1_n o_told p1_f p2 p3 = some r) : Wr l D (gy g) yX12_store cX12_store 5 none 0 [.ref o_q0, .ref p1_q0, .int p2, .int p3] (wMdo g o_q0 o_q1 o_q2 o_q3 o_q4 o_q5 o_q6 o_q7 o_q8 o_q9 o_q10 o_q11 o_q12 o_q13 o_q14 o_q15 o_q16 o_q17 o_q18 o_q19 o_q20 o_q21 o_q22 o_code o_reached o_length o_begins o_sort o_value o_word o_wrongAt o_laterFault o_laterPlace o_told o_farOne o_good o_town o_people o_when o_sat o_quiet o_vain o_lent o_forgiven o_sundays o_week o_firstOne o_log o_found o_seed ++ wAI g p1_q0 p1_n p1_f) (wMdo g o_q0 o_q1 o_q2 o_q3 o_q4 o_q5 o_q6 o_q7 o_q8 o_q9 o_q10 o_q11 o_q12 o_q13 o_q14 o_q15 o_q16 o_q17 o_q18 o_q19 o_q20 o_q21 o_q22 o_code o_reached o_length o_begins o_sort o_value o_word o_wrongAt o_laterFault o_laterPlace o_told o_farOne o_good o_town o_people o_when o_sat o_quiet o_vain o_lent o_forgiven o_sundays o_week o_firstOne o_log o_found o_seed ++ wAI g p1_q0 p1_n r) none := by
  refine Wr.ofV (by decide) (Nat.le_of_ble_eq_true rfl) ?_
  intro p e s m args below meth c Q A S hK hA hret ls hl hW
  have hl : lv_has ls 5 [(0, .ref o_q0), (1, .ref p1_q0), (2, .int p2), (3, .int p3)] := hl
  refine lv_iconst (v := 0) S.1 S.2.1 dX12_store_0 ic_0 ?_
  refine lv_istore (lv' := [(4, .int (0 : Int32)), (0, .ref o_q0), (1, .ref p1_q0), (2, .int p2), (3, .int p3)]) S.1 S.2.1 dX12_store_1 hl (by decide) rfl (fun ls hl => ?_)
  obtain ⟨x3, hf_, hk3⟩ := bnd_e hf
  have hE3 : ∀ (v7 : (Nat → Int32)), v7 = x3 → ∀ (ls : Array Slot) (H : Heap) (locs : List Loc), lv_has ls 5 [] → St A s.heap D (wMdo g o_q0 o_q1 o_q2 o_q3 o_q4 o_q5 o_q6 o_q7 o_q8 o_q9 o_q10 o_q11 o_q12 o_q13 o_q14 o_q15 o_q16 o_q17 o_q18 o_q19 o_q20 o_q21 o_q22 o_code o_reached o_length o_begins o_sort o_value o_word o_wrongAt o_laterFault o_laterPlace o_told o_farOne o_good o_town o_people o_when o_sat o_quiet o_vain o_lent o_forgiven o_sundays o_week o_firstOne o_log o_found o_seed ++ wAI g p1_q0 p1_n v7) H locs → W p l e (rmD 0) s m args below meth c H locs 0 0 Q (F0 m 30 ls []) := by
    intro v7 e_ ls H locs hl hW
    subst e_
    have hf := hk3
    have e_ := Option.some.inj hf
    subst e_
    exact hret _ _ _ _ dX12_store_30 hW
  refine lp_ind (P := fun (s2 : Int32 × (Nat → Int32)) => ∀ (ls : Array Slot) (H : Heap) (locs : List Loc), lv_has ls 5 [(0, .ref o_q0), (1, .ref p1_q0), (2, .int p2), (3, .int p3), (4, .int s2.1)] → St A s.heap D (wMdo g o_q0 o_q1 o_q2 o_q3 o_q4 o_q5 o_q6 o_q7 o_q8 o_q9 o_q10 o_q11 o_q12 o_q13 o_q14 o_q15 o_q16 o_q17 o_q18 o_q19 o_q20 o_q21 o_q22 o_code o_reached o_length o_begins o_sort o_value o_word o_wrongAt o_laterFault o_laterPlace o_told o_farOne o_good o_town o_people o_when o_sat o_quiet o_vain o_lent o_forgiven o_sundays o_week o_firstOne o_log o_found o_seed ++ wAI g p1_q0 p1_n s2.2) H locs → W p l e (rmD 0) s m args below meth c H locs 0 0 Q (F0 m 3 ls [])) ?_ _ _ hf_ _ _ _ (lv_sub hl [1, 2, 3, 4, 0] rfl) hW
  intro s2 x4 hf hI3 hR3 ls H locs hl hW
  refine lv_iload S.1 S.2.1 dX12_store_3 (lv_at hl 4 rfl) ?_
  refine lv_iload_n S.1 S.2.1 dX12_store_5 rfl (lv_at hl 2 rfl) ?_
  refine lv_icmp_ge (tgt := 30) S.1 S.2.1 dX12_store_6 (by decide) (fun c_ => ?_) (fun c_ => ?_)
  · have hf := it_p c_ hf
    have e_ := hR3 _ (Option.some.inj hf).symm
    exact hE3 _ e_ _ _ _ (lv_sub hl [] rfl) hW
  · have hf := it_n c_ hf
    refine lv_aload_n S.1 S.2.1 dX12_store_9 rfl (lv_at hl 1 rfl) ?_
    refine lv_iload_n S.1 S.2.1 dX12_store_10 rfl (lv_at hl 2 rfl) ?_
    refine lv_iload_n S.1 S.2.1 dX12_store_11 rfl (lv_at hl 3 rfl) ?_
    refine lv_imul S.1 S.2.1 dX12_store_12 ?_
    refine lv_iload S.1 S.2.1 dX12_store_13 (lv_at hl 4 rfl) ?_
    refine lv_iadd S.1 S.2.1 dX12_store_15 ?_
    refine lv_aload_n S.1 S.2.1 dX12_store_16 rfl (lv_at hl 0 rfl) ?_
    refine gfX12_35 S hK hW.1 0 rfl rfl dX12_store_17 ?_
    refine lv_iload S.1 S.2.1 dX12_store_20 (lv_at hl 4 rfl) ?_
    obtain ⟨x5, hx5, hf⟩ := bnd_e hf
    refine q_iald S hK hW.1 1 0 rfl rfl hx5 dX12_store_22 ?_
    obtain ⟨x6, hx6, hf⟩ := bnd_e hf
    refine q_iast (ws2 := (wMdo g o_q0 o_q1 o_q2 o_q3 o_q4 o_q5 o_q6 o_q7 o_q8 o_q9 o_q10 o_q11 o_q12 o_q13 o_q14 o_q15 o_q16 o_q17 o_q18 o_q19 o_q20 o_q21 o_q22 o_code o_reached o_length o_begins o_sort o_value o_word o_wrongAt o_laterFault o_laterPlace o_told o_farOne o_good o_town o_people o_when o_sat o_quiet o_vain o_lent o_forgiven o_sundays o_week o_firstOne o_log o_found o_seed ++ wAI g p1_q0 p1_n x6)) S hK hW 2 0 rfl rfl hx6 rfl dX12_store_23 (fun H locs hW => ?_)
    refine q_iinc (w := 1) (lv' := [(4, .int (s2.1 + 1)), (0, .ref o_q0), (1, .ref p1_q0), (2, .int p2), (3, .int p3)]) S dX12_store_24 hl (k := 4) rfl ic_1 (by decide) rfl (fun ls hl => ?_)
    refine lv_goto (tgt := 3) S.1 S.2.1 dX12_store_27 (by decide) ?_
    exact hI3 _ (Option.some.inj hf).symm _ _ _ (lv_sub hl [1, 2, 3, 4, 0] rfl) hW
def f_X12_text (fu : Nat) (o_code : Int32) (o_tape : (Nat → Int32)) (o_size : (Nat → Int32)) (o_fault : (Nat → Int32)) (o_faultPlace : (Nat → Int32)) (o_many : (Nat → Int32)) (o_towns : (Nat → Int32)) (o_weeks : (Nat → Int32)) (o_logs : (Nat → Int32)) (o_reached : Int32) (o_length : Int32) (o_begins : Int32) (o_sort : Int32) (o_value : Int32) (o_word : Int64) (o_wrongAt : Int32) (o_laterFault : Int32) (o_laterPlace : Int32) (o_told : (Nat → Int32)) (o_read : (Nat → Int32)) (o_farOne : Int32) (o_good : Int32) (p1 : Int32) (p2 : Int32) : Option (Int32 × Int32 × (Nat → Int32) × (Nat → Int32) × (Nat → Int32) × (Nat → Int32) × (Nat → Int32) × (Nat → Int32) × (Nat → Int32) × Int32 × Int32 × Int32 × Int32 × Int32 × Int64 × Int32 × Int32 × Int32 × (Nat → Int32) × (Nat → Int32) × Int32 × Int32) := bnd (α := Int32) (rdi 4 o_size (0 : Int32)) (fun x1 => bnd (α := (Nat → Int32)) (wri 4 o_size (0 : Int32) (0 : Int32)) (fun x2 => bnd (α := (Nat → Int32)) (wri 4 o_fault (0 : Int32) (0 : Int32)) (fun x3 => bnd (α := (Nat → Int32)) (wri 4 o_faultPlace (0 : Int32) (-1 : Int32)) (fun x4 => bnd (α := Int32) (f_X12_in fu p1 (0 : Int32) (2 : Int32)) (fun x5 => if x5 = 0 then some ((-2 : Int32), (0 : Int32), x2, x3, x4, o_many, o_towns, o_weeks, o_logs, o_reached, x1, o_begins, o_sort, o_value, o_word, o_wrongAt, o_laterFault, o_laterPlace, o_told, o_read, o_farOne, o_good) else if p2 = (-1 : Int32) then bnd (α := Int32) (rdi 12 o_many p1) (fun x6 => if x6 = (2 : Int32) then some ((-2 : Int32), (0 : Int32), x2, x3, x4, o_many, o_towns, o_weeks, o_logs, o_reached, x1, o_begins, o_sort, o_value, o_word, o_wrongAt, o_laterFault, o_laterPlace, o_told, o_read, o_farOne, o_good) else bnd (α := Int32 × (Nat → Int32) × (Nat → Int32) × Int32 × Int32 × Int32 × Int32 × Int64 × Int32 × Int32 × Int32 × (Nat → Int32) × (Nat → Int32) × Int32 × Int32) (f_X12_readText fu o_tape x3 x4 o_reached x1 o_begins o_sort o_value o_word o_wrongAt o_laterFault o_laterPlace o_told o_read o_farOne o_good p1) (fun x7 => if x7.1 = 0 then some ((-1 : Int32), (0 : Int32), x2, x7.2.1, x7.2.2.1, o_many, o_towns, o_weeks, o_logs, x7.2.2.2.1, x1, x7.2.2.2.2.1, x7.2.2.2.2.2.1, x7.2.2.2.2.2.2.1, x7.2.2.2.2.2.2.2.1, x7.2.2.2.2.2.2.2.2.1, x7.2.2.2.2.2.2.2.2.2.1, x7.2.2.2.2.2.2.2.2.2.2.1, x7.2.2.2.2.2.2.2.2.2.2.2.1, x7.2.2.2.2.2.2.2.2.2.2.2.2.1, x7.2.2.2.2.2.2.2.2.2.2.2.2.2.1, x7.2.2.2.2.2.2.2.2.2.2.2.2.2.2) else bnd (α := Int32) (if p2 = (-1 : Int32) then bnd (α := Int32) (rdi 12 o_many p1) (fun x18 => some x18) else some p2) (fun v9 => bnd (α := Int32) (rdi 12 o_many p1) (fun x10 => bnd (α := Int32) (if p2 = (-1 : Int32) then some (1 : Int32) else some (0 : Int32)) (fun v12 => ltn (x10 + v12) (fun x13 => bnd (α := (Nat → Int32)) (wri 12 o_many p1 x13) (fun x14 => if p1 = 0 then bnd (α := (Nat → Int32)) (f_X12_store fu 440 x7.2.2.2.2.2.2.2.2.2.2.2.1 o_towns (55 : Int32) v9) (fun x15 => some (v9, (0 : Int32), x2, x7.2.1, x7.2.2.1, x14, x15, o_weeks, o_logs, x7.2.2.2.1, x1, x7.2.2.2.2.1, x7.2.2.2.2.2.1, x7.2.2.2.2.2.2.1, x7.2.2.2.2.2.2.2.1, x7.2.2.2.2.2.2.2.2.1, x7.2.2.2.2.2.2.2.2.2.1, x7.2.2.2.2.2.2.2.2.2.2.1, x7.2.2.2.2.2.2.2.2.2.2.2.1, x7.2.2.2.2.2.2.2.2.2.2.2.2.1, x7.2.2.2.2.2.2.2.2.2.2.2.2.2.1, x7.2.2.2.2.2.2.2.2.2.2.2.2.2.2)) else if p1 = (1 : Int32) then bnd (α := (Nat → Int32)) (f_X12_store fu 1288 x7.2.2.2.2.2.2.2.2.2.2.2.1 o_weeks (161 : Int32) v9) (fun x16 => some (v9, (0 : Int32), x2, x7.2.1, x7.2.2.1, x14, o_towns, x16, o_logs, x7.2.2.2.1, x1, x7.2.2.2.2.1, x7.2.2.2.2.2.1, x7.2.2.2.2.2.2.1, x7.2.2.2.2.2.2.2.1, x7.2.2.2.2.2.2.2.2.1, x7.2.2.2.2.2.2.2.2.2.1, x7.2.2.2.2.2.2.2.2.2.2.1, x7.2.2.2.2.2.2.2.2.2.2.2.1, x7.2.2.2.2.2.2.2.2.2.2.2.2.1, x7.2.2.2.2.2.2.2.2.2.2.2.2.2.1, x7.2.2.2.2.2.2.2.2.2.2.2.2.2.2)) else bnd (α := (Nat → Int32)) (f_X12_store fu 200 x7.2.2.2.2.2.2.2.2.2.2.2.1 o_logs (25 : Int32) v9) (fun x17 => some (v9, (0 : Int32), x2, x7.2.1, x7.2.2.1, x14, o_towns, o_weeks, x17, x7.2.2.2.1, x1, x7.2.2.2.2.1, x7.2.2.2.2.2.1, x7.2.2.2.2.2.2.1, x7.2.2.2.2.2.2.2.1, x7.2.2.2.2.2.2.2.2.1, x7.2.2.2.2.2.2.2.2.2.1, x7.2.2.2.2.2.2.2.2.2.2.1, x7.2.2.2.2.2.2.2.2.2.2.2.1, x7.2.2.2.2.2.2.2.2.2.2.2.2.1, x7.2.2.2.2.2.2.2.2.2.2.2.2.2.1, x7.2.2.2.2.2.2.2.2.2.2.2.2.2.2))))))))) else bnd (α := Int32) (f_X12_is fu o_many p1 p2) (fun x19 => if x19 = 0 then some ((-2 : Int32), (0 : Int32), x2, x3, x4, o_many, o_towns, o_weeks, o_logs, o_reached, x1, o_begins, o_sort, o_value, o_word, o_wrongAt, o_laterFault, o_laterPlace, o_told, o_read, o_farOne, o_good) else bnd (α := Int32 × (Nat → Int32) × (Nat → Int32) × Int32 × Int32 × Int32 × Int32 × Int64 × Int32 × Int32 × Int32 × (Nat → Int32) × (Nat → Int32) × Int32 × Int32) (f_X12_readText fu o_tape x3 x4 o_reached x1 o_begins o_sort o_value o_word o_wrongAt o_laterFault o_laterPlace o_told o_read o_farOne o_good p1) (fun x20 => if x20.1 = 0 then some ((-1 : Int32), (0 : Int32), x2, x20.2.1, x20.2.2.1, o_many, o_towns, o_weeks, o_logs, x20.2.2.2.1, x1, x20.2.2.2.2.1, x20.2.2.2.2.2.1, x20.2.2.2.2.2.2.1, x20.2.2.2.2.2.2.2.1, x20.2.2.2.2.2.2.2.2.1, x20.2.2.2.2.2.2.2.2.2.1, x20.2.2.2.2.2.2.2.2.2.2.1, x20.2.2.2.2.2.2.2.2.2.2.2.1, x20.2.2.2.2.2.2.2.2.2.2.2.2.1, x20.2.2.2.2.2.2.2.2.2.2.2.2.2.1, x20.2.2.2.2.2.2.2.2.2.2.2.2.2.2) else bnd (α := Int32) (if p2 = (-1 : Int32) then bnd (α := Int32) (rdi 12 o_many p1) (fun x31 => some x31) else some p2) (fun v22 => bnd (α := Int32) (rdi 12 o_many p1) (fun x23 => bnd (α := Int32) (if p2 = (-1 : Int32) then some (1 : Int32) else some (0 : Int32)) (fun v25 => ltn (x23 + v25) (fun x26 => bnd (α := (Nat → Int32)) (wri 12 o_many p1 x26) (fun x27 => if p1 = 0 then bnd (α := (Nat → Int32)) (f_X12_store fu 440 x20.2.2.2.2.2.2.2.2.2.2.2.1 o_towns (55 : Int32) v22) (fun x28 => some (v22, (0 : Int32), x2, x20.2.1, x20.2.2.1, x27, x28, o_weeks, o_logs, x20.2.2.2.1, x1, x20.2.2.2.2.1, x20.2.2.2.2.2.1, x20.2.2.2.2.2.2.1, x20.2.2.2.2.2.2.2.1, x20.2.2.2.2.2.2.2.2.1, x20.2.2.2.2.2.2.2.2.2.1, x20.2.2.2.2.2.2.2.2.2.2.1, x20.2.2.2.2.2.2.2.2.2.2.2.1, x20.2.2.2.2.2.2.2.2.2.2.2.2.1, x20.2.2.2.2.2.2.2.2.2.2.2.2.2.1, x20.2.2.2.2.2.2.2.2.2.2.2.2.2.2)) else if p1 = (1 : Int32) then bnd (α := (Nat → Int32)) (f_X12_store fu 1288 x20.2.2.2.2.2.2.2.2.2.2.2.1 o_weeks (161 : Int32) v22) (fun x29 => some (v22, (0 : Int32), x2, x20.2.1, x20.2.2.1, x27, o_towns, x29, o_logs, x20.2.2.2.1, x1, x20.2.2.2.2.1, x20.2.2.2.2.2.1, x20.2.2.2.2.2.2.1, x20.2.2.2.2.2.2.2.1, x20.2.2.2.2.2.2.2.2.1, x20.2.2.2.2.2.2.2.2.2.1, x20.2.2.2.2.2.2.2.2.2.2.1, x20.2.2.2.2.2.2.2.2.2.2.2.1, x20.2.2.2.2.2.2.2.2.2.2.2.2.1, x20.2.2.2.2.2.2.2.2.2.2.2.2.2.1, x20.2.2.2.2.2.2.2.2.2.2.2.2.2.2)) else bnd (α := (Nat → Int32)) (f_X12_store fu 200 x20.2.2.2.2.2.2.2.2.2.2.2.1 o_logs (25 : Int32) v22) (fun x30 => some (v22, (0 : Int32), x2, x20.2.1, x20.2.2.1, x27, o_towns, o_weeks, x30, x20.2.2.2.1, x1, x20.2.2.2.2.1, x20.2.2.2.2.2.1, x20.2.2.2.2.2.2.1, x20.2.2.2.2.2.2.2.1, x20.2.2.2.2.2.2.2.2.1, x20.2.2.2.2.2.2.2.2.2.1, x20.2.2.2.2.2.2.2.2.2.2.1, x20.2.2.2.2.2.2.2.2.2.2.2.1, x20.2.2.2.2.2.2.2.2.2.2.2.2.1, x20.2.2.2.2.2.2.2.2.2.2.2.2.2.1, x20.2.2.2.2.2.2.2.2.2.2.2.2.2.2))))))))))))))
set_option maxHeartbeats 4000000 in
set_option maxRecDepth 100000 in
theorem c_X12_text {l : Launch} {D : va_G} {g : Nat → ClassId} {fu : Nat} {o_q0 o_q1 o_q2 o_q3 o_q4 o_q5 o_q6 o_q7 o_q8 o_q9 o_q10 o_q11 o_q12 o_q13 o_q14 o_q15 o_q16 o_q17 o_q18 o_q19 o_q20 o_q21 o_q22 : Nat} {o_code : Int32} {o_tape : (Nat → Int32)} {o_size : (Nat → Int32)} {o_fault : (Nat → Int32)} {o_faultPlace : (Nat → Int32)} {o_many : (Nat → Int32)} {o_towns : (Nat → Int32)} {o_weeks : (Nat → Int32)} {o_logs : (Nat → Int32)} {o_reached : Int32} {o_length : Int32} {o_begins : Int32} {o_sort : Int32} {o_value : Int32} {o_word : Int64} {o_wrongAt : Int32} {o_laterFault : Int32} {o_laterPlace : Int32} {o_told : (Nat → Int32)} {o_read : (Nat → Int32)} {o_farOne : Int32} {o_good : Int32} {o_town : Int32} {o_people : Int32} {o_when : Int32} {o_sat : Int32} {o_quiet : Int32} {o_vain : Int32} {o_lent : Int32} {o_forgiven : Int32} {o_sundays : Int32} {o_purse : (Nat → Int32)} {o_beside : (Nat → Int32)} {o_debts : (Nat → Int32)} {o_sitting : (Nat → Int32)} {o_visited : (Nat → Int32)} {o_week : Int32} {o_heaps : (Nat → Int32)} {o_taken : (Nat → Int32)} {o_best : (Nat → Int32)} {o_more : (Nat → Int32)} {o_firstOne : Int32} {o_log : Int32} {o_fitting : (Nat → Int32)} {o_found : Int32} {o_seed : Int32} {o_row : (Nat → Int32)} {o_saved : (Nat → Int32)} {p1 : Int32} {p2 : Int32} {r : Int32 × Int32 × (Nat → Int32) × (Nat → Int32) × (Nat → Int32) × (Nat → Int32) × (Nat → Int32) × (Nat → Int32) × (Nat → Int32) × Int32 × Int32 × Int32 × Int32 × Int32 × Int64 × Int32 × Int32 × Int32 × (Nat → Int32) × (Nat → Int32) × Int32 × Int32} (hf : f_X12_text fu o_code o_tape o_size o_fault o_faultPlace o_many o_towns o_weeks o_logs o_reached o_length o_begins o_sort o_value o_word o_wrongAt o_laterFault o_laterPlace o_told o_read o_farOne o_good p1 p2 = some r) : Wr l D (gy g) yX12_text cX12_text 4 (some .int) 8 [.ref o_q0, .int p1, .int p2] (wMd g o_q0 o_q1 o_q2 o_q3 o_q4 o_q5 o_q6 o_q7 o_q8 o_q9 o_q10 o_q11 o_q12 o_q13 o_q14 o_q15 o_q16 o_q17 o_q18 o_q19 o_q20 o_q21 o_q22 o_code o_tape o_size o_fault o_faultPlace o_many o_towns o_weeks o_logs o_reached o_length o_begins o_sort o_value o_word o_wrongAt o_laterFault o_laterPlace o_told o_read o_farOne o_good o_town o_people o_when o_sat o_quiet o_vain o_lent o_forgiven o_sundays o_purse o_beside o_debts o_sitting o_visited o_week o_heaps o_taken o_best o_more o_firstOne o_log o_fitting o_found o_seed o_row o_saved) (wMd g o_q0 o_q1 o_q2 o_q3 o_q4 o_q5 o_q6 o_q7 o_q8 o_q9 o_q10 o_q11 o_q12 o_q13 o_q14 o_q15 o_q16 o_q17 o_q18 o_q19 o_q20 o_q21 o_q22 r.2.1 o_tape r.2.2.1 r.2.2.2.1 r.2.2.2.2.1 r.2.2.2.2.2.1 r.2.2.2.2.2.2.1 r.2.2.2.2.2.2.2.1 r.2.2.2.2.2.2.2.2.1 r.2.2.2.2.2.2.2.2.2.1 r.2.2.2.2.2.2.2.2.2.2.1 r.2.2.2.2.2.2.2.2.2.2.2.1 r.2.2.2.2.2.2.2.2.2.2.2.2.1 r.2.2.2.2.2.2.2.2.2.2.2.2.2.1 r.2.2.2.2.2.2.2.2.2.2.2.2.2.2.1 r.2.2.2.2.2.2.2.2.2.2.2.2.2.2.2.1 r.2.2.2.2.2.2.2.2.2.2.2.2.2.2.2.2.1 r.2.2.2.2.2.2.2.2.2.2.2.2.2.2.2.2.2.1 r.2.2.2.2.2.2.2.2.2.2.2.2.2.2.2.2.2.2.1 r.2.2.2.2.2.2.2.2.2.2.2.2.2.2.2.2.2.2.2.1 r.2.2.2.2.2.2.2.2.2.2.2.2.2.2.2.2.2.2.2.2.1 r.2.2.2.2.2.2.2.2.2.2.2.2.2.2.2.2.2.2.2.2.2 o_town o_people o_when o_sat o_quiet o_vain o_lent o_forgiven o_sundays o_purse o_beside o_debts o_sitting o_visited o_week o_heaps o_taken o_best o_more o_firstOne o_log o_fitting o_found o_seed o_row o_saved) (some (.int r.1)) := by
  refine Wr.ofI (by decide) (Nat.le_of_ble_eq_true rfl) ?_
  intro p e s m args below meth c Q A S hK hA hret ls hl hW
  have hl : lv_has ls 4 [(0, .ref o_q0), (1, .int p1), (2, .int p2)] := hl
  refine lv_aload_n S.1 S.2.1 dX12_text_0 rfl (lv_at hl 0 rfl) ?_
  refine lv_iconst (v := 0) S.1 S.2.1 dX12_text_1 ic_0 ?_
  refine pfX12_78 (ws2 := (wMd g o_q0 o_q1 o_q2 o_q3 o_q4 o_q5 o_q6 o_q7 o_q8 o_q9 o_q10 o_q11 o_q12 o_q13 o_q14 o_q15 o_q16 o_q17 o_q18 o_q19 o_q20 o_q21 o_q22 (0 : Int32) o_tape o_size o_fault o_faultPlace o_many o_towns o_weeks o_logs o_reached o_length o_begins o_sort o_value o_word o_wrongAt o_laterFault o_laterPlace o_told o_read o_farOne o_good o_town o_people o_when o_sat o_quiet o_vain o_lent o_forgiven o_sundays o_purse o_beside o_debts o_sitting o_visited o_week o_heaps o_taken o_best o_more o_firstOne o_log o_fitting o_found o_seed o_row o_saved)) S hK hW 0 rfl rfl rfl (Nat.le_of_ble_eq_true rfl) rfl dX12_text_2 (fun H locs hW => ?_)
  refine lv_aload_n S.1 S.2.1 dX12_text_5 rfl (lv_at hl 0 rfl) ?_
  refine lv_aload_n S.1 S.2.1 dX12_text_6 rfl (lv_at hl 0 rfl) ?_
  refine gfX12_13 S hK hW.1 0 rfl rfl dX12_text_7 ?_
  refine lv_iconst (v := 0) S.1 S.2.1 dX12_text_10 ic_0 ?_
  obtain ⟨x1, hx1, hf⟩ := bnd_e hf
  refine q_iald S hK hW.1 2 0 rfl rfl hx1 dX12_text_11 ?_
  refine pfX12_101 (ws2 := (wMd g o_q0 o_q1 o_q2 o_q3 o_q4 o_q5 o_q6 o_q7 o_q8 o_q9 o_q10 o_q11 o_q12 o_q13 o_q14 o_q15 o_q16 o_q17 o_q18 o_q19 o_q20 o_q21 o_q22 (0 : Int32) o_tape o_size o_fault o_faultPlace o_many o_towns o_weeks o_logs o_reached x1 o_begins o_sort o_value o_word o_wrongAt o_laterFault o_laterPlace o_told o_read o_farOne o_good o_town o_people o_when o_sat o_quiet o_vain o_lent o_forgiven o_sundays o_purse o_beside o_debts o_sitting o_visited o_week o_heaps o_taken o_best o_more o_firstOne o_log o_fitting o_found o_seed o_row o_saved)) S hK hW 0 rfl rfl rfl (Nat.le_of_ble_eq_true rfl) rfl dX12_text_12 (fun H locs hW => ?_)
  refine lv_aload_n S.1 S.2.1 dX12_text_15 rfl (lv_at hl 0 rfl) ?_
  refine gfX12_13 S hK hW.1 0 rfl rfl dX12_text_16 ?_
  refine lv_iconst (v := 0) S.1 S.2.1 dX12_text_19 ic_0 ?_
  refine lv_iconst (v := 0) S.1 S.2.1 dX12_text_20 ic_0 ?_
  obtain ⟨x2, hx2, hf⟩ := bnd_e hf
  refine q_iast (ws2 := (wMd g o_q0 o_q1 o_q2 o_q3 o_q4 o_q5 o_q6 o_q7 o_q8 o_q9 o_q10 o_q11 o_q12 o_q13 o_q14 o_q15 o_q16 o_q17 o_q18 o_q19 o_q20 o_q21 o_q22 (0 : Int32) o_tape x2 o_fault o_faultPlace o_many o_towns o_weeks o_logs o_reached x1 o_begins o_sort o_value o_word o_wrongAt o_laterFault o_laterPlace o_told o_read o_farOne o_good o_town o_people o_when o_sat o_quiet o_vain o_lent o_forgiven o_sundays o_purse o_beside o_debts o_sitting o_visited o_week o_heaps o_taken o_best o_more o_firstOne o_log o_fitting o_found o_seed o_row o_saved)) S hK hW 2 0 rfl rfl hx2 rfl dX12_text_21 (fun H locs hW => ?_)
  refine lv_aload_n S.1 S.2.1 dX12_text_22 rfl (lv_at hl 0 rfl) ?_
  refine gfX12_17 S hK hW.1 0 rfl rfl dX12_text_23 ?_
  refine lv_iconst (v := 0) S.1 S.2.1 dX12_text_26 ic_0 ?_
  refine lv_iconst (v := 0) S.1 S.2.1 dX12_text_27 ic_0 ?_
  obtain ⟨x3, hx3, hf⟩ := bnd_e hf
  refine q_iast (ws2 := (wMd g o_q0 o_q1 o_q2 o_q3 o_q4 o_q5 o_q6 o_q7 o_q8 o_q9 o_q10 o_q11 o_q12 o_q13 o_q14 o_q15 o_q16 o_q17 o_q18 o_q19 o_q20 o_q21 o_q22 (0 : Int32) o_tape x2 x3 o_faultPlace o_many o_towns o_weeks o_logs o_reached x1 o_begins o_sort o_value o_word o_wrongAt o_laterFault o_laterPlace o_told o_read o_farOne o_good o_town o_people o_when o_sat o_quiet o_vain o_lent o_forgiven o_sundays o_purse o_beside o_debts o_sitting o_visited o_week o_heaps o_taken o_best o_more o_firstOne o_log o_fitting o_found o_seed o_row o_saved)) S hK hW 3 0 rfl rfl hx3 rfl dX12_text_28 (fun H locs hW => ?_)
  refine lv_aload_n S.1 S.2.1 dX12_text_29 rfl (lv_at hl 0 rfl) ?_
  refine gfX12_20 S hK hW.1 0 rfl rfl dX12_text_30 ?_
  refine lv_iconst (v := 0) S.1 S.2.1 dX12_text_33 ic_0 ?_
  refine lv_iconst (v := (-1)) S.1 S.2.1 dX12_text_34 ic_m1 ?_
  obtain ⟨x4, hx4, hf⟩ := bnd_e hf
  refine q_iast (ws2 := (wMd g o_q0 o_q1 o_q2 o_q3 o_q4 o_q5 o_q6 o_q7 o_q8 o_q9 o_q10 o_q11 o_q12 o_q13 o_q14 o_q15 o_q16 o_q17 o_q18 o_q19 o_q20 o_q21 o_q22 (0 : Int32) o_tape x2 x3 x4 o_many o_towns o_weeks o_logs o_reached x1 o_begins o_sort o_value o_word o_wrongAt o_laterFault o_laterPlace o_told o_read o_farOne o_good o_town o_people o_when o_sat o_quiet o_vain o_lent o_forgiven o_sundays o_purse o_beside o_debts o_sitting o_visited o_week o_heaps o_taken o_best o_more o_firstOne o_log o_fitting o_found o_seed o_row o_saved)) S hK hW 4 0 rfl rfl hx4 rfl dX12_text_35 (fun H locs hW => ?_)
  refine lv_iload_n S.1 S.2.1 dX12_text_36 rfl (lv_at hl 1 rfl) ?_
  refine lv_iconst (v := 0) S.1 S.2.1 dX12_text_37 ic_0 ?_
  refine lv_iconst (v := 2) S.1 S.2.1 dX12_text_38 ic_2 ?_
  obtain ⟨x5, hx5, hf⟩ := bnd_e hf
  refine Rd.cS (c_X12_in hx5) S hK va_P.nil kSX12_90 rfl hl.1 [] rfl (Nat.le_of_ble_eq_true rfl) ⟨(Nat.le_of_ble_eq_true rfl), (Nat.le_of_ble_eq_true rfl)⟩ ⟨(Nat.zero_le _), (Nat.zero_le _)⟩ dX12_text_39 ?_
  refine lv_if_eq (tgt := 72) S.1 S.2.1 dX12_text_42 (by decide) (fun c_ => ?_) (fun c_ => ?_)
  · have hf := it_p c_ hf
    refine lv_bipush (v := (-2)) S.1 S.2.1 dX12_text_72 bp_m2 ?_
    have e_ := Option.some.inj hf
    subst e_
    exact hret _ _ _ _ dX12_text_74 hW
  · have hf := it_n c_ hf
    refine lv_iload_n S.1 S.2.1 dX12_text_45 rfl (lv_at hl 2 rfl) ?_
    refine lv_iconst (v := (-1)) S.1 S.2.1 dX12_text_46 ic_m1 ?_
    refine lv_icmp_ne (tgt := 63) S.1 S.2.1 dX12_text_47 (by decide) (fun c_ => ?_) (fun c_ => ?_)
    · have hf := it_n c_ hf
      refine lv_aload_n S.1 S.2.1 dX12_text_63 rfl (lv_at hl 0 rfl) ?_
      refine lv_iload_n S.1 S.2.1 dX12_text_64 rfl (lv_at hl 1 rfl) ?_
      refine lv_iload_n S.1 S.2.1 dX12_text_65 rfl (lv_at hl 2 rfl) ?_
      obtain ⟨x19, hx19, hf⟩ := bnd_e hf
      refine Rd.cV (c_X12_is hx19) S hK hW.1 0 10 rfl rfl kVX12_213 rfl hl.1 [] rfl (Nat.le_of_ble_eq_true rfl) ⟨(Nat.le_of_ble_eq_true rfl), (Nat.le_of_ble_eq_true rfl)⟩ ⟨(Nat.zero_le _), (Nat.zero_le _)⟩ dX12_text_66 ?_
      refine lv_if_ne (tgt := 75) S.1 S.2.1 dX12_text_69 (by decide) (fun c_ => ?_) (fun c_ => ?_)
      · have hf := it_n c_ hf
        refine lv_aload_n S.1 S.2.1 dX12_text_75 rfl (lv_at hl 0 rfl) ?_
        refine lv_iload_n S.1 S.2.1 dX12_text_76 rfl (lv_at hl 1 rfl) ?_
        obtain ⟨x20, hx20, hf⟩ := bnd_e hf
        refine Wr.goW (Wr.runV (c_X12_readText hx20) S hK hW.1 hW.2.1 0 10 rfl rfl kVX12_216 rfl hl.1 [] rfl (Nat.le_of_ble_eq_true rfl) ⟨(Nat.le_of_ble_eq_true rfl), (Nat.le_of_ble_eq_true rfl)⟩ ⟨(Nat.zero_le _), (Nat.zero_le _)⟩ dX12_text_77) hW hA (fun H locs hW => ?_)
        refine lv_if_ne (tgt := 85) S.1 S.2.1 dX12_text_80 (by decide) (fun c_ => ?_) (fun c_ => ?_)
        · have hf := it_n c_ hf
          refine lv_iload_n S.1 S.2.1 dX12_text_85 rfl (lv_at hl 2 rfl) ?_
          refine lv_iconst (v := (-1)) S.1 S.2.1 dX12_text_86 ic_m1 ?_
          obtain ⟨x21, hf_, hk21⟩ := bnd_e hf
          have hJ21 : ∀ (v22 : Int32), v22 = x21 → ∀ (ls : Array Slot) (H : Heap) (locs : List Loc), lv_has ls 4 [(0, .ref o_q0), (1, .int p1), (2, .int p2)] → St A s.heap D (wMd g o_q0 o_q1 o_q2 o_q3 o_q4 o_q5 o_q6 o_q7 o_q8 o_q9 o_q10 o_q11 o_q12 o_q13 o_q14 o_q15 o_q16 o_q17 o_q18 o_q19 o_q20 o_q21 o_q22 (0 : Int32) o_tape x2 x20.2.1 x20.2.2.1 o_many o_towns o_weeks o_logs x20.2.2.2.1 x1 x20.2.2.2.2.1 x20.2.2.2.2.2.1 x20.2.2.2.2.2.2.1 x20.2.2.2.2.2.2.2.1 x20.2.2.2.2.2.2.2.2.1 x20.2.2.2.2.2.2.2.2.2.1 x20.2.2.2.2.2.2.2.2.2.2.1 x20.2.2.2.2.2.2.2.2.2.2.2.1 x20.2.2.2.2.2.2.2.2.2.2.2.2.1 x20.2.2.2.2.2.2.2.2.2.2.2.2.2.1 x20.2.2.2.2.2.2.2.2.2.2.2.2.2.2 o_town o_people o_when o_sat o_quiet o_vain o_lent o_forgiven o_sundays o_purse o_beside o_debts o_sitting o_visited o_week o_heaps o_taken o_best o_more o_firstOne o_log o_fitting o_found o_seed o_row o_saved) H locs → W p l e (rmD 8) s m args below meth c H locs 0 0 Q (F0 m 100 ls [.int v22]) := by
            intro v22 e_ ls H locs hl hW
            subst e_
            have hf := hk21
            refine lv_istore_n (lv' := [(3, .int v22), (0, .ref o_q0), (1, .int p1), (2, .int p2)]) S.1 S.2.1 dX12_text_100 rfl hl (by decide) rfl (fun ls hl => ?_)
            refine lv_aload_n S.1 S.2.1 dX12_text_101 rfl (lv_at hl 1 rfl) ?_
            refine gfX12_23 S hK hW.1 0 rfl rfl dX12_text_102 ?_
            refine lv_iload_n S.1 S.2.1 dX12_text_105 rfl (lv_at hl 2 rfl) ?_
            refine lv_dup2_11 S.1 S.2.1 dX12_text_106 rfl rfl ?_
            obtain ⟨x23, hx23, hf⟩ := bnd_e hf
            refine q_iald S hK hW.1 5 0 rfl rfl hx23 dX12_text_107 ?_
            refine lv_iload_n S.1 S.2.1 dX12_text_108 rfl (lv_at hl 3 rfl) ?_
            refine lv_iconst (v := (-1)) S.1 S.2.1 dX12_text_109 ic_m1 ?_
            obtain ⟨x24, hf_, hk24⟩ := bnd_e hf
            have hJ24 : ∀ (v25 : Int32), v25 = x24 → ∀ (ls : Array Slot) (H : Heap) (locs : List Loc), lv_has ls 4 [(0, .ref o_q0), (1, .int p1), (3, .int v22)] → St A s.heap D (wMd g o_q0 o_q1 o_q2 o_q3 o_q4 o_q5 o_q6 o_q7 o_q8 o_q9 o_q10 o_q11 o_q12 o_q13 o_q14 o_q15 o_q16 o_q17 o_q18 o_q19 o_q20 o_q21 o_q22 (0 : Int32) o_tape x2 x20.2.1 x20.2.2.1 o_many o_towns o_weeks o_logs x20.2.2.2.1 x1 x20.2.2.2.2.1 x20.2.2.2.2.2.1 x20.2.2.2.2.2.2.1 x20.2.2.2.2.2.2.2.1 x20.2.2.2.2.2.2.2.2.1 x20.2.2.2.2.2.2.2.2.2.1 x20.2.2.2.2.2.2.2.2.2.2.1 x20.2.2.2.2.2.2.2.2.2.2.2.1 x20.2.2.2.2.2.2.2.2.2.2.2.2.1 x20.2.2.2.2.2.2.2.2.2.2.2.2.2.1 x20.2.2.2.2.2.2.2.2.2.2.2.2.2.2 o_town o_people o_when o_sat o_quiet o_vain o_lent o_forgiven o_sundays o_purse o_beside o_debts o_sitting o_visited o_week o_heaps o_taken o_best o_more o_firstOne o_log o_fitting o_found o_seed o_row o_saved) H locs → W p l e (rmD 8) s m args below meth c H locs 0 0 Q (F0 m 118 ls [.int v25, .int x23, .int p1, .ref o_q5]) := by
              intro v25 e_ ls H locs hl hW
              subst e_
              have hf := hk24
              refine lv_iadd S.1 S.2.1 dX12_text_118 ?_
              refine lv_topi (fun x26 ex26 => ?_)
              have hf := ltn_e hf ex26
              obtain ⟨x27, hx27, hf⟩ := bnd_e hf
              refine q_iast (ws2 := (wMd g o_q0 o_q1 o_q2 o_q3 o_q4 o_q5 o_q6 o_q7 o_q8 o_q9 o_q10 o_q11 o_q12 o_q13 o_q14 o_q15 o_q16 o_q17 o_q18 o_q19 o_q20 o_q21 o_q22 (0 : Int32) o_tape x2 x20.2.1 x20.2.2.1 x27 o_towns o_weeks o_logs x20.2.2.2.1 x1 x20.2.2.2.2.1 x20.2.2.2.2.2.1 x20.2.2.2.2.2.2.1 x20.2.2.2.2.2.2.2.1 x20.2.2.2.2.2.2.2.2.1 x20.2.2.2.2.2.2.2.2.2.1 x20.2.2.2.2.2.2.2.2.2.2.1 x20.2.2.2.2.2.2.2.2.2.2.2.1 x20.2.2.2.2.2.2.2.2.2.2.2.2.1 x20.2.2.2.2.2.2.2.2.2.2.2.2.2.1 x20.2.2.2.2.2.2.2.2.2.2.2.2.2.2 o_town o_people o_when o_sat o_quiet o_vain o_lent o_forgiven o_sundays o_purse o_beside o_debts o_sitting o_visited o_week o_heaps o_taken o_best o_more o_firstOne o_log o_fitting o_found o_seed o_row o_saved)) S hK hW 5 0 rfl rfl hx27 rfl dX12_text_119 (fun H locs hW => ?_)
              refine lv_iload_n S.1 S.2.1 dX12_text_120 rfl (lv_at hl 1 rfl) ?_
              refine lv_if_ne (tgt := 138) S.1 S.2.1 dX12_text_121 (by decide) (fun c_ => ?_) (fun c_ => ?_)
              · have hf := it_n c_ hf
                refine lv_iload_n S.1 S.2.1 dX12_text_138 rfl (lv_at hl 1 rfl) ?_
                refine lv_iconst (v := 1) S.1 S.2.1 dX12_text_139 ic_1 ?_
                refine lv_icmp_ne (tgt := 158) S.1 S.2.1 dX12_text_140 (by decide) (fun c_ => ?_) (fun c_ => ?_)
                · have hf := it_n c_ hf
                  refine lv_aload_n S.1 S.2.1 dX12_text_158 rfl (lv_at hl 0 rfl) ?_
                  refine lv_aload_n S.1 S.2.1 dX12_text_159 rfl (lv_at hl 0 rfl) ?_
                  refine gfX12_32 S hK hW.1 0 rfl rfl dX12_text_160 ?_
                  refine lv_bipush (v := 25) S.1 S.2.1 dX12_text_163 bp_25 ?_
                  refine lv_iload_n S.1 S.2.1 dX12_text_165 rfl (lv_at hl 2 rfl) ?_
                  obtain ⟨x30, hx30, hf⟩ := bnd_e hf
                  refine Wr.go (ws2 := (wMd g o_q0 o_q1 o_q2 o_q3 o_q4 o_q5 o_q6 o_q7 o_q8 o_q9 o_q10 o_q11 o_q12 o_q13 o_q14 o_q15 o_q16 o_q17 o_q18 o_q19 o_q20 o_q21 o_q22 (0 : Int32) o_tape x2 x20.2.1 x20.2.2.1 x27 o_towns o_weeks x30 x20.2.2.2.1 x1 x20.2.2.2.2.1 x20.2.2.2.2.2.1 x20.2.2.2.2.2.2.1 x20.2.2.2.2.2.2.2.1 x20.2.2.2.2.2.2.2.2.1 x20.2.2.2.2.2.2.2.2.2.1 x20.2.2.2.2.2.2.2.2.2.2.1 x20.2.2.2.2.2.2.2.2.2.2.2.1 x20.2.2.2.2.2.2.2.2.2.2.2.2.1 x20.2.2.2.2.2.2.2.2.2.2.2.2.2.1 x20.2.2.2.2.2.2.2.2.2.2.2.2.2.2 o_town o_people o_when o_sat o_quiet o_vain o_lent o_forgiven o_sundays o_purse o_beside o_debts o_sitting o_visited o_week o_heaps o_taken o_best o_more o_firstOne o_log o_fitting o_found o_seed o_row o_saved)) (Wr.runV (c_X12_store hx30) S hK (hW.1.sub (ws' := (wMdo g o_q0 o_q1 o_q2 o_q3 o_q4 o_q5 o_q6 o_q7 o_q8 o_q9 o_q10 o_q11 o_q12 o_q13 o_q14 o_q15 o_q16 o_q17 o_q18 o_q19 o_q20 o_q21 o_q22 (0 : Int32) x20.2.2.2.1 x1 x20.2.2.2.2.1 x20.2.2.2.2.2.1 x20.2.2.2.2.2.2.1 x20.2.2.2.2.2.2.2.1 x20.2.2.2.2.2.2.2.2.1 x20.2.2.2.2.2.2.2.2.2.1 x20.2.2.2.2.2.2.2.2.2.2.1 x20.2.2.2.2.2.2.2.2.2.2.2.1 x20.2.2.2.2.2.2.2.2.2.2.2.2.2.1 x20.2.2.2.2.2.2.2.2.2.2.2.2.2.2 o_town o_people o_when o_sat o_quiet o_vain o_lent o_forgiven o_sundays o_week o_firstOne o_log o_found o_seed ++ wAI g o_q8 200 o_logs)) [0, 9, 8] rfl) (hW.2.1.sub (ws' := (wMdo g o_q0 o_q1 o_q2 o_q3 o_q4 o_q5 o_q6 o_q7 o_q8 o_q9 o_q10 o_q11 o_q12 o_q13 o_q14 o_q15 o_q16 o_q17 o_q18 o_q19 o_q20 o_q21 o_q22 (0 : Int32) x20.2.2.2.1 x1 x20.2.2.2.2.1 x20.2.2.2.2.2.1 x20.2.2.2.2.2.2.1 x20.2.2.2.2.2.2.2.1 x20.2.2.2.2.2.2.2.2.1 x20.2.2.2.2.2.2.2.2.2.1 x20.2.2.2.2.2.2.2.2.2.2.1 x20.2.2.2.2.2.2.2.2.2.2.2.1 x20.2.2.2.2.2.2.2.2.2.2.2.2.2.1 x20.2.2.2.2.2.2.2.2.2.2.2.2.2.2 o_town o_people o_when o_sat o_quiet o_vain o_lent o_forgiven o_sundays o_week o_firstOne o_log o_found o_seed ++ wAI g o_q8 200 o_logs)) [0, 9, 8] (by decide) rfl) 0 10 rfl rfl kVX12_219 rfl hl.1 [] rfl (Nat.le_of_ble_eq_true rfl) ⟨(Nat.le_of_ble_eq_true rfl), (Nat.le_of_ble_eq_true rfl)⟩ ⟨(Nat.zero_le _), (Nat.zero_le _)⟩ dX12_text_166) hW hA [0, 9, 8] rfl [(true, 0), (false, 1), (false, 2), (false, 3), (false, 4), (false, 5), (false, 6), (false, 7), (true, 2), (true, 1), (false, 10), (false, 11), (false, 12), (false, 13), (false, 14), (false, 15), (false, 16), (false, 17), (false, 18), (false, 19), (false, 20), (false, 21), (false, 22)] rfl (by decide) rfl (fun H locs hW => ?_)
                  refine lv_iload_n S.1 S.2.1 dX12_text_169 rfl (lv_at hl 2 rfl) ?_
                  have e_ := Option.some.inj hf
                  subst e_
                  exact hret _ _ _ _ dX12_text_170 hW
                · have hf := it_p c_ hf
                  refine lv_aload_n S.1 S.2.1 dX12_text_143 rfl (lv_at hl 0 rfl) ?_
                  refine lv_aload_n S.1 S.2.1 dX12_text_144 rfl (lv_at hl 0 rfl) ?_
                  refine gfX12_29 S hK hW.1 0 rfl rfl dX12_text_145 ?_
                  refine lv_sipush (v := 161) S.1 S.2.1 dX12_text_148 sp_161 ?_
                  refine lv_iload_n S.1 S.2.1 dX12_text_151 rfl (lv_at hl 2 rfl) ?_
                  obtain ⟨x29, hx29, hf⟩ := bnd_e hf
                  refine Wr.go (ws2 := (wMd g o_q0 o_q1 o_q2 o_q3 o_q4 o_q5 o_q6 o_q7 o_q8 o_q9 o_q10 o_q11 o_q12 o_q13 o_q14 o_q15 o_q16 o_q17 o_q18 o_q19 o_q20 o_q21 o_q22 (0 : Int32) o_tape x2 x20.2.1 x20.2.2.1 x27 o_towns x29 o_logs x20.2.2.2.1 x1 x20.2.2.2.2.1 x20.2.2.2.2.2.1 x20.2.2.2.2.2.2.1 x20.2.2.2.2.2.2.2.1 x20.2.2.2.2.2.2.2.2.1 x20.2.2.2.2.2.2.2.2.2.1 x20.2.2.2.2.2.2.2.2.2.2.1 x20.2.2.2.2.2.2.2.2.2.2.2.1 x20.2.2.2.2.2.2.2.2.2.2.2.2.1 x20.2.2.2.2.2.2.2.2.2.2.2.2.2.1 x20.2.2.2.2.2.2.2.2.2.2.2.2.2.2 o_town o_people o_when o_sat o_quiet o_vain o_lent o_forgiven o_sundays o_purse o_beside o_debts o_sitting o_visited o_week o_heaps o_taken o_best o_more o_firstOne o_log o_fitting o_found o_seed o_row o_saved)) (Wr.runV (c_X12_store hx29) S hK (hW.1.sub (ws' := (wMdo g o_q0 o_q1 o_q2 o_q3 o_q4 o_q5 o_q6 o_q7 o_q8 o_q9 o_q10 o_q11 o_q12 o_q13 o_q14 o_q15 o_q16 o_q17 o_q18 o_q19 o_q20 o_q21 o_q22 (0 : Int32) x20.2.2.2.1 x1 x20.2.2.2.2.1 x20.2.2.2.2.2.1 x20.2.2.2.2.2.2.1 x20.2.2.2.2.2.2.2.1 x20.2.2.2.2.2.2.2.2.1 x20.2.2.2.2.2.2.2.2.2.1 x20.2.2.2.2.2.2.2.2.2.2.1 x20.2.2.2.2.2.2.2.2.2.2.2.1 x20.2.2.2.2.2.2.2.2.2.2.2.2.2.1 x20.2.2.2.2.2.2.2.2.2.2.2.2.2.2 o_town o_people o_when o_sat o_quiet o_vain o_lent o_forgiven o_sundays o_week o_firstOne o_log o_found o_seed ++ wAI g o_q7 1288 o_weeks)) [0, 9, 7] rfl) (hW.2.1.sub (ws' := (wMdo g o_q0 o_q1 o_q2 o_q3 o_q4 o_q5 o_q6 o_q7 o_q8 o_q9 o_q10 o_q11 o_q12 o_q13 o_q14 o_q15 o_q16 o_q17 o_q18 o_q19 o_q20 o_q21 o_q22 (0 : Int32) x20.2.2.2.1 x1 x20.2.2.2.2.1 x20.2.2.2.2.2.1 x20.2.2.2.2.2.2.1 x20.2.2.2.2.2.2.2.1 x20.2.2.2.2.2.2.2.2.1 x20.2.2.2.2.2.2.2.2.2.1 x20.2.2.2.2.2.2.2.2.2.2.1 x20.2.2.2.2.2.2.2.2.2.2.2.1 x20.2.2.2.2.2.2.2.2.2.2.2.2.2.1 x20.2.2.2.2.2.2.2.2.2.2.2.2.2.2 o_town o_people o_when o_sat o_quiet o_vain o_lent o_forgiven o_sundays o_week o_firstOne o_log o_found o_seed ++ wAI g o_q7 1288 o_weeks)) [0, 9, 7] (by decide) rfl) 0 10 rfl rfl kVX12_219 rfl hl.1 [] rfl (Nat.le_of_ble_eq_true rfl) ⟨(Nat.le_of_ble_eq_true rfl), (Nat.le_of_ble_eq_true rfl)⟩ ⟨(Nat.zero_le _), (Nat.zero_le _)⟩ dX12_text_152) hW hA [0, 9, 7] rfl [(true, 0), (false, 1), (false, 2), (false, 3), (false, 4), (false, 5), (false, 6), (true, 2), (false, 8), (true, 1), (false, 10), (false, 11), (false, 12), (false, 13), (false, 14), (false, 15), (false, 16), (false, 17), (false, 18), (false, 19), (false, 20), (false, 21), (false, 22)] rfl (by decide) rfl (fun H locs hW => ?_)
                  refine lv_goto (tgt := 169) S.1 S.2.1 dX12_text_155 (by decide) ?_
                  refine lv_iload_n S.1 S.2.1 dX12_text_169 rfl (lv_at hl 2 rfl) ?_
                  have e_ := Option.some.inj hf
                  subst e_
                  exact hret _ _ _ _ dX12_text_170 hW
              · have hf := it_p c_ hf
                refine lv_aload_n S.1 S.2.1 dX12_text_124 rfl (lv_at hl 0 rfl) ?_
                refine lv_aload_n S.1 S.2.1 dX12_text_125 rfl (lv_at hl 0 rfl) ?_
                refine gfX12_26 S hK hW.1 0 rfl rfl dX12_text_126 ?_
                refine lv_bipush (v := 55) S.1 S.2.1 dX12_text_129 bp_55 ?_
                refine lv_iload_n S.1 S.2.1 dX12_text_131 rfl (lv_at hl 2 rfl) ?_
                obtain ⟨x28, hx28, hf⟩ := bnd_e hf
                refine Wr.go (ws2 := (wMd g o_q0 o_q1 o_q2 o_q3 o_q4 o_q5 o_q6 o_q7 o_q8 o_q9 o_q10 o_q11 o_q12 o_q13 o_q14 o_q15 o_q16 o_q17 o_q18 o_q19 o_q20 o_q21 o_q22 (0 : Int32) o_tape x2 x20.2.1 x20.2.2.1 x27 x28 o_weeks o_logs x20.2.2.2.1 x1 x20.2.2.2.2.1 x20.2.2.2.2.2.1 x20.2.2.2.2.2.2.1 x20.2.2.2.2.2.2.2.1 x20.2.2.2.2.2.2.2.2.1 x20.2.2.2.2.2.2.2.2.2.1 x20.2.2.2.2.2.2.2.2.2.2.1 x20.2.2.2.2.2.2.2.2.2.2.2.1 x20.2.2.2.2.2.2.2.2.2.2.2.2.1 x20.2.2.2.2.2.2.2.2.2.2.2.2.2.1 x20.2.2.2.2.2.2.2.2.2.2.2.2.2.2 o_town o_people o_when o_sat o_quiet o_vain o_lent o_forgiven o_sundays o_purse o_beside o_debts o_sitting o_visited o_week o_heaps o_taken o_best o_more o_firstOne o_log o_fitting o_found o_seed o_row o_saved)) (Wr.runV (c_X12_store hx28) S hK (hW.1.sub (ws' := (wMdo g o_q0 o_q1 o_q2 o_q3 o_q4 o_q5 o_q6 o_q7 o_q8 o_q9 o_q10 o_q11 o_q12 o_q13 o_q14 o_q15 o_q16 o_q17 o_q18 o_q19 o_q20 o_q21 o_q22 (0 : Int32) x20.2.2.2.1 x1 x20.2.2.2.2.1 x20.2.2.2.2.2.1 x20.2.2.2.2.2.2.1 x20.2.2.2.2.2.2.2.1 x20.2.2.2.2.2.2.2.2.1 x20.2.2.2.2.2.2.2.2.2.1 x20.2.2.2.2.2.2.2.2.2.2.1 x20.2.2.2.2.2.2.2.2.2.2.2.1 x20.2.2.2.2.2.2.2.2.2.2.2.2.2.1 x20.2.2.2.2.2.2.2.2.2.2.2.2.2.2 o_town o_people o_when o_sat o_quiet o_vain o_lent o_forgiven o_sundays o_week o_firstOne o_log o_found o_seed ++ wAI g o_q6 440 o_towns)) [0, 9, 6] rfl) (hW.2.1.sub (ws' := (wMdo g o_q0 o_q1 o_q2 o_q3 o_q4 o_q5 o_q6 o_q7 o_q8 o_q9 o_q10 o_q11 o_q12 o_q13 o_q14 o_q15 o_q16 o_q17 o_q18 o_q19 o_q20 o_q21 o_q22 (0 : Int32) x20.2.2.2.1 x1 x20.2.2.2.2.1 x20.2.2.2.2.2.1 x20.2.2.2.2.2.2.1 x20.2.2.2.2.2.2.2.1 x20.2.2.2.2.2.2.2.2.1 x20.2.2.2.2.2.2.2.2.2.1 x20.2.2.2.2.2.2.2.2.2.2.1 x20.2.2.2.2.2.2.2.2.2.2.2.1 x20.2.2.2.2.2.2.2.2.2.2.2.2.2.1 x20.2.2.2.2.2.2.2.2.2.2.2.2.2.2 o_town o_people o_when o_sat o_quiet o_vain o_lent o_forgiven o_sundays o_week o_firstOne o_log o_found o_seed ++ wAI g o_q6 440 o_towns)) [0, 9, 6] (by decide) rfl) 0 10 rfl rfl kVX12_219 rfl hl.1 [] rfl (Nat.le_of_ble_eq_true rfl) ⟨(Nat.le_of_ble_eq_true rfl), (Nat.le_of_ble_eq_true rfl)⟩ ⟨(Nat.zero_le _), (Nat.zero_le _)⟩ dX12_text_132) hW hA [0, 9, 6] rfl [(true, 0), (false, 1), (false, 2), (false, 3), (false, 4), (false, 5), (true, 2), (false, 7), (false, 8), (true, 1), (false, 10), (false, 11), (false, 12), (false, 13), (false, 14), (false, 15), (false, 16), (false, 17), (false, 18), (false, 19), (false, 20), (false, 21), (false, 22)] rfl (by decide) rfl (fun H locs hW => ?_)
                refine lv_goto (tgt := 169) S.1 S.2.1 dX12_text_135 (by decide) ?_
                refine lv_iload_n S.1 S.2.1 dX12_text_169 rfl (lv_at hl 2 rfl) ?_
                have e_ := Option.some.inj hf
                subst e_
                exact hret _ _ _ _ dX12_text_170 hW
            have hf := hf_
            refine lv_icmp_ne (tgt := 117) S.1 S.2.1 dX12_text_110 (by decide) (fun c_ => ?_) (fun c_ => ?_)
            · have hf := it_n c_ hf
              refine lv_iconst (v := 0) S.1 S.2.1 dX12_text_117 ic_0 ?_
              exact hJ24 _ (Option.some.inj hf) _ _ _ (lv_sub hl [1, 2, 0] rfl) hW
            · have hf := it_p c_ hf
              refine lv_iconst (v := 1) S.1 S.2.1 dX12_text_113 ic_1 ?_
              refine lv_goto (tgt := 118) S.1 S.2.1 dX12_text_114 (by decide) ?_
              exact hJ24 _ (Option.some.inj hf) _ _ _ (lv_sub hl [1, 2, 0] rfl) hW
          have hf := hf_
          refine lv_icmp_ne (tgt := 99) S.1 S.2.1 dX12_text_87 (by decide) (fun c_ => ?_) (fun c_ => ?_)
          · have hf := it_n c_ hf
            refine lv_iload_n S.1 S.2.1 dX12_text_99 rfl (lv_at hl 2 rfl) ?_
            exact hJ21 _ (Option.some.inj hf) _ _ _ (lv_sub hl [0, 1, 2] rfl) hW
          · have hf := it_p c_ hf
            refine lv_aload_n S.1 S.2.1 dX12_text_90 rfl (lv_at hl 0 rfl) ?_
            refine gfX12_23 S hK hW.1 0 rfl rfl dX12_text_91 ?_
            refine lv_iload_n S.1 S.2.1 dX12_text_94 rfl (lv_at hl 1 rfl) ?_
            obtain ⟨x31, hx31, hf⟩ := bnd_e hf
            refine q_iald S hK hW.1 5 0 rfl rfl hx31 dX12_text_95 ?_
            refine lv_goto (tgt := 100) S.1 S.2.1 dX12_text_96 (by decide) ?_
            exact hJ21 _ (Option.some.inj hf) _ _ _ (lv_sub hl [0, 1, 2] rfl) hW
        · have hf := it_p c_ hf
          refine lv_iconst (v := (-1)) S.1 S.2.1 dX12_text_83 ic_m1 ?_
          have e_ := Option.some.inj hf
          subst e_
          exact hret _ _ _ _ dX12_text_84 hW
      · have hf := it_p c_ hf
        refine lv_bipush (v := (-2)) S.1 S.2.1 dX12_text_72 bp_m2 ?_
        have e_ := Option.some.inj hf
        subst e_
        exact hret _ _ _ _ dX12_text_74 hW
    · have hf := it_p c_ hf
      refine lv_aload_n S.1 S.2.1 dX12_text_50 rfl (lv_at hl 0 rfl) ?_
      refine gfX12_23 S hK hW.1 0 rfl rfl dX12_text_51 ?_
      refine lv_iload_n S.1 S.2.1 dX12_text_54 rfl (lv_at hl 1 rfl) ?_
      obtain ⟨x6, hx6, hf⟩ := bnd_e hf
      refine q_iald S hK hW.1 5 0 rfl rfl hx6 dX12_text_55 ?_
      refine lv_iconst (v := 2) S.1 S.2.1 dX12_text_56 ic_2 ?_
      refine lv_icmp_ne (tgt := 75) S.1 S.2.1 dX12_text_57 (by decide) (fun c_ => ?_) (fun c_ => ?_)
      · have hf := it_n c_ hf
        refine lv_aload_n S.1 S.2.1 dX12_text_75 rfl (lv_at hl 0 rfl) ?_
        refine lv_iload_n S.1 S.2.1 dX12_text_76 rfl (lv_at hl 1 rfl) ?_
        obtain ⟨x7, hx7, hf⟩ := bnd_e hf
        refine Wr.goW (Wr.runV (c_X12_readText hx7) S hK hW.1 hW.2.1 0 10 rfl rfl kVX12_216 rfl hl.1 [] rfl (Nat.le_of_ble_eq_true rfl) ⟨(Nat.le_of_ble_eq_true rfl), (Nat.le_of_ble_eq_true rfl)⟩ ⟨(Nat.zero_le _), (Nat.zero_le _)⟩ dX12_text_77) hW hA (fun H locs hW => ?_)
        refine lv_if_ne (tgt := 85) S.1 S.2.1 dX12_text_80 (by decide) (fun c_ => ?_) (fun c_ => ?_)
        · have hf := it_n c_ hf
          refine lv_iload_n S.1 S.2.1 dX12_text_85 rfl (lv_at hl 2 rfl) ?_
          refine lv_iconst (v := (-1)) S.1 S.2.1 dX12_text_86 ic_m1 ?_
          obtain ⟨x8, hf_, hk8⟩ := bnd_e hf
          have hJ8 : ∀ (v9 : Int32), v9 = x8 → ∀ (ls : Array Slot) (H : Heap) (locs : List Loc), lv_has ls 4 [(0, .ref o_q0), (1, .int p1), (2, .int p2)] → St A s.heap D (wMd g o_q0 o_q1 o_q2 o_q3 o_q4 o_q5 o_q6 o_q7 o_q8 o_q9 o_q10 o_q11 o_q12 o_q13 o_q14 o_q15 o_q16 o_q17 o_q18 o_q19 o_q20 o_q21 o_q22 (0 : Int32) o_tape x2 x7.2.1 x7.2.2.1 o_many o_towns o_weeks o_logs x7.2.2.2.1 x1 x7.2.2.2.2.1 x7.2.2.2.2.2.1 x7.2.2.2.2.2.2.1 x7.2.2.2.2.2.2.2.1 x7.2.2.2.2.2.2.2.2.1 x7.2.2.2.2.2.2.2.2.2.1 x7.2.2.2.2.2.2.2.2.2.2.1 x7.2.2.2.2.2.2.2.2.2.2.2.1 x7.2.2.2.2.2.2.2.2.2.2.2.2.1 x7.2.2.2.2.2.2.2.2.2.2.2.2.2.1 x7.2.2.2.2.2.2.2.2.2.2.2.2.2.2 o_town o_people o_when o_sat o_quiet o_vain o_lent o_forgiven o_sundays o_purse o_beside o_debts o_sitting o_visited o_week o_heaps o_taken o_best o_more o_firstOne o_log o_fitting o_found o_seed o_row o_saved) H locs → W p l e (rmD 8) s m args below meth c H locs 0 0 Q (F0 m 100 ls [.int v9]) := by
            intro v9 e_ ls H locs hl hW
            subst e_
            have hf := hk8
            refine lv_istore_n (lv' := [(3, .int v9), (0, .ref o_q0), (1, .int p1), (2, .int p2)]) S.1 S.2.1 dX12_text_100 rfl hl (by decide) rfl (fun ls hl => ?_)
            refine lv_aload_n S.1 S.2.1 dX12_text_101 rfl (lv_at hl 1 rfl) ?_
            refine gfX12_23 S hK hW.1 0 rfl rfl dX12_text_102 ?_
            refine lv_iload_n S.1 S.2.1 dX12_text_105 rfl (lv_at hl 2 rfl) ?_
            refine lv_dup2_11 S.1 S.2.1 dX12_text_106 rfl rfl ?_
            obtain ⟨x10, hx10, hf⟩ := bnd_e hf
            refine q_iald S hK hW.1 5 0 rfl rfl hx10 dX12_text_107 ?_
            refine lv_iload_n S.1 S.2.1 dX12_text_108 rfl (lv_at hl 3 rfl) ?_
            refine lv_iconst (v := (-1)) S.1 S.2.1 dX12_text_109 ic_m1 ?_
            obtain ⟨x11, hf_, hk11⟩ := bnd_e hf
            have hJ11 : ∀ (v12 : Int32), v12 = x11 → ∀ (ls : Array Slot) (H : Heap) (locs : List Loc), lv_has ls 4 [(0, .ref o_q0), (1, .int p1), (3, .int v9)] → St A s.heap D (wMd g o_q0 o_q1 o_q2 o_q3 o_q4 o_q5 o_q6 o_q7 o_q8 o_q9 o_q10 o_q11 o_q12 o_q13 o_q14 o_q15 o_q16 o_q17 o_q18 o_q19 o_q20 o_q21 o_q22 (0 : Int32) o_tape x2 x7.2.1 x7.2.2.1 o_many o_towns o_weeks o_logs x7.2.2.2.1 x1 x7.2.2.2.2.1 x7.2.2.2.2.2.1 x7.2.2.2.2.2.2.1 x7.2.2.2.2.2.2.2.1 x7.2.2.2.2.2.2.2.2.1 x7.2.2.2.2.2.2.2.2.2.1 x7.2.2.2.2.2.2.2.2.2.2.1 x7.2.2.2.2.2.2.2.2.2.2.2.1 x7.2.2.2.2.2.2.2.2.2.2.2.2.1 x7.2.2.2.2.2.2.2.2.2.2.2.2.2.1 x7.2.2.2.2.2.2.2.2.2.2.2.2.2.2 o_town o_people o_when o_sat o_quiet o_vain o_lent o_forgiven o_sundays o_purse o_beside o_debts o_sitting o_visited o_week o_heaps o_taken o_best o_more o_firstOne o_log o_fitting o_found o_seed o_row o_saved) H locs → W p l e (rmD 8) s m args below meth c H locs 0 0 Q (F0 m 118 ls [.int v12, .int x10, .int p1, .ref o_q5]) := by
              intro v12 e_ ls H locs hl hW
              subst e_
              have hf := hk11
              refine lv_iadd S.1 S.2.1 dX12_text_118 ?_
              refine lv_topi (fun x13 ex13 => ?_)
              have hf := ltn_e hf ex13
              obtain ⟨x14, hx14, hf⟩ := bnd_e hf
              refine q_iast (ws2 := (wMd g o_q0 o_q1 o_q2 o_q3 o_q4 o_q5 o_q6 o_q7 o_q8 o_q9 o_q10 o_q11 o_q12 o_q13 o_q14 o_q15 o_q16 o_q17 o_q18 o_q19 o_q20 o_q21 o_q22 (0 : Int32) o_tape x2 x7.2.1 x7.2.2.1 x14 o_towns o_weeks o_logs x7.2.2.2.1 x1 x7.2.2.2.2.1 x7.2.2.2.2.2.1 x7.2.2.2.2.2.2.1 x7.2.2.2.2.2.2.2.1 x7.2.2.2.2.2.2.2.2.1 x7.2.2.2.2.2.2.2.2.2.1 x7.2.2.2.2.2.2.2.2.2.2.1 x7.2.2.2.2.2.2.2.2.2.2.2.1 x7.2.2.2.2.2.2.2.2.2.2.2.2.1 x7.2.2.2.2.2.2.2.2.2.2.2.2.2.1 x7.2.2.2.2.2.2.2.2.2.2.2.2.2.2 o_town o_people o_when o_sat o_quiet o_vain o_lent o_forgiven o_sundays o_purse o_beside o_debts o_sitting o_visited o_week o_heaps o_taken o_best o_more o_firstOne o_log o_fitting o_found o_seed o_row o_saved)) S hK hW 5 0 rfl rfl hx14 rfl dX12_text_119 (fun H locs hW => ?_)
              refine lv_iload_n S.1 S.2.1 dX12_text_120 rfl (lv_at hl 1 rfl) ?_
              refine lv_if_ne (tgt := 138) S.1 S.2.1 dX12_text_121 (by decide) (fun c_ => ?_) (fun c_ => ?_)
              · have hf := it_n c_ hf
                refine lv_iload_n S.1 S.2.1 dX12_text_138 rfl (lv_at hl 1 rfl) ?_
                refine lv_iconst (v := 1) S.1 S.2.1 dX12_text_139 ic_1 ?_
                refine lv_icmp_ne (tgt := 158) S.1 S.2.1 dX12_text_140 (by decide) (fun c_ => ?_) (fun c_ => ?_)
                · have hf := it_n c_ hf
                  refine lv_aload_n S.1 S.2.1 dX12_text_158 rfl (lv_at hl 0 rfl) ?_
                  refine lv_aload_n S.1 S.2.1 dX12_text_159 rfl (lv_at hl 0 rfl) ?_
                  refine gfX12_32 S hK hW.1 0 rfl rfl dX12_text_160 ?_
                  refine lv_bipush (v := 25) S.1 S.2.1 dX12_text_163 bp_25 ?_
                  refine lv_iload_n S.1 S.2.1 dX12_text_165 rfl (lv_at hl 2 rfl) ?_
                  obtain ⟨x17, hx17, hf⟩ := bnd_e hf
                  refine Wr.go (ws2 := (wMd g o_q0 o_q1 o_q2 o_q3 o_q4 o_q5 o_q6 o_q7 o_q8 o_q9 o_q10 o_q11 o_q12 o_q13 o_q14 o_q15 o_q16 o_q17 o_q18 o_q19 o_q20 o_q21 o_q22 (0 : Int32) o_tape x2 x7.2.1 x7.2.2.1 x14 o_towns o_weeks x17 x7.2.2.2.1 x1 x7.2.2.2.2.1 x7.2.2.2.2.2.1 x7.2.2.2.2.2.2.1 x7.2.2.2.2.2.2.2.1 x7.2.2.2.2.2.2.2.2.1 x7.2.2.2.2.2.2.2.2.2.1 x7.2.2.2.2.2.2.2.2.2.2.1 x7.2.2.2.2.2.2.2.2.2.2.2.1 x7.2.2.2.2.2.2.2.2.2.2.2.2.1 x7.2.2.2.2.2.2.2.2.2.2.2.2.2.1 x7.2.2.2.2.2.2.2.2.2.2.2.2.2.2 o_town o_people o_when o_sat o_quiet o_vain o_lent o_forgiven o_sundays o_purse o_beside o_debts o_sitting o_visited o_week o_heaps o_taken o_best o_more o_firstOne o_log o_fitting o_found o_seed o_row o_saved)) (Wr.runV (c_X12_store hx17) S hK (hW.1.sub (ws' := (wMdo g o_q0 o_q1 o_q2 o_q3 o_q4 o_q5 o_q6 o_q7 o_q8 o_q9 o_q10 o_q11 o_q12 o_q13 o_q14 o_q15 o_q16 o_q17 o_q18 o_q19 o_q20 o_q21 o_q22 (0 : Int32) x7.2.2.2.1 x1 x7.2.2.2.2.1 x7.2.2.2.2.2.1 x7.2.2.2.2.2.2.1 x7.2.2.2.2.2.2.2.1 x7.2.2.2.2.2.2.2.2.1 x7.2.2.2.2.2.2.2.2.2.1 x7.2.2.2.2.2.2.2.2.2.2.1 x7.2.2.2.2.2.2.2.2.2.2.2.1 x7.2.2.2.2.2.2.2.2.2.2.2.2.2.1 x7.2.2.2.2.2.2.2.2.2.2.2.2.2.2 o_town o_people o_when o_sat o_quiet o_vain o_lent o_forgiven o_sundays o_week o_firstOne o_log o_found o_seed ++ wAI g o_q8 200 o_logs)) [0, 9, 8] rfl) (hW.2.1.sub (ws' := (wMdo g o_q0 o_q1 o_q2 o_q3 o_q4 o_q5 o_q6 o_q7 o_q8 o_q9 o_q10 o_q11 o_q12 o_q13 o_q14 o_q15 o_q16 o_q17 o_q18 o_q19 o_q20 o_q21 o_q22 (0 : Int32) x7.2.2.2.1 x1 x7.2.2.2.2.1 x7.2.2.2.2.2.1 x7.2.2.2.2.2.2.1 x7.2.2.2.2.2.2.2.1 x7.2.2.2.2.2.2.2.2.1 x7.2.2.2.2.2.2.2.2.2.1 x7.2.2.2.2.2.2.2.2.2.2.1 x7.2.2.2.2.2.2.2.2.2.2.2.1 x7.2.2.2.2.2.2.2.2.2.2.2.2.2.1 x7.2.2.2.2.2.2.2.2.2.2.2.2.2.2 o_town o_people o_when o_sat o_quiet o_vain o_lent o_forgiven o_sundays o_week o_firstOne o_log o_found o_seed ++ wAI g o_q8 200 o_logs)) [0, 9, 8] (by decide) rfl) 0 10 rfl rfl kVX12_219 rfl hl.1 [] rfl (Nat.le_of_ble_eq_true rfl) ⟨(Nat.le_of_ble_eq_true rfl), (Nat.le_of_ble_eq_true rfl)⟩ ⟨(Nat.zero_le _), (Nat.zero_le _)⟩ dX12_text_166) hW hA [0, 9, 8] rfl [(true, 0), (false, 1), (false, 2), (false, 3), (false, 4), (false, 5), (false, 6), (false, 7), (true, 2), (true, 1), (false, 10), (false, 11), (false, 12), (false, 13), (false, 14), (false, 15), (false, 16), (false, 17), (false, 18), (false, 19), (false, 20), (false, 21), (false, 22)] rfl (by decide) rfl (fun H locs hW => ?_)
                  refine lv_iload_n S.1 S.2.1 dX12_text_169 rfl (lv_at hl 2 rfl) ?_
                  have e_ := Option.some.inj hf
                  subst e_
                  exact hret _ _ _ _ dX12_text_170 hW
                · have hf := it_p c_ hf
                  refine lv_aload_n S.1 S.2.1 dX12_text_143 rfl (lv_at hl 0 rfl) ?_
                  refine lv_aload_n S.1 S.2.1 dX12_text_144 rfl (lv_at hl 0 rfl) ?_
                  refine gfX12_29 S hK hW.1 0 rfl rfl dX12_text_145 ?_
                  refine lv_sipush (v := 161) S.1 S.2.1 dX12_text_148 sp_161 ?_
                  refine lv_iload_n S.1 S.2.1 dX12_text_151 rfl (lv_at hl 2 rfl) ?_
                  obtain ⟨x16, hx16, hf⟩ := bnd_e hf
                  refine Wr.go (ws2 := (wMd g o_q0 o_q1 o_q2 o_q3 o_q4 o_q5 o_q6 o_q7 o_q8 o_q9 o_q10 o_q11 o_q12 o_q13 o_q14 o_q15 o_q16 o_q17 o_q18 o_q19 o_q20 o_q21 o_q22 (0 : Int32) o_tape x2 x7.2.1 x7.2.2.1 x14 o_towns x16 o_logs x7.2.2.2.1 x1 x7.2.2.2.2.1 x7.2.2.2.2.2.1 x7.2.2.2.2.2.2.1 x7.2.2.2.2.2.2.2.1 x7.2.2.2.2.2.2.2.2.1 x7.2.2.2.2.2.2.2.2.2.1 x7.2.2.2.2.2.2.2.2.2.2.1 x7.2.2.2.2.2.2.2.2.2.2.2.1 x7.2.2.2.2.2.2.2.2.2.2.2.2.1 x7.2.2.2.2.2.2.2.2.2.2.2.2.2.1 x7.2.2.2.2.2.2.2.2.2.2.2.2.2.2 o_town o_people o_when o_sat o_quiet o_vain o_lent o_forgiven o_sundays o_purse o_beside o_debts o_sitting o_visited o_week o_heaps o_taken o_best o_more o_firstOne o_log o_fitting o_found o_seed o_row o_saved)) (Wr.runV (c_X12_store hx16) S hK (hW.1.sub (ws' := (wMdo g o_q0 o_q1 o_q2 o_q3 o_q4 o_q5 o_q6 o_q7 o_q8 o_q9 o_q10 o_q11 o_q12 o_q13 o_q14 o_q15 o_q16 o_q17 o_q18 o_q19 o_q20 o_q21 o_q22 (0 : Int32) x7.2.2.2.1 x1 x7.2.2.2.2.1 x7.2.2.2.2.2.1 x7.2.2.2.2.2.2.1 x7.2.2.2.2.2.2.2.1 x7.2.2.2.2.2.2.2.2.1 x7.2.2.2.2.2.2.2.2.2.1 x7.2.2.2.2.2.2.2.2.2.2.1 x7.2.2.2.2.2.2.2.2.2.2.2.1 x7.2.2.2.2.2.2.2.2.2.2.2.2.2.1 x7.2.2.2.2.2.2.2.2.2.2.2.2.2.2 o_town o_people o_when o_sat o_quiet o_vain o_lent o_forgiven o_sundays o_week o_firstOne o_log o_found o_seed ++ wAI g o_q7 1288 o_weeks)) [0, 9, 7] rfl) (hW.2.1.sub (ws' := (wMdo g o_q0 o_q1 o_q2 o_q3 o_q4 o_q5 o_q6 o_q7 o_q8 o_q9 o_q10 o_q11 o_q12 o_q13 o_q14 o_q15 o_q16 o_q17 o_q18 o_q19 o_q20 o_q21 o_q22 (0 : Int32) x7.2.2.2.1 x1 x7.2.2.2.2.1 x7.2.2.2.2.2.1 x7.2.2.2.2.2.2.1 x7.2.2.2.2.2.2.2.1 x7.2.2.2.2.2.2.2.2.1 x7.2.2.2.2.2.2.2.2.2.1 x7.2.2.2.2.2.2.2.2.2.2.1 x7.2.2.2.2.2.2.2.2.2.2.2.1 x7.2.2.2.2.2.2.2.2.2.2.2.2.2.1 x7.2.2.2.2.2.2.2.2.2.2.2.2.2.2 o_town o_people o_when o_sat o_quiet o_vain o_lent o_forgiven o_sundays o_week o_firstOne o_log o_found o_seed ++ wAI g o_q7 1288 o_weeks)) [0, 9, 7] (by decide) rfl) 0 10 rfl rfl kVX12_219 rfl hl.1 [] rfl (Nat.le_of_ble_eq_true rfl) ⟨(Nat.le_of_ble_eq_true rfl), (Nat.le_of_ble_eq_true rfl)⟩ ⟨(Nat.zero_le _), (Nat.zero_le _)⟩ dX12_text_152) hW hA [0, 9, 7] rfl [(true, 0), (false, 1), (false, 2), (false, 3), (false, 4), (false, 5), (false, 6), (true, 2), (false, 8), (true, 1), (false, 10), (false, 11), (false, 12), (false, 13), (false, 14), (false, 15), (false, 16), (false, 17), (false, 18), (false, 19), (false, 20), (false, 21), (false, 22)] rfl (by decide) rfl (fun H locs hW => ?_)
                  refine lv_goto (tgt := 169) S.1 S.2.1 dX12_text_155 (by decide) ?_
                  refine lv_iload_n S.1 S.2.1 dX12_text_169 rfl (lv_at hl 2 rfl) ?_
                  have e_ := Option.some.inj hf
                  subst e_
                  exact hret _ _ _ _ dX12_text_170 hW
              · have hf := it_p c_ hf
                refine lv_aload_n S.1 S.2.1 dX12_text_124 rfl (lv_at hl 0 rfl) ?_
                refine lv_aload_n S.1 S.2.1 dX12_text_125 rfl (lv_at hl 0 rfl) ?_
                refine gfX12_26 S hK hW.1 0 rfl rfl dX12_text_126 ?_
                refine lv_bipush (v := 55) S.1 S.2.1 dX12_text_129 bp_55 ?_
                refine lv_iload_n S.1 S.2.1 dX12_text_131 rfl (lv_at hl 2 rfl) ?_
                obtain ⟨x15, hx15, hf⟩ := bnd_e hf
                refine Wr.go (ws2 := (wMd g o_q0 o_q1 o_q2 o_q3 o_q4 o_q5 o_q6 o_q7 o_q8 o_q9 o_q10 o_q11 o_q12 o_q13 o_q14 o_q15 o_q16 o_q17 o_q18 o_q19 o_q20 o_q21 o_q22 (0 : Int32) o_tape x2 x7.2.1 x7.2.2.1 x14 x15 o_weeks o_logs x7.2.2.2.1 x1 x7.2.2.2.2.1 x7.2.2.2.2.2.1 x7.2.2.2.2.2.2.1 x7.2.2.2.2.2.2.2.1 x7.2.2.2.2.2.2.2.2.1 x7.2.2.2.2.2.2.2.2.2.1 x7.2.2.2.2.2.2.2.2.2.2.1 x7.2.2.2.2.2.2.2.2.2.2.2.1 x7.2.2.2.2.2.2.2.2.2.2.2.2.1 x7.2.2.2.2.2.2.2.2.2.2.2.2.2.1 x7.2.2.2.2.2.2.2.2.2.2.2.2.2.2 o_town o_people o_when o_sat o_quiet o_vain o_lent o_forgiven o_sundays o_purse o_beside o_debts o_sitting o_visited o_week o_heaps o_taken o_best o_more o_firstOne o_log o_fitting o_found o_seed o_row o_saved)) (Wr.runV (c_X12_store hx15) S hK (hW.1.sub (ws' := (wMdo g o_q0 o_q1 o_q2 o_q3 o_q4 o_q5 o_q6 o_q7 o_q8 o_q9 o_q10 o_q11 o_q12 o_q13 o_q14 o_q15 o_q16 o_q17 o_q18 o_q19 o_q20 o_q21 o_q22 (0 : Int32) x7.2.2.2.1 x1 x7.2.2.2.2.1 x7.2.2.2.2.2.1 x7.2.2.2.2.2.2.1 x7.2.2.2.2.2.2.2.1 x7.2.2.2.2.2.2.2.2.1 x7.2.2.2.2.2.2.2.2.2.1 x7.2.2.2.2.2.2.2.2.2.2.1 x7.2.2.2.2.2.2.2.2.2.2.2.1 x7.2.2.2.2.2.2.2.2.2.2.2.2.2.1 x7.2.2.2.2.2.2.2.2.2.2.2.2.2.2 o_town o_people o_when o_sat o_quiet o_vain o_lent o_forgiven o_sundays o_week o_firstOne o_log o_found o_seed ++ wAI g o_q6 440 o_towns)) [0, 9, 6] rfl) (hW.2.1.sub (ws' := (wMdo g o_q0 o_q1 o_q2 o_q3 o_q4 o_q5 o_q6 o_q7 o_q8 o_q9 o_q10 o_q11 o_q12 o_q13 o_q14 o_q15 o_q16 o_q17 o_q18 o_q19 o_q20 o_q21 o_q22 (0 : Int32) x7.2.2.2.1 x1 x7.2.2.2.2.1 x7.2.2.2.2.2.1 x7.2.2.2.2.2.2.1 x7.2.2.2.2.2.2.2.1 x7.2.2.2.2.2.2.2.2.1 x7.2.2.2.2.2.2.2.2.2.1 x7.2.2.2.2.2.2.2.2.2.2.1 x7.2.2.2.2.2.2.2.2.2.2.2.1 x7.2.2.2.2.2.2.2.2.2.2.2.2.2.1 x7.2.2.2.2.2.2.2.2.2.2.2.2.2.2 o_town o_people o_when o_sat o_quiet o_vain o_lent o_forgiven o_sundays o_week o_firstOne o_log o_found o_seed ++ wAI g o_q6 440 o_towns)) [0, 9, 6] (by decide) rfl) 0 10 rfl rfl kVX12_219 rfl hl.1 [] rfl (Nat.le_of_ble_eq_true rfl) ⟨(Nat.le_of_ble_eq_true rfl), (Nat.le_of_ble_eq_true rfl)⟩ ⟨(Nat.zero_le _), (Nat.zero_le _)⟩ dX12_text_132) hW hA [0, 9, 6] rfl [(true, 0), (false, 1), (false, 2), (false, 3), (false, 4), (false, 5), (true, 2), (false, 7), (false, 8), (true, 1), (false, 10), (false, 11), (false, 12), (false, 13), (false, 14), (false, 15), (false, 16), (false, 17), (false, 18), (false, 19), (false, 20), (false, 21), (false, 22)] rfl (by decide) rfl (fun H locs hW => ?_)
                refine lv_goto (tgt := 169) S.1 S.2.1 dX12_text_135 (by decide) ?_
                refine lv_iload_n S.1 S.2.1 dX12_text_169 rfl (lv_at hl 2 rfl) ?_
                have e_ := Option.some.inj hf
                subst e_
                exact hret _ _ _ _ dX12_text_170 hW
            have hf := hf_
            refine lv_icmp_ne (tgt := 117) S.1 S.2.1 dX12_text_110 (by decide) (fun c_ => ?_) (fun c_ => ?_)
            · have hf := it_n c_ hf
              refine lv_iconst (v := 0) S.1 S.2.1 dX12_text_117 ic_0 ?_
              exact hJ11 _ (Option.some.inj hf) _ _ _ (lv_sub hl [1, 2, 0] rfl) hW
            · have hf := it_p c_ hf
              refine lv_iconst (v := 1) S.1 S.2.1 dX12_text_113 ic_1 ?_
              refine lv_goto (tgt := 118) S.1 S.2.1 dX12_text_114 (by decide) ?_
              exact hJ11 _ (Option.some.inj hf) _ _ _ (lv_sub hl [1, 2, 0] rfl) hW
          have hf := hf_
          refine lv_icmp_ne (tgt := 99) S.1 S.2.1 dX12_text_87 (by decide) (fun c_ => ?_) (fun c_ => ?_)
          · have hf := it_n c_ hf
            refine lv_iload_n S.1 S.2.1 dX12_text_99 rfl (lv_at hl 2 rfl) ?_
            exact hJ8 _ (Option.some.inj hf) _ _ _ (lv_sub hl [0, 1, 2] rfl) hW
          · have hf := it_p c_ hf
            refine lv_aload_n S.1 S.2.1 dX12_text_90 rfl (lv_at hl 0 rfl) ?_
            refine gfX12_23 S hK hW.1 0 rfl rfl dX12_text_91 ?_
            refine lv_iload_n S.1 S.2.1 dX12_text_94 rfl (lv_at hl 1 rfl) ?_
            obtain ⟨x18, hx18, hf⟩ := bnd_e hf
            refine q_iald S hK hW.1 5 0 rfl rfl hx18 dX12_text_95 ?_
            refine lv_goto (tgt := 100) S.1 S.2.1 dX12_text_96 (by decide) ?_
            exact hJ8 _ (Option.some.inj hf) _ _ _ (lv_sub hl [0, 1, 2] rfl) hW
        · have hf := it_p c_ hf
          refine lv_iconst (v := (-1)) S.1 S.2.1 dX12_text_83 ic_m1 ?_
          have e_ := Option.some.inj hf
          subst e_
          exact hret _ _ _ _ dX12_text_84 hW
      · have hf := it_p c_ hf
        refine lv_goto (tgt := 72) S.1 S.2.1 dX12_text_60 (by decide) ?_
        refine lv_bipush (v := (-2)) S.1 S.2.1 dX12_text_72 bp_m2 ?_
        have e_ := Option.some.inj hf
        subst e_
        exact hret _ _ _ _ dX12_text_74 hW
def f_X12_fault (fu : Nat) (o_code : Int32) (o_fault : (Nat → Int32)) (o_faultPlace : (Nat → Int32)) (p1 : Int32) : Option (Int32 × Int32) := if p1 = 0 then bnd (α := Int32) (rdi 4 o_fault (0 : Int32)) (fun x1 => some (x1, (0 : Int32))) else if p1 = (1 : Int32) then bnd (α := Int32) (rdi 4 o_faultPlace (0 : Int32)) (fun x2 => some (x2, (0 : Int32))) else some ((-1 : Int32), (0 : Int32))
set_option maxHeartbeats 4000000 in
set_option maxRecDepth 100000 in
theorem c_X12_fault {l : Launch} {D : va_G} {g : Nat → ClassId} {fu : Nat} {o_q0 o_q1 o_q2 o_q3 o_q4 o_q5 o_q6 o_q7 o_q8 o_q9 o_q10 o_q11 o_q12 o_q13 o_q14 o_q15 o_q16 o_q17 o_q18 o_q19 o_q20 o_q21 o_q22 : Nat} {o_code : Int32} {o_tape : (Nat → Int32)} {o_size : (Nat → Int32)} {o_fault : (Nat → Int32)} {o_faultPlace : (Nat → Int32)} {o_many : (Nat → Int32)} {o_towns : (Nat → Int32)} {o_weeks : (Nat → Int32)} {o_logs : (Nat → Int32)} {o_reached : Int32} {o_length : Int32} {o_begins : Int32} {o_sort : Int32} {o_value : Int32} {o_word : Int64} {o_wrongAt : Int32} {o_laterFault : Int32} {o_laterPlace : Int32} {o_told : (Nat → Int32)} {o_read : (Nat → Int32)} {o_farOne : Int32} {o_good : Int32} {o_town : Int32} {o_people : Int32} {o_when : Int32} {o_sat : Int32} {o_quiet : Int32} {o_vain : Int32} {o_lent : Int32} {o_forgiven : Int32} {o_sundays : Int32} {o_purse : (Nat → Int32)} {o_beside : (Nat → Int32)} {o_debts : (Nat → Int32)} {o_sitting : (Nat → Int32)} {o_visited : (Nat → Int32)} {o_week : Int32} {o_heaps : (Nat → Int32)} {o_taken : (Nat → Int32)} {o_best : (Nat → Int32)} {o_more : (Nat → Int32)} {o_firstOne : Int32} {o_log : Int32} {o_fitting : (Nat → Int32)} {o_found : Int32} {o_seed : Int32} {o_row : (Nat → Int32)} {o_saved : (Nat → Int32)} {p1 : Int32} {r : Int32 × Int32} (hf : f_X12_fault fu o_code o_fault o_faultPlace p1 = some r) : Wr l D (gy g) yX12_fault cX12_fault 2 (some .int) 0 [.ref o_q0, .int p1] (wMd g o_q0 o_q1 o_q2 o_q3 o_q4 o_q5 o_q6 o_q7 o_q8 o_q9 o_q10 o_q11 o_q12 o_q13 o_q14 o_q15 o_q16 o_q17 o_q18 o_q19 o_q20 o_q21 o_q22 o_code o_tape o_size o_fault o_faultPlace o_many o_towns o_weeks o_logs o_reached o_length o_begins o_sort o_value o_word o_wrongAt o_laterFault o_laterPlace o_told o_read o_farOne o_good o_town o_people o_when o_sat o_quiet o_vain o_lent o_forgiven o_sundays o_purse o_beside o_debts o_sitting o_visited o_week o_heaps o_taken o_best o_more o_firstOne o_log o_fitting o_found o_seed o_row o_saved) (wMd g o_q0 o_q1 o_q2 o_q3 o_q4 o_q5 o_q6 o_q7 o_q8 o_q9 o_q10 o_q11 o_q12 o_q13 o_q14 o_q15 o_q16 o_q17 o_q18 o_q19 o_q20 o_q21 o_q22 r.2 o_tape o_size o_fault o_faultPlace o_many o_towns o_weeks o_logs o_reached o_length o_begins o_sort o_value o_word o_wrongAt o_laterFault o_laterPlace o_told o_read o_farOne o_good o_town o_people o_when o_sat o_quiet o_vain o_lent o_forgiven o_sundays o_purse o_beside o_debts o_sitting o_visited o_week o_heaps o_taken o_best o_more o_firstOne o_log o_fitting o_found o_seed o_row o_saved) (some (.int r.1)) := by
  refine Wr.ofI (by decide) (Nat.le_of_ble_eq_true rfl) ?_
  intro p e s m args below meth c Q A S hK hA hret ls hl hW
  have hl : lv_has ls 2 [(0, .ref o_q0), (1, .int p1)] := hl
  refine lv_aload_n S.1 S.2.1 dX12_fault_0 rfl (lv_at hl 0 rfl) ?_
  refine lv_iconst (v := 0) S.1 S.2.1 dX12_fault_1 ic_0 ?_
  refine pfX12_78 (ws2 := (wMd g o_q0 o_q1 o_q2 o_q3 o_q4 o_q5 o_q6 o_q7 o_q8 o_q9 o_q10 o_q11 o_q12 o_q13 o_q14 o_q15 o_q16 o_q17 o_q18 o_q19 o_q20 o_q21 o_q22 (0 : Int32) o_tape o_size o_fault o_faultPlace o_many o_towns o_weeks o_logs o_reached o_length o_begins o_sort o_value o_word o_wrongAt o_laterFault o_laterPlace o_told o_read o_farOne o_good o_town o_people o_when o_sat o_quiet o_vain o_lent o_forgiven o_sundays o_purse o_beside o_debts o_sitting o_visited o_week o_heaps o_taken o_best o_more o_firstOne o_log o_fitting o_found o_seed o_row o_saved)) S hK hW 0 rfl rfl rfl (Nat.le_of_ble_eq_true rfl) rfl dX12_fault_2 (fun H locs hW => ?_)
  refine lv_iload_n S.1 S.2.1 dX12_fault_5 rfl (lv_at hl 1 rfl) ?_
  refine lv_if_ne (tgt := 18) S.1 S.2.1 dX12_fault_6 (by decide) (fun c_ => ?_) (fun c_ => ?_)
  · have hf := it_n c_ hf
    refine lv_iload_n S.1 S.2.1 dX12_fault_18 rfl (lv_at hl 1 rfl) ?_
    refine lv_iconst (v := 1) S.1 S.2.1 dX12_fault_19 ic_1 ?_
    refine lv_icmp_ne (tgt := 32) S.1 S.2.1 dX12_fault_20 (by decide) (fun c_ => ?_) (fun c_ => ?_)
    · have hf := it_n c_ hf
      refine lv_iconst (v := (-1)) S.1 S.2.1 dX12_fault_32 ic_m1 ?_
      have e_ := Option.some.inj hf
      subst e_
      exact hret _ _ _ _ dX12_fault_33 hW
    · have hf := it_p c_ hf
      refine lv_aload_n S.1 S.2.1 dX12_fault_23 rfl (lv_at hl 0 rfl) ?_
      refine gfX12_20 S hK hW.1 0 rfl rfl dX12_fault_24 ?_
      refine lv_iconst (v := 0) S.1 S.2.1 dX12_fault_27 ic_0 ?_
      obtain ⟨x2, hx2, hf⟩ := bnd_e hf
      refine q_iald S hK hW.1 4 0 rfl rfl hx2 dX12_fault_28 ?_
      refine lv_goto (tgt := 33) S.1 S.2.1 dX12_fault_29 (by decide) ?_
      have e_ := Option.some.inj hf
      subst e_
      exact hret _ _ _ _ dX12_fault_33 hW
  · have hf := it_p c_ hf
    refine lv_aload_n S.1 S.2.1 dX12_fault_9 rfl (lv_at hl 0 rfl) ?_
    refine gfX12_17 S hK hW.1 0 rfl rfl dX12_fault_10 ?_
    refine lv_iconst (v := 0) S.1 S.2.1 dX12_fault_13 ic_0 ?_
    obtain ⟨x1, hx1, hf⟩ := bnd_e hf
    refine q_iald S hK hW.1 3 0 rfl rfl hx1 dX12_fault_14 ?_
    refine lv_goto (tgt := 33) S.1 S.2.1 dX12_fault_15 (by decide) ?_
    have e_ := Option.some.inj hf
    subst e_
    exact hret _ _ _ _ dX12_fault_33 hW
def f_X12_of (fu : Nat) (o_towns : (Nat → Int32)) (o_town : Int32) (p1 : Int32) : Option (Int32) := bnd (α := Int32) (rdi 440 o_towns (((55 : Int32) * o_town) + p1)) (fun x1 => some x1)
set_option maxHeartbeats 4000000 in
set_option maxRecDepth 100000 in
theorem c_X12_of {l : Launch} {D : va_G} {g : Nat → ClassId} {fu : Nat} {o_q0 o_q1 o_q2 o_q3 o_q4 o_q5 o_q6 o_q7 o_q8 o_q9 o_q10 o_q11 o_q12 o_q13 o_q14 o_q15 o_q16 o_q17 o_q18 o_q19 o_q20 o_q21 o_q22 : Nat} {o_code : Int32} {o_tape : (Nat → Int32)} {o_size : (Nat → Int32)} {o_fault : (Nat → Int32)} {o_faultPlace : (Nat → Int32)} {o_many : (Nat → Int32)} {o_towns : (Nat → Int32)} {o_weeks : (Nat → Int32)} {o_logs : (Nat → Int32)} {o_reached : Int32} {o_length : Int32} {o_begins : Int32} {o_sort : Int32} {o_value : Int32} {o_word : Int64} {o_wrongAt : Int32} {o_laterFault : Int32} {o_laterPlace : Int32} {o_told : (Nat → Int32)} {o_read : (Nat → Int32)} {o_farOne : Int32} {o_good : Int32} {o_town : Int32} {o_people : Int32} {o_when : Int32} {o_sat : Int32} {o_quiet : Int32} {o_vain : Int32} {o_lent : Int32} {o_forgiven : Int32} {o_sundays : Int32} {o_purse : (Nat → Int32)} {o_beside : (Nat → Int32)} {o_debts : (Nat → Int32)} {o_sitting : (Nat → Int32)} {o_visited : (Nat → Int32)} {o_week : Int32} {o_heaps : (Nat → Int32)} {o_taken : (Nat → Int32)} {o_best : (Nat → Int32)} {o_more : (Nat → Int32)} {o_firstOne : Int32} {o_log : Int32} {o_fitting : (Nat → Int32)} {o_found : Int32} {o_seed : Int32} {o_row : (Nat → Int32)} {o_saved : (Nat → Int32)} {p1 : Int32} {r : Int32} (hf : f_X12_of fu o_towns o_town p1 = some r) : Rd l D (gy g) yX12_of cX12_of 2 (some .int) 0 [.ref o_q0, .int p1] (wMd g o_q0 o_q1 o_q2 o_q3 o_q4 o_q5 o_q6 o_q7 o_q8 o_q9 o_q10 o_q11 o_q12 o_q13 o_q14 o_q15 o_q16 o_q17 o_q18 o_q19 o_q20 o_q21 o_q22 o_code o_tape o_size o_fault o_faultPlace o_many o_towns o_weeks o_logs o_reached o_length o_begins o_sort o_value o_word o_wrongAt o_laterFault o_laterPlace o_told o_read o_farOne o_good o_town o_people o_when o_sat o_quiet o_vain o_lent o_forgiven o_sundays o_purse o_beside o_debts o_sitting o_visited o_week o_heaps o_taken o_best o_more o_firstOne o_log o_fitting o_found o_seed o_row o_saved) (some (.int r)) := by
  refine Rd.ofI (by decide) (Nat.le_of_ble_eq_true rfl) ?_
  intro p e s m args below meth c Q S hK hP hret ls hl
  have hl : lv_has ls 2 [(0, .ref o_q0), (1, .int p1)] := hl
  refine lv_aload_n S.1 S.2.1 dX12_of_0 rfl (lv_at hl 0 rfl) ?_
  refine gfX12_26 S hK hP 0 rfl rfl dX12_of_1 ?_
  refine lv_bipush (v := 55) S.1 S.2.1 dX12_of_4 bp_55 ?_
  refine lv_aload_n S.1 S.2.1 dX12_of_6 rfl (lv_at hl 0 rfl) ?_
  refine gfX12_223 S hK hP 0 rfl rfl dX12_of_7 ?_
  refine lv_imul S.1 S.2.1 dX12_of_10 ?_
  refine lv_iload_n S.1 S.2.1 dX12_of_11 rfl (lv_at hl 1 rfl) ?_
  refine lv_iadd S.1 S.2.1 dX12_of_12 ?_
  obtain ⟨x1, hx1, hf⟩ := bnd_e hf
  refine q_iald S hK hP 6 0 rfl rfl hx1 dX12_of_13 ?_
  have e_ := Option.some.inj hf
  subst e_
  exact hret _ _ dX12_of_14
def f_X12_hand_L62 (fu : Nat) (o_towns : (Nat → Int32)) (p1 : Int32) (s4 : Int32 × (Nat → Int32) × (Nat → Int32) × (Nat → Int32) × (Nat → Int32)) : Option ((Int32 × (Nat → Int32) × (Nat → Int32) × (Nat → Int32) × (Nat → Int32)) ⊕ ((Nat → Int32) × (Nat → Int32) × (Nat → Int32) × (Nat → Int32))) := if (6 : Int32) ≤ s4.1 then some (.inr (s4.2.1, s4.2.2.1, s4.2.2.2.1, s4.2.2.2.2)) else bnd (α := Int32) (f_X12_of fu o_towns p1 ((7 : Int32) + s4.1)) (fun x7 => bnd (α := (Nat → Int32)) (wri 6 s4.2.1 s4.1 x7) (fun x8 => bnd (α := (Nat → Int32)) (wri 6 s4.2.2.1 s4.1 (6 : Int32)) (fun x9 => bnd (α := (Nat → Int32)) (wri 6 s4.2.2.2.1 s4.1 (0 : Int32)) (fun x10 => bnd (α := (Nat → Int32)) (wri 6 s4.2.2.2.2 s4.1 (0 : Int32)) (fun x11 => some (.inl ((s4.1 + 1), x8, x9, x10, x11)))))))
def f_X12_hand_L112 (fu : Nat) (o_towns : (Nat → Int32)) (p1 : Int32) (s14 : Int32 × (Nat → Int32)) : Option ((Int32 × (Nat → Int32)) ⊕ ((Nat → Int32))) := if (36 : Int32) ≤ s14.1 then some (.inr s14.2) else bnd (α := Int32) (f_X12_of fu o_towns p1 ((19 : Int32) + s14.1)) (fun x17 => bnd (α := (Nat → Int32)) (wri 36 s14.2 s14.1 x17) (fun x18 => some (.inl ((s14.1 + 1), x18))))
def f_X12_hand (fu : Nat) (o_many : (Nat → Int32)) (o_towns : (Nat → Int32)) (o_town : Int32) (o_people : Int32) (o_when : Int32) (o_sat : Int32) (o_quiet : Int32) (o_vain : Int32) (o_lent : Int32) (o_forgiven : Int32) (o_sundays : Int32) (o_purse : (Nat → Int32)) (o_beside : (Nat → Int32)) (o_debts : (Nat → Int32)) (o_sitting : (Nat → Int32)) (o_visited : (Nat → Int32)) (p1 : Int32) : Option (Int32 × Int32 × Int32 × Int32 × Int32 × Int32 × Int32 × Int32 × Int32 × Int32 × (Nat → Int32) × (Nat → Int32) × (Nat → Int32) × (Nat → Int32) × (Nat → Int32)) := bnd (α := Int32) (f_X12_is fu o_many (0 : Int32) p1) (fun x1 => if x1 = 0 then some ((0 : Int32), o_town, o_people, o_when, o_sat, o_quiet, o_vain, o_lent, o_forgiven, o_sundays, o_purse, o_beside, o_debts, o_sitting, o_visited) else bnd (α := Int32) (f_X12_of fu o_towns p1 (0 : Int32)) (fun x2 => bnd (α := (Nat → Int32) × (Nat → Int32) × (Nat → Int32) × (Nat → Int32)) (lp (f_X12_hand_L62 fu o_towns p1) fu ((0 : Int32), o_purse, o_beside, o_sitting, o_visited)) (fun v12 => bnd (α := (Nat → Int32)) (lp (f_X12_hand_L112 fu o_towns p1) fu ((0 : Int32), o_debts)) (fun v19 => some ((1 : Int32), p1, x2, (0 : Int32), (0 : Int32), (0 : Int32), (0 : Int32), (0 : Int32), (0 : Int32), (0 : Int32), v12.1, v12.2.1, v19, v12.2.2.1, v12.2.2.2)))))
set_option maxHeartbeats 4000000 in
set_option maxRecDepth 100000 in
theorem c_X12_hand {l : Launch} {D : va_G} {g : Nat → ClassId} {fu : Nat} {o_q0 o_q1 o_q2 o_q3 o_q4 o_q5 o_q6 o_q7 o_q8 o_q9 o_q10 o_q11 o_q12 o_q13 o_q14 o_q15 o_q16 o_q17 o_q18 o_q19 o_q20 o_q21 o_q22 : Nat} {o_code : Int32} {o_tape : (Nat → Int32)} {o_size : (Nat → Int32)} {o_fault : (Nat → Int32)} {o_faultPlace : (Nat → Int32)} {o_many : (Nat → Int32)} {o_towns : (Nat → Int32)} {o_weeks : (Nat → Int32)} {o_logs : (Nat → Int32)} {o_reached : Int32} {o_length : Int32} {o_begins : Int32} {o_sort : Int32} {o_value : Int32} {o_word : Int64} {o_wrongAt : Int32} {o_laterFault : Int32} {o_laterPlace : Int32} {o_told : (Nat → Int32)} {o_read : (Nat → Int32)} {o_farOne : Int32} {o_good : Int32} {o_town : Int32} {o_people : Int32} {o_when : Int32} {o_sat : Int32} {o_quiet : Int32} {o_vain : Int32} {o_lent : Int32} {o_forgiven : Int32} {o_sundays : Int32} {o_purse : (Nat → Int32)} {o_beside : (Nat → Int32)} {o_debts : (Nat → Int32)} {o_sitting : (Nat → Int32)} {o_visited : (Nat → Int32)} {o_week : Int32} {o_heaps : (Nat → Int32)} {o_taken : (Nat → Int32)} {o_best : (Nat → Int32)} {o_more : (Nat → Int32)} {o_firstOne : Int32} {o_log : Int32} {o_fitting : (Nat → Int32)} {o_found : Int32} {o_seed : Int32} {o_row : (Nat → Int32)} {o_saved : (Nat → Int32)} {p1 : Int32} {r : Int32 × Int32 × Int32 × Int32 × Int32 × Int32 × Int32 × Int32 × Int32 × Int32 × (Nat → Int32) × (Nat → Int32) × (Nat → Int32) × (Nat → Int32) × (Nat → Int32)} (hf : f_X12_hand fu o_many o_towns o_town o_people o_when o_sat o_quiet o_vain o_lent o_forgiven o_sundays o_purse o_beside o_debts o_sitting o_visited p1 = some r) : Wr l D (gy g) yX12_hand cX12_hand 3 (some .boolean) 2 [.ref o_q0, .int p1] (wMd g o_q0 o_q1 o_q2 o_q3 o_q4 o_q5 o_q6 o_q7 o_q8 o_q9 o_q10 o_q11 o_q12 o_q13 o_q14 o_q15 o_q16 o_q17 o_q18 o_q19 o_q20 o_q21 o_q22 o_code o_tape o_size o_fault o_faultPlace o_many o_towns o_weeks o_logs o_reached o_length o_begins o_sort o_value o_word o_wrongAt o_laterFault o_laterPlace o_told o_read o_farOne o_good o_town o_people o_when o_sat o_quiet o_vain o_lent o_forgiven o_sundays o_purse o_beside o_debts o_sitting o_visited o_week o_heaps o_taken o_best o_more o_firstOne o_log o_fitting o_found o_seed o_row o_saved) (wMd g o_q0 o_q1 o_q2 o_q3 o_q4 o_q5 o_q6 o_q7 o_q8 o_q9 o_q10 o_q11 o_q12 o_q13 o_q14 o_q15 o_q16 o_q17 o_q18 o_q19 o_q20 o_q21 o_q22 o_code o_tape o_size o_fault o_faultPlace o_many o_towns o_weeks o_logs o_reached o_length o_begins o_sort o_value o_word o_wrongAt o_laterFault o_laterPlace o_told o_read o_farOne o_good r.2.1 r.2.2.1 r.2.2.2.1 r.2.2.2.2.1 r.2.2.2.2.2.1 r.2.2.2.2.2.2.1 r.2.2.2.2.2.2.2.1 r.2.2.2.2.2.2.2.2.1 r.2.2.2.2.2.2.2.2.2.1 r.2.2.2.2.2.2.2.2.2.2.1 r.2.2.2.2.2.2.2.2.2.2.2.1 r.2.2.2.2.2.2.2.2.2.2.2.2.1 r.2.2.2.2.2.2.2.2.2.2.2.2.2.1 r.2.2.2.2.2.2.2.2.2.2.2.2.2.2 o_week o_heaps o_taken o_best o_more o_firstOne o_log o_fitting o_found o_seed o_row o_saved) (some (.int r.1)) := by
  refine Wr.ofZ (by decide) (Nat.le_of_ble_eq_true rfl) ?_
  intro p e s m args below meth c Q A S hK hA hret ls hl hW
  have hl : lv_has ls 3 [(0, .ref o_q0), (1, .int p1)] := hl
  refine lv_aload_n S.1 S.2.1 dX12_hand_0 rfl (lv_at hl 0 rfl) ?_
  refine lv_iconst (v := 0) S.1 S.2.1 dX12_hand_1 ic_0 ?_
  refine lv_iload_n S.1 S.2.1 dX12_hand_2 rfl (lv_at hl 1 rfl) ?_
  obtain ⟨x1, hx1, hf⟩ := bnd_e hf
  refine Rd.cV (c_X12_is hx1) S hK hW.1 0 10 rfl rfl kVX12_213 rfl hl.1 [] rfl (Nat.le_of_ble_eq_true rfl) ⟨(Nat.le_of_ble_eq_true rfl), (Nat.le_of_ble_eq_true rfl)⟩ ⟨(Nat.zero_le _), (Nat.zero_le _)⟩ dX12_hand_3 ?_
  refine lv_if_ne (tgt := 11) S.1 S.2.1 dX12_hand_6 (by decide) (fun c_ => ?_) (fun c_ => ?_)
  · have hf := it_n c_ hf
    refine lv_aload_n S.1 S.2.1 dX12_hand_11 rfl (lv_at hl 0 rfl) ?_
    refine lv_iload_n S.1 S.2.1 dX12_hand_12 rfl (lv_at hl 1 rfl) ?_
    refine pfX12_223 (ws2 := (wMd g o_q0 o_q1 o_q2 o_q3 o_q4 o_q5 o_q6 o_q7 o_q8 o_q9 o_q10 o_q11 o_q12 o_q13 o_q14 o_q15 o_q16 o_q17 o_q18 o_q19 o_q20 o_q21 o_q22 o_code o_tape o_size o_fault o_faultPlace o_many o_towns o_weeks o_logs o_reached o_length o_begins o_sort o_value o_word o_wrongAt o_laterFault o_laterPlace o_told o_read o_farOne o_good p1 o_people o_when o_sat o_quiet o_vain o_lent o_forgiven o_sundays o_purse o_beside o_debts o_sitting o_visited o_week o_heaps o_taken o_best o_more o_firstOne o_log o_fitting o_found o_seed o_row o_saved)) S hK hW 0 rfl rfl rfl (Nat.le_of_ble_eq_true rfl) rfl dX12_hand_13 (fun H locs hW => ?_)
    refine lv_aload_n S.1 S.2.1 dX12_hand_16 rfl (lv_at hl 0 rfl) ?_
    refine lv_aload_n S.1 S.2.1 dX12_hand_17 rfl (lv_at hl 0 rfl) ?_
    refine lv_iconst (v := 0) S.1 S.2.1 dX12_hand_18 ic_0 ?_
    obtain ⟨x2, hx2, hf⟩ := bnd_e hf
    refine Rd.cV (c_X12_of hx2) S hK hW.1 0 10 rfl rfl kVX12_226 rfl hl.1 [.ref o_q0] rfl (Nat.le_of_ble_eq_true rfl) ⟨(Nat.le_of_ble_eq_true rfl), (Nat.le_of_ble_eq_true rfl)⟩ ⟨(Nat.zero_le _), (Nat.zero_le _)⟩ dX12_hand_19 ?_
    refine pfX12_230 (ws2 := (wMd g o_q0 o_q1 o_q2 o_q3 o_q4 o_q5 o_q6 o_q7 o_q8 o_q9 o_q10 o_q11 o_q12 o_q13 o_q14 o_q15 o_q16 o_q17 o_q18 o_q19 o_q20 o_q21 o_q22 o_code o_tape o_size o_fault o_faultPlace o_many o_towns o_weeks o_logs o_reached o_length o_begins o_sort o_value o_word o_wrongAt o_laterFault o_laterPlace o_told o_read o_farOne o_good p1 x2 o_when o_sat o_quiet o_vain o_lent o_forgiven o_sundays o_purse o_beside o_debts o_sitting o_visited o_week o_heaps o_taken o_best o_more o_firstOne o_log o_fitting o_found o_seed o_row o_saved)) S hK hW 0 rfl rfl rfl (Nat.le_of_ble_eq_true rfl) rfl dX12_hand_22 (fun H locs hW => ?_)
    refine lv_aload_n S.1 S.2.1 dX12_hand_25 rfl (lv_at hl 0 rfl) ?_
    refine lv_iconst (v := 0) S.1 S.2.1 dX12_hand_26 ic_0 ?_
    refine pfX12_233 (ws2 := (wMd g o_q0 o_q1 o_q2 o_q3 o_q4 o_q5 o_q6 o_q7 o_q8 o_q9 o_q10 o_q11 o_q12 o_q13 o_q14 o_q15 o_q16 o_q17 o_q18 o_q19 o_q20 o_q21 o_q22 o_code o_tape o_size o_fault o_faultPlace o_many o_towns o_weeks o_logs o_reached o_length o_begins o_sort o_value o_word o_wrongAt o_laterFault o_laterPlace o_told o_read o_farOne o_good p1 x2 (0 : Int32) o_sat o_quiet o_vain o_lent o_forgiven o_sundays o_purse o_beside o_debts o_sitting o_visited o_week o_heaps o_taken o_best o_more o_firstOne o_log o_fitting o_found o_seed o_row o_saved)) S hK hW 0 rfl rfl rfl (Nat.le_of_ble_eq_true rfl) rfl dX12_hand_27 (fun H locs hW => ?_)
    refine lv_aload_n S.1 S.2.1 dX12_hand_30 rfl (lv_at hl 0 rfl) ?_
    refine lv_iconst (v := 0) S.1 S.2.1 dX12_hand_31 ic_0 ?_
    refine pfX12_236 (ws2 := (wMd g o_q0 o_q1 o_q2 o_q3 o_q4 o_q5 o_q6 o_q7 o_q8 o_q9 o_q10 o_q11 o_q12 o_q13 o_q14 o_q15 o_q16 o_q17 o_q18 o_q19 o_q20 o_q21 o_q22 o_code o_tape o_size o_fault o_faultPlace o_many o_towns o_weeks o_logs o_reached o_length o_begins o_sort o_value o_word o_wrongAt o_laterFault o_laterPlace o_told o_read o_farOne o_good p1 x2 (0 : Int32) (0 : Int32) o_quiet o_vain o_lent o_forgiven o_sundays o_purse o_beside o_debts o_sitting o_visited o_week o_heaps o_taken o_best o_more o_firstOne o_log o_fitting o_found o_seed o_row o_saved)) S hK hW 0 rfl rfl rfl (Nat.le_of_ble_eq_true rfl) rfl dX12_hand_32 (fun H locs hW => ?_)
    refine lv_aload_n S.1 S.2.1 dX12_hand_35 rfl (lv_at hl 0 rfl) ?_
    refine lv_iconst (v := 0) S.1 S.2.1 dX12_hand_36 ic_0 ?_
    refine pfX12_239 (ws2 := (wMd g o_q0 o_q1 o_q2 o_q3 o_q4 o_q5 o_q6 o_q7 o_q8 o_q9 o_q10 o_q11 o_q12 o_q13 o_q14 o_q15 o_q16 o_q17 o_q18 o_q19 o_q20 o_q21 o_q22 o_code o_tape o_size o_fault o_faultPlace o_many o_towns o_weeks o_logs o_reached o_length o_begins o_sort o_value o_word o_wrongAt o_laterFault o_laterPlace o_told o_read o_farOne o_good p1 x2 (0 : Int32) (0 : Int32) (0 : Int32) o_vain o_lent o_forgiven o_sundays o_purse o_beside o_debts o_sitting o_visited o_week o_heaps o_taken o_best o_more o_firstOne o_log o_fitting o_found o_seed o_row o_saved)) S hK hW 0 rfl rfl rfl (Nat.le_of_ble_eq_true rfl) rfl dX12_hand_37 (fun H locs hW => ?_)
    refine lv_aload_n S.1 S.2.1 dX12_hand_40 rfl (lv_at hl 0 rfl) ?_
    refine lv_iconst (v := 0) S.1 S.2.1 dX12_hand_41 ic_0 ?_
    refine pfX12_242 (ws2 := (wMd g o_q0 o_q1 o_q2 o_q3 o_q4 o_q5 o_q6 o_q7 o_q8 o_q9 o_q10 o_q11 o_q12 o_q13 o_q14 o_q15 o_q16 o_q17 o_q18 o_q19 o_q20 o_q21 o_q22 o_code o_tape o_size o_fault o_faultPlace o_many o_towns o_weeks o_logs o_reached o_length o_begins o_sort o_value o_word o_wrongAt o_laterFault o_laterPlace o_told o_read o_farOne o_good p1 x2 (0 : Int32) (0 : Int32) (0 : Int32) (0 : Int32) o_lent o_forgiven o_sundays o_purse o_beside o_debts o_sitting o_visited o_week o_heaps o_taken o_best o_more o_firstOne o_log o_fitting o_found o_seed o_row o_saved)) S hK hW 0 rfl rfl rfl (Nat.le_of_ble_eq_true rfl) rfl dX12_hand_42 (fun H locs hW => ?_)
    refine lv_aload_n S.1 S.2.1 dX12_hand_45 rfl (lv_at hl 0 rfl) ?_
    refine lv_iconst (v := 0) S.1 S.2.1 dX12_hand_46 ic_0 ?_
    refine pfX12_245 (ws2 := (wMd g o_q0 o_q1 o_q2 o_q3 o_q4 o_q5 o_q6 o_q7 o_q8 o_q9 o_q10 o_q11 o_q12 o_q13 o_q14 o_q15 o_q16 o_q17 o_q18 o_q19 o_q20 o_q21 o_q22 o_code o_tape o_size o_fault o_faultPlace o_many o_towns o_weeks o_logs o_reached o_length o_begins o_sort o_value o_word o_wrongAt o_laterFault o_laterPlace o_told o_read o_farOne o_good p1 x2 (0 : Int32) (0 : Int32) (0 : Int32) (0 : Int32) (0 : Int32) o_forgiven o_sundays o_purse o_beside o_debts o_sitting o_visited o_week o_heaps o_taken o_best o_more o_firstOne o_log o_fitting o_found o_seed o_row o_saved)) S hK hW 0 rfl rfl rfl (Nat.le_of_ble_eq_true rfl) rfl dX12_hand_47 (fun H locs hW => ?_)
    refine lv_aload_n S.1 S.2.1 dX12_hand_50 rfl (lv_at hl 0 rfl) ?_
    refine lv_iconst (v := 0) S.1 S.2.1 dX12_hand_51 ic_0 ?_
    refine pfX12_248 (ws2 := (wMd g o_q0 o_q1 o_q2 o_q3 o_q4 o_q5 o_q6 o_q7 o_q8 o_q9 o_q10 o_q11 o_q12 o_q13 o_q14 o_q15 o_q16 o_q17 o_q18 o_q19 o_q20 o_q21 o_q22 o_code o_tape o_size o_fault o_faultPlace o_many o_towns o_weeks o_logs o_reached o_length o_begins o_sort o_value o_word o_wrongAt o_laterFault o_laterPlace o_told o_read o_farOne o_good p1 x2 (0 : Int32) (0 : Int32) (0 : Int32) (0 : Int32) (0 : Int32) (0 : Int32) o_sundays o_purse o_beside o_debts o_sitting o_visited o_week o_heaps o_taken o_best o_more o_firstOne o_log o_fitting o_found o_seed o_row o_saved)) S hK hW 0 rfl rfl rfl (Nat.le_of_ble_eq_true rfl) rfl dX12_hand_52 (fun H locs hW => ?_)
    refine lv_aload_n S.1 S.2.1 dX12_hand_55 rfl (lv_at hl 0 rfl) ?_
    refine lv_iconst (v := 0) S.1 S.2.1 dX12_hand_56 ic_0 ?_
    refine pfX12_251 (ws2 := (wMd g o_q0 o_q1 o_q2 o_q3 o_q4 o_q5 o_q6 o_q7 o_q8 o_q9 o_q10 o_q11 o_q12 o_q13 o_q14 o_q15 o_q16 o_q17 o_q18 o_q19 o_q20 o_q21 o_q22 o_code o_tape o_size o_fault o_faultPlace o_many o_towns o_weeks o_logs o_reached o_length o_begins o_sort o_value o_word o_wrongAt o_laterFault o_laterPlace o_told o_read o_farOne o_good p1 x2 (0 : Int32) (0 : Int32) (0 : Int32) (0 : Int32) (0 : Int32) (0 : Int32) (0 : Int32) o_purse o_beside o_debts o_sitting o_visited o_week o_heaps o_taken o_best o_more o_firstOne o_log o_fitting o_found o_seed o_row o_saved)) S hK hW 0 rfl rfl rfl (Nat.le_of_ble_eq_true rfl) rfl dX12_hand_57 (fun H locs hW => ?_)
    refine lv_iconst (v := 0) S.1 S.2.1 dX12_hand_60 ic_0 ?_
    refine lv_istore_n (lv' := [(2, .int (0 : Int32)), (0, .ref o_q0), (1, .int p1)]) S.1 S.2.1 dX12_hand_61 rfl hl (by decide) rfl (fun ls hl => ?_)
    obtain ⟨x5, hf_, hk5⟩ := bnd_e hf
    have hE5 : ∀ (v12 : (Nat → Int32) × (Nat → Int32) × (Nat → Int32) × (Nat → Int32)), v12 = x5 → ∀ (ls : Array Slot) (H : Heap) (locs : List Loc), lv_has ls 3 [(0, .ref o_q0)] → St A s.heap D (wMd g o_q0 o_q1 o_q2 o_q3 o_q4 o_q5 o_q6 o_q7 o_q8 o_q9 o_q10 o_q11 o_q12 o_q13 o_q14 o_q15 o_q16 o_q17 o_q18 o_q19 o_q20 o_q21 o_q22 o_code o_tape o_size o_fault o_faultPlace o_many o_towns o_weeks o_logs o_reached o_length o_begins o_sort o_value o_word o_wrongAt o_laterFault o_laterPlace o_told o_read o_farOne o_good p1 x2 (0 : Int32) (0 : Int32) (0 : Int32) (0 : Int32) (0 : Int32) (0 : Int32) (0 : Int32) v12.1 v12.2.1 o_debts v12.2.2.1 v12.2.2.2 o_week o_heaps o_taken o_best o_more o_firstOne o_log o_fitting o_found o_seed o_row o_saved) H locs → W p l e (rmD 2) s m args below meth c H locs 0 0 Q (F0 m 110 ls []) := by
      intro v12 e_ ls H locs hl hW
      subst e_
      have hf := hk5
      refine lv_iconst (v := 0) S.1 S.2.1 dX12_hand_110 ic_0 ?_
      refine lv_istore_n (lv' := [(2, .int (0 : Int32)), (0, .ref o_q0)]) S.1 S.2.1 dX12_hand_111 rfl hl (by decide) rfl (fun ls hl => ?_)
      obtain ⟨x15, hf_, hk15⟩ := bnd_e hf
      have hE15 : ∀ (v19 : (Nat → Int32)), v19 = x15 → ∀ (ls : Array Slot) (H : Heap) (locs : List Loc), lv_has ls 3 [] → St A s.heap D (wMd g o_q0 o_q1 o_q2 o_q3 o_q4 o_q5 o_q6 o_q7 o_q8 o_q9 o_q10 o_q11 o_q12 o_q13 o_q14 o_q15 o_q16 o_q17 o_q18 o_q19 o_q20 o_q21 o_q22 o_code o_tape o_size o_fault o_faultPlace o_many o_towns o_weeks o_logs o_reached o_length o_begins o_sort o_value o_word o_wrongAt o_laterFault o_laterPlace o_told o_read o_farOne o_good p1 x2 (0 : Int32) (0 : Int32) (0 : Int32) (0 : Int32) (0 : Int32) (0 : Int32) (0 : Int32) v12.1 v12.2.1 v19 v12.2.2.1 v12.2.2.2 o_week o_heaps o_taken o_best o_more o_firstOne o_log o_fitting o_found o_seed o_row o_saved) H locs → W p l e (rmD 2) s m args below meth c H locs 0 0 Q (F0 m 138 ls []) := by
        intro v19 e_ ls H locs hl hW
        subst e_
        have hf := hk15
        refine lv_iconst (v := 1) S.1 S.2.1 dX12_hand_138 ic_1 ?_
        have e_ := Option.some.inj hf
        subst e_
        exact hret _ _ _ _ (Or.inr rfl) dX12_hand_139 hW
      refine lp_ind (P := fun (s14 : Int32 × (Nat → Int32)) => ∀ (ls : Array Slot) (H : Heap) (locs : List Loc), lv_has ls 3 [(0, .ref o_q0), (2, .int s14.1)] → St A s.heap D (wMd g o_q0 o_q1 o_q2 o_q3 o_q4 o_q5 o_q6 o_q7 o_q8 o_q9 o_q10 o_q11 o_q12 o_q13 o_q14 o_q15 o_q16 o_q17 o_q18 o_q19 o_q20 o_q21 o_q22 o_code o_tape o_size o_fault o_faultPlace o_many o_towns o_weeks o_logs o_reached o_length o_begins o_sort o_value o_word o_wrongAt o_laterFault o_laterPlace o_told o_read o_farOne o_good p1 x2 (0 : Int32) (0 : Int32) (0 : Int32) (0 : Int32) (0 : Int32) (0 : Int32) (0 : Int32) v12.1 v12.2.1 s14.2 v12.2.2.1 v12.2.2.2 o_week o_heaps o_taken o_best o_more o_firstOne o_log o_fitting o_found o_seed o_row o_saved) H locs → W p l e (rmD 2) s m args below meth c H locs 0 0 Q (F0 m 112 ls [])) ?_ _ _ hf_ _ _ _ (lv_sub hl [1, 0] rfl) hW
      intro s14 x16 hf hI15 hR15 ls H locs hl hW
      refine lv_iload_n S.1 S.2.1 dX12_hand_112 rfl (lv_at hl 1 rfl) ?_
      refine lv_bipush (v := 36) S.1 S.2.1 dX12_hand_113 bp_36 ?_
      refine lv_icmp_ge (tgt := 138) S.1 S.2.1 dX12_hand_115 (by decide) (fun c_ => ?_) (fun c_ => ?_)
      · have hf := it_p c_ hf
        have e_ := hR15 _ (Option.some.inj hf).symm
        exact hE15 _ e_ _ _ _ (lv_sub hl [] rfl) hW
      · have hf := it_n c_ hf
        refine lv_aload_n S.1 S.2.1 dX12_hand_118 rfl (lv_at hl 0 rfl) ?_
        refine gfX12_47 S hK hW.1 0 rfl rfl dX12_hand_119 ?_
        refine lv_iload_n S.1 S.2.1 dX12_hand_122 rfl (lv_at hl 1 rfl) ?_
        refine lv_aload_n S.1 S.2.1 dX12_hand_123 rfl (lv_at hl 0 rfl) ?_
        refine lv_bipush (v := 19) S.1 S.2.1 dX12_hand_124 bp_19 ?_
        refine lv_iload_n S.1 S.2.1 dX12_hand_126 rfl (lv_at hl 1 rfl) ?_
        refine lv_iadd S.1 S.2.1 dX12_hand_127 ?_
        obtain ⟨x17, hx17, hf⟩ := bnd_e hf
        refine Rd.cV (c_X12_of hx17) S hK hW.1 0 10 rfl rfl kVX12_226 rfl hl.1 [.int s14.1, .ref o_q13] rfl (Nat.le_of_ble_eq_true rfl) ⟨(Nat.le_of_ble_eq_true rfl), (Nat.le_of_ble_eq_true rfl)⟩ ⟨(Nat.zero_le _), (Nat.zero_le _)⟩ dX12_hand_128 ?_
        obtain ⟨x18, hx18, hf⟩ := bnd_e hf
        refine q_iast (ws2 := (wMd g o_q0 o_q1 o_q2 o_q3 o_q4 o_q5 o_q6 o_q7 o_q8 o_q9 o_q10 o_q11 o_q12 o_q13 o_q14 o_q15 o_q16 o_q17 o_q18 o_q19 o_q20 o_q21 o_q22 o_code o_tape o_size o_fault o_faultPlace o_many o_towns o_weeks o_logs o_reached o_length o_begins o_sort o_value o_word o_wrongAt o_laterFault o_laterPlace o_told o_read o_farOne o_good p1 x2 (0 : Int32) (0 : Int32) (0 : Int32) (0 : Int32) (0 : Int32) (0 : Int32) (0 : Int32) v12.1 v12.2.1 x18 v12.2.2.1 v12.2.2.2 o_week o_heaps o_taken o_best o_more o_firstOne o_log o_fitting o_found o_seed o_row o_saved)) S hK hW 13 0 rfl rfl hx18 rfl dX12_hand_131 (fun H locs hW => ?_)
        refine q_iinc (w := 1) (lv' := [(2, .int (s14.1 + 1)), (0, .ref o_q0)]) S dX12_hand_132 hl (k := 1) rfl ic_1 (by decide) rfl (fun ls hl => ?_)
        refine lv_goto (tgt := 112) S.1 S.2.1 dX12_hand_135 (by decide) ?_
        exact hI15 _ (Option.some.inj hf).symm _ _ _ (lv_sub hl [1, 0] rfl) hW
    refine lp_ind (P := fun (s4 : Int32 × (Nat → Int32) × (Nat → Int32) × (Nat → Int32) × (Nat → Int32)) => ∀ (ls : Array Slot) (H : Heap) (locs : List Loc), lv_has ls 3 [(0, .ref o_q0), (2, .int s4.1)] → St A s.heap D (wMd g o_q0 o_q1 o_q2 o_q3 o_q4 o_q5 o_q6 o_q7 o_q8 o_q9 o_q10 o_q11 o_q12 o_q13 o_q14 o_q15 o_q16 o_q17 o_q18 o_q19 o_q20 o_q21 o_q22 o_code o_tape o_size o_fault o_faultPlace o_many o_towns o_weeks o_logs o_reached o_length o_begins o_sort o_value o_word o_wrongAt o_laterFault o_laterPlace o_told o_read o_farOne o_good p1 x2 (0 : Int32) (0 : Int32) (0 : Int32) (0 : Int32) (0 : Int32) (0 : Int32) (0 : Int32) s4.2.1 s4.2.2.1 o_debts s4.2.2.2.1 s4.2.2.2.2 o_week o_heaps o_taken o_best o_more o_firstOne o_log o_fitting o_found o_seed o_row o_saved) H locs → W p l e (rmD 2) s m args below meth c H locs 0 0 Q (F0 m 62 ls [])) ?_ _ _ hf_ _ _ _ (lv_sub hl [1, 0] rfl) hW
    intro s4 x6 hf hI5 hR5 ls H locs hl hW
    refine lv_iload_n S.1 S.2.1 dX12_hand_62 rfl (lv_at hl 1 rfl) ?_
    refine lv_bipush (v := 6) S.1 S.2.1 dX12_hand_63 bp_6 ?_
    refine lv_icmp_ge (tgt := 110) S.1 S.2.1 dX12_hand_65 (by decide) (fun c_ => ?_) (fun c_ => ?_)
    · have hf := it_p c_ hf
      have e_ := hR5 _ (Option.some.inj hf).symm
      exact hE5 _ e_ _ _ _ (lv_sub hl [0] rfl) hW
    · have hf := it_n c_ hf
      refine lv_aload_n S.1 S.2.1 dX12_hand_68 rfl (lv_at hl 0 rfl) ?_
      refine gfX12_41 S hK hW.1 0 rfl rfl dX12_hand_69 ?_
      refine lv_iload_n S.1 S.2.1 dX12_hand_72 rfl (lv_at hl 1 rfl) ?_
      refine lv_aload_n S.1 S.2.1 dX12_hand_73 rfl (lv_at hl 0 rfl) ?_
      refine lv_bipush (v := 7) S.1 S.2.1 dX12_hand_74 bp_7 ?_
      refine lv_iload_n S.1 S.2.1 dX12_hand_76 rfl (lv_at hl 1 rfl) ?_
      refine lv_iadd S.1 S.2.1 dX12_hand_77 ?_
      obtain ⟨x7, hx7, hf⟩ := bnd_e hf
      refine Rd.cV (c_X12_of hx7) S hK hW.1 0 10 rfl rfl kVX12_226 rfl hl.1 [.int s4.1, .ref o_q11] rfl (Nat.le_of_ble_eq_true rfl) ⟨(Nat.le_of_ble_eq_true rfl), (Nat.le_of_ble_eq_true rfl)⟩ ⟨(Nat.zero_le _), (Nat.zero_le _)⟩ dX12_hand_78 ?_
      obtain ⟨x8, hx8, hf⟩ := bnd_e hf
      refine q_iast (ws2 := (wMd g o_q0 o_q1 o_q2 o_q3 o_q4 o_q5 o_q6 o_q7 o_q8 o_q9 o_q10 o_q11 o_q12 o_q13 o_q14 o_q15 o_q16 o_q17 o_q18 o_q19 o_q20 o_q21 o_q22 o_code o_tape o_size o_fault o_faultPlace o_many o_towns o_weeks o_logs o_reached o_length o_begins o_sort o_value o_word o_wrongAt o_laterFault o_laterPlace o_told o_read o_farOne o_good p1 x2 (0 : Int32) (0 : Int32) (0 : Int32) (0 : Int32) (0 : Int32) (0 : Int32) (0 : Int32) x8 s4.2.2.1 o_debts s4.2.2.2.1 s4.2.2.2.2 o_week o_heaps o_taken o_best o_more o_firstOne o_log o_fitting o_found o_seed o_row o_saved)) S hK hW 11 0 rfl rfl hx8 rfl dX12_hand_81 (fun H locs hW => ?_)
      refine lv_aload_n S.1 S.2.1 dX12_hand_82 rfl (lv_at hl 0 rfl) ?_
      refine gfX12_44 S hK hW.1 0 rfl rfl dX12_hand_83 ?_
      refine lv_iload_n S.1 S.2.1 dX12_hand_86 rfl (lv_at hl 1 rfl) ?_
      refine lv_bipush (v := 6) S.1 S.2.1 dX12_hand_87 bp_6 ?_
      obtain ⟨x9, hx9, hf⟩ := bnd_e hf
      refine q_iast (ws2 := (wMd g o_q0 o_q1 o_q2 o_q3 o_q4 o_q5 o_q6 o_q7 o_q8 o_q9 o_q10 o_q11 o_q12 o_q13 o_q14 o_q15 o_q16 o_q17 o_q18 o_q19 o_q20 o_q21 o_q22 o_code o_tape o_size o_fault o_faultPlace o_many o_towns o_weeks o_logs o_reached o_length o_begins o_sort o_value o_word o_wrongAt o_laterFault o_laterPlace o_told o_read o_farOne o_good p1 x2 (0 : Int32) (0 : Int32) (0 : Int32) (0 : Int32) (0 : Int32) (0 : Int32) (0 : Int32) x8 x9 o_debts s4.2.2.2.1 s4.2.2.2.2 o_week o_heaps o_taken o_best o_more o_firstOne o_log o_fitting o_found o_seed o_row o_saved)) S hK hW 12 0 rfl rfl hx9 rfl dX12_hand_89 (fun H locs hW => ?_)
      refine lv_aload_n S.1 S.2.1 dX12_hand_90 rfl (lv_at hl 0 rfl) ?_
      refine gfX12_50 S hK hW.1 0 rfl rfl dX12_hand_91 ?_
      refine lv_iload_n S.1 S.2.1 dX12_hand_94 rfl (lv_at hl 1 rfl) ?_
      refine lv_iconst (v := 0) S.1 S.2.1 dX12_hand_95 ic_0 ?_
      obtain ⟨x10, hx10, hf⟩ := bnd_e hf
      refine q_iast (ws2 := (wMd g o_q0 o_q1 o_q2 o_q3 o_q4 o_q5 o_q6 o_q7 o_q8 o_q9 o_q10 o_q11 o_q12 o_q13 o_q14 o_q15 o_q16 o_q17 o_q18 o_q19 o_q20 o_q21 o_q22 o_code o_tape o_size o_fault o_faultPlace o_many o_towns o_weeks o_logs o_reached o_length o_begins o_sort o_value o_word o_wrongAt o_laterFault o_laterPlace o_told o_read o_farOne o_good p1 x2 (0 : Int32) (0 : Int32) (0 : Int32) (0 : Int32) (0 : Int32) (0 : Int32) (0 : Int32) x8 x9 o_debts x10 s4.2.2.2.2 o_week o_heaps o_taken o_best o_more o_firstOne o_log o_fitting o_found o_seed o_row o_saved)) S hK hW 14 0 rfl rfl hx10 rfl dX12_hand_96 (fun H locs hW => ?_)
      refine lv_aload_n S.1 S.2.1 dX12_hand_97 rfl (lv_at hl 0 rfl) ?_
      refine gfX12_53 S hK hW.1 0 rfl rfl dX12_hand_98 ?_
      refine lv_iload_n S.1 S.2.1 dX12_hand_101 rfl (lv_at hl 1 rfl) ?_
      refine lv_iconst (v := 0) S.1 S.2.1 dX12_hand_102 ic_0 ?_
      obtain ⟨x11, hx11, hf⟩ := bnd_e hf
      refine q_iast (ws2 := (wMd g o_q0 o_q1 o_q2 o_q3 o_q4 o_q5 o_q6 o_q7 o_q8 o_q9 o_q10 o_q11 o_q12 o_q13 o_q14 o_q15 o_q16 o_q17 o_q18 o_q19 o_q20 o_q21 o_q22 o_code o_tape o_size o_fault o_faultPlace o_many o_towns o_weeks o_logs o_reached o_length o_begins o_sort o_value o_word o_wrongAt o_laterFault o_laterPlace o_told o_read o_farOne o_good p1 x2 (0 : Int32) (0 : Int32) (0 : Int32) (0 : Int32) (0 : Int32) (0 : Int32) (0 : Int32) x8 x9 o_debts x10 x11 o_week o_heaps o_taken o_best o_more o_firstOne o_log o_fitting o_found o_seed o_row o_saved)) S hK hW 15 0 rfl rfl hx11 rfl dX12_hand_103 (fun H locs hW => ?_)
      refine q_iinc (w := 1) (lv' := [(2, .int (s4.1 + 1)), (0, .ref o_q0)]) S dX12_hand_104 hl (k := 1) rfl ic_1 (by decide) rfl (fun ls hl => ?_)
      refine lv_goto (tgt := 62) S.1 S.2.1 dX12_hand_107 (by decide) ?_
      exact hI5 _ (Option.some.inj hf).symm _ _ _ (lv_sub hl [1, 0] rfl) hW
  · have hf := it_p c_ hf
    refine lv_iconst (v := 0) S.1 S.2.1 dX12_hand_9 ic_0 ?_
    have e_ := Option.some.inj hf
    subst e_
    exact hret _ _ _ _ (Or.inl rfl) dX12_hand_10 hW
def f_X12_isPerson (fu : Nat) (o_people : Int32) (p1 : Int32) : Option (Int32) := bnd (α := Int32) (f_X12_in fu p1 (0 : Int32) (o_people - (1 : Int32))) (fun x1 => bnd (α := Int32) (bz x1) (fun z2 => some z2))
set_option maxHeartbeats 4000000 in
set_option maxRecDepth 100000 in
theorem c_X12_isPerson {l : Launch} {D : va_G} {g : Nat → ClassId} {fu : Nat} {o_q0 o_q1 o_q2 o_q3 o_q4 o_q5 o_q6 o_q7 o_q8 o_q9 o_q10 o_q11 o_q12 o_q13 o_q14 o_q15 o_q16 o_q17 o_q18 o_q19 o_q20 o_q21 o_q22 : Nat} {o_code : Int32} {o_tape : (Nat → Int32)} {o_size : (Nat → Int32)} {o_fault : (Nat → Int32)} {o_faultPlace : (Nat → Int32)} {o_many : (Nat → Int32)} {o_towns : (Nat → Int32)} {o_weeks : (Nat → Int32)} {o_logs : (Nat → Int32)} {o_reached : Int32} {o_length : Int32} {o_begins : Int32} {o_sort : Int32} {o_value : Int32} {o_word : Int64} {o_wrongAt : Int32} {o_laterFault : Int32} {o_laterPlace : Int32} {o_told : (Nat → Int32)} {o_read : (Nat → Int32)} {o_farOne : Int32} {o_good : Int32} {o_town : Int32} {o_people : Int32} {o_when : Int32} {o_sat : Int32} {o_quiet : Int32} {o_vain : Int32} {o_lent : Int32} {o_forgiven : Int32} {o_sundays : Int32} {o_purse : (Nat → Int32)} {o_beside : (Nat → Int32)} {o_debts : (Nat → Int32)} {o_sitting : (Nat → Int32)} {o_visited : (Nat → Int32)} {o_week : Int32} {o_heaps : (Nat → Int32)} {o_taken : (Nat → Int32)} {o_best : (Nat → Int32)} {o_more : (Nat → Int32)} {o_firstOne : Int32} {o_log : Int32} {o_fitting : (Nat → Int32)} {o_found : Int32} {o_seed : Int32} {o_row : (Nat → Int32)} {o_saved : (Nat → Int32)} {p1 : Int32} {r : Int32} (hf : f_X12_isPerson fu o_people p1 = some r) : Rd l D (gy g) yX12_isPerson cX12_isPerson 2 (some .boolean) 1 [.ref o_q0, .int p1] (wMd g o_q0 o_q1 o_q2 o_q3 o_q4 o_q5 o_q6 o_q7 o_q8 o_q9 o_q10 o_q11 o_q12 o_q13 o_q14 o_q15 o_q16 o_q17 o_q18 o_q19 o_q20 o_q21 o_q22 o_code o_tape o_size o_fault o_faultPlace o_many o_towns o_weeks o_logs o_reached o_length o_begins o_sort o_value o_word o_wrongAt o_laterFault o_laterPlace o_told o_read o_farOne o_good o_town o_people o_when o_sat o_quiet o_vain o_lent o_forgiven o_sundays o_purse o_beside o_debts o_sitting o_visited o_week o_heaps o_taken o_best o_more o_firstOne o_log o_fitting o_found o_seed o_row o_saved) (some (.int r)) := by
  refine Rd.ofZ (by decide) (Nat.le_of_ble_eq_true rfl) ?_
  intro p e s m args below meth c Q S hK hP hret ls hl
  have hl : lv_has ls 2 [(0, .ref o_q0), (1, .int p1)] := hl
  refine lv_iload_n S.1 S.2.1 dX12_isPerson_0 rfl (lv_at hl 1 rfl) ?_
  refine lv_iconst (v := 0) S.1 S.2.1 dX12_isPerson_1 ic_0 ?_
  refine lv_aload_n S.1 S.2.1 dX12_isPerson_2 rfl (lv_at hl 0 rfl) ?_
  refine gfX12_230 S hK hP 0 rfl rfl dX12_isPerson_3 ?_
  refine lv_iconst (v := 1) S.1 S.2.1 dX12_isPerson_6 ic_1 ?_
  refine lv_isub S.1 S.2.1 dX12_isPerson_7 ?_
  obtain ⟨x1, hx1, hf⟩ := bnd_e hf
  refine Rd.cS (c_X12_in hx1) S hK va_P.nil kSX12_90 rfl hl.1 [] rfl (Nat.le_of_ble_eq_true rfl) ⟨(Nat.le_of_ble_eq_true rfl), (Nat.le_of_ble_eq_true rfl)⟩ ⟨(Nat.zero_le _), (Nat.zero_le _)⟩ dX12_isPerson_8 ?_
  obtain ⟨z2, hz2, hf⟩ := bnd_e hf
  obtain ⟨hzz2, ezz2⟩ := bz_e hz2
  rw [ezz2]
  have e_ := Option.some.inj hf
  subst e_
  exact hret _ _ hzz2 dX12_isPerson_11
def f_X12_owed (fu : Nat) (o_debts : (Nat → Int32)) (p1 : Int32) (p2 : Int32) : Option (Int32) := bnd (α := Int32) (rdi 36 o_debts (((6 : Int32) * p1) + p2)) (fun x1 => some x1)
set_option maxHeartbeats 4000000 in
set_option maxRecDepth 100000 in
theorem c_X12_owed {l : Launch} {D : va_G} {g : Nat → ClassId} {fu : Nat} {o_q0 o_q1 o_q2 o_q3 o_q4 o_q5 o_q6 o_q7 o_q8 o_q9 o_q10 o_q11 o_q12 o_q13 o_q14 o_q15 o_q16 o_q17 o_q18 o_q19 o_q20 o_q21 o_q22 : Nat} {o_code : Int32} {o_tape : (Nat → Int32)} {o_size : (Nat → Int32)} {o_fault : (Nat → Int32)} {o_faultPlace : (Nat → Int32)} {o_many : (Nat → Int32)} {o_towns : (Nat → Int32)} {o_weeks : (Nat → Int32)} {o_logs : (Nat → Int32)} {o_reached : Int32} {o_length : Int32} {o_begins : Int32} {o_sort : Int32} {o_value : Int32} {o_word : Int64} {o_wrongAt : Int32} {o_laterFault : Int32} {o_laterPlace : Int32} {o_told : (Nat → Int32)} {o_read : (Nat → Int32)} {o_farOne : Int32} {o_good : Int32} {o_town : Int32} {o_people : Int32} {o_when : Int32} {o_sat : Int32} {o_quiet : Int32} {o_vain : Int32} {o_lent : Int32} {o_forgiven : Int32} {o_sundays : Int32} {o_purse : (Nat → Int32)} {o_beside : (Nat → Int32)} {o_debts : (Nat → Int32)} {o_sitting : (Nat → Int32)} {o_visited : (Nat → Int32)} {o_week : Int32} {o_heaps : (Nat → Int32)} {o_taken : (Nat → Int32)} {o_best : (Nat → Int32)} {o_more : (Nat → Int32)} {o_firstOne : Int32} {o_log : Int32} {o_fitting : (Nat → Int32)} {o_found : Int32} {o_seed : Int32} {o_row : (Nat → Int32)} {o_saved : (Nat → Int32)} {p1 : Int32} {p2 : Int32} {r : Int32} (hf : f_X12_owed fu o_debts p1 p2 = some r) : Rd l D (gy g) yX12_owed cX12_owed 3 (some .int) 0 [.ref o_q0, .int p1, .int p2] (wMd g o_q0 o_q1 o_q2 o_q3 o_q4 o_q5 o_q6 o_q7 o_q8 o_q9 o_q10 o_q11 o_q12 o_q13 o_q14 o_q15 o_q16 o_q17 o_q18 o_q19 o_q20 o_q21 o_q22 o_code o_tape o_size o_fault o_faultPlace o_many o_towns o_weeks o_logs o_reached o_length o_begins o_sort o_value o_word o_wrongAt o_laterFault o_laterPlace o_told o_read o_farOne o_good o_town o_people o_when o_sat o_quiet o_vain o_lent o_forgiven o_sundays o_purse o_beside o_debts o_sitting o_visited o_week o_heaps o_taken o_best o_more o_firstOne o_log o_fitting o_found o_seed o_row o_saved) (some (.int r)) := by
  refine Rd.ofI (by decide) (Nat.le_of_ble_eq_true rfl) ?_
  intro p e s m args below meth c Q S hK hP hret ls hl
  have hl : lv_has ls 3 [(0, .ref o_q0), (1, .int p1), (2, .int p2)] := hl
  refine lv_aload_n S.1 S.2.1 dX12_owed_0 rfl (lv_at hl 0 rfl) ?_
  refine gfX12_47 S hK hP 0 rfl rfl dX12_owed_1 ?_
  refine lv_bipush (v := 6) S.1 S.2.1 dX12_owed_4 bp_6 ?_
  refine lv_iload_n S.1 S.2.1 dX12_owed_6 rfl (lv_at hl 1 rfl) ?_
  refine lv_imul S.1 S.2.1 dX12_owed_7 ?_
  refine lv_iload_n S.1 S.2.1 dX12_owed_8 rfl (lv_at hl 2 rfl) ?_
  refine lv_iadd S.1 S.2.1 dX12_owed_9 ?_
  obtain ⟨x1, hx1, hf⟩ := bnd_e hf
  refine q_iald S hK hP 13 0 rfl rfl hx1 dX12_owed_10 ?_
  have e_ := Option.some.inj hf
  subst e_
  exact hret _ _ dX12_owed_11
