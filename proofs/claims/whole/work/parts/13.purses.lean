def f_X4_mostGroups_L5 (o_table : (Nat → Int32)) (t_people : Int32) (p2 : Int32) (s2 : Int32 × Int32) : Option ((Int32 × Int32) ⊕ (Int32)) := if t_people ≤ s2.2 then some (.inr s2.1) else if ((jshr p2 s2.2) &&& (1 : Int32)) = 0 then some (.inl (s2.1, (s2.2 + 1))) else bnd (α := Int32) (rdi 448 o_table (p2 ^^^ (jshl (1 : Int32) s2.2))) (fun x5 => ltn (jmax s2.1 x5) (fun x6 => some (.inl (x6, (s2.2 + 1)))))
def f_X4_mostGroups (fu : Nat) (o_sums : (Nat → Int32)) (o_table : (Nat → Int32)) (t_people : Int32) (p2 : Int32) : Option (Int32) := bnd (α := Int32) (lp (f_X4_mostGroups_L5 o_table t_people p2) fu ((0 : Int32), (0 : Int32))) (fun v7 => bnd (α := Int32) (rdi 64 o_sums p2) (fun x8 => if x8 = 0 then some (v7 + (1 : Int32)) else some v7))
set_option maxHeartbeats 4000000 in
set_option maxRecDepth 100000 in
theorem c_X4_mostGroups {l : Launch} {D : va_G} {g : Nat → ClassId} {fu : Nat} {o_q0 o_q1 o_q2 o_q3 o_q4 t_q0 t_q1 t_q2 t_q3 t_q4 : Nat} {o_sums : (Nat → Int32)} {o_table : (Nat → Int32)} {o_onward : (Nat → Int32)} {o_chances : (Nat → Int64)} {t_people : Int32} {t_wit : (Nat → Int32)} {t_purse : (Nat → Int32)} {t_hated : (Nat → Int32)} {t_owed : (Nat → Int32)} {p2 : Int32} {r : Int32} (hf : f_X4_mostGroups fu o_sums o_table t_people p2 = some r) : Rd l D (gy g) yX4_mostGroups cX4_mostGroups 5 (some .int) 1 [.ref o_q0, .ref t_q0, .int p2] (wPu g o_q0 o_q1 o_q2 o_q3 o_q4 o_sums o_table o_onward o_chances ++ wTw g t_q0 t_q1 t_q2 t_q3 t_q4 t_people t_wit t_purse t_hated t_owed) (some (.int r)) := by
  refine Rd.ofI (by decide) (Nat.le_of_ble_eq_true rfl) ?_
  intro p e s m args below meth c Q S hK hP hret ls hl
  have hl : lv_has ls 5 [(0, .ref o_q0), (1, .ref t_q0), (2, .int p2)] := hl
  refine lv_iconst (v := 0) S.1 S.2.1 dX4_mostGroups_0 ic_0 ?_
  refine lv_istore_n (lv' := [(3, .int (0 : Int32)), (0, .ref o_q0), (1, .ref t_q0), (2, .int p2)]) S.1 S.2.1 dX4_mostGroups_1 rfl hl (by decide) rfl (fun ls hl => ?_)
  refine lv_iconst (v := 0) S.1 S.2.1 dX4_mostGroups_2 ic_0 ?_
  refine lv_istore (lv' := [(4, .int (0 : Int32)), (3, .int (0 : Int32)), (0, .ref o_q0), (1, .ref t_q0), (2, .int p2)]) S.1 S.2.1 dX4_mostGroups_3 hl (by decide) rfl (fun ls hl => ?_)
  obtain ⟨x3, hf_, hk3⟩ := bnd_e hf
  have hE3 : ∀ (v7 : Int32), v7 = x3 → ∀ (ls : Array Slot), lv_has ls 5 [(0, .ref o_q0), (2, .int p2), (3, .int v7)] → W p l e (rmD 1) s m args below meth c s.heap [] 0 0 Q (F0 m 45 ls []) := by
    intro v7 e_ ls hl
    subst e_
    have hf := hk3
    refine lv_aload_n S.1 S.2.1 dX4_mostGroups_45 rfl (lv_at hl 0 rfl) ?_
    refine gfX4_9 S hK hP 0 rfl rfl dX4_mostGroups_46 ?_
    refine lv_iload_n S.1 S.2.1 dX4_mostGroups_49 rfl (lv_at hl 1 rfl) ?_
    obtain ⟨x8, hx8, hf⟩ := bnd_e hf
    refine q_iald S hK hP 1 0 rfl rfl hx8 dX4_mostGroups_50 ?_
    refine lv_if_ne (tgt := 60) S.1 S.2.1 dX4_mostGroups_51 (by decide) (fun c_ => ?_) (fun c_ => ?_)
    · have hf := it_n c_ hf
      refine lv_iload_n S.1 S.2.1 dX4_mostGroups_60 rfl (lv_at hl 2 rfl) ?_
      have e_ := Option.some.inj hf
      subst e_
      exact hret _ _ dX4_mostGroups_61
    · have hf := it_p c_ hf
      refine lv_iload_n S.1 S.2.1 dX4_mostGroups_54 rfl (lv_at hl 2 rfl) ?_
      refine lv_iconst (v := 1) S.1 S.2.1 dX4_mostGroups_55 ic_1 ?_
      refine lv_iadd S.1 S.2.1 dX4_mostGroups_56 ?_
      refine lv_goto (tgt := 61) S.1 S.2.1 dX4_mostGroups_57 (by decide) ?_
      have e_ := Option.some.inj hf
      subst e_
      exact hret _ _ dX4_mostGroups_61
  refine lp_ind (P := fun (s2 : Int32 × Int32) => ∀ (ls : Array Slot), lv_has ls 5 [(0, .ref o_q0), (1, .ref t_q0), (2, .int p2), (3, .int s2.1), (4, .int s2.2)] → W p l e (rmD 1) s m args below meth c s.heap [] 0 0 Q (F0 m 5 ls [])) ?_ _ _ hf_ _ (lv_sub hl [2, 3, 4, 1, 0] rfl)
  intro s2 x4 hf hI3 hR3 ls hl
  refine lv_iload S.1 S.2.1 dX4_mostGroups_5 (lv_at hl 4 rfl) ?_
  refine lv_aload_n S.1 S.2.1 dX4_mostGroups_7 rfl (lv_at hl 1 rfl) ?_
  refine gfX4_25 S hK hP 5 rfl rfl dX4_mostGroups_8 ?_
  refine lv_icmp_ge (tgt := 45) S.1 S.2.1 dX4_mostGroups_11 (by decide) (fun c_ => ?_) (fun c_ => ?_)
  · have hf := it_p c_ hf
    have e_ := hR3 _ (Option.some.inj hf).symm
    exact hE3 _ e_ _ (lv_sub hl [0, 2, 3] rfl)
  · have hf := it_n c_ hf
    refine lv_iload_n S.1 S.2.1 dX4_mostGroups_14 rfl (lv_at hl 2 rfl) ?_
    refine lv_iload S.1 S.2.1 dX4_mostGroups_15 (lv_at hl 4 rfl) ?_
    refine lv_ishr S.1 S.2.1 dX4_mostGroups_17 ?_
    refine lv_iconst (v := 1) S.1 S.2.1 dX4_mostGroups_18 ic_1 ?_
    refine lv_iand S.1 S.2.1 dX4_mostGroups_19 ?_
    refine lv_if_eq (tgt := 39) S.1 S.2.1 dX4_mostGroups_20 (by decide) (fun c_ => ?_) (fun c_ => ?_)
    · have hf := it_p c_ hf
      refine q_iinc (w := 1) (lv' := [(4, .int (s2.2 + 1)), (0, .ref o_q0), (1, .ref t_q0), (2, .int p2), (3, .int s2.1)]) S dX4_mostGroups_39 hl (k := 4) rfl ic_1 (by decide) rfl (fun ls hl => ?_)
      refine lv_goto (tgt := 5) S.1 S.2.1 dX4_mostGroups_42 (by decide) ?_
      exact hI3 _ (Option.some.inj hf).symm _ (lv_sub hl [1, 2, 3, 4, 0] rfl)
    · have hf := it_n c_ hf
      refine lv_iload_n S.1 S.2.1 dX4_mostGroups_23 rfl (lv_at hl 3 rfl) ?_
      refine lv_aload_n S.1 S.2.1 dX4_mostGroups_24 rfl (lv_at hl 0 rfl) ?_
      refine gfX4_15 S hK hP 0 rfl rfl dX4_mostGroups_25 ?_
      refine lv_iload_n S.1 S.2.1 dX4_mostGroups_28 rfl (lv_at hl 2 rfl) ?_
      refine lv_iconst (v := 1) S.1 S.2.1 dX4_mostGroups_29 ic_1 ?_
      refine lv_iload S.1 S.2.1 dX4_mostGroups_30 (lv_at hl 4 rfl) ?_
      refine lv_ishl S.1 S.2.1 dX4_mostGroups_32 ?_
      refine lv_ixor S.1 S.2.1 dX4_mostGroups_33 ?_
      obtain ⟨x5, hx5, hf⟩ := bnd_e hf
      refine q_iald S hK hP 2 0 rfl rfl hx5 dX4_mostGroups_34 ?_
      refine va_mmax S.1 S.2.1 (S.2.2.1.trans hl.1.symm) S.2.2.2.1 (S.2.2.2.2 _ q_686) (S.2.2.2.2 _ q_658) (S.2.2.2.2 _ q_12) (S.2.2.2.2 _ q_659) (Nat.le_of_ble_eq_true rfl) (Nat.le_of_ble_eq_true rfl) (Nat.zero_le _) (Nat.zero_le _) dX4_mostGroups_35 ?_
      refine lv_topi (fun x6 ex6 => ?_)
      have hf := ltn_e hf ex6
      refine lv_istore_n (lv' := [(3, .int x6), (0, .ref o_q0), (1, .ref t_q0), (2, .int p2), (4, .int s2.2)]) S.1 S.2.1 dX4_mostGroups_38 rfl hl (by decide) rfl (fun ls hl => ?_)
      refine q_iinc (w := 1) (lv' := [(4, .int (s2.2 + 1)), (3, .int x6), (0, .ref o_q0), (1, .ref t_q0), (2, .int p2)]) S dX4_mostGroups_39 hl (k := 4) rfl ic_1 (by decide) rfl (fun ls hl => ?_)
      refine lv_goto (tgt := 5) S.1 S.2.1 dX4_mostGroups_42 (by decide) ?_
      exact hI3 _ (Option.some.inj hf).symm _ (lv_sub hl [2, 3, 4, 1, 0] rfl)
def f_X4_fewestPayments_L33 (s4 : Int32 × (Nat → Int32)) (x7 : Int32) (s9 : Int32 × (Nat → Int32)) : Option ((Int32 × (Nat → Int32)) ⊕ ((Nat → Int32))) := if (jshl (1 : Int32) s4.1) ≤ s9.1 then some (.inr s9.2) else bnd (α := Int32) (rdi 64 s9.2 s9.1) (fun x12 => ltn (x12 + x7) (fun x13 => bnd (α := (Nat → Int32)) (wri 64 s9.2 ((jshl (1 : Int32) s4.1) ||| s9.1) x13) (fun x14 => some (.inl ((s9.1 + 1), x14)))))
def f_X4_fewestPayments_L16 (fu : Nat) (t_people : Int32) (t_owed : (Nat → Int32)) (s4 : Int32 × (Nat → Int32)) : Option ((Int32 × (Nat → Int32)) ⊕ ((Nat → Int32))) := if t_people ≤ s4.1 then some (.inr s4.2) else bnd (α := Int32) (f_X9_netOf fu t_people t_owed s4.1) (fun x7 => bnd (α := (Nat → Int32)) (lp (f_X4_fewestPayments_L33 s4 x7) fu ((0 : Int32), s4.2)) (fun v15 => some (.inl ((s4.1 + 1), v15))))
def f_X4_fewestPayments_L75 (fu : Nat) (t_people : Int32) (v16 : (Nat → Int32)) (s18 : Int32 × (Nat → Int32)) : Option ((Int32 × (Nat → Int32)) ⊕ ((Nat → Int32))) := if (jshl (1 : Int32) t_people) ≤ s18.1 then some (.inr s18.2) else bnd (α := Int32) (f_X4_mostGroups fu v16 s18.2 t_people s18.1) (fun x21 => bnd (α := (Nat → Int32)) (wri 448 s18.2 s18.1 x21) (fun x22 => some (.inl ((s18.1 + 1), x22))))
def f_X4_fewestPayments (fu : Nat) (o_sums : (Nat → Int32)) (o_table : (Nat → Int32)) (t_people : Int32) (t_owed : (Nat → Int32)) : Option (Int32 × (Nat → Int32) × (Nat → Int32)) := bnd (α := (Nat → Int32)) (wri 64 o_sums (0 : Int32) (0 : Int32)) (fun x1 => bnd (α := (Nat → Int32)) (wri 448 o_table (0 : Int32) (0 : Int32)) (fun x2 => bnd (α := (Nat → Int32)) (lp (f_X4_fewestPayments_L16 fu t_people t_owed) fu ((0 : Int32), x1)) (fun v16 => bnd (α := (Nat → Int32)) (lp (f_X4_fewestPayments_L75 fu t_people v16) fu ((1 : Int32), x2)) (fun v23 => bnd (α := Int32) (rdi 448 v23 ((jshl (1 : Int32) t_people) - (1 : Int32))) (fun x24 => some ((t_people - x24), v16, v23))))))
set_option maxHeartbeats 4000000 in
set_option maxRecDepth 100000 in
theorem c_X4_fewestPayments {l : Launch} {D : va_G} {g : Nat → ClassId} {fu : Nat} {o_q0 o_q1 o_q2 o_q3 o_q4 t_q0 t_q1 t_q2 t_q3 t_q4 : Nat} {o_sums : (Nat → Int32)} {o_table : (Nat → Int32)} {o_onward : (Nat → Int32)} {o_chances : (Nat → Int64)} {t_people : Int32} {t_wit : (Nat → Int32)} {t_purse : (Nat → Int32)} {t_hated : (Nat → Int32)} {t_owed : (Nat → Int32)} {r : Int32 × (Nat → Int32) × (Nat → Int32)} (hf : f_X4_fewestPayments fu o_sums o_table t_people t_owed = some r) : Wr l D (gy g) yX4_fewestPayments cX4_fewestPayments 5 (some .int) 3 [.ref o_q0, .ref t_q0] (wPu g o_q0 o_q1 o_q2 o_q3 o_q4 o_sums o_table o_onward o_chances ++ wTw g t_q0 t_q1 t_q2 t_q3 t_q4 t_people t_wit t_purse t_hated t_owed) (wPu g o_q0 o_q1 o_q2 o_q3 o_q4 r.2.1 r.2.2 o_onward o_chances ++ wTw g t_q0 t_q1 t_q2 t_q3 t_q4 t_people t_wit t_purse t_hated t_owed) (some (.int r.1)) := by
  refine Wr.ofI (by decide) (Nat.le_of_ble_eq_true rfl) ?_
  intro p e s m args below meth c Q A S hK hA hret ls hl hW
  have hl : lv_has ls 5 [(0, .ref o_q0), (1, .ref t_q0)] := hl
  refine lv_aload_n S.1 S.2.1 dX4_fewestPayments_0 rfl (lv_at hl 0 rfl) ?_
  refine gfX4_9 S hK hW.1 0 rfl rfl dX4_fewestPayments_1 ?_
  refine lv_iconst (v := 0) S.1 S.2.1 dX4_fewestPayments_4 ic_0 ?_
  refine lv_iconst (v := 0) S.1 S.2.1 dX4_fewestPayments_5 ic_0 ?_
  obtain ⟨x1, hx1, hf⟩ := bnd_e hf
  refine q_iast (ws2 := (wPu g o_q0 o_q1 o_q2 o_q3 o_q4 x1 o_table o_onward o_chances ++ wTw g t_q0 t_q1 t_q2 t_q3 t_q4 t_people t_wit t_purse t_hated t_owed)) S hK hW 1 0 rfl rfl hx1 rfl dX4_fewestPayments_6 (fun H locs hW => ?_)
  refine lv_aload_n S.1 S.2.1 dX4_fewestPayments_7 rfl (lv_at hl 0 rfl) ?_
  refine gfX4_15 S hK hW.1 0 rfl rfl dX4_fewestPayments_8 ?_
  refine lv_iconst (v := 0) S.1 S.2.1 dX4_fewestPayments_11 ic_0 ?_
  refine lv_iconst (v := 0) S.1 S.2.1 dX4_fewestPayments_12 ic_0 ?_
  obtain ⟨x2, hx2, hf⟩ := bnd_e hf
  refine q_iast (ws2 := (wPu g o_q0 o_q1 o_q2 o_q3 o_q4 x1 x2 o_onward o_chances ++ wTw g t_q0 t_q1 t_q2 t_q3 t_q4 t_people t_wit t_purse t_hated t_owed)) S hK hW 2 0 rfl rfl hx2 rfl dX4_fewestPayments_13 (fun H locs hW => ?_)
  refine lv_iconst (v := 0) S.1 S.2.1 dX4_fewestPayments_14 ic_0 ?_
  refine lv_istore_n (lv' := [(2, .int (0 : Int32)), (0, .ref o_q0), (1, .ref t_q0)]) S.1 S.2.1 dX4_fewestPayments_15 rfl hl (by decide) rfl (fun ls hl => ?_)
  obtain ⟨x5, hf_, hk5⟩ := bnd_e hf
  have hE5 : ∀ (v16 : (Nat → Int32)), v16 = x5 → ∀ (ls : Array Slot) (H : Heap) (locs : List Loc), lv_has ls 5 [(0, .ref o_q0), (1, .ref t_q0)] → St A s.heap D (wPu g o_q0 o_q1 o_q2 o_q3 o_q4 v16 x2 o_onward o_chances ++ wTw g t_q0 t_q1 t_q2 t_q3 t_q4 t_people t_wit t_purse t_hated t_owed) H locs → W p l e (rmD 3) s m args below meth c H locs 0 0 Q (F0 m 73 ls []) := by
    intro v16 e_ ls H locs hl hW
    subst e_
    have hf := hk5
    refine lv_iconst (v := 1) S.1 S.2.1 dX4_fewestPayments_73 ic_1 ?_
    refine lv_istore_n (lv' := [(2, .int (1 : Int32)), (0, .ref o_q0), (1, .ref t_q0)]) S.1 S.2.1 dX4_fewestPayments_74 rfl hl (by decide) rfl (fun ls hl => ?_)
    obtain ⟨x19, hf_, hk19⟩ := bnd_e hf
    have hE19 : ∀ (v23 : (Nat → Int32)), v23 = x19 → ∀ (ls : Array Slot) (H : Heap) (locs : List Loc), lv_has ls 5 [(0, .ref o_q0), (1, .ref t_q0)] → St A s.heap D (wPu g o_q0 o_q1 o_q2 o_q3 o_q4 v16 v23 o_onward o_chances ++ wTw g t_q0 t_q1 t_q2 t_q3 t_q4 t_people t_wit t_purse t_hated t_owed) H locs → W p l e (rmD 3) s m args below meth c H locs 0 0 Q (F0 m 103 ls []) := by
      intro v23 e_ ls H locs hl hW
      subst e_
      have hf := hk19
      refine lv_aload_n S.1 S.2.1 dX4_fewestPayments_103 rfl (lv_at hl 1 rfl) ?_
      refine gfX4_25 S hK hW.1 5 rfl rfl dX4_fewestPayments_104 ?_
      refine lv_aload_n S.1 S.2.1 dX4_fewestPayments_107 rfl (lv_at hl 0 rfl) ?_
      refine gfX4_15 S hK hW.1 0 rfl rfl dX4_fewestPayments_108 ?_
      refine lv_iconst (v := 1) S.1 S.2.1 dX4_fewestPayments_111 ic_1 ?_
      refine lv_aload_n S.1 S.2.1 dX4_fewestPayments_112 rfl (lv_at hl 1 rfl) ?_
      refine gfX4_25 S hK hW.1 5 rfl rfl dX4_fewestPayments_113 ?_
      refine lv_ishl S.1 S.2.1 dX4_fewestPayments_116 ?_
      refine lv_iconst (v := 1) S.1 S.2.1 dX4_fewestPayments_117 ic_1 ?_
      refine lv_isub S.1 S.2.1 dX4_fewestPayments_118 ?_
      obtain ⟨x24, hx24, hf⟩ := bnd_e hf
      refine q_iald S hK hW.1 2 0 rfl rfl hx24 dX4_fewestPayments_119 ?_
      refine lv_isub S.1 S.2.1 dX4_fewestPayments_120 ?_
      have e_ := Option.some.inj hf
      subst e_
      exact hret _ _ _ _ dX4_fewestPayments_121 hW
    refine lp_ind (P := fun (s18 : Int32 × (Nat → Int32)) => ∀ (ls : Array Slot) (H : Heap) (locs : List Loc), lv_has ls 5 [(0, .ref o_q0), (1, .ref t_q0), (2, .int s18.1)] → St A s.heap D (wPu g o_q0 o_q1 o_q2 o_q3 o_q4 v16 s18.2 o_onward o_chances ++ wTw g t_q0 t_q1 t_q2 t_q3 t_q4 t_people t_wit t_purse t_hated t_owed) H locs → W p l e (rmD 3) s m args below meth c H locs 0 0 Q (F0 m 75 ls [])) ?_ _ _ hf_ _ _ _ (lv_sub hl [1, 2, 0] rfl) hW
    intro s18 x20 hf hI19 hR19 ls H locs hl hW
    refine lv_iload_n S.1 S.2.1 dX4_fewestPayments_75 rfl (lv_at hl 2 rfl) ?_
    refine lv_iconst (v := 1) S.1 S.2.1 dX4_fewestPayments_76 ic_1 ?_
    refine lv_aload_n S.1 S.2.1 dX4_fewestPayments_77 rfl (lv_at hl 1 rfl) ?_
    refine gfX4_25 S hK hW.1 5 rfl rfl dX4_fewestPayments_78 ?_
    refine lv_ishl S.1 S.2.1 dX4_fewestPayments_81 ?_
    refine lv_icmp_ge (tgt := 103) S.1 S.2.1 dX4_fewestPayments_82 (by decide) (fun c_ => ?_) (fun c_ => ?_)
    · have hf := it_p c_ hf
      have e_ := hR19 _ (Option.some.inj hf).symm
      exact hE19 _ e_ _ _ _ (lv_sub hl [0, 1] rfl) hW
    · have hf := it_n c_ hf
      refine lv_aload_n S.1 S.2.1 dX4_fewestPayments_85 rfl (lv_at hl 0 rfl) ?_
      refine gfX4_15 S hK hW.1 0 rfl rfl dX4_fewestPayments_86 ?_
      refine lv_iload_n S.1 S.2.1 dX4_fewestPayments_89 rfl (lv_at hl 2 rfl) ?_
      refine lv_aload_n S.1 S.2.1 dX4_fewestPayments_90 rfl (lv_at hl 0 rfl) ?_
      refine lv_aload_n S.1 S.2.1 dX4_fewestPayments_91 rfl (lv_at hl 1 rfl) ?_
      refine lv_iload_n S.1 S.2.1 dX4_fewestPayments_92 rfl (lv_at hl 2 rfl) ?_
      obtain ⟨x21, hx21, hf⟩ := bnd_e hf
      refine Rd.cV (c_X4_mostGroups hx21) S hK hW.1 0 2 rfl rfl kVX4_35 rfl hl.1 [.int s18.1, .ref o_q2] rfl (Nat.le_of_ble_eq_true rfl) ⟨(Nat.le_of_ble_eq_true rfl), (Nat.le_of_ble_eq_true rfl)⟩ ⟨(Nat.zero_le _), (Nat.zero_le _)⟩ dX4_fewestPayments_93 ?_
      obtain ⟨x22, hx22, hf⟩ := bnd_e hf
      refine q_iast (ws2 := (wPu g o_q0 o_q1 o_q2 o_q3 o_q4 v16 x22 o_onward o_chances ++ wTw g t_q0 t_q1 t_q2 t_q3 t_q4 t_people t_wit t_purse t_hated t_owed)) S hK hW 2 0 rfl rfl hx22 rfl dX4_fewestPayments_96 (fun H locs hW => ?_)
      refine q_iinc (w := 1) (lv' := [(2, .int (s18.1 + 1)), (0, .ref o_q0), (1, .ref t_q0)]) S dX4_fewestPayments_97 hl (k := 2) rfl ic_1 (by decide) rfl (fun ls hl => ?_)
      refine lv_goto (tgt := 75) S.1 S.2.1 dX4_fewestPayments_100 (by decide) ?_
      exact hI19 _ (Option.some.inj hf).symm _ _ _ (lv_sub hl [1, 2, 0] rfl) hW
  refine lp_ind (P := fun (s4 : Int32 × (Nat → Int32)) => ∀ (ls : Array Slot) (H : Heap) (locs : List Loc), lv_has ls 5 [(0, .ref o_q0), (1, .ref t_q0), (2, .int s4.1)] → St A s.heap D (wPu g o_q0 o_q1 o_q2 o_q3 o_q4 s4.2 x2 o_onward o_chances ++ wTw g t_q0 t_q1 t_q2 t_q3 t_q4 t_people t_wit t_purse t_hated t_owed) H locs → W p l e (rmD 3) s m args below meth c H locs 0 0 Q (F0 m 16 ls [])) ?_ _ _ hf_ _ _ _ (lv_sub hl [1, 2, 0] rfl) hW
  intro s4 x6 hf hI5 hR5 ls H locs hl hW
  refine lv_iload_n S.1 S.2.1 dX4_fewestPayments_16 rfl (lv_at hl 2 rfl) ?_
  refine lv_aload_n S.1 S.2.1 dX4_fewestPayments_17 rfl (lv_at hl 1 rfl) ?_
  refine gfX4_25 S hK hW.1 5 rfl rfl dX4_fewestPayments_18 ?_
  refine lv_icmp_ge (tgt := 73) S.1 S.2.1 dX4_fewestPayments_21 (by decide) (fun c_ => ?_) (fun c_ => ?_)
  · have hf := it_p c_ hf
    have e_ := hR5 _ (Option.some.inj hf).symm
    exact hE5 _ e_ _ _ _ (lv_sub hl [0, 1] rfl) hW
  · have hf := it_n c_ hf
    refine lv_aload_n S.1 S.2.1 dX4_fewestPayments_24 rfl (lv_at hl 1 rfl) ?_
    refine lv_iload_n S.1 S.2.1 dX4_fewestPayments_25 rfl (lv_at hl 2 rfl) ?_
    obtain ⟨x7, hx7, hf⟩ := bnd_e hf
    refine Rd.cV (c_X9_netOf hx7) S hK (hW.1.sub (ws' := (wTw g t_q0 t_q1 t_q2 t_q3 t_q4 t_people t_wit t_purse t_hated t_owed)) [5, 6, 7, 8, 9] rfl) 0 7 rfl rfl kVX4_31 rfl hl.1 [] rfl (Nat.le_of_ble_eq_true rfl) ⟨(Nat.le_of_ble_eq_true rfl), (Nat.le_of_ble_eq_true rfl)⟩ ⟨(Nat.zero_le _), (Nat.zero_le _)⟩ dX4_fewestPayments_26 ?_
    refine lv_istore_n (lv' := [(3, .int x7), (0, .ref o_q0), (1, .ref t_q0), (2, .int s4.1)]) S.1 S.2.1 dX4_fewestPayments_29 rfl hl (by decide) rfl (fun ls hl => ?_)
    refine lv_iconst (v := 0) S.1 S.2.1 dX4_fewestPayments_30 ic_0 ?_
    refine lv_istore (lv' := [(4, .int (0 : Int32)), (3, .int x7), (0, .ref o_q0), (1, .ref t_q0), (2, .int s4.1)]) S.1 S.2.1 dX4_fewestPayments_31 hl (by decide) rfl (fun ls hl => ?_)
    obtain ⟨x10, hf_, hk10⟩ := bnd_e hf
    have hE10 : ∀ (v15 : (Nat → Int32)), v15 = x10 → ∀ (ls : Array Slot) (H : Heap) (locs : List Loc), lv_has ls 5 [(0, .ref o_q0), (1, .ref t_q0), (2, .int s4.1)] → St A s.heap D (wPu g o_q0 o_q1 o_q2 o_q3 o_q4 v15 x2 o_onward o_chances ++ wTw g t_q0 t_q1 t_q2 t_q3 t_q4 t_people t_wit t_purse t_hated t_owed) H locs → W p l e (rmD 3) s m args below meth c H locs 0 0 Q (F0 m 67 ls []) := by
      intro v15 e_ ls H locs hl hW
      subst e_
      have hf := hk10
      refine q_iinc (w := 1) (lv' := [(2, .int (s4.1 + 1)), (0, .ref o_q0), (1, .ref t_q0)]) S dX4_fewestPayments_67 hl (k := 2) rfl ic_1 (by decide) rfl (fun ls hl => ?_)
      refine lv_goto (tgt := 16) S.1 S.2.1 dX4_fewestPayments_70 (by decide) ?_
      exact hI5 _ (Option.some.inj hf).symm _ _ _ (lv_sub hl [1, 2, 0] rfl) hW
    refine lp_ind (P := fun (s9 : Int32 × (Nat → Int32)) => ∀ (ls : Array Slot) (H : Heap) (locs : List Loc), lv_has ls 5 [(0, .ref o_q0), (1, .ref t_q0), (2, .int s4.1), (3, .int x7), (4, .int s9.1)] → St A s.heap D (wPu g o_q0 o_q1 o_q2 o_q3 o_q4 s9.2 x2 o_onward o_chances ++ wTw g t_q0 t_q1 t_q2 t_q3 t_q4 t_people t_wit t_purse t_hated t_owed) H locs → W p l e (rmD 3) s m args below meth c H locs 0 0 Q (F0 m 33 ls [])) ?_ _ _ hf_ _ _ _ (lv_sub hl [2, 3, 4, 1, 0] rfl) hW
    intro s9 x11 hf hI10 hR10 ls H locs hl hW
    refine lv_iload S.1 S.2.1 dX4_fewestPayments_33 (lv_at hl 4 rfl) ?_
    refine lv_iconst (v := 1) S.1 S.2.1 dX4_fewestPayments_35 ic_1 ?_
    refine lv_iload_n S.1 S.2.1 dX4_fewestPayments_36 rfl (lv_at hl 2 rfl) ?_
    refine lv_ishl S.1 S.2.1 dX4_fewestPayments_37 ?_
    refine lv_icmp_ge (tgt := 67) S.1 S.2.1 dX4_fewestPayments_38 (by decide) (fun c_ => ?_) (fun c_ => ?_)
    · have hf := it_p c_ hf
      have e_ := hR10 _ (Option.some.inj hf).symm
      exact hE10 _ e_ _ _ _ (lv_sub hl [0, 1, 2] rfl) hW
    · have hf := it_n c_ hf
      refine lv_aload_n S.1 S.2.1 dX4_fewestPayments_41 rfl (lv_at hl 0 rfl) ?_
      refine gfX4_9 S hK hW.1 0 rfl rfl dX4_fewestPayments_42 ?_
      refine lv_iconst (v := 1) S.1 S.2.1 dX4_fewestPayments_45 ic_1 ?_
      refine lv_iload_n S.1 S.2.1 dX4_fewestPayments_46 rfl (lv_at hl 2 rfl) ?_
      refine lv_ishl S.1 S.2.1 dX4_fewestPayments_47 ?_
      refine lv_iload S.1 S.2.1 dX4_fewestPayments_48 (lv_at hl 4 rfl) ?_
      refine lv_ior S.1 S.2.1 dX4_fewestPayments_50 ?_
      refine lv_aload_n S.1 S.2.1 dX4_fewestPayments_51 rfl (lv_at hl 0 rfl) ?_
      refine gfX4_9 S hK hW.1 0 rfl rfl dX4_fewestPayments_52 ?_
      refine lv_iload S.1 S.2.1 dX4_fewestPayments_55 (lv_at hl 4 rfl) ?_
      obtain ⟨x12, hx12, hf⟩ := bnd_e hf
      refine q_iald S hK hW.1 1 0 rfl rfl hx12 dX4_fewestPayments_57 ?_
      refine lv_iload_n S.1 S.2.1 dX4_fewestPayments_58 rfl (lv_at hl 3 rfl) ?_
      refine lv_iadd S.1 S.2.1 dX4_fewestPayments_59 ?_
      refine lv_topi (fun x13 ex13 => ?_)
      have hf := ltn_e hf ex13
      obtain ⟨x14, hx14, hf⟩ := bnd_e hf
      refine q_iast (ws2 := (wPu g o_q0 o_q1 o_q2 o_q3 o_q4 x14 x2 o_onward o_chances ++ wTw g t_q0 t_q1 t_q2 t_q3 t_q4 t_people t_wit t_purse t_hated t_owed)) S hK hW 1 0 rfl rfl hx14 rfl dX4_fewestPayments_60 (fun H locs hW => ?_)
      refine q_iinc (w := 1) (lv' := [(4, .int (s9.1 + 1)), (0, .ref o_q0), (1, .ref t_q0), (2, .int s4.1), (3, .int x7)]) S dX4_fewestPayments_61 hl (k := 4) rfl ic_1 (by decide) rfl (fun ls hl => ?_)
      refine lv_goto (tgt := 33) S.1 S.2.1 dX4_fewestPayments_64 (by decide) ?_
      exact hI10 _ (Option.some.inj hf).symm _ _ _ (lv_sub hl [1, 2, 3, 4, 0] rfl) hW
def f_X4_leastTedious_L21 (t_people : Int32) (t_wit : (Nat → Int32)) (t_purse : (Nat → Int32)) (p2 : Int32) (p4 : Int32) (s2 : Int32 × Int32 × Int32 × Int32) (s6 : Int32 × Int32 × Int32 × Int32) : Option ((Int32 × Int32 × Int32 × Int32) ⊕ (Int32 × Int32 × Int32)) := if t_people ≤ s6.2.2.2 then some (.inr (s6.1, s6.2.1, s6.2.2.1)) else if s6.2.2.2 = p2 then some (.inl (s6.1, s6.2.1, s6.2.2.1, (s6.2.2.2 + 1))) else bnd (α := Int32) (rdi 6 t_wit s6.2.2.2) (fun x9 => if x9 = s2.2.2.2 then bnd (α := Int32) (rdi 6 t_purse s6.2.2.2) (fun x10 => ltn (jmin s6.1 x10) (fun x11 => ltn (s6.1 - x11) (fun x12 => ltn (s6.2.1 + (x11 * ((10 : Int32) - s2.2.2.2))) (fun x13 => if s6.2.2.2 = p4 then some (.inl (x12, x13, x11, (s6.2.2.2 + 1))) else some (.inl (x12, x13, s6.2.2.1, (s6.2.2.2 + 1))))))) else some (.inl (s6.1, s6.2.1, s6.2.2.1, (s6.2.2.2 + 1))))
def f_X4_leastTedious_L13 (fu : Nat) (t_people : Int32) (t_wit : (Nat → Int32)) (t_purse : (Nat → Int32)) (p2 : Int32) (p4 : Int32) (s2 : Int32 × Int32 × Int32 × Int32) : Option ((Int32 × Int32 × Int32 × Int32) ⊕ (Int32 × Int32 × Int32)) := if s2.2.2.2 < 0 then some (.inr (s2.1, s2.2.1, s2.2.2.1)) else bnd (α := Int32 × Int32 × Int32) (lp (f_X4_leastTedious_L21 t_people t_wit t_purse p2 p4 s2) fu (s2.1, s2.2.1, s2.2.2.1, (0 : Int32))) (fun v14 => some (.inl (v14.1, v14.2.1, v14.2.2, (s2.2.2.2 + (-1)))))
def f_X4_leastTedious (fu : Nat) (t_people : Int32) (t_wit : (Nat → Int32)) (t_purse : (Nat → Int32)) (p2 : Int32) (p3 : Int32) (p4 : Int32) : Option (Int32) := bnd (α := Int32 × Int32 × Int32) (lp (f_X4_leastTedious_L13 fu t_people t_wit t_purse p2 p4) fu (p3, (0 : Int32), (0 : Int32), (9 : Int32))) (fun v15 => if v15.1 ≤ 0 then if p4 = (-1 : Int32) then some v15.2.1 else some v15.2.2 else some (-1 : Int32))
set_option maxHeartbeats 4000000 in
set_option maxRecDepth 100000 in
theorem c_X4_leastTedious {l : Launch} {D : va_G} {g : Nat → ClassId} {fu : Nat} {t_q0 t_q1 t_q2 t_q3 t_q4 : Nat} {t_people : Int32} {t_wit : (Nat → Int32)} {t_purse : (Nat → Int32)} {t_hated : (Nat → Int32)} {t_owed : (Nat → Int32)} {p2 : Int32} {p3 : Int32} {p4 : Int32} {r : Int32} (hf : f_X4_leastTedious fu t_people t_wit t_purse p2 p3 p4 = some r) : Rd l D (gy g) yX4_leastTedious cX4_leastTedious 10 (some .int) 1 [.ref t_q0, .int p2, .int p3, .int p4] (wTw g t_q0 t_q1 t_q2 t_q3 t_q4 t_people t_wit t_purse t_hated t_owed) (some (.int r)) := by
  refine Rd.ofI (by decide) (Nat.le_of_ble_eq_true rfl) ?_
  intro p e s m args below meth c Q S hK hP hret ls hl
  have hl : lv_has ls 10 [(0, .ref t_q0), (1, .int p2), (2, .int p3), (3, .int p4)] := hl
  refine lv_iload_n S.1 S.2.1 dX4_leastTedious_0 rfl (lv_at hl 2 rfl) ?_
  refine lv_istore (lv' := [(4, .int p3), (0, .ref t_q0), (1, .int p2), (2, .int p3), (3, .int p4)]) S.1 S.2.1 dX4_leastTedious_1 hl (by decide) rfl (fun ls hl => ?_)
  refine lv_iconst (v := 0) S.1 S.2.1 dX4_leastTedious_3 ic_0 ?_
  refine lv_istore (lv' := [(5, .int (0 : Int32)), (4, .int p3), (0, .ref t_q0), (1, .int p2), (2, .int p3), (3, .int p4)]) S.1 S.2.1 dX4_leastTedious_4 hl (by decide) rfl (fun ls hl => ?_)
  refine lv_iconst (v := 0) S.1 S.2.1 dX4_leastTedious_6 ic_0 ?_
  refine lv_istore (lv' := [(6, .int (0 : Int32)), (5, .int (0 : Int32)), (4, .int p3), (0, .ref t_q0), (1, .int p2), (2, .int p3), (3, .int p4)]) S.1 S.2.1 dX4_leastTedious_7 hl (by decide) rfl (fun ls hl => ?_)
  refine lv_bipush (v := 9) S.1 S.2.1 dX4_leastTedious_9 bp_9 ?_
  refine lv_istore (lv' := [(7, .int (9 : Int32)), (6, .int (0 : Int32)), (5, .int (0 : Int32)), (4, .int p3), (0, .ref t_q0), (1, .int p2), (2, .int p3), (3, .int p4)]) S.1 S.2.1 dX4_leastTedious_11 hl (by decide) rfl (fun ls hl => ?_)
  obtain ⟨x3, hf_, hk3⟩ := bnd_e hf
  have hE3 : ∀ (v15 : Int32 × Int32 × Int32), v15 = x3 → ∀ (ls : Array Slot), lv_has ls 10 [(3, .int p4), (4, .int v15.1), (5, .int v15.2.1), (6, .int v15.2.2)] → W p l e (rmD 1) s m args below meth c s.heap [] 0 0 Q (F0 m 104 ls []) := by
    intro v15 e_ ls hl
    subst e_
    have hf := hk3
    refine lv_iload S.1 S.2.1 dX4_leastTedious_104 (lv_at hl 1 rfl) ?_
    refine lv_if_le (tgt := 111) S.1 S.2.1 dX4_leastTedious_106 (by decide) (fun c_ => ?_) (fun c_ => ?_)
    · have hf := it_p c_ hf
      refine lv_iload_n S.1 S.2.1 dX4_leastTedious_111 rfl (lv_at hl 0 rfl) ?_
      refine lv_iconst (v := (-1)) S.1 S.2.1 dX4_leastTedious_112 ic_m1 ?_
      refine lv_icmp_ne (tgt := 121) S.1 S.2.1 dX4_leastTedious_113 (by decide) (fun c_ => ?_) (fun c_ => ?_)
      · have hf := it_n c_ hf
        refine lv_iload S.1 S.2.1 dX4_leastTedious_121 (lv_at hl 3 rfl) ?_
        have e_ := Option.some.inj hf
        subst e_
        exact hret _ _ dX4_leastTedious_123
      · have hf := it_p c_ hf
        refine lv_iload S.1 S.2.1 dX4_leastTedious_116 (lv_at hl 2 rfl) ?_
        refine lv_goto (tgt := 123) S.1 S.2.1 dX4_leastTedious_118 (by decide) ?_
        have e_ := Option.some.inj hf
        subst e_
        exact hret _ _ dX4_leastTedious_123
    · have hf := it_n c_ hf
      refine lv_iconst (v := (-1)) S.1 S.2.1 dX4_leastTedious_109 ic_m1 ?_
      have e_ := Option.some.inj hf
      subst e_
      exact hret _ _ dX4_leastTedious_110
  refine lp_ind (P := fun (s2 : Int32 × Int32 × Int32 × Int32) => ∀ (ls : Array Slot), lv_has ls 10 [(0, .ref t_q0), (1, .int p2), (3, .int p4), (4, .int s2.1), (5, .int s2.2.1), (6, .int s2.2.2.1), (7, .int s2.2.2.2)] → W p l e (rmD 1) s m args below meth c s.heap [] 0 0 Q (F0 m 13 ls [])) ?_ _ _ hf_ _ (lv_sub hl [4, 5, 7, 3, 2, 1, 0] rfl)
  intro s2 x4 hf hI3 hR3 ls hl
  refine lv_iload S.1 S.2.1 dX4_leastTedious_13 (lv_at hl 6 rfl) ?_
  refine lv_if_lt (tgt := 104) S.1 S.2.1 dX4_leastTedious_15 (by decide) (fun c_ => ?_) (fun c_ => ?_)
  · have hf := it_p c_ hf
    have e_ := hR3 _ (Option.some.inj hf).symm
    exact hE3 _ e_ _ (lv_sub hl [2, 3, 4, 5] rfl)
  · have hf := it_n c_ hf
    refine lv_iconst (v := 0) S.1 S.2.1 dX4_leastTedious_18 ic_0 ?_
    refine lv_istore (lv' := [(8, .int (0 : Int32)), (0, .ref t_q0), (1, .int p2), (3, .int p4), (4, .int s2.1), (5, .int s2.2.1), (6, .int s2.2.2.1), (7, .int s2.2.2.2)]) S.1 S.2.1 dX4_leastTedious_19 hl (by decide) rfl (fun ls hl => ?_)
    obtain ⟨x7, hf_, hk7⟩ := bnd_e hf
    have hE7 : ∀ (v14 : Int32 × Int32 × Int32), v14 = x7 → ∀ (ls : Array Slot), lv_has ls 10 [(0, .ref t_q0), (1, .int p2), (3, .int p4), (4, .int v14.1), (5, .int v14.2.1), (6, .int v14.2.2), (7, .int s2.2.2.2)] → W p l e (rmD 1) s m args below meth c s.heap [] 0 0 Q (F0 m 98 ls []) := by
      intro v14 e_ ls hl
      subst e_
      have hf := hk7
      refine q_iinc (w := (-1)) (lv' := [(7, .int (s2.2.2.2 + (-1))), (0, .ref t_q0), (1, .int p2), (3, .int p4), (4, .int v14.1), (5, .int v14.2.1), (6, .int v14.2.2)]) S dX4_leastTedious_98 hl (k := 6) rfl ic_m1 (by decide) rfl (fun ls hl => ?_)
      refine lv_goto (tgt := 13) S.1 S.2.1 dX4_leastTedious_101 (by decide) ?_
      exact hI3 _ (Option.some.inj hf).symm _ (lv_sub hl [1, 2, 3, 4, 5, 6, 0] rfl)
    refine lp_ind (P := fun (s6 : Int32 × Int32 × Int32 × Int32) => ∀ (ls : Array Slot), lv_has ls 10 [(0, .ref t_q0), (1, .int p2), (3, .int p4), (4, .int s6.1), (5, .int s6.2.1), (6, .int s6.2.2.1), (7, .int s2.2.2.2), (8, .int s6.2.2.2)] → W p l e (rmD 1) s m args below meth c s.heap [] 0 0 Q (F0 m 21 ls [])) ?_ _ _ hf_ _ (lv_sub hl [1, 2, 3, 4, 5, 6, 7, 0] rfl)
    intro s6 x8 hf hI7 hR7 ls hl
    refine lv_iload S.1 S.2.1 dX4_leastTedious_21 (lv_at hl 7 rfl) ?_
    refine lv_aload_n S.1 S.2.1 dX4_leastTedious_23 rfl (lv_at hl 0 rfl) ?_
    refine gfX4_25 S hK hP 0 rfl rfl dX4_leastTedious_24 ?_
    refine lv_icmp_ge (tgt := 98) S.1 S.2.1 dX4_leastTedious_27 (by decide) (fun c_ => ?_) (fun c_ => ?_)
    · have hf := it_p c_ hf
      have e_ := hR7 _ (Option.some.inj hf).symm
      exact hE7 _ e_ _ (lv_sub hl [0, 1, 2, 3, 4, 5, 6] rfl)
    · have hf := it_n c_ hf
      refine lv_iload S.1 S.2.1 dX4_leastTedious_30 (lv_at hl 7 rfl) ?_
      refine lv_iload_n S.1 S.2.1 dX4_leastTedious_32 rfl (lv_at hl 1 rfl) ?_
      refine lv_icmp_eq (tgt := 92) S.1 S.2.1 dX4_leastTedious_33 (by decide) (fun c_ => ?_) (fun c_ => ?_)
      · have hf := it_p c_ hf
        refine q_iinc (w := 1) (lv' := [(8, .int (s6.2.2.2 + 1)), (0, .ref t_q0), (1, .int p2), (3, .int p4), (4, .int s6.1), (5, .int s6.2.1), (6, .int s6.2.2.1), (7, .int s2.2.2.2)]) S dX4_leastTedious_92 hl (k := 7) rfl ic_1 (by decide) rfl (fun ls hl => ?_)
        refine lv_goto (tgt := 21) S.1 S.2.1 dX4_leastTedious_95 (by decide) ?_
        exact hI7 _ (Option.some.inj hf).symm _ (lv_sub hl [1, 2, 3, 4, 5, 6, 7, 0] rfl)
      · have hf := it_n c_ hf
        refine lv_aload_n S.1 S.2.1 dX4_leastTedious_36 rfl (lv_at hl 0 rfl) ?_
        refine gfX4_45 S hK hP 0 rfl rfl dX4_leastTedious_37 ?_
        refine lv_iload S.1 S.2.1 dX4_leastTedious_40 (lv_at hl 7 rfl) ?_
        obtain ⟨x9, hx9, hf⟩ := bnd_e hf
        refine q_iald S hK hP 1 0 rfl rfl hx9 dX4_leastTedious_42 ?_
        refine lv_iload S.1 S.2.1 dX4_leastTedious_43 (lv_at hl 6 rfl) ?_
        refine lv_icmp_ne (tgt := 92) S.1 S.2.1 dX4_leastTedious_45 (by decide) (fun c_ => ?_) (fun c_ => ?_)
        · have hf := it_n c_ hf
          refine q_iinc (w := 1) (lv' := [(8, .int (s6.2.2.2 + 1)), (0, .ref t_q0), (1, .int p2), (3, .int p4), (4, .int s6.1), (5, .int s6.2.1), (6, .int s6.2.2.1), (7, .int s2.2.2.2)]) S dX4_leastTedious_92 hl (k := 7) rfl ic_1 (by decide) rfl (fun ls hl => ?_)
          refine lv_goto (tgt := 21) S.1 S.2.1 dX4_leastTedious_95 (by decide) ?_
          exact hI7 _ (Option.some.inj hf).symm _ (lv_sub hl [1, 2, 3, 4, 5, 6, 7, 0] rfl)
        · have hf := it_p c_ hf
          refine lv_iload S.1 S.2.1 dX4_leastTedious_48 (lv_at hl 3 rfl) ?_
          refine lv_aload_n S.1 S.2.1 dX4_leastTedious_50 rfl (lv_at hl 0 rfl) ?_
          refine gfX4_48 S hK hP 0 rfl rfl dX4_leastTedious_51 ?_
          refine lv_iload S.1 S.2.1 dX4_leastTedious_54 (lv_at hl 7 rfl) ?_
          obtain ⟨x10, hx10, hf⟩ := bnd_e hf
          refine q_iald S hK hP 2 0 rfl rfl hx10 dX4_leastTedious_56 ?_
          refine va_mmin S.1 S.2.1 (S.2.2.1.trans hl.1.symm) S.2.2.2.1 (S.2.2.2.2 _ q_705) (S.2.2.2.2 _ q_362) (S.2.2.2.2 _ q_12) (S.2.2.2.2 _ q_363) (Nat.le_of_ble_eq_true rfl) (Nat.le_of_ble_eq_true rfl) (Nat.zero_le _) (Nat.zero_le _) dX4_leastTedious_57 ?_
          refine lv_topi (fun x11 ex11 => ?_)
          have hf := ltn_e hf ex11
          refine lv_istore (lv' := [(9, .int x11), (0, .ref t_q0), (1, .int p2), (3, .int p4), (4, .int s6.1), (5, .int s6.2.1), (6, .int s6.2.2.1), (7, .int s2.2.2.2), (8, .int s6.2.2.2)]) S.1 S.2.1 dX4_leastTedious_60 hl (by decide) rfl (fun ls hl => ?_)
          refine lv_iload S.1 S.2.1 dX4_leastTedious_62 (lv_at hl 4 rfl) ?_
          refine lv_iload S.1 S.2.1 dX4_leastTedious_64 (lv_at hl 0 rfl) ?_
          refine lv_isub S.1 S.2.1 dX4_leastTedious_66 ?_
          refine lv_topi (fun x12 ex12 => ?_)
          have hf := ltn_e hf ex12
          refine lv_istore (lv' := [(4, .int x12), (9, .int x11), (0, .ref t_q0), (1, .int p2), (3, .int p4), (5, .int s6.2.1), (6, .int s6.2.2.1), (7, .int s2.2.2.2), (8, .int s6.2.2.2)]) S.1 S.2.1 dX4_leastTedious_67 hl (by decide) rfl (fun ls hl => ?_)
          refine lv_iload S.1 S.2.1 dX4_leastTedious_69 (lv_at hl 5 rfl) ?_
          refine lv_iload S.1 S.2.1 dX4_leastTedious_71 (lv_at hl 1 rfl) ?_
          refine lv_bipush (v := 10) S.1 S.2.1 dX4_leastTedious_73 bp_10 ?_
          refine lv_iload S.1 S.2.1 dX4_leastTedious_75 (lv_at hl 7 rfl) ?_
          refine lv_isub S.1 S.2.1 dX4_leastTedious_77 ?_
          refine lv_imul S.1 S.2.1 dX4_leastTedious_78 ?_
          refine lv_iadd S.1 S.2.1 dX4_leastTedious_79 ?_
          refine lv_topi (fun x13 ex13 => ?_)
          have hf := ltn_e hf ex13
          refine lv_istore (lv' := [(5, .int x13), (4, .int x12), (9, .int x11), (0, .ref t_q0), (1, .int p2), (3, .int p4), (6, .int s6.2.2.1), (7, .int s2.2.2.2), (8, .int s6.2.2.2)]) S.1 S.2.1 dX4_leastTedious_80 hl (by decide) rfl (fun ls hl => ?_)
          refine lv_iload S.1 S.2.1 dX4_leastTedious_82 (lv_at hl 8 rfl) ?_
          refine lv_iload_n S.1 S.2.1 dX4_leastTedious_84 rfl (lv_at hl 5 rfl) ?_
          refine lv_icmp_ne (tgt := 92) S.1 S.2.1 dX4_leastTedious_85 (by decide) (fun c_ => ?_) (fun c_ => ?_)
          · have hf := it_n c_ hf
            refine q_iinc (w := 1) (lv' := [(8, .int (s6.2.2.2 + 1)), (5, .int x13), (4, .int x12), (9, .int x11), (0, .ref t_q0), (1, .int p2), (3, .int p4), (6, .int s6.2.2.1), (7, .int s2.2.2.2)]) S dX4_leastTedious_92 hl (k := 8) rfl ic_1 (by decide) rfl (fun ls hl => ?_)
            refine lv_goto (tgt := 21) S.1 S.2.1 dX4_leastTedious_95 (by decide) ?_
            exact hI7 _ (Option.some.inj hf).symm _ (lv_sub hl [4, 5, 6, 2, 1, 7, 8, 0] rfl)
          · have hf := it_p c_ hf
            refine lv_iload S.1 S.2.1 dX4_leastTedious_88 (lv_at hl 2 rfl) ?_
            refine lv_istore (lv' := [(6, .int x11), (5, .int x13), (4, .int x12), (9, .int x11), (0, .ref t_q0), (1, .int p2), (3, .int p4), (7, .int s2.2.2.2), (8, .int s6.2.2.2)]) S.1 S.2.1 dX4_leastTedious_90 hl (by decide) rfl (fun ls hl => ?_)
            refine q_iinc (w := 1) (lv' := [(8, .int (s6.2.2.2 + 1)), (6, .int x11), (5, .int x13), (4, .int x12), (9, .int x11), (0, .ref t_q0), (1, .int p2), (3, .int p4), (7, .int s2.2.2.2)]) S dX4_leastTedious_92 hl (k := 8) rfl ic_1 (by decide) rfl (fun ls hl => ?_)
            refine lv_goto (tgt := 21) S.1 S.2.1 dX4_leastTedious_95 (by decide) ?_
            exact hI7 _ (Option.some.inj hf).symm _ (lv_sub hl [5, 6, 7, 3, 2, 1, 8, 0] rfl)
def f_X4_worthWith (fu : Nat) (o_table : (Nat → Int32)) (t_wit : (Nat → Int32)) (t_purse : (Nat → Int32)) (p2 : Int32) (p3 : Int32) (p4 : Int32) : Option (Int32) := bnd (α := Int32) (rdi 6 t_purse p2) (fun x1 => bnd (α := Int32) (rdi 6 t_purse p3) (fun x2 => bnd (α := Int32) (if x1 ≤ x2 then some (0 : Int32) else bnd (α := Int32) (rdi 6 t_wit p3) (fun x6 => some x6)) (fun v4 => bnd (α := Int32) (rdi 448 o_table (((64 : Int32) * (p2 + (1 : Int32))) + (p4 ||| (jshl (1 : Int32) p3)))) (fun x5 => some (v4 + x5)))))
set_option maxHeartbeats 4000000 in
set_option maxRecDepth 100000 in
theorem c_X4_worthWith {l : Launch} {D : va_G} {g : Nat → ClassId} {fu : Nat} {o_q0 o_q1 o_q2 o_q3 o_q4 t_q0 t_q1 t_q2 t_q3 t_q4 : Nat} {o_sums : (Nat → Int32)} {o_table : (Nat → Int32)} {o_onward : (Nat → Int32)} {o_chances : (Nat → Int64)} {t_people : Int32} {t_wit : (Nat → Int32)} {t_purse : (Nat → Int32)} {t_hated : (Nat → Int32)} {t_owed : (Nat → Int32)} {p2 : Int32} {p3 : Int32} {p4 : Int32} {r : Int32} (hf : f_X4_worthWith fu o_table t_wit t_purse p2 p3 p4 = some r) : Rd l D (gy g) yX4_worthWith cX4_worthWith 6 (some .int) 0 [.ref o_q0, .ref t_q0, .int p2, .int p3, .int p4] (wPu g o_q0 o_q1 o_q2 o_q3 o_q4 o_sums o_table o_onward o_chances ++ wTw g t_q0 t_q1 t_q2 t_q3 t_q4 t_people t_wit t_purse t_hated t_owed) (some (.int r)) := by
  refine Rd.ofI (by decide) (Nat.le_of_ble_eq_true rfl) ?_
  intro p e s m args below meth c Q S hK hP hret ls hl
  have hl : lv_has ls 6 [(0, .ref o_q0), (1, .ref t_q0), (2, .int p2), (3, .int p3), (4, .int p4)] := hl
  refine lv_aload_n S.1 S.2.1 dX4_worthWith_0 rfl (lv_at hl 1 rfl) ?_
  refine gfX4_48 S hK hP 5 rfl rfl dX4_worthWith_1 ?_
  refine lv_iload_n S.1 S.2.1 dX4_worthWith_4 rfl (lv_at hl 2 rfl) ?_
  obtain ⟨x1, hx1, hf⟩ := bnd_e hf
  refine q_iald S hK hP 7 0 rfl rfl hx1 dX4_worthWith_5 ?_
  refine lv_aload_n S.1 S.2.1 dX4_worthWith_6 rfl (lv_at hl 1 rfl) ?_
  refine gfX4_48 S hK hP 5 rfl rfl dX4_worthWith_7 ?_
  refine lv_iload_n S.1 S.2.1 dX4_worthWith_10 rfl (lv_at hl 3 rfl) ?_
  obtain ⟨x2, hx2, hf⟩ := bnd_e hf
  refine q_iald S hK hP 7 0 rfl rfl hx2 dX4_worthWith_11 ?_
  obtain ⟨x3, hf_, hk3⟩ := bnd_e hf
  have hJ3 : ∀ (v4 : Int32), v4 = x3 → ∀ (ls : Array Slot), lv_has ls 6 [(0, .ref o_q0), (2, .int p2), (3, .int p3), (4, .int p4)] → W p l e (rmD 0) s m args below meth c s.heap [] 0 0 Q (F0 m 25 ls [.int v4]) := by
    intro v4 e_ ls hl
    subst e_
    have hf := hk3
    refine lv_istore (lv' := [(5, .int v4), (0, .ref o_q0), (2, .int p2), (3, .int p3), (4, .int p4)]) S.1 S.2.1 dX4_worthWith_25 hl (by decide) rfl (fun ls hl => ?_)
    refine lv_iload S.1 S.2.1 dX4_worthWith_27 (lv_at hl 0 rfl) ?_
    refine lv_aload_n S.1 S.2.1 dX4_worthWith_29 rfl (lv_at hl 1 rfl) ?_
    refine gfX4_15 S hK hP 0 rfl rfl dX4_worthWith_30 ?_
    refine lv_bipush (v := 64) S.1 S.2.1 dX4_worthWith_33 bp_64 ?_
    refine lv_iload_n S.1 S.2.1 dX4_worthWith_35 rfl (lv_at hl 2 rfl) ?_
    refine lv_iconst (v := 1) S.1 S.2.1 dX4_worthWith_36 ic_1 ?_
    refine lv_iadd S.1 S.2.1 dX4_worthWith_37 ?_
    refine lv_imul S.1 S.2.1 dX4_worthWith_38 ?_
    refine lv_iload S.1 S.2.1 dX4_worthWith_39 (lv_at hl 4 rfl) ?_
    refine lv_iconst (v := 1) S.1 S.2.1 dX4_worthWith_41 ic_1 ?_
    refine lv_iload_n S.1 S.2.1 dX4_worthWith_42 rfl (lv_at hl 3 rfl) ?_
    refine lv_ishl S.1 S.2.1 dX4_worthWith_43 ?_
    refine lv_ior S.1 S.2.1 dX4_worthWith_44 ?_
    refine lv_iadd S.1 S.2.1 dX4_worthWith_45 ?_
    obtain ⟨x5, hx5, hf⟩ := bnd_e hf
    refine q_iald S hK hP 2 0 rfl rfl hx5 dX4_worthWith_46 ?_
    refine lv_iadd S.1 S.2.1 dX4_worthWith_47 ?_
    have e_ := Option.some.inj hf
    subst e_
    exact hret _ _ dX4_worthWith_48
  have hf := hf_
  refine lv_icmp_le (tgt := 24) S.1 S.2.1 dX4_worthWith_12 (by decide) (fun c_ => ?_) (fun c_ => ?_)
  · have hf := it_p c_ hf
    refine lv_iconst (v := 0) S.1 S.2.1 dX4_worthWith_24 ic_0 ?_
    exact hJ3 _ (Option.some.inj hf) _ (lv_sub hl [0, 2, 3, 4] rfl)
  · have hf := it_n c_ hf
    refine lv_aload_n S.1 S.2.1 dX4_worthWith_15 rfl (lv_at hl 1 rfl) ?_
    refine gfX4_45 S hK hP 5 rfl rfl dX4_worthWith_16 ?_
    refine lv_iload_n S.1 S.2.1 dX4_worthWith_19 rfl (lv_at hl 3 rfl) ?_
    obtain ⟨x6, hx6, hf⟩ := bnd_e hf
    refine q_iald S hK hP 6 0 rfl rfl hx6 dX4_worthWith_20 ?_
    refine lv_goto (tgt := 25) S.1 S.2.1 dX4_worthWith_21 (by decide) ?_
    exact hJ3 _ (Option.some.inj hf) _ (lv_sub hl [0, 2, 3, 4] rfl)
def f_X4_mostWorth_L18 (fu : Nat) (o_table : (Nat → Int32)) (t_people : Int32) (t_wit : (Nat → Int32)) (t_purse : (Nat → Int32)) (p2 : Int32) (p3 : Int32) (s3 : Int32 × Int32) : Option ((Int32 × Int32) ⊕ (Int32)) := if t_people ≤ s3.2 then some (.inr s3.1) else if s3.2 = p2 then some (.inl (s3.1, (s3.2 + 1))) else if ((jshr p3 s3.2) &&& (1 : Int32)) = 0 then bnd (α := Int32) (f_X4_worthWith fu o_table t_wit t_purse p2 s3.2 p3) (fun x6 => ltn (jmax s3.1 x6) (fun x7 => some (.inl (x7, (s3.2 + 1))))) else some (.inl (s3.1, (s3.2 + 1)))
def f_X4_mostWorth (fu : Nat) (o_table : (Nat → Int32)) (t_people : Int32) (t_wit : (Nat → Int32)) (t_purse : (Nat → Int32)) (p2 : Int32) (p3 : Int32) : Option (Int32) := bnd (α := Int32) (rdi 448 o_table (((64 : Int32) * (p2 + (1 : Int32))) + p3)) (fun x1 => bnd (α := Int32) (lp (f_X4_mostWorth_L18 fu o_table t_people t_wit t_purse p2 p3) fu (x1, (0 : Int32))) (fun v8 => some v8))
set_option maxHeartbeats 4000000 in
set_option maxRecDepth 100000 in
theorem c_X4_mostWorth {l : Launch} {D : va_G} {g : Nat → ClassId} {fu : Nat} {o_q0 o_q1 o_q2 o_q3 o_q4 t_q0 t_q1 t_q2 t_q3 t_q4 : Nat} {o_sums : (Nat → Int32)} {o_table : (Nat → Int32)} {o_onward : (Nat → Int32)} {o_chances : (Nat → Int64)} {t_people : Int32} {t_wit : (Nat → Int32)} {t_purse : (Nat → Int32)} {t_hated : (Nat → Int32)} {t_owed : (Nat → Int32)} {p2 : Int32} {p3 : Int32} {r : Int32} (hf : f_X4_mostWorth fu o_table t_people t_wit t_purse p2 p3 = some r) : Rd l D (gy g) yX4_mostWorth cX4_mostWorth 6 (some .int) 1 [.ref o_q0, .ref t_q0, .int p2, .int p3] (wPu g o_q0 o_q1 o_q2 o_q3 o_q4 o_sums o_table o_onward o_chances ++ wTw g t_q0 t_q1 t_q2 t_q3 t_q4 t_people t_wit t_purse t_hated t_owed) (some (.int r)) := by
  refine Rd.ofI (by decide) (Nat.le_of_ble_eq_true rfl) ?_
  intro p e s m args below meth c Q S hK hP hret ls hl
  have hl : lv_has ls 6 [(0, .ref o_q0), (1, .ref t_q0), (2, .int p2), (3, .int p3)] := hl
  refine lv_aload_n S.1 S.2.1 dX4_mostWorth_0 rfl (lv_at hl 0 rfl) ?_
  refine gfX4_15 S hK hP 0 rfl rfl dX4_mostWorth_1 ?_
  refine lv_bipush (v := 64) S.1 S.2.1 dX4_mostWorth_4 bp_64 ?_
  refine lv_iload_n S.1 S.2.1 dX4_mostWorth_6 rfl (lv_at hl 2 rfl) ?_
  refine lv_iconst (v := 1) S.1 S.2.1 dX4_mostWorth_7 ic_1 ?_
  refine lv_iadd S.1 S.2.1 dX4_mostWorth_8 ?_
  refine lv_imul S.1 S.2.1 dX4_mostWorth_9 ?_
  refine lv_iload_n S.1 S.2.1 dX4_mostWorth_10 rfl (lv_at hl 3 rfl) ?_
  refine lv_iadd S.1 S.2.1 dX4_mostWorth_11 ?_
  obtain ⟨x1, hx1, hf⟩ := bnd_e hf
  refine q_iald S hK hP 2 0 rfl rfl hx1 dX4_mostWorth_12 ?_
  refine lv_istore (lv' := [(4, .int x1), (0, .ref o_q0), (1, .ref t_q0), (2, .int p2), (3, .int p3)]) S.1 S.2.1 dX4_mostWorth_13 hl (by decide) rfl (fun ls hl => ?_)
  refine lv_iconst (v := 0) S.1 S.2.1 dX4_mostWorth_15 ic_0 ?_
  refine lv_istore (lv' := [(5, .int (0 : Int32)), (4, .int x1), (0, .ref o_q0), (1, .ref t_q0), (2, .int p2), (3, .int p3)]) S.1 S.2.1 dX4_mostWorth_16 hl (by decide) rfl (fun ls hl => ?_)
  obtain ⟨x4, hf_, hk4⟩ := bnd_e hf
  have hE4 : ∀ (v8 : Int32), v8 = x4 → ∀ (ls : Array Slot), lv_has ls 6 [(4, .int v8)] → W p l e (rmD 1) s m args below meth c s.heap [] 0 0 Q (F0 m 64 ls []) := by
    intro v8 e_ ls hl
    subst e_
    have hf := hk4
    refine lv_iload S.1 S.2.1 dX4_mostWorth_64 (lv_at hl 0 rfl) ?_
    have e_ := Option.some.inj hf
    subst e_
    exact hret _ _ dX4_mostWorth_66
  refine lp_ind (P := fun (s3 : Int32 × Int32) => ∀ (ls : Array Slot), lv_has ls 6 [(0, .ref o_q0), (1, .ref t_q0), (2, .int p2), (3, .int p3), (4, .int s3.1), (5, .int s3.2)] → W p l e (rmD 1) s m args below meth c s.heap [] 0 0 Q (F0 m 18 ls [])) ?_ _ _ hf_ _ (lv_sub hl [2, 3, 4, 5, 1, 0] rfl)
  intro s3 x5 hf hI4 hR4 ls hl
  refine lv_iload S.1 S.2.1 dX4_mostWorth_18 (lv_at hl 5 rfl) ?_
  refine lv_aload_n S.1 S.2.1 dX4_mostWorth_20 rfl (lv_at hl 1 rfl) ?_
  refine gfX4_25 S hK hP 5 rfl rfl dX4_mostWorth_21 ?_
  refine lv_icmp_ge (tgt := 64) S.1 S.2.1 dX4_mostWorth_24 (by decide) (fun c_ => ?_) (fun c_ => ?_)
  · have hf := it_p c_ hf
    have e_ := hR4 _ (Option.some.inj hf).symm
    exact hE4 _ e_ _ (lv_sub hl [4] rfl)
  · have hf := it_n c_ hf
    refine lv_iload S.1 S.2.1 dX4_mostWorth_27 (lv_at hl 5 rfl) ?_
    refine lv_iload_n S.1 S.2.1 dX4_mostWorth_29 rfl (lv_at hl 2 rfl) ?_
    refine lv_icmp_eq (tgt := 58) S.1 S.2.1 dX4_mostWorth_30 (by decide) (fun c_ => ?_) (fun c_ => ?_)
    · have hf := it_p c_ hf
      refine q_iinc (w := 1) (lv' := [(5, .int (s3.2 + 1)), (0, .ref o_q0), (1, .ref t_q0), (2, .int p2), (3, .int p3), (4, .int s3.1)]) S dX4_mostWorth_58 hl (k := 5) rfl ic_1 (by decide) rfl (fun ls hl => ?_)
      refine lv_goto (tgt := 18) S.1 S.2.1 dX4_mostWorth_61 (by decide) ?_
      exact hI4 _ (Option.some.inj hf).symm _ (lv_sub hl [1, 2, 3, 4, 5, 0] rfl)
    · have hf := it_n c_ hf
      refine lv_iload_n S.1 S.2.1 dX4_mostWorth_33 rfl (lv_at hl 3 rfl) ?_
      refine lv_iload S.1 S.2.1 dX4_mostWorth_34 (lv_at hl 5 rfl) ?_
      refine lv_ishr S.1 S.2.1 dX4_mostWorth_36 ?_
      refine lv_iconst (v := 1) S.1 S.2.1 dX4_mostWorth_37 ic_1 ?_
      refine lv_iand S.1 S.2.1 dX4_mostWorth_38 ?_
      refine lv_if_ne (tgt := 58) S.1 S.2.1 dX4_mostWorth_39 (by decide) (fun c_ => ?_) (fun c_ => ?_)
      · have hf := it_n c_ hf
        refine q_iinc (w := 1) (lv' := [(5, .int (s3.2 + 1)), (0, .ref o_q0), (1, .ref t_q0), (2, .int p2), (3, .int p3), (4, .int s3.1)]) S dX4_mostWorth_58 hl (k := 5) rfl ic_1 (by decide) rfl (fun ls hl => ?_)
        refine lv_goto (tgt := 18) S.1 S.2.1 dX4_mostWorth_61 (by decide) ?_
        exact hI4 _ (Option.some.inj hf).symm _ (lv_sub hl [1, 2, 3, 4, 5, 0] rfl)
      · have hf := it_p c_ hf
        refine lv_iload S.1 S.2.1 dX4_mostWorth_42 (lv_at hl 4 rfl) ?_
        refine lv_aload_n S.1 S.2.1 dX4_mostWorth_44 rfl (lv_at hl 0 rfl) ?_
        refine lv_aload_n S.1 S.2.1 dX4_mostWorth_45 rfl (lv_at hl 1 rfl) ?_
        refine lv_iload_n S.1 S.2.1 dX4_mostWorth_46 rfl (lv_at hl 2 rfl) ?_
        refine lv_iload S.1 S.2.1 dX4_mostWorth_47 (lv_at hl 5 rfl) ?_
        refine lv_iload_n S.1 S.2.1 dX4_mostWorth_49 rfl (lv_at hl 3 rfl) ?_
        obtain ⟨x6, hx6, hf⟩ := bnd_e hf
        refine Rd.cV (c_X4_worthWith hx6) S hK hP 0 2 rfl rfl kVX4_67 rfl hl.1 [.int s3.1] rfl (Nat.le_of_ble_eq_true rfl) ⟨(Nat.le_of_ble_eq_true rfl), (Nat.le_of_ble_eq_true rfl)⟩ ⟨(Nat.zero_le _), (Nat.zero_le _)⟩ dX4_mostWorth_50 ?_
        refine va_mmax S.1 S.2.1 (S.2.2.1.trans hl.1.symm) S.2.2.2.1 (S.2.2.2.2 _ q_686) (S.2.2.2.2 _ q_658) (S.2.2.2.2 _ q_12) (S.2.2.2.2 _ q_659) (Nat.le_of_ble_eq_true rfl) (Nat.le_of_ble_eq_true rfl) (Nat.zero_le _) (Nat.zero_le _) dX4_mostWorth_53 ?_
        refine lv_topi (fun x7 ex7 => ?_)
        have hf := ltn_e hf ex7
        refine lv_istore (lv' := [(4, .int x7), (0, .ref o_q0), (1, .ref t_q0), (2, .int p2), (3, .int p3), (5, .int s3.2)]) S.1 S.2.1 dX4_mostWorth_56 hl (by decide) rfl (fun ls hl => ?_)
        refine q_iinc (w := 1) (lv' := [(5, .int (s3.2 + 1)), (4, .int x7), (0, .ref o_q0), (1, .ref t_q0), (2, .int p2), (3, .int p3)]) S dX4_mostWorth_58 hl (k := 5) rfl ic_1 (by decide) rfl (fun ls hl => ?_)
        refine lv_goto (tgt := 18) S.1 S.2.1 dX4_mostWorth_61 (by decide) ?_
        exact hI4 _ (Option.some.inj hf).symm _ (lv_sub hl [2, 3, 4, 5, 1, 0] rfl)
def f_X4_firstBorrower_L16 (fu : Nat) (o_table : (Nat → Int32)) (t_people : Int32) (t_wit : (Nat → Int32)) (t_purse : (Nat → Int32)) (p2 : Int32) (p3 : Int32) (x1 : Int32) (s3 : Int32) : Option ((Int32) ⊕ ((Int32) ⊕ (Unit))) := if t_people ≤ s3 then some (.inr (.inr ())) else if s3 = p2 then some (.inl (s3 + 1)) else if ((jshr p3 s3) &&& (1 : Int32)) = 0 then bnd (α := Int32) (f_X4_worthWith fu o_table t_wit t_purse p2 s3 p3) (fun x6 => if x6 = x1 then some (.inr (.inl s3)) else some (.inl (s3 + 1))) else some (.inl (s3 + 1))
def f_X4_firstBorrower (fu : Nat) (o_table : (Nat → Int32)) (t_people : Int32) (t_wit : (Nat → Int32)) (t_purse : (Nat → Int32)) (p2 : Int32) (p3 : Int32) : Option (Int32) := bnd (α := Int32) (rdi 448 o_table (((64 : Int32) * p2) + p3)) (fun x1 => bnd (α := (Int32) ⊕ (Unit)) (lp (f_X4_firstBorrower_L16 fu o_table t_people t_wit t_purse p2 p3 x1) fu (0 : Int32)) (fun x4 => cse x4 (fun y8 => some y8) (fun v7 => some (6 : Int32))))
set_option maxHeartbeats 4000000 in
set_option maxRecDepth 100000 in
theorem c_X4_firstBorrower {l : Launch} {D : va_G} {g : Nat → ClassId} {fu : Nat} {o_q0 o_q1 o_q2 o_q3 o_q4 t_q0 t_q1 t_q2 t_q3 t_q4 : Nat} {o_sums : (Nat → Int32)} {o_table : (Nat → Int32)} {o_onward : (Nat → Int32)} {o_chances : (Nat → Int64)} {t_people : Int32} {t_wit : (Nat → Int32)} {t_purse : (Nat → Int32)} {t_hated : (Nat → Int32)} {t_owed : (Nat → Int32)} {p2 : Int32} {p3 : Int32} {r : Int32} (hf : f_X4_firstBorrower fu o_table t_people t_wit t_purse p2 p3 = some r) : Rd l D (gy g) yX4_firstBorrower cX4_firstBorrower 6 (some .int) 1 [.ref o_q0, .ref t_q0, .int p2, .int p3] (wPu g o_q0 o_q1 o_q2 o_q3 o_q4 o_sums o_table o_onward o_chances ++ wTw g t_q0 t_q1 t_q2 t_q3 t_q4 t_people t_wit t_purse t_hated t_owed) (some (.int r)) := by
  refine Rd.ofI (by decide) (Nat.le_of_ble_eq_true rfl) ?_
  intro p e s m args below meth c Q S hK hP hret ls hl
  have hl : lv_has ls 6 [(0, .ref o_q0), (1, .ref t_q0), (2, .int p2), (3, .int p3)] := hl
  refine lv_aload_n S.1 S.2.1 dX4_firstBorrower_0 rfl (lv_at hl 0 rfl) ?_
  refine gfX4_15 S hK hP 0 rfl rfl dX4_firstBorrower_1 ?_
  refine lv_bipush (v := 64) S.1 S.2.1 dX4_firstBorrower_4 bp_64 ?_
  refine lv_iload_n S.1 S.2.1 dX4_firstBorrower_6 rfl (lv_at hl 2 rfl) ?_
  refine lv_imul S.1 S.2.1 dX4_firstBorrower_7 ?_
  refine lv_iload_n S.1 S.2.1 dX4_firstBorrower_8 rfl (lv_at hl 3 rfl) ?_
  refine lv_iadd S.1 S.2.1 dX4_firstBorrower_9 ?_
  obtain ⟨x1, hx1, hf⟩ := bnd_e hf
  refine q_iald S hK hP 2 0 rfl rfl hx1 dX4_firstBorrower_10 ?_
  refine lv_istore (lv' := [(4, .int x1), (0, .ref o_q0), (1, .ref t_q0), (2, .int p2), (3, .int p3)]) S.1 S.2.1 dX4_firstBorrower_11 hl (by decide) rfl (fun ls hl => ?_)
  refine lv_iconst (v := 0) S.1 S.2.1 dX4_firstBorrower_13 ic_0 ?_
  refine lv_istore (lv' := [(5, .int (0 : Int32)), (4, .int x1), (0, .ref o_q0), (1, .ref t_q0), (2, .int p2), (3, .int p3)]) S.1 S.2.1 dX4_firstBorrower_14 hl (by decide) rfl (fun ls hl => ?_)
  obtain ⟨x4, hf_, hk4⟩ := bnd_e hf
  have hE4 : ∀ (v7 : Unit), x4 = .inr v7 → ∀ (ls : Array Slot), lv_has ls 6 [] → W p l e (rmD 1) s m args below meth c s.heap [] 0 0 Q (F0 m 63 ls []) := by
    intro v7 e_ ls hl
    subst e_
    have hf := cse_r hk4
    refine lv_bipush (v := 6) S.1 S.2.1 dX4_firstBorrower_63 bp_6 ?_
    have e_ := Option.some.inj hf
    subst e_
    exact hret _ _ dX4_firstBorrower_65
  refine lp_ind (P := fun (s3 : Int32) => ∀ (ls : Array Slot), lv_has ls 6 [(0, .ref o_q0), (1, .ref t_q0), (2, .int p2), (3, .int p3), (4, .int x1), (5, .int s3)] → W p l e (rmD 1) s m args below meth c s.heap [] 0 0 Q (F0 m 16 ls [])) ?_ _ _ hf_ _ (lv_sub hl [2, 3, 4, 5, 1, 0] rfl)
  intro s3 x5 hf hI4 hR4 ls hl
  refine lv_iload S.1 S.2.1 dX4_firstBorrower_16 (lv_at hl 5 rfl) ?_
  refine lv_aload_n S.1 S.2.1 dX4_firstBorrower_18 rfl (lv_at hl 1 rfl) ?_
  refine gfX4_25 S hK hP 5 rfl rfl dX4_firstBorrower_19 ?_
  refine lv_icmp_ge (tgt := 63) S.1 S.2.1 dX4_firstBorrower_22 (by decide) (fun c_ => ?_) (fun c_ => ?_)
  · have hf := it_p c_ hf
    have e_ := hR4 _ (Option.some.inj hf).symm
    exact hE4 _ e_.symm _ (lv_sub hl [] rfl)
  · have hf := it_n c_ hf
    refine lv_iload S.1 S.2.1 dX4_firstBorrower_25 (lv_at hl 5 rfl) ?_
    refine lv_iload_n S.1 S.2.1 dX4_firstBorrower_27 rfl (lv_at hl 2 rfl) ?_
    refine lv_icmp_eq (tgt := 57) S.1 S.2.1 dX4_firstBorrower_28 (by decide) (fun c_ => ?_) (fun c_ => ?_)
    · have hf := it_p c_ hf
      refine q_iinc (w := 1) (lv' := [(5, .int (s3 + 1)), (0, .ref o_q0), (1, .ref t_q0), (2, .int p2), (3, .int p3), (4, .int x1)]) S dX4_firstBorrower_57 hl (k := 5) rfl ic_1 (by decide) rfl (fun ls hl => ?_)
      refine lv_goto (tgt := 16) S.1 S.2.1 dX4_firstBorrower_60 (by decide) ?_
      exact hI4 _ (Option.some.inj hf).symm _ (lv_sub hl [1, 2, 3, 4, 5, 0] rfl)
    · have hf := it_n c_ hf
      refine lv_iload_n S.1 S.2.1 dX4_firstBorrower_31 rfl (lv_at hl 3 rfl) ?_
      refine lv_iload S.1 S.2.1 dX4_firstBorrower_32 (lv_at hl 5 rfl) ?_
      refine lv_ishr S.1 S.2.1 dX4_firstBorrower_34 ?_
      refine lv_iconst (v := 1) S.1 S.2.1 dX4_firstBorrower_35 ic_1 ?_
      refine lv_iand S.1 S.2.1 dX4_firstBorrower_36 ?_
      refine lv_if_ne (tgt := 57) S.1 S.2.1 dX4_firstBorrower_37 (by decide) (fun c_ => ?_) (fun c_ => ?_)
      · have hf := it_n c_ hf
        refine q_iinc (w := 1) (lv' := [(5, .int (s3 + 1)), (0, .ref o_q0), (1, .ref t_q0), (2, .int p2), (3, .int p3), (4, .int x1)]) S dX4_firstBorrower_57 hl (k := 5) rfl ic_1 (by decide) rfl (fun ls hl => ?_)
        refine lv_goto (tgt := 16) S.1 S.2.1 dX4_firstBorrower_60 (by decide) ?_
        exact hI4 _ (Option.some.inj hf).symm _ (lv_sub hl [1, 2, 3, 4, 5, 0] rfl)
      · have hf := it_p c_ hf
        refine lv_aload_n S.1 S.2.1 dX4_firstBorrower_40 rfl (lv_at hl 0 rfl) ?_
        refine lv_aload_n S.1 S.2.1 dX4_firstBorrower_41 rfl (lv_at hl 1 rfl) ?_
        refine lv_iload_n S.1 S.2.1 dX4_firstBorrower_42 rfl (lv_at hl 2 rfl) ?_
        refine lv_iload S.1 S.2.1 dX4_firstBorrower_43 (lv_at hl 5 rfl) ?_
        refine lv_iload_n S.1 S.2.1 dX4_firstBorrower_45 rfl (lv_at hl 3 rfl) ?_
        obtain ⟨x6, hx6, hf⟩ := bnd_e hf
        refine Rd.cV (c_X4_worthWith hx6) S hK hP 0 2 rfl rfl kVX4_67 rfl hl.1 [] rfl (Nat.le_of_ble_eq_true rfl) ⟨(Nat.le_of_ble_eq_true rfl), (Nat.le_of_ble_eq_true rfl)⟩ ⟨(Nat.zero_le _), (Nat.zero_le _)⟩ dX4_firstBorrower_46 ?_
        refine lv_iload S.1 S.2.1 dX4_firstBorrower_49 (lv_at hl 4 rfl) ?_
        refine lv_icmp_ne (tgt := 57) S.1 S.2.1 dX4_firstBorrower_51 (by decide) (fun c_ => ?_) (fun c_ => ?_)
        · have hf := it_n c_ hf
          refine q_iinc (w := 1) (lv' := [(5, .int (s3 + 1)), (0, .ref o_q0), (1, .ref t_q0), (2, .int p2), (3, .int p3), (4, .int x1)]) S dX4_firstBorrower_57 hl (k := 5) rfl ic_1 (by decide) rfl (fun ls hl => ?_)
          refine lv_goto (tgt := 16) S.1 S.2.1 dX4_firstBorrower_60 (by decide) ?_
          exact hI4 _ (Option.some.inj hf).symm _ (lv_sub hl [1, 2, 3, 4, 5, 0] rfl)
        · have hf := it_p c_ hf
          refine lv_iload S.1 S.2.1 dX4_firstBorrower_54 (lv_at hl 5 rfl) ?_
          have e_ := hR4 _ (Option.some.inj hf).symm
          subst e_
          have hf := cse_l hk4
          have e_ := Option.some.inj hf
          subst e_
          exact hret _ _ dX4_firstBorrower_56
def f_X4_bestLending_L22 (fu : Nat) (t_people : Int32) (t_wit : (Nat → Int32)) (t_purse : (Nat → Int32)) (s4 : Int32 × (Nat → Int32)) (s8 : Int32 × (Nat → Int32)) : Option ((Int32 × (Nat → Int32)) ⊕ ((Nat → Int32))) := if (jshl (1 : Int32) t_people) ≤ s8.1 then some (.inr s8.2) else bnd (α := Int32) (f_X4_mostWorth fu s8.2 t_people t_wit t_purse s4.1 s8.1) (fun x11 => bnd (α := (Nat → Int32)) (wri 448 s8.2 (((64 : Int32) * s4.1) + s8.1) x11) (fun x12 => some (.inl ((s8.1 + 1), x12))))
def f_X4_bestLending_L15 (fu : Nat) (t_people : Int32) (t_wit : (Nat → Int32)) (t_purse : (Nat → Int32)) (s4 : Int32 × (Nat → Int32)) : Option ((Int32 × (Nat → Int32)) ⊕ ((Nat → Int32))) := if s4.1 < 0 then some (.inr s4.2) else bnd (α := (Nat → Int32)) (lp (f_X4_bestLending_L22 fu t_people t_wit t_purse s4) fu ((0 : Int32), s4.2)) (fun v13 => some (.inl ((s4.1 + (-1)), v13)))
def f_X4_bestLending_L86 (fu : Nat) (t_people : Int32) (t_wit : (Nat → Int32)) (t_purse : (Nat → Int32)) (p2 : Int32) (v14 : (Nat → Int32)) (s17 : Int32 × Int32 × Int32) : Option ((Int32 × Int32 × Int32) ⊕ (Int32)) := if p2 < s17.2.2 then some (.inr s17.2.1) else if t_people ≤ s17.2.2 then some (.inr s17.2.1) else bnd (α := Int32) (f_X4_firstBorrower fu v14 t_people t_wit t_purse s17.2.2 s17.1) (fun x20 => if x20 = (6 : Int32) then some (.inl (s17.1, x20, (s17.2.2 + 1))) else ltn (s17.1 ||| (jshl (1 : Int32) x20)) (fun x21 => some (.inl (x21, x20, (s17.2.2 + 1)))))
def f_X4_bestLending (fu : Nat) (o_table : (Nat → Int32)) (t_people : Int32) (t_wit : (Nat → Int32)) (t_purse : (Nat → Int32)) (p2 : Int32) : Option (Int32 × (Nat → Int32)) := bnd (α := (Nat → Int32)) (f_J7_fill_53178 fu 448 o_table (0 : Int32)) (fun x1 => ltn (t_people - (1 : Int32)) (fun x2 => bnd (α := (Nat → Int32)) (lp (f_X4_bestLending_L15 fu t_people t_wit t_purse) fu (x2, x1)) (fun v14 => if p2 = (-1 : Int32) then bnd (α := Int32) (rdi 448 v14 (0 : Int32)) (fun x15 => some (x15, v14)) else bnd (α := Int32) (lp (f_X4_bestLending_L86 fu t_people t_wit t_purse p2 v14) fu ((0 : Int32), (6 : Int32), (0 : Int32))) (fun v22 => some (v22, v14)))))
set_option maxHeartbeats 4000000 in
set_option maxRecDepth 100000 in
theorem c_X4_bestLending {l : Launch} {D : va_G} {g : Nat → ClassId} {fu : Nat} {o_q0 o_q1 o_q2 o_q3 o_q4 t_q0 t_q1 t_q2 t_q3 t_q4 : Nat} {o_sums : (Nat → Int32)} {o_table : (Nat → Int32)} {o_onward : (Nat → Int32)} {o_chances : (Nat → Int64)} {t_people : Int32} {t_wit : (Nat → Int32)} {t_purse : (Nat → Int32)} {t_hated : (Nat → Int32)} {t_owed : (Nat → Int32)} {p2 : Int32} {r : Int32 × (Nat → Int32)} (hf : f_X4_bestLending fu o_table t_people t_wit t_purse p2 = some r) : Wr l D (gy g) yX4_bestLending cX4_bestLending 6 (some .int) 2 [.ref o_q0, .ref t_q0, .int p2] (wPu g o_q0 o_q1 o_q2 o_q3 o_q4 o_sums o_table o_onward o_chances ++ wTw g t_q0 t_q1 t_q2 t_q3 t_q4 t_people t_wit t_purse t_hated t_owed) (wPu g o_q0 o_q1 o_q2 o_q3 o_q4 o_sums r.2 o_onward o_chances ++ wTw g t_q0 t_q1 t_q2 t_q3 t_q4 t_people t_wit t_purse t_hated t_owed) (some (.int r.1)) := by
  refine Wr.ofI (by decide) (Nat.le_of_ble_eq_true rfl) ?_
  intro p e s m args below meth c Q A S hK hA hret ls hl hW
  have hl : lv_has ls 6 [(0, .ref o_q0), (1, .ref t_q0), (2, .int p2)] := hl
  refine lv_aload_n S.1 S.2.1 dX4_bestLending_0 rfl (lv_at hl 0 rfl) ?_
  refine gfX4_15 S hK hW.1 0 rfl rfl dX4_bestLending_1 ?_
  refine lv_iconst (v := 0) S.1 S.2.1 dX4_bestLending_4 ic_0 ?_
  obtain ⟨x1, hx1, hf⟩ := bnd_e hf
  refine Wr.go (ws2 := (wPu g o_q0 o_q1 o_q2 o_q3 o_q4 o_sums x1 o_onward o_chances ++ wTw g t_q0 t_q1 t_q2 t_q3 t_q4 t_people t_wit t_purse t_hated t_owed)) (Wr.runS (c_J7_fill_53178 hx1) S hK (hW.1.sub (ws' := (wAI g o_q2 448 o_table)) [2] rfl) (hW.2.1.sub (ws' := (wAI g o_q2 448 o_table)) [2] (by decide) rfl) kSX4_54 rfl hl.1 [] rfl (Nat.le_of_ble_eq_true rfl) ⟨(Nat.le_of_ble_eq_true rfl), (Nat.le_of_ble_eq_true rfl)⟩ ⟨(Nat.zero_le _), (Nat.zero_le _)⟩ dX4_bestLending_5) hW hA [2] rfl [(false, 0), (false, 1), (true, 0), (false, 3), (false, 4), (false, 5), (false, 6), (false, 7), (false, 8), (false, 9)] rfl (by decide) rfl (fun H locs hW => ?_)
  refine lv_aload_n S.1 S.2.1 dX4_bestLending_8 rfl (lv_at hl 1 rfl) ?_
  refine gfX4_25 S hK hW.1 5 rfl rfl dX4_bestLending_9 ?_
  refine lv_iconst (v := 1) S.1 S.2.1 dX4_bestLending_12 ic_1 ?_
  refine lv_isub S.1 S.2.1 dX4_bestLending_13 ?_
  refine lv_topi (fun x2 ex2 => ?_)
  have hf := ltn_e hf ex2
  refine lv_istore_n (lv' := [(3, .int x2), (0, .ref o_q0), (1, .ref t_q0), (2, .int p2)]) S.1 S.2.1 dX4_bestLending_14 rfl hl (by decide) rfl (fun ls hl => ?_)
  obtain ⟨x5, hf_, hk5⟩ := bnd_e hf
  have hE5 : ∀ (v14 : (Nat → Int32)), v14 = x5 → ∀ (ls : Array Slot) (H : Heap) (locs : List Loc), lv_has ls 6 [(0, .ref o_q0), (1, .ref t_q0), (2, .int p2)] → St A s.heap D (wPu g o_q0 o_q1 o_q2 o_q3 o_q4 o_sums v14 o_onward o_chances ++ wTw g t_q0 t_q1 t_q2 t_q3 t_q4 t_people t_wit t_purse t_hated t_owed) H locs → W p l e (rmD 2) s m args below meth c H locs 0 0 Q (F0 m 65 ls []) := by
    intro v14 e_ ls H locs hl hW
    subst e_
    have hf := hk5
    refine lv_iload_n S.1 S.2.1 dX4_bestLending_65 rfl (lv_at hl 2 rfl) ?_
    refine lv_iconst (v := (-1)) S.1 S.2.1 dX4_bestLending_66 ic_m1 ?_
    refine lv_icmp_ne (tgt := 77) S.1 S.2.1 dX4_bestLending_67 (by decide) (fun c_ => ?_) (fun c_ => ?_)
    · have hf := it_n c_ hf
      refine lv_iconst (v := 0) S.1 S.2.1 dX4_bestLending_77 ic_0 ?_
      refine lv_istore_n (lv' := [(3, .int (0 : Int32)), (0, .ref o_q0), (1, .ref t_q0), (2, .int p2)]) S.1 S.2.1 dX4_bestLending_78 rfl hl (by decide) rfl (fun ls hl => ?_)
      refine lv_bipush (v := 6) S.1 S.2.1 dX4_bestLending_79 bp_6 ?_
      refine lv_istore (lv' := [(4, .int (6 : Int32)), (3, .int (0 : Int32)), (0, .ref o_q0), (1, .ref t_q0), (2, .int p2)]) S.1 S.2.1 dX4_bestLending_81 hl (by decide) rfl (fun ls hl => ?_)
      refine lv_iconst (v := 0) S.1 S.2.1 dX4_bestLending_83 ic_0 ?_
      refine lv_istore (lv' := [(5, .int (0 : Int32)), (4, .int (6 : Int32)), (3, .int (0 : Int32)), (0, .ref o_q0), (1, .ref t_q0), (2, .int p2)]) S.1 S.2.1 dX4_bestLending_84 hl (by decide) rfl (fun ls hl => ?_)
      obtain ⟨x18, hf_, hk18⟩ := bnd_e hf
      have hE18 : ∀ (v22 : Int32), v22 = x18 → ∀ (ls : Array Slot) (H : Heap) (locs : List Loc), lv_has ls 6 [(4, .int v22)] → St A s.heap D (wPu g o_q0 o_q1 o_q2 o_q3 o_q4 o_sums v14 o_onward o_chances ++ wTw g t_q0 t_q1 t_q2 t_q3 t_q4 t_people t_wit t_purse t_hated t_owed) H locs → W p l e (rmD 2) s m args below meth c H locs 0 0 Q (F0 m 131 ls []) := by
        intro v22 e_ ls H locs hl hW
        subst e_
        have hf := hk18
        refine lv_iload S.1 S.2.1 dX4_bestLending_131 (lv_at hl 0 rfl) ?_
        have e_ := Option.some.inj hf
        subst e_
        exact hret _ _ _ _ dX4_bestLending_133 hW
      refine lp_ind (P := fun (s17 : Int32 × Int32 × Int32) => ∀ (ls : Array Slot) (H : Heap) (locs : List Loc), lv_has ls 6 [(0, .ref o_q0), (1, .ref t_q0), (2, .int p2), (3, .int s17.1), (4, .int s17.2.1), (5, .int s17.2.2)] → St A s.heap D (wPu g o_q0 o_q1 o_q2 o_q3 o_q4 o_sums v14 o_onward o_chances ++ wTw g t_q0 t_q1 t_q2 t_q3 t_q4 t_people t_wit t_purse t_hated t_owed) H locs → W p l e (rmD 2) s m args below meth c H locs 0 0 Q (F0 m 86 ls [])) ?_ _ _ hf_ _ _ _ (lv_sub hl [3, 4, 5, 2, 1, 0] rfl) hW
      intro s17 x19 hf hI18 hR18 ls H locs hl hW
      refine lv_iload S.1 S.2.1 dX4_bestLending_86 (lv_at hl 5 rfl) ?_
      refine lv_iload_n S.1 S.2.1 dX4_bestLending_88 rfl (lv_at hl 2 rfl) ?_
      refine lv_icmp_gt (tgt := 131) S.1 S.2.1 dX4_bestLending_89 (by decide) (fun c_ => ?_) (fun c_ => ?_)
      · have hf := it_p c_ hf
        have e_ := hR18 _ (Option.some.inj hf).symm
        exact hE18 _ e_ _ _ _ (lv_sub hl [4] rfl) hW
      · have hf := it_n c_ hf
        refine lv_iload S.1 S.2.1 dX4_bestLending_92 (lv_at hl 5 rfl) ?_
        refine lv_aload_n S.1 S.2.1 dX4_bestLending_94 rfl (lv_at hl 1 rfl) ?_
        refine gfX4_25 S hK hW.1 5 rfl rfl dX4_bestLending_95 ?_
        refine lv_icmp_ge (tgt := 131) S.1 S.2.1 dX4_bestLending_98 (by decide) (fun c_ => ?_) (fun c_ => ?_)
        · have hf := it_p c_ hf
          have e_ := hR18 _ (Option.some.inj hf).symm
          exact hE18 _ e_ _ _ _ (lv_sub hl [4] rfl) hW
        · have hf := it_n c_ hf
          refine lv_aload_n S.1 S.2.1 dX4_bestLending_101 rfl (lv_at hl 0 rfl) ?_
          refine lv_aload_n S.1 S.2.1 dX4_bestLending_102 rfl (lv_at hl 1 rfl) ?_
          refine lv_iload S.1 S.2.1 dX4_bestLending_103 (lv_at hl 5 rfl) ?_
          refine lv_iload_n S.1 S.2.1 dX4_bestLending_105 rfl (lv_at hl 3 rfl) ?_
          obtain ⟨x20, hx20, hf⟩ := bnd_e hf
          refine Rd.cV (c_X4_firstBorrower hx20) S hK hW.1 0 2 rfl rfl kVX4_64 rfl hl.1 [] rfl (Nat.le_of_ble_eq_true rfl) ⟨(Nat.le_of_ble_eq_true rfl), (Nat.le_of_ble_eq_true rfl)⟩ ⟨(Nat.zero_le _), (Nat.zero_le _)⟩ dX4_bestLending_106 ?_
          refine lv_istore (lv' := [(4, .int x20), (0, .ref o_q0), (1, .ref t_q0), (2, .int p2), (3, .int s17.1), (5, .int s17.2.2)]) S.1 S.2.1 dX4_bestLending_109 hl (by decide) rfl (fun ls hl => ?_)
          refine lv_iload S.1 S.2.1 dX4_bestLending_111 (lv_at hl 0 rfl) ?_
          refine lv_bipush (v := 6) S.1 S.2.1 dX4_bestLending_113 bp_6 ?_
          refine lv_icmp_eq (tgt := 125) S.1 S.2.1 dX4_bestLending_115 (by decide) (fun c_ => ?_) (fun c_ => ?_)
          · have hf := it_p c_ hf
            refine q_iinc (w := 1) (lv' := [(5, .int (s17.2.2 + 1)), (4, .int x20), (0, .ref o_q0), (1, .ref t_q0), (2, .int p2), (3, .int s17.1)]) S dX4_bestLending_125 hl (k := 5) rfl ic_1 (by decide) rfl (fun ls hl => ?_)
            refine lv_goto (tgt := 86) S.1 S.2.1 dX4_bestLending_128 (by decide) ?_
            exact hI18 _ (Option.some.inj hf).symm _ _ _ (lv_sub hl [2, 3, 4, 5, 1, 0] rfl) hW
          · have hf := it_n c_ hf
            refine lv_iload_n S.1 S.2.1 dX4_bestLending_118 rfl (lv_at hl 4 rfl) ?_
            refine lv_iconst (v := 1) S.1 S.2.1 dX4_bestLending_119 ic_1 ?_
            refine lv_iload S.1 S.2.1 dX4_bestLending_120 (lv_at hl 0 rfl) ?_
            refine lv_ishl S.1 S.2.1 dX4_bestLending_122 ?_
            refine lv_ior S.1 S.2.1 dX4_bestLending_123 ?_
            refine lv_topi (fun x21 ex21 => ?_)
            have hf := ltn_e hf ex21
            refine lv_istore_n (lv' := [(3, .int x21), (4, .int x20), (0, .ref o_q0), (1, .ref t_q0), (2, .int p2), (5, .int s17.2.2)]) S.1 S.2.1 dX4_bestLending_124 rfl hl (by decide) rfl (fun ls hl => ?_)
            refine q_iinc (w := 1) (lv' := [(5, .int (s17.2.2 + 1)), (3, .int x21), (4, .int x20), (0, .ref o_q0), (1, .ref t_q0), (2, .int p2)]) S dX4_bestLending_125 hl (k := 5) rfl ic_1 (by decide) rfl (fun ls hl => ?_)
            refine lv_goto (tgt := 86) S.1 S.2.1 dX4_bestLending_128 (by decide) ?_
            exact hI18 _ (Option.some.inj hf).symm _ _ _ (lv_sub hl [3, 4, 5, 1, 2, 0] rfl) hW
    · have hf := it_p c_ hf
      refine lv_aload_n S.1 S.2.1 dX4_bestLending_70 rfl (lv_at hl 0 rfl) ?_
      refine gfX4_15 S hK hW.1 0 rfl rfl dX4_bestLending_71 ?_
      refine lv_iconst (v := 0) S.1 S.2.1 dX4_bestLending_74 ic_0 ?_
      obtain ⟨x15, hx15, hf⟩ := bnd_e hf
      refine q_iald S hK hW.1 2 0 rfl rfl hx15 dX4_bestLending_75 ?_
      have e_ := Option.some.inj hf
      subst e_
      exact hret _ _ _ _ dX4_bestLending_76 hW
  refine lp_ind (P := fun (s4 : Int32 × (Nat → Int32)) => ∀ (ls : Array Slot) (H : Heap) (locs : List Loc), lv_has ls 6 [(0, .ref o_q0), (1, .ref t_q0), (2, .int p2), (3, .int s4.1)] → St A s.heap D (wPu g o_q0 o_q1 o_q2 o_q3 o_q4 o_sums s4.2 o_onward o_chances ++ wTw g t_q0 t_q1 t_q2 t_q3 t_q4 t_people t_wit t_purse t_hated t_owed) H locs → W p l e (rmD 2) s m args below meth c H locs 0 0 Q (F0 m 15 ls [])) ?_ _ _ hf_ _ _ _ (lv_sub hl [1, 2, 3, 0] rfl) hW
  intro s4 x6 hf hI5 hR5 ls H locs hl hW
  refine lv_iload_n S.1 S.2.1 dX4_bestLending_15 rfl (lv_at hl 3 rfl) ?_
  refine lv_if_lt (tgt := 65) S.1 S.2.1 dX4_bestLending_16 (by decide) (fun c_ => ?_) (fun c_ => ?_)
  · have hf := it_p c_ hf
    have e_ := hR5 _ (Option.some.inj hf).symm
    exact hE5 _ e_ _ _ _ (lv_sub hl [0, 1, 2] rfl) hW
  · have hf := it_n c_ hf
    refine lv_iconst (v := 0) S.1 S.2.1 dX4_bestLending_19 ic_0 ?_
    refine lv_istore (lv' := [(4, .int (0 : Int32)), (0, .ref o_q0), (1, .ref t_q0), (2, .int p2), (3, .int s4.1)]) S.1 S.2.1 dX4_bestLending_20 hl (by decide) rfl (fun ls hl => ?_)
    obtain ⟨x9, hf_, hk9⟩ := bnd_e hf
    have hE9 : ∀ (v13 : (Nat → Int32)), v13 = x9 → ∀ (ls : Array Slot) (H : Heap) (locs : List Loc), lv_has ls 6 [(0, .ref o_q0), (1, .ref t_q0), (2, .int p2), (3, .int s4.1)] → St A s.heap D (wPu g o_q0 o_q1 o_q2 o_q3 o_q4 o_sums v13 o_onward o_chances ++ wTw g t_q0 t_q1 t_q2 t_q3 t_q4 t_people t_wit t_purse t_hated t_owed) H locs → W p l e (rmD 2) s m args below meth c H locs 0 0 Q (F0 m 59 ls []) := by
      intro v13 e_ ls H locs hl hW
      subst e_
      have hf := hk9
      refine q_iinc (w := (-1)) (lv' := [(3, .int (s4.1 + (-1))), (0, .ref o_q0), (1, .ref t_q0), (2, .int p2)]) S dX4_bestLending_59 hl (k := 3) rfl ic_m1 (by decide) rfl (fun ls hl => ?_)
      refine lv_goto (tgt := 15) S.1 S.2.1 dX4_bestLending_62 (by decide) ?_
      exact hI5 _ (Option.some.inj hf).symm _ _ _ (lv_sub hl [1, 2, 3, 0] rfl) hW
    refine lp_ind (P := fun (s8 : Int32 × (Nat → Int32)) => ∀ (ls : Array Slot) (H : Heap) (locs : List Loc), lv_has ls 6 [(0, .ref o_q0), (1, .ref t_q0), (2, .int p2), (3, .int s4.1), (4, .int s8.1)] → St A s.heap D (wPu g o_q0 o_q1 o_q2 o_q3 o_q4 o_sums s8.2 o_onward o_chances ++ wTw g t_q0 t_q1 t_q2 t_q3 t_q4 t_people t_wit t_purse t_hated t_owed) H locs → W p l e (rmD 2) s m args below meth c H locs 0 0 Q (F0 m 22 ls [])) ?_ _ _ hf_ _ _ _ (lv_sub hl [1, 2, 3, 4, 0] rfl) hW
    intro s8 x10 hf hI9 hR9 ls H locs hl hW
    refine lv_iload S.1 S.2.1 dX4_bestLending_22 (lv_at hl 4 rfl) ?_
    refine lv_iconst (v := 1) S.1 S.2.1 dX4_bestLending_24 ic_1 ?_
    refine lv_aload_n S.1 S.2.1 dX4_bestLending_25 rfl (lv_at hl 1 rfl) ?_
    refine gfX4_25 S hK hW.1 5 rfl rfl dX4_bestLending_26 ?_
    refine lv_ishl S.1 S.2.1 dX4_bestLending_29 ?_
    refine lv_icmp_ge (tgt := 59) S.1 S.2.1 dX4_bestLending_30 (by decide) (fun c_ => ?_) (fun c_ => ?_)
    · have hf := it_p c_ hf
      have e_ := hR9 _ (Option.some.inj hf).symm
      exact hE9 _ e_ _ _ _ (lv_sub hl [0, 1, 2, 3] rfl) hW
    · have hf := it_n c_ hf
      refine lv_aload_n S.1 S.2.1 dX4_bestLending_33 rfl (lv_at hl 0 rfl) ?_
      refine gfX4_15 S hK hW.1 0 rfl rfl dX4_bestLending_34 ?_
      refine lv_bipush (v := 64) S.1 S.2.1 dX4_bestLending_37 bp_64 ?_
      refine lv_iload_n S.1 S.2.1 dX4_bestLending_39 rfl (lv_at hl 3 rfl) ?_
      refine lv_imul S.1 S.2.1 dX4_bestLending_40 ?_
      refine lv_iload S.1 S.2.1 dX4_bestLending_41 (lv_at hl 4 rfl) ?_
      refine lv_iadd S.1 S.2.1 dX4_bestLending_43 ?_
      refine lv_aload_n S.1 S.2.1 dX4_bestLending_44 rfl (lv_at hl 0 rfl) ?_
      refine lv_aload_n S.1 S.2.1 dX4_bestLending_45 rfl (lv_at hl 1 rfl) ?_
      refine lv_iload_n S.1 S.2.1 dX4_bestLending_46 rfl (lv_at hl 3 rfl) ?_
      refine lv_iload S.1 S.2.1 dX4_bestLending_47 (lv_at hl 4 rfl) ?_
      obtain ⟨x11, hx11, hf⟩ := bnd_e hf
      refine Rd.cV (c_X4_mostWorth hx11) S hK hW.1 0 2 rfl rfl kVX4_60 rfl hl.1 [.int (((64 : Int32) * s4.1) + s8.1), .ref o_q2] rfl (Nat.le_of_ble_eq_true rfl) ⟨(Nat.le_of_ble_eq_true rfl), (Nat.le_of_ble_eq_true rfl)⟩ ⟨(Nat.zero_le _), (Nat.zero_le _)⟩ dX4_bestLending_49 ?_
      obtain ⟨x12, hx12, hf⟩ := bnd_e hf
      refine q_iast (ws2 := (wPu g o_q0 o_q1 o_q2 o_q3 o_q4 o_sums x12 o_onward o_chances ++ wTw g t_q0 t_q1 t_q2 t_q3 t_q4 t_people t_wit t_purse t_hated t_owed)) S hK hW 2 0 rfl rfl hx12 rfl dX4_bestLending_52 (fun H locs hW => ?_)
      refine q_iinc (w := 1) (lv' := [(4, .int (s8.1 + 1)), (0, .ref o_q0), (1, .ref t_q0), (2, .int p2), (3, .int s4.1)]) S dX4_bestLending_53 hl (k := 4) rfl ic_1 (by decide) rfl (fun ls hl => ?_)
      refine lv_goto (tgt := 22) S.1 S.2.1 dX4_bestLending_56 (by decide) ?_
      exact hI9 _ (Option.some.inj hf).symm _ _ _ (lv_sub hl [1, 2, 3, 4, 0] rfl) hW
def f_X4_longestOf_L6 (o_table : (Nat → Int32)) (t_people : Int32) (p2 : Int32) (p3 : Int32) (s2 : Int32 × Int32) : Option ((Int32 × Int32) ⊕ (Int32)) := if t_people ≤ s2.2 then some (.inr s2.1) else if ((p2 &&& (p3 ^^^ (-1 : Int32))) &&& (jshl (1 : Int32) s2.2)) = 0 then some (.inl (s2.1, (s2.2 + 1))) else bnd (α := Int32) (rdi 448 o_table (((6 : Int32) * (p3 ||| (jshl (1 : Int32) s2.2))) + s2.2)) (fun x5 => ltn (jmax s2.1 x5) (fun x6 => some (.inl (x6, (s2.2 + 1)))))
def f_X4_longestOf (fu : Nat) (o_table : (Nat → Int32)) (t_people : Int32) (p2 : Int32) (p3 : Int32) : Option (Int32) := bnd (α := Int32) (lp (f_X4_longestOf_L6 o_table t_people p2 p3) fu ((0 : Int32), (0 : Int32))) (fun v7 => some v7)
set_option maxHeartbeats 4000000 in
set_option maxRecDepth 100000 in
theorem c_X4_longestOf {l : Launch} {D : va_G} {g : Nat → ClassId} {fu : Nat} {o_q0 o_q1 o_q2 o_q3 o_q4 t_q0 t_q1 t_q2 t_q3 t_q4 : Nat} {o_sums : (Nat → Int32)} {o_table : (Nat → Int32)} {o_onward : (Nat → Int32)} {o_chances : (Nat → Int64)} {t_people : Int32} {t_wit : (Nat → Int32)} {t_purse : (Nat → Int32)} {t_hated : (Nat → Int32)} {t_owed : (Nat → Int32)} {p2 : Int32} {p3 : Int32} {r : Int32} (hf : f_X4_longestOf fu o_table t_people p2 p3 = some r) : Rd l D (gy g) yX4_longestOf cX4_longestOf 6 (some .int) 1 [.ref o_q0, .ref t_q0, .int p2, .int p3] (wPu g o_q0 o_q1 o_q2 o_q3 o_q4 o_sums o_table o_onward o_chances ++ wTw g t_q0 t_q1 t_q2 t_q3 t_q4 t_people t_wit t_purse t_hated t_owed) (some (.int r)) := by
  refine Rd.ofI (by decide) (Nat.le_of_ble_eq_true rfl) ?_
  intro p e s m args below meth c Q S hK hP hret ls hl
  have hl : lv_has ls 6 [(0, .ref o_q0), (1, .ref t_q0), (2, .int p2), (3, .int p3)] := hl
  refine lv_iconst (v := 0) S.1 S.2.1 dX4_longestOf_0 ic_0 ?_
  refine lv_istore (lv' := [(4, .int (0 : Int32)), (0, .ref o_q0), (1, .ref t_q0), (2, .int p2), (3, .int p3)]) S.1 S.2.1 dX4_longestOf_1 hl (by decide) rfl (fun ls hl => ?_)
  refine lv_iconst (v := 0) S.1 S.2.1 dX4_longestOf_3 ic_0 ?_
  refine lv_istore (lv' := [(5, .int (0 : Int32)), (4, .int (0 : Int32)), (0, .ref o_q0), (1, .ref t_q0), (2, .int p2), (3, .int p3)]) S.1 S.2.1 dX4_longestOf_4 hl (by decide) rfl (fun ls hl => ?_)
  obtain ⟨x3, hf_, hk3⟩ := bnd_e hf
  have hE3 : ∀ (v7 : Int32), v7 = x3 → ∀ (ls : Array Slot), lv_has ls 6 [(4, .int v7)] → W p l e (rmD 1) s m args below meth c s.heap [] 0 0 Q (F0 m 58 ls []) := by
    intro v7 e_ ls hl
    subst e_
    have hf := hk3
    refine lv_iload S.1 S.2.1 dX4_longestOf_58 (lv_at hl 0 rfl) ?_
    have e_ := Option.some.inj hf
    subst e_
    exact hret _ _ dX4_longestOf_60
  refine lp_ind (P := fun (s2 : Int32 × Int32) => ∀ (ls : Array Slot), lv_has ls 6 [(0, .ref o_q0), (1, .ref t_q0), (2, .int p2), (3, .int p3), (4, .int s2.1), (5, .int s2.2)] → W p l e (rmD 1) s m args below meth c s.heap [] 0 0 Q (F0 m 6 ls [])) ?_ _ _ hf_ _ (lv_sub hl [2, 3, 4, 5, 1, 0] rfl)
  intro s2 x4 hf hI3 hR3 ls hl
  refine lv_iload S.1 S.2.1 dX4_longestOf_6 (lv_at hl 5 rfl) ?_
  refine lv_aload_n S.1 S.2.1 dX4_longestOf_8 rfl (lv_at hl 1 rfl) ?_
  refine gfX4_25 S hK hP 5 rfl rfl dX4_longestOf_9 ?_
  refine lv_icmp_ge (tgt := 58) S.1 S.2.1 dX4_longestOf_12 (by decide) (fun c_ => ?_) (fun c_ => ?_)
  · have hf := it_p c_ hf
    have e_ := hR3 _ (Option.some.inj hf).symm
    exact hE3 _ e_ _ (lv_sub hl [4] rfl)
  · have hf := it_n c_ hf
    refine lv_iload_n S.1 S.2.1 dX4_longestOf_15 rfl (lv_at hl 2 rfl) ?_
    refine lv_iload_n S.1 S.2.1 dX4_longestOf_16 rfl (lv_at hl 3 rfl) ?_
    refine lv_iconst (v := (-1)) S.1 S.2.1 dX4_longestOf_17 ic_m1 ?_
    refine lv_ixor S.1 S.2.1 dX4_longestOf_18 ?_
    refine lv_iand S.1 S.2.1 dX4_longestOf_19 ?_
    refine lv_iconst (v := 1) S.1 S.2.1 dX4_longestOf_20 ic_1 ?_
    refine lv_iload S.1 S.2.1 dX4_longestOf_21 (lv_at hl 5 rfl) ?_
    refine lv_ishl S.1 S.2.1 dX4_longestOf_23 ?_
    refine lv_iand S.1 S.2.1 dX4_longestOf_24 ?_
    refine lv_if_eq (tgt := 52) S.1 S.2.1 dX4_longestOf_25 (by decide) (fun c_ => ?_) (fun c_ => ?_)
    · have hf := it_p c_ hf
      refine q_iinc (w := 1) (lv' := [(5, .int (s2.2 + 1)), (0, .ref o_q0), (1, .ref t_q0), (2, .int p2), (3, .int p3), (4, .int s2.1)]) S dX4_longestOf_52 hl (k := 5) rfl ic_1 (by decide) rfl (fun ls hl => ?_)
      refine lv_goto (tgt := 6) S.1 S.2.1 dX4_longestOf_55 (by decide) ?_
      exact hI3 _ (Option.some.inj hf).symm _ (lv_sub hl [1, 2, 3, 4, 5, 0] rfl)
    · have hf := it_n c_ hf
      refine lv_iload S.1 S.2.1 dX4_longestOf_28 (lv_at hl 4 rfl) ?_
      refine lv_aload_n S.1 S.2.1 dX4_longestOf_30 rfl (lv_at hl 0 rfl) ?_
      refine gfX4_15 S hK hP 0 rfl rfl dX4_longestOf_31 ?_
      refine lv_bipush (v := 6) S.1 S.2.1 dX4_longestOf_34 bp_6 ?_
      refine lv_iload_n S.1 S.2.1 dX4_longestOf_36 rfl (lv_at hl 3 rfl) ?_
      refine lv_iconst (v := 1) S.1 S.2.1 dX4_longestOf_37 ic_1 ?_
      refine lv_iload S.1 S.2.1 dX4_longestOf_38 (lv_at hl 5 rfl) ?_
      refine lv_ishl S.1 S.2.1 dX4_longestOf_40 ?_
      refine lv_ior S.1 S.2.1 dX4_longestOf_41 ?_
      refine lv_imul S.1 S.2.1 dX4_longestOf_42 ?_
      refine lv_iload S.1 S.2.1 dX4_longestOf_43 (lv_at hl 5 rfl) ?_
      refine lv_iadd S.1 S.2.1 dX4_longestOf_45 ?_
      obtain ⟨x5, hx5, hf⟩ := bnd_e hf
      refine q_iald S hK hP 2 0 rfl rfl hx5 dX4_longestOf_46 ?_
      refine va_mmax S.1 S.2.1 (S.2.2.1.trans hl.1.symm) S.2.2.2.1 (S.2.2.2.2 _ q_686) (S.2.2.2.2 _ q_658) (S.2.2.2.2 _ q_12) (S.2.2.2.2 _ q_659) (Nat.le_of_ble_eq_true rfl) (Nat.le_of_ble_eq_true rfl) (Nat.zero_le _) (Nat.zero_le _) dX4_longestOf_47 ?_
      refine lv_topi (fun x6 ex6 => ?_)
      have hf := ltn_e hf ex6
      refine lv_istore (lv' := [(4, .int x6), (0, .ref o_q0), (1, .ref t_q0), (2, .int p2), (3, .int p3), (5, .int s2.2)]) S.1 S.2.1 dX4_longestOf_50 hl (by decide) rfl (fun ls hl => ?_)
      refine q_iinc (w := 1) (lv' := [(5, .int (s2.2 + 1)), (4, .int x6), (0, .ref o_q0), (1, .ref t_q0), (2, .int p2), (3, .int p3)]) S dX4_longestOf_52 hl (k := 5) rfl ic_1 (by decide) rfl (fun ls hl => ?_)
      refine lv_goto (tgt := 6) S.1 S.2.1 dX4_longestOf_55 (by decide) ?_
      exact hI3 _ (Option.some.inj hf).symm _ (lv_sub hl [2, 3, 4, 5, 1, 0] rfl)
def f_X4_firstOf_L3 (o_table : (Nat → Int32)) (t_people : Int32) (p2 : Int32) (p3 : Int32) (p4 : Int32) (s2 : Int32) : Option ((Int32) ⊕ ((Int32) ⊕ (Unit))) := if t_people ≤ s2 then some (.inr (.inr ())) else if ((p2 &&& (p3 ^^^ (-1 : Int32))) &&& (jshl (1 : Int32) s2)) = 0 then some (.inl (s2 + 1)) else bnd (α := Int32) (rdi 448 o_table (((6 : Int32) * (p3 ||| (jshl (1 : Int32) s2))) + s2)) (fun x5 => if x5 = p4 then some (.inr (.inl s2)) else some (.inl (s2 + 1)))
def f_X4_firstOf (fu : Nat) (o_table : (Nat → Int32)) (t_people : Int32) (p2 : Int32) (p3 : Int32) (p4 : Int32) : Option (Int32) := bnd (α := (Int32) ⊕ (Unit)) (lp (f_X4_firstOf_L3 o_table t_people p2 p3 p4) fu (0 : Int32)) (fun x3 => cse x3 (fun y7 => some y7) (fun v6 => some (-1 : Int32)))
set_option maxHeartbeats 4000000 in
set_option maxRecDepth 100000 in
theorem c_X4_firstOf {l : Launch} {D : va_G} {g : Nat → ClassId} {fu : Nat} {o_q0 o_q1 o_q2 o_q3 o_q4 t_q0 t_q1 t_q2 t_q3 t_q4 : Nat} {o_sums : (Nat → Int32)} {o_table : (Nat → Int32)} {o_onward : (Nat → Int32)} {o_chances : (Nat → Int64)} {t_people : Int32} {t_wit : (Nat → Int32)} {t_purse : (Nat → Int32)} {t_hated : (Nat → Int32)} {t_owed : (Nat → Int32)} {p2 : Int32} {p3 : Int32} {p4 : Int32} {r : Int32} (hf : f_X4_firstOf fu o_table t_people p2 p3 p4 = some r) : Rd l D (gy g) yX4_firstOf cX4_firstOf 6 (some .int) 0 [.ref o_q0, .ref t_q0, .int p2, .int p3, .int p4] (wPu g o_q0 o_q1 o_q2 o_q3 o_q4 o_sums o_table o_onward o_chances ++ wTw g t_q0 t_q1 t_q2 t_q3 t_q4 t_people t_wit t_purse t_hated t_owed) (some (.int r)) := by
  refine Rd.ofI (by decide) (Nat.le_of_ble_eq_true rfl) ?_
  intro p e s m args below meth c Q S hK hP hret ls hl
  have hl : lv_has ls 6 [(0, .ref o_q0), (1, .ref t_q0), (2, .int p2), (3, .int p3), (4, .int p4)] := hl
  refine lv_iconst (v := 0) S.1 S.2.1 dX4_firstOf_0 ic_0 ?_
  refine lv_istore (lv' := [(5, .int (0 : Int32)), (0, .ref o_q0), (1, .ref t_q0), (2, .int p2), (3, .int p3), (4, .int p4)]) S.1 S.2.1 dX4_firstOf_1 hl (by decide) rfl (fun ls hl => ?_)
  obtain ⟨x3, hf_, hk3⟩ := bnd_e hf
  have hE3 : ∀ (v6 : Unit), x3 = .inr v6 → ∀ (ls : Array Slot), lv_has ls 6 [] → W p l e (rmD 0) s m args below meth c s.heap [] 0 0 Q (F0 m 56 ls []) := by
    intro v6 e_ ls hl
    subst e_
    have hf := cse_r hk3
    refine lv_iconst (v := (-1)) S.1 S.2.1 dX4_firstOf_56 ic_m1 ?_
    have e_ := Option.some.inj hf
    subst e_
    exact hret _ _ dX4_firstOf_57
  refine lp_ind (P := fun (s2 : Int32) => ∀ (ls : Array Slot), lv_has ls 6 [(0, .ref o_q0), (1, .ref t_q0), (2, .int p2), (3, .int p3), (4, .int p4), (5, .int s2)] → W p l e (rmD 0) s m args below meth c s.heap [] 0 0 Q (F0 m 3 ls [])) ?_ _ _ hf_ _ (lv_sub hl [1, 2, 3, 4, 5, 0] rfl)
  intro s2 x4 hf hI3 hR3 ls hl
  refine lv_iload S.1 S.2.1 dX4_firstOf_3 (lv_at hl 5 rfl) ?_
  refine lv_aload_n S.1 S.2.1 dX4_firstOf_5 rfl (lv_at hl 1 rfl) ?_
  refine gfX4_25 S hK hP 5 rfl rfl dX4_firstOf_6 ?_
  refine lv_icmp_ge (tgt := 56) S.1 S.2.1 dX4_firstOf_9 (by decide) (fun c_ => ?_) (fun c_ => ?_)
  · have hf := it_p c_ hf
    have e_ := hR3 _ (Option.some.inj hf).symm
    exact hE3 _ e_.symm _ (lv_sub hl [] rfl)
  · have hf := it_n c_ hf
    refine lv_iload_n S.1 S.2.1 dX4_firstOf_12 rfl (lv_at hl 2 rfl) ?_
    refine lv_iload_n S.1 S.2.1 dX4_firstOf_13 rfl (lv_at hl 3 rfl) ?_
    refine lv_iconst (v := (-1)) S.1 S.2.1 dX4_firstOf_14 ic_m1 ?_
    refine lv_ixor S.1 S.2.1 dX4_firstOf_15 ?_
    refine lv_iand S.1 S.2.1 dX4_firstOf_16 ?_
    refine lv_iconst (v := 1) S.1 S.2.1 dX4_firstOf_17 ic_1 ?_
    refine lv_iload S.1 S.2.1 dX4_firstOf_18 (lv_at hl 5 rfl) ?_
    refine lv_ishl S.1 S.2.1 dX4_firstOf_20 ?_
    refine lv_iand S.1 S.2.1 dX4_firstOf_21 ?_
    refine lv_if_eq (tgt := 50) S.1 S.2.1 dX4_firstOf_22 (by decide) (fun c_ => ?_) (fun c_ => ?_)
    · have hf := it_p c_ hf
      refine q_iinc (w := 1) (lv' := [(5, .int (s2 + 1)), (0, .ref o_q0), (1, .ref t_q0), (2, .int p2), (3, .int p3), (4, .int p4)]) S dX4_firstOf_50 hl (k := 5) rfl ic_1 (by decide) rfl (fun ls hl => ?_)
      refine lv_goto (tgt := 3) S.1 S.2.1 dX4_firstOf_53 (by decide) ?_
      exact hI3 _ (Option.some.inj hf).symm _ (lv_sub hl [1, 2, 3, 4, 5, 0] rfl)
    · have hf := it_n c_ hf
      refine lv_aload_n S.1 S.2.1 dX4_firstOf_25 rfl (lv_at hl 0 rfl) ?_
      refine gfX4_15 S hK hP 0 rfl rfl dX4_firstOf_26 ?_
      refine lv_bipush (v := 6) S.1 S.2.1 dX4_firstOf_29 bp_6 ?_
      refine lv_iload_n S.1 S.2.1 dX4_firstOf_31 rfl (lv_at hl 3 rfl) ?_
      refine lv_iconst (v := 1) S.1 S.2.1 dX4_firstOf_32 ic_1 ?_
      refine lv_iload S.1 S.2.1 dX4_firstOf_33 (lv_at hl 5 rfl) ?_
      refine lv_ishl S.1 S.2.1 dX4_firstOf_35 ?_
      refine lv_ior S.1 S.2.1 dX4_firstOf_36 ?_
      refine lv_imul S.1 S.2.1 dX4_firstOf_37 ?_
      refine lv_iload S.1 S.2.1 dX4_firstOf_38 (lv_at hl 5 rfl) ?_
      refine lv_iadd S.1 S.2.1 dX4_firstOf_40 ?_
      obtain ⟨x5, hx5, hf⟩ := bnd_e hf
      refine q_iald S hK hP 2 0 rfl rfl hx5 dX4_firstOf_41 ?_
      refine lv_iload S.1 S.2.1 dX4_firstOf_42 (lv_at hl 4 rfl) ?_
      refine lv_icmp_ne (tgt := 50) S.1 S.2.1 dX4_firstOf_44 (by decide) (fun c_ => ?_) (fun c_ => ?_)
      · have hf := it_n c_ hf
        refine q_iinc (w := 1) (lv' := [(5, .int (s2 + 1)), (0, .ref o_q0), (1, .ref t_q0), (2, .int p2), (3, .int p3), (4, .int p4)]) S dX4_firstOf_50 hl (k := 5) rfl ic_1 (by decide) rfl (fun ls hl => ?_)
        refine lv_goto (tgt := 3) S.1 S.2.1 dX4_firstOf_53 (by decide) ?_
        exact hI3 _ (Option.some.inj hf).symm _ (lv_sub hl [1, 2, 3, 4, 5, 0] rfl)
      · have hf := it_p c_ hf
        refine lv_iload S.1 S.2.1 dX4_firstOf_47 (lv_at hl 5 rfl) ?_
        have e_ := hR3 _ (Option.some.inj hf).symm
        subst e_
        have hf := cse_l hk3
        have e_ := Option.some.inj hf
        subst e_
        exact hret _ _ dX4_firstOf_49
def f_X4_longestChain_L2 (fu : Nat) (t_people : Int32) (t_owed : (Nat → Int32)) (s2 : Int32 × (Nat → Int32)) : Option ((Int32 × (Nat → Int32)) ⊕ ((Nat → Int32))) := if t_people ≤ s2.1 then some (.inr s2.2) else bnd (α := Int32) (f_X9_creditorsOf fu t_people t_owed s2.1) (fun x5 => bnd (α := (Nat → Int32)) (wri 6 s2.2 s2.1 x5) (fun x6 => some (.inl ((s2.1 + 1), x6))))
def f_X4_longestChain_L43 (fu : Nat) (t_people : Int32) (v7 : (Nat → Int32)) (s10 : Int32 × (Nat → Int32)) (s14 : Int32 × (Nat → Int32)) : Option ((Int32 × (Nat → Int32)) ⊕ ((Nat → Int32))) := if t_people ≤ s14.1 then some (.inr s14.2) else if ((jshr s10.1 s14.1) &&& (1 : Int32)) = 0 then some (.inl ((s14.1 + 1), s14.2)) else bnd (α := Int32) (rdi 6 v7 s14.1) (fun x17 => bnd (α := Int32) (f_X4_longestOf fu s14.2 t_people x17 s10.1) (fun x18 => ltn ((1 : Int32) + x18) (fun x19 => bnd (α := (Nat → Int32)) (wri 448 s14.2 (((6 : Int32) * s10.1) + s14.1) x19) (fun x20 => some (.inl ((s14.1 + 1), x20))))))
def f_X4_longestChain_L36 (fu : Nat) (t_people : Int32) (v7 : (Nat → Int32)) (s10 : Int32 × (Nat → Int32)) : Option ((Int32 × (Nat → Int32)) ⊕ ((Nat → Int32))) := if s10.1 ≤ 0 then some (.inr s10.2) else bnd (α := (Nat → Int32)) (lp (f_X4_longestChain_L43 fu t_people v7 s10) fu ((0 : Int32), s10.2)) (fun v21 => some (.inl ((s10.1 + (-1)), v21)))
def f_X4_longestChain_L156 (fu : Nat) (t_people : Int32) (p2 : Int32) (v7 : (Nat → Int32)) (v22 : (Nat → Int32)) (x24 : Int32) (s27 : Int32 × Int32 × Int32) : Option ((Int32 × Int32 × Int32) ⊕ (Int32)) := if p2 < s27.2.2 then some (.inr s27.2.1) else if s27.2.1 = (-1 : Int32) then some (.inr s27.2.1) else ltn (s27.1 ||| (jshl (1 : Int32) s27.2.1)) (fun x30 => bnd (α := Int32) (rdi 6 v7 s27.2.1) (fun x31 => bnd (α := Int32) (f_X4_firstOf fu v22 t_people x31 x30 (x24 - s27.2.2)) (fun x32 => some (.inl (x30, x32, (s27.2.2 + 1))))))
def f_X4_longestChain (fu : Nat) (o_table : (Nat → Int32)) (o_onward : (Nat → Int32)) (t_people : Int32) (t_owed : (Nat → Int32)) (p2 : Int32) : Option (Int32 × (Nat → Int32) × (Nat → Int32)) := bnd (α := (Nat → Int32)) (lp (f_X4_longestChain_L2 fu t_people t_owed) fu ((0 : Int32), o_onward)) (fun v7 => ltn ((jshl (1 : Int32) t_people) - (1 : Int32)) (fun x8 => bnd (α := (Nat → Int32)) (lp (f_X4_longestChain_L36 fu t_people v7) fu (x8, o_table)) (fun v22 => ltn ((jshl (1 : Int32) t_people) - (1 : Int32)) (fun x23 => bnd (α := Int32) (f_X4_longestOf fu v22 t_people x23 (0 : Int32)) (fun x24 => if p2 = (-1 : Int32) then some (x24, v22, v7) else if p2 < 0 then some ((-1 : Int32), v22, v7) else if p2 < x24 then bnd (α := Int32) (f_X4_firstOf fu v22 t_people x23 (0 : Int32) x24) (fun x25 => bnd (α := Int32) (lp (f_X4_longestChain_L156 fu t_people p2 v7 v22 x24) fu ((0 : Int32), x25, (1 : Int32))) (fun v33 => some (v33, v22, v7))) else some ((-1 : Int32), v22, v7))))))
set_option maxHeartbeats 4000000 in
set_option maxRecDepth 100000 in
theorem c_X4_longestChain {l : Launch} {D : va_G} {g : Nat → ClassId} {fu : Nat} {o_q0 o_q1 o_q2 o_q3 o_q4 t_q0 t_q1 t_q2 t_q3 t_q4 : Nat} {o_sums : (Nat → Int32)} {o_table : (Nat → Int32)} {o_onward : (Nat → Int32)} {o_chances : (Nat → Int64)} {t_people : Int32} {t_wit : (Nat → Int32)} {t_purse : (Nat → Int32)} {t_hated : (Nat → Int32)} {t_owed : (Nat → Int32)} {p2 : Int32} {r : Int32 × (Nat → Int32) × (Nat → Int32)} (hf : f_X4_longestChain fu o_table o_onward t_people t_owed p2 = some r) : Wr l D (gy g) yX4_longestChain cX4_longestChain 8 (some .int) 2 [.ref o_q0, .ref t_q0, .int p2] (wPu g o_q0 o_q1 o_q2 o_q3 o_q4 o_sums o_table o_onward o_chances ++ wTw g t_q0 t_q1 t_q2 t_q3 t_q4 t_people t_wit t_purse t_hated t_owed) (wPu g o_q0 o_q1 o_q2 o_q3 o_q4 o_sums r.2.1 r.2.2 o_chances ++ wTw g t_q0 t_q1 t_q2 t_q3 t_q4 t_people t_wit t_purse t_hated t_owed) (some (.int r.1)) := by
  refine Wr.ofI (by decide) (Nat.le_of_ble_eq_true rfl) ?_
  intro p e s m args below meth c Q A S hK hA hret ls hl hW
  have hl : lv_has ls 8 [(0, .ref o_q0), (1, .ref t_q0), (2, .int p2)] := hl
  refine lv_iconst (v := 0) S.1 S.2.1 dX4_longestChain_0 ic_0 ?_
  refine lv_istore_n (lv' := [(3, .int (0 : Int32)), (0, .ref o_q0), (1, .ref t_q0), (2, .int p2)]) S.1 S.2.1 dX4_longestChain_1 rfl hl (by decide) rfl (fun ls hl => ?_)
  obtain ⟨x3, hf_, hk3⟩ := bnd_e hf
  have hE3 : ∀ (v7 : (Nat → Int32)), v7 = x3 → ∀ (ls : Array Slot) (H : Heap) (locs : List Loc), lv_has ls 8 [(0, .ref o_q0), (1, .ref t_q0), (2, .int p2)] → St A s.heap D (wPu g o_q0 o_q1 o_q2 o_q3 o_q4 o_sums o_table v7 o_chances ++ wTw g t_q0 t_q1 t_q2 t_q3 t_q4 t_people t_wit t_purse t_hated t_owed) H locs → W p l e (rmD 2) s m args below meth c H locs 0 0 Q (F0 m 27 ls []) := by
    intro v7 e_ ls H locs hl hW
    subst e_
    have hf := hk3
    refine lv_iconst (v := 1) S.1 S.2.1 dX4_longestChain_27 ic_1 ?_
    refine lv_aload_n S.1 S.2.1 dX4_longestChain_28 rfl (lv_at hl 1 rfl) ?_
    refine gfX4_25 S hK hW.1 5 rfl rfl dX4_longestChain_29 ?_
    refine lv_ishl S.1 S.2.1 dX4_longestChain_32 ?_
    refine lv_iconst (v := 1) S.1 S.2.1 dX4_longestChain_33 ic_1 ?_
    refine lv_isub S.1 S.2.1 dX4_longestChain_34 ?_
    refine lv_topi (fun x8 ex8 => ?_)
    have hf := ltn_e hf ex8
    refine lv_istore_n (lv' := [(3, .int x8), (0, .ref o_q0), (1, .ref t_q0), (2, .int p2)]) S.1 S.2.1 dX4_longestChain_35 rfl hl (by decide) rfl (fun ls hl => ?_)
    obtain ⟨x11, hf_, hk11⟩ := bnd_e hf
    have hE11 : ∀ (v22 : (Nat → Int32)), v22 = x11 → ∀ (ls : Array Slot) (H : Heap) (locs : List Loc), lv_has ls 8 [(0, .ref o_q0), (1, .ref t_q0), (2, .int p2)] → St A s.heap D (wPu g o_q0 o_q1 o_q2 o_q3 o_q4 o_sums v22 v7 o_chances ++ wTw g t_q0 t_q1 t_q2 t_q3 t_q4 t_people t_wit t_purse t_hated t_owed) H locs → W p l e (rmD 2) s m args below meth c H locs 0 0 Q (F0 m 100 ls []) := by
      intro v22 e_ ls H locs hl hW
      subst e_
      have hf := hk11
      refine lv_iconst (v := 1) S.1 S.2.1 dX4_longestChain_100 ic_1 ?_
      refine lv_aload_n S.1 S.2.1 dX4_longestChain_101 rfl (lv_at hl 1 rfl) ?_
      refine gfX4_25 S hK hW.1 5 rfl rfl dX4_longestChain_102 ?_
      refine lv_ishl S.1 S.2.1 dX4_longestChain_105 ?_
      refine lv_iconst (v := 1) S.1 S.2.1 dX4_longestChain_106 ic_1 ?_
      refine lv_isub S.1 S.2.1 dX4_longestChain_107 ?_
      refine lv_topi (fun x23 ex23 => ?_)
      have hf := ltn_e hf ex23
      refine lv_istore_n (lv' := [(3, .int x23), (0, .ref o_q0), (1, .ref t_q0), (2, .int p2)]) S.1 S.2.1 dX4_longestChain_108 rfl hl (by decide) rfl (fun ls hl => ?_)
      refine lv_aload_n S.1 S.2.1 dX4_longestChain_109 rfl (lv_at hl 1 rfl) ?_
      refine lv_aload_n S.1 S.2.1 dX4_longestChain_110 rfl (lv_at hl 2 rfl) ?_
      refine lv_iload_n S.1 S.2.1 dX4_longestChain_111 rfl (lv_at hl 0 rfl) ?_
      refine lv_iconst (v := 0) S.1 S.2.1 dX4_longestChain_112 ic_0 ?_
      obtain ⟨x24, hx24, hf⟩ := bnd_e hf
      refine Rd.cV (c_X4_longestOf hx24) S hK hW.1 0 2 rfl rfl kVX4_74 rfl hl.1 [] rfl (Nat.le_of_ble_eq_true rfl) ⟨(Nat.le_of_ble_eq_true rfl), (Nat.le_of_ble_eq_true rfl)⟩ ⟨(Nat.zero_le _), (Nat.zero_le _)⟩ dX4_longestChain_113 ?_
      refine lv_istore (lv' := [(4, .int x24), (3, .int x23), (0, .ref o_q0), (1, .ref t_q0), (2, .int p2)]) S.1 S.2.1 dX4_longestChain_116 hl (by decide) rfl (fun ls hl => ?_)
      refine lv_iload_n S.1 S.2.1 dX4_longestChain_118 rfl (lv_at hl 4 rfl) ?_
      refine lv_iconst (v := (-1)) S.1 S.2.1 dX4_longestChain_119 ic_m1 ?_
      refine lv_icmp_ne (tgt := 126) S.1 S.2.1 dX4_longestChain_120 (by decide) (fun c_ => ?_) (fun c_ => ?_)
      · have hf := it_n c_ hf
        refine lv_iload_n S.1 S.2.1 dX4_longestChain_126 rfl (lv_at hl 4 rfl) ?_
        refine lv_if_lt (tgt := 136) S.1 S.2.1 dX4_longestChain_127 (by decide) (fun c_ => ?_) (fun c_ => ?_)
        · have hf := it_p c_ hf
          refine lv_iconst (v := (-1)) S.1 S.2.1 dX4_longestChain_136 ic_m1 ?_
          have e_ := Option.some.inj hf
          subst e_
          exact hret _ _ _ _ dX4_longestChain_137 hW
        · have hf := it_n c_ hf
          refine lv_iload_n S.1 S.2.1 dX4_longestChain_130 rfl (lv_at hl 4 rfl) ?_
          refine lv_iload S.1 S.2.1 dX4_longestChain_131 (lv_at hl 0 rfl) ?_
          refine lv_icmp_lt (tgt := 138) S.1 S.2.1 dX4_longestChain_133 (by decide) (fun c_ => ?_) (fun c_ => ?_)
          · have hf := it_p c_ hf
            refine lv_iconst (v := 0) S.1 S.2.1 dX4_longestChain_138 ic_0 ?_
            refine lv_istore (lv' := [(5, .int (0 : Int32)), (4, .int x24), (3, .int x23), (0, .ref o_q0), (1, .ref t_q0), (2, .int p2)]) S.1 S.2.1 dX4_longestChain_139 hl (by decide) rfl (fun ls hl => ?_)
            refine lv_aload_n S.1 S.2.1 dX4_longestChain_141 rfl (lv_at hl 3 rfl) ?_
            refine lv_aload_n S.1 S.2.1 dX4_longestChain_142 rfl (lv_at hl 4 rfl) ?_
            refine lv_iload_n S.1 S.2.1 dX4_longestChain_143 rfl (lv_at hl 2 rfl) ?_
            refine lv_iload S.1 S.2.1 dX4_longestChain_144 (lv_at hl 0 rfl) ?_
            refine lv_iload S.1 S.2.1 dX4_longestChain_146 (lv_at hl 1 rfl) ?_
            obtain ⟨x25, hx25, hf⟩ := bnd_e hf
            refine Rd.cV (c_X4_firstOf hx25) S hK hW.1 0 2 rfl rfl kVX4_77 rfl hl.1 [] rfl (Nat.le_of_ble_eq_true rfl) ⟨(Nat.le_of_ble_eq_true rfl), (Nat.le_of_ble_eq_true rfl)⟩ ⟨(Nat.zero_le _), (Nat.zero_le _)⟩ dX4_longestChain_148 ?_
            refine lv_istore (lv' := [(6, .int x25), (5, .int (0 : Int32)), (4, .int x24), (3, .int x23), (0, .ref o_q0), (1, .ref t_q0), (2, .int p2)]) S.1 S.2.1 dX4_longestChain_151 hl (by decide) rfl (fun ls hl => ?_)
            refine lv_iconst (v := 1) S.1 S.2.1 dX4_longestChain_153 ic_1 ?_
            refine lv_istore (lv' := [(7, .int (1 : Int32)), (6, .int x25), (5, .int (0 : Int32)), (4, .int x24), (3, .int x23), (0, .ref o_q0), (1, .ref t_q0), (2, .int p2)]) S.1 S.2.1 dX4_longestChain_154 hl (by decide) rfl (fun ls hl => ?_)
            obtain ⟨x28, hf_, hk28⟩ := bnd_e hf
            have hE28 : ∀ (v33 : Int32), v33 = x28 → ∀ (ls : Array Slot) (H : Heap) (locs : List Loc), lv_has ls 8 [(6, .int v33)] → St A s.heap D (wPu g o_q0 o_q1 o_q2 o_q3 o_q4 o_sums v22 v7 o_chances ++ wTw g t_q0 t_q1 t_q2 t_q3 t_q4 t_people t_wit t_purse t_hated t_owed) H locs → W p l e (rmD 2) s m args below meth c H locs 0 0 Q (F0 m 204 ls []) := by
              intro v33 e_ ls H locs hl hW
              subst e_
              have hf := hk28
              refine lv_iload S.1 S.2.1 dX4_longestChain_204 (lv_at hl 0 rfl) ?_
              have e_ := Option.some.inj hf
              subst e_
              exact hret _ _ _ _ dX4_longestChain_206 hW
            refine lp_ind (P := fun (s27 : Int32 × Int32 × Int32) => ∀ (ls : Array Slot) (H : Heap) (locs : List Loc), lv_has ls 8 [(0, .ref o_q0), (1, .ref t_q0), (2, .int p2), (4, .int x24), (5, .int s27.1), (6, .int s27.2.1), (7, .int s27.2.2)] → St A s.heap D (wPu g o_q0 o_q1 o_q2 o_q3 o_q4 o_sums v22 v7 o_chances ++ wTw g t_q0 t_q1 t_q2 t_q3 t_q4 t_people t_wit t_purse t_hated t_owed) H locs → W p l e (rmD 2) s m args below meth c H locs 0 0 Q (F0 m 156 ls [])) ?_ _ _ hf_ _ _ _ (lv_sub hl [5, 6, 7, 3, 2, 1, 0] rfl) hW
            intro s27 x29 hf hI28 hR28 ls H locs hl hW
            refine lv_iload S.1 S.2.1 dX4_longestChain_156 (lv_at hl 6 rfl) ?_
            refine lv_iload_n S.1 S.2.1 dX4_longestChain_158 rfl (lv_at hl 2 rfl) ?_
            refine lv_icmp_gt (tgt := 204) S.1 S.2.1 dX4_longestChain_159 (by decide) (fun c_ => ?_) (fun c_ => ?_)
            · have hf := it_p c_ hf
              have e_ := hR28 _ (Option.some.inj hf).symm
              exact hE28 _ e_ _ _ _ (lv_sub hl [5] rfl) hW
            · have hf := it_n c_ hf
              refine lv_iload S.1 S.2.1 dX4_longestChain_162 (lv_at hl 5 rfl) ?_
              refine lv_iconst (v := (-1)) S.1 S.2.1 dX4_longestChain_164 ic_m1 ?_
              refine lv_icmp_eq (tgt := 204) S.1 S.2.1 dX4_longestChain_165 (by decide) (fun c_ => ?_) (fun c_ => ?_)
              · have hf := it_p c_ hf
                have e_ := hR28 _ (Option.some.inj hf).symm
                exact hE28 _ e_ _ _ _ (lv_sub hl [5] rfl) hW
              · have hf := it_n c_ hf
                refine lv_iload S.1 S.2.1 dX4_longestChain_168 (lv_at hl 4 rfl) ?_
                refine lv_iconst (v := 1) S.1 S.2.1 dX4_longestChain_170 ic_1 ?_
                refine lv_iload S.1 S.2.1 dX4_longestChain_171 (lv_at hl 5 rfl) ?_
                refine lv_ishl S.1 S.2.1 dX4_longestChain_173 ?_
                refine lv_ior S.1 S.2.1 dX4_longestChain_174 ?_
                refine lv_topi (fun x30 ex30 => ?_)
                have hf := ltn_e hf ex30
                refine lv_istore (lv' := [(5, .int x30), (0, .ref o_q0), (1, .ref t_q0), (2, .int p2), (4, .int x24), (6, .int s27.2.1), (7, .int s27.2.2)]) S.1 S.2.1 dX4_longestChain_175 hl (by decide) rfl (fun ls hl => ?_)
                refine lv_aload_n S.1 S.2.1 dX4_longestChain_177 rfl (lv_at hl 1 rfl) ?_
                refine lv_aload_n S.1 S.2.1 dX4_longestChain_178 rfl (lv_at hl 2 rfl) ?_
                refine lv_aload_n S.1 S.2.1 dX4_longestChain_179 rfl (lv_at hl 1 rfl) ?_
                refine gfX4_18 S hK hW.1 0 rfl rfl dX4_longestChain_180 ?_
                refine lv_iload S.1 S.2.1 dX4_longestChain_183 (lv_at hl 5 rfl) ?_
                obtain ⟨x31, hx31, hf⟩ := bnd_e hf
                refine q_iald S hK hW.1 3 0 rfl rfl hx31 dX4_longestChain_185 ?_
                refine lv_iload S.1 S.2.1 dX4_longestChain_186 (lv_at hl 0 rfl) ?_
                refine lv_iload S.1 S.2.1 dX4_longestChain_188 (lv_at hl 4 rfl) ?_
                refine lv_iload S.1 S.2.1 dX4_longestChain_190 (lv_at hl 6 rfl) ?_
                refine lv_isub S.1 S.2.1 dX4_longestChain_192 ?_
                obtain ⟨x32, hx32, hf⟩ := bnd_e hf
                refine Rd.cV (c_X4_firstOf hx32) S hK hW.1 0 2 rfl rfl kVX4_77 rfl hl.1 [] rfl (Nat.le_of_ble_eq_true rfl) ⟨(Nat.le_of_ble_eq_true rfl), (Nat.le_of_ble_eq_true rfl)⟩ ⟨(Nat.zero_le _), (Nat.zero_le _)⟩ dX4_longestChain_193 ?_
                refine lv_istore (lv' := [(6, .int x32), (5, .int x30), (0, .ref o_q0), (1, .ref t_q0), (2, .int p2), (4, .int x24), (7, .int s27.2.2)]) S.1 S.2.1 dX4_longestChain_196 hl (by decide) rfl (fun ls hl => ?_)
                refine q_iinc (w := 1) (lv' := [(7, .int (s27.2.2 + 1)), (6, .int x32), (5, .int x30), (0, .ref o_q0), (1, .ref t_q0), (2, .int p2), (4, .int x24)]) S dX4_longestChain_198 hl (k := 6) rfl ic_1 (by decide) rfl (fun ls hl => ?_)
                refine lv_goto (tgt := 156) S.1 S.2.1 dX4_longestChain_201 (by decide) ?_
                exact hI28 _ (Option.some.inj hf).symm _ _ _ (lv_sub hl [3, 4, 5, 6, 2, 1, 0] rfl) hW
          · have hf := it_n c_ hf
            refine lv_iconst (v := (-1)) S.1 S.2.1 dX4_longestChain_136 ic_m1 ?_
            have e_ := Option.some.inj hf
            subst e_
            exact hret _ _ _ _ dX4_longestChain_137 hW
      · have hf := it_p c_ hf
        refine lv_iload S.1 S.2.1 dX4_longestChain_123 (lv_at hl 0 rfl) ?_
        have e_ := Option.some.inj hf
        subst e_
        exact hret _ _ _ _ dX4_longestChain_125 hW
    refine lp_ind (P := fun (s10 : Int32 × (Nat → Int32)) => ∀ (ls : Array Slot) (H : Heap) (locs : List Loc), lv_has ls 8 [(0, .ref o_q0), (1, .ref t_q0), (2, .int p2), (3, .int s10.1)] → St A s.heap D (wPu g o_q0 o_q1 o_q2 o_q3 o_q4 o_sums s10.2 v7 o_chances ++ wTw g t_q0 t_q1 t_q2 t_q3 t_q4 t_people t_wit t_purse t_hated t_owed) H locs → W p l e (rmD 2) s m args below meth c H locs 0 0 Q (F0 m 36 ls [])) ?_ _ _ hf_ _ _ _ (lv_sub hl [1, 2, 3, 0] rfl) hW
    intro s10 x12 hf hI11 hR11 ls H locs hl hW
    refine lv_iload_n S.1 S.2.1 dX4_longestChain_36 rfl (lv_at hl 3 rfl) ?_
    refine lv_if_le (tgt := 100) S.1 S.2.1 dX4_longestChain_37 (by decide) (fun c_ => ?_) (fun c_ => ?_)
    · have hf := it_p c_ hf
      have e_ := hR11 _ (Option.some.inj hf).symm
      exact hE11 _ e_ _ _ _ (lv_sub hl [0, 1, 2] rfl) hW
    · have hf := it_n c_ hf
      refine lv_iconst (v := 0) S.1 S.2.1 dX4_longestChain_40 ic_0 ?_
      refine lv_istore (lv' := [(4, .int (0 : Int32)), (0, .ref o_q0), (1, .ref t_q0), (2, .int p2), (3, .int s10.1)]) S.1 S.2.1 dX4_longestChain_41 hl (by decide) rfl (fun ls hl => ?_)
      obtain ⟨x15, hf_, hk15⟩ := bnd_e hf
      have hE15 : ∀ (v21 : (Nat → Int32)), v21 = x15 → ∀ (ls : Array Slot) (H : Heap) (locs : List Loc), lv_has ls 8 [(0, .ref o_q0), (1, .ref t_q0), (2, .int p2), (3, .int s10.1)] → St A s.heap D (wPu g o_q0 o_q1 o_q2 o_q3 o_q4 o_sums v21 v7 o_chances ++ wTw g t_q0 t_q1 t_q2 t_q3 t_q4 t_people t_wit t_purse t_hated t_owed) H locs → W p l e (rmD 2) s m args below meth c H locs 0 0 Q (F0 m 94 ls []) := by
        intro v21 e_ ls H locs hl hW
        subst e_
        have hf := hk15
        refine q_iinc (w := (-1)) (lv' := [(3, .int (s10.1 + (-1))), (0, .ref o_q0), (1, .ref t_q0), (2, .int p2)]) S dX4_longestChain_94 hl (k := 3) rfl ic_m1 (by decide) rfl (fun ls hl => ?_)
        refine lv_goto (tgt := 36) S.1 S.2.1 dX4_longestChain_97 (by decide) ?_
        exact hI11 _ (Option.some.inj hf).symm _ _ _ (lv_sub hl [1, 2, 3, 0] rfl) hW
      refine lp_ind (P := fun (s14 : Int32 × (Nat → Int32)) => ∀ (ls : Array Slot) (H : Heap) (locs : List Loc), lv_has ls 8 [(0, .ref o_q0), (1, .ref t_q0), (2, .int p2), (3, .int s10.1), (4, .int s14.1)] → St A s.heap D (wPu g o_q0 o_q1 o_q2 o_q3 o_q4 o_sums s14.2 v7 o_chances ++ wTw g t_q0 t_q1 t_q2 t_q3 t_q4 t_people t_wit t_purse t_hated t_owed) H locs → W p l e (rmD 2) s m args below meth c H locs 0 0 Q (F0 m 43 ls [])) ?_ _ _ hf_ _ _ _ (lv_sub hl [1, 2, 3, 4, 0] rfl) hW
      intro s14 x16 hf hI15 hR15 ls H locs hl hW
      refine lv_iload S.1 S.2.1 dX4_longestChain_43 (lv_at hl 4 rfl) ?_
      refine lv_aload_n S.1 S.2.1 dX4_longestChain_45 rfl (lv_at hl 1 rfl) ?_
      refine gfX4_25 S hK hW.1 5 rfl rfl dX4_longestChain_46 ?_
      refine lv_icmp_ge (tgt := 94) S.1 S.2.1 dX4_longestChain_49 (by decide) (fun c_ => ?_) (fun c_ => ?_)
      · have hf := it_p c_ hf
        have e_ := hR15 _ (Option.some.inj hf).symm
        exact hE15 _ e_ _ _ _ (lv_sub hl [0, 1, 2, 3] rfl) hW
      · have hf := it_n c_ hf
        refine lv_iload_n S.1 S.2.1 dX4_longestChain_52 rfl (lv_at hl 3 rfl) ?_
        refine lv_iload S.1 S.2.1 dX4_longestChain_53 (lv_at hl 4 rfl) ?_
        refine lv_ishr S.1 S.2.1 dX4_longestChain_55 ?_
        refine lv_iconst (v := 1) S.1 S.2.1 dX4_longestChain_56 ic_1 ?_
        refine lv_iand S.1 S.2.1 dX4_longestChain_57 ?_
        refine lv_if_eq (tgt := 88) S.1 S.2.1 dX4_longestChain_58 (by decide) (fun c_ => ?_) (fun c_ => ?_)
        · have hf := it_p c_ hf
          refine q_iinc (w := 1) (lv' := [(4, .int (s14.1 + 1)), (0, .ref o_q0), (1, .ref t_q0), (2, .int p2), (3, .int s10.1)]) S dX4_longestChain_88 hl (k := 4) rfl ic_1 (by decide) rfl (fun ls hl => ?_)
          refine lv_goto (tgt := 43) S.1 S.2.1 dX4_longestChain_91 (by decide) ?_
          exact hI15 _ (Option.some.inj hf).symm _ _ _ (lv_sub hl [1, 2, 3, 4, 0] rfl) hW
        · have hf := it_n c_ hf
          refine lv_aload_n S.1 S.2.1 dX4_longestChain_61 rfl (lv_at hl 0 rfl) ?_
          refine gfX4_15 S hK hW.1 0 rfl rfl dX4_longestChain_62 ?_
          refine lv_bipush (v := 6) S.1 S.2.1 dX4_longestChain_65 bp_6 ?_
          refine lv_iload_n S.1 S.2.1 dX4_longestChain_67 rfl (lv_at hl 3 rfl) ?_
          refine lv_imul S.1 S.2.1 dX4_longestChain_68 ?_
          refine lv_iload S.1 S.2.1 dX4_longestChain_69 (lv_at hl 4 rfl) ?_
          refine lv_iadd S.1 S.2.1 dX4_longestChain_71 ?_
          refine lv_iconst (v := 1) S.1 S.2.1 dX4_longestChain_72 ic_1 ?_
          refine lv_aload_n S.1 S.2.1 dX4_longestChain_73 rfl (lv_at hl 0 rfl) ?_
          refine lv_aload_n S.1 S.2.1 dX4_longestChain_74 rfl (lv_at hl 1 rfl) ?_
          refine lv_aload_n S.1 S.2.1 dX4_longestChain_75 rfl (lv_at hl 0 rfl) ?_
          refine gfX4_18 S hK hW.1 0 rfl rfl dX4_longestChain_76 ?_
          refine lv_iload S.1 S.2.1 dX4_longestChain_79 (lv_at hl 4 rfl) ?_
          obtain ⟨x17, hx17, hf⟩ := bnd_e hf
          refine q_iald S hK hW.1 3 0 rfl rfl hx17 dX4_longestChain_81 ?_
          refine lv_iload_n S.1 S.2.1 dX4_longestChain_82 rfl (lv_at hl 3 rfl) ?_
          obtain ⟨x18, hx18, hf⟩ := bnd_e hf
          refine Rd.cV (c_X4_longestOf hx18) S hK hW.1 0 2 rfl rfl kVX4_74 rfl hl.1 [.int (1 : Int32), .int (((6 : Int32) * s10.1) + s14.1), .ref o_q2] rfl (Nat.le_of_ble_eq_true rfl) ⟨(Nat.le_of_ble_eq_true rfl), (Nat.le_of_ble_eq_true rfl)⟩ ⟨(Nat.zero_le _), (Nat.zero_le _)⟩ dX4_longestChain_83 ?_
          refine lv_iadd S.1 S.2.1 dX4_longestChain_86 ?_
          refine lv_topi (fun x19 ex19 => ?_)
          have hf := ltn_e hf ex19
          obtain ⟨x20, hx20, hf⟩ := bnd_e hf
          refine q_iast (ws2 := (wPu g o_q0 o_q1 o_q2 o_q3 o_q4 o_sums x20 v7 o_chances ++ wTw g t_q0 t_q1 t_q2 t_q3 t_q4 t_people t_wit t_purse t_hated t_owed)) S hK hW 2 0 rfl rfl hx20 rfl dX4_longestChain_87 (fun H locs hW => ?_)
          refine q_iinc (w := 1) (lv' := [(4, .int (s14.1 + 1)), (0, .ref o_q0), (1, .ref t_q0), (2, .int p2), (3, .int s10.1)]) S dX4_longestChain_88 hl (k := 4) rfl ic_1 (by decide) rfl (fun ls hl => ?_)
          refine lv_goto (tgt := 43) S.1 S.2.1 dX4_longestChain_91 (by decide) ?_
          exact hI15 _ (Option.some.inj hf).symm _ _ _ (lv_sub hl [1, 2, 3, 4, 0] rfl) hW
  refine lp_ind (P := fun (s2 : Int32 × (Nat → Int32)) => ∀ (ls : Array Slot) (H : Heap) (locs : List Loc), lv_has ls 8 [(0, .ref o_q0), (1, .ref t_q0), (2, .int p2), (3, .int s2.1)] → St A s.heap D (wPu g o_q0 o_q1 o_q2 o_q3 o_q4 o_sums o_table s2.2 o_chances ++ wTw g t_q0 t_q1 t_q2 t_q3 t_q4 t_people t_wit t_purse t_hated t_owed) H locs → W p l e (rmD 2) s m args below meth c H locs 0 0 Q (F0 m 2 ls [])) ?_ _ _ hf_ _ _ _ (lv_sub hl [1, 2, 3, 0] rfl) hW
  intro s2 x4 hf hI3 hR3 ls H locs hl hW
  refine lv_iload_n S.1 S.2.1 dX4_longestChain_2 rfl (lv_at hl 3 rfl) ?_
  refine lv_aload_n S.1 S.2.1 dX4_longestChain_3 rfl (lv_at hl 1 rfl) ?_
  refine gfX4_25 S hK hW.1 5 rfl rfl dX4_longestChain_4 ?_
  refine lv_icmp_ge (tgt := 27) S.1 S.2.1 dX4_longestChain_7 (by decide) (fun c_ => ?_) (fun c_ => ?_)
  · have hf := it_p c_ hf
    have e_ := hR3 _ (Option.some.inj hf).symm
    exact hE3 _ e_ _ _ _ (lv_sub hl [0, 1, 2] rfl) hW
  · have hf := it_n c_ hf
    refine lv_aload_n S.1 S.2.1 dX4_longestChain_10 rfl (lv_at hl 0 rfl) ?_
    refine gfX4_18 S hK hW.1 0 rfl rfl dX4_longestChain_11 ?_
    refine lv_iload_n S.1 S.2.1 dX4_longestChain_14 rfl (lv_at hl 3 rfl) ?_
    refine lv_aload_n S.1 S.2.1 dX4_longestChain_15 rfl (lv_at hl 1 rfl) ?_
    refine lv_iload_n S.1 S.2.1 dX4_longestChain_16 rfl (lv_at hl 3 rfl) ?_
    obtain ⟨x5, hx5, hf⟩ := bnd_e hf
    refine Rd.cV (c_X9_creditorsOf hx5) S hK (hW.1.sub (ws' := (wTw g t_q0 t_q1 t_q2 t_q3 t_q4 t_people t_wit t_purse t_hated t_owed)) [5, 6, 7, 8, 9] rfl) 0 7 rfl rfl kVX4_71 rfl hl.1 [.int s2.1, .ref o_q3] rfl (Nat.le_of_ble_eq_true rfl) ⟨(Nat.le_of_ble_eq_true rfl), (Nat.le_of_ble_eq_true rfl)⟩ ⟨(Nat.zero_le _), (Nat.zero_le _)⟩ dX4_longestChain_17 ?_
    obtain ⟨x6, hx6, hf⟩ := bnd_e hf
    refine q_iast (ws2 := (wPu g o_q0 o_q1 o_q2 o_q3 o_q4 o_sums o_table x6 o_chances ++ wTw g t_q0 t_q1 t_q2 t_q3 t_q4 t_people t_wit t_purse t_hated t_owed)) S hK hW 3 0 rfl rfl hx6 rfl dX4_longestChain_20 (fun H locs hW => ?_)
    refine q_iinc (w := 1) (lv' := [(3, .int (s2.1 + 1)), (0, .ref o_q0), (1, .ref t_q0), (2, .int p2)]) S dX4_longestChain_21 hl (k := 3) rfl ic_1 (by decide) rfl (fun ls hl => ?_)
    refine lv_goto (tgt := 2) S.1 S.2.1 dX4_longestChain_24 (by decide) ?_
    exact hI3 _ (Option.some.inj hf).symm _ _ _ (lv_sub hl [1, 2, 3, 0] rfl) hW
def f_J7_fill_d0a16_L6 (p2 : Int64) (x1 : Int32) (p1_n : Nat) (s3 : Int32 × (Nat → Int64)) : Option ((Int32 × (Nat → Int64)) ⊕ ((Nat → Int64))) := if x1 ≤ s3.1 then some (.inr s3.2) else bnd (α := (Nat → Int64)) (wrl p1_n s3.2 s3.1 p2) (fun x6 => some (.inl ((s3.1 + 1), x6)))
def f_J7_fill_d0a16 (fu : Nat) (p1_n : Nat) (p1_f : (Nat → Int64)) (p2 : Int64) : Option ((Nat → Int64)) := ltn (nI p1_n) (fun x1 => bnd (α := (Nat → Int64)) (lp (f_J7_fill_d0a16_L6 p2 x1 p1_n) fu ((0 : Int32), p1_f)) (fun v7 => some v7))
set_option maxHeartbeats 4000000 in
set_option maxRecDepth 100000 in
theorem c_J7_fill_d0a16 {l : Launch} {D : va_G} {g : Nat → ClassId} {fu : Nat} {p1_q0 : Nat} {p1_n : Nat} {p1_f : (Nat → Int64)} {p2 : Int64} {r : (Nat → Int64)} (hf : f_J7_fill_d0a16 fu p1_n p1_f p2 = some r) : Wr l D (gy g) yJ7_fill_d0a16 cJ7_fill_d0a16 5 none 0 [.ref p1_q0, .long p2] (wAJ g p1_q0 p1_n p1_f) (wAJ g p1_q0 p1_n r) none := by
  refine Wr.ofV (by decide) (Nat.le_of_ble_eq_true rfl) ?_
  intro p e s m args below meth c Q A S hK hA hret ls hl hW
  have hl : lv_has ls 5 [(0, .ref p1_q0), (1, .long p2)] := hl
  refine lv_iconst (v := 0) S.1 S.2.1 dJ7_fill_d0a16_0 ic_0 ?_
  refine lv_istore_n (lv' := [(3, .int (0 : Int32)), (0, .ref p1_q0), (1, .long p2)]) S.1 S.2.1 dJ7_fill_d0a16_1 rfl hl (by decide) rfl (fun ls hl => ?_)
  refine lv_aload_n S.1 S.2.1 dJ7_fill_d0a16_2 rfl (lv_at hl 1 rfl) ?_
  refine q_alen S hK hW.1 0 2 rfl rfl (v := (nI p1_n)) rfl dJ7_fill_d0a16_3 ?_
  refine lv_topi (fun x1 ex1 => ?_)
  have hf := ltn_e hf ex1
  refine lv_istore (lv' := [(4, .int x1), (3, .int (0 : Int32)), (0, .ref p1_q0), (1, .long p2)]) S.1 S.2.1 dJ7_fill_d0a16_4 hl (by decide) rfl (fun ls hl => ?_)
  obtain ⟨x4, hf_, hk4⟩ := bnd_e hf
  have hE4 : ∀ (v7 : (Nat → Int64)), v7 = x4 → ∀ (ls : Array Slot) (H : Heap) (locs : List Loc), lv_has ls 5 [] → St A s.heap D (wAJ g p1_q0 p1_n v7) H locs → W p l e (rmD 0) s m args below meth c H locs 0 0 Q (F0 m 22 ls []) := by
    intro v7 e_ ls H locs hl hW
    subst e_
    have hf := hk4
    have e_ := Option.some.inj hf
    subst e_
    exact hret _ _ _ _ dJ7_fill_d0a16_22 hW
  refine lp_ind (P := fun (s3 : Int32 × (Nat → Int64)) => ∀ (ls : Array Slot) (H : Heap) (locs : List Loc), lv_has ls 5 [(0, .ref p1_q0), (1, .long p2), (3, .int s3.1), (4, .int x1)] → St A s.heap D (wAJ g p1_q0 p1_n s3.2) H locs → W p l e (rmD 0) s m args below meth c H locs 0 0 Q (F0 m 6 ls [])) ?_ _ _ hf_ _ _ _ (lv_sub hl [2, 3, 1, 0] rfl) hW
  intro s3 x5 hf hI4 hR4 ls H locs hl hW
  refine lv_iload_n S.1 S.2.1 dJ7_fill_d0a16_6 rfl (lv_at hl 2 rfl) ?_
  refine lv_iload S.1 S.2.1 dJ7_fill_d0a16_7 (lv_at hl 3 rfl) ?_
  refine lv_icmp_ge (tgt := 22) S.1 S.2.1 dJ7_fill_d0a16_9 (by decide) (fun c_ => ?_) (fun c_ => ?_)
  · have hf := it_p c_ hf
    have e_ := hR4 _ (Option.some.inj hf).symm
    exact hE4 _ e_ _ _ _ (lv_sub hl [] rfl) hW
  · have hf := it_n c_ hf
    refine lv_aload_n S.1 S.2.1 dJ7_fill_d0a16_12 rfl (lv_at hl 0 rfl) ?_
    refine lv_iload_n S.1 S.2.1 dJ7_fill_d0a16_13 rfl (lv_at hl 2 rfl) ?_
    refine lv_lload_n S.1 S.2.1 dJ7_fill_d0a16_14 rfl (lv_at hl 1 rfl) ?_
    obtain ⟨x6, hx6, hf⟩ := bnd_e hf
    refine q_last (ws2 := (wAJ g p1_q0 p1_n x6)) S hK hW 0 2 rfl rfl hx6 rfl dJ7_fill_d0a16_15 (fun H locs hW => ?_)
    refine q_iinc (w := 1) (lv' := [(3, .int (s3.1 + 1)), (0, .ref p1_q0), (1, .long p2), (4, .int x1)]) S dJ7_fill_d0a16_16 hl (k := 2) rfl ic_1 (by decide) rfl (fun ls hl => ?_)
    refine lv_goto (tgt := 6) S.1 S.2.1 dJ7_fill_d0a16_19 (by decide) ?_
    exact hI4 _ (Option.some.inj hf).symm _ _ _ (lv_sub hl [1, 2, 0, 3] rfl) hW
def f_X4_oddsOfTalk_L46 (p2 : Int32) (s9 : Int32 × (Nat → Int64)) : Option ((Int32 × (Nat → Int64)) ⊕ ((Nat → Int64))) := if s9.1 ≤ 0 then some (.inr s9.2) else bnd (α := Int64) (rdl 13 s9.2 s9.1) (fun x12 => bnd (α := Int64) (rdl 13 s9.2 (s9.1 - (1 : Int32))) (fun x13 => ltn ((x12 * ((((10 : Int32) - p2)).toInt64)) + (x13 * (p2.toInt64))) (fun x14 => bnd (α := (Nat → Int64)) (wrl 13 s9.2 s9.1 x14) (fun x15 => some (.inl ((s9.1 + (-1)), x15))))))
def f_X4_oddsOfTalk_L21 (fu : Nat) (p2 : Int32) (p3 : Int32) (s4 : Int64 × Int32 × (Nat → Int64)) : Option ((Int64 × Int32 × (Nat → Int64)) ⊕ (Int64 × (Nat → Int64))) := if p3 < s4.2.1 then some (.inr (s4.1, s4.2.2)) else if (12 : Int32) < s4.2.1 then some (.inr (s4.1, s4.2.2)) else ltn (s4.1 * (10 : Int64)) (fun x7 => bnd (α := (Nat → Int64)) (lp (f_X4_oddsOfTalk_L46 p2) fu (s4.2.1, s4.2.2)) (fun v16 => ltn (0 : Int32) (fun x17 => bnd (α := Int64) (rdl 13 v16 x17) (fun x18 => ltn (x18 * ((((10 : Int32) - p2)).toInt64)) (fun x19 => bnd (α := (Nat → Int64)) (wrl 13 v16 x17 x19) (fun x20 => some (.inl (x7, (s4.2.1 + 1), x20))))))))
def f_X4_oddsOfTalk_L116 (p3 : Int32) (v21 : Int64 × (Nat → Int64)) (s23 : Int64 × Int32) : Option ((Int64 × Int32) ⊕ (Int64)) := if p3 < s23.2 then some (.inr s23.1) else if (12 : Int32) < s23.2 then some (.inr s23.1) else if 0 ≤ s23.2 then bnd (α := Int64) (rdl 13 v21.2 s23.2) (fun x26 => ltn (s23.1 + x26) (fun x27 => some (.inl (x27, (s23.2 + 1))))) else ltn (s23.1 + (0 : Int64)) (fun x28 => some (.inl (x28, (s23.2 + 1))))
def f_X4_oddsOfTalk (fu : Nat) (o_chances : (Nat → Int64)) (p1 : Int32) (p2 : Int32) (p3 : Int32) (p4 : Int32) : Option (Int64 × (Nat → Int64)) := bnd (α := (Nat → Int64)) (f_J7_fill_d0a16 fu 13 o_chances (0 : Int64)) (fun x1 => bnd (α := (Nat → Int64)) (wrl 13 x1 (0 : Int32) (1 : Int64)) (fun x2 => bnd (α := Int64 × (Nat → Int64)) (lp (f_X4_oddsOfTalk_L21 fu p2 p3) fu ((1 : Int64), (1 : Int32), x2)) (fun v21 => bnd (α := Int64) (lp (f_X4_oddsOfTalk_L116 p3 v21) fu ((0 : Int64), p1)) (fun v29 => bnd (α := Int64) (f_X3_lowest fu v29 v21.1 p4) (fun x30 => some (x30, v21.2))))))
set_option maxHeartbeats 4000000 in
set_option maxRecDepth 100000 in
theorem c_X4_oddsOfTalk {l : Launch} {D : va_G} {g : Nat → ClassId} {fu : Nat} {o_q0 o_q1 o_q2 o_q3 o_q4 : Nat} {o_sums : (Nat → Int32)} {o_table : (Nat → Int32)} {o_onward : (Nat → Int32)} {o_chances : (Nat → Int64)} {p1 : Int32} {p2 : Int32} {p3 : Int32} {p4 : Int32} {r : Int64 × (Nat → Int64)} (hf : f_X4_oddsOfTalk fu o_chances p1 p2 p3 p4 = some r) : Wr l D (gy g) yX4_oddsOfTalk cX4_oddsOfTalk 10 (some .long) 1 [.ref o_q0, .int p1, .int p2, .int p3, .int p4] (wPu g o_q0 o_q1 o_q2 o_q3 o_q4 o_sums o_table o_onward o_chances) (wPu g o_q0 o_q1 o_q2 o_q3 o_q4 o_sums o_table o_onward r.2) (some (.long r.1)) := by
  refine Wr.ofL (by decide) (Nat.le_of_ble_eq_true rfl) ?_
  intro p e s m args below meth c Q A S hK hA hret ls hl hW
  have hl : lv_has ls 10 [(0, .ref o_q0), (1, .int p1), (2, .int p2), (3, .int p3), (4, .int p4)] := hl
  refine lv_aload_n S.1 S.2.1 dX4_oddsOfTalk_0 rfl (lv_at hl 0 rfl) ?_
  refine gfX4_21 S hK hW.1 0 rfl rfl dX4_oddsOfTalk_1 ?_
  refine lv_lconst (v := 0) S.1 S.2.1 dX4_oddsOfTalk_4 rfl ?_
  obtain ⟨x1, hx1, hf⟩ := bnd_e hf
  refine Wr.go (ws2 := (wPu g o_q0 o_q1 o_q2 o_q3 o_q4 o_sums o_table o_onward x1)) (Wr.runS (c_J7_fill_d0a16 hx1) S hK (hW.1.sub (ws' := (wAJ g o_q4 13 o_chances)) [4] rfl) (hW.2.1.sub (ws' := (wAJ g o_q4 13 o_chances)) [4] (by decide) rfl) kSX4_80 rfl hl.1 [] rfl (Nat.le_of_ble_eq_true rfl) ⟨(Nat.le_of_ble_eq_true rfl), (Nat.le_of_ble_eq_true rfl)⟩ ⟨(Nat.zero_le _), (Nat.zero_le _)⟩ dX4_oddsOfTalk_5) hW hA [4] rfl [(false, 0), (false, 1), (false, 2), (false, 3), (true, 0)] rfl (by decide) rfl (fun H locs hW => ?_)
  refine lv_aload_n S.1 S.2.1 dX4_oddsOfTalk_8 rfl (lv_at hl 0 rfl) ?_
  refine gfX4_21 S hK hW.1 0 rfl rfl dX4_oddsOfTalk_9 ?_
  refine lv_iconst (v := 0) S.1 S.2.1 dX4_oddsOfTalk_12 ic_0 ?_
  refine lv_lconst (v := 1) S.1 S.2.1 dX4_oddsOfTalk_13 rfl ?_
  obtain ⟨x2, hx2, hf⟩ := bnd_e hf
  refine q_last (ws2 := (wPu g o_q0 o_q1 o_q2 o_q3 o_q4 o_sums o_table o_onward x2)) S hK hW 4 2 rfl rfl hx2 rfl dX4_oddsOfTalk_14 (fun H locs hW => ?_)
  refine lv_lconst (v := 1) S.1 S.2.1 dX4_oddsOfTalk_15 rfl ?_
  refine lv_lstore (lv' := [(5, .long (1 : Int64)), (0, .ref o_q0), (1, .int p1), (2, .int p2), (3, .int p3), (4, .int p4)]) S.1 S.2.1 dX4_oddsOfTalk_16 hl (by decide) rfl (fun ls hl => ?_)
  refine lv_iconst (v := 1) S.1 S.2.1 dX4_oddsOfTalk_18 ic_1 ?_
  refine lv_istore (lv' := [(7, .int (1 : Int32)), (5, .long (1 : Int64)), (0, .ref o_q0), (1, .int p1), (2, .int p2), (3, .int p3), (4, .int p4)]) S.1 S.2.1 dX4_oddsOfTalk_19 hl (by decide) rfl (fun ls hl => ?_)
  obtain ⟨x5, hf_, hk5⟩ := bnd_e hf
  have hE5 : ∀ (v21 : Int64 × (Nat → Int64)), v21 = x5 → ∀ (ls : Array Slot) (H : Heap) (locs : List Loc), lv_has ls 10 [(0, .ref o_q0), (1, .int p1), (3, .int p3), (4, .int p4), (5, .long v21.1)] → St A s.heap D (wPu g o_q0 o_q1 o_q2 o_q3 o_q4 o_sums o_table o_onward v21.2) H locs → W p l e (rmD 1) s m args below meth c H locs 0 0 Q (F0 m 110 ls []) := by
    intro v21 e_ ls H locs hl hW
    subst e_
    have hf := hk5
    refine lv_lconst (v := 0) S.1 S.2.1 dX4_oddsOfTalk_110 rfl ?_
    refine lv_lstore (lv' := [(7, .long (0 : Int64)), (0, .ref o_q0), (1, .int p1), (3, .int p3), (4, .int p4), (5, .long v21.1)]) S.1 S.2.1 dX4_oddsOfTalk_111 hl (by decide) rfl (fun ls hl => ?_)
    refine lv_iload_n S.1 S.2.1 dX4_oddsOfTalk_113 rfl (lv_at hl 2 rfl) ?_
    refine lv_istore (lv' := [(9, .int p1), (7, .long (0 : Int64)), (0, .ref o_q0), (1, .int p1), (3, .int p3), (4, .int p4), (5, .long v21.1)]) S.1 S.2.1 dX4_oddsOfTalk_114 hl (by decide) rfl (fun ls hl => ?_)
    obtain ⟨x24, hf_, hk24⟩ := bnd_e hf
    have hE24 : ∀ (v29 : Int64), v29 = x24 → ∀ (ls : Array Slot) (H : Heap) (locs : List Loc), lv_has ls 10 [(4, .int p4), (5, .long v21.1), (7, .long v29)] → St A s.heap D (wPu g o_q0 o_q1 o_q2 o_q3 o_q4 o_sums o_table o_onward v21.2) H locs → W p l e (rmD 1) s m args below meth c H locs 0 0 Q (F0 m 156 ls []) := by
      intro v29 e_ ls H locs hl hW
      subst e_
      have hf := hk24
      refine lv_lload S.1 S.2.1 dX4_oddsOfTalk_156 (lv_at hl 2 rfl) ?_
      refine lv_lload S.1 S.2.1 dX4_oddsOfTalk_158 (lv_at hl 1 rfl) ?_
      refine lv_iload S.1 S.2.1 dX4_oddsOfTalk_160 (lv_at hl 0 rfl) ?_
      obtain ⟨x30, hx30, hf⟩ := bnd_e hf
      refine Rd.cS (c_X3_lowest hx30) S hK va_P.nil kSX4_85 rfl hl.1 [] rfl (Nat.le_of_ble_eq_true rfl) ⟨(Nat.le_of_ble_eq_true rfl), (Nat.le_of_ble_eq_true rfl)⟩ ⟨(Nat.zero_le _), (Nat.zero_le _)⟩ dX4_oddsOfTalk_162 ?_
      have e_ := Option.some.inj hf
      subst e_
      exact hret _ _ _ _ dX4_oddsOfTalk_165 hW
    refine lp_ind (P := fun (s23 : Int64 × Int32) => ∀ (ls : Array Slot) (H : Heap) (locs : List Loc), lv_has ls 10 [(0, .ref o_q0), (3, .int p3), (4, .int p4), (5, .long v21.1), (7, .long s23.1), (9, .int s23.2)] → St A s.heap D (wPu g o_q0 o_q1 o_q2 o_q3 o_q4 o_sums o_table o_onward v21.2) H locs → W p l e (rmD 1) s m args below meth c H locs 0 0 Q (F0 m 116 ls [])) ?_ _ _ hf_ _ _ _ (lv_sub hl [2, 4, 5, 6, 1, 0] rfl) hW
    intro s23 x25 hf hI24 hR24 ls H locs hl hW
    refine lv_iload S.1 S.2.1 dX4_oddsOfTalk_116 (lv_at hl 5 rfl) ?_
    refine lv_iload_n S.1 S.2.1 dX4_oddsOfTalk_118 rfl (lv_at hl 1 rfl) ?_
    refine lv_icmp_gt (tgt := 156) S.1 S.2.1 dX4_oddsOfTalk_119 (by decide) (fun c_ => ?_) (fun c_ => ?_)
    · have hf := it_p c_ hf
      have e_ := hR24 _ (Option.some.inj hf).symm
      exact hE24 _ e_ _ _ _ (lv_sub hl [2, 3, 4] rfl) hW
    · have hf := it_n c_ hf
      refine lv_iload S.1 S.2.1 dX4_oddsOfTalk_122 (lv_at hl 5 rfl) ?_
      refine lv_bipush (v := 12) S.1 S.2.1 dX4_oddsOfTalk_124 bp_12 ?_
      refine lv_icmp_gt (tgt := 156) S.1 S.2.1 dX4_oddsOfTalk_126 (by decide) (fun c_ => ?_) (fun c_ => ?_)
      · have hf := it_p c_ hf
        have e_ := hR24 _ (Option.some.inj hf).symm
        exact hE24 _ e_ _ _ _ (lv_sub hl [2, 3, 4] rfl) hW
      · have hf := it_n c_ hf
        refine lv_lload S.1 S.2.1 dX4_oddsOfTalk_129 (lv_at hl 4 rfl) ?_
        refine lv_iload S.1 S.2.1 dX4_oddsOfTalk_131 (lv_at hl 5 rfl) ?_
        refine lv_if_ge (tgt := 140) S.1 S.2.1 dX4_oddsOfTalk_133 (by decide) (fun c_ => ?_) (fun c_ => ?_)
        · have hf := it_p c_ hf
          refine lv_aload_n S.1 S.2.1 dX4_oddsOfTalk_140 rfl (lv_at hl 0 rfl) ?_
          refine gfX4_21 S hK hW.1 0 rfl rfl dX4_oddsOfTalk_141 ?_
          refine lv_iload S.1 S.2.1 dX4_oddsOfTalk_144 (lv_at hl 5 rfl) ?_
          obtain ⟨x26, hx26, hf⟩ := bnd_e hf
          refine q_lald S hK hW.1 4 2 rfl rfl hx26 dX4_oddsOfTalk_146 ?_
          refine lv_ladd S.1 S.2.1 dX4_oddsOfTalk_147 ?_
          refine lv_topl (fun x27 ex27 => ?_)
          have hf := ltn_e hf ex27
          refine lv_lstore (lv' := [(7, .long x27), (0, .ref o_q0), (3, .int p3), (4, .int p4), (5, .long v21.1), (9, .int s23.2)]) S.1 S.2.1 dX4_oddsOfTalk_148 hl (by decide) rfl (fun ls hl => ?_)
          refine q_iinc (w := 1) (lv' := [(9, .int (s23.2 + 1)), (7, .long x27), (0, .ref o_q0), (3, .int p3), (4, .int p4), (5, .long v21.1)]) S dX4_oddsOfTalk_150 hl (k := 5) rfl ic_1 (by decide) rfl (fun ls hl => ?_)
          refine lv_goto (tgt := 116) S.1 S.2.1 dX4_oddsOfTalk_153 (by decide) ?_
          exact hI24 _ (Option.some.inj hf).symm _ _ _ (lv_sub hl [2, 3, 4, 5, 1, 0] rfl) hW
        · have hf := it_n c_ hf
          refine lv_lconst (v := 0) S.1 S.2.1 dX4_oddsOfTalk_136 rfl ?_
          refine lv_goto (tgt := 147) S.1 S.2.1 dX4_oddsOfTalk_137 (by decide) ?_
          refine lv_ladd S.1 S.2.1 dX4_oddsOfTalk_147 ?_
          refine lv_topl (fun x28 ex28 => ?_)
          have hf := ltn_e hf ex28
          refine lv_lstore (lv' := [(7, .long x28), (0, .ref o_q0), (3, .int p3), (4, .int p4), (5, .long v21.1), (9, .int s23.2)]) S.1 S.2.1 dX4_oddsOfTalk_148 hl (by decide) rfl (fun ls hl => ?_)
          refine q_iinc (w := 1) (lv' := [(9, .int (s23.2 + 1)), (7, .long x28), (0, .ref o_q0), (3, .int p3), (4, .int p4), (5, .long v21.1)]) S dX4_oddsOfTalk_150 hl (k := 5) rfl ic_1 (by decide) rfl (fun ls hl => ?_)
          refine lv_goto (tgt := 116) S.1 S.2.1 dX4_oddsOfTalk_153 (by decide) ?_
          exact hI24 _ (Option.some.inj hf).symm _ _ _ (lv_sub hl [2, 3, 4, 5, 1, 0] rfl) hW
  refine lp_ind (P := fun (s4 : Int64 × Int32 × (Nat → Int64)) => ∀ (ls : Array Slot) (H : Heap) (locs : List Loc), lv_has ls 10 [(0, .ref o_q0), (1, .int p1), (2, .int p2), (3, .int p3), (4, .int p4), (5, .long s4.1), (7, .int s4.2.1)] → St A s.heap D (wPu g o_q0 o_q1 o_q2 o_q3 o_q4 o_sums o_table o_onward s4.2.2) H locs → W p l e (rmD 1) s m args below meth c H locs 0 0 Q (F0 m 21 ls [])) ?_ _ _ hf_ _ _ _ (lv_sub hl [2, 3, 4, 5, 6, 1, 0] rfl) hW
  intro s4 x6 hf hI5 hR5 ls H locs hl hW
  refine lv_iload S.1 S.2.1 dX4_oddsOfTalk_21 (lv_at hl 6 rfl) ?_
  refine lv_iload_n S.1 S.2.1 dX4_oddsOfTalk_23 rfl (lv_at hl 3 rfl) ?_
  refine lv_icmp_gt (tgt := 110) S.1 S.2.1 dX4_oddsOfTalk_24 (by decide) (fun c_ => ?_) (fun c_ => ?_)
  · have hf := it_p c_ hf
    have e_ := hR5 _ (Option.some.inj hf).symm
    exact hE5 _ e_ _ _ _ (lv_sub hl [0, 1, 3, 4, 5] rfl) hW
  · have hf := it_n c_ hf
    refine lv_iload S.1 S.2.1 dX4_oddsOfTalk_27 (lv_at hl 6 rfl) ?_
    refine lv_bipush (v := 12) S.1 S.2.1 dX4_oddsOfTalk_29 bp_12 ?_
    refine lv_icmp_gt (tgt := 110) S.1 S.2.1 dX4_oddsOfTalk_31 (by decide) (fun c_ => ?_) (fun c_ => ?_)
    · have hf := it_p c_ hf
      have e_ := hR5 _ (Option.some.inj hf).symm
      exact hE5 _ e_ _ _ _ (lv_sub hl [0, 1, 3, 4, 5] rfl) hW
    · have hf := it_n c_ hf
      refine lv_lload S.1 S.2.1 dX4_oddsOfTalk_34 (lv_at hl 5 rfl) ?_
      refine lv_ldc2 (v := 10) S.1 S.2.1 S.2.2.2.1 (S.2.2.2.2 _ q_754) dX4_oddsOfTalk_36 ?_
      refine lv_lmul S.1 S.2.1 dX4_oddsOfTalk_39 ?_
      refine lv_topl (fun x7 ex7 => ?_)
      have hf := ltn_e hf ex7
      refine lv_lstore (lv' := [(5, .long x7), (0, .ref o_q0), (1, .int p1), (2, .int p2), (3, .int p3), (4, .int p4), (7, .int s4.2.1)]) S.1 S.2.1 dX4_oddsOfTalk_40 hl (by decide) rfl (fun ls hl => ?_)
      refine lv_iload S.1 S.2.1 dX4_oddsOfTalk_42 (lv_at hl 6 rfl) ?_
      refine lv_istore (lv' := [(8, .int s4.2.1), (5, .long x7), (0, .ref o_q0), (1, .int p1), (2, .int p2), (3, .int p3), (4, .int p4), (7, .int s4.2.1)]) S.1 S.2.1 dX4_oddsOfTalk_44 hl (by decide) rfl (fun ls hl => ?_)
      obtain ⟨x10, hf_, hk10⟩ := bnd_e hf
      have hE10 : ∀ (v16 : (Nat → Int64)), v16 = x10 → ∀ (ls : Array Slot) (H : Heap) (locs : List Loc), lv_has ls 10 [(0, .ref o_q0), (1, .int p1), (2, .int p2), (3, .int p3), (4, .int p4), (5, .long x7), (7, .int s4.2.1)] → St A s.heap D (wPu g o_q0 o_q1 o_q2 o_q3 o_q4 o_sums o_table o_onward v16) H locs → W p l e (rmD 1) s m args below meth c H locs 0 0 Q (F0 m 90 ls []) := by
        intro v16 e_ ls H locs hl hW
        subst e_
        have hf := hk10
        refine lv_aload_n S.1 S.2.1 dX4_oddsOfTalk_90 rfl (lv_at hl 0 rfl) ?_
        refine gfX4_21 S hK hW.1 0 rfl rfl dX4_oddsOfTalk_91 ?_
        refine lv_iconst (v := 0) S.1 S.2.1 dX4_oddsOfTalk_94 ic_0 ?_
        refine lv_topi (fun x17 ex17 => ?_)
        have hf := ltn_e hf ex17
        refine lv_dup2_11 S.1 S.2.1 dX4_oddsOfTalk_95 rfl rfl ?_
        obtain ⟨x18, hx18, hf⟩ := bnd_e hf
        refine q_lald S hK hW.1 4 2 rfl rfl hx18 dX4_oddsOfTalk_96 ?_
        refine lv_bipush (v := 10) S.1 S.2.1 dX4_oddsOfTalk_97 bp_10 ?_
        refine lv_iload_n S.1 S.2.1 dX4_oddsOfTalk_99 rfl (lv_at hl 2 rfl) ?_
        refine lv_isub S.1 S.2.1 dX4_oddsOfTalk_100 ?_
        refine lv_i2l (v := ((((10 : Int32) - p2)).toInt64)) S.1 S.2.1 dX4_oddsOfTalk_101 rfl ?_
        refine lv_lmul S.1 S.2.1 dX4_oddsOfTalk_102 ?_
        refine lv_topl (fun x19 ex19 => ?_)
        have hf := ltn_e hf ex19
        obtain ⟨x20, hx20, hf⟩ := bnd_e hf
        refine q_last (ws2 := (wPu g o_q0 o_q1 o_q2 o_q3 o_q4 o_sums o_table o_onward x20)) S hK hW 4 2 rfl rfl hx20 rfl dX4_oddsOfTalk_103 (fun H locs hW => ?_)
        refine q_iinc (w := 1) (lv' := [(7, .int (s4.2.1 + 1)), (0, .ref o_q0), (1, .int p1), (2, .int p2), (3, .int p3), (4, .int p4), (5, .long x7)]) S dX4_oddsOfTalk_104 hl (k := 6) rfl ic_1 (by decide) rfl (fun ls hl => ?_)
        refine lv_goto (tgt := 21) S.1 S.2.1 dX4_oddsOfTalk_107 (by decide) ?_
        exact hI5 _ (Option.some.inj hf).symm _ _ _ (lv_sub hl [1, 2, 3, 4, 5, 6, 0] rfl) hW
      refine lp_ind (P := fun (s9 : Int32 × (Nat → Int64)) => ∀ (ls : Array Slot) (H : Heap) (locs : List Loc), lv_has ls 10 [(0, .ref o_q0), (1, .int p1), (2, .int p2), (3, .int p3), (4, .int p4), (5, .long x7), (7, .int s4.2.1), (8, .int s9.1)] → St A s.heap D (wPu g o_q0 o_q1 o_q2 o_q3 o_q4 o_sums o_table o_onward s9.2) H locs → W p l e (rmD 1) s m args below meth c H locs 0 0 Q (F0 m 46 ls [])) ?_ _ _ hf_ _ _ _ (lv_sub hl [2, 3, 4, 5, 6, 1, 7, 0] rfl) hW
      intro s9 x11 hf hI10 hR10 ls H locs hl hW
      refine lv_iload S.1 S.2.1 dX4_oddsOfTalk_46 (lv_at hl 7 rfl) ?_
      refine lv_if_le (tgt := 90) S.1 S.2.1 dX4_oddsOfTalk_48 (by decide) (fun c_ => ?_) (fun c_ => ?_)
      · have hf := it_p c_ hf
        have e_ := hR10 _ (Option.some.inj hf).symm
        exact hE10 _ e_ _ _ _ (lv_sub hl [0, 1, 2, 3, 4, 5, 6] rfl) hW
      · have hf := it_n c_ hf
        refine lv_aload_n S.1 S.2.1 dX4_oddsOfTalk_51 rfl (lv_at hl 0 rfl) ?_
        refine gfX4_21 S hK hW.1 0 rfl rfl dX4_oddsOfTalk_52 ?_
        refine lv_iload S.1 S.2.1 dX4_oddsOfTalk_55 (lv_at hl 7 rfl) ?_
        refine lv_aload_n S.1 S.2.1 dX4_oddsOfTalk_57 rfl (lv_at hl 0 rfl) ?_
        refine gfX4_21 S hK hW.1 0 rfl rfl dX4_oddsOfTalk_58 ?_
        refine lv_iload S.1 S.2.1 dX4_oddsOfTalk_61 (lv_at hl 7 rfl) ?_
        obtain ⟨x12, hx12, hf⟩ := bnd_e hf
        refine q_lald S hK hW.1 4 2 rfl rfl hx12 dX4_oddsOfTalk_63 ?_
        refine lv_bipush (v := 10) S.1 S.2.1 dX4_oddsOfTalk_64 bp_10 ?_
        refine lv_iload_n S.1 S.2.1 dX4_oddsOfTalk_66 rfl (lv_at hl 2 rfl) ?_
        refine lv_isub S.1 S.2.1 dX4_oddsOfTalk_67 ?_
        refine lv_i2l (v := ((((10 : Int32) - p2)).toInt64)) S.1 S.2.1 dX4_oddsOfTalk_68 rfl ?_
        refine lv_lmul S.1 S.2.1 dX4_oddsOfTalk_69 ?_
        refine lv_aload_n S.1 S.2.1 dX4_oddsOfTalk_70 rfl (lv_at hl 0 rfl) ?_
        refine gfX4_21 S hK hW.1 0 rfl rfl dX4_oddsOfTalk_71 ?_
        refine lv_iload S.1 S.2.1 dX4_oddsOfTalk_74 (lv_at hl 7 rfl) ?_
        refine lv_iconst (v := 1) S.1 S.2.1 dX4_oddsOfTalk_76 ic_1 ?_
        refine lv_isub S.1 S.2.1 dX4_oddsOfTalk_77 ?_
        obtain ⟨x13, hx13, hf⟩ := bnd_e hf
        refine q_lald S hK hW.1 4 2 rfl rfl hx13 dX4_oddsOfTalk_78 ?_
        refine lv_iload_n S.1 S.2.1 dX4_oddsOfTalk_79 rfl (lv_at hl 2 rfl) ?_
        refine lv_i2l (v := (p2.toInt64)) S.1 S.2.1 dX4_oddsOfTalk_80 rfl ?_
        refine lv_lmul S.1 S.2.1 dX4_oddsOfTalk_81 ?_
        refine lv_ladd S.1 S.2.1 dX4_oddsOfTalk_82 ?_
        refine lv_topl (fun x14 ex14 => ?_)
        have hf := ltn_e hf ex14
        obtain ⟨x15, hx15, hf⟩ := bnd_e hf
        refine q_last (ws2 := (wPu g o_q0 o_q1 o_q2 o_q3 o_q4 o_sums o_table o_onward x15)) S hK hW 4 2 rfl rfl hx15 rfl dX4_oddsOfTalk_83 (fun H locs hW => ?_)
        refine q_iinc (w := (-1)) (lv' := [(8, .int (s9.1 + (-1))), (0, .ref o_q0), (1, .int p1), (2, .int p2), (3, .int p3), (4, .int p4), (5, .long x7), (7, .int s4.2.1)]) S dX4_oddsOfTalk_84 hl (k := 7) rfl ic_m1 (by decide) rfl (fun ls hl => ?_)
        refine lv_goto (tgt := 46) S.1 S.2.1 dX4_oddsOfTalk_87 (by decide) ?_
        exact hI10 _ (Option.some.inj hf).symm _ _ _ (lv_sub hl [1, 2, 3, 4, 5, 6, 7, 0] rfl) hW
