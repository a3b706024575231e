def f_X12_twins_L14 (fu : Nat) (o_towns : (Nat → Int32)) (o_town : Int32) (o_purse : (Nat → Int32)) (s2 : Int32 × Int32) (s6 : Int32 × Int32) : Option ((Int32 × Int32) ⊕ (Int32)) := if s2.2 ≤ s6.2 then some (.inr s6.1) else bnd (α := Int32) (f_X12_of fu o_towns o_town ((1 : Int32) + s2.2)) (fun x9 => bnd (α := Int32) (f_X12_of fu o_towns o_town ((1 : Int32) + s6.2)) (fun x10 => if x9 = x10 then bnd (α := Int32) (rdi 6 o_purse s2.2) (fun x11 => bnd (α := Int32) (rdi 6 o_purse s6.2) (fun x12 => if x11 = x12 then ltn (s6.1 + (1 : Int32)) (fun x13 => some (.inl (x13, (s6.2 + 1)))) else ltn (s6.1 + (0 : Int32)) (fun x14 => some (.inl (x14, (s6.2 + 1)))))) else ltn (s6.1 + (0 : Int32)) (fun x15 => some (.inl (x15, (s6.2 + 1))))))
def f_X12_twins_L4 (fu : Nat) (o_towns : (Nat → Int32)) (o_town : Int32) (o_people : Int32) (o_purse : (Nat → Int32)) (s2 : Int32 × Int32) : Option ((Int32 × Int32) ⊕ (Int32)) := if o_people ≤ s2.2 then some (.inr s2.1) else bnd (α := Int32) (lp (f_X12_twins_L14 fu o_towns o_town o_purse s2) fu (s2.1, (0 : Int32))) (fun v16 => some (.inl (v16, (s2.2 + 1))))
def f_X12_twins (fu : Nat) (o_towns : (Nat → Int32)) (o_town : Int32) (o_people : Int32) (o_purse : (Nat → Int32)) : Option (Int32) := bnd (α := Int32) (lp (f_X12_twins_L4 fu o_towns o_town o_people o_purse) fu ((0 : Int32), (0 : Int32))) (fun v17 => some v17)
set_option maxHeartbeats 4000000 in
set_option maxRecDepth 100000 in
theorem c_X12_twins {l : Launch} {D : va_G} {g : Nat → ClassId} {fu : Nat} {o_q0 o_q1 o_q2 o_q3 o_q4 o_q5 o_q6 o_q7 o_q8 o_q9 o_q10 o_q11 o_q12 o_q13 o_q14 o_q15 o_q16 o_q17 o_q18 o_q19 o_q20 o_q21 o_q22 : Nat} {o_code : Int32} {o_tape : (Nat → Int32)} {o_size : (Nat → Int32)} {o_fault : (Nat → Int32)} {o_faultPlace : (Nat → Int32)} {o_many : (Nat → Int32)} {o_towns : (Nat → Int32)} {o_weeks : (Nat → Int32)} {o_logs : (Nat → Int32)} {o_reached : Int32} {o_length : Int32} {o_begins : Int32} {o_sort : Int32} {o_value : Int32} {o_word : Int64} {o_wrongAt : Int32} {o_laterFault : Int32} {o_laterPlace : Int32} {o_told : (Nat → Int32)} {o_read : (Nat → Int32)} {o_farOne : Int32} {o_good : Int32} {o_town : Int32} {o_people : Int32} {o_when : Int32} {o_sat : Int32} {o_quiet : Int32} {o_vain : Int32} {o_lent : Int32} {o_forgiven : Int32} {o_sundays : Int32} {o_purse : (Nat → Int32)} {o_beside : (Nat → Int32)} {o_debts : (Nat → Int32)} {o_sitting : (Nat → Int32)} {o_visited : (Nat → Int32)} {o_week : Int32} {o_heaps : (Nat → Int32)} {o_taken : (Nat → Int32)} {o_best : (Nat → Int32)} {o_more : (Nat → Int32)} {o_firstOne : Int32} {o_log : Int32} {o_fitting : (Nat → Int32)} {o_found : Int32} {o_seed : Int32} {o_row : (Nat → Int32)} {o_saved : (Nat → Int32)} {r : Int32} (hf : f_X12_twins fu o_towns o_town o_people o_purse = some r) : Rd l D (gy g) yX12_twins cX12_twins 4 (some .int) 1 [.ref o_q0] (wMd g o_q0 o_q1 o_q2 o_q3 o_q4 o_q5 o_q6 o_q7 o_q8 o_q9 o_q10 o_q11 o_q12 o_q13 o_q14 o_q15 o_q16 o_q17 o_q18 o_q19 o_q20 o_q21 o_q22 o_code o_tape o_size o_fault o_faultPlace o_many o_towns o_weeks o_logs o_reached o_length o_begins o_sort o_value o_word o_wrongAt o_laterFault o_laterPlace o_told o_read o_farOne o_good o_town o_people o_when o_sat o_quiet o_vain o_lent o_forgiven o_sundays o_purse o_beside o_debts o_sitting o_visited o_week o_heaps o_taken o_best o_more o_firstOne o_log o_fitting o_found o_seed o_row o_saved) (some (.int r)) := by
  refine Rd.ofI (by decide) (Nat.le_of_ble_eq_true rfl) ?_
  intro p e s m args below meth c Q S hK hP hret ls hl
  have hl : lv_has ls 4 [(0, .ref o_q0)] := hl
  refine lv_iconst (v := 0) S.1 S.2.1 dX12_twins_0 ic_0 ?_
  refine lv_istore_n (lv' := [(1, .int (0 : Int32)), (0, .ref o_q0)]) S.1 S.2.1 dX12_twins_1 rfl hl (by decide) rfl (fun ls hl => ?_)
  refine lv_iconst (v := 0) S.1 S.2.1 dX12_twins_2 ic_0 ?_
  refine lv_istore_n (lv' := [(2, .int (0 : Int32)), (1, .int (0 : Int32)), (0, .ref o_q0)]) S.1 S.2.1 dX12_twins_3 rfl hl (by decide) rfl (fun ls hl => ?_)
  obtain ⟨x3, hf_, hk3⟩ := bnd_e hf
  have hE3 : ∀ (v17 : Int32), v17 = x3 → ∀ (ls : Array Slot), lv_has ls 4 [(1, .int v17)] → W p l e (rmD 1) s m args below meth c s.heap [] 0 0 Q (F0 m 71 ls []) := by
    intro v17 e_ ls hl
    subst e_
    have hf := hk3
    refine lv_iload_n S.1 S.2.1 dX12_twins_71 rfl (lv_at hl 0 rfl) ?_
    have e_ := Option.some.inj hf
    subst e_
    exact hret _ _ dX12_twins_72
  refine lp_ind (P := fun (s2 : Int32 × Int32) => ∀ (ls : Array Slot), lv_has ls 4 [(0, .ref o_q0), (1, .int s2.1), (2, .int s2.2)] → W p l e (rmD 1) s m args below meth c s.heap [] 0 0 Q (F0 m 4 ls [])) ?_ _ _ hf_ _ (lv_sub hl [2, 1, 0] rfl)
  intro s2 x4 hf hI3 hR3 ls hl
  refine lv_iload_n S.1 S.2.1 dX12_twins_4 rfl (lv_at hl 2 rfl) ?_
  refine lv_aload_n S.1 S.2.1 dX12_twins_5 rfl (lv_at hl 0 rfl) ?_
  refine gfX12_230 S hK hP 0 rfl rfl dX12_twins_6 ?_
  refine lv_icmp_ge (tgt := 71) S.1 S.2.1 dX12_twins_9 (by decide) (fun c_ => ?_) (fun c_ => ?_)
  · have hf := it_p c_ hf
    have e_ := hR3 _ (Option.some.inj hf).symm
    exact hE3 _ e_ _ (lv_sub hl [1] rfl)
  · have hf := it_n c_ hf
    refine lv_iconst (v := 0) S.1 S.2.1 dX12_twins_12 ic_0 ?_
    refine lv_istore_n (lv' := [(3, .int (0 : Int32)), (0, .ref o_q0), (1, .int s2.1), (2, .int s2.2)]) S.1 S.2.1 dX12_twins_13 rfl hl (by decide) rfl (fun ls hl => ?_)
    obtain ⟨x7, hf_, hk7⟩ := bnd_e hf
    have hE7 : ∀ (v16 : Int32), v16 = x7 → ∀ (ls : Array Slot), lv_has ls 4 [(0, .ref o_q0), (1, .int v16), (2, .int s2.2)] → W p l e (rmD 1) s m args below meth c s.heap [] 0 0 Q (F0 m 65 ls []) := by
      intro v16 e_ ls hl
      subst e_
      have hf := hk7
      refine q_iinc (w := 1) (lv' := [(2, .int (s2.2 + 1)), (0, .ref o_q0), (1, .int v16)]) S dX12_twins_65 hl (k := 2) rfl ic_1 (by decide) rfl (fun ls hl => ?_)
      refine lv_goto (tgt := 4) S.1 S.2.1 dX12_twins_68 (by decide) ?_
      exact hI3 _ (Option.some.inj hf).symm _ (lv_sub hl [1, 2, 0] rfl)
    refine lp_ind (P := fun (s6 : Int32 × Int32) => ∀ (ls : Array Slot), lv_has ls 4 [(0, .ref o_q0), (1, .int s6.1), (2, .int s2.2), (3, .int s6.2)] → W p l e (rmD 1) s m args below meth c s.heap [] 0 0 Q (F0 m 14 ls [])) ?_ _ _ hf_ _ (lv_sub hl [1, 2, 3, 0] rfl)
    intro s6 x8 hf hI7 hR7 ls hl
    refine lv_iload_n S.1 S.2.1 dX12_twins_14 rfl (lv_at hl 3 rfl) ?_
    refine lv_iload_n S.1 S.2.1 dX12_twins_15 rfl (lv_at hl 2 rfl) ?_
    refine lv_icmp_ge (tgt := 65) S.1 S.2.1 dX12_twins_16 (by decide) (fun c_ => ?_) (fun c_ => ?_)
    · have hf := it_p c_ hf
      have e_ := hR7 _ (Option.some.inj hf).symm
      exact hE7 _ e_ _ (lv_sub hl [0, 1, 2] rfl)
    · have hf := it_n c_ hf
      refine lv_iload_n S.1 S.2.1 dX12_twins_19 rfl (lv_at hl 1 rfl) ?_
      refine lv_aload_n S.1 S.2.1 dX12_twins_20 rfl (lv_at hl 0 rfl) ?_
      refine lv_iconst (v := 1) S.1 S.2.1 dX12_twins_21 ic_1 ?_
      refine lv_iload_n S.1 S.2.1 dX12_twins_22 rfl (lv_at hl 2 rfl) ?_
      refine lv_iadd S.1 S.2.1 dX12_twins_23 ?_
      obtain ⟨x9, hx9, hf⟩ := bnd_e hf
      refine Rd.cV (c_X12_of hx9) S hK hP 0 10 rfl rfl kVX12_226 rfl hl.1 [.int s6.1] rfl (Nat.le_of_ble_eq_true rfl) ⟨(Nat.le_of_ble_eq_true rfl), (Nat.le_of_ble_eq_true rfl)⟩ ⟨(Nat.zero_le _), (Nat.zero_le _)⟩ dX12_twins_24 ?_
      refine lv_aload_n S.1 S.2.1 dX12_twins_27 rfl (lv_at hl 0 rfl) ?_
      refine lv_iconst (v := 1) S.1 S.2.1 dX12_twins_28 ic_1 ?_
      refine lv_iload_n S.1 S.2.1 dX12_twins_29 rfl (lv_at hl 3 rfl) ?_
      refine lv_iadd S.1 S.2.1 dX12_twins_30 ?_
      obtain ⟨x10, hx10, hf⟩ := bnd_e hf
      refine Rd.cV (c_X12_of hx10) S hK hP 0 10 rfl rfl kVX12_226 rfl hl.1 [.int x9, .int s6.1] rfl (Nat.le_of_ble_eq_true rfl) ⟨(Nat.le_of_ble_eq_true rfl), (Nat.le_of_ble_eq_true rfl)⟩ ⟨(Nat.zero_le _), (Nat.zero_le _)⟩ dX12_twins_31 ?_
      refine lv_icmp_ne (tgt := 56) S.1 S.2.1 dX12_twins_34 (by decide) (fun c_ => ?_) (fun c_ => ?_)
      · have hf := it_n c_ hf
        refine lv_iconst (v := 0) S.1 S.2.1 dX12_twins_56 ic_0 ?_
        refine lv_iadd S.1 S.2.1 dX12_twins_57 ?_
        refine lv_topi (fun x15 ex15 => ?_)
        have hf := ltn_e hf ex15
        refine lv_istore_n (lv' := [(1, .int x15), (0, .ref o_q0), (2, .int s2.2), (3, .int s6.2)]) S.1 S.2.1 dX12_twins_58 rfl hl (by decide) rfl (fun ls hl => ?_)
        refine q_iinc (w := 1) (lv' := [(3, .int (s6.2 + 1)), (1, .int x15), (0, .ref o_q0), (2, .int s2.2)]) S dX12_twins_59 hl (k := 3) rfl ic_1 (by decide) rfl (fun ls hl => ?_)
        refine lv_goto (tgt := 14) S.1 S.2.1 dX12_twins_62 (by decide) ?_
        exact hI7 _ (Option.some.inj hf).symm _ (lv_sub hl [2, 1, 3, 0] rfl)
      · have hf := it_p c_ hf
        refine lv_aload_n S.1 S.2.1 dX12_twins_37 rfl (lv_at hl 0 rfl) ?_
        refine gfX12_41 S hK hP 0 rfl rfl dX12_twins_38 ?_
        refine lv_iload_n S.1 S.2.1 dX12_twins_41 rfl (lv_at hl 2 rfl) ?_
        obtain ⟨x11, hx11, hf⟩ := bnd_e hf
        refine q_iald S hK hP 11 0 rfl rfl hx11 dX12_twins_42 ?_
        refine lv_aload_n S.1 S.2.1 dX12_twins_43 rfl (lv_at hl 0 rfl) ?_
        refine gfX12_41 S hK hP 0 rfl rfl dX12_twins_44 ?_
        refine lv_iload_n S.1 S.2.1 dX12_twins_47 rfl (lv_at hl 3 rfl) ?_
        obtain ⟨x12, hx12, hf⟩ := bnd_e hf
        refine q_iald S hK hP 11 0 rfl rfl hx12 dX12_twins_48 ?_
        refine lv_icmp_ne (tgt := 56) S.1 S.2.1 dX12_twins_49 (by decide) (fun c_ => ?_) (fun c_ => ?_)
        · have hf := it_n c_ hf
          refine lv_iconst (v := 0) S.1 S.2.1 dX12_twins_56 ic_0 ?_
          refine lv_iadd S.1 S.2.1 dX12_twins_57 ?_
          refine lv_topi (fun x14 ex14 => ?_)
          have hf := ltn_e hf ex14
          refine lv_istore_n (lv' := [(1, .int x14), (0, .ref o_q0), (2, .int s2.2), (3, .int s6.2)]) S.1 S.2.1 dX12_twins_58 rfl hl (by decide) rfl (fun ls hl => ?_)
          refine q_iinc (w := 1) (lv' := [(3, .int (s6.2 + 1)), (1, .int x14), (0, .ref o_q0), (2, .int s2.2)]) S dX12_twins_59 hl (k := 3) rfl ic_1 (by decide) rfl (fun ls hl => ?_)
          refine lv_goto (tgt := 14) S.1 S.2.1 dX12_twins_62 (by decide) ?_
          exact hI7 _ (Option.some.inj hf).symm _ (lv_sub hl [2, 1, 3, 0] rfl)
        · have hf := it_p c_ hf
          refine lv_iconst (v := 1) S.1 S.2.1 dX12_twins_52 ic_1 ?_
          refine lv_goto (tgt := 57) S.1 S.2.1 dX12_twins_53 (by decide) ?_
          refine lv_iadd S.1 S.2.1 dX12_twins_57 ?_
          refine lv_topi (fun x13 ex13 => ?_)
          have hf := ltn_e hf ex13
          refine lv_istore_n (lv' := [(1, .int x13), (0, .ref o_q0), (2, .int s2.2), (3, .int s6.2)]) S.1 S.2.1 dX12_twins_58 rfl hl (by decide) rfl (fun ls hl => ?_)
          refine q_iinc (w := 1) (lv' := [(3, .int (s6.2 + 1)), (1, .int x13), (0, .ref o_q0), (2, .int s2.2)]) S dX12_twins_59 hl (k := 3) rfl ic_1 (by decide) rfl (fun ls hl => ?_)
          refine lv_goto (tgt := 14) S.1 S.2.1 dX12_twins_62 (by decide) ?_
          exact hI7 _ (Option.some.inj hf).symm _ (lv_sub hl [2, 1, 3, 0] rfl)
def f_X12_feudOf_L15 (fu : Nat) (o_towns : (Nat → Int32)) (o_town : Int32) (o_people : Int32) (s7 : Int32 × Int32) : Option ((Int32 × Int32) ⊕ (Int32)) := if o_people ≤ s7.2 then some (.inr s7.1) else bnd (α := Int32) (f_X12_has fu s7.1 s7.2) (fun x10 => if x10 = 0 then ltn (s7.1 ||| (0 : Int32)) (fun x11 => some (.inl (x11, (s7.2 + 1)))) else bnd (α := Int32) (f_X12_of fu o_towns o_town ((13 : Int32) + s7.2)) (fun x12 => ltn (s7.1 ||| x12) (fun x13 => some (.inl (x13, (s7.2 + 1))))))
def f_X12_feudOf_L6 (fu : Nat) (o_towns : (Nat → Int32)) (o_town : Int32) (o_people : Int32) (s3 : Int32 × Int32) : Option ((Int32 × Int32) ⊕ (Int32)) := if (6 : Int32) ≤ s3.2 then some (.inr s3.1) else bnd (α := Int32) (lp (f_X12_feudOf_L15 fu o_towns o_town o_people) fu (s3.1, (0 : Int32))) (fun v14 => some (.inl (v14, (s3.2 + 1))))
def f_X12_feudOf (fu : Nat) (o_towns : (Nat → Int32)) (o_town : Int32) (o_people : Int32) (p1 : Int32) : Option (Int32) := ltn (jshl (1 : Int32) p1) (fun x1 => bnd (α := Int32) (lp (f_X12_feudOf_L6 fu o_towns o_town o_people) fu (x1, (0 : Int32))) (fun v15 => some v15))
set_option maxHeartbeats 4000000 in
set_option maxRecDepth 100000 in
theorem c_X12_feudOf {l : Launch} {D : va_G} {g : Nat → ClassId} {fu : Nat} {o_q0 o_q1 o_q2 o_q3 o_q4 o_q5 o_q6 o_q7 o_q8 o_q9 o_q10 o_q11 o_q12 o_q13 o_q14 o_q15 o_q16 o_q17 o_q18 o_q19 o_q20 o_q21 o_q22 : Nat} {o_code : Int32} {o_tape : (Nat → Int32)} {o_size : (Nat → Int32)} {o_fault : (Nat → Int32)} {o_faultPlace : (Nat → Int32)} {o_many : (Nat → Int32)} {o_towns : (Nat → Int32)} {o_weeks : (Nat → Int32)} {o_logs : (Nat → Int32)} {o_reached : Int32} {o_length : Int32} {o_begins : Int32} {o_sort : Int32} {o_value : Int32} {o_word : Int64} {o_wrongAt : Int32} {o_laterFault : Int32} {o_laterPlace : Int32} {o_told : (Nat → Int32)} {o_read : (Nat → Int32)} {o_farOne : Int32} {o_good : Int32} {o_town : Int32} {o_people : Int32} {o_when : Int32} {o_sat : Int32} {o_quiet : Int32} {o_vain : Int32} {o_lent : Int32} {o_forgiven : Int32} {o_sundays : Int32} {o_purse : (Nat → Int32)} {o_beside : (Nat → Int32)} {o_debts : (Nat → Int32)} {o_sitting : (Nat → Int32)} {o_visited : (Nat → Int32)} {o_week : Int32} {o_heaps : (Nat → Int32)} {o_taken : (Nat → Int32)} {o_best : (Nat → Int32)} {o_more : (Nat → Int32)} {o_firstOne : Int32} {o_log : Int32} {o_fitting : (Nat → Int32)} {o_found : Int32} {o_seed : Int32} {o_row : (Nat → Int32)} {o_saved : (Nat → Int32)} {p1 : Int32} {r : Int32} (hf : f_X12_feudOf fu o_towns o_town o_people p1 = some r) : Rd l D (gy g) yX12_feudOf cX12_feudOf 5 (some .int) 1 [.ref o_q0, .int p1] (wMd g o_q0 o_q1 o_q2 o_q3 o_q4 o_q5 o_q6 o_q7 o_q8 o_q9 o_q10 o_q11 o_q12 o_q13 o_q14 o_q15 o_q16 o_q17 o_q18 o_q19 o_q20 o_q21 o_q22 o_code o_tape o_size o_fault o_faultPlace o_many o_towns o_weeks o_logs o_reached o_length o_begins o_sort o_value o_word o_wrongAt o_laterFault o_laterPlace o_told o_read o_farOne o_good o_town o_people o_when o_sat o_quiet o_vain o_lent o_forgiven o_sundays o_purse o_beside o_debts o_sitting o_visited o_week o_heaps o_taken o_best o_more o_firstOne o_log o_fitting o_found o_seed o_row o_saved) (some (.int r)) := by
  refine Rd.ofI (by decide) (Nat.le_of_ble_eq_true rfl) ?_
  intro p e s m args below meth c Q S hK hP hret ls hl
  have hl : lv_has ls 5 [(0, .ref o_q0), (1, .int p1)] := hl
  refine lv_iconst (v := 1) S.1 S.2.1 dX12_feudOf_0 ic_1 ?_
  refine lv_iload_n S.1 S.2.1 dX12_feudOf_1 rfl (lv_at hl 1 rfl) ?_
  refine lv_ishl S.1 S.2.1 dX12_feudOf_2 ?_
  refine lv_topi (fun x1 ex1 => ?_)
  have hf := ltn_e hf ex1
  refine lv_istore_n (lv' := [(2, .int x1), (0, .ref o_q0), (1, .int p1)]) S.1 S.2.1 dX12_feudOf_3 rfl hl (by decide) rfl (fun ls hl => ?_)
  refine lv_iconst (v := 0) S.1 S.2.1 dX12_feudOf_4 ic_0 ?_
  refine lv_istore_n (lv' := [(3, .int (0 : Int32)), (2, .int x1), (0, .ref o_q0), (1, .int p1)]) S.1 S.2.1 dX12_feudOf_5 rfl hl (by decide) rfl (fun ls hl => ?_)
  obtain ⟨x4, hf_, hk4⟩ := bnd_e hf
  have hE4 : ∀ (v15 : Int32), v15 = x4 → ∀ (ls : Array Slot), lv_has ls 5 [(2, .int v15)] → W p l e (rmD 1) s m args below meth c s.heap [] 0 0 Q (F0 m 61 ls []) := by
    intro v15 e_ ls hl
    subst e_
    have hf := hk4
    refine lv_iload_n S.1 S.2.1 dX12_feudOf_61 rfl (lv_at hl 0 rfl) ?_
    have e_ := Option.some.inj hf
    subst e_
    exact hret _ _ dX12_feudOf_62
  refine lp_ind (P := fun (s3 : Int32 × Int32) => ∀ (ls : Array Slot), lv_has ls 5 [(0, .ref o_q0), (2, .int s3.1), (3, .int s3.2)] → W p l e (rmD 1) s m args below meth c s.heap [] 0 0 Q (F0 m 6 ls [])) ?_ _ _ hf_ _ (lv_sub hl [2, 1, 0] rfl)
  intro s3 x5 hf hI4 hR4 ls hl
  refine lv_iload_n S.1 S.2.1 dX12_feudOf_6 rfl (lv_at hl 2 rfl) ?_
  refine lv_bipush (v := 6) S.1 S.2.1 dX12_feudOf_7 bp_6 ?_
  refine lv_icmp_ge (tgt := 61) S.1 S.2.1 dX12_feudOf_9 (by decide) (fun c_ => ?_) (fun c_ => ?_)
  · have hf := it_p c_ hf
    have e_ := hR4 _ (Option.some.inj hf).symm
    exact hE4 _ e_ _ (lv_sub hl [1] rfl)
  · have hf := it_n c_ hf
    refine lv_iconst (v := 0) S.1 S.2.1 dX12_feudOf_12 ic_0 ?_
    refine lv_istore (lv' := [(4, .int (0 : Int32)), (0, .ref o_q0), (2, .int s3.1), (3, .int s3.2)]) S.1 S.2.1 dX12_feudOf_13 hl (by decide) rfl (fun ls hl => ?_)
    obtain ⟨x8, hf_, hk8⟩ := bnd_e hf
    have hE8 : ∀ (v14 : Int32), v14 = x8 → ∀ (ls : Array Slot), lv_has ls 5 [(0, .ref o_q0), (2, .int v14), (3, .int s3.2)] → W p l e (rmD 1) s m args below meth c s.heap [] 0 0 Q (F0 m 55 ls []) := by
      intro v14 e_ ls hl
      subst e_
      have hf := hk8
      refine q_iinc (w := 1) (lv' := [(3, .int (s3.2 + 1)), (0, .ref o_q0), (2, .int v14)]) S dX12_feudOf_55 hl (k := 2) rfl ic_1 (by decide) rfl (fun ls hl => ?_)
      refine lv_goto (tgt := 6) S.1 S.2.1 dX12_feudOf_58 (by decide) ?_
      exact hI4 _ (Option.some.inj hf).symm _ (lv_sub hl [1, 2, 0] rfl)
    refine lp_ind (P := fun (s7 : Int32 × Int32) => ∀ (ls : Array Slot), lv_has ls 5 [(0, .ref o_q0), (2, .int s7.1), (3, .int s3.2), (4, .int s7.2)] → W p l e (rmD 1) s m args below meth c s.heap [] 0 0 Q (F0 m 15 ls [])) ?_ _ _ hf_ _ (lv_sub hl [1, 2, 3, 0] rfl)
    intro s7 x9 hf hI8 hR8 ls hl
    refine lv_iload S.1 S.2.1 dX12_feudOf_15 (lv_at hl 3 rfl) ?_
    refine lv_aload_n S.1 S.2.1 dX12_feudOf_17 rfl (lv_at hl 0 rfl) ?_
    refine gfX12_230 S hK hP 0 rfl rfl dX12_feudOf_18 ?_
    refine lv_icmp_ge (tgt := 55) S.1 S.2.1 dX12_feudOf_21 (by decide) (fun c_ => ?_) (fun c_ => ?_)
    · have hf := it_p c_ hf
      have e_ := hR8 _ (Option.some.inj hf).symm
      exact hE8 _ e_ _ (lv_sub hl [0, 1, 2] rfl)
    · have hf := it_n c_ hf
      refine lv_iload_n S.1 S.2.1 dX12_feudOf_24 rfl (lv_at hl 1 rfl) ?_
      refine lv_iload_n S.1 S.2.1 dX12_feudOf_25 rfl (lv_at hl 1 rfl) ?_
      refine lv_iload S.1 S.2.1 dX12_feudOf_26 (lv_at hl 3 rfl) ?_
      obtain ⟨x10, hx10, hf⟩ := bnd_e hf
      refine Rd.cS (c_X12_has hx10) S hK va_P.nil kSX12_82 rfl hl.1 [.int s7.1] rfl (Nat.le_of_ble_eq_true rfl) ⟨(Nat.le_of_ble_eq_true rfl), (Nat.le_of_ble_eq_true rfl)⟩ ⟨(Nat.zero_le _), (Nat.zero_le _)⟩ dX12_feudOf_28 ?_
      refine lv_if_eq (tgt := 46) S.1 S.2.1 dX12_feudOf_31 (by decide) (fun c_ => ?_) (fun c_ => ?_)
      · have hf := it_p c_ hf
        refine lv_iconst (v := 0) S.1 S.2.1 dX12_feudOf_46 ic_0 ?_
        refine lv_ior S.1 S.2.1 dX12_feudOf_47 ?_
        refine lv_topi (fun x11 ex11 => ?_)
        have hf := ltn_e hf ex11
        refine lv_istore_n (lv' := [(2, .int x11), (0, .ref o_q0), (3, .int s3.2), (4, .int s7.2)]) S.1 S.2.1 dX12_feudOf_48 rfl hl (by decide) rfl (fun ls hl => ?_)
        refine q_iinc (w := 1) (lv' := [(4, .int (s7.2 + 1)), (2, .int x11), (0, .ref o_q0), (3, .int s3.2)]) S dX12_feudOf_49 hl (k := 3) rfl ic_1 (by decide) rfl (fun ls hl => ?_)
        refine lv_goto (tgt := 15) S.1 S.2.1 dX12_feudOf_52 (by decide) ?_
        exact hI8 _ (Option.some.inj hf).symm _ (lv_sub hl [2, 1, 3, 0] rfl)
      · have hf := it_n c_ hf
        refine lv_aload_n S.1 S.2.1 dX12_feudOf_34 rfl (lv_at hl 0 rfl) ?_
        refine lv_bipush (v := 13) S.1 S.2.1 dX12_feudOf_35 bp_13 ?_
        refine lv_iload S.1 S.2.1 dX12_feudOf_37 (lv_at hl 3 rfl) ?_
        refine lv_iadd S.1 S.2.1 dX12_feudOf_39 ?_
        obtain ⟨x12, hx12, hf⟩ := bnd_e hf
        refine Rd.cV (c_X12_of hx12) S hK hP 0 10 rfl rfl kVX12_226 rfl hl.1 [.int s7.1] rfl (Nat.le_of_ble_eq_true rfl) ⟨(Nat.le_of_ble_eq_true rfl), (Nat.le_of_ble_eq_true rfl)⟩ ⟨(Nat.zero_le _), (Nat.zero_le _)⟩ dX12_feudOf_40 ?_
        refine lv_goto (tgt := 47) S.1 S.2.1 dX12_feudOf_43 (by decide) ?_
        refine lv_ior S.1 S.2.1 dX12_feudOf_47 ?_
        refine lv_topi (fun x13 ex13 => ?_)
        have hf := ltn_e hf ex13
        refine lv_istore_n (lv' := [(2, .int x13), (0, .ref o_q0), (3, .int s3.2), (4, .int s7.2)]) S.1 S.2.1 dX12_feudOf_48 rfl hl (by decide) rfl (fun ls hl => ?_)
        refine q_iinc (w := 1) (lv' := [(4, .int (s7.2 + 1)), (2, .int x13), (0, .ref o_q0), (3, .int s3.2)]) S dX12_feudOf_49 hl (k := 3) rfl ic_1 (by decide) rfl (fun ls hl => ?_)
        refine lv_goto (tgt := 15) S.1 S.2.1 dX12_feudOf_52 (by decide) ?_
        exact hI8 _ (Option.some.inj hf).symm _ (lv_sub hl [2, 1, 3, 0] rfl)
def f_X12_feuds_L4 (fu : Nat) (o_towns : (Nat → Int32)) (o_town : Int32) (o_people : Int32) (s2 : Int32 × Int32) : Option ((Int32 × Int32) ⊕ (Int32)) := if o_people ≤ s2.2 then some (.inr s2.1) else bnd (α := Int32) (f_X12_feudOf fu o_towns o_town o_people s2.2) (fun x5 => if (x5 &&& ((jshl (1 : Int32) s2.2) - (1 : Int32))) = 0 then ltn (s2.1 + (1 : Int32)) (fun x6 => some (.inl (x6, (s2.2 + 1)))) else ltn (s2.1 + (0 : Int32)) (fun x7 => some (.inl (x7, (s2.2 + 1)))))
def f_X12_feuds (fu : Nat) (o_towns : (Nat → Int32)) (o_town : Int32) (o_people : Int32) : Option (Int32) := bnd (α := Int32) (lp (f_X12_feuds_L4 fu o_towns o_town o_people) fu ((0 : Int32), (0 : Int32))) (fun v8 => some v8)
set_option maxHeartbeats 4000000 in
set_option maxRecDepth 100000 in
theorem c_X12_feuds {l : Launch} {D : va_G} {g : Nat → ClassId} {fu : Nat} {o_q0 o_q1 o_q2 o_q3 o_q4 o_q5 o_q6 o_q7 o_q8 o_q9 o_q10 o_q11 o_q12 o_q13 o_q14 o_q15 o_q16 o_q17 o_q18 o_q19 o_q20 o_q21 o_q22 : Nat} {o_code : Int32} {o_tape : (Nat → Int32)} {o_size : (Nat → Int32)} {o_fault : (Nat → Int32)} {o_faultPlace : (Nat → Int32)} {o_many : (Nat → Int32)} {o_towns : (Nat → Int32)} {o_weeks : (Nat → Int32)} {o_logs : (Nat → Int32)} {o_reached : Int32} {o_length : Int32} {o_begins : Int32} {o_sort : Int32} {o_value : Int32} {o_word : Int64} {o_wrongAt : Int32} {o_laterFault : Int32} {o_laterPlace : Int32} {o_told : (Nat → Int32)} {o_read : (Nat → Int32)} {o_farOne : Int32} {o_good : Int32} {o_town : Int32} {o_people : Int32} {o_when : Int32} {o_sat : Int32} {o_quiet : Int32} {o_vain : Int32} {o_lent : Int32} {o_forgiven : Int32} {o_sundays : Int32} {o_purse : (Nat → Int32)} {o_beside : (Nat → Int32)} {o_debts : (Nat → Int32)} {o_sitting : (Nat → Int32)} {o_visited : (Nat → Int32)} {o_week : Int32} {o_heaps : (Nat → Int32)} {o_taken : (Nat → Int32)} {o_best : (Nat → Int32)} {o_more : (Nat → Int32)} {o_firstOne : Int32} {o_log : Int32} {o_fitting : (Nat → Int32)} {o_found : Int32} {o_seed : Int32} {o_row : (Nat → Int32)} {o_saved : (Nat → Int32)} {r : Int32} (hf : f_X12_feuds fu o_towns o_town o_people = some r) : Rd l D (gy g) yX12_feuds cX12_feuds 3 (some .int) 2 [.ref o_q0] (wMd g o_q0 o_q1 o_q2 o_q3 o_q4 o_q5 o_q6 o_q7 o_q8 o_q9 o_q10 o_q11 o_q12 o_q13 o_q14 o_q15 o_q16 o_q17 o_q18 o_q19 o_q20 o_q21 o_q22 o_code o_tape o_size o_fault o_faultPlace o_many o_towns o_weeks o_logs o_reached o_length o_begins o_sort o_value o_word o_wrongAt o_laterFault o_laterPlace o_told o_read o_farOne o_good o_town o_people o_when o_sat o_quiet o_vain o_lent o_forgiven o_sundays o_purse o_beside o_debts o_sitting o_visited o_week o_heaps o_taken o_best o_more o_firstOne o_log o_fitting o_found o_seed o_row o_saved) (some (.int r)) := by
  refine Rd.ofI (by decide) (Nat.le_of_ble_eq_true rfl) ?_
  intro p e s m args below meth c Q S hK hP hret ls hl
  have hl : lv_has ls 3 [(0, .ref o_q0)] := hl
  refine lv_iconst (v := 0) S.1 S.2.1 dX12_feuds_0 ic_0 ?_
  refine lv_istore_n (lv' := [(1, .int (0 : Int32)), (0, .ref o_q0)]) S.1 S.2.1 dX12_feuds_1 rfl hl (by decide) rfl (fun ls hl => ?_)
  refine lv_iconst (v := 0) S.1 S.2.1 dX12_feuds_2 ic_0 ?_
  refine lv_istore_n (lv' := [(2, .int (0 : Int32)), (1, .int (0 : Int32)), (0, .ref o_q0)]) S.1 S.2.1 dX12_feuds_3 rfl hl (by decide) rfl (fun ls hl => ?_)
  obtain ⟨x3, hf_, hk3⟩ := bnd_e hf
  have hE3 : ∀ (v8 : Int32), v8 = x3 → ∀ (ls : Array Slot), lv_has ls 3 [(1, .int v8)] → W p l e (rmD 2) s m args below meth c s.heap [] 0 0 Q (F0 m 40 ls []) := by
    intro v8 e_ ls hl
    subst e_
    have hf := hk3
    refine lv_iload_n S.1 S.2.1 dX12_feuds_40 rfl (lv_at hl 0 rfl) ?_
    have e_ := Option.some.inj hf
    subst e_
    exact hret _ _ dX12_feuds_41
  refine lp_ind (P := fun (s2 : Int32 × Int32) => ∀ (ls : Array Slot), lv_has ls 3 [(0, .ref o_q0), (1, .int s2.1), (2, .int s2.2)] → W p l e (rmD 2) s m args below meth c s.heap [] 0 0 Q (F0 m 4 ls [])) ?_ _ _ hf_ _ (lv_sub hl [2, 1, 0] rfl)
  intro s2 x4 hf hI3 hR3 ls hl
  refine lv_iload_n S.1 S.2.1 dX12_feuds_4 rfl (lv_at hl 2 rfl) ?_
  refine lv_aload_n S.1 S.2.1 dX12_feuds_5 rfl (lv_at hl 0 rfl) ?_
  refine gfX12_230 S hK hP 0 rfl rfl dX12_feuds_6 ?_
  refine lv_icmp_ge (tgt := 40) S.1 S.2.1 dX12_feuds_9 (by decide) (fun c_ => ?_) (fun c_ => ?_)
  · have hf := it_p c_ hf
    have e_ := hR3 _ (Option.some.inj hf).symm
    exact hE3 _ e_ _ (lv_sub hl [1] rfl)
  · have hf := it_n c_ hf
    refine lv_iload_n S.1 S.2.1 dX12_feuds_12 rfl (lv_at hl 1 rfl) ?_
    refine lv_aload_n S.1 S.2.1 dX12_feuds_13 rfl (lv_at hl 0 rfl) ?_
    refine lv_iload_n S.1 S.2.1 dX12_feuds_14 rfl (lv_at hl 2 rfl) ?_
    obtain ⟨x5, hx5, hf⟩ := bnd_e hf
    refine Rd.cV (c_X12_feudOf hx5) S hK hP 0 10 rfl rfl kVX12_442 rfl hl.1 [.int s2.1] rfl (Nat.le_of_ble_eq_true rfl) ⟨(Nat.le_of_ble_eq_true rfl), (Nat.le_of_ble_eq_true rfl)⟩ ⟨(Nat.zero_le _), (Nat.zero_le _)⟩ dX12_feuds_15 ?_
    refine lv_iconst (v := 1) S.1 S.2.1 dX12_feuds_18 ic_1 ?_
    refine lv_iload_n S.1 S.2.1 dX12_feuds_19 rfl (lv_at hl 2 rfl) ?_
    refine lv_ishl S.1 S.2.1 dX12_feuds_20 ?_
    refine lv_iconst (v := 1) S.1 S.2.1 dX12_feuds_21 ic_1 ?_
    refine lv_isub S.1 S.2.1 dX12_feuds_22 ?_
    refine lv_iand S.1 S.2.1 dX12_feuds_23 ?_
    refine lv_if_ne (tgt := 31) S.1 S.2.1 dX12_feuds_24 (by decide) (fun c_ => ?_) (fun c_ => ?_)
    · have hf := it_n c_ hf
      refine lv_iconst (v := 0) S.1 S.2.1 dX12_feuds_31 ic_0 ?_
      refine lv_iadd S.1 S.2.1 dX12_feuds_32 ?_
      refine lv_topi (fun x7 ex7 => ?_)
      have hf := ltn_e hf ex7
      refine lv_istore_n (lv' := [(1, .int x7), (0, .ref o_q0), (2, .int s2.2)]) S.1 S.2.1 dX12_feuds_33 rfl hl (by decide) rfl (fun ls hl => ?_)
      refine q_iinc (w := 1) (lv' := [(2, .int (s2.2 + 1)), (1, .int x7), (0, .ref o_q0)]) S dX12_feuds_34 hl (k := 2) rfl ic_1 (by decide) rfl (fun ls hl => ?_)
      refine lv_goto (tgt := 4) S.1 S.2.1 dX12_feuds_37 (by decide) ?_
      exact hI3 _ (Option.some.inj hf).symm _ (lv_sub hl [2, 1, 0] rfl)
    · have hf := it_p c_ hf
      refine lv_iconst (v := 1) S.1 S.2.1 dX12_feuds_27 ic_1 ?_
      refine lv_goto (tgt := 32) S.1 S.2.1 dX12_feuds_28 (by decide) ?_
      refine lv_iadd S.1 S.2.1 dX12_feuds_32 ?_
      refine lv_topi (fun x6 ex6 => ?_)
      have hf := ltn_e hf ex6
      refine lv_istore_n (lv' := [(1, .int x6), (0, .ref o_q0), (2, .int s2.2)]) S.1 S.2.1 dX12_feuds_33 rfl hl (by decide) rfl (fun ls hl => ?_)
      refine q_iinc (w := 1) (lv' := [(2, .int (s2.2 + 1)), (1, .int x6), (0, .ref o_q0)]) S dX12_feuds_34 hl (k := 2) rfl ic_1 (by decide) rfl (fun ls hl => ?_)
      refine lv_goto (tgt := 4) S.1 S.2.1 dX12_feuds_37 (by decide) ?_
      exact hI3 _ (Option.some.inj hf).symm _ (lv_sub hl [2, 1, 0] rfl)
def f_X12_loners_L4 (fu : Nat) (o_people : Int32) (o_debts : (Nat → Int32)) (s2 : Int32 × Int32) : Option ((Int32 × Int32) ⊕ (Int32)) := if o_people ≤ s2.2 then some (.inr s2.1) else bnd (α := Int32) (f_X12_owesAll fu o_people o_debts s2.2) (fun x5 => if x5 = 0 then bnd (α := Int32) (f_X12_owedAll fu o_people o_debts s2.2) (fun x6 => if x6 = 0 then ltn (s2.1 ||| (jshl (1 : Int32) s2.2)) (fun x7 => some (.inl (x7, (s2.2 + 1)))) else ltn (s2.1 ||| (0 : Int32)) (fun x8 => some (.inl (x8, (s2.2 + 1))))) else ltn (s2.1 ||| (0 : Int32)) (fun x9 => some (.inl (x9, (s2.2 + 1)))))
def f_X12_loners (fu : Nat) (o_people : Int32) (o_debts : (Nat → Int32)) : Option (Int32) := bnd (α := Int32) (lp (f_X12_loners_L4 fu o_people o_debts) fu ((0 : Int32), (0 : Int32))) (fun v10 => some v10)
set_option maxHeartbeats 4000000 in
set_option maxRecDepth 100000 in
theorem c_X12_loners {l : Launch} {D : va_G} {g : Nat → ClassId} {fu : Nat} {o_q0 o_q1 o_q2 o_q3 o_q4 o_q5 o_q6 o_q7 o_q8 o_q9 o_q10 o_q11 o_q12 o_q13 o_q14 o_q15 o_q16 o_q17 o_q18 o_q19 o_q20 o_q21 o_q22 : Nat} {o_code : Int32} {o_tape : (Nat → Int32)} {o_size : (Nat → Int32)} {o_fault : (Nat → Int32)} {o_faultPlace : (Nat → Int32)} {o_many : (Nat → Int32)} {o_towns : (Nat → Int32)} {o_weeks : (Nat → Int32)} {o_logs : (Nat → Int32)} {o_reached : Int32} {o_length : Int32} {o_begins : Int32} {o_sort : Int32} {o_value : Int32} {o_word : Int64} {o_wrongAt : Int32} {o_laterFault : Int32} {o_laterPlace : Int32} {o_told : (Nat → Int32)} {o_read : (Nat → Int32)} {o_farOne : Int32} {o_good : Int32} {o_town : Int32} {o_people : Int32} {o_when : Int32} {o_sat : Int32} {o_quiet : Int32} {o_vain : Int32} {o_lent : Int32} {o_forgiven : Int32} {o_sundays : Int32} {o_purse : (Nat → Int32)} {o_beside : (Nat → Int32)} {o_debts : (Nat → Int32)} {o_sitting : (Nat → Int32)} {o_visited : (Nat → Int32)} {o_week : Int32} {o_heaps : (Nat → Int32)} {o_taken : (Nat → Int32)} {o_best : (Nat → Int32)} {o_more : (Nat → Int32)} {o_firstOne : Int32} {o_log : Int32} {o_fitting : (Nat → Int32)} {o_found : Int32} {o_seed : Int32} {o_row : (Nat → Int32)} {o_saved : (Nat → Int32)} {r : Int32} (hf : f_X12_loners fu o_people o_debts = some r) : Rd l D (gy g) yX12_loners cX12_loners 3 (some .int) 2 [.ref o_q0] (wMd g o_q0 o_q1 o_q2 o_q3 o_q4 o_q5 o_q6 o_q7 o_q8 o_q9 o_q10 o_q11 o_q12 o_q13 o_q14 o_q15 o_q16 o_q17 o_q18 o_q19 o_q20 o_q21 o_q22 o_code o_tape o_size o_fault o_faultPlace o_many o_towns o_weeks o_logs o_reached o_length o_begins o_sort o_value o_word o_wrongAt o_laterFault o_laterPlace o_told o_read o_farOne o_good o_town o_people o_when o_sat o_quiet o_vain o_lent o_forgiven o_sundays o_purse o_beside o_debts o_sitting o_visited o_week o_heaps o_taken o_best o_more o_firstOne o_log o_fitting o_found o_seed o_row o_saved) (some (.int r)) := by
  refine Rd.ofI (by decide) (Nat.le_of_ble_eq_true rfl) ?_
  intro p e s m args below meth c Q S hK hP hret ls hl
  have hl : lv_has ls 3 [(0, .ref o_q0)] := hl
  refine lv_iconst (v := 0) S.1 S.2.1 dX12_loners_0 ic_0 ?_
  refine lv_istore_n (lv' := [(1, .int (0 : Int32)), (0, .ref o_q0)]) S.1 S.2.1 dX12_loners_1 rfl hl (by decide) rfl (fun ls hl => ?_)
  refine lv_iconst (v := 0) S.1 S.2.1 dX12_loners_2 ic_0 ?_
  refine lv_istore_n (lv' := [(2, .int (0 : Int32)), (1, .int (0 : Int32)), (0, .ref o_q0)]) S.1 S.2.1 dX12_loners_3 rfl hl (by decide) rfl (fun ls hl => ?_)
  obtain ⟨x3, hf_, hk3⟩ := bnd_e hf
  have hE3 : ∀ (v10 : Int32), v10 = x3 → ∀ (ls : Array Slot), lv_has ls 3 [(1, .int v10)] → W p l e (rmD 2) s m args below meth c s.heap [] 0 0 Q (F0 m 44 ls []) := by
    intro v10 e_ ls hl
    subst e_
    have hf := hk3
    refine lv_iload_n S.1 S.2.1 dX12_loners_44 rfl (lv_at hl 0 rfl) ?_
    have e_ := Option.some.inj hf
    subst e_
    exact hret _ _ dX12_loners_45
  refine lp_ind (P := fun (s2 : Int32 × Int32) => ∀ (ls : Array Slot), lv_has ls 3 [(0, .ref o_q0), (1, .int s2.1), (2, .int s2.2)] → W p l e (rmD 2) s m args below meth c s.heap [] 0 0 Q (F0 m 4 ls [])) ?_ _ _ hf_ _ (lv_sub hl [2, 1, 0] rfl)
  intro s2 x4 hf hI3 hR3 ls hl
  refine lv_iload_n S.1 S.2.1 dX12_loners_4 rfl (lv_at hl 2 rfl) ?_
  refine lv_aload_n S.1 S.2.1 dX12_loners_5 rfl (lv_at hl 0 rfl) ?_
  refine gfX12_230 S hK hP 0 rfl rfl dX12_loners_6 ?_
  refine lv_icmp_ge (tgt := 44) S.1 S.2.1 dX12_loners_9 (by decide) (fun c_ => ?_) (fun c_ => ?_)
  · have hf := it_p c_ hf
    have e_ := hR3 _ (Option.some.inj hf).symm
    exact hE3 _ e_ _ (lv_sub hl [1] rfl)
  · have hf := it_n c_ hf
    refine lv_iload_n S.1 S.2.1 dX12_loners_12 rfl (lv_at hl 1 rfl) ?_
    refine lv_aload_n S.1 S.2.1 dX12_loners_13 rfl (lv_at hl 0 rfl) ?_
    refine lv_iload_n S.1 S.2.1 dX12_loners_14 rfl (lv_at hl 2 rfl) ?_
    obtain ⟨x5, hx5, hf⟩ := bnd_e hf
    refine Rd.cV (c_X12_owesAll hx5) S hK hP 0 10 rfl rfl kVX12_311 rfl hl.1 [.int s2.1] rfl (Nat.le_of_ble_eq_true rfl) ⟨(Nat.le_of_ble_eq_true rfl), (Nat.le_of_ble_eq_true rfl)⟩ ⟨(Nat.zero_le _), (Nat.zero_le _)⟩ dX12_loners_15 ?_
    refine lv_if_ne (tgt := 35) S.1 S.2.1 dX12_loners_18 (by decide) (fun c_ => ?_) (fun c_ => ?_)
    · have hf := it_n c_ hf
      refine lv_iconst (v := 0) S.1 S.2.1 dX12_loners_35 ic_0 ?_
      refine lv_ior S.1 S.2.1 dX12_loners_36 ?_
      refine lv_topi (fun x9 ex9 => ?_)
      have hf := ltn_e hf ex9
      refine lv_istore_n (lv' := [(1, .int x9), (0, .ref o_q0), (2, .int s2.2)]) S.1 S.2.1 dX12_loners_37 rfl hl (by decide) rfl (fun ls hl => ?_)
      refine q_iinc (w := 1) (lv' := [(2, .int (s2.2 + 1)), (1, .int x9), (0, .ref o_q0)]) S dX12_loners_38 hl (k := 2) rfl ic_1 (by decide) rfl (fun ls hl => ?_)
      refine lv_goto (tgt := 4) S.1 S.2.1 dX12_loners_41 (by decide) ?_
      exact hI3 _ (Option.some.inj hf).symm _ (lv_sub hl [2, 1, 0] rfl)
    · have hf := it_p c_ hf
      refine lv_aload_n S.1 S.2.1 dX12_loners_21 rfl (lv_at hl 0 rfl) ?_
      refine lv_iload_n S.1 S.2.1 dX12_loners_22 rfl (lv_at hl 2 rfl) ?_
      obtain ⟨x6, hx6, hf⟩ := bnd_e hf
      refine Rd.cV (c_X12_owedAll hx6) S hK hP 0 10 rfl rfl kVX12_329 rfl hl.1 [.int s2.1] rfl (Nat.le_of_ble_eq_true rfl) ⟨(Nat.le_of_ble_eq_true rfl), (Nat.le_of_ble_eq_true rfl)⟩ ⟨(Nat.zero_le _), (Nat.zero_le _)⟩ dX12_loners_23 ?_
      refine lv_if_ne (tgt := 35) S.1 S.2.1 dX12_loners_26 (by decide) (fun c_ => ?_) (fun c_ => ?_)
      · have hf := it_n c_ hf
        refine lv_iconst (v := 0) S.1 S.2.1 dX12_loners_35 ic_0 ?_
        refine lv_ior S.1 S.2.1 dX12_loners_36 ?_
        refine lv_topi (fun x8 ex8 => ?_)
        have hf := ltn_e hf ex8
        refine lv_istore_n (lv' := [(1, .int x8), (0, .ref o_q0), (2, .int s2.2)]) S.1 S.2.1 dX12_loners_37 rfl hl (by decide) rfl (fun ls hl => ?_)
        refine q_iinc (w := 1) (lv' := [(2, .int (s2.2 + 1)), (1, .int x8), (0, .ref o_q0)]) S dX12_loners_38 hl (k := 2) rfl ic_1 (by decide) rfl (fun ls hl => ?_)
        refine lv_goto (tgt := 4) S.1 S.2.1 dX12_loners_41 (by decide) ?_
        exact hI3 _ (Option.some.inj hf).symm _ (lv_sub hl [2, 1, 0] rfl)
      · have hf := it_p c_ hf
        refine lv_iconst (v := 1) S.1 S.2.1 dX12_loners_29 ic_1 ?_
        refine lv_iload_n S.1 S.2.1 dX12_loners_30 rfl (lv_at hl 2 rfl) ?_
        refine lv_ishl S.1 S.2.1 dX12_loners_31 ?_
        refine lv_goto (tgt := 36) S.1 S.2.1 dX12_loners_32 (by decide) ?_
        refine lv_ior S.1 S.2.1 dX12_loners_36 ?_
        refine lv_topi (fun x7 ex7 => ?_)
        have hf := ltn_e hf ex7
        refine lv_istore_n (lv' := [(1, .int x7), (0, .ref o_q0), (2, .int s2.2)]) S.1 S.2.1 dX12_loners_37 rfl hl (by decide) rfl (fun ls hl => ?_)
        refine q_iinc (w := 1) (lv' := [(2, .int (s2.2 + 1)), (1, .int x7), (0, .ref o_q0)]) S dX12_loners_38 hl (k := 2) rfl ic_1 (by decide) rfl (fun ls hl => ?_)
        refine lv_goto (tgt := 4) S.1 S.2.1 dX12_loners_41 (by decide) ?_
        exact hI3 _ (Option.some.inj hf).symm _ (lv_sub hl [2, 1, 0] rfl)
def f_X12_bore_L18 (fu : Nat) (o_towns : (Nat → Int32)) (o_town : Int32) (o_people : Int32) (s2 : Int32 × Int32 × Int32) (s6 : Int32 × Int32) : Option ((Int32 × Int32) ⊕ (Int32)) := if o_people ≤ s6.2 then some (.inr s6.1) else bnd (α := Int32) (if s6.1 = (-1 : Int32) then some (1 : Int32) else bnd (α := Int32) (f_X12_of fu o_towns o_town ((1 : Int32) + s6.2)) (fun x12 => bnd (α := Int32) (f_X12_of fu o_towns o_town ((1 : Int32) + s6.1)) (fun x13 => if x13 ≤ x12 then some (0 : Int32) else some (1 : Int32)))) (fun v10 => bnd (α := Int32) (f_X12_has fu s2.1 s6.2) (fun x11 => if x11 = 0 then if v10 = 0 then some (.inl (s6.1, (s6.2 + 1))) else some (.inl (s6.2, (s6.2 + 1))) else some (.inl (s6.1, (s6.2 + 1)))))
def f_X12_bore_L7 (fu : Nat) (o_towns : (Nat → Int32)) (o_town : Int32) (o_people : Int32) (p1 : Int32) (s2 : Int32 × Int32 × Int32) : Option ((Int32 × Int32 × Int32) ⊕ (Int32)) := if p1 < s2.2.2 then some (.inr s2.2.1) else bnd (α := Int32) (lp (f_X12_bore_L18 fu o_towns o_town o_people s2) fu ((-1 : Int32), (0 : Int32))) (fun v14 => ltn (s2.1 ||| (jshl (1 : Int32) v14)) (fun x15 => some (.inl (x15, v14, (s2.2.2 + 1)))))
def f_X12_bore (fu : Nat) (o_towns : (Nat → Int32)) (o_town : Int32) (o_people : Int32) (p1 : Int32) : Option (Int32) := bnd (α := Int32) (lp (f_X12_bore_L7 fu o_towns o_town o_people p1) fu ((0 : Int32), (-1 : Int32), (0 : Int32))) (fun v16 => some v16)
set_option maxHeartbeats 4000000 in
set_option maxRecDepth 100000 in
theorem c_X12_bore {l : Launch} {D : va_G} {g : Nat → ClassId} {fu : Nat} {o_q0 o_q1 o_q2 o_q3 o_q4 o_q5 o_q6 o_q7 o_q8 o_q9 o_q10 o_q11 o_q12 o_q13 o_q14 o_q15 o_q16 o_q17 o_q18 o_q19 o_q20 o_q21 o_q22 : Nat} {o_code : Int32} {o_tape : (Nat → Int32)} {o_size : (Nat → Int32)} {o_fault : (Nat → Int32)} {o_faultPlace : (Nat → Int32)} {o_many : (Nat → Int32)} {o_towns : (Nat → Int32)} {o_weeks : (Nat → Int32)} {o_logs : (Nat → Int32)} {o_reached : Int32} {o_length : Int32} {o_begins : Int32} {o_sort : Int32} {o_value : Int32} {o_word : Int64} {o_wrongAt : Int32} {o_laterFault : Int32} {o_laterPlace : Int32} {o_told : (Nat → Int32)} {o_read : (Nat → Int32)} {o_farOne : Int32} {o_good : Int32} {o_town : Int32} {o_people : Int32} {o_when : Int32} {o_sat : Int32} {o_quiet : Int32} {o_vain : Int32} {o_lent : Int32} {o_forgiven : Int32} {o_sundays : Int32} {o_purse : (Nat → Int32)} {o_beside : (Nat → Int32)} {o_debts : (Nat → Int32)} {o_sitting : (Nat → Int32)} {o_visited : (Nat → Int32)} {o_week : Int32} {o_heaps : (Nat → Int32)} {o_taken : (Nat → Int32)} {o_best : (Nat → Int32)} {o_more : (Nat → Int32)} {o_firstOne : Int32} {o_log : Int32} {o_fitting : (Nat → Int32)} {o_found : Int32} {o_seed : Int32} {o_row : (Nat → Int32)} {o_saved : (Nat → Int32)} {p1 : Int32} {r : Int32} (hf : f_X12_bore fu o_towns o_town o_people p1 = some r) : Rd l D (gy g) yX12_bore cX12_bore 7 (some .int) 1 [.ref o_q0, .int p1] (wMd g o_q0 o_q1 o_q2 o_q3 o_q4 o_q5 o_q6 o_q7 o_q8 o_q9 o_q10 o_q11 o_q12 o_q13 o_q14 o_q15 o_q16 o_q17 o_q18 o_q19 o_q20 o_q21 o_q22 o_code o_tape o_size o_fault o_faultPlace o_many o_towns o_weeks o_logs o_reached o_length o_begins o_sort o_value o_word o_wrongAt o_laterFault o_laterPlace o_told o_read o_farOne o_good o_town o_people o_when o_sat o_quiet o_vain o_lent o_forgiven o_sundays o_purse o_beside o_debts o_sitting o_visited o_week o_heaps o_taken o_best o_more o_firstOne o_log o_fitting o_found o_seed o_row o_saved) (some (.int r)) := by
  refine Rd.ofI (by decide) (Nat.le_of_ble_eq_true rfl) ?_
  intro p e s m args below meth c Q S hK hP hret ls hl
  have hl : lv_has ls 7 [(0, .ref o_q0), (1, .int p1)] := hl
  refine lv_iconst (v := 0) S.1 S.2.1 dX12_bore_0 ic_0 ?_
  refine lv_istore_n (lv' := [(2, .int (0 : Int32)), (0, .ref o_q0), (1, .int p1)]) S.1 S.2.1 dX12_bore_1 rfl hl (by decide) rfl (fun ls hl => ?_)
  refine lv_iconst (v := (-1)) S.1 S.2.1 dX12_bore_2 ic_m1 ?_
  refine lv_istore_n (lv' := [(3, .int (-1 : Int32)), (2, .int (0 : Int32)), (0, .ref o_q0), (1, .int p1)]) S.1 S.2.1 dX12_bore_3 rfl hl (by decide) rfl (fun ls hl => ?_)
  refine lv_iconst (v := 0) S.1 S.2.1 dX12_bore_4 ic_0 ?_
  refine lv_istore (lv' := [(4, .int (0 : Int32)), (3, .int (-1 : Int32)), (2, .int (0 : Int32)), (0, .ref o_q0), (1, .int p1)]) S.1 S.2.1 dX12_bore_5 hl (by decide) rfl (fun ls hl => ?_)
  obtain ⟨x3, hf_, hk3⟩ := bnd_e hf
  have hE3 : ∀ (v16 : Int32), v16 = x3 → ∀ (ls : Array Slot), lv_has ls 7 [(3, .int v16)] → W p l e (rmD 1) s m args below meth c s.heap [] 0 0 Q (F0 m 96 ls []) := by
    intro v16 e_ ls hl
    subst e_
    have hf := hk3
    refine lv_iload_n S.1 S.2.1 dX12_bore_96 rfl (lv_at hl 0 rfl) ?_
    have e_ := Option.some.inj hf
    subst e_
    exact hret _ _ dX12_bore_97
  refine lp_ind (P := fun (s2 : Int32 × Int32 × Int32) => ∀ (ls : Array Slot), lv_has ls 7 [(0, .ref o_q0), (1, .int p1), (2, .int s2.1), (3, .int s2.2.1), (4, .int s2.2.2)] → W p l e (rmD 1) s m args below meth c s.heap [] 0 0 Q (F0 m 7 ls [])) ?_ _ _ hf_ _ (lv_sub hl [3, 4, 2, 1, 0] rfl)
  intro s2 x4 hf hI3 hR3 ls hl
  refine lv_iload S.1 S.2.1 dX12_bore_7 (lv_at hl 4 rfl) ?_
  refine lv_iload_n S.1 S.2.1 dX12_bore_9 rfl (lv_at hl 1 rfl) ?_
  refine lv_icmp_gt (tgt := 96) S.1 S.2.1 dX12_bore_10 (by decide) (fun c_ => ?_) (fun c_ => ?_)
  · have hf := it_p c_ hf
    have e_ := hR3 _ (Option.some.inj hf).symm
    exact hE3 _ e_ _ (lv_sub hl [3] rfl)
  · have hf := it_n c_ hf
    refine lv_iconst (v := (-1)) S.1 S.2.1 dX12_bore_13 ic_m1 ?_
    refine lv_istore_n (lv' := [(3, .int (-1 : Int32)), (0, .ref o_q0), (1, .int p1), (2, .int s2.1), (4, .int s2.2.2)]) S.1 S.2.1 dX12_bore_14 rfl hl (by decide) rfl (fun ls hl => ?_)
    refine lv_iconst (v := 0) S.1 S.2.1 dX12_bore_15 ic_0 ?_
    refine lv_istore (lv' := [(5, .int (0 : Int32)), (3, .int (-1 : Int32)), (0, .ref o_q0), (1, .int p1), (2, .int s2.1), (4, .int s2.2.2)]) S.1 S.2.1 dX12_bore_16 hl (by decide) rfl (fun ls hl => ?_)
    obtain ⟨x7, hf_, hk7⟩ := bnd_e hf
    have hE7 : ∀ (v14 : Int32), v14 = x7 → ∀ (ls : Array Slot), lv_has ls 7 [(0, .ref o_q0), (1, .int p1), (2, .int s2.1), (3, .int v14), (4, .int s2.2.2)] → W p l e (rmD 1) s m args below meth c s.heap [] 0 0 Q (F0 m 84 ls []) := by
      intro v14 e_ ls hl
      subst e_
      have hf := hk7
      refine lv_iload_n S.1 S.2.1 dX12_bore_84 rfl (lv_at hl 2 rfl) ?_
      refine lv_iconst (v := 1) S.1 S.2.1 dX12_bore_85 ic_1 ?_
      refine lv_iload_n S.1 S.2.1 dX12_bore_86 rfl (lv_at hl 3 rfl) ?_
      refine lv_ishl S.1 S.2.1 dX12_bore_87 ?_
      refine lv_ior S.1 S.2.1 dX12_bore_88 ?_
      refine lv_topi (fun x15 ex15 => ?_)
      have hf := ltn_e hf ex15
      refine lv_istore_n (lv' := [(2, .int x15), (0, .ref o_q0), (1, .int p1), (3, .int v14), (4, .int s2.2.2)]) S.1 S.2.1 dX12_bore_89 rfl hl (by decide) rfl (fun ls hl => ?_)
      refine q_iinc (w := 1) (lv' := [(4, .int (s2.2.2 + 1)), (2, .int x15), (0, .ref o_q0), (1, .int p1), (3, .int v14)]) S dX12_bore_90 hl (k := 4) rfl ic_1 (by decide) rfl (fun ls hl => ?_)
      refine lv_goto (tgt := 7) S.1 S.2.1 dX12_bore_93 (by decide) ?_
      exact hI3 _ (Option.some.inj hf).symm _ (lv_sub hl [2, 3, 1, 4, 0] rfl)
    refine lp_ind (P := fun (s6 : Int32 × Int32) => ∀ (ls : Array Slot), lv_has ls 7 [(0, .ref o_q0), (1, .int p1), (2, .int s2.1), (3, .int s6.1), (4, .int s2.2.2), (5, .int s6.2)] → W p l e (rmD 1) s m args below meth c s.heap [] 0 0 Q (F0 m 18 ls [])) ?_ _ _ hf_ _ (lv_sub hl [2, 3, 4, 1, 5, 0] rfl)
    intro s6 x8 hf hI7 hR7 ls hl
    refine lv_iload S.1 S.2.1 dX12_bore_18 (lv_at hl 5 rfl) ?_
    refine lv_aload_n S.1 S.2.1 dX12_bore_20 rfl (lv_at hl 0 rfl) ?_
    refine gfX12_230 S hK hP 0 rfl rfl dX12_bore_21 ?_
    refine lv_icmp_ge (tgt := 84) S.1 S.2.1 dX12_bore_24 (by decide) (fun c_ => ?_) (fun c_ => ?_)
    · have hf := it_p c_ hf
      have e_ := hR7 _ (Option.some.inj hf).symm
      exact hE7 _ e_ _ (lv_sub hl [0, 1, 2, 3, 4] rfl)
    · have hf := it_n c_ hf
      refine lv_iload_n S.1 S.2.1 dX12_bore_27 rfl (lv_at hl 3 rfl) ?_
      refine lv_iconst (v := (-1)) S.1 S.2.1 dX12_bore_28 ic_m1 ?_
      obtain ⟨x9, hf_, hk9⟩ := bnd_e hf
      have hJ9 : ∀ (v10 : Int32), v10 = x9 → ∀ (ls : Array Slot), lv_has ls 7 [(0, .ref o_q0), (1, .int p1), (2, .int s2.1), (3, .int s6.1), (4, .int s2.2.2), (5, .int s6.2)] → W p l e (rmD 1) s m args below meth c s.heap [] 0 0 Q (F0 m 55 ls [.int v10]) := by
        intro v10 e_ ls hl
        subst e_
        have hf := hk9
        refine lv_istore (lv' := [(6, .int v10), (0, .ref o_q0), (1, .int p1), (2, .int s2.1), (3, .int s6.1), (4, .int s2.2.2), (5, .int s6.2)]) S.1 S.2.1 dX12_bore_55 hl (by decide) rfl (fun ls hl => ?_)
        refine lv_iload_n S.1 S.2.1 dX12_bore_57 rfl (lv_at hl 3 rfl) ?_
        refine lv_iload S.1 S.2.1 dX12_bore_58 (lv_at hl 6 rfl) ?_
        obtain ⟨x11, hx11, hf⟩ := bnd_e hf
        refine Rd.cS (c_X12_has hx11) S hK va_P.nil kSX12_82 rfl hl.1 [] rfl (Nat.le_of_ble_eq_true rfl) ⟨(Nat.le_of_ble_eq_true rfl), (Nat.le_of_ble_eq_true rfl)⟩ ⟨(Nat.zero_le _), (Nat.zero_le _)⟩ dX12_bore_60 ?_
        refine lv_if_ne (tgt := 76) S.1 S.2.1 dX12_bore_63 (by decide) (fun c_ => ?_) (fun c_ => ?_)
        · have hf := it_n c_ hf
          refine lv_iload_n S.1 S.2.1 dX12_bore_76 rfl (lv_at hl 4 rfl) ?_
          refine lv_istore_n (lv' := [(3, .int s6.1), (6, .int v10), (0, .ref o_q0), (1, .int p1), (2, .int s2.1), (4, .int s2.2.2), (5, .int s6.2)]) S.1 S.2.1 dX12_bore_77 rfl hl (by decide) rfl (fun ls hl => ?_)
          refine q_iinc (w := 1) (lv' := [(5, .int (s6.2 + 1)), (3, .int s6.1), (6, .int v10), (0, .ref o_q0), (1, .int p1), (2, .int s2.1), (4, .int s2.2.2)]) S dX12_bore_78 hl (k := 6) rfl ic_1 (by decide) rfl (fun ls hl => ?_)
          refine lv_goto (tgt := 18) S.1 S.2.1 dX12_bore_81 (by decide) ?_
          exact hI7 _ (Option.some.inj hf).symm _ (lv_sub hl [3, 4, 5, 1, 6, 0] rfl)
        · have hf := it_p c_ hf
          refine lv_iload S.1 S.2.1 dX12_bore_66 (lv_at hl 0 rfl) ?_
          refine lv_if_eq (tgt := 76) S.1 S.2.1 dX12_bore_68 (by decide) (fun c_ => ?_) (fun c_ => ?_)
          · have hf := it_p c_ hf
            refine lv_iload_n S.1 S.2.1 dX12_bore_76 rfl (lv_at hl 4 rfl) ?_
            refine lv_istore_n (lv' := [(3, .int s6.1), (6, .int v10), (0, .ref o_q0), (1, .int p1), (2, .int s2.1), (4, .int s2.2.2), (5, .int s6.2)]) S.1 S.2.1 dX12_bore_77 rfl hl (by decide) rfl (fun ls hl => ?_)
            refine q_iinc (w := 1) (lv' := [(5, .int (s6.2 + 1)), (3, .int s6.1), (6, .int v10), (0, .ref o_q0), (1, .int p1), (2, .int s2.1), (4, .int s2.2.2)]) S dX12_bore_78 hl (k := 6) rfl ic_1 (by decide) rfl (fun ls hl => ?_)
            refine lv_goto (tgt := 18) S.1 S.2.1 dX12_bore_81 (by decide) ?_
            exact hI7 _ (Option.some.inj hf).symm _ (lv_sub hl [3, 4, 5, 1, 6, 0] rfl)
          · have hf := it_n c_ hf
            refine lv_iload S.1 S.2.1 dX12_bore_71 (lv_at hl 6 rfl) ?_
            refine lv_goto (tgt := 77) S.1 S.2.1 dX12_bore_73 (by decide) ?_
            refine lv_istore_n (lv' := [(3, .int s6.2), (6, .int v10), (0, .ref o_q0), (1, .int p1), (2, .int s2.1), (4, .int s2.2.2), (5, .int s6.2)]) S.1 S.2.1 dX12_bore_77 rfl hl (by decide) rfl (fun ls hl => ?_)
            refine q_iinc (w := 1) (lv' := [(5, .int (s6.2 + 1)), (3, .int s6.2), (6, .int v10), (0, .ref o_q0), (1, .int p1), (2, .int s2.1), (4, .int s2.2.2)]) S dX12_bore_78 hl (k := 6) rfl ic_1 (by decide) rfl (fun ls hl => ?_)
            refine lv_goto (tgt := 18) S.1 S.2.1 dX12_bore_81 (by decide) ?_
            exact hI7 _ (Option.some.inj hf).symm _ (lv_sub hl [3, 4, 5, 1, 6, 0] rfl)
      have hf := hf_
      refine lv_icmp_eq (tgt := 50) S.1 S.2.1 dX12_bore_29 (by decide) (fun c_ => ?_) (fun c_ => ?_)
      · have hf := it_p c_ hf
        refine lv_iconst (v := 1) S.1 S.2.1 dX12_bore_50 ic_1 ?_
        refine lv_goto (tgt := 55) S.1 S.2.1 dX12_bore_51 (by decide) ?_
        exact hJ9 _ (Option.some.inj hf) _ (lv_sub hl [0, 1, 2, 3, 4, 5] rfl)
      · have hf := it_n c_ hf
        refine lv_aload_n S.1 S.2.1 dX12_bore_32 rfl (lv_at hl 0 rfl) ?_
        refine lv_iconst (v := 1) S.1 S.2.1 dX12_bore_33 ic_1 ?_
        refine lv_iload S.1 S.2.1 dX12_bore_34 (lv_at hl 5 rfl) ?_
        refine lv_iadd S.1 S.2.1 dX12_bore_36 ?_
        obtain ⟨x12, hx12, hf⟩ := bnd_e hf
        refine Rd.cV (c_X12_of hx12) S hK hP 0 10 rfl rfl kVX12_226 rfl hl.1 [] rfl (Nat.le_of_ble_eq_true rfl) ⟨(Nat.le_of_ble_eq_true rfl), (Nat.le_of_ble_eq_true rfl)⟩ ⟨(Nat.zero_le _), (Nat.zero_le _)⟩ dX12_bore_37 ?_
        refine lv_aload_n S.1 S.2.1 dX12_bore_40 rfl (lv_at hl 0 rfl) ?_
        refine lv_iconst (v := 1) S.1 S.2.1 dX12_bore_41 ic_1 ?_
        refine lv_iload_n S.1 S.2.1 dX12_bore_42 rfl (lv_at hl 3 rfl) ?_
        refine lv_iadd S.1 S.2.1 dX12_bore_43 ?_
        obtain ⟨x13, hx13, hf⟩ := bnd_e hf
        refine Rd.cV (c_X12_of hx13) S hK hP 0 10 rfl rfl kVX12_226 rfl hl.1 [.int x12] rfl (Nat.le_of_ble_eq_true rfl) ⟨(Nat.le_of_ble_eq_true rfl), (Nat.le_of_ble_eq_true rfl)⟩ ⟨(Nat.zero_le _), (Nat.zero_le _)⟩ dX12_bore_44 ?_
        refine lv_icmp_ge (tgt := 54) S.1 S.2.1 dX12_bore_47 (by decide) (fun c_ => ?_) (fun c_ => ?_)
        · have hf := it_p c_ hf
          refine lv_iconst (v := 0) S.1 S.2.1 dX12_bore_54 ic_0 ?_
          exact hJ9 _ (Option.some.inj hf) _ (lv_sub hl [0, 1, 2, 3, 4, 5] rfl)
        · have hf := it_n c_ hf
          refine lv_iconst (v := 1) S.1 S.2.1 dX12_bore_50 ic_1 ?_
          refine lv_goto (tgt := 55) S.1 S.2.1 dX12_bore_51 (by decide) ?_
          exact hJ9 _ (Option.some.inj hf) _ (lv_sub hl [0, 1, 2, 3, 4, 5] rfl)
def f_X12_ring (fu : Nat) (o_code : Int32) (o_many : (Nat → Int32)) (o_towns : (Nat → Int32)) (o_town : Int32) (o_people : Int32) (o_when : Int32) (o_sat : Int32) (o_quiet : Int32) (o_vain : Int32) (o_lent : Int32) (o_forgiven : Int32) (o_sundays : Int32) (o_purse : (Nat → Int32)) (o_beside : (Nat → Int32)) (o_debts : (Nat → Int32)) (o_sitting : (Nat → Int32)) (o_visited : (Nat → Int32)) (p1 : Int32) (p2 : Int32) : Option (Int32 × Int32 × Int32 × Int32 × Int32 × Int32 × Int32 × Int32 × Int32 × Int32 × Int32 × (Nat → Int32) × (Nat → Int32) × (Nat → Int32) × (Nat → Int32) × (Nat → Int32)) := bnd (α := Int32 × Int32 × Int32 × Int32 × Int32 × Int32 × Int32 × Int32 × Int32 × Int32 × (Nat → Int32) × (Nat → Int32) × (Nat → Int32) × (Nat → Int32) × (Nat → Int32)) (f_X12_hand fu o_many o_towns o_town o_people o_when o_sat o_quiet o_vain o_lent o_forgiven o_sundays o_purse o_beside o_debts o_sitting o_visited p1) (fun x1 => if x1.1 = 0 then some ((-2 : Int32), (0 : Int32), x1.2.1, x1.2.2.1, x1.2.2.2.1, x1.2.2.2.2.1, x1.2.2.2.2.2.1, x1.2.2.2.2.2.2.1, x1.2.2.2.2.2.2.2.1, x1.2.2.2.2.2.2.2.2.1, x1.2.2.2.2.2.2.2.2.2.1, x1.2.2.2.2.2.2.2.2.2.2.1, x1.2.2.2.2.2.2.2.2.2.2.2.1, x1.2.2.2.2.2.2.2.2.2.2.2.2.1, x1.2.2.2.2.2.2.2.2.2.2.2.2.2.1, x1.2.2.2.2.2.2.2.2.2.2.2.2.2.2) else if p2 < (20 : Int32) then if p2 < (10 : Int32) then if p2 = 0 then bnd (α := Int32) (f_X12_mutual fu x1.2.2.1 x1.2.2.2.2.2.2.2.2.2.2.2.2.1) (fun x2 => some (x2, (0 : Int32), x1.2.1, x1.2.2.1, x1.2.2.2.1, x1.2.2.2.2.1, x1.2.2.2.2.2.1, x1.2.2.2.2.2.2.1, x1.2.2.2.2.2.2.2.1, x1.2.2.2.2.2.2.2.2.1, x1.2.2.2.2.2.2.2.2.2.1, x1.2.2.2.2.2.2.2.2.2.2.1, x1.2.2.2.2.2.2.2.2.2.2.2.1, x1.2.2.2.2.2.2.2.2.2.2.2.2.1, x1.2.2.2.2.2.2.2.2.2.2.2.2.2.1, x1.2.2.2.2.2.2.2.2.2.2.2.2.2.2)) else if p2 = 1 then bnd (α := Int32) (f_X12_shortestRing fu x1.2.2.1 x1.2.2.2.2.2.2.2.2.2.2.2.2.1) (fun x3 => some (x3, (0 : Int32), x1.2.1, x1.2.2.1, x1.2.2.2.1, x1.2.2.2.2.1, x1.2.2.2.2.2.1, x1.2.2.2.2.2.2.1, x1.2.2.2.2.2.2.2.1, x1.2.2.2.2.2.2.2.2.1, x1.2.2.2.2.2.2.2.2.2.1, x1.2.2.2.2.2.2.2.2.2.2.1, x1.2.2.2.2.2.2.2.2.2.2.2.1, x1.2.2.2.2.2.2.2.2.2.2.2.2.1, x1.2.2.2.2.2.2.2.2.2.2.2.2.2.1, x1.2.2.2.2.2.2.2.2.2.2.2.2.2.2)) else if p2 = 2 then if p2 = (2 : Int32) then bnd (α := Int32) (f_X12_first fu x1.2.2.1 x1.2.2.2.2.2.2.2.2.2.2.1 x1.2.2.2.2.2.2.2.2.2.2.2.2.1 (1 : Int32)) (fun x4 => some (x4, (0 : Int32), x1.2.1, x1.2.2.1, x1.2.2.2.1, x1.2.2.2.2.1, x1.2.2.2.2.2.1, x1.2.2.2.2.2.2.1, x1.2.2.2.2.2.2.2.1, x1.2.2.2.2.2.2.2.2.1, x1.2.2.2.2.2.2.2.2.2.1, x1.2.2.2.2.2.2.2.2.2.2.1, x1.2.2.2.2.2.2.2.2.2.2.2.1, x1.2.2.2.2.2.2.2.2.2.2.2.2.1, x1.2.2.2.2.2.2.2.2.2.2.2.2.2.1, x1.2.2.2.2.2.2.2.2.2.2.2.2.2.2)) else bnd (α := Int32) (f_X12_first fu x1.2.2.1 x1.2.2.2.2.2.2.2.2.2.2.1 x1.2.2.2.2.2.2.2.2.2.2.2.2.1 (0 : Int32)) (fun x5 => some (x5, (0 : Int32), x1.2.1, x1.2.2.1, x1.2.2.2.1, x1.2.2.2.2.1, x1.2.2.2.2.2.1, x1.2.2.2.2.2.2.1, x1.2.2.2.2.2.2.2.1, x1.2.2.2.2.2.2.2.2.1, x1.2.2.2.2.2.2.2.2.2.1, x1.2.2.2.2.2.2.2.2.2.2.1, x1.2.2.2.2.2.2.2.2.2.2.2.1, x1.2.2.2.2.2.2.2.2.2.2.2.2.1, x1.2.2.2.2.2.2.2.2.2.2.2.2.2.1, x1.2.2.2.2.2.2.2.2.2.2.2.2.2.2)) else if p2 = 3 then bnd (α := Int32) (f_X12_twins fu o_towns x1.2.1 x1.2.2.1 x1.2.2.2.2.2.2.2.2.2.2.1) (fun x6 => some (x6, (0 : Int32), x1.2.1, x1.2.2.1, x1.2.2.2.1, x1.2.2.2.2.1, x1.2.2.2.2.2.1, x1.2.2.2.2.2.2.1, x1.2.2.2.2.2.2.2.1, x1.2.2.2.2.2.2.2.2.1, x1.2.2.2.2.2.2.2.2.2.1, x1.2.2.2.2.2.2.2.2.2.2.1, x1.2.2.2.2.2.2.2.2.2.2.2.1, x1.2.2.2.2.2.2.2.2.2.2.2.2.1, x1.2.2.2.2.2.2.2.2.2.2.2.2.2.1, x1.2.2.2.2.2.2.2.2.2.2.2.2.2.2)) else if p2 = 4 then if p2 = (2 : Int32) then bnd (α := Int32) (f_X12_first fu x1.2.2.1 x1.2.2.2.2.2.2.2.2.2.2.1 x1.2.2.2.2.2.2.2.2.2.2.2.2.1 (1 : Int32)) (fun x7 => some (x7, (0 : Int32), x1.2.1, x1.2.2.1, x1.2.2.2.1, x1.2.2.2.2.1, x1.2.2.2.2.2.1, x1.2.2.2.2.2.2.1, x1.2.2.2.2.2.2.2.1, x1.2.2.2.2.2.2.2.2.1, x1.2.2.2.2.2.2.2.2.2.1, x1.2.2.2.2.2.2.2.2.2.2.1, x1.2.2.2.2.2.2.2.2.2.2.2.1, x1.2.2.2.2.2.2.2.2.2.2.2.2.1, x1.2.2.2.2.2.2.2.2.2.2.2.2.2.1, x1.2.2.2.2.2.2.2.2.2.2.2.2.2.2)) else bnd (α := Int32) (f_X12_first fu x1.2.2.1 x1.2.2.2.2.2.2.2.2.2.2.1 x1.2.2.2.2.2.2.2.2.2.2.2.2.1 (0 : Int32)) (fun x8 => some (x8, (0 : Int32), x1.2.1, x1.2.2.1, x1.2.2.2.1, x1.2.2.2.2.1, x1.2.2.2.2.2.1, x1.2.2.2.2.2.2.1, x1.2.2.2.2.2.2.2.1, x1.2.2.2.2.2.2.2.2.1, x1.2.2.2.2.2.2.2.2.2.1, x1.2.2.2.2.2.2.2.2.2.2.1, x1.2.2.2.2.2.2.2.2.2.2.2.1, x1.2.2.2.2.2.2.2.2.2.2.2.2.1, x1.2.2.2.2.2.2.2.2.2.2.2.2.2.1, x1.2.2.2.2.2.2.2.2.2.2.2.2.2.2)) else if p2 = 5 then bnd (α := Int32) (f_X12_feuds fu o_towns x1.2.1 x1.2.2.1) (fun x9 => some (x9, (0 : Int32), x1.2.1, x1.2.2.1, x1.2.2.2.1, x1.2.2.2.2.1, x1.2.2.2.2.2.1, x1.2.2.2.2.2.2.1, x1.2.2.2.2.2.2.2.1, x1.2.2.2.2.2.2.2.2.1, x1.2.2.2.2.2.2.2.2.2.1, x1.2.2.2.2.2.2.2.2.2.2.1, x1.2.2.2.2.2.2.2.2.2.2.2.1, x1.2.2.2.2.2.2.2.2.2.2.2.2.1, x1.2.2.2.2.2.2.2.2.2.2.2.2.2.1, x1.2.2.2.2.2.2.2.2.2.2.2.2.2.2)) else if p2 = 6 then bnd (α := Int32) (f_X12_loners fu x1.2.2.1 x1.2.2.2.2.2.2.2.2.2.2.2.2.1) (fun x10 => some (x10, (0 : Int32), x1.2.1, x1.2.2.1, x1.2.2.2.1, x1.2.2.2.2.1, x1.2.2.2.2.2.1, x1.2.2.2.2.2.2.1, x1.2.2.2.2.2.2.2.1, x1.2.2.2.2.2.2.2.2.1, x1.2.2.2.2.2.2.2.2.2.1, x1.2.2.2.2.2.2.2.2.2.2.1, x1.2.2.2.2.2.2.2.2.2.2.2.1, x1.2.2.2.2.2.2.2.2.2.2.2.2.1, x1.2.2.2.2.2.2.2.2.2.2.2.2.2.1, x1.2.2.2.2.2.2.2.2.2.2.2.2.2.2)) else some ((-2 : Int32), (0 : Int32), x1.2.1, x1.2.2.1, x1.2.2.2.1, x1.2.2.2.2.1, x1.2.2.2.2.2.1, x1.2.2.2.2.2.2.1, x1.2.2.2.2.2.2.2.1, x1.2.2.2.2.2.2.2.2.1, x1.2.2.2.2.2.2.2.2.2.1, x1.2.2.2.2.2.2.2.2.2.2.1, x1.2.2.2.2.2.2.2.2.2.2.2.1, x1.2.2.2.2.2.2.2.2.2.2.2.2.1, x1.2.2.2.2.2.2.2.2.2.2.2.2.2.1, x1.2.2.2.2.2.2.2.2.2.2.2.2.2.2) else bnd (α := Int32) (f_X12_isPerson fu x1.2.2.1 (p2 - (10 : Int32))) (fun x11 => if x11 = 0 then some ((-2 : Int32), (0 : Int32), x1.2.1, x1.2.2.1, x1.2.2.2.1, x1.2.2.2.2.1, x1.2.2.2.2.2.1, x1.2.2.2.2.2.2.1, x1.2.2.2.2.2.2.2.1, x1.2.2.2.2.2.2.2.2.1, x1.2.2.2.2.2.2.2.2.2.1, x1.2.2.2.2.2.2.2.2.2.2.1, x1.2.2.2.2.2.2.2.2.2.2.2.1, x1.2.2.2.2.2.2.2.2.2.2.2.2.1, x1.2.2.2.2.2.2.2.2.2.2.2.2.2.1, x1.2.2.2.2.2.2.2.2.2.2.2.2.2.2) else bnd (α := Int32) (f_X12_bore fu o_towns x1.2.1 x1.2.2.1 (p2 - (10 : Int32))) (fun x12 => some (x12, (0 : Int32), x1.2.1, x1.2.2.1, x1.2.2.2.1, x1.2.2.2.2.1, x1.2.2.2.2.2.1, x1.2.2.2.2.2.2.1, x1.2.2.2.2.2.2.2.1, x1.2.2.2.2.2.2.2.2.1, x1.2.2.2.2.2.2.2.2.2.1, x1.2.2.2.2.2.2.2.2.2.2.1, x1.2.2.2.2.2.2.2.2.2.2.2.1, x1.2.2.2.2.2.2.2.2.2.2.2.2.1, x1.2.2.2.2.2.2.2.2.2.2.2.2.2.1, x1.2.2.2.2.2.2.2.2.2.2.2.2.2.2))) else bnd (α := Int32) (f_X12_isPerson fu x1.2.2.1 (p2 - (20 : Int32))) (fun x13 => if x13 = 0 then some ((-2 : Int32), (0 : Int32), x1.2.1, x1.2.2.1, x1.2.2.2.1, x1.2.2.2.2.1, x1.2.2.2.2.2.1, x1.2.2.2.2.2.2.1, x1.2.2.2.2.2.2.2.1, x1.2.2.2.2.2.2.2.2.1, x1.2.2.2.2.2.2.2.2.2.1, x1.2.2.2.2.2.2.2.2.2.2.1, x1.2.2.2.2.2.2.2.2.2.2.2.1, x1.2.2.2.2.2.2.2.2.2.2.2.2.1, x1.2.2.2.2.2.2.2.2.2.2.2.2.2.1, x1.2.2.2.2.2.2.2.2.2.2.2.2.2.2) else bnd (α := Int32) (f_X12_feudOf fu o_towns x1.2.1 x1.2.2.1 (p2 - (20 : Int32))) (fun x14 => some (x14, (0 : Int32), x1.2.1, x1.2.2.1, x1.2.2.2.1, x1.2.2.2.2.1, x1.2.2.2.2.2.1, x1.2.2.2.2.2.2.1, x1.2.2.2.2.2.2.2.1, x1.2.2.2.2.2.2.2.2.1, x1.2.2.2.2.2.2.2.2.2.1, x1.2.2.2.2.2.2.2.2.2.2.1, x1.2.2.2.2.2.2.2.2.2.2.2.1, x1.2.2.2.2.2.2.2.2.2.2.2.2.1, x1.2.2.2.2.2.2.2.2.2.2.2.2.2.1, x1.2.2.2.2.2.2.2.2.2.2.2.2.2.2))))
set_option maxHeartbeats 4000000 in
set_option maxRecDepth 100000 in
theorem c_X12_ring {l : Launch} {D : va_G} {g : Nat → ClassId} {fu : Nat} {o_q0 o_q1 o_q2 o_q3 o_q4 o_q5 o_q6 o_q7 o_q8 o_q9 o_q10 o_q11 o_q12 o_q13 o_q14 o_q15 o_q16 o_q17 o_q18 o_q19 o_q20 o_q21 o_q22 : Nat} {o_code : Int32} {o_tape : (Nat → Int32)} {o_size : (Nat → Int32)} {o_fault : (Nat → Int32)} {o_faultPlace : (Nat → Int32)} {o_many : (Nat → Int32)} {o_towns : (Nat → Int32)} {o_weeks : (Nat → Int32)} {o_logs : (Nat → Int32)} {o_reached : Int32} {o_length : Int32} {o_begins : Int32} {o_sort : Int32} {o_value : Int32} {o_word : Int64} {o_wrongAt : Int32} {o_laterFault : Int32} {o_laterPlace : Int32} {o_told : (Nat → Int32)} {o_read : (Nat → Int32)} {o_farOne : Int32} {o_good : Int32} {o_town : Int32} {o_people : Int32} {o_when : Int32} {o_sat : Int32} {o_quiet : Int32} {o_vain : Int32} {o_lent : Int32} {o_forgiven : Int32} {o_sundays : Int32} {o_purse : (Nat → Int32)} {o_beside : (Nat → Int32)} {o_debts : (Nat → Int32)} {o_sitting : (Nat → Int32)} {o_visited : (Nat → Int32)} {o_week : Int32} {o_heaps : (Nat → Int32)} {o_taken : (Nat → Int32)} {o_best : (Nat → Int32)} {o_more : (Nat → Int32)} {o_firstOne : Int32} {o_log : Int32} {o_fitting : (Nat → Int32)} {o_found : Int32} {o_seed : Int32} {o_row : (Nat → Int32)} {o_saved : (Nat → Int32)} {p1 : Int32} {p2 : Int32} {r : Int32 × Int32 × Int32 × Int32 × Int32 × Int32 × Int32 × Int32 × Int32 × Int32 × Int32 × (Nat → Int32) × (Nat → Int32) × (Nat → Int32) × (Nat → Int32) × (Nat → Int32)} (hf : f_X12_ring fu o_code o_many o_towns o_town o_people o_when o_sat o_quiet o_vain o_lent o_forgiven o_sundays o_purse o_beside o_debts o_sitting o_visited p1 p2 = some r) : Wr l D (gy g) yX12_ring cX12_ring 3 (some .int) 5 [.ref o_q0, .int p1, .int p2] (wMd g o_q0 o_q1 o_q2 o_q3 o_q4 o_q5 o_q6 o_q7 o_q8 o_q9 o_q10 o_q11 o_q12 o_q13 o_q14 o_q15 o_q16 o_q17 o_q18 o_q19 o_q20 o_q21 o_q22 o_code o_tape o_size o_fault o_faultPlace o_many o_towns o_weeks o_logs o_reached o_length o_begins o_sort o_value o_word o_wrongAt o_laterFault o_laterPlace o_told o_read o_farOne o_good o_town o_people o_when o_sat o_quiet o_vain o_lent o_forgiven o_sundays o_purse o_beside o_debts o_sitting o_visited o_week o_heaps o_taken o_best o_more o_firstOne o_log o_fitting o_found o_seed o_row o_saved) (wMd g o_q0 o_q1 o_q2 o_q3 o_q4 o_q5 o_q6 o_q7 o_q8 o_q9 o_q10 o_q11 o_q12 o_q13 o_q14 o_q15 o_q16 o_q17 o_q18 o_q19 o_q20 o_q21 o_q22 r.2.1 o_tape o_size o_fault o_faultPlace o_many o_towns o_weeks o_logs o_reached o_length o_begins o_sort o_value o_word o_wrongAt o_laterFault o_laterPlace o_told o_read o_farOne o_good r.2.2.1 r.2.2.2.1 r.2.2.2.2.1 r.2.2.2.2.2.1 r.2.2.2.2.2.2.1 r.2.2.2.2.2.2.2.1 r.2.2.2.2.2.2.2.2.1 r.2.2.2.2.2.2.2.2.2.1 r.2.2.2.2.2.2.2.2.2.2.1 r.2.2.2.2.2.2.2.2.2.2.2.1 r.2.2.2.2.2.2.2.2.2.2.2.2.1 r.2.2.2.2.2.2.2.2.2.2.2.2.2.1 r.2.2.2.2.2.2.2.2.2.2.2.2.2.2.1 r.2.2.2.2.2.2.2.2.2.2.2.2.2.2.2 o_week o_heaps o_taken o_best o_more o_firstOne o_log o_fitting o_found o_seed o_row o_saved) (some (.int r.1)) := by
  refine Wr.ofI (by decide) (Nat.le_of_ble_eq_true rfl) ?_
  intro p e s m args below meth c Q A S hK hA hret ls hl hW
  have hl : lv_has ls 3 [(0, .ref o_q0), (1, .int p1), (2, .int p2)] := hl
  refine lv_aload_n S.1 S.2.1 dX12_ring_0 rfl (lv_at hl 0 rfl) ?_
  refine lv_iconst (v := 0) S.1 S.2.1 dX12_ring_1 ic_0 ?_
  refine pfX12_78 (ws2 := (wMd g o_q0 o_q1 o_q2 o_q3 o_q4 o_q5 o_q6 o_q7 o_q8 o_q9 o_q10 o_q11 o_q12 o_q13 o_q14 o_q15 o_q16 o_q17 o_q18 o_q19 o_q20 o_q21 o_q22 (0 : Int32) o_tape o_size o_fault o_faultPlace o_many o_towns o_weeks o_logs o_reached o_length o_begins o_sort o_value o_word o_wrongAt o_laterFault o_laterPlace o_told o_read o_farOne o_good o_town o_people o_when o_sat o_quiet o_vain o_lent o_forgiven o_sundays o_purse o_beside o_debts o_sitting o_visited o_week o_heaps o_taken o_best o_more o_firstOne o_log o_fitting o_found o_seed o_row o_saved)) S hK hW 0 rfl rfl rfl (Nat.le_of_ble_eq_true rfl) rfl dX12_ring_2 (fun H locs hW => ?_)
  refine lv_aload_n S.1 S.2.1 dX12_ring_5 rfl (lv_at hl 0 rfl) ?_
  refine lv_iload_n S.1 S.2.1 dX12_ring_6 rfl (lv_at hl 1 rfl) ?_
  obtain ⟨x1, hx1, hf⟩ := bnd_e hf
  refine Wr.goW (Wr.runV (c_X12_hand hx1) S hK hW.1 hW.2.1 0 10 rfl rfl kVX12_257 rfl hl.1 [] rfl (Nat.le_of_ble_eq_true rfl) ⟨(Nat.le_of_ble_eq_true rfl), (Nat.le_of_ble_eq_true rfl)⟩ ⟨(Nat.zero_le _), (Nat.zero_le _)⟩ dX12_ring_7) hW hA (fun H locs hW => ?_)
  refine lv_if_ne (tgt := 16) S.1 S.2.1 dX12_ring_10 (by decide) (fun c_ => ?_) (fun c_ => ?_)
  · have hf := it_n c_ hf
    refine lv_iload_n S.1 S.2.1 dX12_ring_16 rfl (lv_at hl 2 rfl) ?_
    refine lv_bipush (v := 20) S.1 S.2.1 dX12_ring_17 bp_20 ?_
    refine lv_icmp_lt (tgt := 47) S.1 S.2.1 dX12_ring_19 (by decide) (fun c_ => ?_) (fun c_ => ?_)
    · have hf := it_p c_ hf
      refine lv_iload_n S.1 S.2.1 dX12_ring_47 rfl (lv_at hl 2 rfl) ?_
      refine lv_bipush (v := 10) S.1 S.2.1 dX12_ring_48 bp_10 ?_
      refine lv_icmp_lt (tgt := 78) S.1 S.2.1 dX12_ring_50 (by decide) (fun c_ => ?_) (fun c_ => ?_)
      · have hf := it_p c_ hf
        refine lv_iload_n S.1 S.2.1 dX12_ring_78 rfl (lv_at hl 2 rfl) ?_
        by_cases c_0 : p2 = 0
        · have hf := it_p c_0 hf
          refine lv_tableIn (tgt := 120) (off := 41) S.1 S.2.1 dX12_ring_79 (by rw [c_0]; decide) (by rw [c_0]; decide) (by rw [c_0]; decide) (by decide) ?_
          refine lv_aload_n S.1 S.2.1 dX12_ring_120 rfl (lv_at hl 0 rfl) ?_
          obtain ⟨x2, hx2, hf⟩ := bnd_e hf
          refine Rd.cV (c_X12_mutual hx2) S hK hW.1 0 10 rfl rfl kVX12_448 rfl hl.1 [] rfl (Nat.le_of_ble_eq_true rfl) ⟨(Nat.le_of_ble_eq_true rfl), (Nat.le_of_ble_eq_true rfl)⟩ ⟨(Nat.zero_le _), (Nat.zero_le _)⟩ dX12_ring_121 ?_
          have e_ := Option.some.inj hf
          subst e_
          exact hret _ _ _ _ dX12_ring_124 hW
        have hf := it_n c_0 hf
        by_cases c_1 : p2 = 1
        · have hf := it_p c_1 hf
          refine lv_tableIn (tgt := 125) (off := 46) S.1 S.2.1 dX12_ring_79 (by rw [c_1]; decide) (by rw [c_1]; decide) (by rw [c_1]; decide) (by decide) ?_
          refine lv_aload_n S.1 S.2.1 dX12_ring_125 rfl (lv_at hl 0 rfl) ?_
          obtain ⟨x3, hx3, hf⟩ := bnd_e hf
          refine Rd.cV (c_X12_shortestRing hx3) S hK hW.1 0 10 rfl rfl kVX12_451 rfl hl.1 [] rfl (Nat.le_of_ble_eq_true rfl) ⟨(Nat.le_of_ble_eq_true rfl), (Nat.le_of_ble_eq_true rfl)⟩ ⟨(Nat.zero_le _), (Nat.zero_le _)⟩ dX12_ring_126 ?_
          have e_ := Option.some.inj hf
          subst e_
          exact hret _ _ _ _ dX12_ring_129 hW
        have hf := it_n c_1 hf
        by_cases c_2 : p2 = 2
        · have hf := it_p c_2 hf
          refine lv_tableIn (tgt := 130) (off := 51) S.1 S.2.1 dX12_ring_79 (by rw [c_2]; decide) (by rw [c_2]; decide) (by rw [c_2]; decide) (by decide) ?_
          refine lv_aload_n S.1 S.2.1 dX12_ring_130 rfl (lv_at hl 0 rfl) ?_
          refine lv_iload_n S.1 S.2.1 dX12_ring_131 rfl (lv_at hl 2 rfl) ?_
          refine lv_iconst (v := 2) S.1 S.2.1 dX12_ring_132 ic_2 ?_
          refine lv_icmp_ne (tgt := 140) S.1 S.2.1 dX12_ring_133 (by decide) (fun c_ => ?_) (fun c_ => ?_)
          · have hf := it_n c_ hf
            refine lv_iconst (v := 0) S.1 S.2.1 dX12_ring_140 ic_0 ?_
            obtain ⟨x5, hx5, hf⟩ := bnd_e hf
            refine Rd.cV (c_X12_first hx5) S hK hW.1 0 10 rfl rfl kVX12_454 rfl hl.1 [] rfl (Nat.le_of_ble_eq_true rfl) ⟨(Nat.le_of_ble_eq_true rfl), (Nat.le_of_ble_eq_true rfl)⟩ ⟨(Nat.zero_le _), (Nat.zero_le _)⟩ dX12_ring_141 ?_
            have e_ := Option.some.inj hf
            subst e_
            exact hret _ _ _ _ dX12_ring_144 hW
          · have hf := it_p c_ hf
            refine lv_iconst (v := 1) S.1 S.2.1 dX12_ring_136 ic_1 ?_
            refine lv_goto (tgt := 141) S.1 S.2.1 dX12_ring_137 (by decide) ?_
            obtain ⟨x4, hx4, hf⟩ := bnd_e hf
            refine Rd.cV (c_X12_first hx4) S hK hW.1 0 10 rfl rfl kVX12_454 rfl hl.1 [] rfl (Nat.le_of_ble_eq_true rfl) ⟨(Nat.le_of_ble_eq_true rfl), (Nat.le_of_ble_eq_true rfl)⟩ ⟨(Nat.zero_le _), (Nat.zero_le _)⟩ dX12_ring_141 ?_
            have e_ := Option.some.inj hf
            subst e_
            exact hret _ _ _ _ dX12_ring_144 hW
        have hf := it_n c_2 hf
        by_cases c_3 : p2 = 3
        · have hf := it_p c_3 hf
          refine lv_tableIn (tgt := 145) (off := 66) S.1 S.2.1 dX12_ring_79 (by rw [c_3]; decide) (by rw [c_3]; decide) (by rw [c_3]; decide) (by decide) ?_
          refine lv_aload_n S.1 S.2.1 dX12_ring_145 rfl (lv_at hl 0 rfl) ?_
          obtain ⟨x6, hx6, hf⟩ := bnd_e hf
          refine Rd.cV (c_X12_twins hx6) S hK hW.1 0 10 rfl rfl kVX12_458 rfl hl.1 [] rfl (Nat.le_of_ble_eq_true rfl) ⟨(Nat.le_of_ble_eq_true rfl), (Nat.le_of_ble_eq_true rfl)⟩ ⟨(Nat.zero_le _), (Nat.zero_le _)⟩ dX12_ring_146 ?_
          have e_ := Option.some.inj hf
          subst e_
          exact hret _ _ _ _ dX12_ring_149 hW
        have hf := it_n c_3 hf
        by_cases c_4 : p2 = 4
        · have hf := it_p c_4 hf
          refine lv_tableIn (tgt := 130) (off := 51) S.1 S.2.1 dX12_ring_79 (by rw [c_4]; decide) (by rw [c_4]; decide) (by rw [c_4]; decide) (by decide) ?_
          refine lv_aload_n S.1 S.2.1 dX12_ring_130 rfl (lv_at hl 0 rfl) ?_
          refine lv_iload_n S.1 S.2.1 dX12_ring_131 rfl (lv_at hl 2 rfl) ?_
          refine lv_iconst (v := 2) S.1 S.2.1 dX12_ring_132 ic_2 ?_
          refine lv_icmp_ne (tgt := 140) S.1 S.2.1 dX12_ring_133 (by decide) (fun c_ => ?_) (fun c_ => ?_)
          · have hf := it_n c_ hf
            refine lv_iconst (v := 0) S.1 S.2.1 dX12_ring_140 ic_0 ?_
            obtain ⟨x8, hx8, hf⟩ := bnd_e hf
            refine Rd.cV (c_X12_first hx8) S hK hW.1 0 10 rfl rfl kVX12_454 rfl hl.1 [] rfl (Nat.le_of_ble_eq_true rfl) ⟨(Nat.le_of_ble_eq_true rfl), (Nat.le_of_ble_eq_true rfl)⟩ ⟨(Nat.zero_le _), (Nat.zero_le _)⟩ dX12_ring_141 ?_
            have e_ := Option.some.inj hf
            subst e_
            exact hret _ _ _ _ dX12_ring_144 hW
          · have hf := it_p c_ hf
            refine lv_iconst (v := 1) S.1 S.2.1 dX12_ring_136 ic_1 ?_
            refine lv_goto (tgt := 141) S.1 S.2.1 dX12_ring_137 (by decide) ?_
            obtain ⟨x7, hx7, hf⟩ := bnd_e hf
            refine Rd.cV (c_X12_first hx7) S hK hW.1 0 10 rfl rfl kVX12_454 rfl hl.1 [] rfl (Nat.le_of_ble_eq_true rfl) ⟨(Nat.le_of_ble_eq_true rfl), (Nat.le_of_ble_eq_true rfl)⟩ ⟨(Nat.zero_le _), (Nat.zero_le _)⟩ dX12_ring_141 ?_
            have e_ := Option.some.inj hf
            subst e_
            exact hret _ _ _ _ dX12_ring_144 hW
        have hf := it_n c_4 hf
        by_cases c_5 : p2 = 5
        · have hf := it_p c_5 hf
          refine lv_tableIn (tgt := 150) (off := 71) S.1 S.2.1 dX12_ring_79 (by rw [c_5]; decide) (by rw [c_5]; decide) (by rw [c_5]; decide) (by decide) ?_
          refine lv_aload_n S.1 S.2.1 dX12_ring_150 rfl (lv_at hl 0 rfl) ?_
          obtain ⟨x9, hx9, hf⟩ := bnd_e hf
          refine Rd.cV (c_X12_feuds hx9) S hK hW.1 0 10 rfl rfl kVX12_461 rfl hl.1 [] rfl (Nat.le_of_ble_eq_true rfl) ⟨(Nat.le_of_ble_eq_true rfl), (Nat.le_of_ble_eq_true rfl)⟩ ⟨(Nat.zero_le _), (Nat.zero_le _)⟩ dX12_ring_151 ?_
          have e_ := Option.some.inj hf
          subst e_
          exact hret _ _ _ _ dX12_ring_154 hW
        have hf := it_n c_5 hf
        by_cases c_6 : p2 = 6
        · have hf := it_p c_6 hf
          refine lv_tableIn (tgt := 155) (off := 76) S.1 S.2.1 dX12_ring_79 (by rw [c_6]; decide) (by rw [c_6]; decide) (by rw [c_6]; decide) (by decide) ?_
          refine lv_aload_n S.1 S.2.1 dX12_ring_155 rfl (lv_at hl 0 rfl) ?_
          obtain ⟨x10, hx10, hf⟩ := bnd_e hf
          refine Rd.cV (c_X12_loners hx10) S hK hW.1 0 10 rfl rfl kVX12_464 rfl hl.1 [] rfl (Nat.le_of_ble_eq_true rfl) ⟨(Nat.le_of_ble_eq_true rfl), (Nat.le_of_ble_eq_true rfl)⟩ ⟨(Nat.zero_le _), (Nat.zero_le _)⟩ dX12_ring_156 ?_
          have e_ := Option.some.inj hf
          subst e_
          exact hret _ _ _ _ dX12_ring_159 hW
        have hf := it_n c_6 hf
        refine lv_tableOut (tgt := 160) S.1 S.2.1 dX12_ring_79 (by have n_0 := lv_neT c_0 (a := 0) (by decide); have n_1 := lv_neT c_1 (a := 1) (by decide); have n_2 := lv_neT c_2 (a := 2) (by decide); have n_3 := lv_neT c_3 (a := 3) (by decide); have n_4 := lv_neT c_4 (a := 4) (by decide); have n_5 := lv_neT c_5 (a := 5) (by decide); have n_6 := lv_neT c_6 (a := 6) (by decide); omega) (by decide) ?_
        refine lv_bipush (v := (-2)) S.1 S.2.1 dX12_ring_160 bp_m2 ?_
        have e_ := Option.some.inj hf
        subst e_
        exact hret _ _ _ _ dX12_ring_162 hW
      · have hf := it_n c_ hf
        refine lv_aload_n S.1 S.2.1 dX12_ring_53 rfl (lv_at hl 0 rfl) ?_
        refine lv_iload_n S.1 S.2.1 dX12_ring_54 rfl (lv_at hl 2 rfl) ?_
        refine lv_bipush (v := 10) S.1 S.2.1 dX12_ring_55 bp_10 ?_
        refine lv_isub S.1 S.2.1 dX12_ring_57 ?_
        obtain ⟨x11, hx11, hf⟩ := bnd_e hf
        refine Rd.cV (c_X12_isPerson hx11) S hK hW.1 0 10 rfl rfl kVX12_260 rfl hl.1 [] rfl (Nat.le_of_ble_eq_true rfl) ⟨(Nat.le_of_ble_eq_true rfl), (Nat.le_of_ble_eq_true rfl)⟩ ⟨(Nat.zero_le _), (Nat.zero_le _)⟩ dX12_ring_58 ?_
        refine lv_if_eq (tgt := 75) S.1 S.2.1 dX12_ring_61 (by decide) (fun c_ => ?_) (fun c_ => ?_)
        · have hf := it_p c_ hf
          refine lv_bipush (v := (-2)) S.1 S.2.1 dX12_ring_75 bp_m2 ?_
          have e_ := Option.some.inj hf
          subst e_
          exact hret _ _ _ _ dX12_ring_77 hW
        · have hf := it_n c_ hf
          refine lv_aload_n S.1 S.2.1 dX12_ring_64 rfl (lv_at hl 0 rfl) ?_
          refine lv_iload_n S.1 S.2.1 dX12_ring_65 rfl (lv_at hl 2 rfl) ?_
          refine lv_bipush (v := 10) S.1 S.2.1 dX12_ring_66 bp_10 ?_
          refine lv_isub S.1 S.2.1 dX12_ring_68 ?_
          obtain ⟨x12, hx12, hf⟩ := bnd_e hf
          refine Rd.cV (c_X12_bore hx12) S hK hW.1 0 10 rfl rfl kVX12_445 rfl hl.1 [] rfl (Nat.le_of_ble_eq_true rfl) ⟨(Nat.le_of_ble_eq_true rfl), (Nat.le_of_ble_eq_true rfl)⟩ ⟨(Nat.zero_le _), (Nat.zero_le _)⟩ dX12_ring_69 ?_
          refine lv_goto (tgt := 77) S.1 S.2.1 dX12_ring_72 (by decide) ?_
          have e_ := Option.some.inj hf
          subst e_
          exact hret _ _ _ _ dX12_ring_77 hW
    · have hf := it_n c_ hf
      refine lv_aload_n S.1 S.2.1 dX12_ring_22 rfl (lv_at hl 0 rfl) ?_
      refine lv_iload_n S.1 S.2.1 dX12_ring_23 rfl (lv_at hl 2 rfl) ?_
      refine lv_bipush (v := 20) S.1 S.2.1 dX12_ring_24 bp_20 ?_
      refine lv_isub S.1 S.2.1 dX12_ring_26 ?_
      obtain ⟨x13, hx13, hf⟩ := bnd_e hf
      refine Rd.cV (c_X12_isPerson hx13) S hK hW.1 0 10 rfl rfl kVX12_260 rfl hl.1 [] rfl (Nat.le_of_ble_eq_true rfl) ⟨(Nat.le_of_ble_eq_true rfl), (Nat.le_of_ble_eq_true rfl)⟩ ⟨(Nat.zero_le _), (Nat.zero_le _)⟩ dX12_ring_27 ?_
      refine lv_if_eq (tgt := 44) S.1 S.2.1 dX12_ring_30 (by decide) (fun c_ => ?_) (fun c_ => ?_)
      · have hf := it_p c_ hf
        refine lv_bipush (v := (-2)) S.1 S.2.1 dX12_ring_44 bp_m2 ?_
        have e_ := Option.some.inj hf
        subst e_
        exact hret _ _ _ _ dX12_ring_46 hW
      · have hf := it_n c_ hf
        refine lv_aload_n S.1 S.2.1 dX12_ring_33 rfl (lv_at hl 0 rfl) ?_
        refine lv_iload_n S.1 S.2.1 dX12_ring_34 rfl (lv_at hl 2 rfl) ?_
        refine lv_bipush (v := 20) S.1 S.2.1 dX12_ring_35 bp_20 ?_
        refine lv_isub S.1 S.2.1 dX12_ring_37 ?_
        obtain ⟨x14, hx14, hf⟩ := bnd_e hf
        refine Rd.cV (c_X12_feudOf hx14) S hK hW.1 0 10 rfl rfl kVX12_442 rfl hl.1 [] rfl (Nat.le_of_ble_eq_true rfl) ⟨(Nat.le_of_ble_eq_true rfl), (Nat.le_of_ble_eq_true rfl)⟩ ⟨(Nat.zero_le _), (Nat.zero_le _)⟩ dX12_ring_38 ?_
        refine lv_goto (tgt := 46) S.1 S.2.1 dX12_ring_41 (by decide) ?_
        have e_ := Option.some.inj hf
        subst e_
        exact hret _ _ _ _ dX12_ring_46 hW
  · have hf := it_p c_ hf
    refine lv_bipush (v := (-2)) S.1 S.2.1 dX12_ring_13 bp_m2 ?_
    have e_ := Option.some.inj hf
    subst e_
    exact hret _ _ _ _ dX12_ring_15 hW
def f_X12_chainBy (fu : Nat) (o_debts : (Nat → Int32)) (o_best : (Nat → Int32)) (p1 : Int32) (p2 : Int32) (p3 : Int32) : Option (Int32) := bnd (α := Int32) (f_X12_has fu p1 p3) (fun x1 => bnd (α := Int32) (if x1 = 0 then if p2 = (6 : Int32) then some (1 : Int32) else bnd (α := Int32) (f_X12_owed fu o_debts p2 p3) (fun x5 => if x5 ≤ 0 then some (0 : Int32) else some (1 : Int32)) else some (0 : Int32)) (fun v3 => if v3 = 0 then some (0 : Int32) else bnd (α := Int32) (rdi 448 o_best (((64 : Int32) * p3) + (p1 ||| (jshl (1 : Int32) p3)))) (fun x4 => some ((1 : Int32) + x4))))
set_option maxHeartbeats 4000000 in
set_option maxRecDepth 100000 in
theorem c_X12_chainBy {l : Launch} {D : va_G} {g : Nat → ClassId} {fu : Nat} {o_q0 o_q1 o_q2 o_q3 o_q4 o_q5 o_q6 o_q7 o_q8 o_q9 o_q10 o_q11 o_q12 o_q13 o_q14 o_q15 o_q16 o_q17 o_q18 o_q19 o_q20 o_q21 o_q22 : Nat} {o_code : Int32} {o_tape : (Nat → Int32)} {o_size : (Nat → Int32)} {o_fault : (Nat → Int32)} {o_faultPlace : (Nat → Int32)} {o_many : (Nat → Int32)} {o_towns : (Nat → Int32)} {o_weeks : (Nat → Int32)} {o_logs : (Nat → Int32)} {o_reached : Int32} {o_length : Int32} {o_begins : Int32} {o_sort : Int32} {o_value : Int32} {o_word : Int64} {o_wrongAt : Int32} {o_laterFault : Int32} {o_laterPlace : Int32} {o_told : (Nat → Int32)} {o_read : (Nat → Int32)} {o_farOne : Int32} {o_good : Int32} {o_town : Int32} {o_people : Int32} {o_when : Int32} {o_sat : Int32} {o_quiet : Int32} {o_vain : Int32} {o_lent : Int32} {o_forgiven : Int32} {o_sundays : Int32} {o_purse : (Nat → Int32)} {o_beside : (Nat → Int32)} {o_debts : (Nat → Int32)} {o_sitting : (Nat → Int32)} {o_visited : (Nat → Int32)} {o_week : Int32} {o_heaps : (Nat → Int32)} {o_taken : (Nat → Int32)} {o_best : (Nat → Int32)} {o_more : (Nat → Int32)} {o_firstOne : Int32} {o_log : Int32} {o_fitting : (Nat → Int32)} {o_found : Int32} {o_seed : Int32} {o_row : (Nat → Int32)} {o_saved : (Nat → Int32)} {p1 : Int32} {p2 : Int32} {p3 : Int32} {r : Int32} (hf : f_X12_chainBy fu o_debts o_best p1 p2 p3 = some r) : Rd l D (gy g) yX12_chainBy cX12_chainBy 5 (some .int) 1 [.ref o_q0, .int p1, .int p2, .int p3] (wMd g o_q0 o_q1 o_q2 o_q3 o_q4 o_q5 o_q6 o_q7 o_q8 o_q9 o_q10 o_q11 o_q12 o_q13 o_q14 o_q15 o_q16 o_q17 o_q18 o_q19 o_q20 o_q21 o_q22 o_code o_tape o_size o_fault o_faultPlace o_many o_towns o_weeks o_logs o_reached o_length o_begins o_sort o_value o_word o_wrongAt o_laterFault o_laterPlace o_told o_read o_farOne o_good o_town o_people o_when o_sat o_quiet o_vain o_lent o_forgiven o_sundays o_purse o_beside o_debts o_sitting o_visited o_week o_heaps o_taken o_best o_more o_firstOne o_log o_fitting o_found o_seed o_row o_saved) (some (.int r)) := by
  refine Rd.ofI (by decide) (Nat.le_of_ble_eq_true rfl) ?_
  intro p e s m args below meth c Q S hK hP hret ls hl
  have hl : lv_has ls 5 [(0, .ref o_q0), (1, .int p1), (2, .int p2), (3, .int p3)] := hl
  refine lv_iload_n S.1 S.2.1 dX12_chainBy_0 rfl (lv_at hl 1 rfl) ?_
  refine lv_iload_n S.1 S.2.1 dX12_chainBy_1 rfl (lv_at hl 3 rfl) ?_
  obtain ⟨x1, hx1, hf⟩ := bnd_e hf
  refine Rd.cS (c_X12_has hx1) S hK va_P.nil kSX12_82 rfl hl.1 [] rfl (Nat.le_of_ble_eq_true rfl) ⟨(Nat.le_of_ble_eq_true rfl), (Nat.le_of_ble_eq_true rfl)⟩ ⟨(Nat.zero_le _), (Nat.zero_le _)⟩ dX12_chainBy_2 ?_
  obtain ⟨x2, hf_, hk2⟩ := bnd_e hf
  have hJ2 : ∀ (v3 : Int32), v3 = x2 → ∀ (ls : Array Slot), lv_has ls 5 [(0, .ref o_q0), (1, .int p1), (3, .int p3)] → W p l e (rmD 1) s m args below meth c s.heap [] 0 0 Q (F0 m 28 ls [.int v3]) := by
    intro v3 e_ ls hl
    subst e_
    have hf := hk2
    refine lv_istore (lv' := [(4, .int v3), (0, .ref o_q0), (1, .int p1), (3, .int p3)]) S.1 S.2.1 dX12_chainBy_28 hl (by decide) rfl (fun ls hl => ?_)
    refine lv_iload S.1 S.2.1 dX12_chainBy_30 (lv_at hl 0 rfl) ?_
    refine lv_if_eq (tgt := 55) S.1 S.2.1 dX12_chainBy_32 (by decide) (fun c_ => ?_) (fun c_ => ?_)
    · have hf := it_p c_ hf
      refine lv_iconst (v := 0) S.1 S.2.1 dX12_chainBy_55 ic_0 ?_
      have e_ := Option.some.inj hf
      subst e_
      exact hret _ _ dX12_chainBy_56
    · have hf := it_n c_ hf
      refine lv_iconst (v := 1) S.1 S.2.1 dX12_chainBy_35 ic_1 ?_
      refine lv_aload_n S.1 S.2.1 dX12_chainBy_36 rfl (lv_at hl 1 rfl) ?_
      refine gfX12_62 S hK hP 0 rfl rfl dX12_chainBy_37 ?_
      refine lv_bipush (v := 64) S.1 S.2.1 dX12_chainBy_40 bp_64 ?_
      refine lv_iload_n S.1 S.2.1 dX12_chainBy_42 rfl (lv_at hl 3 rfl) ?_
      refine lv_imul S.1 S.2.1 dX12_chainBy_43 ?_
      refine lv_iload_n S.1 S.2.1 dX12_chainBy_44 rfl (lv_at hl 2 rfl) ?_
      refine lv_iconst (v := 1) S.1 S.2.1 dX12_chainBy_45 ic_1 ?_
      refine lv_iload_n S.1 S.2.1 dX12_chainBy_46 rfl (lv_at hl 3 rfl) ?_
      refine lv_ishl S.1 S.2.1 dX12_chainBy_47 ?_
      refine lv_ior S.1 S.2.1 dX12_chainBy_48 ?_
      refine lv_iadd S.1 S.2.1 dX12_chainBy_49 ?_
      obtain ⟨x4, hx4, hf⟩ := bnd_e hf
      refine q_iald S hK hP 18 0 rfl rfl hx4 dX12_chainBy_50 ?_
      refine lv_iadd S.1 S.2.1 dX12_chainBy_51 ?_
      refine lv_goto (tgt := 56) S.1 S.2.1 dX12_chainBy_52 (by decide) ?_
      have e_ := Option.some.inj hf
      subst e_
      exact hret _ _ dX12_chainBy_56
  have hf := hf_
  refine lv_if_ne (tgt := 27) S.1 S.2.1 dX12_chainBy_5 (by decide) (fun c_ => ?_) (fun c_ => ?_)
  · have hf := it_n c_ hf
    refine lv_iconst (v := 0) S.1 S.2.1 dX12_chainBy_27 ic_0 ?_
    exact hJ2 _ (Option.some.inj hf) _ (lv_sub hl [0, 1, 3] rfl)
  · have hf := it_p c_ hf
    refine lv_iload_n S.1 S.2.1 dX12_chainBy_8 rfl (lv_at hl 2 rfl) ?_
    refine lv_bipush (v := 6) S.1 S.2.1 dX12_chainBy_9 bp_6 ?_
    refine lv_icmp_eq (tgt := 23) S.1 S.2.1 dX12_chainBy_11 (by decide) (fun c_ => ?_) (fun c_ => ?_)
    · have hf := it_p c_ hf
      refine lv_iconst (v := 1) S.1 S.2.1 dX12_chainBy_23 ic_1 ?_
      refine lv_goto (tgt := 28) S.1 S.2.1 dX12_chainBy_24 (by decide) ?_
      exact hJ2 _ (Option.some.inj hf) _ (lv_sub hl [0, 1, 3] rfl)
    · have hf := it_n c_ hf
      refine lv_aload_n S.1 S.2.1 dX12_chainBy_14 rfl (lv_at hl 0 rfl) ?_
      refine lv_iload_n S.1 S.2.1 dX12_chainBy_15 rfl (lv_at hl 2 rfl) ?_
      refine lv_iload_n S.1 S.2.1 dX12_chainBy_16 rfl (lv_at hl 3 rfl) ?_
      obtain ⟨x5, hx5, hf⟩ := bnd_e hf
      refine Rd.cV (c_X12_owed hx5) S hK hP 0 10 rfl rfl kVX12_254 rfl hl.1 [] rfl (Nat.le_of_ble_eq_true rfl) ⟨(Nat.le_of_ble_eq_true rfl), (Nat.le_of_ble_eq_true rfl)⟩ ⟨(Nat.zero_le _), (Nat.zero_le _)⟩ dX12_chainBy_17 ?_
      refine lv_if_le (tgt := 27) S.1 S.2.1 dX12_chainBy_20 (by decide) (fun c_ => ?_) (fun c_ => ?_)
      · have hf := it_p c_ hf
        refine lv_iconst (v := 0) S.1 S.2.1 dX12_chainBy_27 ic_0 ?_
        exact hJ2 _ (Option.some.inj hf) _ (lv_sub hl [0, 1, 3] rfl)
      · have hf := it_n c_ hf
        refine lv_iconst (v := 1) S.1 S.2.1 dX12_chainBy_23 ic_1 ?_
        refine lv_goto (tgt := 28) S.1 S.2.1 dX12_chainBy_24 (by decide) ?_
        exact hJ2 _ (Option.some.inj hf) _ (lv_sub hl [0, 1, 3] rfl)
def f_X12_findChains_L26 (fu : Nat) (o_people : Int32) (o_debts : (Nat → Int32)) (s3 : Int32 × (Nat → Int32)) (s7 : Int32 × (Nat → Int32)) (s11 : Int32 × Int32) : Option ((Int32 × Int32) ⊕ (Int32)) := if o_people ≤ s11.2 then some (.inr s11.1) else bnd (α := ((Int32 × Int32) ⊕ (Int32)) ⊕ (Unit)) (if s7.1 < o_people then some (.inr ()) else if s7.1 = (6 : Int32) then some (.inr ()) else some (.inl (.inr s11.1))) (fun x14 => cse x14 (fun y18 => some y18) (fun v15 => bnd (α := Int32) (f_X12_chainBy fu o_debts s7.2 s3.1 s7.1 s11.2) (fun x16 => bnd (α := Int32) (f_X12_greater fu s11.1 x16) (fun x17 => some (.inl (x17, (s11.2 + 1)))))))
def f_X12_findChains_L15 (fu : Nat) (o_people : Int32) (o_debts : (Nat → Int32)) (s3 : Int32 × (Nat → Int32)) (s7 : Int32 × (Nat → Int32)) : Option ((Int32 × (Nat → Int32)) ⊕ ((Nat → Int32))) := if (6 : Int32) < s7.1 then some (.inr s7.2) else bnd (α := Int32) (lp (f_X12_findChains_L26 fu o_people o_debts s3 s7) fu ((0 : Int32), (0 : Int32))) (fun v19 => bnd (α := (Nat → Int32)) (wri 448 s7.2 (((64 : Int32) * s7.1) + s3.1) v19) (fun x20 => some (.inl ((s7.1 + 1), x20))))
def f_X12_findChains_L9 (fu : Nat) (o_people : Int32) (o_debts : (Nat → Int32)) (s3 : Int32 × (Nat → Int32)) : Option ((Int32 × (Nat → Int32)) ⊕ ((Nat → Int32))) := if s3.1 < 0 then some (.inr s3.2) else bnd (α := (Nat → Int32)) (lp (f_X12_findChains_L15 fu o_people o_debts s3) fu ((0 : Int32), s3.2)) (fun v21 => some (.inl ((s3.1 + (-1)), v21)))
def f_X12_findChains (fu : Nat) (o_people : Int32) (o_debts : (Nat → Int32)) (o_best : (Nat → Int32)) : Option ((Nat → Int32)) := ltn ((jshl (1 : Int32) o_people) - (1 : Int32)) (fun x1 => bnd (α := (Nat → Int32)) (lp (f_X12_findChains_L9 fu o_people o_debts) fu (x1, o_best)) (fun v22 => some v22))
set_option maxHeartbeats 4000000 in
set_option maxRecDepth 100000 in
theorem c_X12_findChains {l : Launch} {D : va_G} {g : Nat → ClassId} {fu : Nat} {o_q0 o_q1 o_q2 o_q3 o_q4 o_q5 o_q6 o_q7 o_q8 o_q9 o_q10 o_q11 o_q12 o_q13 o_q14 o_q15 o_q16 o_q17 o_q18 o_q19 o_q20 o_q21 o_q22 : Nat} {o_code : Int32} {o_tape : (Nat → Int32)} {o_size : (Nat → Int32)} {o_fault : (Nat → Int32)} {o_faultPlace : (Nat → Int32)} {o_many : (Nat → Int32)} {o_towns : (Nat → Int32)} {o_weeks : (Nat → Int32)} {o_logs : (Nat → Int32)} {o_reached : Int32} {o_length : Int32} {o_begins : Int32} {o_sort : Int32} {o_value : Int32} {o_word : Int64} {o_wrongAt : Int32} {o_laterFault : Int32} {o_laterPlace : Int32} {o_told : (Nat → Int32)} {o_read : (Nat → Int32)} {o_farOne : Int32} {o_good : Int32} {o_town : Int32} {o_people : Int32} {o_when : Int32} {o_sat : Int32} {o_quiet : Int32} {o_vain : Int32} {o_lent : Int32} {o_forgiven : Int32} {o_sundays : Int32} {o_purse : (Nat → Int32)} {o_beside : (Nat → Int32)} {o_debts : (Nat → Int32)} {o_sitting : (Nat → Int32)} {o_visited : (Nat → Int32)} {o_week : Int32} {o_heaps : (Nat → Int32)} {o_taken : (Nat → Int32)} {o_best : (Nat → Int32)} {o_more : (Nat → Int32)} {o_firstOne : Int32} {o_log : Int32} {o_fitting : (Nat → Int32)} {o_found : Int32} {o_seed : Int32} {o_row : (Nat → Int32)} {o_saved : (Nat → Int32)} {r : (Nat → Int32)} (hf : f_X12_findChains fu o_people o_debts o_best = some r) : Wr l D (gy g) yX12_findChains cX12_findChains 5 none 2 [.ref o_q0] (wMd g o_q0 o_q1 o_q2 o_q3 o_q4 o_q5 o_q6 o_q7 o_q8 o_q9 o_q10 o_q11 o_q12 o_q13 o_q14 o_q15 o_q16 o_q17 o_q18 o_q19 o_q20 o_q21 o_q22 o_code o_tape o_size o_fault o_faultPlace o_many o_towns o_weeks o_logs o_reached o_length o_begins o_sort o_value o_word o_wrongAt o_laterFault o_laterPlace o_told o_read o_farOne o_good o_town o_people o_when o_sat o_quiet o_vain o_lent o_forgiven o_sundays o_purse o_beside o_debts o_sitting o_visited o_week o_heaps o_taken o_best o_more o_firstOne o_log o_fitting o_found o_seed o_row o_saved) (wMd g o_q0 o_q1 o_q2 o_q3 o_q4 o_q5 o_q6 o_q7 o_q8 o_q9 o_q10 o_q11 o_q12 o_q13 o_q14 o_q15 o_q16 o_q17 o_q18 o_q19 o_q20 o_q21 o_q22 o_code o_tape o_size o_fault o_faultPlace o_many o_towns o_weeks o_logs o_reached o_length o_begins o_sort o_value o_word o_wrongAt o_laterFault o_laterPlace o_told o_read o_farOne o_good o_town o_people o_when o_sat o_quiet o_vain o_lent o_forgiven o_sundays o_purse o_beside o_debts o_sitting o_visited o_week o_heaps o_taken r o_more o_firstOne o_log o_fitting o_found o_seed o_row o_saved) none := by
  refine Wr.ofV (by decide) (Nat.le_of_ble_eq_true rfl) ?_
  intro p e s m args below meth c Q A S hK hA hret ls hl hW
  have hl : lv_has ls 5 [(0, .ref o_q0)] := hl
  refine lv_iconst (v := 1) S.1 S.2.1 dX12_findChains_0 ic_1 ?_
  refine lv_aload_n S.1 S.2.1 dX12_findChains_1 rfl (lv_at hl 0 rfl) ?_
  refine gfX12_230 S hK hW.1 0 rfl rfl dX12_findChains_2 ?_
  refine lv_ishl S.1 S.2.1 dX12_findChains_5 ?_
  refine lv_iconst (v := 1) S.1 S.2.1 dX12_findChains_6 ic_1 ?_
  refine lv_isub S.1 S.2.1 dX12_findChains_7 ?_
  refine lv_topi (fun x1 ex1 => ?_)
  have hf := ltn_e hf ex1
  refine lv_istore_n (lv' := [(1, .int x1), (0, .ref o_q0)]) S.1 S.2.1 dX12_findChains_8 rfl hl (by decide) rfl (fun ls hl => ?_)
  obtain ⟨x4, hf_, hk4⟩ := bnd_e hf
  have hE4 : ∀ (v22 : (Nat → Int32)), v22 = x4 → ∀ (ls : Array Slot) (H : Heap) (locs : List Loc), lv_has ls 5 [] → St A s.heap D (wMd g o_q0 o_q1 o_q2 o_q3 o_q4 o_q5 o_q6 o_q7 o_q8 o_q9 o_q10 o_q11 o_q12 o_q13 o_q14 o_q15 o_q16 o_q17 o_q18 o_q19 o_q20 o_q21 o_q22 o_code o_tape o_size o_fault o_faultPlace o_many o_towns o_weeks o_logs o_reached o_length o_begins o_sort o_value o_word o_wrongAt o_laterFault o_laterPlace o_told o_read o_farOne o_good o_town o_people o_when o_sat o_quiet o_vain o_lent o_forgiven o_sundays o_purse o_beside o_debts o_sitting o_visited o_week o_heaps o_taken v22 o_more o_firstOne o_log o_fitting o_found o_seed o_row o_saved) H locs → W p l e (rmD 2) s m args below meth c H locs 0 0 Q (F0 m 92 ls []) := by
    intro v22 e_ ls H locs hl hW
    subst e_
    have hf := hk4
    have e_ := Option.some.inj hf
    subst e_
    exact hret _ _ _ _ dX12_findChains_92 hW
  refine lp_ind (P := fun (s3 : Int32 × (Nat → Int32)) => ∀ (ls : Array Slot) (H : Heap) (locs : List Loc), lv_has ls 5 [(0, .ref o_q0), (1, .int s3.1)] → St A s.heap D (wMd g o_q0 o_q1 o_q2 o_q3 o_q4 o_q5 o_q6 o_q7 o_q8 o_q9 o_q10 o_q11 o_q12 o_q13 o_q14 o_q15 o_q16 o_q17 o_q18 o_q19 o_q20 o_q21 o_q22 o_code o_tape o_size o_fault o_faultPlace o_many o_towns o_weeks o_logs o_reached o_length o_begins o_sort o_value o_word o_wrongAt o_laterFault o_laterPlace o_told o_read o_farOne o_good o_town o_people o_when o_sat o_quiet o_vain o_lent o_forgiven o_sundays o_purse o_beside o_debts o_sitting o_visited o_week o_heaps o_taken s3.2 o_more o_firstOne o_log o_fitting o_found o_seed o_row o_saved) H locs → W p l e (rmD 2) s m args below meth c H locs 0 0 Q (F0 m 9 ls [])) ?_ _ _ hf_ _ _ _ (lv_sub hl [1, 0] rfl) hW
  intro s3 x5 hf hI4 hR4 ls H locs hl hW
  refine lv_iload_n S.1 S.2.1 dX12_findChains_9 rfl (lv_at hl 1 rfl) ?_
  refine lv_if_lt (tgt := 92) S.1 S.2.1 dX12_findChains_10 (by decide) (fun c_ => ?_) (fun c_ => ?_)
  · have hf := it_p c_ hf
    have e_ := hR4 _ (Option.some.inj hf).symm
    exact hE4 _ e_ _ _ _ (lv_sub hl [] rfl) hW
  · have hf := it_n c_ hf
    refine lv_iconst (v := 0) S.1 S.2.1 dX12_findChains_13 ic_0 ?_
    refine lv_istore_n (lv' := [(2, .int (0 : Int32)), (0, .ref o_q0), (1, .int s3.1)]) S.1 S.2.1 dX12_findChains_14 rfl hl (by decide) rfl (fun ls hl => ?_)
    obtain ⟨x8, hf_, hk8⟩ := bnd_e hf
    have hE8 : ∀ (v21 : (Nat → Int32)), v21 = x8 → ∀ (ls : Array Slot) (H : Heap) (locs : List Loc), lv_has ls 5 [(0, .ref o_q0), (1, .int s3.1)] → St A s.heap D (wMd g o_q0 o_q1 o_q2 o_q3 o_q4 o_q5 o_q6 o_q7 o_q8 o_q9 o_q10 o_q11 o_q12 o_q13 o_q14 o_q15 o_q16 o_q17 o_q18 o_q19 o_q20 o_q21 o_q22 o_code o_tape o_size o_fault o_faultPlace o_many o_towns o_weeks o_logs o_reached o_length o_begins o_sort o_value o_word o_wrongAt o_laterFault o_laterPlace o_told o_read o_farOne o_good o_town o_people o_when o_sat o_quiet o_vain o_lent o_forgiven o_sundays o_purse o_beside o_debts o_sitting o_visited o_week o_heaps o_taken v21 o_more o_firstOne o_log o_fitting o_found o_seed o_row o_saved) H locs → W p l e (rmD 2) s m args below meth c H locs 0 0 Q (F0 m 86 ls []) := by
      intro v21 e_ ls H locs hl hW
      subst e_
      have hf := hk8
      refine q_iinc (w := (-1)) (lv' := [(1, .int (s3.1 + (-1))), (0, .ref o_q0)]) S dX12_findChains_86 hl (k := 1) rfl ic_m1 (by decide) rfl (fun ls hl => ?_)
      refine lv_goto (tgt := 9) S.1 S.2.1 dX12_findChains_89 (by decide) ?_
      exact hI4 _ (Option.some.inj hf).symm _ _ _ (lv_sub hl [1, 0] rfl) hW
    refine lp_ind (P := fun (s7 : Int32 × (Nat → Int32)) => ∀ (ls : Array Slot) (H : Heap) (locs : List Loc), lv_has ls 5 [(0, .ref o_q0), (1, .int s3.1), (2, .int s7.1)] → St A s.heap D (wMd g o_q0 o_q1 o_q2 o_q3 o_q4 o_q5 o_q6 o_q7 o_q8 o_q9 o_q10 o_q11 o_q12 o_q13 o_q14 o_q15 o_q16 o_q17 o_q18 o_q19 o_q20 o_q21 o_q22 o_code o_tape o_size o_fault o_faultPlace o_many o_towns o_weeks o_logs o_reached o_length o_begins o_sort o_value o_word o_wrongAt o_laterFault o_laterPlace o_told o_read o_farOne o_good o_town o_people o_when o_sat o_quiet o_vain o_lent o_forgiven o_sundays o_purse o_beside o_debts o_sitting o_visited o_week o_heaps o_taken s7.2 o_more o_firstOne o_log o_fitting o_found o_seed o_row o_saved) H locs → W p l e (rmD 2) s m args below meth c H locs 0 0 Q (F0 m 15 ls [])) ?_ _ _ hf_ _ _ _ (lv_sub hl [1, 2, 0] rfl) hW
    intro s7 x9 hf hI8 hR8 ls H locs hl hW
    refine lv_iload_n S.1 S.2.1 dX12_findChains_15 rfl (lv_at hl 2 rfl) ?_
    refine lv_bipush (v := 6) S.1 S.2.1 dX12_findChains_16 bp_6 ?_
    refine lv_icmp_gt (tgt := 86) S.1 S.2.1 dX12_findChains_18 (by decide) (fun c_ => ?_) (fun c_ => ?_)
    · have hf := it_p c_ hf
      have e_ := hR8 _ (Option.some.inj hf).symm
      exact hE8 _ e_ _ _ _ (lv_sub hl [0, 1] rfl) hW
    · have hf := it_n c_ hf
      refine lv_iconst (v := 0) S.1 S.2.1 dX12_findChains_21 ic_0 ?_
      refine lv_istore_n (lv' := [(3, .int (0 : Int32)), (0, .ref o_q0), (1, .int s3.1), (2, .int s7.1)]) S.1 S.2.1 dX12_findChains_22 rfl hl (by decide) rfl (fun ls hl => ?_)
      refine lv_iconst (v := 0) S.1 S.2.1 dX12_findChains_23 ic_0 ?_
      refine lv_istore (lv' := [(4, .int (0 : Int32)), (3, .int (0 : Int32)), (0, .ref o_q0), (1, .int s3.1), (2, .int s7.1)]) S.1 S.2.1 dX12_findChains_24 hl (by decide) rfl (fun ls hl => ?_)
      obtain ⟨x12, hf_, hk12⟩ := bnd_e hf
      have hE12 : ∀ (v19 : Int32), v19 = x12 → ∀ (ls : Array Slot) (H : Heap) (locs : List Loc), lv_has ls 5 [(0, .ref o_q0), (1, .int s3.1), (2, .int s7.1), (3, .int v19)] → St A s.heap D (wMd g o_q0 o_q1 o_q2 o_q3 o_q4 o_q5 o_q6 o_q7 o_q8 o_q9 o_q10 o_q11 o_q12 o_q13 o_q14 o_q15 o_q16 o_q17 o_q18 o_q19 o_q20 o_q21 o_q22 o_code o_tape o_size o_fault o_faultPlace o_many o_towns o_weeks o_logs o_reached o_length o_begins o_sort o_value o_word o_wrongAt o_laterFault o_laterPlace o_told o_read o_farOne o_good o_town o_people o_when o_sat o_quiet o_vain o_lent o_forgiven o_sundays o_purse o_beside o_debts o_sitting o_visited o_week o_heaps o_taken s7.2 o_more o_firstOne o_log o_fitting o_found o_seed o_row o_saved) H locs → W p l e (rmD 2) s m args below meth c H locs 0 0 Q (F0 m 68 ls []) := by
        intro v19 e_ ls H locs hl hW
        subst e_
        have hf := hk12
        refine lv_aload_n S.1 S.2.1 dX12_findChains_68 rfl (lv_at hl 0 rfl) ?_
        refine gfX12_62 S hK hW.1 0 rfl rfl dX12_findChains_69 ?_
        refine lv_bipush (v := 64) S.1 S.2.1 dX12_findChains_72 bp_64 ?_
        refine lv_iload_n S.1 S.2.1 dX12_findChains_74 rfl (lv_at hl 2 rfl) ?_
        refine lv_imul S.1 S.2.1 dX12_findChains_75 ?_
        refine lv_iload_n S.1 S.2.1 dX12_findChains_76 rfl (lv_at hl 1 rfl) ?_
        refine lv_iadd S.1 S.2.1 dX12_findChains_77 ?_
        refine lv_iload_n S.1 S.2.1 dX12_findChains_78 rfl (lv_at hl 3 rfl) ?_
        obtain ⟨x20, hx20, hf⟩ := bnd_e hf
        refine q_iast (ws2 := (wMd g o_q0 o_q1 o_q2 o_q3 o_q4 o_q5 o_q6 o_q7 o_q8 o_q9 o_q10 o_q11 o_q12 o_q13 o_q14 o_q15 o_q16 o_q17 o_q18 o_q19 o_q20 o_q21 o_q22 o_code o_tape o_size o_fault o_faultPlace o_many o_towns o_weeks o_logs o_reached o_length o_begins o_sort o_value o_word o_wrongAt o_laterFault o_laterPlace o_told o_read o_farOne o_good o_town o_people o_when o_sat o_quiet o_vain o_lent o_forgiven o_sundays o_purse o_beside o_debts o_sitting o_visited o_week o_heaps o_taken x20 o_more o_firstOne o_log o_fitting o_found o_seed o_row o_saved)) S hK hW 18 0 rfl rfl hx20 rfl dX12_findChains_79 (fun H locs hW => ?_)
        refine q_iinc (w := 1) (lv' := [(2, .int (s7.1 + 1)), (0, .ref o_q0), (1, .int s3.1), (3, .int v19)]) S dX12_findChains_80 hl (k := 2) rfl ic_1 (by decide) rfl (fun ls hl => ?_)
        refine lv_goto (tgt := 15) S.1 S.2.1 dX12_findChains_83 (by decide) ?_
        exact hI8 _ (Option.some.inj hf).symm _ _ _ (lv_sub hl [1, 2, 0] rfl) hW
      refine lp_ind (P := fun (s11 : Int32 × Int32) => ∀ (ls : Array Slot) (H : Heap) (locs : List Loc), lv_has ls 5 [(0, .ref o_q0), (1, .int s3.1), (2, .int s7.1), (3, .int s11.1), (4, .int s11.2)] → St A s.heap D (wMd g o_q0 o_q1 o_q2 o_q3 o_q4 o_q5 o_q6 o_q7 o_q8 o_q9 o_q10 o_q11 o_q12 o_q13 o_q14 o_q15 o_q16 o_q17 o_q18 o_q19 o_q20 o_q21 o_q22 o_code o_tape o_size o_fault o_faultPlace o_many o_towns o_weeks o_logs o_reached o_length o_begins o_sort o_value o_word o_wrongAt o_laterFault o_laterPlace o_told o_read o_farOne o_good o_town o_people o_when o_sat o_quiet o_vain o_lent o_forgiven o_sundays o_purse o_beside o_debts o_sitting o_visited o_week o_heaps o_taken s7.2 o_more o_firstOne o_log o_fitting o_found o_seed o_row o_saved) H locs → W p l e (rmD 2) s m args below meth c H locs 0 0 Q (F0 m 26 ls [])) ?_ _ _ hf_ _ _ _ (lv_sub hl [2, 3, 4, 1, 0] rfl) hW
      intro s11 x13 hf hI12 hR12 ls H locs hl hW
      refine lv_iload S.1 S.2.1 dX12_findChains_26 (lv_at hl 4 rfl) ?_
      refine lv_aload_n S.1 S.2.1 dX12_findChains_28 rfl (lv_at hl 0 rfl) ?_
      refine gfX12_230 S hK hW.1 0 rfl rfl dX12_findChains_29 ?_
      refine lv_icmp_ge (tgt := 68) S.1 S.2.1 dX12_findChains_32 (by decide) (fun c_ => ?_) (fun c_ => ?_)
      · have hf := it_p c_ hf
        have e_ := hR12 _ (Option.some.inj hf).symm
        exact hE12 _ e_ _ _ _ (lv_sub hl [0, 1, 2, 3] rfl) hW
      · have hf := it_n c_ hf
        refine lv_iload_n S.1 S.2.1 dX12_findChains_35 rfl (lv_at hl 2 rfl) ?_
        refine lv_aload_n S.1 S.2.1 dX12_findChains_36 rfl (lv_at hl 0 rfl) ?_
        refine gfX12_230 S hK hW.1 0 rfl rfl dX12_findChains_37 ?_
        obtain ⟨x14, hf_, hk14⟩ := bnd_e hf
        have hJ14 : ∀ (v15 : Unit), x14 = .inr v15 → ∀ (ls : Array Slot) (H : Heap) (locs : List Loc), lv_has ls 5 [(0, .ref o_q0), (1, .int s3.1), (2, .int s7.1), (3, .int s11.1), (4, .int s11.2)] → St A s.heap D (wMd g o_q0 o_q1 o_q2 o_q3 o_q4 o_q5 o_q6 o_q7 o_q8 o_q9 o_q10 o_q11 o_q12 o_q13 o_q14 o_q15 o_q16 o_q17 o_q18 o_q19 o_q20 o_q21 o_q22 o_code o_tape o_size o_fault o_faultPlace o_many o_towns o_weeks o_logs o_reached o_length o_begins o_sort o_value o_word o_wrongAt o_laterFault o_laterPlace o_told o_read o_farOne o_good o_town o_people o_when o_sat o_quiet o_vain o_lent o_forgiven o_sundays o_purse o_beside o_debts o_sitting o_visited o_week o_heaps o_taken s7.2 o_more o_firstOne o_log o_fitting o_found o_seed o_row o_saved) H locs → W p l e (rmD 2) s m args below meth c H locs 0 0 Q (F0 m 49 ls []) := by
          intro v15 e_ ls H locs hl hW
          subst e_
          have hf := cse_r hk14
          refine lv_iload_n S.1 S.2.1 dX12_findChains_49 rfl (lv_at hl 3 rfl) ?_
          refine lv_aload_n S.1 S.2.1 dX12_findChains_50 rfl (lv_at hl 0 rfl) ?_
          refine lv_iload_n S.1 S.2.1 dX12_findChains_51 rfl (lv_at hl 1 rfl) ?_
          refine lv_iload_n S.1 S.2.1 dX12_findChains_52 rfl (lv_at hl 2 rfl) ?_
          refine lv_iload S.1 S.2.1 dX12_findChains_53 (lv_at hl 4 rfl) ?_
          obtain ⟨x16, hx16, hf⟩ := bnd_e hf
          refine Rd.cV (c_X12_chainBy hx16) S hK hW.1 0 10 rfl rfl kVX12_467 rfl hl.1 [.int s11.1] rfl (Nat.le_of_ble_eq_true rfl) ⟨(Nat.le_of_ble_eq_true rfl), (Nat.le_of_ble_eq_true rfl)⟩ ⟨(Nat.zero_le _), (Nat.zero_le _)⟩ dX12_findChains_55 ?_
          obtain ⟨x17, hx17, hf⟩ := bnd_e hf
          refine Rd.cS (c_X12_greater hx17) S hK va_P.nil kSX12_171 rfl hl.1 [] rfl (Nat.le_of_ble_eq_true rfl) ⟨(Nat.le_of_ble_eq_true rfl), (Nat.le_of_ble_eq_true rfl)⟩ ⟨(Nat.zero_le _), (Nat.zero_le _)⟩ dX12_findChains_58 ?_
          refine lv_istore_n (lv' := [(3, .int x17), (0, .ref o_q0), (1, .int s3.1), (2, .int s7.1), (4, .int s11.2)]) S.1 S.2.1 dX12_findChains_61 rfl hl (by decide) rfl (fun ls hl => ?_)
          refine q_iinc (w := 1) (lv' := [(4, .int (s11.2 + 1)), (3, .int x17), (0, .ref o_q0), (1, .int s3.1), (2, .int s7.1)]) S dX12_findChains_62 hl (k := 4) rfl ic_1 (by decide) rfl (fun ls hl => ?_)
          refine lv_goto (tgt := 26) S.1 S.2.1 dX12_findChains_65 (by decide) ?_
          exact hI12 _ (Option.some.inj hf).symm _ _ _ (lv_sub hl [2, 3, 4, 1, 0] rfl) hW
        have hf := hf_
        refine lv_icmp_lt (tgt := 49) S.1 S.2.1 dX12_findChains_40 (by decide) (fun c_ => ?_) (fun c_ => ?_)
        · have hf := it_p c_ hf
          exact hJ14 _ (Option.some.inj hf).symm _ _ _ (lv_sub hl [0, 1, 2, 3, 4] rfl) hW
        · have hf := it_n c_ hf
          refine lv_iload_n S.1 S.2.1 dX12_findChains_43 rfl (lv_at hl 2 rfl) ?_
          refine lv_bipush (v := 6) S.1 S.2.1 dX12_findChains_44 bp_6 ?_
          refine lv_icmp_ne (tgt := 68) S.1 S.2.1 dX12_findChains_46 (by decide) (fun c_ => ?_) (fun c_ => ?_)
          · have hf := it_n c_ hf
            have e_ := Option.some.inj hf
            subst e_
            have hf := cse_l hk14
            have e_ := hR12 _ (Option.some.inj hf).symm
            exact hE12 _ e_ _ _ _ (lv_sub hl [0, 1, 2, 3] rfl) hW
          · have hf := it_p c_ hf
            exact hJ14 _ (Option.some.inj hf).symm _ _ _ (lv_sub hl [0, 1, 2, 3, 4] rfl) hW
def f_X12_chain_L74 (fu : Nat) (x1 : Int32 × Int32 × Int32 × Int32 × Int32 × Int32 × Int32 × Int32 × Int32 × Int32 × (Nat → Int32) × (Nat → Int32) × (Nat → Int32) × (Nat → Int32) × (Nat → Int32)) (x2 : (Nat → Int32)) (s8 : Int32 × Int32 × Int32) (s12 : Int32) : Option ((Int32) ⊕ (Int32)) := bnd (α := Int32) (f_X12_chainBy fu x1.2.2.2.2.2.2.2.2.2.2.2.2.1 x2 s8.1 s8.2.1 s12) (fun x15 => bnd (α := Int32) (rdi 448 x2 (((64 : Int32) * s8.2.1) + s8.1)) (fun x16 => if x15 = x16 then some (.inr s12) else some (.inl (s12 + 1))))
def f_X12_chain_L65 (fu : Nat) (p2 : Int32) (x1 : Int32 × Int32 × Int32 × Int32 × Int32 × Int32 × Int32 × Int32 × Int32 × Int32 × (Nat → Int32) × (Nat → Int32) × (Nat → Int32) × (Nat → Int32) × (Nat → Int32)) (x2 : (Nat → Int32)) (s8 : Int32 × Int32 × Int32) : Option ((Int32 × Int32 × Int32) ⊕ (Int32)) := if p2 < s8.2.2 then some (.inr s8.2.1) else bnd (α := Int32) (lp (f_X12_chain_L74 fu x1 x2 s8) fu (0 : Int32)) (fun v17 => ltn (s8.1 ||| (jshl (1 : Int32) v17)) (fun x18 => some (.inl (x18, v17, (s8.2.2 + 1)))))
def f_X12_chain (fu : Nat) (o_code : Int32) (o_many : (Nat → Int32)) (o_towns : (Nat → Int32)) (o_town : Int32) (o_people : Int32) (o_when : Int32) (o_sat : Int32) (o_quiet : Int32) (o_vain : Int32) (o_lent : Int32) (o_forgiven : Int32) (o_sundays : Int32) (o_purse : (Nat → Int32)) (o_beside : (Nat → Int32)) (o_debts : (Nat → Int32)) (o_sitting : (Nat → Int32)) (o_visited : (Nat → Int32)) (o_best : (Nat → Int32)) (p1 : Int32) (p2 : Int32) : Option (Int32 × Int32 × Int32 × Int32 × Int32 × Int32 × Int32 × Int32 × Int32 × Int32 × Int32 × (Nat → Int32) × (Nat → Int32) × (Nat → Int32) × (Nat → Int32) × (Nat → Int32) × (Nat → Int32)) := bnd (α := Int32 × Int32 × Int32 × Int32 × Int32 × Int32 × Int32 × Int32 × Int32 × Int32 × (Nat → Int32) × (Nat → Int32) × (Nat → Int32) × (Nat → Int32) × (Nat → Int32)) (f_X12_hand fu o_many o_towns o_town o_people o_when o_sat o_quiet o_vain o_lent o_forgiven o_sundays o_purse o_beside o_debts o_sitting o_visited p1) (fun x1 => if x1.1 = 0 then some ((-1 : Int32), (0 : Int32), x1.2.1, x1.2.2.1, x1.2.2.2.1, x1.2.2.2.2.1, x1.2.2.2.2.2.1, x1.2.2.2.2.2.2.1, x1.2.2.2.2.2.2.2.1, x1.2.2.2.2.2.2.2.2.1, x1.2.2.2.2.2.2.2.2.2.1, x1.2.2.2.2.2.2.2.2.2.2.1, x1.2.2.2.2.2.2.2.2.2.2.2.1, x1.2.2.2.2.2.2.2.2.2.2.2.2.1, x1.2.2.2.2.2.2.2.2.2.2.2.2.2.1, x1.2.2.2.2.2.2.2.2.2.2.2.2.2.2, o_best) else bnd (α := (Nat → Int32)) (f_X12_findChains fu x1.2.2.1 x1.2.2.2.2.2.2.2.2.2.2.2.2.1 o_best) (fun x2 => bnd (α := Int32) (rdi 448 x2 (384 : Int32)) (fun x3 => bnd (α := (Int32 × Int32 × Int32 × Int32 × Int32 × Int32 × Int32 × Int32 × Int32 × Int32 × Int32 × (Nat → Int32) × (Nat → Int32) × (Nat → Int32) × (Nat → Int32) × (Nat → Int32) × (Nat → Int32)) ⊕ (Unit)) (if p2 = (-1 : Int32) then some (.inr ()) else bnd (α := Int32) (f_X12_in fu p2 (0 : Int32) (x3 - (1 : Int32))) (fun x6 => if x6 = 0 then some (.inr ()) else bnd (α := Int32) (lp (f_X12_chain_L65 fu p2 x1 x2) fu ((0 : Int32), (6 : Int32), (0 : Int32))) (fun v19 => some (.inl (v19, (0 : Int32), x1.2.1, x1.2.2.1, x1.2.2.2.1, x1.2.2.2.2.1, x1.2.2.2.2.2.1, x1.2.2.2.2.2.2.1, x1.2.2.2.2.2.2.2.1, x1.2.2.2.2.2.2.2.2.1, x1.2.2.2.2.2.2.2.2.2.1, x1.2.2.2.2.2.2.2.2.2.2.1, x1.2.2.2.2.2.2.2.2.2.2.2.1, x1.2.2.2.2.2.2.2.2.2.2.2.2.1, x1.2.2.2.2.2.2.2.2.2.2.2.2.2.1, x1.2.2.2.2.2.2.2.2.2.2.2.2.2.2, x2))))) (fun x4 => cse x4 (fun y20 => some y20) (fun v5 => if p2 = (-1 : Int32) then some (x3, (0 : Int32), x1.2.1, x1.2.2.1, x1.2.2.2.1, x1.2.2.2.2.1, x1.2.2.2.2.2.1, x1.2.2.2.2.2.2.1, x1.2.2.2.2.2.2.2.1, x1.2.2.2.2.2.2.2.2.1, x1.2.2.2.2.2.2.2.2.2.1, x1.2.2.2.2.2.2.2.2.2.2.1, x1.2.2.2.2.2.2.2.2.2.2.2.1, x1.2.2.2.2.2.2.2.2.2.2.2.2.1, x1.2.2.2.2.2.2.2.2.2.2.2.2.2.1, x1.2.2.2.2.2.2.2.2.2.2.2.2.2.2, x2) else some ((-1 : Int32), (0 : Int32), x1.2.1, x1.2.2.1, x1.2.2.2.1, x1.2.2.2.2.1, x1.2.2.2.2.2.1, x1.2.2.2.2.2.2.1, x1.2.2.2.2.2.2.2.1, x1.2.2.2.2.2.2.2.2.1, x1.2.2.2.2.2.2.2.2.2.1, x1.2.2.2.2.2.2.2.2.2.2.1, x1.2.2.2.2.2.2.2.2.2.2.2.1, x1.2.2.2.2.2.2.2.2.2.2.2.2.1, x1.2.2.2.2.2.2.2.2.2.2.2.2.2.1, x1.2.2.2.2.2.2.2.2.2.2.2.2.2.2, x2))))))
set_option maxHeartbeats 4000000 in
set_option maxRecDepth 100000 in
theorem c_X12_chain {l : Launch} {D : va_G} {g : Nat → ClassId} {fu : Nat} {o_q0 o_q1 o_q2 o_q3 o_q4 o_q5 o_q6 o_q7 o_q8 o_q9 o_q10 o_q11 o_q12 o_q13 o_q14 o_q15 o_q16 o_q17 o_q18 o_q19 o_q20 o_q21 o_q22 : Nat} {o_code : Int32} {o_tape : (Nat → Int32)} {o_size : (Nat → Int32)} {o_fault : (Nat → Int32)} {o_faultPlace : (Nat → Int32)} {o_many : (Nat → Int32)} {o_towns : (Nat → Int32)} {o_weeks : (Nat → Int32)} {o_logs : (Nat → Int32)} {o_reached : Int32} {o_length : Int32} {o_begins : Int32} {o_sort : Int32} {o_value : Int32} {o_word : Int64} {o_wrongAt : Int32} {o_laterFault : Int32} {o_laterPlace : Int32} {o_told : (Nat → Int32)} {o_read : (Nat → Int32)} {o_farOne : Int32} {o_good : Int32} {o_town : Int32} {o_people : Int32} {o_when : Int32} {o_sat : Int32} {o_quiet : Int32} {o_vain : Int32} {o_lent : Int32} {o_forgiven : Int32} {o_sundays : Int32} {o_purse : (Nat → Int32)} {o_beside : (Nat → Int32)} {o_debts : (Nat → Int32)} {o_sitting : (Nat → Int32)} {o_visited : (Nat → Int32)} {o_week : Int32} {o_heaps : (Nat → Int32)} {o_taken : (Nat → Int32)} {o_best : (Nat → Int32)} {o_more : (Nat → Int32)} {o_firstOne : Int32} {o_log : Int32} {o_fitting : (Nat → Int32)} {o_found : Int32} {o_seed : Int32} {o_row : (Nat → Int32)} {o_saved : (Nat → Int32)} {p1 : Int32} {p2 : Int32} {r : Int32 × Int32 × Int32 × Int32 × Int32 × Int32 × Int32 × Int32 × Int32 × Int32 × Int32 × (Nat → Int32) × (Nat → Int32) × (Nat → Int32) × (Nat → Int32) × (Nat → Int32) × (Nat → Int32)} (hf : f_X12_chain fu o_code o_many o_towns o_town o_people o_when o_sat o_quiet o_vain o_lent o_forgiven o_sundays o_purse o_beside o_debts o_sitting o_visited o_best p1 p2 = some r) : Wr l D (gy g) yX12_chain cX12_chain 8 (some .int) 3 [.ref o_q0, .int p1, .int p2] (wMd g o_q0 o_q1 o_q2 o_q3 o_q4 o_q5 o_q6 o_q7 o_q8 o_q9 o_q10 o_q11 o_q12 o_q13 o_q14 o_q15 o_q16 o_q17 o_q18 o_q19 o_q20 o_q21 o_q22 o_code o_tape o_size o_fault o_faultPlace o_many o_towns o_weeks o_logs o_reached o_length o_begins o_sort o_value o_word o_wrongAt o_laterFault o_laterPlace o_told o_read o_farOne o_good o_town o_people o_when o_sat o_quiet o_vain o_lent o_forgiven o_sundays o_purse o_beside o_debts o_sitting o_visited o_week o_heaps o_taken o_best o_more o_firstOne o_log o_fitting o_found o_seed o_row o_saved) (wMd g o_q0 o_q1 o_q2 o_q3 o_q4 o_q5 o_q6 o_q7 o_q8 o_q9 o_q10 o_q11 o_q12 o_q13 o_q14 o_q15 o_q16 o_q17 o_q18 o_q19 o_q20 o_q21 o_q22 r.2.1 o_tape o_size o_fault o_faultPlace o_many o_towns o_weeks o_logs o_reached o_length o_begins o_sort o_value o_word o_wrongAt o_laterFault o_laterPlace o_told o_read o_farOne o_good r.2.2.1 r.2.2.2.1 r.2.2.2.2.1 r.2.2.2.2.2.1 r.2.2.2.2.2.2.1 r.2.2.2.2.2.2.2.1 r.2.2.2.2.2.2.2.2.1 r.2.2.2.2.2.2.2.2.2.1 r.2.2.2.2.2.2.2.2.2.2.1 r.2.2.2.2.2.2.2.2.2.2.2.1 r.2.2.2.2.2.2.2.2.2.2.2.2.1 r.2.2.2.2.2.2.2.2.2.2.2.2.2.1 r.2.2.2.2.2.2.2.2.2.2.2.2.2.2.1 r.2.2.2.2.2.2.2.2.2.2.2.2.2.2.2.1 o_week o_heaps o_taken r.2.2.2.2.2.2.2.2.2.2.2.2.2.2.2.2 o_more o_firstOne o_log o_fitting o_found o_seed o_row o_saved) (some (.int r.1)) := by
  refine Wr.ofI (by decide) (Nat.le_of_ble_eq_true rfl) ?_
  intro p e s m args below meth c Q A S hK hA hret ls hl hW
  have hl : lv_has ls 8 [(0, .ref o_q0), (1, .int p1), (2, .int p2)] := hl
  refine lv_aload_n S.1 S.2.1 dX12_chain_0 rfl (lv_at hl 0 rfl) ?_
  refine lv_iconst (v := 0) S.1 S.2.1 dX12_chain_1 ic_0 ?_
  refine pfX12_78 (ws2 := (wMd g o_q0 o_q1 o_q2 o_q3 o_q4 o_q5 o_q6 o_q7 o_q8 o_q9 o_q10 o_q11 o_q12 o_q13 o_q14 o_q15 o_q16 o_q17 o_q18 o_q19 o_q20 o_q21 o_q22 (0 : Int32) o_tape o_size o_fault o_faultPlace o_many o_towns o_weeks o_logs o_reached o_length o_begins o_sort o_value o_word o_wrongAt o_laterFault o_laterPlace o_told o_read o_farOne o_good o_town o_people o_when o_sat o_quiet o_vain o_lent o_forgiven o_sundays o_purse o_beside o_debts o_sitting o_visited o_week o_heaps o_taken o_best o_more o_firstOne o_log o_fitting o_found o_seed o_row o_saved)) S hK hW 0 rfl rfl rfl (Nat.le_of_ble_eq_true rfl) rfl dX12_chain_2 (fun H locs hW => ?_)
  refine lv_aload_n S.1 S.2.1 dX12_chain_5 rfl (lv_at hl 0 rfl) ?_
  refine lv_iload_n S.1 S.2.1 dX12_chain_6 rfl (lv_at hl 1 rfl) ?_
  obtain ⟨x1, hx1, hf⟩ := bnd_e hf
  refine Wr.goW (Wr.runV (c_X12_hand hx1) S hK hW.1 hW.2.1 0 10 rfl rfl kVX12_257 rfl hl.1 [] rfl (Nat.le_of_ble_eq_true rfl) ⟨(Nat.le_of_ble_eq_true rfl), (Nat.le_of_ble_eq_true rfl)⟩ ⟨(Nat.zero_le _), (Nat.zero_le _)⟩ dX12_chain_7) hW hA (fun H locs hW => ?_)
  refine lv_if_ne (tgt := 15) S.1 S.2.1 dX12_chain_10 (by decide) (fun c_ => ?_) (fun c_ => ?_)
  · have hf := it_n c_ hf
    refine lv_aload_n S.1 S.2.1 dX12_chain_15 rfl (lv_at hl 0 rfl) ?_
    obtain ⟨x2, hx2, hf⟩ := bnd_e hf
    refine Wr.goW (Wr.runV (c_X12_findChains hx2) S hK hW.1 hW.2.1 0 10 rfl rfl kVX12_470 rfl hl.1 [] rfl (Nat.le_of_ble_eq_true rfl) ⟨(Nat.le_of_ble_eq_true rfl), (Nat.le_of_ble_eq_true rfl)⟩ ⟨(Nat.zero_le _), (Nat.zero_le _)⟩ dX12_chain_16) hW hA (fun H locs hW => ?_)
    refine lv_aload_n S.1 S.2.1 dX12_chain_19 rfl (lv_at hl 0 rfl) ?_
    refine gfX12_62 S hK hW.1 0 rfl rfl dX12_chain_20 ?_
    refine lv_sipush (v := 384) S.1 S.2.1 dX12_chain_23 sp_384 ?_
    obtain ⟨x3, hx3, hf⟩ := bnd_e hf
    refine q_iald S hK hW.1 18 0 rfl rfl hx3 dX12_chain_26 ?_
    refine lv_istore_n (lv' := [(3, .int x3), (0, .ref o_q0), (1, .int p1), (2, .int p2)]) S.1 S.2.1 dX12_chain_27 rfl hl (by decide) rfl (fun ls hl => ?_)
    refine lv_iload_n S.1 S.2.1 dX12_chain_28 rfl (lv_at hl 3 rfl) ?_
    refine lv_iconst (v := (-1)) S.1 S.2.1 dX12_chain_29 ic_m1 ?_
    obtain ⟨x4, hf_, hk4⟩ := bnd_e hf
    have hJ4 : ∀ (v5 : Unit), x4 = .inr v5 → ∀ (ls : Array Slot) (H : Heap) (locs : List Loc), lv_has ls 8 [(2, .int p2), (3, .int x3)] → St A s.heap D (wMd g o_q0 o_q1 o_q2 o_q3 o_q4 o_q5 o_q6 o_q7 o_q8 o_q9 o_q10 o_q11 o_q12 o_q13 o_q14 o_q15 o_q16 o_q17 o_q18 o_q19 o_q20 o_q21 o_q22 (0 : Int32) o_tape o_size o_fault o_faultPlace o_many o_towns o_weeks o_logs o_reached o_length o_begins o_sort o_value o_word o_wrongAt o_laterFault o_laterPlace o_told o_read o_farOne o_good x1.2.1 x1.2.2.1 x1.2.2.2.1 x1.2.2.2.2.1 x1.2.2.2.2.2.1 x1.2.2.2.2.2.2.1 x1.2.2.2.2.2.2.2.1 x1.2.2.2.2.2.2.2.2.1 x1.2.2.2.2.2.2.2.2.2.1 x1.2.2.2.2.2.2.2.2.2.2.1 x1.2.2.2.2.2.2.2.2.2.2.2.1 x1.2.2.2.2.2.2.2.2.2.2.2.2.1 x1.2.2.2.2.2.2.2.2.2.2.2.2.2.1 x1.2.2.2.2.2.2.2.2.2.2.2.2.2.2 o_week o_heaps o_taken x2 o_more o_firstOne o_log o_fitting o_found o_seed o_row o_saved) H locs → W p l e (rmD 3) s m args below meth c H locs 0 0 Q (F0 m 44 ls []) := by
      intro v5 e_ ls H locs hl hW
      subst e_
      have hf := cse_r hk4
      refine lv_iload_n S.1 S.2.1 dX12_chain_44 rfl (lv_at hl 0 rfl) ?_
      refine lv_iconst (v := (-1)) S.1 S.2.1 dX12_chain_45 ic_m1 ?_
      refine lv_icmp_ne (tgt := 53) S.1 S.2.1 dX12_chain_46 (by decide) (fun c_ => ?_) (fun c_ => ?_)
      · have hf := it_n c_ hf
        refine lv_iconst (v := (-1)) S.1 S.2.1 dX12_chain_53 ic_m1 ?_
        have e_ := Option.some.inj hf
        subst e_
        exact hret _ _ _ _ dX12_chain_54 hW
      · have hf := it_p c_ hf
        refine lv_iload_n S.1 S.2.1 dX12_chain_49 rfl (lv_at hl 1 rfl) ?_
        refine lv_goto (tgt := 54) S.1 S.2.1 dX12_chain_50 (by decide) ?_
        have e_ := Option.some.inj hf
        subst e_
        exact hret _ _ _ _ dX12_chain_54 hW
    have hf := hf_
    refine lv_icmp_eq (tgt := 44) S.1 S.2.1 dX12_chain_30 (by decide) (fun c_ => ?_) (fun c_ => ?_)
    · have hf := it_p c_ hf
      exact hJ4 _ (Option.some.inj hf).symm _ _ _ (lv_sub hl [3, 0] rfl) hW
    · have hf := it_n c_ hf
      refine lv_iload_n S.1 S.2.1 dX12_chain_33 rfl (lv_at hl 3 rfl) ?_
      refine lv_iconst (v := 0) S.1 S.2.1 dX12_chain_34 ic_0 ?_
      refine lv_iload_n S.1 S.2.1 dX12_chain_35 rfl (lv_at hl 0 rfl) ?_
      refine lv_iconst (v := 1) S.1 S.2.1 dX12_chain_36 ic_1 ?_
      refine lv_isub S.1 S.2.1 dX12_chain_37 ?_
      obtain ⟨x6, hx6, hf⟩ := bnd_e hf
      refine Rd.cS (c_X12_in hx6) S hK va_P.nil kSX12_90 rfl hl.1 [] rfl (Nat.le_of_ble_eq_true rfl) ⟨(Nat.le_of_ble_eq_true rfl), (Nat.le_of_ble_eq_true rfl)⟩ ⟨(Nat.zero_le _), (Nat.zero_le _)⟩ dX12_chain_38 ?_
      refine lv_if_ne (tgt := 55) S.1 S.2.1 dX12_chain_41 (by decide) (fun c_ => ?_) (fun c_ => ?_)
      · have hf := it_n c_ hf
        refine lv_iconst (v := 0) S.1 S.2.1 dX12_chain_55 ic_0 ?_
        refine lv_istore (lv' := [(4, .int (0 : Int32)), (3, .int x3), (0, .ref o_q0), (1, .int p1), (2, .int p2)]) S.1 S.2.1 dX12_chain_56 hl (by decide) rfl (fun ls hl => ?_)
        refine lv_bipush (v := 6) S.1 S.2.1 dX12_chain_58 bp_6 ?_
        refine lv_istore (lv' := [(5, .int (6 : Int32)), (4, .int (0 : Int32)), (3, .int x3), (0, .ref o_q0), (1, .int p1), (2, .int p2)]) S.1 S.2.1 dX12_chain_60 hl (by decide) rfl (fun ls hl => ?_)
        refine lv_iconst (v := 0) S.1 S.2.1 dX12_chain_62 ic_0 ?_
        refine lv_istore (lv' := [(6, .int (0 : Int32)), (5, .int (6 : Int32)), (4, .int (0 : Int32)), (3, .int x3), (0, .ref o_q0), (1, .int p1), (2, .int p2)]) S.1 S.2.1 dX12_chain_63 hl (by decide) rfl (fun ls hl => ?_)
        obtain ⟨x9, hf_, hk9⟩ := bnd_e hf
        have hE9 : ∀ (v19 : Int32), v19 = x9 → ∀ (ls : Array Slot) (H : Heap) (locs : List Loc), lv_has ls 8 [(5, .int v19)] → St A s.heap D (wMd g o_q0 o_q1 o_q2 o_q3 o_q4 o_q5 o_q6 o_q7 o_q8 o_q9 o_q10 o_q11 o_q12 o_q13 o_q14 o_q15 o_q16 o_q17 o_q18 o_q19 o_q20 o_q21 o_q22 (0 : Int32) o_tape o_size o_fault o_faultPlace o_many o_towns o_weeks o_logs o_reached o_length o_begins o_sort o_value o_word o_wrongAt o_laterFault o_laterPlace o_told o_read o_farOne o_good x1.2.1 x1.2.2.1 x1.2.2.2.1 x1.2.2.2.2.1 x1.2.2.2.2.2.1 x1.2.2.2.2.2.2.1 x1.2.2.2.2.2.2.2.1 x1.2.2.2.2.2.2.2.2.1 x1.2.2.2.2.2.2.2.2.2.1 x1.2.2.2.2.2.2.2.2.2.2.1 x1.2.2.2.2.2.2.2.2.2.2.2.1 x1.2.2.2.2.2.2.2.2.2.2.2.2.1 x1.2.2.2.2.2.2.2.2.2.2.2.2.2.1 x1.2.2.2.2.2.2.2.2.2.2.2.2.2.2 o_week o_heaps o_taken x2 o_more o_firstOne o_log o_fitting o_found o_seed o_row o_saved) H locs → W p l e (rmD 3) s m args below meth c H locs 0 0 Q (F0 m 125 ls []) := by
          intro v19 e_ ls H locs hl hW
          subst e_
          have hf := hk9
          refine lv_iload S.1 S.2.1 dX12_chain_125 (lv_at hl 0 rfl) ?_
          have e_ := Option.some.inj hf
          subst e_
          have hf := cse_l hk4
          have e_ := Option.some.inj hf
          subst e_
          exact hret _ _ _ _ dX12_chain_127 hW
        refine lp_ind (P := fun (s8 : Int32 × Int32 × Int32) => ∀ (ls : Array Slot) (H : Heap) (locs : List Loc), lv_has ls 8 [(0, .ref o_q0), (2, .int p2), (4, .int s8.1), (5, .int s8.2.1), (6, .int s8.2.2)] → St A s.heap D (wMd g o_q0 o_q1 o_q2 o_q3 o_q4 o_q5 o_q6 o_q7 o_q8 o_q9 o_q10 o_q11 o_q12 o_q13 o_q14 o_q15 o_q16 o_q17 o_q18 o_q19 o_q20 o_q21 o_q22 (0 : Int32) o_tape o_size o_fault o_faultPlace o_many o_towns o_weeks o_logs o_reached o_length o_begins o_sort o_value o_word o_wrongAt o_laterFault o_laterPlace o_told o_read o_farOne o_good x1.2.1 x1.2.2.1 x1.2.2.2.1 x1.2.2.2.2.1 x1.2.2.2.2.2.1 x1.2.2.2.2.2.2.1 x1.2.2.2.2.2.2.2.1 x1.2.2.2.2.2.2.2.2.1 x1.2.2.2.2.2.2.2.2.2.1 x1.2.2.2.2.2.2.2.2.2.2.1 x1.2.2.2.2.2.2.2.2.2.2.2.1 x1.2.2.2.2.2.2.2.2.2.2.2.2.1 x1.2.2.2.2.2.2.2.2.2.2.2.2.2.1 x1.2.2.2.2.2.2.2.2.2.2.2.2.2.2 o_week o_heaps o_taken x2 o_more o_firstOne o_log o_fitting o_found o_seed o_row o_saved) H locs → W p l e (rmD 3) s m args below meth c H locs 0 0 Q (F0 m 65 ls [])) ?_ _ _ hf_ _ _ _ (lv_sub hl [4, 6, 2, 1, 0] rfl) hW
        intro s8 x10 hf hI9 hR9 ls H locs hl hW
        refine lv_iload S.1 S.2.1 dX12_chain_65 (lv_at hl 4 rfl) ?_
        refine lv_iload_n S.1 S.2.1 dX12_chain_67 rfl (lv_at hl 1 rfl) ?_
        refine lv_icmp_gt (tgt := 125) S.1 S.2.1 dX12_chain_68 (by decide) (fun c_ => ?_) (fun c_ => ?_)
        · have hf := it_p c_ hf
          have e_ := hR9 _ (Option.some.inj hf).symm
          exact hE9 _ e_ _ _ _ (lv_sub hl [3] rfl) hW
        · have hf := it_n c_ hf
          refine lv_iconst (v := 0) S.1 S.2.1 dX12_chain_71 ic_0 ?_
          refine lv_istore (lv' := [(7, .int (0 : Int32)), (0, .ref o_q0), (2, .int p2), (4, .int s8.1), (5, .int s8.2.1), (6, .int s8.2.2)]) S.1 S.2.1 dX12_chain_72 hl (by decide) rfl (fun ls hl => ?_)
          obtain ⟨x13, hf_, hk13⟩ := bnd_e hf
          have hE13 : ∀ (v17 : Int32), v17 = x13 → ∀ (ls : Array Slot) (H : Heap) (locs : List Loc), lv_has ls 8 [(0, .ref o_q0), (2, .int p2), (4, .int s8.1), (6, .int s8.2.2), (7, .int v17)] → St A s.heap D (wMd g o_q0 o_q1 o_q2 o_q3 o_q4 o_q5 o_q6 o_q7 o_q8 o_q9 o_q10 o_q11 o_q12 o_q13 o_q14 o_q15 o_q16 o_q17 o_q18 o_q19 o_q20 o_q21 o_q22 (0 : Int32) o_tape o_size o_fault o_faultPlace o_many o_towns o_weeks o_logs o_reached o_length o_begins o_sort o_value o_word o_wrongAt o_laterFault o_laterPlace o_told o_read o_farOne o_good x1.2.1 x1.2.2.1 x1.2.2.2.1 x1.2.2.2.2.1 x1.2.2.2.2.2.1 x1.2.2.2.2.2.2.1 x1.2.2.2.2.2.2.2.1 x1.2.2.2.2.2.2.2.2.1 x1.2.2.2.2.2.2.2.2.2.1 x1.2.2.2.2.2.2.2.2.2.2.1 x1.2.2.2.2.2.2.2.2.2.2.2.1 x1.2.2.2.2.2.2.2.2.2.2.2.2.1 x1.2.2.2.2.2.2.2.2.2.2.2.2.2.1 x1.2.2.2.2.2.2.2.2.2.2.2.2.2.2 o_week o_heaps o_taken x2 o_more o_firstOne o_log o_fitting o_found o_seed o_row o_saved) H locs → W p l e (rmD 3) s m args below meth c H locs 0 0 Q (F0 m 106 ls []) := by
            intro v17 e_ ls H locs hl hW
            subst e_
            have hf := hk13
            refine lv_iload S.1 S.2.1 dX12_chain_106 (lv_at hl 2 rfl) ?_
            refine lv_iconst (v := 1) S.1 S.2.1 dX12_chain_108 ic_1 ?_
            refine lv_iload S.1 S.2.1 dX12_chain_109 (lv_at hl 4 rfl) ?_
            refine lv_ishl S.1 S.2.1 dX12_chain_111 ?_
            refine lv_ior S.1 S.2.1 dX12_chain_112 ?_
            refine lv_topi (fun x18 ex18 => ?_)
            have hf := ltn_e hf ex18
            refine lv_istore (lv' := [(4, .int x18), (0, .ref o_q0), (2, .int p2), (6, .int s8.2.2), (7, .int v17)]) S.1 S.2.1 dX12_chain_113 hl (by decide) rfl (fun ls hl => ?_)
            refine lv_iload S.1 S.2.1 dX12_chain_115 (lv_at hl 4 rfl) ?_
            refine lv_istore (lv' := [(5, .int v17), (4, .int x18), (0, .ref o_q0), (2, .int p2), (6, .int s8.2.2), (7, .int v17)]) S.1 S.2.1 dX12_chain_117 hl (by decide) rfl (fun ls hl => ?_)
            refine q_iinc (w := 1) (lv' := [(6, .int (s8.2.2 + 1)), (5, .int v17), (4, .int x18), (0, .ref o_q0), (2, .int p2), (7, .int v17)]) S dX12_chain_119 hl (k := 4) rfl ic_1 (by decide) rfl (fun ls hl => ?_)
            refine lv_goto (tgt := 65) S.1 S.2.1 dX12_chain_122 (by decide) ?_
            exact hI9 _ (Option.some.inj hf).symm _ _ _ (lv_sub hl [3, 4, 2, 1, 0] rfl) hW
          refine lp_ind (P := fun (s12 : Int32) => ∀ (ls : Array Slot) (H : Heap) (locs : List Loc), lv_has ls 8 [(0, .ref o_q0), (2, .int p2), (4, .int s8.1), (5, .int s8.2.1), (6, .int s8.2.2), (7, .int s12)] → St A s.heap D (wMd g o_q0 o_q1 o_q2 o_q3 o_q4 o_q5 o_q6 o_q7 o_q8 o_q9 o_q10 o_q11 o_q12 o_q13 o_q14 o_q15 o_q16 o_q17 o_q18 o_q19 o_q20 o_q21 o_q22 (0 : Int32) o_tape o_size o_fault o_faultPlace o_many o_towns o_weeks o_logs o_reached o_length o_begins o_sort o_value o_word o_wrongAt o_laterFault o_laterPlace o_told o_read o_farOne o_good x1.2.1 x1.2.2.1 x1.2.2.2.1 x1.2.2.2.2.1 x1.2.2.2.2.2.1 x1.2.2.2.2.2.2.1 x1.2.2.2.2.2.2.2.1 x1.2.2.2.2.2.2.2.2.1 x1.2.2.2.2.2.2.2.2.2.1 x1.2.2.2.2.2.2.2.2.2.2.1 x1.2.2.2.2.2.2.2.2.2.2.2.1 x1.2.2.2.2.2.2.2.2.2.2.2.2.1 x1.2.2.2.2.2.2.2.2.2.2.2.2.2.1 x1.2.2.2.2.2.2.2.2.2.2.2.2.2.2 o_week o_heaps o_taken x2 o_more o_firstOne o_log o_fitting o_found o_seed o_row o_saved) H locs → W p l e (rmD 3) s m args below meth c H locs 0 0 Q (F0 m 74 ls [])) ?_ _ _ hf_ _ _ _ (lv_sub hl [1, 2, 3, 4, 5, 0] rfl) hW
          intro s12 x14 hf hI13 hR13 ls H locs hl hW
          refine lv_aload_n S.1 S.2.1 dX12_chain_74 rfl (lv_at hl 0 rfl) ?_
          refine lv_iload S.1 S.2.1 dX12_chain_75 (lv_at hl 2 rfl) ?_
          refine lv_iload S.1 S.2.1 dX12_chain_77 (lv_at hl 3 rfl) ?_
          refine lv_iload S.1 S.2.1 dX12_chain_79 (lv_at hl 5 rfl) ?_
          obtain ⟨x15, hx15, hf⟩ := bnd_e hf
          refine Rd.cV (c_X12_chainBy hx15) S hK hW.1 0 10 rfl rfl kVX12_467 rfl hl.1 [] rfl (Nat.le_of_ble_eq_true rfl) ⟨(Nat.le_of_ble_eq_true rfl), (Nat.le_of_ble_eq_true rfl)⟩ ⟨(Nat.zero_le _), (Nat.zero_le _)⟩ dX12_chain_81 ?_
          refine lv_aload_n S.1 S.2.1 dX12_chain_84 rfl (lv_at hl 0 rfl) ?_
          refine gfX12_62 S hK hW.1 0 rfl rfl dX12_chain_85 ?_
          refine lv_bipush (v := 64) S.1 S.2.1 dX12_chain_88 bp_64 ?_
          refine lv_iload S.1 S.2.1 dX12_chain_90 (lv_at hl 3 rfl) ?_
          refine lv_imul S.1 S.2.1 dX12_chain_92 ?_
          refine lv_iload S.1 S.2.1 dX12_chain_93 (lv_at hl 2 rfl) ?_
          refine lv_iadd S.1 S.2.1 dX12_chain_95 ?_
          obtain ⟨x16, hx16, hf⟩ := bnd_e hf
          refine q_iald S hK hW.1 18 0 rfl rfl hx16 dX12_chain_96 ?_
          refine lv_icmp_eq (tgt := 106) S.1 S.2.1 dX12_chain_97 (by decide) (fun c_ => ?_) (fun c_ => ?_)
          · have hf := it_p c_ hf
            have e_ := hR13 _ (Option.some.inj hf).symm
            exact hE13 _ e_ _ _ _ (lv_sub hl [0, 1, 2, 4, 5] rfl) hW
          · have hf := it_n c_ hf
            refine q_iinc (w := 1) (lv' := [(7, .int (s12 + 1)), (0, .ref o_q0), (2, .int p2), (4, .int s8.1), (5, .int s8.2.1), (6, .int s8.2.2)]) S dX12_chain_100 hl (k := 5) rfl ic_1 (by decide) rfl (fun ls hl => ?_)
            refine lv_goto (tgt := 74) S.1 S.2.1 dX12_chain_103 (by decide) ?_
            exact hI13 _ (Option.some.inj hf).symm _ _ _ (lv_sub hl [1, 2, 3, 4, 5, 0] rfl) hW
      · have hf := it_p c_ hf
        exact hJ4 _ (Option.some.inj hf).symm _ _ _ (lv_sub hl [3, 0] rfl) hW
  · have hf := it_p c_ hf
    refine lv_iconst (v := (-1)) S.1 S.2.1 dX12_chain_13 ic_m1 ?_
    have e_ := Option.some.inj hf
    subst e_
    exact hret _ _ _ _ dX12_chain_14 hW
def f_X12_wealth (fu : Nat) (o_code : Int32) (o_many : (Nat → Int32)) (o_towns : (Nat → Int32)) (o_town : Int32) (o_people : Int32) (o_when : Int32) (o_sat : Int32) (o_quiet : Int32) (o_vain : Int32) (o_lent : Int32) (o_forgiven : Int32) (o_sundays : Int32) (o_purse : (Nat → Int32)) (o_beside : (Nat → Int32)) (o_debts : (Nat → Int32)) (o_sitting : (Nat → Int32)) (o_visited : (Nat → Int32)) (p1 : Int32) (p2 : Int32) : Option (Int32 × Int32 × Int32 × Int32 × Int32 × Int32 × Int32 × Int32 × Int32 × Int32 × Int32 × (Nat → Int32) × (Nat → Int32) × (Nat → Int32) × (Nat → Int32) × (Nat → Int32)) := bnd (α := Int32 × Int32 × Int32 × Int32 × Int32 × Int32 × Int32 × Int32 × Int32 × Int32 × (Nat → Int32) × (Nat → Int32) × (Nat → Int32) × (Nat → Int32) × (Nat → Int32)) (f_X12_hand fu o_many o_towns o_town o_people o_when o_sat o_quiet o_vain o_lent o_forgiven o_sundays o_purse o_beside o_debts o_sitting o_visited p1) (fun x1 => if x1.1 = 0 then some ((-999 : Int32), (0 : Int32), x1.2.1, x1.2.2.1, x1.2.2.2.1, x1.2.2.2.2.1, x1.2.2.2.2.2.1, x1.2.2.2.2.2.2.1, x1.2.2.2.2.2.2.2.1, x1.2.2.2.2.2.2.2.2.1, x1.2.2.2.2.2.2.2.2.2.1, x1.2.2.2.2.2.2.2.2.2.2.1, x1.2.2.2.2.2.2.2.2.2.2.2.1, x1.2.2.2.2.2.2.2.2.2.2.2.2.1, x1.2.2.2.2.2.2.2.2.2.2.2.2.2.1, x1.2.2.2.2.2.2.2.2.2.2.2.2.2.2) else bnd (α := Int32) (f_X12_isPerson fu x1.2.2.1 p2) (fun x2 => if x2 = 0 then some ((-999 : Int32), (0 : Int32), x1.2.1, x1.2.2.1, x1.2.2.2.1, x1.2.2.2.2.1, x1.2.2.2.2.2.1, x1.2.2.2.2.2.2.1, x1.2.2.2.2.2.2.2.1, x1.2.2.2.2.2.2.2.2.1, x1.2.2.2.2.2.2.2.2.2.1, x1.2.2.2.2.2.2.2.2.2.2.1, x1.2.2.2.2.2.2.2.2.2.2.2.1, x1.2.2.2.2.2.2.2.2.2.2.2.2.1, x1.2.2.2.2.2.2.2.2.2.2.2.2.2.1, x1.2.2.2.2.2.2.2.2.2.2.2.2.2.2) else bnd (α := Int32) (f_X12_wealthOf fu x1.2.2.1 x1.2.2.2.2.2.2.2.2.2.2.1 x1.2.2.2.2.2.2.2.2.2.2.2.2.1 p2) (fun x3 => some (x3, (0 : Int32), x1.2.1, x1.2.2.1, x1.2.2.2.1, x1.2.2.2.2.1, x1.2.2.2.2.2.1, x1.2.2.2.2.2.2.1, x1.2.2.2.2.2.2.2.1, x1.2.2.2.2.2.2.2.2.1, x1.2.2.2.2.2.2.2.2.2.1, x1.2.2.2.2.2.2.2.2.2.2.1, x1.2.2.2.2.2.2.2.2.2.2.2.1, x1.2.2.2.2.2.2.2.2.2.2.2.2.1, x1.2.2.2.2.2.2.2.2.2.2.2.2.2.1, x1.2.2.2.2.2.2.2.2.2.2.2.2.2.2))))
set_option maxHeartbeats 4000000 in
set_option maxRecDepth 100000 in
theorem c_X12_wealth {l : Launch} {D : va_G} {g : Nat → ClassId} {fu : Nat} {o_q0 o_q1 o_q2 o_q3 o_q4 o_q5 o_q6 o_q7 o_q8 o_q9 o_q10 o_q11 o_q12 o_q13 o_q14 o_q15 o_q16 o_q17 o_q18 o_q19 o_q20 o_q21 o_q22 : Nat} {o_code : Int32} {o_tape : (Nat → Int32)} {o_size : (Nat → Int32)} {o_fault : (Nat → Int32)} {o_faultPlace : (Nat → Int32)} {o_many : (Nat → Int32)} {o_towns : (Nat → Int32)} {o_weeks : (Nat → Int32)} {o_logs : (Nat → Int32)} {o_reached : Int32} {o_length : Int32} {o_begins : Int32} {o_sort : Int32} {o_value : Int32} {o_word : Int64} {o_wrongAt : Int32} {o_laterFault : Int32} {o_laterPlace : Int32} {o_told : (Nat → Int32)} {o_read : (Nat → Int32)} {o_farOne : Int32} {o_good : Int32} {o_town : Int32} {o_people : Int32} {o_when : Int32} {o_sat : Int32} {o_quiet : Int32} {o_vain : Int32} {o_lent : Int32} {o_forgiven : Int32} {o_sundays : Int32} {o_purse : (Nat → Int32)} {o_beside : (Nat → Int32)} {o_debts : (Nat → Int32)} {o_sitting : (Nat → Int32)} {o_visited : (Nat → Int32)} {o_week : Int32} {o_heaps : (Nat → Int32)} {o_taken : (Nat → Int32)} {o_best : (Nat → Int32)} {o_more : (Nat → Int32)} {o_firstOne : Int32} {o_log : Int32} {o_fitting : (Nat → Int32)} {o_found : Int32} {o_seed : Int32} {o_row : (Nat → Int32)} {o_saved : (Nat → Int32)} {p1 : Int32} {p2 : Int32} {r : Int32 × Int32 × Int32 × Int32 × Int32 × Int32 × Int32 × Int32 × Int32 × Int32 × Int32 × (Nat → Int32) × (Nat → Int32) × (Nat → Int32) × (Nat → Int32) × (Nat → Int32)} (hf : f_X12_wealth fu o_code o_many o_towns o_town o_people o_when o_sat o_quiet o_vain o_lent o_forgiven o_sundays o_purse o_beside o_debts o_sitting o_visited p1 p2 = some r) : Wr l D (gy g) yX12_wealth cX12_wealth 3 (some .int) 4 [.ref o_q0, .int p1, .int p2] (wMd g o_q0 o_q1 o_q2 o_q3 o_q4 o_q5 o_q6 o_q7 o_q8 o_q9 o_q10 o_q11 o_q12 o_q13 o_q14 o_q15 o_q16 o_q17 o_q18 o_q19 o_q20 o_q21 o_q22 o_code o_tape o_size o_fault o_faultPlace o_many o_towns o_weeks o_logs o_reached o_length o_begins o_sort o_value o_word o_wrongAt o_laterFault o_laterPlace o_told o_read o_farOne o_good o_town o_people o_when o_sat o_quiet o_vain o_lent o_forgiven o_sundays o_purse o_beside o_debts o_sitting o_visited o_week o_heaps o_taken o_best o_more o_firstOne o_log o_fitting o_found o_seed o_row o_saved) (wMd g o_q0 o_q1 o_q2 o_q3 o_q4 o_q5 o_q6 o_q7 o_q8 o_q9 o_q10 o_q11 o_q12 o_q13 o_q14 o_q15 o_q16 o_q17 o_q18 o_q19 o_q20 o_q21 o_q22 r.2.1 o_tape o_size o_fault o_faultPlace o_many o_towns o_weeks o_logs o_reached o_length o_begins o_sort o_value o_word o_wrongAt o_laterFault o_laterPlace o_told o_read o_farOne o_good r.2.2.1 r.2.2.2.1 r.2.2.2.2.1 r.2.2.2.2.2.1 r.2.2.2.2.2.2.1 r.2.2.2.2.2.2.2.1 r.2.2.2.2.2.2.2.2.1 r.2.2.2.2.2.2.2.2.2.1 r.2.2.2.2.2.2.2.2.2.2.1 r.2.2.2.2.2.2.2.2.2.2.2.1 r.2.2.2.2.2.2.2.2.2.2.2.2.1 r.2.2.2.2.2.2.2.2.2.2.2.2.2.1 r.2.2.2.2.2.2.2.2.2.2.2.2.2.2.1 r.2.2.2.2.2.2.2.2.2.2.2.2.2.2.2 o_week o_heaps o_taken o_best o_more o_firstOne o_log o_fitting o_found o_seed o_row o_saved) (some (.int r.1)) := by
  refine Wr.ofI (by decide) (Nat.le_of_ble_eq_true rfl) ?_
  intro p e s m args below meth c Q A S hK hA hret ls hl hW
  have hl : lv_has ls 3 [(0, .ref o_q0), (1, .int p1), (2, .int p2)] := hl
  refine lv_aload_n S.1 S.2.1 dX12_wealth_0 rfl (lv_at hl 0 rfl) ?_
  refine lv_iconst (v := 0) S.1 S.2.1 dX12_wealth_1 ic_0 ?_
  refine pfX12_78 (ws2 := (wMd g o_q0 o_q1 o_q2 o_q3 o_q4 o_q5 o_q6 o_q7 o_q8 o_q9 o_q10 o_q11 o_q12 o_q13 o_q14 o_q15 o_q16 o_q17 o_q18 o_q19 o_q20 o_q21 o_q22 (0 : Int32) o_tape o_size o_fault o_faultPlace o_many o_towns o_weeks o_logs o_reached o_length o_begins o_sort o_value o_word o_wrongAt o_laterFault o_laterPlace o_told o_read o_farOne o_good o_town o_people o_when o_sat o_quiet o_vain o_lent o_forgiven o_sundays o_purse o_beside o_debts o_sitting o_visited o_week o_heaps o_taken o_best o_more o_firstOne o_log o_fitting o_found o_seed o_row o_saved)) S hK hW 0 rfl rfl rfl (Nat.le_of_ble_eq_true rfl) rfl dX12_wealth_2 (fun H locs hW => ?_)
  refine lv_aload_n S.1 S.2.1 dX12_wealth_5 rfl (lv_at hl 0 rfl) ?_
  refine lv_iload_n S.1 S.2.1 dX12_wealth_6 rfl (lv_at hl 1 rfl) ?_
  obtain ⟨x1, hx1, hf⟩ := bnd_e hf
  refine Wr.goW (Wr.runV (c_X12_hand hx1) S hK hW.1 hW.2.1 0 10 rfl rfl kVX12_257 rfl hl.1 [] rfl (Nat.le_of_ble_eq_true rfl) ⟨(Nat.le_of_ble_eq_true rfl), (Nat.le_of_ble_eq_true rfl)⟩ ⟨(Nat.zero_le _), (Nat.zero_le _)⟩ dX12_wealth_7) hW hA (fun H locs hW => ?_)
  refine lv_if_eq (tgt := 29) S.1 S.2.1 dX12_wealth_10 (by decide) (fun c_ => ?_) (fun c_ => ?_)
  · have hf := it_p c_ hf
    refine lv_sipush (v := (-999)) S.1 S.2.1 dX12_wealth_29 sp_m999 ?_
    have e_ := Option.some.inj hf
    subst e_
    exact hret _ _ _ _ dX12_wealth_32 hW
  · have hf := it_n c_ hf
    refine lv_aload_n S.1 S.2.1 dX12_wealth_13 rfl (lv_at hl 0 rfl) ?_
    refine lv_iload_n S.1 S.2.1 dX12_wealth_14 rfl (lv_at hl 2 rfl) ?_
    obtain ⟨x2, hx2, hf⟩ := bnd_e hf
    refine Rd.cV (c_X12_isPerson hx2) S hK hW.1 0 10 rfl rfl kVX12_260 rfl hl.1 [] rfl (Nat.le_of_ble_eq_true rfl) ⟨(Nat.le_of_ble_eq_true rfl), (Nat.le_of_ble_eq_true rfl)⟩ ⟨(Nat.zero_le _), (Nat.zero_le _)⟩ dX12_wealth_15 ?_
    refine lv_if_eq (tgt := 29) S.1 S.2.1 dX12_wealth_18 (by decide) (fun c_ => ?_) (fun c_ => ?_)
    · have hf := it_p c_ hf
      refine lv_sipush (v := (-999)) S.1 S.2.1 dX12_wealth_29 sp_m999 ?_
      have e_ := Option.some.inj hf
      subst e_
      exact hret _ _ _ _ dX12_wealth_32 hW
    · have hf := it_n c_ hf
      refine lv_aload_n S.1 S.2.1 dX12_wealth_21 rfl (lv_at hl 0 rfl) ?_
      refine lv_iload_n S.1 S.2.1 dX12_wealth_22 rfl (lv_at hl 2 rfl) ?_
      obtain ⟨x3, hx3, hf⟩ := bnd_e hf
      refine Rd.cV (c_X12_wealthOf hx3) S hK hW.1 0 10 rfl rfl kVX12_436 rfl hl.1 [] rfl (Nat.le_of_ble_eq_true rfl) ⟨(Nat.le_of_ble_eq_true rfl), (Nat.le_of_ble_eq_true rfl)⟩ ⟨(Nat.zero_le _), (Nat.zero_le _)⟩ dX12_wealth_23 ?_
      refine lv_goto (tgt := 32) S.1 S.2.1 dX12_wealth_26 (by decide) ?_
      have e_ := Option.some.inj hf
      subst e_
      exact hret _ _ _ _ dX12_wealth_32 hW
def f_X12_relief_L30 (fu : Nat) (p2 : Int32) (x2 : Int32 × Int32 × Int32 × Int32 × Int32 × Int32 × Int32 × Int32 × Int32 × Int32 × (Nat → Int32) × (Nat → Int32) × (Nat → Int32) × (Nat → Int32) × (Nat → Int32)) (s4 : Int32 × Int32) : Option ((Int32 × Int32) ⊕ (Int32)) := if x2.2.2.1 ≤ s4.2 then some (.inr s4.1) else bnd (α := Int32) (f_X12_owesAll fu x2.2.2.1 x2.2.2.2.2.2.2.2.2.2.2.2.2.1 s4.2) (fun x7 => bnd (α := Int32) (f_X12_greater fu (0 : Int32) (x7 - p2)) (fun x8 => ltn (s4.1 + x8) (fun x9 => some (.inl (x9, (s4.2 + 1))))))
def f_X12_relief (fu : Nat) (o_code : Int32) (o_many : (Nat → Int32)) (o_towns : (Nat → Int32)) (o_town : Int32) (o_people : Int32) (o_when : Int32) (o_sat : Int32) (o_quiet : Int32) (o_vain : Int32) (o_lent : Int32) (o_forgiven : Int32) (o_sundays : Int32) (o_purse : (Nat → Int32)) (o_beside : (Nat → Int32)) (o_debts : (Nat → Int32)) (o_sitting : (Nat → Int32)) (o_visited : (Nat → Int32)) (p1 : Int32) (p2 : Int32) : Option (Int32 × Int32 × Int32 × Int32 × Int32 × Int32 × Int32 × Int32 × Int32 × Int32 × Int32 × (Nat → Int32) × (Nat → Int32) × (Nat → Int32) × (Nat → Int32) × (Nat → Int32)) := bnd (α := Int32) (f_X12_in fu p2 (0 : Int32) (99 : Int32)) (fun x1 => if x1 = 0 then some ((-1 : Int32), (0 : Int32), o_town, o_people, o_when, o_sat, o_quiet, o_vain, o_lent, o_forgiven, o_sundays, o_purse, o_beside, o_debts, o_sitting, o_visited) else bnd (α := Int32 × Int32 × Int32 × Int32 × Int32 × Int32 × Int32 × Int32 × Int32 × Int32 × (Nat → Int32) × (Nat → Int32) × (Nat → Int32) × (Nat → Int32) × (Nat → Int32)) (f_X12_hand fu o_many o_towns o_town o_people o_when o_sat o_quiet o_vain o_lent o_forgiven o_sundays o_purse o_beside o_debts o_sitting o_visited p1) (fun x2 => if x2.1 = 0 then some ((-1 : Int32), (0 : Int32), x2.2.1, x2.2.2.1, x2.2.2.2.1, x2.2.2.2.2.1, x2.2.2.2.2.2.1, x2.2.2.2.2.2.2.1, x2.2.2.2.2.2.2.2.1, x2.2.2.2.2.2.2.2.2.1, x2.2.2.2.2.2.2.2.2.2.1, x2.2.2.2.2.2.2.2.2.2.2.1, x2.2.2.2.2.2.2.2.2.2.2.2.1, x2.2.2.2.2.2.2.2.2.2.2.2.2.1, x2.2.2.2.2.2.2.2.2.2.2.2.2.2.1, x2.2.2.2.2.2.2.2.2.2.2.2.2.2.2) else bnd (α := Int32) (lp (f_X12_relief_L30 fu p2 x2) fu ((0 : Int32), (0 : Int32))) (fun v10 => some (v10, (0 : Int32), x2.2.1, x2.2.2.1, x2.2.2.2.1, x2.2.2.2.2.1, x2.2.2.2.2.2.1, x2.2.2.2.2.2.2.1, x2.2.2.2.2.2.2.2.1, x2.2.2.2.2.2.2.2.2.1, x2.2.2.2.2.2.2.2.2.2.1, x2.2.2.2.2.2.2.2.2.2.2.1, x2.2.2.2.2.2.2.2.2.2.2.2.1, x2.2.2.2.2.2.2.2.2.2.2.2.2.1, x2.2.2.2.2.2.2.2.2.2.2.2.2.2.1, x2.2.2.2.2.2.2.2.2.2.2.2.2.2.2))))
set_option maxHeartbeats 4000000 in
set_option maxRecDepth 100000 in
theorem c_X12_relief {l : Launch} {D : va_G} {g : Nat → ClassId} {fu : Nat} {o_q0 o_q1 o_q2 o_q3 o_q4 o_q5 o_q6 o_q7 o_q8 o_q9 o_q10 o_q11 o_q12 o_q13 o_q14 o_q15 o_q16 o_q17 o_q18 o_q19 o_q20 o_q21 o_q22 : Nat} {o_code : Int32} {o_tape : (Nat → Int32)} {o_size : (Nat → Int32)} {o_fault : (Nat → Int32)} {o_faultPlace : (Nat → Int32)} {o_many : (Nat → Int32)} {o_towns : (Nat → Int32)} {o_weeks : (Nat → Int32)} {o_logs : (Nat → Int32)} {o_reached : Int32} {o_length : Int32} {o_begins : Int32} {o_sort : Int32} {o_value : Int32} {o_word : Int64} {o_wrongAt : Int32} {o_laterFault : Int32} {o_laterPlace : Int32} {o_told : (Nat → Int32)} {o_read : (Nat → Int32)} {o_farOne : Int32} {o_good : Int32} {o_town : Int32} {o_people : Int32} {o_when : Int32} {o_sat : Int32} {o_quiet : Int32} {o_vain : Int32} {o_lent : Int32} {o_forgiven : Int32} {o_sundays : Int32} {o_purse : (Nat → Int32)} {o_beside : (Nat → Int32)} {o_debts : (Nat → Int32)} {o_sitting : (Nat → Int32)} {o_visited : (Nat → Int32)} {o_week : Int32} {o_heaps : (Nat → Int32)} {o_taken : (Nat → Int32)} {o_best : (Nat → Int32)} {o_more : (Nat → Int32)} {o_firstOne : Int32} {o_log : Int32} {o_fitting : (Nat → Int32)} {o_found : Int32} {o_seed : Int32} {o_row : (Nat → Int32)} {o_saved : (Nat → Int32)} {p1 : Int32} {p2 : Int32} {r : Int32 × Int32 × Int32 × Int32 × Int32 × Int32 × Int32 × Int32 × Int32 × Int32 × Int32 × (Nat → Int32) × (Nat → Int32) × (Nat → Int32) × (Nat → Int32) × (Nat → Int32)} (hf : f_X12_relief fu o_code o_many o_towns o_town o_people o_when o_sat o_quiet o_vain o_lent o_forgiven o_sundays o_purse o_beside o_debts o_sitting o_visited p1 p2 = some r) : Wr l D (gy g) yX12_relief cX12_relief 5 (some .int) 3 [.ref o_q0, .int p1, .int p2] (wMd g o_q0 o_q1 o_q2 o_q3 o_q4 o_q5 o_q6 o_q7 o_q8 o_q9 o_q10 o_q11 o_q12 o_q13 o_q14 o_q15 o_q16 o_q17 o_q18 o_q19 o_q20 o_q21 o_q22 o_code o_tape o_size o_fault o_faultPlace o_many o_towns o_weeks o_logs o_reached o_length o_begins o_sort o_value o_word o_wrongAt o_laterFault o_laterPlace o_told o_read o_farOne o_good o_town o_people o_when o_sat o_quiet o_vain o_lent o_forgiven o_sundays o_purse o_beside o_debts o_sitting o_visited o_week o_heaps o_taken o_best o_more o_firstOne o_log o_fitting o_found o_seed o_row o_saved) (wMd g o_q0 o_q1 o_q2 o_q3 o_q4 o_q5 o_q6 o_q7 o_q8 o_q9 o_q10 o_q11 o_q12 o_q13 o_q14 o_q15 o_q16 o_q17 o_q18 o_q19 o_q20 o_q21 o_q22 r.2.1 o_tape o_size o_fault o_faultPlace o_many o_towns o_weeks o_logs o_reached o_length o_begins o_sort o_value o_word o_wrongAt o_laterFault o_laterPlace o_told o_read o_farOne o_good r.2.2.1 r.2.2.2.1 r.2.2.2.2.1 r.2.2.2.2.2.1 r.2.2.2.2.2.2.1 r.2.2.2.2.2.2.2.1 r.2.2.2.2.2.2.2.2.1 r.2.2.2.2.2.2.2.2.2.1 r.2.2.2.2.2.2.2.2.2.2.1 r.2.2.2.2.2.2.2.2.2.2.2.1 r.2.2.2.2.2.2.2.2.2.2.2.2.1 r.2.2.2.2.2.2.2.2.2.2.2.2.2.1 r.2.2.2.2.2.2.2.2.2.2.2.2.2.2.1 r.2.2.2.2.2.2.2.2.2.2.2.2.2.2.2 o_week o_heaps o_taken o_best o_more o_firstOne o_log o_fitting o_found o_seed o_row o_saved) (some (.int r.1)) := by
  refine Wr.ofI (by decide) (Nat.le_of_ble_eq_true rfl) ?_
  intro p e s m args below meth c Q A S hK hA hret ls hl hW
  have hl : lv_has ls 5 [(0, .ref o_q0), (1, .int p1), (2, .int p2)] := hl
  refine lv_aload_n S.1 S.2.1 dX12_relief_0 rfl (lv_at hl 0 rfl) ?_
  refine lv_iconst (v := 0) S.1 S.2.1 dX12_relief_1 ic_0 ?_
  refine pfX12_78 (ws2 := (wMd g o_q0 o_q1 o_q2 o_q3 o_q4 o_q5 o_q6 o_q7 o_q8 o_q9 o_q10 o_q11 o_q12 o_q13 o_q14 o_q15 o_q16 o_q17 o_q18 o_q19 o_q20 o_q21 o_q22 (0 : Int32) o_tape o_size o_fault o_faultPlace o_many o_towns o_weeks o_logs o_reached o_length o_begins o_sort o_value o_word o_wrongAt o_laterFault o_laterPlace o_told o_read o_farOne o_good o_town o_people o_when o_sat o_quiet o_vain o_lent o_forgiven o_sundays o_purse o_beside o_debts o_sitting o_visited o_week o_heaps o_taken o_best o_more o_firstOne o_log o_fitting o_found o_seed o_row o_saved)) S hK hW 0 rfl rfl rfl (Nat.le_of_ble_eq_true rfl) rfl dX12_relief_2 (fun H locs hW => ?_)
  refine lv_iload_n S.1 S.2.1 dX12_relief_5 rfl (lv_at hl 2 rfl) ?_
  refine lv_iconst (v := 0) S.1 S.2.1 dX12_relief_6 ic_0 ?_
  refine lv_bipush (v := 99) S.1 S.2.1 dX12_relief_7 bp_99 ?_
  obtain ⟨x1, hx1, hf⟩ := bnd_e hf
  refine Rd.cS (c_X12_in hx1) S hK va_P.nil kSX12_90 rfl hl.1 [] rfl (Nat.le_of_ble_eq_true rfl) ⟨(Nat.le_of_ble_eq_true rfl), (Nat.le_of_ble_eq_true rfl)⟩ ⟨(Nat.zero_le _), (Nat.zero_le _)⟩ dX12_relief_9 ?_
  refine lv_if_eq (tgt := 23) S.1 S.2.1 dX12_relief_12 (by decide) (fun c_ => ?_) (fun c_ => ?_)
  · have hf := it_p c_ hf
    refine lv_iconst (v := (-1)) S.1 S.2.1 dX12_relief_23 ic_m1 ?_
    have e_ := Option.some.inj hf
    subst e_
    exact hret _ _ _ _ dX12_relief_24 hW
  · have hf := it_n c_ hf
    refine lv_aload_n S.1 S.2.1 dX12_relief_15 rfl (lv_at hl 0 rfl) ?_
    refine lv_iload_n S.1 S.2.1 dX12_relief_16 rfl (lv_at hl 1 rfl) ?_
    obtain ⟨x2, hx2, hf⟩ := bnd_e hf
    refine Wr.goW (Wr.runV (c_X12_hand hx2) S hK hW.1 hW.2.1 0 10 rfl rfl kVX12_257 rfl hl.1 [] rfl (Nat.le_of_ble_eq_true rfl) ⟨(Nat.le_of_ble_eq_true rfl), (Nat.le_of_ble_eq_true rfl)⟩ ⟨(Nat.zero_le _), (Nat.zero_le _)⟩ dX12_relief_17) hW hA (fun H locs hW => ?_)
    refine lv_if_ne (tgt := 25) S.1 S.2.1 dX12_relief_20 (by decide) (fun c_ => ?_) (fun c_ => ?_)
    · have hf := it_n c_ hf
      refine lv_iconst (v := 0) S.1 S.2.1 dX12_relief_25 ic_0 ?_
      refine lv_istore_n (lv' := [(3, .int (0 : Int32)), (0, .ref o_q0), (1, .int p1), (2, .int p2)]) S.1 S.2.1 dX12_relief_26 rfl hl (by decide) rfl (fun ls hl => ?_)
      refine lv_iconst (v := 0) S.1 S.2.1 dX12_relief_27 ic_0 ?_
      refine lv_istore (lv' := [(4, .int (0 : Int32)), (3, .int (0 : Int32)), (0, .ref o_q0), (1, .int p1), (2, .int p2)]) S.1 S.2.1 dX12_relief_28 hl (by decide) rfl (fun ls hl => ?_)
      obtain ⟨x5, hf_, hk5⟩ := bnd_e hf
      have hE5 : ∀ (v10 : Int32), v10 = x5 → ∀ (ls : Array Slot) (H : Heap) (locs : List Loc), lv_has ls 5 [(3, .int v10)] → St A s.heap D (wMd g o_q0 o_q1 o_q2 o_q3 o_q4 o_q5 o_q6 o_q7 o_q8 o_q9 o_q10 o_q11 o_q12 o_q13 o_q14 o_q15 o_q16 o_q17 o_q18 o_q19 o_q20 o_q21 o_q22 (0 : Int32) o_tape o_size o_fault o_faultPlace o_many o_towns o_weeks o_logs o_reached o_length o_begins o_sort o_value o_word o_wrongAt o_laterFault o_laterPlace o_told o_read o_farOne o_good x2.2.1 x2.2.2.1 x2.2.2.2.1 x2.2.2.2.2.1 x2.2.2.2.2.2.1 x2.2.2.2.2.2.2.1 x2.2.2.2.2.2.2.2.1 x2.2.2.2.2.2.2.2.2.1 x2.2.2.2.2.2.2.2.2.2.1 x2.2.2.2.2.2.2.2.2.2.2.1 x2.2.2.2.2.2.2.2.2.2.2.2.1 x2.2.2.2.2.2.2.2.2.2.2.2.2.1 x2.2.2.2.2.2.2.2.2.2.2.2.2.2.1 x2.2.2.2.2.2.2.2.2.2.2.2.2.2.2 o_week o_heaps o_taken o_best o_more o_firstOne o_log o_fitting o_found o_seed o_row o_saved) H locs → W p l e (rmD 3) s m args below meth c H locs 0 0 Q (F0 m 60 ls []) := by
        intro v10 e_ ls H locs hl hW
        subst e_
        have hf := hk5
        refine lv_iload_n S.1 S.2.1 dX12_relief_60 rfl (lv_at hl 0 rfl) ?_
        have e_ := Option.some.inj hf
        subst e_
        exact hret _ _ _ _ dX12_relief_61 hW
      refine lp_ind (P := fun (s4 : Int32 × Int32) => ∀ (ls : Array Slot) (H : Heap) (locs : List Loc), lv_has ls 5 [(0, .ref o_q0), (2, .int p2), (3, .int s4.1), (4, .int s4.2)] → St A s.heap D (wMd g o_q0 o_q1 o_q2 o_q3 o_q4 o_q5 o_q6 o_q7 o_q8 o_q9 o_q10 o_q11 o_q12 o_q13 o_q14 o_q15 o_q16 o_q17 o_q18 o_q19 o_q20 o_q21 o_q22 (0 : Int32) o_tape o_size o_fault o_faultPlace o_many o_towns o_weeks o_logs o_reached o_length o_begins o_sort o_value o_word o_wrongAt o_laterFault o_laterPlace o_told o_read o_farOne o_good x2.2.1 x2.2.2.1 x2.2.2.2.1 x2.2.2.2.2.1 x2.2.2.2.2.2.1 x2.2.2.2.2.2.2.1 x2.2.2.2.2.2.2.2.1 x2.2.2.2.2.2.2.2.2.1 x2.2.2.2.2.2.2.2.2.2.1 x2.2.2.2.2.2.2.2.2.2.2.1 x2.2.2.2.2.2.2.2.2.2.2.2.1 x2.2.2.2.2.2.2.2.2.2.2.2.2.1 x2.2.2.2.2.2.2.2.2.2.2.2.2.2.1 x2.2.2.2.2.2.2.2.2.2.2.2.2.2.2 o_week o_heaps o_taken o_best o_more o_firstOne o_log o_fitting o_found o_seed o_row o_saved) H locs → W p l e (rmD 3) s m args below meth c H locs 0 0 Q (F0 m 30 ls [])) ?_ _ _ hf_ _ _ _ (lv_sub hl [2, 4, 1, 0] rfl) hW
      intro s4 x6 hf hI5 hR5 ls H locs hl hW
      refine lv_iload S.1 S.2.1 dX12_relief_30 (lv_at hl 3 rfl) ?_
      refine lv_aload_n S.1 S.2.1 dX12_relief_32 rfl (lv_at hl 0 rfl) ?_
      refine gfX12_230 S hK hW.1 0 rfl rfl dX12_relief_33 ?_
      refine lv_icmp_ge (tgt := 60) S.1 S.2.1 dX12_relief_36 (by decide) (fun c_ => ?_) (fun c_ => ?_)
      · have hf := it_p c_ hf
        have e_ := hR5 _ (Option.some.inj hf).symm
        exact hE5 _ e_ _ _ _ (lv_sub hl [2] rfl) hW
      · have hf := it_n c_ hf
        refine lv_iload_n S.1 S.2.1 dX12_relief_39 rfl (lv_at hl 2 rfl) ?_
        refine lv_iconst (v := 0) S.1 S.2.1 dX12_relief_40 ic_0 ?_
        refine lv_aload_n S.1 S.2.1 dX12_relief_41 rfl (lv_at hl 0 rfl) ?_
        refine lv_iload S.1 S.2.1 dX12_relief_42 (lv_at hl 3 rfl) ?_
        obtain ⟨x7, hx7, hf⟩ := bnd_e hf
        refine Rd.cV (c_X12_owesAll hx7) S hK hW.1 0 10 rfl rfl kVX12_311 rfl hl.1 [.int (0 : Int32), .int s4.1] rfl (Nat.le_of_ble_eq_true rfl) ⟨(Nat.le_of_ble_eq_true rfl), (Nat.le_of_ble_eq_true rfl)⟩ ⟨(Nat.zero_le _), (Nat.zero_le _)⟩ dX12_relief_44 ?_
        refine lv_iload_n S.1 S.2.1 dX12_relief_47 rfl (lv_at hl 1 rfl) ?_
        refine lv_isub S.1 S.2.1 dX12_relief_48 ?_
        obtain ⟨x8, hx8, hf⟩ := bnd_e hf
        refine Rd.cS (c_X12_greater hx8) S hK va_P.nil kSX12_171 rfl hl.1 [.int s4.1] rfl (Nat.le_of_ble_eq_true rfl) ⟨(Nat.le_of_ble_eq_true rfl), (Nat.le_of_ble_eq_true rfl)⟩ ⟨(Nat.zero_le _), (Nat.zero_le _)⟩ dX12_relief_49 ?_
        refine lv_iadd S.1 S.2.1 dX12_relief_52 ?_
        refine lv_topi (fun x9 ex9 => ?_)
        have hf := ltn_e hf ex9
        refine lv_istore_n (lv' := [(3, .int x9), (0, .ref o_q0), (2, .int p2), (4, .int s4.2)]) S.1 S.2.1 dX12_relief_53 rfl hl (by decide) rfl (fun ls hl => ?_)
        refine q_iinc (w := 1) (lv' := [(4, .int (s4.2 + 1)), (3, .int x9), (0, .ref o_q0), (2, .int p2)]) S dX12_relief_54 hl (k := 3) rfl ic_1 (by decide) rfl (fun ls hl => ?_)
        refine lv_goto (tgt := 30) S.1 S.2.1 dX12_relief_57 (by decide) ?_
        exact hI5 _ (Option.some.inj hf).symm _ _ _ (lv_sub hl [2, 3, 1, 0] rfl) hW
    · have hf := it_p c_ hf
      refine lv_iconst (v := (-1)) S.1 S.2.1 dX12_relief_23 ic_m1 ?_
      have e_ := Option.some.inj hf
      subst e_
      exact hret _ _ _ _ dX12_relief_24 hW
def f_X12_witsOf_L4 (fu : Nat) (o_towns : (Nat → Int32)) (o_town : Int32) (o_people : Int32) (p1 : Int32) (s2 : Int32 × Int32) : Option ((Int32 × Int32) ⊕ (Int32)) := if o_people ≤ s2.2 then some (.inr s2.1) else bnd (α := Int32) (f_X12_has fu p1 s2.2) (fun x5 => if x5 = 0 then ltn (s2.1 + (0 : Int32)) (fun x6 => some (.inl (x6, (s2.2 + 1)))) else bnd (α := Int32) (f_X12_of fu o_towns o_town ((1 : Int32) + s2.2)) (fun x7 => ltn (s2.1 + x7) (fun x8 => some (.inl (x8, (s2.2 + 1))))))
def f_X12_witsOf (fu : Nat) (o_towns : (Nat → Int32)) (o_town : Int32) (o_people : Int32) (p1 : Int32) : Option (Int32) := bnd (α := Int32) (lp (f_X12_witsOf_L4 fu o_towns o_town o_people p1) fu ((0 : Int32), (0 : Int32))) (fun v9 => some v9)
set_option maxHeartbeats 4000000 in
set_option maxRecDepth 100000 in
theorem c_X12_witsOf {l : Launch} {D : va_G} {g : Nat → ClassId} {fu : Nat} {o_q0 o_q1 o_q2 o_q3 o_q4 o_q5 o_q6 o_q7 o_q8 o_q9 o_q10 o_q11 o_q12 o_q13 o_q14 o_q15 o_q16 o_q17 o_q18 o_q19 o_q20 o_q21 o_q22 : Nat} {o_code : Int32} {o_tape : (Nat → Int32)} {o_size : (Nat → Int32)} {o_fault : (Nat → Int32)} {o_faultPlace : (Nat → Int32)} {o_many : (Nat → Int32)} {o_towns : (Nat → Int32)} {o_weeks : (Nat → Int32)} {o_logs : (Nat → Int32)} {o_reached : Int32} {o_length : Int32} {o_begins : Int32} {o_sort : Int32} {o_value : Int32} {o_word : Int64} {o_wrongAt : Int32} {o_laterFault : Int32} {o_laterPlace : Int32} {o_told : (Nat → Int32)} {o_read : (Nat → Int32)} {o_farOne : Int32} {o_good : Int32} {o_town : Int32} {o_people : Int32} {o_when : Int32} {o_sat : Int32} {o_quiet : Int32} {o_vain : Int32} {o_lent : Int32} {o_forgiven : Int32} {o_sundays : Int32} {o_purse : (Nat → Int32)} {o_beside : (Nat → Int32)} {o_debts : (Nat → Int32)} {o_sitting : (Nat → Int32)} {o_visited : (Nat → Int32)} {o_week : Int32} {o_heaps : (Nat → Int32)} {o_taken : (Nat → Int32)} {o_best : (Nat → Int32)} {o_more : (Nat → Int32)} {o_firstOne : Int32} {o_log : Int32} {o_fitting : (Nat → Int32)} {o_found : Int32} {o_seed : Int32} {o_row : (Nat → Int32)} {o_saved : (Nat → Int32)} {p1 : Int32} {r : Int32} (hf : f_X12_witsOf fu o_towns o_town o_people p1 = some r) : Rd l D (gy g) yX12_witsOf cX12_witsOf 4 (some .int) 1 [.ref o_q0, .int p1] (wMd g o_q0 o_q1 o_q2 o_q3 o_q4 o_q5 o_q6 o_q7 o_q8 o_q9 o_q10 o_q11 o_q12 o_q13 o_q14 o_q15 o_q16 o_q17 o_q18 o_q19 o_q20 o_q21 o_q22 o_code o_tape o_size o_fault o_faultPlace o_many o_towns o_weeks o_logs o_reached o_length o_begins o_sort o_value o_word o_wrongAt o_laterFault o_laterPlace o_told o_read o_farOne o_good o_town o_people o_when o_sat o_quiet o_vain o_lent o_forgiven o_sundays o_purse o_beside o_debts o_sitting o_visited o_week o_heaps o_taken o_best o_more o_firstOne o_log o_fitting o_found o_seed o_row o_saved) (some (.int r)) := by
  refine Rd.ofI (by decide) (Nat.le_of_ble_eq_true rfl) ?_
  intro p e s m args below meth c Q S hK hP hret ls hl
  have hl : lv_has ls 4 [(0, .ref o_q0), (1, .int p1)] := hl
  refine lv_iconst (v := 0) S.1 S.2.1 dX12_witsOf_0 ic_0 ?_
  refine lv_istore_n (lv' := [(2, .int (0 : Int32)), (0, .ref o_q0), (1, .int p1)]) S.1 S.2.1 dX12_witsOf_1 rfl hl (by decide) rfl (fun ls hl => ?_)
  refine lv_iconst (v := 0) S.1 S.2.1 dX12_witsOf_2 ic_0 ?_
  refine lv_istore_n (lv' := [(3, .int (0 : Int32)), (2, .int (0 : Int32)), (0, .ref o_q0), (1, .int p1)]) S.1 S.2.1 dX12_witsOf_3 rfl hl (by decide) rfl (fun ls hl => ?_)
  obtain ⟨x3, hf_, hk3⟩ := bnd_e hf
  have hE3 : ∀ (v9 : Int32), v9 = x3 → ∀ (ls : Array Slot), lv_has ls 4 [(2, .int v9)] → W p l e (rmD 1) s m args below meth c s.heap [] 0 0 Q (F0 m 40 ls []) := by
    intro v9 e_ ls hl
    subst e_
    have hf := hk3
    refine lv_iload_n S.1 S.2.1 dX12_witsOf_40 rfl (lv_at hl 0 rfl) ?_
    have e_ := Option.some.inj hf
    subst e_
    exact hret _ _ dX12_witsOf_41
  refine lp_ind (P := fun (s2 : Int32 × Int32) => ∀ (ls : Array Slot), lv_has ls 4 [(0, .ref o_q0), (1, .int p1), (2, .int s2.1), (3, .int s2.2)] → W p l e (rmD 1) s m args below meth c s.heap [] 0 0 Q (F0 m 4 ls [])) ?_ _ _ hf_ _ (lv_sub hl [2, 3, 1, 0] rfl)
  intro s2 x4 hf hI3 hR3 ls hl
  refine lv_iload_n S.1 S.2.1 dX12_witsOf_4 rfl (lv_at hl 3 rfl) ?_
  refine lv_aload_n S.1 S.2.1 dX12_witsOf_5 rfl (lv_at hl 0 rfl) ?_
  refine gfX12_230 S hK hP 0 rfl rfl dX12_witsOf_6 ?_
  refine lv_icmp_ge (tgt := 40) S.1 S.2.1 dX12_witsOf_9 (by decide) (fun c_ => ?_) (fun c_ => ?_)
  · have hf := it_p c_ hf
    have e_ := hR3 _ (Option.some.inj hf).symm
    exact hE3 _ e_ _ (lv_sub hl [2] rfl)
  · have hf := it_n c_ hf
    refine lv_iload_n S.1 S.2.1 dX12_witsOf_12 rfl (lv_at hl 2 rfl) ?_
    refine lv_iload_n S.1 S.2.1 dX12_witsOf_13 rfl (lv_at hl 1 rfl) ?_
    refine lv_iload_n S.1 S.2.1 dX12_witsOf_14 rfl (lv_at hl 3 rfl) ?_
    obtain ⟨x5, hx5, hf⟩ := bnd_e hf
    refine Rd.cS (c_X12_has hx5) S hK va_P.nil kSX12_82 rfl hl.1 [.int s2.1] rfl (Nat.le_of_ble_eq_true rfl) ⟨(Nat.le_of_ble_eq_true rfl), (Nat.le_of_ble_eq_true rfl)⟩ ⟨(Nat.zero_le _), (Nat.zero_le _)⟩ dX12_witsOf_15 ?_
    refine lv_if_eq (tgt := 31) S.1 S.2.1 dX12_witsOf_18 (by decide) (fun c_ => ?_) (fun c_ => ?_)
    · have hf := it_p c_ hf
      refine lv_iconst (v := 0) S.1 S.2.1 dX12_witsOf_31 ic_0 ?_
      refine lv_iadd S.1 S.2.1 dX12_witsOf_32 ?_
      refine lv_topi (fun x6 ex6 => ?_)
      have hf := ltn_e hf ex6
      refine lv_istore_n (lv' := [(2, .int x6), (0, .ref o_q0), (1, .int p1), (3, .int s2.2)]) S.1 S.2.1 dX12_witsOf_33 rfl hl (by decide) rfl (fun ls hl => ?_)
      refine q_iinc (w := 1) (lv' := [(3, .int (s2.2 + 1)), (2, .int x6), (0, .ref o_q0), (1, .int p1)]) S dX12_witsOf_34 hl (k := 3) rfl ic_1 (by decide) rfl (fun ls hl => ?_)
      refine lv_goto (tgt := 4) S.1 S.2.1 dX12_witsOf_37 (by decide) ?_
      exact hI3 _ (Option.some.inj hf).symm _ (lv_sub hl [2, 3, 1, 0] rfl)
    · have hf := it_n c_ hf
      refine lv_aload_n S.1 S.2.1 dX12_witsOf_21 rfl (lv_at hl 0 rfl) ?_
      refine lv_iconst (v := 1) S.1 S.2.1 dX12_witsOf_22 ic_1 ?_
      refine lv_iload_n S.1 S.2.1 dX12_witsOf_23 rfl (lv_at hl 3 rfl) ?_
      refine lv_iadd S.1 S.2.1 dX12_witsOf_24 ?_
      obtain ⟨x7, hx7, hf⟩ := bnd_e hf
      refine Rd.cV (c_X12_of hx7) S hK hP 0 10 rfl rfl kVX12_226 rfl hl.1 [.int s2.1] rfl (Nat.le_of_ble_eq_true rfl) ⟨(Nat.le_of_ble_eq_true rfl), (Nat.le_of_ble_eq_true rfl)⟩ ⟨(Nat.zero_le _), (Nat.zero_le _)⟩ dX12_witsOf_25 ?_
      refine lv_goto (tgt := 32) S.1 S.2.1 dX12_witsOf_28 (by decide) ?_
      refine lv_iadd S.1 S.2.1 dX12_witsOf_32 ?_
      refine lv_topi (fun x8 ex8 => ?_)
      have hf := ltn_e hf ex8
      refine lv_istore_n (lv' := [(2, .int x8), (0, .ref o_q0), (1, .int p1), (3, .int s2.2)]) S.1 S.2.1 dX12_witsOf_33 rfl hl (by decide) rfl (fun ls hl => ?_)
      refine q_iinc (w := 1) (lv' := [(3, .int (s2.2 + 1)), (2, .int x8), (0, .ref o_q0), (1, .int p1)]) S dX12_witsOf_34 hl (k := 3) rfl ic_1 (by decide) rfl (fun ls hl => ?_)
      refine lv_goto (tgt := 4) S.1 S.2.1 dX12_witsOf_37 (by decide) ?_
      exact hI3 _ (Option.some.inj hf).symm _ (lv_sub hl [2, 3, 1, 0] rfl)
def f_X12_party_L31 (fu : Nat) (o_towns : (Nat → Int32)) (p2 : Int32) (x2 : Int32 × Int32 × Int32 × Int32 × Int32 × Int32 × Int32 × Int32 × Int32 × Int32 × (Nat → Int32) × (Nat → Int32) × (Nat → Int32) × (Nat → Int32) × (Nat → Int32)) (s4 : Int32 × Int32) : Option ((Int32 × Int32) ⊕ (Int32)) := if (jshl (1 : Int32) x2.2.2.1) ≤ s4.2 then some (.inr s4.1) else bnd (α := Int32) (f_X12_ones fu s4.2) (fun x7 => bnd (α := Int32) (if x7 = p2 then bnd (α := Int32) (f_X12_hateNone fu o_towns x2.2.1 x2.2.2.1 s4.2) (fun x12 => if x12 = 0 then some (0 : Int32) else some (1 : Int32)) else some (0 : Int32)) (fun v9 => if v9 = 0 then some (.inl (s4.1, (s4.2 + 1))) else if s4.1 = (-1 : Int32) then some (.inl (s4.2, (s4.2 + 1))) else bnd (α := Int32) (f_X12_witsOf fu o_towns x2.2.1 x2.2.2.1 s4.2) (fun x10 => bnd (α := Int32) (f_X12_witsOf fu o_towns x2.2.1 x2.2.2.1 s4.1) (fun x11 => if x10 ≤ x11 then some (.inl (s4.1, (s4.2 + 1))) else some (.inl (s4.2, (s4.2 + 1)))))))
def f_X12_party (fu : Nat) (o_code : Int32) (o_many : (Nat → Int32)) (o_towns : (Nat → Int32)) (o_town : Int32) (o_people : Int32) (o_when : Int32) (o_sat : Int32) (o_quiet : Int32) (o_vain : Int32) (o_lent : Int32) (o_forgiven : Int32) (o_sundays : Int32) (o_purse : (Nat → Int32)) (o_beside : (Nat → Int32)) (o_debts : (Nat → Int32)) (o_sitting : (Nat → Int32)) (o_visited : (Nat → Int32)) (p1 : Int32) (p2 : Int32) (p3 : Int32) : Option (Int32 × Int32 × Int32 × Int32 × Int32 × Int32 × Int32 × Int32 × Int32 × Int32 × Int32 × (Nat → Int32) × (Nat → Int32) × (Nat → Int32) × (Nat → Int32) × (Nat → Int32)) := bnd (α := Int32) (f_X12_in fu p2 (0 : Int32) (6 : Int32)) (fun x1 => if x1 = 0 then some ((-1 : Int32), (0 : Int32), o_town, o_people, o_when, o_sat, o_quiet, o_vain, o_lent, o_forgiven, o_sundays, o_purse, o_beside, o_debts, o_sitting, o_visited) else bnd (α := Int32 × Int32 × Int32 × Int32 × Int32 × Int32 × Int32 × Int32 × Int32 × Int32 × (Nat → Int32) × (Nat → Int32) × (Nat → Int32) × (Nat → Int32) × (Nat → Int32)) (f_X12_hand fu o_many o_towns o_town o_people o_when o_sat o_quiet o_vain o_lent o_forgiven o_sundays o_purse o_beside o_debts o_sitting o_visited p1) (fun x2 => if x2.1 = 0 then some ((-1 : Int32), (0 : Int32), x2.2.1, x2.2.2.1, x2.2.2.2.1, x2.2.2.2.2.1, x2.2.2.2.2.2.1, x2.2.2.2.2.2.2.1, x2.2.2.2.2.2.2.2.1, x2.2.2.2.2.2.2.2.2.1, x2.2.2.2.2.2.2.2.2.2.1, x2.2.2.2.2.2.2.2.2.2.2.1, x2.2.2.2.2.2.2.2.2.2.2.2.1, x2.2.2.2.2.2.2.2.2.2.2.2.2.1, x2.2.2.2.2.2.2.2.2.2.2.2.2.2.1, x2.2.2.2.2.2.2.2.2.2.2.2.2.2.2) else bnd (α := Int32) (lp (f_X12_party_L31 fu o_towns p2 x2) fu ((-1 : Int32), (0 : Int32))) (fun v13 => if v13 = (-1 : Int32) then some (v13, (0 : Int32), x2.2.1, x2.2.2.1, x2.2.2.2.1, x2.2.2.2.2.1, x2.2.2.2.2.2.1, x2.2.2.2.2.2.2.1, x2.2.2.2.2.2.2.2.1, x2.2.2.2.2.2.2.2.2.1, x2.2.2.2.2.2.2.2.2.2.1, x2.2.2.2.2.2.2.2.2.2.2.1, x2.2.2.2.2.2.2.2.2.2.2.2.1, x2.2.2.2.2.2.2.2.2.2.2.2.2.1, x2.2.2.2.2.2.2.2.2.2.2.2.2.2.1, x2.2.2.2.2.2.2.2.2.2.2.2.2.2.2) else if p3 = 0 then bnd (α := Int32) (f_X12_witsOf fu o_towns x2.2.1 x2.2.2.1 v13) (fun x14 => some (x14, (0 : Int32), x2.2.1, x2.2.2.1, x2.2.2.2.1, x2.2.2.2.2.1, x2.2.2.2.2.2.1, x2.2.2.2.2.2.2.1, x2.2.2.2.2.2.2.2.1, x2.2.2.2.2.2.2.2.2.1, x2.2.2.2.2.2.2.2.2.2.1, x2.2.2.2.2.2.2.2.2.2.2.1, x2.2.2.2.2.2.2.2.2.2.2.2.1, x2.2.2.2.2.2.2.2.2.2.2.2.2.1, x2.2.2.2.2.2.2.2.2.2.2.2.2.2.1, x2.2.2.2.2.2.2.2.2.2.2.2.2.2.2)) else some (v13, (0 : Int32), x2.2.1, x2.2.2.1, x2.2.2.2.1, x2.2.2.2.2.1, x2.2.2.2.2.2.1, x2.2.2.2.2.2.2.1, x2.2.2.2.2.2.2.2.1, x2.2.2.2.2.2.2.2.2.1, x2.2.2.2.2.2.2.2.2.2.1, x2.2.2.2.2.2.2.2.2.2.2.1, x2.2.2.2.2.2.2.2.2.2.2.2.1, x2.2.2.2.2.2.2.2.2.2.2.2.2.1, x2.2.2.2.2.2.2.2.2.2.2.2.2.2.1, x2.2.2.2.2.2.2.2.2.2.2.2.2.2.2))))
set_option maxHeartbeats 4000000 in
set_option maxRecDepth 100000 in
theorem c_X12_party {l : Launch} {D : va_G} {g : Nat → ClassId} {fu : Nat} {o_q0 o_q1 o_q2 o_q3 o_q4 o_q5 o_q6 o_q7 o_q8 o_q9 o_q10 o_q11 o_q12 o_q13 o_q14 o_q15 o_q16 o_q17 o_q18 o_q19 o_q20 o_q21 o_q22 : Nat} {o_code : Int32} {o_tape : (Nat → Int32)} {o_size : (Nat → Int32)} {o_fault : (Nat → Int32)} {o_faultPlace : (Nat → Int32)} {o_many : (Nat → Int32)} {o_towns : (Nat → Int32)} {o_weeks : (Nat → Int32)} {o_logs : (Nat → Int32)} {o_reached : Int32} {o_length : Int32} {o_begins : Int32} {o_sort : Int32} {o_value : Int32} {o_word : Int64} {o_wrongAt : Int32} {o_laterFault : Int32} {o_laterPlace : Int32} {o_told : (Nat → Int32)} {o_read : (Nat → Int32)} {o_farOne : Int32} {o_good : Int32} {o_town : Int32} {o_people : Int32} {o_when : Int32} {o_sat : Int32} {o_quiet : Int32} {o_vain : Int32} {o_lent : Int32} {o_forgiven : Int32} {o_sundays : Int32} {o_purse : (Nat → Int32)} {o_beside : (Nat → Int32)} {o_debts : (Nat → Int32)} {o_sitting : (Nat → Int32)} {o_visited : (Nat → Int32)} {o_week : Int32} {o_heaps : (Nat → Int32)} {o_taken : (Nat → Int32)} {o_best : (Nat → Int32)} {o_more : (Nat → Int32)} {o_firstOne : Int32} {o_log : Int32} {o_fitting : (Nat → Int32)} {o_found : Int32} {o_seed : Int32} {o_row : (Nat → Int32)} {o_saved : (Nat → Int32)} {p1 : Int32} {p2 : Int32} {p3 : Int32} {r : Int32 × Int32 × Int32 × Int32 × Int32 × Int32 × Int32 × Int32 × Int32 × Int32 × Int32 × (Nat → Int32) × (Nat → Int32) × (Nat → Int32) × (Nat → Int32) × (Nat → Int32)} (hf : f_X12_party fu o_code o_many o_towns o_town o_people o_when o_sat o_quiet o_vain o_lent o_forgiven o_sundays o_purse o_beside o_debts o_sitting o_visited p1 p2 p3 = some r) : Wr l D (gy g) yX12_party cX12_party 7 (some .int) 3 [.ref o_q0, .int p1, .int p2, .int p3] (wMd g o_q0 o_q1 o_q2 o_q3 o_q4 o_q5 o_q6 o_q7 o_q8 o_q9 o_q10 o_q11 o_q12 o_q13 o_q14 o_q15 o_q16 o_q17 o_q18 o_q19 o_q20 o_q21 o_q22 o_code o_tape o_size o_fault o_faultPlace o_many o_towns o_weeks o_logs o_reached o_length o_begins o_sort o_value o_word o_wrongAt o_laterFault o_laterPlace o_told o_read o_farOne o_good o_town o_people o_when o_sat o_quiet o_vain o_lent o_forgiven o_sundays o_purse o_beside o_debts o_sitting o_visited o_week o_heaps o_taken o_best o_more o_firstOne o_log o_fitting o_found o_seed o_row o_saved) (wMd g o_q0 o_q1 o_q2 o_q3 o_q4 o_q5 o_q6 o_q7 o_q8 o_q9 o_q10 o_q11 o_q12 o_q13 o_q14 o_q15 o_q16 o_q17 o_q18 o_q19 o_q20 o_q21 o_q22 r.2.1 o_tape o_size o_fault o_faultPlace o_many o_towns o_weeks o_logs o_reached o_length o_begins o_sort o_value o_word o_wrongAt o_laterFault o_laterPlace o_told o_read o_farOne o_good r.2.2.1 r.2.2.2.1 r.2.2.2.2.1 r.2.2.2.2.2.1 r.2.2.2.2.2.2.1 r.2.2.2.2.2.2.2.1 r.2.2.2.2.2.2.2.2.1 r.2.2.2.2.2.2.2.2.2.1 r.2.2.2.2.2.2.2.2.2.2.1 r.2.2.2.2.2.2.2.2.2.2.2.1 r.2.2.2.2.2.2.2.2.2.2.2.2.1 r.2.2.2.2.2.2.2.2.2.2.2.2.2.1 r.2.2.2.2.2.2.2.2.2.2.2.2.2.2.1 r.2.2.2.2.2.2.2.2.2.2.2.2.2.2.2 o_week o_heaps o_taken o_best o_more o_firstOne o_log o_fitting o_found o_seed o_row o_saved) (some (.int r.1)) := by
  refine Wr.ofI (by decide) (Nat.le_of_ble_eq_true rfl) ?_
  intro p e s m args below meth c Q A S hK hA hret ls hl hW
  have hl : lv_has ls 7 [(0, .ref o_q0), (1, .int p1), (2, .int p2), (3, .int p3)] := hl
  refine lv_aload_n S.1 S.2.1 dX12_party_0 rfl (lv_at hl 0 rfl) ?_
  refine lv_iconst (v := 0) S.1 S.2.1 dX12_party_1 ic_0 ?_
  refine pfX12_78 (ws2 := (wMd g o_q0 o_q1 o_q2 o_q3 o_q4 o_q5 o_q6 o_q7 o_q8 o_q9 o_q10 o_q11 o_q12 o_q13 o_q14 o_q15 o_q16 o_q17 o_q18 o_q19 o_q20 o_q21 o_q22 (0 : Int32) o_tape o_size o_fault o_faultPlace o_many o_towns o_weeks o_logs o_reached o_length o_begins o_sort o_value o_word o_wrongAt o_laterFault o_laterPlace o_told o_read o_farOne o_good o_town o_people o_when o_sat o_quiet o_vain o_lent o_forgiven o_sundays o_purse o_beside o_debts o_sitting o_visited o_week o_heaps o_taken o_best o_more o_firstOne o_log o_fitting o_found o_seed o_row o_saved)) S hK hW 0 rfl rfl rfl (Nat.le_of_ble_eq_true rfl) rfl dX12_party_2 (fun H locs hW => ?_)
  refine lv_iload_n S.1 S.2.1 dX12_party_5 rfl (lv_at hl 2 rfl) ?_
  refine lv_iconst (v := 0) S.1 S.2.1 dX12_party_6 ic_0 ?_
  refine lv_bipush (v := 6) S.1 S.2.1 dX12_party_7 bp_6 ?_
  obtain ⟨x1, hx1, hf⟩ := bnd_e hf
  refine Rd.cS (c_X12_in hx1) S hK va_P.nil kSX12_90 rfl hl.1 [] rfl (Nat.le_of_ble_eq_true rfl) ⟨(Nat.le_of_ble_eq_true rfl), (Nat.le_of_ble_eq_true rfl)⟩ ⟨(Nat.zero_le _), (Nat.zero_le _)⟩ dX12_party_9 ?_
  refine lv_if_eq (tgt := 23) S.1 S.2.1 dX12_party_12 (by decide) (fun c_ => ?_) (fun c_ => ?_)
  · have hf := it_p c_ hf
    refine lv_iconst (v := (-1)) S.1 S.2.1 dX12_party_23 ic_m1 ?_
    have e_ := Option.some.inj hf
    subst e_
    exact hret _ _ _ _ dX12_party_24 hW
  · have hf := it_n c_ hf
    refine lv_aload_n S.1 S.2.1 dX12_party_15 rfl (lv_at hl 0 rfl) ?_
    refine lv_iload_n S.1 S.2.1 dX12_party_16 rfl (lv_at hl 1 rfl) ?_
    obtain ⟨x2, hx2, hf⟩ := bnd_e hf
    refine Wr.goW (Wr.runV (c_X12_hand hx2) S hK hW.1 hW.2.1 0 10 rfl rfl kVX12_257 rfl hl.1 [] rfl (Nat.le_of_ble_eq_true rfl) ⟨(Nat.le_of_ble_eq_true rfl), (Nat.le_of_ble_eq_true rfl)⟩ ⟨(Nat.zero_le _), (Nat.zero_le _)⟩ dX12_party_17) hW hA (fun H locs hW => ?_)
    refine lv_if_ne (tgt := 25) S.1 S.2.1 dX12_party_20 (by decide) (fun c_ => ?_) (fun c_ => ?_)
    · have hf := it_n c_ hf
      refine lv_iconst (v := (-1)) S.1 S.2.1 dX12_party_25 ic_m1 ?_
      refine lv_istore (lv' := [(4, .int (-1 : Int32)), (0, .ref o_q0), (1, .int p1), (2, .int p2), (3, .int p3)]) S.1 S.2.1 dX12_party_26 hl (by decide) rfl (fun ls hl => ?_)
      refine lv_iconst (v := 0) S.1 S.2.1 dX12_party_28 ic_0 ?_
      refine lv_istore (lv' := [(5, .int (0 : Int32)), (4, .int (-1 : Int32)), (0, .ref o_q0), (1, .int p1), (2, .int p2), (3, .int p3)]) S.1 S.2.1 dX12_party_29 hl (by decide) rfl (fun ls hl => ?_)
      obtain ⟨x5, hf_, hk5⟩ := bnd_e hf
      have hE5 : ∀ (v13 : Int32), v13 = x5 → ∀ (ls : Array Slot) (H : Heap) (locs : List Loc), lv_has ls 7 [(0, .ref o_q0), (3, .int p3), (4, .int v13)] → St A s.heap D (wMd g o_q0 o_q1 o_q2 o_q3 o_q4 o_q5 o_q6 o_q7 o_q8 o_q9 o_q10 o_q11 o_q12 o_q13 o_q14 o_q15 o_q16 o_q17 o_q18 o_q19 o_q20 o_q21 o_q22 (0 : Int32) o_tape o_size o_fault o_faultPlace o_many o_towns o_weeks o_logs o_reached o_length o_begins o_sort o_value o_word o_wrongAt o_laterFault o_laterPlace o_told o_read o_farOne o_good x2.2.1 x2.2.2.1 x2.2.2.2.1 x2.2.2.2.2.1 x2.2.2.2.2.2.1 x2.2.2.2.2.2.2.1 x2.2.2.2.2.2.2.2.1 x2.2.2.2.2.2.2.2.2.1 x2.2.2.2.2.2.2.2.2.2.1 x2.2.2.2.2.2.2.2.2.2.2.1 x2.2.2.2.2.2.2.2.2.2.2.2.1 x2.2.2.2.2.2.2.2.2.2.2.2.2.1 x2.2.2.2.2.2.2.2.2.2.2.2.2.2.1 x2.2.2.2.2.2.2.2.2.2.2.2.2.2.2 o_week o_heaps o_taken o_best o_more o_firstOne o_log o_fitting o_found o_seed o_row o_saved) H locs → W p l e (rmD 3) s m args below meth c H locs 0 0 Q (F0 m 108 ls []) := by
        intro v13 e_ ls H locs hl hW
        subst e_
        have hf := hk5
        refine lv_iload S.1 S.2.1 dX12_party_108 (lv_at hl 2 rfl) ?_
        refine lv_iconst (v := (-1)) S.1 S.2.1 dX12_party_110 ic_m1 ?_
        refine lv_icmp_eq (tgt := 118) S.1 S.2.1 dX12_party_111 (by decide) (fun c_ => ?_) (fun c_ => ?_)
        · have hf := it_p c_ hf
          refine lv_iload S.1 S.2.1 dX12_party_118 (lv_at hl 2 rfl) ?_
          refine lv_goto (tgt := 129) S.1 S.2.1 dX12_party_120 (by decide) ?_
          have e_ := Option.some.inj hf
          subst e_
          exact hret _ _ _ _ dX12_party_129 hW
        · have hf := it_n c_ hf
          refine lv_iload_n S.1 S.2.1 dX12_party_114 rfl (lv_at hl 1 rfl) ?_
          refine lv_if_eq (tgt := 123) S.1 S.2.1 dX12_party_115 (by decide) (fun c_ => ?_) (fun c_ => ?_)
          · have hf := it_p c_ hf
            refine lv_aload_n S.1 S.2.1 dX12_party_123 rfl (lv_at hl 0 rfl) ?_
            refine lv_iload S.1 S.2.1 dX12_party_124 (lv_at hl 2 rfl) ?_
            obtain ⟨x14, hx14, hf⟩ := bnd_e hf
            refine Rd.cV (c_X12_witsOf hx14) S hK hW.1 0 10 rfl rfl kVX12_473 rfl hl.1 [] rfl (Nat.le_of_ble_eq_true rfl) ⟨(Nat.le_of_ble_eq_true rfl), (Nat.le_of_ble_eq_true rfl)⟩ ⟨(Nat.zero_le _), (Nat.zero_le _)⟩ dX12_party_126 ?_
            have e_ := Option.some.inj hf
            subst e_
            exact hret _ _ _ _ dX12_party_129 hW
          · have hf := it_n c_ hf
            refine lv_iload S.1 S.2.1 dX12_party_118 (lv_at hl 2 rfl) ?_
            refine lv_goto (tgt := 129) S.1 S.2.1 dX12_party_120 (by decide) ?_
            have e_ := Option.some.inj hf
            subst e_
            exact hret _ _ _ _ dX12_party_129 hW
      refine lp_ind (P := fun (s4 : Int32 × Int32) => ∀ (ls : Array Slot) (H : Heap) (locs : List Loc), lv_has ls 7 [(0, .ref o_q0), (2, .int p2), (3, .int p3), (4, .int s4.1), (5, .int s4.2)] → St A s.heap D (wMd g o_q0 o_q1 o_q2 o_q3 o_q4 o_q5 o_q6 o_q7 o_q8 o_q9 o_q10 o_q11 o_q12 o_q13 o_q14 o_q15 o_q16 o_q17 o_q18 o_q19 o_q20 o_q21 o_q22 (0 : Int32) o_tape o_size o_fault o_faultPlace o_many o_towns o_weeks o_logs o_reached o_length o_begins o_sort o_value o_word o_wrongAt o_laterFault o_laterPlace o_told o_read o_farOne o_good x2.2.1 x2.2.2.1 x2.2.2.2.1 x2.2.2.2.2.1 x2.2.2.2.2.2.1 x2.2.2.2.2.2.2.1 x2.2.2.2.2.2.2.2.1 x2.2.2.2.2.2.2.2.2.1 x2.2.2.2.2.2.2.2.2.2.1 x2.2.2.2.2.2.2.2.2.2.2.1 x2.2.2.2.2.2.2.2.2.2.2.2.1 x2.2.2.2.2.2.2.2.2.2.2.2.2.1 x2.2.2.2.2.2.2.2.2.2.2.2.2.2.1 x2.2.2.2.2.2.2.2.2.2.2.2.2.2.2 o_week o_heaps o_taken o_best o_more o_firstOne o_log o_fitting o_found o_seed o_row o_saved) H locs → W p l e (rmD 3) s m args below meth c H locs 0 0 Q (F0 m 31 ls [])) ?_ _ _ hf_ _ _ _ (lv_sub hl [2, 4, 5, 1, 0] rfl) hW
      intro s4 x6 hf hI5 hR5 ls H locs hl hW
      refine lv_iload S.1 S.2.1 dX12_party_31 (lv_at hl 4 rfl) ?_
      refine lv_iconst (v := 1) S.1 S.2.1 dX12_party_33 ic_1 ?_
      refine lv_aload_n S.1 S.2.1 dX12_party_34 rfl (lv_at hl 0 rfl) ?_
      refine gfX12_230 S hK hW.1 0 rfl rfl dX12_party_35 ?_
      refine lv_ishl S.1 S.2.1 dX12_party_38 ?_
      refine lv_icmp_ge (tgt := 108) S.1 S.2.1 dX12_party_39 (by decide) (fun c_ => ?_) (fun c_ => ?_)
      · have hf := it_p c_ hf
        have e_ := hR5 _ (Option.some.inj hf).symm
        exact hE5 _ e_ _ _ _ (lv_sub hl [0, 2, 3] rfl) hW
      · have hf := it_n c_ hf
        refine lv_iload S.1 S.2.1 dX12_party_42 (lv_at hl 4 rfl) ?_
        obtain ⟨x7, hx7, hf⟩ := bnd_e hf
        refine Rd.cS (c_X12_ones hx7) S hK va_P.nil kSX12_358 rfl hl.1 [] rfl (Nat.le_of_ble_eq_true rfl) ⟨(Nat.le_of_ble_eq_true rfl), (Nat.le_of_ble_eq_true rfl)⟩ ⟨(Nat.zero_le _), (Nat.zero_le _)⟩ dX12_party_44 ?_
        refine lv_iload_n S.1 S.2.1 dX12_party_47 rfl (lv_at hl 1 rfl) ?_
        obtain ⟨x8, hf_, hk8⟩ := bnd_e hf
        have hJ8 : ∀ (v9 : Int32), v9 = x8 → ∀ (ls : Array Slot) (H : Heap) (locs : List Loc), lv_has ls 7 [(0, .ref o_q0), (2, .int p2), (3, .int p3), (4, .int s4.1), (5, .int s4.2)] → St A s.heap D (wMd g o_q0 o_q1 o_q2 o_q3 o_q4 o_q5 o_q6 o_q7 o_q8 o_q9 o_q10 o_q11 o_q12 o_q13 o_q14 o_q15 o_q16 o_q17 o_q18 o_q19 o_q20 o_q21 o_q22 (0 : Int32) o_tape o_size o_fault o_faultPlace o_many o_towns o_weeks o_logs o_reached o_length o_begins o_sort o_value o_word o_wrongAt o_laterFault o_laterPlace o_told o_read o_farOne o_good x2.2.1 x2.2.2.1 x2.2.2.2.1 x2.2.2.2.2.1 x2.2.2.2.2.2.1 x2.2.2.2.2.2.2.1 x2.2.2.2.2.2.2.2.1 x2.2.2.2.2.2.2.2.2.1 x2.2.2.2.2.2.2.2.2.2.1 x2.2.2.2.2.2.2.2.2.2.2.1 x2.2.2.2.2.2.2.2.2.2.2.2.1 x2.2.2.2.2.2.2.2.2.2.2.2.2.1 x2.2.2.2.2.2.2.2.2.2.2.2.2.2.1 x2.2.2.2.2.2.2.2.2.2.2.2.2.2.2 o_week o_heaps o_taken o_best o_more o_firstOne o_log o_fitting o_found o_seed o_row o_saved) H locs → W p l e (rmD 3) s m args below meth c H locs 0 0 Q (F0 m 65 ls [.int v9]) := by
          intro v9 e_ ls H locs hl hW
          subst e_
          have hf := hk8
          refine lv_istore (lv' := [(6, .int v9), (0, .ref o_q0), (2, .int p2), (3, .int p3), (4, .int s4.1), (5, .int s4.2)]) S.1 S.2.1 dX12_party_65 hl (by decide) rfl (fun ls hl => ?_)
          refine lv_iload S.1 S.2.1 dX12_party_67 (lv_at hl 0 rfl) ?_
          refine lv_if_eq (tgt := 98) S.1 S.2.1 dX12_party_69 (by decide) (fun c_ => ?_) (fun c_ => ?_)
          · have hf := it_p c_ hf
            refine lv_iload S.1 S.2.1 dX12_party_98 (lv_at hl 4 rfl) ?_
            refine lv_istore (lv' := [(4, .int s4.1), (6, .int v9), (0, .ref o_q0), (2, .int p2), (3, .int p3), (5, .int s4.2)]) S.1 S.2.1 dX12_party_100 hl (by decide) rfl (fun ls hl => ?_)
            refine q_iinc (w := 1) (lv' := [(5, .int (s4.2 + 1)), (4, .int s4.1), (6, .int v9), (0, .ref o_q0), (2, .int p2), (3, .int p3)]) S dX12_party_102 hl (k := 5) rfl ic_1 (by decide) rfl (fun ls hl => ?_)
            refine lv_goto (tgt := 31) S.1 S.2.1 dX12_party_105 (by decide) ?_
            exact hI5 _ (Option.some.inj hf).symm _ _ _ (lv_sub hl [3, 4, 5, 1, 0] rfl) hW
          · have hf := it_n c_ hf
            refine lv_iload S.1 S.2.1 dX12_party_72 (lv_at hl 4 rfl) ?_
            refine lv_iconst (v := (-1)) S.1 S.2.1 dX12_party_74 ic_m1 ?_
            refine lv_icmp_eq (tgt := 93) S.1 S.2.1 dX12_party_75 (by decide) (fun c_ => ?_) (fun c_ => ?_)
            · have hf := it_p c_ hf
              refine lv_iload S.1 S.2.1 dX12_party_93 (lv_at hl 5 rfl) ?_
              refine lv_goto (tgt := 100) S.1 S.2.1 dX12_party_95 (by decide) ?_
              refine lv_istore (lv' := [(4, .int s4.2), (6, .int v9), (0, .ref o_q0), (2, .int p2), (3, .int p3), (5, .int s4.2)]) S.1 S.2.1 dX12_party_100 hl (by decide) rfl (fun ls hl => ?_)
              refine q_iinc (w := 1) (lv' := [(5, .int (s4.2 + 1)), (4, .int s4.2), (6, .int v9), (0, .ref o_q0), (2, .int p2), (3, .int p3)]) S dX12_party_102 hl (k := 5) rfl ic_1 (by decide) rfl (fun ls hl => ?_)
              refine lv_goto (tgt := 31) S.1 S.2.1 dX12_party_105 (by decide) ?_
              exact hI5 _ (Option.some.inj hf).symm _ _ _ (lv_sub hl [3, 4, 5, 1, 0] rfl) hW
            · have hf := it_n c_ hf
              refine lv_aload_n S.1 S.2.1 dX12_party_78 rfl (lv_at hl 1 rfl) ?_
              refine lv_iload S.1 S.2.1 dX12_party_79 (lv_at hl 5 rfl) ?_
              obtain ⟨x10, hx10, hf⟩ := bnd_e hf
              refine Rd.cV (c_X12_witsOf hx10) S hK hW.1 0 10 rfl rfl kVX12_473 rfl hl.1 [] rfl (Nat.le_of_ble_eq_true rfl) ⟨(Nat.le_of_ble_eq_true rfl), (Nat.le_of_ble_eq_true rfl)⟩ ⟨(Nat.zero_le _), (Nat.zero_le _)⟩ dX12_party_81 ?_
              refine lv_aload_n S.1 S.2.1 dX12_party_84 rfl (lv_at hl 1 rfl) ?_
              refine lv_iload S.1 S.2.1 dX12_party_85 (lv_at hl 4 rfl) ?_
              obtain ⟨x11, hx11, hf⟩ := bnd_e hf
              refine Rd.cV (c_X12_witsOf hx11) S hK hW.1 0 10 rfl rfl kVX12_473 rfl hl.1 [.int x10] rfl (Nat.le_of_ble_eq_true rfl) ⟨(Nat.le_of_ble_eq_true rfl), (Nat.le_of_ble_eq_true rfl)⟩ ⟨(Nat.zero_le _), (Nat.zero_le _)⟩ dX12_party_87 ?_
              refine lv_icmp_le (tgt := 98) S.1 S.2.1 dX12_party_90 (by decide) (fun c_ => ?_) (fun c_ => ?_)
              · have hf := it_p c_ hf
                refine lv_iload S.1 S.2.1 dX12_party_98 (lv_at hl 4 rfl) ?_
                refine lv_istore (lv' := [(4, .int s4.1), (6, .int v9), (0, .ref o_q0), (2, .int p2), (3, .int p3), (5, .int s4.2)]) S.1 S.2.1 dX12_party_100 hl (by decide) rfl (fun ls hl => ?_)
                refine q_iinc (w := 1) (lv' := [(5, .int (s4.2 + 1)), (4, .int s4.1), (6, .int v9), (0, .ref o_q0), (2, .int p2), (3, .int p3)]) S dX12_party_102 hl (k := 5) rfl ic_1 (by decide) rfl (fun ls hl => ?_)
                refine lv_goto (tgt := 31) S.1 S.2.1 dX12_party_105 (by decide) ?_
                exact hI5 _ (Option.some.inj hf).symm _ _ _ (lv_sub hl [3, 4, 5, 1, 0] rfl) hW
              · have hf := it_n c_ hf
                refine lv_iload S.1 S.2.1 dX12_party_93 (lv_at hl 5 rfl) ?_
                refine lv_goto (tgt := 100) S.1 S.2.1 dX12_party_95 (by decide) ?_
                refine lv_istore (lv' := [(4, .int s4.2), (6, .int v9), (0, .ref o_q0), (2, .int p2), (3, .int p3), (5, .int s4.2)]) S.1 S.2.1 dX12_party_100 hl (by decide) rfl (fun ls hl => ?_)
                refine q_iinc (w := 1) (lv' := [(5, .int (s4.2 + 1)), (4, .int s4.2), (6, .int v9), (0, .ref o_q0), (2, .int p2), (3, .int p3)]) S dX12_party_102 hl (k := 5) rfl ic_1 (by decide) rfl (fun ls hl => ?_)
                refine lv_goto (tgt := 31) S.1 S.2.1 dX12_party_105 (by decide) ?_
                exact hI5 _ (Option.some.inj hf).symm _ _ _ (lv_sub hl [3, 4, 5, 1, 0] rfl) hW
        have hf := hf_
        refine lv_icmp_ne (tgt := 64) S.1 S.2.1 dX12_party_48 (by decide) (fun c_ => ?_) (fun c_ => ?_)
        · have hf := it_n c_ hf
          refine lv_iconst (v := 0) S.1 S.2.1 dX12_party_64 ic_0 ?_
          exact hJ8 _ (Option.some.inj hf) _ _ _ (lv_sub hl [0, 1, 2, 3, 4] rfl) hW
        · have hf := it_p c_ hf
          refine lv_aload_n S.1 S.2.1 dX12_party_51 rfl (lv_at hl 0 rfl) ?_
          refine lv_iload S.1 S.2.1 dX12_party_52 (lv_at hl 4 rfl) ?_
          obtain ⟨x12, hx12, hf⟩ := bnd_e hf
          refine Rd.cV (c_X12_hateNone hx12) S hK hW.1 0 10 rfl rfl kVX12_395 rfl hl.1 [] rfl (Nat.le_of_ble_eq_true rfl) ⟨(Nat.le_of_ble_eq_true rfl), (Nat.le_of_ble_eq_true rfl)⟩ ⟨(Nat.zero_le _), (Nat.zero_le _)⟩ dX12_party_54 ?_
          refine lv_if_eq (tgt := 64) S.1 S.2.1 dX12_party_57 (by decide) (fun c_ => ?_) (fun c_ => ?_)
          · have hf := it_p c_ hf
            refine lv_iconst (v := 0) S.1 S.2.1 dX12_party_64 ic_0 ?_
            exact hJ8 _ (Option.some.inj hf) _ _ _ (lv_sub hl [0, 1, 2, 3, 4] rfl) hW
          · have hf := it_n c_ hf
            refine lv_iconst (v := 1) S.1 S.2.1 dX12_party_60 ic_1 ?_
            refine lv_goto (tgt := 65) S.1 S.2.1 dX12_party_61 (by decide) ?_
            exact hJ8 _ (Option.some.inj hf) _ _ _ (lv_sub hl [0, 1, 2, 3, 4] rfl) hW
    · have hf := it_p c_ hf
      refine lv_iconst (v := (-1)) S.1 S.2.1 dX12_party_23 ic_m1 ?_
      have e_ := Option.some.inj hf
      subst e_
      exact hret _ _ _ _ dX12_party_24 hW
def f_X12_layRow_L10 (p2 : Int32) (s3 : Int32 × Int32 × (Nat → Int32)) : Option ((Int32 × Int32 × (Nat → Int32)) ⊕ ((Nat → Int32))) := if s3.2.1 < 0 then some (.inr s3.2.2) else bnd (α := Int32) (rmi s3.1 p2) (fun x6 => bnd (α := (Nat → Int32)) (wri 6 s3.2.2 s3.2.1 x6) (fun x7 => bnd (α := Int32) (dvi s3.1 p2) (fun x8 => some (.inl (x8, (s3.2.1 + (-1)), x7)))))
def f_X12_layRow (fu : Nat) (o_people : Int32) (o_row : (Nat → Int32)) (p1 : Int32) (p2 : Int32) : Option ((Nat → Int32)) := ltn (o_people - (1 : Int32)) (fun x1 => bnd (α := (Nat → Int32)) (lp (f_X12_layRow_L10 p2) fu (p1, x1, o_row)) (fun v9 => some v9))
set_option maxHeartbeats 4000000 in
set_option maxRecDepth 100000 in
theorem c_X12_layRow {l : Launch} {D : va_G} {g : Nat → ClassId} {fu : Nat} {o_q0 o_q1 o_q2 o_q3 o_q4 o_q5 o_q6 o_q7 o_q8 o_q9 o_q10 o_q11 o_q12 o_q13 o_q14 o_q15 o_q16 o_q17 o_q18 o_q19 o_q20 o_q21 o_q22 : Nat} {o_code : Int32} {o_tape : (Nat → Int32)} {o_size : (Nat → Int32)} {o_fault : (Nat → Int32)} {o_faultPlace : (Nat → Int32)} {o_many : (Nat → Int32)} {o_towns : (Nat → Int32)} {o_weeks : (Nat → Int32)} {o_logs : (Nat → Int32)} {o_reached : Int32} {o_length : Int32} {o_begins : Int32} {o_sort : Int32} {o_value : Int32} {o_word : Int64} {o_wrongAt : Int32} {o_laterFault : Int32} {o_laterPlace : Int32} {o_told : (Nat → Int32)} {o_read : (Nat → Int32)} {o_farOne : Int32} {o_good : Int32} {o_town : Int32} {o_people : Int32} {o_when : Int32} {o_sat : Int32} {o_quiet : Int32} {o_vain : Int32} {o_lent : Int32} {o_forgiven : Int32} {o_sundays : Int32} {o_purse : (Nat → Int32)} {o_beside : (Nat → Int32)} {o_debts : (Nat → Int32)} {o_sitting : (Nat → Int32)} {o_visited : (Nat → Int32)} {o_week : Int32} {o_heaps : (Nat → Int32)} {o_taken : (Nat → Int32)} {o_best : (Nat → Int32)} {o_more : (Nat → Int32)} {o_firstOne : Int32} {o_log : Int32} {o_fitting : (Nat → Int32)} {o_found : Int32} {o_seed : Int32} {o_row : (Nat → Int32)} {o_saved : (Nat → Int32)} {p1 : Int32} {p2 : Int32} {r : (Nat → Int32)} (hf : f_X12_layRow fu o_people o_row p1 p2 = some r) : Wr l D (gy g) yX12_layRow cX12_layRow 5 none 0 [.ref o_q0, .int p1, .int p2] (wMd g o_q0 o_q1 o_q2 o_q3 o_q4 o_q5 o_q6 o_q7 o_q8 o_q9 o_q10 o_q11 o_q12 o_q13 o_q14 o_q15 o_q16 o_q17 o_q18 o_q19 o_q20 o_q21 o_q22 o_code o_tape o_size o_fault o_faultPlace o_many o_towns o_weeks o_logs o_reached o_length o_begins o_sort o_value o_word o_wrongAt o_laterFault o_laterPlace o_told o_read o_farOne o_good o_town o_people o_when o_sat o_quiet o_vain o_lent o_forgiven o_sundays o_purse o_beside o_debts o_sitting o_visited o_week o_heaps o_taken o_best o_more o_firstOne o_log o_fitting o_found o_seed o_row o_saved) (wMd g o_q0 o_q1 o_q2 o_q3 o_q4 o_q5 o_q6 o_q7 o_q8 o_q9 o_q10 o_q11 o_q12 o_q13 o_q14 o_q15 o_q16 o_q17 o_q18 o_q19 o_q20 o_q21 o_q22 o_code o_tape o_size o_fault o_faultPlace o_many o_towns o_weeks o_logs o_reached o_length o_begins o_sort o_value o_word o_wrongAt o_laterFault o_laterPlace o_told o_read o_farOne o_good o_town o_people o_when o_sat o_quiet o_vain o_lent o_forgiven o_sundays o_purse o_beside o_debts o_sitting o_visited o_week o_heaps o_taken o_best o_more o_firstOne o_log o_fitting o_found o_seed r o_saved) none := by
  refine Wr.ofV (by decide) (Nat.le_of_ble_eq_true rfl) ?_
  intro p e s m args below meth c Q A S hK hA hret ls hl hW
  have hl : lv_has ls 5 [(0, .ref o_q0), (1, .int p1), (2, .int p2)] := hl
  refine lv_iload_n S.1 S.2.1 dX12_layRow_0 rfl (lv_at hl 1 rfl) ?_
  refine lv_istore_n (lv' := [(3, .int p1), (0, .ref o_q0), (1, .int p1), (2, .int p2)]) S.1 S.2.1 dX12_layRow_1 rfl hl (by decide) rfl (fun ls hl => ?_)
  refine lv_aload_n S.1 S.2.1 dX12_layRow_2 rfl (lv_at hl 1 rfl) ?_
  refine gfX12_230 S hK hW.1 0 rfl rfl dX12_layRow_3 ?_
  refine lv_iconst (v := 1) S.1 S.2.1 dX12_layRow_6 ic_1 ?_
  refine lv_isub S.1 S.2.1 dX12_layRow_7 ?_
  refine lv_topi (fun x1 ex1 => ?_)
  have hf := ltn_e hf ex1
  refine lv_istore (lv' := [(4, .int x1), (3, .int p1), (0, .ref o_q0), (1, .int p1), (2, .int p2)]) S.1 S.2.1 dX12_layRow_8 hl (by decide) rfl (fun ls hl => ?_)
  obtain ⟨x4, hf_, hk4⟩ := bnd_e hf
  have hE4 : ∀ (v9 : (Nat → Int32)), v9 = x4 → ∀ (ls : Array Slot) (H : Heap) (locs : List Loc), lv_has ls 5 [] → St A s.heap D (wMd g o_q0 o_q1 o_q2 o_q3 o_q4 o_q5 o_q6 o_q7 o_q8 o_q9 o_q10 o_q11 o_q12 o_q13 o_q14 o_q15 o_q16 o_q17 o_q18 o_q19 o_q20 o_q21 o_q22 o_code o_tape o_size o_fault o_faultPlace o_many o_towns o_weeks o_logs o_reached o_length o_begins o_sort o_value o_word o_wrongAt o_laterFault o_laterPlace o_told o_read o_farOne o_good o_town o_people o_when o_sat o_quiet o_vain o_lent o_forgiven o_sundays o_purse o_beside o_debts o_sitting o_visited o_week o_heaps o_taken o_best o_more o_firstOne o_log o_fitting o_found o_seed v9 o_saved) H locs → W p l e (rmD 0) s m args below meth c H locs 0 0 Q (F0 m 35 ls []) := by
    intro v9 e_ ls H locs hl hW
    subst e_
    have hf := hk4
    have e_ := Option.some.inj hf
    subst e_
    exact hret _ _ _ _ dX12_layRow_35 hW
  refine lp_ind (P := fun (s3 : Int32 × Int32 × (Nat → Int32)) => ∀ (ls : Array Slot) (H : Heap) (locs : List Loc), lv_has ls 5 [(0, .ref o_q0), (2, .int p2), (3, .int s3.1), (4, .int s3.2.1)] → St A s.heap D (wMd g o_q0 o_q1 o_q2 o_q3 o_q4 o_q5 o_q6 o_q7 o_q8 o_q9 o_q10 o_q11 o_q12 o_q13 o_q14 o_q15 o_q16 o_q17 o_q18 o_q19 o_q20 o_q21 o_q22 o_code o_tape o_size o_fault o_faultPlace o_many o_towns o_weeks o_logs o_reached o_length o_begins o_sort o_value o_word o_wrongAt o_laterFault o_laterPlace o_told o_read o_farOne o_good o_town o_people o_when o_sat o_quiet o_vain o_lent o_forgiven o_sundays o_purse o_beside o_debts o_sitting o_visited o_week o_heaps o_taken o_best o_more o_firstOne o_log o_fitting o_found o_seed s3.2.2 o_saved) H locs → W p l e (rmD 0) s m args below meth c H locs 0 0 Q (F0 m 10 ls [])) ?_ _ _ hf_ _ _ _ (lv_sub hl [2, 4, 1, 0] rfl) hW
  intro s3 x5 hf hI4 hR4 ls H locs hl hW
  refine lv_iload S.1 S.2.1 dX12_layRow_10 (lv_at hl 3 rfl) ?_
  refine lv_if_lt (tgt := 35) S.1 S.2.1 dX12_layRow_12 (by decide) (fun c_ => ?_) (fun c_ => ?_)
  · have hf := it_p c_ hf
    have e_ := hR4 _ (Option.some.inj hf).symm
    exact hE4 _ e_ _ _ _ (lv_sub hl [] rfl) hW
  · have hf := it_n c_ hf
    refine lv_aload_n S.1 S.2.1 dX12_layRow_15 rfl (lv_at hl 0 rfl) ?_
    refine gfX12_71 S hK hW.1 0 rfl rfl dX12_layRow_16 ?_
    refine lv_iload S.1 S.2.1 dX12_layRow_19 (lv_at hl 3 rfl) ?_
    refine lv_iload_n S.1 S.2.1 dX12_layRow_21 rfl (lv_at hl 2 rfl) ?_
    refine lv_iload_n S.1 S.2.1 dX12_layRow_22 rfl (lv_at hl 1 rfl) ?_
    obtain ⟨x6, hx6, hf⟩ := bnd_e hf
    refine q_irem S hx6 dX12_layRow_23 ?_
    obtain ⟨x7, hx7, hf⟩ := bnd_e hf
    refine q_iast (ws2 := (wMd g o_q0 o_q1 o_q2 o_q3 o_q4 o_q5 o_q6 o_q7 o_q8 o_q9 o_q10 o_q11 o_q12 o_q13 o_q14 o_q15 o_q16 o_q17 o_q18 o_q19 o_q20 o_q21 o_q22 o_code o_tape o_size o_fault o_faultPlace o_many o_towns o_weeks o_logs o_reached o_length o_begins o_sort o_value o_word o_wrongAt o_laterFault o_laterPlace o_told o_read o_farOne o_good o_town o_people o_when o_sat o_quiet o_vain o_lent o_forgiven o_sundays o_purse o_beside o_debts o_sitting o_visited o_week o_heaps o_taken o_best o_more o_firstOne o_log o_fitting o_found o_seed x7 o_saved)) S hK hW 21 0 rfl rfl hx7 rfl dX12_layRow_24 (fun H locs hW => ?_)
    refine lv_iload_n S.1 S.2.1 dX12_layRow_25 rfl (lv_at hl 2 rfl) ?_
    refine lv_iload_n S.1 S.2.1 dX12_layRow_26 rfl (lv_at hl 1 rfl) ?_
    obtain ⟨x8, hx8, hf⟩ := bnd_e hf
    refine q_idiv S hx8 dX12_layRow_27 ?_
    refine lv_istore_n (lv' := [(3, .int x8), (0, .ref o_q0), (2, .int p2), (4, .int s3.2.1)]) S.1 S.2.1 dX12_layRow_28 rfl hl (by decide) rfl (fun ls hl => ?_)
    refine q_iinc (w := (-1)) (lv' := [(4, .int (s3.2.1 + (-1))), (3, .int x8), (0, .ref o_q0), (2, .int p2)]) S dX12_layRow_29 hl (k := 3) rfl ic_m1 (by decide) rfl (fun ls hl => ?_)
    refine lv_goto (tgt := 10) S.1 S.2.1 dX12_layRow_32 (by decide) ?_
    exact hI4 _ (Option.some.inj hf).symm _ _ _ (lv_sub hl [2, 3, 1, 0] rfl) hW
def f_X12_rowsOf_L4 (o_people : Int32) (p1 : Int32) (s2 : Int32 × Int32) : Option ((Int32 × Int32) ⊕ (Int32)) := if o_people ≤ s2.2 then some (.inr s2.1) else ltn (s2.1 * p1) (fun x5 => some (.inl (x5, (s2.2 + 1))))
def f_X12_rowsOf (fu : Nat) (o_people : Int32) (p1 : Int32) : Option (Int32) := bnd (α := Int32) (lp (f_X12_rowsOf_L4 o_people p1) fu ((1 : Int32), (0 : Int32))) (fun v6 => some v6)
set_option maxHeartbeats 4000000 in
set_option maxRecDepth 100000 in
theorem c_X12_rowsOf {l : Launch} {D : va_G} {g : Nat → ClassId} {fu : Nat} {o_q0 o_q1 o_q2 o_q3 o_q4 o_q5 o_q6 o_q7 o_q8 o_q9 o_q10 o_q11 o_q12 o_q13 o_q14 o_q15 o_q16 o_q17 o_q18 o_q19 o_q20 o_q21 o_q22 : Nat} {o_code : Int32} {o_tape : (Nat → Int32)} {o_size : (Nat → Int32)} {o_fault : (Nat → Int32)} {o_faultPlace : (Nat → Int32)} {o_many : (Nat → Int32)} {o_towns : (Nat → Int32)} {o_weeks : (Nat → Int32)} {o_logs : (Nat → Int32)} {o_reached : Int32} {o_length : Int32} {o_begins : Int32} {o_sort : Int32} {o_value : Int32} {o_word : Int64} {o_wrongAt : Int32} {o_laterFault : Int32} {o_laterPlace : Int32} {o_told : (Nat → Int32)} {o_read : (Nat → Int32)} {o_farOne : Int32} {o_good : Int32} {o_town : Int32} {o_people : Int32} {o_when : Int32} {o_sat : Int32} {o_quiet : Int32} {o_vain : Int32} {o_lent : Int32} {o_forgiven : Int32} {o_sundays : Int32} {o_purse : (Nat → Int32)} {o_beside : (Nat → Int32)} {o_debts : (Nat → Int32)} {o_sitting : (Nat → Int32)} {o_visited : (Nat → Int32)} {o_week : Int32} {o_heaps : (Nat → Int32)} {o_taken : (Nat → Int32)} {o_best : (Nat → Int32)} {o_more : (Nat → Int32)} {o_firstOne : Int32} {o_log : Int32} {o_fitting : (Nat → Int32)} {o_found : Int32} {o_seed : Int32} {o_row : (Nat → Int32)} {o_saved : (Nat → Int32)} {p1 : Int32} {r : Int32} (hf : f_X12_rowsOf fu o_people p1 = some r) : Rd l D (gy g) yX12_rowsOf cX12_rowsOf 4 (some .int) 0 [.ref o_q0, .int p1] (wMd g o_q0 o_q1 o_q2 o_q3 o_q4 o_q5 o_q6 o_q7 o_q8 o_q9 o_q10 o_q11 o_q12 o_q13 o_q14 o_q15 o_q16 o_q17 o_q18 o_q19 o_q20 o_q21 o_q22 o_code o_tape o_size o_fault o_faultPlace o_many o_towns o_weeks o_logs o_reached o_length o_begins o_sort o_value o_word o_wrongAt o_laterFault o_laterPlace o_told o_read o_farOne o_good o_town o_people o_when o_sat o_quiet o_vain o_lent o_forgiven o_sundays o_purse o_beside o_debts o_sitting o_visited o_week o_heaps o_taken o_best o_more o_firstOne o_log o_fitting o_found o_seed o_row o_saved) (some (.int r)) := by
  refine Rd.ofI (by decide) (Nat.le_of_ble_eq_true rfl) ?_
  intro p e s m args below meth c Q S hK hP hret ls hl
  have hl : lv_has ls 4 [(0, .ref o_q0), (1, .int p1)] := hl
  refine lv_iconst (v := 1) S.1 S.2.1 dX12_rowsOf_0 ic_1 ?_
  refine lv_istore_n (lv' := [(2, .int (1 : Int32)), (0, .ref o_q0), (1, .int p1)]) S.1 S.2.1 dX12_rowsOf_1 rfl hl (by decide) rfl (fun ls hl => ?_)
  refine lv_iconst (v := 0) S.1 S.2.1 dX12_rowsOf_2 ic_0 ?_
  refine lv_istore_n (lv' := [(3, .int (0 : Int32)), (2, .int (1 : Int32)), (0, .ref o_q0), (1, .int p1)]) S.1 S.2.1 dX12_rowsOf_3 rfl hl (by decide) rfl (fun ls hl => ?_)
  obtain ⟨x3, hf_, hk3⟩ := bnd_e hf
  have hE3 : ∀ (v6 : Int32), v6 = x3 → ∀ (ls : Array Slot), lv_has ls 4 [(2, .int v6)] → W p l e (rmD 0) s m args below meth c s.heap [] 0 0 Q (F0 m 22 ls []) := by
    intro v6 e_ ls hl
    subst e_
    have hf := hk3
    refine lv_iload_n S.1 S.2.1 dX12_rowsOf_22 rfl (lv_at hl 0 rfl) ?_
    have e_ := Option.some.inj hf
    subst e_
    exact hret _ _ dX12_rowsOf_23
  refine lp_ind (P := fun (s2 : Int32 × Int32) => ∀ (ls : Array Slot), lv_has ls 4 [(0, .ref o_q0), (1, .int p1), (2, .int s2.1), (3, .int s2.2)] → W p l e (rmD 0) s m args below meth c s.heap [] 0 0 Q (F0 m 4 ls [])) ?_ _ _ hf_ _ (lv_sub hl [2, 3, 1, 0] rfl)
  intro s2 x4 hf hI3 hR3 ls hl
  refine lv_iload_n S.1 S.2.1 dX12_rowsOf_4 rfl (lv_at hl 3 rfl) ?_
  refine lv_aload_n S.1 S.2.1 dX12_rowsOf_5 rfl (lv_at hl 0 rfl) ?_
  refine gfX12_230 S hK hP 0 rfl rfl dX12_rowsOf_6 ?_
  refine lv_icmp_ge (tgt := 22) S.1 S.2.1 dX12_rowsOf_9 (by decide) (fun c_ => ?_) (fun c_ => ?_)
  · have hf := it_p c_ hf
    have e_ := hR3 _ (Option.some.inj hf).symm
    exact hE3 _ e_ _ (lv_sub hl [2] rfl)
  · have hf := it_n c_ hf
    refine lv_iload_n S.1 S.2.1 dX12_rowsOf_12 rfl (lv_at hl 2 rfl) ?_
    refine lv_iload_n S.1 S.2.1 dX12_rowsOf_13 rfl (lv_at hl 1 rfl) ?_
    refine lv_imul S.1 S.2.1 dX12_rowsOf_14 ?_
    refine lv_topi (fun x5 ex5 => ?_)
    have hf := ltn_e hf ex5
    refine lv_istore_n (lv' := [(2, .int x5), (0, .ref o_q0), (1, .int p1), (3, .int s2.2)]) S.1 S.2.1 dX12_rowsOf_15 rfl hl (by decide) rfl (fun ls hl => ?_)
    refine q_iinc (w := 1) (lv' := [(3, .int (s2.2 + 1)), (2, .int x5), (0, .ref o_q0), (1, .int p1)]) S dX12_rowsOf_16 hl (k := 3) rfl ic_1 (by decide) rfl (fun ls hl => ?_)
    refine lv_goto (tgt := 4) S.1 S.2.1 dX12_rowsOf_19 (by decide) ?_
    exact hI3 _ (Option.some.inj hf).symm _ (lv_sub hl [2, 3, 1, 0] rfl)
def f_X12_isCalm_L12 (fu : Nat) (o_towns : (Nat → Int32)) (o_town : Int32) (o_row : (Nat → Int32)) (s2 : Int32) (s6 : Int32) : Option ((Int32) ⊕ ((Int32) ⊕ (Unit))) := if s2 ≤ s6 then some (.inr (.inr ())) else bnd (α := Int32) (rdi 6 o_row s2) (fun x9 => bnd (α := Int32) (rdi 6 o_row s6) (fun x10 => if x9 = x10 then bnd (α := Int32) (rdi 6 o_row s2) (fun x11 => if (6 : Int32) ≤ x11 then some (.inl (s6 + 1)) else bnd (α := Int32) (f_X12_hates fu o_towns o_town s2 s6) (fun x12 => if x12 = 0 then some (.inl (s6 + 1)) else some (.inr (.inl (0 : Int32))))) else some (.inl (s6 + 1))))
def f_X12_isCalm_L2 (fu : Nat) (o_towns : (Nat → Int32)) (o_town : Int32) (o_people : Int32) (o_row : (Nat → Int32)) (s2 : Int32) : Option ((Int32) ⊕ ((Int32) ⊕ (Unit))) := if o_people ≤ s2 then some (.inr (.inr ())) else bnd (α := (Int32) ⊕ (Unit)) (lp (f_X12_isCalm_L12 fu o_towns o_town o_row s2) fu (0 : Int32)) (fun x7 => cse x7 (fun y14 => some (.inr (.inl y14))) (fun v13 => some (.inl (s2 + 1))))
def f_X12_isCalm (fu : Nat) (o_towns : (Nat → Int32)) (o_town : Int32) (o_people : Int32) (o_row : (Nat → Int32)) : Option (Int32) := bnd (α := (Int32) ⊕ (Unit)) (lp (f_X12_isCalm_L2 fu o_towns o_town o_people o_row) fu (0 : Int32)) (fun x3 => cse x3 (fun y16 => some y16) (fun v15 => some (1 : Int32)))
set_option maxHeartbeats 4000000 in
set_option maxRecDepth 100000 in
theorem c_X12_isCalm {l : Launch} {D : va_G} {g : Nat → ClassId} {fu : Nat} {o_q0 o_q1 o_q2 o_q3 o_q4 o_q5 o_q6 o_q7 o_q8 o_q9 o_q10 o_q11 o_q12 o_q13 o_q14 o_q15 o_q16 o_q17 o_q18 o_q19 o_q20 o_q21 o_q22 : Nat} {o_code : Int32} {o_tape : (Nat → Int32)} {o_size : (Nat → Int32)} {o_fault : (Nat → Int32)} {o_faultPlace : (Nat → Int32)} {o_many : (Nat → Int32)} {o_towns : (Nat → Int32)} {o_weeks : (Nat → Int32)} {o_logs : (Nat → Int32)} {o_reached : Int32} {o_length : Int32} {o_begins : Int32} {o_sort : Int32} {o_value : Int32} {o_word : Int64} {o_wrongAt : Int32} {o_laterFault : Int32} {o_laterPlace : Int32} {o_told : (Nat → Int32)} {o_read : (Nat → Int32)} {o_farOne : Int32} {o_good : Int32} {o_town : Int32} {o_people : Int32} {o_when : Int32} {o_sat : Int32} {o_quiet : Int32} {o_vain : Int32} {o_lent : Int32} {o_forgiven : Int32} {o_sundays : Int32} {o_purse : (Nat → Int32)} {o_beside : (Nat → Int32)} {o_debts : (Nat → Int32)} {o_sitting : (Nat → Int32)} {o_visited : (Nat → Int32)} {o_week : Int32} {o_heaps : (Nat → Int32)} {o_taken : (Nat → Int32)} {o_best : (Nat → Int32)} {o_more : (Nat → Int32)} {o_firstOne : Int32} {o_log : Int32} {o_fitting : (Nat → Int32)} {o_found : Int32} {o_seed : Int32} {o_row : (Nat → Int32)} {o_saved : (Nat → Int32)} {r : Int32} (hf : f_X12_isCalm fu o_towns o_town o_people o_row = some r) : Rd l D (gy g) yX12_isCalm cX12_isCalm 3 (some .boolean) 2 [.ref o_q0] (wMd g o_q0 o_q1 o_q2 o_q3 o_q4 o_q5 o_q6 o_q7 o_q8 o_q9 o_q10 o_q11 o_q12 o_q13 o_q14 o_q15 o_q16 o_q17 o_q18 o_q19 o_q20 o_q21 o_q22 o_code o_tape o_size o_fault o_faultPlace o_many o_towns o_weeks o_logs o_reached o_length o_begins o_sort o_value o_word o_wrongAt o_laterFault o_laterPlace o_told o_read o_farOne o_good o_town o_people o_when o_sat o_quiet o_vain o_lent o_forgiven o_sundays o_purse o_beside o_debts o_sitting o_visited o_week o_heaps o_taken o_best o_more o_firstOne o_log o_fitting o_found o_seed o_row o_saved) (some (.int r)) := by
  refine Rd.ofZ (by decide) (Nat.le_of_ble_eq_true rfl) ?_
  intro p e s m args below meth c Q S hK hP hret ls hl
  have hl : lv_has ls 3 [(0, .ref o_q0)] := hl
  refine lv_iconst (v := 0) S.1 S.2.1 dX12_isCalm_0 ic_0 ?_
  refine lv_istore_n (lv' := [(1, .int (0 : Int32)), (0, .ref o_q0)]) S.1 S.2.1 dX12_isCalm_1 rfl hl (by decide) rfl (fun ls hl => ?_)
  obtain ⟨x3, hf_, hk3⟩ := bnd_e hf
  have hE3 : ∀ (v15 : Unit), x3 = .inr v15 → ∀ (ls : Array Slot), lv_has ls 3 [] → W p l e (rmD 2) s m args below meth c s.heap [] 0 0 Q (F0 m 66 ls []) := by
    intro v15 e_ ls hl
    subst e_
    have hf := cse_r hk3
    refine lv_iconst (v := 1) S.1 S.2.1 dX12_isCalm_66 ic_1 ?_
    have e_ := Option.some.inj hf
    subst e_
    exact hret _ _ (Or.inr rfl) dX12_isCalm_67
  refine lp_ind (P := fun (s2 : Int32) => ∀ (ls : Array Slot), lv_has ls 3 [(0, .ref o_q0), (1, .int s2)] → W p l e (rmD 2) s m args below meth c s.heap [] 0 0 Q (F0 m 2 ls [])) ?_ _ _ hf_ _ (lv_sub hl [1, 0] rfl)
  intro s2 x4 hf hI3 hR3 ls hl
  refine lv_iload_n S.1 S.2.1 dX12_isCalm_2 rfl (lv_at hl 1 rfl) ?_
  refine lv_aload_n S.1 S.2.1 dX12_isCalm_3 rfl (lv_at hl 0 rfl) ?_
  refine gfX12_230 S hK hP 0 rfl rfl dX12_isCalm_4 ?_
  refine lv_icmp_ge (tgt := 66) S.1 S.2.1 dX12_isCalm_7 (by decide) (fun c_ => ?_) (fun c_ => ?_)
  · have hf := it_p c_ hf
    have e_ := hR3 _ (Option.some.inj hf).symm
    exact hE3 _ e_.symm _ (lv_sub hl [] rfl)
  · have hf := it_n c_ hf
    refine lv_iconst (v := 0) S.1 S.2.1 dX12_isCalm_10 ic_0 ?_
    refine lv_istore_n (lv' := [(2, .int (0 : Int32)), (0, .ref o_q0), (1, .int s2)]) S.1 S.2.1 dX12_isCalm_11 rfl hl (by decide) rfl (fun ls hl => ?_)
    obtain ⟨x7, hf_, hk7⟩ := bnd_e hf
    have hE7 : ∀ (v13 : Unit), x7 = .inr v13 → ∀ (ls : Array Slot), lv_has ls 3 [(0, .ref o_q0), (1, .int s2)] → W p l e (rmD 2) s m args below meth c s.heap [] 0 0 Q (F0 m 60 ls []) := by
      intro v13 e_ ls hl
      subst e_
      have hf := cse_r hk7
      refine q_iinc (w := 1) (lv' := [(1, .int (s2 + 1)), (0, .ref o_q0)]) S dX12_isCalm_60 hl (k := 1) rfl ic_1 (by decide) rfl (fun ls hl => ?_)
      refine lv_goto (tgt := 2) S.1 S.2.1 dX12_isCalm_63 (by decide) ?_
      exact hI3 _ (Option.some.inj hf).symm _ (lv_sub hl [1, 0] rfl)
    refine lp_ind (P := fun (s6 : Int32) => ∀ (ls : Array Slot), lv_has ls 3 [(0, .ref o_q0), (1, .int s2), (2, .int s6)] → W p l e (rmD 2) s m args below meth c s.heap [] 0 0 Q (F0 m 12 ls [])) ?_ _ _ hf_ _ (lv_sub hl [1, 2, 0] rfl)
    intro s6 x8 hf hI7 hR7 ls hl
    refine lv_iload_n S.1 S.2.1 dX12_isCalm_12 rfl (lv_at hl 2 rfl) ?_
    refine lv_iload_n S.1 S.2.1 dX12_isCalm_13 rfl (lv_at hl 1 rfl) ?_
    refine lv_icmp_ge (tgt := 60) S.1 S.2.1 dX12_isCalm_14 (by decide) (fun c_ => ?_) (fun c_ => ?_)
    · have hf := it_p c_ hf
      have e_ := hR7 _ (Option.some.inj hf).symm
      exact hE7 _ e_.symm _ (lv_sub hl [0, 1] rfl)
    · have hf := it_n c_ hf
      refine lv_aload_n S.1 S.2.1 dX12_isCalm_17 rfl (lv_at hl 0 rfl) ?_
      refine gfX12_71 S hK hP 0 rfl rfl dX12_isCalm_18 ?_
      refine lv_iload_n S.1 S.2.1 dX12_isCalm_21 rfl (lv_at hl 1 rfl) ?_
      obtain ⟨x9, hx9, hf⟩ := bnd_e hf
      refine q_iald S hK hP 21 0 rfl rfl hx9 dX12_isCalm_22 ?_
      refine lv_aload_n S.1 S.2.1 dX12_isCalm_23 rfl (lv_at hl 0 rfl) ?_
      refine gfX12_71 S hK hP 0 rfl rfl dX12_isCalm_24 ?_
      refine lv_iload_n S.1 S.2.1 dX12_isCalm_27 rfl (lv_at hl 2 rfl) ?_
      obtain ⟨x10, hx10, hf⟩ := bnd_e hf
      refine q_iald S hK hP 21 0 rfl rfl hx10 dX12_isCalm_28 ?_
      refine lv_icmp_ne (tgt := 54) S.1 S.2.1 dX12_isCalm_29 (by decide) (fun c_ => ?_) (fun c_ => ?_)
      · have hf := it_n c_ hf
        refine q_iinc (w := 1) (lv' := [(2, .int (s6 + 1)), (0, .ref o_q0), (1, .int s2)]) S dX12_isCalm_54 hl (k := 2) rfl ic_1 (by decide) rfl (fun ls hl => ?_)
        refine lv_goto (tgt := 12) S.1 S.2.1 dX12_isCalm_57 (by decide) ?_
        exact hI7 _ (Option.some.inj hf).symm _ (lv_sub hl [1, 2, 0] rfl)
      · have hf := it_p c_ hf
        refine lv_aload_n S.1 S.2.1 dX12_isCalm_32 rfl (lv_at hl 0 rfl) ?_
        refine gfX12_71 S hK hP 0 rfl rfl dX12_isCalm_33 ?_
        refine lv_iload_n S.1 S.2.1 dX12_isCalm_36 rfl (lv_at hl 1 rfl) ?_
        obtain ⟨x11, hx11, hf⟩ := bnd_e hf
        refine q_iald S hK hP 21 0 rfl rfl hx11 dX12_isCalm_37 ?_
        refine lv_bipush (v := 6) S.1 S.2.1 dX12_isCalm_38 bp_6 ?_
        refine lv_icmp_ge (tgt := 54) S.1 S.2.1 dX12_isCalm_40 (by decide) (fun c_ => ?_) (fun c_ => ?_)
        · have hf := it_p c_ hf
          refine q_iinc (w := 1) (lv' := [(2, .int (s6 + 1)), (0, .ref o_q0), (1, .int s2)]) S dX12_isCalm_54 hl (k := 2) rfl ic_1 (by decide) rfl (fun ls hl => ?_)
          refine lv_goto (tgt := 12) S.1 S.2.1 dX12_isCalm_57 (by decide) ?_
          exact hI7 _ (Option.some.inj hf).symm _ (lv_sub hl [1, 2, 0] rfl)
        · have hf := it_n c_ hf
          refine lv_aload_n S.1 S.2.1 dX12_isCalm_43 rfl (lv_at hl 0 rfl) ?_
          refine lv_iload_n S.1 S.2.1 dX12_isCalm_44 rfl (lv_at hl 1 rfl) ?_
          refine lv_iload_n S.1 S.2.1 dX12_isCalm_45 rfl (lv_at hl 2 rfl) ?_
          obtain ⟨x12, hx12, hf⟩ := bnd_e hf
          refine Rd.cV (c_X12_hates hx12) S hK hP 0 10 rfl rfl kVX12_275 rfl hl.1 [] rfl (Nat.le_of_ble_eq_true rfl) ⟨(Nat.le_of_ble_eq_true rfl), (Nat.le_of_ble_eq_true rfl)⟩ ⟨(Nat.zero_le _), (Nat.zero_le _)⟩ dX12_isCalm_46 ?_
          refine lv_if_eq (tgt := 54) S.1 S.2.1 dX12_isCalm_49 (by decide) (fun c_ => ?_) (fun c_ => ?_)
          · have hf := it_p c_ hf
            refine q_iinc (w := 1) (lv' := [(2, .int (s6 + 1)), (0, .ref o_q0), (1, .int s2)]) S dX12_isCalm_54 hl (k := 2) rfl ic_1 (by decide) rfl (fun ls hl => ?_)
            refine lv_goto (tgt := 12) S.1 S.2.1 dX12_isCalm_57 (by decide) ?_
            exact hI7 _ (Option.some.inj hf).symm _ (lv_sub hl [1, 2, 0] rfl)
          · have hf := it_n c_ hf
            refine lv_iconst (v := 0) S.1 S.2.1 dX12_isCalm_52 ic_0 ?_
            have e_ := hR7 _ (Option.some.inj hf).symm
            subst e_
            have hf := cse_l hk7
            have e_ := hR3 _ (Option.some.inj hf).symm
            subst e_
            have hf := cse_l hk3
            have e_ := Option.some.inj hf
            subst e_
            exact hret _ _ (Or.inl rfl) dX12_isCalm_53
def f_X12_tables_L42 (fu : Nat) (o_towns : (Nat → Int32)) (p2 : Int32) (x1 : Int32 × Int32 × Int32 × Int32 × Int32 × Int32 × Int32 × Int32 × Int32 × Int32 × (Nat → Int32) × (Nat → Int32) × (Nat → Int32) × (Nat → Int32) × (Nat → Int32)) (s4 : Int32 × (Nat → Int32)) (s8 : Int32 × (Nat → Int32)) : Option ((Int32 × (Nat → Int32)) ⊕ ((Int32 × Int32 × Int32 × Int32 × Int32 × Int32 × Int32 × Int32 × Int32 × Int32 × Int32 × (Nat → Int32) × (Nat → Int32) × (Nat → Int32) × (Nat → Int32) × (Nat → Int32) × (Nat → Int32)) ⊕ ((Nat → Int32)))) := bnd (α := Int32) (f_X12_rowsOf fu x1.2.2.1 s4.1) (fun x11 => if x11 ≤ s8.1 then some (.inr (.inr s8.2)) else bnd (α := (Nat → Int32)) (f_X12_layRow fu x1.2.2.1 s8.2 s8.1 s4.1) (fun x12 => bnd (α := Int32) (f_X12_isCalm fu o_towns x1.2.1 x1.2.2.1 x12) (fun x13 => if x13 = 0 then some (.inl ((s8.1 + 1), x12)) else if p2 = (-1 : Int32) then some (.inr (.inl (s4.1, (0 : Int32), x1.2.1, x1.2.2.1, x1.2.2.2.1, x1.2.2.2.2.1, x1.2.2.2.2.2.1, x1.2.2.2.2.2.2.1, x1.2.2.2.2.2.2.2.1, x1.2.2.2.2.2.2.2.2.1, x1.2.2.2.2.2.2.2.2.2.1, x1.2.2.2.2.2.2.2.2.2.2.1, x1.2.2.2.2.2.2.2.2.2.2.2.1, x1.2.2.2.2.2.2.2.2.2.2.2.2.1, x1.2.2.2.2.2.2.2.2.2.2.2.2.2.1, x1.2.2.2.2.2.2.2.2.2.2.2.2.2.2, x12))) else bnd (α := Int32) (rdi 6 x12 p2) (fun x14 => some (.inr (.inl (x14, (0 : Int32), x1.2.1, x1.2.2.1, x1.2.2.2.1, x1.2.2.2.2.1, x1.2.2.2.2.2.1, x1.2.2.2.2.2.2.1, x1.2.2.2.2.2.2.2.1, x1.2.2.2.2.2.2.2.2.1, x1.2.2.2.2.2.2.2.2.2.1, x1.2.2.2.2.2.2.2.2.2.2.1, x1.2.2.2.2.2.2.2.2.2.2.2.1, x1.2.2.2.2.2.2.2.2.2.2.2.2.1, x1.2.2.2.2.2.2.2.2.2.2.2.2.2.1, x1.2.2.2.2.2.2.2.2.2.2.2.2.2.2, x12)))))))
def f_X12_tables_L31 (fu : Nat) (o_towns : (Nat → Int32)) (p2 : Int32) (x1 : Int32 × Int32 × Int32 × Int32 × Int32 × Int32 × Int32 × Int32 × Int32 × Int32 × (Nat → Int32) × (Nat → Int32) × (Nat → Int32) × (Nat → Int32) × (Nat → Int32)) (s4 : Int32 × (Nat → Int32)) : Option ((Int32 × (Nat → Int32)) ⊕ ((Int32 × Int32 × Int32 × Int32 × Int32 × Int32 × Int32 × Int32 × Int32 × Int32 × Int32 × (Nat → Int32) × (Nat → Int32) × (Nat → Int32) × (Nat → Int32) × (Nat → Int32) × (Nat → Int32)) ⊕ ((Nat → Int32)))) := if x1.2.2.1 < s4.1 then some (.inr (.inr s4.2)) else bnd (α := (Int32 × Int32 × Int32 × Int32 × Int32 × Int32 × Int32 × Int32 × Int32 × Int32 × Int32 × (Nat → Int32) × (Nat → Int32) × (Nat → Int32) × (Nat → Int32) × (Nat → Int32) × (Nat → Int32)) ⊕ ((Nat → Int32))) (lp (f_X12_tables_L42 fu o_towns p2 x1 s4) fu ((0 : Int32), s4.2)) (fun x9 => cse x9 (fun y16 => some (.inr (.inl y16))) (fun v15 => some (.inl ((s4.1 + 1), v15))))
def f_X12_tables (fu : Nat) (o_code : Int32) (o_many : (Nat → Int32)) (o_towns : (Nat → Int32)) (o_town : Int32) (o_people : Int32) (o_when : Int32) (o_sat : Int32) (o_quiet : Int32) (o_vain : Int32) (o_lent : Int32) (o_forgiven : Int32) (o_sundays : Int32) (o_purse : (Nat → Int32)) (o_beside : (Nat → Int32)) (o_debts : (Nat → Int32)) (o_sitting : (Nat → Int32)) (o_visited : (Nat → Int32)) (o_row : (Nat → Int32)) (p1 : Int32) (p2 : Int32) : Option (Int32 × Int32 × Int32 × Int32 × Int32 × Int32 × Int32 × Int32 × Int32 × Int32 × Int32 × (Nat → Int32) × (Nat → Int32) × (Nat → Int32) × (Nat → Int32) × (Nat → Int32) × (Nat → Int32)) := bnd (α := Int32 × Int32 × Int32 × Int32 × Int32 × Int32 × Int32 × Int32 × Int32 × Int32 × (Nat → Int32) × (Nat → Int32) × (Nat → Int32) × (Nat → Int32) × (Nat → Int32)) (f_X12_hand fu o_many o_towns o_town o_people o_when o_sat o_quiet o_vain o_lent o_forgiven o_sundays o_purse o_beside o_debts o_sitting o_visited p1) (fun x1 => if x1.1 = 0 then some ((-1 : Int32), (0 : Int32), x1.2.1, x1.2.2.1, x1.2.2.2.1, x1.2.2.2.2.1, x1.2.2.2.2.2.1, x1.2.2.2.2.2.2.1, x1.2.2.2.2.2.2.2.1, x1.2.2.2.2.2.2.2.2.1, x1.2.2.2.2.2.2.2.2.2.1, x1.2.2.2.2.2.2.2.2.2.2.1, x1.2.2.2.2.2.2.2.2.2.2.2.1, x1.2.2.2.2.2.2.2.2.2.2.2.2.1, x1.2.2.2.2.2.2.2.2.2.2.2.2.2.1, x1.2.2.2.2.2.2.2.2.2.2.2.2.2.2, o_row) else bnd (α := Int32) (f_X12_in fu p2 (-1 : Int32) (x1.2.2.1 - (1 : Int32))) (fun x2 => if x2 = 0 then some ((-1 : Int32), (0 : Int32), x1.2.1, x1.2.2.1, x1.2.2.2.1, x1.2.2.2.2.1, x1.2.2.2.2.2.1, x1.2.2.2.2.2.2.1, x1.2.2.2.2.2.2.2.1, x1.2.2.2.2.2.2.2.2.1, x1.2.2.2.2.2.2.2.2.2.1, x1.2.2.2.2.2.2.2.2.2.2.1, x1.2.2.2.2.2.2.2.2.2.2.2.1, x1.2.2.2.2.2.2.2.2.2.2.2.2.1, x1.2.2.2.2.2.2.2.2.2.2.2.2.2.1, x1.2.2.2.2.2.2.2.2.2.2.2.2.2.2, o_row) else bnd (α := (Int32 × Int32 × Int32 × Int32 × Int32 × Int32 × Int32 × Int32 × Int32 × Int32 × Int32 × (Nat → Int32) × (Nat → Int32) × (Nat → Int32) × (Nat → Int32) × (Nat → Int32) × (Nat → Int32)) ⊕ ((Nat → Int32))) (lp (f_X12_tables_L31 fu o_towns p2 x1) fu ((1 : Int32), o_row)) (fun x5 => cse x5 (fun y18 => some y18) (fun v17 => some ((0 : Int32), (0 : Int32), x1.2.1, x1.2.2.1, x1.2.2.2.1, x1.2.2.2.2.1, x1.2.2.2.2.2.1, x1.2.2.2.2.2.2.1, x1.2.2.2.2.2.2.2.1, x1.2.2.2.2.2.2.2.2.1, x1.2.2.2.2.2.2.2.2.2.1, x1.2.2.2.2.2.2.2.2.2.2.1, x1.2.2.2.2.2.2.2.2.2.2.2.1, x1.2.2.2.2.2.2.2.2.2.2.2.2.1, x1.2.2.2.2.2.2.2.2.2.2.2.2.2.1, x1.2.2.2.2.2.2.2.2.2.2.2.2.2.2, v17)))))
set_option maxHeartbeats 4000000 in
set_option maxRecDepth 100000 in
theorem c_X12_tables {l : Launch} {D : va_G} {g : Nat → ClassId} {fu : Nat} {o_q0 o_q1 o_q2 o_q3 o_q4 o_q5 o_q6 o_q7 o_q8 o_q9 o_q10 o_q11 o_q12 o_q13 o_q14 o_q15 o_q16 o_q17 o_q18 o_q19 o_q20 o_q21 o_q22 : Nat} {o_code : Int32} {o_tape : (Nat → Int32)} {o_size : (Nat → Int32)} {o_fault : (Nat → Int32)} {o_faultPlace : (Nat → Int32)} {o_many : (Nat → Int32)} {o_towns : (Nat → Int32)} {o_weeks : (Nat → Int32)} {o_logs : (Nat → Int32)} {o_reached : Int32} {o_length : Int32} {o_begins : Int32} {o_sort : Int32} {o_value : Int32} {o_word : Int64} {o_wrongAt : Int32} {o_laterFault : Int32} {o_laterPlace : Int32} {o_told : (Nat → Int32)} {o_read : (Nat → Int32)} {o_farOne : Int32} {o_good : Int32} {o_town : Int32} {o_people : Int32} {o_when : Int32} {o_sat : Int32} {o_quiet : Int32} {o_vain : Int32} {o_lent : Int32} {o_forgiven : Int32} {o_sundays : Int32} {o_purse : (Nat → Int32)} {o_beside : (Nat → Int32)} {o_debts : (Nat → Int32)} {o_sitting : (Nat → Int32)} {o_visited : (Nat → Int32)} {o_week : Int32} {o_heaps : (Nat → Int32)} {o_taken : (Nat → Int32)} {o_best : (Nat → Int32)} {o_more : (Nat → Int32)} {o_firstOne : Int32} {o_log : Int32} {o_fitting : (Nat → Int32)} {o_found : Int32} {o_seed : Int32} {o_row : (Nat → Int32)} {o_saved : (Nat → Int32)} {p1 : Int32} {p2 : Int32} {r : Int32 × Int32 × Int32 × Int32 × Int32 × Int32 × Int32 × Int32 × Int32 × Int32 × Int32 × (Nat → Int32) × (Nat → Int32) × (Nat → Int32) × (Nat → Int32) × (Nat → Int32) × (Nat → Int32)} (hf : f_X12_tables fu o_code o_many o_towns o_town o_people o_when o_sat o_quiet o_vain o_lent o_forgiven o_sundays o_purse o_beside o_debts o_sitting o_visited o_row p1 p2 = some r) : Wr l D (gy g) yX12_tables cX12_tables 5 (some .int) 3 [.ref o_q0, .int p1, .int p2] (wMd g o_q0 o_q1 o_q2 o_q3 o_q4 o_q5 o_q6 o_q7 o_q8 o_q9 o_q10 o_q11 o_q12 o_q13 o_q14 o_q15 o_q16 o_q17 o_q18 o_q19 o_q20 o_q21 o_q22 o_code o_tape o_size o_fault o_faultPlace o_many o_towns o_weeks o_logs o_reached o_length o_begins o_sort o_value o_word o_wrongAt o_laterFault o_laterPlace o_told o_read o_farOne o_good o_town o_people o_when o_sat o_quiet o_vain o_lent o_forgiven o_sundays o_purse o_beside o_debts o_sitting o_visited o_week o_heaps o_taken o_best o_more o_firstOne o_log o_fitting o_found o_seed o_row o_saved) (wMd g o_q0 o_q1 o_q2 o_q3 o_q4 o_q5 o_q6 o_q7 o_q8 o_q9 o_q10 o_q11 o_q12 o_q13 o_q14 o_q15 o_q16 o_q17 o_q18 o_q19 o_q20 o_q21 o_q22 r.2.1 o_tape o_size o_fault o_faultPlace o_many o_towns o_weeks o_logs o_reached o_length o_begins o_sort o_value o_word o_wrongAt o_laterFault o_laterPlace o_told o_read o_farOne o_good r.2.2.1 r.2.2.2.1 r.2.2.2.2.1 r.2.2.2.2.2.1 r.2.2.2.2.2.2.1 r.2.2.2.2.2.2.2.1 r.2.2.2.2.2.2.2.2.1 r.2.2.2.2.2.2.2.2.2.1 r.2.2.2.2.2.2.2.2.2.2.1 r.2.2.2.2.2.2.2.2.2.2.2.1 r.2.2.2.2.2.2.2.2.2.2.2.2.1 r.2.2.2.2.2.2.2.2.2.2.2.2.2.1 r.2.2.2.2.2.2.2.2.2.2.2.2.2.2.1 r.2.2.2.2.2.2.2.2.2.2.2.2.2.2.2.1 o_week o_heaps o_taken o_best o_more o_firstOne o_log o_fitting o_found o_seed r.2.2.2.2.2.2.2.2.2.2.2.2.2.2.2.2 o_saved) (some (.int r.1)) := by
  refine Wr.ofI (by decide) (Nat.le_of_ble_eq_true rfl) ?_
  intro p e s m args below meth c Q A S hK hA hret ls hl hW
  have hl : lv_has ls 5 [(0, .ref o_q0), (1, .int p1), (2, .int p2)] := hl
  refine lv_aload_n S.1 S.2.1 dX12_tables_0 rfl (lv_at hl 0 rfl) ?_
  refine lv_iconst (v := 0) S.1 S.2.1 dX12_tables_1 ic_0 ?_
  refine pfX12_78 (ws2 := (wMd g o_q0 o_q1 o_q2 o_q3 o_q4 o_q5 o_q6 o_q7 o_q8 o_q9 o_q10 o_q11 o_q12 o_q13 o_q14 o_q15 o_q16 o_q17 o_q18 o_q19 o_q20 o_q21 o_q22 (0 : Int32) o_tape o_size o_fault o_faultPlace o_many o_towns o_weeks o_logs o_reached o_length o_begins o_sort o_value o_word o_wrongAt o_laterFault o_laterPlace o_told o_read o_farOne o_good o_town o_people o_when o_sat o_quiet o_vain o_lent o_forgiven o_sundays o_purse o_beside o_debts o_sitting o_visited o_week o_heaps o_taken o_best o_more o_firstOne o_log o_fitting o_found o_seed o_row o_saved)) S hK hW 0 rfl rfl rfl (Nat.le_of_ble_eq_true rfl) rfl dX12_tables_2 (fun H locs hW => ?_)
  refine lv_aload_n S.1 S.2.1 dX12_tables_5 rfl (lv_at hl 0 rfl) ?_
  refine lv_iload_n S.1 S.2.1 dX12_tables_6 rfl (lv_at hl 1 rfl) ?_
  obtain ⟨x1, hx1, hf⟩ := bnd_e hf
  refine Wr.goW (Wr.runV (c_X12_hand hx1) S hK hW.1 hW.2.1 0 10 rfl rfl kVX12_257 rfl hl.1 [] rfl (Nat.le_of_ble_eq_true rfl) ⟨(Nat.le_of_ble_eq_true rfl), (Nat.le_of_ble_eq_true rfl)⟩ ⟨(Nat.zero_le _), (Nat.zero_le _)⟩ dX12_tables_7) hW hA (fun H locs hW => ?_)
  refine lv_if_eq (tgt := 27) S.1 S.2.1 dX12_tables_10 (by decide) (fun c_ => ?_) (fun c_ => ?_)
  · have hf := it_p c_ hf
    refine lv_iconst (v := (-1)) S.1 S.2.1 dX12_tables_27 ic_m1 ?_
    have e_ := Option.some.inj hf
    subst e_
    exact hret _ _ _ _ dX12_tables_28 hW
  · have hf := it_n c_ hf
    refine lv_iload_n S.1 S.2.1 dX12_tables_13 rfl (lv_at hl 2 rfl) ?_
    refine lv_iconst (v := (-1)) S.1 S.2.1 dX12_tables_14 ic_m1 ?_
    refine lv_aload_n S.1 S.2.1 dX12_tables_15 rfl (lv_at hl 0 rfl) ?_
    refine gfX12_230 S hK hW.1 0 rfl rfl dX12_tables_16 ?_
    refine lv_iconst (v := 1) S.1 S.2.1 dX12_tables_19 ic_1 ?_
    refine lv_isub S.1 S.2.1 dX12_tables_20 ?_
    obtain ⟨x2, hx2, hf⟩ := bnd_e hf
    refine Rd.cS (c_X12_in hx2) S hK va_P.nil kSX12_90 rfl hl.1 [] rfl (Nat.le_of_ble_eq_true rfl) ⟨(Nat.le_of_ble_eq_true rfl), (Nat.le_of_ble_eq_true rfl)⟩ ⟨(Nat.zero_le _), (Nat.zero_le _)⟩ dX12_tables_21 ?_
    refine lv_if_ne (tgt := 29) S.1 S.2.1 dX12_tables_24 (by decide) (fun c_ => ?_) (fun c_ => ?_)
    · have hf := it_n c_ hf
      refine lv_iconst (v := 1) S.1 S.2.1 dX12_tables_29 ic_1 ?_
      refine lv_istore_n (lv' := [(3, .int (1 : Int32)), (0, .ref o_q0), (1, .int p1), (2, .int p2)]) S.1 S.2.1 dX12_tables_30 rfl hl (by decide) rfl (fun ls hl => ?_)
      obtain ⟨x5, hf_, hk5⟩ := bnd_e hf
      have hE5 : ∀ (v17 : (Nat → Int32)), x5 = .inr v17 → ∀ (ls : Array Slot) (H : Heap) (locs : List Loc), lv_has ls 5 [] → St A s.heap D (wMd g o_q0 o_q1 o_q2 o_q3 o_q4 o_q5 o_q6 o_q7 o_q8 o_q9 o_q10 o_q11 o_q12 o_q13 o_q14 o_q15 o_q16 o_q17 o_q18 o_q19 o_q20 o_q21 o_q22 (0 : Int32) o_tape o_size o_fault o_faultPlace o_many o_towns o_weeks o_logs o_reached o_length o_begins o_sort o_value o_word o_wrongAt o_laterFault o_laterPlace o_told o_read o_farOne o_good x1.2.1 x1.2.2.1 x1.2.2.2.1 x1.2.2.2.2.1 x1.2.2.2.2.2.1 x1.2.2.2.2.2.2.1 x1.2.2.2.2.2.2.2.1 x1.2.2.2.2.2.2.2.2.1 x1.2.2.2.2.2.2.2.2.2.1 x1.2.2.2.2.2.2.2.2.2.2.1 x1.2.2.2.2.2.2.2.2.2.2.2.1 x1.2.2.2.2.2.2.2.2.2.2.2.2.1 x1.2.2.2.2.2.2.2.2.2.2.2.2.2.1 x1.2.2.2.2.2.2.2.2.2.2.2.2.2.2 o_week o_heaps o_taken o_best o_more o_firstOne o_log o_fitting o_found o_seed v17 o_saved) H locs → W p l e (rmD 3) s m args below meth c H locs 0 0 Q (F0 m 94 ls []) := by
        intro v17 e_ ls H locs hl hW
        subst e_
        have hf := cse_r hk5
        refine lv_iconst (v := 0) S.1 S.2.1 dX12_tables_94 ic_0 ?_
        have e_ := Option.some.inj hf
        subst e_
        exact hret _ _ _ _ dX12_tables_95 hW
      refine lp_ind (P := fun (s4 : Int32 × (Nat → Int32)) => ∀ (ls : Array Slot) (H : Heap) (locs : List Loc), lv_has ls 5 [(0, .ref o_q0), (2, .int p2), (3, .int s4.1)] → St A s.heap D (wMd g o_q0 o_q1 o_q2 o_q3 o_q4 o_q5 o_q6 o_q7 o_q8 o_q9 o_q10 o_q11 o_q12 o_q13 o_q14 o_q15 o_q16 o_q17 o_q18 o_q19 o_q20 o_q21 o_q22 (0 : Int32) o_tape o_size o_fault o_faultPlace o_many o_towns o_weeks o_logs o_reached o_length o_begins o_sort o_value o_word o_wrongAt o_laterFault o_laterPlace o_told o_read o_farOne o_good x1.2.1 x1.2.2.1 x1.2.2.2.1 x1.2.2.2.2.1 x1.2.2.2.2.2.1 x1.2.2.2.2.2.2.1 x1.2.2.2.2.2.2.2.1 x1.2.2.2.2.2.2.2.2.1 x1.2.2.2.2.2.2.2.2.2.1 x1.2.2.2.2.2.2.2.2.2.2.1 x1.2.2.2.2.2.2.2.2.2.2.2.1 x1.2.2.2.2.2.2.2.2.2.2.2.2.1 x1.2.2.2.2.2.2.2.2.2.2.2.2.2.1 x1.2.2.2.2.2.2.2.2.2.2.2.2.2.2 o_week o_heaps o_taken o_best o_more o_firstOne o_log o_fitting o_found o_seed s4.2 o_saved) H locs → W p l e (rmD 3) s m args below meth c H locs 0 0 Q (F0 m 31 ls [])) ?_ _ _ hf_ _ _ _ (lv_sub hl [1, 3, 0] rfl) hW
      intro s4 x6 hf hI5 hR5 ls H locs hl hW
      refine lv_iload_n S.1 S.2.1 dX12_tables_31 rfl (lv_at hl 2 rfl) ?_
      refine lv_aload_n S.1 S.2.1 dX12_tables_32 rfl (lv_at hl 0 rfl) ?_
      refine gfX12_230 S hK hW.1 0 rfl rfl dX12_tables_33 ?_
      refine lv_icmp_gt (tgt := 94) S.1 S.2.1 dX12_tables_36 (by decide) (fun c_ => ?_) (fun c_ => ?_)
      · have hf := it_p c_ hf
        have e_ := hR5 _ (Option.some.inj hf).symm
        exact hE5 _ e_.symm _ _ _ (lv_sub hl [] rfl) hW
      · have hf := it_n c_ hf
        refine lv_iconst (v := 0) S.1 S.2.1 dX12_tables_39 ic_0 ?_
        refine lv_istore (lv' := [(4, .int (0 : Int32)), (0, .ref o_q0), (2, .int p2), (3, .int s4.1)]) S.1 S.2.1 dX12_tables_40 hl (by decide) rfl (fun ls hl => ?_)
        obtain ⟨x9, hf_, hk9⟩ := bnd_e hf
        have hE9 : ∀ (v15 : (Nat → Int32)), x9 = .inr v15 → ∀ (ls : Array Slot) (H : Heap) (locs : List Loc), lv_has ls 5 [(0, .ref o_q0), (2, .int p2), (3, .int s4.1)] → St A s.heap D (wMd g o_q0 o_q1 o_q2 o_q3 o_q4 o_q5 o_q6 o_q7 o_q8 o_q9 o_q10 o_q11 o_q12 o_q13 o_q14 o_q15 o_q16 o_q17 o_q18 o_q19 o_q20 o_q21 o_q22 (0 : Int32) o_tape o_size o_fault o_faultPlace o_many o_towns o_weeks o_logs o_reached o_length o_begins o_sort o_value o_word o_wrongAt o_laterFault o_laterPlace o_told o_read o_farOne o_good x1.2.1 x1.2.2.1 x1.2.2.2.1 x1.2.2.2.2.1 x1.2.2.2.2.2.1 x1.2.2.2.2.2.2.1 x1.2.2.2.2.2.2.2.1 x1.2.2.2.2.2.2.2.2.1 x1.2.2.2.2.2.2.2.2.2.1 x1.2.2.2.2.2.2.2.2.2.2.1 x1.2.2.2.2.2.2.2.2.2.2.2.1 x1.2.2.2.2.2.2.2.2.2.2.2.2.1 x1.2.2.2.2.2.2.2.2.2.2.2.2.2.1 x1.2.2.2.2.2.2.2.2.2.2.2.2.2.2 o_week o_heaps o_taken o_best o_more o_firstOne o_log o_fitting o_found o_seed v15 o_saved) H locs → W p l e (rmD 3) s m args below meth c H locs 0 0 Q (F0 m 88 ls []) := by
          intro v15 e_ ls H locs hl hW
          subst e_
          have hf := cse_r hk9
          refine q_iinc (w := 1) (lv' := [(3, .int (s4.1 + 1)), (0, .ref o_q0), (2, .int p2)]) S dX12_tables_88 hl (k := 2) rfl ic_1 (by decide) rfl (fun ls hl => ?_)
          refine lv_goto (tgt := 31) S.1 S.2.1 dX12_tables_91 (by decide) ?_
          exact hI5 _ (Option.some.inj hf).symm _ _ _ (lv_sub hl [1, 2, 0] rfl) hW
        refine lp_ind (P := fun (s8 : Int32 × (Nat → Int32)) => ∀ (ls : Array Slot) (H : Heap) (locs : List Loc), lv_has ls 5 [(0, .ref o_q0), (2, .int p2), (3, .int s4.1), (4, .int s8.1)] → St A s.heap D (wMd g o_q0 o_q1 o_q2 o_q3 o_q4 o_q5 o_q6 o_q7 o_q8 o_q9 o_q10 o_q11 o_q12 o_q13 o_q14 o_q15 o_q16 o_q17 o_q18 o_q19 o_q20 o_q21 o_q22 (0 : Int32) o_tape o_size o_fault o_faultPlace o_many o_towns o_weeks o_logs o_reached o_length o_begins o_sort o_value o_word o_wrongAt o_laterFault o_laterPlace o_told o_read o_farOne o_good x1.2.1 x1.2.2.1 x1.2.2.2.1 x1.2.2.2.2.1 x1.2.2.2.2.2.1 x1.2.2.2.2.2.2.1 x1.2.2.2.2.2.2.2.1 x1.2.2.2.2.2.2.2.2.1 x1.2.2.2.2.2.2.2.2.2.1 x1.2.2.2.2.2.2.2.2.2.2.1 x1.2.2.2.2.2.2.2.2.2.2.2.1 x1.2.2.2.2.2.2.2.2.2.2.2.2.1 x1.2.2.2.2.2.2.2.2.2.2.2.2.2.1 x1.2.2.2.2.2.2.2.2.2.2.2.2.2.2 o_week o_heaps o_taken o_best o_more o_firstOne o_log o_fitting o_found o_seed s8.2 o_saved) H locs → W p l e (rmD 3) s m args below meth c H locs 0 0 Q (F0 m 42 ls [])) ?_ _ _ hf_ _ _ _ (lv_sub hl [1, 2, 3, 0] rfl) hW
        intro s8 x10 hf hI9 hR9 ls H locs hl hW
        refine lv_iload S.1 S.2.1 dX12_tables_42 (lv_at hl 3 rfl) ?_
        refine lv_aload_n S.1 S.2.1 dX12_tables_44 rfl (lv_at hl 0 rfl) ?_
        refine lv_iload_n S.1 S.2.1 dX12_tables_45 rfl (lv_at hl 2 rfl) ?_
        obtain ⟨x11, hx11, hf⟩ := bnd_e hf
        refine Rd.cV (c_X12_rowsOf hx11) S hK hW.1 0 10 rfl rfl kVX12_476 rfl hl.1 [.int s8.1] rfl (Nat.le_of_ble_eq_true rfl) ⟨(Nat.le_of_ble_eq_true rfl), (Nat.le_of_ble_eq_true rfl)⟩ ⟨(Nat.zero_le _), (Nat.zero_le _)⟩ dX12_tables_46 ?_
        refine lv_icmp_ge (tgt := 88) S.1 S.2.1 dX12_tables_49 (by decide) (fun c_ => ?_) (fun c_ => ?_)
        · have hf := it_p c_ hf
          have e_ := hR9 _ (Option.some.inj hf).symm
          exact hE9 _ e_.symm _ _ _ (lv_sub hl [0, 1, 2] rfl) hW
        · have hf := it_n c_ hf
          refine lv_aload_n S.1 S.2.1 dX12_tables_52 rfl (lv_at hl 0 rfl) ?_
          refine lv_iload S.1 S.2.1 dX12_tables_53 (lv_at hl 3 rfl) ?_
          refine lv_iload_n S.1 S.2.1 dX12_tables_55 rfl (lv_at hl 2 rfl) ?_
          obtain ⟨x12, hx12, hf⟩ := bnd_e hf
          refine Wr.goW (Wr.runV (c_X12_layRow hx12) S hK hW.1 hW.2.1 0 10 rfl rfl kVX12_479 rfl hl.1 [] rfl (Nat.le_of_ble_eq_true rfl) ⟨(Nat.le_of_ble_eq_true rfl), (Nat.le_of_ble_eq_true rfl)⟩ ⟨(Nat.zero_le _), (Nat.zero_le _)⟩ dX12_tables_56) hW hA (fun H locs hW => ?_)
          refine lv_aload_n S.1 S.2.1 dX12_tables_59 rfl (lv_at hl 0 rfl) ?_
          obtain ⟨x13, hx13, hf⟩ := bnd_e hf
          refine Rd.cV (c_X12_isCalm hx13) S hK hW.1 0 10 rfl rfl kVX12_482 rfl hl.1 [] rfl (Nat.le_of_ble_eq_true rfl) ⟨(Nat.le_of_ble_eq_true rfl), (Nat.le_of_ble_eq_true rfl)⟩ ⟨(Nat.zero_le _), (Nat.zero_le _)⟩ dX12_tables_60 ?_
          refine lv_if_eq (tgt := 82) S.1 S.2.1 dX12_tables_63 (by decide) (fun c_ => ?_) (fun c_ => ?_)
          · have hf := it_p c_ hf
            refine q_iinc (w := 1) (lv' := [(4, .int (s8.1 + 1)), (0, .ref o_q0), (2, .int p2), (3, .int s4.1)]) S dX12_tables_82 hl (k := 3) rfl ic_1 (by decide) rfl (fun ls hl => ?_)
            refine lv_goto (tgt := 42) S.1 S.2.1 dX12_tables_85 (by decide) ?_
            exact hI9 _ (Option.some.inj hf).symm _ _ _ (lv_sub hl [1, 2, 3, 0] rfl) hW
          · have hf := it_n c_ hf
            refine lv_iload_n S.1 S.2.1 dX12_tables_66 rfl (lv_at hl 1 rfl) ?_
            refine lv_iconst (v := (-1)) S.1 S.2.1 dX12_tables_67 ic_m1 ?_
            refine lv_icmp_ne (tgt := 75) S.1 S.2.1 dX12_tables_68 (by decide) (fun c_ => ?_) (fun c_ => ?_)
            · have hf := it_n c_ hf
              refine lv_aload_n S.1 S.2.1 dX12_tables_75 rfl (lv_at hl 0 rfl) ?_
              refine gfX12_71 S hK hW.1 0 rfl rfl dX12_tables_76 ?_
              refine lv_iload_n S.1 S.2.1 dX12_tables_79 rfl (lv_at hl 1 rfl) ?_
              obtain ⟨x14, hx14, hf⟩ := bnd_e hf
              refine q_iald S hK hW.1 21 0 rfl rfl hx14 dX12_tables_80 ?_
              have e_ := hR9 _ (Option.some.inj hf).symm
              subst e_
              have hf := cse_l hk9
              have e_ := hR5 _ (Option.some.inj hf).symm
              subst e_
              have hf := cse_l hk5
              have e_ := Option.some.inj hf
              subst e_
              exact hret _ _ _ _ dX12_tables_81 hW
            · have hf := it_p c_ hf
              refine lv_iload_n S.1 S.2.1 dX12_tables_71 rfl (lv_at hl 2 rfl) ?_
              refine lv_goto (tgt := 81) S.1 S.2.1 dX12_tables_72 (by decide) ?_
              have e_ := hR9 _ (Option.some.inj hf).symm
              subst e_
              have hf := cse_l hk9
              have e_ := hR5 _ (Option.some.inj hf).symm
              subst e_
              have hf := cse_l hk5
              have e_ := Option.some.inj hf
              subst e_
              exact hret _ _ _ _ dX12_tables_81 hW
    · have hf := it_p c_ hf
      refine lv_iconst (v := (-1)) S.1 S.2.1 dX12_tables_27 ic_m1 ?_
      have e_ := Option.some.inj hf
      subst e_
      exact hret _ _ _ _ dX12_tables_28 hW
def f_X12_sittingBy_L4 (fu : Nat) (o_people : Int32) (o_debts : (Nat → Int32)) (o_row : (Nat → Int32)) (s2 : Int32 × Int32) : Option ((Int32 × Int32) ⊕ ((Int32) ⊕ (Int32))) := if o_people ≤ s2.2 then some (.inr (.inr s2.1)) else bnd (α := Int32) (rdi 6 o_row s2.2) (fun x5 => if (6 : Int32) ≤ x5 then some (.inl (s2.1, (s2.2 + 1))) else bnd (α := Int32) (rdi 6 o_row s2.2) (fun x6 => if o_people ≤ x6 then some (.inr (.inl (-1 : Int32))) else bnd (α := Int32) (rdi 6 o_row s2.2) (fun x7 => bnd (α := Int32) (f_X12_owed fu o_debts x7 s2.2) (fun x8 => if x8 = 0 then some (.inr (.inl (-1 : Int32))) else some (.inl ((s2.1 + 1), (s2.2 + 1)))))))
def f_X12_sittingBy (fu : Nat) (o_towns : (Nat → Int32)) (o_town : Int32) (o_people : Int32) (o_debts : (Nat → Int32)) (o_row : (Nat → Int32)) : Option (Int32) := bnd (α := (Int32) ⊕ (Int32)) (lp (f_X12_sittingBy_L4 fu o_people o_debts o_row) fu ((0 : Int32), (0 : Int32))) (fun x3 => cse x3 (fun y11 => some y11) (fun v9 => bnd (α := Int32) (f_X12_isCalm fu o_towns o_town o_people o_row) (fun x10 => if x10 = 0 then some (-1 : Int32) else some v9)))
set_option maxHeartbeats 4000000 in
set_option maxRecDepth 100000 in
theorem c_X12_sittingBy {l : Launch} {D : va_G} {g : Nat → ClassId} {fu : Nat} {o_q0 o_q1 o_q2 o_q3 o_q4 o_q5 o_q6 o_q7 o_q8 o_q9 o_q10 o_q11 o_q12 o_q13 o_q14 o_q15 o_q16 o_q17 o_q18 o_q19 o_q20 o_q21 o_q22 : Nat} {o_code : Int32} {o_tape : (Nat → Int32)} {o_size : (Nat → Int32)} {o_fault : (Nat → Int32)} {o_faultPlace : (Nat → Int32)} {o_many : (Nat → Int32)} {o_towns : (Nat → Int32)} {o_weeks : (Nat → Int32)} {o_logs : (Nat → Int32)} {o_reached : Int32} {o_length : Int32} {o_begins : Int32} {o_sort : Int32} {o_value : Int32} {o_word : Int64} {o_wrongAt : Int32} {o_laterFault : Int32} {o_laterPlace : Int32} {o_told : (Nat → Int32)} {o_read : (Nat → Int32)} {o_farOne : Int32} {o_good : Int32} {o_town : Int32} {o_people : Int32} {o_when : Int32} {o_sat : Int32} {o_quiet : Int32} {o_vain : Int32} {o_lent : Int32} {o_forgiven : Int32} {o_sundays : Int32} {o_purse : (Nat → Int32)} {o_beside : (Nat → Int32)} {o_debts : (Nat → Int32)} {o_sitting : (Nat → Int32)} {o_visited : (Nat → Int32)} {o_week : Int32} {o_heaps : (Nat → Int32)} {o_taken : (Nat → Int32)} {o_best : (Nat → Int32)} {o_more : (Nat → Int32)} {o_firstOne : Int32} {o_log : Int32} {o_fitting : (Nat → Int32)} {o_found : Int32} {o_seed : Int32} {o_row : (Nat → Int32)} {o_saved : (Nat → Int32)} {r : Int32} (hf : f_X12_sittingBy fu o_towns o_town o_people o_debts o_row = some r) : Rd l D (gy g) yX12_sittingBy cX12_sittingBy 3 (some .int) 3 [.ref o_q0] (wMd g o_q0 o_q1 o_q2 o_q3 o_q4 o_q5 o_q6 o_q7 o_q8 o_q9 o_q10 o_q11 o_q12 o_q13 o_q14 o_q15 o_q16 o_q17 o_q18 o_q19 o_q20 o_q21 o_q22 o_code o_tape o_size o_fault o_faultPlace o_many o_towns o_weeks o_logs o_reached o_length o_begins o_sort o_value o_word o_wrongAt o_laterFault o_laterPlace o_told o_read o_farOne o_good o_town o_people o_when o_sat o_quiet o_vain o_lent o_forgiven o_sundays o_purse o_beside o_debts o_sitting o_visited o_week o_heaps o_taken o_best o_more o_firstOne o_log o_fitting o_found o_seed o_row o_saved) (some (.int r)) := by
  refine Rd.ofI (by decide) (Nat.le_of_ble_eq_true rfl) ?_
  intro p e s m args below meth c Q S hK hP hret ls hl
  have hl : lv_has ls 3 [(0, .ref o_q0)] := hl
  refine lv_iconst (v := 0) S.1 S.2.1 dX12_sittingBy_0 ic_0 ?_
  refine lv_istore_n (lv' := [(1, .int (0 : Int32)), (0, .ref o_q0)]) S.1 S.2.1 dX12_sittingBy_1 rfl hl (by decide) rfl (fun ls hl => ?_)
  refine lv_iconst (v := 0) S.1 S.2.1 dX12_sittingBy_2 ic_0 ?_
  refine lv_istore_n (lv' := [(2, .int (0 : Int32)), (1, .int (0 : Int32)), (0, .ref o_q0)]) S.1 S.2.1 dX12_sittingBy_3 rfl hl (by decide) rfl (fun ls hl => ?_)
  obtain ⟨x3, hf_, hk3⟩ := bnd_e hf
  have hE3 : ∀ (v9 : Int32), x3 = .inr v9 → ∀ (ls : Array Slot), lv_has ls 3 [(0, .ref o_q0), (1, .int v9)] → W p l e (rmD 3) s m args below meth c s.heap [] 0 0 Q (F0 m 61 ls []) := by
    intro v9 e_ ls hl
    subst e_
    have hf := cse_r hk3
    refine lv_aload_n S.1 S.2.1 dX12_sittingBy_61 rfl (lv_at hl 0 rfl) ?_
    obtain ⟨x10, hx10, hf⟩ := bnd_e hf
    refine Rd.cV (c_X12_isCalm hx10) S hK hP 0 10 rfl rfl kVX12_482 rfl hl.1 [] rfl (Nat.le_of_ble_eq_true rfl) ⟨(Nat.le_of_ble_eq_true rfl), (Nat.le_of_ble_eq_true rfl)⟩ ⟨(Nat.zero_le _), (Nat.zero_le _)⟩ dX12_sittingBy_62 ?_
    refine lv_if_eq (tgt := 72) S.1 S.2.1 dX12_sittingBy_65 (by decide) (fun c_ => ?_) (fun c_ => ?_)
    · have hf := it_p c_ hf
      refine lv_iconst (v := (-1)) S.1 S.2.1 dX12_sittingBy_72 ic_m1 ?_
      have e_ := Option.some.inj hf
      subst e_
      exact hret _ _ dX12_sittingBy_73
    · have hf := it_n c_ hf
      refine lv_iload_n S.1 S.2.1 dX12_sittingBy_68 rfl (lv_at hl 1 rfl) ?_
      refine lv_goto (tgt := 73) S.1 S.2.1 dX12_sittingBy_69 (by decide) ?_
      have e_ := Option.some.inj hf
      subst e_
      exact hret _ _ dX12_sittingBy_73
  refine lp_ind (P := fun (s2 : Int32 × Int32) => ∀ (ls : Array Slot), lv_has ls 3 [(0, .ref o_q0), (1, .int s2.1), (2, .int s2.2)] → W p l e (rmD 3) s m args below meth c s.heap [] 0 0 Q (F0 m 4 ls [])) ?_ _ _ hf_ _ (lv_sub hl [2, 1, 0] rfl)
  intro s2 x4 hf hI3 hR3 ls hl
  refine lv_iload_n S.1 S.2.1 dX12_sittingBy_4 rfl (lv_at hl 2 rfl) ?_
  refine lv_aload_n S.1 S.2.1 dX12_sittingBy_5 rfl (lv_at hl 0 rfl) ?_
  refine gfX12_230 S hK hP 0 rfl rfl dX12_sittingBy_6 ?_
  refine lv_icmp_ge (tgt := 61) S.1 S.2.1 dX12_sittingBy_9 (by decide) (fun c_ => ?_) (fun c_ => ?_)
  · have hf := it_p c_ hf
    have e_ := hR3 _ (Option.some.inj hf).symm
    exact hE3 _ e_.symm _ (lv_sub hl [0, 1] rfl)
  · have hf := it_n c_ hf
    refine lv_aload_n S.1 S.2.1 dX12_sittingBy_12 rfl (lv_at hl 0 rfl) ?_
    refine gfX12_71 S hK hP 0 rfl rfl dX12_sittingBy_13 ?_
    refine lv_iload_n S.1 S.2.1 dX12_sittingBy_16 rfl (lv_at hl 2 rfl) ?_
    obtain ⟨x5, hx5, hf⟩ := bnd_e hf
    refine q_iald S hK hP 21 0 rfl rfl hx5 dX12_sittingBy_17 ?_
    refine lv_bipush (v := 6) S.1 S.2.1 dX12_sittingBy_18 bp_6 ?_
    refine lv_icmp_ge (tgt := 55) S.1 S.2.1 dX12_sittingBy_20 (by decide) (fun c_ => ?_) (fun c_ => ?_)
    · have hf := it_p c_ hf
      refine q_iinc (w := 1) (lv' := [(2, .int (s2.2 + 1)), (0, .ref o_q0), (1, .int s2.1)]) S dX12_sittingBy_55 hl (k := 2) rfl ic_1 (by decide) rfl (fun ls hl => ?_)
      refine lv_goto (tgt := 4) S.1 S.2.1 dX12_sittingBy_58 (by decide) ?_
      exact hI3 _ (Option.some.inj hf).symm _ (lv_sub hl [1, 2, 0] rfl)
    · have hf := it_n c_ hf
      refine lv_aload_n S.1 S.2.1 dX12_sittingBy_23 rfl (lv_at hl 0 rfl) ?_
      refine gfX12_71 S hK hP 0 rfl rfl dX12_sittingBy_24 ?_
      refine lv_iload_n S.1 S.2.1 dX12_sittingBy_27 rfl (lv_at hl 2 rfl) ?_
      obtain ⟨x6, hx6, hf⟩ := bnd_e hf
      refine q_iald S hK hP 21 0 rfl rfl hx6 dX12_sittingBy_28 ?_
      refine lv_aload_n S.1 S.2.1 dX12_sittingBy_29 rfl (lv_at hl 0 rfl) ?_
      refine gfX12_230 S hK hP 0 rfl rfl dX12_sittingBy_30 ?_
      refine lv_icmp_ge (tgt := 50) S.1 S.2.1 dX12_sittingBy_33 (by decide) (fun c_ => ?_) (fun c_ => ?_)
      · have hf := it_p c_ hf
        refine lv_iconst (v := (-1)) S.1 S.2.1 dX12_sittingBy_50 ic_m1 ?_
        have e_ := hR3 _ (Option.some.inj hf).symm
        subst e_
        have hf := cse_l hk3
        have e_ := Option.some.inj hf
        subst e_
        exact hret _ _ dX12_sittingBy_51
      · have hf := it_n c_ hf
        refine lv_aload_n S.1 S.2.1 dX12_sittingBy_36 rfl (lv_at hl 0 rfl) ?_
        refine lv_aload_n S.1 S.2.1 dX12_sittingBy_37 rfl (lv_at hl 0 rfl) ?_
        refine gfX12_71 S hK hP 0 rfl rfl dX12_sittingBy_38 ?_
        refine lv_iload_n S.1 S.2.1 dX12_sittingBy_41 rfl (lv_at hl 2 rfl) ?_
        obtain ⟨x7, hx7, hf⟩ := bnd_e hf
        refine q_iald S hK hP 21 0 rfl rfl hx7 dX12_sittingBy_42 ?_
        refine lv_iload_n S.1 S.2.1 dX12_sittingBy_43 rfl (lv_at hl 2 rfl) ?_
        obtain ⟨x8, hx8, hf⟩ := bnd_e hf
        refine Rd.cV (c_X12_owed hx8) S hK hP 0 10 rfl rfl kVX12_254 rfl hl.1 [] rfl (Nat.le_of_ble_eq_true rfl) ⟨(Nat.le_of_ble_eq_true rfl), (Nat.le_of_ble_eq_true rfl)⟩ ⟨(Nat.zero_le _), (Nat.zero_le _)⟩ dX12_sittingBy_44 ?_
        refine lv_if_ne (tgt := 52) S.1 S.2.1 dX12_sittingBy_47 (by decide) (fun c_ => ?_) (fun c_ => ?_)
        · have hf := it_n c_ hf
          refine q_iinc (w := 1) (lv' := [(1, .int (s2.1 + 1)), (0, .ref o_q0), (2, .int s2.2)]) S dX12_sittingBy_52 hl (k := 1) rfl ic_1 (by decide) rfl (fun ls hl => ?_)
          refine q_iinc (w := 1) (lv' := [(2, .int (s2.2 + 1)), (1, .int (s2.1 + 1)), (0, .ref o_q0)]) S dX12_sittingBy_55 hl (k := 2) rfl ic_1 (by decide) rfl (fun ls hl => ?_)
          refine lv_goto (tgt := 4) S.1 S.2.1 dX12_sittingBy_58 (by decide) ?_
          exact hI3 _ (Option.some.inj hf).symm _ (lv_sub hl [2, 1, 0] rfl)
        · have hf := it_p c_ hf
          refine lv_iconst (v := (-1)) S.1 S.2.1 dX12_sittingBy_50 ic_m1 ?_
          have e_ := hR3 _ (Option.some.inj hf).symm
          subst e_
          have hf := cse_l hk3
          have e_ := Option.some.inj hf
          subst e_
          exact hret _ _ dX12_sittingBy_51
def f_X12_hour_L45 (fu : Nat) (o_towns : (Nat → Int32)) (x1 : Int32 × Int32 × Int32 × Int32 × Int32 × Int32 × Int32 × Int32 × Int32 × Int32 × (Nat → Int32) × (Nat → Int32) × (Nat → Int32) × (Nat → Int32) × (Nat → Int32)) (x3 : Int32) (s5 : Int32 × Int32 × Int32 × (Nat → Int32)) : Option ((Int32 × Int32 × Int32 × (Nat → Int32)) ⊕ (Int32 × Int32 × (Nat → Int32))) := if x3 ≤ s5.2.2.1 then some (.inr (s5.1, s5.2.1, s5.2.2.2)) else bnd (α := (Nat → Int32)) (f_X12_layRow fu x1.2.2.1 s5.2.2.2 s5.2.2.1 (7 : Int32)) (fun x8 => bnd (α := Int32) (f_X12_sittingBy fu o_towns x1.2.1 x1.2.2.1 x1.2.2.2.2.2.2.2.2.2.2.2.2.1 x8) (fun x9 => if x9 ≤ s5.1 then bnd (α := Int32) (f_X12_greater fu s5.1 x9) (fun x10 => some (.inl (x10, s5.2.1, (s5.2.2.1 + 1), x8))) else bnd (α := Int32) (f_X12_greater fu s5.1 x9) (fun x11 => some (.inl (x11, s5.2.2.1, (s5.2.2.1 + 1), x8)))))
def f_X12_hour (fu : Nat) (o_code : Int32) (o_many : (Nat → Int32)) (o_towns : (Nat → Int32)) (o_town : Int32) (o_people : Int32) (o_when : Int32) (o_sat : Int32) (o_quiet : Int32) (o_vain : Int32) (o_lent : Int32) (o_forgiven : Int32) (o_sundays : Int32) (o_purse : (Nat → Int32)) (o_beside : (Nat → Int32)) (o_debts : (Nat → Int32)) (o_sitting : (Nat → Int32)) (o_visited : (Nat → Int32)) (o_row : (Nat → Int32)) (p1 : Int32) (p2 : Int32) : Option (Int32 × Int32 × Int32 × Int32 × Int32 × Int32 × Int32 × Int32 × Int32 × Int32 × Int32 × (Nat → Int32) × (Nat → Int32) × (Nat → Int32) × (Nat → Int32) × (Nat → Int32) × (Nat → Int32)) := bnd (α := Int32 × Int32 × Int32 × Int32 × Int32 × Int32 × Int32 × Int32 × Int32 × Int32 × (Nat → Int32) × (Nat → Int32) × (Nat → Int32) × (Nat → Int32) × (Nat → Int32)) (f_X12_hand fu o_many o_towns o_town o_people o_when o_sat o_quiet o_vain o_lent o_forgiven o_sundays o_purse o_beside o_debts o_sitting o_visited p1) (fun x1 => if x1.1 = 0 then some ((-1 : Int32), (0 : Int32), x1.2.1, x1.2.2.1, x1.2.2.2.1, x1.2.2.2.2.1, x1.2.2.2.2.2.1, x1.2.2.2.2.2.2.1, x1.2.2.2.2.2.2.2.1, x1.2.2.2.2.2.2.2.2.1, x1.2.2.2.2.2.2.2.2.2.1, x1.2.2.2.2.2.2.2.2.2.2.1, x1.2.2.2.2.2.2.2.2.2.2.2.1, x1.2.2.2.2.2.2.2.2.2.2.2.2.1, x1.2.2.2.2.2.2.2.2.2.2.2.2.2.1, x1.2.2.2.2.2.2.2.2.2.2.2.2.2.2, o_row) else bnd (α := Int32) (f_X12_in fu p2 (-1 : Int32) (x1.2.2.1 - (1 : Int32))) (fun x2 => if x2 = 0 then some ((-1 : Int32), (0 : Int32), x1.2.1, x1.2.2.1, x1.2.2.2.1, x1.2.2.2.2.1, x1.2.2.2.2.2.1, x1.2.2.2.2.2.2.1, x1.2.2.2.2.2.2.2.1, x1.2.2.2.2.2.2.2.2.1, x1.2.2.2.2.2.2.2.2.2.1, x1.2.2.2.2.2.2.2.2.2.2.1, x1.2.2.2.2.2.2.2.2.2.2.2.1, x1.2.2.2.2.2.2.2.2.2.2.2.2.1, x1.2.2.2.2.2.2.2.2.2.2.2.2.2.1, x1.2.2.2.2.2.2.2.2.2.2.2.2.2.2, o_row) else bnd (α := Int32) (f_X12_rowsOf fu x1.2.2.1 (7 : Int32)) (fun x3 => bnd (α := Int32 × Int32 × (Nat → Int32)) (lp (f_X12_hour_L45 fu o_towns x1 x3) fu ((-1 : Int32), (0 : Int32), (0 : Int32), o_row)) (fun v12 => bnd (α := (Nat → Int32)) (f_X12_layRow fu x1.2.2.1 v12.2.2 v12.2.1 (7 : Int32)) (fun x13 => if p2 = (-1 : Int32) then some (v12.1, (0 : Int32), x1.2.1, x1.2.2.1, x1.2.2.2.1, x1.2.2.2.2.1, x1.2.2.2.2.2.1, x1.2.2.2.2.2.2.1, x1.2.2.2.2.2.2.2.1, x1.2.2.2.2.2.2.2.2.1, x1.2.2.2.2.2.2.2.2.2.1, x1.2.2.2.2.2.2.2.2.2.2.1, x1.2.2.2.2.2.2.2.2.2.2.2.1, x1.2.2.2.2.2.2.2.2.2.2.2.2.1, x1.2.2.2.2.2.2.2.2.2.2.2.2.2.1, x1.2.2.2.2.2.2.2.2.2.2.2.2.2.2, x13) else bnd (α := Int32) (rdi 6 x13 p2) (fun x14 => some (x14, (0 : Int32), x1.2.1, x1.2.2.1, x1.2.2.2.1, x1.2.2.2.2.1, x1.2.2.2.2.2.1, x1.2.2.2.2.2.2.1, x1.2.2.2.2.2.2.2.1, x1.2.2.2.2.2.2.2.2.1, x1.2.2.2.2.2.2.2.2.2.1, x1.2.2.2.2.2.2.2.2.2.2.1, x1.2.2.2.2.2.2.2.2.2.2.2.1, x1.2.2.2.2.2.2.2.2.2.2.2.2.1, x1.2.2.2.2.2.2.2.2.2.2.2.2.2.1, x1.2.2.2.2.2.2.2.2.2.2.2.2.2.2, x13)))))))
set_option maxHeartbeats 4000000 in
set_option maxRecDepth 100000 in
theorem c_X12_hour {l : Launch} {D : va_G} {g : Nat → ClassId} {fu : Nat} {o_q0 o_q1 o_q2 o_q3 o_q4 o_q5 o_q6 o_q7 o_q8 o_q9 o_q10 o_q11 o_q12 o_q13 o_q14 o_q15 o_q16 o_q17 o_q18 o_q19 o_q20 o_q21 o_q22 : Nat} {o_code : Int32} {o_tape : (Nat → Int32)} {o_size : (Nat → Int32)} {o_fault : (Nat → Int32)} {o_faultPlace : (Nat → Int32)} {o_many : (Nat → Int32)} {o_towns : (Nat → Int32)} {o_weeks : (Nat → Int32)} {o_logs : (Nat → Int32)} {o_reached : Int32} {o_length : Int32} {o_begins : Int32} {o_sort : Int32} {o_value : Int32} {o_word : Int64} {o_wrongAt : Int32} {o_laterFault : Int32} {o_laterPlace : Int32} {o_told : (Nat → Int32)} {o_read : (Nat → Int32)} {o_farOne : Int32} {o_good : Int32} {o_town : Int32} {o_people : Int32} {o_when : Int32} {o_sat : Int32} {o_quiet : Int32} {o_vain : Int32} {o_lent : Int32} {o_forgiven : Int32} {o_sundays : Int32} {o_purse : (Nat → Int32)} {o_beside : (Nat → Int32)} {o_debts : (Nat → Int32)} {o_sitting : (Nat → Int32)} {o_visited : (Nat → Int32)} {o_week : Int32} {o_heaps : (Nat → Int32)} {o_taken : (Nat → Int32)} {o_best : (Nat → Int32)} {o_more : (Nat → Int32)} {o_firstOne : Int32} {o_log : Int32} {o_fitting : (Nat → Int32)} {o_found : Int32} {o_seed : Int32} {o_row : (Nat → Int32)} {o_saved : (Nat → Int32)} {p1 : Int32} {p2 : Int32} {r : Int32 × Int32 × Int32 × Int32 × Int32 × Int32 × Int32 × Int32 × Int32 × Int32 × Int32 × (Nat → Int32) × (Nat → Int32) × (Nat → Int32) × (Nat → Int32) × (Nat → Int32) × (Nat → Int32)} (hf : f_X12_hour fu o_code o_many o_towns o_town o_people o_when o_sat o_quiet o_vain o_lent o_forgiven o_sundays o_purse o_beside o_debts o_sitting o_visited o_row p1 p2 = some r) : Wr l D (gy g) yX12_hour cX12_hour 8 (some .int) 4 [.ref o_q0, .int p1, .int p2] (wMd g o_q0 o_q1 o_q2 o_q3 o_q4 o_q5 o_q6 o_q7 o_q8 o_q9 o_q10 o_q11 o_q12 o_q13 o_q14 o_q15 o_q16 o_q17 o_q18 o_q19 o_q20 o_q21 o_q22 o_code o_tape o_size o_fault o_faultPlace o_many o_towns o_weeks o_logs o_reached o_length o_begins o_sort o_value o_word o_wrongAt o_laterFault o_laterPlace o_told o_read o_farOne o_good o_town o_people o_when o_sat o_quiet o_vain o_lent o_forgiven o_sundays o_purse o_beside o_debts o_sitting o_visited o_week o_heaps o_taken o_best o_more o_firstOne o_log o_fitting o_found o_seed o_row o_saved) (wMd g o_q0 o_q1 o_q2 o_q3 o_q4 o_q5 o_q6 o_q7 o_q8 o_q9 o_q10 o_q11 o_q12 o_q13 o_q14 o_q15 o_q16 o_q17 o_q18 o_q19 o_q20 o_q21 o_q22 r.2.1 o_tape o_size o_fault o_faultPlace o_many o_towns o_weeks o_logs o_reached o_length o_begins o_sort o_value o_word o_wrongAt o_laterFault o_laterPlace o_told o_read o_farOne o_good r.2.2.1 r.2.2.2.1 r.2.2.2.2.1 r.2.2.2.2.2.1 r.2.2.2.2.2.2.1 r.2.2.2.2.2.2.2.1 r.2.2.2.2.2.2.2.2.1 r.2.2.2.2.2.2.2.2.2.1 r.2.2.2.2.2.2.2.2.2.2.1 r.2.2.2.2.2.2.2.2.2.2.2.1 r.2.2.2.2.2.2.2.2.2.2.2.2.1 r.2.2.2.2.2.2.2.2.2.2.2.2.2.1 r.2.2.2.2.2.2.2.2.2.2.2.2.2.2.1 r.2.2.2.2.2.2.2.2.2.2.2.2.2.2.2.1 o_week o_heaps o_taken o_best o_more o_firstOne o_log o_fitting o_found o_seed r.2.2.2.2.2.2.2.2.2.2.2.2.2.2.2.2 o_saved) (some (.int r.1)) := by
  refine Wr.ofI (by decide) (Nat.le_of_ble_eq_true rfl) ?_
  intro p e s m args below meth c Q A S hK hA hret ls hl hW
  have hl : lv_has ls 8 [(0, .ref o_q0), (1, .int p1), (2, .int p2)] := hl
  refine lv_aload_n S.1 S.2.1 dX12_hour_0 rfl (lv_at hl 0 rfl) ?_
  refine lv_iconst (v := 0) S.1 S.2.1 dX12_hour_1 ic_0 ?_
  refine pfX12_78 (ws2 := (wMd g o_q0 o_q1 o_q2 o_q3 o_q4 o_q5 o_q6 o_q7 o_q8 o_q9 o_q10 o_q11 o_q12 o_q13 o_q14 o_q15 o_q16 o_q17 o_q18 o_q19 o_q20 o_q21 o_q22 (0 : Int32) o_tape o_size o_fault o_faultPlace o_many o_towns o_weeks o_logs o_reached o_length o_begins o_sort o_value o_word o_wrongAt o_laterFault o_laterPlace o_told o_read o_farOne o_good o_town o_people o_when o_sat o_quiet o_vain o_lent o_forgiven o_sundays o_purse o_beside o_debts o_sitting o_visited o_week o_heaps o_taken o_best o_more o_firstOne o_log o_fitting o_found o_seed o_row o_saved)) S hK hW 0 rfl rfl rfl (Nat.le_of_ble_eq_true rfl) rfl dX12_hour_2 (fun H locs hW => ?_)
  refine lv_aload_n S.1 S.2.1 dX12_hour_5 rfl (lv_at hl 0 rfl) ?_
  refine lv_iload_n S.1 S.2.1 dX12_hour_6 rfl (lv_at hl 1 rfl) ?_
  obtain ⟨x1, hx1, hf⟩ := bnd_e hf
  refine Wr.goW (Wr.runV (c_X12_hand hx1) S hK hW.1 hW.2.1 0 10 rfl rfl kVX12_257 rfl hl.1 [] rfl (Nat.le_of_ble_eq_true rfl) ⟨(Nat.le_of_ble_eq_true rfl), (Nat.le_of_ble_eq_true rfl)⟩ ⟨(Nat.zero_le _), (Nat.zero_le _)⟩ dX12_hour_7) hW hA (fun H locs hW => ?_)
  refine lv_if_eq (tgt := 27) S.1 S.2.1 dX12_hour_10 (by decide) (fun c_ => ?_) (fun c_ => ?_)
  · have hf := it_p c_ hf
    refine lv_iconst (v := (-1)) S.1 S.2.1 dX12_hour_27 ic_m1 ?_
    have e_ := Option.some.inj hf
    subst e_
    exact hret _ _ _ _ dX12_hour_28 hW
  · have hf := it_n c_ hf
    refine lv_iload_n S.1 S.2.1 dX12_hour_13 rfl (lv_at hl 2 rfl) ?_
    refine lv_iconst (v := (-1)) S.1 S.2.1 dX12_hour_14 ic_m1 ?_
    refine lv_aload_n S.1 S.2.1 dX12_hour_15 rfl (lv_at hl 0 rfl) ?_
    refine gfX12_230 S hK hW.1 0 rfl rfl dX12_hour_16 ?_
    refine lv_iconst (v := 1) S.1 S.2.1 dX12_hour_19 ic_1 ?_
    refine lv_isub S.1 S.2.1 dX12_hour_20 ?_
    obtain ⟨x2, hx2, hf⟩ := bnd_e hf
    refine Rd.cS (c_X12_in hx2) S hK va_P.nil kSX12_90 rfl hl.1 [] rfl (Nat.le_of_ble_eq_true rfl) ⟨(Nat.le_of_ble_eq_true rfl), (Nat.le_of_ble_eq_true rfl)⟩ ⟨(Nat.zero_le _), (Nat.zero_le _)⟩ dX12_hour_21 ?_
    refine lv_if_ne (tgt := 29) S.1 S.2.1 dX12_hour_24 (by decide) (fun c_ => ?_) (fun c_ => ?_)
    · have hf := it_n c_ hf
      refine lv_iconst (v := (-1)) S.1 S.2.1 dX12_hour_29 ic_m1 ?_
      refine lv_istore_n (lv' := [(3, .int (-1 : Int32)), (0, .ref o_q0), (1, .int p1), (2, .int p2)]) S.1 S.2.1 dX12_hour_30 rfl hl (by decide) rfl (fun ls hl => ?_)
      refine lv_iconst (v := 0) S.1 S.2.1 dX12_hour_31 ic_0 ?_
      refine lv_istore (lv' := [(4, .int (0 : Int32)), (3, .int (-1 : Int32)), (0, .ref o_q0), (1, .int p1), (2, .int p2)]) S.1 S.2.1 dX12_hour_32 hl (by decide) rfl (fun ls hl => ?_)
      refine lv_aload_n S.1 S.2.1 dX12_hour_34 rfl (lv_at hl 2 rfl) ?_
      refine lv_bipush (v := 7) S.1 S.2.1 dX12_hour_35 bp_7 ?_
      obtain ⟨x3, hx3, hf⟩ := bnd_e hf
      refine Rd.cV (c_X12_rowsOf hx3) S hK hW.1 0 10 rfl rfl kVX12_476 rfl hl.1 [] rfl (Nat.le_of_ble_eq_true rfl) ⟨(Nat.le_of_ble_eq_true rfl), (Nat.le_of_ble_eq_true rfl)⟩ ⟨(Nat.zero_le _), (Nat.zero_le _)⟩ dX12_hour_37 ?_
      refine lv_istore (lv' := [(5, .int x3), (4, .int (0 : Int32)), (3, .int (-1 : Int32)), (0, .ref o_q0), (1, .int p1), (2, .int p2)]) S.1 S.2.1 dX12_hour_40 hl (by decide) rfl (fun ls hl => ?_)
      refine lv_iconst (v := 0) S.1 S.2.1 dX12_hour_42 ic_0 ?_
      refine lv_istore (lv' := [(6, .int (0 : Int32)), (5, .int x3), (4, .int (0 : Int32)), (3, .int (-1 : Int32)), (0, .ref o_q0), (1, .int p1), (2, .int p2)]) S.1 S.2.1 dX12_hour_43 hl (by decide) rfl (fun ls hl => ?_)
      obtain ⟨x6, hf_, hk6⟩ := bnd_e hf
      have hE6 : ∀ (v12 : Int32 × Int32 × (Nat → Int32)), v12 = x6 → ∀ (ls : Array Slot) (H : Heap) (locs : List Loc), lv_has ls 8 [(0, .ref o_q0), (2, .int p2), (3, .int v12.1), (4, .int v12.2.1)] → St A s.heap D (wMd g o_q0 o_q1 o_q2 o_q3 o_q4 o_q5 o_q6 o_q7 o_q8 o_q9 o_q10 o_q11 o_q12 o_q13 o_q14 o_q15 o_q16 o_q17 o_q18 o_q19 o_q20 o_q21 o_q22 (0 : Int32) o_tape o_size o_fault o_faultPlace o_many o_towns o_weeks o_logs o_reached o_length o_begins o_sort o_value o_word o_wrongAt o_laterFault o_laterPlace o_told o_read o_farOne o_good x1.2.1 x1.2.2.1 x1.2.2.2.1 x1.2.2.2.2.1 x1.2.2.2.2.2.1 x1.2.2.2.2.2.2.1 x1.2.2.2.2.2.2.2.1 x1.2.2.2.2.2.2.2.2.1 x1.2.2.2.2.2.2.2.2.2.1 x1.2.2.2.2.2.2.2.2.2.2.1 x1.2.2.2.2.2.2.2.2.2.2.2.1 x1.2.2.2.2.2.2.2.2.2.2.2.2.1 x1.2.2.2.2.2.2.2.2.2.2.2.2.2.1 x1.2.2.2.2.2.2.2.2.2.2.2.2.2.2 o_week o_heaps o_taken o_best o_more o_firstOne o_log o_fitting o_found o_seed v12.2.2 o_saved) H locs → W p l e (rmD 4) s m args below meth c H locs 0 0 Q (F0 m 94 ls []) := by
        intro v12 e_ ls H locs hl hW
        subst e_
        have hf := hk6
        refine lv_aload_n S.1 S.2.1 dX12_hour_94 rfl (lv_at hl 0 rfl) ?_
        refine lv_iload S.1 S.2.1 dX12_hour_95 (lv_at hl 3 rfl) ?_
        refine lv_bipush (v := 7) S.1 S.2.1 dX12_hour_97 bp_7 ?_
        obtain ⟨x13, hx13, hf⟩ := bnd_e hf
        refine Wr.goW (Wr.runV (c_X12_layRow hx13) S hK hW.1 hW.2.1 0 10 rfl rfl kVX12_479 rfl hl.1 [] rfl (Nat.le_of_ble_eq_true rfl) ⟨(Nat.le_of_ble_eq_true rfl), (Nat.le_of_ble_eq_true rfl)⟩ ⟨(Nat.zero_le _), (Nat.zero_le _)⟩ dX12_hour_99) hW hA (fun H locs hW => ?_)
        refine lv_iload_n S.1 S.2.1 dX12_hour_102 rfl (lv_at hl 1 rfl) ?_
        refine lv_iconst (v := (-1)) S.1 S.2.1 dX12_hour_103 ic_m1 ?_
        refine lv_icmp_ne (tgt := 111) S.1 S.2.1 dX12_hour_104 (by decide) (fun c_ => ?_) (fun c_ => ?_)
        · have hf := it_n c_ hf
          refine lv_aload_n S.1 S.2.1 dX12_hour_111 rfl (lv_at hl 0 rfl) ?_
          refine gfX12_71 S hK hW.1 0 rfl rfl dX12_hour_112 ?_
          refine lv_iload_n S.1 S.2.1 dX12_hour_115 rfl (lv_at hl 1 rfl) ?_
          obtain ⟨x14, hx14, hf⟩ := bnd_e hf
          refine q_iald S hK hW.1 21 0 rfl rfl hx14 dX12_hour_116 ?_
          have e_ := Option.some.inj hf
          subst e_
          exact hret _ _ _ _ dX12_hour_117 hW
        · have hf := it_p c_ hf
          refine lv_iload_n S.1 S.2.1 dX12_hour_107 rfl (lv_at hl 2 rfl) ?_
          refine lv_goto (tgt := 117) S.1 S.2.1 dX12_hour_108 (by decide) ?_
          have e_ := Option.some.inj hf
          subst e_
          exact hret _ _ _ _ dX12_hour_117 hW
      refine lp_ind (P := fun (s5 : Int32 × Int32 × Int32 × (Nat → Int32)) => ∀ (ls : Array Slot) (H : Heap) (locs : List Loc), lv_has ls 8 [(0, .ref o_q0), (2, .int p2), (3, .int s5.1), (4, .int s5.2.1), (5, .int x3), (6, .int s5.2.2.1)] → St A s.heap D (wMd g o_q0 o_q1 o_q2 o_q3 o_q4 o_q5 o_q6 o_q7 o_q8 o_q9 o_q10 o_q11 o_q12 o_q13 o_q14 o_q15 o_q16 o_q17 o_q18 o_q19 o_q20 o_q21 o_q22 (0 : Int32) o_tape o_size o_fault o_faultPlace o_many o_towns o_weeks o_logs o_reached o_length o_begins o_sort o_value o_word o_wrongAt o_laterFault o_laterPlace o_told o_read o_farOne o_good x1.2.1 x1.2.2.1 x1.2.2.2.1 x1.2.2.2.2.1 x1.2.2.2.2.2.1 x1.2.2.2.2.2.2.1 x1.2.2.2.2.2.2.2.1 x1.2.2.2.2.2.2.2.2.1 x1.2.2.2.2.2.2.2.2.2.1 x1.2.2.2.2.2.2.2.2.2.2.1 x1.2.2.2.2.2.2.2.2.2.2.2.1 x1.2.2.2.2.2.2.2.2.2.2.2.2.1 x1.2.2.2.2.2.2.2.2.2.2.2.2.2.1 x1.2.2.2.2.2.2.2.2.2.2.2.2.2.2 o_week o_heaps o_taken o_best o_more o_firstOne o_log o_fitting o_found o_seed s5.2.2.2 o_saved) H locs → W p l e (rmD 4) s m args below meth c H locs 0 0 Q (F0 m 45 ls [])) ?_ _ _ hf_ _ _ _ (lv_sub hl [4, 6, 3, 2, 1, 0] rfl) hW
      intro s5 x7 hf hI6 hR6 ls H locs hl hW
      refine lv_iload S.1 S.2.1 dX12_hour_45 (lv_at hl 5 rfl) ?_
      refine lv_iload S.1 S.2.1 dX12_hour_47 (lv_at hl 4 rfl) ?_
      refine lv_icmp_ge (tgt := 94) S.1 S.2.1 dX12_hour_49 (by decide) (fun c_ => ?_) (fun c_ => ?_)
      · have hf := it_p c_ hf
        have e_ := hR6 _ (Option.some.inj hf).symm
        exact hE6 _ e_ _ _ _ (lv_sub hl [0, 1, 2, 3] rfl) hW
      · have hf := it_n c_ hf
        refine lv_aload_n S.1 S.2.1 dX12_hour_52 rfl (lv_at hl 0 rfl) ?_
        refine lv_iload S.1 S.2.1 dX12_hour_53 (lv_at hl 5 rfl) ?_
        refine lv_bipush (v := 7) S.1 S.2.1 dX12_hour_55 bp_7 ?_
        obtain ⟨x8, hx8, hf⟩ := bnd_e hf
        refine Wr.goW (Wr.runV (c_X12_layRow hx8) S hK hW.1 hW.2.1 0 10 rfl rfl kVX12_479 rfl hl.1 [] rfl (Nat.le_of_ble_eq_true rfl) ⟨(Nat.le_of_ble_eq_true rfl), (Nat.le_of_ble_eq_true rfl)⟩ ⟨(Nat.zero_le _), (Nat.zero_le _)⟩ dX12_hour_57) hW hA (fun H locs hW => ?_)
        refine lv_aload_n S.1 S.2.1 dX12_hour_60 rfl (lv_at hl 0 rfl) ?_
        obtain ⟨x9, hx9, hf⟩ := bnd_e hf
        refine Rd.cV (c_X12_sittingBy hx9) S hK hW.1 0 10 rfl rfl kVX12_485 rfl hl.1 [] rfl (Nat.le_of_ble_eq_true rfl) ⟨(Nat.le_of_ble_eq_true rfl), (Nat.le_of_ble_eq_true rfl)⟩ ⟨(Nat.zero_le _), (Nat.zero_le _)⟩ dX12_hour_61 ?_
        refine lv_istore (lv' := [(7, .int x9), (0, .ref o_q0), (2, .int p2), (3, .int s5.1), (4, .int s5.2.1), (5, .int x3), (6, .int s5.2.2.1)]) S.1 S.2.1 dX12_hour_64 hl (by decide) rfl (fun ls hl => ?_)
        refine lv_iload S.1 S.2.1 dX12_hour_66 (lv_at hl 0 rfl) ?_
        refine lv_iload_n S.1 S.2.1 dX12_hour_68 rfl (lv_at hl 3 rfl) ?_
        refine lv_icmp_le (tgt := 77) S.1 S.2.1 dX12_hour_69 (by decide) (fun c_ => ?_) (fun c_ => ?_)
        · have hf := it_p c_ hf
          refine lv_iload S.1 S.2.1 dX12_hour_77 (lv_at hl 4 rfl) ?_
          refine lv_istore (lv' := [(4, .int s5.2.1), (7, .int x9), (0, .ref o_q0), (2, .int p2), (3, .int s5.1), (5, .int x3), (6, .int s5.2.2.1)]) S.1 S.2.1 dX12_hour_79 hl (by decide) rfl (fun ls hl => ?_)
          refine lv_iload_n S.1 S.2.1 dX12_hour_81 rfl (lv_at hl 4 rfl) ?_
          refine lv_iload S.1 S.2.1 dX12_hour_82 (lv_at hl 1 rfl) ?_
          obtain ⟨x10, hx10, hf⟩ := bnd_e hf
          refine Rd.cS (c_X12_greater hx10) S hK va_P.nil kSX12_171 rfl hl.1 [] rfl (Nat.le_of_ble_eq_true rfl) ⟨(Nat.le_of_ble_eq_true rfl), (Nat.le_of_ble_eq_true rfl)⟩ ⟨(Nat.zero_le _), (Nat.zero_le _)⟩ dX12_hour_84 ?_
          refine lv_istore_n (lv' := [(3, .int x10), (4, .int s5.2.1), (7, .int x9), (0, .ref o_q0), (2, .int p2), (5, .int x3), (6, .int s5.2.2.1)]) S.1 S.2.1 dX12_hour_87 rfl hl (by decide) rfl (fun ls hl => ?_)
          refine q_iinc (w := 1) (lv' := [(6, .int (s5.2.2.1 + 1)), (3, .int x10), (4, .int s5.2.1), (7, .int x9), (0, .ref o_q0), (2, .int p2), (5, .int x3)]) S dX12_hour_88 hl (k := 6) rfl ic_1 (by decide) rfl (fun ls hl => ?_)
          refine lv_goto (tgt := 45) S.1 S.2.1 dX12_hour_91 (by decide) ?_
          exact hI6 _ (Option.some.inj hf).symm _ _ _ (lv_sub hl [4, 5, 1, 2, 6, 0] rfl) hW
        · have hf := it_n c_ hf
          refine lv_iload S.1 S.2.1 dX12_hour_72 (lv_at hl 6 rfl) ?_
          refine lv_goto (tgt := 79) S.1 S.2.1 dX12_hour_74 (by decide) ?_
          refine lv_istore (lv' := [(4, .int s5.2.2.1), (7, .int x9), (0, .ref o_q0), (2, .int p2), (3, .int s5.1), (5, .int x3), (6, .int s5.2.2.1)]) S.1 S.2.1 dX12_hour_79 hl (by decide) rfl (fun ls hl => ?_)
          refine lv_iload_n S.1 S.2.1 dX12_hour_81 rfl (lv_at hl 4 rfl) ?_
          refine lv_iload S.1 S.2.1 dX12_hour_82 (lv_at hl 1 rfl) ?_
          obtain ⟨x11, hx11, hf⟩ := bnd_e hf
          refine Rd.cS (c_X12_greater hx11) S hK va_P.nil kSX12_171 rfl hl.1 [] rfl (Nat.le_of_ble_eq_true rfl) ⟨(Nat.le_of_ble_eq_true rfl), (Nat.le_of_ble_eq_true rfl)⟩ ⟨(Nat.zero_le _), (Nat.zero_le _)⟩ dX12_hour_84 ?_
          refine lv_istore_n (lv' := [(3, .int x11), (4, .int s5.2.2.1), (7, .int x9), (0, .ref o_q0), (2, .int p2), (5, .int x3), (6, .int s5.2.2.1)]) S.1 S.2.1 dX12_hour_87 rfl hl (by decide) rfl (fun ls hl => ?_)
          refine q_iinc (w := 1) (lv' := [(6, .int (s5.2.2.1 + 1)), (3, .int x11), (4, .int s5.2.2.1), (7, .int x9), (0, .ref o_q0), (2, .int p2), (5, .int x3)]) S dX12_hour_88 hl (k := 6) rfl ic_1 (by decide) rfl (fun ls hl => ?_)
          refine lv_goto (tgt := 45) S.1 S.2.1 dX12_hour_91 (by decide) ?_
          exact hI6 _ (Option.some.inj hf).symm _ _ _ (lv_sub hl [4, 5, 1, 2, 6, 0] rfl) hW
    · have hf := it_p c_ hf
      refine lv_iconst (v := (-1)) S.1 S.2.1 dX12_hour_27 ic_m1 ?_
      have e_ := Option.some.inj hf
      subst e_
      exact hret _ _ _ _ dX12_hour_28 hW
def f_X12_grown_L43 (fu : Nat) (p2 : Int32) (p3 : Int32) (s5 : Int32 × Int32) : Option ((Int32 × Int32) ⊕ (Int32)) := if p3 < s5.2 then some (.inr s5.1) else bnd (α := Int32) (f_X12_greater fu (0 : Int32) (s5.1 - p2)) (fun x8 => if (jrm s5.2 (10 : Int32)) = 0 then if x8 ≤ 0 then some (.inl (x8, (s5.2 + 1))) else bnd (α := Int32) (f_X12_lesser fu (99 : Int32) (x8 + (1 : Int32))) (fun x9 => some (.inl (x9, (s5.2 + 1)))) else some (.inl (x8, (s5.2 + 1))))
def f_X12_grown (fu : Nat) (o_code : Int32) (p1 : Int32) (p2 : Int32) (p3 : Int32) : Option (Int32 × Int32) := bnd (α := Int32) (f_X12_in fu p1 (0 : Int32) (99 : Int32)) (fun x1 => if x1 = 0 then some ((-1 : Int32), (0 : Int32)) else bnd (α := Int32) (f_X12_in fu p2 (0 : Int32) (9 : Int32)) (fun x2 => if x2 = 0 then some ((-1 : Int32), (0 : Int32)) else bnd (α := Int32) (f_X12_in fu p3 (0 : Int32) (99 : Int32)) (fun x3 => if x3 = 0 then some ((-1 : Int32), (0 : Int32)) else bnd (α := Int32) (lp (f_X12_grown_L43 fu p2 p3) fu (p1, (1 : Int32))) (fun v10 => some (v10, (0 : Int32))))))
set_option maxHeartbeats 4000000 in
set_option maxRecDepth 100000 in
theorem c_X12_grown {l : Launch} {D : va_G} {g : Nat → ClassId} {fu : Nat} {o_q0 o_q1 o_q2 o_q3 o_q4 o_q5 o_q6 o_q7 o_q8 o_q9 o_q10 o_q11 o_q12 o_q13 o_q14 o_q15 o_q16 o_q17 o_q18 o_q19 o_q20 o_q21 o_q22 : Nat} {o_code : Int32} {o_tape : (Nat → Int32)} {o_size : (Nat → Int32)} {o_fault : (Nat → Int32)} {o_faultPlace : (Nat → Int32)} {o_many : (Nat → Int32)} {o_towns : (Nat → Int32)} {o_weeks : (Nat → Int32)} {o_logs : (Nat → Int32)} {o_reached : Int32} {o_length : Int32} {o_begins : Int32} {o_sort : Int32} {o_value : Int32} {o_word : Int64} {o_wrongAt : Int32} {o_laterFault : Int32} {o_laterPlace : Int32} {o_told : (Nat → Int32)} {o_read : (Nat → Int32)} {o_farOne : Int32} {o_good : Int32} {o_town : Int32} {o_people : Int32} {o_when : Int32} {o_sat : Int32} {o_quiet : Int32} {o_vain : Int32} {o_lent : Int32} {o_forgiven : Int32} {o_sundays : Int32} {o_purse : (Nat → Int32)} {o_beside : (Nat → Int32)} {o_debts : (Nat → Int32)} {o_sitting : (Nat → Int32)} {o_visited : (Nat → Int32)} {o_week : Int32} {o_heaps : (Nat → Int32)} {o_taken : (Nat → Int32)} {o_best : (Nat → Int32)} {o_more : (Nat → Int32)} {o_firstOne : Int32} {o_log : Int32} {o_fitting : (Nat → Int32)} {o_found : Int32} {o_seed : Int32} {o_row : (Nat → Int32)} {o_saved : (Nat → Int32)} {p1 : Int32} {p2 : Int32} {p3 : Int32} {r : Int32 × Int32} (hf : f_X12_grown fu o_code p1 p2 p3 = some r) : Wr l D (gy g) yX12_grown cX12_grown 6 (some .int) 1 [.ref o_q0, .int p1, .int p2, .int p3] (wMd g o_q0 o_q1 o_q2 o_q3 o_q4 o_q5 o_q6 o_q7 o_q8 o_q9 o_q10 o_q11 o_q12 o_q13 o_q14 o_q15 o_q16 o_q17 o_q18 o_q19 o_q20 o_q21 o_q22 o_code o_tape o_size o_fault o_faultPlace o_many o_towns o_weeks o_logs o_reached o_length o_begins o_sort o_value o_word o_wrongAt o_laterFault o_laterPlace o_told o_read o_farOne o_good o_town o_people o_when o_sat o_quiet o_vain o_lent o_forgiven o_sundays o_purse o_beside o_debts o_sitting o_visited o_week o_heaps o_taken o_best o_more o_firstOne o_log o_fitting o_found o_seed o_row o_saved) (wMd g o_q0 o_q1 o_q2 o_q3 o_q4 o_q5 o_q6 o_q7 o_q8 o_q9 o_q10 o_q11 o_q12 o_q13 o_q14 o_q15 o_q16 o_q17 o_q18 o_q19 o_q20 o_q21 o_q22 r.2 o_tape o_size o_fault o_faultPlace o_many o_towns o_weeks o_logs o_reached o_length o_begins o_sort o_value o_word o_wrongAt o_laterFault o_laterPlace o_told o_read o_farOne o_good o_town o_people o_when o_sat o_quiet o_vain o_lent o_forgiven o_sundays o_purse o_beside o_debts o_sitting o_visited o_week o_heaps o_taken o_best o_more o_firstOne o_log o_fitting o_found o_seed o_row o_saved) (some (.int r.1)) := by
  refine Wr.ofI (by decide) (Nat.le_of_ble_eq_true rfl) ?_
  intro p e s m args below meth c Q A S hK hA hret ls hl hW
  have hl : lv_has ls 6 [(0, .ref o_q0), (1, .int p1), (2, .int p2), (3, .int p3)] := hl
  refine lv_aload_n S.1 S.2.1 dX12_grown_0 rfl (lv_at hl 0 rfl) ?_
  refine lv_iconst (v := 0) S.1 S.2.1 dX12_grown_1 ic_0 ?_
  refine pfX12_78 (ws2 := (wMd g o_q0 o_q1 o_q2 o_q3 o_q4 o_q5 o_q6 o_q7 o_q8 o_q9 o_q10 o_q11 o_q12 o_q13 o_q14 o_q15 o_q16 o_q17 o_q18 o_q19 o_q20 o_q21 o_q22 (0 : Int32) o_tape o_size o_fault o_faultPlace o_many o_towns o_weeks o_logs o_reached o_length o_begins o_sort o_value o_word o_wrongAt o_laterFault o_laterPlace o_told o_read o_farOne o_good o_town o_people o_when o_sat o_quiet o_vain o_lent o_forgiven o_sundays o_purse o_beside o_debts o_sitting o_visited o_week o_heaps o_taken o_best o_more o_firstOne o_log o_fitting o_found o_seed o_row o_saved)) S hK hW 0 rfl rfl rfl (Nat.le_of_ble_eq_true rfl) rfl dX12_grown_2 (fun H locs hW => ?_)
  refine lv_iload_n S.1 S.2.1 dX12_grown_5 rfl (lv_at hl 1 rfl) ?_
  refine lv_iconst (v := 0) S.1 S.2.1 dX12_grown_6 ic_0 ?_
  refine lv_bipush (v := 99) S.1 S.2.1 dX12_grown_7 bp_99 ?_
  obtain ⟨x1, hx1, hf⟩ := bnd_e hf
  refine Rd.cS (c_X12_in hx1) S hK va_P.nil kSX12_90 rfl hl.1 [] rfl (Nat.le_of_ble_eq_true rfl) ⟨(Nat.le_of_ble_eq_true rfl), (Nat.le_of_ble_eq_true rfl)⟩ ⟨(Nat.zero_le _), (Nat.zero_le _)⟩ dX12_grown_9 ?_
  refine lv_if_eq (tgt := 35) S.1 S.2.1 dX12_grown_12 (by decide) (fun c_ => ?_) (fun c_ => ?_)
  · have hf := it_p c_ hf
    refine lv_iconst (v := (-1)) S.1 S.2.1 dX12_grown_35 ic_m1 ?_
    have e_ := Option.some.inj hf
    subst e_
    exact hret _ _ _ _ dX12_grown_36 hW
  · have hf := it_n c_ hf
    refine lv_iload_n S.1 S.2.1 dX12_grown_15 rfl (lv_at hl 2 rfl) ?_
    refine lv_iconst (v := 0) S.1 S.2.1 dX12_grown_16 ic_0 ?_
    refine lv_bipush (v := 9) S.1 S.2.1 dX12_grown_17 bp_9 ?_
    obtain ⟨x2, hx2, hf⟩ := bnd_e hf
    refine Rd.cS (c_X12_in hx2) S hK va_P.nil kSX12_90 rfl hl.1 [] rfl (Nat.le_of_ble_eq_true rfl) ⟨(Nat.le_of_ble_eq_true rfl), (Nat.le_of_ble_eq_true rfl)⟩ ⟨(Nat.zero_le _), (Nat.zero_le _)⟩ dX12_grown_19 ?_
    refine lv_if_eq (tgt := 35) S.1 S.2.1 dX12_grown_22 (by decide) (fun c_ => ?_) (fun c_ => ?_)
    · have hf := it_p c_ hf
      refine lv_iconst (v := (-1)) S.1 S.2.1 dX12_grown_35 ic_m1 ?_
      have e_ := Option.some.inj hf
      subst e_
      exact hret _ _ _ _ dX12_grown_36 hW
    · have hf := it_n c_ hf
      refine lv_iload_n S.1 S.2.1 dX12_grown_25 rfl (lv_at hl 3 rfl) ?_
      refine lv_iconst (v := 0) S.1 S.2.1 dX12_grown_26 ic_0 ?_
      refine lv_bipush (v := 99) S.1 S.2.1 dX12_grown_27 bp_99 ?_
      obtain ⟨x3, hx3, hf⟩ := bnd_e hf
      refine Rd.cS (c_X12_in hx3) S hK va_P.nil kSX12_90 rfl hl.1 [] rfl (Nat.le_of_ble_eq_true rfl) ⟨(Nat.le_of_ble_eq_true rfl), (Nat.le_of_ble_eq_true rfl)⟩ ⟨(Nat.zero_le _), (Nat.zero_le _)⟩ dX12_grown_29 ?_
      refine lv_if_ne (tgt := 37) S.1 S.2.1 dX12_grown_32 (by decide) (fun c_ => ?_) (fun c_ => ?_)
      · have hf := it_n c_ hf
        refine lv_iload_n S.1 S.2.1 dX12_grown_37 rfl (lv_at hl 1 rfl) ?_
        refine lv_istore (lv' := [(4, .int p1), (0, .ref o_q0), (1, .int p1), (2, .int p2), (3, .int p3)]) S.1 S.2.1 dX12_grown_38 hl (by decide) rfl (fun ls hl => ?_)
        refine lv_iconst (v := 1) S.1 S.2.1 dX12_grown_40 ic_1 ?_
        refine lv_istore (lv' := [(5, .int (1 : Int32)), (4, .int p1), (0, .ref o_q0), (1, .int p1), (2, .int p2), (3, .int p3)]) S.1 S.2.1 dX12_grown_41 hl (by decide) rfl (fun ls hl => ?_)
        obtain ⟨x6, hf_, hk6⟩ := bnd_e hf
        have hE6 : ∀ (v10 : Int32), v10 = x6 → ∀ (ls : Array Slot) (H : Heap) (locs : List Loc), lv_has ls 6 [(4, .int v10)] → St A s.heap D (wMd g o_q0 o_q1 o_q2 o_q3 o_q4 o_q5 o_q6 o_q7 o_q8 o_q9 o_q10 o_q11 o_q12 o_q13 o_q14 o_q15 o_q16 o_q17 o_q18 o_q19 o_q20 o_q21 o_q22 (0 : Int32) o_tape o_size o_fault o_faultPlace o_many o_towns o_weeks o_logs o_reached o_length o_begins o_sort o_value o_word o_wrongAt o_laterFault o_laterPlace o_told o_read o_farOne o_good o_town o_people o_when o_sat o_quiet o_vain o_lent o_forgiven o_sundays o_purse o_beside o_debts o_sitting o_visited o_week o_heaps o_taken o_best o_more o_firstOne o_log o_fitting o_found o_seed o_row o_saved) H locs → W p l e (rmD 1) s m args below meth c H locs 0 0 Q (F0 m 94 ls []) := by
          intro v10 e_ ls H locs hl hW
          subst e_
          have hf := hk6
          refine lv_iload S.1 S.2.1 dX12_grown_94 (lv_at hl 0 rfl) ?_
          have e_ := Option.some.inj hf
          subst e_
          exact hret _ _ _ _ dX12_grown_96 hW
        refine lp_ind (P := fun (s5 : Int32 × Int32) => ∀ (ls : Array Slot) (H : Heap) (locs : List Loc), lv_has ls 6 [(2, .int p2), (3, .int p3), (4, .int s5.1), (5, .int s5.2)] → St A s.heap D (wMd g o_q0 o_q1 o_q2 o_q3 o_q4 o_q5 o_q6 o_q7 o_q8 o_q9 o_q10 o_q11 o_q12 o_q13 o_q14 o_q15 o_q16 o_q17 o_q18 o_q19 o_q20 o_q21 o_q22 (0 : Int32) o_tape o_size o_fault o_faultPlace o_many o_towns o_weeks o_logs o_reached o_length o_begins o_sort o_value o_word o_wrongAt o_laterFault o_laterPlace o_told o_read o_farOne o_good o_town o_people o_when o_sat o_quiet o_vain o_lent o_forgiven o_sundays o_purse o_beside o_debts o_sitting o_visited o_week o_heaps o_taken o_best o_more o_firstOne o_log o_fitting o_found o_seed o_row o_saved) H locs → W p l e (rmD 1) s m args below meth c H locs 0 0 Q (F0 m 43 ls [])) ?_ _ _ hf_ _ _ _ (lv_sub hl [4, 5, 1, 0] rfl) hW
        intro s5 x7 hf hI6 hR6 ls H locs hl hW
        refine lv_iload S.1 S.2.1 dX12_grown_43 (lv_at hl 3 rfl) ?_
        refine lv_iload_n S.1 S.2.1 dX12_grown_45 rfl (lv_at hl 1 rfl) ?_
        refine lv_icmp_gt (tgt := 94) S.1 S.2.1 dX12_grown_46 (by decide) (fun c_ => ?_) (fun c_ => ?_)
        · have hf := it_p c_ hf
          have e_ := hR6 _ (Option.some.inj hf).symm
          exact hE6 _ e_ _ _ _ (lv_sub hl [2] rfl) hW
        · have hf := it_n c_ hf
          refine lv_iconst (v := 0) S.1 S.2.1 dX12_grown_49 ic_0 ?_
          refine lv_iload S.1 S.2.1 dX12_grown_50 (lv_at hl 2 rfl) ?_
          refine lv_iload_n S.1 S.2.1 dX12_grown_52 rfl (lv_at hl 0 rfl) ?_
          refine lv_isub S.1 S.2.1 dX12_grown_53 ?_
          obtain ⟨x8, hx8, hf⟩ := bnd_e hf
          refine Rd.cS (c_X12_greater hx8) S hK va_P.nil kSX12_171 rfl hl.1 [] rfl (Nat.le_of_ble_eq_true rfl) ⟨(Nat.le_of_ble_eq_true rfl), (Nat.le_of_ble_eq_true rfl)⟩ ⟨(Nat.zero_le _), (Nat.zero_le _)⟩ dX12_grown_54 ?_
          refine lv_istore (lv' := [(4, .int x8), (2, .int p2), (3, .int p3), (5, .int s5.2)]) S.1 S.2.1 dX12_grown_57 hl (by decide) rfl (fun ls hl => ?_)
          refine lv_iload S.1 S.2.1 dX12_grown_59 (lv_at hl 3 rfl) ?_
          refine lv_bipush (v := 10) S.1 S.2.1 dX12_grown_61 bp_10 ?_
          refine lv_irem S.1 S.2.1 dX12_grown_63 (by decide) ?_
          refine lv_if_ne (tgt := 84) S.1 S.2.1 dX12_grown_64 (by decide) (fun c_ => ?_) (fun c_ => ?_)
          · have hf := it_n c_ hf
            refine lv_iload S.1 S.2.1 dX12_grown_84 (lv_at hl 0 rfl) ?_
            refine lv_istore (lv' := [(4, .int x8), (2, .int p2), (3, .int p3), (5, .int s5.2)]) S.1 S.2.1 dX12_grown_86 hl (by decide) rfl (fun ls hl => ?_)
            refine q_iinc (w := 1) (lv' := [(5, .int (s5.2 + 1)), (4, .int x8), (2, .int p2), (3, .int p3)]) S dX12_grown_88 hl (k := 3) rfl ic_1 (by decide) rfl (fun ls hl => ?_)
            refine lv_goto (tgt := 43) S.1 S.2.1 dX12_grown_91 (by decide) ?_
            exact hI6 _ (Option.some.inj hf).symm _ _ _ (lv_sub hl [2, 3, 1, 0] rfl) hW
          · have hf := it_p c_ hf
            refine lv_iload S.1 S.2.1 dX12_grown_67 (lv_at hl 0 rfl) ?_
            refine lv_if_le (tgt := 84) S.1 S.2.1 dX12_grown_69 (by decide) (fun c_ => ?_) (fun c_ => ?_)
            · have hf := it_p c_ hf
              refine lv_iload S.1 S.2.1 dX12_grown_84 (lv_at hl 0 rfl) ?_
              refine lv_istore (lv' := [(4, .int x8), (2, .int p2), (3, .int p3), (5, .int s5.2)]) S.1 S.2.1 dX12_grown_86 hl (by decide) rfl (fun ls hl => ?_)
              refine q_iinc (w := 1) (lv' := [(5, .int (s5.2 + 1)), (4, .int x8), (2, .int p2), (3, .int p3)]) S dX12_grown_88 hl (k := 3) rfl ic_1 (by decide) rfl (fun ls hl => ?_)
              refine lv_goto (tgt := 43) S.1 S.2.1 dX12_grown_91 (by decide) ?_
              exact hI6 _ (Option.some.inj hf).symm _ _ _ (lv_sub hl [2, 3, 1, 0] rfl) hW
            · have hf := it_n c_ hf
              refine lv_bipush (v := 99) S.1 S.2.1 dX12_grown_72 bp_99 ?_
              refine lv_iload S.1 S.2.1 dX12_grown_74 (lv_at hl 0 rfl) ?_
              refine lv_iconst (v := 1) S.1 S.2.1 dX12_grown_76 ic_1 ?_
              refine lv_iadd S.1 S.2.1 dX12_grown_77 ?_
              obtain ⟨x9, hx9, hf⟩ := bnd_e hf
              refine Rd.cS (c_X12_lesser hx9) S hK va_P.nil kSX12_281 rfl hl.1 [] rfl (Nat.le_of_ble_eq_true rfl) ⟨(Nat.le_of_ble_eq_true rfl), (Nat.le_of_ble_eq_true rfl)⟩ ⟨(Nat.zero_le _), (Nat.zero_le _)⟩ dX12_grown_78 ?_
              refine lv_goto (tgt := 86) S.1 S.2.1 dX12_grown_81 (by decide) ?_
              refine lv_istore (lv' := [(4, .int x9), (2, .int p2), (3, .int p3), (5, .int s5.2)]) S.1 S.2.1 dX12_grown_86 hl (by decide) rfl (fun ls hl => ?_)
              refine q_iinc (w := 1) (lv' := [(5, .int (s5.2 + 1)), (4, .int x9), (2, .int p2), (3, .int p3)]) S dX12_grown_88 hl (k := 3) rfl ic_1 (by decide) rfl (fun ls hl => ?_)
              refine lv_goto (tgt := 43) S.1 S.2.1 dX12_grown_91 (by decide) ?_
              exact hI6 _ (Option.some.inj hf).symm _ _ _ (lv_sub hl [2, 3, 1, 0] rfl) hW
      · have hf := it_p c_ hf
        refine lv_iconst (v := (-1)) S.1 S.2.1 dX12_grown_35 ic_m1 ?_
        have e_ := Option.some.inj hf
        subst e_
        exact hret _ _ _ _ dX12_grown_36 hW
def f_X12_meet_L43 (fu : Nat) (o_towns : (Nat → Int32)) (p2 : Int32) (x1 : Int32 × Int32 × Int32 × Int32 × Int32 × Int32 × Int32 × Int32 × Int32 × Int32 × (Nat → Int32) × (Nat → Int32) × (Nat → Int32) × (Nat → Int32) × (Nat → Int32)) (s3 : Int64 × Int32) (s7 : Int64 × Int32) : Option ((Int64 × Int32) ⊕ (Int64)) := if s3.2 ≤ s7.2 then some (.inr s7.1) else bnd (α := Int32) (if p2 = 0 then bnd (α := Int32) (f_X12_hates fu o_towns x1.2.1 s3.2 s7.2) (fun x14 => some x14) else bnd (α := Int32) (f_X12_owed fu x1.2.2.2.2.2.2.2.2.2.2.2.2.1 s3.2 s7.2) (fun x15 => if 0 < x15 then some (1 : Int32) else bnd (α := Int32) (f_X12_owed fu x1.2.2.2.2.2.2.2.2.2.2.2.2.1 s7.2 s3.2) (fun x16 => if x16 ≤ 0 then some (0 : Int32) else some (1 : Int32)))) (fun v11 => if v11 = 0 then ltn (s7.1 + (0 : Int64)) (fun x12 => some (.inl (x12, (s7.2 + 1)))) else ltn (s7.1 + (1 : Int64)) (fun x13 => some (.inl (x13, (s7.2 + 1)))))
def f_X12_meet_L31 (fu : Nat) (o_towns : (Nat → Int32)) (p2 : Int32) (x1 : Int32 × Int32 × Int32 × Int32 × Int32 × Int32 × Int32 × Int32 × Int32 × Int32 × (Nat → Int32) × (Nat → Int32) × (Nat → Int32) × (Nat → Int32) × (Nat → Int32)) (s3 : Int64 × Int32) : Option ((Int64 × Int32) ⊕ (Int64)) := if x1.2.2.1 ≤ s3.2 then some (.inr s3.1) else bnd (α := Int64) (lp (f_X12_meet_L43 fu o_towns p2 x1 s3) fu (s3.1, (0 : Int32))) (fun v17 => some (.inl (v17, (s3.2 + 1))))
def f_X12_meet (fu : Nat) (o_code : Int32) (o_many : (Nat → Int32)) (o_towns : (Nat → Int32)) (o_town : Int32) (o_people : Int32) (o_when : Int32) (o_sat : Int32) (o_quiet : Int32) (o_vain : Int32) (o_lent : Int32) (o_forgiven : Int32) (o_sundays : Int32) (o_purse : (Nat → Int32)) (o_beside : (Nat → Int32)) (o_debts : (Nat → Int32)) (o_sitting : (Nat → Int32)) (o_visited : (Nat → Int32)) (p1 : Int32) (p2 : Int32) (p3 : Int32) : Option (Int64 × Int32 × Int32 × Int32 × Int32 × Int32 × Int32 × Int32 × Int32 × Int32 × Int32 × (Nat → Int32) × (Nat → Int32) × (Nat → Int32) × (Nat → Int32) × (Nat → Int32)) := bnd (α := Int32 × Int32 × Int32 × Int32 × Int32 × Int32 × Int32 × Int32 × Int32 × Int32 × (Nat → Int32) × (Nat → Int32) × (Nat → Int32) × (Nat → Int32) × (Nat → Int32)) (f_X12_hand fu o_many o_towns o_town o_people o_when o_sat o_quiet o_vain o_lent o_forgiven o_sundays o_purse o_beside o_debts o_sitting o_visited p1) (fun x1 => if x1.1 = 0 then some ((-1 : Int64), (0 : Int32), x1.2.1, x1.2.2.1, x1.2.2.2.1, x1.2.2.2.2.1, x1.2.2.2.2.2.1, x1.2.2.2.2.2.2.1, x1.2.2.2.2.2.2.2.1, x1.2.2.2.2.2.2.2.2.1, x1.2.2.2.2.2.2.2.2.2.1, x1.2.2.2.2.2.2.2.2.2.2.1, x1.2.2.2.2.2.2.2.2.2.2.2.1, x1.2.2.2.2.2.2.2.2.2.2.2.2.1, x1.2.2.2.2.2.2.2.2.2.2.2.2.2.1, x1.2.2.2.2.2.2.2.2.2.2.2.2.2.2) else if (2 : Int32) ≤ x1.2.2.1 then bnd (α := Int64) (lp (f_X12_meet_L31 fu o_towns p2 x1) fu ((0 : Int64), (0 : Int32))) (fun v18 => bnd (α := Int64) (f_X12_part fu v18 (((x1.2.2.1.toInt64) * (((x1.2.2.1 - (1 : Int32))).toInt64)) / (2 : Int64)) p3) (fun x19 => some (x19, (0 : Int32), x1.2.1, x1.2.2.1, x1.2.2.2.1, x1.2.2.2.2.1, x1.2.2.2.2.2.1, x1.2.2.2.2.2.2.1, x1.2.2.2.2.2.2.2.1, x1.2.2.2.2.2.2.2.2.1, x1.2.2.2.2.2.2.2.2.2.1, x1.2.2.2.2.2.2.2.2.2.2.1, x1.2.2.2.2.2.2.2.2.2.2.2.1, x1.2.2.2.2.2.2.2.2.2.2.2.2.1, x1.2.2.2.2.2.2.2.2.2.2.2.2.2.1, x1.2.2.2.2.2.2.2.2.2.2.2.2.2.2))) else some ((-1 : Int64), (0 : Int32), x1.2.1, x1.2.2.1, x1.2.2.2.1, x1.2.2.2.2.1, x1.2.2.2.2.2.1, x1.2.2.2.2.2.2.1, x1.2.2.2.2.2.2.2.1, x1.2.2.2.2.2.2.2.2.1, x1.2.2.2.2.2.2.2.2.2.1, x1.2.2.2.2.2.2.2.2.2.2.1, x1.2.2.2.2.2.2.2.2.2.2.2.1, x1.2.2.2.2.2.2.2.2.2.2.2.2.1, x1.2.2.2.2.2.2.2.2.2.2.2.2.2.1, x1.2.2.2.2.2.2.2.2.2.2.2.2.2.2))
set_option maxHeartbeats 4000000 in
set_option maxRecDepth 100000 in
theorem c_X12_meet {l : Launch} {D : va_G} {g : Nat → ClassId} {fu : Nat} {o_q0 o_q1 o_q2 o_q3 o_q4 o_q5 o_q6 o_q7 o_q8 o_q9 o_q10 o_q11 o_q12 o_q13 o_q14 o_q15 o_q16 o_q17 o_q18 o_q19 o_q20 o_q21 o_q22 : Nat} {o_code : Int32} {o_tape : (Nat → Int32)} {o_size : (Nat → Int32)} {o_fault : (Nat → Int32)} {o_faultPlace : (Nat → Int32)} {o_many : (Nat → Int32)} {o_towns : (Nat → Int32)} {o_weeks : (Nat → Int32)} {o_logs : (Nat → Int32)} {o_reached : Int32} {o_length : Int32} {o_begins : Int32} {o_sort : Int32} {o_value : Int32} {o_word : Int64} {o_wrongAt : Int32} {o_laterFault : Int32} {o_laterPlace : Int32} {o_told : (Nat → Int32)} {o_read : (Nat → Int32)} {o_farOne : Int32} {o_good : Int32} {o_town : Int32} {o_people : Int32} {o_when : Int32} {o_sat : Int32} {o_quiet : Int32} {o_vain : Int32} {o_lent : Int32} {o_forgiven : Int32} {o_sundays : Int32} {o_purse : (Nat → Int32)} {o_beside : (Nat → Int32)} {o_debts : (Nat → Int32)} {o_sitting : (Nat → Int32)} {o_visited : (Nat → Int32)} {o_week : Int32} {o_heaps : (Nat → Int32)} {o_taken : (Nat → Int32)} {o_best : (Nat → Int32)} {o_more : (Nat → Int32)} {o_firstOne : Int32} {o_log : Int32} {o_fitting : (Nat → Int32)} {o_found : Int32} {o_seed : Int32} {o_row : (Nat → Int32)} {o_saved : (Nat → Int32)} {p1 : Int32} {p2 : Int32} {p3 : Int32} {r : Int64 × Int32 × Int32 × Int32 × Int32 × Int32 × Int32 × Int32 × Int32 × Int32 × Int32 × (Nat → Int32) × (Nat → Int32) × (Nat → Int32) × (Nat → Int32) × (Nat → Int32)} (hf : f_X12_meet fu o_code o_many o_towns o_town o_people o_when o_sat o_quiet o_vain o_lent o_forgiven o_sundays o_purse o_beside o_debts o_sitting o_visited p1 p2 p3 = some r) : Wr l D (gy g) yX12_meet cX12_meet 9 (some .long) 3 [.ref o_q0, .int p1, .int p2, .int p3] (wMd g o_q0 o_q1 o_q2 o_q3 o_q4 o_q5 o_q6 o_q7 o_q8 o_q9 o_q10 o_q11 o_q12 o_q13 o_q14 o_q15 o_q16 o_q17 o_q18 o_q19 o_q20 o_q21 o_q22 o_code o_tape o_size o_fault o_faultPlace o_many o_towns o_weeks o_logs o_reached o_length o_begins o_sort o_value o_word o_wrongAt o_laterFault o_laterPlace o_told o_read o_farOne o_good o_town o_people o_when o_sat o_quiet o_vain o_lent o_forgiven o_sundays o_purse o_beside o_debts o_sitting o_visited o_week o_heaps o_taken o_best o_more o_firstOne o_log o_fitting o_found o_seed o_row o_saved) (wMd g o_q0 o_q1 o_q2 o_q3 o_q4 o_q5 o_q6 o_q7 o_q8 o_q9 o_q10 o_q11 o_q12 o_q13 o_q14 o_q15 o_q16 o_q17 o_q18 o_q19 o_q20 o_q21 o_q22 r.2.1 o_tape o_size o_fault o_faultPlace o_many o_towns o_weeks o_logs o_reached o_length o_begins o_sort o_value o_word o_wrongAt o_laterFault o_laterPlace o_told o_read o_farOne o_good r.2.2.1 r.2.2.2.1 r.2.2.2.2.1 r.2.2.2.2.2.1 r.2.2.2.2.2.2.1 r.2.2.2.2.2.2.2.1 r.2.2.2.2.2.2.2.2.1 r.2.2.2.2.2.2.2.2.2.1 r.2.2.2.2.2.2.2.2.2.2.1 r.2.2.2.2.2.2.2.2.2.2.2.1 r.2.2.2.2.2.2.2.2.2.2.2.2.1 r.2.2.2.2.2.2.2.2.2.2.2.2.2.1 r.2.2.2.2.2.2.2.2.2.2.2.2.2.2.1 r.2.2.2.2.2.2.2.2.2.2.2.2.2.2.2 o_week o_heaps o_taken o_best o_more o_firstOne o_log o_fitting o_found o_seed o_row o_saved) (some (.long r.1)) := by
  refine Wr.ofL (by decide) (Nat.le_of_ble_eq_true rfl) ?_
  intro p e s m args below meth c Q A S hK hA hret ls hl hW
  have hl : lv_has ls 9 [(0, .ref o_q0), (1, .int p1), (2, .int p2), (3, .int p3)] := hl
  refine lv_aload_n S.1 S.2.1 dX12_meet_0 rfl (lv_at hl 0 rfl) ?_
  refine lv_iconst (v := 0) S.1 S.2.1 dX12_meet_1 ic_0 ?_
  refine pfX12_78 (ws2 := (wMd g o_q0 o_q1 o_q2 o_q3 o_q4 o_q5 o_q6 o_q7 o_q8 o_q9 o_q10 o_q11 o_q12 o_q13 o_q14 o_q15 o_q16 o_q17 o_q18 o_q19 o_q20 o_q21 o_q22 (0 : Int32) o_tape o_size o_fault o_faultPlace o_many o_towns o_weeks o_logs o_reached o_length o_begins o_sort o_value o_word o_wrongAt o_laterFault o_laterPlace o_told o_read o_farOne o_good o_town o_people o_when o_sat o_quiet o_vain o_lent o_forgiven o_sundays o_purse o_beside o_debts o_sitting o_visited o_week o_heaps o_taken o_best o_more o_firstOne o_log o_fitting o_found o_seed o_row o_saved)) S hK hW 0 rfl rfl rfl (Nat.le_of_ble_eq_true rfl) rfl dX12_meet_2 (fun H locs hW => ?_)
  refine lv_aload_n S.1 S.2.1 dX12_meet_5 rfl (lv_at hl 0 rfl) ?_
  refine lv_iload_n S.1 S.2.1 dX12_meet_6 rfl (lv_at hl 1 rfl) ?_
  obtain ⟨x1, hx1, hf⟩ := bnd_e hf
  refine Wr.goW (Wr.runV (c_X12_hand hx1) S hK hW.1 hW.2.1 0 10 rfl rfl kVX12_257 rfl hl.1 [] rfl (Nat.le_of_ble_eq_true rfl) ⟨(Nat.le_of_ble_eq_true rfl), (Nat.le_of_ble_eq_true rfl)⟩ ⟨(Nat.zero_le _), (Nat.zero_le _)⟩ dX12_meet_7) hW hA (fun H locs hW => ?_)
  refine lv_if_eq (tgt := 21) S.1 S.2.1 dX12_meet_10 (by decide) (fun c_ => ?_) (fun c_ => ?_)
  · have hf := it_p c_ hf
    refine lv_ldc2 (v := (-1)) S.1 S.2.1 S.2.2.2.1 (S.2.2.2.2 _ q_1499) dX12_meet_21 ?_
    have e_ := Option.some.inj hf
    subst e_
    exact hret _ _ _ _ dX12_meet_24 hW
  · have hf := it_n c_ hf
    refine lv_aload_n S.1 S.2.1 dX12_meet_13 rfl (lv_at hl 0 rfl) ?_
    refine gfX12_230 S hK hW.1 0 rfl rfl dX12_meet_14 ?_
    refine lv_iconst (v := 2) S.1 S.2.1 dX12_meet_17 ic_2 ?_
    refine lv_icmp_ge (tgt := 25) S.1 S.2.1 dX12_meet_18 (by decide) (fun c_ => ?_) (fun c_ => ?_)
    · have hf := it_p c_ hf
      refine lv_lconst (v := 0) S.1 S.2.1 dX12_meet_25 rfl ?_
      refine lv_lstore (lv' := [(4, .long (0 : Int64)), (0, .ref o_q0), (1, .int p1), (2, .int p2), (3, .int p3)]) S.1 S.2.1 dX12_meet_26 hl (by decide) rfl (fun ls hl => ?_)
      refine lv_iconst (v := 0) S.1 S.2.1 dX12_meet_28 ic_0 ?_
      refine lv_istore (lv' := [(6, .int (0 : Int32)), (4, .long (0 : Int64)), (0, .ref o_q0), (1, .int p1), (2, .int p2), (3, .int p3)]) S.1 S.2.1 dX12_meet_29 hl (by decide) rfl (fun ls hl => ?_)
      obtain ⟨x4, hf_, hk4⟩ := bnd_e hf
      have hE4 : ∀ (v18 : Int64), v18 = x4 → ∀ (ls : Array Slot) (H : Heap) (locs : List Loc), lv_has ls 9 [(0, .ref o_q0), (3, .int p3), (4, .long v18)] → St A s.heap D (wMd g o_q0 o_q1 o_q2 o_q3 o_q4 o_q5 o_q6 o_q7 o_q8 o_q9 o_q10 o_q11 o_q12 o_q13 o_q14 o_q15 o_q16 o_q17 o_q18 o_q19 o_q20 o_q21 o_q22 (0 : Int32) o_tape o_size o_fault o_faultPlace o_many o_towns o_weeks o_logs o_reached o_length o_begins o_sort o_value o_word o_wrongAt o_laterFault o_laterPlace o_told o_read o_farOne o_good x1.2.1 x1.2.2.1 x1.2.2.2.1 x1.2.2.2.2.1 x1.2.2.2.2.2.1 x1.2.2.2.2.2.2.1 x1.2.2.2.2.2.2.2.1 x1.2.2.2.2.2.2.2.2.1 x1.2.2.2.2.2.2.2.2.2.1 x1.2.2.2.2.2.2.2.2.2.2.1 x1.2.2.2.2.2.2.2.2.2.2.2.1 x1.2.2.2.2.2.2.2.2.2.2.2.2.1 x1.2.2.2.2.2.2.2.2.2.2.2.2.2.1 x1.2.2.2.2.2.2.2.2.2.2.2.2.2.2 o_week o_heaps o_taken o_best o_more o_firstOne o_log o_fitting o_found o_seed o_row o_saved) H locs → W p l e (rmD 3) s m args below meth c H locs 0 0 Q (F0 m 121 ls []) := by
        intro v18 e_ ls H locs hl hW
        subst e_
        have hf := hk4
        refine lv_lload S.1 S.2.1 dX12_meet_121 (lv_at hl 2 rfl) ?_
        refine lv_aload_n S.1 S.2.1 dX12_meet_123 rfl (lv_at hl 0 rfl) ?_
        refine gfX12_230 S hK hW.1 0 rfl rfl dX12_meet_124 ?_
        refine lv_i2l (v := (x1.2.2.1.toInt64)) S.1 S.2.1 dX12_meet_127 rfl ?_
        refine lv_aload_n S.1 S.2.1 dX12_meet_128 rfl (lv_at hl 0 rfl) ?_
        refine gfX12_230 S hK hW.1 0 rfl rfl dX12_meet_129 ?_
        refine lv_iconst (v := 1) S.1 S.2.1 dX12_meet_132 ic_1 ?_
        refine lv_isub S.1 S.2.1 dX12_meet_133 ?_
        refine lv_i2l (v := (((x1.2.2.1 - (1 : Int32))).toInt64)) S.1 S.2.1 dX12_meet_134 rfl ?_
        refine lv_lmul S.1 S.2.1 dX12_meet_135 ?_
        refine lv_ldc2 (v := 2) S.1 S.2.1 S.2.2.2.1 (S.2.2.2.2 _ q_1683) dX12_meet_136 ?_
        refine lv_ldiv S.1 S.2.1 dX12_meet_139 (by decide) ?_
        refine lv_iload_n S.1 S.2.1 dX12_meet_140 rfl (lv_at hl 1 rfl) ?_
        obtain ⟨x19, hx19, hf⟩ := bnd_e hf
        refine Rd.cS (c_X12_part hx19) S hK va_P.nil kSX12_379 rfl hl.1 [] rfl (Nat.le_of_ble_eq_true rfl) ⟨(Nat.le_of_ble_eq_true rfl), (Nat.le_of_ble_eq_true rfl)⟩ ⟨(Nat.zero_le _), (Nat.zero_le _)⟩ dX12_meet_141 ?_
        have e_ := Option.some.inj hf
        subst e_
        exact hret _ _ _ _ dX12_meet_144 hW
      refine lp_ind (P := fun (s3 : Int64 × Int32) => ∀ (ls : Array Slot) (H : Heap) (locs : List Loc), lv_has ls 9 [(0, .ref o_q0), (2, .int p2), (3, .int p3), (4, .long s3.1), (6, .int s3.2)] → St A s.heap D (wMd g o_q0 o_q1 o_q2 o_q3 o_q4 o_q5 o_q6 o_q7 o_q8 o_q9 o_q10 o_q11 o_q12 o_q13 o_q14 o_q15 o_q16 o_q17 o_q18 o_q19 o_q20 o_q21 o_q22 (0 : Int32) o_tape o_size o_fault o_faultPlace o_many o_towns o_weeks o_logs o_reached o_length o_begins o_sort o_value o_word o_wrongAt o_laterFault o_laterPlace o_told o_read o_farOne o_good x1.2.1 x1.2.2.1 x1.2.2.2.1 x1.2.2.2.2.1 x1.2.2.2.2.2.1 x1.2.2.2.2.2.2.1 x1.2.2.2.2.2.2.2.1 x1.2.2.2.2.2.2.2.2.1 x1.2.2.2.2.2.2.2.2.2.1 x1.2.2.2.2.2.2.2.2.2.2.1 x1.2.2.2.2.2.2.2.2.2.2.2.1 x1.2.2.2.2.2.2.2.2.2.2.2.2.1 x1.2.2.2.2.2.2.2.2.2.2.2.2.2.1 x1.2.2.2.2.2.2.2.2.2.2.2.2.2.2 o_week o_heaps o_taken o_best o_more o_firstOne o_log o_fitting o_found o_seed o_row o_saved) H locs → W p l e (rmD 3) s m args below meth c H locs 0 0 Q (F0 m 31 ls [])) ?_ _ _ hf_ _ _ _ (lv_sub hl [2, 4, 5, 1, 0] rfl) hW
      intro s3 x5 hf hI4 hR4 ls H locs hl hW
      refine lv_iload S.1 S.2.1 dX12_meet_31 (lv_at hl 4 rfl) ?_
      refine lv_aload_n S.1 S.2.1 dX12_meet_33 rfl (lv_at hl 0 rfl) ?_
      refine gfX12_230 S hK hW.1 0 rfl rfl dX12_meet_34 ?_
      refine lv_icmp_ge (tgt := 121) S.1 S.2.1 dX12_meet_37 (by decide) (fun c_ => ?_) (fun c_ => ?_)
      · have hf := it_p c_ hf
        have e_ := hR4 _ (Option.some.inj hf).symm
        exact hE4 _ e_ _ _ _ (lv_sub hl [0, 2, 3] rfl) hW
      · have hf := it_n c_ hf
        refine lv_iconst (v := 0) S.1 S.2.1 dX12_meet_40 ic_0 ?_
        refine lv_istore (lv' := [(7, .int (0 : Int32)), (0, .ref o_q0), (2, .int p2), (3, .int p3), (4, .long s3.1), (6, .int s3.2)]) S.1 S.2.1 dX12_meet_41 hl (by decide) rfl (fun ls hl => ?_)
        obtain ⟨x8, hf_, hk8⟩ := bnd_e hf
        have hE8 : ∀ (v17 : Int64), v17 = x8 → ∀ (ls : Array Slot) (H : Heap) (locs : List Loc), lv_has ls 9 [(0, .ref o_q0), (2, .int p2), (3, .int p3), (4, .long v17), (6, .int s3.2)] → St A s.heap D (wMd g o_q0 o_q1 o_q2 o_q3 o_q4 o_q5 o_q6 o_q7 o_q8 o_q9 o_q10 o_q11 o_q12 o_q13 o_q14 o_q15 o_q16 o_q17 o_q18 o_q19 o_q20 o_q21 o_q22 (0 : Int32) o_tape o_size o_fault o_faultPlace o_many o_towns o_weeks o_logs o_reached o_length o_begins o_sort o_value o_word o_wrongAt o_laterFault o_laterPlace o_told o_read o_farOne o_good x1.2.1 x1.2.2.1 x1.2.2.2.1 x1.2.2.2.2.1 x1.2.2.2.2.2.1 x1.2.2.2.2.2.2.1 x1.2.2.2.2.2.2.2.1 x1.2.2.2.2.2.2.2.2.1 x1.2.2.2.2.2.2.2.2.2.1 x1.2.2.2.2.2.2.2.2.2.2.1 x1.2.2.2.2.2.2.2.2.2.2.2.1 x1.2.2.2.2.2.2.2.2.2.2.2.2.1 x1.2.2.2.2.2.2.2.2.2.2.2.2.2.1 x1.2.2.2.2.2.2.2.2.2.2.2.2.2.2 o_week o_heaps o_taken o_best o_more o_firstOne o_log o_fitting o_found o_seed o_row o_saved) H locs → W p l e (rmD 3) s m args below meth c H locs 0 0 Q (F0 m 115 ls []) := by
          intro v17 e_ ls H locs hl hW
          subst e_
          have hf := hk8
          refine q_iinc (w := 1) (lv' := [(6, .int (s3.2 + 1)), (0, .ref o_q0), (2, .int p2), (3, .int p3), (4, .long v17)]) S dX12_meet_115 hl (k := 4) rfl ic_1 (by decide) rfl (fun ls hl => ?_)
          refine lv_goto (tgt := 31) S.1 S.2.1 dX12_meet_118 (by decide) ?_
          exact hI4 _ (Option.some.inj hf).symm _ _ _ (lv_sub hl [1, 2, 3, 4, 0] rfl) hW
        refine lp_ind (P := fun (s7 : Int64 × Int32) => ∀ (ls : Array Slot) (H : Heap) (locs : List Loc), lv_has ls 9 [(0, .ref o_q0), (2, .int p2), (3, .int p3), (4, .long s7.1), (6, .int s3.2), (7, .int s7.2)] → St A s.heap D (wMd g o_q0 o_q1 o_q2 o_q3 o_q4 o_q5 o_q6 o_q7 o_q8 o_q9 o_q10 o_q11 o_q12 o_q13 o_q14 o_q15 o_q16 o_q17 o_q18 o_q19 o_q20 o_q21 o_q22 (0 : Int32) o_tape o_size o_fault o_faultPlace o_many o_towns o_weeks o_logs o_reached o_length o_begins o_sort o_value o_word o_wrongAt o_laterFault o_laterPlace o_told o_read o_farOne o_good x1.2.1 x1.2.2.1 x1.2.2.2.1 x1.2.2.2.2.1 x1.2.2.2.2.2.1 x1.2.2.2.2.2.2.1 x1.2.2.2.2.2.2.2.1 x1.2.2.2.2.2.2.2.2.1 x1.2.2.2.2.2.2.2.2.2.1 x1.2.2.2.2.2.2.2.2.2.2.1 x1.2.2.2.2.2.2.2.2.2.2.2.1 x1.2.2.2.2.2.2.2.2.2.2.2.2.1 x1.2.2.2.2.2.2.2.2.2.2.2.2.2.1 x1.2.2.2.2.2.2.2.2.2.2.2.2.2.2 o_week o_heaps o_taken o_best o_more o_firstOne o_log o_fitting o_found o_seed o_row o_saved) H locs → W p l e (rmD 3) s m args below meth c H locs 0 0 Q (F0 m 43 ls [])) ?_ _ _ hf_ _ _ _ (lv_sub hl [1, 2, 3, 4, 5, 0] rfl) hW
        intro s7 x9 hf hI8 hR8 ls H locs hl hW
        refine lv_iload S.1 S.2.1 dX12_meet_43 (lv_at hl 5 rfl) ?_
        refine lv_iload S.1 S.2.1 dX12_meet_45 (lv_at hl 4 rfl) ?_
        refine lv_icmp_ge (tgt := 115) S.1 S.2.1 dX12_meet_47 (by decide) (fun c_ => ?_) (fun c_ => ?_)
        · have hf := it_p c_ hf
          have e_ := hR8 _ (Option.some.inj hf).symm
          exact hE8 _ e_ _ _ _ (lv_sub hl [0, 1, 2, 3, 4] rfl) hW
        · have hf := it_n c_ hf
          refine lv_iload_n S.1 S.2.1 dX12_meet_50 rfl (lv_at hl 1 rfl) ?_
          obtain ⟨x10, hf_, hk10⟩ := bnd_e hf
          have hJ10 : ∀ (v11 : Int32), v11 = x10 → ∀ (ls : Array Slot) (H : Heap) (locs : List Loc), lv_has ls 9 [(0, .ref o_q0), (2, .int p2), (3, .int p3), (4, .long s7.1), (6, .int s3.2), (7, .int s7.2)] → St A s.heap D (wMd g o_q0 o_q1 o_q2 o_q3 o_q4 o_q5 o_q6 o_q7 o_q8 o_q9 o_q10 o_q11 o_q12 o_q13 o_q14 o_q15 o_q16 o_q17 o_q18 o_q19 o_q20 o_q21 o_q22 (0 : Int32) o_tape o_size o_fault o_faultPlace o_many o_towns o_weeks o_logs o_reached o_length o_begins o_sort o_value o_word o_wrongAt o_laterFault o_laterPlace o_told o_read o_farOne o_good x1.2.1 x1.2.2.1 x1.2.2.2.1 x1.2.2.2.2.1 x1.2.2.2.2.2.1 x1.2.2.2.2.2.2.1 x1.2.2.2.2.2.2.2.1 x1.2.2.2.2.2.2.2.2.1 x1.2.2.2.2.2.2.2.2.2.1 x1.2.2.2.2.2.2.2.2.2.2.1 x1.2.2.2.2.2.2.2.2.2.2.2.1 x1.2.2.2.2.2.2.2.2.2.2.2.2.1 x1.2.2.2.2.2.2.2.2.2.2.2.2.2.1 x1.2.2.2.2.2.2.2.2.2.2.2.2.2.2 o_week o_heaps o_taken o_best o_more o_firstOne o_log o_fitting o_found o_seed o_row o_saved) H locs → W p l e (rmD 3) s m args below meth c H locs 0 0 Q (F0 m 92 ls [.int v11]) := by
            intro v11 e_ ls H locs hl hW
            subst e_
            have hf := hk10
            refine lv_istore (lv' := [(8, .int v11), (0, .ref o_q0), (2, .int p2), (3, .int p3), (4, .long s7.1), (6, .int s3.2), (7, .int s7.2)]) S.1 S.2.1 dX12_meet_92 hl (by decide) rfl (fun ls hl => ?_)
            refine lv_lload S.1 S.2.1 dX12_meet_94 (lv_at hl 4 rfl) ?_
            refine lv_iload S.1 S.2.1 dX12_meet_96 (lv_at hl 0 rfl) ?_
            refine lv_if_eq (tgt := 105) S.1 S.2.1 dX12_meet_98 (by decide) (fun c_ => ?_) (fun c_ => ?_)
            · have hf := it_p c_ hf
              refine lv_lconst (v := 0) S.1 S.2.1 dX12_meet_105 rfl ?_
              refine lv_ladd S.1 S.2.1 dX12_meet_106 ?_
              refine lv_topl (fun x12 ex12 => ?_)
              have hf := ltn_e hf ex12
              refine lv_lstore (lv' := [(4, .long x12), (8, .int v11), (0, .ref o_q0), (2, .int p2), (3, .int p3), (6, .int s3.2), (7, .int s7.2)]) S.1 S.2.1 dX12_meet_107 hl (by decide) rfl (fun ls hl => ?_)
              refine q_iinc (w := 1) (lv' := [(7, .int (s7.2 + 1)), (4, .long x12), (8, .int v11), (0, .ref o_q0), (2, .int p2), (3, .int p3), (6, .int s3.2)]) S dX12_meet_109 hl (k := 6) rfl ic_1 (by decide) rfl (fun ls hl => ?_)
              refine lv_goto (tgt := 43) S.1 S.2.1 dX12_meet_112 (by decide) ?_
              exact hI8 _ (Option.some.inj hf).symm _ _ _ (lv_sub hl [3, 4, 5, 1, 6, 0] rfl) hW
            · have hf := it_n c_ hf
              refine lv_lconst (v := 1) S.1 S.2.1 dX12_meet_101 rfl ?_
              refine lv_goto (tgt := 106) S.1 S.2.1 dX12_meet_102 (by decide) ?_
              refine lv_ladd S.1 S.2.1 dX12_meet_106 ?_
              refine lv_topl (fun x13 ex13 => ?_)
              have hf := ltn_e hf ex13
              refine lv_lstore (lv' := [(4, .long x13), (8, .int v11), (0, .ref o_q0), (2, .int p2), (3, .int p3), (6, .int s3.2), (7, .int s7.2)]) S.1 S.2.1 dX12_meet_107 hl (by decide) rfl (fun ls hl => ?_)
              refine q_iinc (w := 1) (lv' := [(7, .int (s7.2 + 1)), (4, .long x13), (8, .int v11), (0, .ref o_q0), (2, .int p2), (3, .int p3), (6, .int s3.2)]) S dX12_meet_109 hl (k := 6) rfl ic_1 (by decide) rfl (fun ls hl => ?_)
              refine lv_goto (tgt := 43) S.1 S.2.1 dX12_meet_112 (by decide) ?_
              exact hI8 _ (Option.some.inj hf).symm _ _ _ (lv_sub hl [3, 4, 5, 1, 6, 0] rfl) hW
          have hf := hf_
          refine lv_if_eq (tgt := 84) S.1 S.2.1 dX12_meet_51 (by decide) (fun c_ => ?_) (fun c_ => ?_)
          · have hf := it_p c_ hf
            refine lv_aload_n S.1 S.2.1 dX12_meet_84 rfl (lv_at hl 0 rfl) ?_
            refine lv_iload S.1 S.2.1 dX12_meet_85 (lv_at hl 4 rfl) ?_
            refine lv_iload S.1 S.2.1 dX12_meet_87 (lv_at hl 5 rfl) ?_
            obtain ⟨x14, hx14, hf⟩ := bnd_e hf
            refine Rd.cV (c_X12_hates hx14) S hK hW.1 0 10 rfl rfl kVX12_275 rfl hl.1 [] rfl (Nat.le_of_ble_eq_true rfl) ⟨(Nat.le_of_ble_eq_true rfl), (Nat.le_of_ble_eq_true rfl)⟩ ⟨(Nat.zero_le _), (Nat.zero_le _)⟩ dX12_meet_89 ?_
            exact hJ10 _ (Option.some.inj hf) _ _ _ (lv_sub hl [0, 1, 2, 3, 4, 5] rfl) hW
          · have hf := it_n c_ hf
            refine lv_aload_n S.1 S.2.1 dX12_meet_54 rfl (lv_at hl 0 rfl) ?_
            refine lv_iload S.1 S.2.1 dX12_meet_55 (lv_at hl 4 rfl) ?_
            refine lv_iload S.1 S.2.1 dX12_meet_57 (lv_at hl 5 rfl) ?_
            obtain ⟨x15, hx15, hf⟩ := bnd_e hf
            refine Rd.cV (c_X12_owed hx15) S hK hW.1 0 10 rfl rfl kVX12_254 rfl hl.1 [] rfl (Nat.le_of_ble_eq_true rfl) ⟨(Nat.le_of_ble_eq_true rfl), (Nat.le_of_ble_eq_true rfl)⟩ ⟨(Nat.zero_le _), (Nat.zero_le _)⟩ dX12_meet_59 ?_
            refine lv_if_gt (tgt := 76) S.1 S.2.1 dX12_meet_62 (by decide) (fun c_ => ?_) (fun c_ => ?_)
            · have hf := it_p c_ hf
              refine lv_iconst (v := 1) S.1 S.2.1 dX12_meet_76 ic_1 ?_
              refine lv_goto (tgt := 92) S.1 S.2.1 dX12_meet_77 (by decide) ?_
              exact hJ10 _ (Option.some.inj hf) _ _ _ (lv_sub hl [0, 1, 2, 3, 4, 5] rfl) hW
            · have hf := it_n c_ hf
              refine lv_aload_n S.1 S.2.1 dX12_meet_65 rfl (lv_at hl 0 rfl) ?_
              refine lv_iload S.1 S.2.1 dX12_meet_66 (lv_at hl 5 rfl) ?_
              refine lv_iload S.1 S.2.1 dX12_meet_68 (lv_at hl 4 rfl) ?_
              obtain ⟨x16, hx16, hf⟩ := bnd_e hf
              refine Rd.cV (c_X12_owed hx16) S hK hW.1 0 10 rfl rfl kVX12_254 rfl hl.1 [] rfl (Nat.le_of_ble_eq_true rfl) ⟨(Nat.le_of_ble_eq_true rfl), (Nat.le_of_ble_eq_true rfl)⟩ ⟨(Nat.zero_le _), (Nat.zero_le _)⟩ dX12_meet_70 ?_
              refine lv_if_le (tgt := 80) S.1 S.2.1 dX12_meet_73 (by decide) (fun c_ => ?_) (fun c_ => ?_)
              · have hf := it_p c_ hf
                refine lv_iconst (v := 0) S.1 S.2.1 dX12_meet_80 ic_0 ?_
                refine lv_goto (tgt := 92) S.1 S.2.1 dX12_meet_81 (by decide) ?_
                exact hJ10 _ (Option.some.inj hf) _ _ _ (lv_sub hl [0, 1, 2, 3, 4, 5] rfl) hW
              · have hf := it_n c_ hf
                refine lv_iconst (v := 1) S.1 S.2.1 dX12_meet_76 ic_1 ?_
                refine lv_goto (tgt := 92) S.1 S.2.1 dX12_meet_77 (by decide) ?_
                exact hJ10 _ (Option.some.inj hf) _ _ _ (lv_sub hl [0, 1, 2, 3, 4, 5] rfl) hW
    · have hf := it_n c_ hf
      refine lv_ldc2 (v := (-1)) S.1 S.2.1 S.2.2.2.1 (S.2.2.2.2 _ q_1499) dX12_meet_21 ?_
      have e_ := Option.some.inj hf
      subst e_
      exact hret _ _ _ _ dX12_meet_24 hW
def f_X12_guest_L40 (p2 : Int32) (x2 : Int32 × Int32 × Int32 × Int32 × Int32 × Int32 × Int32 × Int32 × Int32 × Int32 × (Nat → Int32) × (Nat → Int32) × (Nat → Int32) × (Nat → Int32) × (Nat → Int32)) (s4 : Int64 × Int32) : Option ((Int64 × Int32) ⊕ (Int64)) := if x2.2.2.1 ≤ s4.2 then some (.inr s4.1) else bnd (α := Int32) (rdi 6 x2.2.2.2.2.2.2.2.2.2.2.1 s4.2) (fun x7 => if x7 < p2 then ltn (s4.1 + (0 : Int64)) (fun x8 => some (.inl (x8, (s4.2 + 1)))) else ltn (s4.1 + (1 : Int64)) (fun x9 => some (.inl (x9, (s4.2 + 1)))))
def f_X12_guest (fu : Nat) (o_code : Int32) (o_many : (Nat → Int32)) (o_towns : (Nat → Int32)) (o_town : Int32) (o_people : Int32) (o_when : Int32) (o_sat : Int32) (o_quiet : Int32) (o_vain : Int32) (o_lent : Int32) (o_forgiven : Int32) (o_sundays : Int32) (o_purse : (Nat → Int32)) (o_beside : (Nat → Int32)) (o_debts : (Nat → Int32)) (o_sitting : (Nat → Int32)) (o_visited : (Nat → Int32)) (p1 : Int32) (p2 : Int32) (p3 : Int32) : Option (Int64 × Int32 × Int32 × Int32 × Int32 × Int32 × Int32 × Int32 × Int32 × Int32 × Int32 × (Nat → Int32) × (Nat → Int32) × (Nat → Int32) × (Nat → Int32) × (Nat → Int32)) := bnd (α := Int32) (f_X12_in fu p2 (0 : Int32) (99 : Int32)) (fun x1 => if x1 = 0 then some ((-1 : Int64), (0 : Int32), o_town, o_people, o_when, o_sat, o_quiet, o_vain, o_lent, o_forgiven, o_sundays, o_purse, o_beside, o_debts, o_sitting, o_visited) else bnd (α := Int32 × Int32 × Int32 × Int32 × Int32 × Int32 × Int32 × Int32 × Int32 × Int32 × (Nat → Int32) × (Nat → Int32) × (Nat → Int32) × (Nat → Int32) × (Nat → Int32)) (f_X12_hand fu o_many o_towns o_town o_people o_when o_sat o_quiet o_vain o_lent o_forgiven o_sundays o_purse o_beside o_debts o_sitting o_visited p1) (fun x2 => if x2.1 = 0 then some ((-1 : Int64), (0 : Int32), x2.2.1, x2.2.2.1, x2.2.2.2.1, x2.2.2.2.2.1, x2.2.2.2.2.2.1, x2.2.2.2.2.2.2.1, x2.2.2.2.2.2.2.2.1, x2.2.2.2.2.2.2.2.2.1, x2.2.2.2.2.2.2.2.2.2.1, x2.2.2.2.2.2.2.2.2.2.2.1, x2.2.2.2.2.2.2.2.2.2.2.2.1, x2.2.2.2.2.2.2.2.2.2.2.2.2.1, x2.2.2.2.2.2.2.2.2.2.2.2.2.2.1, x2.2.2.2.2.2.2.2.2.2.2.2.2.2.2) else if x2.2.2.1 = 0 then some ((-1 : Int64), (0 : Int32), x2.2.1, x2.2.2.1, x2.2.2.2.1, x2.2.2.2.2.1, x2.2.2.2.2.2.1, x2.2.2.2.2.2.2.1, x2.2.2.2.2.2.2.2.1, x2.2.2.2.2.2.2.2.2.1, x2.2.2.2.2.2.2.2.2.2.1, x2.2.2.2.2.2.2.2.2.2.2.1, x2.2.2.2.2.2.2.2.2.2.2.2.1, x2.2.2.2.2.2.2.2.2.2.2.2.2.1, x2.2.2.2.2.2.2.2.2.2.2.2.2.2.1, x2.2.2.2.2.2.2.2.2.2.2.2.2.2.2) else bnd (α := Int64) (lp (f_X12_guest_L40 p2 x2) fu ((0 : Int64), (0 : Int32))) (fun v10 => bnd (α := Int64) (f_X12_part fu v10 (x2.2.2.1.toInt64) p3) (fun x11 => some (x11, (0 : Int32), x2.2.1, x2.2.2.1, x2.2.2.2.1, x2.2.2.2.2.1, x2.2.2.2.2.2.1, x2.2.2.2.2.2.2.1, x2.2.2.2.2.2.2.2.1, x2.2.2.2.2.2.2.2.2.1, x2.2.2.2.2.2.2.2.2.2.1, x2.2.2.2.2.2.2.2.2.2.2.1, x2.2.2.2.2.2.2.2.2.2.2.2.1, x2.2.2.2.2.2.2.2.2.2.2.2.2.1, x2.2.2.2.2.2.2.2.2.2.2.2.2.2.1, x2.2.2.2.2.2.2.2.2.2.2.2.2.2.2)))))
set_option maxHeartbeats 4000000 in
set_option maxRecDepth 100000 in
theorem c_X12_guest {l : Launch} {D : va_G} {g : Nat → ClassId} {fu : Nat} {o_q0 o_q1 o_q2 o_q3 o_q4 o_q5 o_q6 o_q7 o_q8 o_q9 o_q10 o_q11 o_q12 o_q13 o_q14 o_q15 o_q16 o_q17 o_q18 o_q19 o_q20 o_q21 o_q22 : Nat} {o_code : Int32} {o_tape : (Nat → Int32)} {o_size : (Nat → Int32)} {o_fault : (Nat → Int32)} {o_faultPlace : (Nat → Int32)} {o_many : (Nat → Int32)} {o_towns : (Nat → Int32)} {o_weeks : (Nat → Int32)} {o_logs : (Nat → Int32)} {o_reached : Int32} {o_length : Int32} {o_begins : Int32} {o_sort : Int32} {o_value : Int32} {o_word : Int64} {o_wrongAt : Int32} {o_laterFault : Int32} {o_laterPlace : Int32} {o_told : (Nat → Int32)} {o_read : (Nat → Int32)} {o_farOne : Int32} {o_good : Int32} {o_town : Int32} {o_people : Int32} {o_when : Int32} {o_sat : Int32} {o_quiet : Int32} {o_vain : Int32} {o_lent : Int32} {o_forgiven : Int32} {o_sundays : Int32} {o_purse : (Nat → Int32)} {o_beside : (Nat → Int32)} {o_debts : (Nat → Int32)} {o_sitting : (Nat → Int32)} {o_visited : (Nat → Int32)} {o_week : Int32} {o_heaps : (Nat → Int32)} {o_taken : (Nat → Int32)} {o_best : (Nat → Int32)} {o_more : (Nat → Int32)} {o_firstOne : Int32} {o_log : Int32} {o_fitting : (Nat → Int32)} {o_found : Int32} {o_seed : Int32} {o_row : (Nat → Int32)} {o_saved : (Nat → Int32)} {p1 : Int32} {p2 : Int32} {p3 : Int32} {r : Int64 × Int32 × Int32 × Int32 × Int32 × Int32 × Int32 × Int32 × Int32 × Int32 × Int32 × (Nat → Int32) × (Nat → Int32) × (Nat → Int32) × (Nat → Int32) × (Nat → Int32)} (hf : f_X12_guest fu o_code o_many o_towns o_town o_people o_when o_sat o_quiet o_vain o_lent o_forgiven o_sundays o_purse o_beside o_debts o_sitting o_visited p1 p2 p3 = some r) : Wr l D (gy g) yX12_guest cX12_guest 7 (some .long) 3 [.ref o_q0, .int p1, .int p2, .int p3] (wMd g o_q0 o_q1 o_q2 o_q3 o_q4 o_q5 o_q6 o_q7 o_q8 o_q9 o_q10 o_q11 o_q12 o_q13 o_q14 o_q15 o_q16 o_q17 o_q18 o_q19 o_q20 o_q21 o_q22 o_code o_tape o_size o_fault o_faultPlace o_many o_towns o_weeks o_logs o_reached o_length o_begins o_sort o_value o_word o_wrongAt o_laterFault o_laterPlace o_told o_read o_farOne o_good o_town o_people o_when o_sat o_quiet o_vain o_lent o_forgiven o_sundays o_purse o_beside o_debts o_sitting o_visited o_week o_heaps o_taken o_best o_more o_firstOne o_log o_fitting o_found o_seed o_row o_saved) (wMd g o_q0 o_q1 o_q2 o_q3 o_q4 o_q5 o_q6 o_q7 o_q8 o_q9 o_q10 o_q11 o_q12 o_q13 o_q14 o_q15 o_q16 o_q17 o_q18 o_q19 o_q20 o_q21 o_q22 r.2.1 o_tape o_size o_fault o_faultPlace o_many o_towns o_weeks o_logs o_reached o_length o_begins o_sort o_value o_word o_wrongAt o_laterFault o_laterPlace o_told o_read o_farOne o_good r.2.2.1 r.2.2.2.1 r.2.2.2.2.1 r.2.2.2.2.2.1 r.2.2.2.2.2.2.1 r.2.2.2.2.2.2.2.1 r.2.2.2.2.2.2.2.2.1 r.2.2.2.2.2.2.2.2.2.1 r.2.2.2.2.2.2.2.2.2.2.1 r.2.2.2.2.2.2.2.2.2.2.2.1 r.2.2.2.2.2.2.2.2.2.2.2.2.1 r.2.2.2.2.2.2.2.2.2.2.2.2.2.1 r.2.2.2.2.2.2.2.2.2.2.2.2.2.2.1 r.2.2.2.2.2.2.2.2.2.2.2.2.2.2.2 o_week o_heaps o_taken o_best o_more o_firstOne o_log o_fitting o_found o_seed o_row o_saved) (some (.long r.1)) := by
  refine Wr.ofL (by decide) (Nat.le_of_ble_eq_true rfl) ?_
  intro p e s m args below meth c Q A S hK hA hret ls hl hW
  have hl : lv_has ls 7 [(0, .ref o_q0), (1, .int p1), (2, .int p2), (3, .int p3)] := hl
  refine lv_aload_n S.1 S.2.1 dX12_guest_0 rfl (lv_at hl 0 rfl) ?_
  refine lv_iconst (v := 0) S.1 S.2.1 dX12_guest_1 ic_0 ?_
  refine pfX12_78 (ws2 := (wMd g o_q0 o_q1 o_q2 o_q3 o_q4 o_q5 o_q6 o_q7 o_q8 o_q9 o_q10 o_q11 o_q12 o_q13 o_q14 o_q15 o_q16 o_q17 o_q18 o_q19 o_q20 o_q21 o_q22 (0 : Int32) o_tape o_size o_fault o_faultPlace o_many o_towns o_weeks o_logs o_reached o_length o_begins o_sort o_value o_word o_wrongAt o_laterFault o_laterPlace o_told o_read o_farOne o_good o_town o_people o_when o_sat o_quiet o_vain o_lent o_forgiven o_sundays o_purse o_beside o_debts o_sitting o_visited o_week o_heaps o_taken o_best o_more o_firstOne o_log o_fitting o_found o_seed o_row o_saved)) S hK hW 0 rfl rfl rfl (Nat.le_of_ble_eq_true rfl) rfl dX12_guest_2 (fun H locs hW => ?_)
  refine lv_iload_n S.1 S.2.1 dX12_guest_5 rfl (lv_at hl 2 rfl) ?_
  refine lv_iconst (v := 0) S.1 S.2.1 dX12_guest_6 ic_0 ?_
  refine lv_bipush (v := 99) S.1 S.2.1 dX12_guest_7 bp_99 ?_
  obtain ⟨x1, hx1, hf⟩ := bnd_e hf
  refine Rd.cS (c_X12_in hx1) S hK va_P.nil kSX12_90 rfl hl.1 [] rfl (Nat.le_of_ble_eq_true rfl) ⟨(Nat.le_of_ble_eq_true rfl), (Nat.le_of_ble_eq_true rfl)⟩ ⟨(Nat.zero_le _), (Nat.zero_le _)⟩ dX12_guest_9 ?_
  refine lv_if_eq (tgt := 30) S.1 S.2.1 dX12_guest_12 (by decide) (fun c_ => ?_) (fun c_ => ?_)
  · have hf := it_p c_ hf
    refine lv_ldc2 (v := (-1)) S.1 S.2.1 S.2.2.2.1 (S.2.2.2.2 _ q_1499) dX12_guest_30 ?_
    have e_ := Option.some.inj hf
    subst e_
    exact hret _ _ _ _ dX12_guest_33 hW
  · have hf := it_n c_ hf
    refine lv_aload_n S.1 S.2.1 dX12_guest_15 rfl (lv_at hl 0 rfl) ?_
    refine lv_iload_n S.1 S.2.1 dX12_guest_16 rfl (lv_at hl 1 rfl) ?_
    obtain ⟨x2, hx2, hf⟩ := bnd_e hf
    refine Wr.goW (Wr.runV (c_X12_hand hx2) S hK hW.1 hW.2.1 0 10 rfl rfl kVX12_257 rfl hl.1 [] rfl (Nat.le_of_ble_eq_true rfl) ⟨(Nat.le_of_ble_eq_true rfl), (Nat.le_of_ble_eq_true rfl)⟩ ⟨(Nat.zero_le _), (Nat.zero_le _)⟩ dX12_guest_17) hW hA (fun H locs hW => ?_)
    refine lv_if_eq (tgt := 30) S.1 S.2.1 dX12_guest_20 (by decide) (fun c_ => ?_) (fun c_ => ?_)
    · have hf := it_p c_ hf
      refine lv_ldc2 (v := (-1)) S.1 S.2.1 S.2.2.2.1 (S.2.2.2.2 _ q_1499) dX12_guest_30 ?_
      have e_ := Option.some.inj hf
      subst e_
      exact hret _ _ _ _ dX12_guest_33 hW
    · have hf := it_n c_ hf
      refine lv_aload_n S.1 S.2.1 dX12_guest_23 rfl (lv_at hl 0 rfl) ?_
      refine gfX12_230 S hK hW.1 0 rfl rfl dX12_guest_24 ?_
      refine lv_if_ne (tgt := 34) S.1 S.2.1 dX12_guest_27 (by decide) (fun c_ => ?_) (fun c_ => ?_)
      · have hf := it_n c_ hf
        refine lv_lconst (v := 0) S.1 S.2.1 dX12_guest_34 rfl ?_
        refine lv_lstore (lv' := [(4, .long (0 : Int64)), (0, .ref o_q0), (1, .int p1), (2, .int p2), (3, .int p3)]) S.1 S.2.1 dX12_guest_35 hl (by decide) rfl (fun ls hl => ?_)
        refine lv_iconst (v := 0) S.1 S.2.1 dX12_guest_37 ic_0 ?_
        refine lv_istore (lv' := [(6, .int (0 : Int32)), (4, .long (0 : Int64)), (0, .ref o_q0), (1, .int p1), (2, .int p2), (3, .int p3)]) S.1 S.2.1 dX12_guest_38 hl (by decide) rfl (fun ls hl => ?_)
        obtain ⟨x5, hf_, hk5⟩ := bnd_e hf
        have hE5 : ∀ (v10 : Int64), v10 = x5 → ∀ (ls : Array Slot) (H : Heap) (locs : List Loc), lv_has ls 7 [(0, .ref o_q0), (3, .int p3), (4, .long v10)] → St A s.heap D (wMd g o_q0 o_q1 o_q2 o_q3 o_q4 o_q5 o_q6 o_q7 o_q8 o_q9 o_q10 o_q11 o_q12 o_q13 o_q14 o_q15 o_q16 o_q17 o_q18 o_q19 o_q20 o_q21 o_q22 (0 : Int32) o_tape o_size o_fault o_faultPlace o_many o_towns o_weeks o_logs o_reached o_length o_begins o_sort o_value o_word o_wrongAt o_laterFault o_laterPlace o_told o_read o_farOne o_good x2.2.1 x2.2.2.1 x2.2.2.2.1 x2.2.2.2.2.1 x2.2.2.2.2.2.1 x2.2.2.2.2.2.2.1 x2.2.2.2.2.2.2.2.1 x2.2.2.2.2.2.2.2.2.1 x2.2.2.2.2.2.2.2.2.2.1 x2.2.2.2.2.2.2.2.2.2.2.1 x2.2.2.2.2.2.2.2.2.2.2.2.1 x2.2.2.2.2.2.2.2.2.2.2.2.2.1 x2.2.2.2.2.2.2.2.2.2.2.2.2.2.1 x2.2.2.2.2.2.2.2.2.2.2.2.2.2.2 o_week o_heaps o_taken o_best o_more o_firstOne o_log o_fitting o_found o_seed o_row o_saved) H locs → W p l e (rmD 3) s m args below meth c H locs 0 0 Q (F0 m 76 ls []) := by
          intro v10 e_ ls H locs hl hW
          subst e_
          have hf := hk5
          refine lv_lload S.1 S.2.1 dX12_guest_76 (lv_at hl 2 rfl) ?_
          refine lv_aload_n S.1 S.2.1 dX12_guest_78 rfl (lv_at hl 0 rfl) ?_
          refine gfX12_230 S hK hW.1 0 rfl rfl dX12_guest_79 ?_
          refine lv_i2l (v := (x2.2.2.1.toInt64)) S.1 S.2.1 dX12_guest_82 rfl ?_
          refine lv_iload_n S.1 S.2.1 dX12_guest_83 rfl (lv_at hl 1 rfl) ?_
          obtain ⟨x11, hx11, hf⟩ := bnd_e hf
          refine Rd.cS (c_X12_part hx11) S hK va_P.nil kSX12_379 rfl hl.1 [] rfl (Nat.le_of_ble_eq_true rfl) ⟨(Nat.le_of_ble_eq_true rfl), (Nat.le_of_ble_eq_true rfl)⟩ ⟨(Nat.zero_le _), (Nat.zero_le _)⟩ dX12_guest_84 ?_
          have e_ := Option.some.inj hf
          subst e_
          exact hret _ _ _ _ dX12_guest_87 hW
        refine lp_ind (P := fun (s4 : Int64 × Int32) => ∀ (ls : Array Slot) (H : Heap) (locs : List Loc), lv_has ls 7 [(0, .ref o_q0), (2, .int p2), (3, .int p3), (4, .long s4.1), (6, .int s4.2)] → St A s.heap D (wMd g o_q0 o_q1 o_q2 o_q3 o_q4 o_q5 o_q6 o_q7 o_q8 o_q9 o_q10 o_q11 o_q12 o_q13 o_q14 o_q15 o_q16 o_q17 o_q18 o_q19 o_q20 o_q21 o_q22 (0 : Int32) o_tape o_size o_fault o_faultPlace o_many o_towns o_weeks o_logs o_reached o_length o_begins o_sort o_value o_word o_wrongAt o_laterFault o_laterPlace o_told o_read o_farOne o_good x2.2.1 x2.2.2.1 x2.2.2.2.1 x2.2.2.2.2.1 x2.2.2.2.2.2.1 x2.2.2.2.2.2.2.1 x2.2.2.2.2.2.2.2.1 x2.2.2.2.2.2.2.2.2.1 x2.2.2.2.2.2.2.2.2.2.1 x2.2.2.2.2.2.2.2.2.2.2.1 x2.2.2.2.2.2.2.2.2.2.2.2.1 x2.2.2.2.2.2.2.2.2.2.2.2.2.1 x2.2.2.2.2.2.2.2.2.2.2.2.2.2.1 x2.2.2.2.2.2.2.2.2.2.2.2.2.2.2 o_week o_heaps o_taken o_best o_more o_firstOne o_log o_fitting o_found o_seed o_row o_saved) H locs → W p l e (rmD 3) s m args below meth c H locs 0 0 Q (F0 m 40 ls [])) ?_ _ _ hf_ _ _ _ (lv_sub hl [2, 4, 5, 1, 0] rfl) hW
        intro s4 x6 hf hI5 hR5 ls H locs hl hW
        refine lv_iload S.1 S.2.1 dX12_guest_40 (lv_at hl 4 rfl) ?_
        refine lv_aload_n S.1 S.2.1 dX12_guest_42 rfl (lv_at hl 0 rfl) ?_
        refine gfX12_230 S hK hW.1 0 rfl rfl dX12_guest_43 ?_
        refine lv_icmp_ge (tgt := 76) S.1 S.2.1 dX12_guest_46 (by decide) (fun c_ => ?_) (fun c_ => ?_)
        · have hf := it_p c_ hf
          have e_ := hR5 _ (Option.some.inj hf).symm
          exact hE5 _ e_ _ _ _ (lv_sub hl [0, 2, 3] rfl) hW
        · have hf := it_n c_ hf
          refine lv_lload S.1 S.2.1 dX12_guest_49 (lv_at hl 3 rfl) ?_
          refine lv_aload_n S.1 S.2.1 dX12_guest_51 rfl (lv_at hl 0 rfl) ?_
          refine gfX12_41 S hK hW.1 0 rfl rfl dX12_guest_52 ?_
          refine lv_iload S.1 S.2.1 dX12_guest_55 (lv_at hl 4 rfl) ?_
          obtain ⟨x7, hx7, hf⟩ := bnd_e hf
          refine q_iald S hK hW.1 11 0 rfl rfl hx7 dX12_guest_57 ?_
          refine lv_iload_n S.1 S.2.1 dX12_guest_58 rfl (lv_at hl 1 rfl) ?_
          refine lv_icmp_lt (tgt := 66) S.1 S.2.1 dX12_guest_59 (by decide) (fun c_ => ?_) (fun c_ => ?_)
          · have hf := it_p c_ hf
            refine lv_lconst (v := 0) S.1 S.2.1 dX12_guest_66 rfl ?_
            refine lv_ladd S.1 S.2.1 dX12_guest_67 ?_
            refine lv_topl (fun x8 ex8 => ?_)
            have hf := ltn_e hf ex8
            refine lv_lstore (lv' := [(4, .long x8), (0, .ref o_q0), (2, .int p2), (3, .int p3), (6, .int s4.2)]) S.1 S.2.1 dX12_guest_68 hl (by decide) rfl (fun ls hl => ?_)
            refine q_iinc (w := 1) (lv' := [(6, .int (s4.2 + 1)), (4, .long x8), (0, .ref o_q0), (2, .int p2), (3, .int p3)]) S dX12_guest_70 hl (k := 4) rfl ic_1 (by decide) rfl (fun ls hl => ?_)
            refine lv_goto (tgt := 40) S.1 S.2.1 dX12_guest_73 (by decide) ?_
            exact hI5 _ (Option.some.inj hf).symm _ _ _ (lv_sub hl [2, 3, 4, 1, 0] rfl) hW
          · have hf := it_n c_ hf
            refine lv_lconst (v := 1) S.1 S.2.1 dX12_guest_62 rfl ?_
            refine lv_goto (tgt := 67) S.1 S.2.1 dX12_guest_63 (by decide) ?_
            refine lv_ladd S.1 S.2.1 dX12_guest_67 ?_
            refine lv_topl (fun x9 ex9 => ?_)
            have hf := ltn_e hf ex9
            refine lv_lstore (lv' := [(4, .long x9), (0, .ref o_q0), (2, .int p2), (3, .int p3), (6, .int s4.2)]) S.1 S.2.1 dX12_guest_68 hl (by decide) rfl (fun ls hl => ?_)
            refine q_iinc (w := 1) (lv' := [(6, .int (s4.2 + 1)), (4, .long x9), (0, .ref o_q0), (2, .int p2), (3, .int p3)]) S dX12_guest_70 hl (k := 4) rfl ic_1 (by decide) rfl (fun ls hl => ?_)
            refine lv_goto (tgt := 40) S.1 S.2.1 dX12_guest_73 (by decide) ?_
            exact hI5 _ (Option.some.inj hf).symm _ _ _ (lv_sub hl [2, 3, 4, 1, 0] rfl) hW
      · have hf := it_p c_ hf
        refine lv_ldc2 (v := (-1)) S.1 S.2.1 S.2.2.2.1 (S.2.2.2.2 _ q_1499) dX12_guest_30 ?_
        have e_ := Option.some.inj hf
        subst e_
        exact hret _ _ _ _ dX12_guest_33 hW
def f_X12_mostOf_L7 (fu : Nat) (o_people : Int32) (o_sitting : (Nat → Int32)) (o_visited : (Nat → Int32)) (p1 : Int32) (s2 : Int32 × Int32 × Int32) : Option ((Int32 × Int32 × Int32) ⊕ (Int32)) := if o_people ≤ s2.2.2 then some (.inr s2.1) else bnd (α := Int32) (if p1 = 0 then bnd (α := Int32) (rdi 6 o_sitting s2.2.2) (fun x9 => some x9) else bnd (α := Int32) (rdi 6 o_visited s2.2.2) (fun x10 => some x10)) (fun v6 => if v6 ≤ s2.2.1 then bnd (α := Int32) (f_X12_greater fu s2.2.1 v6) (fun x7 => some (.inl (s2.1, x7, (s2.2.2 + 1)))) else bnd (α := Int32) (f_X12_greater fu s2.2.1 v6) (fun x8 => some (.inl (s2.2.2, x8, (s2.2.2 + 1)))))
def f_X12_mostOf (fu : Nat) (o_people : Int32) (o_sitting : (Nat → Int32)) (o_visited : (Nat → Int32)) (p1 : Int32) : Option (Int32) := bnd (α := Int32) (lp (f_X12_mostOf_L7 fu o_people o_sitting o_visited p1) fu ((-1 : Int32), (0 : Int32), (0 : Int32))) (fun v11 => some v11)
set_option maxHeartbeats 4000000 in
set_option maxRecDepth 100000 in
theorem c_X12_mostOf {l : Launch} {D : va_G} {g : Nat → ClassId} {fu : Nat} {o_q0 o_q1 o_q2 o_q3 o_q4 o_q5 o_q6 o_q7 o_q8 o_q9 o_q10 o_q11 o_q12 o_q13 o_q14 o_q15 o_q16 o_q17 o_q18 o_q19 o_q20 o_q21 o_q22 : Nat} {o_code : Int32} {o_tape : (Nat → Int32)} {o_size : (Nat → Int32)} {o_fault : (Nat → Int32)} {o_faultPlace : (Nat → Int32)} {o_many : (Nat → Int32)} {o_towns : (Nat → Int32)} {o_weeks : (Nat → Int32)} {o_logs : (Nat → Int32)} {o_reached : Int32} {o_length : Int32} {o_begins : Int32} {o_sort : Int32} {o_value : Int32} {o_word : Int64} {o_wrongAt : Int32} {o_laterFault : Int32} {o_laterPlace : Int32} {o_told : (Nat → Int32)} {o_read : (Nat → Int32)} {o_farOne : Int32} {o_good : Int32} {o_town : Int32} {o_people : Int32} {o_when : Int32} {o_sat : Int32} {o_quiet : Int32} {o_vain : Int32} {o_lent : Int32} {o_forgiven : Int32} {o_sundays : Int32} {o_purse : (Nat → Int32)} {o_beside : (Nat → Int32)} {o_debts : (Nat → Int32)} {o_sitting : (Nat → Int32)} {o_visited : (Nat → Int32)} {o_week : Int32} {o_heaps : (Nat → Int32)} {o_taken : (Nat → Int32)} {o_best : (Nat → Int32)} {o_more : (Nat → Int32)} {o_firstOne : Int32} {o_log : Int32} {o_fitting : (Nat → Int32)} {o_found : Int32} {o_seed : Int32} {o_row : (Nat → Int32)} {o_saved : (Nat → Int32)} {p1 : Int32} {r : Int32} (hf : f_X12_mostOf fu o_people o_sitting o_visited p1 = some r) : Rd l D (gy g) yX12_mostOf cX12_mostOf 6 (some .int) 1 [.ref o_q0, .int p1] (wMd g o_q0 o_q1 o_q2 o_q3 o_q4 o_q5 o_q6 o_q7 o_q8 o_q9 o_q10 o_q11 o_q12 o_q13 o_q14 o_q15 o_q16 o_q17 o_q18 o_q19 o_q20 o_q21 o_q22 o_code o_tape o_size o_fault o_faultPlace o_many o_towns o_weeks o_logs o_reached o_length o_begins o_sort o_value o_word o_wrongAt o_laterFault o_laterPlace o_told o_read o_farOne o_good o_town o_people o_when o_sat o_quiet o_vain o_lent o_forgiven o_sundays o_purse o_beside o_debts o_sitting o_visited o_week o_heaps o_taken o_best o_more o_firstOne o_log o_fitting o_found o_seed o_row o_saved) (some (.int r)) := by
  refine Rd.ofI (by decide) (Nat.le_of_ble_eq_true rfl) ?_
  intro p e s m args below meth c Q S hK hP hret ls hl
  have hl : lv_has ls 6 [(0, .ref o_q0), (1, .int p1)] := hl
  refine lv_iconst (v := (-1)) S.1 S.2.1 dX12_mostOf_0 ic_m1 ?_
  refine lv_istore_n (lv' := [(2, .int (-1 : Int32)), (0, .ref o_q0), (1, .int p1)]) S.1 S.2.1 dX12_mostOf_1 rfl hl (by decide) rfl (fun ls hl => ?_)
  refine lv_iconst (v := 0) S.1 S.2.1 dX12_mostOf_2 ic_0 ?_
  refine lv_istore_n (lv' := [(3, .int (0 : Int32)), (2, .int (-1 : Int32)), (0, .ref o_q0), (1, .int p1)]) S.1 S.2.1 dX12_mostOf_3 rfl hl (by decide) rfl (fun ls hl => ?_)
  refine lv_iconst (v := 0) S.1 S.2.1 dX12_mostOf_4 ic_0 ?_
  refine lv_istore (lv' := [(4, .int (0 : Int32)), (3, .int (0 : Int32)), (2, .int (-1 : Int32)), (0, .ref o_q0), (1, .int p1)]) S.1 S.2.1 dX12_mostOf_5 hl (by decide) rfl (fun ls hl => ?_)
  obtain ⟨x3, hf_, hk3⟩ := bnd_e hf
  have hE3 : ∀ (v11 : Int32), v11 = x3 → ∀ (ls : Array Slot), lv_has ls 6 [(2, .int v11)] → W p l e (rmD 1) s m args below meth c s.heap [] 0 0 Q (F0 m 65 ls []) := by
    intro v11 e_ ls hl
    subst e_
    have hf := hk3
    refine lv_iload_n S.1 S.2.1 dX12_mostOf_65 rfl (lv_at hl 0 rfl) ?_
    have e_ := Option.some.inj hf
    subst e_
    exact hret _ _ dX12_mostOf_66
  refine lp_ind (P := fun (s2 : Int32 × Int32 × Int32) => ∀ (ls : Array Slot), lv_has ls 6 [(0, .ref o_q0), (1, .int p1), (2, .int s2.1), (3, .int s2.2.1), (4, .int s2.2.2)] → W p l e (rmD 1) s m args below meth c s.heap [] 0 0 Q (F0 m 7 ls [])) ?_ _ _ hf_ _ (lv_sub hl [3, 4, 2, 1, 0] rfl)
  intro s2 x4 hf hI3 hR3 ls hl
  refine lv_iload S.1 S.2.1 dX12_mostOf_7 (lv_at hl 4 rfl) ?_
  refine lv_aload_n S.1 S.2.1 dX12_mostOf_9 rfl (lv_at hl 0 rfl) ?_
  refine gfX12_230 S hK hP 0 rfl rfl dX12_mostOf_10 ?_
  refine lv_icmp_ge (tgt := 65) S.1 S.2.1 dX12_mostOf_13 (by decide) (fun c_ => ?_) (fun c_ => ?_)
  · have hf := it_p c_ hf
    have e_ := hR3 _ (Option.some.inj hf).symm
    exact hE3 _ e_ _ (lv_sub hl [2] rfl)
  · have hf := it_n c_ hf
    refine lv_iload_n S.1 S.2.1 dX12_mostOf_16 rfl (lv_at hl 1 rfl) ?_
    obtain ⟨x5, hf_, hk5⟩ := bnd_e hf
    have hJ5 : ∀ (v6 : Int32), v6 = x5 → ∀ (ls : Array Slot), lv_has ls 6 [(0, .ref o_q0), (1, .int p1), (2, .int s2.1), (3, .int s2.2.1), (4, .int s2.2.2)] → W p l e (rmD 1) s m args below meth c s.heap [] 0 0 Q (F0 m 37 ls [.int v6]) := by
      intro v6 e_ ls hl
      subst e_
      have hf := hk5
      refine lv_istore (lv' := [(5, .int v6), (0, .ref o_q0), (1, .int p1), (2, .int s2.1), (3, .int s2.2.1), (4, .int s2.2.2)]) S.1 S.2.1 dX12_mostOf_37 hl (by decide) rfl (fun ls hl => ?_)
      refine lv_iload S.1 S.2.1 dX12_mostOf_39 (lv_at hl 0 rfl) ?_
      refine lv_iload_n S.1 S.2.1 dX12_mostOf_41 rfl (lv_at hl 4 rfl) ?_
      refine lv_icmp_le (tgt := 50) S.1 S.2.1 dX12_mostOf_42 (by decide) (fun c_ => ?_) (fun c_ => ?_)
      · have hf := it_p c_ hf
        refine lv_iload_n S.1 S.2.1 dX12_mostOf_50 rfl (lv_at hl 3 rfl) ?_
        refine lv_istore_n (lv' := [(2, .int s2.1), (5, .int v6), (0, .ref o_q0), (1, .int p1), (3, .int s2.2.1), (4, .int s2.2.2)]) S.1 S.2.1 dX12_mostOf_51 rfl hl (by decide) rfl (fun ls hl => ?_)
        refine lv_iload_n S.1 S.2.1 dX12_mostOf_52 rfl (lv_at hl 4 rfl) ?_
        refine lv_iload S.1 S.2.1 dX12_mostOf_53 (lv_at hl 1 rfl) ?_
        obtain ⟨x7, hx7, hf⟩ := bnd_e hf
        refine Rd.cS (c_X12_greater hx7) S hK va_P.nil kSX12_171 rfl hl.1 [] rfl (Nat.le_of_ble_eq_true rfl) ⟨(Nat.le_of_ble_eq_true rfl), (Nat.le_of_ble_eq_true rfl)⟩ ⟨(Nat.zero_le _), (Nat.zero_le _)⟩ dX12_mostOf_55 ?_
        refine lv_istore_n (lv' := [(3, .int x7), (2, .int s2.1), (5, .int v6), (0, .ref o_q0), (1, .int p1), (4, .int s2.2.2)]) S.1 S.2.1 dX12_mostOf_58 rfl hl (by decide) rfl (fun ls hl => ?_)
        refine q_iinc (w := 1) (lv' := [(4, .int (s2.2.2 + 1)), (3, .int x7), (2, .int s2.1), (5, .int v6), (0, .ref o_q0), (1, .int p1)]) S dX12_mostOf_59 hl (k := 5) rfl ic_1 (by decide) rfl (fun ls hl => ?_)
        refine lv_goto (tgt := 7) S.1 S.2.1 dX12_mostOf_62 (by decide) ?_
        exact hI3 _ (Option.some.inj hf).symm _ (lv_sub hl [4, 5, 2, 1, 0] rfl)
      · have hf := it_n c_ hf
        refine lv_iload S.1 S.2.1 dX12_mostOf_45 (lv_at hl 5 rfl) ?_
        refine lv_goto (tgt := 51) S.1 S.2.1 dX12_mostOf_47 (by decide) ?_
        refine lv_istore_n (lv' := [(2, .int s2.2.2), (5, .int v6), (0, .ref o_q0), (1, .int p1), (3, .int s2.2.1), (4, .int s2.2.2)]) S.1 S.2.1 dX12_mostOf_51 rfl hl (by decide) rfl (fun ls hl => ?_)
        refine lv_iload_n S.1 S.2.1 dX12_mostOf_52 rfl (lv_at hl 4 rfl) ?_
        refine lv_iload S.1 S.2.1 dX12_mostOf_53 (lv_at hl 1 rfl) ?_
        obtain ⟨x8, hx8, hf⟩ := bnd_e hf
        refine Rd.cS (c_X12_greater hx8) S hK va_P.nil kSX12_171 rfl hl.1 [] rfl (Nat.le_of_ble_eq_true rfl) ⟨(Nat.le_of_ble_eq_true rfl), (Nat.le_of_ble_eq_true rfl)⟩ ⟨(Nat.zero_le _), (Nat.zero_le _)⟩ dX12_mostOf_55 ?_
        refine lv_istore_n (lv' := [(3, .int x8), (2, .int s2.2.2), (5, .int v6), (0, .ref o_q0), (1, .int p1), (4, .int s2.2.2)]) S.1 S.2.1 dX12_mostOf_58 rfl hl (by decide) rfl (fun ls hl => ?_)
        refine q_iinc (w := 1) (lv' := [(4, .int (s2.2.2 + 1)), (3, .int x8), (2, .int s2.2.2), (5, .int v6), (0, .ref o_q0), (1, .int p1)]) S dX12_mostOf_59 hl (k := 5) rfl ic_1 (by decide) rfl (fun ls hl => ?_)
        refine lv_goto (tgt := 7) S.1 S.2.1 dX12_mostOf_62 (by decide) ?_
        exact hI3 _ (Option.some.inj hf).symm _ (lv_sub hl [4, 5, 2, 1, 0] rfl)
    have hf := hf_
    refine lv_if_eq (tgt := 30) S.1 S.2.1 dX12_mostOf_17 (by decide) (fun c_ => ?_) (fun c_ => ?_)
    · have hf := it_p c_ hf
      refine lv_aload_n S.1 S.2.1 dX12_mostOf_30 rfl (lv_at hl 0 rfl) ?_
      refine gfX12_50 S hK hP 0 rfl rfl dX12_mostOf_31 ?_
      refine lv_iload S.1 S.2.1 dX12_mostOf_34 (lv_at hl 4 rfl) ?_
      obtain ⟨x9, hx9, hf⟩ := bnd_e hf
      refine q_iald S hK hP 14 0 rfl rfl hx9 dX12_mostOf_36 ?_
      exact hJ5 _ (Option.some.inj hf) _ (lv_sub hl [0, 1, 2, 3, 4] rfl)
    · have hf := it_n c_ hf
      refine lv_aload_n S.1 S.2.1 dX12_mostOf_20 rfl (lv_at hl 0 rfl) ?_
      refine gfX12_53 S hK hP 0 rfl rfl dX12_mostOf_21 ?_
      refine lv_iload S.1 S.2.1 dX12_mostOf_24 (lv_at hl 4 rfl) ?_
      obtain ⟨x10, hx10, hf⟩ := bnd_e hf
      refine q_iald S hK hP 15 0 rfl rfl hx10 dX12_mostOf_26 ?_
      refine lv_goto (tgt := 37) S.1 S.2.1 dX12_mostOf_27 (by decide) ?_
      exact hJ5 _ (Option.some.inj hf) _ (lv_sub hl [0, 1, 2, 3, 4] rfl)
def f_X12_freeOnes_L4 (fu : Nat) (o_people : Int32) (o_debts : (Nat → Int32)) (s2 : Int32 × Int32) : Option ((Int32 × Int32) ⊕ (Int32)) := if o_people ≤ s2.2 then some (.inr s2.1) else bnd (α := Int32) (f_X12_owesAll fu o_people o_debts s2.2) (fun x5 => if x5 = 0 then ltn (s2.1 ||| (jshl (1 : Int32) s2.2)) (fun x6 => some (.inl (x6, (s2.2 + 1)))) else ltn (s2.1 ||| (0 : Int32)) (fun x7 => some (.inl (x7, (s2.2 + 1)))))
def f_X12_freeOnes (fu : Nat) (o_people : Int32) (o_debts : (Nat → Int32)) : Option (Int32) := bnd (α := Int32) (lp (f_X12_freeOnes_L4 fu o_people o_debts) fu ((0 : Int32), (0 : Int32))) (fun v8 => some v8)
set_option maxHeartbeats 4000000 in
set_option maxRecDepth 100000 in
theorem c_X12_freeOnes {l : Launch} {D : va_G} {g : Nat → ClassId} {fu : Nat} {o_q0 o_q1 o_q2 o_q3 o_q4 o_q5 o_q6 o_q7 o_q8 o_q9 o_q10 o_q11 o_q12 o_q13 o_q14 o_q15 o_q16 o_q17 o_q18 o_q19 o_q20 o_q21 o_q22 : Nat} {o_code : Int32} {o_tape : (Nat → Int32)} {o_size : (Nat → Int32)} {o_fault : (Nat → Int32)} {o_faultPlace : (Nat → Int32)} {o_many : (Nat → Int32)} {o_towns : (Nat → Int32)} {o_weeks : (Nat → Int32)} {o_logs : (Nat → Int32)} {o_reached : Int32} {o_length : Int32} {o_begins : Int32} {o_sort : Int32} {o_value : Int32} {o_word : Int64} {o_wrongAt : Int32} {o_laterFault : Int32} {o_laterPlace : Int32} {o_told : (Nat → Int32)} {o_read : (Nat → Int32)} {o_farOne : Int32} {o_good : Int32} {o_town : Int32} {o_people : Int32} {o_when : Int32} {o_sat : Int32} {o_quiet : Int32} {o_vain : Int32} {o_lent : Int32} {o_forgiven : Int32} {o_sundays : Int32} {o_purse : (Nat → Int32)} {o_beside : (Nat → Int32)} {o_debts : (Nat → Int32)} {o_sitting : (Nat → Int32)} {o_visited : (Nat → Int32)} {o_week : Int32} {o_heaps : (Nat → Int32)} {o_taken : (Nat → Int32)} {o_best : (Nat → Int32)} {o_more : (Nat → Int32)} {o_firstOne : Int32} {o_log : Int32} {o_fitting : (Nat → Int32)} {o_found : Int32} {o_seed : Int32} {o_row : (Nat → Int32)} {o_saved : (Nat → Int32)} {r : Int32} (hf : f_X12_freeOnes fu o_people o_debts = some r) : Rd l D (gy g) yX12_freeOnes cX12_freeOnes 3 (some .int) 2 [.ref o_q0] (wMd g o_q0 o_q1 o_q2 o_q3 o_q4 o_q5 o_q6 o_q7 o_q8 o_q9 o_q10 o_q11 o_q12 o_q13 o_q14 o_q15 o_q16 o_q17 o_q18 o_q19 o_q20 o_q21 o_q22 o_code o_tape o_size o_fault o_faultPlace o_many o_towns o_weeks o_logs o_reached o_length o_begins o_sort o_value o_word o_wrongAt o_laterFault o_laterPlace o_told o_read o_farOne o_good o_town o_people o_when o_sat o_quiet o_vain o_lent o_forgiven o_sundays o_purse o_beside o_debts o_sitting o_visited o_week o_heaps o_taken o_best o_more o_firstOne o_log o_fitting o_found o_seed o_row o_saved) (some (.int r)) := by
  refine Rd.ofI (by decide) (Nat.le_of_ble_eq_true rfl) ?_
  intro p e s m args below meth c Q S hK hP hret ls hl
  have hl : lv_has ls 3 [(0, .ref o_q0)] := hl
  refine lv_iconst (v := 0) S.1 S.2.1 dX12_freeOnes_0 ic_0 ?_
  refine lv_istore_n (lv' := [(1, .int (0 : Int32)), (0, .ref o_q0)]) S.1 S.2.1 dX12_freeOnes_1 rfl hl (by decide) rfl (fun ls hl => ?_)
  refine lv_iconst (v := 0) S.1 S.2.1 dX12_freeOnes_2 ic_0 ?_
  refine lv_istore_n (lv' := [(2, .int (0 : Int32)), (1, .int (0 : Int32)), (0, .ref o_q0)]) S.1 S.2.1 dX12_freeOnes_3 rfl hl (by decide) rfl (fun ls hl => ?_)
  obtain ⟨x3, hf_, hk3⟩ := bnd_e hf
  have hE3 : ∀ (v8 : Int32), v8 = x3 → ∀ (ls : Array Slot), lv_has ls 3 [(1, .int v8)] → W p l e (rmD 2) s m args below meth c s.heap [] 0 0 Q (F0 m 36 ls []) := by
    intro v8 e_ ls hl
    subst e_
    have hf := hk3
    refine lv_iload_n S.1 S.2.1 dX12_freeOnes_36 rfl (lv_at hl 0 rfl) ?_
    have e_ := Option.some.inj hf
    subst e_
    exact hret _ _ dX12_freeOnes_37
  refine lp_ind (P := fun (s2 : Int32 × Int32) => ∀ (ls : Array Slot), lv_has ls 3 [(0, .ref o_q0), (1, .int s2.1), (2, .int s2.2)] → W p l e (rmD 2) s m args below meth c s.heap [] 0 0 Q (F0 m 4 ls [])) ?_ _ _ hf_ _ (lv_sub hl [2, 1, 0] rfl)
  intro s2 x4 hf hI3 hR3 ls hl
  refine lv_iload_n S.1 S.2.1 dX12_freeOnes_4 rfl (lv_at hl 2 rfl) ?_
  refine lv_aload_n S.1 S.2.1 dX12_freeOnes_5 rfl (lv_at hl 0 rfl) ?_
  refine gfX12_230 S hK hP 0 rfl rfl dX12_freeOnes_6 ?_
  refine lv_icmp_ge (tgt := 36) S.1 S.2.1 dX12_freeOnes_9 (by decide) (fun c_ => ?_) (fun c_ => ?_)
  · have hf := it_p c_ hf
    have e_ := hR3 _ (Option.some.inj hf).symm
    exact hE3 _ e_ _ (lv_sub hl [1] rfl)
  · have hf := it_n c_ hf
    refine lv_iload_n S.1 S.2.1 dX12_freeOnes_12 rfl (lv_at hl 1 rfl) ?_
    refine lv_aload_n S.1 S.2.1 dX12_freeOnes_13 rfl (lv_at hl 0 rfl) ?_
    refine lv_iload_n S.1 S.2.1 dX12_freeOnes_14 rfl (lv_at hl 2 rfl) ?_
    obtain ⟨x5, hx5, hf⟩ := bnd_e hf
    refine Rd.cV (c_X12_owesAll hx5) S hK hP 0 10 rfl rfl kVX12_311 rfl hl.1 [.int s2.1] rfl (Nat.le_of_ble_eq_true rfl) ⟨(Nat.le_of_ble_eq_true rfl), (Nat.le_of_ble_eq_true rfl)⟩ ⟨(Nat.zero_le _), (Nat.zero_le _)⟩ dX12_freeOnes_15 ?_
    refine lv_if_ne (tgt := 27) S.1 S.2.1 dX12_freeOnes_18 (by decide) (fun c_ => ?_) (fun c_ => ?_)
    · have hf := it_n c_ hf
      refine lv_iconst (v := 0) S.1 S.2.1 dX12_freeOnes_27 ic_0 ?_
      refine lv_ior S.1 S.2.1 dX12_freeOnes_28 ?_
      refine lv_topi (fun x7 ex7 => ?_)
      have hf := ltn_e hf ex7
      refine lv_istore_n (lv' := [(1, .int x7), (0, .ref o_q0), (2, .int s2.2)]) S.1 S.2.1 dX12_freeOnes_29 rfl hl (by decide) rfl (fun ls hl => ?_)
      refine q_iinc (w := 1) (lv' := [(2, .int (s2.2 + 1)), (1, .int x7), (0, .ref o_q0)]) S dX12_freeOnes_30 hl (k := 2) rfl ic_1 (by decide) rfl (fun ls hl => ?_)
      refine lv_goto (tgt := 4) S.1 S.2.1 dX12_freeOnes_33 (by decide) ?_
      exact hI3 _ (Option.some.inj hf).symm _ (lv_sub hl [2, 1, 0] rfl)
    · have hf := it_p c_ hf
      refine lv_iconst (v := 1) S.1 S.2.1 dX12_freeOnes_21 ic_1 ?_
      refine lv_iload_n S.1 S.2.1 dX12_freeOnes_22 rfl (lv_at hl 2 rfl) ?_
      refine lv_ishl S.1 S.2.1 dX12_freeOnes_23 ?_
      refine lv_goto (tgt := 28) S.1 S.2.1 dX12_freeOnes_24 (by decide) ?_
      refine lv_ior S.1 S.2.1 dX12_freeOnes_28 ?_
      refine lv_topi (fun x6 ex6 => ?_)
      have hf := ltn_e hf ex6
      refine lv_istore_n (lv' := [(1, .int x6), (0, .ref o_q0), (2, .int s2.2)]) S.1 S.2.1 dX12_freeOnes_29 rfl hl (by decide) rfl (fun ls hl => ?_)
      refine q_iinc (w := 1) (lv' := [(2, .int (s2.2 + 1)), (1, .int x6), (0, .ref o_q0)]) S dX12_freeOnes_30 hl (k := 2) rfl ic_1 (by decide) rfl (fun ls hl => ?_)
      refine lv_goto (tgt := 4) S.1 S.2.1 dX12_freeOnes_33 (by decide) ?_
      exact hI3 _ (Option.some.inj hf).symm _ (lv_sub hl [2, 1, 0] rfl)
def f_X12_after_L36 (fu : Nat) (o_towns : (Nat → Int32)) (o_weeks : (Nat → Int32)) (x1 : Int32 × Int32 × Int32 × Int32 × Int32 × Int32 × Int32 × Int32 × Int32 × Int32 × (Nat → Int32) × (Nat → Int32) × (Nat → Int32) × (Nat → Int32) × (Nat → Int32) × Int32) (s4 : Int32 × Int32 × Int32 × Int32 × Int32 × Int32 × Int32 × Int32 × Int32 × Int32 × (Nat → Int32) × (Nat → Int32) × (Nat → Int32) × (Nat → Int32) × (Nat → Int32)) : Option ((Int32 × Int32 × Int32 × Int32 × Int32 × Int32 × Int32 × Int32 × Int32 × Int32 × (Nat → Int32) × (Nat → Int32) × (Nat → Int32) × (Nat → Int32) × (Nat → Int32)) ⊕ (Int32 × Int32 × Int32 × Int32 × Int32 × Int32 × Int32 × Int32 × (Nat → Int32) × (Nat → Int32) × (Nat → Int32) × (Nat → Int32) × (Nat → Int32))) := if s4.2.1 = 0 then some (.inr (s4.1, s4.2.2.2.1, s4.2.2.2.2.1, s4.2.2.2.2.2.1, s4.2.2.2.2.2.2.1, s4.2.2.2.2.2.2.2.1, s4.2.2.2.2.2.2.2.2.1, s4.2.2.2.2.2.2.2.2.2.1, s4.2.2.2.2.2.2.2.2.2.2.1, s4.2.2.2.2.2.2.2.2.2.2.2.1, s4.2.2.2.2.2.2.2.2.2.2.2.2.1, s4.2.2.2.2.2.2.2.2.2.2.2.2.2.1, s4.2.2.2.2.2.2.2.2.2.2.2.2.2.2)) else bnd (α := Int32) (f_X12_deeds fu o_weeks x1.2.2.2.2.2.2.2.2.2.2.2.2.2.2.2) (fun x7 => bnd (α := Int32 × Int32 × Int32 × Int32 × Int32 × Int32 × Int32 × Int32 × (Nat → Int32) × (Nat → Int32) × (Nat → Int32) × (Nat → Int32) × (Nat → Int32)) (if x7 ≤ s4.2.2.1 then some ((0 : Int32), s4.2.2.2.1, s4.2.2.2.2.1, s4.2.2.2.2.2.1, s4.2.2.2.2.2.2.1, s4.2.2.2.2.2.2.2.1, s4.2.2.2.2.2.2.2.2.1, s4.2.2.2.2.2.2.2.2.2.1, s4.2.2.2.2.2.2.2.2.2.2.1, s4.2.2.2.2.2.2.2.2.2.2.2.1, s4.2.2.2.2.2.2.2.2.2.2.2.2.1, s4.2.2.2.2.2.2.2.2.2.2.2.2.2.1, s4.2.2.2.2.2.2.2.2.2.2.2.2.2.2) else bnd (α := Int32 × Int32 × Int32 × Int32 × Int32 × Int32 × Int32 × Int32 × (Nat → Int32) × (Nat → Int32) × (Nat → Int32) × (Nat → Int32) × (Nat → Int32)) (f_X12_doesDeed fu o_towns o_weeks x1.2.1 x1.2.2.1 s4.2.2.2.1 s4.2.2.2.2.1 s4.2.2.2.2.2.1 s4.2.2.2.2.2.2.1 s4.2.2.2.2.2.2.2.1 s4.2.2.2.2.2.2.2.2.1 s4.2.2.2.2.2.2.2.2.2.1 s4.2.2.2.2.2.2.2.2.2.2.1 s4.2.2.2.2.2.2.2.2.2.2.2.1 s4.2.2.2.2.2.2.2.2.2.2.2.2.1 s4.2.2.2.2.2.2.2.2.2.2.2.2.2.1 s4.2.2.2.2.2.2.2.2.2.2.2.2.2.2 x1.2.2.2.2.2.2.2.2.2.2.2.2.2.2.2 s4.2.2.1) (fun x10 => if x10.1 = 0 then some ((0 : Int32), x10.2.1, x10.2.2.1, x10.2.2.2.1, x10.2.2.2.2.1, x10.2.2.2.2.2.1, x10.2.2.2.2.2.2.1, x10.2.2.2.2.2.2.2.1, x10.2.2.2.2.2.2.2.2.1, x10.2.2.2.2.2.2.2.2.2.1, x10.2.2.2.2.2.2.2.2.2.2.1, x10.2.2.2.2.2.2.2.2.2.2.2.1, x10.2.2.2.2.2.2.2.2.2.2.2.2) else some ((1 : Int32), x10.2.1, x10.2.2.1, x10.2.2.2.1, x10.2.2.2.2.1, x10.2.2.2.2.2.1, x10.2.2.2.2.2.2.1, x10.2.2.2.2.2.2.2.1, x10.2.2.2.2.2.2.2.2.1, x10.2.2.2.2.2.2.2.2.2.1, x10.2.2.2.2.2.2.2.2.2.2.1, x10.2.2.2.2.2.2.2.2.2.2.2.1, x10.2.2.2.2.2.2.2.2.2.2.2.2))) (fun v9 => if s4.1 = (-1 : Int32) then if v9.2.2.1 ≤ 0 then some (.inl (s4.1, v9.1, (s4.2.2.1 + 1), v9.2.1, v9.2.2.1, v9.2.2.2.1, v9.2.2.2.2.1, v9.2.2.2.2.2.1, v9.2.2.2.2.2.2.1, v9.2.2.2.2.2.2.2.1, v9.2.2.2.2.2.2.2.2.1, v9.2.2.2.2.2.2.2.2.2.1, v9.2.2.2.2.2.2.2.2.2.2.1, v9.2.2.2.2.2.2.2.2.2.2.2.1, v9.2.2.2.2.2.2.2.2.2.2.2.2)) else some (.inl (s4.2.2.1, v9.1, (s4.2.2.1 + 1), v9.2.1, v9.2.2.1, v9.2.2.2.1, v9.2.2.2.2.1, v9.2.2.2.2.2.1, v9.2.2.2.2.2.2.1, v9.2.2.2.2.2.2.2.1, v9.2.2.2.2.2.2.2.2.1, v9.2.2.2.2.2.2.2.2.2.1, v9.2.2.2.2.2.2.2.2.2.2.1, v9.2.2.2.2.2.2.2.2.2.2.2.1, v9.2.2.2.2.2.2.2.2.2.2.2.2)) else some (.inl (s4.1, v9.1, (s4.2.2.1 + 1), v9.2.1, v9.2.2.1, v9.2.2.2.1, v9.2.2.2.2.1, v9.2.2.2.2.2.1, v9.2.2.2.2.2.2.1, v9.2.2.2.2.2.2.2.1, v9.2.2.2.2.2.2.2.2.1, v9.2.2.2.2.2.2.2.2.2.1, v9.2.2.2.2.2.2.2.2.2.2.1, v9.2.2.2.2.2.2.2.2.2.2.2.1, v9.2.2.2.2.2.2.2.2.2.2.2.2))))
def f_X12_after (fu : Nat) (o_code : Int32) (o_many : (Nat → Int32)) (o_towns : (Nat → Int32)) (o_weeks : (Nat → Int32)) (o_town : Int32) (o_people : Int32) (o_when : Int32) (o_sat : Int32) (o_quiet : Int32) (o_vain : Int32) (o_lent : Int32) (o_forgiven : Int32) (o_sundays : Int32) (o_purse : (Nat → Int32)) (o_beside : (Nat → Int32)) (o_debts : (Nat → Int32)) (o_sitting : (Nat → Int32)) (o_visited : (Nat → Int32)) (o_week : Int32) (p1 : Int32) (p2 : Int32) (p3 : Int32) : Option (Int32 × Int32 × Int32 × Int32 × Int32 × Int32 × Int32 × Int32 × Int32 × Int32 × Int32 × (Nat → Int32) × (Nat → Int32) × (Nat → Int32) × (Nat → Int32) × (Nat → Int32) × Int32) := bnd (α := Int32 × Int32 × Int32 × Int32 × Int32 × Int32 × Int32 × Int32 × Int32 × Int32 × (Nat → Int32) × (Nat → Int32) × (Nat → Int32) × (Nat → Int32) × (Nat → Int32) × Int32) (f_X12_layAll fu o_many o_towns o_town o_people o_when o_sat o_quiet o_vain o_lent o_forgiven o_sundays o_purse o_beside o_debts o_sitting o_visited o_week p1 p2) (fun x1 => if x1.1 = 0 then some ((-2 : Int32), (0 : Int32), x1.2.1, x1.2.2.1, x1.2.2.2.1, x1.2.2.2.2.1, x1.2.2.2.2.2.1, x1.2.2.2.2.2.2.1, x1.2.2.2.2.2.2.2.1, x1.2.2.2.2.2.2.2.2.1, x1.2.2.2.2.2.2.2.2.2.1, x1.2.2.2.2.2.2.2.2.2.2.1, x1.2.2.2.2.2.2.2.2.2.2.2.1, x1.2.2.2.2.2.2.2.2.2.2.2.2.1, x1.2.2.2.2.2.2.2.2.2.2.2.2.2.1, x1.2.2.2.2.2.2.2.2.2.2.2.2.2.2.1, x1.2.2.2.2.2.2.2.2.2.2.2.2.2.2.2) else bnd (α := Int32) (f_X12_in fu p3 (0 : Int32) (7 : Int32)) (fun x2 => if x2 = 0 then some ((-2 : Int32), (0 : Int32), x1.2.1, x1.2.2.1, x1.2.2.2.1, x1.2.2.2.2.1, x1.2.2.2.2.2.1, x1.2.2.2.2.2.2.1, x1.2.2.2.2.2.2.2.1, x1.2.2.2.2.2.2.2.2.1, x1.2.2.2.2.2.2.2.2.2.1, x1.2.2.2.2.2.2.2.2.2.2.1, x1.2.2.2.2.2.2.2.2.2.2.2.1, x1.2.2.2.2.2.2.2.2.2.2.2.2.1, x1.2.2.2.2.2.2.2.2.2.2.2.2.2.1, x1.2.2.2.2.2.2.2.2.2.2.2.2.2.2.1, x1.2.2.2.2.2.2.2.2.2.2.2.2.2.2.2) else bnd (α := Int32 × Int32 × Int32 × Int32 × Int32 × Int32 × Int32 × Int32 × (Nat → Int32) × (Nat → Int32) × (Nat → Int32) × (Nat → Int32) × (Nat → Int32)) (lp (f_X12_after_L36 fu o_towns o_weeks x1) fu ((-1 : Int32), (1 : Int32), (0 : Int32), x1.2.2.2.1, x1.2.2.2.2.1, x1.2.2.2.2.2.1, x1.2.2.2.2.2.2.1, x1.2.2.2.2.2.2.2.1, x1.2.2.2.2.2.2.2.2.1, x1.2.2.2.2.2.2.2.2.2.1, x1.2.2.2.2.2.2.2.2.2.2.1, x1.2.2.2.2.2.2.2.2.2.2.2.1, x1.2.2.2.2.2.2.2.2.2.2.2.2.1, x1.2.2.2.2.2.2.2.2.2.2.2.2.2.1, x1.2.2.2.2.2.2.2.2.2.2.2.2.2.2.1)) (fun v11 => if p3 = 0 then some (v11.1, (0 : Int32), x1.2.1, x1.2.2.1, v11.2.1, v11.2.2.1, v11.2.2.2.1, v11.2.2.2.2.1, v11.2.2.2.2.2.1, v11.2.2.2.2.2.2.1, v11.2.2.2.2.2.2.2.1, v11.2.2.2.2.2.2.2.2.1, v11.2.2.2.2.2.2.2.2.2.1, v11.2.2.2.2.2.2.2.2.2.2.1, v11.2.2.2.2.2.2.2.2.2.2.2.1, v11.2.2.2.2.2.2.2.2.2.2.2.2, x1.2.2.2.2.2.2.2.2.2.2.2.2.2.2.2) else if p3 = 1 then if p3 = (2 : Int32) then bnd (α := Int32) (f_X12_mostOf fu x1.2.2.1 v11.2.2.2.2.2.2.2.2.2.2.2.1 v11.2.2.2.2.2.2.2.2.2.2.2.2 (1 : Int32)) (fun x12 => some (x12, (0 : Int32), x1.2.1, x1.2.2.1, v11.2.1, v11.2.2.1, v11.2.2.2.1, v11.2.2.2.2.1, v11.2.2.2.2.2.1, v11.2.2.2.2.2.2.1, v11.2.2.2.2.2.2.2.1, v11.2.2.2.2.2.2.2.2.1, v11.2.2.2.2.2.2.2.2.2.1, v11.2.2.2.2.2.2.2.2.2.2.1, v11.2.2.2.2.2.2.2.2.2.2.2.1, v11.2.2.2.2.2.2.2.2.2.2.2.2, x1.2.2.2.2.2.2.2.2.2.2.2.2.2.2.2)) else bnd (α := Int32) (f_X12_mostOf fu x1.2.2.1 v11.2.2.2.2.2.2.2.2.2.2.2.1 v11.2.2.2.2.2.2.2.2.2.2.2.2 (0 : Int32)) (fun x13 => some (x13, (0 : Int32), x1.2.1, x1.2.2.1, v11.2.1, v11.2.2.1, v11.2.2.2.1, v11.2.2.2.2.1, v11.2.2.2.2.2.1, v11.2.2.2.2.2.2.1, v11.2.2.2.2.2.2.2.1, v11.2.2.2.2.2.2.2.2.1, v11.2.2.2.2.2.2.2.2.2.1, v11.2.2.2.2.2.2.2.2.2.2.1, v11.2.2.2.2.2.2.2.2.2.2.2.1, v11.2.2.2.2.2.2.2.2.2.2.2.2, x1.2.2.2.2.2.2.2.2.2.2.2.2.2.2.2)) else if p3 = 2 then if p3 = (2 : Int32) then bnd (α := Int32) (f_X12_mostOf fu x1.2.2.1 v11.2.2.2.2.2.2.2.2.2.2.2.1 v11.2.2.2.2.2.2.2.2.2.2.2.2 (1 : Int32)) (fun x14 => some (x14, (0 : Int32), x1.2.1, x1.2.2.1, v11.2.1, v11.2.2.1, v11.2.2.2.1, v11.2.2.2.2.1, v11.2.2.2.2.2.1, v11.2.2.2.2.2.2.1, v11.2.2.2.2.2.2.2.1, v11.2.2.2.2.2.2.2.2.1, v11.2.2.2.2.2.2.2.2.2.1, v11.2.2.2.2.2.2.2.2.2.2.1, v11.2.2.2.2.2.2.2.2.2.2.2.1, v11.2.2.2.2.2.2.2.2.2.2.2.2, x1.2.2.2.2.2.2.2.2.2.2.2.2.2.2.2)) else bnd (α := Int32) (f_X12_mostOf fu x1.2.2.1 v11.2.2.2.2.2.2.2.2.2.2.2.1 v11.2.2.2.2.2.2.2.2.2.2.2.2 (0 : Int32)) (fun x15 => some (x15, (0 : Int32), x1.2.1, x1.2.2.1, v11.2.1, v11.2.2.1, v11.2.2.2.1, v11.2.2.2.2.1, v11.2.2.2.2.2.1, v11.2.2.2.2.2.2.1, v11.2.2.2.2.2.2.2.1, v11.2.2.2.2.2.2.2.2.1, v11.2.2.2.2.2.2.2.2.2.1, v11.2.2.2.2.2.2.2.2.2.2.1, v11.2.2.2.2.2.2.2.2.2.2.2.1, v11.2.2.2.2.2.2.2.2.2.2.2.2, x1.2.2.2.2.2.2.2.2.2.2.2.2.2.2.2)) else if p3 = 3 then some (v11.2.2.2.2.1, (0 : Int32), x1.2.1, x1.2.2.1, v11.2.1, v11.2.2.1, v11.2.2.2.1, v11.2.2.2.2.1, v11.2.2.2.2.2.1, v11.2.2.2.2.2.2.1, v11.2.2.2.2.2.2.2.1, v11.2.2.2.2.2.2.2.2.1, v11.2.2.2.2.2.2.2.2.2.1, v11.2.2.2.2.2.2.2.2.2.2.1, v11.2.2.2.2.2.2.2.2.2.2.2.1, v11.2.2.2.2.2.2.2.2.2.2.2.2, x1.2.2.2.2.2.2.2.2.2.2.2.2.2.2.2) else if p3 = 4 then some (v11.2.2.2.2.2.1, (0 : Int32), x1.2.1, x1.2.2.1, v11.2.1, v11.2.2.1, v11.2.2.2.1, v11.2.2.2.2.1, v11.2.2.2.2.2.1, v11.2.2.2.2.2.2.1, v11.2.2.2.2.2.2.2.1, v11.2.2.2.2.2.2.2.2.1, v11.2.2.2.2.2.2.2.2.2.1, v11.2.2.2.2.2.2.2.2.2.2.1, v11.2.2.2.2.2.2.2.2.2.2.2.1, v11.2.2.2.2.2.2.2.2.2.2.2.2, x1.2.2.2.2.2.2.2.2.2.2.2.2.2.2.2) else if p3 = 5 then some (v11.2.2.2.2.2.2.1, (0 : Int32), x1.2.1, x1.2.2.1, v11.2.1, v11.2.2.1, v11.2.2.2.1, v11.2.2.2.2.1, v11.2.2.2.2.2.1, v11.2.2.2.2.2.2.1, v11.2.2.2.2.2.2.2.1, v11.2.2.2.2.2.2.2.2.1, v11.2.2.2.2.2.2.2.2.2.1, v11.2.2.2.2.2.2.2.2.2.2.1, v11.2.2.2.2.2.2.2.2.2.2.2.1, v11.2.2.2.2.2.2.2.2.2.2.2.2, x1.2.2.2.2.2.2.2.2.2.2.2.2.2.2.2) else if p3 = 6 then some (v11.2.2.2.2.2.2.2.1, (0 : Int32), x1.2.1, x1.2.2.1, v11.2.1, v11.2.2.1, v11.2.2.2.1, v11.2.2.2.2.1, v11.2.2.2.2.2.1, v11.2.2.2.2.2.2.1, v11.2.2.2.2.2.2.2.1, v11.2.2.2.2.2.2.2.2.1, v11.2.2.2.2.2.2.2.2.2.1, v11.2.2.2.2.2.2.2.2.2.2.1, v11.2.2.2.2.2.2.2.2.2.2.2.1, v11.2.2.2.2.2.2.2.2.2.2.2.2, x1.2.2.2.2.2.2.2.2.2.2.2.2.2.2.2) else bnd (α := Int32) (f_X12_freeOnes fu x1.2.2.1 v11.2.2.2.2.2.2.2.2.2.2.1) (fun x16 => some (x16, (0 : Int32), x1.2.1, x1.2.2.1, v11.2.1, v11.2.2.1, v11.2.2.2.1, v11.2.2.2.2.1, v11.2.2.2.2.2.1, v11.2.2.2.2.2.2.1, v11.2.2.2.2.2.2.2.1, v11.2.2.2.2.2.2.2.2.1, v11.2.2.2.2.2.2.2.2.2.1, v11.2.2.2.2.2.2.2.2.2.2.1, v11.2.2.2.2.2.2.2.2.2.2.2.1, v11.2.2.2.2.2.2.2.2.2.2.2.2, x1.2.2.2.2.2.2.2.2.2.2.2.2.2.2.2)))))
set_option maxHeartbeats 4000000 in
set_option maxRecDepth 100000 in
theorem c_X12_after {l : Launch} {D : va_G} {g : Nat → ClassId} {fu : Nat} {o_q0 o_q1 o_q2 o_q3 o_q4 o_q5 o_q6 o_q7 o_q8 o_q9 o_q10 o_q11 o_q12 o_q13 o_q14 o_q15 o_q16 o_q17 o_q18 o_q19 o_q20 o_q21 o_q22 : Nat} {o_code : Int32} {o_tape : (Nat → Int32)} {o_size : (Nat → Int32)} {o_fault : (Nat → Int32)} {o_faultPlace : (Nat → Int32)} {o_many : (Nat → Int32)} {o_towns : (Nat → Int32)} {o_weeks : (Nat → Int32)} {o_logs : (Nat → Int32)} {o_reached : Int32} {o_length : Int32} {o_begins : Int32} {o_sort : Int32} {o_value : Int32} {o_word : Int64} {o_wrongAt : Int32} {o_laterFault : Int32} {o_laterPlace : Int32} {o_told : (Nat → Int32)} {o_read : (Nat → Int32)} {o_farOne : Int32} {o_good : Int32} {o_town : Int32} {o_people : Int32} {o_when : Int32} {o_sat : Int32} {o_quiet : Int32} {o_vain : Int32} {o_lent : Int32} {o_forgiven : Int32} {o_sundays : Int32} {o_purse : (Nat → Int32)} {o_beside : (Nat → Int32)} {o_debts : (Nat → Int32)} {o_sitting : (Nat → Int32)} {o_visited : (Nat → Int32)} {o_week : Int32} {o_heaps : (Nat → Int32)} {o_taken : (Nat → Int32)} {o_best : (Nat → Int32)} {o_more : (Nat → Int32)} {o_firstOne : Int32} {o_log : Int32} {o_fitting : (Nat → Int32)} {o_found : Int32} {o_seed : Int32} {o_row : (Nat → Int32)} {o_saved : (Nat → Int32)} {p1 : Int32} {p2 : Int32} {p3 : Int32} {r : Int32 × Int32 × Int32 × Int32 × Int32 × Int32 × Int32 × Int32 × Int32 × Int32 × Int32 × (Nat → Int32) × (Nat → Int32) × (Nat → Int32) × (Nat → Int32) × (Nat → Int32) × Int32} (hf : f_X12_after fu o_code o_many o_towns o_weeks o_town o_people o_when o_sat o_quiet o_vain o_lent o_forgiven o_sundays o_purse o_beside o_debts o_sitting o_visited o_week p1 p2 p3 = some r) : Wr l D (gy g) yX12_after cX12_after 7 (some .int) 5 [.ref o_q0, .int p1, .int p2, .int p3] (wMd g o_q0 o_q1 o_q2 o_q3 o_q4 o_q5 o_q6 o_q7 o_q8 o_q9 o_q10 o_q11 o_q12 o_q13 o_q14 o_q15 o_q16 o_q17 o_q18 o_q19 o_q20 o_q21 o_q22 o_code o_tape o_size o_fault o_faultPlace o_many o_towns o_weeks o_logs o_reached o_length o_begins o_sort o_value o_word o_wrongAt o_laterFault o_laterPlace o_told o_read o_farOne o_good o_town o_people o_when o_sat o_quiet o_vain o_lent o_forgiven o_sundays o_purse o_beside o_debts o_sitting o_visited o_week o_heaps o_taken o_best o_more o_firstOne o_log o_fitting o_found o_seed o_row o_saved) (wMd g o_q0 o_q1 o_q2 o_q3 o_q4 o_q5 o_q6 o_q7 o_q8 o_q9 o_q10 o_q11 o_q12 o_q13 o_q14 o_q15 o_q16 o_q17 o_q18 o_q19 o_q20 o_q21 o_q22 r.2.1 o_tape o_size o_fault o_faultPlace o_many o_towns o_weeks o_logs o_reached o_length o_begins o_sort o_value o_word o_wrongAt o_laterFault o_laterPlace o_told o_read o_farOne o_good r.2.2.1 r.2.2.2.1 r.2.2.2.2.1 r.2.2.2.2.2.1 r.2.2.2.2.2.2.1 r.2.2.2.2.2.2.2.1 r.2.2.2.2.2.2.2.2.1 r.2.2.2.2.2.2.2.2.2.1 r.2.2.2.2.2.2.2.2.2.2.1 r.2.2.2.2.2.2.2.2.2.2.2.1 r.2.2.2.2.2.2.2.2.2.2.2.2.1 r.2.2.2.2.2.2.2.2.2.2.2.2.2.1 r.2.2.2.2.2.2.2.2.2.2.2.2.2.2.1 r.2.2.2.2.2.2.2.2.2.2.2.2.2.2.2.1 r.2.2.2.2.2.2.2.2.2.2.2.2.2.2.2.2 o_heaps o_taken o_best o_more o_firstOne o_log o_fitting o_found o_seed o_row o_saved) (some (.int r.1)) := by
  refine Wr.ofI (by decide) (Nat.le_of_ble_eq_true rfl) ?_
  intro p e s m args below meth c Q A S hK hA hret ls hl hW
  have hl : lv_has ls 7 [(0, .ref o_q0), (1, .int p1), (2, .int p2), (3, .int p3)] := hl
  refine lv_aload_n S.1 S.2.1 dX12_after_0 rfl (lv_at hl 0 rfl) ?_
  refine lv_iconst (v := 0) S.1 S.2.1 dX12_after_1 ic_0 ?_
  refine pfX12_78 (ws2 := (wMd g o_q0 o_q1 o_q2 o_q3 o_q4 o_q5 o_q6 o_q7 o_q8 o_q9 o_q10 o_q11 o_q12 o_q13 o_q14 o_q15 o_q16 o_q17 o_q18 o_q19 o_q20 o_q21 o_q22 (0 : Int32) o_tape o_size o_fault o_faultPlace o_many o_towns o_weeks o_logs o_reached o_length o_begins o_sort o_value o_word o_wrongAt o_laterFault o_laterPlace o_told o_read o_farOne o_good o_town o_people o_when o_sat o_quiet o_vain o_lent o_forgiven o_sundays o_purse o_beside o_debts o_sitting o_visited o_week o_heaps o_taken o_best o_more o_firstOne o_log o_fitting o_found o_seed o_row o_saved)) S hK hW 0 rfl rfl rfl (Nat.le_of_ble_eq_true rfl) rfl dX12_after_2 (fun H locs hW => ?_)
  refine lv_aload_n S.1 S.2.1 dX12_after_5 rfl (lv_at hl 0 rfl) ?_
  refine lv_iload_n S.1 S.2.1 dX12_after_6 rfl (lv_at hl 1 rfl) ?_
  refine lv_iload_n S.1 S.2.1 dX12_after_7 rfl (lv_at hl 2 rfl) ?_
  obtain ⟨x1, hx1, hf⟩ := bnd_e hf
  refine Wr.goW (Wr.runV (c_X12_layAll hx1) S hK hW.1 hW.2.1 0 10 rfl rfl kVX12_305 rfl hl.1 [] rfl (Nat.le_of_ble_eq_true rfl) ⟨(Nat.le_of_ble_eq_true rfl), (Nat.le_of_ble_eq_true rfl)⟩ ⟨(Nat.zero_le _), (Nat.zero_le _)⟩ dX12_after_8) hW hA (fun H locs hW => ?_)
  refine lv_if_eq (tgt := 24) S.1 S.2.1 dX12_after_11 (by decide) (fun c_ => ?_) (fun c_ => ?_)
  · have hf := it_p c_ hf
    refine lv_bipush (v := (-2)) S.1 S.2.1 dX12_after_24 bp_m2 ?_
    have e_ := Option.some.inj hf
    subst e_
    exact hret _ _ _ _ dX12_after_26 hW
  · have hf := it_n c_ hf
    refine lv_iload_n S.1 S.2.1 dX12_after_14 rfl (lv_at hl 3 rfl) ?_
    refine lv_iconst (v := 0) S.1 S.2.1 dX12_after_15 ic_0 ?_
    refine lv_bipush (v := 7) S.1 S.2.1 dX12_after_16 bp_7 ?_
    obtain ⟨x2, hx2, hf⟩ := bnd_e hf
    refine Rd.cS (c_X12_in hx2) S hK va_P.nil kSX12_90 rfl hl.1 [] rfl (Nat.le_of_ble_eq_true rfl) ⟨(Nat.le_of_ble_eq_true rfl), (Nat.le_of_ble_eq_true rfl)⟩ ⟨(Nat.zero_le _), (Nat.zero_le _)⟩ dX12_after_18 ?_
    refine lv_if_ne (tgt := 27) S.1 S.2.1 dX12_after_21 (by decide) (fun c_ => ?_) (fun c_ => ?_)
    · have hf := it_n c_ hf
      refine lv_iconst (v := (-1)) S.1 S.2.1 dX12_after_27 ic_m1 ?_
      refine lv_istore (lv' := [(4, .int (-1 : Int32)), (0, .ref o_q0), (1, .int p1), (2, .int p2), (3, .int p3)]) S.1 S.2.1 dX12_after_28 hl (by decide) rfl (fun ls hl => ?_)
      refine lv_iconst (v := 1) S.1 S.2.1 dX12_after_30 ic_1 ?_
      refine lv_istore (lv' := [(5, .int (1 : Int32)), (4, .int (-1 : Int32)), (0, .ref o_q0), (1, .int p1), (2, .int p2), (3, .int p3)]) S.1 S.2.1 dX12_after_31 hl (by decide) rfl (fun ls hl => ?_)
      refine lv_iconst (v := 0) S.1 S.2.1 dX12_after_33 ic_0 ?_
      refine lv_istore (lv' := [(6, .int (0 : Int32)), (5, .int (1 : Int32)), (4, .int (-1 : Int32)), (0, .ref o_q0), (1, .int p1), (2, .int p2), (3, .int p3)]) S.1 S.2.1 dX12_after_34 hl (by decide) rfl (fun ls hl => ?_)
      obtain ⟨x5, hf_, hk5⟩ := bnd_e hf
      have hE5 : ∀ (v11 : Int32 × Int32 × Int32 × Int32 × Int32 × Int32 × Int32 × Int32 × (Nat → Int32) × (Nat → Int32) × (Nat → Int32) × (Nat → Int32) × (Nat → Int32)), v11 = x5 → ∀ (ls : Array Slot) (H : Heap) (locs : List Loc), lv_has ls 7 [(0, .ref o_q0), (3, .int p3), (4, .int v11.1)] → St A s.heap D (wMd g o_q0 o_q1 o_q2 o_q3 o_q4 o_q5 o_q6 o_q7 o_q8 o_q9 o_q10 o_q11 o_q12 o_q13 o_q14 o_q15 o_q16 o_q17 o_q18 o_q19 o_q20 o_q21 o_q22 (0 : Int32) o_tape o_size o_fault o_faultPlace o_many o_towns o_weeks o_logs o_reached o_length o_begins o_sort o_value o_word o_wrongAt o_laterFault o_laterPlace o_told o_read o_farOne o_good x1.2.1 x1.2.2.1 v11.2.1 v11.2.2.1 v11.2.2.2.1 v11.2.2.2.2.1 v11.2.2.2.2.2.1 v11.2.2.2.2.2.2.1 v11.2.2.2.2.2.2.2.1 v11.2.2.2.2.2.2.2.2.1 v11.2.2.2.2.2.2.2.2.2.1 v11.2.2.2.2.2.2.2.2.2.2.1 v11.2.2.2.2.2.2.2.2.2.2.2.1 v11.2.2.2.2.2.2.2.2.2.2.2.2 x1.2.2.2.2.2.2.2.2.2.2.2.2.2.2.2 o_heaps o_taken o_best o_more o_firstOne o_log o_fitting o_found o_seed o_row o_saved) H locs → W p l e (rmD 5) s m args below meth c H locs 0 0 Q (F0 m 94 ls []) := by
        intro v11 e_ ls H locs hl hW
        subst e_
        have hf := hk5
        refine lv_iload_n S.1 S.2.1 dX12_after_94 rfl (lv_at hl 1 rfl) ?_
        by_cases c_0 : p3 = 0
        · have hf := it_p c_0 hf
          refine lv_tableIn (tgt := 136) (off := 41) S.1 S.2.1 dX12_after_95 (by rw [c_0]; decide) (by rw [c_0]; decide) (by rw [c_0]; decide) (by decide) ?_
          refine lv_iload S.1 S.2.1 dX12_after_136 (lv_at hl 2 rfl) ?_
          have e_ := Option.some.inj hf
          subst e_
          exact hret _ _ _ _ dX12_after_138 hW
        have hf := it_n c_0 hf
        by_cases c_1 : p3 = 1
        · have hf := it_p c_1 hf
          refine lv_tableIn (tgt := 139) (off := 44) S.1 S.2.1 dX12_after_95 (by rw [c_1]; decide) (by rw [c_1]; decide) (by rw [c_1]; decide) (by decide) ?_
          refine lv_aload_n S.1 S.2.1 dX12_after_139 rfl (lv_at hl 0 rfl) ?_
          refine lv_iload_n S.1 S.2.1 dX12_after_140 rfl (lv_at hl 1 rfl) ?_
          refine lv_iconst (v := 2) S.1 S.2.1 dX12_after_141 ic_2 ?_
          refine lv_icmp_ne (tgt := 149) S.1 S.2.1 dX12_after_142 (by decide) (fun c_ => ?_) (fun c_ => ?_)
          · have hf := it_n c_ hf
            refine lv_iconst (v := 0) S.1 S.2.1 dX12_after_149 ic_0 ?_
            obtain ⟨x13, hx13, hf⟩ := bnd_e hf
            refine Rd.cV (c_X12_mostOf hx13) S hK hW.1 0 10 rfl rfl kVX12_490 rfl hl.1 [] rfl (Nat.le_of_ble_eq_true rfl) ⟨(Nat.le_of_ble_eq_true rfl), (Nat.le_of_ble_eq_true rfl)⟩ ⟨(Nat.zero_le _), (Nat.zero_le _)⟩ dX12_after_150 ?_
            have e_ := Option.some.inj hf
            subst e_
            exact hret _ _ _ _ dX12_after_153 hW
          · have hf := it_p c_ hf
            refine lv_iconst (v := 1) S.1 S.2.1 dX12_after_145 ic_1 ?_
            refine lv_goto (tgt := 150) S.1 S.2.1 dX12_after_146 (by decide) ?_
            obtain ⟨x12, hx12, hf⟩ := bnd_e hf
            refine Rd.cV (c_X12_mostOf hx12) S hK hW.1 0 10 rfl rfl kVX12_490 rfl hl.1 [] rfl (Nat.le_of_ble_eq_true rfl) ⟨(Nat.le_of_ble_eq_true rfl), (Nat.le_of_ble_eq_true rfl)⟩ ⟨(Nat.zero_le _), (Nat.zero_le _)⟩ dX12_after_150 ?_
            have e_ := Option.some.inj hf
            subst e_
            exact hret _ _ _ _ dX12_after_153 hW
        have hf := it_n c_1 hf
        by_cases c_2 : p3 = 2
        · have hf := it_p c_2 hf
          refine lv_tableIn (tgt := 139) (off := 44) S.1 S.2.1 dX12_after_95 (by rw [c_2]; decide) (by rw [c_2]; decide) (by rw [c_2]; decide) (by decide) ?_
          refine lv_aload_n S.1 S.2.1 dX12_after_139 rfl (lv_at hl 0 rfl) ?_
          refine lv_iload_n S.1 S.2.1 dX12_after_140 rfl (lv_at hl 1 rfl) ?_
          refine lv_iconst (v := 2) S.1 S.2.1 dX12_after_141 ic_2 ?_
          refine lv_icmp_ne (tgt := 149) S.1 S.2.1 dX12_after_142 (by decide) (fun c_ => ?_) (fun c_ => ?_)
          · have hf := it_n c_ hf
            refine lv_iconst (v := 0) S.1 S.2.1 dX12_after_149 ic_0 ?_
            obtain ⟨x15, hx15, hf⟩ := bnd_e hf
            refine Rd.cV (c_X12_mostOf hx15) S hK hW.1 0 10 rfl rfl kVX12_490 rfl hl.1 [] rfl (Nat.le_of_ble_eq_true rfl) ⟨(Nat.le_of_ble_eq_true rfl), (Nat.le_of_ble_eq_true rfl)⟩ ⟨(Nat.zero_le _), (Nat.zero_le _)⟩ dX12_after_150 ?_
            have e_ := Option.some.inj hf
            subst e_
            exact hret _ _ _ _ dX12_after_153 hW
          · have hf := it_p c_ hf
            refine lv_iconst (v := 1) S.1 S.2.1 dX12_after_145 ic_1 ?_
            refine lv_goto (tgt := 150) S.1 S.2.1 dX12_after_146 (by decide) ?_
            obtain ⟨x14, hx14, hf⟩ := bnd_e hf
            refine Rd.cV (c_X12_mostOf hx14) S hK hW.1 0 10 rfl rfl kVX12_490 rfl hl.1 [] rfl (Nat.le_of_ble_eq_true rfl) ⟨(Nat.le_of_ble_eq_true rfl), (Nat.le_of_ble_eq_true rfl)⟩ ⟨(Nat.zero_le _), (Nat.zero_le _)⟩ dX12_after_150 ?_
            have e_ := Option.some.inj hf
            subst e_
            exact hret _ _ _ _ dX12_after_153 hW
        have hf := it_n c_2 hf
        by_cases c_3 : p3 = 3
        · have hf := it_p c_3 hf
          refine lv_tableIn (tgt := 154) (off := 59) S.1 S.2.1 dX12_after_95 (by rw [c_3]; decide) (by rw [c_3]; decide) (by rw [c_3]; decide) (by decide) ?_
          refine lv_aload_n S.1 S.2.1 dX12_after_154 rfl (lv_at hl 0 rfl) ?_
          refine gfX12_242 S hK hW.1 0 rfl rfl dX12_after_155 ?_
          have e_ := Option.some.inj hf
          subst e_
          exact hret _ _ _ _ dX12_after_158 hW
        have hf := it_n c_3 hf
        by_cases c_4 : p3 = 4
        · have hf := it_p c_4 hf
          refine lv_tableIn (tgt := 159) (off := 64) S.1 S.2.1 dX12_after_95 (by rw [c_4]; decide) (by rw [c_4]; decide) (by rw [c_4]; decide) (by decide) ?_
          refine lv_aload_n S.1 S.2.1 dX12_after_159 rfl (lv_at hl 0 rfl) ?_
          refine gfX12_245 S hK hW.1 0 rfl rfl dX12_after_160 ?_
          have e_ := Option.some.inj hf
          subst e_
          exact hret _ _ _ _ dX12_after_163 hW
        have hf := it_n c_4 hf
        by_cases c_5 : p3 = 5
        · have hf := it_p c_5 hf
          refine lv_tableIn (tgt := 164) (off := 69) S.1 S.2.1 dX12_after_95 (by rw [c_5]; decide) (by rw [c_5]; decide) (by rw [c_5]; decide) (by decide) ?_
          refine lv_aload_n S.1 S.2.1 dX12_after_164 rfl (lv_at hl 0 rfl) ?_
          refine gfX12_248 S hK hW.1 0 rfl rfl dX12_after_165 ?_
          have e_ := Option.some.inj hf
          subst e_
          exact hret _ _ _ _ dX12_after_168 hW
        have hf := it_n c_5 hf
        by_cases c_6 : p3 = 6
        · have hf := it_p c_6 hf
          refine lv_tableIn (tgt := 169) (off := 74) S.1 S.2.1 dX12_after_95 (by rw [c_6]; decide) (by rw [c_6]; decide) (by rw [c_6]; decide) (by decide) ?_
          refine lv_aload_n S.1 S.2.1 dX12_after_169 rfl (lv_at hl 0 rfl) ?_
          refine gfX12_251 S hK hW.1 0 rfl rfl dX12_after_170 ?_
          have e_ := Option.some.inj hf
          subst e_
          exact hret _ _ _ _ dX12_after_173 hW
        have hf := it_n c_6 hf
        refine lv_tableOut (tgt := 174) S.1 S.2.1 dX12_after_95 (by have n_0 := lv_neT c_0 (a := 0) (by decide); have n_1 := lv_neT c_1 (a := 1) (by decide); have n_2 := lv_neT c_2 (a := 2) (by decide); have n_3 := lv_neT c_3 (a := 3) (by decide); have n_4 := lv_neT c_4 (a := 4) (by decide); have n_5 := lv_neT c_5 (a := 5) (by decide); have n_6 := lv_neT c_6 (a := 6) (by decide); omega) (by decide) ?_
        refine lv_aload_n S.1 S.2.1 dX12_after_174 rfl (lv_at hl 0 rfl) ?_
        obtain ⟨x16, hx16, hf⟩ := bnd_e hf
        refine Rd.cV (c_X12_freeOnes hx16) S hK hW.1 0 10 rfl rfl kVX12_493 rfl hl.1 [] rfl (Nat.le_of_ble_eq_true rfl) ⟨(Nat.le_of_ble_eq_true rfl), (Nat.le_of_ble_eq_true rfl)⟩ ⟨(Nat.zero_le _), (Nat.zero_le _)⟩ dX12_after_175 ?_
        have e_ := Option.some.inj hf
        subst e_
        exact hret _ _ _ _ dX12_after_178 hW
      refine lp_ind (P := fun (s4 : Int32 × Int32 × Int32 × Int32 × Int32 × Int32 × Int32 × Int32 × Int32 × Int32 × (Nat → Int32) × (Nat → Int32) × (Nat → Int32) × (Nat → Int32) × (Nat → Int32)) => ∀ (ls : Array Slot) (H : Heap) (locs : List Loc), lv_has ls 7 [(0, .ref o_q0), (3, .int p3), (4, .int s4.1), (5, .int s4.2.1), (6, .int s4.2.2.1)] → St A s.heap D (wMd g o_q0 o_q1 o_q2 o_q3 o_q4 o_q5 o_q6 o_q7 o_q8 o_q9 o_q10 o_q11 o_q12 o_q13 o_q14 o_q15 o_q16 o_q17 o_q18 o_q19 o_q20 o_q21 o_q22 (0 : Int32) o_tape o_size o_fault o_faultPlace o_many o_towns o_weeks o_logs o_reached o_length o_begins o_sort o_value o_word o_wrongAt o_laterFault o_laterPlace o_told o_read o_farOne o_good x1.2.1 x1.2.2.1 s4.2.2.2.1 s4.2.2.2.2.1 s4.2.2.2.2.2.1 s4.2.2.2.2.2.2.1 s4.2.2.2.2.2.2.2.1 s4.2.2.2.2.2.2.2.2.1 s4.2.2.2.2.2.2.2.2.2.1 s4.2.2.2.2.2.2.2.2.2.2.1 s4.2.2.2.2.2.2.2.2.2.2.2.1 s4.2.2.2.2.2.2.2.2.2.2.2.2.1 s4.2.2.2.2.2.2.2.2.2.2.2.2.2.1 s4.2.2.2.2.2.2.2.2.2.2.2.2.2.2 x1.2.2.2.2.2.2.2.2.2.2.2.2.2.2.2 o_heaps o_taken o_best o_more o_firstOne o_log o_fitting o_found o_seed o_row o_saved) H locs → W p l e (rmD 5) s m args below meth c H locs 0 0 Q (F0 m 36 ls [])) ?_ _ _ hf_ _ _ _ (lv_sub hl [3, 6, 2, 1, 0] rfl) hW
      intro s4 x6 hf hI5 hR5 ls H locs hl hW
      refine lv_iload S.1 S.2.1 dX12_after_36 (lv_at hl 3 rfl) ?_
      refine lv_if_eq (tgt := 94) S.1 S.2.1 dX12_after_38 (by decide) (fun c_ => ?_) (fun c_ => ?_)
      · have hf := it_p c_ hf
        have e_ := hR5 _ (Option.some.inj hf).symm
        exact hE5 _ e_ _ _ _ (lv_sub hl [0, 1, 2] rfl) hW
      · have hf := it_n c_ hf
        refine lv_iload S.1 S.2.1 dX12_after_41 (lv_at hl 4 rfl) ?_
        refine lv_aload_n S.1 S.2.1 dX12_after_43 rfl (lv_at hl 0 rfl) ?_
        obtain ⟨x7, hx7, hf⟩ := bnd_e hf
        refine Rd.cV (c_X12_deeds hx7) S hK hW.1 0 10 rfl rfl kVX12_269 rfl hl.1 [.int s4.2.2.1] rfl (Nat.le_of_ble_eq_true rfl) ⟨(Nat.le_of_ble_eq_true rfl), (Nat.le_of_ble_eq_true rfl)⟩ ⟨(Nat.zero_le _), (Nat.zero_le _)⟩ dX12_after_44 ?_
        obtain ⟨x8, hf_, hk8⟩ := bnd_e hf
        have hJ8 : ∀ (v9 : Int32 × Int32 × Int32 × Int32 × Int32 × Int32 × Int32 × Int32 × (Nat → Int32) × (Nat → Int32) × (Nat → Int32) × (Nat → Int32) × (Nat → Int32)), v9 = x8 → ∀ (ls : Array Slot) (H : Heap) (locs : List Loc), lv_has ls 7 [(0, .ref o_q0), (3, .int p3), (4, .int s4.1), (6, .int s4.2.2.1)] → St A s.heap D (wMd g o_q0 o_q1 o_q2 o_q3 o_q4 o_q5 o_q6 o_q7 o_q8 o_q9 o_q10 o_q11 o_q12 o_q13 o_q14 o_q15 o_q16 o_q17 o_q18 o_q19 o_q20 o_q21 o_q22 (0 : Int32) o_tape o_size o_fault o_faultPlace o_many o_towns o_weeks o_logs o_reached o_length o_begins o_sort o_value o_word o_wrongAt o_laterFault o_laterPlace o_told o_read o_farOne o_good x1.2.1 x1.2.2.1 v9.2.1 v9.2.2.1 v9.2.2.2.1 v9.2.2.2.2.1 v9.2.2.2.2.2.1 v9.2.2.2.2.2.2.1 v9.2.2.2.2.2.2.2.1 v9.2.2.2.2.2.2.2.2.1 v9.2.2.2.2.2.2.2.2.2.1 v9.2.2.2.2.2.2.2.2.2.2.1 v9.2.2.2.2.2.2.2.2.2.2.2.1 v9.2.2.2.2.2.2.2.2.2.2.2.2 x1.2.2.2.2.2.2.2.2.2.2.2.2.2.2.2 o_heaps o_taken o_best o_more o_firstOne o_log o_fitting o_found o_seed o_row o_saved) H locs → W p l e (rmD 5) s m args below meth c H locs 0 0 Q (F0 m 64 ls [.int v9.1]) := by
          intro v9 e_ ls H locs hl hW
          subst e_
          have hf := hk8
          refine lv_istore (lv' := [(5, .int v9.1), (0, .ref o_q0), (3, .int p3), (4, .int s4.1), (6, .int s4.2.2.1)]) S.1 S.2.1 dX12_after_64 hl (by decide) rfl (fun ls hl => ?_)
          refine lv_iload S.1 S.2.1 dX12_after_66 (lv_at hl 3 rfl) ?_
          refine lv_iconst (v := (-1)) S.1 S.2.1 dX12_after_68 ic_m1 ?_
          refine lv_icmp_ne (tgt := 84) S.1 S.2.1 dX12_after_69 (by decide) (fun c_ => ?_) (fun c_ => ?_)
          · have hf := it_n c_ hf
            refine lv_iload S.1 S.2.1 dX12_after_84 (lv_at hl 3 rfl) ?_
            refine lv_istore (lv' := [(4, .int s4.1), (5, .int v9.1), (0, .ref o_q0), (3, .int p3), (6, .int s4.2.2.1)]) S.1 S.2.1 dX12_after_86 hl (by decide) rfl (fun ls hl => ?_)
            refine q_iinc (w := 1) (lv' := [(6, .int (s4.2.2.1 + 1)), (4, .int s4.1), (5, .int v9.1), (0, .ref o_q0), (3, .int p3)]) S dX12_after_88 hl (k := 4) rfl ic_1 (by decide) rfl (fun ls hl => ?_)
            refine lv_goto (tgt := 36) S.1 S.2.1 dX12_after_91 (by decide) ?_
            exact hI5 _ (Option.some.inj hf).symm _ _ _ (lv_sub hl [3, 4, 1, 2, 0] rfl) hW
          · have hf := it_p c_ hf
            refine lv_aload_n S.1 S.2.1 dX12_after_72 rfl (lv_at hl 1 rfl) ?_
            refine gfX12_236 S hK hW.1 0 rfl rfl dX12_after_73 ?_
            refine lv_if_le (tgt := 84) S.1 S.2.1 dX12_after_76 (by decide) (fun c_ => ?_) (fun c_ => ?_)
            · have hf := it_p c_ hf
              refine lv_iload S.1 S.2.1 dX12_after_84 (lv_at hl 3 rfl) ?_
              refine lv_istore (lv' := [(4, .int s4.1), (5, .int v9.1), (0, .ref o_q0), (3, .int p3), (6, .int s4.2.2.1)]) S.1 S.2.1 dX12_after_86 hl (by decide) rfl (fun ls hl => ?_)
              refine q_iinc (w := 1) (lv' := [(6, .int (s4.2.2.1 + 1)), (4, .int s4.1), (5, .int v9.1), (0, .ref o_q0), (3, .int p3)]) S dX12_after_88 hl (k := 4) rfl ic_1 (by decide) rfl (fun ls hl => ?_)
              refine lv_goto (tgt := 36) S.1 S.2.1 dX12_after_91 (by decide) ?_
              exact hI5 _ (Option.some.inj hf).symm _ _ _ (lv_sub hl [3, 4, 1, 2, 0] rfl) hW
            · have hf := it_n c_ hf
              refine lv_iload S.1 S.2.1 dX12_after_79 (lv_at hl 4 rfl) ?_
              refine lv_goto (tgt := 86) S.1 S.2.1 dX12_after_81 (by decide) ?_
              refine lv_istore (lv' := [(4, .int s4.2.2.1), (5, .int v9.1), (0, .ref o_q0), (3, .int p3), (6, .int s4.2.2.1)]) S.1 S.2.1 dX12_after_86 hl (by decide) rfl (fun ls hl => ?_)
              refine q_iinc (w := 1) (lv' := [(6, .int (s4.2.2.1 + 1)), (4, .int s4.2.2.1), (5, .int v9.1), (0, .ref o_q0), (3, .int p3)]) S dX12_after_88 hl (k := 4) rfl ic_1 (by decide) rfl (fun ls hl => ?_)
              refine lv_goto (tgt := 36) S.1 S.2.1 dX12_after_91 (by decide) ?_
              exact hI5 _ (Option.some.inj hf).symm _ _ _ (lv_sub hl [3, 4, 1, 2, 0] rfl) hW
        have hf := hf_
        refine lv_icmp_ge (tgt := 63) S.1 S.2.1 dX12_after_47 (by decide) (fun c_ => ?_) (fun c_ => ?_)
        · have hf := it_p c_ hf
          refine lv_iconst (v := 0) S.1 S.2.1 dX12_after_63 ic_0 ?_
          exact hJ8 _ (Option.some.inj hf) _ _ _ (lv_sub hl [0, 1, 2, 4] rfl) hW
        · have hf := it_n c_ hf
          refine lv_aload_n S.1 S.2.1 dX12_after_50 rfl (lv_at hl 0 rfl) ?_
          refine lv_iload S.1 S.2.1 dX12_after_51 (lv_at hl 4 rfl) ?_
          obtain ⟨x10, hx10, hf⟩ := bnd_e hf
          refine Wr.goW (Wr.runV (c_X12_doesDeed hx10) S hK hW.1 hW.2.1 0 10 rfl rfl kVX12_302 rfl hl.1 [] rfl (Nat.le_of_ble_eq_true rfl) ⟨(Nat.le_of_ble_eq_true rfl), (Nat.le_of_ble_eq_true rfl)⟩ ⟨(Nat.zero_le _), (Nat.zero_le _)⟩ dX12_after_53) hW hA (fun H locs hW => ?_)
          refine lv_if_eq (tgt := 63) S.1 S.2.1 dX12_after_56 (by decide) (fun c_ => ?_) (fun c_ => ?_)
          · have hf := it_p c_ hf
            refine lv_iconst (v := 0) S.1 S.2.1 dX12_after_63 ic_0 ?_
            exact hJ8 _ (Option.some.inj hf) _ _ _ (lv_sub hl [0, 1, 2, 4] rfl) hW
          · have hf := it_n c_ hf
            refine lv_iconst (v := 1) S.1 S.2.1 dX12_after_59 ic_1 ?_
            refine lv_goto (tgt := 64) S.1 S.2.1 dX12_after_60 (by decide) ?_
            exact hJ8 _ (Option.some.inj hf) _ _ _ (lv_sub hl [0, 1, 2, 4] rfl) hW
    · have hf := it_p c_ hf
      refine lv_bipush (v := (-2)) S.1 S.2.1 dX12_after_24 bp_m2 ?_
      have e_ := Option.some.inj hf
      subst e_
      exact hret _ _ _ _ dX12_after_26 hW
def f_X12_share (fu : Nat) (o_code : Int32) (o_many : (Nat → Int32)) (o_towns : (Nat → Int32)) (o_logs : (Nat → Int32)) (o_town : Int32) (o_people : Int32) (o_when : Int32) (o_sat : Int32) (o_quiet : Int32) (o_vain : Int32) (o_lent : Int32) (o_forgiven : Int32) (o_sundays : Int32) (o_purse : (Nat → Int32)) (o_beside : (Nat → Int32)) (o_debts : (Nat → Int32)) (o_sitting : (Nat → Int32)) (o_visited : (Nat → Int32)) (o_log : Int32) (o_fitting : (Nat → Int32)) (o_found : Int32) (p1 : Int32) (p2 : Int32) (p3 : Int32) (p4 : Int32) (p5 : Int32) : Option (Int64 × Int32 × Int32 × Int32 × Int32 × Int32 × Int32 × Int32 × Int32 × Int32 × Int32 × (Nat → Int32) × (Nat → Int32) × (Nat → Int32) × (Nat → Int32) × (Nat → Int32) × Int32 × (Nat → Int32) × Int32) := bnd (α := Int32 × Int32 × Int32 × Int32 × Int32 × Int32 × Int32 × Int32 × Int32 × Int32 × (Nat → Int32) × (Nat → Int32) × (Nat → Int32) × (Nat → Int32) × (Nat → Int32) × Int32 × (Nat → Int32) × Int32) (f_X12_layLog fu o_many o_towns o_logs o_town o_people o_when o_sat o_quiet o_vain o_lent o_forgiven o_sundays o_purse o_beside o_debts o_sitting o_visited o_log o_fitting o_found p1 p2) (fun x1 => if x1.1 = 0 then some ((-1 : Int64), (0 : Int32), x1.2.1, x1.2.2.1, x1.2.2.2.1, x1.2.2.2.2.1, x1.2.2.2.2.2.1, x1.2.2.2.2.2.2.1, x1.2.2.2.2.2.2.2.1, x1.2.2.2.2.2.2.2.2.1, x1.2.2.2.2.2.2.2.2.2.1, x1.2.2.2.2.2.2.2.2.2.2.1, x1.2.2.2.2.2.2.2.2.2.2.2.1, x1.2.2.2.2.2.2.2.2.2.2.2.2.1, x1.2.2.2.2.2.2.2.2.2.2.2.2.2.1, x1.2.2.2.2.2.2.2.2.2.2.2.2.2.2.1, x1.2.2.2.2.2.2.2.2.2.2.2.2.2.2.2.1, x1.2.2.2.2.2.2.2.2.2.2.2.2.2.2.2.2.1, x1.2.2.2.2.2.2.2.2.2.2.2.2.2.2.2.2.2) else bnd (α := Int32) (f_X12_isPerson fu x1.2.2.1 p3) (fun x2 => if x2 = 0 then some ((-1 : Int64), (0 : Int32), x1.2.1, x1.2.2.1, x1.2.2.2.1, x1.2.2.2.2.1, x1.2.2.2.2.2.1, x1.2.2.2.2.2.2.1, x1.2.2.2.2.2.2.2.1, x1.2.2.2.2.2.2.2.2.1, x1.2.2.2.2.2.2.2.2.2.1, x1.2.2.2.2.2.2.2.2.2.2.1, x1.2.2.2.2.2.2.2.2.2.2.2.1, x1.2.2.2.2.2.2.2.2.2.2.2.2.1, x1.2.2.2.2.2.2.2.2.2.2.2.2.2.1, x1.2.2.2.2.2.2.2.2.2.2.2.2.2.2.1, x1.2.2.2.2.2.2.2.2.2.2.2.2.2.2.2.1, x1.2.2.2.2.2.2.2.2.2.2.2.2.2.2.2.2.1, x1.2.2.2.2.2.2.2.2.2.2.2.2.2.2.2.2.2) else bnd (α := Int32) (f_X12_isPerson fu x1.2.2.1 p4) (fun x3 => if x3 = 0 then some ((-1 : Int64), (0 : Int32), x1.2.1, x1.2.2.1, x1.2.2.2.1, x1.2.2.2.2.1, x1.2.2.2.2.2.1, x1.2.2.2.2.2.2.1, x1.2.2.2.2.2.2.2.1, x1.2.2.2.2.2.2.2.2.1, x1.2.2.2.2.2.2.2.2.2.1, x1.2.2.2.2.2.2.2.2.2.2.1, x1.2.2.2.2.2.2.2.2.2.2.2.1, x1.2.2.2.2.2.2.2.2.2.2.2.2.1, x1.2.2.2.2.2.2.2.2.2.2.2.2.2.1, x1.2.2.2.2.2.2.2.2.2.2.2.2.2.2.1, x1.2.2.2.2.2.2.2.2.2.2.2.2.2.2.2.1, x1.2.2.2.2.2.2.2.2.2.2.2.2.2.2.2.2.1, x1.2.2.2.2.2.2.2.2.2.2.2.2.2.2.2.2.2) else if p3 = p4 then some ((-1 : Int64), (0 : Int32), x1.2.1, x1.2.2.1, x1.2.2.2.1, x1.2.2.2.2.1, x1.2.2.2.2.2.1, x1.2.2.2.2.2.2.1, x1.2.2.2.2.2.2.2.1, x1.2.2.2.2.2.2.2.2.1, x1.2.2.2.2.2.2.2.2.2.1, x1.2.2.2.2.2.2.2.2.2.2.1, x1.2.2.2.2.2.2.2.2.2.2.2.1, x1.2.2.2.2.2.2.2.2.2.2.2.2.1, x1.2.2.2.2.2.2.2.2.2.2.2.2.2.1, x1.2.2.2.2.2.2.2.2.2.2.2.2.2.2.1, x1.2.2.2.2.2.2.2.2.2.2.2.2.2.2.2.1, x1.2.2.2.2.2.2.2.2.2.2.2.2.2.2.2.2.1, x1.2.2.2.2.2.2.2.2.2.2.2.2.2.2.2.2.2) else if x1.2.2.2.2.2.2.2.2.2.2.2.2.2.2.2.2.2 = 0 then some ((-1 : Int64), (0 : Int32), x1.2.1, x1.2.2.1, x1.2.2.2.1, x1.2.2.2.2.1, x1.2.2.2.2.2.1, x1.2.2.2.2.2.2.1, x1.2.2.2.2.2.2.2.1, x1.2.2.2.2.2.2.2.2.1, x1.2.2.2.2.2.2.2.2.2.1, x1.2.2.2.2.2.2.2.2.2.2.1, x1.2.2.2.2.2.2.2.2.2.2.2.1, x1.2.2.2.2.2.2.2.2.2.2.2.2.1, x1.2.2.2.2.2.2.2.2.2.2.2.2.2.1, x1.2.2.2.2.2.2.2.2.2.2.2.2.2.2.1, x1.2.2.2.2.2.2.2.2.2.2.2.2.2.2.2.1, x1.2.2.2.2.2.2.2.2.2.2.2.2.2.2.2.2.1, x1.2.2.2.2.2.2.2.2.2.2.2.2.2.2.2.2.2) else bnd (α := Int32) (f_X12_manyTogether fu x1.2.2.2.2.2.2.2.2.2.2.2.2.2.2.2.2.1 x1.2.2.2.2.2.2.2.2.2.2.2.2.2.2.2.2.2 p3 p4) (fun x4 => bnd (α := Int64) (f_X12_part fu (x4.toInt64) (x1.2.2.2.2.2.2.2.2.2.2.2.2.2.2.2.2.2.toInt64) p5) (fun x5 => some (x5, (0 : Int32), x1.2.1, x1.2.2.1, x1.2.2.2.1, x1.2.2.2.2.1, x1.2.2.2.2.2.1, x1.2.2.2.2.2.2.1, x1.2.2.2.2.2.2.2.1, x1.2.2.2.2.2.2.2.2.1, x1.2.2.2.2.2.2.2.2.2.1, x1.2.2.2.2.2.2.2.2.2.2.1, x1.2.2.2.2.2.2.2.2.2.2.2.1, x1.2.2.2.2.2.2.2.2.2.2.2.2.1, x1.2.2.2.2.2.2.2.2.2.2.2.2.2.1, x1.2.2.2.2.2.2.2.2.2.2.2.2.2.2.1, x1.2.2.2.2.2.2.2.2.2.2.2.2.2.2.2.1, x1.2.2.2.2.2.2.2.2.2.2.2.2.2.2.2.2.1, x1.2.2.2.2.2.2.2.2.2.2.2.2.2.2.2.2.2))))))
set_option maxHeartbeats 4000000 in
set_option maxRecDepth 100000 in
theorem c_X12_share {l : Launch} {D : va_G} {g : Nat → ClassId} {fu : Nat} {o_q0 o_q1 o_q2 o_q3 o_q4 o_q5 o_q6 o_q7 o_q8 o_q9 o_q10 o_q11 o_q12 o_q13 o_q14 o_q15 o_q16 o_q17 o_q18 o_q19 o_q20 o_q21 o_q22 : Nat} {o_code : Int32} {o_tape : (Nat → Int32)} {o_size : (Nat → Int32)} {o_fault : (Nat → Int32)} {o_faultPlace : (Nat → Int32)} {o_many : (Nat → Int32)} {o_towns : (Nat → Int32)} {o_weeks : (Nat → Int32)} {o_logs : (Nat → Int32)} {o_reached : Int32} {o_length : Int32} {o_begins : Int32} {o_sort : Int32} {o_value : Int32} {o_word : Int64} {o_wrongAt : Int32} {o_laterFault : Int32} {o_laterPlace : Int32} {o_told : (Nat → Int32)} {o_read : (Nat → Int32)} {o_farOne : Int32} {o_good : Int32} {o_town : Int32} {o_people : Int32} {o_when : Int32} {o_sat : Int32} {o_quiet : Int32} {o_vain : Int32} {o_lent : Int32} {o_forgiven : Int32} {o_sundays : Int32} {o_purse : (Nat → Int32)} {o_beside : (Nat → Int32)} {o_debts : (Nat → Int32)} {o_sitting : (Nat → Int32)} {o_visited : (Nat → Int32)} {o_week : Int32} {o_heaps : (Nat → Int32)} {o_taken : (Nat → Int32)} {o_best : (Nat → Int32)} {o_more : (Nat → Int32)} {o_firstOne : Int32} {o_log : Int32} {o_fitting : (Nat → Int32)} {o_found : Int32} {o_seed : Int32} {o_row : (Nat → Int32)} {o_saved : (Nat → Int32)} {p1 : Int32} {p2 : Int32} {p3 : Int32} {p4 : Int32} {p5 : Int32} {r : Int64 × Int32 × Int32 × Int32 × Int32 × Int32 × Int32 × Int32 × Int32 × Int32 × Int32 × (Nat → Int32) × (Nat → Int32) × (Nat → Int32) × (Nat → Int32) × (Nat → Int32) × Int32 × (Nat → Int32) × Int32} (hf : f_X12_share fu o_code o_many o_towns o_logs o_town o_people o_when o_sat o_quiet o_vain o_lent o_forgiven o_sundays o_purse o_beside o_debts o_sitting o_visited o_log o_fitting o_found p1 p2 p3 p4 p5 = some r) : Wr l D (gy g) yX12_share cX12_share 6 (some .long) 4 [.ref o_q0, .int p1, .int p2, .int p3, .int p4, .int p5] (wMd g o_q0 o_q1 o_q2 o_q3 o_q4 o_q5 o_q6 o_q7 o_q8 o_q9 o_q10 o_q11 o_q12 o_q13 o_q14 o_q15 o_q16 o_q17 o_q18 o_q19 o_q20 o_q21 o_q22 o_code o_tape o_size o_fault o_faultPlace o_many o_towns o_weeks o_logs o_reached o_length o_begins o_sort o_value o_word o_wrongAt o_laterFault o_laterPlace o_told o_read o_farOne o_good o_town o_people o_when o_sat o_quiet o_vain o_lent o_forgiven o_sundays o_purse o_beside o_debts o_sitting o_visited o_week o_heaps o_taken o_best o_more o_firstOne o_log o_fitting o_found o_seed o_row o_saved) (wMd g o_q0 o_q1 o_q2 o_q3 o_q4 o_q5 o_q6 o_q7 o_q8 o_q9 o_q10 o_q11 o_q12 o_q13 o_q14 o_q15 o_q16 o_q17 o_q18 o_q19 o_q20 o_q21 o_q22 r.2.1 o_tape o_size o_fault o_faultPlace o_many o_towns o_weeks o_logs o_reached o_length o_begins o_sort o_value o_word o_wrongAt o_laterFault o_laterPlace o_told o_read o_farOne o_good r.2.2.1 r.2.2.2.1 r.2.2.2.2.1 r.2.2.2.2.2.1 r.2.2.2.2.2.2.1 r.2.2.2.2.2.2.2.1 r.2.2.2.2.2.2.2.2.1 r.2.2.2.2.2.2.2.2.2.1 r.2.2.2.2.2.2.2.2.2.2.1 r.2.2.2.2.2.2.2.2.2.2.2.1 r.2.2.2.2.2.2.2.2.2.2.2.2.1 r.2.2.2.2.2.2.2.2.2.2.2.2.2.1 r.2.2.2.2.2.2.2.2.2.2.2.2.2.2.1 r.2.2.2.2.2.2.2.2.2.2.2.2.2.2.2.1 o_week o_heaps o_taken o_best o_more o_firstOne r.2.2.2.2.2.2.2.2.2.2.2.2.2.2.2.2.1 r.2.2.2.2.2.2.2.2.2.2.2.2.2.2.2.2.2.1 r.2.2.2.2.2.2.2.2.2.2.2.2.2.2.2.2.2.2 o_seed o_row o_saved) (some (.long r.1)) := by
  refine Wr.ofL (by decide) (Nat.le_of_ble_eq_true rfl) ?_
  intro p e s m args below meth c Q A S hK hA hret ls hl hW
  have hl : lv_has ls 6 [(0, .ref o_q0), (1, .int p1), (2, .int p2), (3, .int p3), (4, .int p4), (5, .int p5)] := hl
  refine lv_aload_n S.1 S.2.1 dX12_share_0 rfl (lv_at hl 0 rfl) ?_
  refine lv_iconst (v := 0) S.1 S.2.1 dX12_share_1 ic_0 ?_
  refine pfX12_78 (ws2 := (wMd g o_q0 o_q1 o_q2 o_q3 o_q4 o_q5 o_q6 o_q7 o_q8 o_q9 o_q10 o_q11 o_q12 o_q13 o_q14 o_q15 o_q16 o_q17 o_q18 o_q19 o_q20 o_q21 o_q22 (0 : Int32) o_tape o_size o_fault o_faultPlace o_many o_towns o_weeks o_logs o_reached o_length o_begins o_sort o_value o_word o_wrongAt o_laterFault o_laterPlace o_told o_read o_farOne o_good o_town o_people o_when o_sat o_quiet o_vain o_lent o_forgiven o_sundays o_purse o_beside o_debts o_sitting o_visited o_week o_heaps o_taken o_best o_more o_firstOne o_log o_fitting o_found o_seed o_row o_saved)) S hK hW 0 rfl rfl rfl (Nat.le_of_ble_eq_true rfl) rfl dX12_share_2 (fun H locs hW => ?_)
  refine lv_aload_n S.1 S.2.1 dX12_share_5 rfl (lv_at hl 0 rfl) ?_
  refine lv_iload_n S.1 S.2.1 dX12_share_6 rfl (lv_at hl 1 rfl) ?_
  refine lv_iload_n S.1 S.2.1 dX12_share_7 rfl (lv_at hl 2 rfl) ?_
  obtain ⟨x1, hx1, hf⟩ := bnd_e hf
  refine Wr.goW (Wr.runV (c_X12_layLog hx1) S hK hW.1 hW.2.1 0 10 rfl rfl kVX12_411 rfl hl.1 [] rfl (Nat.le_of_ble_eq_true rfl) ⟨(Nat.le_of_ble_eq_true rfl), (Nat.le_of_ble_eq_true rfl)⟩ ⟨(Nat.zero_le _), (Nat.zero_le _)⟩ dX12_share_8) hW hA (fun H locs hW => ?_)
  refine lv_if_eq (tgt := 44) S.1 S.2.1 dX12_share_11 (by decide) (fun c_ => ?_) (fun c_ => ?_)
  · have hf := it_p c_ hf
    refine lv_ldc2 (v := (-1)) S.1 S.2.1 S.2.2.2.1 (S.2.2.2.2 _ q_1499) dX12_share_44 ?_
    have e_ := Option.some.inj hf
    subst e_
    exact hret _ _ _ _ dX12_share_47 hW
  · have hf := it_n c_ hf
    refine lv_aload_n S.1 S.2.1 dX12_share_14 rfl (lv_at hl 0 rfl) ?_
    refine lv_iload_n S.1 S.2.1 dX12_share_15 rfl (lv_at hl 3 rfl) ?_
    obtain ⟨x2, hx2, hf⟩ := bnd_e hf
    refine Rd.cV (c_X12_isPerson hx2) S hK hW.1 0 10 rfl rfl kVX12_260 rfl hl.1 [] rfl (Nat.le_of_ble_eq_true rfl) ⟨(Nat.le_of_ble_eq_true rfl), (Nat.le_of_ble_eq_true rfl)⟩ ⟨(Nat.zero_le _), (Nat.zero_le _)⟩ dX12_share_16 ?_
    refine lv_if_eq (tgt := 44) S.1 S.2.1 dX12_share_19 (by decide) (fun c_ => ?_) (fun c_ => ?_)
    · have hf := it_p c_ hf
      refine lv_ldc2 (v := (-1)) S.1 S.2.1 S.2.2.2.1 (S.2.2.2.2 _ q_1499) dX12_share_44 ?_
      have e_ := Option.some.inj hf
      subst e_
      exact hret _ _ _ _ dX12_share_47 hW
    · have hf := it_n c_ hf
      refine lv_aload_n S.1 S.2.1 dX12_share_22 rfl (lv_at hl 0 rfl) ?_
      refine lv_iload S.1 S.2.1 dX12_share_23 (lv_at hl 4 rfl) ?_
      obtain ⟨x3, hx3, hf⟩ := bnd_e hf
      refine Rd.cV (c_X12_isPerson hx3) S hK hW.1 0 10 rfl rfl kVX12_260 rfl hl.1 [] rfl (Nat.le_of_ble_eq_true rfl) ⟨(Nat.le_of_ble_eq_true rfl), (Nat.le_of_ble_eq_true rfl)⟩ ⟨(Nat.zero_le _), (Nat.zero_le _)⟩ dX12_share_25 ?_
      refine lv_if_eq (tgt := 44) S.1 S.2.1 dX12_share_28 (by decide) (fun c_ => ?_) (fun c_ => ?_)
      · have hf := it_p c_ hf
        refine lv_ldc2 (v := (-1)) S.1 S.2.1 S.2.2.2.1 (S.2.2.2.2 _ q_1499) dX12_share_44 ?_
        have e_ := Option.some.inj hf
        subst e_
        exact hret _ _ _ _ dX12_share_47 hW
      · have hf := it_n c_ hf
        refine lv_iload_n S.1 S.2.1 dX12_share_31 rfl (lv_at hl 3 rfl) ?_
        refine lv_iload S.1 S.2.1 dX12_share_32 (lv_at hl 4 rfl) ?_
        refine lv_icmp_eq (tgt := 44) S.1 S.2.1 dX12_share_34 (by decide) (fun c_ => ?_) (fun c_ => ?_)
        · have hf := it_p c_ hf
          refine lv_ldc2 (v := (-1)) S.1 S.2.1 S.2.2.2.1 (S.2.2.2.2 _ q_1499) dX12_share_44 ?_
          have e_ := Option.some.inj hf
          subst e_
          exact hret _ _ _ _ dX12_share_47 hW
        · have hf := it_n c_ hf
          refine lv_aload_n S.1 S.2.1 dX12_share_37 rfl (lv_at hl 0 rfl) ?_
          refine gfX12_398 S hK hW.1 0 rfl rfl dX12_share_38 ?_
          refine lv_if_ne (tgt := 48) S.1 S.2.1 dX12_share_41 (by decide) (fun c_ => ?_) (fun c_ => ?_)
          · have hf := it_n c_ hf
            refine lv_aload_n S.1 S.2.1 dX12_share_48 rfl (lv_at hl 0 rfl) ?_
            refine lv_iload_n S.1 S.2.1 dX12_share_49 rfl (lv_at hl 3 rfl) ?_
            refine lv_iload S.1 S.2.1 dX12_share_50 (lv_at hl 4 rfl) ?_
            obtain ⟨x4, hx4, hf⟩ := bnd_e hf
            refine Rd.cV (c_X12_manyTogether hx4) S hK hW.1 0 10 rfl rfl kVX12_408 rfl hl.1 [] rfl (Nat.le_of_ble_eq_true rfl) ⟨(Nat.le_of_ble_eq_true rfl), (Nat.le_of_ble_eq_true rfl)⟩ ⟨(Nat.zero_le _), (Nat.zero_le _)⟩ dX12_share_52 ?_
            refine lv_i2l (v := (x4.toInt64)) S.1 S.2.1 dX12_share_55 rfl ?_
            refine lv_aload_n S.1 S.2.1 dX12_share_56 rfl (lv_at hl 0 rfl) ?_
            refine gfX12_398 S hK hW.1 0 rfl rfl dX12_share_57 ?_
            refine lv_i2l (v := (x1.2.2.2.2.2.2.2.2.2.2.2.2.2.2.2.2.2.toInt64)) S.1 S.2.1 dX12_share_60 rfl ?_
            refine lv_iload S.1 S.2.1 dX12_share_61 (lv_at hl 5 rfl) ?_
            obtain ⟨x5, hx5, hf⟩ := bnd_e hf
            refine Rd.cS (c_X12_part hx5) S hK va_P.nil kSX12_379 rfl hl.1 [] rfl (Nat.le_of_ble_eq_true rfl) ⟨(Nat.le_of_ble_eq_true rfl), (Nat.le_of_ble_eq_true rfl)⟩ ⟨(Nat.zero_le _), (Nat.zero_le _)⟩ dX12_share_63 ?_
            have e_ := Option.some.inj hf
            subst e_
            exact hret _ _ _ _ dX12_share_66 hW
          · have hf := it_p c_ hf
            refine lv_ldc2 (v := (-1)) S.1 S.2.1 S.2.2.2.1 (S.2.2.2.2 _ q_1499) dX12_share_44 ?_
            have e_ := Option.some.inj hf
            subst e_
            exact hret _ _ _ _ dX12_share_47 hW
def f_X12_fewest_L40 (fu : Nat) (p3 : Int32) (x1 : Int32 × Int32 × Int32 × Int32 × Int32 × Int32 × Int32 × Int32 × Int32 × Int32 × (Nat → Int32) × (Nat → Int32) × (Nat → Int32) × (Nat → Int32) × (Nat → Int32) × Int32 × (Nat → Int32) × Int32) (s5 : Int32 × Int32) : Option ((Int32 × Int32) ⊕ (Int32)) := if x1.2.2.2.2.2.2.2.2.2.2.2.2.2.2.2.2.2 ≤ s5.2 then some (.inr s5.1) else bnd (α := Int32) (rdi 192 x1.2.2.2.2.2.2.2.2.2.2.2.2.2.2.2.2.1 s5.2) (fun x8 => bnd (α := Int32) (f_X12_ones fu (jrm x8 (100 : Int32))) (fun x9 => if p3 = 0 then bnd (α := Int32) (f_X12_lesser fu s5.1 x9) (fun x10 => some (.inl (x10, (s5.2 + 1)))) else bnd (α := Int32) (f_X12_greater fu s5.1 x9) (fun x11 => some (.inl (x11, (s5.2 + 1))))))
def f_X12_fewest (fu : Nat) (o_code : Int32) (o_many : (Nat → Int32)) (o_towns : (Nat → Int32)) (o_logs : (Nat → Int32)) (o_town : Int32) (o_people : Int32) (o_when : Int32) (o_sat : Int32) (o_quiet : Int32) (o_vain : Int32) (o_lent : Int32) (o_forgiven : Int32) (o_sundays : Int32) (o_purse : (Nat → Int32)) (o_beside : (Nat → Int32)) (o_debts : (Nat → Int32)) (o_sitting : (Nat → Int32)) (o_visited : (Nat → Int32)) (o_log : Int32) (o_fitting : (Nat → Int32)) (o_found : Int32) (p1 : Int32) (p2 : Int32) (p3 : Int32) : Option (Int32 × Int32 × Int32 × Int32 × Int32 × Int32 × Int32 × Int32 × Int32 × Int32 × Int32 × (Nat → Int32) × (Nat → Int32) × (Nat → Int32) × (Nat → Int32) × (Nat → Int32) × Int32 × (Nat → Int32) × Int32) := bnd (α := Int32 × Int32 × Int32 × Int32 × Int32 × Int32 × Int32 × Int32 × Int32 × Int32 × (Nat → Int32) × (Nat → Int32) × (Nat → Int32) × (Nat → Int32) × (Nat → Int32) × Int32 × (Nat → Int32) × Int32) (f_X12_layLog fu o_many o_towns o_logs o_town o_people o_when o_sat o_quiet o_vain o_lent o_forgiven o_sundays o_purse o_beside o_debts o_sitting o_visited o_log o_fitting o_found p1 p2) (fun x1 => if x1.1 = 0 then some ((-1 : Int32), (0 : Int32), x1.2.1, x1.2.2.1, x1.2.2.2.1, x1.2.2.2.2.1, x1.2.2.2.2.2.1, x1.2.2.2.2.2.2.1, x1.2.2.2.2.2.2.2.1, x1.2.2.2.2.2.2.2.2.1, x1.2.2.2.2.2.2.2.2.2.1, x1.2.2.2.2.2.2.2.2.2.2.1, x1.2.2.2.2.2.2.2.2.2.2.2.1, x1.2.2.2.2.2.2.2.2.2.2.2.2.1, x1.2.2.2.2.2.2.2.2.2.2.2.2.2.1, x1.2.2.2.2.2.2.2.2.2.2.2.2.2.2.1, x1.2.2.2.2.2.2.2.2.2.2.2.2.2.2.2.1, x1.2.2.2.2.2.2.2.2.2.2.2.2.2.2.2.2.1, x1.2.2.2.2.2.2.2.2.2.2.2.2.2.2.2.2.2) else if x1.2.2.2.2.2.2.2.2.2.2.2.2.2.2.2.2.2 = 0 then some ((-1 : Int32), (0 : Int32), x1.2.1, x1.2.2.1, x1.2.2.2.1, x1.2.2.2.2.1, x1.2.2.2.2.2.1, x1.2.2.2.2.2.2.1, x1.2.2.2.2.2.2.2.1, x1.2.2.2.2.2.2.2.2.1, x1.2.2.2.2.2.2.2.2.2.1, x1.2.2.2.2.2.2.2.2.2.2.1, x1.2.2.2.2.2.2.2.2.2.2.2.1, x1.2.2.2.2.2.2.2.2.2.2.2.2.1, x1.2.2.2.2.2.2.2.2.2.2.2.2.2.1, x1.2.2.2.2.2.2.2.2.2.2.2.2.2.2.1, x1.2.2.2.2.2.2.2.2.2.2.2.2.2.2.2.1, x1.2.2.2.2.2.2.2.2.2.2.2.2.2.2.2.2.1, x1.2.2.2.2.2.2.2.2.2.2.2.2.2.2.2.2.2) else bnd (α := Int32) (rdi 192 x1.2.2.2.2.2.2.2.2.2.2.2.2.2.2.2.2.1 (0 : Int32)) (fun x2 => bnd (α := Int32) (f_X12_ones fu (jrm x2 (100 : Int32))) (fun x3 => bnd (α := Int32) (lp (f_X12_fewest_L40 fu p3 x1) fu (x3, (0 : Int32))) (fun v12 => some (v12, (0 : Int32), x1.2.1, x1.2.2.1, x1.2.2.2.1, x1.2.2.2.2.1, x1.2.2.2.2.2.1, x1.2.2.2.2.2.2.1, x1.2.2.2.2.2.2.2.1, x1.2.2.2.2.2.2.2.2.1, x1.2.2.2.2.2.2.2.2.2.1, x1.2.2.2.2.2.2.2.2.2.2.1, x1.2.2.2.2.2.2.2.2.2.2.2.1, x1.2.2.2.2.2.2.2.2.2.2.2.2.1, x1.2.2.2.2.2.2.2.2.2.2.2.2.2.1, x1.2.2.2.2.2.2.2.2.2.2.2.2.2.2.1, x1.2.2.2.2.2.2.2.2.2.2.2.2.2.2.2.1, x1.2.2.2.2.2.2.2.2.2.2.2.2.2.2.2.2.1, x1.2.2.2.2.2.2.2.2.2.2.2.2.2.2.2.2.2)))))
set_option maxHeartbeats 4000000 in
set_option maxRecDepth 100000 in
theorem c_X12_fewest {l : Launch} {D : va_G} {g : Nat → ClassId} {fu : Nat} {o_q0 o_q1 o_q2 o_q3 o_q4 o_q5 o_q6 o_q7 o_q8 o_q9 o_q10 o_q11 o_q12 o_q13 o_q14 o_q15 o_q16 o_q17 o_q18 o_q19 o_q20 o_q21 o_q22 : Nat} {o_code : Int32} {o_tape : (Nat → Int32)} {o_size : (Nat → Int32)} {o_fault : (Nat → Int32)} {o_faultPlace : (Nat → Int32)} {o_many : (Nat → Int32)} {o_towns : (Nat → Int32)} {o_weeks : (Nat → Int32)} {o_logs : (Nat → Int32)} {o_reached : Int32} {o_length : Int32} {o_begins : Int32} {o_sort : Int32} {o_value : Int32} {o_word : Int64} {o_wrongAt : Int32} {o_laterFault : Int32} {o_laterPlace : Int32} {o_told : (Nat → Int32)} {o_read : (Nat → Int32)} {o_farOne : Int32} {o_good : Int32} {o_town : Int32} {o_people : Int32} {o_when : Int32} {o_sat : Int32} {o_quiet : Int32} {o_vain : Int32} {o_lent : Int32} {o_forgiven : Int32} {o_sundays : Int32} {o_purse : (Nat → Int32)} {o_beside : (Nat → Int32)} {o_debts : (Nat → Int32)} {o_sitting : (Nat → Int32)} {o_visited : (Nat → Int32)} {o_week : Int32} {o_heaps : (Nat → Int32)} {o_taken : (Nat → Int32)} {o_best : (Nat → Int32)} {o_more : (Nat → Int32)} {o_firstOne : Int32} {o_log : Int32} {o_fitting : (Nat → Int32)} {o_found : Int32} {o_seed : Int32} {o_row : (Nat → Int32)} {o_saved : (Nat → Int32)} {p1 : Int32} {p2 : Int32} {p3 : Int32} {r : Int32 × Int32 × Int32 × Int32 × Int32 × Int32 × Int32 × Int32 × Int32 × Int32 × Int32 × (Nat → Int32) × (Nat → Int32) × (Nat → Int32) × (Nat → Int32) × (Nat → Int32) × Int32 × (Nat → Int32) × Int32} (hf : f_X12_fewest fu o_code o_many o_towns o_logs o_town o_people o_when o_sat o_quiet o_vain o_lent o_forgiven o_sundays o_purse o_beside o_debts o_sitting o_visited o_log o_fitting o_found p1 p2 p3 = some r) : Wr l D (gy g) yX12_fewest cX12_fewest 7 (some .int) 4 [.ref o_q0, .int p1, .int p2, .int p3] (wMd g o_q0 o_q1 o_q2 o_q3 o_q4 o_q5 o_q6 o_q7 o_q8 o_q9 o_q10 o_q11 o_q12 o_q13 o_q14 o_q15 o_q16 o_q17 o_q18 o_q19 o_q20 o_q21 o_q22 o_code o_tape o_size o_fault o_faultPlace o_many o_towns o_weeks o_logs o_reached o_length o_begins o_sort o_value o_word o_wrongAt o_laterFault o_laterPlace o_told o_read o_farOne o_good o_town o_people o_when o_sat o_quiet o_vain o_lent o_forgiven o_sundays o_purse o_beside o_debts o_sitting o_visited o_week o_heaps o_taken o_best o_more o_firstOne o_log o_fitting o_found o_seed o_row o_saved) (wMd g o_q0 o_q1 o_q2 o_q3 o_q4 o_q5 o_q6 o_q7 o_q8 o_q9 o_q10 o_q11 o_q12 o_q13 o_q14 o_q15 o_q16 o_q17 o_q18 o_q19 o_q20 o_q21 o_q22 r.2.1 o_tape o_size o_fault o_faultPlace o_many o_towns o_weeks o_logs o_reached o_length o_begins o_sort o_value o_word o_wrongAt o_laterFault o_laterPlace o_told o_read o_farOne o_good r.2.2.1 r.2.2.2.1 r.2.2.2.2.1 r.2.2.2.2.2.1 r.2.2.2.2.2.2.1 r.2.2.2.2.2.2.2.1 r.2.2.2.2.2.2.2.2.1 r.2.2.2.2.2.2.2.2.2.1 r.2.2.2.2.2.2.2.2.2.2.1 r.2.2.2.2.2.2.2.2.2.2.2.1 r.2.2.2.2.2.2.2.2.2.2.2.2.1 r.2.2.2.2.2.2.2.2.2.2.2.2.2.1 r.2.2.2.2.2.2.2.2.2.2.2.2.2.2.1 r.2.2.2.2.2.2.2.2.2.2.2.2.2.2.2.1 o_week o_heaps o_taken o_best o_more o_firstOne r.2.2.2.2.2.2.2.2.2.2.2.2.2.2.2.2.1 r.2.2.2.2.2.2.2.2.2.2.2.2.2.2.2.2.2.1 r.2.2.2.2.2.2.2.2.2.2.2.2.2.2.2.2.2.2 o_seed o_row o_saved) (some (.int r.1)) := by
  refine Wr.ofI (by decide) (Nat.le_of_ble_eq_true rfl) ?_
  intro p e s m args below meth c Q A S hK hA hret ls hl hW
  have hl : lv_has ls 7 [(0, .ref o_q0), (1, .int p1), (2, .int p2), (3, .int p3)] := hl
  refine lv_aload_n S.1 S.2.1 dX12_fewest_0 rfl (lv_at hl 0 rfl) ?_
  refine lv_iconst (v := 0) S.1 S.2.1 dX12_fewest_1 ic_0 ?_
  refine pfX12_78 (ws2 := (wMd g o_q0 o_q1 o_q2 o_q3 o_q4 o_q5 o_q6 o_q7 o_q8 o_q9 o_q10 o_q11 o_q12 o_q13 o_q14 o_q15 o_q16 o_q17 o_q18 o_q19 o_q20 o_q21 o_q22 (0 : Int32) o_tape o_size o_fault o_faultPlace o_many o_towns o_weeks o_logs o_reached o_length o_begins o_sort o_value o_word o_wrongAt o_laterFault o_laterPlace o_told o_read o_farOne o_good o_town o_people o_when o_sat o_quiet o_vain o_lent o_forgiven o_sundays o_purse o_beside o_debts o_sitting o_visited o_week o_heaps o_taken o_best o_more o_firstOne o_log o_fitting o_found o_seed o_row o_saved)) S hK hW 0 rfl rfl rfl (Nat.le_of_ble_eq_true rfl) rfl dX12_fewest_2 (fun H locs hW => ?_)
  refine lv_aload_n S.1 S.2.1 dX12_fewest_5 rfl (lv_at hl 0 rfl) ?_
  refine lv_iload_n S.1 S.2.1 dX12_fewest_6 rfl (lv_at hl 1 rfl) ?_
  refine lv_iload_n S.1 S.2.1 dX12_fewest_7 rfl (lv_at hl 2 rfl) ?_
  obtain ⟨x1, hx1, hf⟩ := bnd_e hf
  refine Wr.goW (Wr.runV (c_X12_layLog hx1) S hK hW.1 hW.2.1 0 10 rfl rfl kVX12_411 rfl hl.1 [] rfl (Nat.le_of_ble_eq_true rfl) ⟨(Nat.le_of_ble_eq_true rfl), (Nat.le_of_ble_eq_true rfl)⟩ ⟨(Nat.zero_le _), (Nat.zero_le _)⟩ dX12_fewest_8) hW hA (fun H locs hW => ?_)
  refine lv_if_eq (tgt := 21) S.1 S.2.1 dX12_fewest_11 (by decide) (fun c_ => ?_) (fun c_ => ?_)
  · have hf := it_p c_ hf
    refine lv_iconst (v := (-1)) S.1 S.2.1 dX12_fewest_21 ic_m1 ?_
    have e_ := Option.some.inj hf
    subst e_
    exact hret _ _ _ _ dX12_fewest_22 hW
  · have hf := it_n c_ hf
    refine lv_aload_n S.1 S.2.1 dX12_fewest_14 rfl (lv_at hl 0 rfl) ?_
    refine gfX12_398 S hK hW.1 0 rfl rfl dX12_fewest_15 ?_
    refine lv_if_ne (tgt := 23) S.1 S.2.1 dX12_fewest_18 (by decide) (fun c_ => ?_) (fun c_ => ?_)
    · have hf := it_n c_ hf
      refine lv_aload_n S.1 S.2.1 dX12_fewest_23 rfl (lv_at hl 0 rfl) ?_
      refine gfX12_68 S hK hW.1 0 rfl rfl dX12_fewest_24 ?_
      refine lv_iconst (v := 0) S.1 S.2.1 dX12_fewest_27 ic_0 ?_
      obtain ⟨x2, hx2, hf⟩ := bnd_e hf
      refine q_iald S hK hW.1 20 0 rfl rfl hx2 dX12_fewest_28 ?_
      refine lv_bipush (v := 100) S.1 S.2.1 dX12_fewest_29 bp_100 ?_
      refine lv_irem S.1 S.2.1 dX12_fewest_31 (by decide) ?_
      obtain ⟨x3, hx3, hf⟩ := bnd_e hf
      refine Rd.cS (c_X12_ones hx3) S hK va_P.nil kSX12_358 rfl hl.1 [] rfl (Nat.le_of_ble_eq_true rfl) ⟨(Nat.le_of_ble_eq_true rfl), (Nat.le_of_ble_eq_true rfl)⟩ ⟨(Nat.zero_le _), (Nat.zero_le _)⟩ dX12_fewest_32 ?_
      refine lv_istore (lv' := [(4, .int x3), (0, .ref o_q0), (1, .int p1), (2, .int p2), (3, .int p3)]) S.1 S.2.1 dX12_fewest_35 hl (by decide) rfl (fun ls hl => ?_)
      refine lv_iconst (v := 0) S.1 S.2.1 dX12_fewest_37 ic_0 ?_
      refine lv_istore (lv' := [(5, .int (0 : Int32)), (4, .int x3), (0, .ref o_q0), (1, .int p1), (2, .int p2), (3, .int p3)]) S.1 S.2.1 dX12_fewest_38 hl (by decide) rfl (fun ls hl => ?_)
      obtain ⟨x6, hf_, hk6⟩ := bnd_e hf
      have hE6 : ∀ (v12 : Int32), v12 = x6 → ∀ (ls : Array Slot) (H : Heap) (locs : List Loc), lv_has ls 7 [(4, .int v12)] → St A s.heap D (wMd g o_q0 o_q1 o_q2 o_q3 o_q4 o_q5 o_q6 o_q7 o_q8 o_q9 o_q10 o_q11 o_q12 o_q13 o_q14 o_q15 o_q16 o_q17 o_q18 o_q19 o_q20 o_q21 o_q22 (0 : Int32) o_tape o_size o_fault o_faultPlace o_many o_towns o_weeks o_logs o_reached o_length o_begins o_sort o_value o_word o_wrongAt o_laterFault o_laterPlace o_told o_read o_farOne o_good x1.2.1 x1.2.2.1 x1.2.2.2.1 x1.2.2.2.2.1 x1.2.2.2.2.2.1 x1.2.2.2.2.2.2.1 x1.2.2.2.2.2.2.2.1 x1.2.2.2.2.2.2.2.2.1 x1.2.2.2.2.2.2.2.2.2.1 x1.2.2.2.2.2.2.2.2.2.2.1 x1.2.2.2.2.2.2.2.2.2.2.2.1 x1.2.2.2.2.2.2.2.2.2.2.2.2.1 x1.2.2.2.2.2.2.2.2.2.2.2.2.2.1 x1.2.2.2.2.2.2.2.2.2.2.2.2.2.2.1 o_week o_heaps o_taken o_best o_more o_firstOne x1.2.2.2.2.2.2.2.2.2.2.2.2.2.2.2.1 x1.2.2.2.2.2.2.2.2.2.2.2.2.2.2.2.2.1 x1.2.2.2.2.2.2.2.2.2.2.2.2.2.2.2.2.2 o_seed o_row o_saved) H locs → W p l e (rmD 4) s m args below meth c H locs 0 0 Q (F0 m 93 ls []) := by
        intro v12 e_ ls H locs hl hW
        subst e_
        have hf := hk6
        refine lv_iload S.1 S.2.1 dX12_fewest_93 (lv_at hl 0 rfl) ?_
        have e_ := Option.some.inj hf
        subst e_
        exact hret _ _ _ _ dX12_fewest_95 hW
      refine lp_ind (P := fun (s5 : Int32 × Int32) => ∀ (ls : Array Slot) (H : Heap) (locs : List Loc), lv_has ls 7 [(0, .ref o_q0), (3, .int p3), (4, .int s5.1), (5, .int s5.2)] → St A s.heap D (wMd g o_q0 o_q1 o_q2 o_q3 o_q4 o_q5 o_q6 o_q7 o_q8 o_q9 o_q10 o_q11 o_q12 o_q13 o_q14 o_q15 o_q16 o_q17 o_q18 o_q19 o_q20 o_q21 o_q22 (0 : Int32) o_tape o_size o_fault o_faultPlace o_many o_towns o_weeks o_logs o_reached o_length o_begins o_sort o_value o_word o_wrongAt o_laterFault o_laterPlace o_told o_read o_farOne o_good x1.2.1 x1.2.2.1 x1.2.2.2.1 x1.2.2.2.2.1 x1.2.2.2.2.2.1 x1.2.2.2.2.2.2.1 x1.2.2.2.2.2.2.2.1 x1.2.2.2.2.2.2.2.2.1 x1.2.2.2.2.2.2.2.2.2.1 x1.2.2.2.2.2.2.2.2.2.2.1 x1.2.2.2.2.2.2.2.2.2.2.2.1 x1.2.2.2.2.2.2.2.2.2.2.2.2.1 x1.2.2.2.2.2.2.2.2.2.2.2.2.2.1 x1.2.2.2.2.2.2.2.2.2.2.2.2.2.2.1 o_week o_heaps o_taken o_best o_more o_firstOne x1.2.2.2.2.2.2.2.2.2.2.2.2.2.2.2.1 x1.2.2.2.2.2.2.2.2.2.2.2.2.2.2.2.2.1 x1.2.2.2.2.2.2.2.2.2.2.2.2.2.2.2.2.2 o_seed o_row o_saved) H locs → W p l e (rmD 4) s m args below meth c H locs 0 0 Q (F0 m 40 ls [])) ?_ _ _ hf_ _ _ _ (lv_sub hl [2, 5, 1, 0] rfl) hW
      intro s5 x7 hf hI6 hR6 ls H locs hl hW
      refine lv_iload S.1 S.2.1 dX12_fewest_40 (lv_at hl 3 rfl) ?_
      refine lv_aload_n S.1 S.2.1 dX12_fewest_42 rfl (lv_at hl 0 rfl) ?_
      refine gfX12_398 S hK hW.1 0 rfl rfl dX12_fewest_43 ?_
      refine lv_icmp_ge (tgt := 93) S.1 S.2.1 dX12_fewest_46 (by decide) (fun c_ => ?_) (fun c_ => ?_)
      · have hf := it_p c_ hf
        have e_ := hR6 _ (Option.some.inj hf).symm
        exact hE6 _ e_ _ _ _ (lv_sub hl [2] rfl) hW
      · have hf := it_n c_ hf
        refine lv_aload_n S.1 S.2.1 dX12_fewest_49 rfl (lv_at hl 0 rfl) ?_
        refine gfX12_68 S hK hW.1 0 rfl rfl dX12_fewest_50 ?_
        refine lv_iload S.1 S.2.1 dX12_fewest_53 (lv_at hl 3 rfl) ?_
        obtain ⟨x8, hx8, hf⟩ := bnd_e hf
        refine q_iald S hK hW.1 20 0 rfl rfl hx8 dX12_fewest_55 ?_
        refine lv_bipush (v := 100) S.1 S.2.1 dX12_fewest_56 bp_100 ?_
        refine lv_irem S.1 S.2.1 dX12_fewest_58 (by decide) ?_
        obtain ⟨x9, hx9, hf⟩ := bnd_e hf
        refine Rd.cS (c_X12_ones hx9) S hK va_P.nil kSX12_358 rfl hl.1 [] rfl (Nat.le_of_ble_eq_true rfl) ⟨(Nat.le_of_ble_eq_true rfl), (Nat.le_of_ble_eq_true rfl)⟩ ⟨(Nat.zero_le _), (Nat.zero_le _)⟩ dX12_fewest_59 ?_
        refine lv_istore (lv' := [(6, .int x9), (0, .ref o_q0), (3, .int p3), (4, .int s5.1), (5, .int s5.2)]) S.1 S.2.1 dX12_fewest_62 hl (by decide) rfl (fun ls hl => ?_)
        refine lv_iload_n S.1 S.2.1 dX12_fewest_64 rfl (lv_at hl 2 rfl) ?_
        refine lv_if_eq (tgt := 78) S.1 S.2.1 dX12_fewest_65 (by decide) (fun c_ => ?_) (fun c_ => ?_)
        · have hf := it_p c_ hf
          refine lv_iload S.1 S.2.1 dX12_fewest_78 (lv_at hl 3 rfl) ?_
          refine lv_iload S.1 S.2.1 dX12_fewest_80 (lv_at hl 0 rfl) ?_
          obtain ⟨x10, hx10, hf⟩ := bnd_e hf
          refine Rd.cS (c_X12_lesser hx10) S hK va_P.nil kSX12_281 rfl hl.1 [] rfl (Nat.le_of_ble_eq_true rfl) ⟨(Nat.le_of_ble_eq_true rfl), (Nat.le_of_ble_eq_true rfl)⟩ ⟨(Nat.zero_le _), (Nat.zero_le _)⟩ dX12_fewest_82 ?_
          refine lv_istore (lv' := [(4, .int x10), (6, .int x9), (0, .ref o_q0), (3, .int p3), (5, .int s5.2)]) S.1 S.2.1 dX12_fewest_85 hl (by decide) rfl (fun ls hl => ?_)
          refine q_iinc (w := 1) (lv' := [(5, .int (s5.2 + 1)), (4, .int x10), (6, .int x9), (0, .ref o_q0), (3, .int p3)]) S dX12_fewest_87 hl (k := 4) rfl ic_1 (by decide) rfl (fun ls hl => ?_)
          refine lv_goto (tgt := 40) S.1 S.2.1 dX12_fewest_90 (by decide) ?_
          exact hI6 _ (Option.some.inj hf).symm _ _ _ (lv_sub hl [3, 4, 1, 0] rfl) hW
        · have hf := it_n c_ hf
          refine lv_iload S.1 S.2.1 dX12_fewest_68 (lv_at hl 3 rfl) ?_
          refine lv_iload S.1 S.2.1 dX12_fewest_70 (lv_at hl 0 rfl) ?_
          obtain ⟨x11, hx11, hf⟩ := bnd_e hf
          refine Rd.cS (c_X12_greater hx11) S hK va_P.nil kSX12_171 rfl hl.1 [] rfl (Nat.le_of_ble_eq_true rfl) ⟨(Nat.le_of_ble_eq_true rfl), (Nat.le_of_ble_eq_true rfl)⟩ ⟨(Nat.zero_le _), (Nat.zero_le _)⟩ dX12_fewest_72 ?_
          refine lv_goto (tgt := 85) S.1 S.2.1 dX12_fewest_75 (by decide) ?_
          refine lv_istore (lv' := [(4, .int x11), (6, .int x9), (0, .ref o_q0), (3, .int p3), (5, .int s5.2)]) S.1 S.2.1 dX12_fewest_85 hl (by decide) rfl (fun ls hl => ?_)
          refine q_iinc (w := 1) (lv' := [(5, .int (s5.2 + 1)), (4, .int x11), (6, .int x9), (0, .ref o_q0), (3, .int p3)]) S dX12_fewest_87 hl (k := 4) rfl ic_1 (by decide) rfl (fun ls hl => ?_)
          refine lv_goto (tgt := 40) S.1 S.2.1 dX12_fewest_90 (by decide) ?_
          exact hI6 _ (Option.some.inj hf).symm _ _ _ (lv_sub hl [3, 4, 1, 0] rfl) hW
    · have hf := it_p c_ hf
      refine lv_iconst (v := (-1)) S.1 S.2.1 dX12_fewest_21 ic_m1 ?_
      have e_ := Option.some.inj hf
      subst e_
      exact hret _ _ _ _ dX12_fewest_22 hW
def f_X12_count (fu : Nat) (o_code : Int32) (o_many : (Nat → Int32)) (p1 : Int32) : Option (Int32 × Int32) := bnd (α := Int32) (f_X12_in fu p1 (0 : Int32) (2 : Int32)) (fun x1 => if x1 = 0 then some ((-2 : Int32), (0 : Int32)) else bnd (α := Int32) (rdi 12 o_many p1) (fun x2 => some (x2, (0 : Int32))))
set_option maxHeartbeats 4000000 in
set_option maxRecDepth 100000 in
theorem c_X12_count {l : Launch} {D : va_G} {g : Nat → ClassId} {fu : Nat} {o_q0 o_q1 o_q2 o_q3 o_q4 o_q5 o_q6 o_q7 o_q8 o_q9 o_q10 o_q11 o_q12 o_q13 o_q14 o_q15 o_q16 o_q17 o_q18 o_q19 o_q20 o_q21 o_q22 : Nat} {o_code : Int32} {o_tape : (Nat → Int32)} {o_size : (Nat → Int32)} {o_fault : (Nat → Int32)} {o_faultPlace : (Nat → Int32)} {o_many : (Nat → Int32)} {o_towns : (Nat → Int32)} {o_weeks : (Nat → Int32)} {o_logs : (Nat → Int32)} {o_reached : Int32} {o_length : Int32} {o_begins : Int32} {o_sort : Int32} {o_value : Int32} {o_word : Int64} {o_wrongAt : Int32} {o_laterFault : Int32} {o_laterPlace : Int32} {o_told : (Nat → Int32)} {o_read : (Nat → Int32)} {o_farOne : Int32} {o_good : Int32} {o_town : Int32} {o_people : Int32} {o_when : Int32} {o_sat : Int32} {o_quiet : Int32} {o_vain : Int32} {o_lent : Int32} {o_forgiven : Int32} {o_sundays : Int32} {o_purse : (Nat → Int32)} {o_beside : (Nat → Int32)} {o_debts : (Nat → Int32)} {o_sitting : (Nat → Int32)} {o_visited : (Nat → Int32)} {o_week : Int32} {o_heaps : (Nat → Int32)} {o_taken : (Nat → Int32)} {o_best : (Nat → Int32)} {o_more : (Nat → Int32)} {o_firstOne : Int32} {o_log : Int32} {o_fitting : (Nat → Int32)} {o_found : Int32} {o_seed : Int32} {o_row : (Nat → Int32)} {o_saved : (Nat → Int32)} {p1 : Int32} {r : Int32 × Int32} (hf : f_X12_count fu o_code o_many p1 = some r) : Wr l D (gy g) yX12_count cX12_count 2 (some .int) 1 [.ref o_q0, .int p1] (wMd g o_q0 o_q1 o_q2 o_q3 o_q4 o_q5 o_q6 o_q7 o_q8 o_q9 o_q10 o_q11 o_q12 o_q13 o_q14 o_q15 o_q16 o_q17 o_q18 o_q19 o_q20 o_q21 o_q22 o_code o_tape o_size o_fault o_faultPlace o_many o_towns o_weeks o_logs o_reached o_length o_begins o_sort o_value o_word o_wrongAt o_laterFault o_laterPlace o_told o_read o_farOne o_good o_town o_people o_when o_sat o_quiet o_vain o_lent o_forgiven o_sundays o_purse o_beside o_debts o_sitting o_visited o_week o_heaps o_taken o_best o_more o_firstOne o_log o_fitting o_found o_seed o_row o_saved) (wMd g o_q0 o_q1 o_q2 o_q3 o_q4 o_q5 o_q6 o_q7 o_q8 o_q9 o_q10 o_q11 o_q12 o_q13 o_q14 o_q15 o_q16 o_q17 o_q18 o_q19 o_q20 o_q21 o_q22 r.2 o_tape o_size o_fault o_faultPlace o_many o_towns o_weeks o_logs o_reached o_length o_begins o_sort o_value o_word o_wrongAt o_laterFault o_laterPlace o_told o_read o_farOne o_good o_town o_people o_when o_sat o_quiet o_vain o_lent o_forgiven o_sundays o_purse o_beside o_debts o_sitting o_visited o_week o_heaps o_taken o_best o_more o_firstOne o_log o_fitting o_found o_seed o_row o_saved) (some (.int r.1)) := by
  refine Wr.ofI (by decide) (Nat.le_of_ble_eq_true rfl) ?_
  intro p e s m args below meth c Q A S hK hA hret ls hl hW
  have hl : lv_has ls 2 [(0, .ref o_q0), (1, .int p1)] := hl
  refine lv_aload_n S.1 S.2.1 dX12_count_0 rfl (lv_at hl 0 rfl) ?_
  refine lv_iconst (v := 0) S.1 S.2.1 dX12_count_1 ic_0 ?_
  refine pfX12_78 (ws2 := (wMd g o_q0 o_q1 o_q2 o_q3 o_q4 o_q5 o_q6 o_q7 o_q8 o_q9 o_q10 o_q11 o_q12 o_q13 o_q14 o_q15 o_q16 o_q17 o_q18 o_q19 o_q20 o_q21 o_q22 (0 : Int32) o_tape o_size o_fault o_faultPlace o_many o_towns o_weeks o_logs o_reached o_length o_begins o_sort o_value o_word o_wrongAt o_laterFault o_laterPlace o_told o_read o_farOne o_good o_town o_people o_when o_sat o_quiet o_vain o_lent o_forgiven o_sundays o_purse o_beside o_debts o_sitting o_visited o_week o_heaps o_taken o_best o_more o_firstOne o_log o_fitting o_found o_seed o_row o_saved)) S hK hW 0 rfl rfl rfl (Nat.le_of_ble_eq_true rfl) rfl dX12_count_2 (fun H locs hW => ?_)
  refine lv_iload_n S.1 S.2.1 dX12_count_5 rfl (lv_at hl 1 rfl) ?_
  refine lv_iconst (v := 0) S.1 S.2.1 dX12_count_6 ic_0 ?_
  refine lv_iconst (v := 2) S.1 S.2.1 dX12_count_7 ic_2 ?_
  obtain ⟨x1, hx1, hf⟩ := bnd_e hf
  refine Rd.cS (c_X12_in hx1) S hK va_P.nil kSX12_90 rfl hl.1 [] rfl (Nat.le_of_ble_eq_true rfl) ⟨(Nat.le_of_ble_eq_true rfl), (Nat.le_of_ble_eq_true rfl)⟩ ⟨(Nat.zero_le _), (Nat.zero_le _)⟩ dX12_count_8 ?_
  refine lv_if_eq (tgt := 23) S.1 S.2.1 dX12_count_11 (by decide) (fun c_ => ?_) (fun c_ => ?_)
  · have hf := it_p c_ hf
    refine lv_bipush (v := (-2)) S.1 S.2.1 dX12_count_23 bp_m2 ?_
    have e_ := Option.some.inj hf
    subst e_
    exact hret _ _ _ _ dX12_count_25 hW
  · have hf := it_n c_ hf
    refine lv_aload_n S.1 S.2.1 dX12_count_14 rfl (lv_at hl 0 rfl) ?_
    refine gfX12_23 S hK hW.1 0 rfl rfl dX12_count_15 ?_
    refine lv_iload_n S.1 S.2.1 dX12_count_18 rfl (lv_at hl 1 rfl) ?_
    obtain ⟨x2, hx2, hf⟩ := bnd_e hf
    refine q_iald S hK hW.1 5 0 rfl rfl hx2 dX12_count_19 ?_
    refine lv_goto (tgt := 25) S.1 S.2.1 dX12_count_20 (by decide) ?_
    have e_ := Option.some.inj hf
    subst e_
    exact hret _ _ _ _ dX12_count_25 hW
def f_X12_image (fu : Nat) (o_code : Int32) (o_tape : (Nat → Int32)) (o_size : (Nat → Int32)) (o_fault : (Nat → Int32)) (o_faultPlace : (Nat → Int32)) (o_many : (Nat → Int32)) (o_towns : (Nat → Int32)) (o_weeks : (Nat → Int32)) (o_logs : (Nat → Int32)) (o_saved : (Nat → Int32)) (p1 : Int32) : Option (Int32 × Int32 × (Nat → Int32) × (Nat → Int32) × (Nat → Int32) × (Nat → Int32) × (Nat → Int32) × (Nat → Int32) × (Nat → Int32) × (Nat → Int32) × (Nat → Int32)) := bnd (α := Int32) (f_X12_in fu p1 (0 : Int32) (2 : Int32)) (fun x1 => if x1 = 0 then some ((0 : Int32), (0 : Int32), o_tape, o_size, o_fault, o_faultPlace, o_many, o_towns, o_weeks, o_logs, o_saved) else bnd (α := (Nat → Int32) × (Nat → Int32) × (Nat → Int32) × (Nat → Int32) × (Nat → Int32) × (Nat → Int32) × (Nat → Int32) × (Nat → Int32)) (f_X12_copyAll fu o_tape o_size o_fault o_faultPlace o_many o_towns o_weeks o_logs (0 : Int32) (p1 + (1 : Int32))) (fun x2 => bnd (α := (Nat → Int32)) (wri 3 o_saved p1 (vp_nar .boolean (1 : Int32))) (fun x3 => some ((1 : Int32), (0 : Int32), x2.1, x2.2.1, x2.2.2.1, x2.2.2.2.1, x2.2.2.2.2.1, x2.2.2.2.2.2.1, x2.2.2.2.2.2.2.1, x2.2.2.2.2.2.2.2, x3))))
set_option maxHeartbeats 4000000 in
set_option maxRecDepth 100000 in
theorem c_X12_image {l : Launch} {D : va_G} {g : Nat → ClassId} {fu : Nat} {o_q0 o_q1 o_q2 o_q3 o_q4 o_q5 o_q6 o_q7 o_q8 o_q9 o_q10 o_q11 o_q12 o_q13 o_q14 o_q15 o_q16 o_q17 o_q18 o_q19 o_q20 o_q21 o_q22 : Nat} {o_code : Int32} {o_tape : (Nat → Int32)} {o_size : (Nat → Int32)} {o_fault : (Nat → Int32)} {o_faultPlace : (Nat → Int32)} {o_many : (Nat → Int32)} {o_towns : (Nat → Int32)} {o_weeks : (Nat → Int32)} {o_logs : (Nat → Int32)} {o_reached : Int32} {o_length : Int32} {o_begins : Int32} {o_sort : Int32} {o_value : Int32} {o_word : Int64} {o_wrongAt : Int32} {o_laterFault : Int32} {o_laterPlace : Int32} {o_told : (Nat → Int32)} {o_read : (Nat → Int32)} {o_farOne : Int32} {o_good : Int32} {o_town : Int32} {o_people : Int32} {o_when : Int32} {o_sat : Int32} {o_quiet : Int32} {o_vain : Int32} {o_lent : Int32} {o_forgiven : Int32} {o_sundays : Int32} {o_purse : (Nat → Int32)} {o_beside : (Nat → Int32)} {o_debts : (Nat → Int32)} {o_sitting : (Nat → Int32)} {o_visited : (Nat → Int32)} {o_week : Int32} {o_heaps : (Nat → Int32)} {o_taken : (Nat → Int32)} {o_best : (Nat → Int32)} {o_more : (Nat → Int32)} {o_firstOne : Int32} {o_log : Int32} {o_fitting : (Nat → Int32)} {o_found : Int32} {o_seed : Int32} {o_row : (Nat → Int32)} {o_saved : (Nat → Int32)} {p1 : Int32} {r : Int32 × Int32 × (Nat → Int32) × (Nat → Int32) × (Nat → Int32) × (Nat → Int32) × (Nat → Int32) × (Nat → Int32) × (Nat → Int32) × (Nat → Int32) × (Nat → Int32)} (hf : f_X12_image fu o_code o_tape o_size o_fault o_faultPlace o_many o_towns o_weeks o_logs o_saved p1 = some r) : Wr l D (gy g) yX12_image cX12_image 2 (some .boolean) 2 [.ref o_q0, .int p1] (wMd g o_q0 o_q1 o_q2 o_q3 o_q4 o_q5 o_q6 o_q7 o_q8 o_q9 o_q10 o_q11 o_q12 o_q13 o_q14 o_q15 o_q16 o_q17 o_q18 o_q19 o_q20 o_q21 o_q22 o_code o_tape o_size o_fault o_faultPlace o_many o_towns o_weeks o_logs o_reached o_length o_begins o_sort o_value o_word o_wrongAt o_laterFault o_laterPlace o_told o_read o_farOne o_good o_town o_people o_when o_sat o_quiet o_vain o_lent o_forgiven o_sundays o_purse o_beside o_debts o_sitting o_visited o_week o_heaps o_taken o_best o_more o_firstOne o_log o_fitting o_found o_seed o_row o_saved) (wMd g o_q0 o_q1 o_q2 o_q3 o_q4 o_q5 o_q6 o_q7 o_q8 o_q9 o_q10 o_q11 o_q12 o_q13 o_q14 o_q15 o_q16 o_q17 o_q18 o_q19 o_q20 o_q21 o_q22 r.2.1 r.2.2.1 r.2.2.2.1 r.2.2.2.2.1 r.2.2.2.2.2.1 r.2.2.2.2.2.2.1 r.2.2.2.2.2.2.2.1 r.2.2.2.2.2.2.2.2.1 r.2.2.2.2.2.2.2.2.2.1 o_reached o_length o_begins o_sort o_value o_word o_wrongAt o_laterFault o_laterPlace o_told o_read o_farOne o_good o_town o_people o_when o_sat o_quiet o_vain o_lent o_forgiven o_sundays o_purse o_beside o_debts o_sitting o_visited o_week o_heaps o_taken o_best o_more o_firstOne o_log o_fitting o_found o_seed o_row r.2.2.2.2.2.2.2.2.2.2) (some (.int r.1)) := by
  refine Wr.ofZ (by decide) (Nat.le_of_ble_eq_true rfl) ?_
  intro p e s m args below meth c Q A S hK hA hret ls hl hW
  have hl : lv_has ls 2 [(0, .ref o_q0), (1, .int p1)] := hl
  refine lv_aload_n S.1 S.2.1 dX12_image_0 rfl (lv_at hl 0 rfl) ?_
  refine lv_iconst (v := 0) S.1 S.2.1 dX12_image_1 ic_0 ?_
  refine pfX12_78 (ws2 := (wMd g o_q0 o_q1 o_q2 o_q3 o_q4 o_q5 o_q6 o_q7 o_q8 o_q9 o_q10 o_q11 o_q12 o_q13 o_q14 o_q15 o_q16 o_q17 o_q18 o_q19 o_q20 o_q21 o_q22 (0 : Int32) o_tape o_size o_fault o_faultPlace o_many o_towns o_weeks o_logs o_reached o_length o_begins o_sort o_value o_word o_wrongAt o_laterFault o_laterPlace o_told o_read o_farOne o_good o_town o_people o_when o_sat o_quiet o_vain o_lent o_forgiven o_sundays o_purse o_beside o_debts o_sitting o_visited o_week o_heaps o_taken o_best o_more o_firstOne o_log o_fitting o_found o_seed o_row o_saved)) S hK hW 0 rfl rfl rfl (Nat.le_of_ble_eq_true rfl) rfl dX12_image_2 (fun H locs hW => ?_)
  refine lv_iload_n S.1 S.2.1 dX12_image_5 rfl (lv_at hl 1 rfl) ?_
  refine lv_iconst (v := 0) S.1 S.2.1 dX12_image_6 ic_0 ?_
  refine lv_iconst (v := 2) S.1 S.2.1 dX12_image_7 ic_2 ?_
  obtain ⟨x1, hx1, hf⟩ := bnd_e hf
  refine Rd.cS (c_X12_in hx1) S hK va_P.nil kSX12_90 rfl hl.1 [] rfl (Nat.le_of_ble_eq_true rfl) ⟨(Nat.le_of_ble_eq_true rfl), (Nat.le_of_ble_eq_true rfl)⟩ ⟨(Nat.zero_le _), (Nat.zero_le _)⟩ dX12_image_8 ?_
  refine lv_if_ne (tgt := 16) S.1 S.2.1 dX12_image_11 (by decide) (fun c_ => ?_) (fun c_ => ?_)
  · have hf := it_n c_ hf
    refine lv_aload_n S.1 S.2.1 dX12_image_16 rfl (lv_at hl 0 rfl) ?_
    refine lv_iconst (v := 0) S.1 S.2.1 dX12_image_17 ic_0 ?_
    refine lv_iload_n S.1 S.2.1 dX12_image_18 rfl (lv_at hl 1 rfl) ?_
    refine lv_iconst (v := 1) S.1 S.2.1 dX12_image_19 ic_1 ?_
    refine lv_iadd S.1 S.2.1 dX12_image_20 ?_
    obtain ⟨x2, hx2, hf⟩ := bnd_e hf
    refine Wr.goW (Wr.runV (c_X12_copyAll hx2) S hK hW.1 hW.2.1 0 10 rfl rfl kVX12_496 rfl hl.1 [] rfl (Nat.le_of_ble_eq_true rfl) ⟨(Nat.le_of_ble_eq_true rfl), (Nat.le_of_ble_eq_true rfl)⟩ ⟨(Nat.zero_le _), (Nat.zero_le _)⟩ dX12_image_21) hW hA (fun H locs hW => ?_)
    refine lv_aload_n S.1 S.2.1 dX12_image_24 rfl (lv_at hl 0 rfl) ?_
    refine gfX12_74 S hK hW.1 0 rfl rfl dX12_image_25 ?_
    refine lv_iload_n S.1 S.2.1 dX12_image_28 rfl (lv_at hl 1 rfl) ?_
    refine lv_iconst (v := 1) S.1 S.2.1 dX12_image_29 ic_1 ?_
    obtain ⟨x3, hx3, hf⟩ := bnd_e hf
    refine q_zast (ws2 := (wMd g o_q0 o_q1 o_q2 o_q3 o_q4 o_q5 o_q6 o_q7 o_q8 o_q9 o_q10 o_q11 o_q12 o_q13 o_q14 o_q15 o_q16 o_q17 o_q18 o_q19 o_q20 o_q21 o_q22 (0 : Int32) x2.1 x2.2.1 x2.2.2.1 x2.2.2.2.1 x2.2.2.2.2.1 x2.2.2.2.2.2.1 x2.2.2.2.2.2.2.1 x2.2.2.2.2.2.2.2 o_reached o_length o_begins o_sort o_value o_word o_wrongAt o_laterFault o_laterPlace o_told o_read o_farOne o_good o_town o_people o_when o_sat o_quiet o_vain o_lent o_forgiven o_sundays o_purse o_beside o_debts o_sitting o_visited o_week o_heaps o_taken o_best o_more o_firstOne o_log o_fitting o_found o_seed o_row x3)) S hK hW 22 3 rfl rfl hx3 rfl dX12_image_30 (fun H locs hW => ?_)
    refine lv_iconst (v := 1) S.1 S.2.1 dX12_image_31 ic_1 ?_
    have e_ := Option.some.inj hf
    subst e_
    exact hret _ _ _ _ (Or.inr rfl) dX12_image_32 hW
  · have hf := it_p c_ hf
    refine lv_iconst (v := 0) S.1 S.2.1 dX12_image_14 ic_0 ?_
    have e_ := Option.some.inj hf
    subst e_
    exact hret _ _ _ _ (Or.inl rfl) dX12_image_15 hW
def f_X12_again (fu : Nat) (o_code : Int32) (o_tape : (Nat → Int32)) (o_size : (Nat → Int32)) (o_fault : (Nat → Int32)) (o_faultPlace : (Nat → Int32)) (o_many : (Nat → Int32)) (o_towns : (Nat → Int32)) (o_weeks : (Nat → Int32)) (o_logs : (Nat → Int32)) (o_saved : (Nat → Int32)) (p1 : Int32) : Option (Int32 × Int32 × (Nat → Int32) × (Nat → Int32) × (Nat → Int32) × (Nat → Int32) × (Nat → Int32) × (Nat → Int32) × (Nat → Int32) × (Nat → Int32)) := bnd (α := Int32) (f_X12_in fu p1 (0 : Int32) (2 : Int32)) (fun x1 => if x1 = 0 then some ((0 : Int32), (0 : Int32), o_tape, o_size, o_fault, o_faultPlace, o_many, o_towns, o_weeks, o_logs) else bnd (α := Int32) (rdi 3 o_saved p1) (fun x2 => if x2 = 0 then some ((0 : Int32), (0 : Int32), o_tape, o_size, o_fault, o_faultPlace, o_many, o_towns, o_weeks, o_logs) else bnd (α := (Nat → Int32) × (Nat → Int32) × (Nat → Int32) × (Nat → Int32) × (Nat → Int32) × (Nat → Int32) × (Nat → Int32) × (Nat → Int32)) (f_X12_copyAll fu o_tape o_size o_fault o_faultPlace o_many o_towns o_weeks o_logs (p1 + (1 : Int32)) (0 : Int32)) (fun x3 => some ((1 : Int32), (0 : Int32), x3.1, x3.2.1, x3.2.2.1, x3.2.2.2.1, x3.2.2.2.2.1, x3.2.2.2.2.2.1, x3.2.2.2.2.2.2.1, x3.2.2.2.2.2.2.2))))
set_option maxHeartbeats 4000000 in
set_option maxRecDepth 100000 in
theorem c_X12_again {l : Launch} {D : va_G} {g : Nat → ClassId} {fu : Nat} {o_q0 o_q1 o_q2 o_q3 o_q4 o_q5 o_q6 o_q7 o_q8 o_q9 o_q10 o_q11 o_q12 o_q13 o_q14 o_q15 o_q16 o_q17 o_q18 o_q19 o_q20 o_q21 o_q22 : Nat} {o_code : Int32} {o_tape : (Nat → Int32)} {o_size : (Nat → Int32)} {o_fault : (Nat → Int32)} {o_faultPlace : (Nat → Int32)} {o_many : (Nat → Int32)} {o_towns : (Nat → Int32)} {o_weeks : (Nat → Int32)} {o_logs : (Nat → Int32)} {o_reached : Int32} {o_length : Int32} {o_begins : Int32} {o_sort : Int32} {o_value : Int32} {o_word : Int64} {o_wrongAt : Int32} {o_laterFault : Int32} {o_laterPlace : Int32} {o_told : (Nat → Int32)} {o_read : (Nat → Int32)} {o_farOne : Int32} {o_good : Int32} {o_town : Int32} {o_people : Int32} {o_when : Int32} {o_sat : Int32} {o_quiet : Int32} {o_vain : Int32} {o_lent : Int32} {o_forgiven : Int32} {o_sundays : Int32} {o_purse : (Nat → Int32)} {o_beside : (Nat → Int32)} {o_debts : (Nat → Int32)} {o_sitting : (Nat → Int32)} {o_visited : (Nat → Int32)} {o_week : Int32} {o_heaps : (Nat → Int32)} {o_taken : (Nat → Int32)} {o_best : (Nat → Int32)} {o_more : (Nat → Int32)} {o_firstOne : Int32} {o_log : Int32} {o_fitting : (Nat → Int32)} {o_found : Int32} {o_seed : Int32} {o_row : (Nat → Int32)} {o_saved : (Nat → Int32)} {p1 : Int32} {r : Int32 × Int32 × (Nat → Int32) × (Nat → Int32) × (Nat → Int32) × (Nat → Int32) × (Nat → Int32) × (Nat → Int32) × (Nat → Int32) × (Nat → Int32)} (hf : f_X12_again fu o_code o_tape o_size o_fault o_faultPlace o_many o_towns o_weeks o_logs o_saved p1 = some r) : Wr l D (gy g) yX12_again cX12_again 2 (some .boolean) 2 [.ref o_q0, .int p1] (wMd g o_q0 o_q1 o_q2 o_q3 o_q4 o_q5 o_q6 o_q7 o_q8 o_q9 o_q10 o_q11 o_q12 o_q13 o_q14 o_q15 o_q16 o_q17 o_q18 o_q19 o_q20 o_q21 o_q22 o_code o_tape o_size o_fault o_faultPlace o_many o_towns o_weeks o_logs o_reached o_length o_begins o_sort o_value o_word o_wrongAt o_laterFault o_laterPlace o_told o_read o_farOne o_good o_town o_people o_when o_sat o_quiet o_vain o_lent o_forgiven o_sundays o_purse o_beside o_debts o_sitting o_visited o_week o_heaps o_taken o_best o_more o_firstOne o_log o_fitting o_found o_seed o_row o_saved) (wMd g o_q0 o_q1 o_q2 o_q3 o_q4 o_q5 o_q6 o_q7 o_q8 o_q9 o_q10 o_q11 o_q12 o_q13 o_q14 o_q15 o_q16 o_q17 o_q18 o_q19 o_q20 o_q21 o_q22 r.2.1 r.2.2.1 r.2.2.2.1 r.2.2.2.2.1 r.2.2.2.2.2.1 r.2.2.2.2.2.2.1 r.2.2.2.2.2.2.2.1 r.2.2.2.2.2.2.2.2.1 r.2.2.2.2.2.2.2.2.2 o_reached o_length o_begins o_sort o_value o_word o_wrongAt o_laterFault o_laterPlace o_told o_read o_farOne o_good o_town o_people o_when o_sat o_quiet o_vain o_lent o_forgiven o_sundays o_purse o_beside o_debts o_sitting o_visited o_week o_heaps o_taken o_best o_more o_firstOne o_log o_fitting o_found o_seed o_row o_saved) (some (.int r.1)) := by
  refine Wr.ofZ (by decide) (Nat.le_of_ble_eq_true rfl) ?_
  intro p e s m args below meth c Q A S hK hA hret ls hl hW
  have hl : lv_has ls 2 [(0, .ref o_q0), (1, .int p1)] := hl
  refine lv_aload_n S.1 S.2.1 dX12_again_0 rfl (lv_at hl 0 rfl) ?_
  refine lv_iconst (v := 0) S.1 S.2.1 dX12_again_1 ic_0 ?_
  refine pfX12_78 (ws2 := (wMd g o_q0 o_q1 o_q2 o_q3 o_q4 o_q5 o_q6 o_q7 o_q8 o_q9 o_q10 o_q11 o_q12 o_q13 o_q14 o_q15 o_q16 o_q17 o_q18 o_q19 o_q20 o_q21 o_q22 (0 : Int32) o_tape o_size o_fault o_faultPlace o_many o_towns o_weeks o_logs o_reached o_length o_begins o_sort o_value o_word o_wrongAt o_laterFault o_laterPlace o_told o_read o_farOne o_good o_town o_people o_when o_sat o_quiet o_vain o_lent o_forgiven o_sundays o_purse o_beside o_debts o_sitting o_visited o_week o_heaps o_taken o_best o_more o_firstOne o_log o_fitting o_found o_seed o_row o_saved)) S hK hW 0 rfl rfl rfl (Nat.le_of_ble_eq_true rfl) rfl dX12_again_2 (fun H locs hW => ?_)
  refine lv_iload_n S.1 S.2.1 dX12_again_5 rfl (lv_at hl 1 rfl) ?_
  refine lv_iconst (v := 0) S.1 S.2.1 dX12_again_6 ic_0 ?_
  refine lv_iconst (v := 2) S.1 S.2.1 dX12_again_7 ic_2 ?_
  obtain ⟨x1, hx1, hf⟩ := bnd_e hf
  refine Rd.cS (c_X12_in hx1) S hK va_P.nil kSX12_90 rfl hl.1 [] rfl (Nat.le_of_ble_eq_true rfl) ⟨(Nat.le_of_ble_eq_true rfl), (Nat.le_of_ble_eq_true rfl)⟩ ⟨(Nat.zero_le _), (Nat.zero_le _)⟩ dX12_again_8 ?_
  refine lv_if_eq (tgt := 23) S.1 S.2.1 dX12_again_11 (by decide) (fun c_ => ?_) (fun c_ => ?_)
  · have hf := it_p c_ hf
    refine lv_iconst (v := 0) S.1 S.2.1 dX12_again_23 ic_0 ?_
    have e_ := Option.some.inj hf
    subst e_
    exact hret _ _ _ _ (Or.inl rfl) dX12_again_24 hW
  · have hf := it_n c_ hf
    refine lv_aload_n S.1 S.2.1 dX12_again_14 rfl (lv_at hl 0 rfl) ?_
    refine gfX12_74 S hK hW.1 0 rfl rfl dX12_again_15 ?_
    refine lv_iload_n S.1 S.2.1 dX12_again_18 rfl (lv_at hl 1 rfl) ?_
    obtain ⟨x2, hx2, hf⟩ := bnd_e hf
    refine q_zald S hK hW.1 22 3 rfl rfl hx2 dX12_again_19 ?_
    refine lv_if_ne (tgt := 25) S.1 S.2.1 dX12_again_20 (by decide) (fun c_ => ?_) (fun c_ => ?_)
    · have hf := it_n c_ hf
      refine lv_aload_n S.1 S.2.1 dX12_again_25 rfl (lv_at hl 0 rfl) ?_
      refine lv_iload_n S.1 S.2.1 dX12_again_26 rfl (lv_at hl 1 rfl) ?_
      refine lv_iconst (v := 1) S.1 S.2.1 dX12_again_27 ic_1 ?_
      refine lv_iadd S.1 S.2.1 dX12_again_28 ?_
      refine lv_iconst (v := 0) S.1 S.2.1 dX12_again_29 ic_0 ?_
      obtain ⟨x3, hx3, hf⟩ := bnd_e hf
      refine Wr.goW (Wr.runV (c_X12_copyAll hx3) S hK hW.1 hW.2.1 0 10 rfl rfl kVX12_496 rfl hl.1 [] rfl (Nat.le_of_ble_eq_true rfl) ⟨(Nat.le_of_ble_eq_true rfl), (Nat.le_of_ble_eq_true rfl)⟩ ⟨(Nat.zero_le _), (Nat.zero_le _)⟩ dX12_again_30) hW hA (fun H locs hW => ?_)
      refine lv_iconst (v := 1) S.1 S.2.1 dX12_again_33 ic_1 ?_
      have e_ := Option.some.inj hf
      subst e_
      exact hret _ _ _ _ (Or.inr rfl) dX12_again_34 hW
    · have hf := it_p c_ hf
      refine lv_iconst (v := 0) S.1 S.2.1 dX12_again_23 ic_0 ?_
      have e_ := Option.some.inj hf
      subst e_
      exact hret _ _ _ _ (Or.inl rfl) dX12_again_24 hW
