def f_X12_couple (fu : Nat) (o_towns : (Nat → Int32)) (o_town : Int32) (o_purse : (Nat → Int32)) (p1 : Int32) (p2 : Int32) : Option (Int32) := bnd (α := Int32) (rdi 6 o_purse p1) (fun x1 => bnd (α := Int32) (rdi 6 o_purse p2) (fun x2 => if x1 ≤ x2 then some (0 : Int32) else bnd (α := Int32) (f_X12_of fu o_towns o_town ((1 : Int32) + p2)) (fun x3 => some x3)))
set_option maxHeartbeats 4000000 in
set_option maxRecDepth 100000 in
theorem c_X12_couple {l : Launch} {D : va_G} {g : Nat → ClassId} {fu : Nat} {o_q0 o_q1 o_q2 o_q3 o_q4 o_q5 o_q6 o_q7 o_q8 o_q9 o_q10 o_q11 o_q12 o_q13 o_q14 o_q15 o_q16 o_q17 o_q18 o_q19 o_q20 o_q21 o_q22 : Nat} {o_code : Int32} {o_tape : (Nat → Int32)} {o_size : (Nat → Int32)} {o_fault : (Nat → Int32)} {o_faultPlace : (Nat → Int32)} {o_many : (Nat → Int32)} {o_towns : (Nat → Int32)} {o_weeks : (Nat → Int32)} {o_logs : (Nat → Int32)} {o_reached : Int32} {o_length : Int32} {o_begins : Int32} {o_sort : Int32} {o_value : Int32} {o_word : Int64} {o_wrongAt : Int32} {o_laterFault : Int32} {o_laterPlace : Int32} {o_told : (Nat → Int32)} {o_read : (Nat → Int32)} {o_farOne : Int32} {o_good : Int32} {o_town : Int32} {o_people : Int32} {o_when : Int32} {o_sat : Int32} {o_quiet : Int32} {o_vain : Int32} {o_lent : Int32} {o_forgiven : Int32} {o_sundays : Int32} {o_purse : (Nat → Int32)} {o_beside : (Nat → Int32)} {o_debts : (Nat → Int32)} {o_sitting : (Nat → Int32)} {o_visited : (Nat → Int32)} {o_week : Int32} {o_heaps : (Nat → Int32)} {o_taken : (Nat → Int32)} {o_best : (Nat → Int32)} {o_more : (Nat → Int32)} {o_firstOne : Int32} {o_log : Int32} {o_fitting : (Nat → Int32)} {o_found : Int32} {o_seed : Int32} {o_row : (Nat → Int32)} {o_saved : (Nat → Int32)} {p1 : Int32} {p2 : Int32} {r : Int32} (hf : f_X12_couple fu o_towns o_town o_purse p1 p2 = some r) : Rd l D (gy g) yX12_couple cX12_couple 3 (some .int) 1 [.ref o_q0, .int p1, .int p2] (wMd g o_q0 o_q1 o_q2 o_q3 o_q4 o_q5 o_q6 o_q7 o_q8 o_q9 o_q10 o_q11 o_q12 o_q13 o_q14 o_q15 o_q16 o_q17 o_q18 o_q19 o_q20 o_q21 o_q22 o_code o_tape o_size o_fault o_faultPlace o_many o_towns o_weeks o_logs o_reached o_length o_begins o_sort o_value o_word o_wrongAt o_laterFault o_laterPlace o_told o_read o_farOne o_good o_town o_people o_when o_sat o_quiet o_vain o_lent o_forgiven o_sundays o_purse o_beside o_debts o_sitting o_visited o_week o_heaps o_taken o_best o_more o_firstOne o_log o_fitting o_found o_seed o_row o_saved) (some (.int r)) := by
  refine Rd.ofI (by decide) (Nat.le_of_ble_eq_true rfl) ?_
  intro p e s m args below meth c Q S hK hP hret ls hl
  have hl : lv_has ls 3 [(0, .ref o_q0), (1, .int p1), (2, .int p2)] := hl
  refine lv_aload_n S.1 S.2.1 dX12_couple_0 rfl (lv_at hl 0 rfl) ?_
  refine gfX12_41 S hK hP 0 rfl rfl dX12_couple_1 ?_
  refine lv_iload_n S.1 S.2.1 dX12_couple_4 rfl (lv_at hl 1 rfl) ?_
  obtain ⟨x1, hx1, hf⟩ := bnd_e hf
  refine q_iald S hK hP 11 0 rfl rfl hx1 dX12_couple_5 ?_
  refine lv_aload_n S.1 S.2.1 dX12_couple_6 rfl (lv_at hl 0 rfl) ?_
  refine gfX12_41 S hK hP 0 rfl rfl dX12_couple_7 ?_
  refine lv_iload_n S.1 S.2.1 dX12_couple_10 rfl (lv_at hl 2 rfl) ?_
  obtain ⟨x2, hx2, hf⟩ := bnd_e hf
  refine q_iald S hK hP 11 0 rfl rfl hx2 dX12_couple_11 ?_
  refine lv_icmp_le (tgt := 25) S.1 S.2.1 dX12_couple_12 (by decide) (fun c_ => ?_) (fun c_ => ?_)
  · have hf := it_p c_ hf
    refine lv_iconst (v := 0) S.1 S.2.1 dX12_couple_25 ic_0 ?_
    have e_ := Option.some.inj hf
    subst e_
    exact hret _ _ dX12_couple_26
  · have hf := it_n c_ hf
    refine lv_aload_n S.1 S.2.1 dX12_couple_15 rfl (lv_at hl 0 rfl) ?_
    refine lv_iconst (v := 1) S.1 S.2.1 dX12_couple_16 ic_1 ?_
    refine lv_iload_n S.1 S.2.1 dX12_couple_17 rfl (lv_at hl 2 rfl) ?_
    refine lv_iadd S.1 S.2.1 dX12_couple_18 ?_
    obtain ⟨x3, hx3, hf⟩ := bnd_e hf
    refine Rd.cV (c_X12_of hx3) S hK hP 0 10 rfl rfl kVX12_226 rfl hl.1 [] rfl (Nat.le_of_ble_eq_true rfl) ⟨(Nat.le_of_ble_eq_true rfl), (Nat.le_of_ble_eq_true rfl)⟩ ⟨(Nat.zero_le _), (Nat.zero_le _)⟩ dX12_couple_19 ?_
    refine lv_goto (tgt := 26) S.1 S.2.1 dX12_couple_22 (by decide) ?_
    have e_ := Option.some.inj hf
    subst e_
    exact hret _ _ dX12_couple_26
def f_X12_lendingBy (fu : Nat) (o_towns : (Nat → Int32)) (o_town : Int32) (o_people : Int32) (o_purse : (Nat → Int32)) (o_best : (Nat → Int32)) (p1 : Int32) (p2 : Int32) (p3 : Int32) : Option (Int32) := if p3 = (6 : Int32) then bnd (α := Int32) (rdi 448 o_best (((64 : Int32) * (p1 + (1 : Int32))) + p2)) (fun x1 => some x1) else if o_people ≤ p3 then some (-1000000 : Int32) else if p3 = p1 then some (-1000000 : Int32) else bnd (α := Int32) (f_X12_has fu p2 p3) (fun x2 => if x2 = 0 then bnd (α := Int32) (f_X12_couple fu o_towns o_town o_purse p1 p3) (fun x3 => bnd (α := Int32) (rdi 448 o_best (((64 : Int32) * (p1 + (1 : Int32))) + (p2 ||| (jshl (1 : Int32) p3)))) (fun x4 => some (x3 + x4))) else some (-1000000 : Int32))
set_option maxHeartbeats 4000000 in
set_option maxRecDepth 100000 in
theorem c_X12_lendingBy {l : Launch} {D : va_G} {g : Nat → ClassId} {fu : Nat} {o_q0 o_q1 o_q2 o_q3 o_q4 o_q5 o_q6 o_q7 o_q8 o_q9 o_q10 o_q11 o_q12 o_q13 o_q14 o_q15 o_q16 o_q17 o_q18 o_q19 o_q20 o_q21 o_q22 : Nat} {o_code : Int32} {o_tape : (Nat → Int32)} {o_size : (Nat → Int32)} {o_fault : (Nat → Int32)} {o_faultPlace : (Nat → Int32)} {o_many : (Nat → Int32)} {o_towns : (Nat → Int32)} {o_weeks : (Nat → Int32)} {o_logs : (Nat → Int32)} {o_reached : Int32} {o_length : Int32} {o_begins : Int32} {o_sort : Int32} {o_value : Int32} {o_word : Int64} {o_wrongAt : Int32} {o_laterFault : Int32} {o_laterPlace : Int32} {o_told : (Nat → Int32)} {o_read : (Nat → Int32)} {o_farOne : Int32} {o_good : Int32} {o_town : Int32} {o_people : Int32} {o_when : Int32} {o_sat : Int32} {o_quiet : Int32} {o_vain : Int32} {o_lent : Int32} {o_forgiven : Int32} {o_sundays : Int32} {o_purse : (Nat → Int32)} {o_beside : (Nat → Int32)} {o_debts : (Nat → Int32)} {o_sitting : (Nat → Int32)} {o_visited : (Nat → Int32)} {o_week : Int32} {o_heaps : (Nat → Int32)} {o_taken : (Nat → Int32)} {o_best : (Nat → Int32)} {o_more : (Nat → Int32)} {o_firstOne : Int32} {o_log : Int32} {o_fitting : (Nat → Int32)} {o_found : Int32} {o_seed : Int32} {o_row : (Nat → Int32)} {o_saved : (Nat → Int32)} {p1 : Int32} {p2 : Int32} {p3 : Int32} {r : Int32} (hf : f_X12_lendingBy fu o_towns o_town o_people o_purse o_best p1 p2 p3 = some r) : Rd l D (gy g) yX12_lendingBy cX12_lendingBy 4 (some .int) 2 [.ref o_q0, .int p1, .int p2, .int p3] (wMd g o_q0 o_q1 o_q2 o_q3 o_q4 o_q5 o_q6 o_q7 o_q8 o_q9 o_q10 o_q11 o_q12 o_q13 o_q14 o_q15 o_q16 o_q17 o_q18 o_q19 o_q20 o_q21 o_q22 o_code o_tape o_size o_fault o_faultPlace o_many o_towns o_weeks o_logs o_reached o_length o_begins o_sort o_value o_word o_wrongAt o_laterFault o_laterPlace o_told o_read o_farOne o_good o_town o_people o_when o_sat o_quiet o_vain o_lent o_forgiven o_sundays o_purse o_beside o_debts o_sitting o_visited o_week o_heaps o_taken o_best o_more o_firstOne o_log o_fitting o_found o_seed o_row o_saved) (some (.int r)) := by
  refine Rd.ofI (by decide) (Nat.le_of_ble_eq_true rfl) ?_
  intro p e s m args below meth c Q S hK hP hret ls hl
  have hl : lv_has ls 4 [(0, .ref o_q0), (1, .int p1), (2, .int p2), (3, .int p3)] := hl
  refine lv_iload_n S.1 S.2.1 dX12_lendingBy_0 rfl (lv_at hl 3 rfl) ?_
  refine lv_bipush (v := 6) S.1 S.2.1 dX12_lendingBy_1 bp_6 ?_
  refine lv_icmp_ne (tgt := 20) S.1 S.2.1 dX12_lendingBy_3 (by decide) (fun c_ => ?_) (fun c_ => ?_)
  · have hf := it_n c_ hf
    refine lv_iload_n S.1 S.2.1 dX12_lendingBy_20 rfl (lv_at hl 3 rfl) ?_
    refine lv_aload_n S.1 S.2.1 dX12_lendingBy_21 rfl (lv_at hl 0 rfl) ?_
    refine gfX12_230 S hK hP 0 rfl rfl dX12_lendingBy_22 ?_
    refine lv_icmp_ge (tgt := 41) S.1 S.2.1 dX12_lendingBy_25 (by decide) (fun c_ => ?_) (fun c_ => ?_)
    · have hf := it_p c_ hf
      refine lv_ldcw (v := (-1000000)) S.1 S.2.1 S.2.2.2.1 (S.2.2.2.2 _ q_1448) dX12_lendingBy_41 ?_
      refine lv_goto (tgt := 71) S.1 S.2.1 dX12_lendingBy_44 (by decide) ?_
      have e_ := Option.some.inj hf
      subst e_
      exact hret _ _ dX12_lendingBy_71
    · have hf := it_n c_ hf
      refine lv_iload_n S.1 S.2.1 dX12_lendingBy_28 rfl (lv_at hl 3 rfl) ?_
      refine lv_iload_n S.1 S.2.1 dX12_lendingBy_29 rfl (lv_at hl 1 rfl) ?_
      refine lv_icmp_eq (tgt := 41) S.1 S.2.1 dX12_lendingBy_30 (by decide) (fun c_ => ?_) (fun c_ => ?_)
      · have hf := it_p c_ hf
        refine lv_ldcw (v := (-1000000)) S.1 S.2.1 S.2.2.2.1 (S.2.2.2.2 _ q_1448) dX12_lendingBy_41 ?_
        refine lv_goto (tgt := 71) S.1 S.2.1 dX12_lendingBy_44 (by decide) ?_
        have e_ := Option.some.inj hf
        subst e_
        exact hret _ _ dX12_lendingBy_71
      · have hf := it_n c_ hf
        refine lv_iload_n S.1 S.2.1 dX12_lendingBy_33 rfl (lv_at hl 2 rfl) ?_
        refine lv_iload_n S.1 S.2.1 dX12_lendingBy_34 rfl (lv_at hl 3 rfl) ?_
        obtain ⟨x2, hx2, hf⟩ := bnd_e hf
        refine Rd.cS (c_X12_has hx2) S hK va_P.nil kSX12_82 rfl hl.1 [] rfl (Nat.le_of_ble_eq_true rfl) ⟨(Nat.le_of_ble_eq_true rfl), (Nat.le_of_ble_eq_true rfl)⟩ ⟨(Nat.zero_le _), (Nat.zero_le _)⟩ dX12_lendingBy_35 ?_
        refine lv_if_eq (tgt := 47) S.1 S.2.1 dX12_lendingBy_38 (by decide) (fun c_ => ?_) (fun c_ => ?_)
        · have hf := it_p c_ hf
          refine lv_aload_n S.1 S.2.1 dX12_lendingBy_47 rfl (lv_at hl 0 rfl) ?_
          refine lv_iload_n S.1 S.2.1 dX12_lendingBy_48 rfl (lv_at hl 1 rfl) ?_
          refine lv_iload_n S.1 S.2.1 dX12_lendingBy_49 rfl (lv_at hl 3 rfl) ?_
          obtain ⟨x3, hx3, hf⟩ := bnd_e hf
          refine Rd.cV (c_X12_couple hx3) S hK hP 0 10 rfl rfl kVX12_342 rfl hl.1 [] rfl (Nat.le_of_ble_eq_true rfl) ⟨(Nat.le_of_ble_eq_true rfl), (Nat.le_of_ble_eq_true rfl)⟩ ⟨(Nat.zero_le _), (Nat.zero_le _)⟩ dX12_lendingBy_50 ?_
          refine lv_aload_n S.1 S.2.1 dX12_lendingBy_53 rfl (lv_at hl 0 rfl) ?_
          refine gfX12_62 S hK hP 0 rfl rfl dX12_lendingBy_54 ?_
          refine lv_bipush (v := 64) S.1 S.2.1 dX12_lendingBy_57 bp_64 ?_
          refine lv_iload_n S.1 S.2.1 dX12_lendingBy_59 rfl (lv_at hl 1 rfl) ?_
          refine lv_iconst (v := 1) S.1 S.2.1 dX12_lendingBy_60 ic_1 ?_
          refine lv_iadd S.1 S.2.1 dX12_lendingBy_61 ?_
          refine lv_imul S.1 S.2.1 dX12_lendingBy_62 ?_
          refine lv_iload_n S.1 S.2.1 dX12_lendingBy_63 rfl (lv_at hl 2 rfl) ?_
          refine lv_iconst (v := 1) S.1 S.2.1 dX12_lendingBy_64 ic_1 ?_
          refine lv_iload_n S.1 S.2.1 dX12_lendingBy_65 rfl (lv_at hl 3 rfl) ?_
          refine lv_ishl S.1 S.2.1 dX12_lendingBy_66 ?_
          refine lv_ior S.1 S.2.1 dX12_lendingBy_67 ?_
          refine lv_iadd S.1 S.2.1 dX12_lendingBy_68 ?_
          obtain ⟨x4, hx4, hf⟩ := bnd_e hf
          refine q_iald S hK hP 18 0 rfl rfl hx4 dX12_lendingBy_69 ?_
          refine lv_iadd S.1 S.2.1 dX12_lendingBy_70 ?_
          have e_ := Option.some.inj hf
          subst e_
          exact hret _ _ dX12_lendingBy_71
        · have hf := it_n c_ hf
          refine lv_ldcw (v := (-1000000)) S.1 S.2.1 S.2.2.2.1 (S.2.2.2.2 _ q_1448) dX12_lendingBy_41 ?_
          refine lv_goto (tgt := 71) S.1 S.2.1 dX12_lendingBy_44 (by decide) ?_
          have e_ := Option.some.inj hf
          subst e_
          exact hret _ _ dX12_lendingBy_71
  · have hf := it_p c_ hf
    refine lv_aload_n S.1 S.2.1 dX12_lendingBy_6 rfl (lv_at hl 0 rfl) ?_
    refine gfX12_62 S hK hP 0 rfl rfl dX12_lendingBy_7 ?_
    refine lv_bipush (v := 64) S.1 S.2.1 dX12_lendingBy_10 bp_64 ?_
    refine lv_iload_n S.1 S.2.1 dX12_lendingBy_12 rfl (lv_at hl 1 rfl) ?_
    refine lv_iconst (v := 1) S.1 S.2.1 dX12_lendingBy_13 ic_1 ?_
    refine lv_iadd S.1 S.2.1 dX12_lendingBy_14 ?_
    refine lv_imul S.1 S.2.1 dX12_lendingBy_15 ?_
    refine lv_iload_n S.1 S.2.1 dX12_lendingBy_16 rfl (lv_at hl 2 rfl) ?_
    refine lv_iadd S.1 S.2.1 dX12_lendingBy_17 ?_
    obtain ⟨x1, hx1, hf⟩ := bnd_e hf
    refine q_iald S hK hP 18 0 rfl rfl hx1 dX12_lendingBy_18 ?_
    have e_ := Option.some.inj hf
    subst e_
    exact hret _ _ dX12_lendingBy_19
def f_X12_findLendings_L22 (fu : Nat) (o_towns : (Nat → Int32)) (o_town : Int32) (o_people : Int32) (o_purse : (Nat → Int32)) (s2 : Int32 × (Nat → Int32)) (s6 : Int32 × (Nat → Int32)) (s10 : Int32 × Int32) : Option ((Int32 × Int32) ⊕ (Int32)) := if (6 : Int32) < s10.2 then some (.inr s10.1) else if o_people ≤ s2.1 then some (.inr s10.1) else bnd (α := Int32) (f_X12_lendingBy fu o_towns o_town o_people o_purse s6.2 s2.1 s6.1 s10.2) (fun x13 => bnd (α := Int32) (f_X12_greater fu s10.1 x13) (fun x14 => some (.inl (x14, (s10.2 + 1)))))
def f_X12_findLendings_L11 (fu : Nat) (o_towns : (Nat → Int32)) (o_town : Int32) (o_people : Int32) (o_purse : (Nat → Int32)) (s2 : Int32 × (Nat → Int32)) (s6 : Int32 × (Nat → Int32)) : Option ((Int32 × (Nat → Int32)) ⊕ ((Nat → Int32))) := if (64 : Int32) ≤ s6.1 then some (.inr s6.2) else bnd (α := Int32) (lp (f_X12_findLendings_L22 fu o_towns o_town o_people o_purse s2 s6) fu ((0 : Int32), (0 : Int32))) (fun v15 => bnd (α := (Nat → Int32)) (wri 448 s6.2 (((64 : Int32) * s2.1) + s6.1) v15) (fun x16 => some (.inl ((s6.1 + 1), x16))))
def f_X12_findLendings_L5 (fu : Nat) (o_towns : (Nat → Int32)) (o_town : Int32) (o_people : Int32) (o_purse : (Nat → Int32)) (s2 : Int32 × (Nat → Int32)) : Option ((Int32 × (Nat → Int32)) ⊕ ((Nat → Int32))) := if s2.1 < 0 then some (.inr s2.2) else bnd (α := (Nat → Int32)) (lp (f_X12_findLendings_L11 fu o_towns o_town o_people o_purse s2) fu ((0 : Int32), s2.2)) (fun v17 => some (.inl ((s2.1 + (-1)), v17)))
def f_X12_findLendings (fu : Nat) (o_towns : (Nat → Int32)) (o_town : Int32) (o_people : Int32) (o_purse : (Nat → Int32)) (o_best : (Nat → Int32)) : Option ((Nat → Int32)) := bnd (α := (Nat → Int32)) (lp (f_X12_findLendings_L5 fu o_towns o_town o_people o_purse) fu (o_people, o_best)) (fun v18 => some v18)
set_option maxHeartbeats 4000000 in
set_option maxRecDepth 100000 in
theorem c_X12_findLendings {l : Launch} {D : va_G} {g : Nat → ClassId} {fu : Nat} {o_q0 o_q1 o_q2 o_q3 o_q4 o_q5 o_q6 o_q7 o_q8 o_q9 o_q10 o_q11 o_q12 o_q13 o_q14 o_q15 o_q16 o_q17 o_q18 o_q19 o_q20 o_q21 o_q22 : Nat} {o_code : Int32} {o_tape : (Nat → Int32)} {o_size : (Nat → Int32)} {o_fault : (Nat → Int32)} {o_faultPlace : (Nat → Int32)} {o_many : (Nat → Int32)} {o_towns : (Nat → Int32)} {o_weeks : (Nat → Int32)} {o_logs : (Nat → Int32)} {o_reached : Int32} {o_length : Int32} {o_begins : Int32} {o_sort : Int32} {o_value : Int32} {o_word : Int64} {o_wrongAt : Int32} {o_laterFault : Int32} {o_laterPlace : Int32} {o_told : (Nat → Int32)} {o_read : (Nat → Int32)} {o_farOne : Int32} {o_good : Int32} {o_town : Int32} {o_people : Int32} {o_when : Int32} {o_sat : Int32} {o_quiet : Int32} {o_vain : Int32} {o_lent : Int32} {o_forgiven : Int32} {o_sundays : Int32} {o_purse : (Nat → Int32)} {o_beside : (Nat → Int32)} {o_debts : (Nat → Int32)} {o_sitting : (Nat → Int32)} {o_visited : (Nat → Int32)} {o_week : Int32} {o_heaps : (Nat → Int32)} {o_taken : (Nat → Int32)} {o_best : (Nat → Int32)} {o_more : (Nat → Int32)} {o_firstOne : Int32} {o_log : Int32} {o_fitting : (Nat → Int32)} {o_found : Int32} {o_seed : Int32} {o_row : (Nat → Int32)} {o_saved : (Nat → Int32)} {r : (Nat → Int32)} (hf : f_X12_findLendings fu o_towns o_town o_people o_purse o_best = some r) : Wr l D (gy g) yX12_findLendings cX12_findLendings 5 none 3 [.ref o_q0] (wMd g o_q0 o_q1 o_q2 o_q3 o_q4 o_q5 o_q6 o_q7 o_q8 o_q9 o_q10 o_q11 o_q12 o_q13 o_q14 o_q15 o_q16 o_q17 o_q18 o_q19 o_q20 o_q21 o_q22 o_code o_tape o_size o_fault o_faultPlace o_many o_towns o_weeks o_logs o_reached o_length o_begins o_sort o_value o_word o_wrongAt o_laterFault o_laterPlace o_told o_read o_farOne o_good o_town o_people o_when o_sat o_quiet o_vain o_lent o_forgiven o_sundays o_purse o_beside o_debts o_sitting o_visited o_week o_heaps o_taken o_best o_more o_firstOne o_log o_fitting o_found o_seed o_row o_saved) (wMd g o_q0 o_q1 o_q2 o_q3 o_q4 o_q5 o_q6 o_q7 o_q8 o_q9 o_q10 o_q11 o_q12 o_q13 o_q14 o_q15 o_q16 o_q17 o_q18 o_q19 o_q20 o_q21 o_q22 o_code o_tape o_size o_fault o_faultPlace o_many o_towns o_weeks o_logs o_reached o_length o_begins o_sort o_value o_word o_wrongAt o_laterFault o_laterPlace o_told o_read o_farOne o_good o_town o_people o_when o_sat o_quiet o_vain o_lent o_forgiven o_sundays o_purse o_beside o_debts o_sitting o_visited o_week o_heaps o_taken r o_more o_firstOne o_log o_fitting o_found o_seed o_row o_saved) none := by
  refine Wr.ofV (by decide) (Nat.le_of_ble_eq_true rfl) ?_
  intro p e s m args below meth c Q A S hK hA hret ls hl hW
  have hl : lv_has ls 5 [(0, .ref o_q0)] := hl
  refine lv_aload_n S.1 S.2.1 dX12_findLendings_0 rfl (lv_at hl 0 rfl) ?_
  refine gfX12_230 S hK hW.1 0 rfl rfl dX12_findLendings_1 ?_
  refine lv_istore_n (lv' := [(1, .int o_people), (0, .ref o_q0)]) S.1 S.2.1 dX12_findLendings_4 rfl hl (by decide) rfl (fun ls hl => ?_)
  obtain ⟨x3, hf_, hk3⟩ := bnd_e hf
  have hE3 : ∀ (v18 : (Nat → Int32)), v18 = x3 → ∀ (ls : Array Slot) (H : Heap) (locs : List Loc), lv_has ls 5 [] → St A s.heap D (wMd g o_q0 o_q1 o_q2 o_q3 o_q4 o_q5 o_q6 o_q7 o_q8 o_q9 o_q10 o_q11 o_q12 o_q13 o_q14 o_q15 o_q16 o_q17 o_q18 o_q19 o_q20 o_q21 o_q22 o_code o_tape o_size o_fault o_faultPlace o_many o_towns o_weeks o_logs o_reached o_length o_begins o_sort o_value o_word o_wrongAt o_laterFault o_laterPlace o_told o_read o_farOne o_good o_town o_people o_when o_sat o_quiet o_vain o_lent o_forgiven o_sundays o_purse o_beside o_debts o_sitting o_visited o_week o_heaps o_taken v18 o_more o_firstOne o_log o_fitting o_found o_seed o_row o_saved) H locs → W p l e (rmD 3) s m args below meth c H locs 0 0 Q (F0 m 80 ls []) := by
    intro v18 e_ ls H locs hl hW
    subst e_
    have hf := hk3
    have e_ := Option.some.inj hf
    subst e_
    exact hret _ _ _ _ dX12_findLendings_80 hW
  refine lp_ind (P := fun (s2 : Int32 × (Nat → Int32)) => ∀ (ls : Array Slot) (H : Heap) (locs : List Loc), lv_has ls 5 [(0, .ref o_q0), (1, .int s2.1)] → St A s.heap D (wMd g o_q0 o_q1 o_q2 o_q3 o_q4 o_q5 o_q6 o_q7 o_q8 o_q9 o_q10 o_q11 o_q12 o_q13 o_q14 o_q15 o_q16 o_q17 o_q18 o_q19 o_q20 o_q21 o_q22 o_code o_tape o_size o_fault o_faultPlace o_many o_towns o_weeks o_logs o_reached o_length o_begins o_sort o_value o_word o_wrongAt o_laterFault o_laterPlace o_told o_read o_farOne o_good o_town o_people o_when o_sat o_quiet o_vain o_lent o_forgiven o_sundays o_purse o_beside o_debts o_sitting o_visited o_week o_heaps o_taken s2.2 o_more o_firstOne o_log o_fitting o_found o_seed o_row o_saved) H locs → W p l e (rmD 3) s m args below meth c H locs 0 0 Q (F0 m 5 ls [])) ?_ _ _ hf_ _ _ _ (lv_sub hl [1, 0] rfl) hW
  intro s2 x4 hf hI3 hR3 ls H locs hl hW
  refine lv_iload_n S.1 S.2.1 dX12_findLendings_5 rfl (lv_at hl 1 rfl) ?_
  refine lv_if_lt (tgt := 80) S.1 S.2.1 dX12_findLendings_6 (by decide) (fun c_ => ?_) (fun c_ => ?_)
  · have hf := it_p c_ hf
    have e_ := hR3 _ (Option.some.inj hf).symm
    exact hE3 _ e_ _ _ _ (lv_sub hl [] rfl) hW
  · have hf := it_n c_ hf
    refine lv_iconst (v := 0) S.1 S.2.1 dX12_findLendings_9 ic_0 ?_
    refine lv_istore_n (lv' := [(2, .int (0 : Int32)), (0, .ref o_q0), (1, .int s2.1)]) S.1 S.2.1 dX12_findLendings_10 rfl hl (by decide) rfl (fun ls hl => ?_)
    obtain ⟨x7, hf_, hk7⟩ := bnd_e hf
    have hE7 : ∀ (v17 : (Nat → Int32)), v17 = x7 → ∀ (ls : Array Slot) (H : Heap) (locs : List Loc), lv_has ls 5 [(0, .ref o_q0), (1, .int s2.1)] → St A s.heap D (wMd g o_q0 o_q1 o_q2 o_q3 o_q4 o_q5 o_q6 o_q7 o_q8 o_q9 o_q10 o_q11 o_q12 o_q13 o_q14 o_q15 o_q16 o_q17 o_q18 o_q19 o_q20 o_q21 o_q22 o_code o_tape o_size o_fault o_faultPlace o_many o_towns o_weeks o_logs o_reached o_length o_begins o_sort o_value o_word o_wrongAt o_laterFault o_laterPlace o_told o_read o_farOne o_good o_town o_people o_when o_sat o_quiet o_vain o_lent o_forgiven o_sundays o_purse o_beside o_debts o_sitting o_visited o_week o_heaps o_taken v17 o_more o_firstOne o_log o_fitting o_found o_seed o_row o_saved) H locs → W p l e (rmD 3) s m args below meth c H locs 0 0 Q (F0 m 74 ls []) := by
      intro v17 e_ ls H locs hl hW
      subst e_
      have hf := hk7
      refine q_iinc (w := (-1)) (lv' := [(1, .int (s2.1 + (-1))), (0, .ref o_q0)]) S dX12_findLendings_74 hl (k := 1) rfl ic_m1 (by decide) rfl (fun ls hl => ?_)
      refine lv_goto (tgt := 5) S.1 S.2.1 dX12_findLendings_77 (by decide) ?_
      exact hI3 _ (Option.some.inj hf).symm _ _ _ (lv_sub hl [1, 0] rfl) hW
    refine lp_ind (P := fun (s6 : Int32 × (Nat → Int32)) => ∀ (ls : Array Slot) (H : Heap) (locs : List Loc), lv_has ls 5 [(0, .ref o_q0), (1, .int s2.1), (2, .int s6.1)] → St A s.heap D (wMd g o_q0 o_q1 o_q2 o_q3 o_q4 o_q5 o_q6 o_q7 o_q8 o_q9 o_q10 o_q11 o_q12 o_q13 o_q14 o_q15 o_q16 o_q17 o_q18 o_q19 o_q20 o_q21 o_q22 o_code o_tape o_size o_fault o_faultPlace o_many o_towns o_weeks o_logs o_reached o_length o_begins o_sort o_value o_word o_wrongAt o_laterFault o_laterPlace o_told o_read o_farOne o_good o_town o_people o_when o_sat o_quiet o_vain o_lent o_forgiven o_sundays o_purse o_beside o_debts o_sitting o_visited o_week o_heaps o_taken s6.2 o_more o_firstOne o_log o_fitting o_found o_seed o_row o_saved) H locs → W p l e (rmD 3) s m args below meth c H locs 0 0 Q (F0 m 11 ls [])) ?_ _ _ hf_ _ _ _ (lv_sub hl [1, 2, 0] rfl) hW
    intro s6 x8 hf hI7 hR7 ls H locs hl hW
    refine lv_iload_n S.1 S.2.1 dX12_findLendings_11 rfl (lv_at hl 2 rfl) ?_
    refine lv_bipush (v := 64) S.1 S.2.1 dX12_findLendings_12 bp_64 ?_
    refine lv_icmp_ge (tgt := 74) S.1 S.2.1 dX12_findLendings_14 (by decide) (fun c_ => ?_) (fun c_ => ?_)
    · have hf := it_p c_ hf
      have e_ := hR7 _ (Option.some.inj hf).symm
      exact hE7 _ e_ _ _ _ (lv_sub hl [0, 1] rfl) hW
    · have hf := it_n c_ hf
      refine lv_iconst (v := 0) S.1 S.2.1 dX12_findLendings_17 ic_0 ?_
      refine lv_istore_n (lv' := [(3, .int (0 : Int32)), (0, .ref o_q0), (1, .int s2.1), (2, .int s6.1)]) S.1 S.2.1 dX12_findLendings_18 rfl hl (by decide) rfl (fun ls hl => ?_)
      refine lv_iconst (v := 0) S.1 S.2.1 dX12_findLendings_19 ic_0 ?_
      refine lv_istore (lv' := [(4, .int (0 : Int32)), (3, .int (0 : Int32)), (0, .ref o_q0), (1, .int s2.1), (2, .int s6.1)]) S.1 S.2.1 dX12_findLendings_20 hl (by decide) rfl (fun ls hl => ?_)
      obtain ⟨x11, hf_, hk11⟩ := bnd_e hf
      have hE11 : ∀ (v15 : Int32), v15 = x11 → ∀ (ls : Array Slot) (H : Heap) (locs : List Loc), lv_has ls 5 [(0, .ref o_q0), (1, .int s2.1), (2, .int s6.1), (3, .int v15)] → St A s.heap D (wMd g o_q0 o_q1 o_q2 o_q3 o_q4 o_q5 o_q6 o_q7 o_q8 o_q9 o_q10 o_q11 o_q12 o_q13 o_q14 o_q15 o_q16 o_q17 o_q18 o_q19 o_q20 o_q21 o_q22 o_code o_tape o_size o_fault o_faultPlace o_many o_towns o_weeks o_logs o_reached o_length o_begins o_sort o_value o_word o_wrongAt o_laterFault o_laterPlace o_told o_read o_farOne o_good o_town o_people o_when o_sat o_quiet o_vain o_lent o_forgiven o_sundays o_purse o_beside o_debts o_sitting o_visited o_week o_heaps o_taken s6.2 o_more o_firstOne o_log o_fitting o_found o_seed o_row o_saved) H locs → W p l e (rmD 3) s m args below meth c H locs 0 0 Q (F0 m 56 ls []) := by
        intro v15 e_ ls H locs hl hW
        subst e_
        have hf := hk11
        refine lv_aload_n S.1 S.2.1 dX12_findLendings_56 rfl (lv_at hl 0 rfl) ?_
        refine gfX12_62 S hK hW.1 0 rfl rfl dX12_findLendings_57 ?_
        refine lv_bipush (v := 64) S.1 S.2.1 dX12_findLendings_60 bp_64 ?_
        refine lv_iload_n S.1 S.2.1 dX12_findLendings_62 rfl (lv_at hl 1 rfl) ?_
        refine lv_imul S.1 S.2.1 dX12_findLendings_63 ?_
        refine lv_iload_n S.1 S.2.1 dX12_findLendings_64 rfl (lv_at hl 2 rfl) ?_
        refine lv_iadd S.1 S.2.1 dX12_findLendings_65 ?_
        refine lv_iload_n S.1 S.2.1 dX12_findLendings_66 rfl (lv_at hl 3 rfl) ?_
        obtain ⟨x16, hx16, hf⟩ := bnd_e hf
        refine q_iast (ws2 := (wMd g o_q0 o_q1 o_q2 o_q3 o_q4 o_q5 o_q6 o_q7 o_q8 o_q9 o_q10 o_q11 o_q12 o_q13 o_q14 o_q15 o_q16 o_q17 o_q18 o_q19 o_q20 o_q21 o_q22 o_code o_tape o_size o_fault o_faultPlace o_many o_towns o_weeks o_logs o_reached o_length o_begins o_sort o_value o_word o_wrongAt o_laterFault o_laterPlace o_told o_read o_farOne o_good o_town o_people o_when o_sat o_quiet o_vain o_lent o_forgiven o_sundays o_purse o_beside o_debts o_sitting o_visited o_week o_heaps o_taken x16 o_more o_firstOne o_log o_fitting o_found o_seed o_row o_saved)) S hK hW 18 0 rfl rfl hx16 rfl dX12_findLendings_67 (fun H locs hW => ?_)
        refine q_iinc (w := 1) (lv' := [(2, .int (s6.1 + 1)), (0, .ref o_q0), (1, .int s2.1), (3, .int v15)]) S dX12_findLendings_68 hl (k := 2) rfl ic_1 (by decide) rfl (fun ls hl => ?_)
        refine lv_goto (tgt := 11) S.1 S.2.1 dX12_findLendings_71 (by decide) ?_
        exact hI7 _ (Option.some.inj hf).symm _ _ _ (lv_sub hl [1, 2, 0] rfl) hW
      refine lp_ind (P := fun (s10 : Int32 × Int32) => ∀ (ls : Array Slot) (H : Heap) (locs : List Loc), lv_has ls 5 [(0, .ref o_q0), (1, .int s2.1), (2, .int s6.1), (3, .int s10.1), (4, .int s10.2)] → St A s.heap D (wMd g o_q0 o_q1 o_q2 o_q3 o_q4 o_q5 o_q6 o_q7 o_q8 o_q9 o_q10 o_q11 o_q12 o_q13 o_q14 o_q15 o_q16 o_q17 o_q18 o_q19 o_q20 o_q21 o_q22 o_code o_tape o_size o_fault o_faultPlace o_many o_towns o_weeks o_logs o_reached o_length o_begins o_sort o_value o_word o_wrongAt o_laterFault o_laterPlace o_told o_read o_farOne o_good o_town o_people o_when o_sat o_quiet o_vain o_lent o_forgiven o_sundays o_purse o_beside o_debts o_sitting o_visited o_week o_heaps o_taken s6.2 o_more o_firstOne o_log o_fitting o_found o_seed o_row o_saved) H locs → W p l e (rmD 3) s m args below meth c H locs 0 0 Q (F0 m 22 ls [])) ?_ _ _ hf_ _ _ _ (lv_sub hl [2, 3, 4, 1, 0] rfl) hW
      intro s10 x12 hf hI11 hR11 ls H locs hl hW
      refine lv_iload S.1 S.2.1 dX12_findLendings_22 (lv_at hl 4 rfl) ?_
      refine lv_bipush (v := 6) S.1 S.2.1 dX12_findLendings_24 bp_6 ?_
      refine lv_icmp_gt (tgt := 56) S.1 S.2.1 dX12_findLendings_26 (by decide) (fun c_ => ?_) (fun c_ => ?_)
      · have hf := it_p c_ hf
        have e_ := hR11 _ (Option.some.inj hf).symm
        exact hE11 _ e_ _ _ _ (lv_sub hl [0, 1, 2, 3] rfl) hW
      · have hf := it_n c_ hf
        refine lv_iload_n S.1 S.2.1 dX12_findLendings_29 rfl (lv_at hl 1 rfl) ?_
        refine lv_aload_n S.1 S.2.1 dX12_findLendings_30 rfl (lv_at hl 0 rfl) ?_
        refine gfX12_230 S hK hW.1 0 rfl rfl dX12_findLendings_31 ?_
        refine lv_icmp_ge (tgt := 56) S.1 S.2.1 dX12_findLendings_34 (by decide) (fun c_ => ?_) (fun c_ => ?_)
        · have hf := it_p c_ hf
          have e_ := hR11 _ (Option.some.inj hf).symm
          exact hE11 _ e_ _ _ _ (lv_sub hl [0, 1, 2, 3] rfl) hW
        · have hf := it_n c_ hf
          refine lv_iload_n S.1 S.2.1 dX12_findLendings_37 rfl (lv_at hl 3 rfl) ?_
          refine lv_aload_n S.1 S.2.1 dX12_findLendings_38 rfl (lv_at hl 0 rfl) ?_
          refine lv_iload_n S.1 S.2.1 dX12_findLendings_39 rfl (lv_at hl 1 rfl) ?_
          refine lv_iload_n S.1 S.2.1 dX12_findLendings_40 rfl (lv_at hl 2 rfl) ?_
          refine lv_iload S.1 S.2.1 dX12_findLendings_41 (lv_at hl 4 rfl) ?_
          obtain ⟨x13, hx13, hf⟩ := bnd_e hf
          refine Rd.cV (c_X12_lendingBy hx13) S hK hW.1 0 10 rfl rfl kVX12_345 rfl hl.1 [.int s10.1] rfl (Nat.le_of_ble_eq_true rfl) ⟨(Nat.le_of_ble_eq_true rfl), (Nat.le_of_ble_eq_true rfl)⟩ ⟨(Nat.zero_le _), (Nat.zero_le _)⟩ dX12_findLendings_43 ?_
          obtain ⟨x14, hx14, hf⟩ := bnd_e hf
          refine Rd.cS (c_X12_greater hx14) S hK va_P.nil kSX12_171 rfl hl.1 [] rfl (Nat.le_of_ble_eq_true rfl) ⟨(Nat.le_of_ble_eq_true rfl), (Nat.le_of_ble_eq_true rfl)⟩ ⟨(Nat.zero_le _), (Nat.zero_le _)⟩ dX12_findLendings_46 ?_
          refine lv_istore_n (lv' := [(3, .int x14), (0, .ref o_q0), (1, .int s2.1), (2, .int s6.1), (4, .int s10.2)]) S.1 S.2.1 dX12_findLendings_49 rfl hl (by decide) rfl (fun ls hl => ?_)
          refine q_iinc (w := 1) (lv' := [(4, .int (s10.2 + 1)), (3, .int x14), (0, .ref o_q0), (1, .int s2.1), (2, .int s6.1)]) S dX12_findLendings_50 hl (k := 4) rfl ic_1 (by decide) rfl (fun ls hl => ?_)
          refine lv_goto (tgt := 22) S.1 S.2.1 dX12_findLendings_53 (by decide) ?_
          exact hI11 _ (Option.some.inj hf).symm _ _ _ (lv_sub hl [2, 3, 4, 1, 0] rfl) hW
def f_X12_lenders_L51 (fu : Nat) (o_towns : (Nat → Int32)) (x1 : Int32 × Int32 × Int32 × Int32 × Int32 × Int32 × Int32 × Int32 × Int32 × Int32 × (Nat → Int32) × (Nat → Int32) × (Nat → Int32) × (Nat → Int32) × (Nat → Int32)) (x3 : (Nat → Int32)) (s5 : Int32 × Int32 × Int32) (s9 : Int32) : Option ((Int32) ⊕ (Int32)) := bnd (α := Int32) (f_X12_lendingBy fu o_towns x1.2.1 x1.2.2.1 x1.2.2.2.2.2.2.2.2.2.2.1 x3 s5.2.2 s5.1 s9) (fun x12 => bnd (α := Int32) (rdi 448 x3 (((64 : Int32) * s5.2.2) + s5.1)) (fun x13 => if x12 = x13 then some (.inr s9) else some (.inl (s9 + 1))))
def f_X12_lenders_L42 (fu : Nat) (o_towns : (Nat → Int32)) (p2 : Int32) (x1 : Int32 × Int32 × Int32 × Int32 × Int32 × Int32 × Int32 × Int32 × Int32 × Int32 × (Nat → Int32) × (Nat → Int32) × (Nat → Int32) × (Nat → Int32) × (Nat → Int32)) (x3 : (Nat → Int32)) (s5 : Int32 × Int32 × Int32) : Option ((Int32 × Int32 × Int32) ⊕ (Int32)) := if p2 < s5.2.2 then some (.inr s5.2.1) else bnd (α := Int32) (lp (f_X12_lenders_L51 fu o_towns x1 x3 s5) fu (0 : Int32)) (fun v14 => if (6 : Int32) ≤ v14 then ltn (s5.1 ||| (0 : Int32)) (fun x15 => some (.inl (x15, v14, (s5.2.2 + 1)))) else ltn (s5.1 ||| (jshl (1 : Int32) v14)) (fun x16 => some (.inl (x16, v14, (s5.2.2 + 1)))))
def f_X12_lenders (fu : Nat) (o_code : Int32) (o_many : (Nat → Int32)) (o_towns : (Nat → Int32)) (o_town : Int32) (o_people : Int32) (o_when : Int32) (o_sat : Int32) (o_quiet : Int32) (o_vain : Int32) (o_lent : Int32) (o_forgiven : Int32) (o_sundays : Int32) (o_purse : (Nat → Int32)) (o_beside : (Nat → Int32)) (o_debts : (Nat → Int32)) (o_sitting : (Nat → Int32)) (o_visited : (Nat → Int32)) (o_best : (Nat → Int32)) (p1 : Int32) (p2 : Int32) : Option (Int32 × Int32 × Int32 × Int32 × Int32 × Int32 × Int32 × Int32 × Int32 × Int32 × Int32 × (Nat → Int32) × (Nat → Int32) × (Nat → Int32) × (Nat → Int32) × (Nat → Int32) × (Nat → Int32)) := bnd (α := Int32 × Int32 × Int32 × Int32 × Int32 × Int32 × Int32 × Int32 × Int32 × Int32 × (Nat → Int32) × (Nat → Int32) × (Nat → Int32) × (Nat → Int32) × (Nat → Int32)) (f_X12_hand fu o_many o_towns o_town o_people o_when o_sat o_quiet o_vain o_lent o_forgiven o_sundays o_purse o_beside o_debts o_sitting o_visited p1) (fun x1 => if x1.1 = 0 then some ((-1 : Int32), (0 : Int32), x1.2.1, x1.2.2.1, x1.2.2.2.1, x1.2.2.2.2.1, x1.2.2.2.2.2.1, x1.2.2.2.2.2.2.1, x1.2.2.2.2.2.2.2.1, x1.2.2.2.2.2.2.2.2.1, x1.2.2.2.2.2.2.2.2.2.1, x1.2.2.2.2.2.2.2.2.2.2.1, x1.2.2.2.2.2.2.2.2.2.2.2.1, x1.2.2.2.2.2.2.2.2.2.2.2.2.1, x1.2.2.2.2.2.2.2.2.2.2.2.2.2.1, x1.2.2.2.2.2.2.2.2.2.2.2.2.2.2, o_best) else bnd (α := Int32) (f_X12_in fu p2 (-1 : Int32) (x1.2.2.1 - (1 : Int32))) (fun x2 => if x2 = 0 then some ((-1 : Int32), (0 : Int32), x1.2.1, x1.2.2.1, x1.2.2.2.1, x1.2.2.2.2.1, x1.2.2.2.2.2.1, x1.2.2.2.2.2.2.1, x1.2.2.2.2.2.2.2.1, x1.2.2.2.2.2.2.2.2.1, x1.2.2.2.2.2.2.2.2.2.1, x1.2.2.2.2.2.2.2.2.2.2.1, x1.2.2.2.2.2.2.2.2.2.2.2.1, x1.2.2.2.2.2.2.2.2.2.2.2.2.1, x1.2.2.2.2.2.2.2.2.2.2.2.2.2.1, x1.2.2.2.2.2.2.2.2.2.2.2.2.2.2, o_best) else bnd (α := (Nat → Int32)) (f_X12_findLendings fu o_towns x1.2.1 x1.2.2.1 x1.2.2.2.2.2.2.2.2.2.2.1 o_best) (fun x3 => bnd (α := Int32) (lp (f_X12_lenders_L42 fu o_towns p2 x1 x3) fu ((0 : Int32), (6 : Int32), (0 : Int32))) (fun v17 => if p2 = (-1 : Int32) then bnd (α := Int32) (rdi 448 x3 (0 : Int32)) (fun x18 => some (x18, (0 : Int32), x1.2.1, x1.2.2.1, x1.2.2.2.1, x1.2.2.2.2.1, x1.2.2.2.2.2.1, x1.2.2.2.2.2.2.1, x1.2.2.2.2.2.2.2.1, x1.2.2.2.2.2.2.2.2.1, x1.2.2.2.2.2.2.2.2.2.1, x1.2.2.2.2.2.2.2.2.2.2.1, x1.2.2.2.2.2.2.2.2.2.2.2.1, x1.2.2.2.2.2.2.2.2.2.2.2.2.1, x1.2.2.2.2.2.2.2.2.2.2.2.2.2.1, x1.2.2.2.2.2.2.2.2.2.2.2.2.2.2, x3)) else some (v17, (0 : Int32), x1.2.1, x1.2.2.1, x1.2.2.2.1, x1.2.2.2.2.1, x1.2.2.2.2.2.1, x1.2.2.2.2.2.2.1, x1.2.2.2.2.2.2.2.1, x1.2.2.2.2.2.2.2.2.1, x1.2.2.2.2.2.2.2.2.2.1, x1.2.2.2.2.2.2.2.2.2.2.1, x1.2.2.2.2.2.2.2.2.2.2.2.1, x1.2.2.2.2.2.2.2.2.2.2.2.2.1, x1.2.2.2.2.2.2.2.2.2.2.2.2.2.1, x1.2.2.2.2.2.2.2.2.2.2.2.2.2.2, x3)))))
set_option maxHeartbeats 4000000 in
set_option maxRecDepth 100000 in
theorem c_X12_lenders {l : Launch} {D : va_G} {g : Nat → ClassId} {fu : Nat} {o_q0 o_q1 o_q2 o_q3 o_q4 o_q5 o_q6 o_q7 o_q8 o_q9 o_q10 o_q11 o_q12 o_q13 o_q14 o_q15 o_q16 o_q17 o_q18 o_q19 o_q20 o_q21 o_q22 : Nat} {o_code : Int32} {o_tape : (Nat → Int32)} {o_size : (Nat → Int32)} {o_fault : (Nat → Int32)} {o_faultPlace : (Nat → Int32)} {o_many : (Nat → Int32)} {o_towns : (Nat → Int32)} {o_weeks : (Nat → Int32)} {o_logs : (Nat → Int32)} {o_reached : Int32} {o_length : Int32} {o_begins : Int32} {o_sort : Int32} {o_value : Int32} {o_word : Int64} {o_wrongAt : Int32} {o_laterFault : Int32} {o_laterPlace : Int32} {o_told : (Nat → Int32)} {o_read : (Nat → Int32)} {o_farOne : Int32} {o_good : Int32} {o_town : Int32} {o_people : Int32} {o_when : Int32} {o_sat : Int32} {o_quiet : Int32} {o_vain : Int32} {o_lent : Int32} {o_forgiven : Int32} {o_sundays : Int32} {o_purse : (Nat → Int32)} {o_beside : (Nat → Int32)} {o_debts : (Nat → Int32)} {o_sitting : (Nat → Int32)} {o_visited : (Nat → Int32)} {o_week : Int32} {o_heaps : (Nat → Int32)} {o_taken : (Nat → Int32)} {o_best : (Nat → Int32)} {o_more : (Nat → Int32)} {o_firstOne : Int32} {o_log : Int32} {o_fitting : (Nat → Int32)} {o_found : Int32} {o_seed : Int32} {o_row : (Nat → Int32)} {o_saved : (Nat → Int32)} {p1 : Int32} {p2 : Int32} {r : Int32 × Int32 × Int32 × Int32 × Int32 × Int32 × Int32 × Int32 × Int32 × Int32 × Int32 × (Nat → Int32) × (Nat → Int32) × (Nat → Int32) × (Nat → Int32) × (Nat → Int32) × (Nat → Int32)} (hf : f_X12_lenders fu o_code o_many o_towns o_town o_people o_when o_sat o_quiet o_vain o_lent o_forgiven o_sundays o_purse o_beside o_debts o_sitting o_visited o_best p1 p2 = some r) : Wr l D (gy g) yX12_lenders cX12_lenders 6 (some .int) 4 [.ref o_q0, .int p1, .int p2] (wMd g o_q0 o_q1 o_q2 o_q3 o_q4 o_q5 o_q6 o_q7 o_q8 o_q9 o_q10 o_q11 o_q12 o_q13 o_q14 o_q15 o_q16 o_q17 o_q18 o_q19 o_q20 o_q21 o_q22 o_code o_tape o_size o_fault o_faultPlace o_many o_towns o_weeks o_logs o_reached o_length o_begins o_sort o_value o_word o_wrongAt o_laterFault o_laterPlace o_told o_read o_farOne o_good o_town o_people o_when o_sat o_quiet o_vain o_lent o_forgiven o_sundays o_purse o_beside o_debts o_sitting o_visited o_week o_heaps o_taken o_best o_more o_firstOne o_log o_fitting o_found o_seed o_row o_saved) (wMd g o_q0 o_q1 o_q2 o_q3 o_q4 o_q5 o_q6 o_q7 o_q8 o_q9 o_q10 o_q11 o_q12 o_q13 o_q14 o_q15 o_q16 o_q17 o_q18 o_q19 o_q20 o_q21 o_q22 r.2.1 o_tape o_size o_fault o_faultPlace o_many o_towns o_weeks o_logs o_reached o_length o_begins o_sort o_value o_word o_wrongAt o_laterFault o_laterPlace o_told o_read o_farOne o_good r.2.2.1 r.2.2.2.1 r.2.2.2.2.1 r.2.2.2.2.2.1 r.2.2.2.2.2.2.1 r.2.2.2.2.2.2.2.1 r.2.2.2.2.2.2.2.2.1 r.2.2.2.2.2.2.2.2.2.1 r.2.2.2.2.2.2.2.2.2.2.1 r.2.2.2.2.2.2.2.2.2.2.2.1 r.2.2.2.2.2.2.2.2.2.2.2.2.1 r.2.2.2.2.2.2.2.2.2.2.2.2.2.1 r.2.2.2.2.2.2.2.2.2.2.2.2.2.2.1 r.2.2.2.2.2.2.2.2.2.2.2.2.2.2.2.1 o_week o_heaps o_taken r.2.2.2.2.2.2.2.2.2.2.2.2.2.2.2.2 o_more o_firstOne o_log o_fitting o_found o_seed o_row o_saved) (some (.int r.1)) := by
  refine Wr.ofI (by decide) (Nat.le_of_ble_eq_true rfl) ?_
  intro p e s m args below meth c Q A S hK hA hret ls hl hW
  have hl : lv_has ls 6 [(0, .ref o_q0), (1, .int p1), (2, .int p2)] := hl
  refine lv_aload_n S.1 S.2.1 dX12_lenders_0 rfl (lv_at hl 0 rfl) ?_
  refine lv_iconst (v := 0) S.1 S.2.1 dX12_lenders_1 ic_0 ?_
  refine pfX12_78 (ws2 := (wMd g o_q0 o_q1 o_q2 o_q3 o_q4 o_q5 o_q6 o_q7 o_q8 o_q9 o_q10 o_q11 o_q12 o_q13 o_q14 o_q15 o_q16 o_q17 o_q18 o_q19 o_q20 o_q21 o_q22 (0 : Int32) o_tape o_size o_fault o_faultPlace o_many o_towns o_weeks o_logs o_reached o_length o_begins o_sort o_value o_word o_wrongAt o_laterFault o_laterPlace o_told o_read o_farOne o_good o_town o_people o_when o_sat o_quiet o_vain o_lent o_forgiven o_sundays o_purse o_beside o_debts o_sitting o_visited o_week o_heaps o_taken o_best o_more o_firstOne o_log o_fitting o_found o_seed o_row o_saved)) S hK hW 0 rfl rfl rfl (Nat.le_of_ble_eq_true rfl) rfl dX12_lenders_2 (fun H locs hW => ?_)
  refine lv_aload_n S.1 S.2.1 dX12_lenders_5 rfl (lv_at hl 0 rfl) ?_
  refine lv_iload_n S.1 S.2.1 dX12_lenders_6 rfl (lv_at hl 1 rfl) ?_
  obtain ⟨x1, hx1, hf⟩ := bnd_e hf
  refine Wr.goW (Wr.runV (c_X12_hand hx1) S hK hW.1 hW.2.1 0 10 rfl rfl kVX12_257 rfl hl.1 [] rfl (Nat.le_of_ble_eq_true rfl) ⟨(Nat.le_of_ble_eq_true rfl), (Nat.le_of_ble_eq_true rfl)⟩ ⟨(Nat.zero_le _), (Nat.zero_le _)⟩ dX12_lenders_7) hW hA (fun H locs hW => ?_)
  refine lv_if_eq (tgt := 27) S.1 S.2.1 dX12_lenders_10 (by decide) (fun c_ => ?_) (fun c_ => ?_)
  · have hf := it_p c_ hf
    refine lv_iconst (v := (-1)) S.1 S.2.1 dX12_lenders_27 ic_m1 ?_
    have e_ := Option.some.inj hf
    subst e_
    exact hret _ _ _ _ dX12_lenders_28 hW
  · have hf := it_n c_ hf
    refine lv_iload_n S.1 S.2.1 dX12_lenders_13 rfl (lv_at hl 2 rfl) ?_
    refine lv_iconst (v := (-1)) S.1 S.2.1 dX12_lenders_14 ic_m1 ?_
    refine lv_aload_n S.1 S.2.1 dX12_lenders_15 rfl (lv_at hl 0 rfl) ?_
    refine gfX12_230 S hK hW.1 0 rfl rfl dX12_lenders_16 ?_
    refine lv_iconst (v := 1) S.1 S.2.1 dX12_lenders_19 ic_1 ?_
    refine lv_isub S.1 S.2.1 dX12_lenders_20 ?_
    obtain ⟨x2, hx2, hf⟩ := bnd_e hf
    refine Rd.cS (c_X12_in hx2) S hK va_P.nil kSX12_90 rfl hl.1 [] rfl (Nat.le_of_ble_eq_true rfl) ⟨(Nat.le_of_ble_eq_true rfl), (Nat.le_of_ble_eq_true rfl)⟩ ⟨(Nat.zero_le _), (Nat.zero_le _)⟩ dX12_lenders_21 ?_
    refine lv_if_ne (tgt := 29) S.1 S.2.1 dX12_lenders_24 (by decide) (fun c_ => ?_) (fun c_ => ?_)
    · have hf := it_n c_ hf
      refine lv_aload_n S.1 S.2.1 dX12_lenders_29 rfl (lv_at hl 0 rfl) ?_
      obtain ⟨x3, hx3, hf⟩ := bnd_e hf
      refine Wr.goW (Wr.runV (c_X12_findLendings hx3) S hK hW.1 hW.2.1 0 10 rfl rfl kVX12_349 rfl hl.1 [] rfl (Nat.le_of_ble_eq_true rfl) ⟨(Nat.le_of_ble_eq_true rfl), (Nat.le_of_ble_eq_true rfl)⟩ ⟨(Nat.zero_le _), (Nat.zero_le _)⟩ dX12_lenders_30) hW hA (fun H locs hW => ?_)
      refine lv_iconst (v := 0) S.1 S.2.1 dX12_lenders_33 ic_0 ?_
      refine lv_istore_n (lv' := [(3, .int (0 : Int32)), (0, .ref o_q0), (1, .int p1), (2, .int p2)]) S.1 S.2.1 dX12_lenders_34 rfl hl (by decide) rfl (fun ls hl => ?_)
      refine lv_bipush (v := 6) S.1 S.2.1 dX12_lenders_35 bp_6 ?_
      refine lv_istore (lv' := [(4, .int (6 : Int32)), (3, .int (0 : Int32)), (0, .ref o_q0), (1, .int p1), (2, .int p2)]) S.1 S.2.1 dX12_lenders_37 hl (by decide) rfl (fun ls hl => ?_)
      refine lv_iconst (v := 0) S.1 S.2.1 dX12_lenders_39 ic_0 ?_
      refine lv_istore (lv' := [(5, .int (0 : Int32)), (4, .int (6 : Int32)), (3, .int (0 : Int32)), (0, .ref o_q0), (1, .int p1), (2, .int p2)]) S.1 S.2.1 dX12_lenders_40 hl (by decide) rfl (fun ls hl => ?_)
      obtain ⟨x6, hf_, hk6⟩ := bnd_e hf
      have hE6 : ∀ (v17 : Int32), v17 = x6 → ∀ (ls : Array Slot) (H : Heap) (locs : List Loc), lv_has ls 6 [(0, .ref o_q0), (2, .int p2), (4, .int v17)] → St A s.heap D (wMd g o_q0 o_q1 o_q2 o_q3 o_q4 o_q5 o_q6 o_q7 o_q8 o_q9 o_q10 o_q11 o_q12 o_q13 o_q14 o_q15 o_q16 o_q17 o_q18 o_q19 o_q20 o_q21 o_q22 (0 : Int32) o_tape o_size o_fault o_faultPlace o_many o_towns o_weeks o_logs o_reached o_length o_begins o_sort o_value o_word o_wrongAt o_laterFault o_laterPlace o_told o_read o_farOne o_good x1.2.1 x1.2.2.1 x1.2.2.2.1 x1.2.2.2.2.1 x1.2.2.2.2.2.1 x1.2.2.2.2.2.2.1 x1.2.2.2.2.2.2.2.1 x1.2.2.2.2.2.2.2.2.1 x1.2.2.2.2.2.2.2.2.2.1 x1.2.2.2.2.2.2.2.2.2.2.1 x1.2.2.2.2.2.2.2.2.2.2.2.1 x1.2.2.2.2.2.2.2.2.2.2.2.2.1 x1.2.2.2.2.2.2.2.2.2.2.2.2.2.1 x1.2.2.2.2.2.2.2.2.2.2.2.2.2.2 o_week o_heaps o_taken x3 o_more o_firstOne o_log o_fitting o_found o_seed o_row o_saved) H locs → W p l e (rmD 4) s m args below meth c H locs 0 0 Q (F0 m 105 ls []) := by
        intro v17 e_ ls H locs hl hW
        subst e_
        have hf := hk6
        refine lv_iload_n S.1 S.2.1 dX12_lenders_105 rfl (lv_at hl 1 rfl) ?_
        refine lv_iconst (v := (-1)) S.1 S.2.1 dX12_lenders_106 ic_m1 ?_
        refine lv_icmp_ne (tgt := 119) S.1 S.2.1 dX12_lenders_107 (by decide) (fun c_ => ?_) (fun c_ => ?_)
        · have hf := it_n c_ hf
          refine lv_iload S.1 S.2.1 dX12_lenders_119 (lv_at hl 2 rfl) ?_
          have e_ := Option.some.inj hf
          subst e_
          exact hret _ _ _ _ dX12_lenders_121 hW
        · have hf := it_p c_ hf
          refine lv_aload_n S.1 S.2.1 dX12_lenders_110 rfl (lv_at hl 0 rfl) ?_
          refine gfX12_62 S hK hW.1 0 rfl rfl dX12_lenders_111 ?_
          refine lv_iconst (v := 0) S.1 S.2.1 dX12_lenders_114 ic_0 ?_
          obtain ⟨x18, hx18, hf⟩ := bnd_e hf
          refine q_iald S hK hW.1 18 0 rfl rfl hx18 dX12_lenders_115 ?_
          refine lv_goto (tgt := 121) S.1 S.2.1 dX12_lenders_116 (by decide) ?_
          have e_ := Option.some.inj hf
          subst e_
          exact hret _ _ _ _ dX12_lenders_121 hW
      refine lp_ind (P := fun (s5 : Int32 × Int32 × Int32) => ∀ (ls : Array Slot) (H : Heap) (locs : List Loc), lv_has ls 6 [(0, .ref o_q0), (2, .int p2), (3, .int s5.1), (4, .int s5.2.1), (5, .int s5.2.2)] → St A s.heap D (wMd g o_q0 o_q1 o_q2 o_q3 o_q4 o_q5 o_q6 o_q7 o_q8 o_q9 o_q10 o_q11 o_q12 o_q13 o_q14 o_q15 o_q16 o_q17 o_q18 o_q19 o_q20 o_q21 o_q22 (0 : Int32) o_tape o_size o_fault o_faultPlace o_many o_towns o_weeks o_logs o_reached o_length o_begins o_sort o_value o_word o_wrongAt o_laterFault o_laterPlace o_told o_read o_farOne o_good x1.2.1 x1.2.2.1 x1.2.2.2.1 x1.2.2.2.2.1 x1.2.2.2.2.2.1 x1.2.2.2.2.2.2.1 x1.2.2.2.2.2.2.2.1 x1.2.2.2.2.2.2.2.2.1 x1.2.2.2.2.2.2.2.2.2.1 x1.2.2.2.2.2.2.2.2.2.2.1 x1.2.2.2.2.2.2.2.2.2.2.2.1 x1.2.2.2.2.2.2.2.2.2.2.2.2.1 x1.2.2.2.2.2.2.2.2.2.2.2.2.2.1 x1.2.2.2.2.2.2.2.2.2.2.2.2.2.2 o_week o_heaps o_taken x3 o_more o_firstOne o_log o_fitting o_found o_seed o_row o_saved) H locs → W p l e (rmD 4) s m args below meth c H locs 0 0 Q (F0 m 42 ls [])) ?_ _ _ hf_ _ _ _ (lv_sub hl [3, 5, 2, 1, 0] rfl) hW
      intro s5 x7 hf hI6 hR6 ls H locs hl hW
      refine lv_iload S.1 S.2.1 dX12_lenders_42 (lv_at hl 4 rfl) ?_
      refine lv_iload_n S.1 S.2.1 dX12_lenders_44 rfl (lv_at hl 1 rfl) ?_
      refine lv_icmp_gt (tgt := 105) S.1 S.2.1 dX12_lenders_45 (by decide) (fun c_ => ?_) (fun c_ => ?_)
      · have hf := it_p c_ hf
        have e_ := hR6 _ (Option.some.inj hf).symm
        exact hE6 _ e_ _ _ _ (lv_sub hl [0, 1, 3] rfl) hW
      · have hf := it_n c_ hf
        refine lv_iconst (v := 0) S.1 S.2.1 dX12_lenders_48 ic_0 ?_
        refine lv_istore (lv' := [(4, .int (0 : Int32)), (0, .ref o_q0), (2, .int p2), (3, .int s5.1), (5, .int s5.2.2)]) S.1 S.2.1 dX12_lenders_49 hl (by decide) rfl (fun ls hl => ?_)
        obtain ⟨x10, hf_, hk10⟩ := bnd_e hf
        have hE10 : ∀ (v14 : Int32), v14 = x10 → ∀ (ls : Array Slot) (H : Heap) (locs : List Loc), lv_has ls 6 [(0, .ref o_q0), (2, .int p2), (3, .int s5.1), (4, .int v14), (5, .int s5.2.2)] → St A s.heap D (wMd g o_q0 o_q1 o_q2 o_q3 o_q4 o_q5 o_q6 o_q7 o_q8 o_q9 o_q10 o_q11 o_q12 o_q13 o_q14 o_q15 o_q16 o_q17 o_q18 o_q19 o_q20 o_q21 o_q22 (0 : Int32) o_tape o_size o_fault o_faultPlace o_many o_towns o_weeks o_logs o_reached o_length o_begins o_sort o_value o_word o_wrongAt o_laterFault o_laterPlace o_told o_read o_farOne o_good x1.2.1 x1.2.2.1 x1.2.2.2.1 x1.2.2.2.2.1 x1.2.2.2.2.2.1 x1.2.2.2.2.2.2.1 x1.2.2.2.2.2.2.2.1 x1.2.2.2.2.2.2.2.2.1 x1.2.2.2.2.2.2.2.2.2.1 x1.2.2.2.2.2.2.2.2.2.2.1 x1.2.2.2.2.2.2.2.2.2.2.2.1 x1.2.2.2.2.2.2.2.2.2.2.2.2.1 x1.2.2.2.2.2.2.2.2.2.2.2.2.2.1 x1.2.2.2.2.2.2.2.2.2.2.2.2.2.2 o_week o_heaps o_taken x3 o_more o_firstOne o_log o_fitting o_found o_seed o_row o_saved) H locs → W p l e (rmD 4) s m args below meth c H locs 0 0 Q (F0 m 81 ls []) := by
          intro v14 e_ ls H locs hl hW
          subst e_
          have hf := hk10
          refine lv_iload_n S.1 S.2.1 dX12_lenders_81 rfl (lv_at hl 2 rfl) ?_
          refine lv_iload S.1 S.2.1 dX12_lenders_82 (lv_at hl 3 rfl) ?_
          refine lv_bipush (v := 6) S.1 S.2.1 dX12_lenders_84 bp_6 ?_
          refine lv_icmp_ge (tgt := 96) S.1 S.2.1 dX12_lenders_86 (by decide) (fun c_ => ?_) (fun c_ => ?_)
          · have hf := it_p c_ hf
            refine lv_iconst (v := 0) S.1 S.2.1 dX12_lenders_96 ic_0 ?_
            refine lv_ior S.1 S.2.1 dX12_lenders_97 ?_
            refine lv_topi (fun x15 ex15 => ?_)
            have hf := ltn_e hf ex15
            refine lv_istore_n (lv' := [(3, .int x15), (0, .ref o_q0), (2, .int p2), (4, .int v14), (5, .int s5.2.2)]) S.1 S.2.1 dX12_lenders_98 rfl hl (by decide) rfl (fun ls hl => ?_)
            refine q_iinc (w := 1) (lv' := [(5, .int (s5.2.2 + 1)), (3, .int x15), (0, .ref o_q0), (2, .int p2), (4, .int v14)]) S dX12_lenders_99 hl (k := 4) rfl ic_1 (by decide) rfl (fun ls hl => ?_)
            refine lv_goto (tgt := 42) S.1 S.2.1 dX12_lenders_102 (by decide) ?_
            exact hI6 _ (Option.some.inj hf).symm _ _ _ (lv_sub hl [2, 3, 1, 4, 0] rfl) hW
          · have hf := it_n c_ hf
            refine lv_iconst (v := 1) S.1 S.2.1 dX12_lenders_89 ic_1 ?_
            refine lv_iload S.1 S.2.1 dX12_lenders_90 (lv_at hl 3 rfl) ?_
            refine lv_ishl S.1 S.2.1 dX12_lenders_92 ?_
            refine lv_goto (tgt := 97) S.1 S.2.1 dX12_lenders_93 (by decide) ?_
            refine lv_ior S.1 S.2.1 dX12_lenders_97 ?_
            refine lv_topi (fun x16 ex16 => ?_)
            have hf := ltn_e hf ex16
            refine lv_istore_n (lv' := [(3, .int x16), (0, .ref o_q0), (2, .int p2), (4, .int v14), (5, .int s5.2.2)]) S.1 S.2.1 dX12_lenders_98 rfl hl (by decide) rfl (fun ls hl => ?_)
            refine q_iinc (w := 1) (lv' := [(5, .int (s5.2.2 + 1)), (3, .int x16), (0, .ref o_q0), (2, .int p2), (4, .int v14)]) S dX12_lenders_99 hl (k := 4) rfl ic_1 (by decide) rfl (fun ls hl => ?_)
            refine lv_goto (tgt := 42) S.1 S.2.1 dX12_lenders_102 (by decide) ?_
            exact hI6 _ (Option.some.inj hf).symm _ _ _ (lv_sub hl [2, 3, 1, 4, 0] rfl) hW
        refine lp_ind (P := fun (s9 : Int32) => ∀ (ls : Array Slot) (H : Heap) (locs : List Loc), lv_has ls 6 [(0, .ref o_q0), (2, .int p2), (3, .int s5.1), (4, .int s9), (5, .int s5.2.2)] → St A s.heap D (wMd g o_q0 o_q1 o_q2 o_q3 o_q4 o_q5 o_q6 o_q7 o_q8 o_q9 o_q10 o_q11 o_q12 o_q13 o_q14 o_q15 o_q16 o_q17 o_q18 o_q19 o_q20 o_q21 o_q22 (0 : Int32) o_tape o_size o_fault o_faultPlace o_many o_towns o_weeks o_logs o_reached o_length o_begins o_sort o_value o_word o_wrongAt o_laterFault o_laterPlace o_told o_read o_farOne o_good x1.2.1 x1.2.2.1 x1.2.2.2.1 x1.2.2.2.2.1 x1.2.2.2.2.2.1 x1.2.2.2.2.2.2.1 x1.2.2.2.2.2.2.2.1 x1.2.2.2.2.2.2.2.2.1 x1.2.2.2.2.2.2.2.2.2.1 x1.2.2.2.2.2.2.2.2.2.2.1 x1.2.2.2.2.2.2.2.2.2.2.2.1 x1.2.2.2.2.2.2.2.2.2.2.2.2.1 x1.2.2.2.2.2.2.2.2.2.2.2.2.2.1 x1.2.2.2.2.2.2.2.2.2.2.2.2.2.2 o_week o_heaps o_taken x3 o_more o_firstOne o_log o_fitting o_found o_seed o_row o_saved) H locs → W p l e (rmD 4) s m args below meth c H locs 0 0 Q (F0 m 51 ls [])) ?_ _ _ hf_ _ _ _ (lv_sub hl [1, 2, 3, 0, 4] rfl) hW
        intro s9 x11 hf hI10 hR10 ls H locs hl hW
        refine lv_aload_n S.1 S.2.1 dX12_lenders_51 rfl (lv_at hl 0 rfl) ?_
        refine lv_iload S.1 S.2.1 dX12_lenders_52 (lv_at hl 4 rfl) ?_
        refine lv_iload_n S.1 S.2.1 dX12_lenders_54 rfl (lv_at hl 2 rfl) ?_
        refine lv_iload S.1 S.2.1 dX12_lenders_55 (lv_at hl 3 rfl) ?_
        obtain ⟨x12, hx12, hf⟩ := bnd_e hf
        refine Rd.cV (c_X12_lendingBy hx12) S hK hW.1 0 10 rfl rfl kVX12_345 rfl hl.1 [] rfl (Nat.le_of_ble_eq_true rfl) ⟨(Nat.le_of_ble_eq_true rfl), (Nat.le_of_ble_eq_true rfl)⟩ ⟨(Nat.zero_le _), (Nat.zero_le _)⟩ dX12_lenders_57 ?_
        refine lv_aload_n S.1 S.2.1 dX12_lenders_60 rfl (lv_at hl 0 rfl) ?_
        refine gfX12_62 S hK hW.1 0 rfl rfl dX12_lenders_61 ?_
        refine lv_bipush (v := 64) S.1 S.2.1 dX12_lenders_64 bp_64 ?_
        refine lv_iload S.1 S.2.1 dX12_lenders_66 (lv_at hl 4 rfl) ?_
        refine lv_imul S.1 S.2.1 dX12_lenders_68 ?_
        refine lv_iload_n S.1 S.2.1 dX12_lenders_69 rfl (lv_at hl 2 rfl) ?_
        refine lv_iadd S.1 S.2.1 dX12_lenders_70 ?_
        obtain ⟨x13, hx13, hf⟩ := bnd_e hf
        refine q_iald S hK hW.1 18 0 rfl rfl hx13 dX12_lenders_71 ?_
        refine lv_icmp_eq (tgt := 81) S.1 S.2.1 dX12_lenders_72 (by decide) (fun c_ => ?_) (fun c_ => ?_)
        · have hf := it_p c_ hf
          have e_ := hR10 _ (Option.some.inj hf).symm
          exact hE10 _ e_ _ _ _ (lv_sub hl [0, 1, 2, 3, 4] rfl) hW
        · have hf := it_n c_ hf
          refine q_iinc (w := 1) (lv' := [(4, .int (s9 + 1)), (0, .ref o_q0), (2, .int p2), (3, .int s5.1), (5, .int s5.2.2)]) S dX12_lenders_75 hl (k := 3) rfl ic_1 (by decide) rfl (fun ls hl => ?_)
          refine lv_goto (tgt := 51) S.1 S.2.1 dX12_lenders_78 (by decide) ?_
          exact hI10 _ (Option.some.inj hf).symm _ _ _ (lv_sub hl [1, 2, 3, 0, 4] rfl) hW
    · have hf := it_p c_ hf
      refine lv_iconst (v := (-1)) S.1 S.2.1 dX12_lenders_27 ic_m1 ?_
      have e_ := Option.some.inj hf
      subst e_
      exact hret _ _ _ _ dX12_lenders_28 hW
def f_X12_threes_L4 (p1 : Int32) (s2 : Int32 × Int32) : Option ((Int32 × Int32) ⊕ (Int32)) := if p1 ≤ s2.2 then some (.inr s2.1) else ltn (s2.1 * (3 : Int32)) (fun x5 => some (.inl (x5, (s2.2 + 1))))
def f_X12_threes (fu : Nat) (p1 : Int32) : Option (Int32) := bnd (α := Int32) (lp (f_X12_threes_L4 p1) fu ((1 : Int32), (0 : Int32))) (fun v6 => some v6)
set_option maxHeartbeats 4000000 in
set_option maxRecDepth 100000 in
theorem c_X12_threes {l : Launch} {D : va_G} {g : Nat → ClassId} {fu : Nat} {p1 : Int32} {r : Int32} (hf : f_X12_threes fu p1 = some r) : Rd l D (gy g) yX12_threes cX12_threes 3 (some .int) 0 [.int p1] ([] : va_W) (some (.int r)) := by
  refine Rd.ofI (by decide) (Nat.le_of_ble_eq_true rfl) ?_
  intro p e s m args below meth c Q S hK hP hret ls hl
  have hl : lv_has ls 3 [(0, .int p1)] := hl
  refine lv_iconst (v := 1) S.1 S.2.1 dX12_threes_0 ic_1 ?_
  refine lv_istore_n (lv' := [(1, .int (1 : Int32)), (0, .int p1)]) S.1 S.2.1 dX12_threes_1 rfl hl (by decide) rfl (fun ls hl => ?_)
  refine lv_iconst (v := 0) S.1 S.2.1 dX12_threes_2 ic_0 ?_
  refine lv_istore_n (lv' := [(2, .int (0 : Int32)), (1, .int (1 : Int32)), (0, .int p1)]) S.1 S.2.1 dX12_threes_3 rfl hl (by decide) rfl (fun ls hl => ?_)
  obtain ⟨x3, hf_, hk3⟩ := bnd_e hf
  have hE3 : ∀ (v6 : Int32), v6 = x3 → ∀ (ls : Array Slot), lv_has ls 3 [(1, .int v6)] → W p l e (rmD 0) s m args below meth c s.heap [] 0 0 Q (F0 m 19 ls []) := by
    intro v6 e_ ls hl
    subst e_
    have hf := hk3
    refine lv_iload_n S.1 S.2.1 dX12_threes_19 rfl (lv_at hl 0 rfl) ?_
    have e_ := Option.some.inj hf
    subst e_
    exact hret _ _ dX12_threes_20
  refine lp_ind (P := fun (s2 : Int32 × Int32) => ∀ (ls : Array Slot), lv_has ls 3 [(0, .int p1), (1, .int s2.1), (2, .int s2.2)] → W p l e (rmD 0) s m args below meth c s.heap [] 0 0 Q (F0 m 4 ls [])) ?_ _ _ hf_ _ (lv_sub hl [2, 1, 0] rfl)
  intro s2 x4 hf hI3 hR3 ls hl
  refine lv_iload_n S.1 S.2.1 dX12_threes_4 rfl (lv_at hl 2 rfl) ?_
  refine lv_iload_n S.1 S.2.1 dX12_threes_5 rfl (lv_at hl 0 rfl) ?_
  refine lv_icmp_ge (tgt := 19) S.1 S.2.1 dX12_threes_6 (by decide) (fun c_ => ?_) (fun c_ => ?_)
  · have hf := it_p c_ hf
    have e_ := hR3 _ (Option.some.inj hf).symm
    exact hE3 _ e_ _ (lv_sub hl [1] rfl)
  · have hf := it_n c_ hf
    refine lv_iload_n S.1 S.2.1 dX12_threes_9 rfl (lv_at hl 1 rfl) ?_
    refine lv_iconst (v := 3) S.1 S.2.1 dX12_threes_10 ic_3 ?_
    refine lv_imul S.1 S.2.1 dX12_threes_11 ?_
    refine lv_topi (fun x5 ex5 => ?_)
    have hf := ltn_e hf ex5
    refine lv_istore_n (lv' := [(1, .int x5), (0, .int p1), (2, .int s2.2)]) S.1 S.2.1 dX12_threes_12 rfl hl (by decide) rfl (fun ls hl => ?_)
    refine q_iinc (w := 1) (lv' := [(2, .int (s2.2 + 1)), (1, .int x5), (0, .int p1)]) S dX12_threes_13 hl (k := 2) rfl ic_1 (by decide) rfl (fun ls hl => ?_)
    refine lv_goto (tgt := 4) S.1 S.2.1 dX12_threes_16 (by decide) ?_
    exact hI3 _ (Option.some.inj hf).symm _ (lv_sub hl [2, 1, 0] rfl)
def f_X12_chosenBy_L5 (fu : Nat) (o_people : Int32) (p1 : Int32) (p2 : Int32) (s2 : Int32 × Int32) : Option ((Int32 × Int32) ⊕ (Int32)) := if o_people ≤ s2.2 then some (.inr s2.1) else bnd (α := Int32) (f_X12_threes fu s2.2) (fun x5 => bnd (α := Int32) (dvi p1 x5) (fun x6 => if (jrm x6 (3 : Int32)) = p2 then ltn (s2.1 ||| (jshl (1 : Int32) s2.2)) (fun x7 => some (.inl (x7, (s2.2 + 1)))) else ltn (s2.1 ||| (0 : Int32)) (fun x8 => some (.inl (x8, (s2.2 + 1))))))
def f_X12_chosenBy (fu : Nat) (o_people : Int32) (p1 : Int32) (p2 : Int32) : Option (Int32) := bnd (α := Int32) (lp (f_X12_chosenBy_L5 fu o_people p1 p2) fu ((0 : Int32), (0 : Int32))) (fun v9 => some v9)
set_option maxHeartbeats 4000000 in
set_option maxRecDepth 100000 in
theorem c_X12_chosenBy {l : Launch} {D : va_G} {g : Nat → ClassId} {fu : Nat} {o_q0 o_q1 o_q2 o_q3 o_q4 o_q5 o_q6 o_q7 o_q8 o_q9 o_q10 o_q11 o_q12 o_q13 o_q14 o_q15 o_q16 o_q17 o_q18 o_q19 o_q20 o_q21 o_q22 : Nat} {o_code : Int32} {o_tape : (Nat → Int32)} {o_size : (Nat → Int32)} {o_fault : (Nat → Int32)} {o_faultPlace : (Nat → Int32)} {o_many : (Nat → Int32)} {o_towns : (Nat → Int32)} {o_weeks : (Nat → Int32)} {o_logs : (Nat → Int32)} {o_reached : Int32} {o_length : Int32} {o_begins : Int32} {o_sort : Int32} {o_value : Int32} {o_word : Int64} {o_wrongAt : Int32} {o_laterFault : Int32} {o_laterPlace : Int32} {o_told : (Nat → Int32)} {o_read : (Nat → Int32)} {o_farOne : Int32} {o_good : Int32} {o_town : Int32} {o_people : Int32} {o_when : Int32} {o_sat : Int32} {o_quiet : Int32} {o_vain : Int32} {o_lent : Int32} {o_forgiven : Int32} {o_sundays : Int32} {o_purse : (Nat → Int32)} {o_beside : (Nat → Int32)} {o_debts : (Nat → Int32)} {o_sitting : (Nat → Int32)} {o_visited : (Nat → Int32)} {o_week : Int32} {o_heaps : (Nat → Int32)} {o_taken : (Nat → Int32)} {o_best : (Nat → Int32)} {o_more : (Nat → Int32)} {o_firstOne : Int32} {o_log : Int32} {o_fitting : (Nat → Int32)} {o_found : Int32} {o_seed : Int32} {o_row : (Nat → Int32)} {o_saved : (Nat → Int32)} {p1 : Int32} {p2 : Int32} {r : Int32} (hf : f_X12_chosenBy fu o_people p1 p2 = some r) : Rd l D (gy g) yX12_chosenBy cX12_chosenBy 5 (some .int) 1 [.ref o_q0, .int p1, .int p2] (wMd g o_q0 o_q1 o_q2 o_q3 o_q4 o_q5 o_q6 o_q7 o_q8 o_q9 o_q10 o_q11 o_q12 o_q13 o_q14 o_q15 o_q16 o_q17 o_q18 o_q19 o_q20 o_q21 o_q22 o_code o_tape o_size o_fault o_faultPlace o_many o_towns o_weeks o_logs o_reached o_length o_begins o_sort o_value o_word o_wrongAt o_laterFault o_laterPlace o_told o_read o_farOne o_good o_town o_people o_when o_sat o_quiet o_vain o_lent o_forgiven o_sundays o_purse o_beside o_debts o_sitting o_visited o_week o_heaps o_taken o_best o_more o_firstOne o_log o_fitting o_found o_seed o_row o_saved) (some (.int r)) := by
  refine Rd.ofI (by decide) (Nat.le_of_ble_eq_true rfl) ?_
  intro p e s m args below meth c Q S hK hP hret ls hl
  have hl : lv_has ls 5 [(0, .ref o_q0), (1, .int p1), (2, .int p2)] := hl
  refine lv_iconst (v := 0) S.1 S.2.1 dX12_chosenBy_0 ic_0 ?_
  refine lv_istore_n (lv' := [(3, .int (0 : Int32)), (0, .ref o_q0), (1, .int p1), (2, .int p2)]) S.1 S.2.1 dX12_chosenBy_1 rfl hl (by decide) rfl (fun ls hl => ?_)
  refine lv_iconst (v := 0) S.1 S.2.1 dX12_chosenBy_2 ic_0 ?_
  refine lv_istore (lv' := [(4, .int (0 : Int32)), (3, .int (0 : Int32)), (0, .ref o_q0), (1, .int p1), (2, .int p2)]) S.1 S.2.1 dX12_chosenBy_3 hl (by decide) rfl (fun ls hl => ?_)
  obtain ⟨x3, hf_, hk3⟩ := bnd_e hf
  have hE3 : ∀ (v9 : Int32), v9 = x3 → ∀ (ls : Array Slot), lv_has ls 5 [(3, .int v9)] → W p l e (rmD 1) s m args below meth c s.heap [] 0 0 Q (F0 m 44 ls []) := by
    intro v9 e_ ls hl
    subst e_
    have hf := hk3
    refine lv_iload_n S.1 S.2.1 dX12_chosenBy_44 rfl (lv_at hl 0 rfl) ?_
    have e_ := Option.some.inj hf
    subst e_
    exact hret _ _ dX12_chosenBy_45
  refine lp_ind (P := fun (s2 : Int32 × Int32) => ∀ (ls : Array Slot), lv_has ls 5 [(0, .ref o_q0), (1, .int p1), (2, .int p2), (3, .int s2.1), (4, .int s2.2)] → W p l e (rmD 1) s m args below meth c s.heap [] 0 0 Q (F0 m 5 ls [])) ?_ _ _ hf_ _ (lv_sub hl [2, 3, 4, 1, 0] rfl)
  intro s2 x4 hf hI3 hR3 ls hl
  refine lv_iload S.1 S.2.1 dX12_chosenBy_5 (lv_at hl 4 rfl) ?_
  refine lv_aload_n S.1 S.2.1 dX12_chosenBy_7 rfl (lv_at hl 0 rfl) ?_
  refine gfX12_230 S hK hP 0 rfl rfl dX12_chosenBy_8 ?_
  refine lv_icmp_ge (tgt := 44) S.1 S.2.1 dX12_chosenBy_11 (by decide) (fun c_ => ?_) (fun c_ => ?_)
  · have hf := it_p c_ hf
    have e_ := hR3 _ (Option.some.inj hf).symm
    exact hE3 _ e_ _ (lv_sub hl [3] rfl)
  · have hf := it_n c_ hf
    refine lv_iload_n S.1 S.2.1 dX12_chosenBy_14 rfl (lv_at hl 3 rfl) ?_
    refine lv_iload_n S.1 S.2.1 dX12_chosenBy_15 rfl (lv_at hl 1 rfl) ?_
    refine lv_iload S.1 S.2.1 dX12_chosenBy_16 (lv_at hl 4 rfl) ?_
    obtain ⟨x5, hx5, hf⟩ := bnd_e hf
    refine Rd.cS (c_X12_threes hx5) S hK va_P.nil kSX12_352 rfl hl.1 [.int p1, .int s2.1] rfl (Nat.le_of_ble_eq_true rfl) ⟨(Nat.le_of_ble_eq_true rfl), (Nat.le_of_ble_eq_true rfl)⟩ ⟨(Nat.zero_le _), (Nat.zero_le _)⟩ dX12_chosenBy_18 ?_
    obtain ⟨x6, hx6, hf⟩ := bnd_e hf
    refine q_idiv S hx6 dX12_chosenBy_21 ?_
    refine lv_iconst (v := 3) S.1 S.2.1 dX12_chosenBy_22 ic_3 ?_
    refine lv_irem S.1 S.2.1 dX12_chosenBy_23 (by decide) ?_
    refine lv_iload_n S.1 S.2.1 dX12_chosenBy_24 rfl (lv_at hl 2 rfl) ?_
    refine lv_icmp_ne (tgt := 35) S.1 S.2.1 dX12_chosenBy_25 (by decide) (fun c_ => ?_) (fun c_ => ?_)
    · have hf := it_n c_ hf
      refine lv_iconst (v := 0) S.1 S.2.1 dX12_chosenBy_35 ic_0 ?_
      refine lv_ior S.1 S.2.1 dX12_chosenBy_36 ?_
      refine lv_topi (fun x8 ex8 => ?_)
      have hf := ltn_e hf ex8
      refine lv_istore_n (lv' := [(3, .int x8), (0, .ref o_q0), (1, .int p1), (2, .int p2), (4, .int s2.2)]) S.1 S.2.1 dX12_chosenBy_37 rfl hl (by decide) rfl (fun ls hl => ?_)
      refine q_iinc (w := 1) (lv' := [(4, .int (s2.2 + 1)), (3, .int x8), (0, .ref o_q0), (1, .int p1), (2, .int p2)]) S dX12_chosenBy_38 hl (k := 4) rfl ic_1 (by decide) rfl (fun ls hl => ?_)
      refine lv_goto (tgt := 5) S.1 S.2.1 dX12_chosenBy_41 (by decide) ?_
      exact hI3 _ (Option.some.inj hf).symm _ (lv_sub hl [2, 3, 4, 1, 0] rfl)
    · have hf := it_p c_ hf
      refine lv_iconst (v := 1) S.1 S.2.1 dX12_chosenBy_28 ic_1 ?_
      refine lv_iload S.1 S.2.1 dX12_chosenBy_29 (lv_at hl 4 rfl) ?_
      refine lv_ishl S.1 S.2.1 dX12_chosenBy_31 ?_
      refine lv_goto (tgt := 36) S.1 S.2.1 dX12_chosenBy_32 (by decide) ?_
      refine lv_ior S.1 S.2.1 dX12_chosenBy_36 ?_
      refine lv_topi (fun x7 ex7 => ?_)
      have hf := ltn_e hf ex7
      refine lv_istore_n (lv' := [(3, .int x7), (0, .ref o_q0), (1, .int p1), (2, .int p2), (4, .int s2.2)]) S.1 S.2.1 dX12_chosenBy_37 rfl hl (by decide) rfl (fun ls hl => ?_)
      refine q_iinc (w := 1) (lv' := [(4, .int (s2.2 + 1)), (3, .int x7), (0, .ref o_q0), (1, .int p1), (2, .int p2)]) S dX12_chosenBy_38 hl (k := 4) rfl ic_1 (by decide) rfl (fun ls hl => ?_)
      refine lv_goto (tgt := 5) S.1 S.2.1 dX12_chosenBy_41 (by decide) ?_
      exact hI3 _ (Option.some.inj hf).symm _ (lv_sub hl [2, 3, 4, 1, 0] rfl)
def f_X12_findChoice_L46 (fu : Nat) (o_towns : (Nat → Int32)) (o_town : Int32) (o_people : Int32) (p1 : Int32) (p2 : Int32) (x3 : Int32) (x4 : Int32) (x5 : Int32) (s8 : Int32 × (Nat → Int32) × Int32) : Option ((Int32 × (Nat → Int32) × Int32) ⊕ ((Nat → Int32) × Int32)) := if o_people ≤ s8.1 then some (.inr (s8.2.1, s8.2.2)) else if p2 ≤ x3 then some (.inr (s8.2.1, s8.2.2)) else bnd (α := Int32) (f_X12_threes fu s8.1) (fun x11 => bnd (α := Int32) (dvi p1 x11) (fun x12 => if (jrm x12 (3 : Int32)) = 0 then bnd (α := Int32) (f_X12_of fu o_towns o_town ((13 : Int32) + s8.1)) (fun x13 => bnd (α := Int32) (if (x13 &&& x5) = 0 then bnd (α := Int32) (f_X12_of fu o_towns o_town ((1 : Int32) + s8.1)) (fun x26 => some x26) else bnd (α := Int32) (f_X12_of fu o_towns o_town ((1 : Int32) + s8.1)) (fun x27 => some (-x27))) (fun v15 => bnd (α := Int32) (if x4 = (1 : Int32) then some v15 else some (-v15)) (fun v17 => bnd (α := Int32) (f_X12_threes fu s8.1) (fun x18 => bnd (α := Int32) (rdi 729 s8.2.1 (p1 + (x4 * x18))) (fun x19 => ltn (v17 + x19) (fun x20 => if s8.2.2 = (-1 : Int32) then bnd (α := (Nat → Int32)) (wri 729 s8.2.1 p1 x20) (fun x21 => some (.inl ((s8.1 + 1), x21, s8.1))) else if x4 = (1 : Int32) then bnd (α := Int32) (rdi 729 s8.2.1 p1) (fun x22 => if x20 ≤ x22 then some (.inl ((s8.1 + 1), s8.2.1, s8.2.2)) else bnd (α := (Nat → Int32)) (wri 729 s8.2.1 p1 x20) (fun x23 => some (.inl ((s8.1 + 1), x23, s8.1)))) else bnd (α := Int32) (rdi 729 s8.2.1 p1) (fun x24 => if x24 ≤ x20 then some (.inl ((s8.1 + 1), s8.2.1, s8.2.2)) else bnd (α := (Nat → Int32)) (wri 729 s8.2.1 p1 x20) (fun x25 => some (.inl ((s8.1 + 1), x25, s8.1)))))))))) else some (.inl ((s8.1 + 1), s8.2.1, s8.2.2))))
def f_X12_findChoice (fu : Nat) (o_towns : (Nat → Int32)) (o_town : Int32) (o_people : Int32) (o_more : (Nat → Int32)) (o_firstOne : Int32) (p1 : Int32) (p2 : Int32) : Option ((Nat → Int32) × Int32) := bnd (α := Int32) (f_X12_chosenBy fu o_people p1 (0 : Int32)) (fun x1 => bnd (α := Int32) (f_X12_ones fu x1) (fun x2 => ltn (o_people - x2) (fun x3 => ltn ((1 : Int32) + (jrm x3 (2 : Int32))) (fun x4 => bnd (α := Int32) (f_X12_chosenBy fu o_people p1 x4) (fun x5 => bnd (α := (Nat → Int32)) (wri 729 o_more p1 (0 : Int32)) (fun x6 => bnd (α := (Nat → Int32) × Int32) (lp (f_X12_findChoice_L46 fu o_towns o_town o_people p1 p2 x3 x4 x5) fu ((0 : Int32), x6, (-1 : Int32))) (fun v28 => some (v28.1, v28.2))))))))
set_option maxHeartbeats 4000000 in
set_option maxRecDepth 100000 in
theorem c_X12_findChoice {l : Launch} {D : va_G} {g : Nat → ClassId} {fu : Nat} {o_q0 o_q1 o_q2 o_q3 o_q4 o_q5 o_q6 o_q7 o_q8 o_q9 o_q10 o_q11 o_q12 o_q13 o_q14 o_q15 o_q16 o_q17 o_q18 o_q19 o_q20 o_q21 o_q22 : Nat} {o_code : Int32} {o_tape : (Nat → Int32)} {o_size : (Nat → Int32)} {o_fault : (Nat → Int32)} {o_faultPlace : (Nat → Int32)} {o_many : (Nat → Int32)} {o_towns : (Nat → Int32)} {o_weeks : (Nat → Int32)} {o_logs : (Nat → Int32)} {o_reached : Int32} {o_length : Int32} {o_begins : Int32} {o_sort : Int32} {o_value : Int32} {o_word : Int64} {o_wrongAt : Int32} {o_laterFault : Int32} {o_laterPlace : Int32} {o_told : (Nat → Int32)} {o_read : (Nat → Int32)} {o_farOne : Int32} {o_good : Int32} {o_town : Int32} {o_people : Int32} {o_when : Int32} {o_sat : Int32} {o_quiet : Int32} {o_vain : Int32} {o_lent : Int32} {o_forgiven : Int32} {o_sundays : Int32} {o_purse : (Nat → Int32)} {o_beside : (Nat → Int32)} {o_debts : (Nat → Int32)} {o_sitting : (Nat → Int32)} {o_visited : (Nat → Int32)} {o_week : Int32} {o_heaps : (Nat → Int32)} {o_taken : (Nat → Int32)} {o_best : (Nat → Int32)} {o_more : (Nat → Int32)} {o_firstOne : Int32} {o_log : Int32} {o_fitting : (Nat → Int32)} {o_found : Int32} {o_seed : Int32} {o_row : (Nat → Int32)} {o_saved : (Nat → Int32)} {p1 : Int32} {p2 : Int32} {r : (Nat → Int32) × Int32} (hf : f_X12_findChoice fu o_towns o_town o_people o_more o_firstOne p1 p2 = some r) : Wr l D (gy g) yX12_findChoice cX12_findChoice 9 none 2 [.ref o_q0, .int p1, .int p2] (wMd g o_q0 o_q1 o_q2 o_q3 o_q4 o_q5 o_q6 o_q7 o_q8 o_q9 o_q10 o_q11 o_q12 o_q13 o_q14 o_q15 o_q16 o_q17 o_q18 o_q19 o_q20 o_q21 o_q22 o_code o_tape o_size o_fault o_faultPlace o_many o_towns o_weeks o_logs o_reached o_length o_begins o_sort o_value o_word o_wrongAt o_laterFault o_laterPlace o_told o_read o_farOne o_good o_town o_people o_when o_sat o_quiet o_vain o_lent o_forgiven o_sundays o_purse o_beside o_debts o_sitting o_visited o_week o_heaps o_taken o_best o_more o_firstOne o_log o_fitting o_found o_seed o_row o_saved) (wMd g o_q0 o_q1 o_q2 o_q3 o_q4 o_q5 o_q6 o_q7 o_q8 o_q9 o_q10 o_q11 o_q12 o_q13 o_q14 o_q15 o_q16 o_q17 o_q18 o_q19 o_q20 o_q21 o_q22 o_code o_tape o_size o_fault o_faultPlace o_many o_towns o_weeks o_logs o_reached o_length o_begins o_sort o_value o_word o_wrongAt o_laterFault o_laterPlace o_told o_read o_farOne o_good o_town o_people o_when o_sat o_quiet o_vain o_lent o_forgiven o_sundays o_purse o_beside o_debts o_sitting o_visited o_week o_heaps o_taken o_best r.1 r.2 o_log o_fitting o_found o_seed o_row o_saved) none := by
  refine Wr.ofV (by decide) (Nat.le_of_ble_eq_true rfl) ?_
  intro p e s m args below meth c Q A S hK hA hret ls hl hW
  have hl : lv_has ls 9 [(0, .ref o_q0), (1, .int p1), (2, .int p2)] := hl
  refine lv_aload_n S.1 S.2.1 dX12_findChoice_0 rfl (lv_at hl 0 rfl) ?_
  refine gfX12_230 S hK hW.1 0 rfl rfl dX12_findChoice_1 ?_
  refine lv_aload_n S.1 S.2.1 dX12_findChoice_4 rfl (lv_at hl 0 rfl) ?_
  refine lv_iload_n S.1 S.2.1 dX12_findChoice_5 rfl (lv_at hl 1 rfl) ?_
  refine lv_iconst (v := 0) S.1 S.2.1 dX12_findChoice_6 ic_0 ?_
  obtain ⟨x1, hx1, hf⟩ := bnd_e hf
  refine Rd.cV (c_X12_chosenBy hx1) S hK hW.1 0 10 rfl rfl kVX12_355 rfl hl.1 [.int o_people] rfl (Nat.le_of_ble_eq_true rfl) ⟨(Nat.le_of_ble_eq_true rfl), (Nat.le_of_ble_eq_true rfl)⟩ ⟨(Nat.zero_le _), (Nat.zero_le _)⟩ dX12_findChoice_7 ?_
  obtain ⟨x2, hx2, hf⟩ := bnd_e hf
  refine Rd.cS (c_X12_ones hx2) S hK va_P.nil kSX12_358 rfl hl.1 [.int o_people] rfl (Nat.le_of_ble_eq_true rfl) ⟨(Nat.le_of_ble_eq_true rfl), (Nat.le_of_ble_eq_true rfl)⟩ ⟨(Nat.zero_le _), (Nat.zero_le _)⟩ dX12_findChoice_10 ?_
  refine lv_isub S.1 S.2.1 dX12_findChoice_13 ?_
  refine lv_topi (fun x3 ex3 => ?_)
  have hf := ltn_e hf ex3
  refine lv_istore_n (lv' := [(3, .int x3), (0, .ref o_q0), (1, .int p1), (2, .int p2)]) S.1 S.2.1 dX12_findChoice_14 rfl hl (by decide) rfl (fun ls hl => ?_)
  refine lv_iconst (v := 1) S.1 S.2.1 dX12_findChoice_15 ic_1 ?_
  refine lv_iload_n S.1 S.2.1 dX12_findChoice_16 rfl (lv_at hl 0 rfl) ?_
  refine lv_iconst (v := 2) S.1 S.2.1 dX12_findChoice_17 ic_2 ?_
  refine lv_irem S.1 S.2.1 dX12_findChoice_18 (by decide) ?_
  refine lv_iadd S.1 S.2.1 dX12_findChoice_19 ?_
  refine lv_topi (fun x4 ex4 => ?_)
  have hf := ltn_e hf ex4
  refine lv_istore (lv' := [(4, .int x4), (3, .int x3), (0, .ref o_q0), (1, .int p1), (2, .int p2)]) S.1 S.2.1 dX12_findChoice_20 hl (by decide) rfl (fun ls hl => ?_)
  refine lv_aload_n S.1 S.2.1 dX12_findChoice_22 rfl (lv_at hl 2 rfl) ?_
  refine lv_iload_n S.1 S.2.1 dX12_findChoice_23 rfl (lv_at hl 3 rfl) ?_
  refine lv_iload S.1 S.2.1 dX12_findChoice_24 (lv_at hl 0 rfl) ?_
  obtain ⟨x5, hx5, hf⟩ := bnd_e hf
  refine Rd.cV (c_X12_chosenBy hx5) S hK hW.1 0 10 rfl rfl kVX12_355 rfl hl.1 [] rfl (Nat.le_of_ble_eq_true rfl) ⟨(Nat.le_of_ble_eq_true rfl), (Nat.le_of_ble_eq_true rfl)⟩ ⟨(Nat.zero_le _), (Nat.zero_le _)⟩ dX12_findChoice_26 ?_
  refine lv_istore (lv' := [(5, .int x5), (4, .int x4), (3, .int x3), (0, .ref o_q0), (1, .int p1), (2, .int p2)]) S.1 S.2.1 dX12_findChoice_29 hl (by decide) rfl (fun ls hl => ?_)
  refine lv_aload_n S.1 S.2.1 dX12_findChoice_31 rfl (lv_at hl 3 rfl) ?_
  refine gfX12_65 S hK hW.1 0 rfl rfl dX12_findChoice_32 ?_
  refine lv_iload_n S.1 S.2.1 dX12_findChoice_35 rfl (lv_at hl 4 rfl) ?_
  refine lv_iconst (v := 0) S.1 S.2.1 dX12_findChoice_36 ic_0 ?_
  obtain ⟨x6, hx6, hf⟩ := bnd_e hf
  refine q_iast (ws2 := (wMd g o_q0 o_q1 o_q2 o_q3 o_q4 o_q5 o_q6 o_q7 o_q8 o_q9 o_q10 o_q11 o_q12 o_q13 o_q14 o_q15 o_q16 o_q17 o_q18 o_q19 o_q20 o_q21 o_q22 o_code o_tape o_size o_fault o_faultPlace o_many o_towns o_weeks o_logs o_reached o_length o_begins o_sort o_value o_word o_wrongAt o_laterFault o_laterPlace o_told o_read o_farOne o_good o_town o_people o_when o_sat o_quiet o_vain o_lent o_forgiven o_sundays o_purse o_beside o_debts o_sitting o_visited o_week o_heaps o_taken o_best x6 o_firstOne o_log o_fitting o_found o_seed o_row o_saved)) S hK hW 19 0 rfl rfl hx6 rfl dX12_findChoice_37 (fun H locs hW => ?_)
  refine lv_aload_n S.1 S.2.1 dX12_findChoice_38 rfl (lv_at hl 3 rfl) ?_
  refine lv_iconst (v := (-1)) S.1 S.2.1 dX12_findChoice_39 ic_m1 ?_
  refine pfX12_361 (ws2 := (wMd g o_q0 o_q1 o_q2 o_q3 o_q4 o_q5 o_q6 o_q7 o_q8 o_q9 o_q10 o_q11 o_q12 o_q13 o_q14 o_q15 o_q16 o_q17 o_q18 o_q19 o_q20 o_q21 o_q22 o_code o_tape o_size o_fault o_faultPlace o_many o_towns o_weeks o_logs o_reached o_length o_begins o_sort o_value o_word o_wrongAt o_laterFault o_laterPlace o_told o_read o_farOne o_good o_town o_people o_when o_sat o_quiet o_vain o_lent o_forgiven o_sundays o_purse o_beside o_debts o_sitting o_visited o_week o_heaps o_taken o_best x6 (-1 : Int32) o_log o_fitting o_found o_seed o_row o_saved)) S hK hW 0 rfl rfl rfl (Nat.le_of_ble_eq_true rfl) rfl dX12_findChoice_40 (fun H locs hW => ?_)
  refine lv_iconst (v := 0) S.1 S.2.1 dX12_findChoice_43 ic_0 ?_
  refine lv_istore (lv' := [(6, .int (0 : Int32)), (5, .int x5), (4, .int x4), (3, .int x3), (0, .ref o_q0), (1, .int p1), (2, .int p2)]) S.1 S.2.1 dX12_findChoice_44 hl (by decide) rfl (fun ls hl => ?_)
  obtain ⟨x9, hf_, hk9⟩ := bnd_e hf
  have hE9 : ∀ (v28 : (Nat → Int32) × Int32), v28 = x9 → ∀ (ls : Array Slot) (H : Heap) (locs : List Loc), lv_has ls 9 [] → St A s.heap D (wMd g o_q0 o_q1 o_q2 o_q3 o_q4 o_q5 o_q6 o_q7 o_q8 o_q9 o_q10 o_q11 o_q12 o_q13 o_q14 o_q15 o_q16 o_q17 o_q18 o_q19 o_q20 o_q21 o_q22 o_code o_tape o_size o_fault o_faultPlace o_many o_towns o_weeks o_logs o_reached o_length o_begins o_sort o_value o_word o_wrongAt o_laterFault o_laterPlace o_told o_read o_farOne o_good o_town o_people o_when o_sat o_quiet o_vain o_lent o_forgiven o_sundays o_purse o_beside o_debts o_sitting o_visited o_week o_heaps o_taken o_best v28.1 v28.2 o_log o_fitting o_found o_seed o_row o_saved) H locs → W p l e (rmD 2) s m args below meth c H locs 0 0 Q (F0 m 200 ls []) := by
    intro v28 e_ ls H locs hl hW
    subst e_
    have hf := hk9
    have e_ := Option.some.inj hf
    subst e_
    exact hret _ _ _ _ dX12_findChoice_200 hW
  refine lp_ind (P := fun (s8 : Int32 × (Nat → Int32) × Int32) => ∀ (ls : Array Slot) (H : Heap) (locs : List Loc), lv_has ls 9 [(0, .ref o_q0), (1, .int p1), (2, .int p2), (3, .int x3), (4, .int x4), (5, .int x5), (6, .int s8.1)] → St A s.heap D (wMd g o_q0 o_q1 o_q2 o_q3 o_q4 o_q5 o_q6 o_q7 o_q8 o_q9 o_q10 o_q11 o_q12 o_q13 o_q14 o_q15 o_q16 o_q17 o_q18 o_q19 o_q20 o_q21 o_q22 o_code o_tape o_size o_fault o_faultPlace o_many o_towns o_weeks o_logs o_reached o_length o_begins o_sort o_value o_word o_wrongAt o_laterFault o_laterPlace o_told o_read o_farOne o_good o_town o_people o_when o_sat o_quiet o_vain o_lent o_forgiven o_sundays o_purse o_beside o_debts o_sitting o_visited o_week o_heaps o_taken o_best s8.2.1 s8.2.2 o_log o_fitting o_found o_seed o_row o_saved) H locs → W p l e (rmD 2) s m args below meth c H locs 0 0 Q (F0 m 46 ls [])) ?_ _ _ hf_ _ _ _ (lv_sub hl [4, 5, 6, 3, 2, 1, 0] rfl) hW
  intro s8 x10 hf hI9 hR9 ls H locs hl hW
  refine lv_iload S.1 S.2.1 dX12_findChoice_46 (lv_at hl 6 rfl) ?_
  refine lv_aload_n S.1 S.2.1 dX12_findChoice_48 rfl (lv_at hl 0 rfl) ?_
  refine gfX12_230 S hK hW.1 0 rfl rfl dX12_findChoice_49 ?_
  refine lv_icmp_ge (tgt := 200) S.1 S.2.1 dX12_findChoice_52 (by decide) (fun c_ => ?_) (fun c_ => ?_)
  · have hf := it_p c_ hf
    have e_ := hR9 _ (Option.some.inj hf).symm
    exact hE9 _ e_ _ _ _ (lv_sub hl [] rfl) hW
  · have hf := it_n c_ hf
    refine lv_iload_n S.1 S.2.1 dX12_findChoice_55 rfl (lv_at hl 3 rfl) ?_
    refine lv_iload_n S.1 S.2.1 dX12_findChoice_56 rfl (lv_at hl 2 rfl) ?_
    refine lv_icmp_ge (tgt := 200) S.1 S.2.1 dX12_findChoice_57 (by decide) (fun c_ => ?_) (fun c_ => ?_)
    · have hf := it_p c_ hf
      have e_ := hR9 _ (Option.some.inj hf).symm
      exact hE9 _ e_ _ _ _ (lv_sub hl [] rfl) hW
    · have hf := it_n c_ hf
      refine lv_iload_n S.1 S.2.1 dX12_findChoice_60 rfl (lv_at hl 1 rfl) ?_
      refine lv_iload S.1 S.2.1 dX12_findChoice_61 (lv_at hl 6 rfl) ?_
      obtain ⟨x11, hx11, hf⟩ := bnd_e hf
      refine Rd.cS (c_X12_threes hx11) S hK va_P.nil kSX12_352 rfl hl.1 [.int p1] rfl (Nat.le_of_ble_eq_true rfl) ⟨(Nat.le_of_ble_eq_true rfl), (Nat.le_of_ble_eq_true rfl)⟩ ⟨(Nat.zero_le _), (Nat.zero_le _)⟩ dX12_findChoice_63 ?_
      obtain ⟨x12, hx12, hf⟩ := bnd_e hf
      refine q_idiv S hx12 dX12_findChoice_66 ?_
      refine lv_iconst (v := 3) S.1 S.2.1 dX12_findChoice_67 ic_3 ?_
      refine lv_irem S.1 S.2.1 dX12_findChoice_68 (by decide) ?_
      refine lv_if_ne (tgt := 194) S.1 S.2.1 dX12_findChoice_69 (by decide) (fun c_ => ?_) (fun c_ => ?_)
      · have hf := it_n c_ hf
        refine q_iinc (w := 1) (lv' := [(6, .int (s8.1 + 1)), (0, .ref o_q0), (1, .int p1), (2, .int p2), (3, .int x3), (4, .int x4), (5, .int x5)]) S dX12_findChoice_194 hl (k := 6) rfl ic_1 (by decide) rfl (fun ls hl => ?_)
        refine lv_goto (tgt := 46) S.1 S.2.1 dX12_findChoice_197 (by decide) ?_
        exact hI9 _ (Option.some.inj hf).symm _ _ _ (lv_sub hl [1, 2, 3, 4, 5, 6, 0] rfl) hW
      · have hf := it_p c_ hf
        refine lv_aload_n S.1 S.2.1 dX12_findChoice_72 rfl (lv_at hl 0 rfl) ?_
        refine lv_bipush (v := 13) S.1 S.2.1 dX12_findChoice_73 bp_13 ?_
        refine lv_iload S.1 S.2.1 dX12_findChoice_75 (lv_at hl 6 rfl) ?_
        refine lv_iadd S.1 S.2.1 dX12_findChoice_77 ?_
        obtain ⟨x13, hx13, hf⟩ := bnd_e hf
        refine Rd.cV (c_X12_of hx13) S hK hW.1 0 10 rfl rfl kVX12_226 rfl hl.1 [] rfl (Nat.le_of_ble_eq_true rfl) ⟨(Nat.le_of_ble_eq_true rfl), (Nat.le_of_ble_eq_true rfl)⟩ ⟨(Nat.zero_le _), (Nat.zero_le _)⟩ dX12_findChoice_78 ?_
        refine lv_iload S.1 S.2.1 dX12_findChoice_81 (lv_at hl 5 rfl) ?_
        refine lv_iand S.1 S.2.1 dX12_findChoice_83 ?_
        obtain ⟨x14, hf_, hk14⟩ := bnd_e hf
        have hJ14 : ∀ (v15 : Int32), v15 = x14 → ∀ (ls : Array Slot) (H : Heap) (locs : List Loc), lv_has ls 9 [(0, .ref o_q0), (1, .int p1), (2, .int p2), (3, .int x3), (4, .int x4), (5, .int x5), (6, .int s8.1)] → St A s.heap D (wMd g o_q0 o_q1 o_q2 o_q3 o_q4 o_q5 o_q6 o_q7 o_q8 o_q9 o_q10 o_q11 o_q12 o_q13 o_q14 o_q15 o_q16 o_q17 o_q18 o_q19 o_q20 o_q21 o_q22 o_code o_tape o_size o_fault o_faultPlace o_many o_towns o_weeks o_logs o_reached o_length o_begins o_sort o_value o_word o_wrongAt o_laterFault o_laterPlace o_told o_read o_farOne o_good o_town o_people o_when o_sat o_quiet o_vain o_lent o_forgiven o_sundays o_purse o_beside o_debts o_sitting o_visited o_week o_heaps o_taken o_best s8.2.1 s8.2.2 o_log o_fitting o_found o_seed o_row o_saved) H locs → W p l e (rmD 2) s m args below meth c H locs 0 0 Q (F0 m 107 ls [.int v15]) := by
          intro v15 e_ ls H locs hl hW
          subst e_
          have hf := hk14
          refine lv_istore (lv' := [(7, .int v15), (0, .ref o_q0), (1, .int p1), (2, .int p2), (3, .int x3), (4, .int x4), (5, .int x5), (6, .int s8.1)]) S.1 S.2.1 dX12_findChoice_107 hl (by decide) rfl (fun ls hl => ?_)
          refine lv_iload S.1 S.2.1 dX12_findChoice_109 (lv_at hl 5 rfl) ?_
          refine lv_iconst (v := 1) S.1 S.2.1 dX12_findChoice_111 ic_1 ?_
          obtain ⟨x16, hf_, hk16⟩ := bnd_e hf
          have hJ16 : ∀ (v17 : Int32), v17 = x16 → ∀ (ls : Array Slot) (H : Heap) (locs : List Loc), lv_has ls 9 [(0, .ref o_q0), (1, .int p1), (2, .int p2), (3, .int x3), (4, .int x4), (5, .int x5), (6, .int s8.1)] → St A s.heap D (wMd g o_q0 o_q1 o_q2 o_q3 o_q4 o_q5 o_q6 o_q7 o_q8 o_q9 o_q10 o_q11 o_q12 o_q13 o_q14 o_q15 o_q16 o_q17 o_q18 o_q19 o_q20 o_q21 o_q22 o_code o_tape o_size o_fault o_faultPlace o_many o_towns o_weeks o_logs o_reached o_length o_begins o_sort o_value o_word o_wrongAt o_laterFault o_laterPlace o_told o_read o_farOne o_good o_town o_people o_when o_sat o_quiet o_vain o_lent o_forgiven o_sundays o_purse o_beside o_debts o_sitting o_visited o_week o_heaps o_taken o_best s8.2.1 s8.2.2 o_log o_fitting o_found o_seed o_row o_saved) H locs → W p l e (rmD 2) s m args below meth c H locs 0 0 Q (F0 m 123 ls [.int v17]) := by
            intro v17 e_ ls H locs hl hW
            subst e_
            have hf := hk16
            refine lv_aload_n S.1 S.2.1 dX12_findChoice_123 rfl (lv_at hl 0 rfl) ?_
            refine gfX12_65 S hK hW.1 0 rfl rfl dX12_findChoice_124 ?_
            refine lv_iload_n S.1 S.2.1 dX12_findChoice_127 rfl (lv_at hl 1 rfl) ?_
            refine lv_iload S.1 S.2.1 dX12_findChoice_128 (lv_at hl 4 rfl) ?_
            refine lv_iload S.1 S.2.1 dX12_findChoice_130 (lv_at hl 6 rfl) ?_
            obtain ⟨x18, hx18, hf⟩ := bnd_e hf
            refine Rd.cS (c_X12_threes hx18) S hK va_P.nil kSX12_352 rfl hl.1 [.int x4, .int p1, .ref o_q19, .int v17] rfl (Nat.le_of_ble_eq_true rfl) ⟨(Nat.le_of_ble_eq_true rfl), (Nat.le_of_ble_eq_true rfl)⟩ ⟨(Nat.zero_le _), (Nat.zero_le _)⟩ dX12_findChoice_132 ?_
            refine lv_imul S.1 S.2.1 dX12_findChoice_135 ?_
            refine lv_iadd S.1 S.2.1 dX12_findChoice_136 ?_
            obtain ⟨x19, hx19, hf⟩ := bnd_e hf
            refine q_iald S hK hW.1 19 0 rfl rfl hx19 dX12_findChoice_137 ?_
            refine lv_iadd S.1 S.2.1 dX12_findChoice_138 ?_
            refine lv_topi (fun x20 ex20 => ?_)
            have hf := ltn_e hf ex20
            refine lv_istore (lv' := [(8, .int x20), (0, .ref o_q0), (1, .int p1), (2, .int p2), (3, .int x3), (4, .int x4), (5, .int x5), (6, .int s8.1)]) S.1 S.2.1 dX12_findChoice_139 hl (by decide) rfl (fun ls hl => ?_)
            refine lv_aload_n S.1 S.2.1 dX12_findChoice_141 rfl (lv_at hl 1 rfl) ?_
            refine gfX12_361 S hK hW.1 0 rfl rfl dX12_findChoice_142 ?_
            refine lv_iconst (v := (-1)) S.1 S.2.1 dX12_findChoice_145 ic_m1 ?_
            refine lv_icmp_eq (tgt := 180) S.1 S.2.1 dX12_findChoice_146 (by decide) (fun c_ => ?_) (fun c_ => ?_)
            · have hf := it_p c_ hf
              refine lv_aload_n S.1 S.2.1 dX12_findChoice_180 rfl (lv_at hl 1 rfl) ?_
              refine gfX12_65 S hK hW.1 0 rfl rfl dX12_findChoice_181 ?_
              refine lv_iload_n S.1 S.2.1 dX12_findChoice_184 rfl (lv_at hl 2 rfl) ?_
              refine lv_iload S.1 S.2.1 dX12_findChoice_185 (lv_at hl 0 rfl) ?_
              obtain ⟨x21, hx21, hf⟩ := bnd_e hf
              refine q_iast (ws2 := (wMd g o_q0 o_q1 o_q2 o_q3 o_q4 o_q5 o_q6 o_q7 o_q8 o_q9 o_q10 o_q11 o_q12 o_q13 o_q14 o_q15 o_q16 o_q17 o_q18 o_q19 o_q20 o_q21 o_q22 o_code o_tape o_size o_fault o_faultPlace o_many o_towns o_weeks o_logs o_reached o_length o_begins o_sort o_value o_word o_wrongAt o_laterFault o_laterPlace o_told o_read o_farOne o_good o_town o_people o_when o_sat o_quiet o_vain o_lent o_forgiven o_sundays o_purse o_beside o_debts o_sitting o_visited o_week o_heaps o_taken o_best x21 s8.2.2 o_log o_fitting o_found o_seed o_row o_saved)) S hK hW 19 0 rfl rfl hx21 rfl dX12_findChoice_187 (fun H locs hW => ?_)
              refine lv_aload_n S.1 S.2.1 dX12_findChoice_188 rfl (lv_at hl 1 rfl) ?_
              refine lv_iload S.1 S.2.1 dX12_findChoice_189 (lv_at hl 7 rfl) ?_
              refine pfX12_361 (ws2 := (wMd g o_q0 o_q1 o_q2 o_q3 o_q4 o_q5 o_q6 o_q7 o_q8 o_q9 o_q10 o_q11 o_q12 o_q13 o_q14 o_q15 o_q16 o_q17 o_q18 o_q19 o_q20 o_q21 o_q22 o_code o_tape o_size o_fault o_faultPlace o_many o_towns o_weeks o_logs o_reached o_length o_begins o_sort o_value o_word o_wrongAt o_laterFault o_laterPlace o_told o_read o_farOne o_good o_town o_people o_when o_sat o_quiet o_vain o_lent o_forgiven o_sundays o_purse o_beside o_debts o_sitting o_visited o_week o_heaps o_taken o_best x21 s8.1 o_log o_fitting o_found o_seed o_row o_saved)) S hK hW 0 rfl rfl rfl (Nat.le_of_ble_eq_true rfl) rfl dX12_findChoice_191 (fun H locs hW => ?_)
              refine q_iinc (w := 1) (lv' := [(6, .int (s8.1 + 1)), (8, .int x20), (0, .ref o_q0), (1, .int p1), (2, .int p2), (3, .int x3), (4, .int x4), (5, .int x5)]) S dX12_findChoice_194 hl (k := 7) rfl ic_1 (by decide) rfl (fun ls hl => ?_)
              refine lv_goto (tgt := 46) S.1 S.2.1 dX12_findChoice_197 (by decide) ?_
              exact hI9 _ (Option.some.inj hf).symm _ _ _ (lv_sub hl [2, 3, 4, 5, 6, 7, 0] rfl) hW
            · have hf := it_n c_ hf
              refine lv_iload S.1 S.2.1 dX12_findChoice_149 (lv_at hl 5 rfl) ?_
              refine lv_iconst (v := 1) S.1 S.2.1 dX12_findChoice_151 ic_1 ?_
              refine lv_icmp_ne (tgt := 169) S.1 S.2.1 dX12_findChoice_152 (by decide) (fun c_ => ?_) (fun c_ => ?_)
              · have hf := it_n c_ hf
                refine lv_iload S.1 S.2.1 dX12_findChoice_169 (lv_at hl 0 rfl) ?_
                refine lv_aload_n S.1 S.2.1 dX12_findChoice_171 rfl (lv_at hl 1 rfl) ?_
                refine gfX12_65 S hK hW.1 0 rfl rfl dX12_findChoice_172 ?_
                refine lv_iload_n S.1 S.2.1 dX12_findChoice_175 rfl (lv_at hl 2 rfl) ?_
                obtain ⟨x24, hx24, hf⟩ := bnd_e hf
                refine q_iald S hK hW.1 19 0 rfl rfl hx24 dX12_findChoice_176 ?_
                refine lv_icmp_ge (tgt := 194) S.1 S.2.1 dX12_findChoice_177 (by decide) (fun c_ => ?_) (fun c_ => ?_)
                · have hf := it_p c_ hf
                  refine q_iinc (w := 1) (lv' := [(6, .int (s8.1 + 1)), (8, .int x20), (0, .ref o_q0), (1, .int p1), (2, .int p2), (3, .int x3), (4, .int x4), (5, .int x5)]) S dX12_findChoice_194 hl (k := 7) rfl ic_1 (by decide) rfl (fun ls hl => ?_)
                  refine lv_goto (tgt := 46) S.1 S.2.1 dX12_findChoice_197 (by decide) ?_
                  exact hI9 _ (Option.some.inj hf).symm _ _ _ (lv_sub hl [2, 3, 4, 5, 6, 7, 0] rfl) hW
                · have hf := it_n c_ hf
                  refine lv_aload_n S.1 S.2.1 dX12_findChoice_180 rfl (lv_at hl 1 rfl) ?_
                  refine gfX12_65 S hK hW.1 0 rfl rfl dX12_findChoice_181 ?_
                  refine lv_iload_n S.1 S.2.1 dX12_findChoice_184 rfl (lv_at hl 2 rfl) ?_
                  refine lv_iload S.1 S.2.1 dX12_findChoice_185 (lv_at hl 0 rfl) ?_
                  obtain ⟨x25, hx25, hf⟩ := bnd_e hf
                  refine q_iast (ws2 := (wMd g o_q0 o_q1 o_q2 o_q3 o_q4 o_q5 o_q6 o_q7 o_q8 o_q9 o_q10 o_q11 o_q12 o_q13 o_q14 o_q15 o_q16 o_q17 o_q18 o_q19 o_q20 o_q21 o_q22 o_code o_tape o_size o_fault o_faultPlace o_many o_towns o_weeks o_logs o_reached o_length o_begins o_sort o_value o_word o_wrongAt o_laterFault o_laterPlace o_told o_read o_farOne o_good o_town o_people o_when o_sat o_quiet o_vain o_lent o_forgiven o_sundays o_purse o_beside o_debts o_sitting o_visited o_week o_heaps o_taken o_best x25 s8.2.2 o_log o_fitting o_found o_seed o_row o_saved)) S hK hW 19 0 rfl rfl hx25 rfl dX12_findChoice_187 (fun H locs hW => ?_)
                  refine lv_aload_n S.1 S.2.1 dX12_findChoice_188 rfl (lv_at hl 1 rfl) ?_
                  refine lv_iload S.1 S.2.1 dX12_findChoice_189 (lv_at hl 7 rfl) ?_
                  refine pfX12_361 (ws2 := (wMd g o_q0 o_q1 o_q2 o_q3 o_q4 o_q5 o_q6 o_q7 o_q8 o_q9 o_q10 o_q11 o_q12 o_q13 o_q14 o_q15 o_q16 o_q17 o_q18 o_q19 o_q20 o_q21 o_q22 o_code o_tape o_size o_fault o_faultPlace o_many o_towns o_weeks o_logs o_reached o_length o_begins o_sort o_value o_word o_wrongAt o_laterFault o_laterPlace o_told o_read o_farOne o_good o_town o_people o_when o_sat o_quiet o_vain o_lent o_forgiven o_sundays o_purse o_beside o_debts o_sitting o_visited o_week o_heaps o_taken o_best x25 s8.1 o_log o_fitting o_found o_seed o_row o_saved)) S hK hW 0 rfl rfl rfl (Nat.le_of_ble_eq_true rfl) rfl dX12_findChoice_191 (fun H locs hW => ?_)
                  refine q_iinc (w := 1) (lv' := [(6, .int (s8.1 + 1)), (8, .int x20), (0, .ref o_q0), (1, .int p1), (2, .int p2), (3, .int x3), (4, .int x4), (5, .int x5)]) S dX12_findChoice_194 hl (k := 7) rfl ic_1 (by decide) rfl (fun ls hl => ?_)
                  refine lv_goto (tgt := 46) S.1 S.2.1 dX12_findChoice_197 (by decide) ?_
                  exact hI9 _ (Option.some.inj hf).symm _ _ _ (lv_sub hl [2, 3, 4, 5, 6, 7, 0] rfl) hW
              · have hf := it_p c_ hf
                refine lv_iload S.1 S.2.1 dX12_findChoice_155 (lv_at hl 0 rfl) ?_
                refine lv_aload_n S.1 S.2.1 dX12_findChoice_157 rfl (lv_at hl 1 rfl) ?_
                refine gfX12_65 S hK hW.1 0 rfl rfl dX12_findChoice_158 ?_
                refine lv_iload_n S.1 S.2.1 dX12_findChoice_161 rfl (lv_at hl 2 rfl) ?_
                obtain ⟨x22, hx22, hf⟩ := bnd_e hf
                refine q_iald S hK hW.1 19 0 rfl rfl hx22 dX12_findChoice_162 ?_
                refine lv_icmp_le (tgt := 194) S.1 S.2.1 dX12_findChoice_163 (by decide) (fun c_ => ?_) (fun c_ => ?_)
                · have hf := it_p c_ hf
                  refine q_iinc (w := 1) (lv' := [(6, .int (s8.1 + 1)), (8, .int x20), (0, .ref o_q0), (1, .int p1), (2, .int p2), (3, .int x3), (4, .int x4), (5, .int x5)]) S dX12_findChoice_194 hl (k := 7) rfl ic_1 (by decide) rfl (fun ls hl => ?_)
                  refine lv_goto (tgt := 46) S.1 S.2.1 dX12_findChoice_197 (by decide) ?_
                  exact hI9 _ (Option.some.inj hf).symm _ _ _ (lv_sub hl [2, 3, 4, 5, 6, 7, 0] rfl) hW
                · have hf := it_n c_ hf
                  refine lv_goto (tgt := 180) S.1 S.2.1 dX12_findChoice_166 (by decide) ?_
                  refine lv_aload_n S.1 S.2.1 dX12_findChoice_180 rfl (lv_at hl 1 rfl) ?_
                  refine gfX12_65 S hK hW.1 0 rfl rfl dX12_findChoice_181 ?_
                  refine lv_iload_n S.1 S.2.1 dX12_findChoice_184 rfl (lv_at hl 2 rfl) ?_
                  refine lv_iload S.1 S.2.1 dX12_findChoice_185 (lv_at hl 0 rfl) ?_
                  obtain ⟨x23, hx23, hf⟩ := bnd_e hf
                  refine q_iast (ws2 := (wMd g o_q0 o_q1 o_q2 o_q3 o_q4 o_q5 o_q6 o_q7 o_q8 o_q9 o_q10 o_q11 o_q12 o_q13 o_q14 o_q15 o_q16 o_q17 o_q18 o_q19 o_q20 o_q21 o_q22 o_code o_tape o_size o_fault o_faultPlace o_many o_towns o_weeks o_logs o_reached o_length o_begins o_sort o_value o_word o_wrongAt o_laterFault o_laterPlace o_told o_read o_farOne o_good o_town o_people o_when o_sat o_quiet o_vain o_lent o_forgiven o_sundays o_purse o_beside o_debts o_sitting o_visited o_week o_heaps o_taken o_best x23 s8.2.2 o_log o_fitting o_found o_seed o_row o_saved)) S hK hW 19 0 rfl rfl hx23 rfl dX12_findChoice_187 (fun H locs hW => ?_)
                  refine lv_aload_n S.1 S.2.1 dX12_findChoice_188 rfl (lv_at hl 1 rfl) ?_
                  refine lv_iload S.1 S.2.1 dX12_findChoice_189 (lv_at hl 7 rfl) ?_
                  refine pfX12_361 (ws2 := (wMd g o_q0 o_q1 o_q2 o_q3 o_q4 o_q5 o_q6 o_q7 o_q8 o_q9 o_q10 o_q11 o_q12 o_q13 o_q14 o_q15 o_q16 o_q17 o_q18 o_q19 o_q20 o_q21 o_q22 o_code o_tape o_size o_fault o_faultPlace o_many o_towns o_weeks o_logs o_reached o_length o_begins o_sort o_value o_word o_wrongAt o_laterFault o_laterPlace o_told o_read o_farOne o_good o_town o_people o_when o_sat o_quiet o_vain o_lent o_forgiven o_sundays o_purse o_beside o_debts o_sitting o_visited o_week o_heaps o_taken o_best x23 s8.1 o_log o_fitting o_found o_seed o_row o_saved)) S hK hW 0 rfl rfl rfl (Nat.le_of_ble_eq_true rfl) rfl dX12_findChoice_191 (fun H locs hW => ?_)
                  refine q_iinc (w := 1) (lv' := [(6, .int (s8.1 + 1)), (8, .int x20), (0, .ref o_q0), (1, .int p1), (2, .int p2), (3, .int x3), (4, .int x4), (5, .int x5)]) S dX12_findChoice_194 hl (k := 7) rfl ic_1 (by decide) rfl (fun ls hl => ?_)
                  refine lv_goto (tgt := 46) S.1 S.2.1 dX12_findChoice_197 (by decide) ?_
                  exact hI9 _ (Option.some.inj hf).symm _ _ _ (lv_sub hl [2, 3, 4, 5, 6, 7, 0] rfl) hW
          have hf := hf_
          refine lv_icmp_ne (tgt := 120) S.1 S.2.1 dX12_findChoice_112 (by decide) (fun c_ => ?_) (fun c_ => ?_)
          · have hf := it_n c_ hf
            refine lv_iload S.1 S.2.1 dX12_findChoice_120 (lv_at hl 0 rfl) ?_
            refine lv_ineg S.1 S.2.1 dX12_findChoice_122 ?_
            exact hJ16 _ (Option.some.inj hf) _ _ _ (lv_sub hl [1, 2, 3, 4, 5, 6, 7] rfl) hW
          · have hf := it_p c_ hf
            refine lv_iload S.1 S.2.1 dX12_findChoice_115 (lv_at hl 0 rfl) ?_
            refine lv_goto (tgt := 123) S.1 S.2.1 dX12_findChoice_117 (by decide) ?_
            exact hJ16 _ (Option.some.inj hf) _ _ _ (lv_sub hl [1, 2, 3, 4, 5, 6, 7] rfl) hW
        have hf := hf_
        refine lv_if_ne (tgt := 98) S.1 S.2.1 dX12_findChoice_84 (by decide) (fun c_ => ?_) (fun c_ => ?_)
        · have hf := it_n c_ hf
          refine lv_aload_n S.1 S.2.1 dX12_findChoice_98 rfl (lv_at hl 0 rfl) ?_
          refine lv_iconst (v := 1) S.1 S.2.1 dX12_findChoice_99 ic_1 ?_
          refine lv_iload S.1 S.2.1 dX12_findChoice_100 (lv_at hl 6 rfl) ?_
          refine lv_iadd S.1 S.2.1 dX12_findChoice_102 ?_
          obtain ⟨x27, hx27, hf⟩ := bnd_e hf
          refine Rd.cV (c_X12_of hx27) S hK hW.1 0 10 rfl rfl kVX12_226 rfl hl.1 [] rfl (Nat.le_of_ble_eq_true rfl) ⟨(Nat.le_of_ble_eq_true rfl), (Nat.le_of_ble_eq_true rfl)⟩ ⟨(Nat.zero_le _), (Nat.zero_le _)⟩ dX12_findChoice_103 ?_
          refine lv_ineg S.1 S.2.1 dX12_findChoice_106 ?_
          exact hJ14 _ (Option.some.inj hf) _ _ _ (lv_sub hl [0, 1, 2, 3, 4, 5, 6] rfl) hW
        · have hf := it_p c_ hf
          refine lv_aload_n S.1 S.2.1 dX12_findChoice_87 rfl (lv_at hl 0 rfl) ?_
          refine lv_iconst (v := 1) S.1 S.2.1 dX12_findChoice_88 ic_1 ?_
          refine lv_iload S.1 S.2.1 dX12_findChoice_89 (lv_at hl 6 rfl) ?_
          refine lv_iadd S.1 S.2.1 dX12_findChoice_91 ?_
          obtain ⟨x26, hx26, hf⟩ := bnd_e hf
          refine Rd.cV (c_X12_of hx26) S hK hW.1 0 10 rfl rfl kVX12_226 rfl hl.1 [] rfl (Nat.le_of_ble_eq_true rfl) ⟨(Nat.le_of_ble_eq_true rfl), (Nat.le_of_ble_eq_true rfl)⟩ ⟨(Nat.zero_le _), (Nat.zero_le _)⟩ dX12_findChoice_92 ?_
          refine lv_goto (tgt := 107) S.1 S.2.1 dX12_findChoice_95 (by decide) ?_
          exact hJ14 _ (Option.some.inj hf) _ _ _ (lv_sub hl [0, 1, 2, 3, 4, 5, 6] rfl) hW
def f_X12_choice_L37 (fu : Nat) (o_towns : (Nat → Int32)) (p2 : Int32) (x2 : Int32 × Int32 × Int32 × Int32 × Int32 × Int32 × Int32 × Int32 × Int32 × Int32 × (Nat → Int32) × (Nat → Int32) × (Nat → Int32) × (Nat → Int32) × (Nat → Int32)) (s6 : Int32 × (Nat → Int32) × Int32) : Option ((Int32 × (Nat → Int32) × Int32) ⊕ ((Nat → Int32) × Int32)) := if s6.1 < 0 then some (.inr (s6.2.1, s6.2.2)) else bnd (α := (Nat → Int32) × Int32) (f_X12_findChoice fu o_towns x2.2.1 x2.2.2.1 s6.2.1 s6.2.2 s6.1 p2) (fun x9 => some (.inl ((s6.1 + (-1)), x9.1, x9.2)))
def f_X12_choice (fu : Nat) (o_code : Int32) (o_many : (Nat → Int32)) (o_towns : (Nat → Int32)) (o_town : Int32) (o_people : Int32) (o_when : Int32) (o_sat : Int32) (o_quiet : Int32) (o_vain : Int32) (o_lent : Int32) (o_forgiven : Int32) (o_sundays : Int32) (o_purse : (Nat → Int32)) (o_beside : (Nat → Int32)) (o_debts : (Nat → Int32)) (o_sitting : (Nat → Int32)) (o_visited : (Nat → Int32)) (o_more : (Nat → Int32)) (o_firstOne : Int32) (p1 : Int32) (p2 : Int32) (p3 : Int32) : Option (Int32 × Int32 × Int32 × Int32 × Int32 × Int32 × Int32 × Int32 × Int32 × Int32 × Int32 × (Nat → Int32) × (Nat → Int32) × (Nat → Int32) × (Nat → Int32) × (Nat → Int32) × (Nat → Int32) × Int32) := bnd (α := Int32) (f_X12_in fu p2 (0 : Int32) (5 : Int32)) (fun x1 => if x1 = 0 then some ((-999 : Int32), (0 : Int32), o_town, o_people, o_when, o_sat, o_quiet, o_vain, o_lent, o_forgiven, o_sundays, o_purse, o_beside, o_debts, o_sitting, o_visited, o_more, o_firstOne) else bnd (α := Int32 × Int32 × Int32 × Int32 × Int32 × Int32 × Int32 × Int32 × Int32 × Int32 × (Nat → Int32) × (Nat → Int32) × (Nat → Int32) × (Nat → Int32) × (Nat → Int32)) (f_X12_hand fu o_many o_towns o_town o_people o_when o_sat o_quiet o_vain o_lent o_forgiven o_sundays o_purse o_beside o_debts o_sitting o_visited p1) (fun x2 => if x2.1 = 0 then some ((-999 : Int32), (0 : Int32), x2.2.1, x2.2.2.1, x2.2.2.2.1, x2.2.2.2.2.1, x2.2.2.2.2.2.1, x2.2.2.2.2.2.2.1, x2.2.2.2.2.2.2.2.1, x2.2.2.2.2.2.2.2.2.1, x2.2.2.2.2.2.2.2.2.2.1, x2.2.2.2.2.2.2.2.2.2.2.1, x2.2.2.2.2.2.2.2.2.2.2.2.1, x2.2.2.2.2.2.2.2.2.2.2.2.2.1, x2.2.2.2.2.2.2.2.2.2.2.2.2.2.1, x2.2.2.2.2.2.2.2.2.2.2.2.2.2.2, o_more, o_firstOne) else bnd (α := Int32) (f_X12_threes fu x2.2.2.1) (fun x3 => ltn (x3 - (1 : Int32)) (fun x4 => bnd (α := (Nat → Int32) × Int32) (lp (f_X12_choice_L37 fu o_towns p2 x2) fu (x4, o_more, o_firstOne)) (fun v10 => if p3 = 0 then bnd (α := Int32) (rdi 729 v10.1 (0 : Int32)) (fun x11 => some (x11, (0 : Int32), x2.2.1, x2.2.2.1, x2.2.2.2.1, x2.2.2.2.2.1, x2.2.2.2.2.2.1, x2.2.2.2.2.2.2.1, x2.2.2.2.2.2.2.2.1, x2.2.2.2.2.2.2.2.2.1, x2.2.2.2.2.2.2.2.2.2.1, x2.2.2.2.2.2.2.2.2.2.2.1, x2.2.2.2.2.2.2.2.2.2.2.2.1, x2.2.2.2.2.2.2.2.2.2.2.2.2.1, x2.2.2.2.2.2.2.2.2.2.2.2.2.2.1, x2.2.2.2.2.2.2.2.2.2.2.2.2.2.2, v10.1, v10.2)) else some (v10.2, (0 : Int32), x2.2.1, x2.2.2.1, x2.2.2.2.1, x2.2.2.2.2.1, x2.2.2.2.2.2.1, x2.2.2.2.2.2.2.1, x2.2.2.2.2.2.2.2.1, x2.2.2.2.2.2.2.2.2.1, x2.2.2.2.2.2.2.2.2.2.1, x2.2.2.2.2.2.2.2.2.2.2.1, x2.2.2.2.2.2.2.2.2.2.2.2.1, x2.2.2.2.2.2.2.2.2.2.2.2.2.1, x2.2.2.2.2.2.2.2.2.2.2.2.2.2.1, x2.2.2.2.2.2.2.2.2.2.2.2.2.2.2, v10.1, v10.2))))))
set_option maxHeartbeats 4000000 in
set_option maxRecDepth 100000 in
theorem c_X12_choice {l : Launch} {D : va_G} {g : Nat → ClassId} {fu : Nat} {o_q0 o_q1 o_q2 o_q3 o_q4 o_q5 o_q6 o_q7 o_q8 o_q9 o_q10 o_q11 o_q12 o_q13 o_q14 o_q15 o_q16 o_q17 o_q18 o_q19 o_q20 o_q21 o_q22 : Nat} {o_code : Int32} {o_tape : (Nat → Int32)} {o_size : (Nat → Int32)} {o_fault : (Nat → Int32)} {o_faultPlace : (Nat → Int32)} {o_many : (Nat → Int32)} {o_towns : (Nat → Int32)} {o_weeks : (Nat → Int32)} {o_logs : (Nat → Int32)} {o_reached : Int32} {o_length : Int32} {o_begins : Int32} {o_sort : Int32} {o_value : Int32} {o_word : Int64} {o_wrongAt : Int32} {o_laterFault : Int32} {o_laterPlace : Int32} {o_told : (Nat → Int32)} {o_read : (Nat → Int32)} {o_farOne : Int32} {o_good : Int32} {o_town : Int32} {o_people : Int32} {o_when : Int32} {o_sat : Int32} {o_quiet : Int32} {o_vain : Int32} {o_lent : Int32} {o_forgiven : Int32} {o_sundays : Int32} {o_purse : (Nat → Int32)} {o_beside : (Nat → Int32)} {o_debts : (Nat → Int32)} {o_sitting : (Nat → Int32)} {o_visited : (Nat → Int32)} {o_week : Int32} {o_heaps : (Nat → Int32)} {o_taken : (Nat → Int32)} {o_best : (Nat → Int32)} {o_more : (Nat → Int32)} {o_firstOne : Int32} {o_log : Int32} {o_fitting : (Nat → Int32)} {o_found : Int32} {o_seed : Int32} {o_row : (Nat → Int32)} {o_saved : (Nat → Int32)} {p1 : Int32} {p2 : Int32} {p3 : Int32} {r : Int32 × Int32 × Int32 × Int32 × Int32 × Int32 × Int32 × Int32 × Int32 × Int32 × Int32 × (Nat → Int32) × (Nat → Int32) × (Nat → Int32) × (Nat → Int32) × (Nat → Int32) × (Nat → Int32) × Int32} (hf : f_X12_choice fu o_code o_many o_towns o_town o_people o_when o_sat o_quiet o_vain o_lent o_forgiven o_sundays o_purse o_beside o_debts o_sitting o_visited o_more o_firstOne p1 p2 p3 = some r) : Wr l D (gy g) yX12_choice cX12_choice 5 (some .int) 3 [.ref o_q0, .int p1, .int p2, .int p3] (wMd g o_q0 o_q1 o_q2 o_q3 o_q4 o_q5 o_q6 o_q7 o_q8 o_q9 o_q10 o_q11 o_q12 o_q13 o_q14 o_q15 o_q16 o_q17 o_q18 o_q19 o_q20 o_q21 o_q22 o_code o_tape o_size o_fault o_faultPlace o_many o_towns o_weeks o_logs o_reached o_length o_begins o_sort o_value o_word o_wrongAt o_laterFault o_laterPlace o_told o_read o_farOne o_good o_town o_people o_when o_sat o_quiet o_vain o_lent o_forgiven o_sundays o_purse o_beside o_debts o_sitting o_visited o_week o_heaps o_taken o_best o_more o_firstOne o_log o_fitting o_found o_seed o_row o_saved) (wMd g o_q0 o_q1 o_q2 o_q3 o_q4 o_q5 o_q6 o_q7 o_q8 o_q9 o_q10 o_q11 o_q12 o_q13 o_q14 o_q15 o_q16 o_q17 o_q18 o_q19 o_q20 o_q21 o_q22 r.2.1 o_tape o_size o_fault o_faultPlace o_many o_towns o_weeks o_logs o_reached o_length o_begins o_sort o_value o_word o_wrongAt o_laterFault o_laterPlace o_told o_read o_farOne o_good r.2.2.1 r.2.2.2.1 r.2.2.2.2.1 r.2.2.2.2.2.1 r.2.2.2.2.2.2.1 r.2.2.2.2.2.2.2.1 r.2.2.2.2.2.2.2.2.1 r.2.2.2.2.2.2.2.2.2.1 r.2.2.2.2.2.2.2.2.2.2.1 r.2.2.2.2.2.2.2.2.2.2.2.1 r.2.2.2.2.2.2.2.2.2.2.2.2.1 r.2.2.2.2.2.2.2.2.2.2.2.2.2.1 r.2.2.2.2.2.2.2.2.2.2.2.2.2.2.1 r.2.2.2.2.2.2.2.2.2.2.2.2.2.2.2.1 o_week o_heaps o_taken o_best r.2.2.2.2.2.2.2.2.2.2.2.2.2.2.2.2.1 r.2.2.2.2.2.2.2.2.2.2.2.2.2.2.2.2.2 o_log o_fitting o_found o_seed o_row o_saved) (some (.int r.1)) := by
  refine Wr.ofI (by decide) (Nat.le_of_ble_eq_true rfl) ?_
  intro p e s m args below meth c Q A S hK hA hret ls hl hW
  have hl : lv_has ls 5 [(0, .ref o_q0), (1, .int p1), (2, .int p2), (3, .int p3)] := hl
  refine lv_aload_n S.1 S.2.1 dX12_choice_0 rfl (lv_at hl 0 rfl) ?_
  refine lv_iconst (v := 0) S.1 S.2.1 dX12_choice_1 ic_0 ?_
  refine pfX12_78 (ws2 := (wMd g o_q0 o_q1 o_q2 o_q3 o_q4 o_q5 o_q6 o_q7 o_q8 o_q9 o_q10 o_q11 o_q12 o_q13 o_q14 o_q15 o_q16 o_q17 o_q18 o_q19 o_q20 o_q21 o_q22 (0 : Int32) o_tape o_size o_fault o_faultPlace o_many o_towns o_weeks o_logs o_reached o_length o_begins o_sort o_value o_word o_wrongAt o_laterFault o_laterPlace o_told o_read o_farOne o_good o_town o_people o_when o_sat o_quiet o_vain o_lent o_forgiven o_sundays o_purse o_beside o_debts o_sitting o_visited o_week o_heaps o_taken o_best o_more o_firstOne o_log o_fitting o_found o_seed o_row o_saved)) S hK hW 0 rfl rfl rfl (Nat.le_of_ble_eq_true rfl) rfl dX12_choice_2 (fun H locs hW => ?_)
  refine lv_iload_n S.1 S.2.1 dX12_choice_5 rfl (lv_at hl 2 rfl) ?_
  refine lv_iconst (v := 0) S.1 S.2.1 dX12_choice_6 ic_0 ?_
  refine lv_iconst (v := 5) S.1 S.2.1 dX12_choice_7 ic_5 ?_
  obtain ⟨x1, hx1, hf⟩ := bnd_e hf
  refine Rd.cS (c_X12_in hx1) S hK va_P.nil kSX12_90 rfl hl.1 [] rfl (Nat.le_of_ble_eq_true rfl) ⟨(Nat.le_of_ble_eq_true rfl), (Nat.le_of_ble_eq_true rfl)⟩ ⟨(Nat.zero_le _), (Nat.zero_le _)⟩ dX12_choice_8 ?_
  refine lv_if_eq (tgt := 22) S.1 S.2.1 dX12_choice_11 (by decide) (fun c_ => ?_) (fun c_ => ?_)
  · have hf := it_p c_ hf
    refine lv_sipush (v := (-999)) S.1 S.2.1 dX12_choice_22 sp_m999 ?_
    have e_ := Option.some.inj hf
    subst e_
    exact hret _ _ _ _ dX12_choice_25 hW
  · have hf := it_n c_ hf
    refine lv_aload_n S.1 S.2.1 dX12_choice_14 rfl (lv_at hl 0 rfl) ?_
    refine lv_iload_n S.1 S.2.1 dX12_choice_15 rfl (lv_at hl 1 rfl) ?_
    obtain ⟨x2, hx2, hf⟩ := bnd_e hf
    refine Wr.goW (Wr.runV (c_X12_hand hx2) S hK hW.1 hW.2.1 0 10 rfl rfl kVX12_257 rfl hl.1 [] rfl (Nat.le_of_ble_eq_true rfl) ⟨(Nat.le_of_ble_eq_true rfl), (Nat.le_of_ble_eq_true rfl)⟩ ⟨(Nat.zero_le _), (Nat.zero_le _)⟩ dX12_choice_16) hW hA (fun H locs hW => ?_)
    refine lv_if_ne (tgt := 26) S.1 S.2.1 dX12_choice_19 (by decide) (fun c_ => ?_) (fun c_ => ?_)
    · have hf := it_n c_ hf
      refine lv_aload_n S.1 S.2.1 dX12_choice_26 rfl (lv_at hl 0 rfl) ?_
      refine gfX12_230 S hK hW.1 0 rfl rfl dX12_choice_27 ?_
      obtain ⟨x3, hx3, hf⟩ := bnd_e hf
      refine Rd.cS (c_X12_threes hx3) S hK va_P.nil kSX12_352 rfl hl.1 [] rfl (Nat.le_of_ble_eq_true rfl) ⟨(Nat.le_of_ble_eq_true rfl), (Nat.le_of_ble_eq_true rfl)⟩ ⟨(Nat.zero_le _), (Nat.zero_le _)⟩ dX12_choice_30 ?_
      refine lv_iconst (v := 1) S.1 S.2.1 dX12_choice_33 ic_1 ?_
      refine lv_isub S.1 S.2.1 dX12_choice_34 ?_
      refine lv_topi (fun x4 ex4 => ?_)
      have hf := ltn_e hf ex4
      refine lv_istore (lv' := [(4, .int x4), (0, .ref o_q0), (1, .int p1), (2, .int p2), (3, .int p3)]) S.1 S.2.1 dX12_choice_35 hl (by decide) rfl (fun ls hl => ?_)
      obtain ⟨x7, hf_, hk7⟩ := bnd_e hf
      have hE7 : ∀ (v10 : (Nat → Int32) × Int32), v10 = x7 → ∀ (ls : Array Slot) (H : Heap) (locs : List Loc), lv_has ls 5 [(0, .ref o_q0), (3, .int p3)] → St A s.heap D (wMd g o_q0 o_q1 o_q2 o_q3 o_q4 o_q5 o_q6 o_q7 o_q8 o_q9 o_q10 o_q11 o_q12 o_q13 o_q14 o_q15 o_q16 o_q17 o_q18 o_q19 o_q20 o_q21 o_q22 (0 : Int32) o_tape o_size o_fault o_faultPlace o_many o_towns o_weeks o_logs o_reached o_length o_begins o_sort o_value o_word o_wrongAt o_laterFault o_laterPlace o_told o_read o_farOne o_good x2.2.1 x2.2.2.1 x2.2.2.2.1 x2.2.2.2.2.1 x2.2.2.2.2.2.1 x2.2.2.2.2.2.2.1 x2.2.2.2.2.2.2.2.1 x2.2.2.2.2.2.2.2.2.1 x2.2.2.2.2.2.2.2.2.2.1 x2.2.2.2.2.2.2.2.2.2.2.1 x2.2.2.2.2.2.2.2.2.2.2.2.1 x2.2.2.2.2.2.2.2.2.2.2.2.2.1 x2.2.2.2.2.2.2.2.2.2.2.2.2.2.1 x2.2.2.2.2.2.2.2.2.2.2.2.2.2.2 o_week o_heaps o_taken o_best v10.1 v10.2 o_log o_fitting o_found o_seed o_row o_saved) H locs → W p l e (rmD 3) s m args below meth c H locs 0 0 Q (F0 m 55 ls []) := by
        intro v10 e_ ls H locs hl hW
        subst e_
        have hf := hk7
        refine lv_iload_n S.1 S.2.1 dX12_choice_55 rfl (lv_at hl 1 rfl) ?_
        refine lv_if_eq (tgt := 66) S.1 S.2.1 dX12_choice_56 (by decide) (fun c_ => ?_) (fun c_ => ?_)
        · have hf := it_p c_ hf
          refine lv_aload_n S.1 S.2.1 dX12_choice_66 rfl (lv_at hl 0 rfl) ?_
          refine gfX12_65 S hK hW.1 0 rfl rfl dX12_choice_67 ?_
          refine lv_iconst (v := 0) S.1 S.2.1 dX12_choice_70 ic_0 ?_
          obtain ⟨x11, hx11, hf⟩ := bnd_e hf
          refine q_iald S hK hW.1 19 0 rfl rfl hx11 dX12_choice_71 ?_
          have e_ := Option.some.inj hf
          subst e_
          exact hret _ _ _ _ dX12_choice_72 hW
        · have hf := it_n c_ hf
          refine lv_aload_n S.1 S.2.1 dX12_choice_59 rfl (lv_at hl 0 rfl) ?_
          refine gfX12_361 S hK hW.1 0 rfl rfl dX12_choice_60 ?_
          refine lv_goto (tgt := 72) S.1 S.2.1 dX12_choice_63 (by decide) ?_
          have e_ := Option.some.inj hf
          subst e_
          exact hret _ _ _ _ dX12_choice_72 hW
      refine lp_ind (P := fun (s6 : Int32 × (Nat → Int32) × Int32) => ∀ (ls : Array Slot) (H : Heap) (locs : List Loc), lv_has ls 5 [(0, .ref o_q0), (2, .int p2), (3, .int p3), (4, .int s6.1)] → St A s.heap D (wMd g o_q0 o_q1 o_q2 o_q3 o_q4 o_q5 o_q6 o_q7 o_q8 o_q9 o_q10 o_q11 o_q12 o_q13 o_q14 o_q15 o_q16 o_q17 o_q18 o_q19 o_q20 o_q21 o_q22 (0 : Int32) o_tape o_size o_fault o_faultPlace o_many o_towns o_weeks o_logs o_reached o_length o_begins o_sort o_value o_word o_wrongAt o_laterFault o_laterPlace o_told o_read o_farOne o_good x2.2.1 x2.2.2.1 x2.2.2.2.1 x2.2.2.2.2.1 x2.2.2.2.2.2.1 x2.2.2.2.2.2.2.1 x2.2.2.2.2.2.2.2.1 x2.2.2.2.2.2.2.2.2.1 x2.2.2.2.2.2.2.2.2.2.1 x2.2.2.2.2.2.2.2.2.2.2.1 x2.2.2.2.2.2.2.2.2.2.2.2.1 x2.2.2.2.2.2.2.2.2.2.2.2.2.1 x2.2.2.2.2.2.2.2.2.2.2.2.2.2.1 x2.2.2.2.2.2.2.2.2.2.2.2.2.2.2 o_week o_heaps o_taken o_best s6.2.1 s6.2.2 o_log o_fitting o_found o_seed o_row o_saved) H locs → W p l e (rmD 3) s m args below meth c H locs 0 0 Q (F0 m 37 ls [])) ?_ _ _ hf_ _ _ _ (lv_sub hl [1, 3, 4, 0] rfl) hW
      intro s6 x8 hf hI7 hR7 ls H locs hl hW
      refine lv_iload S.1 S.2.1 dX12_choice_37 (lv_at hl 3 rfl) ?_
      refine lv_if_lt (tgt := 55) S.1 S.2.1 dX12_choice_39 (by decide) (fun c_ => ?_) (fun c_ => ?_)
      · have hf := it_p c_ hf
        have e_ := hR7 _ (Option.some.inj hf).symm
        exact hE7 _ e_ _ _ _ (lv_sub hl [0, 2] rfl) hW
      · have hf := it_n c_ hf
        refine lv_aload_n S.1 S.2.1 dX12_choice_42 rfl (lv_at hl 0 rfl) ?_
        refine lv_iload S.1 S.2.1 dX12_choice_43 (lv_at hl 3 rfl) ?_
        refine lv_iload_n S.1 S.2.1 dX12_choice_45 rfl (lv_at hl 1 rfl) ?_
        obtain ⟨x9, hx9, hf⟩ := bnd_e hf
        refine Wr.goW (Wr.runV (c_X12_findChoice hx9) S hK hW.1 hW.2.1 0 10 rfl rfl kVX12_364 rfl hl.1 [] rfl (Nat.le_of_ble_eq_true rfl) ⟨(Nat.le_of_ble_eq_true rfl), (Nat.le_of_ble_eq_true rfl)⟩ ⟨(Nat.zero_le _), (Nat.zero_le _)⟩ dX12_choice_46) hW hA (fun H locs hW => ?_)
        refine q_iinc (w := (-1)) (lv' := [(4, .int (s6.1 + (-1))), (0, .ref o_q0), (2, .int p2), (3, .int p3)]) S dX12_choice_49 hl (k := 3) rfl ic_m1 (by decide) rfl (fun ls hl => ?_)
        refine lv_goto (tgt := 37) S.1 S.2.1 dX12_choice_52 (by decide) ?_
        exact hI7 _ (Option.some.inj hf).symm _ _ _ (lv_sub hl [1, 2, 3, 0] rfl) hW
    · have hf := it_p c_ hf
      refine lv_sipush (v := (-999)) S.1 S.2.1 dX12_choice_22 sp_m999 ?_
      have e_ := Option.some.inj hf
      subst e_
      exact hret _ _ _ _ dX12_choice_25 hW
def f_X12_common_L6  (s2 : Int64 × Int64) : Option ((Int64 × Int64) ⊕ (Int64)) := if (lg_cmp s2.2 (0 : Int64)) = 0 then some (.inr s2.1) else bnd (α := Int64) (rml s2.1 s2.2) (fun x5 => some (.inl (s2.2, x5)))
def f_X12_common (fu : Nat) (p1 : Int64) (p2 : Int64) : Option (Int64) := bnd (α := Int64) (lp (f_X12_common_L6) fu (p1, p2)) (fun v6 => some v6)
set_option maxHeartbeats 4000000 in
set_option maxRecDepth 100000 in
theorem c_X12_common {l : Launch} {D : va_G} {g : Nat → ClassId} {fu : Nat} {p1 : Int64} {p2 : Int64} {r : Int64} (hf : f_X12_common fu p1 p2 = some r) : Rd l D (gy g) yX12_common cX12_common 10 (some .long) 0 [.long p1, .long p2] ([] : va_W) (some (.long r)) := by
  refine Rd.ofL (by decide) (Nat.le_of_ble_eq_true rfl) ?_
  intro p e s m args below meth c Q S hK hP hret ls hl
  have hl : lv_has ls 10 [(0, .long p1), (2, .long p2)] := hl
  refine lv_lload_n S.1 S.2.1 dX12_common_0 rfl (lv_at hl 0 rfl) ?_
  refine lv_lstore (lv' := [(4, .long p1), (0, .long p1), (2, .long p2)]) S.1 S.2.1 dX12_common_1 hl (by decide) rfl (fun ls hl => ?_)
  refine lv_lload_n S.1 S.2.1 dX12_common_3 rfl (lv_at hl 2 rfl) ?_
  refine lv_lstore (lv' := [(6, .long p2), (4, .long p1), (0, .long p1), (2, .long p2)]) S.1 S.2.1 dX12_common_4 hl (by decide) rfl (fun ls hl => ?_)
  obtain ⟨x3, hf_, hk3⟩ := bnd_e hf
  have hE3 : ∀ (v6 : Int64), v6 = x3 → ∀ (ls : Array Slot), lv_has ls 10 [(4, .long v6)] → W p l e (rmD 0) s m args below meth c s.heap [] 0 0 Q (F0 m 31 ls []) := by
    intro v6 e_ ls hl
    subst e_
    have hf := hk3
    refine lv_lload S.1 S.2.1 dX12_common_31 (lv_at hl 0 rfl) ?_
    have e_ := Option.some.inj hf
    subst e_
    exact hret _ _ dX12_common_33
  refine lp_ind (P := fun (s2 : Int64 × Int64) => ∀ (ls : Array Slot), lv_has ls 10 [(4, .long s2.1), (6, .long s2.2)] → W p l e (rmD 0) s m args below meth c s.heap [] 0 0 Q (F0 m 6 ls [])) ?_ _ _ hf_ _ (lv_sub hl [1, 0] rfl)
  intro s2 x4 hf hI3 hR3 ls hl
  refine lv_lload S.1 S.2.1 dX12_common_6 (lv_at hl 1 rfl) ?_
  refine lv_lconst (v := 0) S.1 S.2.1 dX12_common_8 rfl ?_
  refine W.lcmp S.1 S.2.1 dX12_common_9 ?_
  refine lv_if_eq (tgt := 31) S.1 S.2.1 dX12_common_10 (by decide) (fun c_ => ?_) (fun c_ => ?_)
  · have hf := it_p c_ hf
    have e_ := hR3 _ (Option.some.inj hf).symm
    exact hE3 _ e_ _ (lv_sub hl [0] rfl)
  · have hf := it_n c_ hf
    refine lv_lload S.1 S.2.1 dX12_common_13 (lv_at hl 0 rfl) ?_
    refine lv_lload S.1 S.2.1 dX12_common_15 (lv_at hl 1 rfl) ?_
    obtain ⟨x5, hx5, hf⟩ := bnd_e hf
    refine q_lrem S hx5 dX12_common_17 ?_
    refine lv_lstore (lv' := [(8, .long x5), (4, .long s2.1), (6, .long s2.2)]) S.1 S.2.1 dX12_common_18 hl (by decide) rfl (fun ls hl => ?_)
    refine lv_lload S.1 S.2.1 dX12_common_20 (lv_at hl 2 rfl) ?_
    refine lv_lstore (lv' := [(4, .long s2.2), (8, .long x5), (6, .long s2.2)]) S.1 S.2.1 dX12_common_22 hl (by decide) rfl (fun ls hl => ?_)
    refine lv_lload S.1 S.2.1 dX12_common_24 (lv_at hl 1 rfl) ?_
    refine lv_lstore (lv' := [(6, .long x5), (4, .long s2.2), (8, .long x5)]) S.1 S.2.1 dX12_common_26 hl (by decide) rfl (fun ls hl => ?_)
    refine lv_goto (tgt := 6) S.1 S.2.1 dX12_common_28 (by decide) ?_
    exact hI3 _ (Option.some.inj hf).symm _ (lv_sub hl [1, 0] rfl)
def f_X12_part (fu : Nat) (p1 : Int64) (p2 : Int64) (p3 : Int32) : Option (Int64) := if p3 = 0 then bnd (α := Int64) (f_X12_common fu p2 p1) (fun x1 => bnd (α := Int64) (dvl p1 x1) (fun x2 => some x2)) else bnd (α := Int64) (f_X12_common fu p2 p1) (fun x3 => bnd (α := Int64) (dvl p2 x3) (fun x4 => some x4))
set_option maxHeartbeats 4000000 in
set_option maxRecDepth 100000 in
theorem c_X12_part {l : Launch} {D : va_G} {g : Nat → ClassId} {fu : Nat} {p1 : Int64} {p2 : Int64} {p3 : Int32} {r : Int64} (hf : f_X12_part fu p1 p2 p3 = some r) : Rd l D (gy g) yX12_part cX12_part 5 (some .long) 1 [.long p1, .long p2, .int p3] ([] : va_W) (some (.long r)) := by
  refine Rd.ofL (by decide) (Nat.le_of_ble_eq_true rfl) ?_
  intro p e s m args below meth c Q S hK hP hret ls hl
  have hl : lv_has ls 5 [(0, .long p1), (2, .long p2), (4, .int p3)] := hl
  refine lv_iload S.1 S.2.1 dX12_part_0 (lv_at hl 2 rfl) ?_
  refine lv_if_eq (tgt := 9) S.1 S.2.1 dX12_part_2 (by decide) (fun c_ => ?_) (fun c_ => ?_)
  · have hf := it_p c_ hf
    refine lv_lload_n S.1 S.2.1 dX12_part_9 rfl (lv_at hl 0 rfl) ?_
    refine lv_lload_n S.1 S.2.1 dX12_part_10 rfl (lv_at hl 1 rfl) ?_
    refine lv_lload_n S.1 S.2.1 dX12_part_11 rfl (lv_at hl 0 rfl) ?_
    obtain ⟨x1, hx1, hf⟩ := bnd_e hf
    refine Rd.cS (c_X12_common hx1) S hK va_P.nil kSX12_367 rfl hl.1 [.long p1] rfl (Nat.le_of_ble_eq_true rfl) ⟨(Nat.le_of_ble_eq_true rfl), (Nat.le_of_ble_eq_true rfl)⟩ ⟨(Nat.zero_le _), (Nat.zero_le _)⟩ dX12_part_12 ?_
    obtain ⟨x2, hx2, hf⟩ := bnd_e hf
    refine q_ldiv S hx2 dX12_part_15 ?_
    have e_ := Option.some.inj hf
    subst e_
    exact hret _ _ dX12_part_16
  · have hf := it_n c_ hf
    refine lv_lload_n S.1 S.2.1 dX12_part_5 rfl (lv_at hl 1 rfl) ?_
    refine lv_goto (tgt := 10) S.1 S.2.1 dX12_part_6 (by decide) ?_
    refine lv_lload_n S.1 S.2.1 dX12_part_10 rfl (lv_at hl 1 rfl) ?_
    refine lv_lload_n S.1 S.2.1 dX12_part_11 rfl (lv_at hl 0 rfl) ?_
    obtain ⟨x3, hx3, hf⟩ := bnd_e hf
    refine Rd.cS (c_X12_common hx3) S hK va_P.nil kSX12_367 rfl hl.1 [.long p2] rfl (Nat.le_of_ble_eq_true rfl) ⟨(Nat.le_of_ble_eq_true rfl), (Nat.le_of_ble_eq_true rfl)⟩ ⟨(Nat.zero_le _), (Nat.zero_le _)⟩ dX12_part_12 ?_
    obtain ⟨x4, hx4, hf⟩ := bnd_e hf
    refine q_ldiv S hx4 dX12_part_15 ?_
    have e_ := Option.some.inj hf
    subst e_
    exact hret _ _ dX12_part_16
def f_X12_power_L5 (p1 : Int64) (p2 : Int32) (s2 : Int64 × Int32) : Option ((Int64 × Int32) ⊕ (Int64)) := if p2 ≤ s2.2 then some (.inr s2.1) else ltn (s2.1 * p1) (fun x5 => some (.inl (x5, (s2.2 + 1))))
def f_X12_power (fu : Nat) (p1 : Int64) (p2 : Int32) : Option (Int64) := bnd (α := Int64) (lp (f_X12_power_L5 p1 p2) fu ((1 : Int64), (0 : Int32))) (fun v6 => some v6)
set_option maxHeartbeats 4000000 in
set_option maxRecDepth 100000 in
theorem c_X12_power {l : Launch} {D : va_G} {g : Nat → ClassId} {fu : Nat} {p1 : Int64} {p2 : Int32} {r : Int64} (hf : f_X12_power fu p1 p2 = some r) : Rd l D (gy g) yX12_power cX12_power 6 (some .long) 0 [.long p1, .int p2] ([] : va_W) (some (.long r)) := by
  refine Rd.ofL (by decide) (Nat.le_of_ble_eq_true rfl) ?_
  intro p e s m args below meth c Q S hK hP hret ls hl
  have hl : lv_has ls 6 [(0, .long p1), (2, .int p2)] := hl
  refine lv_lconst (v := 1) S.1 S.2.1 dX12_power_0 rfl ?_
  refine lv_lstore_n (lv' := [(3, .long (1 : Int64)), (0, .long p1), (2, .int p2)]) S.1 S.2.1 dX12_power_1 rfl hl (by decide) rfl (fun ls hl => ?_)
  refine lv_iconst (v := 0) S.1 S.2.1 dX12_power_2 ic_0 ?_
  refine lv_istore (lv' := [(5, .int (0 : Int32)), (3, .long (1 : Int64)), (0, .long p1), (2, .int p2)]) S.1 S.2.1 dX12_power_3 hl (by decide) rfl (fun ls hl => ?_)
  obtain ⟨x3, hf_, hk3⟩ := bnd_e hf
  have hE3 : ∀ (v6 : Int64), v6 = x3 → ∀ (ls : Array Slot), lv_has ls 6 [(3, .long v6)] → W p l e (rmD 0) s m args below meth c s.heap [] 0 0 Q (F0 m 21 ls []) := by
    intro v6 e_ ls hl
    subst e_
    have hf := hk3
    refine lv_lload_n S.1 S.2.1 dX12_power_21 rfl (lv_at hl 0 rfl) ?_
    have e_ := Option.some.inj hf
    subst e_
    exact hret _ _ dX12_power_22
  refine lp_ind (P := fun (s2 : Int64 × Int32) => ∀ (ls : Array Slot), lv_has ls 6 [(0, .long p1), (2, .int p2), (3, .long s2.1), (5, .int s2.2)] → W p l e (rmD 0) s m args below meth c s.heap [] 0 0 Q (F0 m 5 ls [])) ?_ _ _ hf_ _ (lv_sub hl [2, 3, 1, 0] rfl)
  intro s2 x4 hf hI3 hR3 ls hl
  refine lv_iload S.1 S.2.1 dX12_power_5 (lv_at hl 3 rfl) ?_
  refine lv_iload_n S.1 S.2.1 dX12_power_7 rfl (lv_at hl 1 rfl) ?_
  refine lv_icmp_ge (tgt := 21) S.1 S.2.1 dX12_power_8 (by decide) (fun c_ => ?_) (fun c_ => ?_)
  · have hf := it_p c_ hf
    have e_ := hR3 _ (Option.some.inj hf).symm
    exact hE3 _ e_ _ (lv_sub hl [2] rfl)
  · have hf := it_n c_ hf
    refine lv_lload_n S.1 S.2.1 dX12_power_11 rfl (lv_at hl 2 rfl) ?_
    refine lv_lload_n S.1 S.2.1 dX12_power_12 rfl (lv_at hl 0 rfl) ?_
    refine lv_lmul S.1 S.2.1 dX12_power_13 ?_
    refine lv_topl (fun x5 ex5 => ?_)
    have hf := ltn_e hf ex5
    refine lv_lstore_n (lv' := [(3, .long x5), (0, .long p1), (2, .int p2), (5, .int s2.2)]) S.1 S.2.1 dX12_power_14 rfl hl (by decide) rfl (fun ls hl => ?_)
    refine q_iinc (w := 1) (lv' := [(5, .int (s2.2 + 1)), (3, .long x5), (0, .long p1), (2, .int p2)]) S dX12_power_15 hl (k := 3) rfl ic_1 (by decide) rfl (fun ls hl => ?_)
    refine lv_goto (tgt := 5) S.1 S.2.1 dX12_power_18 (by decide) ?_
    exact hI3 _ (Option.some.inj hf).symm _ (lv_sub hl [2, 3, 1, 0] rfl)
def f_X12_talk_L55 (fu : Nat) (p2 : Int32) (p3 : Int32) (p4 : Int32) (x3 : Int32 × Int32 × Int32 × Int32 × Int32 × Int32 × Int32 × Int32 × Int32 × Int32 × (Nat → Int32) × (Nat → Int32) × (Nat → Int32) × (Nat → Int32) × (Nat → Int32)) (s6 : Int64 × Int64 × Int32) : Option ((Int64 × Int64 × Int32) ⊕ (Int64)) := if p4 < s6.2.2 then some (.inr s6.1) else bnd (α := Int32) (f_X12_owesAll fu x3.2.2.1 x3.2.2.2.2.2.2.2.2.2.2.2.2.1 p2) (fun x9 => bnd (α := Int64) (if s6.2.2 < x9 then some (0 : Int64) else bnd (α := Int64) (f_X12_power fu (p3.toInt64) s6.2.2) (fun x14 => bnd (α := Int64) (f_X12_power fu ((10 : Int64) - (p3.toInt64)) (p4 - s6.2.2)) (fun x15 => some ((s6.2.1 * x14) * x15)))) (fun v11 => ltn (s6.1 + v11) (fun x12 => bnd (α := Int64) (dvl (s6.2.1 * (((p4 - s6.2.2)).toInt64)) (((s6.2.2 + (1 : Int32))).toInt64)) (fun x13 => some (.inl (x12, x13, (s6.2.2 + 1)))))))
def f_X12_talk (fu : Nat) (o_code : Int32) (o_many : (Nat → Int32)) (o_towns : (Nat → Int32)) (o_town : Int32) (o_people : Int32) (o_when : Int32) (o_sat : Int32) (o_quiet : Int32) (o_vain : Int32) (o_lent : Int32) (o_forgiven : Int32) (o_sundays : Int32) (o_purse : (Nat → Int32)) (o_beside : (Nat → Int32)) (o_debts : (Nat → Int32)) (o_sitting : (Nat → Int32)) (o_visited : (Nat → Int32)) (p1 : Int32) (p2 : Int32) (p3 : Int32) (p4 : Int32) (p5 : Int32) : Option (Int64 × Int32 × Int32 × Int32 × Int32 × Int32 × Int32 × Int32 × Int32 × Int32 × Int32 × (Nat → Int32) × (Nat → Int32) × (Nat → Int32) × (Nat → Int32) × (Nat → Int32)) := bnd (α := Int32) (f_X12_in fu p3 (0 : Int32) (10 : Int32)) (fun x1 => if x1 = 0 then some ((-1 : Int64), (0 : Int32), o_town, o_people, o_when, o_sat, o_quiet, o_vain, o_lent, o_forgiven, o_sundays, o_purse, o_beside, o_debts, o_sitting, o_visited) else bnd (α := Int32) (f_X12_in fu p4 (0 : Int32) (12 : Int32)) (fun x2 => if x2 = 0 then some ((-1 : Int64), (0 : Int32), o_town, o_people, o_when, o_sat, o_quiet, o_vain, o_lent, o_forgiven, o_sundays, o_purse, o_beside, o_debts, o_sitting, o_visited) else bnd (α := Int32 × Int32 × Int32 × Int32 × Int32 × Int32 × Int32 × Int32 × Int32 × Int32 × (Nat → Int32) × (Nat → Int32) × (Nat → Int32) × (Nat → Int32) × (Nat → Int32)) (f_X12_hand fu o_many o_towns o_town o_people o_when o_sat o_quiet o_vain o_lent o_forgiven o_sundays o_purse o_beside o_debts o_sitting o_visited p1) (fun x3 => if x3.1 = 0 then some ((-1 : Int64), (0 : Int32), x3.2.1, x3.2.2.1, x3.2.2.2.1, x3.2.2.2.2.1, x3.2.2.2.2.2.1, x3.2.2.2.2.2.2.1, x3.2.2.2.2.2.2.2.1, x3.2.2.2.2.2.2.2.2.1, x3.2.2.2.2.2.2.2.2.2.1, x3.2.2.2.2.2.2.2.2.2.2.1, x3.2.2.2.2.2.2.2.2.2.2.2.1, x3.2.2.2.2.2.2.2.2.2.2.2.2.1, x3.2.2.2.2.2.2.2.2.2.2.2.2.2.1, x3.2.2.2.2.2.2.2.2.2.2.2.2.2.2) else bnd (α := Int32) (f_X12_isPerson fu x3.2.2.1 p2) (fun x4 => if x4 = 0 then some ((-1 : Int64), (0 : Int32), x3.2.1, x3.2.2.1, x3.2.2.2.1, x3.2.2.2.2.1, x3.2.2.2.2.2.1, x3.2.2.2.2.2.2.1, x3.2.2.2.2.2.2.2.1, x3.2.2.2.2.2.2.2.2.1, x3.2.2.2.2.2.2.2.2.2.1, x3.2.2.2.2.2.2.2.2.2.2.1, x3.2.2.2.2.2.2.2.2.2.2.2.1, x3.2.2.2.2.2.2.2.2.2.2.2.2.1, x3.2.2.2.2.2.2.2.2.2.2.2.2.2.1, x3.2.2.2.2.2.2.2.2.2.2.2.2.2.2) else bnd (α := Int64) (lp (f_X12_talk_L55 fu p2 p3 p4 x3) fu ((0 : Int64), (1 : Int64), (0 : Int32))) (fun v16 => bnd (α := Int64) (f_X12_power fu (10 : Int64) p4) (fun x17 => bnd (α := Int64) (f_X12_part fu v16 x17 p5) (fun x18 => some (x18, (0 : Int32), x3.2.1, x3.2.2.1, x3.2.2.2.1, x3.2.2.2.2.1, x3.2.2.2.2.2.1, x3.2.2.2.2.2.2.1, x3.2.2.2.2.2.2.2.1, x3.2.2.2.2.2.2.2.2.1, x3.2.2.2.2.2.2.2.2.2.1, x3.2.2.2.2.2.2.2.2.2.2.1, x3.2.2.2.2.2.2.2.2.2.2.2.1, x3.2.2.2.2.2.2.2.2.2.2.2.2.1, x3.2.2.2.2.2.2.2.2.2.2.2.2.2.1, x3.2.2.2.2.2.2.2.2.2.2.2.2.2.2))))))))
set_option maxHeartbeats 4000000 in
set_option maxRecDepth 100000 in
theorem c_X12_talk {l : Launch} {D : va_G} {g : Nat → ClassId} {fu : Nat} {o_q0 o_q1 o_q2 o_q3 o_q4 o_q5 o_q6 o_q7 o_q8 o_q9 o_q10 o_q11 o_q12 o_q13 o_q14 o_q15 o_q16 o_q17 o_q18 o_q19 o_q20 o_q21 o_q22 : Nat} {o_code : Int32} {o_tape : (Nat → Int32)} {o_size : (Nat → Int32)} {o_fault : (Nat → Int32)} {o_faultPlace : (Nat → Int32)} {o_many : (Nat → Int32)} {o_towns : (Nat → Int32)} {o_weeks : (Nat → Int32)} {o_logs : (Nat → Int32)} {o_reached : Int32} {o_length : Int32} {o_begins : Int32} {o_sort : Int32} {o_value : Int32} {o_word : Int64} {o_wrongAt : Int32} {o_laterFault : Int32} {o_laterPlace : Int32} {o_told : (Nat → Int32)} {o_read : (Nat → Int32)} {o_farOne : Int32} {o_good : Int32} {o_town : Int32} {o_people : Int32} {o_when : Int32} {o_sat : Int32} {o_quiet : Int32} {o_vain : Int32} {o_lent : Int32} {o_forgiven : Int32} {o_sundays : Int32} {o_purse : (Nat → Int32)} {o_beside : (Nat → Int32)} {o_debts : (Nat → Int32)} {o_sitting : (Nat → Int32)} {o_visited : (Nat → Int32)} {o_week : Int32} {o_heaps : (Nat → Int32)} {o_taken : (Nat → Int32)} {o_best : (Nat → Int32)} {o_more : (Nat → Int32)} {o_firstOne : Int32} {o_log : Int32} {o_fitting : (Nat → Int32)} {o_found : Int32} {o_seed : Int32} {o_row : (Nat → Int32)} {o_saved : (Nat → Int32)} {p1 : Int32} {p2 : Int32} {p3 : Int32} {p4 : Int32} {p5 : Int32} {r : Int64 × Int32 × Int32 × Int32 × Int32 × Int32 × Int32 × Int32 × Int32 × Int32 × Int32 × (Nat → Int32) × (Nat → Int32) × (Nat → Int32) × (Nat → Int32) × (Nat → Int32)} (hf : f_X12_talk fu o_code o_many o_towns o_town o_people o_when o_sat o_quiet o_vain o_lent o_forgiven o_sundays o_purse o_beside o_debts o_sitting o_visited p1 p2 p3 p4 p5 = some r) : Wr l D (gy g) yX12_talk cX12_talk 11 (some .long) 3 [.ref o_q0, .int p1, .int p2, .int p3, .int p4, .int p5] (wMd g o_q0 o_q1 o_q2 o_q3 o_q4 o_q5 o_q6 o_q7 o_q8 o_q9 o_q10 o_q11 o_q12 o_q13 o_q14 o_q15 o_q16 o_q17 o_q18 o_q19 o_q20 o_q21 o_q22 o_code o_tape o_size o_fault o_faultPlace o_many o_towns o_weeks o_logs o_reached o_length o_begins o_sort o_value o_word o_wrongAt o_laterFault o_laterPlace o_told o_read o_farOne o_good o_town o_people o_when o_sat o_quiet o_vain o_lent o_forgiven o_sundays o_purse o_beside o_debts o_sitting o_visited o_week o_heaps o_taken o_best o_more o_firstOne o_log o_fitting o_found o_seed o_row o_saved) (wMd g o_q0 o_q1 o_q2 o_q3 o_q4 o_q5 o_q6 o_q7 o_q8 o_q9 o_q10 o_q11 o_q12 o_q13 o_q14 o_q15 o_q16 o_q17 o_q18 o_q19 o_q20 o_q21 o_q22 r.2.1 o_tape o_size o_fault o_faultPlace o_many o_towns o_weeks o_logs o_reached o_length o_begins o_sort o_value o_word o_wrongAt o_laterFault o_laterPlace o_told o_read o_farOne o_good r.2.2.1 r.2.2.2.1 r.2.2.2.2.1 r.2.2.2.2.2.1 r.2.2.2.2.2.2.1 r.2.2.2.2.2.2.2.1 r.2.2.2.2.2.2.2.2.1 r.2.2.2.2.2.2.2.2.2.1 r.2.2.2.2.2.2.2.2.2.2.1 r.2.2.2.2.2.2.2.2.2.2.2.1 r.2.2.2.2.2.2.2.2.2.2.2.2.1 r.2.2.2.2.2.2.2.2.2.2.2.2.2.1 r.2.2.2.2.2.2.2.2.2.2.2.2.2.2.1 r.2.2.2.2.2.2.2.2.2.2.2.2.2.2.2 o_week o_heaps o_taken o_best o_more o_firstOne o_log o_fitting o_found o_seed o_row o_saved) (some (.long r.1)) := by
  refine Wr.ofL (by decide) (Nat.le_of_ble_eq_true rfl) ?_
  intro p e s m args below meth c Q A S hK hA hret ls hl hW
  have hl : lv_has ls 11 [(0, .ref o_q0), (1, .int p1), (2, .int p2), (3, .int p3), (4, .int p4), (5, .int p5)] := hl
  refine lv_aload_n S.1 S.2.1 dX12_talk_0 rfl (lv_at hl 0 rfl) ?_
  refine lv_iconst (v := 0) S.1 S.2.1 dX12_talk_1 ic_0 ?_
  refine pfX12_78 (ws2 := (wMd g o_q0 o_q1 o_q2 o_q3 o_q4 o_q5 o_q6 o_q7 o_q8 o_q9 o_q10 o_q11 o_q12 o_q13 o_q14 o_q15 o_q16 o_q17 o_q18 o_q19 o_q20 o_q21 o_q22 (0 : Int32) o_tape o_size o_fault o_faultPlace o_many o_towns o_weeks o_logs o_reached o_length o_begins o_sort o_value o_word o_wrongAt o_laterFault o_laterPlace o_told o_read o_farOne o_good o_town o_people o_when o_sat o_quiet o_vain o_lent o_forgiven o_sundays o_purse o_beside o_debts o_sitting o_visited o_week o_heaps o_taken o_best o_more o_firstOne o_log o_fitting o_found o_seed o_row o_saved)) S hK hW 0 rfl rfl rfl (Nat.le_of_ble_eq_true rfl) rfl dX12_talk_2 (fun H locs hW => ?_)
  refine lv_iload_n S.1 S.2.1 dX12_talk_5 rfl (lv_at hl 3 rfl) ?_
  refine lv_iconst (v := 0) S.1 S.2.1 dX12_talk_6 ic_0 ?_
  refine lv_bipush (v := 10) S.1 S.2.1 dX12_talk_7 bp_10 ?_
  obtain ⟨x1, hx1, hf⟩ := bnd_e hf
  refine Rd.cS (c_X12_in hx1) S hK va_P.nil kSX12_90 rfl hl.1 [] rfl (Nat.le_of_ble_eq_true rfl) ⟨(Nat.le_of_ble_eq_true rfl), (Nat.le_of_ble_eq_true rfl)⟩ ⟨(Nat.zero_le _), (Nat.zero_le _)⟩ dX12_talk_9 ?_
  refine lv_if_eq (tgt := 42) S.1 S.2.1 dX12_talk_12 (by decide) (fun c_ => ?_) (fun c_ => ?_)
  · have hf := it_p c_ hf
    refine lv_ldc2 (v := (-1)) S.1 S.2.1 S.2.2.2.1 (S.2.2.2.2 _ q_1499) dX12_talk_42 ?_
    have e_ := Option.some.inj hf
    subst e_
    exact hret _ _ _ _ dX12_talk_45 hW
  · have hf := it_n c_ hf
    refine lv_iload S.1 S.2.1 dX12_talk_15 (lv_at hl 4 rfl) ?_
    refine lv_iconst (v := 0) S.1 S.2.1 dX12_talk_17 ic_0 ?_
    refine lv_bipush (v := 12) S.1 S.2.1 dX12_talk_18 bp_12 ?_
    obtain ⟨x2, hx2, hf⟩ := bnd_e hf
    refine Rd.cS (c_X12_in hx2) S hK va_P.nil kSX12_90 rfl hl.1 [] rfl (Nat.le_of_ble_eq_true rfl) ⟨(Nat.le_of_ble_eq_true rfl), (Nat.le_of_ble_eq_true rfl)⟩ ⟨(Nat.zero_le _), (Nat.zero_le _)⟩ dX12_talk_20 ?_
    refine lv_if_eq (tgt := 42) S.1 S.2.1 dX12_talk_23 (by decide) (fun c_ => ?_) (fun c_ => ?_)
    · have hf := it_p c_ hf
      refine lv_ldc2 (v := (-1)) S.1 S.2.1 S.2.2.2.1 (S.2.2.2.2 _ q_1499) dX12_talk_42 ?_
      have e_ := Option.some.inj hf
      subst e_
      exact hret _ _ _ _ dX12_talk_45 hW
    · have hf := it_n c_ hf
      refine lv_aload_n S.1 S.2.1 dX12_talk_26 rfl (lv_at hl 0 rfl) ?_
      refine lv_iload_n S.1 S.2.1 dX12_talk_27 rfl (lv_at hl 1 rfl) ?_
      obtain ⟨x3, hx3, hf⟩ := bnd_e hf
      refine Wr.goW (Wr.runV (c_X12_hand hx3) S hK hW.1 hW.2.1 0 10 rfl rfl kVX12_257 rfl hl.1 [] rfl (Nat.le_of_ble_eq_true rfl) ⟨(Nat.le_of_ble_eq_true rfl), (Nat.le_of_ble_eq_true rfl)⟩ ⟨(Nat.zero_le _), (Nat.zero_le _)⟩ dX12_talk_28) hW hA (fun H locs hW => ?_)
      refine lv_if_eq (tgt := 42) S.1 S.2.1 dX12_talk_31 (by decide) (fun c_ => ?_) (fun c_ => ?_)
      · have hf := it_p c_ hf
        refine lv_ldc2 (v := (-1)) S.1 S.2.1 S.2.2.2.1 (S.2.2.2.2 _ q_1499) dX12_talk_42 ?_
        have e_ := Option.some.inj hf
        subst e_
        exact hret _ _ _ _ dX12_talk_45 hW
      · have hf := it_n c_ hf
        refine lv_aload_n S.1 S.2.1 dX12_talk_34 rfl (lv_at hl 0 rfl) ?_
        refine lv_iload_n S.1 S.2.1 dX12_talk_35 rfl (lv_at hl 2 rfl) ?_
        obtain ⟨x4, hx4, hf⟩ := bnd_e hf
        refine Rd.cV (c_X12_isPerson hx4) S hK hW.1 0 10 rfl rfl kVX12_260 rfl hl.1 [] rfl (Nat.le_of_ble_eq_true rfl) ⟨(Nat.le_of_ble_eq_true rfl), (Nat.le_of_ble_eq_true rfl)⟩ ⟨(Nat.zero_le _), (Nat.zero_le _)⟩ dX12_talk_36 ?_
        refine lv_if_ne (tgt := 46) S.1 S.2.1 dX12_talk_39 (by decide) (fun c_ => ?_) (fun c_ => ?_)
        · have hf := it_n c_ hf
          refine lv_lconst (v := 0) S.1 S.2.1 dX12_talk_46 rfl ?_
          refine lv_lstore (lv' := [(6, .long (0 : Int64)), (0, .ref o_q0), (1, .int p1), (2, .int p2), (3, .int p3), (4, .int p4), (5, .int p5)]) S.1 S.2.1 dX12_talk_47 hl (by decide) rfl (fun ls hl => ?_)
          refine lv_lconst (v := 1) S.1 S.2.1 dX12_talk_49 rfl ?_
          refine lv_lstore (lv' := [(8, .long (1 : Int64)), (6, .long (0 : Int64)), (0, .ref o_q0), (1, .int p1), (2, .int p2), (3, .int p3), (4, .int p4), (5, .int p5)]) S.1 S.2.1 dX12_talk_50 hl (by decide) rfl (fun ls hl => ?_)
          refine lv_iconst (v := 0) S.1 S.2.1 dX12_talk_52 ic_0 ?_
          refine lv_istore (lv' := [(10, .int (0 : Int32)), (8, .long (1 : Int64)), (6, .long (0 : Int64)), (0, .ref o_q0), (1, .int p1), (2, .int p2), (3, .int p3), (4, .int p4), (5, .int p5)]) S.1 S.2.1 dX12_talk_53 hl (by decide) rfl (fun ls hl => ?_)
          obtain ⟨x7, hf_, hk7⟩ := bnd_e hf
          have hE7 : ∀ (v16 : Int64), v16 = x7 → ∀ (ls : Array Slot) (H : Heap) (locs : List Loc), lv_has ls 11 [(4, .int p4), (5, .int p5), (6, .long v16)] → St A s.heap D (wMd g o_q0 o_q1 o_q2 o_q3 o_q4 o_q5 o_q6 o_q7 o_q8 o_q9 o_q10 o_q11 o_q12 o_q13 o_q14 o_q15 o_q16 o_q17 o_q18 o_q19 o_q20 o_q21 o_q22 (0 : Int32) o_tape o_size o_fault o_faultPlace o_many o_towns o_weeks o_logs o_reached o_length o_begins o_sort o_value o_word o_wrongAt o_laterFault o_laterPlace o_told o_read o_farOne o_good x3.2.1 x3.2.2.1 x3.2.2.2.1 x3.2.2.2.2.1 x3.2.2.2.2.2.1 x3.2.2.2.2.2.2.1 x3.2.2.2.2.2.2.2.1 x3.2.2.2.2.2.2.2.2.1 x3.2.2.2.2.2.2.2.2.2.1 x3.2.2.2.2.2.2.2.2.2.2.1 x3.2.2.2.2.2.2.2.2.2.2.2.1 x3.2.2.2.2.2.2.2.2.2.2.2.2.1 x3.2.2.2.2.2.2.2.2.2.2.2.2.2.1 x3.2.2.2.2.2.2.2.2.2.2.2.2.2.2 o_week o_heaps o_taken o_best o_more o_firstOne o_log o_fitting o_found o_seed o_row o_saved) H locs → W p l e (rmD 3) s m args below meth c H locs 0 0 Q (F0 m 129 ls []) := by
            intro v16 e_ ls H locs hl hW
            subst e_
            have hf := hk7
            refine lv_lload S.1 S.2.1 dX12_talk_129 (lv_at hl 2 rfl) ?_
            refine lv_ldc2 (v := 10) S.1 S.2.1 S.2.2.2.1 (S.2.2.2.2 _ q_1503) dX12_talk_131 ?_
            refine lv_iload S.1 S.2.1 dX12_talk_134 (lv_at hl 0 rfl) ?_
            obtain ⟨x17, hx17, hf⟩ := bnd_e hf
            refine Rd.cS (c_X12_power hx17) S hK va_P.nil kSX12_373 rfl hl.1 [.long v16] rfl (Nat.le_of_ble_eq_true rfl) ⟨(Nat.le_of_ble_eq_true rfl), (Nat.le_of_ble_eq_true rfl)⟩ ⟨(Nat.zero_le _), (Nat.zero_le _)⟩ dX12_talk_136 ?_
            refine lv_iload S.1 S.2.1 dX12_talk_139 (lv_at hl 1 rfl) ?_
            obtain ⟨x18, hx18, hf⟩ := bnd_e hf
            refine Rd.cS (c_X12_part hx18) S hK va_P.nil kSX12_379 rfl hl.1 [] rfl (Nat.le_of_ble_eq_true rfl) ⟨(Nat.le_of_ble_eq_true rfl), (Nat.le_of_ble_eq_true rfl)⟩ ⟨(Nat.zero_le _), (Nat.zero_le _)⟩ dX12_talk_141 ?_
            have e_ := Option.some.inj hf
            subst e_
            exact hret _ _ _ _ dX12_talk_144 hW
          refine lp_ind (P := fun (s6 : Int64 × Int64 × Int32) => ∀ (ls : Array Slot) (H : Heap) (locs : List Loc), lv_has ls 11 [(0, .ref o_q0), (2, .int p2), (3, .int p3), (4, .int p4), (5, .int p5), (6, .long s6.1), (8, .long s6.2.1), (10, .int s6.2.2)] → St A s.heap D (wMd g o_q0 o_q1 o_q2 o_q3 o_q4 o_q5 o_q6 o_q7 o_q8 o_q9 o_q10 o_q11 o_q12 o_q13 o_q14 o_q15 o_q16 o_q17 o_q18 o_q19 o_q20 o_q21 o_q22 (0 : Int32) o_tape o_size o_fault o_faultPlace o_many o_towns o_weeks o_logs o_reached o_length o_begins o_sort o_value o_word o_wrongAt o_laterFault o_laterPlace o_told o_read o_farOne o_good x3.2.1 x3.2.2.1 x3.2.2.2.1 x3.2.2.2.2.1 x3.2.2.2.2.2.1 x3.2.2.2.2.2.2.1 x3.2.2.2.2.2.2.2.1 x3.2.2.2.2.2.2.2.2.1 x3.2.2.2.2.2.2.2.2.2.1 x3.2.2.2.2.2.2.2.2.2.2.1 x3.2.2.2.2.2.2.2.2.2.2.2.1 x3.2.2.2.2.2.2.2.2.2.2.2.2.1 x3.2.2.2.2.2.2.2.2.2.2.2.2.2.1 x3.2.2.2.2.2.2.2.2.2.2.2.2.2.2 o_week o_heaps o_taken o_best o_more o_firstOne o_log o_fitting o_found o_seed o_row o_saved) H locs → W p l e (rmD 3) s m args below meth c H locs 0 0 Q (F0 m 55 ls [])) ?_ _ _ hf_ _ _ _ (lv_sub hl [3, 5, 6, 7, 8, 2, 1, 0] rfl) hW
          intro s6 x8 hf hI7 hR7 ls H locs hl hW
          refine lv_iload S.1 S.2.1 dX12_talk_55 (lv_at hl 7 rfl) ?_
          refine lv_iload S.1 S.2.1 dX12_talk_57 (lv_at hl 3 rfl) ?_
          refine lv_icmp_gt (tgt := 129) S.1 S.2.1 dX12_talk_59 (by decide) (fun c_ => ?_) (fun c_ => ?_)
          · have hf := it_p c_ hf
            have e_ := hR7 _ (Option.some.inj hf).symm
            exact hE7 _ e_ _ _ _ (lv_sub hl [3, 4, 5] rfl) hW
          · have hf := it_n c_ hf
            refine lv_lload S.1 S.2.1 dX12_talk_62 (lv_at hl 5 rfl) ?_
            refine lv_iload S.1 S.2.1 dX12_talk_64 (lv_at hl 7 rfl) ?_
            refine lv_aload_n S.1 S.2.1 dX12_talk_66 rfl (lv_at hl 0 rfl) ?_
            refine lv_iload_n S.1 S.2.1 dX12_talk_67 rfl (lv_at hl 1 rfl) ?_
            obtain ⟨x9, hx9, hf⟩ := bnd_e hf
            refine Rd.cV (c_X12_owesAll hx9) S hK hW.1 0 10 rfl rfl kVX12_311 rfl hl.1 [.int s6.2.2, .long s6.1] rfl (Nat.le_of_ble_eq_true rfl) ⟨(Nat.le_of_ble_eq_true rfl), (Nat.le_of_ble_eq_true rfl)⟩ ⟨(Nat.zero_le _), (Nat.zero_le _)⟩ dX12_talk_68 ?_
            obtain ⟨x10, hf_, hk10⟩ := bnd_e hf
            have hJ10 : ∀ (v11 : Int64), v11 = x10 → ∀ (ls : Array Slot) (H : Heap) (locs : List Loc), lv_has ls 11 [(0, .ref o_q0), (2, .int p2), (3, .int p3), (4, .int p4), (5, .int p5), (8, .long s6.2.1), (10, .int s6.2.2)] → St A s.heap D (wMd g o_q0 o_q1 o_q2 o_q3 o_q4 o_q5 o_q6 o_q7 o_q8 o_q9 o_q10 o_q11 o_q12 o_q13 o_q14 o_q15 o_q16 o_q17 o_q18 o_q19 o_q20 o_q21 o_q22 (0 : Int32) o_tape o_size o_fault o_faultPlace o_many o_towns o_weeks o_logs o_reached o_length o_begins o_sort o_value o_word o_wrongAt o_laterFault o_laterPlace o_told o_read o_farOne o_good x3.2.1 x3.2.2.1 x3.2.2.2.1 x3.2.2.2.2.1 x3.2.2.2.2.2.1 x3.2.2.2.2.2.2.1 x3.2.2.2.2.2.2.2.1 x3.2.2.2.2.2.2.2.2.1 x3.2.2.2.2.2.2.2.2.2.1 x3.2.2.2.2.2.2.2.2.2.2.1 x3.2.2.2.2.2.2.2.2.2.2.2.1 x3.2.2.2.2.2.2.2.2.2.2.2.2.1 x3.2.2.2.2.2.2.2.2.2.2.2.2.2.1 x3.2.2.2.2.2.2.2.2.2.2.2.2.2.2 o_week o_heaps o_taken o_best o_more o_firstOne o_log o_fitting o_found o_seed o_row o_saved) H locs → W p l e (rmD 3) s m args below meth c H locs 0 0 Q (F0 m 103 ls [.long v11, .long s6.1]) := by
              intro v11 e_ ls H locs hl hW
              subst e_
              have hf := hk10
              refine lv_ladd S.1 S.2.1 dX12_talk_103 ?_
              refine lv_topl (fun x12 ex12 => ?_)
              have hf := ltn_e hf ex12
              refine lv_lstore (lv' := [(6, .long x12), (0, .ref o_q0), (2, .int p2), (3, .int p3), (4, .int p4), (5, .int p5), (8, .long s6.2.1), (10, .int s6.2.2)]) S.1 S.2.1 dX12_talk_104 hl (by decide) rfl (fun ls hl => ?_)
              refine lv_lload S.1 S.2.1 dX12_talk_106 (lv_at hl 6 rfl) ?_
              refine lv_iload S.1 S.2.1 dX12_talk_108 (lv_at hl 4 rfl) ?_
              refine lv_iload S.1 S.2.1 dX12_talk_110 (lv_at hl 7 rfl) ?_
              refine lv_isub S.1 S.2.1 dX12_talk_112 ?_
              refine lv_i2l (v := (((p4 - s6.2.2)).toInt64)) S.1 S.2.1 dX12_talk_113 rfl ?_
              refine lv_lmul S.1 S.2.1 dX12_talk_114 ?_
              refine lv_iload S.1 S.2.1 dX12_talk_115 (lv_at hl 7 rfl) ?_
              refine lv_iconst (v := 1) S.1 S.2.1 dX12_talk_117 ic_1 ?_
              refine lv_iadd S.1 S.2.1 dX12_talk_118 ?_
              refine lv_i2l (v := (((s6.2.2 + (1 : Int32))).toInt64)) S.1 S.2.1 dX12_talk_119 rfl ?_
              obtain ⟨x13, hx13, hf⟩ := bnd_e hf
              refine q_ldiv S hx13 dX12_talk_120 ?_
              refine lv_lstore (lv' := [(8, .long x13), (6, .long x12), (0, .ref o_q0), (2, .int p2), (3, .int p3), (4, .int p4), (5, .int p5), (10, .int s6.2.2)]) S.1 S.2.1 dX12_talk_121 hl (by decide) rfl (fun ls hl => ?_)
              refine q_iinc (w := 1) (lv' := [(10, .int (s6.2.2 + 1)), (8, .long x13), (6, .long x12), (0, .ref o_q0), (2, .int p2), (3, .int p3), (4, .int p4), (5, .int p5)]) S dX12_talk_123 hl (k := 7) rfl ic_1 (by decide) rfl (fun ls hl => ?_)
              refine lv_goto (tgt := 55) S.1 S.2.1 dX12_talk_126 (by decide) ?_
              exact hI7 _ (Option.some.inj hf).symm _ _ _ (lv_sub hl [3, 4, 5, 6, 7, 2, 1, 0] rfl) hW
            have hf := hf_
            refine lv_icmp_lt (tgt := 102) S.1 S.2.1 dX12_talk_71 (by decide) (fun c_ => ?_) (fun c_ => ?_)
            · have hf := it_p c_ hf
              refine lv_lconst (v := 0) S.1 S.2.1 dX12_talk_102 rfl ?_
              exact hJ10 _ (Option.some.inj hf) _ _ _ (lv_sub hl [0, 1, 2, 3, 4, 6, 7] rfl) hW
            · have hf := it_n c_ hf
              refine lv_lload S.1 S.2.1 dX12_talk_74 (lv_at hl 6 rfl) ?_
              refine lv_iload_n S.1 S.2.1 dX12_talk_76 rfl (lv_at hl 2 rfl) ?_
              refine lv_i2l (v := (p3.toInt64)) S.1 S.2.1 dX12_talk_77 rfl ?_
              refine lv_iload S.1 S.2.1 dX12_talk_78 (lv_at hl 7 rfl) ?_
              obtain ⟨x14, hx14, hf⟩ := bnd_e hf
              refine Rd.cS (c_X12_power hx14) S hK va_P.nil kSX12_373 rfl hl.1 [.long s6.2.1, .long s6.1] rfl (Nat.le_of_ble_eq_true rfl) ⟨(Nat.le_of_ble_eq_true rfl), (Nat.le_of_ble_eq_true rfl)⟩ ⟨(Nat.zero_le _), (Nat.zero_le _)⟩ dX12_talk_80 ?_
              refine lv_lmul S.1 S.2.1 dX12_talk_83 ?_
              refine lv_ldc2 (v := 10) S.1 S.2.1 S.2.2.2.1 (S.2.2.2.2 _ q_1503) dX12_talk_84 ?_
              refine lv_iload_n S.1 S.2.1 dX12_talk_87 rfl (lv_at hl 2 rfl) ?_
              refine lv_i2l (v := (p3.toInt64)) S.1 S.2.1 dX12_talk_88 rfl ?_
              refine lv_lsub S.1 S.2.1 dX12_talk_89 ?_
              refine lv_iload S.1 S.2.1 dX12_talk_90 (lv_at hl 3 rfl) ?_
              refine lv_iload S.1 S.2.1 dX12_talk_92 (lv_at hl 7 rfl) ?_
              refine lv_isub S.1 S.2.1 dX12_talk_94 ?_
              obtain ⟨x15, hx15, hf⟩ := bnd_e hf
              refine Rd.cS (c_X12_power hx15) S hK va_P.nil kSX12_373 rfl hl.1 [.long (s6.2.1 * x14), .long s6.1] rfl (Nat.le_of_ble_eq_true rfl) ⟨(Nat.le_of_ble_eq_true rfl), (Nat.le_of_ble_eq_true rfl)⟩ ⟨(Nat.zero_le _), (Nat.zero_le _)⟩ dX12_talk_95 ?_
              refine lv_lmul S.1 S.2.1 dX12_talk_98 ?_
              refine lv_goto (tgt := 103) S.1 S.2.1 dX12_talk_99 (by decide) ?_
              exact hJ10 _ (Option.some.inj hf) _ _ _ (lv_sub hl [0, 1, 2, 3, 4, 6, 7] rfl) hW
        · have hf := it_p c_ hf
          refine lv_ldc2 (v := (-1)) S.1 S.2.1 S.2.2.2.1 (S.2.2.2.2 _ q_1499) dX12_talk_42 ?_
          have e_ := Option.some.inj hf
          subst e_
          exact hret _ _ _ _ dX12_talk_45 hW
def f_X12_factOf (fu : Nat) (o_logs : (Nat → Int32)) (o_log : Int32) (p1 : Int32) (p2 : Int32) : Option (Int32) := bnd (α := Int32) (rdi 200 o_logs (((((25 : Int32) * o_log) + (1 : Int32)) + ((3 : Int32) * p1)) + p2)) (fun x1 => some x1)
set_option maxHeartbeats 4000000 in
set_option maxRecDepth 100000 in
theorem c_X12_factOf {l : Launch} {D : va_G} {g : Nat → ClassId} {fu : Nat} {o_q0 o_q1 o_q2 o_q3 o_q4 o_q5 o_q6 o_q7 o_q8 o_q9 o_q10 o_q11 o_q12 o_q13 o_q14 o_q15 o_q16 o_q17 o_q18 o_q19 o_q20 o_q21 o_q22 : Nat} {o_code : Int32} {o_tape : (Nat → Int32)} {o_size : (Nat → Int32)} {o_fault : (Nat → Int32)} {o_faultPlace : (Nat → Int32)} {o_many : (Nat → Int32)} {o_towns : (Nat → Int32)} {o_weeks : (Nat → Int32)} {o_logs : (Nat → Int32)} {o_reached : Int32} {o_length : Int32} {o_begins : Int32} {o_sort : Int32} {o_value : Int32} {o_word : Int64} {o_wrongAt : Int32} {o_laterFault : Int32} {o_laterPlace : Int32} {o_told : (Nat → Int32)} {o_read : (Nat → Int32)} {o_farOne : Int32} {o_good : Int32} {o_town : Int32} {o_people : Int32} {o_when : Int32} {o_sat : Int32} {o_quiet : Int32} {o_vain : Int32} {o_lent : Int32} {o_forgiven : Int32} {o_sundays : Int32} {o_purse : (Nat → Int32)} {o_beside : (Nat → Int32)} {o_debts : (Nat → Int32)} {o_sitting : (Nat → Int32)} {o_visited : (Nat → Int32)} {o_week : Int32} {o_heaps : (Nat → Int32)} {o_taken : (Nat → Int32)} {o_best : (Nat → Int32)} {o_more : (Nat → Int32)} {o_firstOne : Int32} {o_log : Int32} {o_fitting : (Nat → Int32)} {o_found : Int32} {o_seed : Int32} {o_row : (Nat → Int32)} {o_saved : (Nat → Int32)} {p1 : Int32} {p2 : Int32} {r : Int32} (hf : f_X12_factOf fu o_logs o_log p1 p2 = some r) : Rd l D (gy g) yX12_factOf cX12_factOf 3 (some .int) 0 [.ref o_q0, .int p1, .int p2] (wMd g o_q0 o_q1 o_q2 o_q3 o_q4 o_q5 o_q6 o_q7 o_q8 o_q9 o_q10 o_q11 o_q12 o_q13 o_q14 o_q15 o_q16 o_q17 o_q18 o_q19 o_q20 o_q21 o_q22 o_code o_tape o_size o_fault o_faultPlace o_many o_towns o_weeks o_logs o_reached o_length o_begins o_sort o_value o_word o_wrongAt o_laterFault o_laterPlace o_told o_read o_farOne o_good o_town o_people o_when o_sat o_quiet o_vain o_lent o_forgiven o_sundays o_purse o_beside o_debts o_sitting o_visited o_week o_heaps o_taken o_best o_more o_firstOne o_log o_fitting o_found o_seed o_row o_saved) (some (.int r)) := by
  refine Rd.ofI (by decide) (Nat.le_of_ble_eq_true rfl) ?_
  intro p e s m args below meth c Q S hK hP hret ls hl
  have hl : lv_has ls 3 [(0, .ref o_q0), (1, .int p1), (2, .int p2)] := hl
  refine lv_aload_n S.1 S.2.1 dX12_factOf_0 rfl (lv_at hl 0 rfl) ?_
  refine gfX12_32 S hK hP 0 rfl rfl dX12_factOf_1 ?_
  refine lv_bipush (v := 25) S.1 S.2.1 dX12_factOf_4 bp_25 ?_
  refine lv_aload_n S.1 S.2.1 dX12_factOf_6 rfl (lv_at hl 0 rfl) ?_
  refine gfX12_383 S hK hP 0 rfl rfl dX12_factOf_7 ?_
  refine lv_imul S.1 S.2.1 dX12_factOf_10 ?_
  refine lv_iconst (v := 1) S.1 S.2.1 dX12_factOf_11 ic_1 ?_
  refine lv_iadd S.1 S.2.1 dX12_factOf_12 ?_
  refine lv_iconst (v := 3) S.1 S.2.1 dX12_factOf_13 ic_3 ?_
  refine lv_iload_n S.1 S.2.1 dX12_factOf_14 rfl (lv_at hl 1 rfl) ?_
  refine lv_imul S.1 S.2.1 dX12_factOf_15 ?_
  refine lv_iadd S.1 S.2.1 dX12_factOf_16 ?_
  refine lv_iload_n S.1 S.2.1 dX12_factOf_17 rfl (lv_at hl 2 rfl) ?_
  refine lv_iadd S.1 S.2.1 dX12_factOf_18 ?_
  obtain ⟨x1, hx1, hf⟩ := bnd_e hf
  refine q_iald S hK hP 8 0 rfl rfl hx1 dX12_factOf_19 ?_
  have e_ := Option.some.inj hf
  subst e_
  exact hret _ _ dX12_factOf_20
def f_X12_facts (fu : Nat) (o_logs : (Nat → Int32)) (o_log : Int32) : Option (Int32) := bnd (α := Int32) (rdi 200 o_logs ((25 : Int32) * o_log)) (fun x1 => some x1)
set_option maxHeartbeats 4000000 in
set_option maxRecDepth 100000 in
theorem c_X12_facts {l : Launch} {D : va_G} {g : Nat → ClassId} {fu : Nat} {o_q0 o_q1 o_q2 o_q3 o_q4 o_q5 o_q6 o_q7 o_q8 o_q9 o_q10 o_q11 o_q12 o_q13 o_q14 o_q15 o_q16 o_q17 o_q18 o_q19 o_q20 o_q21 o_q22 : Nat} {o_code : Int32} {o_tape : (Nat → Int32)} {o_size : (Nat → Int32)} {o_fault : (Nat → Int32)} {o_faultPlace : (Nat → Int32)} {o_many : (Nat → Int32)} {o_towns : (Nat → Int32)} {o_weeks : (Nat → Int32)} {o_logs : (Nat → Int32)} {o_reached : Int32} {o_length : Int32} {o_begins : Int32} {o_sort : Int32} {o_value : Int32} {o_word : Int64} {o_wrongAt : Int32} {o_laterFault : Int32} {o_laterPlace : Int32} {o_told : (Nat → Int32)} {o_read : (Nat → Int32)} {o_farOne : Int32} {o_good : Int32} {o_town : Int32} {o_people : Int32} {o_when : Int32} {o_sat : Int32} {o_quiet : Int32} {o_vain : Int32} {o_lent : Int32} {o_forgiven : Int32} {o_sundays : Int32} {o_purse : (Nat → Int32)} {o_beside : (Nat → Int32)} {o_debts : (Nat → Int32)} {o_sitting : (Nat → Int32)} {o_visited : (Nat → Int32)} {o_week : Int32} {o_heaps : (Nat → Int32)} {o_taken : (Nat → Int32)} {o_best : (Nat → Int32)} {o_more : (Nat → Int32)} {o_firstOne : Int32} {o_log : Int32} {o_fitting : (Nat → Int32)} {o_found : Int32} {o_seed : Int32} {o_row : (Nat → Int32)} {o_saved : (Nat → Int32)} {r : Int32} (hf : f_X12_facts fu o_logs o_log = some r) : Rd l D (gy g) yX12_facts cX12_facts 1 (some .int) 0 [.ref o_q0] (wMd g o_q0 o_q1 o_q2 o_q3 o_q4 o_q5 o_q6 o_q7 o_q8 o_q9 o_q10 o_q11 o_q12 o_q13 o_q14 o_q15 o_q16 o_q17 o_q18 o_q19 o_q20 o_q21 o_q22 o_code o_tape o_size o_fault o_faultPlace o_many o_towns o_weeks o_logs o_reached o_length o_begins o_sort o_value o_word o_wrongAt o_laterFault o_laterPlace o_told o_read o_farOne o_good o_town o_people o_when o_sat o_quiet o_vain o_lent o_forgiven o_sundays o_purse o_beside o_debts o_sitting o_visited o_week o_heaps o_taken o_best o_more o_firstOne o_log o_fitting o_found o_seed o_row o_saved) (some (.int r)) := by
  refine Rd.ofI (by decide) (Nat.le_of_ble_eq_true rfl) ?_
  intro p e s m args below meth c Q S hK hP hret ls hl
  have hl : lv_has ls 1 [(0, .ref o_q0)] := hl
  refine lv_aload_n S.1 S.2.1 dX12_facts_0 rfl (lv_at hl 0 rfl) ?_
  refine gfX12_32 S hK hP 0 rfl rfl dX12_facts_1 ?_
  refine lv_bipush (v := 25) S.1 S.2.1 dX12_facts_4 bp_25 ?_
  refine lv_aload_n S.1 S.2.1 dX12_facts_6 rfl (lv_at hl 0 rfl) ?_
  refine gfX12_383 S hK hP 0 rfl rfl dX12_facts_7 ?_
  refine lv_imul S.1 S.2.1 dX12_facts_10 ?_
  obtain ⟨x1, hx1, hf⟩ := bnd_e hf
  refine q_iald S hK hP 8 0 rfl rfl hx1 dX12_facts_11 ?_
  have e_ := Option.some.inj hf
  subst e_
  exact hret _ _ dX12_facts_12
def f_X12_hasLog (fu : Nat) (o_many : (Nat → Int32)) (o_log : Int32) (p1 : Int32) : Option (Int32 × Int32) := bnd (α := Int32) (f_X12_is fu o_many (2 : Int32) p1) (fun x1 => bnd (α := Int32) (bz x1) (fun z2 => some (z2, p1)))
set_option maxHeartbeats 4000000 in
set_option maxRecDepth 100000 in
theorem c_X12_hasLog {l : Launch} {D : va_G} {g : Nat → ClassId} {fu : Nat} {o_q0 o_q1 o_q2 o_q3 o_q4 o_q5 o_q6 o_q7 o_q8 o_q9 o_q10 o_q11 o_q12 o_q13 o_q14 o_q15 o_q16 o_q17 o_q18 o_q19 o_q20 o_q21 o_q22 : Nat} {o_code : Int32} {o_tape : (Nat → Int32)} {o_size : (Nat → Int32)} {o_fault : (Nat → Int32)} {o_faultPlace : (Nat → Int32)} {o_many : (Nat → Int32)} {o_towns : (Nat → Int32)} {o_weeks : (Nat → Int32)} {o_logs : (Nat → Int32)} {o_reached : Int32} {o_length : Int32} {o_begins : Int32} {o_sort : Int32} {o_value : Int32} {o_word : Int64} {o_wrongAt : Int32} {o_laterFault : Int32} {o_laterPlace : Int32} {o_told : (Nat → Int32)} {o_read : (Nat → Int32)} {o_farOne : Int32} {o_good : Int32} {o_town : Int32} {o_people : Int32} {o_when : Int32} {o_sat : Int32} {o_quiet : Int32} {o_vain : Int32} {o_lent : Int32} {o_forgiven : Int32} {o_sundays : Int32} {o_purse : (Nat → Int32)} {o_beside : (Nat → Int32)} {o_debts : (Nat → Int32)} {o_sitting : (Nat → Int32)} {o_visited : (Nat → Int32)} {o_week : Int32} {o_heaps : (Nat → Int32)} {o_taken : (Nat → Int32)} {o_best : (Nat → Int32)} {o_more : (Nat → Int32)} {o_firstOne : Int32} {o_log : Int32} {o_fitting : (Nat → Int32)} {o_found : Int32} {o_seed : Int32} {o_row : (Nat → Int32)} {o_saved : (Nat → Int32)} {p1 : Int32} {r : Int32 × Int32} (hf : f_X12_hasLog fu o_many o_log p1 = some r) : Wr l D (gy g) yX12_hasLog cX12_hasLog 2 (some .boolean) 2 [.ref o_q0, .int p1] (wMd g o_q0 o_q1 o_q2 o_q3 o_q4 o_q5 o_q6 o_q7 o_q8 o_q9 o_q10 o_q11 o_q12 o_q13 o_q14 o_q15 o_q16 o_q17 o_q18 o_q19 o_q20 o_q21 o_q22 o_code o_tape o_size o_fault o_faultPlace o_many o_towns o_weeks o_logs o_reached o_length o_begins o_sort o_value o_word o_wrongAt o_laterFault o_laterPlace o_told o_read o_farOne o_good o_town o_people o_when o_sat o_quiet o_vain o_lent o_forgiven o_sundays o_purse o_beside o_debts o_sitting o_visited o_week o_heaps o_taken o_best o_more o_firstOne o_log o_fitting o_found o_seed o_row o_saved) (wMd g o_q0 o_q1 o_q2 o_q3 o_q4 o_q5 o_q6 o_q7 o_q8 o_q9 o_q10 o_q11 o_q12 o_q13 o_q14 o_q15 o_q16 o_q17 o_q18 o_q19 o_q20 o_q21 o_q22 o_code o_tape o_size o_fault o_faultPlace o_many o_towns o_weeks o_logs o_reached o_length o_begins o_sort o_value o_word o_wrongAt o_laterFault o_laterPlace o_told o_read o_farOne o_good o_town o_people o_when o_sat o_quiet o_vain o_lent o_forgiven o_sundays o_purse o_beside o_debts o_sitting o_visited o_week o_heaps o_taken o_best o_more o_firstOne r.2 o_fitting o_found o_seed o_row o_saved) (some (.int r.1)) := by
  refine Wr.ofZ (by decide) (Nat.le_of_ble_eq_true rfl) ?_
  intro p e s m args below meth c Q A S hK hA hret ls hl hW
  have hl : lv_has ls 2 [(0, .ref o_q0), (1, .int p1)] := hl
  refine lv_aload_n S.1 S.2.1 dX12_hasLog_0 rfl (lv_at hl 0 rfl) ?_
  refine lv_iload_n S.1 S.2.1 dX12_hasLog_1 rfl (lv_at hl 1 rfl) ?_
  refine pfX12_383 (ws2 := (wMd g o_q0 o_q1 o_q2 o_q3 o_q4 o_q5 o_q6 o_q7 o_q8 o_q9 o_q10 o_q11 o_q12 o_q13 o_q14 o_q15 o_q16 o_q17 o_q18 o_q19 o_q20 o_q21 o_q22 o_code o_tape o_size o_fault o_faultPlace o_many o_towns o_weeks o_logs o_reached o_length o_begins o_sort o_value o_word o_wrongAt o_laterFault o_laterPlace o_told o_read o_farOne o_good o_town o_people o_when o_sat o_quiet o_vain o_lent o_forgiven o_sundays o_purse o_beside o_debts o_sitting o_visited o_week o_heaps o_taken o_best o_more o_firstOne p1 o_fitting o_found o_seed o_row o_saved)) S hK hW 0 rfl rfl rfl (Nat.le_of_ble_eq_true rfl) rfl dX12_hasLog_2 (fun H locs hW => ?_)
  refine lv_aload_n S.1 S.2.1 dX12_hasLog_5 rfl (lv_at hl 0 rfl) ?_
  refine lv_iconst (v := 2) S.1 S.2.1 dX12_hasLog_6 ic_2 ?_
  refine lv_iload_n S.1 S.2.1 dX12_hasLog_7 rfl (lv_at hl 1 rfl) ?_
  obtain ⟨x1, hx1, hf⟩ := bnd_e hf
  refine Rd.cV (c_X12_is hx1) S hK hW.1 0 10 rfl rfl kVX12_213 rfl hl.1 [] rfl (Nat.le_of_ble_eq_true rfl) ⟨(Nat.le_of_ble_eq_true rfl), (Nat.le_of_ble_eq_true rfl)⟩ ⟨(Nat.zero_le _), (Nat.zero_le _)⟩ dX12_hasLog_8 ?_
  obtain ⟨z2, hz2, hf⟩ := bnd_e hf
  obtain ⟨hzz2, ezz2⟩ := bz_e hz2
  rw [ezz2]
  have e_ := Option.some.inj hf
  subst e_
  exact hret _ _ _ _ hzz2 dX12_hasLog_11 hW
def f_X12_fact (fu : Nat) (o_code : Int32) (o_many : (Nat → Int32)) (o_logs : (Nat → Int32)) (o_log : Int32) (p1 : Int32) (p2 : Int32) (p3 : Int32) : Option (Int32 × Int32 × Int32) := bnd (α := Int32 × Int32) (f_X12_hasLog fu o_many o_log p1) (fun x1 => if x1.1 = 0 then some ((-2 : Int32), (0 : Int32), x1.2) else if p2 = (-1 : Int32) then if p3 = 0 then bnd (α := Int32) (f_X12_facts fu o_logs x1.2) (fun x2 => some (x2, (0 : Int32), x1.2)) else some ((-2 : Int32), (0 : Int32), x1.2) else bnd (α := Int32) (f_X12_facts fu o_logs x1.2) (fun x3 => bnd (α := Int32) (f_X12_in fu p2 (0 : Int32) (x3 - (1 : Int32))) (fun x4 => if x4 = 0 then some ((-2 : Int32), (0 : Int32), x1.2) else bnd (α := Int32) (f_X12_in fu p3 (0 : Int32) (2 : Int32)) (fun x5 => if x5 = 0 then some ((-2 : Int32), (0 : Int32), x1.2) else bnd (α := Int32) (f_X12_factOf fu o_logs x1.2 p2 p3) (fun x6 => some (x6, (0 : Int32), x1.2))))))
set_option maxHeartbeats 4000000 in
set_option maxRecDepth 100000 in
theorem c_X12_fact {l : Launch} {D : va_G} {g : Nat → ClassId} {fu : Nat} {o_q0 o_q1 o_q2 o_q3 o_q4 o_q5 o_q6 o_q7 o_q8 o_q9 o_q10 o_q11 o_q12 o_q13 o_q14 o_q15 o_q16 o_q17 o_q18 o_q19 o_q20 o_q21 o_q22 : Nat} {o_code : Int32} {o_tape : (Nat → Int32)} {o_size : (Nat → Int32)} {o_fault : (Nat → Int32)} {o_faultPlace : (Nat → Int32)} {o_many : (Nat → Int32)} {o_towns : (Nat → Int32)} {o_weeks : (Nat → Int32)} {o_logs : (Nat → Int32)} {o_reached : Int32} {o_length : Int32} {o_begins : Int32} {o_sort : Int32} {o_value : Int32} {o_word : Int64} {o_wrongAt : Int32} {o_laterFault : Int32} {o_laterPlace : Int32} {o_told : (Nat → Int32)} {o_read : (Nat → Int32)} {o_farOne : Int32} {o_good : Int32} {o_town : Int32} {o_people : Int32} {o_when : Int32} {o_sat : Int32} {o_quiet : Int32} {o_vain : Int32} {o_lent : Int32} {o_forgiven : Int32} {o_sundays : Int32} {o_purse : (Nat → Int32)} {o_beside : (Nat → Int32)} {o_debts : (Nat → Int32)} {o_sitting : (Nat → Int32)} {o_visited : (Nat → Int32)} {o_week : Int32} {o_heaps : (Nat → Int32)} {o_taken : (Nat → Int32)} {o_best : (Nat → Int32)} {o_more : (Nat → Int32)} {o_firstOne : Int32} {o_log : Int32} {o_fitting : (Nat → Int32)} {o_found : Int32} {o_seed : Int32} {o_row : (Nat → Int32)} {o_saved : (Nat → Int32)} {p1 : Int32} {p2 : Int32} {p3 : Int32} {r : Int32 × Int32 × Int32} (hf : f_X12_fact fu o_code o_many o_logs o_log p1 p2 p3 = some r) : Wr l D (gy g) yX12_fact cX12_fact 4 (some .int) 3 [.ref o_q0, .int p1, .int p2, .int p3] (wMd g o_q0 o_q1 o_q2 o_q3 o_q4 o_q5 o_q6 o_q7 o_q8 o_q9 o_q10 o_q11 o_q12 o_q13 o_q14 o_q15 o_q16 o_q17 o_q18 o_q19 o_q20 o_q21 o_q22 o_code o_tape o_size o_fault o_faultPlace o_many o_towns o_weeks o_logs o_reached o_length o_begins o_sort o_value o_word o_wrongAt o_laterFault o_laterPlace o_told o_read o_farOne o_good o_town o_people o_when o_sat o_quiet o_vain o_lent o_forgiven o_sundays o_purse o_beside o_debts o_sitting o_visited o_week o_heaps o_taken o_best o_more o_firstOne o_log o_fitting o_found o_seed o_row o_saved) (wMd g o_q0 o_q1 o_q2 o_q3 o_q4 o_q5 o_q6 o_q7 o_q8 o_q9 o_q10 o_q11 o_q12 o_q13 o_q14 o_q15 o_q16 o_q17 o_q18 o_q19 o_q20 o_q21 o_q22 r.2.1 o_tape o_size o_fault o_faultPlace o_many o_towns o_weeks o_logs o_reached o_length o_begins o_sort o_value o_word o_wrongAt o_laterFault o_laterPlace o_told o_read o_farOne o_good o_town o_people o_when o_sat o_quiet o_vain o_lent o_forgiven o_sundays o_purse o_beside o_debts o_sitting o_visited o_week o_heaps o_taken o_best o_more o_firstOne r.2.2 o_fitting o_found o_seed o_row o_saved) (some (.int r.1)) := by
  refine Wr.ofI (by decide) (Nat.le_of_ble_eq_true rfl) ?_
  intro p e s m args below meth c Q A S hK hA hret ls hl hW
  have hl : lv_has ls 4 [(0, .ref o_q0), (1, .int p1), (2, .int p2), (3, .int p3)] := hl
  refine lv_aload_n S.1 S.2.1 dX12_fact_0 rfl (lv_at hl 0 rfl) ?_
  refine lv_iconst (v := 0) S.1 S.2.1 dX12_fact_1 ic_0 ?_
  refine pfX12_78 (ws2 := (wMd g o_q0 o_q1 o_q2 o_q3 o_q4 o_q5 o_q6 o_q7 o_q8 o_q9 o_q10 o_q11 o_q12 o_q13 o_q14 o_q15 o_q16 o_q17 o_q18 o_q19 o_q20 o_q21 o_q22 (0 : Int32) o_tape o_size o_fault o_faultPlace o_many o_towns o_weeks o_logs o_reached o_length o_begins o_sort o_value o_word o_wrongAt o_laterFault o_laterPlace o_told o_read o_farOne o_good o_town o_people o_when o_sat o_quiet o_vain o_lent o_forgiven o_sundays o_purse o_beside o_debts o_sitting o_visited o_week o_heaps o_taken o_best o_more o_firstOne o_log o_fitting o_found o_seed o_row o_saved)) S hK hW 0 rfl rfl rfl (Nat.le_of_ble_eq_true rfl) rfl dX12_fact_2 (fun H locs hW => ?_)
  refine lv_aload_n S.1 S.2.1 dX12_fact_5 rfl (lv_at hl 0 rfl) ?_
  refine lv_iload_n S.1 S.2.1 dX12_fact_6 rfl (lv_at hl 1 rfl) ?_
  obtain ⟨x1, hx1, hf⟩ := bnd_e hf
  refine Wr.goW (Wr.runV (c_X12_hasLog hx1) S hK hW.1 hW.2.1 0 10 rfl rfl kVX12_386 rfl hl.1 [] rfl (Nat.le_of_ble_eq_true rfl) ⟨(Nat.le_of_ble_eq_true rfl), (Nat.le_of_ble_eq_true rfl)⟩ ⟨(Nat.zero_le _), (Nat.zero_le _)⟩ dX12_fact_7) hW hA (fun H locs hW => ?_)
  refine lv_if_ne (tgt := 16) S.1 S.2.1 dX12_fact_10 (by decide) (fun c_ => ?_) (fun c_ => ?_)
  · have hf := it_n c_ hf
    refine lv_iload_n S.1 S.2.1 dX12_fact_16 rfl (lv_at hl 2 rfl) ?_
    refine lv_iconst (v := (-1)) S.1 S.2.1 dX12_fact_17 ic_m1 ?_
    refine lv_icmp_ne (tgt := 35) S.1 S.2.1 dX12_fact_18 (by decide) (fun c_ => ?_) (fun c_ => ?_)
    · have hf := it_n c_ hf
      refine lv_iload_n S.1 S.2.1 dX12_fact_35 rfl (lv_at hl 2 rfl) ?_
      refine lv_iconst (v := 0) S.1 S.2.1 dX12_fact_36 ic_0 ?_
      refine lv_aload_n S.1 S.2.1 dX12_fact_37 rfl (lv_at hl 0 rfl) ?_
      obtain ⟨x3, hx3, hf⟩ := bnd_e hf
      refine Rd.cV (c_X12_facts hx3) S hK hW.1 0 10 rfl rfl kVX12_389 rfl hl.1 [.int (0 : Int32), .int p2] rfl (Nat.le_of_ble_eq_true rfl) ⟨(Nat.le_of_ble_eq_true rfl), (Nat.le_of_ble_eq_true rfl)⟩ ⟨(Nat.zero_le _), (Nat.zero_le _)⟩ dX12_fact_38 ?_
      refine lv_iconst (v := 1) S.1 S.2.1 dX12_fact_41 ic_1 ?_
      refine lv_isub S.1 S.2.1 dX12_fact_42 ?_
      obtain ⟨x4, hx4, hf⟩ := bnd_e hf
      refine Rd.cS (c_X12_in hx4) S hK va_P.nil kSX12_90 rfl hl.1 [] rfl (Nat.le_of_ble_eq_true rfl) ⟨(Nat.le_of_ble_eq_true rfl), (Nat.le_of_ble_eq_true rfl)⟩ ⟨(Nat.zero_le _), (Nat.zero_le _)⟩ dX12_fact_43 ?_
      refine lv_if_eq (tgt := 67) S.1 S.2.1 dX12_fact_46 (by decide) (fun c_ => ?_) (fun c_ => ?_)
      · have hf := it_p c_ hf
        refine lv_bipush (v := (-2)) S.1 S.2.1 dX12_fact_67 bp_m2 ?_
        have e_ := Option.some.inj hf
        subst e_
        exact hret _ _ _ _ dX12_fact_69 hW
      · have hf := it_n c_ hf
        refine lv_iload_n S.1 S.2.1 dX12_fact_49 rfl (lv_at hl 3 rfl) ?_
        refine lv_iconst (v := 0) S.1 S.2.1 dX12_fact_50 ic_0 ?_
        refine lv_iconst (v := 2) S.1 S.2.1 dX12_fact_51 ic_2 ?_
        obtain ⟨x5, hx5, hf⟩ := bnd_e hf
        refine Rd.cS (c_X12_in hx5) S hK va_P.nil kSX12_90 rfl hl.1 [] rfl (Nat.le_of_ble_eq_true rfl) ⟨(Nat.le_of_ble_eq_true rfl), (Nat.le_of_ble_eq_true rfl)⟩ ⟨(Nat.zero_le _), (Nat.zero_le _)⟩ dX12_fact_52 ?_
        refine lv_if_eq (tgt := 67) S.1 S.2.1 dX12_fact_55 (by decide) (fun c_ => ?_) (fun c_ => ?_)
        · have hf := it_p c_ hf
          refine lv_bipush (v := (-2)) S.1 S.2.1 dX12_fact_67 bp_m2 ?_
          have e_ := Option.some.inj hf
          subst e_
          exact hret _ _ _ _ dX12_fact_69 hW
        · have hf := it_n c_ hf
          refine lv_aload_n S.1 S.2.1 dX12_fact_58 rfl (lv_at hl 0 rfl) ?_
          refine lv_iload_n S.1 S.2.1 dX12_fact_59 rfl (lv_at hl 2 rfl) ?_
          refine lv_iload_n S.1 S.2.1 dX12_fact_60 rfl (lv_at hl 3 rfl) ?_
          obtain ⟨x6, hx6, hf⟩ := bnd_e hf
          refine Rd.cV (c_X12_factOf hx6) S hK hW.1 0 10 rfl rfl kVX12_392 rfl hl.1 [] rfl (Nat.le_of_ble_eq_true rfl) ⟨(Nat.le_of_ble_eq_true rfl), (Nat.le_of_ble_eq_true rfl)⟩ ⟨(Nat.zero_le _), (Nat.zero_le _)⟩ dX12_fact_61 ?_
          refine lv_goto (tgt := 69) S.1 S.2.1 dX12_fact_64 (by decide) ?_
          have e_ := Option.some.inj hf
          subst e_
          exact hret _ _ _ _ dX12_fact_69 hW
    · have hf := it_p c_ hf
      refine lv_iload_n S.1 S.2.1 dX12_fact_21 rfl (lv_at hl 3 rfl) ?_
      refine lv_if_ne (tgt := 32) S.1 S.2.1 dX12_fact_22 (by decide) (fun c_ => ?_) (fun c_ => ?_)
      · have hf := it_n c_ hf
        refine lv_bipush (v := (-2)) S.1 S.2.1 dX12_fact_32 bp_m2 ?_
        have e_ := Option.some.inj hf
        subst e_
        exact hret _ _ _ _ dX12_fact_34 hW
      · have hf := it_p c_ hf
        refine lv_aload_n S.1 S.2.1 dX12_fact_25 rfl (lv_at hl 0 rfl) ?_
        obtain ⟨x2, hx2, hf⟩ := bnd_e hf
        refine Rd.cV (c_X12_facts hx2) S hK hW.1 0 10 rfl rfl kVX12_389 rfl hl.1 [] rfl (Nat.le_of_ble_eq_true rfl) ⟨(Nat.le_of_ble_eq_true rfl), (Nat.le_of_ble_eq_true rfl)⟩ ⟨(Nat.zero_le _), (Nat.zero_le _)⟩ dX12_fact_26 ?_
        refine lv_goto (tgt := 34) S.1 S.2.1 dX12_fact_29 (by decide) ?_
        have e_ := Option.some.inj hf
        subst e_
        exact hret _ _ _ _ dX12_fact_34 hW
  · have hf := it_p c_ hf
    refine lv_bipush (v := (-2)) S.1 S.2.1 dX12_fact_13 bp_m2 ?_
    have e_ := Option.some.inj hf
    subst e_
    exact hret _ _ _ _ dX12_fact_15 hW
def f_X12_hateNone_L2 (fu : Nat) (o_towns : (Nat → Int32)) (o_town : Int32) (o_people : Int32) (p1 : Int32) (s2 : Int32) : Option ((Int32) ⊕ ((Int32) ⊕ (Unit))) := if o_people ≤ s2 then some (.inr (.inr ())) else bnd (α := Int32) (f_X12_has fu p1 s2) (fun x5 => if x5 = 0 then some (.inl (s2 + 1)) else bnd (α := Int32) (f_X12_of fu o_towns o_town ((13 : Int32) + s2)) (fun x6 => if (x6 &&& p1) = 0 then some (.inl (s2 + 1)) else some (.inr (.inl (0 : Int32)))))
def f_X12_hateNone (fu : Nat) (o_towns : (Nat → Int32)) (o_town : Int32) (o_people : Int32) (p1 : Int32) : Option (Int32) := bnd (α := (Int32) ⊕ (Unit)) (lp (f_X12_hateNone_L2 fu o_towns o_town o_people p1) fu (0 : Int32)) (fun x3 => cse x3 (fun y8 => some y8) (fun v7 => some (1 : Int32)))
set_option maxHeartbeats 4000000 in
set_option maxRecDepth 100000 in
theorem c_X12_hateNone {l : Launch} {D : va_G} {g : Nat → ClassId} {fu : Nat} {o_q0 o_q1 o_q2 o_q3 o_q4 o_q5 o_q6 o_q7 o_q8 o_q9 o_q10 o_q11 o_q12 o_q13 o_q14 o_q15 o_q16 o_q17 o_q18 o_q19 o_q20 o_q21 o_q22 : Nat} {o_code : Int32} {o_tape : (Nat → Int32)} {o_size : (Nat → Int32)} {o_fault : (Nat → Int32)} {o_faultPlace : (Nat → Int32)} {o_many : (Nat → Int32)} {o_towns : (Nat → Int32)} {o_weeks : (Nat → Int32)} {o_logs : (Nat → Int32)} {o_reached : Int32} {o_length : Int32} {o_begins : Int32} {o_sort : Int32} {o_value : Int32} {o_word : Int64} {o_wrongAt : Int32} {o_laterFault : Int32} {o_laterPlace : Int32} {o_told : (Nat → Int32)} {o_read : (Nat → Int32)} {o_farOne : Int32} {o_good : Int32} {o_town : Int32} {o_people : Int32} {o_when : Int32} {o_sat : Int32} {o_quiet : Int32} {o_vain : Int32} {o_lent : Int32} {o_forgiven : Int32} {o_sundays : Int32} {o_purse : (Nat → Int32)} {o_beside : (Nat → Int32)} {o_debts : (Nat → Int32)} {o_sitting : (Nat → Int32)} {o_visited : (Nat → Int32)} {o_week : Int32} {o_heaps : (Nat → Int32)} {o_taken : (Nat → Int32)} {o_best : (Nat → Int32)} {o_more : (Nat → Int32)} {o_firstOne : Int32} {o_log : Int32} {o_fitting : (Nat → Int32)} {o_found : Int32} {o_seed : Int32} {o_row : (Nat → Int32)} {o_saved : (Nat → Int32)} {p1 : Int32} {r : Int32} (hf : f_X12_hateNone fu o_towns o_town o_people p1 = some r) : Rd l D (gy g) yX12_hateNone cX12_hateNone 3 (some .boolean) 1 [.ref o_q0, .int p1] (wMd g o_q0 o_q1 o_q2 o_q3 o_q4 o_q5 o_q6 o_q7 o_q8 o_q9 o_q10 o_q11 o_q12 o_q13 o_q14 o_q15 o_q16 o_q17 o_q18 o_q19 o_q20 o_q21 o_q22 o_code o_tape o_size o_fault o_faultPlace o_many o_towns o_weeks o_logs o_reached o_length o_begins o_sort o_value o_word o_wrongAt o_laterFault o_laterPlace o_told o_read o_farOne o_good o_town o_people o_when o_sat o_quiet o_vain o_lent o_forgiven o_sundays o_purse o_beside o_debts o_sitting o_visited o_week o_heaps o_taken o_best o_more o_firstOne o_log o_fitting o_found o_seed o_row o_saved) (some (.int r)) := by
  refine Rd.ofZ (by decide) (Nat.le_of_ble_eq_true rfl) ?_
  intro p e s m args below meth c Q S hK hP hret ls hl
  have hl : lv_has ls 3 [(0, .ref o_q0), (1, .int p1)] := hl
  refine lv_iconst (v := 0) S.1 S.2.1 dX12_hateNone_0 ic_0 ?_
  refine lv_istore_n (lv' := [(2, .int (0 : Int32)), (0, .ref o_q0), (1, .int p1)]) S.1 S.2.1 dX12_hateNone_1 rfl hl (by decide) rfl (fun ls hl => ?_)
  obtain ⟨x3, hf_, hk3⟩ := bnd_e hf
  have hE3 : ∀ (v7 : Unit), x3 = .inr v7 → ∀ (ls : Array Slot), lv_has ls 3 [] → W p l e (rmD 1) s m args below meth c s.heap [] 0 0 Q (F0 m 39 ls []) := by
    intro v7 e_ ls hl
    subst e_
    have hf := cse_r hk3
    refine lv_iconst (v := 1) S.1 S.2.1 dX12_hateNone_39 ic_1 ?_
    have e_ := Option.some.inj hf
    subst e_
    exact hret _ _ (Or.inr rfl) dX12_hateNone_40
  refine lp_ind (P := fun (s2 : Int32) => ∀ (ls : Array Slot), lv_has ls 3 [(0, .ref o_q0), (1, .int p1), (2, .int s2)] → W p l e (rmD 1) s m args below meth c s.heap [] 0 0 Q (F0 m 2 ls [])) ?_ _ _ hf_ _ (lv_sub hl [1, 2, 0] rfl)
  intro s2 x4 hf hI3 hR3 ls hl
  refine lv_iload_n S.1 S.2.1 dX12_hateNone_2 rfl (lv_at hl 2 rfl) ?_
  refine lv_aload_n S.1 S.2.1 dX12_hateNone_3 rfl (lv_at hl 0 rfl) ?_
  refine gfX12_230 S hK hP 0 rfl rfl dX12_hateNone_4 ?_
  refine lv_icmp_ge (tgt := 39) S.1 S.2.1 dX12_hateNone_7 (by decide) (fun c_ => ?_) (fun c_ => ?_)
  · have hf := it_p c_ hf
    have e_ := hR3 _ (Option.some.inj hf).symm
    exact hE3 _ e_.symm _ (lv_sub hl [] rfl)
  · have hf := it_n c_ hf
    refine lv_iload_n S.1 S.2.1 dX12_hateNone_10 rfl (lv_at hl 1 rfl) ?_
    refine lv_iload_n S.1 S.2.1 dX12_hateNone_11 rfl (lv_at hl 2 rfl) ?_
    obtain ⟨x5, hx5, hf⟩ := bnd_e hf
    refine Rd.cS (c_X12_has hx5) S hK va_P.nil kSX12_82 rfl hl.1 [] rfl (Nat.le_of_ble_eq_true rfl) ⟨(Nat.le_of_ble_eq_true rfl), (Nat.le_of_ble_eq_true rfl)⟩ ⟨(Nat.zero_le _), (Nat.zero_le _)⟩ dX12_hateNone_12 ?_
    refine lv_if_eq (tgt := 33) S.1 S.2.1 dX12_hateNone_15 (by decide) (fun c_ => ?_) (fun c_ => ?_)
    · have hf := it_p c_ hf
      refine q_iinc (w := 1) (lv' := [(2, .int (s2 + 1)), (0, .ref o_q0), (1, .int p1)]) S dX12_hateNone_33 hl (k := 2) rfl ic_1 (by decide) rfl (fun ls hl => ?_)
      refine lv_goto (tgt := 2) S.1 S.2.1 dX12_hateNone_36 (by decide) ?_
      exact hI3 _ (Option.some.inj hf).symm _ (lv_sub hl [1, 2, 0] rfl)
    · have hf := it_n c_ hf
      refine lv_aload_n S.1 S.2.1 dX12_hateNone_18 rfl (lv_at hl 0 rfl) ?_
      refine lv_bipush (v := 13) S.1 S.2.1 dX12_hateNone_19 bp_13 ?_
      refine lv_iload_n S.1 S.2.1 dX12_hateNone_21 rfl (lv_at hl 2 rfl) ?_
      refine lv_iadd S.1 S.2.1 dX12_hateNone_22 ?_
      obtain ⟨x6, hx6, hf⟩ := bnd_e hf
      refine Rd.cV (c_X12_of hx6) S hK hP 0 10 rfl rfl kVX12_226 rfl hl.1 [] rfl (Nat.le_of_ble_eq_true rfl) ⟨(Nat.le_of_ble_eq_true rfl), (Nat.le_of_ble_eq_true rfl)⟩ ⟨(Nat.zero_le _), (Nat.zero_le _)⟩ dX12_hateNone_23 ?_
      refine lv_iload_n S.1 S.2.1 dX12_hateNone_26 rfl (lv_at hl 1 rfl) ?_
      refine lv_iand S.1 S.2.1 dX12_hateNone_27 ?_
      refine lv_if_eq (tgt := 33) S.1 S.2.1 dX12_hateNone_28 (by decide) (fun c_ => ?_) (fun c_ => ?_)
      · have hf := it_p c_ hf
        refine q_iinc (w := 1) (lv' := [(2, .int (s2 + 1)), (0, .ref o_q0), (1, .int p1)]) S dX12_hateNone_33 hl (k := 2) rfl ic_1 (by decide) rfl (fun ls hl => ?_)
        refine lv_goto (tgt := 2) S.1 S.2.1 dX12_hateNone_36 (by decide) ?_
        exact hI3 _ (Option.some.inj hf).symm _ (lv_sub hl [1, 2, 0] rfl)
      · have hf := it_n c_ hf
        refine lv_iconst (v := 0) S.1 S.2.1 dX12_hateNone_31 ic_0 ?_
        have e_ := hR3 _ (Option.some.inj hf).symm
        subst e_
        have hf := cse_l hk3
        have e_ := Option.some.inj hf
        subst e_
        exact hret _ _ (Or.inl rfl) dX12_hateNone_32
def f_X12_allOf (fu : Nat) (p1 : Int32) : Option (Int32) := some ((jrm p1 (100 : Int32)) ||| (jshl (1 : Int32) (p1 / (100 : Int32))))
set_option maxHeartbeats 4000000 in
set_option maxRecDepth 100000 in
theorem c_X12_allOf {l : Launch} {D : va_G} {g : Nat → ClassId} {fu : Nat} {p1 : Int32} {r : Int32} (hf : f_X12_allOf fu p1 = some r) : Rd l D (gy g) yX12_allOf cX12_allOf 1 (some .int) 0 [.int p1] ([] : va_W) (some (.int r)) := by
  refine Rd.ofI (by decide) (Nat.le_of_ble_eq_true rfl) ?_
  intro p e s m args below meth c Q S hK hP hret ls hl
  have hl : lv_has ls 1 [(0, .int p1)] := hl
  refine lv_iload_n S.1 S.2.1 dX12_allOf_0 rfl (lv_at hl 0 rfl) ?_
  refine lv_bipush (v := 100) S.1 S.2.1 dX12_allOf_1 bp_100 ?_
  refine lv_irem S.1 S.2.1 dX12_allOf_3 (by decide) ?_
  refine lv_iconst (v := 1) S.1 S.2.1 dX12_allOf_4 ic_1 ?_
  refine lv_iload_n S.1 S.2.1 dX12_allOf_5 rfl (lv_at hl 0 rfl) ?_
  refine lv_bipush (v := 100) S.1 S.2.1 dX12_allOf_6 bp_100 ?_
  refine lv_idiv S.1 S.2.1 dX12_allOf_8 (by decide) ?_
  refine lv_ishl S.1 S.2.1 dX12_allOf_9 ?_
  refine lv_ior S.1 S.2.1 dX12_allOf_10 ?_
  have e_ := Option.some.inj hf
  subst e_
  exact hret _ _ dX12_allOf_11
def f_X12_isFit_L36 (fu : Nat) (o_logs : (Nat → Int32)) (o_people : Int32) (o_log : Int32) (x3 : Int32) (s5 : Int32 × Int32) : Option ((Int32 × Int32) ⊕ (Int32)) := bnd (α := Int32) (f_X12_facts fu o_logs o_log) (fun x8 => if x8 ≤ s5.2 then some (.inr s5.1) else if s5.1 = 0 then some (.inr s5.1) else bnd (α := Int32) (f_X12_factOf fu o_logs o_log s5.2 (1 : Int32)) (fun x9 => bnd (α := Int32) (f_X12_factOf fu o_logs o_log s5.2 (2 : Int32)) (fun x10 => bnd (α := Int32) (f_X12_has fu x3 x9) (fun x11 => bnd (α := Int32) (if x11 = 0 then some (0 : Int32) else bnd (α := Int32) (f_X12_has fu x3 x10) (fun x19 => if x19 = 0 then some (0 : Int32) else some (1 : Int32))) (fun v13 => bnd (α := Int32) (f_X12_isPerson fu o_people x9) (fun x14 => if x14 = 0 then some (.inl ((0 : Int32), (s5.2 + 1))) else bnd (α := Int32) (f_X12_isPerson fu o_people x10) (fun x15 => if x15 = 0 then some (.inl ((0 : Int32), (s5.2 + 1))) else bnd (α := Int32) (f_X12_factOf fu o_logs o_log s5.2 (0 : Int32)) (fun x16 => bnd (α := Int32) (if x16 = 0 then some (1 : Int32) else some (0 : Int32)) (fun v18 => if v13 = v18 then some (.inl ((1 : Int32), (s5.2 + 1))) else some (.inl ((0 : Int32), (s5.2 + 1))))))))))))
def f_X12_isFit (fu : Nat) (o_towns : (Nat → Int32)) (o_logs : (Nat → Int32)) (o_town : Int32) (o_people : Int32) (o_log : Int32) (p1 : Int32) (p2 : Int32) : Option (Int32) := bnd (α := Int32) (if p2 = 0 then some (0 : Int32) else bnd (α := Int32) (f_X12_has fu p2 p1) (fun x22 => if x22 = 0 then bnd (α := Int32) (f_X12_hateNone fu o_towns o_town o_people p2) (fun x23 => if x23 = 0 then some (0 : Int32) else some (1 : Int32)) else some (0 : Int32))) (fun v2 => ltn (p2 ||| (jshl (1 : Int32) p1)) (fun x3 => bnd (α := Int32) (lp (f_X12_isFit_L36 fu o_logs o_people o_log x3) fu (v2, (0 : Int32))) (fun v20 => bnd (α := Int32) (bz v20) (fun z21 => some z21))))
set_option maxHeartbeats 4000000 in
set_option maxRecDepth 100000 in
theorem c_X12_isFit {l : Launch} {D : va_G} {g : Nat → ClassId} {fu : Nat} {o_q0 o_q1 o_q2 o_q3 o_q4 o_q5 o_q6 o_q7 o_q8 o_q9 o_q10 o_q11 o_q12 o_q13 o_q14 o_q15 o_q16 o_q17 o_q18 o_q19 o_q20 o_q21 o_q22 : Nat} {o_code : Int32} {o_tape : (Nat → Int32)} {o_size : (Nat → Int32)} {o_fault : (Nat → Int32)} {o_faultPlace : (Nat → Int32)} {o_many : (Nat → Int32)} {o_towns : (Nat → Int32)} {o_weeks : (Nat → Int32)} {o_logs : (Nat → Int32)} {o_reached : Int32} {o_length : Int32} {o_begins : Int32} {o_sort : Int32} {o_value : Int32} {o_word : Int64} {o_wrongAt : Int32} {o_laterFault : Int32} {o_laterPlace : Int32} {o_told : (Nat → Int32)} {o_read : (Nat → Int32)} {o_farOne : Int32} {o_good : Int32} {o_town : Int32} {o_people : Int32} {o_when : Int32} {o_sat : Int32} {o_quiet : Int32} {o_vain : Int32} {o_lent : Int32} {o_forgiven : Int32} {o_sundays : Int32} {o_purse : (Nat → Int32)} {o_beside : (Nat → Int32)} {o_debts : (Nat → Int32)} {o_sitting : (Nat → Int32)} {o_visited : (Nat → Int32)} {o_week : Int32} {o_heaps : (Nat → Int32)} {o_taken : (Nat → Int32)} {o_best : (Nat → Int32)} {o_more : (Nat → Int32)} {o_firstOne : Int32} {o_log : Int32} {o_fitting : (Nat → Int32)} {o_found : Int32} {o_seed : Int32} {o_row : (Nat → Int32)} {o_saved : (Nat → Int32)} {p1 : Int32} {p2 : Int32} {r : Int32} (hf : f_X12_isFit fu o_towns o_logs o_town o_people o_log p1 p2 = some r) : Rd l D (gy g) yX12_isFit cX12_isFit 9 (some .boolean) 2 [.ref o_q0, .int p1, .int p2] (wMd g o_q0 o_q1 o_q2 o_q3 o_q4 o_q5 o_q6 o_q7 o_q8 o_q9 o_q10 o_q11 o_q12 o_q13 o_q14 o_q15 o_q16 o_q17 o_q18 o_q19 o_q20 o_q21 o_q22 o_code o_tape o_size o_fault o_faultPlace o_many o_towns o_weeks o_logs o_reached o_length o_begins o_sort o_value o_word o_wrongAt o_laterFault o_laterPlace o_told o_read o_farOne o_good o_town o_people o_when o_sat o_quiet o_vain o_lent o_forgiven o_sundays o_purse o_beside o_debts o_sitting o_visited o_week o_heaps o_taken o_best o_more o_firstOne o_log o_fitting o_found o_seed o_row o_saved) (some (.int r)) := by
  refine Rd.ofZ (by decide) (Nat.le_of_ble_eq_true rfl) ?_
  intro p e s m args below meth c Q S hK hP hret ls hl
  have hl : lv_has ls 9 [(0, .ref o_q0), (1, .int p1), (2, .int p2)] := hl
  refine lv_iload_n S.1 S.2.1 dX12_isFit_0 rfl (lv_at hl 2 rfl) ?_
  obtain ⟨x1, hf_, hk1⟩ := bnd_e hf
  have hJ1 : ∀ (v2 : Int32), v2 = x1 → ∀ (ls : Array Slot), lv_has ls 9 [(0, .ref o_q0), (1, .int p1), (2, .int p2)] → W p l e (rmD 2) s m args below meth c s.heap [] 0 0 Q (F0 m 25 ls [.int v2]) := by
    intro v2 e_ ls hl
    subst e_
    have hf := hk1
    refine lv_istore_n (lv' := [(3, .int v2), (0, .ref o_q0), (1, .int p1), (2, .int p2)]) S.1 S.2.1 dX12_isFit_25 rfl hl (by decide) rfl (fun ls hl => ?_)
    refine lv_iload_n S.1 S.2.1 dX12_isFit_26 rfl (lv_at hl 3 rfl) ?_
    refine lv_iconst (v := 1) S.1 S.2.1 dX12_isFit_27 ic_1 ?_
    refine lv_iload_n S.1 S.2.1 dX12_isFit_28 rfl (lv_at hl 2 rfl) ?_
    refine lv_ishl S.1 S.2.1 dX12_isFit_29 ?_
    refine lv_ior S.1 S.2.1 dX12_isFit_30 ?_
    refine lv_topi (fun x3 ex3 => ?_)
    have hf := ltn_e hf ex3
    refine lv_istore (lv' := [(4, .int x3), (3, .int v2), (0, .ref o_q0), (1, .int p1), (2, .int p2)]) S.1 S.2.1 dX12_isFit_31 hl (by decide) rfl (fun ls hl => ?_)
    refine lv_iconst (v := 0) S.1 S.2.1 dX12_isFit_33 ic_0 ?_
    refine lv_istore (lv' := [(5, .int (0 : Int32)), (4, .int x3), (3, .int v2), (0, .ref o_q0), (1, .int p1), (2, .int p2)]) S.1 S.2.1 dX12_isFit_34 hl (by decide) rfl (fun ls hl => ?_)
    obtain ⟨x6, hf_, hk6⟩ := bnd_e hf
    have hE6 : ∀ (v20 : Int32), v20 = x6 → ∀ (ls : Array Slot), lv_has ls 9 [(3, .int v20)] → W p l e (rmD 2) s m args below meth c s.heap [] 0 0 Q (F0 m 144 ls []) := by
      intro v20 e_ ls hl
      subst e_
      have hf := hk6
      refine lv_iload_n S.1 S.2.1 dX12_isFit_144 rfl (lv_at hl 0 rfl) ?_
      obtain ⟨z21, hz21, hf⟩ := bnd_e hf
      obtain ⟨hzz21, ezz21⟩ := bz_e hz21
      rw [ezz21]
      have e_ := Option.some.inj hf
      subst e_
      exact hret _ _ hzz21 dX12_isFit_145
    refine lp_ind (P := fun (s5 : Int32 × Int32) => ∀ (ls : Array Slot), lv_has ls 9 [(0, .ref o_q0), (3, .int s5.1), (4, .int x3), (5, .int s5.2)] → W p l e (rmD 2) s m args below meth c s.heap [] 0 0 Q (F0 m 36 ls [])) ?_ _ _ hf_ _ (lv_sub hl [3, 2, 1, 0] rfl)
    intro s5 x7 hf hI6 hR6 ls hl
    refine lv_iload S.1 S.2.1 dX12_isFit_36 (lv_at hl 3 rfl) ?_
    refine lv_aload_n S.1 S.2.1 dX12_isFit_38 rfl (lv_at hl 0 rfl) ?_
    obtain ⟨x8, hx8, hf⟩ := bnd_e hf
    refine Rd.cV (c_X12_facts hx8) S hK hP 0 10 rfl rfl kVX12_389 rfl hl.1 [.int s5.2] rfl (Nat.le_of_ble_eq_true rfl) ⟨(Nat.le_of_ble_eq_true rfl), (Nat.le_of_ble_eq_true rfl)⟩ ⟨(Nat.zero_le _), (Nat.zero_le _)⟩ dX12_isFit_39 ?_
    refine lv_icmp_ge (tgt := 144) S.1 S.2.1 dX12_isFit_42 (by decide) (fun c_ => ?_) (fun c_ => ?_)
    · have hf := it_p c_ hf
      have e_ := hR6 _ (Option.some.inj hf).symm
      exact hE6 _ e_ _ (lv_sub hl [1] rfl)
    · have hf := it_n c_ hf
      refine lv_iload_n S.1 S.2.1 dX12_isFit_45 rfl (lv_at hl 1 rfl) ?_
      refine lv_if_eq (tgt := 144) S.1 S.2.1 dX12_isFit_46 (by decide) (fun c_ => ?_) (fun c_ => ?_)
      · have hf := it_p c_ hf
        have e_ := hR6 _ (Option.some.inj hf).symm
        exact hE6 _ e_ _ (lv_sub hl [1] rfl)
      · have hf := it_n c_ hf
        refine lv_aload_n S.1 S.2.1 dX12_isFit_49 rfl (lv_at hl 0 rfl) ?_
        refine lv_iload S.1 S.2.1 dX12_isFit_50 (lv_at hl 3 rfl) ?_
        refine lv_iconst (v := 1) S.1 S.2.1 dX12_isFit_52 ic_1 ?_
        obtain ⟨x9, hx9, hf⟩ := bnd_e hf
        refine Rd.cV (c_X12_factOf hx9) S hK hP 0 10 rfl rfl kVX12_392 rfl hl.1 [] rfl (Nat.le_of_ble_eq_true rfl) ⟨(Nat.le_of_ble_eq_true rfl), (Nat.le_of_ble_eq_true rfl)⟩ ⟨(Nat.zero_le _), (Nat.zero_le _)⟩ dX12_isFit_53 ?_
        refine lv_istore (lv' := [(6, .int x9), (0, .ref o_q0), (3, .int s5.1), (4, .int x3), (5, .int s5.2)]) S.1 S.2.1 dX12_isFit_56 hl (by decide) rfl (fun ls hl => ?_)
        refine lv_aload_n S.1 S.2.1 dX12_isFit_58 rfl (lv_at hl 1 rfl) ?_
        refine lv_iload S.1 S.2.1 dX12_isFit_59 (lv_at hl 4 rfl) ?_
        refine lv_iconst (v := 2) S.1 S.2.1 dX12_isFit_61 ic_2 ?_
        obtain ⟨x10, hx10, hf⟩ := bnd_e hf
        refine Rd.cV (c_X12_factOf hx10) S hK hP 0 10 rfl rfl kVX12_392 rfl hl.1 [] rfl (Nat.le_of_ble_eq_true rfl) ⟨(Nat.le_of_ble_eq_true rfl), (Nat.le_of_ble_eq_true rfl)⟩ ⟨(Nat.zero_le _), (Nat.zero_le _)⟩ dX12_isFit_62 ?_
        refine lv_istore (lv' := [(7, .int x10), (6, .int x9), (0, .ref o_q0), (3, .int s5.1), (4, .int x3), (5, .int s5.2)]) S.1 S.2.1 dX12_isFit_65 hl (by decide) rfl (fun ls hl => ?_)
        refine lv_iload S.1 S.2.1 dX12_isFit_67 (lv_at hl 4 rfl) ?_
        refine lv_iload S.1 S.2.1 dX12_isFit_69 (lv_at hl 1 rfl) ?_
        obtain ⟨x11, hx11, hf⟩ := bnd_e hf
        refine Rd.cS (c_X12_has hx11) S hK va_P.nil kSX12_82 rfl hl.1 [] rfl (Nat.le_of_ble_eq_true rfl) ⟨(Nat.le_of_ble_eq_true rfl), (Nat.le_of_ble_eq_true rfl)⟩ ⟨(Nat.zero_le _), (Nat.zero_le _)⟩ dX12_isFit_71 ?_
        obtain ⟨x12, hf_, hk12⟩ := bnd_e hf
        have hJ12 : ∀ (v13 : Int32), v13 = x12 → ∀ (ls : Array Slot), lv_has ls 9 [(0, .ref o_q0), (4, .int x3), (5, .int s5.2), (6, .int x9), (7, .int x10)] → W p l e (rmD 2) s m args below meth c s.heap [] 0 0 Q (F0 m 92 ls [.int v13]) := by
          intro v13 e_ ls hl
          subst e_
          have hf := hk12
          refine lv_istore (lv' := [(8, .int v13), (0, .ref o_q0), (4, .int x3), (5, .int s5.2), (6, .int x9), (7, .int x10)]) S.1 S.2.1 dX12_isFit_92 hl (by decide) rfl (fun ls hl => ?_)
          refine lv_aload_n S.1 S.2.1 dX12_isFit_94 rfl (lv_at hl 1 rfl) ?_
          refine lv_iload S.1 S.2.1 dX12_isFit_95 (lv_at hl 4 rfl) ?_
          obtain ⟨x14, hx14, hf⟩ := bnd_e hf
          refine Rd.cV (c_X12_isPerson hx14) S hK hP 0 10 rfl rfl kVX12_260 rfl hl.1 [] rfl (Nat.le_of_ble_eq_true rfl) ⟨(Nat.le_of_ble_eq_true rfl), (Nat.le_of_ble_eq_true rfl)⟩ ⟨(Nat.zero_le _), (Nat.zero_le _)⟩ dX12_isFit_97 ?_
          refine lv_if_eq (tgt := 136) S.1 S.2.1 dX12_isFit_100 (by decide) (fun c_ => ?_) (fun c_ => ?_)
          · have hf := it_p c_ hf
            refine lv_iconst (v := 0) S.1 S.2.1 dX12_isFit_136 ic_0 ?_
            refine lv_istore_n (lv' := [(3, .int (0 : Int32)), (8, .int v13), (0, .ref o_q0), (4, .int x3), (5, .int s5.2), (6, .int x9), (7, .int x10)]) S.1 S.2.1 dX12_isFit_137 rfl hl (by decide) rfl (fun ls hl => ?_)
            refine q_iinc (w := 1) (lv' := [(5, .int (s5.2 + 1)), (3, .int (0 : Int32)), (8, .int v13), (0, .ref o_q0), (4, .int x3), (6, .int x9), (7, .int x10)]) S dX12_isFit_138 hl (k := 4) rfl ic_1 (by decide) rfl (fun ls hl => ?_)
            refine lv_goto (tgt := 36) S.1 S.2.1 dX12_isFit_141 (by decide) ?_
            exact hI6 _ (Option.some.inj hf).symm _ (lv_sub hl [3, 1, 4, 0] rfl)
          · have hf := it_n c_ hf
            refine lv_aload_n S.1 S.2.1 dX12_isFit_103 rfl (lv_at hl 1 rfl) ?_
            refine lv_iload S.1 S.2.1 dX12_isFit_104 (lv_at hl 5 rfl) ?_
            obtain ⟨x15, hx15, hf⟩ := bnd_e hf
            refine Rd.cV (c_X12_isPerson hx15) S hK hP 0 10 rfl rfl kVX12_260 rfl hl.1 [] rfl (Nat.le_of_ble_eq_true rfl) ⟨(Nat.le_of_ble_eq_true rfl), (Nat.le_of_ble_eq_true rfl)⟩ ⟨(Nat.zero_le _), (Nat.zero_le _)⟩ dX12_isFit_106 ?_
            refine lv_if_eq (tgt := 136) S.1 S.2.1 dX12_isFit_109 (by decide) (fun c_ => ?_) (fun c_ => ?_)
            · have hf := it_p c_ hf
              refine lv_iconst (v := 0) S.1 S.2.1 dX12_isFit_136 ic_0 ?_
              refine lv_istore_n (lv' := [(3, .int (0 : Int32)), (8, .int v13), (0, .ref o_q0), (4, .int x3), (5, .int s5.2), (6, .int x9), (7, .int x10)]) S.1 S.2.1 dX12_isFit_137 rfl hl (by decide) rfl (fun ls hl => ?_)
              refine q_iinc (w := 1) (lv' := [(5, .int (s5.2 + 1)), (3, .int (0 : Int32)), (8, .int v13), (0, .ref o_q0), (4, .int x3), (6, .int x9), (7, .int x10)]) S dX12_isFit_138 hl (k := 4) rfl ic_1 (by decide) rfl (fun ls hl => ?_)
              refine lv_goto (tgt := 36) S.1 S.2.1 dX12_isFit_141 (by decide) ?_
              exact hI6 _ (Option.some.inj hf).symm _ (lv_sub hl [3, 1, 4, 0] rfl)
            · have hf := it_n c_ hf
              refine lv_iload S.1 S.2.1 dX12_isFit_112 (lv_at hl 0 rfl) ?_
              refine lv_aload_n S.1 S.2.1 dX12_isFit_114 rfl (lv_at hl 1 rfl) ?_
              refine lv_iload S.1 S.2.1 dX12_isFit_115 (lv_at hl 3 rfl) ?_
              refine lv_iconst (v := 0) S.1 S.2.1 dX12_isFit_117 ic_0 ?_
              obtain ⟨x16, hx16, hf⟩ := bnd_e hf
              refine Rd.cV (c_X12_factOf hx16) S hK hP 0 10 rfl rfl kVX12_392 rfl hl.1 [.int v13] rfl (Nat.le_of_ble_eq_true rfl) ⟨(Nat.le_of_ble_eq_true rfl), (Nat.le_of_ble_eq_true rfl)⟩ ⟨(Nat.zero_le _), (Nat.zero_le _)⟩ dX12_isFit_118 ?_
              obtain ⟨x17, hf_, hk17⟩ := bnd_e hf
              have hJ17 : ∀ (v18 : Int32), v18 = x17 → ∀ (ls : Array Slot), lv_has ls 9 [(0, .ref o_q0), (4, .int x3), (5, .int s5.2)] → W p l e (rmD 2) s m args below meth c s.heap [] 0 0 Q (F0 m 129 ls [.int v18, .int v13]) := by
                intro v18 e_ ls hl
                subst e_
                have hf := hk17
                refine lv_icmp_ne (tgt := 136) S.1 S.2.1 dX12_isFit_129 (by decide) (fun c_ => ?_) (fun c_ => ?_)
                · have hf := it_n c_ hf
                  refine lv_iconst (v := 0) S.1 S.2.1 dX12_isFit_136 ic_0 ?_
                  refine lv_istore_n (lv' := [(3, .int (0 : Int32)), (0, .ref o_q0), (4, .int x3), (5, .int s5.2)]) S.1 S.2.1 dX12_isFit_137 rfl hl (by decide) rfl (fun ls hl => ?_)
                  refine q_iinc (w := 1) (lv' := [(5, .int (s5.2 + 1)), (3, .int (0 : Int32)), (0, .ref o_q0), (4, .int x3)]) S dX12_isFit_138 hl (k := 3) rfl ic_1 (by decide) rfl (fun ls hl => ?_)
                  refine lv_goto (tgt := 36) S.1 S.2.1 dX12_isFit_141 (by decide) ?_
                  exact hI6 _ (Option.some.inj hf).symm _ (lv_sub hl [2, 1, 3, 0] rfl)
                · have hf := it_p c_ hf
                  refine lv_iconst (v := 1) S.1 S.2.1 dX12_isFit_132 ic_1 ?_
                  refine lv_goto (tgt := 137) S.1 S.2.1 dX12_isFit_133 (by decide) ?_
                  refine lv_istore_n (lv' := [(3, .int (1 : Int32)), (0, .ref o_q0), (4, .int x3), (5, .int s5.2)]) S.1 S.2.1 dX12_isFit_137 rfl hl (by decide) rfl (fun ls hl => ?_)
                  refine q_iinc (w := 1) (lv' := [(5, .int (s5.2 + 1)), (3, .int (1 : Int32)), (0, .ref o_q0), (4, .int x3)]) S dX12_isFit_138 hl (k := 3) rfl ic_1 (by decide) rfl (fun ls hl => ?_)
                  refine lv_goto (tgt := 36) S.1 S.2.1 dX12_isFit_141 (by decide) ?_
                  exact hI6 _ (Option.some.inj hf).symm _ (lv_sub hl [2, 1, 3, 0] rfl)
              have hf := hf_
              refine lv_if_ne (tgt := 128) S.1 S.2.1 dX12_isFit_121 (by decide) (fun c_ => ?_) (fun c_ => ?_)
              · have hf := it_n c_ hf
                refine lv_iconst (v := 0) S.1 S.2.1 dX12_isFit_128 ic_0 ?_
                exact hJ17 _ (Option.some.inj hf) _ (lv_sub hl [1, 2, 3] rfl)
              · have hf := it_p c_ hf
                refine lv_iconst (v := 1) S.1 S.2.1 dX12_isFit_124 ic_1 ?_
                refine lv_goto (tgt := 129) S.1 S.2.1 dX12_isFit_125 (by decide) ?_
                exact hJ17 _ (Option.some.inj hf) _ (lv_sub hl [1, 2, 3] rfl)
        have hf := hf_
        refine lv_if_eq (tgt := 91) S.1 S.2.1 dX12_isFit_74 (by decide) (fun c_ => ?_) (fun c_ => ?_)
        · have hf := it_p c_ hf
          refine lv_iconst (v := 0) S.1 S.2.1 dX12_isFit_91 ic_0 ?_
          exact hJ12 _ (Option.some.inj hf) _ (lv_sub hl [2, 4, 5, 1, 0] rfl)
        · have hf := it_n c_ hf
          refine lv_iload S.1 S.2.1 dX12_isFit_77 (lv_at hl 4 rfl) ?_
          refine lv_iload S.1 S.2.1 dX12_isFit_79 (lv_at hl 0 rfl) ?_
          obtain ⟨x19, hx19, hf⟩ := bnd_e hf
          refine Rd.cS (c_X12_has hx19) S hK va_P.nil kSX12_82 rfl hl.1 [] rfl (Nat.le_of_ble_eq_true rfl) ⟨(Nat.le_of_ble_eq_true rfl), (Nat.le_of_ble_eq_true rfl)⟩ ⟨(Nat.zero_le _), (Nat.zero_le _)⟩ dX12_isFit_81 ?_
          refine lv_if_eq (tgt := 91) S.1 S.2.1 dX12_isFit_84 (by decide) (fun c_ => ?_) (fun c_ => ?_)
          · have hf := it_p c_ hf
            refine lv_iconst (v := 0) S.1 S.2.1 dX12_isFit_91 ic_0 ?_
            exact hJ12 _ (Option.some.inj hf) _ (lv_sub hl [2, 4, 5, 1, 0] rfl)
          · have hf := it_n c_ hf
            refine lv_iconst (v := 1) S.1 S.2.1 dX12_isFit_87 ic_1 ?_
            refine lv_goto (tgt := 92) S.1 S.2.1 dX12_isFit_88 (by decide) ?_
            exact hJ12 _ (Option.some.inj hf) _ (lv_sub hl [2, 4, 5, 1, 0] rfl)
  have hf := hf_
  refine lv_if_eq (tgt := 24) S.1 S.2.1 dX12_isFit_1 (by decide) (fun c_ => ?_) (fun c_ => ?_)
  · have hf := it_p c_ hf
    refine lv_iconst (v := 0) S.1 S.2.1 dX12_isFit_24 ic_0 ?_
    exact hJ1 _ (Option.some.inj hf) _ (lv_sub hl [0, 1, 2] rfl)
  · have hf := it_n c_ hf
    refine lv_iload_n S.1 S.2.1 dX12_isFit_4 rfl (lv_at hl 2 rfl) ?_
    refine lv_iload_n S.1 S.2.1 dX12_isFit_5 rfl (lv_at hl 1 rfl) ?_
    obtain ⟨x22, hx22, hf⟩ := bnd_e hf
    refine Rd.cS (c_X12_has hx22) S hK va_P.nil kSX12_82 rfl hl.1 [] rfl (Nat.le_of_ble_eq_true rfl) ⟨(Nat.le_of_ble_eq_true rfl), (Nat.le_of_ble_eq_true rfl)⟩ ⟨(Nat.zero_le _), (Nat.zero_le _)⟩ dX12_isFit_6 ?_
    refine lv_if_ne (tgt := 24) S.1 S.2.1 dX12_isFit_9 (by decide) (fun c_ => ?_) (fun c_ => ?_)
    · have hf := it_n c_ hf
      refine lv_iconst (v := 0) S.1 S.2.1 dX12_isFit_24 ic_0 ?_
      exact hJ1 _ (Option.some.inj hf) _ (lv_sub hl [0, 1, 2] rfl)
    · have hf := it_p c_ hf
      refine lv_aload_n S.1 S.2.1 dX12_isFit_12 rfl (lv_at hl 0 rfl) ?_
      refine lv_iload_n S.1 S.2.1 dX12_isFit_13 rfl (lv_at hl 2 rfl) ?_
      obtain ⟨x23, hx23, hf⟩ := bnd_e hf
      refine Rd.cV (c_X12_hateNone hx23) S hK hP 0 10 rfl rfl kVX12_395 rfl hl.1 [] rfl (Nat.le_of_ble_eq_true rfl) ⟨(Nat.le_of_ble_eq_true rfl), (Nat.le_of_ble_eq_true rfl)⟩ ⟨(Nat.zero_le _), (Nat.zero_le _)⟩ dX12_isFit_14 ?_
      refine lv_if_eq (tgt := 24) S.1 S.2.1 dX12_isFit_17 (by decide) (fun c_ => ?_) (fun c_ => ?_)
      · have hf := it_p c_ hf
        refine lv_iconst (v := 0) S.1 S.2.1 dX12_isFit_24 ic_0 ?_
        exact hJ1 _ (Option.some.inj hf) _ (lv_sub hl [0, 1, 2] rfl)
      · have hf := it_n c_ hf
        refine lv_iconst (v := 1) S.1 S.2.1 dX12_isFit_20 ic_1 ?_
        refine lv_goto (tgt := 25) S.1 S.2.1 dX12_isFit_21 (by decide) ?_
        exact hJ1 _ (Option.some.inj hf) _ (lv_sub hl [0, 1, 2] rfl)
def f_X12_layLog_L36 (fu : Nat) (o_towns : (Nat → Int32)) (o_logs : (Nat → Int32)) (x1 : Int32 × Int32) (x2 : Int32 × Int32 × Int32 × Int32 × Int32 × Int32 × Int32 × Int32 × Int32 × Int32 × (Nat → Int32) × (Nat → Int32) × (Nat → Int32) × (Nat → Int32) × (Nat → Int32)) (s4 : Int32 × (Nat → Int32) × Int32) (s8 : Int32 × (Nat → Int32) × Int32) : Option ((Int32 × (Nat → Int32) × Int32) ⊕ ((Nat → Int32) × Int32)) := if (jshl (1 : Int32) x2.2.2.1) ≤ s8.1 then some (.inr (s8.2.1, s8.2.2)) else bnd (α := Int32) (f_X12_isFit fu o_towns o_logs x2.2.1 x2.2.2.1 x1.2 s4.1 s8.1) (fun x11 => if x11 = 0 then some (.inl ((s8.1 + 1), s8.2.1, s8.2.2)) else ltn (((100 : Int32) * s4.1) + s8.1) (fun x12 => bnd (α := (Nat → Int32)) (wri 192 s8.2.1 s8.2.2 x12) (fun x13 => ltn (s8.2.2 + (1 : Int32)) (fun x14 => some (.inl ((s8.1 + 1), x13, x14))))))
def f_X12_layLog_L25 (fu : Nat) (o_towns : (Nat → Int32)) (o_logs : (Nat → Int32)) (x1 : Int32 × Int32) (x2 : Int32 × Int32 × Int32 × Int32 × Int32 × Int32 × Int32 × Int32 × Int32 × Int32 × (Nat → Int32) × (Nat → Int32) × (Nat → Int32) × (Nat → Int32) × (Nat → Int32)) (s4 : Int32 × (Nat → Int32) × Int32) : Option ((Int32 × (Nat → Int32) × Int32) ⊕ ((Nat → Int32) × Int32)) := if x2.2.2.1 ≤ s4.1 then some (.inr (s4.2.1, s4.2.2)) else bnd (α := (Nat → Int32) × Int32) (lp (f_X12_layLog_L36 fu o_towns o_logs x1 x2 s4) fu ((1 : Int32), s4.2.1, s4.2.2)) (fun v15 => some (.inl ((s4.1 + 1), v15.1, v15.2)))
def f_X12_layLog (fu : Nat) (o_many : (Nat → Int32)) (o_towns : (Nat → Int32)) (o_logs : (Nat → Int32)) (o_town : Int32) (o_people : Int32) (o_when : Int32) (o_sat : Int32) (o_quiet : Int32) (o_vain : Int32) (o_lent : Int32) (o_forgiven : Int32) (o_sundays : Int32) (o_purse : (Nat → Int32)) (o_beside : (Nat → Int32)) (o_debts : (Nat → Int32)) (o_sitting : (Nat → Int32)) (o_visited : (Nat → Int32)) (o_log : Int32) (o_fitting : (Nat → Int32)) (o_found : Int32) (p1 : Int32) (p2 : Int32) : Option (Int32 × Int32 × Int32 × Int32 × Int32 × Int32 × Int32 × Int32 × Int32 × Int32 × (Nat → Int32) × (Nat → Int32) × (Nat → Int32) × (Nat → Int32) × (Nat → Int32) × Int32 × (Nat → Int32) × Int32) := bnd (α := Int32 × Int32) (f_X12_hasLog fu o_many o_log p2) (fun x1 => if x1.1 = 0 then some ((0 : Int32), o_town, o_people, o_when, o_sat, o_quiet, o_vain, o_lent, o_forgiven, o_sundays, o_purse, o_beside, o_debts, o_sitting, o_visited, x1.2, o_fitting, o_found) else bnd (α := Int32 × Int32 × Int32 × Int32 × Int32 × Int32 × Int32 × Int32 × Int32 × Int32 × (Nat → Int32) × (Nat → Int32) × (Nat → Int32) × (Nat → Int32) × (Nat → Int32)) (f_X12_hand fu o_many o_towns o_town o_people o_when o_sat o_quiet o_vain o_lent o_forgiven o_sundays o_purse o_beside o_debts o_sitting o_visited p1) (fun x2 => if x2.1 = 0 then some ((0 : Int32), x2.2.1, x2.2.2.1, x2.2.2.2.1, x2.2.2.2.2.1, x2.2.2.2.2.2.1, x2.2.2.2.2.2.2.1, x2.2.2.2.2.2.2.2.1, x2.2.2.2.2.2.2.2.2.1, x2.2.2.2.2.2.2.2.2.2.1, x2.2.2.2.2.2.2.2.2.2.2.1, x2.2.2.2.2.2.2.2.2.2.2.2.1, x2.2.2.2.2.2.2.2.2.2.2.2.2.1, x2.2.2.2.2.2.2.2.2.2.2.2.2.2.1, x2.2.2.2.2.2.2.2.2.2.2.2.2.2.2, x1.2, o_fitting, o_found) else bnd (α := (Nat → Int32) × Int32) (lp (f_X12_layLog_L25 fu o_towns o_logs x1 x2) fu ((0 : Int32), o_fitting, (0 : Int32))) (fun v16 => some ((1 : Int32), x2.2.1, x2.2.2.1, x2.2.2.2.1, x2.2.2.2.2.1, x2.2.2.2.2.2.1, x2.2.2.2.2.2.2.1, x2.2.2.2.2.2.2.2.1, x2.2.2.2.2.2.2.2.2.1, x2.2.2.2.2.2.2.2.2.2.1, x2.2.2.2.2.2.2.2.2.2.2.1, x2.2.2.2.2.2.2.2.2.2.2.2.1, x2.2.2.2.2.2.2.2.2.2.2.2.2.1, x2.2.2.2.2.2.2.2.2.2.2.2.2.2.1, x2.2.2.2.2.2.2.2.2.2.2.2.2.2.2, x1.2, v16.1, v16.2))))
set_option maxHeartbeats 4000000 in
set_option maxRecDepth 100000 in
theorem c_X12_layLog {l : Launch} {D : va_G} {g : Nat → ClassId} {fu : Nat} {o_q0 o_q1 o_q2 o_q3 o_q4 o_q5 o_q6 o_q7 o_q8 o_q9 o_q10 o_q11 o_q12 o_q13 o_q14 o_q15 o_q16 o_q17 o_q18 o_q19 o_q20 o_q21 o_q22 : Nat} {o_code : Int32} {o_tape : (Nat → Int32)} {o_size : (Nat → Int32)} {o_fault : (Nat → Int32)} {o_faultPlace : (Nat → Int32)} {o_many : (Nat → Int32)} {o_towns : (Nat → Int32)} {o_weeks : (Nat → Int32)} {o_logs : (Nat → Int32)} {o_reached : Int32} {o_length : Int32} {o_begins : Int32} {o_sort : Int32} {o_value : Int32} {o_word : Int64} {o_wrongAt : Int32} {o_laterFault : Int32} {o_laterPlace : Int32} {o_told : (Nat → Int32)} {o_read : (Nat → Int32)} {o_farOne : Int32} {o_good : Int32} {o_town : Int32} {o_people : Int32} {o_when : Int32} {o_sat : Int32} {o_quiet : Int32} {o_vain : Int32} {o_lent : Int32} {o_forgiven : Int32} {o_sundays : Int32} {o_purse : (Nat → Int32)} {o_beside : (Nat → Int32)} {o_debts : (Nat → Int32)} {o_sitting : (Nat → Int32)} {o_visited : (Nat → Int32)} {o_week : Int32} {o_heaps : (Nat → Int32)} {o_taken : (Nat → Int32)} {o_best : (Nat → Int32)} {o_more : (Nat → Int32)} {o_firstOne : Int32} {o_log : Int32} {o_fitting : (Nat → Int32)} {o_found : Int32} {o_seed : Int32} {o_row : (Nat → Int32)} {o_saved : (Nat → Int32)} {p1 : Int32} {p2 : Int32} {r : Int32 × Int32 × Int32 × Int32 × Int32 × Int32 × Int32 × Int32 × Int32 × Int32 × (Nat → Int32) × (Nat → Int32) × (Nat → Int32) × (Nat → Int32) × (Nat → Int32) × Int32 × (Nat → Int32) × Int32} (hf : f_X12_layLog fu o_many o_towns o_logs o_town o_people o_when o_sat o_quiet o_vain o_lent o_forgiven o_sundays o_purse o_beside o_debts o_sitting o_visited o_log o_fitting o_found p1 p2 = some r) : Wr l D (gy g) yX12_layLog cX12_layLog 5 (some .boolean) 3 [.ref o_q0, .int p1, .int p2] (wMd g o_q0 o_q1 o_q2 o_q3 o_q4 o_q5 o_q6 o_q7 o_q8 o_q9 o_q10 o_q11 o_q12 o_q13 o_q14 o_q15 o_q16 o_q17 o_q18 o_q19 o_q20 o_q21 o_q22 o_code o_tape o_size o_fault o_faultPlace o_many o_towns o_weeks o_logs o_reached o_length o_begins o_sort o_value o_word o_wrongAt o_laterFault o_laterPlace o_told o_read o_farOne o_good o_town o_people o_when o_sat o_quiet o_vain o_lent o_forgiven o_sundays o_purse o_beside o_debts o_sitting o_visited o_week o_heaps o_taken o_best o_more o_firstOne o_log o_fitting o_found o_seed o_row o_saved) (wMd g o_q0 o_q1 o_q2 o_q3 o_q4 o_q5 o_q6 o_q7 o_q8 o_q9 o_q10 o_q11 o_q12 o_q13 o_q14 o_q15 o_q16 o_q17 o_q18 o_q19 o_q20 o_q21 o_q22 o_code o_tape o_size o_fault o_faultPlace o_many o_towns o_weeks o_logs o_reached o_length o_begins o_sort o_value o_word o_wrongAt o_laterFault o_laterPlace o_told o_read o_farOne o_good r.2.1 r.2.2.1 r.2.2.2.1 r.2.2.2.2.1 r.2.2.2.2.2.1 r.2.2.2.2.2.2.1 r.2.2.2.2.2.2.2.1 r.2.2.2.2.2.2.2.2.1 r.2.2.2.2.2.2.2.2.2.1 r.2.2.2.2.2.2.2.2.2.2.1 r.2.2.2.2.2.2.2.2.2.2.2.1 r.2.2.2.2.2.2.2.2.2.2.2.2.1 r.2.2.2.2.2.2.2.2.2.2.2.2.2.1 r.2.2.2.2.2.2.2.2.2.2.2.2.2.2.1 o_week o_heaps o_taken o_best o_more o_firstOne r.2.2.2.2.2.2.2.2.2.2.2.2.2.2.2.1 r.2.2.2.2.2.2.2.2.2.2.2.2.2.2.2.2.1 r.2.2.2.2.2.2.2.2.2.2.2.2.2.2.2.2.2 o_seed o_row o_saved) (some (.int r.1)) := by
  refine Wr.ofZ (by decide) (Nat.le_of_ble_eq_true rfl) ?_
  intro p e s m args below meth c Q A S hK hA hret ls hl hW
  have hl : lv_has ls 5 [(0, .ref o_q0), (1, .int p1), (2, .int p2)] := hl
  refine lv_aload_n S.1 S.2.1 dX12_layLog_0 rfl (lv_at hl 0 rfl) ?_
  refine lv_iload_n S.1 S.2.1 dX12_layLog_1 rfl (lv_at hl 2 rfl) ?_
  obtain ⟨x1, hx1, hf⟩ := bnd_e hf
  refine Wr.goW (Wr.runV (c_X12_hasLog hx1) S hK hW.1 hW.2.1 0 10 rfl rfl kVX12_386 rfl hl.1 [] rfl (Nat.le_of_ble_eq_true rfl) ⟨(Nat.le_of_ble_eq_true rfl), (Nat.le_of_ble_eq_true rfl)⟩ ⟨(Nat.zero_le _), (Nat.zero_le _)⟩ dX12_layLog_2) hW hA (fun H locs hW => ?_)
  refine lv_if_eq (tgt := 16) S.1 S.2.1 dX12_layLog_5 (by decide) (fun c_ => ?_) (fun c_ => ?_)
  · have hf := it_p c_ hf
    refine lv_iconst (v := 0) S.1 S.2.1 dX12_layLog_16 ic_0 ?_
    have e_ := Option.some.inj hf
    subst e_
    exact hret _ _ _ _ (Or.inl rfl) dX12_layLog_17 hW
  · have hf := it_n c_ hf
    refine lv_aload_n S.1 S.2.1 dX12_layLog_8 rfl (lv_at hl 0 rfl) ?_
    refine lv_iload_n S.1 S.2.1 dX12_layLog_9 rfl (lv_at hl 1 rfl) ?_
    obtain ⟨x2, hx2, hf⟩ := bnd_e hf
    refine Wr.goW (Wr.runV (c_X12_hand hx2) S hK hW.1 hW.2.1 0 10 rfl rfl kVX12_257 rfl hl.1 [] rfl (Nat.le_of_ble_eq_true rfl) ⟨(Nat.le_of_ble_eq_true rfl), (Nat.le_of_ble_eq_true rfl)⟩ ⟨(Nat.zero_le _), (Nat.zero_le _)⟩ dX12_layLog_10) hW hA (fun H locs hW => ?_)
    refine lv_if_ne (tgt := 18) S.1 S.2.1 dX12_layLog_13 (by decide) (fun c_ => ?_) (fun c_ => ?_)
    · have hf := it_n c_ hf
      refine lv_aload_n S.1 S.2.1 dX12_layLog_18 rfl (lv_at hl 0 rfl) ?_
      refine lv_iconst (v := 0) S.1 S.2.1 dX12_layLog_19 ic_0 ?_
      refine pfX12_398 (ws2 := (wMd g o_q0 o_q1 o_q2 o_q3 o_q4 o_q5 o_q6 o_q7 o_q8 o_q9 o_q10 o_q11 o_q12 o_q13 o_q14 o_q15 o_q16 o_q17 o_q18 o_q19 o_q20 o_q21 o_q22 o_code o_tape o_size o_fault o_faultPlace o_many o_towns o_weeks o_logs o_reached o_length o_begins o_sort o_value o_word o_wrongAt o_laterFault o_laterPlace o_told o_read o_farOne o_good x2.2.1 x2.2.2.1 x2.2.2.2.1 x2.2.2.2.2.1 x2.2.2.2.2.2.1 x2.2.2.2.2.2.2.1 x2.2.2.2.2.2.2.2.1 x2.2.2.2.2.2.2.2.2.1 x2.2.2.2.2.2.2.2.2.2.1 x2.2.2.2.2.2.2.2.2.2.2.1 x2.2.2.2.2.2.2.2.2.2.2.2.1 x2.2.2.2.2.2.2.2.2.2.2.2.2.1 x2.2.2.2.2.2.2.2.2.2.2.2.2.2.1 x2.2.2.2.2.2.2.2.2.2.2.2.2.2.2 o_week o_heaps o_taken o_best o_more o_firstOne x1.2 o_fitting (0 : Int32) o_seed o_row o_saved)) S hK hW 0 rfl rfl rfl (Nat.le_of_ble_eq_true rfl) rfl dX12_layLog_20 (fun H locs hW => ?_)
      refine lv_iconst (v := 0) S.1 S.2.1 dX12_layLog_23 ic_0 ?_
      refine lv_istore_n (lv' := [(3, .int (0 : Int32)), (0, .ref o_q0), (1, .int p1), (2, .int p2)]) S.1 S.2.1 dX12_layLog_24 rfl hl (by decide) rfl (fun ls hl => ?_)
      obtain ⟨x5, hf_, hk5⟩ := bnd_e hf
      have hE5 : ∀ (v16 : (Nat → Int32) × Int32), v16 = x5 → ∀ (ls : Array Slot) (H : Heap) (locs : List Loc), lv_has ls 5 [] → St A s.heap D (wMd g o_q0 o_q1 o_q2 o_q3 o_q4 o_q5 o_q6 o_q7 o_q8 o_q9 o_q10 o_q11 o_q12 o_q13 o_q14 o_q15 o_q16 o_q17 o_q18 o_q19 o_q20 o_q21 o_q22 o_code o_tape o_size o_fault o_faultPlace o_many o_towns o_weeks o_logs o_reached o_length o_begins o_sort o_value o_word o_wrongAt o_laterFault o_laterPlace o_told o_read o_farOne o_good x2.2.1 x2.2.2.1 x2.2.2.2.1 x2.2.2.2.2.1 x2.2.2.2.2.2.1 x2.2.2.2.2.2.2.1 x2.2.2.2.2.2.2.2.1 x2.2.2.2.2.2.2.2.2.1 x2.2.2.2.2.2.2.2.2.2.1 x2.2.2.2.2.2.2.2.2.2.2.1 x2.2.2.2.2.2.2.2.2.2.2.2.1 x2.2.2.2.2.2.2.2.2.2.2.2.2.1 x2.2.2.2.2.2.2.2.2.2.2.2.2.2.1 x2.2.2.2.2.2.2.2.2.2.2.2.2.2.2 o_week o_heaps o_taken o_best o_more o_firstOne x1.2 v16.1 v16.2 o_seed o_row o_saved) H locs → W p l e (rmD 3) s m args below meth c H locs 0 0 Q (F0 m 95 ls []) := by
        intro v16 e_ ls H locs hl hW
        subst e_
        have hf := hk5
        refine lv_iconst (v := 1) S.1 S.2.1 dX12_layLog_95 ic_1 ?_
        have e_ := Option.some.inj hf
        subst e_
        exact hret _ _ _ _ (Or.inr rfl) dX12_layLog_96 hW
      refine lp_ind (P := fun (s4 : Int32 × (Nat → Int32) × Int32) => ∀ (ls : Array Slot) (H : Heap) (locs : List Loc), lv_has ls 5 [(0, .ref o_q0), (3, .int s4.1)] → St A s.heap D (wMd g o_q0 o_q1 o_q2 o_q3 o_q4 o_q5 o_q6 o_q7 o_q8 o_q9 o_q10 o_q11 o_q12 o_q13 o_q14 o_q15 o_q16 o_q17 o_q18 o_q19 o_q20 o_q21 o_q22 o_code o_tape o_size o_fault o_faultPlace o_many o_towns o_weeks o_logs o_reached o_length o_begins o_sort o_value o_word o_wrongAt o_laterFault o_laterPlace o_told o_read o_farOne o_good x2.2.1 x2.2.2.1 x2.2.2.2.1 x2.2.2.2.2.1 x2.2.2.2.2.2.1 x2.2.2.2.2.2.2.1 x2.2.2.2.2.2.2.2.1 x2.2.2.2.2.2.2.2.2.1 x2.2.2.2.2.2.2.2.2.2.1 x2.2.2.2.2.2.2.2.2.2.2.1 x2.2.2.2.2.2.2.2.2.2.2.2.1 x2.2.2.2.2.2.2.2.2.2.2.2.2.1 x2.2.2.2.2.2.2.2.2.2.2.2.2.2.1 x2.2.2.2.2.2.2.2.2.2.2.2.2.2.2 o_week o_heaps o_taken o_best o_more o_firstOne x1.2 s4.2.1 s4.2.2 o_seed o_row o_saved) H locs → W p l e (rmD 3) s m args below meth c H locs 0 0 Q (F0 m 25 ls [])) ?_ _ _ hf_ _ _ _ (lv_sub hl [1, 0] rfl) hW
      intro s4 x6 hf hI5 hR5 ls H locs hl hW
      refine lv_iload_n S.1 S.2.1 dX12_layLog_25 rfl (lv_at hl 1 rfl) ?_
      refine lv_aload_n S.1 S.2.1 dX12_layLog_26 rfl (lv_at hl 0 rfl) ?_
      refine gfX12_230 S hK hW.1 0 rfl rfl dX12_layLog_27 ?_
      refine lv_icmp_ge (tgt := 95) S.1 S.2.1 dX12_layLog_30 (by decide) (fun c_ => ?_) (fun c_ => ?_)
      · have hf := it_p c_ hf
        have e_ := hR5 _ (Option.some.inj hf).symm
        exact hE5 _ e_ _ _ _ (lv_sub hl [] rfl) hW
      · have hf := it_n c_ hf
        refine lv_iconst (v := 1) S.1 S.2.1 dX12_layLog_33 ic_1 ?_
        refine lv_istore (lv' := [(4, .int (1 : Int32)), (0, .ref o_q0), (3, .int s4.1)]) S.1 S.2.1 dX12_layLog_34 hl (by decide) rfl (fun ls hl => ?_)
        obtain ⟨x9, hf_, hk9⟩ := bnd_e hf
        have hE9 : ∀ (v15 : (Nat → Int32) × Int32), v15 = x9 → ∀ (ls : Array Slot) (H : Heap) (locs : List Loc), lv_has ls 5 [(0, .ref o_q0), (3, .int s4.1)] → St A s.heap D (wMd g o_q0 o_q1 o_q2 o_q3 o_q4 o_q5 o_q6 o_q7 o_q8 o_q9 o_q10 o_q11 o_q12 o_q13 o_q14 o_q15 o_q16 o_q17 o_q18 o_q19 o_q20 o_q21 o_q22 o_code o_tape o_size o_fault o_faultPlace o_many o_towns o_weeks o_logs o_reached o_length o_begins o_sort o_value o_word o_wrongAt o_laterFault o_laterPlace o_told o_read o_farOne o_good x2.2.1 x2.2.2.1 x2.2.2.2.1 x2.2.2.2.2.1 x2.2.2.2.2.2.1 x2.2.2.2.2.2.2.1 x2.2.2.2.2.2.2.2.1 x2.2.2.2.2.2.2.2.2.1 x2.2.2.2.2.2.2.2.2.2.1 x2.2.2.2.2.2.2.2.2.2.2.1 x2.2.2.2.2.2.2.2.2.2.2.2.1 x2.2.2.2.2.2.2.2.2.2.2.2.2.1 x2.2.2.2.2.2.2.2.2.2.2.2.2.2.1 x2.2.2.2.2.2.2.2.2.2.2.2.2.2.2 o_week o_heaps o_taken o_best o_more o_firstOne x1.2 v15.1 v15.2 o_seed o_row o_saved) H locs → W p l e (rmD 3) s m args below meth c H locs 0 0 Q (F0 m 89 ls []) := by
          intro v15 e_ ls H locs hl hW
          subst e_
          have hf := hk9
          refine q_iinc (w := 1) (lv' := [(3, .int (s4.1 + 1)), (0, .ref o_q0)]) S dX12_layLog_89 hl (k := 1) rfl ic_1 (by decide) rfl (fun ls hl => ?_)
          refine lv_goto (tgt := 25) S.1 S.2.1 dX12_layLog_92 (by decide) ?_
          exact hI5 _ (Option.some.inj hf).symm _ _ _ (lv_sub hl [1, 0] rfl) hW
        refine lp_ind (P := fun (s8 : Int32 × (Nat → Int32) × Int32) => ∀ (ls : Array Slot) (H : Heap) (locs : List Loc), lv_has ls 5 [(0, .ref o_q0), (3, .int s4.1), (4, .int s8.1)] → St A s.heap D (wMd g o_q0 o_q1 o_q2 o_q3 o_q4 o_q5 o_q6 o_q7 o_q8 o_q9 o_q10 o_q11 o_q12 o_q13 o_q14 o_q15 o_q16 o_q17 o_q18 o_q19 o_q20 o_q21 o_q22 o_code o_tape o_size o_fault o_faultPlace o_many o_towns o_weeks o_logs o_reached o_length o_begins o_sort o_value o_word o_wrongAt o_laterFault o_laterPlace o_told o_read o_farOne o_good x2.2.1 x2.2.2.1 x2.2.2.2.1 x2.2.2.2.2.1 x2.2.2.2.2.2.1 x2.2.2.2.2.2.2.1 x2.2.2.2.2.2.2.2.1 x2.2.2.2.2.2.2.2.2.1 x2.2.2.2.2.2.2.2.2.2.1 x2.2.2.2.2.2.2.2.2.2.2.1 x2.2.2.2.2.2.2.2.2.2.2.2.1 x2.2.2.2.2.2.2.2.2.2.2.2.2.1 x2.2.2.2.2.2.2.2.2.2.2.2.2.2.1 x2.2.2.2.2.2.2.2.2.2.2.2.2.2.2 o_week o_heaps o_taken o_best o_more o_firstOne x1.2 s8.2.1 s8.2.2 o_seed o_row o_saved) H locs → W p l e (rmD 3) s m args below meth c H locs 0 0 Q (F0 m 36 ls [])) ?_ _ _ hf_ _ _ _ (lv_sub hl [1, 2, 0] rfl) hW
        intro s8 x10 hf hI9 hR9 ls H locs hl hW
        refine lv_iload S.1 S.2.1 dX12_layLog_36 (lv_at hl 2 rfl) ?_
        refine lv_iconst (v := 1) S.1 S.2.1 dX12_layLog_38 ic_1 ?_
        refine lv_aload_n S.1 S.2.1 dX12_layLog_39 rfl (lv_at hl 0 rfl) ?_
        refine gfX12_230 S hK hW.1 0 rfl rfl dX12_layLog_40 ?_
        refine lv_ishl S.1 S.2.1 dX12_layLog_43 ?_
        refine lv_icmp_ge (tgt := 89) S.1 S.2.1 dX12_layLog_44 (by decide) (fun c_ => ?_) (fun c_ => ?_)
        · have hf := it_p c_ hf
          have e_ := hR9 _ (Option.some.inj hf).symm
          exact hE9 _ e_ _ _ _ (lv_sub hl [0, 1] rfl) hW
        · have hf := it_n c_ hf
          refine lv_aload_n S.1 S.2.1 dX12_layLog_47 rfl (lv_at hl 0 rfl) ?_
          refine lv_iload_n S.1 S.2.1 dX12_layLog_48 rfl (lv_at hl 1 rfl) ?_
          refine lv_iload S.1 S.2.1 dX12_layLog_49 (lv_at hl 2 rfl) ?_
          obtain ⟨x11, hx11, hf⟩ := bnd_e hf
          refine Rd.cV (c_X12_isFit hx11) S hK hW.1 0 10 rfl rfl kVX12_401 rfl hl.1 [] rfl (Nat.le_of_ble_eq_true rfl) ⟨(Nat.le_of_ble_eq_true rfl), (Nat.le_of_ble_eq_true rfl)⟩ ⟨(Nat.zero_le _), (Nat.zero_le _)⟩ dX12_layLog_51 ?_
          refine lv_if_eq (tgt := 83) S.1 S.2.1 dX12_layLog_54 (by decide) (fun c_ => ?_) (fun c_ => ?_)
          · have hf := it_p c_ hf
            refine q_iinc (w := 1) (lv' := [(4, .int (s8.1 + 1)), (0, .ref o_q0), (3, .int s4.1)]) S dX12_layLog_83 hl (k := 2) rfl ic_1 (by decide) rfl (fun ls hl => ?_)
            refine lv_goto (tgt := 36) S.1 S.2.1 dX12_layLog_86 (by decide) ?_
            exact hI9 _ (Option.some.inj hf).symm _ _ _ (lv_sub hl [1, 2, 0] rfl) hW
          · have hf := it_n c_ hf
            refine lv_aload_n S.1 S.2.1 dX12_layLog_57 rfl (lv_at hl 0 rfl) ?_
            refine gfX12_68 S hK hW.1 0 rfl rfl dX12_layLog_58 ?_
            refine lv_aload_n S.1 S.2.1 dX12_layLog_61 rfl (lv_at hl 0 rfl) ?_
            refine gfX12_398 S hK hW.1 0 rfl rfl dX12_layLog_62 ?_
            refine lv_bipush (v := 100) S.1 S.2.1 dX12_layLog_65 bp_100 ?_
            refine lv_iload_n S.1 S.2.1 dX12_layLog_67 rfl (lv_at hl 1 rfl) ?_
            refine lv_imul S.1 S.2.1 dX12_layLog_68 ?_
            refine lv_iload S.1 S.2.1 dX12_layLog_69 (lv_at hl 2 rfl) ?_
            refine lv_iadd S.1 S.2.1 dX12_layLog_71 ?_
            refine lv_topi (fun x12 ex12 => ?_)
            have hf := ltn_e hf ex12
            obtain ⟨x13, hx13, hf⟩ := bnd_e hf
            refine q_iast (ws2 := (wMd g o_q0 o_q1 o_q2 o_q3 o_q4 o_q5 o_q6 o_q7 o_q8 o_q9 o_q10 o_q11 o_q12 o_q13 o_q14 o_q15 o_q16 o_q17 o_q18 o_q19 o_q20 o_q21 o_q22 o_code o_tape o_size o_fault o_faultPlace o_many o_towns o_weeks o_logs o_reached o_length o_begins o_sort o_value o_word o_wrongAt o_laterFault o_laterPlace o_told o_read o_farOne o_good x2.2.1 x2.2.2.1 x2.2.2.2.1 x2.2.2.2.2.1 x2.2.2.2.2.2.1 x2.2.2.2.2.2.2.1 x2.2.2.2.2.2.2.2.1 x2.2.2.2.2.2.2.2.2.1 x2.2.2.2.2.2.2.2.2.2.1 x2.2.2.2.2.2.2.2.2.2.2.1 x2.2.2.2.2.2.2.2.2.2.2.2.1 x2.2.2.2.2.2.2.2.2.2.2.2.2.1 x2.2.2.2.2.2.2.2.2.2.2.2.2.2.1 x2.2.2.2.2.2.2.2.2.2.2.2.2.2.2 o_week o_heaps o_taken o_best o_more o_firstOne x1.2 x13 s8.2.2 o_seed o_row o_saved)) S hK hW 20 0 rfl rfl hx13 rfl dX12_layLog_72 (fun H locs hW => ?_)
            refine lv_aload_n S.1 S.2.1 dX12_layLog_73 rfl (lv_at hl 0 rfl) ?_
            refine lv_dup S.1 S.2.1 dX12_layLog_74 rfl ?_
            refine gfX12_398 S hK hW.1 0 rfl rfl dX12_layLog_75 ?_
            refine lv_iconst (v := 1) S.1 S.2.1 dX12_layLog_78 ic_1 ?_
            refine lv_iadd S.1 S.2.1 dX12_layLog_79 ?_
            refine lv_topi (fun x14 ex14 => ?_)
            have hf := ltn_e hf ex14
            refine pfX12_398 (ws2 := (wMd g o_q0 o_q1 o_q2 o_q3 o_q4 o_q5 o_q6 o_q7 o_q8 o_q9 o_q10 o_q11 o_q12 o_q13 o_q14 o_q15 o_q16 o_q17 o_q18 o_q19 o_q20 o_q21 o_q22 o_code o_tape o_size o_fault o_faultPlace o_many o_towns o_weeks o_logs o_reached o_length o_begins o_sort o_value o_word o_wrongAt o_laterFault o_laterPlace o_told o_read o_farOne o_good x2.2.1 x2.2.2.1 x2.2.2.2.1 x2.2.2.2.2.1 x2.2.2.2.2.2.1 x2.2.2.2.2.2.2.1 x2.2.2.2.2.2.2.2.1 x2.2.2.2.2.2.2.2.2.1 x2.2.2.2.2.2.2.2.2.2.1 x2.2.2.2.2.2.2.2.2.2.2.1 x2.2.2.2.2.2.2.2.2.2.2.2.1 x2.2.2.2.2.2.2.2.2.2.2.2.2.1 x2.2.2.2.2.2.2.2.2.2.2.2.2.2.1 x2.2.2.2.2.2.2.2.2.2.2.2.2.2.2 o_week o_heaps o_taken o_best o_more o_firstOne x1.2 x13 x14 o_seed o_row o_saved)) S hK hW 0 rfl rfl rfl (Nat.le_of_ble_eq_true rfl) rfl dX12_layLog_80 (fun H locs hW => ?_)
            refine q_iinc (w := 1) (lv' := [(4, .int (s8.1 + 1)), (0, .ref o_q0), (3, .int s4.1)]) S dX12_layLog_83 hl (k := 2) rfl ic_1 (by decide) rfl (fun ls hl => ?_)
            refine lv_goto (tgt := 36) S.1 S.2.1 dX12_layLog_86 (by decide) ?_
            exact hI9 _ (Option.some.inj hf).symm _ _ _ (lv_sub hl [1, 2, 0] rfl) hW
    · have hf := it_p c_ hf
      refine lv_iconst (v := 0) S.1 S.2.1 dX12_layLog_16 ic_0 ?_
      have e_ := Option.some.inj hf
      subst e_
      exact hret _ _ _ _ (Or.inl rfl) dX12_layLog_17 hW
def f_X12_manyTogether_L5 (fu : Nat) (o_fitting : (Nat → Int32)) (o_found : Int32) (p1 : Int32) (p2 : Int32) (s2 : Int32 × Int32) : Option ((Int32 × Int32) ⊕ (Int32)) := if o_found ≤ s2.2 then some (.inr s2.1) else bnd (α := Int32) (rdi 192 o_fitting s2.2) (fun x5 => bnd (α := Int32) (f_X12_allOf fu x5) (fun x6 => bnd (α := Int32) (f_X12_has fu x6 p1) (fun x7 => if x7 = 0 then ltn (s2.1 + (0 : Int32)) (fun x8 => some (.inl (x8, (s2.2 + 1)))) else bnd (α := Int32) (f_X12_has fu x6 p2) (fun x9 => if x9 = 0 then ltn (s2.1 + (0 : Int32)) (fun x10 => some (.inl (x10, (s2.2 + 1)))) else ltn (s2.1 + (1 : Int32)) (fun x11 => some (.inl (x11, (s2.2 + 1))))))))
def f_X12_manyTogether (fu : Nat) (o_fitting : (Nat → Int32)) (o_found : Int32) (p1 : Int32) (p2 : Int32) : Option (Int32) := bnd (α := Int32) (lp (f_X12_manyTogether_L5 fu o_fitting o_found p1 p2) fu ((0 : Int32), (0 : Int32))) (fun v12 => some v12)
set_option maxHeartbeats 4000000 in
set_option maxRecDepth 100000 in
theorem c_X12_manyTogether {l : Launch} {D : va_G} {g : Nat → ClassId} {fu : Nat} {o_q0 o_q1 o_q2 o_q3 o_q4 o_q5 o_q6 o_q7 o_q8 o_q9 o_q10 o_q11 o_q12 o_q13 o_q14 o_q15 o_q16 o_q17 o_q18 o_q19 o_q20 o_q21 o_q22 : Nat} {o_code : Int32} {o_tape : (Nat → Int32)} {o_size : (Nat → Int32)} {o_fault : (Nat → Int32)} {o_faultPlace : (Nat → Int32)} {o_many : (Nat → Int32)} {o_towns : (Nat → Int32)} {o_weeks : (Nat → Int32)} {o_logs : (Nat → Int32)} {o_reached : Int32} {o_length : Int32} {o_begins : Int32} {o_sort : Int32} {o_value : Int32} {o_word : Int64} {o_wrongAt : Int32} {o_laterFault : Int32} {o_laterPlace : Int32} {o_told : (Nat → Int32)} {o_read : (Nat → Int32)} {o_farOne : Int32} {o_good : Int32} {o_town : Int32} {o_people : Int32} {o_when : Int32} {o_sat : Int32} {o_quiet : Int32} {o_vain : Int32} {o_lent : Int32} {o_forgiven : Int32} {o_sundays : Int32} {o_purse : (Nat → Int32)} {o_beside : (Nat → Int32)} {o_debts : (Nat → Int32)} {o_sitting : (Nat → Int32)} {o_visited : (Nat → Int32)} {o_week : Int32} {o_heaps : (Nat → Int32)} {o_taken : (Nat → Int32)} {o_best : (Nat → Int32)} {o_more : (Nat → Int32)} {o_firstOne : Int32} {o_log : Int32} {o_fitting : (Nat → Int32)} {o_found : Int32} {o_seed : Int32} {o_row : (Nat → Int32)} {o_saved : (Nat → Int32)} {p1 : Int32} {p2 : Int32} {r : Int32} (hf : f_X12_manyTogether fu o_fitting o_found p1 p2 = some r) : Rd l D (gy g) yX12_manyTogether cX12_manyTogether 6 (some .int) 1 [.ref o_q0, .int p1, .int p2] (wMd g o_q0 o_q1 o_q2 o_q3 o_q4 o_q5 o_q6 o_q7 o_q8 o_q9 o_q10 o_q11 o_q12 o_q13 o_q14 o_q15 o_q16 o_q17 o_q18 o_q19 o_q20 o_q21 o_q22 o_code o_tape o_size o_fault o_faultPlace o_many o_towns o_weeks o_logs o_reached o_length o_begins o_sort o_value o_word o_wrongAt o_laterFault o_laterPlace o_told o_read o_farOne o_good o_town o_people o_when o_sat o_quiet o_vain o_lent o_forgiven o_sundays o_purse o_beside o_debts o_sitting o_visited o_week o_heaps o_taken o_best o_more o_firstOne o_log o_fitting o_found o_seed o_row o_saved) (some (.int r)) := by
  refine Rd.ofI (by decide) (Nat.le_of_ble_eq_true rfl) ?_
  intro p e s m args below meth c Q S hK hP hret ls hl
  have hl : lv_has ls 6 [(0, .ref o_q0), (1, .int p1), (2, .int p2)] := hl
  refine lv_iconst (v := 0) S.1 S.2.1 dX12_manyTogether_0 ic_0 ?_
  refine lv_istore_n (lv' := [(3, .int (0 : Int32)), (0, .ref o_q0), (1, .int p1), (2, .int p2)]) S.1 S.2.1 dX12_manyTogether_1 rfl hl (by decide) rfl (fun ls hl => ?_)
  refine lv_iconst (v := 0) S.1 S.2.1 dX12_manyTogether_2 ic_0 ?_
  refine lv_istore (lv' := [(4, .int (0 : Int32)), (3, .int (0 : Int32)), (0, .ref o_q0), (1, .int p1), (2, .int p2)]) S.1 S.2.1 dX12_manyTogether_3 hl (by decide) rfl (fun ls hl => ?_)
  obtain ⟨x3, hf_, hk3⟩ := bnd_e hf
  have hE3 : ∀ (v12 : Int32), v12 = x3 → ∀ (ls : Array Slot), lv_has ls 6 [(3, .int v12)] → W p l e (rmD 1) s m args below meth c s.heap [] 0 0 Q (F0 m 58 ls []) := by
    intro v12 e_ ls hl
    subst e_
    have hf := hk3
    refine lv_iload_n S.1 S.2.1 dX12_manyTogether_58 rfl (lv_at hl 0 rfl) ?_
    have e_ := Option.some.inj hf
    subst e_
    exact hret _ _ dX12_manyTogether_59
  refine lp_ind (P := fun (s2 : Int32 × Int32) => ∀ (ls : Array Slot), lv_has ls 6 [(0, .ref o_q0), (1, .int p1), (2, .int p2), (3, .int s2.1), (4, .int s2.2)] → W p l e (rmD 1) s m args below meth c s.heap [] 0 0 Q (F0 m 5 ls [])) ?_ _ _ hf_ _ (lv_sub hl [2, 3, 4, 1, 0] rfl)
  intro s2 x4 hf hI3 hR3 ls hl
  refine lv_iload S.1 S.2.1 dX12_manyTogether_5 (lv_at hl 4 rfl) ?_
  refine lv_aload_n S.1 S.2.1 dX12_manyTogether_7 rfl (lv_at hl 0 rfl) ?_
  refine gfX12_398 S hK hP 0 rfl rfl dX12_manyTogether_8 ?_
  refine lv_icmp_ge (tgt := 58) S.1 S.2.1 dX12_manyTogether_11 (by decide) (fun c_ => ?_) (fun c_ => ?_)
  · have hf := it_p c_ hf
    have e_ := hR3 _ (Option.some.inj hf).symm
    exact hE3 _ e_ _ (lv_sub hl [3] rfl)
  · have hf := it_n c_ hf
    refine lv_aload_n S.1 S.2.1 dX12_manyTogether_14 rfl (lv_at hl 0 rfl) ?_
    refine gfX12_68 S hK hP 0 rfl rfl dX12_manyTogether_15 ?_
    refine lv_iload S.1 S.2.1 dX12_manyTogether_18 (lv_at hl 4 rfl) ?_
    obtain ⟨x5, hx5, hf⟩ := bnd_e hf
    refine q_iald S hK hP 20 0 rfl rfl hx5 dX12_manyTogether_20 ?_
    obtain ⟨x6, hx6, hf⟩ := bnd_e hf
    refine Rd.cS (c_X12_allOf hx6) S hK va_P.nil kSX12_404 rfl hl.1 [] rfl (Nat.le_of_ble_eq_true rfl) ⟨(Nat.le_of_ble_eq_true rfl), (Nat.le_of_ble_eq_true rfl)⟩ ⟨(Nat.zero_le _), (Nat.zero_le _)⟩ dX12_manyTogether_21 ?_
    refine lv_istore (lv' := [(5, .int x6), (0, .ref o_q0), (1, .int p1), (2, .int p2), (3, .int s2.1), (4, .int s2.2)]) S.1 S.2.1 dX12_manyTogether_24 hl (by decide) rfl (fun ls hl => ?_)
    refine lv_iload_n S.1 S.2.1 dX12_manyTogether_26 rfl (lv_at hl 4 rfl) ?_
    refine lv_iload S.1 S.2.1 dX12_manyTogether_27 (lv_at hl 0 rfl) ?_
    refine lv_iload_n S.1 S.2.1 dX12_manyTogether_29 rfl (lv_at hl 2 rfl) ?_
    obtain ⟨x7, hx7, hf⟩ := bnd_e hf
    refine Rd.cS (c_X12_has hx7) S hK va_P.nil kSX12_82 rfl hl.1 [.int s2.1] rfl (Nat.le_of_ble_eq_true rfl) ⟨(Nat.le_of_ble_eq_true rfl), (Nat.le_of_ble_eq_true rfl)⟩ ⟨(Nat.zero_le _), (Nat.zero_le _)⟩ dX12_manyTogether_30 ?_
    refine lv_if_eq (tgt := 49) S.1 S.2.1 dX12_manyTogether_33 (by decide) (fun c_ => ?_) (fun c_ => ?_)
    · have hf := it_p c_ hf
      refine lv_iconst (v := 0) S.1 S.2.1 dX12_manyTogether_49 ic_0 ?_
      refine lv_iadd S.1 S.2.1 dX12_manyTogether_50 ?_
      refine lv_topi (fun x8 ex8 => ?_)
      have hf := ltn_e hf ex8
      refine lv_istore_n (lv' := [(3, .int x8), (5, .int x6), (0, .ref o_q0), (1, .int p1), (2, .int p2), (4, .int s2.2)]) S.1 S.2.1 dX12_manyTogether_51 rfl hl (by decide) rfl (fun ls hl => ?_)
      refine q_iinc (w := 1) (lv' := [(4, .int (s2.2 + 1)), (3, .int x8), (5, .int x6), (0, .ref o_q0), (1, .int p1), (2, .int p2)]) S dX12_manyTogether_52 hl (k := 5) rfl ic_1 (by decide) rfl (fun ls hl => ?_)
      refine lv_goto (tgt := 5) S.1 S.2.1 dX12_manyTogether_55 (by decide) ?_
      exact hI3 _ (Option.some.inj hf).symm _ (lv_sub hl [3, 4, 5, 1, 0] rfl)
    · have hf := it_n c_ hf
      refine lv_iload S.1 S.2.1 dX12_manyTogether_36 (lv_at hl 0 rfl) ?_
      refine lv_iload_n S.1 S.2.1 dX12_manyTogether_38 rfl (lv_at hl 3 rfl) ?_
      obtain ⟨x9, hx9, hf⟩ := bnd_e hf
      refine Rd.cS (c_X12_has hx9) S hK va_P.nil kSX12_82 rfl hl.1 [.int s2.1] rfl (Nat.le_of_ble_eq_true rfl) ⟨(Nat.le_of_ble_eq_true rfl), (Nat.le_of_ble_eq_true rfl)⟩ ⟨(Nat.zero_le _), (Nat.zero_le _)⟩ dX12_manyTogether_39 ?_
      refine lv_if_eq (tgt := 49) S.1 S.2.1 dX12_manyTogether_42 (by decide) (fun c_ => ?_) (fun c_ => ?_)
      · have hf := it_p c_ hf
        refine lv_iconst (v := 0) S.1 S.2.1 dX12_manyTogether_49 ic_0 ?_
        refine lv_iadd S.1 S.2.1 dX12_manyTogether_50 ?_
        refine lv_topi (fun x10 ex10 => ?_)
        have hf := ltn_e hf ex10
        refine lv_istore_n (lv' := [(3, .int x10), (5, .int x6), (0, .ref o_q0), (1, .int p1), (2, .int p2), (4, .int s2.2)]) S.1 S.2.1 dX12_manyTogether_51 rfl hl (by decide) rfl (fun ls hl => ?_)
        refine q_iinc (w := 1) (lv' := [(4, .int (s2.2 + 1)), (3, .int x10), (5, .int x6), (0, .ref o_q0), (1, .int p1), (2, .int p2)]) S dX12_manyTogether_52 hl (k := 5) rfl ic_1 (by decide) rfl (fun ls hl => ?_)
        refine lv_goto (tgt := 5) S.1 S.2.1 dX12_manyTogether_55 (by decide) ?_
        exact hI3 _ (Option.some.inj hf).symm _ (lv_sub hl [3, 4, 5, 1, 0] rfl)
      · have hf := it_n c_ hf
        refine lv_iconst (v := 1) S.1 S.2.1 dX12_manyTogether_45 ic_1 ?_
        refine lv_goto (tgt := 50) S.1 S.2.1 dX12_manyTogether_46 (by decide) ?_
        refine lv_iadd S.1 S.2.1 dX12_manyTogether_50 ?_
        refine lv_topi (fun x11 ex11 => ?_)
        have hf := ltn_e hf ex11
        refine lv_istore_n (lv' := [(3, .int x11), (5, .int x6), (0, .ref o_q0), (1, .int p1), (2, .int p2), (4, .int s2.2)]) S.1 S.2.1 dX12_manyTogether_51 rfl hl (by decide) rfl (fun ls hl => ?_)
        refine q_iinc (w := 1) (lv' := [(4, .int (s2.2 + 1)), (3, .int x11), (5, .int x6), (0, .ref o_q0), (1, .int p1), (2, .int p2)]) S dX12_manyTogether_52 hl (k := 5) rfl ic_1 (by decide) rfl (fun ls hl => ?_)
        refine lv_goto (tgt := 5) S.1 S.2.1 dX12_manyTogether_55 (by decide) ?_
        exact hI3 _ (Option.some.inj hf).symm _ (lv_sub hl [3, 4, 5, 1, 0] rfl)
def f_X12_sure_L23 (o_fitting : (Nat → Int32)) (o_found : Int32) (s4 : Int32 × Int32) : Option ((Int32 × Int32) ⊕ (Int32)) := if o_found ≤ s4.2 then some (.inr s4.1) else bnd (α := Int32) (rdi 192 o_fitting s4.2) (fun x7 => if (x7 / (100 : Int32)) = s4.1 then some (.inl (s4.1, (s4.2 + 1))) else some (.inl ((-1 : Int32), (s4.2 + 1))))
def f_X12_sure (fu : Nat) (o_fitting : (Nat → Int32)) (o_found : Int32) : Option (Int32) := bnd (α := Int32) (if o_found = 0 then some (-1 : Int32) else bnd (α := Int32) (rdi 192 o_fitting (0 : Int32)) (fun x9 => some (x9 / (100 : Int32)))) (fun v2 => bnd (α := Int32) (lp (f_X12_sure_L23 o_fitting o_found) fu (v2, (0 : Int32))) (fun v8 => some v8))
set_option maxHeartbeats 4000000 in
set_option maxRecDepth 100000 in
theorem c_X12_sure {l : Launch} {D : va_G} {g : Nat → ClassId} {fu : Nat} {o_q0 o_q1 o_q2 o_q3 o_q4 o_q5 o_q6 o_q7 o_q8 o_q9 o_q10 o_q11 o_q12 o_q13 o_q14 o_q15 o_q16 o_q17 o_q18 o_q19 o_q20 o_q21 o_q22 : Nat} {o_code : Int32} {o_tape : (Nat → Int32)} {o_size : (Nat → Int32)} {o_fault : (Nat → Int32)} {o_faultPlace : (Nat → Int32)} {o_many : (Nat → Int32)} {o_towns : (Nat → Int32)} {o_weeks : (Nat → Int32)} {o_logs : (Nat → Int32)} {o_reached : Int32} {o_length : Int32} {o_begins : Int32} {o_sort : Int32} {o_value : Int32} {o_word : Int64} {o_wrongAt : Int32} {o_laterFault : Int32} {o_laterPlace : Int32} {o_told : (Nat → Int32)} {o_read : (Nat → Int32)} {o_farOne : Int32} {o_good : Int32} {o_town : Int32} {o_people : Int32} {o_when : Int32} {o_sat : Int32} {o_quiet : Int32} {o_vain : Int32} {o_lent : Int32} {o_forgiven : Int32} {o_sundays : Int32} {o_purse : (Nat → Int32)} {o_beside : (Nat → Int32)} {o_debts : (Nat → Int32)} {o_sitting : (Nat → Int32)} {o_visited : (Nat → Int32)} {o_week : Int32} {o_heaps : (Nat → Int32)} {o_taken : (Nat → Int32)} {o_best : (Nat → Int32)} {o_more : (Nat → Int32)} {o_firstOne : Int32} {o_log : Int32} {o_fitting : (Nat → Int32)} {o_found : Int32} {o_seed : Int32} {o_row : (Nat → Int32)} {o_saved : (Nat → Int32)} {r : Int32} (hf : f_X12_sure fu o_fitting o_found = some r) : Rd l D (gy g) yX12_sure cX12_sure 3 (some .int) 0 [.ref o_q0] (wMd g o_q0 o_q1 o_q2 o_q3 o_q4 o_q5 o_q6 o_q7 o_q8 o_q9 o_q10 o_q11 o_q12 o_q13 o_q14 o_q15 o_q16 o_q17 o_q18 o_q19 o_q20 o_q21 o_q22 o_code o_tape o_size o_fault o_faultPlace o_many o_towns o_weeks o_logs o_reached o_length o_begins o_sort o_value o_word o_wrongAt o_laterFault o_laterPlace o_told o_read o_farOne o_good o_town o_people o_when o_sat o_quiet o_vain o_lent o_forgiven o_sundays o_purse o_beside o_debts o_sitting o_visited o_week o_heaps o_taken o_best o_more o_firstOne o_log o_fitting o_found o_seed o_row o_saved) (some (.int r)) := by
  refine Rd.ofI (by decide) (Nat.le_of_ble_eq_true rfl) ?_
  intro p e s m args below meth c Q S hK hP hret ls hl
  have hl : lv_has ls 3 [(0, .ref o_q0)] := hl
  refine lv_aload_n S.1 S.2.1 dX12_sure_0 rfl (lv_at hl 0 rfl) ?_
  refine gfX12_398 S hK hP 0 rfl rfl dX12_sure_1 ?_
  obtain ⟨x1, hf_, hk1⟩ := bnd_e hf
  have hJ1 : ∀ (v2 : Int32), v2 = x1 → ∀ (ls : Array Slot), lv_has ls 3 [(0, .ref o_q0)] → W p l e (rmD 0) s m args below meth c s.heap [] 0 0 Q (F0 m 20 ls [.int v2]) := by
    intro v2 e_ ls hl
    subst e_
    have hf := hk1
    refine lv_istore_n (lv' := [(1, .int v2), (0, .ref o_q0)]) S.1 S.2.1 dX12_sure_20 rfl hl (by decide) rfl (fun ls hl => ?_)
    refine lv_iconst (v := 0) S.1 S.2.1 dX12_sure_21 ic_0 ?_
    refine lv_istore_n (lv' := [(2, .int (0 : Int32)), (1, .int v2), (0, .ref o_q0)]) S.1 S.2.1 dX12_sure_22 rfl hl (by decide) rfl (fun ls hl => ?_)
    obtain ⟨x5, hf_, hk5⟩ := bnd_e hf
    have hE5 : ∀ (v8 : Int32), v8 = x5 → ∀ (ls : Array Slot), lv_has ls 3 [(1, .int v8)] → W p l e (rmD 0) s m args below meth c s.heap [] 0 0 Q (F0 m 56 ls []) := by
      intro v8 e_ ls hl
      subst e_
      have hf := hk5
      refine lv_iload_n S.1 S.2.1 dX12_sure_56 rfl (lv_at hl 0 rfl) ?_
      have e_ := Option.some.inj hf
      subst e_
      exact hret _ _ dX12_sure_57
    refine lp_ind (P := fun (s4 : Int32 × Int32) => ∀ (ls : Array Slot), lv_has ls 3 [(0, .ref o_q0), (1, .int s4.1), (2, .int s4.2)] → W p l e (rmD 0) s m args below meth c s.heap [] 0 0 Q (F0 m 23 ls [])) ?_ _ _ hf_ _ (lv_sub hl [2, 1, 0] rfl)
    intro s4 x6 hf hI5 hR5 ls hl
    refine lv_iload_n S.1 S.2.1 dX12_sure_23 rfl (lv_at hl 2 rfl) ?_
    refine lv_aload_n S.1 S.2.1 dX12_sure_24 rfl (lv_at hl 0 rfl) ?_
    refine gfX12_398 S hK hP 0 rfl rfl dX12_sure_25 ?_
    refine lv_icmp_ge (tgt := 56) S.1 S.2.1 dX12_sure_28 (by decide) (fun c_ => ?_) (fun c_ => ?_)
    · have hf := it_p c_ hf
      have e_ := hR5 _ (Option.some.inj hf).symm
      exact hE5 _ e_ _ (lv_sub hl [1] rfl)
    · have hf := it_n c_ hf
      refine lv_aload_n S.1 S.2.1 dX12_sure_31 rfl (lv_at hl 0 rfl) ?_
      refine gfX12_68 S hK hP 0 rfl rfl dX12_sure_32 ?_
      refine lv_iload_n S.1 S.2.1 dX12_sure_35 rfl (lv_at hl 2 rfl) ?_
      obtain ⟨x7, hx7, hf⟩ := bnd_e hf
      refine q_iald S hK hP 20 0 rfl rfl hx7 dX12_sure_36 ?_
      refine lv_bipush (v := 100) S.1 S.2.1 dX12_sure_37 bp_100 ?_
      refine lv_idiv S.1 S.2.1 dX12_sure_39 (by decide) ?_
      refine lv_iload_n S.1 S.2.1 dX12_sure_40 rfl (lv_at hl 1 rfl) ?_
      refine lv_icmp_ne (tgt := 48) S.1 S.2.1 dX12_sure_41 (by decide) (fun c_ => ?_) (fun c_ => ?_)
      · have hf := it_n c_ hf
        refine lv_iconst (v := (-1)) S.1 S.2.1 dX12_sure_48 ic_m1 ?_
        refine lv_istore_n (lv' := [(1, .int (-1 : Int32)), (0, .ref o_q0), (2, .int s4.2)]) S.1 S.2.1 dX12_sure_49 rfl hl (by decide) rfl (fun ls hl => ?_)
        refine q_iinc (w := 1) (lv' := [(2, .int (s4.2 + 1)), (1, .int (-1 : Int32)), (0, .ref o_q0)]) S dX12_sure_50 hl (k := 2) rfl ic_1 (by decide) rfl (fun ls hl => ?_)
        refine lv_goto (tgt := 23) S.1 S.2.1 dX12_sure_53 (by decide) ?_
        exact hI5 _ (Option.some.inj hf).symm _ (lv_sub hl [2, 1, 0] rfl)
      · have hf := it_p c_ hf
        refine lv_iload_n S.1 S.2.1 dX12_sure_44 rfl (lv_at hl 1 rfl) ?_
        refine lv_goto (tgt := 49) S.1 S.2.1 dX12_sure_45 (by decide) ?_
        refine lv_istore_n (lv' := [(1, .int s4.1), (0, .ref o_q0), (2, .int s4.2)]) S.1 S.2.1 dX12_sure_49 rfl hl (by decide) rfl (fun ls hl => ?_)
        refine q_iinc (w := 1) (lv' := [(2, .int (s4.2 + 1)), (1, .int s4.1), (0, .ref o_q0)]) S dX12_sure_50 hl (k := 2) rfl ic_1 (by decide) rfl (fun ls hl => ?_)
        refine lv_goto (tgt := 23) S.1 S.2.1 dX12_sure_53 (by decide) ?_
        exact hI5 _ (Option.some.inj hf).symm _ (lv_sub hl [2, 1, 0] rfl)
  have hf := hf_
  refine lv_if_ne (tgt := 11) S.1 S.2.1 dX12_sure_4 (by decide) (fun c_ => ?_) (fun c_ => ?_)
  · have hf := it_n c_ hf
    refine lv_aload_n S.1 S.2.1 dX12_sure_11 rfl (lv_at hl 0 rfl) ?_
    refine gfX12_68 S hK hP 0 rfl rfl dX12_sure_12 ?_
    refine lv_iconst (v := 0) S.1 S.2.1 dX12_sure_15 ic_0 ?_
    obtain ⟨x9, hx9, hf⟩ := bnd_e hf
    refine q_iald S hK hP 20 0 rfl rfl hx9 dX12_sure_16 ?_
    refine lv_bipush (v := 100) S.1 S.2.1 dX12_sure_17 bp_100 ?_
    refine lv_idiv S.1 S.2.1 dX12_sure_19 (by decide) ?_
    exact hJ1 _ (Option.some.inj hf) _ (lv_sub hl [0] rfl)
  · have hf := it_p c_ hf
    refine lv_iconst (v := (-1)) S.1 S.2.1 dX12_sure_7 ic_m1 ?_
    refine lv_goto (tgt := 20) S.1 S.2.1 dX12_sure_8 (by decide) ?_
    exact hJ1 _ (Option.some.inj hf) _ (lv_sub hl [0] rfl)
def f_X12_watch_L28 (fu : Nat) (o_people : Int32) (o_fitting : (Nat → Int32)) (o_found : Int32) (s2 : Int32 × Int32 × Int32) (s7 : Int32 × Int32 × Int32) : Option ((Int32 × Int32 × Int32) ⊕ (Int32 × Int32)) := if o_people ≤ s7.2.2 then some (.inr (s7.1, s7.2.1)) else bnd (α := Int32) (f_X12_manyTogether fu o_fitting o_found s2.2.2 s7.2.2) (fun x10 => bnd (α := Int32) (f_X12_manyTogether fu o_fitting o_found s2.2.2 s7.2.2) (fun x11 => bnd (α := Int32) (f_X12_greater fu x10 (o_found - x11)) (fun x12 => if s7.2.1 ≤ x12 then bnd (α := Int32) (f_X12_lesser fu s7.2.1 x12) (fun x13 => some (.inl (s7.1, x13, (s7.2.2 + 1)))) else ltn (((10 : Int32) * s2.2.2) + s7.2.2) (fun x14 => bnd (α := Int32) (f_X12_lesser fu s7.2.1 x12) (fun x15 => some (.inl (x14, x15, (s7.2.2 + 1))))))))
def f_X12_watch_L8 (fu : Nat) (o_people : Int32) (o_fitting : (Nat → Int32)) (o_found : Int32) (s2 : Int32 × Int32 × Int32) : Option ((Int32 × Int32 × Int32) ⊕ (Int32)) := if o_people ≤ s2.2.2 then some (.inr s2.1) else if o_found ≤ 0 then some (.inr s2.1) else ltn (s2.2.2 + (1 : Int32)) (fun x5 => bnd (α := Int32 × Int32) (lp (f_X12_watch_L28 fu o_people o_fitting o_found s2) fu (s2.1, s2.2.1, x5)) (fun v16 => some (.inl (v16.1, v16.2, (s2.2.2 + 1)))))
def f_X12_watch (fu : Nat) (o_people : Int32) (o_fitting : (Nat → Int32)) (o_found : Int32) : Option (Int32) := bnd (α := Int32) (lp (f_X12_watch_L8 fu o_people o_fitting o_found) fu ((-1 : Int32), (1000000 : Int32), (0 : Int32))) (fun v17 => some v17)
set_option maxHeartbeats 4000000 in
set_option maxRecDepth 100000 in
theorem c_X12_watch {l : Launch} {D : va_G} {g : Nat → ClassId} {fu : Nat} {o_q0 o_q1 o_q2 o_q3 o_q4 o_q5 o_q6 o_q7 o_q8 o_q9 o_q10 o_q11 o_q12 o_q13 o_q14 o_q15 o_q16 o_q17 o_q18 o_q19 o_q20 o_q21 o_q22 : Nat} {o_code : Int32} {o_tape : (Nat → Int32)} {o_size : (Nat → Int32)} {o_fault : (Nat → Int32)} {o_faultPlace : (Nat → Int32)} {o_many : (Nat → Int32)} {o_towns : (Nat → Int32)} {o_weeks : (Nat → Int32)} {o_logs : (Nat → Int32)} {o_reached : Int32} {o_length : Int32} {o_begins : Int32} {o_sort : Int32} {o_value : Int32} {o_word : Int64} {o_wrongAt : Int32} {o_laterFault : Int32} {o_laterPlace : Int32} {o_told : (Nat → Int32)} {o_read : (Nat → Int32)} {o_farOne : Int32} {o_good : Int32} {o_town : Int32} {o_people : Int32} {o_when : Int32} {o_sat : Int32} {o_quiet : Int32} {o_vain : Int32} {o_lent : Int32} {o_forgiven : Int32} {o_sundays : Int32} {o_purse : (Nat → Int32)} {o_beside : (Nat → Int32)} {o_debts : (Nat → Int32)} {o_sitting : (Nat → Int32)} {o_visited : (Nat → Int32)} {o_week : Int32} {o_heaps : (Nat → Int32)} {o_taken : (Nat → Int32)} {o_best : (Nat → Int32)} {o_more : (Nat → Int32)} {o_firstOne : Int32} {o_log : Int32} {o_fitting : (Nat → Int32)} {o_found : Int32} {o_seed : Int32} {o_row : (Nat → Int32)} {o_saved : (Nat → Int32)} {r : Int32} (hf : f_X12_watch fu o_people o_fitting o_found = some r) : Rd l D (gy g) yX12_watch cX12_watch 6 (some .int) 2 [.ref o_q0] (wMd g o_q0 o_q1 o_q2 o_q3 o_q4 o_q5 o_q6 o_q7 o_q8 o_q9 o_q10 o_q11 o_q12 o_q13 o_q14 o_q15 o_q16 o_q17 o_q18 o_q19 o_q20 o_q21 o_q22 o_code o_tape o_size o_fault o_faultPlace o_many o_towns o_weeks o_logs o_reached o_length o_begins o_sort o_value o_word o_wrongAt o_laterFault o_laterPlace o_told o_read o_farOne o_good o_town o_people o_when o_sat o_quiet o_vain o_lent o_forgiven o_sundays o_purse o_beside o_debts o_sitting o_visited o_week o_heaps o_taken o_best o_more o_firstOne o_log o_fitting o_found o_seed o_row o_saved) (some (.int r)) := by
  refine Rd.ofI (by decide) (Nat.le_of_ble_eq_true rfl) ?_
  intro p e s m args below meth c Q S hK hP hret ls hl
  have hl : lv_has ls 6 [(0, .ref o_q0)] := hl
  refine lv_iconst (v := (-1)) S.1 S.2.1 dX12_watch_0 ic_m1 ?_
  refine lv_istore_n (lv' := [(1, .int (-1 : Int32)), (0, .ref o_q0)]) S.1 S.2.1 dX12_watch_1 rfl hl (by decide) rfl (fun ls hl => ?_)
  refine lv_ldcw (v := 1000000) S.1 S.2.1 S.2.2.2.1 (S.2.2.2.2 _ q_1550) dX12_watch_2 ?_
  refine lv_istore_n (lv' := [(2, .int (1000000 : Int32)), (1, .int (-1 : Int32)), (0, .ref o_q0)]) S.1 S.2.1 dX12_watch_5 rfl hl (by decide) rfl (fun ls hl => ?_)
  refine lv_iconst (v := 0) S.1 S.2.1 dX12_watch_6 ic_0 ?_
  refine lv_istore_n (lv' := [(3, .int (0 : Int32)), (2, .int (1000000 : Int32)), (1, .int (-1 : Int32)), (0, .ref o_q0)]) S.1 S.2.1 dX12_watch_7 rfl hl (by decide) rfl (fun ls hl => ?_)
  obtain ⟨x3, hf_, hk3⟩ := bnd_e hf
  have hE3 : ∀ (v17 : Int32), v17 = x3 → ∀ (ls : Array Slot), lv_has ls 6 [(1, .int v17)] → W p l e (rmD 2) s m args below meth c s.heap [] 0 0 Q (F0 m 98 ls []) := by
    intro v17 e_ ls hl
    subst e_
    have hf := hk3
    refine lv_iload_n S.1 S.2.1 dX12_watch_98 rfl (lv_at hl 0 rfl) ?_
    have e_ := Option.some.inj hf
    subst e_
    exact hret _ _ dX12_watch_99
  refine lp_ind (P := fun (s2 : Int32 × Int32 × Int32) => ∀ (ls : Array Slot), lv_has ls 6 [(0, .ref o_q0), (1, .int s2.1), (2, .int s2.2.1), (3, .int s2.2.2)] → W p l e (rmD 2) s m args below meth c s.heap [] 0 0 Q (F0 m 8 ls [])) ?_ _ _ hf_ _ (lv_sub hl [3, 2, 1, 0] rfl)
  intro s2 x4 hf hI3 hR3 ls hl
  refine lv_iload_n S.1 S.2.1 dX12_watch_8 rfl (lv_at hl 3 rfl) ?_
  refine lv_aload_n S.1 S.2.1 dX12_watch_9 rfl (lv_at hl 0 rfl) ?_
  refine gfX12_230 S hK hP 0 rfl rfl dX12_watch_10 ?_
  refine lv_icmp_ge (tgt := 98) S.1 S.2.1 dX12_watch_13 (by decide) (fun c_ => ?_) (fun c_ => ?_)
  · have hf := it_p c_ hf
    have e_ := hR3 _ (Option.some.inj hf).symm
    exact hE3 _ e_ _ (lv_sub hl [1] rfl)
  · have hf := it_n c_ hf
    refine lv_aload_n S.1 S.2.1 dX12_watch_16 rfl (lv_at hl 0 rfl) ?_
    refine gfX12_398 S hK hP 0 rfl rfl dX12_watch_17 ?_
    refine lv_if_le (tgt := 98) S.1 S.2.1 dX12_watch_20 (by decide) (fun c_ => ?_) (fun c_ => ?_)
    · have hf := it_p c_ hf
      have e_ := hR3 _ (Option.some.inj hf).symm
      exact hE3 _ e_ _ (lv_sub hl [1] rfl)
    · have hf := it_n c_ hf
      refine lv_iload_n S.1 S.2.1 dX12_watch_23 rfl (lv_at hl 3 rfl) ?_
      refine lv_iconst (v := 1) S.1 S.2.1 dX12_watch_24 ic_1 ?_
      refine lv_iadd S.1 S.2.1 dX12_watch_25 ?_
      refine lv_topi (fun x5 ex5 => ?_)
      have hf := ltn_e hf ex5
      refine lv_istore (lv' := [(4, .int x5), (0, .ref o_q0), (1, .int s2.1), (2, .int s2.2.1), (3, .int s2.2.2)]) S.1 S.2.1 dX12_watch_26 hl (by decide) rfl (fun ls hl => ?_)
      obtain ⟨x8, hf_, hk8⟩ := bnd_e hf
      have hE8 : ∀ (v16 : Int32 × Int32), v16 = x8 → ∀ (ls : Array Slot), lv_has ls 6 [(0, .ref o_q0), (1, .int v16.1), (2, .int v16.2), (3, .int s2.2.2)] → W p l e (rmD 2) s m args below meth c s.heap [] 0 0 Q (F0 m 92 ls []) := by
        intro v16 e_ ls hl
        subst e_
        have hf := hk8
        refine q_iinc (w := 1) (lv' := [(3, .int (s2.2.2 + 1)), (0, .ref o_q0), (1, .int v16.1), (2, .int v16.2)]) S dX12_watch_92 hl (k := 3) rfl ic_1 (by decide) rfl (fun ls hl => ?_)
        refine lv_goto (tgt := 8) S.1 S.2.1 dX12_watch_95 (by decide) ?_
        exact hI3 _ (Option.some.inj hf).symm _ (lv_sub hl [1, 2, 3, 0] rfl)
      refine lp_ind (P := fun (s7 : Int32 × Int32 × Int32) => ∀ (ls : Array Slot), lv_has ls 6 [(0, .ref o_q0), (1, .int s7.1), (2, .int s7.2.1), (3, .int s2.2.2), (4, .int s7.2.2)] → W p l e (rmD 2) s m args below meth c s.heap [] 0 0 Q (F0 m 28 ls [])) ?_ _ _ hf_ _ (lv_sub hl [1, 2, 3, 4, 0] rfl)
      intro s7 x9 hf hI8 hR8 ls hl
      refine lv_iload S.1 S.2.1 dX12_watch_28 (lv_at hl 4 rfl) ?_
      refine lv_aload_n S.1 S.2.1 dX12_watch_30 rfl (lv_at hl 0 rfl) ?_
      refine gfX12_230 S hK hP 0 rfl rfl dX12_watch_31 ?_
      refine lv_icmp_ge (tgt := 92) S.1 S.2.1 dX12_watch_34 (by decide) (fun c_ => ?_) (fun c_ => ?_)
      · have hf := it_p c_ hf
        have e_ := hR8 _ (Option.some.inj hf).symm
        exact hE8 _ e_ _ (lv_sub hl [0, 1, 2, 3] rfl)
      · have hf := it_n c_ hf
        refine lv_aload_n S.1 S.2.1 dX12_watch_37 rfl (lv_at hl 0 rfl) ?_
        refine lv_iload_n S.1 S.2.1 dX12_watch_38 rfl (lv_at hl 3 rfl) ?_
        refine lv_iload S.1 S.2.1 dX12_watch_39 (lv_at hl 4 rfl) ?_
        obtain ⟨x10, hx10, hf⟩ := bnd_e hf
        refine Rd.cV (c_X12_manyTogether hx10) S hK hP 0 10 rfl rfl kVX12_408 rfl hl.1 [] rfl (Nat.le_of_ble_eq_true rfl) ⟨(Nat.le_of_ble_eq_true rfl), (Nat.le_of_ble_eq_true rfl)⟩ ⟨(Nat.zero_le _), (Nat.zero_le _)⟩ dX12_watch_41 ?_
        refine lv_aload_n S.1 S.2.1 dX12_watch_44 rfl (lv_at hl 0 rfl) ?_
        refine gfX12_398 S hK hP 0 rfl rfl dX12_watch_45 ?_
        refine lv_aload_n S.1 S.2.1 dX12_watch_48 rfl (lv_at hl 0 rfl) ?_
        refine lv_iload_n S.1 S.2.1 dX12_watch_49 rfl (lv_at hl 3 rfl) ?_
        refine lv_iload S.1 S.2.1 dX12_watch_50 (lv_at hl 4 rfl) ?_
        obtain ⟨x11, hx11, hf⟩ := bnd_e hf
        refine Rd.cV (c_X12_manyTogether hx11) S hK hP 0 10 rfl rfl kVX12_408 rfl hl.1 [.int o_found, .int x10] rfl (Nat.le_of_ble_eq_true rfl) ⟨(Nat.le_of_ble_eq_true rfl), (Nat.le_of_ble_eq_true rfl)⟩ ⟨(Nat.zero_le _), (Nat.zero_le _)⟩ dX12_watch_52 ?_
        refine lv_isub S.1 S.2.1 dX12_watch_55 ?_
        obtain ⟨x12, hx12, hf⟩ := bnd_e hf
        refine Rd.cS (c_X12_greater hx12) S hK va_P.nil kSX12_171 rfl hl.1 [] rfl (Nat.le_of_ble_eq_true rfl) ⟨(Nat.le_of_ble_eq_true rfl), (Nat.le_of_ble_eq_true rfl)⟩ ⟨(Nat.zero_le _), (Nat.zero_le _)⟩ dX12_watch_56 ?_
        refine lv_istore (lv' := [(5, .int x12), (0, .ref o_q0), (1, .int s7.1), (2, .int s7.2.1), (3, .int s2.2.2), (4, .int s7.2.2)]) S.1 S.2.1 dX12_watch_59 hl (by decide) rfl (fun ls hl => ?_)
        refine lv_iload S.1 S.2.1 dX12_watch_61 (lv_at hl 0 rfl) ?_
        refine lv_iload_n S.1 S.2.1 dX12_watch_63 rfl (lv_at hl 3 rfl) ?_
        refine lv_icmp_ge (tgt := 77) S.1 S.2.1 dX12_watch_64 (by decide) (fun c_ => ?_) (fun c_ => ?_)
        · have hf := it_p c_ hf
          refine lv_iload_n S.1 S.2.1 dX12_watch_77 rfl (lv_at hl 2 rfl) ?_
          refine lv_istore_n (lv' := [(1, .int s7.1), (5, .int x12), (0, .ref o_q0), (2, .int s7.2.1), (3, .int s2.2.2), (4, .int s7.2.2)]) S.1 S.2.1 dX12_watch_78 rfl hl (by decide) rfl (fun ls hl => ?_)
          refine lv_iload_n S.1 S.2.1 dX12_watch_79 rfl (lv_at hl 3 rfl) ?_
          refine lv_iload S.1 S.2.1 dX12_watch_80 (lv_at hl 1 rfl) ?_
          obtain ⟨x13, hx13, hf⟩ := bnd_e hf
          refine Rd.cS (c_X12_lesser hx13) S hK va_P.nil kSX12_281 rfl hl.1 [] rfl (Nat.le_of_ble_eq_true rfl) ⟨(Nat.le_of_ble_eq_true rfl), (Nat.le_of_ble_eq_true rfl)⟩ ⟨(Nat.zero_le _), (Nat.zero_le _)⟩ dX12_watch_82 ?_
          refine lv_istore_n (lv' := [(2, .int x13), (1, .int s7.1), (5, .int x12), (0, .ref o_q0), (3, .int s2.2.2), (4, .int s7.2.2)]) S.1 S.2.1 dX12_watch_85 rfl hl (by decide) rfl (fun ls hl => ?_)
          refine q_iinc (w := 1) (lv' := [(4, .int (s7.2.2 + 1)), (2, .int x13), (1, .int s7.1), (5, .int x12), (0, .ref o_q0), (3, .int s2.2.2)]) S dX12_watch_86 hl (k := 5) rfl ic_1 (by decide) rfl (fun ls hl => ?_)
          refine lv_goto (tgt := 28) S.1 S.2.1 dX12_watch_89 (by decide) ?_
          exact hI8 _ (Option.some.inj hf).symm _ (lv_sub hl [4, 2, 1, 5, 0] rfl)
        · have hf := it_n c_ hf
          refine lv_bipush (v := 10) S.1 S.2.1 dX12_watch_67 bp_10 ?_
          refine lv_iload_n S.1 S.2.1 dX12_watch_69 rfl (lv_at hl 4 rfl) ?_
          refine lv_imul S.1 S.2.1 dX12_watch_70 ?_
          refine lv_iload S.1 S.2.1 dX12_watch_71 (lv_at hl 5 rfl) ?_
          refine lv_iadd S.1 S.2.1 dX12_watch_73 ?_
          refine lv_goto (tgt := 78) S.1 S.2.1 dX12_watch_74 (by decide) ?_
          refine lv_topi (fun x14 ex14 => ?_)
          have hf := ltn_e hf ex14
          refine lv_istore_n (lv' := [(1, .int x14), (5, .int x12), (0, .ref o_q0), (2, .int s7.2.1), (3, .int s2.2.2), (4, .int s7.2.2)]) S.1 S.2.1 dX12_watch_78 rfl hl (by decide) rfl (fun ls hl => ?_)
          refine lv_iload_n S.1 S.2.1 dX12_watch_79 rfl (lv_at hl 3 rfl) ?_
          refine lv_iload S.1 S.2.1 dX12_watch_80 (lv_at hl 1 rfl) ?_
          obtain ⟨x15, hx15, hf⟩ := bnd_e hf
          refine Rd.cS (c_X12_lesser hx15) S hK va_P.nil kSX12_281 rfl hl.1 [] rfl (Nat.le_of_ble_eq_true rfl) ⟨(Nat.le_of_ble_eq_true rfl), (Nat.le_of_ble_eq_true rfl)⟩ ⟨(Nat.zero_le _), (Nat.zero_le _)⟩ dX12_watch_82 ?_
          refine lv_istore_n (lv' := [(2, .int x15), (1, .int x14), (5, .int x12), (0, .ref o_q0), (3, .int s2.2.2), (4, .int s7.2.2)]) S.1 S.2.1 dX12_watch_85 rfl hl (by decide) rfl (fun ls hl => ?_)
          refine q_iinc (w := 1) (lv' := [(4, .int (s7.2.2 + 1)), (2, .int x15), (1, .int x14), (5, .int x12), (0, .ref o_q0), (3, .int s2.2.2)]) S dX12_watch_86 hl (k := 5) rfl ic_1 (by decide) rfl (fun ls hl => ?_)
          refine lv_goto (tgt := 28) S.1 S.2.1 dX12_watch_89 (by decide) ?_
          exact hI8 _ (Option.some.inj hf).symm _ (lv_sub hl [4, 2, 1, 5, 0] rfl)
def f_X12_fits (fu : Nat) (o_code : Int32) (o_many : (Nat → Int32)) (o_towns : (Nat → Int32)) (o_logs : (Nat → Int32)) (o_town : Int32) (o_people : Int32) (o_when : Int32) (o_sat : Int32) (o_quiet : Int32) (o_vain : Int32) (o_lent : Int32) (o_forgiven : Int32) (o_sundays : Int32) (o_purse : (Nat → Int32)) (o_beside : (Nat → Int32)) (o_debts : (Nat → Int32)) (o_sitting : (Nat → Int32)) (o_visited : (Nat → Int32)) (o_log : Int32) (o_fitting : (Nat → Int32)) (o_found : Int32) (p1 : Int32) (p2 : Int32) (p3 : Int32) : Option (Int32 × Int32 × Int32 × Int32 × Int32 × Int32 × Int32 × Int32 × Int32 × Int32 × Int32 × (Nat → Int32) × (Nat → Int32) × (Nat → Int32) × (Nat → Int32) × (Nat → Int32) × Int32 × (Nat → Int32) × Int32) := bnd (α := Int32 × Int32 × Int32 × Int32 × Int32 × Int32 × Int32 × Int32 × Int32 × Int32 × (Nat → Int32) × (Nat → Int32) × (Nat → Int32) × (Nat → Int32) × (Nat → Int32) × Int32 × (Nat → Int32) × Int32) (f_X12_layLog fu o_many o_towns o_logs o_town o_people o_when o_sat o_quiet o_vain o_lent o_forgiven o_sundays o_purse o_beside o_debts o_sitting o_visited o_log o_fitting o_found p1 p2) (fun x1 => if x1.1 = 0 then some ((-2 : Int32), (0 : Int32), x1.2.1, x1.2.2.1, x1.2.2.2.1, x1.2.2.2.2.1, x1.2.2.2.2.2.1, x1.2.2.2.2.2.2.1, x1.2.2.2.2.2.2.2.1, x1.2.2.2.2.2.2.2.2.1, x1.2.2.2.2.2.2.2.2.2.1, x1.2.2.2.2.2.2.2.2.2.2.1, x1.2.2.2.2.2.2.2.2.2.2.2.1, x1.2.2.2.2.2.2.2.2.2.2.2.2.1, x1.2.2.2.2.2.2.2.2.2.2.2.2.2.1, x1.2.2.2.2.2.2.2.2.2.2.2.2.2.2.1, x1.2.2.2.2.2.2.2.2.2.2.2.2.2.2.2.1, x1.2.2.2.2.2.2.2.2.2.2.2.2.2.2.2.2.1, x1.2.2.2.2.2.2.2.2.2.2.2.2.2.2.2.2.2) else if p3 < (10 : Int32) then if p3 = 0 then some (x1.2.2.2.2.2.2.2.2.2.2.2.2.2.2.2.2.2, (0 : Int32), x1.2.1, x1.2.2.1, x1.2.2.2.1, x1.2.2.2.2.1, x1.2.2.2.2.2.1, x1.2.2.2.2.2.2.1, x1.2.2.2.2.2.2.2.1, x1.2.2.2.2.2.2.2.2.1, x1.2.2.2.2.2.2.2.2.2.1, x1.2.2.2.2.2.2.2.2.2.2.1, x1.2.2.2.2.2.2.2.2.2.2.2.1, x1.2.2.2.2.2.2.2.2.2.2.2.2.1, x1.2.2.2.2.2.2.2.2.2.2.2.2.2.1, x1.2.2.2.2.2.2.2.2.2.2.2.2.2.2.1, x1.2.2.2.2.2.2.2.2.2.2.2.2.2.2.2.1, x1.2.2.2.2.2.2.2.2.2.2.2.2.2.2.2.2.1, x1.2.2.2.2.2.2.2.2.2.2.2.2.2.2.2.2.2) else if p3 = 1 then bnd (α := Int32) (f_X12_sure fu x1.2.2.2.2.2.2.2.2.2.2.2.2.2.2.2.2.1 x1.2.2.2.2.2.2.2.2.2.2.2.2.2.2.2.2.2) (fun x2 => some (x2, (0 : Int32), x1.2.1, x1.2.2.1, x1.2.2.2.1, x1.2.2.2.2.1, x1.2.2.2.2.2.1, x1.2.2.2.2.2.2.1, x1.2.2.2.2.2.2.2.1, x1.2.2.2.2.2.2.2.2.1, x1.2.2.2.2.2.2.2.2.2.1, x1.2.2.2.2.2.2.2.2.2.2.1, x1.2.2.2.2.2.2.2.2.2.2.2.1, x1.2.2.2.2.2.2.2.2.2.2.2.2.1, x1.2.2.2.2.2.2.2.2.2.2.2.2.2.1, x1.2.2.2.2.2.2.2.2.2.2.2.2.2.2.1, x1.2.2.2.2.2.2.2.2.2.2.2.2.2.2.2.1, x1.2.2.2.2.2.2.2.2.2.2.2.2.2.2.2.2.1, x1.2.2.2.2.2.2.2.2.2.2.2.2.2.2.2.2.2)) else if p3 = 2 then bnd (α := Int32) (f_X12_watch fu x1.2.2.1 x1.2.2.2.2.2.2.2.2.2.2.2.2.2.2.2.2.1 x1.2.2.2.2.2.2.2.2.2.2.2.2.2.2.2.2.2) (fun x3 => some (x3, (0 : Int32), x1.2.1, x1.2.2.1, x1.2.2.2.1, x1.2.2.2.2.1, x1.2.2.2.2.2.1, x1.2.2.2.2.2.2.1, x1.2.2.2.2.2.2.2.1, x1.2.2.2.2.2.2.2.2.1, x1.2.2.2.2.2.2.2.2.2.1, x1.2.2.2.2.2.2.2.2.2.2.1, x1.2.2.2.2.2.2.2.2.2.2.2.1, x1.2.2.2.2.2.2.2.2.2.2.2.2.1, x1.2.2.2.2.2.2.2.2.2.2.2.2.2.1, x1.2.2.2.2.2.2.2.2.2.2.2.2.2.2.1, x1.2.2.2.2.2.2.2.2.2.2.2.2.2.2.2.1, x1.2.2.2.2.2.2.2.2.2.2.2.2.2.2.2.2.1, x1.2.2.2.2.2.2.2.2.2.2.2.2.2.2.2.2.2)) else some ((-2 : Int32), (0 : Int32), x1.2.1, x1.2.2.1, x1.2.2.2.1, x1.2.2.2.2.1, x1.2.2.2.2.2.1, x1.2.2.2.2.2.2.1, x1.2.2.2.2.2.2.2.1, x1.2.2.2.2.2.2.2.2.1, x1.2.2.2.2.2.2.2.2.2.1, x1.2.2.2.2.2.2.2.2.2.2.1, x1.2.2.2.2.2.2.2.2.2.2.2.1, x1.2.2.2.2.2.2.2.2.2.2.2.2.1, x1.2.2.2.2.2.2.2.2.2.2.2.2.2.1, x1.2.2.2.2.2.2.2.2.2.2.2.2.2.2.1, x1.2.2.2.2.2.2.2.2.2.2.2.2.2.2.2.1, x1.2.2.2.2.2.2.2.2.2.2.2.2.2.2.2.2.1, x1.2.2.2.2.2.2.2.2.2.2.2.2.2.2.2.2.2) else if x1.2.2.2.2.2.2.2.2.2.2.2.2.2.2.2.2.2 ≤ (p3 - (10 : Int32)) then some ((-2 : Int32), (0 : Int32), x1.2.1, x1.2.2.1, x1.2.2.2.1, x1.2.2.2.2.1, x1.2.2.2.2.2.1, x1.2.2.2.2.2.2.1, x1.2.2.2.2.2.2.2.1, x1.2.2.2.2.2.2.2.2.1, x1.2.2.2.2.2.2.2.2.2.1, x1.2.2.2.2.2.2.2.2.2.2.1, x1.2.2.2.2.2.2.2.2.2.2.2.1, x1.2.2.2.2.2.2.2.2.2.2.2.2.1, x1.2.2.2.2.2.2.2.2.2.2.2.2.2.1, x1.2.2.2.2.2.2.2.2.2.2.2.2.2.2.1, x1.2.2.2.2.2.2.2.2.2.2.2.2.2.2.2.1, x1.2.2.2.2.2.2.2.2.2.2.2.2.2.2.2.2.1, x1.2.2.2.2.2.2.2.2.2.2.2.2.2.2.2.2.2) else bnd (α := Int32) (rdi 192 x1.2.2.2.2.2.2.2.2.2.2.2.2.2.2.2.2.1 (p3 - (10 : Int32))) (fun x4 => some (x4, (0 : Int32), x1.2.1, x1.2.2.1, x1.2.2.2.1, x1.2.2.2.2.1, x1.2.2.2.2.2.1, x1.2.2.2.2.2.2.1, x1.2.2.2.2.2.2.2.1, x1.2.2.2.2.2.2.2.2.1, x1.2.2.2.2.2.2.2.2.2.1, x1.2.2.2.2.2.2.2.2.2.2.1, x1.2.2.2.2.2.2.2.2.2.2.2.1, x1.2.2.2.2.2.2.2.2.2.2.2.2.1, x1.2.2.2.2.2.2.2.2.2.2.2.2.2.1, x1.2.2.2.2.2.2.2.2.2.2.2.2.2.2.1, x1.2.2.2.2.2.2.2.2.2.2.2.2.2.2.2.1, x1.2.2.2.2.2.2.2.2.2.2.2.2.2.2.2.2.1, x1.2.2.2.2.2.2.2.2.2.2.2.2.2.2.2.2.2)))
set_option maxHeartbeats 4000000 in
set_option maxRecDepth 100000 in
theorem c_X12_fits {l : Launch} {D : va_G} {g : Nat → ClassId} {fu : Nat} {o_q0 o_q1 o_q2 o_q3 o_q4 o_q5 o_q6 o_q7 o_q8 o_q9 o_q10 o_q11 o_q12 o_q13 o_q14 o_q15 o_q16 o_q17 o_q18 o_q19 o_q20 o_q21 o_q22 : Nat} {o_code : Int32} {o_tape : (Nat → Int32)} {o_size : (Nat → Int32)} {o_fault : (Nat → Int32)} {o_faultPlace : (Nat → Int32)} {o_many : (Nat → Int32)} {o_towns : (Nat → Int32)} {o_weeks : (Nat → Int32)} {o_logs : (Nat → Int32)} {o_reached : Int32} {o_length : Int32} {o_begins : Int32} {o_sort : Int32} {o_value : Int32} {o_word : Int64} {o_wrongAt : Int32} {o_laterFault : Int32} {o_laterPlace : Int32} {o_told : (Nat → Int32)} {o_read : (Nat → Int32)} {o_farOne : Int32} {o_good : Int32} {o_town : Int32} {o_people : Int32} {o_when : Int32} {o_sat : Int32} {o_quiet : Int32} {o_vain : Int32} {o_lent : Int32} {o_forgiven : Int32} {o_sundays : Int32} {o_purse : (Nat → Int32)} {o_beside : (Nat → Int32)} {o_debts : (Nat → Int32)} {o_sitting : (Nat → Int32)} {o_visited : (Nat → Int32)} {o_week : Int32} {o_heaps : (Nat → Int32)} {o_taken : (Nat → Int32)} {o_best : (Nat → Int32)} {o_more : (Nat → Int32)} {o_firstOne : Int32} {o_log : Int32} {o_fitting : (Nat → Int32)} {o_found : Int32} {o_seed : Int32} {o_row : (Nat → Int32)} {o_saved : (Nat → Int32)} {p1 : Int32} {p2 : Int32} {p3 : Int32} {r : Int32 × Int32 × Int32 × Int32 × Int32 × Int32 × Int32 × Int32 × Int32 × Int32 × Int32 × (Nat → Int32) × (Nat → Int32) × (Nat → Int32) × (Nat → Int32) × (Nat → Int32) × Int32 × (Nat → Int32) × Int32} (hf : f_X12_fits fu o_code o_many o_towns o_logs o_town o_people o_when o_sat o_quiet o_vain o_lent o_forgiven o_sundays o_purse o_beside o_debts o_sitting o_visited o_log o_fitting o_found p1 p2 p3 = some r) : Wr l D (gy g) yX12_fits cX12_fits 4 (some .int) 4 [.ref o_q0, .int p1, .int p2, .int p3] (wMd g o_q0 o_q1 o_q2 o_q3 o_q4 o_q5 o_q6 o_q7 o_q8 o_q9 o_q10 o_q11 o_q12 o_q13 o_q14 o_q15 o_q16 o_q17 o_q18 o_q19 o_q20 o_q21 o_q22 o_code o_tape o_size o_fault o_faultPlace o_many o_towns o_weeks o_logs o_reached o_length o_begins o_sort o_value o_word o_wrongAt o_laterFault o_laterPlace o_told o_read o_farOne o_good o_town o_people o_when o_sat o_quiet o_vain o_lent o_forgiven o_sundays o_purse o_beside o_debts o_sitting o_visited o_week o_heaps o_taken o_best o_more o_firstOne o_log o_fitting o_found o_seed o_row o_saved) (wMd g o_q0 o_q1 o_q2 o_q3 o_q4 o_q5 o_q6 o_q7 o_q8 o_q9 o_q10 o_q11 o_q12 o_q13 o_q14 o_q15 o_q16 o_q17 o_q18 o_q19 o_q20 o_q21 o_q22 r.2.1 o_tape o_size o_fault o_faultPlace o_many o_towns o_weeks o_logs o_reached o_length o_begins o_sort o_value o_word o_wrongAt o_laterFault o_laterPlace o_told o_read o_farOne o_good r.2.2.1 r.2.2.2.1 r.2.2.2.2.1 r.2.2.2.2.2.1 r.2.2.2.2.2.2.1 r.2.2.2.2.2.2.2.1 r.2.2.2.2.2.2.2.2.1 r.2.2.2.2.2.2.2.2.2.1 r.2.2.2.2.2.2.2.2.2.2.1 r.2.2.2.2.2.2.2.2.2.2.2.1 r.2.2.2.2.2.2.2.2.2.2.2.2.1 r.2.2.2.2.2.2.2.2.2.2.2.2.2.1 r.2.2.2.2.2.2.2.2.2.2.2.2.2.2.1 r.2.2.2.2.2.2.2.2.2.2.2.2.2.2.2.1 o_week o_heaps o_taken o_best o_more o_firstOne r.2.2.2.2.2.2.2.2.2.2.2.2.2.2.2.2.1 r.2.2.2.2.2.2.2.2.2.2.2.2.2.2.2.2.2.1 r.2.2.2.2.2.2.2.2.2.2.2.2.2.2.2.2.2.2 o_seed o_row o_saved) (some (.int r.1)) := by
  refine Wr.ofI (by decide) (Nat.le_of_ble_eq_true rfl) ?_
  intro p e s m args below meth c Q A S hK hA hret ls hl hW
  have hl : lv_has ls 4 [(0, .ref o_q0), (1, .int p1), (2, .int p2), (3, .int p3)] := hl
  refine lv_aload_n S.1 S.2.1 dX12_fits_0 rfl (lv_at hl 0 rfl) ?_
  refine lv_iconst (v := 0) S.1 S.2.1 dX12_fits_1 ic_0 ?_
  refine pfX12_78 (ws2 := (wMd g o_q0 o_q1 o_q2 o_q3 o_q4 o_q5 o_q6 o_q7 o_q8 o_q9 o_q10 o_q11 o_q12 o_q13 o_q14 o_q15 o_q16 o_q17 o_q18 o_q19 o_q20 o_q21 o_q22 (0 : Int32) o_tape o_size o_fault o_faultPlace o_many o_towns o_weeks o_logs o_reached o_length o_begins o_sort o_value o_word o_wrongAt o_laterFault o_laterPlace o_told o_read o_farOne o_good o_town o_people o_when o_sat o_quiet o_vain o_lent o_forgiven o_sundays o_purse o_beside o_debts o_sitting o_visited o_week o_heaps o_taken o_best o_more o_firstOne o_log o_fitting o_found o_seed o_row o_saved)) S hK hW 0 rfl rfl rfl (Nat.le_of_ble_eq_true rfl) rfl dX12_fits_2 (fun H locs hW => ?_)
  refine lv_aload_n S.1 S.2.1 dX12_fits_5 rfl (lv_at hl 0 rfl) ?_
  refine lv_iload_n S.1 S.2.1 dX12_fits_6 rfl (lv_at hl 1 rfl) ?_
  refine lv_iload_n S.1 S.2.1 dX12_fits_7 rfl (lv_at hl 2 rfl) ?_
  obtain ⟨x1, hx1, hf⟩ := bnd_e hf
  refine Wr.goW (Wr.runV (c_X12_layLog hx1) S hK hW.1 hW.2.1 0 10 rfl rfl kVX12_411 rfl hl.1 [] rfl (Nat.le_of_ble_eq_true rfl) ⟨(Nat.le_of_ble_eq_true rfl), (Nat.le_of_ble_eq_true rfl)⟩ ⟨(Nat.zero_le _), (Nat.zero_le _)⟩ dX12_fits_8) hW hA (fun H locs hW => ?_)
  refine lv_if_ne (tgt := 17) S.1 S.2.1 dX12_fits_11 (by decide) (fun c_ => ?_) (fun c_ => ?_)
  · have hf := it_n c_ hf
    refine lv_iload_n S.1 S.2.1 dX12_fits_17 rfl (lv_at hl 3 rfl) ?_
    refine lv_bipush (v := 10) S.1 S.2.1 dX12_fits_18 bp_10 ?_
    refine lv_icmp_lt (tgt := 49) S.1 S.2.1 dX12_fits_20 (by decide) (fun c_ => ?_) (fun c_ => ?_)
    · have hf := it_p c_ hf
      refine lv_iload_n S.1 S.2.1 dX12_fits_49 rfl (lv_at hl 3 rfl) ?_
      by_cases c_0 : p3 = 0
      · have hf := it_p c_0 hf
        refine lv_tableIn (tgt := 76) (off := 26) S.1 S.2.1 dX12_fits_50 (by rw [c_0]; decide) (by rw [c_0]; decide) (by rw [c_0]; decide) (by decide) ?_
        refine lv_aload_n S.1 S.2.1 dX12_fits_76 rfl (lv_at hl 0 rfl) ?_
        refine gfX12_398 S hK hW.1 0 rfl rfl dX12_fits_77 ?_
        have e_ := Option.some.inj hf
        subst e_
        exact hret _ _ _ _ dX12_fits_80 hW
      have hf := it_n c_0 hf
      by_cases c_1 : p3 = 1
      · have hf := it_p c_1 hf
        refine lv_tableIn (tgt := 81) (off := 31) S.1 S.2.1 dX12_fits_50 (by rw [c_1]; decide) (by rw [c_1]; decide) (by rw [c_1]; decide) (by decide) ?_
        refine lv_aload_n S.1 S.2.1 dX12_fits_81 rfl (lv_at hl 0 rfl) ?_
        obtain ⟨x2, hx2, hf⟩ := bnd_e hf
        refine Rd.cV (c_X12_sure hx2) S hK hW.1 0 10 rfl rfl kVX12_414 rfl hl.1 [] rfl (Nat.le_of_ble_eq_true rfl) ⟨(Nat.le_of_ble_eq_true rfl), (Nat.le_of_ble_eq_true rfl)⟩ ⟨(Nat.zero_le _), (Nat.zero_le _)⟩ dX12_fits_82 ?_
        have e_ := Option.some.inj hf
        subst e_
        exact hret _ _ _ _ dX12_fits_85 hW
      have hf := it_n c_1 hf
      by_cases c_2 : p3 = 2
      · have hf := it_p c_2 hf
        refine lv_tableIn (tgt := 86) (off := 36) S.1 S.2.1 dX12_fits_50 (by rw [c_2]; decide) (by rw [c_2]; decide) (by rw [c_2]; decide) (by decide) ?_
        refine lv_aload_n S.1 S.2.1 dX12_fits_86 rfl (lv_at hl 0 rfl) ?_
        obtain ⟨x3, hx3, hf⟩ := bnd_e hf
        refine Rd.cV (c_X12_watch hx3) S hK hW.1 0 10 rfl rfl kVX12_417 rfl hl.1 [] rfl (Nat.le_of_ble_eq_true rfl) ⟨(Nat.le_of_ble_eq_true rfl), (Nat.le_of_ble_eq_true rfl)⟩ ⟨(Nat.zero_le _), (Nat.zero_le _)⟩ dX12_fits_87 ?_
        have e_ := Option.some.inj hf
        subst e_
        exact hret _ _ _ _ dX12_fits_90 hW
      have hf := it_n c_2 hf
      refine lv_tableOut (tgt := 91) S.1 S.2.1 dX12_fits_50 (by have n_0 := lv_neT c_0 (a := 0) (by decide); have n_1 := lv_neT c_1 (a := 1) (by decide); have n_2 := lv_neT c_2 (a := 2) (by decide); omega) (by decide) ?_
      refine lv_bipush (v := (-2)) S.1 S.2.1 dX12_fits_91 bp_m2 ?_
      have e_ := Option.some.inj hf
      subst e_
      exact hret _ _ _ _ dX12_fits_93 hW
    · have hf := it_n c_ hf
      refine lv_iload_n S.1 S.2.1 dX12_fits_23 rfl (lv_at hl 3 rfl) ?_
      refine lv_bipush (v := 10) S.1 S.2.1 dX12_fits_24 bp_10 ?_
      refine lv_isub S.1 S.2.1 dX12_fits_26 ?_
      refine lv_aload_n S.1 S.2.1 dX12_fits_27 rfl (lv_at hl 0 rfl) ?_
      refine gfX12_398 S hK hW.1 0 rfl rfl dX12_fits_28 ?_
      refine lv_icmp_ge (tgt := 46) S.1 S.2.1 dX12_fits_31 (by decide) (fun c_ => ?_) (fun c_ => ?_)
      · have hf := it_p c_ hf
        refine lv_bipush (v := (-2)) S.1 S.2.1 dX12_fits_46 bp_m2 ?_
        have e_ := Option.some.inj hf
        subst e_
        exact hret _ _ _ _ dX12_fits_48 hW
      · have hf := it_n c_ hf
        refine lv_aload_n S.1 S.2.1 dX12_fits_34 rfl (lv_at hl 0 rfl) ?_
        refine gfX12_68 S hK hW.1 0 rfl rfl dX12_fits_35 ?_
        refine lv_iload_n S.1 S.2.1 dX12_fits_38 rfl (lv_at hl 3 rfl) ?_
        refine lv_bipush (v := 10) S.1 S.2.1 dX12_fits_39 bp_10 ?_
        refine lv_isub S.1 S.2.1 dX12_fits_41 ?_
        obtain ⟨x4, hx4, hf⟩ := bnd_e hf
        refine q_iald S hK hW.1 20 0 rfl rfl hx4 dX12_fits_42 ?_
        refine lv_goto (tgt := 48) S.1 S.2.1 dX12_fits_43 (by decide) ?_
        have e_ := Option.some.inj hf
        subst e_
        exact hret _ _ _ _ dX12_fits_48 hW
  · have hf := it_p c_ hf
    refine lv_bipush (v := (-2)) S.1 S.2.1 dX12_fits_14 bp_m2 ?_
    have e_ := Option.some.inj hf
    subst e_
    exact hret _ _ _ _ dX12_fits_16 hW
def f_X12_draw (fu : Nat) (o_seed : Int32) (p1 : Int32) : Option (Int32 × Int32) := ltn ((o_seed * (1103515245 : Int32)) + (12345 : Int32)) (fun x1 => bnd (α := Int32) (rmi (jushr x1 (16 : Int32)) p1) (fun x2 => some (x2, x1)))
set_option maxHeartbeats 4000000 in
set_option maxRecDepth 100000 in
theorem c_X12_draw {l : Launch} {D : va_G} {g : Nat → ClassId} {fu : Nat} {o_q0 o_q1 o_q2 o_q3 o_q4 o_q5 o_q6 o_q7 o_q8 o_q9 o_q10 o_q11 o_q12 o_q13 o_q14 o_q15 o_q16 o_q17 o_q18 o_q19 o_q20 o_q21 o_q22 : Nat} {o_code : Int32} {o_tape : (Nat → Int32)} {o_size : (Nat → Int32)} {o_fault : (Nat → Int32)} {o_faultPlace : (Nat → Int32)} {o_many : (Nat → Int32)} {o_towns : (Nat → Int32)} {o_weeks : (Nat → Int32)} {o_logs : (Nat → Int32)} {o_reached : Int32} {o_length : Int32} {o_begins : Int32} {o_sort : Int32} {o_value : Int32} {o_word : Int64} {o_wrongAt : Int32} {o_laterFault : Int32} {o_laterPlace : Int32} {o_told : (Nat → Int32)} {o_read : (Nat → Int32)} {o_farOne : Int32} {o_good : Int32} {o_town : Int32} {o_people : Int32} {o_when : Int32} {o_sat : Int32} {o_quiet : Int32} {o_vain : Int32} {o_lent : Int32} {o_forgiven : Int32} {o_sundays : Int32} {o_purse : (Nat → Int32)} {o_beside : (Nat → Int32)} {o_debts : (Nat → Int32)} {o_sitting : (Nat → Int32)} {o_visited : (Nat → Int32)} {o_week : Int32} {o_heaps : (Nat → Int32)} {o_taken : (Nat → Int32)} {o_best : (Nat → Int32)} {o_more : (Nat → Int32)} {o_firstOne : Int32} {o_log : Int32} {o_fitting : (Nat → Int32)} {o_found : Int32} {o_seed : Int32} {o_row : (Nat → Int32)} {o_saved : (Nat → Int32)} {p1 : Int32} {r : Int32 × Int32} (hf : f_X12_draw fu o_seed p1 = some r) : Wr l D (gy g) yX12_draw cX12_draw 2 (some .int) 0 [.ref o_q0, .int p1] (wMd g o_q0 o_q1 o_q2 o_q3 o_q4 o_q5 o_q6 o_q7 o_q8 o_q9 o_q10 o_q11 o_q12 o_q13 o_q14 o_q15 o_q16 o_q17 o_q18 o_q19 o_q20 o_q21 o_q22 o_code o_tape o_size o_fault o_faultPlace o_many o_towns o_weeks o_logs o_reached o_length o_begins o_sort o_value o_word o_wrongAt o_laterFault o_laterPlace o_told o_read o_farOne o_good o_town o_people o_when o_sat o_quiet o_vain o_lent o_forgiven o_sundays o_purse o_beside o_debts o_sitting o_visited o_week o_heaps o_taken o_best o_more o_firstOne o_log o_fitting o_found o_seed o_row o_saved) (wMd g o_q0 o_q1 o_q2 o_q3 o_q4 o_q5 o_q6 o_q7 o_q8 o_q9 o_q10 o_q11 o_q12 o_q13 o_q14 o_q15 o_q16 o_q17 o_q18 o_q19 o_q20 o_q21 o_q22 o_code o_tape o_size o_fault o_faultPlace o_many o_towns o_weeks o_logs o_reached o_length o_begins o_sort o_value o_word o_wrongAt o_laterFault o_laterPlace o_told o_read o_farOne o_good o_town o_people o_when o_sat o_quiet o_vain o_lent o_forgiven o_sundays o_purse o_beside o_debts o_sitting o_visited o_week o_heaps o_taken o_best o_more o_firstOne o_log o_fitting o_found r.2 o_row o_saved) (some (.int r.1)) := by
  refine Wr.ofI (by decide) (Nat.le_of_ble_eq_true rfl) ?_
  intro p e s m args below meth c Q A S hK hA hret ls hl hW
  have hl : lv_has ls 2 [(0, .ref o_q0), (1, .int p1)] := hl
  refine lv_aload_n S.1 S.2.1 dX12_draw_0 rfl (lv_at hl 0 rfl) ?_
  refine lv_aload_n S.1 S.2.1 dX12_draw_1 rfl (lv_at hl 0 rfl) ?_
  refine gfX12_420 S hK hW.1 0 rfl rfl dX12_draw_2 ?_
  refine lv_ldcw (v := 1103515245) S.1 S.2.1 S.2.2.2.1 (S.2.2.2.2 _ q_1570) dX12_draw_5 ?_
  refine lv_imul S.1 S.2.1 dX12_draw_8 ?_
  refine lv_sipush (v := 12345) S.1 S.2.1 dX12_draw_9 sp_12345 ?_
  refine lv_iadd S.1 S.2.1 dX12_draw_12 ?_
  refine lv_topi (fun x1 ex1 => ?_)
  have hf := ltn_e hf ex1
  refine pfX12_420 (ws2 := (wMd g o_q0 o_q1 o_q2 o_q3 o_q4 o_q5 o_q6 o_q7 o_q8 o_q9 o_q10 o_q11 o_q12 o_q13 o_q14 o_q15 o_q16 o_q17 o_q18 o_q19 o_q20 o_q21 o_q22 o_code o_tape o_size o_fault o_faultPlace o_many o_towns o_weeks o_logs o_reached o_length o_begins o_sort o_value o_word o_wrongAt o_laterFault o_laterPlace o_told o_read o_farOne o_good o_town o_people o_when o_sat o_quiet o_vain o_lent o_forgiven o_sundays o_purse o_beside o_debts o_sitting o_visited o_week o_heaps o_taken o_best o_more o_firstOne o_log o_fitting o_found x1 o_row o_saved)) S hK hW 0 rfl rfl rfl (Nat.le_of_ble_eq_true rfl) rfl dX12_draw_13 (fun H locs hW => ?_)
  refine lv_aload_n S.1 S.2.1 dX12_draw_16 rfl (lv_at hl 0 rfl) ?_
  refine gfX12_420 S hK hW.1 0 rfl rfl dX12_draw_17 ?_
  refine lv_bipush (v := 16) S.1 S.2.1 dX12_draw_20 bp_16 ?_
  refine lv_iushr (v := (jushr x1 (16 : Int32))) S.1 S.2.1 dX12_draw_22 rfl ?_
  refine lv_iload_n S.1 S.2.1 dX12_draw_23 rfl (lv_at hl 1 rfl) ?_
  obtain ⟨x2, hx2, hf⟩ := bnd_e hf
  refine q_irem S hx2 dX12_draw_24 ?_
  have e_ := Option.some.inj hf
  subst e_
  exact hret _ _ _ _ dX12_draw_25 hW
def f_X12_drawDeed (fu : Nat) (o_towns : (Nat → Int32)) (o_town : Int32) (o_people : Int32) (o_when : Int32) (o_sat : Int32) (o_quiet : Int32) (o_vain : Int32) (o_lent : Int32) (o_forgiven : Int32) (o_sundays : Int32) (o_purse : (Nat → Int32)) (o_beside : (Nat → Int32)) (o_debts : (Nat → Int32)) (o_sitting : (Nat → Int32)) (o_visited : (Nat → Int32)) (o_seed : Int32) : Option (Int32 × Int32 × Int32 × Int32 × Int32 × Int32 × Int32 × (Nat → Int32) × (Nat → Int32) × (Nat → Int32) × (Nat → Int32) × (Nat → Int32) × Int32) := bnd (α := Int32 × Int32) (f_X12_draw fu o_seed (10 : Int32)) (fun x1 => if x1.1 ≤ (7 : Int32) then if (2 : Int32) ≤ o_people then bnd (α := Int32 × Int32) (f_X12_draw fu x1.2 o_people) (fun x2 => if x1.1 ≤ (5 : Int32) then bnd (α := Int32 × Int32) (f_X12_draw fu x2.2 (o_people - (1 : Int32))) (fun x3 => bnd (α := Int32) (rmi ((x3.1 + (1 : Int32)) + x2.1) o_people) (fun x4 => bnd (α := Int32) (if (3 : Int32) ≤ x1.1 then if x1.1 = (3 : Int32) then some (1 : Int32) else if x1.1 = (4 : Int32) then some (2 : Int32) else some (3 : Int32) else some (0 : Int32)) (fun v6 => if (3 : Int32) ≤ x1.1 then bnd (α := Int32 × Int32) (f_X12_draw fu x3.2 (5 : Int32)) (fun x7 => bnd (α := Int32 × Int32 × Int32 × Int32 × Int32 × Int32 × Int32 × Int32 × (Nat → Int32) × (Nat → Int32) × (Nat → Int32) × (Nat → Int32) × (Nat → Int32)) (f_X12_does fu o_towns o_town o_people o_when o_sat o_quiet o_vain o_lent o_forgiven o_sundays o_purse o_beside o_debts o_sitting o_visited v6 x2.1 x4 ((1 : Int32) + x7.1)) (fun x8 => some (x8.2.1, x8.2.2.1, x8.2.2.2.1, x8.2.2.2.2.1, x8.2.2.2.2.2.1, x8.2.2.2.2.2.2.1, x8.2.2.2.2.2.2.2.1, x8.2.2.2.2.2.2.2.2.1, x8.2.2.2.2.2.2.2.2.2.1, x8.2.2.2.2.2.2.2.2.2.2.1, x8.2.2.2.2.2.2.2.2.2.2.2.1, x8.2.2.2.2.2.2.2.2.2.2.2.2, x7.2))) else bnd (α := Int32 × Int32 × Int32 × Int32 × Int32 × Int32 × Int32 × Int32 × (Nat → Int32) × (Nat → Int32) × (Nat → Int32) × (Nat → Int32) × (Nat → Int32)) (f_X12_does fu o_towns o_town o_people o_when o_sat o_quiet o_vain o_lent o_forgiven o_sundays o_purse o_beside o_debts o_sitting o_visited v6 x2.1 x4 (-1 : Int32)) (fun x9 => some (x9.2.1, x9.2.2.1, x9.2.2.2.1, x9.2.2.2.2.1, x9.2.2.2.2.2.1, x9.2.2.2.2.2.2.1, x9.2.2.2.2.2.2.2.1, x9.2.2.2.2.2.2.2.2.1, x9.2.2.2.2.2.2.2.2.2.1, x9.2.2.2.2.2.2.2.2.2.2.1, x9.2.2.2.2.2.2.2.2.2.2.2.1, x9.2.2.2.2.2.2.2.2.2.2.2.2, x3.2))))) else if x1.1 = (6 : Int32) then bnd (α := Int32 × Int32 × Int32 × Int32 × Int32 × Int32 × Int32 × Int32 × (Nat → Int32) × (Nat → Int32) × (Nat → Int32) × (Nat → Int32) × (Nat → Int32)) (f_X12_does fu o_towns o_town o_people o_when o_sat o_quiet o_vain o_lent o_forgiven o_sundays o_purse o_beside o_debts o_sitting o_visited (4 : Int32) x2.1 (-1 : Int32) (-1 : Int32)) (fun x10 => some (x10.2.1, x10.2.2.1, x10.2.2.2.1, x10.2.2.2.2.1, x10.2.2.2.2.2.1, x10.2.2.2.2.2.2.1, x10.2.2.2.2.2.2.2.1, x10.2.2.2.2.2.2.2.2.1, x10.2.2.2.2.2.2.2.2.2.1, x10.2.2.2.2.2.2.2.2.2.2.1, x10.2.2.2.2.2.2.2.2.2.2.2.1, x10.2.2.2.2.2.2.2.2.2.2.2.2, x2.2)) else bnd (α := Int32 × Int32 × Int32 × Int32 × Int32 × Int32 × Int32 × Int32 × (Nat → Int32) × (Nat → Int32) × (Nat → Int32) × (Nat → Int32) × (Nat → Int32)) (f_X12_does fu o_towns o_town o_people o_when o_sat o_quiet o_vain o_lent o_forgiven o_sundays o_purse o_beside o_debts o_sitting o_visited (5 : Int32) x2.1 (-1 : Int32) (-1 : Int32)) (fun x11 => some (x11.2.1, x11.2.2.1, x11.2.2.2.1, x11.2.2.2.2.1, x11.2.2.2.2.2.1, x11.2.2.2.2.2.2.1, x11.2.2.2.2.2.2.2.1, x11.2.2.2.2.2.2.2.2.1, x11.2.2.2.2.2.2.2.2.2.1, x11.2.2.2.2.2.2.2.2.2.2.1, x11.2.2.2.2.2.2.2.2.2.2.2.1, x11.2.2.2.2.2.2.2.2.2.2.2.2, x2.2))) else some (o_when, o_sat, o_quiet, o_vain, o_lent, o_forgiven, o_sundays, o_purse, o_beside, o_debts, o_sitting, o_visited, x1.2) else bnd (α := Int32 × Int32 × (Nat → Int32) × (Nat → Int32)) (f_X12_goesOn fu o_when o_sundays o_beside o_debts) (fun x12 => some (x12.1, o_sat, o_quiet, o_vain, o_lent, o_forgiven, x12.2.1, o_purse, x12.2.2.1, x12.2.2.2, o_sitting, o_visited, x1.2)))
set_option maxHeartbeats 4000000 in
set_option maxRecDepth 100000 in
theorem c_X12_drawDeed {l : Launch} {D : va_G} {g : Nat → ClassId} {fu : Nat} {o_q0 o_q1 o_q2 o_q3 o_q4 o_q5 o_q6 o_q7 o_q8 o_q9 o_q10 o_q11 o_q12 o_q13 o_q14 o_q15 o_q16 o_q17 o_q18 o_q19 o_q20 o_q21 o_q22 : Nat} {o_code : Int32} {o_tape : (Nat → Int32)} {o_size : (Nat → Int32)} {o_fault : (Nat → Int32)} {o_faultPlace : (Nat → Int32)} {o_many : (Nat → Int32)} {o_towns : (Nat → Int32)} {o_weeks : (Nat → Int32)} {o_logs : (Nat → Int32)} {o_reached : Int32} {o_length : Int32} {o_begins : Int32} {o_sort : Int32} {o_value : Int32} {o_word : Int64} {o_wrongAt : Int32} {o_laterFault : Int32} {o_laterPlace : Int32} {o_told : (Nat → Int32)} {o_read : (Nat → Int32)} {o_farOne : Int32} {o_good : Int32} {o_town : Int32} {o_people : Int32} {o_when : Int32} {o_sat : Int32} {o_quiet : Int32} {o_vain : Int32} {o_lent : Int32} {o_forgiven : Int32} {o_sundays : Int32} {o_purse : (Nat → Int32)} {o_beside : (Nat → Int32)} {o_debts : (Nat → Int32)} {o_sitting : (Nat → Int32)} {o_visited : (Nat → Int32)} {o_week : Int32} {o_heaps : (Nat → Int32)} {o_taken : (Nat → Int32)} {o_best : (Nat → Int32)} {o_more : (Nat → Int32)} {o_firstOne : Int32} {o_log : Int32} {o_fitting : (Nat → Int32)} {o_found : Int32} {o_seed : Int32} {o_row : (Nat → Int32)} {o_saved : (Nat → Int32)} {r : Int32 × Int32 × Int32 × Int32 × Int32 × Int32 × Int32 × (Nat → Int32) × (Nat → Int32) × (Nat → Int32) × (Nat → Int32) × (Nat → Int32) × Int32} (hf : f_X12_drawDeed fu o_towns o_town o_people o_when o_sat o_quiet o_vain o_lent o_forgiven o_sundays o_purse o_beside o_debts o_sitting o_visited o_seed = some r) : Wr l D (gy g) yX12_drawDeed cX12_drawDeed 4 none 4 [.ref o_q0] (wMd g o_q0 o_q1 o_q2 o_q3 o_q4 o_q5 o_q6 o_q7 o_q8 o_q9 o_q10 o_q11 o_q12 o_q13 o_q14 o_q15 o_q16 o_q17 o_q18 o_q19 o_q20 o_q21 o_q22 o_code o_tape o_size o_fault o_faultPlace o_many o_towns o_weeks o_logs o_reached o_length o_begins o_sort o_value o_word o_wrongAt o_laterFault o_laterPlace o_told o_read o_farOne o_good o_town o_people o_when o_sat o_quiet o_vain o_lent o_forgiven o_sundays o_purse o_beside o_debts o_sitting o_visited o_week o_heaps o_taken o_best o_more o_firstOne o_log o_fitting o_found o_seed o_row o_saved) (wMd g o_q0 o_q1 o_q2 o_q3 o_q4 o_q5 o_q6 o_q7 o_q8 o_q9 o_q10 o_q11 o_q12 o_q13 o_q14 o_q15 o_q16 o_q17 o_q18 o_q19 o_q20 o_q21 o_q22 o_code o_tape o_size o_fault o_faultPlace o_many o_towns o_weeks o_logs o_reached o_length o_begins o_sort o_value o_word o_wrongAt o_laterFault o_laterPlace o_told o_read o_farOne o_good o_town o_people r.1 r.2.1 r.2.2.1 r.2.2.2.1 r.2.2.2.2.1 r.2.2.2.2.2.1 r.2.2.2.2.2.2.1 r.2.2.2.2.2.2.2.1 r.2.2.2.2.2.2.2.2.1 r.2.2.2.2.2.2.2.2.2.1 r.2.2.2.2.2.2.2.2.2.2.1 r.2.2.2.2.2.2.2.2.2.2.2.1 o_week o_heaps o_taken o_best o_more o_firstOne o_log o_fitting o_found r.2.2.2.2.2.2.2.2.2.2.2.2 o_row o_saved) none := by
  refine Wr.ofV (by decide) (Nat.le_of_ble_eq_true rfl) ?_
  intro p e s m args below meth c Q A S hK hA hret ls hl hW
  have hl : lv_has ls 4 [(0, .ref o_q0)] := hl
  refine lv_aload_n S.1 S.2.1 dX12_drawDeed_0 rfl (lv_at hl 0 rfl) ?_
  refine lv_bipush (v := 10) S.1 S.2.1 dX12_drawDeed_1 bp_10 ?_
  obtain ⟨x1, hx1, hf⟩ := bnd_e hf
  refine Wr.goW (Wr.runV (c_X12_draw hx1) S hK hW.1 hW.2.1 0 10 rfl rfl kVX12_424 rfl hl.1 [] rfl (Nat.le_of_ble_eq_true rfl) ⟨(Nat.le_of_ble_eq_true rfl), (Nat.le_of_ble_eq_true rfl)⟩ ⟨(Nat.zero_le _), (Nat.zero_le _)⟩ dX12_drawDeed_3) hW hA (fun H locs hW => ?_)
  refine lv_istore_n (lv' := [(1, .int x1.1), (0, .ref o_q0)]) S.1 S.2.1 dX12_drawDeed_6 rfl hl (by decide) rfl (fun ls hl => ?_)
  refine lv_iload_n S.1 S.2.1 dX12_drawDeed_7 rfl (lv_at hl 0 rfl) ?_
  refine lv_bipush (v := 7) S.1 S.2.1 dX12_drawDeed_8 bp_7 ?_
  refine lv_icmp_le (tgt := 18) S.1 S.2.1 dX12_drawDeed_10 (by decide) (fun c_ => ?_) (fun c_ => ?_)
  · have hf := it_p c_ hf
    refine lv_aload_n S.1 S.2.1 dX12_drawDeed_18 rfl (lv_at hl 1 rfl) ?_
    refine gfX12_230 S hK hW.1 0 rfl rfl dX12_drawDeed_19 ?_
    refine lv_iconst (v := 2) S.1 S.2.1 dX12_drawDeed_22 ic_2 ?_
    refine lv_icmp_ge (tgt := 27) S.1 S.2.1 dX12_drawDeed_23 (by decide) (fun c_ => ?_) (fun c_ => ?_)
    · have hf := it_p c_ hf
      refine lv_aload_n S.1 S.2.1 dX12_drawDeed_27 rfl (lv_at hl 1 rfl) ?_
      refine lv_aload_n S.1 S.2.1 dX12_drawDeed_28 rfl (lv_at hl 1 rfl) ?_
      refine gfX12_230 S hK hW.1 0 rfl rfl dX12_drawDeed_29 ?_
      obtain ⟨x2, hx2, hf⟩ := bnd_e hf
      refine Wr.goW (Wr.runV (c_X12_draw hx2) S hK hW.1 hW.2.1 0 10 rfl rfl kVX12_424 rfl hl.1 [] rfl (Nat.le_of_ble_eq_true rfl) ⟨(Nat.le_of_ble_eq_true rfl), (Nat.le_of_ble_eq_true rfl)⟩ ⟨(Nat.zero_le _), (Nat.zero_le _)⟩ dX12_drawDeed_32) hW hA (fun H locs hW => ?_)
      refine lv_istore_n (lv' := [(2, .int x2.1), (1, .int x1.1), (0, .ref o_q0)]) S.1 S.2.1 dX12_drawDeed_35 rfl hl (by decide) rfl (fun ls hl => ?_)
      refine lv_iload_n S.1 S.2.1 dX12_drawDeed_36 rfl (lv_at hl 1 rfl) ?_
      refine lv_iconst (v := 5) S.1 S.2.1 dX12_drawDeed_37 ic_5 ?_
      refine lv_icmp_le (tgt := 61) S.1 S.2.1 dX12_drawDeed_38 (by decide) (fun c_ => ?_) (fun c_ => ?_)
      · have hf := it_p c_ hf
        refine lv_aload_n S.1 S.2.1 dX12_drawDeed_61 rfl (lv_at hl 2 rfl) ?_
        refine lv_aload_n S.1 S.2.1 dX12_drawDeed_62 rfl (lv_at hl 2 rfl) ?_
        refine gfX12_230 S hK hW.1 0 rfl rfl dX12_drawDeed_63 ?_
        refine lv_iconst (v := 1) S.1 S.2.1 dX12_drawDeed_66 ic_1 ?_
        refine lv_isub S.1 S.2.1 dX12_drawDeed_67 ?_
        obtain ⟨x3, hx3, hf⟩ := bnd_e hf
        refine Wr.goW (Wr.runV (c_X12_draw hx3) S hK hW.1 hW.2.1 0 10 rfl rfl kVX12_424 rfl hl.1 [] rfl (Nat.le_of_ble_eq_true rfl) ⟨(Nat.le_of_ble_eq_true rfl), (Nat.le_of_ble_eq_true rfl)⟩ ⟨(Nat.zero_le _), (Nat.zero_le _)⟩ dX12_drawDeed_68) hW hA (fun H locs hW => ?_)
        refine lv_iconst (v := 1) S.1 S.2.1 dX12_drawDeed_71 ic_1 ?_
        refine lv_iadd S.1 S.2.1 dX12_drawDeed_72 ?_
        refine lv_iload_n S.1 S.2.1 dX12_drawDeed_73 rfl (lv_at hl 0 rfl) ?_
        refine lv_iadd S.1 S.2.1 dX12_drawDeed_74 ?_
        refine lv_aload_n S.1 S.2.1 dX12_drawDeed_75 rfl (lv_at hl 2 rfl) ?_
        refine gfX12_230 S hK hW.1 0 rfl rfl dX12_drawDeed_76 ?_
        obtain ⟨x4, hx4, hf⟩ := bnd_e hf
        refine q_irem S hx4 dX12_drawDeed_79 ?_
        refine lv_istore_n (lv' := [(3, .int x4), (2, .int x2.1), (1, .int x1.1), (0, .ref o_q0)]) S.1 S.2.1 dX12_drawDeed_80 rfl hl (by decide) rfl (fun ls hl => ?_)
        refine lv_aload_n S.1 S.2.1 dX12_drawDeed_81 rfl (lv_at hl 3 rfl) ?_
        refine lv_iload_n S.1 S.2.1 dX12_drawDeed_82 rfl (lv_at hl 2 rfl) ?_
        refine lv_iconst (v := 3) S.1 S.2.1 dX12_drawDeed_83 ic_3 ?_
        obtain ⟨x5, hf_, hk5⟩ := bnd_e hf
        have hJ5 : ∀ (v6 : Int32), v6 = x5 → ∀ (ls : Array Slot) (H : Heap) (locs : List Loc), lv_has ls 4 [(0, .ref o_q0), (1, .int x1.1), (2, .int x2.1), (3, .int x4)] → St A s.heap D (wMd g o_q0 o_q1 o_q2 o_q3 o_q4 o_q5 o_q6 o_q7 o_q8 o_q9 o_q10 o_q11 o_q12 o_q13 o_q14 o_q15 o_q16 o_q17 o_q18 o_q19 o_q20 o_q21 o_q22 o_code o_tape o_size o_fault o_faultPlace o_many o_towns o_weeks o_logs o_reached o_length o_begins o_sort o_value o_word o_wrongAt o_laterFault o_laterPlace o_told o_read o_farOne o_good o_town o_people o_when o_sat o_quiet o_vain o_lent o_forgiven o_sundays o_purse o_beside o_debts o_sitting o_visited o_week o_heaps o_taken o_best o_more o_firstOne o_log o_fitting o_found x3.2 o_row o_saved) H locs → W p l e (rmD 4) s m args below meth c H locs 0 0 Q (F0 m 110 ls [.int v6, .ref o_q0]) := by
          intro v6 e_ ls H locs hl hW
          subst e_
          have hf := hk5
          refine lv_iload_n S.1 S.2.1 dX12_drawDeed_110 rfl (lv_at hl 2 rfl) ?_
          refine lv_iload_n S.1 S.2.1 dX12_drawDeed_111 rfl (lv_at hl 3 rfl) ?_
          refine lv_iload_n S.1 S.2.1 dX12_drawDeed_112 rfl (lv_at hl 1 rfl) ?_
          refine lv_iconst (v := 3) S.1 S.2.1 dX12_drawDeed_113 ic_3 ?_
          refine lv_icmp_ge (tgt := 121) S.1 S.2.1 dX12_drawDeed_114 (by decide) (fun c_ => ?_) (fun c_ => ?_)
          · have hf := it_p c_ hf
            refine lv_iconst (v := 1) S.1 S.2.1 dX12_drawDeed_121 ic_1 ?_
            refine lv_aload_n S.1 S.2.1 dX12_drawDeed_122 rfl (lv_at hl 0 rfl) ?_
            refine lv_iconst (v := 5) S.1 S.2.1 dX12_drawDeed_123 ic_5 ?_
            obtain ⟨x7, hx7, hf⟩ := bnd_e hf
            refine Wr.goW (Wr.runV (c_X12_draw hx7) S hK hW.1 hW.2.1 0 10 rfl rfl kVX12_424 rfl hl.1 [.int (1 : Int32), .int x4, .int x2.1, .int v6, .ref o_q0] rfl (Nat.le_of_ble_eq_true rfl) ⟨(Nat.le_of_ble_eq_true rfl), (Nat.le_of_ble_eq_true rfl)⟩ ⟨(Nat.zero_le _), (Nat.zero_le _)⟩ dX12_drawDeed_124) hW hA (fun H locs hW => ?_)
            refine lv_iadd S.1 S.2.1 dX12_drawDeed_127 ?_
            obtain ⟨x8, hx8, hf⟩ := bnd_e hf
            refine Wr.goW (Wr.runV (c_X12_does hx8) S hK hW.1 hW.2.1 0 10 rfl rfl kVX12_299 rfl hl.1 [] rfl (Nat.le_of_ble_eq_true rfl) ⟨(Nat.le_of_ble_eq_true rfl), (Nat.le_of_ble_eq_true rfl)⟩ ⟨(Nat.zero_le _), (Nat.zero_le _)⟩ dX12_drawDeed_128) hW hA (fun H locs hW => ?_)
            refine lv_pop S.1 S.2.1 dX12_drawDeed_131 rfl ?_
            have e_ := Option.some.inj hf
            subst e_
            exact hret _ _ _ _ dX12_drawDeed_132 hW
          · have hf := it_n c_ hf
            refine lv_iconst (v := (-1)) S.1 S.2.1 dX12_drawDeed_117 ic_m1 ?_
            refine lv_goto (tgt := 128) S.1 S.2.1 dX12_drawDeed_118 (by decide) ?_
            obtain ⟨x9, hx9, hf⟩ := bnd_e hf
            refine Wr.goW (Wr.runV (c_X12_does hx9) S hK hW.1 hW.2.1 0 10 rfl rfl kVX12_299 rfl hl.1 [] rfl (Nat.le_of_ble_eq_true rfl) ⟨(Nat.le_of_ble_eq_true rfl), (Nat.le_of_ble_eq_true rfl)⟩ ⟨(Nat.zero_le _), (Nat.zero_le _)⟩ dX12_drawDeed_128) hW hA (fun H locs hW => ?_)
            refine lv_pop S.1 S.2.1 dX12_drawDeed_131 rfl ?_
            have e_ := Option.some.inj hf
            subst e_
            exact hret _ _ _ _ dX12_drawDeed_132 hW
        have hf := hf_
        refine lv_icmp_ge (tgt := 91) S.1 S.2.1 dX12_drawDeed_84 (by decide) (fun c_ => ?_) (fun c_ => ?_)
        · have hf := it_p c_ hf
          refine lv_iload_n S.1 S.2.1 dX12_drawDeed_91 rfl (lv_at hl 2 rfl) ?_
          refine lv_iconst (v := 3) S.1 S.2.1 dX12_drawDeed_92 ic_3 ?_
          refine lv_icmp_ne (tgt := 100) S.1 S.2.1 dX12_drawDeed_93 (by decide) (fun c_ => ?_) (fun c_ => ?_)
          · have hf := it_n c_ hf
            refine lv_iload_n S.1 S.2.1 dX12_drawDeed_100 rfl (lv_at hl 2 rfl) ?_
            refine lv_iconst (v := 4) S.1 S.2.1 dX12_drawDeed_101 ic_4 ?_
            refine lv_icmp_ne (tgt := 109) S.1 S.2.1 dX12_drawDeed_102 (by decide) (fun c_ => ?_) (fun c_ => ?_)
            · have hf := it_n c_ hf
              refine lv_iconst (v := 3) S.1 S.2.1 dX12_drawDeed_109 ic_3 ?_
              exact hJ5 _ (Option.some.inj hf) _ _ _ (lv_sub hl [3, 2, 1, 0] rfl) hW
            · have hf := it_p c_ hf
              refine lv_iconst (v := 2) S.1 S.2.1 dX12_drawDeed_105 ic_2 ?_
              refine lv_goto (tgt := 110) S.1 S.2.1 dX12_drawDeed_106 (by decide) ?_
              exact hJ5 _ (Option.some.inj hf) _ _ _ (lv_sub hl [3, 2, 1, 0] rfl) hW
          · have hf := it_p c_ hf
            refine lv_iconst (v := 1) S.1 S.2.1 dX12_drawDeed_96 ic_1 ?_
            refine lv_goto (tgt := 110) S.1 S.2.1 dX12_drawDeed_97 (by decide) ?_
            exact hJ5 _ (Option.some.inj hf) _ _ _ (lv_sub hl [3, 2, 1, 0] rfl) hW
        · have hf := it_n c_ hf
          refine lv_iconst (v := 0) S.1 S.2.1 dX12_drawDeed_87 ic_0 ?_
          refine lv_goto (tgt := 110) S.1 S.2.1 dX12_drawDeed_88 (by decide) ?_
          exact hJ5 _ (Option.some.inj hf) _ _ _ (lv_sub hl [3, 2, 1, 0] rfl) hW
      · have hf := it_n c_ hf
        refine lv_aload_n S.1 S.2.1 dX12_drawDeed_41 rfl (lv_at hl 2 rfl) ?_
        refine lv_iload_n S.1 S.2.1 dX12_drawDeed_42 rfl (lv_at hl 1 rfl) ?_
        refine lv_bipush (v := 6) S.1 S.2.1 dX12_drawDeed_43 bp_6 ?_
        refine lv_icmp_ne (tgt := 52) S.1 S.2.1 dX12_drawDeed_45 (by decide) (fun c_ => ?_) (fun c_ => ?_)
        · have hf := it_n c_ hf
          refine lv_iconst (v := 5) S.1 S.2.1 dX12_drawDeed_52 ic_5 ?_
          refine lv_iload_n S.1 S.2.1 dX12_drawDeed_53 rfl (lv_at hl 0 rfl) ?_
          refine lv_iconst (v := (-1)) S.1 S.2.1 dX12_drawDeed_54 ic_m1 ?_
          refine lv_iconst (v := (-1)) S.1 S.2.1 dX12_drawDeed_55 ic_m1 ?_
          obtain ⟨x11, hx11, hf⟩ := bnd_e hf
          refine Wr.goW (Wr.runV (c_X12_does hx11) S hK hW.1 hW.2.1 0 10 rfl rfl kVX12_299 rfl hl.1 [] rfl (Nat.le_of_ble_eq_true rfl) ⟨(Nat.le_of_ble_eq_true rfl), (Nat.le_of_ble_eq_true rfl)⟩ ⟨(Nat.zero_le _), (Nat.zero_le _)⟩ dX12_drawDeed_56) hW hA (fun H locs hW => ?_)
          refine lv_pop S.1 S.2.1 dX12_drawDeed_59 rfl ?_
          have e_ := Option.some.inj hf
          subst e_
          exact hret _ _ _ _ dX12_drawDeed_60 hW
        · have hf := it_p c_ hf
          refine lv_iconst (v := 4) S.1 S.2.1 dX12_drawDeed_48 ic_4 ?_
          refine lv_goto (tgt := 53) S.1 S.2.1 dX12_drawDeed_49 (by decide) ?_
          refine lv_iload_n S.1 S.2.1 dX12_drawDeed_53 rfl (lv_at hl 0 rfl) ?_
          refine lv_iconst (v := (-1)) S.1 S.2.1 dX12_drawDeed_54 ic_m1 ?_
          refine lv_iconst (v := (-1)) S.1 S.2.1 dX12_drawDeed_55 ic_m1 ?_
          obtain ⟨x10, hx10, hf⟩ := bnd_e hf
          refine Wr.goW (Wr.runV (c_X12_does hx10) S hK hW.1 hW.2.1 0 10 rfl rfl kVX12_299 rfl hl.1 [] rfl (Nat.le_of_ble_eq_true rfl) ⟨(Nat.le_of_ble_eq_true rfl), (Nat.le_of_ble_eq_true rfl)⟩ ⟨(Nat.zero_le _), (Nat.zero_le _)⟩ dX12_drawDeed_56) hW hA (fun H locs hW => ?_)
          refine lv_pop S.1 S.2.1 dX12_drawDeed_59 rfl ?_
          have e_ := Option.some.inj hf
          subst e_
          exact hret _ _ _ _ dX12_drawDeed_60 hW
    · have hf := it_n c_ hf
      have e_ := Option.some.inj hf
      subst e_
      exact hret _ _ _ _ dX12_drawDeed_26 hW
  · have hf := it_n c_ hf
    refine lv_aload_n S.1 S.2.1 dX12_drawDeed_13 rfl (lv_at hl 1 rfl) ?_
    obtain ⟨x12, hx12, hf⟩ := bnd_e hf
    refine Wr.goW (Wr.runV (c_X12_goesOn hx12) S hK hW.1 hW.2.1 0 10 rfl rfl kVX12_284 rfl hl.1 [] rfl (Nat.le_of_ble_eq_true rfl) ⟨(Nat.le_of_ble_eq_true rfl), (Nat.le_of_ble_eq_true rfl)⟩ ⟨(Nat.zero_le _), (Nat.zero_le _)⟩ dX12_drawDeed_14) hW hA (fun H locs hW => ?_)
    have e_ := Option.some.inj hf
    subst e_
    exact hret _ _ _ _ dX12_drawDeed_17 hW
def f_X12_drawn_L33 (fu : Nat) (o_towns : (Nat → Int32)) (p3 : Int32) (x2 : Int32 × Int32 × Int32 × Int32 × Int32 × Int32 × Int32 × Int32 × Int32 × Int32 × (Nat → Int32) × (Nat → Int32) × (Nat → Int32) × (Nat → Int32) × (Nat → Int32)) (s4 : Int32 × Int32 × Int32 × Int32 × Int32 × Int32 × Int32 × Int32 × (Nat → Int32) × (Nat → Int32) × (Nat → Int32) × (Nat → Int32) × (Nat → Int32) × Int32) : Option ((Int32 × Int32 × Int32 × Int32 × Int32 × Int32 × Int32 × Int32 × (Nat → Int32) × (Nat → Int32) × (Nat → Int32) × (Nat → Int32) × (Nat → Int32) × Int32) ⊕ (Int32 × Int32 × Int32 × Int32 × Int32 × Int32 × Int32 × (Nat → Int32) × (Nat → Int32) × (Nat → Int32) × (Nat → Int32) × (Nat → Int32) × Int32)) := if p3 ≤ s4.1 then some (.inr (s4.2.1, s4.2.2.1, s4.2.2.2.1, s4.2.2.2.2.1, s4.2.2.2.2.2.1, s4.2.2.2.2.2.2.1, s4.2.2.2.2.2.2.2.1, s4.2.2.2.2.2.2.2.2.1, s4.2.2.2.2.2.2.2.2.2.1, s4.2.2.2.2.2.2.2.2.2.2.1, s4.2.2.2.2.2.2.2.2.2.2.2.1, s4.2.2.2.2.2.2.2.2.2.2.2.2.1, s4.2.2.2.2.2.2.2.2.2.2.2.2.2)) else bnd (α := Int32 × Int32 × Int32 × Int32 × Int32 × Int32 × Int32 × (Nat → Int32) × (Nat → Int32) × (Nat → Int32) × (Nat → Int32) × (Nat → Int32) × Int32) (f_X12_drawDeed fu o_towns x2.2.1 x2.2.2.1 s4.2.1 s4.2.2.1 s4.2.2.2.1 s4.2.2.2.2.1 s4.2.2.2.2.2.1 s4.2.2.2.2.2.2.1 s4.2.2.2.2.2.2.2.1 s4.2.2.2.2.2.2.2.2.1 s4.2.2.2.2.2.2.2.2.2.1 s4.2.2.2.2.2.2.2.2.2.2.1 s4.2.2.2.2.2.2.2.2.2.2.2.1 s4.2.2.2.2.2.2.2.2.2.2.2.2.1 s4.2.2.2.2.2.2.2.2.2.2.2.2.2) (fun x7 => some (.inl ((s4.1 + 1), x7.1, x7.2.1, x7.2.2.1, x7.2.2.2.1, x7.2.2.2.2.1, x7.2.2.2.2.2.1, x7.2.2.2.2.2.2.1, x7.2.2.2.2.2.2.2.1, x7.2.2.2.2.2.2.2.2.1, x7.2.2.2.2.2.2.2.2.2.1, x7.2.2.2.2.2.2.2.2.2.2.1, x7.2.2.2.2.2.2.2.2.2.2.2.1, x7.2.2.2.2.2.2.2.2.2.2.2.2)))
def f_X12_drawn (fu : Nat) (o_code : Int32) (o_many : (Nat → Int32)) (o_towns : (Nat → Int32)) (o_town : Int32) (o_people : Int32) (o_when : Int32) (o_sat : Int32) (o_quiet : Int32) (o_vain : Int32) (o_lent : Int32) (o_forgiven : Int32) (o_sundays : Int32) (o_purse : (Nat → Int32)) (o_beside : (Nat → Int32)) (o_debts : (Nat → Int32)) (o_sitting : (Nat → Int32)) (o_visited : (Nat → Int32)) (o_seed : Int32) (p1 : Int32) (p2 : Int32) (p3 : Int32) (p4 : Int32) : Option (Int32 × Int32 × Int32 × Int32 × Int32 × Int32 × Int32 × Int32 × Int32 × Int32 × Int32 × (Nat → Int32) × (Nat → Int32) × (Nat → Int32) × (Nat → Int32) × (Nat → Int32) × Int32) := bnd (α := Int32) (f_X12_in fu p3 (0 : Int32) (60 : Int32)) (fun x1 => if x1 = 0 then some ((-1 : Int32), (0 : Int32), o_town, o_people, o_when, o_sat, o_quiet, o_vain, o_lent, o_forgiven, o_sundays, o_purse, o_beside, o_debts, o_sitting, o_visited, o_seed) else bnd (α := Int32 × Int32 × Int32 × Int32 × Int32 × Int32 × Int32 × Int32 × Int32 × Int32 × (Nat → Int32) × (Nat → Int32) × (Nat → Int32) × (Nat → Int32) × (Nat → Int32)) (f_X12_hand fu o_many o_towns o_town o_people o_when o_sat o_quiet o_vain o_lent o_forgiven o_sundays o_purse o_beside o_debts o_sitting o_visited p1) (fun x2 => if x2.1 = 0 then some ((-1 : Int32), (0 : Int32), x2.2.1, x2.2.2.1, x2.2.2.2.1, x2.2.2.2.2.1, x2.2.2.2.2.2.1, x2.2.2.2.2.2.2.1, x2.2.2.2.2.2.2.2.1, x2.2.2.2.2.2.2.2.2.1, x2.2.2.2.2.2.2.2.2.2.1, x2.2.2.2.2.2.2.2.2.2.2.1, x2.2.2.2.2.2.2.2.2.2.2.2.1, x2.2.2.2.2.2.2.2.2.2.2.2.2.1, x2.2.2.2.2.2.2.2.2.2.2.2.2.2.1, x2.2.2.2.2.2.2.2.2.2.2.2.2.2.2, o_seed) else bnd (α := Int32 × Int32 × Int32 × Int32 × Int32 × Int32 × Int32 × (Nat → Int32) × (Nat → Int32) × (Nat → Int32) × (Nat → Int32) × (Nat → Int32) × Int32) (lp (f_X12_drawn_L33 fu o_towns p3 x2) fu ((0 : Int32), x2.2.2.2.1, x2.2.2.2.2.1, x2.2.2.2.2.2.1, x2.2.2.2.2.2.2.1, x2.2.2.2.2.2.2.2.1, x2.2.2.2.2.2.2.2.2.1, x2.2.2.2.2.2.2.2.2.2.1, x2.2.2.2.2.2.2.2.2.2.2.1, x2.2.2.2.2.2.2.2.2.2.2.2.1, x2.2.2.2.2.2.2.2.2.2.2.2.2.1, x2.2.2.2.2.2.2.2.2.2.2.2.2.2.1, x2.2.2.2.2.2.2.2.2.2.2.2.2.2.2, p2)) (fun v8 => bnd (α := Int32) (f_X12_ofState fu x2.2.2.1 v8.1 v8.2.1 v8.2.2.1 v8.2.2.2.2.2.2.2.1 v8.2.2.2.2.2.2.2.2.1 v8.2.2.2.2.2.2.2.2.2.1 p4) (fun x9 => some (x9, (0 : Int32), x2.2.1, x2.2.2.1, v8.1, v8.2.1, v8.2.2.1, v8.2.2.2.1, v8.2.2.2.2.1, v8.2.2.2.2.2.1, v8.2.2.2.2.2.2.1, v8.2.2.2.2.2.2.2.1, v8.2.2.2.2.2.2.2.2.1, v8.2.2.2.2.2.2.2.2.2.1, v8.2.2.2.2.2.2.2.2.2.2.1, v8.2.2.2.2.2.2.2.2.2.2.2.1, v8.2.2.2.2.2.2.2.2.2.2.2.2)))))
set_option maxHeartbeats 4000000 in
set_option maxRecDepth 100000 in
theorem c_X12_drawn {l : Launch} {D : va_G} {g : Nat → ClassId} {fu : Nat} {o_q0 o_q1 o_q2 o_q3 o_q4 o_q5 o_q6 o_q7 o_q8 o_q9 o_q10 o_q11 o_q12 o_q13 o_q14 o_q15 o_q16 o_q17 o_q18 o_q19 o_q20 o_q21 o_q22 : Nat} {o_code : Int32} {o_tape : (Nat → Int32)} {o_size : (Nat → Int32)} {o_fault : (Nat → Int32)} {o_faultPlace : (Nat → Int32)} {o_many : (Nat → Int32)} {o_towns : (Nat → Int32)} {o_weeks : (Nat → Int32)} {o_logs : (Nat → Int32)} {o_reached : Int32} {o_length : Int32} {o_begins : Int32} {o_sort : Int32} {o_value : Int32} {o_word : Int64} {o_wrongAt : Int32} {o_laterFault : Int32} {o_laterPlace : Int32} {o_told : (Nat → Int32)} {o_read : (Nat → Int32)} {o_farOne : Int32} {o_good : Int32} {o_town : Int32} {o_people : Int32} {o_when : Int32} {o_sat : Int32} {o_quiet : Int32} {o_vain : Int32} {o_lent : Int32} {o_forgiven : Int32} {o_sundays : Int32} {o_purse : (Nat → Int32)} {o_beside : (Nat → Int32)} {o_debts : (Nat → Int32)} {o_sitting : (Nat → Int32)} {o_visited : (Nat → Int32)} {o_week : Int32} {o_heaps : (Nat → Int32)} {o_taken : (Nat → Int32)} {o_best : (Nat → Int32)} {o_more : (Nat → Int32)} {o_firstOne : Int32} {o_log : Int32} {o_fitting : (Nat → Int32)} {o_found : Int32} {o_seed : Int32} {o_row : (Nat → Int32)} {o_saved : (Nat → Int32)} {p1 : Int32} {p2 : Int32} {p3 : Int32} {p4 : Int32} {r : Int32 × Int32 × Int32 × Int32 × Int32 × Int32 × Int32 × Int32 × Int32 × Int32 × Int32 × (Nat → Int32) × (Nat → Int32) × (Nat → Int32) × (Nat → Int32) × (Nat → Int32) × Int32} (hf : f_X12_drawn fu o_code o_many o_towns o_town o_people o_when o_sat o_quiet o_vain o_lent o_forgiven o_sundays o_purse o_beside o_debts o_sitting o_visited o_seed p1 p2 p3 p4 = some r) : Wr l D (gy g) yX12_drawn cX12_drawn 6 (some .int) 5 [.ref o_q0, .int p1, .int p2, .int p3, .int p4] (wMd g o_q0 o_q1 o_q2 o_q3 o_q4 o_q5 o_q6 o_q7 o_q8 o_q9 o_q10 o_q11 o_q12 o_q13 o_q14 o_q15 o_q16 o_q17 o_q18 o_q19 o_q20 o_q21 o_q22 o_code o_tape o_size o_fault o_faultPlace o_many o_towns o_weeks o_logs o_reached o_length o_begins o_sort o_value o_word o_wrongAt o_laterFault o_laterPlace o_told o_read o_farOne o_good o_town o_people o_when o_sat o_quiet o_vain o_lent o_forgiven o_sundays o_purse o_beside o_debts o_sitting o_visited o_week o_heaps o_taken o_best o_more o_firstOne o_log o_fitting o_found o_seed o_row o_saved) (wMd g o_q0 o_q1 o_q2 o_q3 o_q4 o_q5 o_q6 o_q7 o_q8 o_q9 o_q10 o_q11 o_q12 o_q13 o_q14 o_q15 o_q16 o_q17 o_q18 o_q19 o_q20 o_q21 o_q22 r.2.1 o_tape o_size o_fault o_faultPlace o_many o_towns o_weeks o_logs o_reached o_length o_begins o_sort o_value o_word o_wrongAt o_laterFault o_laterPlace o_told o_read o_farOne o_good r.2.2.1 r.2.2.2.1 r.2.2.2.2.1 r.2.2.2.2.2.1 r.2.2.2.2.2.2.1 r.2.2.2.2.2.2.2.1 r.2.2.2.2.2.2.2.2.1 r.2.2.2.2.2.2.2.2.2.1 r.2.2.2.2.2.2.2.2.2.2.1 r.2.2.2.2.2.2.2.2.2.2.2.1 r.2.2.2.2.2.2.2.2.2.2.2.2.1 r.2.2.2.2.2.2.2.2.2.2.2.2.2.1 r.2.2.2.2.2.2.2.2.2.2.2.2.2.2.1 r.2.2.2.2.2.2.2.2.2.2.2.2.2.2.2.1 o_week o_heaps o_taken o_best o_more o_firstOne o_log o_fitting o_found r.2.2.2.2.2.2.2.2.2.2.2.2.2.2.2.2 o_row o_saved) (some (.int r.1)) := by
  refine Wr.ofI (by decide) (Nat.le_of_ble_eq_true rfl) ?_
  intro p e s m args below meth c Q A S hK hA hret ls hl hW
  have hl : lv_has ls 6 [(0, .ref o_q0), (1, .int p1), (2, .int p2), (3, .int p3), (4, .int p4)] := hl
  refine lv_aload_n S.1 S.2.1 dX12_drawn_0 rfl (lv_at hl 0 rfl) ?_
  refine lv_iconst (v := 0) S.1 S.2.1 dX12_drawn_1 ic_0 ?_
  refine pfX12_78 (ws2 := (wMd g o_q0 o_q1 o_q2 o_q3 o_q4 o_q5 o_q6 o_q7 o_q8 o_q9 o_q10 o_q11 o_q12 o_q13 o_q14 o_q15 o_q16 o_q17 o_q18 o_q19 o_q20 o_q21 o_q22 (0 : Int32) o_tape o_size o_fault o_faultPlace o_many o_towns o_weeks o_logs o_reached o_length o_begins o_sort o_value o_word o_wrongAt o_laterFault o_laterPlace o_told o_read o_farOne o_good o_town o_people o_when o_sat o_quiet o_vain o_lent o_forgiven o_sundays o_purse o_beside o_debts o_sitting o_visited o_week o_heaps o_taken o_best o_more o_firstOne o_log o_fitting o_found o_seed o_row o_saved)) S hK hW 0 rfl rfl rfl (Nat.le_of_ble_eq_true rfl) rfl dX12_drawn_2 (fun H locs hW => ?_)
  refine lv_iload_n S.1 S.2.1 dX12_drawn_5 rfl (lv_at hl 3 rfl) ?_
  refine lv_iconst (v := 0) S.1 S.2.1 dX12_drawn_6 ic_0 ?_
  refine lv_bipush (v := 60) S.1 S.2.1 dX12_drawn_7 bp_60 ?_
  obtain ⟨x1, hx1, hf⟩ := bnd_e hf
  refine Rd.cS (c_X12_in hx1) S hK va_P.nil kSX12_90 rfl hl.1 [] rfl (Nat.le_of_ble_eq_true rfl) ⟨(Nat.le_of_ble_eq_true rfl), (Nat.le_of_ble_eq_true rfl)⟩ ⟨(Nat.zero_le _), (Nat.zero_le _)⟩ dX12_drawn_9 ?_
  refine lv_if_eq (tgt := 23) S.1 S.2.1 dX12_drawn_12 (by decide) (fun c_ => ?_) (fun c_ => ?_)
  · have hf := it_p c_ hf
    refine lv_iconst (v := (-1)) S.1 S.2.1 dX12_drawn_23 ic_m1 ?_
    have e_ := Option.some.inj hf
    subst e_
    exact hret _ _ _ _ dX12_drawn_24 hW
  · have hf := it_n c_ hf
    refine lv_aload_n S.1 S.2.1 dX12_drawn_15 rfl (lv_at hl 0 rfl) ?_
    refine lv_iload_n S.1 S.2.1 dX12_drawn_16 rfl (lv_at hl 1 rfl) ?_
    obtain ⟨x2, hx2, hf⟩ := bnd_e hf
    refine Wr.goW (Wr.runV (c_X12_hand hx2) S hK hW.1 hW.2.1 0 10 rfl rfl kVX12_257 rfl hl.1 [] rfl (Nat.le_of_ble_eq_true rfl) ⟨(Nat.le_of_ble_eq_true rfl), (Nat.le_of_ble_eq_true rfl)⟩ ⟨(Nat.zero_le _), (Nat.zero_le _)⟩ dX12_drawn_17) hW hA (fun H locs hW => ?_)
    refine lv_if_ne (tgt := 25) S.1 S.2.1 dX12_drawn_20 (by decide) (fun c_ => ?_) (fun c_ => ?_)
    · have hf := it_n c_ hf
      refine lv_aload_n S.1 S.2.1 dX12_drawn_25 rfl (lv_at hl 0 rfl) ?_
      refine lv_iload_n S.1 S.2.1 dX12_drawn_26 rfl (lv_at hl 2 rfl) ?_
      refine pfX12_420 (ws2 := (wMd g o_q0 o_q1 o_q2 o_q3 o_q4 o_q5 o_q6 o_q7 o_q8 o_q9 o_q10 o_q11 o_q12 o_q13 o_q14 o_q15 o_q16 o_q17 o_q18 o_q19 o_q20 o_q21 o_q22 (0 : Int32) o_tape o_size o_fault o_faultPlace o_many o_towns o_weeks o_logs o_reached o_length o_begins o_sort o_value o_word o_wrongAt o_laterFault o_laterPlace o_told o_read o_farOne o_good x2.2.1 x2.2.2.1 x2.2.2.2.1 x2.2.2.2.2.1 x2.2.2.2.2.2.1 x2.2.2.2.2.2.2.1 x2.2.2.2.2.2.2.2.1 x2.2.2.2.2.2.2.2.2.1 x2.2.2.2.2.2.2.2.2.2.1 x2.2.2.2.2.2.2.2.2.2.2.1 x2.2.2.2.2.2.2.2.2.2.2.2.1 x2.2.2.2.2.2.2.2.2.2.2.2.2.1 x2.2.2.2.2.2.2.2.2.2.2.2.2.2.1 x2.2.2.2.2.2.2.2.2.2.2.2.2.2.2 o_week o_heaps o_taken o_best o_more o_firstOne o_log o_fitting o_found p2 o_row o_saved)) S hK hW 0 rfl rfl rfl (Nat.le_of_ble_eq_true rfl) rfl dX12_drawn_27 (fun H locs hW => ?_)
      refine lv_iconst (v := 0) S.1 S.2.1 dX12_drawn_30 ic_0 ?_
      refine lv_istore (lv' := [(5, .int (0 : Int32)), (0, .ref o_q0), (1, .int p1), (2, .int p2), (3, .int p3), (4, .int p4)]) S.1 S.2.1 dX12_drawn_31 hl (by decide) rfl (fun ls hl => ?_)
      obtain ⟨x5, hf_, hk5⟩ := bnd_e hf
      have hE5 : ∀ (v8 : Int32 × Int32 × Int32 × Int32 × Int32 × Int32 × Int32 × (Nat → Int32) × (Nat → Int32) × (Nat → Int32) × (Nat → Int32) × (Nat → Int32) × Int32), v8 = x5 → ∀ (ls : Array Slot) (H : Heap) (locs : List Loc), lv_has ls 6 [(0, .ref o_q0), (4, .int p4)] → St A s.heap D (wMd g o_q0 o_q1 o_q2 o_q3 o_q4 o_q5 o_q6 o_q7 o_q8 o_q9 o_q10 o_q11 o_q12 o_q13 o_q14 o_q15 o_q16 o_q17 o_q18 o_q19 o_q20 o_q21 o_q22 (0 : Int32) o_tape o_size o_fault o_faultPlace o_many o_towns o_weeks o_logs o_reached o_length o_begins o_sort o_value o_word o_wrongAt o_laterFault o_laterPlace o_told o_read o_farOne o_good x2.2.1 x2.2.2.1 v8.1 v8.2.1 v8.2.2.1 v8.2.2.2.1 v8.2.2.2.2.1 v8.2.2.2.2.2.1 v8.2.2.2.2.2.2.1 v8.2.2.2.2.2.2.2.1 v8.2.2.2.2.2.2.2.2.1 v8.2.2.2.2.2.2.2.2.2.1 v8.2.2.2.2.2.2.2.2.2.2.1 v8.2.2.2.2.2.2.2.2.2.2.2.1 o_week o_heaps o_taken o_best o_more o_firstOne o_log o_fitting o_found v8.2.2.2.2.2.2.2.2.2.2.2.2 o_row o_saved) H locs → W p l e (rmD 5) s m args below meth c H locs 0 0 Q (F0 m 49 ls []) := by
        intro v8 e_ ls H locs hl hW
        subst e_
        have hf := hk5
        refine lv_aload_n S.1 S.2.1 dX12_drawn_49 rfl (lv_at hl 0 rfl) ?_
        refine lv_iload S.1 S.2.1 dX12_drawn_50 (lv_at hl 1 rfl) ?_
        obtain ⟨x9, hx9, hf⟩ := bnd_e hf
        refine Rd.cV (c_X12_ofState hx9) S hK hW.1 0 10 rfl rfl kVX12_320 rfl hl.1 [] rfl (Nat.le_of_ble_eq_true rfl) ⟨(Nat.le_of_ble_eq_true rfl), (Nat.le_of_ble_eq_true rfl)⟩ ⟨(Nat.zero_le _), (Nat.zero_le _)⟩ dX12_drawn_52 ?_
        have e_ := Option.some.inj hf
        subst e_
        exact hret _ _ _ _ dX12_drawn_55 hW
      refine lp_ind (P := fun (s4 : Int32 × Int32 × Int32 × Int32 × Int32 × Int32 × Int32 × Int32 × (Nat → Int32) × (Nat → Int32) × (Nat → Int32) × (Nat → Int32) × (Nat → Int32) × Int32) => ∀ (ls : Array Slot) (H : Heap) (locs : List Loc), lv_has ls 6 [(0, .ref o_q0), (3, .int p3), (4, .int p4), (5, .int s4.1)] → St A s.heap D (wMd g o_q0 o_q1 o_q2 o_q3 o_q4 o_q5 o_q6 o_q7 o_q8 o_q9 o_q10 o_q11 o_q12 o_q13 o_q14 o_q15 o_q16 o_q17 o_q18 o_q19 o_q20 o_q21 o_q22 (0 : Int32) o_tape o_size o_fault o_faultPlace o_many o_towns o_weeks o_logs o_reached o_length o_begins o_sort o_value o_word o_wrongAt o_laterFault o_laterPlace o_told o_read o_farOne o_good x2.2.1 x2.2.2.1 s4.2.1 s4.2.2.1 s4.2.2.2.1 s4.2.2.2.2.1 s4.2.2.2.2.2.1 s4.2.2.2.2.2.2.1 s4.2.2.2.2.2.2.2.1 s4.2.2.2.2.2.2.2.2.1 s4.2.2.2.2.2.2.2.2.2.1 s4.2.2.2.2.2.2.2.2.2.2.1 s4.2.2.2.2.2.2.2.2.2.2.2.1 s4.2.2.2.2.2.2.2.2.2.2.2.2.1 o_week o_heaps o_taken o_best o_more o_firstOne o_log o_fitting o_found s4.2.2.2.2.2.2.2.2.2.2.2.2.2 o_row o_saved) H locs → W p l e (rmD 5) s m args below meth c H locs 0 0 Q (F0 m 33 ls [])) ?_ _ _ hf_ _ _ _ (lv_sub hl [1, 4, 5, 0] rfl) hW
      intro s4 x6 hf hI5 hR5 ls H locs hl hW
      refine lv_iload S.1 S.2.1 dX12_drawn_33 (lv_at hl 3 rfl) ?_
      refine lv_iload_n S.1 S.2.1 dX12_drawn_35 rfl (lv_at hl 1 rfl) ?_
      refine lv_icmp_ge (tgt := 49) S.1 S.2.1 dX12_drawn_36 (by decide) (fun c_ => ?_) (fun c_ => ?_)
      · have hf := it_p c_ hf
        have e_ := hR5 _ (Option.some.inj hf).symm
        exact hE5 _ e_ _ _ _ (lv_sub hl [0, 2] rfl) hW
      · have hf := it_n c_ hf
        refine lv_aload_n S.1 S.2.1 dX12_drawn_39 rfl (lv_at hl 0 rfl) ?_
        obtain ⟨x7, hx7, hf⟩ := bnd_e hf
        refine Wr.goW (Wr.runV (c_X12_drawDeed hx7) S hK hW.1 hW.2.1 0 10 rfl rfl kVX12_427 rfl hl.1 [] rfl (Nat.le_of_ble_eq_true rfl) ⟨(Nat.le_of_ble_eq_true rfl), (Nat.le_of_ble_eq_true rfl)⟩ ⟨(Nat.zero_le _), (Nat.zero_le _)⟩ dX12_drawn_40) hW hA (fun H locs hW => ?_)
        refine q_iinc (w := 1) (lv' := [(5, .int (s4.1 + 1)), (0, .ref o_q0), (3, .int p3), (4, .int p4)]) S dX12_drawn_43 hl (k := 3) rfl ic_1 (by decide) rfl (fun ls hl => ?_)
        refine lv_goto (tgt := 33) S.1 S.2.1 dX12_drawn_46 (by decide) ?_
        exact hI5 _ (Option.some.inj hf).symm _ _ _ (lv_sub hl [1, 2, 3, 0] rfl) hW
    · have hf := it_p c_ hf
      refine lv_iconst (v := (-1)) S.1 S.2.1 dX12_drawn_23 ic_m1 ?_
      have e_ := Option.some.inj hf
      subst e_
      exact hret _ _ _ _ dX12_drawn_24 hW
def f_X12_mutual_L14 (fu : Nat) (o_debts : (Nat → Int32)) (s2 : Int32 × Int32) (s6 : Int32 × Int32) : Option ((Int32 × Int32) ⊕ (Int32)) := if s2.2 ≤ s6.2 then some (.inr s6.1) else bnd (α := Int32) (f_X12_owed fu o_debts s2.2 s6.2) (fun x9 => bnd (α := Int32) (f_X12_owed fu o_debts s6.2 s2.2) (fun x10 => bnd (α := Int32) (f_X12_lesser fu x9 x10) (fun x11 => ltn (s6.1 + x11) (fun x12 => some (.inl (x12, (s6.2 + 1)))))))
def f_X12_mutual_L4 (fu : Nat) (o_people : Int32) (o_debts : (Nat → Int32)) (s2 : Int32 × Int32) : Option ((Int32 × Int32) ⊕ (Int32)) := if o_people ≤ s2.2 then some (.inr s2.1) else bnd (α := Int32) (lp (f_X12_mutual_L14 fu o_debts s2) fu (s2.1, (0 : Int32))) (fun v13 => some (.inl (v13, (s2.2 + 1))))
def f_X12_mutual (fu : Nat) (o_people : Int32) (o_debts : (Nat → Int32)) : Option (Int32) := bnd (α := Int32) (lp (f_X12_mutual_L4 fu o_people o_debts) fu ((0 : Int32), (0 : Int32))) (fun v14 => some v14)
set_option maxHeartbeats 4000000 in
set_option maxRecDepth 100000 in
theorem c_X12_mutual {l : Launch} {D : va_G} {g : Nat → ClassId} {fu : Nat} {o_q0 o_q1 o_q2 o_q3 o_q4 o_q5 o_q6 o_q7 o_q8 o_q9 o_q10 o_q11 o_q12 o_q13 o_q14 o_q15 o_q16 o_q17 o_q18 o_q19 o_q20 o_q21 o_q22 : Nat} {o_code : Int32} {o_tape : (Nat → Int32)} {o_size : (Nat → Int32)} {o_fault : (Nat → Int32)} {o_faultPlace : (Nat → Int32)} {o_many : (Nat → Int32)} {o_towns : (Nat → Int32)} {o_weeks : (Nat → Int32)} {o_logs : (Nat → Int32)} {o_reached : Int32} {o_length : Int32} {o_begins : Int32} {o_sort : Int32} {o_value : Int32} {o_word : Int64} {o_wrongAt : Int32} {o_laterFault : Int32} {o_laterPlace : Int32} {o_told : (Nat → Int32)} {o_read : (Nat → Int32)} {o_farOne : Int32} {o_good : Int32} {o_town : Int32} {o_people : Int32} {o_when : Int32} {o_sat : Int32} {o_quiet : Int32} {o_vain : Int32} {o_lent : Int32} {o_forgiven : Int32} {o_sundays : Int32} {o_purse : (Nat → Int32)} {o_beside : (Nat → Int32)} {o_debts : (Nat → Int32)} {o_sitting : (Nat → Int32)} {o_visited : (Nat → Int32)} {o_week : Int32} {o_heaps : (Nat → Int32)} {o_taken : (Nat → Int32)} {o_best : (Nat → Int32)} {o_more : (Nat → Int32)} {o_firstOne : Int32} {o_log : Int32} {o_fitting : (Nat → Int32)} {o_found : Int32} {o_seed : Int32} {o_row : (Nat → Int32)} {o_saved : (Nat → Int32)} {r : Int32} (hf : f_X12_mutual fu o_people o_debts = some r) : Rd l D (gy g) yX12_mutual cX12_mutual 4 (some .int) 1 [.ref o_q0] (wMd g o_q0 o_q1 o_q2 o_q3 o_q4 o_q5 o_q6 o_q7 o_q8 o_q9 o_q10 o_q11 o_q12 o_q13 o_q14 o_q15 o_q16 o_q17 o_q18 o_q19 o_q20 o_q21 o_q22 o_code o_tape o_size o_fault o_faultPlace o_many o_towns o_weeks o_logs o_reached o_length o_begins o_sort o_value o_word o_wrongAt o_laterFault o_laterPlace o_told o_read o_farOne o_good o_town o_people o_when o_sat o_quiet o_vain o_lent o_forgiven o_sundays o_purse o_beside o_debts o_sitting o_visited o_week o_heaps o_taken o_best o_more o_firstOne o_log o_fitting o_found o_seed o_row o_saved) (some (.int r)) := by
  refine Rd.ofI (by decide) (Nat.le_of_ble_eq_true rfl) ?_
  intro p e s m args below meth c Q S hK hP hret ls hl
  have hl : lv_has ls 4 [(0, .ref o_q0)] := hl
  refine lv_iconst (v := 0) S.1 S.2.1 dX12_mutual_0 ic_0 ?_
  refine lv_istore_n (lv' := [(1, .int (0 : Int32)), (0, .ref o_q0)]) S.1 S.2.1 dX12_mutual_1 rfl hl (by decide) rfl (fun ls hl => ?_)
  refine lv_iconst (v := 0) S.1 S.2.1 dX12_mutual_2 ic_0 ?_
  refine lv_istore_n (lv' := [(2, .int (0 : Int32)), (1, .int (0 : Int32)), (0, .ref o_q0)]) S.1 S.2.1 dX12_mutual_3 rfl hl (by decide) rfl (fun ls hl => ?_)
  obtain ⟨x3, hf_, hk3⟩ := bnd_e hf
  have hE3 : ∀ (v14 : Int32), v14 = x3 → ∀ (ls : Array Slot), lv_has ls 4 [(1, .int v14)] → W p l e (rmD 1) s m args below meth c s.heap [] 0 0 Q (F0 m 49 ls []) := by
    intro v14 e_ ls hl
    subst e_
    have hf := hk3
    refine lv_iload_n S.1 S.2.1 dX12_mutual_49 rfl (lv_at hl 0 rfl) ?_
    have e_ := Option.some.inj hf
    subst e_
    exact hret _ _ dX12_mutual_50
  refine lp_ind (P := fun (s2 : Int32 × Int32) => ∀ (ls : Array Slot), lv_has ls 4 [(0, .ref o_q0), (1, .int s2.1), (2, .int s2.2)] → W p l e (rmD 1) s m args below meth c s.heap [] 0 0 Q (F0 m 4 ls [])) ?_ _ _ hf_ _ (lv_sub hl [2, 1, 0] rfl)
  intro s2 x4 hf hI3 hR3 ls hl
  refine lv_iload_n S.1 S.2.1 dX12_mutual_4 rfl (lv_at hl 2 rfl) ?_
  refine lv_aload_n S.1 S.2.1 dX12_mutual_5 rfl (lv_at hl 0 rfl) ?_
  refine gfX12_230 S hK hP 0 rfl rfl dX12_mutual_6 ?_
  refine lv_icmp_ge (tgt := 49) S.1 S.2.1 dX12_mutual_9 (by decide) (fun c_ => ?_) (fun c_ => ?_)
  · have hf := it_p c_ hf
    have e_ := hR3 _ (Option.some.inj hf).symm
    exact hE3 _ e_ _ (lv_sub hl [1] rfl)
  · have hf := it_n c_ hf
    refine lv_iconst (v := 0) S.1 S.2.1 dX12_mutual_12 ic_0 ?_
    refine lv_istore_n (lv' := [(3, .int (0 : Int32)), (0, .ref o_q0), (1, .int s2.1), (2, .int s2.2)]) S.1 S.2.1 dX12_mutual_13 rfl hl (by decide) rfl (fun ls hl => ?_)
    obtain ⟨x7, hf_, hk7⟩ := bnd_e hf
    have hE7 : ∀ (v13 : Int32), v13 = x7 → ∀ (ls : Array Slot), lv_has ls 4 [(0, .ref o_q0), (1, .int v13), (2, .int s2.2)] → W p l e (rmD 1) s m args below meth c s.heap [] 0 0 Q (F0 m 43 ls []) := by
      intro v13 e_ ls hl
      subst e_
      have hf := hk7
      refine q_iinc (w := 1) (lv' := [(2, .int (s2.2 + 1)), (0, .ref o_q0), (1, .int v13)]) S dX12_mutual_43 hl (k := 2) rfl ic_1 (by decide) rfl (fun ls hl => ?_)
      refine lv_goto (tgt := 4) S.1 S.2.1 dX12_mutual_46 (by decide) ?_
      exact hI3 _ (Option.some.inj hf).symm _ (lv_sub hl [1, 2, 0] rfl)
    refine lp_ind (P := fun (s6 : Int32 × Int32) => ∀ (ls : Array Slot), lv_has ls 4 [(0, .ref o_q0), (1, .int s6.1), (2, .int s2.2), (3, .int s6.2)] → W p l e (rmD 1) s m args below meth c s.heap [] 0 0 Q (F0 m 14 ls [])) ?_ _ _ hf_ _ (lv_sub hl [1, 2, 3, 0] rfl)
    intro s6 x8 hf hI7 hR7 ls hl
    refine lv_iload_n S.1 S.2.1 dX12_mutual_14 rfl (lv_at hl 3 rfl) ?_
    refine lv_iload_n S.1 S.2.1 dX12_mutual_15 rfl (lv_at hl 2 rfl) ?_
    refine lv_icmp_ge (tgt := 43) S.1 S.2.1 dX12_mutual_16 (by decide) (fun c_ => ?_) (fun c_ => ?_)
    · have hf := it_p c_ hf
      have e_ := hR7 _ (Option.some.inj hf).symm
      exact hE7 _ e_ _ (lv_sub hl [0, 1, 2] rfl)
    · have hf := it_n c_ hf
      refine lv_iload_n S.1 S.2.1 dX12_mutual_19 rfl (lv_at hl 1 rfl) ?_
      refine lv_aload_n S.1 S.2.1 dX12_mutual_20 rfl (lv_at hl 0 rfl) ?_
      refine lv_iload_n S.1 S.2.1 dX12_mutual_21 rfl (lv_at hl 2 rfl) ?_
      refine lv_iload_n S.1 S.2.1 dX12_mutual_22 rfl (lv_at hl 3 rfl) ?_
      obtain ⟨x9, hx9, hf⟩ := bnd_e hf
      refine Rd.cV (c_X12_owed hx9) S hK hP 0 10 rfl rfl kVX12_254 rfl hl.1 [.int s6.1] rfl (Nat.le_of_ble_eq_true rfl) ⟨(Nat.le_of_ble_eq_true rfl), (Nat.le_of_ble_eq_true rfl)⟩ ⟨(Nat.zero_le _), (Nat.zero_le _)⟩ dX12_mutual_23 ?_
      refine lv_aload_n S.1 S.2.1 dX12_mutual_26 rfl (lv_at hl 0 rfl) ?_
      refine lv_iload_n S.1 S.2.1 dX12_mutual_27 rfl (lv_at hl 3 rfl) ?_
      refine lv_iload_n S.1 S.2.1 dX12_mutual_28 rfl (lv_at hl 2 rfl) ?_
      obtain ⟨x10, hx10, hf⟩ := bnd_e hf
      refine Rd.cV (c_X12_owed hx10) S hK hP 0 10 rfl rfl kVX12_254 rfl hl.1 [.int x9, .int s6.1] rfl (Nat.le_of_ble_eq_true rfl) ⟨(Nat.le_of_ble_eq_true rfl), (Nat.le_of_ble_eq_true rfl)⟩ ⟨(Nat.zero_le _), (Nat.zero_le _)⟩ dX12_mutual_29 ?_
      obtain ⟨x11, hx11, hf⟩ := bnd_e hf
      refine Rd.cS (c_X12_lesser hx11) S hK va_P.nil kSX12_281 rfl hl.1 [.int s6.1] rfl (Nat.le_of_ble_eq_true rfl) ⟨(Nat.le_of_ble_eq_true rfl), (Nat.le_of_ble_eq_true rfl)⟩ ⟨(Nat.zero_le _), (Nat.zero_le _)⟩ dX12_mutual_32 ?_
      refine lv_iadd S.1 S.2.1 dX12_mutual_35 ?_
      refine lv_topi (fun x12 ex12 => ?_)
      have hf := ltn_e hf ex12
      refine lv_istore_n (lv' := [(1, .int x12), (0, .ref o_q0), (2, .int s2.2), (3, .int s6.2)]) S.1 S.2.1 dX12_mutual_36 rfl hl (by decide) rfl (fun ls hl => ?_)
      refine q_iinc (w := 1) (lv' := [(3, .int (s6.2 + 1)), (1, .int x12), (0, .ref o_q0), (2, .int s2.2)]) S dX12_mutual_37 hl (k := 3) rfl ic_1 (by decide) rfl (fun ls hl => ?_)
      refine lv_goto (tgt := 14) S.1 S.2.1 dX12_mutual_40 (by decide) ?_
      exact hI7 _ (Option.some.inj hf).symm _ (lv_sub hl [2, 1, 3, 0] rfl)
def f_X12_creditors_L4 (fu : Nat) (o_people : Int32) (o_debts : (Nat → Int32)) (p1 : Int32) (s2 : Int32 × Int32) : Option ((Int32 × Int32) ⊕ (Int32)) := if o_people ≤ s2.2 then some (.inr s2.1) else bnd (α := Int32) (f_X12_owed fu o_debts p1 s2.2) (fun x5 => if x5 ≤ 0 then ltn (s2.1 ||| (0 : Int32)) (fun x6 => some (.inl (x6, (s2.2 + 1)))) else ltn (s2.1 ||| (jshl (1 : Int32) s2.2)) (fun x7 => some (.inl (x7, (s2.2 + 1)))))
def f_X12_creditors (fu : Nat) (o_people : Int32) (o_debts : (Nat → Int32)) (p1 : Int32) : Option (Int32) := bnd (α := Int32) (lp (f_X12_creditors_L4 fu o_people o_debts p1) fu ((0 : Int32), (0 : Int32))) (fun v8 => some v8)
set_option maxHeartbeats 4000000 in
set_option maxRecDepth 100000 in
theorem c_X12_creditors {l : Launch} {D : va_G} {g : Nat → ClassId} {fu : Nat} {o_q0 o_q1 o_q2 o_q3 o_q4 o_q5 o_q6 o_q7 o_q8 o_q9 o_q10 o_q11 o_q12 o_q13 o_q14 o_q15 o_q16 o_q17 o_q18 o_q19 o_q20 o_q21 o_q22 : Nat} {o_code : Int32} {o_tape : (Nat → Int32)} {o_size : (Nat → Int32)} {o_fault : (Nat → Int32)} {o_faultPlace : (Nat → Int32)} {o_many : (Nat → Int32)} {o_towns : (Nat → Int32)} {o_weeks : (Nat → Int32)} {o_logs : (Nat → Int32)} {o_reached : Int32} {o_length : Int32} {o_begins : Int32} {o_sort : Int32} {o_value : Int32} {o_word : Int64} {o_wrongAt : Int32} {o_laterFault : Int32} {o_laterPlace : Int32} {o_told : (Nat → Int32)} {o_read : (Nat → Int32)} {o_farOne : Int32} {o_good : Int32} {o_town : Int32} {o_people : Int32} {o_when : Int32} {o_sat : Int32} {o_quiet : Int32} {o_vain : Int32} {o_lent : Int32} {o_forgiven : Int32} {o_sundays : Int32} {o_purse : (Nat → Int32)} {o_beside : (Nat → Int32)} {o_debts : (Nat → Int32)} {o_sitting : (Nat → Int32)} {o_visited : (Nat → Int32)} {o_week : Int32} {o_heaps : (Nat → Int32)} {o_taken : (Nat → Int32)} {o_best : (Nat → Int32)} {o_more : (Nat → Int32)} {o_firstOne : Int32} {o_log : Int32} {o_fitting : (Nat → Int32)} {o_found : Int32} {o_seed : Int32} {o_row : (Nat → Int32)} {o_saved : (Nat → Int32)} {p1 : Int32} {r : Int32} (hf : f_X12_creditors fu o_people o_debts p1 = some r) : Rd l D (gy g) yX12_creditors cX12_creditors 4 (some .int) 1 [.ref o_q0, .int p1] (wMd g o_q0 o_q1 o_q2 o_q3 o_q4 o_q5 o_q6 o_q7 o_q8 o_q9 o_q10 o_q11 o_q12 o_q13 o_q14 o_q15 o_q16 o_q17 o_q18 o_q19 o_q20 o_q21 o_q22 o_code o_tape o_size o_fault o_faultPlace o_many o_towns o_weeks o_logs o_reached o_length o_begins o_sort o_value o_word o_wrongAt o_laterFault o_laterPlace o_told o_read o_farOne o_good o_town o_people o_when o_sat o_quiet o_vain o_lent o_forgiven o_sundays o_purse o_beside o_debts o_sitting o_visited o_week o_heaps o_taken o_best o_more o_firstOne o_log o_fitting o_found o_seed o_row o_saved) (some (.int r)) := by
  refine Rd.ofI (by decide) (Nat.le_of_ble_eq_true rfl) ?_
  intro p e s m args below meth c Q S hK hP hret ls hl
  have hl : lv_has ls 4 [(0, .ref o_q0), (1, .int p1)] := hl
  refine lv_iconst (v := 0) S.1 S.2.1 dX12_creditors_0 ic_0 ?_
  refine lv_istore_n (lv' := [(2, .int (0 : Int32)), (0, .ref o_q0), (1, .int p1)]) S.1 S.2.1 dX12_creditors_1 rfl hl (by decide) rfl (fun ls hl => ?_)
  refine lv_iconst (v := 0) S.1 S.2.1 dX12_creditors_2 ic_0 ?_
  refine lv_istore_n (lv' := [(3, .int (0 : Int32)), (2, .int (0 : Int32)), (0, .ref o_q0), (1, .int p1)]) S.1 S.2.1 dX12_creditors_3 rfl hl (by decide) rfl (fun ls hl => ?_)
  obtain ⟨x3, hf_, hk3⟩ := bnd_e hf
  have hE3 : ∀ (v8 : Int32), v8 = x3 → ∀ (ls : Array Slot), lv_has ls 4 [(2, .int v8)] → W p l e (rmD 1) s m args below meth c s.heap [] 0 0 Q (F0 m 37 ls []) := by
    intro v8 e_ ls hl
    subst e_
    have hf := hk3
    refine lv_iload_n S.1 S.2.1 dX12_creditors_37 rfl (lv_at hl 0 rfl) ?_
    have e_ := Option.some.inj hf
    subst e_
    exact hret _ _ dX12_creditors_38
  refine lp_ind (P := fun (s2 : Int32 × Int32) => ∀ (ls : Array Slot), lv_has ls 4 [(0, .ref o_q0), (1, .int p1), (2, .int s2.1), (3, .int s2.2)] → W p l e (rmD 1) s m args below meth c s.heap [] 0 0 Q (F0 m 4 ls [])) ?_ _ _ hf_ _ (lv_sub hl [2, 3, 1, 0] rfl)
  intro s2 x4 hf hI3 hR3 ls hl
  refine lv_iload_n S.1 S.2.1 dX12_creditors_4 rfl (lv_at hl 3 rfl) ?_
  refine lv_aload_n S.1 S.2.1 dX12_creditors_5 rfl (lv_at hl 0 rfl) ?_
  refine gfX12_230 S hK hP 0 rfl rfl dX12_creditors_6 ?_
  refine lv_icmp_ge (tgt := 37) S.1 S.2.1 dX12_creditors_9 (by decide) (fun c_ => ?_) (fun c_ => ?_)
  · have hf := it_p c_ hf
    have e_ := hR3 _ (Option.some.inj hf).symm
    exact hE3 _ e_ _ (lv_sub hl [2] rfl)
  · have hf := it_n c_ hf
    refine lv_iload_n S.1 S.2.1 dX12_creditors_12 rfl (lv_at hl 2 rfl) ?_
    refine lv_aload_n S.1 S.2.1 dX12_creditors_13 rfl (lv_at hl 0 rfl) ?_
    refine lv_iload_n S.1 S.2.1 dX12_creditors_14 rfl (lv_at hl 1 rfl) ?_
    refine lv_iload_n S.1 S.2.1 dX12_creditors_15 rfl (lv_at hl 3 rfl) ?_
    obtain ⟨x5, hx5, hf⟩ := bnd_e hf
    refine Rd.cV (c_X12_owed hx5) S hK hP 0 10 rfl rfl kVX12_254 rfl hl.1 [.int s2.1] rfl (Nat.le_of_ble_eq_true rfl) ⟨(Nat.le_of_ble_eq_true rfl), (Nat.le_of_ble_eq_true rfl)⟩ ⟨(Nat.zero_le _), (Nat.zero_le _)⟩ dX12_creditors_16 ?_
    refine lv_if_le (tgt := 28) S.1 S.2.1 dX12_creditors_19 (by decide) (fun c_ => ?_) (fun c_ => ?_)
    · have hf := it_p c_ hf
      refine lv_iconst (v := 0) S.1 S.2.1 dX12_creditors_28 ic_0 ?_
      refine lv_ior S.1 S.2.1 dX12_creditors_29 ?_
      refine lv_topi (fun x6 ex6 => ?_)
      have hf := ltn_e hf ex6
      refine lv_istore_n (lv' := [(2, .int x6), (0, .ref o_q0), (1, .int p1), (3, .int s2.2)]) S.1 S.2.1 dX12_creditors_30 rfl hl (by decide) rfl (fun ls hl => ?_)
      refine q_iinc (w := 1) (lv' := [(3, .int (s2.2 + 1)), (2, .int x6), (0, .ref o_q0), (1, .int p1)]) S dX12_creditors_31 hl (k := 3) rfl ic_1 (by decide) rfl (fun ls hl => ?_)
      refine lv_goto (tgt := 4) S.1 S.2.1 dX12_creditors_34 (by decide) ?_
      exact hI3 _ (Option.some.inj hf).symm _ (lv_sub hl [2, 3, 1, 0] rfl)
    · have hf := it_n c_ hf
      refine lv_iconst (v := 1) S.1 S.2.1 dX12_creditors_22 ic_1 ?_
      refine lv_iload_n S.1 S.2.1 dX12_creditors_23 rfl (lv_at hl 3 rfl) ?_
      refine lv_ishl S.1 S.2.1 dX12_creditors_24 ?_
      refine lv_goto (tgt := 29) S.1 S.2.1 dX12_creditors_25 (by decide) ?_
      refine lv_ior S.1 S.2.1 dX12_creditors_29 ?_
      refine lv_topi (fun x7 ex7 => ?_)
      have hf := ltn_e hf ex7
      refine lv_istore_n (lv' := [(2, .int x7), (0, .ref o_q0), (1, .int p1), (3, .int s2.2)]) S.1 S.2.1 dX12_creditors_30 rfl hl (by decide) rfl (fun ls hl => ?_)
      refine q_iinc (w := 1) (lv' := [(3, .int (s2.2 + 1)), (2, .int x7), (0, .ref o_q0), (1, .int p1)]) S dX12_creditors_31 hl (k := 3) rfl ic_1 (by decide) rfl (fun ls hl => ?_)
      refine lv_goto (tgt := 4) S.1 S.2.1 dX12_creditors_34 (by decide) ?_
      exact hI3 _ (Option.some.inj hf).symm _ (lv_sub hl [2, 3, 1, 0] rfl)
def f_X12_creditorsOf_L4 (fu : Nat) (o_people : Int32) (o_debts : (Nat → Int32)) (p1 : Int32) (s2 : Int32 × Int32) : Option ((Int32 × Int32) ⊕ (Int32)) := if o_people ≤ s2.2 then some (.inr s2.1) else bnd (α := Int32) (f_X12_has fu p1 s2.2) (fun x5 => if x5 = 0 then ltn (s2.1 ||| (0 : Int32)) (fun x6 => some (.inl (x6, (s2.2 + 1)))) else bnd (α := Int32) (f_X12_creditors fu o_people o_debts s2.2) (fun x7 => ltn (s2.1 ||| x7) (fun x8 => some (.inl (x8, (s2.2 + 1))))))
def f_X12_creditorsOf (fu : Nat) (o_people : Int32) (o_debts : (Nat → Int32)) (p1 : Int32) : Option (Int32) := bnd (α := Int32) (lp (f_X12_creditorsOf_L4 fu o_people o_debts p1) fu ((0 : Int32), (0 : Int32))) (fun v9 => some v9)
set_option maxHeartbeats 4000000 in
set_option maxRecDepth 100000 in
theorem c_X12_creditorsOf {l : Launch} {D : va_G} {g : Nat → ClassId} {fu : Nat} {o_q0 o_q1 o_q2 o_q3 o_q4 o_q5 o_q6 o_q7 o_q8 o_q9 o_q10 o_q11 o_q12 o_q13 o_q14 o_q15 o_q16 o_q17 o_q18 o_q19 o_q20 o_q21 o_q22 : Nat} {o_code : Int32} {o_tape : (Nat → Int32)} {o_size : (Nat → Int32)} {o_fault : (Nat → Int32)} {o_faultPlace : (Nat → Int32)} {o_many : (Nat → Int32)} {o_towns : (Nat → Int32)} {o_weeks : (Nat → Int32)} {o_logs : (Nat → Int32)} {o_reached : Int32} {o_length : Int32} {o_begins : Int32} {o_sort : Int32} {o_value : Int32} {o_word : Int64} {o_wrongAt : Int32} {o_laterFault : Int32} {o_laterPlace : Int32} {o_told : (Nat → Int32)} {o_read : (Nat → Int32)} {o_farOne : Int32} {o_good : Int32} {o_town : Int32} {o_people : Int32} {o_when : Int32} {o_sat : Int32} {o_quiet : Int32} {o_vain : Int32} {o_lent : Int32} {o_forgiven : Int32} {o_sundays : Int32} {o_purse : (Nat → Int32)} {o_beside : (Nat → Int32)} {o_debts : (Nat → Int32)} {o_sitting : (Nat → Int32)} {o_visited : (Nat → Int32)} {o_week : Int32} {o_heaps : (Nat → Int32)} {o_taken : (Nat → Int32)} {o_best : (Nat → Int32)} {o_more : (Nat → Int32)} {o_firstOne : Int32} {o_log : Int32} {o_fitting : (Nat → Int32)} {o_found : Int32} {o_seed : Int32} {o_row : (Nat → Int32)} {o_saved : (Nat → Int32)} {p1 : Int32} {r : Int32} (hf : f_X12_creditorsOf fu o_people o_debts p1 = some r) : Rd l D (gy g) yX12_creditorsOf cX12_creditorsOf 4 (some .int) 2 [.ref o_q0, .int p1] (wMd g o_q0 o_q1 o_q2 o_q3 o_q4 o_q5 o_q6 o_q7 o_q8 o_q9 o_q10 o_q11 o_q12 o_q13 o_q14 o_q15 o_q16 o_q17 o_q18 o_q19 o_q20 o_q21 o_q22 o_code o_tape o_size o_fault o_faultPlace o_many o_towns o_weeks o_logs o_reached o_length o_begins o_sort o_value o_word o_wrongAt o_laterFault o_laterPlace o_told o_read o_farOne o_good o_town o_people o_when o_sat o_quiet o_vain o_lent o_forgiven o_sundays o_purse o_beside o_debts o_sitting o_visited o_week o_heaps o_taken o_best o_more o_firstOne o_log o_fitting o_found o_seed o_row o_saved) (some (.int r)) := by
  refine Rd.ofI (by decide) (Nat.le_of_ble_eq_true rfl) ?_
  intro p e s m args below meth c Q S hK hP hret ls hl
  have hl : lv_has ls 4 [(0, .ref o_q0), (1, .int p1)] := hl
  refine lv_iconst (v := 0) S.1 S.2.1 dX12_creditorsOf_0 ic_0 ?_
  refine lv_istore_n (lv' := [(2, .int (0 : Int32)), (0, .ref o_q0), (1, .int p1)]) S.1 S.2.1 dX12_creditorsOf_1 rfl hl (by decide) rfl (fun ls hl => ?_)
  refine lv_iconst (v := 0) S.1 S.2.1 dX12_creditorsOf_2 ic_0 ?_
  refine lv_istore_n (lv' := [(3, .int (0 : Int32)), (2, .int (0 : Int32)), (0, .ref o_q0), (1, .int p1)]) S.1 S.2.1 dX12_creditorsOf_3 rfl hl (by decide) rfl (fun ls hl => ?_)
  obtain ⟨x3, hf_, hk3⟩ := bnd_e hf
  have hE3 : ∀ (v9 : Int32), v9 = x3 → ∀ (ls : Array Slot), lv_has ls 4 [(2, .int v9)] → W p l e (rmD 2) s m args below meth c s.heap [] 0 0 Q (F0 m 38 ls []) := by
    intro v9 e_ ls hl
    subst e_
    have hf := hk3
    refine lv_iload_n S.1 S.2.1 dX12_creditorsOf_38 rfl (lv_at hl 0 rfl) ?_
    have e_ := Option.some.inj hf
    subst e_
    exact hret _ _ dX12_creditorsOf_39
  refine lp_ind (P := fun (s2 : Int32 × Int32) => ∀ (ls : Array Slot), lv_has ls 4 [(0, .ref o_q0), (1, .int p1), (2, .int s2.1), (3, .int s2.2)] → W p l e (rmD 2) s m args below meth c s.heap [] 0 0 Q (F0 m 4 ls [])) ?_ _ _ hf_ _ (lv_sub hl [2, 3, 1, 0] rfl)
  intro s2 x4 hf hI3 hR3 ls hl
  refine lv_iload_n S.1 S.2.1 dX12_creditorsOf_4 rfl (lv_at hl 3 rfl) ?_
  refine lv_aload_n S.1 S.2.1 dX12_creditorsOf_5 rfl (lv_at hl 0 rfl) ?_
  refine gfX12_230 S hK hP 0 rfl rfl dX12_creditorsOf_6 ?_
  refine lv_icmp_ge (tgt := 38) S.1 S.2.1 dX12_creditorsOf_9 (by decide) (fun c_ => ?_) (fun c_ => ?_)
  · have hf := it_p c_ hf
    have e_ := hR3 _ (Option.some.inj hf).symm
    exact hE3 _ e_ _ (lv_sub hl [2] rfl)
  · have hf := it_n c_ hf
    refine lv_iload_n S.1 S.2.1 dX12_creditorsOf_12 rfl (lv_at hl 2 rfl) ?_
    refine lv_iload_n S.1 S.2.1 dX12_creditorsOf_13 rfl (lv_at hl 1 rfl) ?_
    refine lv_iload_n S.1 S.2.1 dX12_creditorsOf_14 rfl (lv_at hl 3 rfl) ?_
    obtain ⟨x5, hx5, hf⟩ := bnd_e hf
    refine Rd.cS (c_X12_has hx5) S hK va_P.nil kSX12_82 rfl hl.1 [.int s2.1] rfl (Nat.le_of_ble_eq_true rfl) ⟨(Nat.le_of_ble_eq_true rfl), (Nat.le_of_ble_eq_true rfl)⟩ ⟨(Nat.zero_le _), (Nat.zero_le _)⟩ dX12_creditorsOf_15 ?_
    refine lv_if_eq (tgt := 29) S.1 S.2.1 dX12_creditorsOf_18 (by decide) (fun c_ => ?_) (fun c_ => ?_)
    · have hf := it_p c_ hf
      refine lv_iconst (v := 0) S.1 S.2.1 dX12_creditorsOf_29 ic_0 ?_
      refine lv_ior S.1 S.2.1 dX12_creditorsOf_30 ?_
      refine lv_topi (fun x6 ex6 => ?_)
      have hf := ltn_e hf ex6
      refine lv_istore_n (lv' := [(2, .int x6), (0, .ref o_q0), (1, .int p1), (3, .int s2.2)]) S.1 S.2.1 dX12_creditorsOf_31 rfl hl (by decide) rfl (fun ls hl => ?_)
      refine q_iinc (w := 1) (lv' := [(3, .int (s2.2 + 1)), (2, .int x6), (0, .ref o_q0), (1, .int p1)]) S dX12_creditorsOf_32 hl (k := 3) rfl ic_1 (by decide) rfl (fun ls hl => ?_)
      refine lv_goto (tgt := 4) S.1 S.2.1 dX12_creditorsOf_35 (by decide) ?_
      exact hI3 _ (Option.some.inj hf).symm _ (lv_sub hl [2, 3, 1, 0] rfl)
    · have hf := it_n c_ hf
      refine lv_aload_n S.1 S.2.1 dX12_creditorsOf_21 rfl (lv_at hl 0 rfl) ?_
      refine lv_iload_n S.1 S.2.1 dX12_creditorsOf_22 rfl (lv_at hl 3 rfl) ?_
      obtain ⟨x7, hx7, hf⟩ := bnd_e hf
      refine Rd.cV (c_X12_creditors hx7) S hK hP 0 10 rfl rfl kVX12_430 rfl hl.1 [.int s2.1] rfl (Nat.le_of_ble_eq_true rfl) ⟨(Nat.le_of_ble_eq_true rfl), (Nat.le_of_ble_eq_true rfl)⟩ ⟨(Nat.zero_le _), (Nat.zero_le _)⟩ dX12_creditorsOf_23 ?_
      refine lv_goto (tgt := 30) S.1 S.2.1 dX12_creditorsOf_26 (by decide) ?_
      refine lv_ior S.1 S.2.1 dX12_creditorsOf_30 ?_
      refine lv_topi (fun x8 ex8 => ?_)
      have hf := ltn_e hf ex8
      refine lv_istore_n (lv' := [(2, .int x8), (0, .ref o_q0), (1, .int p1), (3, .int s2.2)]) S.1 S.2.1 dX12_creditorsOf_31 rfl hl (by decide) rfl (fun ls hl => ?_)
      refine q_iinc (w := 1) (lv' := [(3, .int (s2.2 + 1)), (2, .int x8), (0, .ref o_q0), (1, .int p1)]) S dX12_creditorsOf_32 hl (k := 3) rfl ic_1 (by decide) rfl (fun ls hl => ?_)
      refine lv_goto (tgt := 4) S.1 S.2.1 dX12_creditorsOf_35 (by decide) ?_
      exact hI3 _ (Option.some.inj hf).symm _ (lv_sub hl [2, 3, 1, 0] rfl)
def f_X12_shortestRing_L21 (fu : Nat) (o_people : Int32) (o_debts : (Nat → Int32)) (s2 : Int32 × Int32) (s7 : Int32 × Int32 × Int32) : Option ((Int32 × Int32 × Int32) ⊕ (Int32)) := if (6 : Int32) < s7.2.2 then some (.inr s7.1) else bnd (α := Int32) (f_X12_creditorsOf fu o_people o_debts s7.2.1) (fun x10 => bnd (α := Int32) (f_X12_has fu x10 s2.2) (fun x11 => if x11 = 0 then some (.inl (s7.1, x10, (s7.2.2 + 1))) else bnd (α := Int32) (f_X12_lesser fu s7.1 s7.2.2) (fun x12 => some (.inl (x12, x10, (s7.2.2 + 1))))))
def f_X12_shortestRing_L6 (fu : Nat) (o_people : Int32) (o_debts : (Nat → Int32)) (s2 : Int32 × Int32) : Option ((Int32 × Int32) ⊕ (Int32)) := if o_people ≤ s2.2 then some (.inr s2.1) else ltn (jshl (1 : Int32) s2.2) (fun x5 => bnd (α := Int32) (lp (f_X12_shortestRing_L21 fu o_people o_debts s2) fu (s2.1, x5, (1 : Int32))) (fun v13 => some (.inl (v13, (s2.2 + 1)))))
def f_X12_shortestRing (fu : Nat) (o_people : Int32) (o_debts : (Nat → Int32)) : Option (Int32) := bnd (α := Int32) (lp (f_X12_shortestRing_L6 fu o_people o_debts) fu ((1000000 : Int32), (0 : Int32))) (fun v14 => if v14 = (1000000 : Int32) then some (-1 : Int32) else some v14)
set_option maxHeartbeats 4000000 in
set_option maxRecDepth 100000 in
theorem c_X12_shortestRing {l : Launch} {D : va_G} {g : Nat → ClassId} {fu : Nat} {o_q0 o_q1 o_q2 o_q3 o_q4 o_q5 o_q6 o_q7 o_q8 o_q9 o_q10 o_q11 o_q12 o_q13 o_q14 o_q15 o_q16 o_q17 o_q18 o_q19 o_q20 o_q21 o_q22 : Nat} {o_code : Int32} {o_tape : (Nat → Int32)} {o_size : (Nat → Int32)} {o_fault : (Nat → Int32)} {o_faultPlace : (Nat → Int32)} {o_many : (Nat → Int32)} {o_towns : (Nat → Int32)} {o_weeks : (Nat → Int32)} {o_logs : (Nat → Int32)} {o_reached : Int32} {o_length : Int32} {o_begins : Int32} {o_sort : Int32} {o_value : Int32} {o_word : Int64} {o_wrongAt : Int32} {o_laterFault : Int32} {o_laterPlace : Int32} {o_told : (Nat → Int32)} {o_read : (Nat → Int32)} {o_farOne : Int32} {o_good : Int32} {o_town : Int32} {o_people : Int32} {o_when : Int32} {o_sat : Int32} {o_quiet : Int32} {o_vain : Int32} {o_lent : Int32} {o_forgiven : Int32} {o_sundays : Int32} {o_purse : (Nat → Int32)} {o_beside : (Nat → Int32)} {o_debts : (Nat → Int32)} {o_sitting : (Nat → Int32)} {o_visited : (Nat → Int32)} {o_week : Int32} {o_heaps : (Nat → Int32)} {o_taken : (Nat → Int32)} {o_best : (Nat → Int32)} {o_more : (Nat → Int32)} {o_firstOne : Int32} {o_log : Int32} {o_fitting : (Nat → Int32)} {o_found : Int32} {o_seed : Int32} {o_row : (Nat → Int32)} {o_saved : (Nat → Int32)} {r : Int32} (hf : f_X12_shortestRing fu o_people o_debts = some r) : Rd l D (gy g) yX12_shortestRing cX12_shortestRing 5 (some .int) 3 [.ref o_q0] (wMd g o_q0 o_q1 o_q2 o_q3 o_q4 o_q5 o_q6 o_q7 o_q8 o_q9 o_q10 o_q11 o_q12 o_q13 o_q14 o_q15 o_q16 o_q17 o_q18 o_q19 o_q20 o_q21 o_q22 o_code o_tape o_size o_fault o_faultPlace o_many o_towns o_weeks o_logs o_reached o_length o_begins o_sort o_value o_word o_wrongAt o_laterFault o_laterPlace o_told o_read o_farOne o_good o_town o_people o_when o_sat o_quiet o_vain o_lent o_forgiven o_sundays o_purse o_beside o_debts o_sitting o_visited o_week o_heaps o_taken o_best o_more o_firstOne o_log o_fitting o_found o_seed o_row o_saved) (some (.int r)) := by
  refine Rd.ofI (by decide) (Nat.le_of_ble_eq_true rfl) ?_
  intro p e s m args below meth c Q S hK hP hret ls hl
  have hl : lv_has ls 5 [(0, .ref o_q0)] := hl
  refine lv_ldcw (v := 1000000) S.1 S.2.1 S.2.2.2.1 (S.2.2.2.2 _ q_1550) dX12_shortestRing_0 ?_
  refine lv_istore_n (lv' := [(1, .int (1000000 : Int32)), (0, .ref o_q0)]) S.1 S.2.1 dX12_shortestRing_3 rfl hl (by decide) rfl (fun ls hl => ?_)
  refine lv_iconst (v := 0) S.1 S.2.1 dX12_shortestRing_4 ic_0 ?_
  refine lv_istore_n (lv' := [(2, .int (0 : Int32)), (1, .int (1000000 : Int32)), (0, .ref o_q0)]) S.1 S.2.1 dX12_shortestRing_5 rfl hl (by decide) rfl (fun ls hl => ?_)
  obtain ⟨x3, hf_, hk3⟩ := bnd_e hf
  have hE3 : ∀ (v14 : Int32), v14 = x3 → ∀ (ls : Array Slot), lv_has ls 5 [(1, .int v14)] → W p l e (rmD 3) s m args below meth c s.heap [] 0 0 Q (F0 m 65 ls []) := by
    intro v14 e_ ls hl
    subst e_
    have hf := hk3
    refine lv_iload_n S.1 S.2.1 dX12_shortestRing_65 rfl (lv_at hl 0 rfl) ?_
    refine lv_ldcw (v := 1000000) S.1 S.2.1 S.2.2.2.1 (S.2.2.2.2 _ q_1550) dX12_shortestRing_66 ?_
    refine lv_icmp_ne (tgt := 76) S.1 S.2.1 dX12_shortestRing_69 (by decide) (fun c_ => ?_) (fun c_ => ?_)
    · have hf := it_n c_ hf
      refine lv_iload_n S.1 S.2.1 dX12_shortestRing_76 rfl (lv_at hl 0 rfl) ?_
      have e_ := Option.some.inj hf
      subst e_
      exact hret _ _ dX12_shortestRing_77
    · have hf := it_p c_ hf
      refine lv_iconst (v := (-1)) S.1 S.2.1 dX12_shortestRing_72 ic_m1 ?_
      refine lv_goto (tgt := 77) S.1 S.2.1 dX12_shortestRing_73 (by decide) ?_
      have e_ := Option.some.inj hf
      subst e_
      exact hret _ _ dX12_shortestRing_77
  refine lp_ind (P := fun (s2 : Int32 × Int32) => ∀ (ls : Array Slot), lv_has ls 5 [(0, .ref o_q0), (1, .int s2.1), (2, .int s2.2)] → W p l e (rmD 3) s m args below meth c s.heap [] 0 0 Q (F0 m 6 ls [])) ?_ _ _ hf_ _ (lv_sub hl [2, 1, 0] rfl)
  intro s2 x4 hf hI3 hR3 ls hl
  refine lv_iload_n S.1 S.2.1 dX12_shortestRing_6 rfl (lv_at hl 2 rfl) ?_
  refine lv_aload_n S.1 S.2.1 dX12_shortestRing_7 rfl (lv_at hl 0 rfl) ?_
  refine gfX12_230 S hK hP 0 rfl rfl dX12_shortestRing_8 ?_
  refine lv_icmp_ge (tgt := 65) S.1 S.2.1 dX12_shortestRing_11 (by decide) (fun c_ => ?_) (fun c_ => ?_)
  · have hf := it_p c_ hf
    have e_ := hR3 _ (Option.some.inj hf).symm
    exact hE3 _ e_ _ (lv_sub hl [1] rfl)
  · have hf := it_n c_ hf
    refine lv_iconst (v := 1) S.1 S.2.1 dX12_shortestRing_14 ic_1 ?_
    refine lv_iload_n S.1 S.2.1 dX12_shortestRing_15 rfl (lv_at hl 2 rfl) ?_
    refine lv_ishl S.1 S.2.1 dX12_shortestRing_16 ?_
    refine lv_topi (fun x5 ex5 => ?_)
    have hf := ltn_e hf ex5
    refine lv_istore_n (lv' := [(3, .int x5), (0, .ref o_q0), (1, .int s2.1), (2, .int s2.2)]) S.1 S.2.1 dX12_shortestRing_17 rfl hl (by decide) rfl (fun ls hl => ?_)
    refine lv_iconst (v := 1) S.1 S.2.1 dX12_shortestRing_18 ic_1 ?_
    refine lv_istore (lv' := [(4, .int (1 : Int32)), (3, .int x5), (0, .ref o_q0), (1, .int s2.1), (2, .int s2.2)]) S.1 S.2.1 dX12_shortestRing_19 hl (by decide) rfl (fun ls hl => ?_)
    obtain ⟨x8, hf_, hk8⟩ := bnd_e hf
    have hE8 : ∀ (v13 : Int32), v13 = x8 → ∀ (ls : Array Slot), lv_has ls 5 [(0, .ref o_q0), (1, .int v13), (2, .int s2.2)] → W p l e (rmD 3) s m args below meth c s.heap [] 0 0 Q (F0 m 59 ls []) := by
      intro v13 e_ ls hl
      subst e_
      have hf := hk8
      refine q_iinc (w := 1) (lv' := [(2, .int (s2.2 + 1)), (0, .ref o_q0), (1, .int v13)]) S dX12_shortestRing_59 hl (k := 2) rfl ic_1 (by decide) rfl (fun ls hl => ?_)
      refine lv_goto (tgt := 6) S.1 S.2.1 dX12_shortestRing_62 (by decide) ?_
      exact hI3 _ (Option.some.inj hf).symm _ (lv_sub hl [1, 2, 0] rfl)
    refine lp_ind (P := fun (s7 : Int32 × Int32 × Int32) => ∀ (ls : Array Slot), lv_has ls 5 [(0, .ref o_q0), (1, .int s7.1), (2, .int s2.2), (3, .int s7.2.1), (4, .int s7.2.2)] → W p l e (rmD 3) s m args below meth c s.heap [] 0 0 Q (F0 m 21 ls [])) ?_ _ _ hf_ _ (lv_sub hl [2, 3, 4, 1, 0] rfl)
    intro s7 x9 hf hI8 hR8 ls hl
    refine lv_iload S.1 S.2.1 dX12_shortestRing_21 (lv_at hl 4 rfl) ?_
    refine lv_bipush (v := 6) S.1 S.2.1 dX12_shortestRing_23 bp_6 ?_
    refine lv_icmp_gt (tgt := 59) S.1 S.2.1 dX12_shortestRing_25 (by decide) (fun c_ => ?_) (fun c_ => ?_)
    · have hf := it_p c_ hf
      have e_ := hR8 _ (Option.some.inj hf).symm
      exact hE8 _ e_ _ (lv_sub hl [0, 1, 2] rfl)
    · have hf := it_n c_ hf
      refine lv_aload_n S.1 S.2.1 dX12_shortestRing_28 rfl (lv_at hl 0 rfl) ?_
      refine lv_iload_n S.1 S.2.1 dX12_shortestRing_29 rfl (lv_at hl 3 rfl) ?_
      obtain ⟨x10, hx10, hf⟩ := bnd_e hf
      refine Rd.cV (c_X12_creditorsOf hx10) S hK hP 0 10 rfl rfl kVX12_433 rfl hl.1 [] rfl (Nat.le_of_ble_eq_true rfl) ⟨(Nat.le_of_ble_eq_true rfl), (Nat.le_of_ble_eq_true rfl)⟩ ⟨(Nat.zero_le _), (Nat.zero_le _)⟩ dX12_shortestRing_30 ?_
      refine lv_istore_n (lv' := [(3, .int x10), (0, .ref o_q0), (1, .int s7.1), (2, .int s2.2), (4, .int s7.2.2)]) S.1 S.2.1 dX12_shortestRing_33 rfl hl (by decide) rfl (fun ls hl => ?_)
      refine lv_iload_n S.1 S.2.1 dX12_shortestRing_34 rfl (lv_at hl 0 rfl) ?_
      refine lv_iload_n S.1 S.2.1 dX12_shortestRing_35 rfl (lv_at hl 3 rfl) ?_
      obtain ⟨x11, hx11, hf⟩ := bnd_e hf
      refine Rd.cS (c_X12_has hx11) S hK va_P.nil kSX12_82 rfl hl.1 [] rfl (Nat.le_of_ble_eq_true rfl) ⟨(Nat.le_of_ble_eq_true rfl), (Nat.le_of_ble_eq_true rfl)⟩ ⟨(Nat.zero_le _), (Nat.zero_le _)⟩ dX12_shortestRing_36 ?_
      refine lv_if_eq (tgt := 51) S.1 S.2.1 dX12_shortestRing_39 (by decide) (fun c_ => ?_) (fun c_ => ?_)
      · have hf := it_p c_ hf
        refine lv_iload_n S.1 S.2.1 dX12_shortestRing_51 rfl (lv_at hl 2 rfl) ?_
        refine lv_istore_n (lv' := [(1, .int s7.1), (3, .int x10), (0, .ref o_q0), (2, .int s2.2), (4, .int s7.2.2)]) S.1 S.2.1 dX12_shortestRing_52 rfl hl (by decide) rfl (fun ls hl => ?_)
        refine q_iinc (w := 1) (lv' := [(4, .int (s7.2.2 + 1)), (1, .int s7.1), (3, .int x10), (0, .ref o_q0), (2, .int s2.2)]) S dX12_shortestRing_53 hl (k := 4) rfl ic_1 (by decide) rfl (fun ls hl => ?_)
        refine lv_goto (tgt := 21) S.1 S.2.1 dX12_shortestRing_56 (by decide) ?_
        exact hI8 _ (Option.some.inj hf).symm _ (lv_sub hl [3, 1, 4, 2, 0] rfl)
      · have hf := it_n c_ hf
        refine lv_iload_n S.1 S.2.1 dX12_shortestRing_42 rfl (lv_at hl 2 rfl) ?_
        refine lv_iload S.1 S.2.1 dX12_shortestRing_43 (lv_at hl 4 rfl) ?_
        obtain ⟨x12, hx12, hf⟩ := bnd_e hf
        refine Rd.cS (c_X12_lesser hx12) S hK va_P.nil kSX12_281 rfl hl.1 [] rfl (Nat.le_of_ble_eq_true rfl) ⟨(Nat.le_of_ble_eq_true rfl), (Nat.le_of_ble_eq_true rfl)⟩ ⟨(Nat.zero_le _), (Nat.zero_le _)⟩ dX12_shortestRing_45 ?_
        refine lv_goto (tgt := 52) S.1 S.2.1 dX12_shortestRing_48 (by decide) ?_
        refine lv_istore_n (lv' := [(1, .int x12), (3, .int x10), (0, .ref o_q0), (2, .int s2.2), (4, .int s7.2.2)]) S.1 S.2.1 dX12_shortestRing_52 rfl hl (by decide) rfl (fun ls hl => ?_)
        refine q_iinc (w := 1) (lv' := [(4, .int (s7.2.2 + 1)), (1, .int x12), (3, .int x10), (0, .ref o_q0), (2, .int s2.2)]) S dX12_shortestRing_53 hl (k := 4) rfl ic_1 (by decide) rfl (fun ls hl => ?_)
        refine lv_goto (tgt := 21) S.1 S.2.1 dX12_shortestRing_56 (by decide) ?_
        exact hI8 _ (Option.some.inj hf).symm _ (lv_sub hl [3, 1, 4, 2, 0] rfl)
def f_X12_wealthOf (fu : Nat) (o_people : Int32) (o_purse : (Nat → Int32)) (o_debts : (Nat → Int32)) (p1 : Int32) : Option (Int32) := bnd (α := Int32) (rdi 6 o_purse p1) (fun x1 => bnd (α := Int32) (f_X12_netOf fu o_people o_debts p1) (fun x2 => some (x1 + x2)))
set_option maxHeartbeats 4000000 in
set_option maxRecDepth 100000 in
theorem c_X12_wealthOf {l : Launch} {D : va_G} {g : Nat → ClassId} {fu : Nat} {o_q0 o_q1 o_q2 o_q3 o_q4 o_q5 o_q6 o_q7 o_q8 o_q9 o_q10 o_q11 o_q12 o_q13 o_q14 o_q15 o_q16 o_q17 o_q18 o_q19 o_q20 o_q21 o_q22 : Nat} {o_code : Int32} {o_tape : (Nat → Int32)} {o_size : (Nat → Int32)} {o_fault : (Nat → Int32)} {o_faultPlace : (Nat → Int32)} {o_many : (Nat → Int32)} {o_towns : (Nat → Int32)} {o_weeks : (Nat → Int32)} {o_logs : (Nat → Int32)} {o_reached : Int32} {o_length : Int32} {o_begins : Int32} {o_sort : Int32} {o_value : Int32} {o_word : Int64} {o_wrongAt : Int32} {o_laterFault : Int32} {o_laterPlace : Int32} {o_told : (Nat → Int32)} {o_read : (Nat → Int32)} {o_farOne : Int32} {o_good : Int32} {o_town : Int32} {o_people : Int32} {o_when : Int32} {o_sat : Int32} {o_quiet : Int32} {o_vain : Int32} {o_lent : Int32} {o_forgiven : Int32} {o_sundays : Int32} {o_purse : (Nat → Int32)} {o_beside : (Nat → Int32)} {o_debts : (Nat → Int32)} {o_sitting : (Nat → Int32)} {o_visited : (Nat → Int32)} {o_week : Int32} {o_heaps : (Nat → Int32)} {o_taken : (Nat → Int32)} {o_best : (Nat → Int32)} {o_more : (Nat → Int32)} {o_firstOne : Int32} {o_log : Int32} {o_fitting : (Nat → Int32)} {o_found : Int32} {o_seed : Int32} {o_row : (Nat → Int32)} {o_saved : (Nat → Int32)} {p1 : Int32} {r : Int32} (hf : f_X12_wealthOf fu o_people o_purse o_debts p1 = some r) : Rd l D (gy g) yX12_wealthOf cX12_wealthOf 2 (some .int) 3 [.ref o_q0, .int p1] (wMd g o_q0 o_q1 o_q2 o_q3 o_q4 o_q5 o_q6 o_q7 o_q8 o_q9 o_q10 o_q11 o_q12 o_q13 o_q14 o_q15 o_q16 o_q17 o_q18 o_q19 o_q20 o_q21 o_q22 o_code o_tape o_size o_fault o_faultPlace o_many o_towns o_weeks o_logs o_reached o_length o_begins o_sort o_value o_word o_wrongAt o_laterFault o_laterPlace o_told o_read o_farOne o_good o_town o_people o_when o_sat o_quiet o_vain o_lent o_forgiven o_sundays o_purse o_beside o_debts o_sitting o_visited o_week o_heaps o_taken o_best o_more o_firstOne o_log o_fitting o_found o_seed o_row o_saved) (some (.int r)) := by
  refine Rd.ofI (by decide) (Nat.le_of_ble_eq_true rfl) ?_
  intro p e s m args below meth c Q S hK hP hret ls hl
  have hl : lv_has ls 2 [(0, .ref o_q0), (1, .int p1)] := hl
  refine lv_aload_n S.1 S.2.1 dX12_wealthOf_0 rfl (lv_at hl 0 rfl) ?_
  refine gfX12_41 S hK hP 0 rfl rfl dX12_wealthOf_1 ?_
  refine lv_iload_n S.1 S.2.1 dX12_wealthOf_4 rfl (lv_at hl 1 rfl) ?_
  obtain ⟨x1, hx1, hf⟩ := bnd_e hf
  refine q_iald S hK hP 11 0 rfl rfl hx1 dX12_wealthOf_5 ?_
  refine lv_aload_n S.1 S.2.1 dX12_wealthOf_6 rfl (lv_at hl 0 rfl) ?_
  refine lv_iload_n S.1 S.2.1 dX12_wealthOf_7 rfl (lv_at hl 1 rfl) ?_
  obtain ⟨x2, hx2, hf⟩ := bnd_e hf
  refine Rd.cV (c_X12_netOf hx2) S hK hP 0 10 rfl rfl kVX12_332 rfl hl.1 [.int x1] rfl (Nat.le_of_ble_eq_true rfl) ⟨(Nat.le_of_ble_eq_true rfl), (Nat.le_of_ble_eq_true rfl)⟩ ⟨(Nat.zero_le _), (Nat.zero_le _)⟩ dX12_wealthOf_8 ?_
  refine lv_iadd S.1 S.2.1 dX12_wealthOf_11 ?_
  have e_ := Option.some.inj hf
  subst e_
  exact hret _ _ dX12_wealthOf_12
def f_X12_debtors_L4 (fu : Nat) (o_people : Int32) (o_debts : (Nat → Int32)) (p1 : Int32) (s2 : Int32 × Int32) : Option ((Int32 × Int32) ⊕ (Int32)) := if o_people ≤ s2.2 then some (.inr s2.1) else bnd (α := Int32) (f_X12_owed fu o_debts s2.2 p1) (fun x5 => if x5 ≤ 0 then ltn (s2.1 + (0 : Int32)) (fun x6 => some (.inl (x6, (s2.2 + 1)))) else ltn (s2.1 + (1 : Int32)) (fun x7 => some (.inl (x7, (s2.2 + 1)))))
def f_X12_debtors (fu : Nat) (o_people : Int32) (o_debts : (Nat → Int32)) (p1 : Int32) : Option (Int32) := bnd (α := Int32) (lp (f_X12_debtors_L4 fu o_people o_debts p1) fu ((0 : Int32), (0 : Int32))) (fun v8 => some v8)
set_option maxHeartbeats 4000000 in
set_option maxRecDepth 100000 in
theorem c_X12_debtors {l : Launch} {D : va_G} {g : Nat → ClassId} {fu : Nat} {o_q0 o_q1 o_q2 o_q3 o_q4 o_q5 o_q6 o_q7 o_q8 o_q9 o_q10 o_q11 o_q12 o_q13 o_q14 o_q15 o_q16 o_q17 o_q18 o_q19 o_q20 o_q21 o_q22 : Nat} {o_code : Int32} {o_tape : (Nat → Int32)} {o_size : (Nat → Int32)} {o_fault : (Nat → Int32)} {o_faultPlace : (Nat → Int32)} {o_many : (Nat → Int32)} {o_towns : (Nat → Int32)} {o_weeks : (Nat → Int32)} {o_logs : (Nat → Int32)} {o_reached : Int32} {o_length : Int32} {o_begins : Int32} {o_sort : Int32} {o_value : Int32} {o_word : Int64} {o_wrongAt : Int32} {o_laterFault : Int32} {o_laterPlace : Int32} {o_told : (Nat → Int32)} {o_read : (Nat → Int32)} {o_farOne : Int32} {o_good : Int32} {o_town : Int32} {o_people : Int32} {o_when : Int32} {o_sat : Int32} {o_quiet : Int32} {o_vain : Int32} {o_lent : Int32} {o_forgiven : Int32} {o_sundays : Int32} {o_purse : (Nat → Int32)} {o_beside : (Nat → Int32)} {o_debts : (Nat → Int32)} {o_sitting : (Nat → Int32)} {o_visited : (Nat → Int32)} {o_week : Int32} {o_heaps : (Nat → Int32)} {o_taken : (Nat → Int32)} {o_best : (Nat → Int32)} {o_more : (Nat → Int32)} {o_firstOne : Int32} {o_log : Int32} {o_fitting : (Nat → Int32)} {o_found : Int32} {o_seed : Int32} {o_row : (Nat → Int32)} {o_saved : (Nat → Int32)} {p1 : Int32} {r : Int32} (hf : f_X12_debtors fu o_people o_debts p1 = some r) : Rd l D (gy g) yX12_debtors cX12_debtors 4 (some .int) 1 [.ref o_q0, .int p1] (wMd g o_q0 o_q1 o_q2 o_q3 o_q4 o_q5 o_q6 o_q7 o_q8 o_q9 o_q10 o_q11 o_q12 o_q13 o_q14 o_q15 o_q16 o_q17 o_q18 o_q19 o_q20 o_q21 o_q22 o_code o_tape o_size o_fault o_faultPlace o_many o_towns o_weeks o_logs o_reached o_length o_begins o_sort o_value o_word o_wrongAt o_laterFault o_laterPlace o_told o_read o_farOne o_good o_town o_people o_when o_sat o_quiet o_vain o_lent o_forgiven o_sundays o_purse o_beside o_debts o_sitting o_visited o_week o_heaps o_taken o_best o_more o_firstOne o_log o_fitting o_found o_seed o_row o_saved) (some (.int r)) := by
  refine Rd.ofI (by decide) (Nat.le_of_ble_eq_true rfl) ?_
  intro p e s m args below meth c Q S hK hP hret ls hl
  have hl : lv_has ls 4 [(0, .ref o_q0), (1, .int p1)] := hl
  refine lv_iconst (v := 0) S.1 S.2.1 dX12_debtors_0 ic_0 ?_
  refine lv_istore_n (lv' := [(2, .int (0 : Int32)), (0, .ref o_q0), (1, .int p1)]) S.1 S.2.1 dX12_debtors_1 rfl hl (by decide) rfl (fun ls hl => ?_)
  refine lv_iconst (v := 0) S.1 S.2.1 dX12_debtors_2 ic_0 ?_
  refine lv_istore_n (lv' := [(3, .int (0 : Int32)), (2, .int (0 : Int32)), (0, .ref o_q0), (1, .int p1)]) S.1 S.2.1 dX12_debtors_3 rfl hl (by decide) rfl (fun ls hl => ?_)
  obtain ⟨x3, hf_, hk3⟩ := bnd_e hf
  have hE3 : ∀ (v8 : Int32), v8 = x3 → ∀ (ls : Array Slot), lv_has ls 4 [(2, .int v8)] → W p l e (rmD 1) s m args below meth c s.heap [] 0 0 Q (F0 m 35 ls []) := by
    intro v8 e_ ls hl
    subst e_
    have hf := hk3
    refine lv_iload_n S.1 S.2.1 dX12_debtors_35 rfl (lv_at hl 0 rfl) ?_
    have e_ := Option.some.inj hf
    subst e_
    exact hret _ _ dX12_debtors_36
  refine lp_ind (P := fun (s2 : Int32 × Int32) => ∀ (ls : Array Slot), lv_has ls 4 [(0, .ref o_q0), (1, .int p1), (2, .int s2.1), (3, .int s2.2)] → W p l e (rmD 1) s m args below meth c s.heap [] 0 0 Q (F0 m 4 ls [])) ?_ _ _ hf_ _ (lv_sub hl [2, 3, 1, 0] rfl)
  intro s2 x4 hf hI3 hR3 ls hl
  refine lv_iload_n S.1 S.2.1 dX12_debtors_4 rfl (lv_at hl 3 rfl) ?_
  refine lv_aload_n S.1 S.2.1 dX12_debtors_5 rfl (lv_at hl 0 rfl) ?_
  refine gfX12_230 S hK hP 0 rfl rfl dX12_debtors_6 ?_
  refine lv_icmp_ge (tgt := 35) S.1 S.2.1 dX12_debtors_9 (by decide) (fun c_ => ?_) (fun c_ => ?_)
  · have hf := it_p c_ hf
    have e_ := hR3 _ (Option.some.inj hf).symm
    exact hE3 _ e_ _ (lv_sub hl [2] rfl)
  · have hf := it_n c_ hf
    refine lv_iload_n S.1 S.2.1 dX12_debtors_12 rfl (lv_at hl 2 rfl) ?_
    refine lv_aload_n S.1 S.2.1 dX12_debtors_13 rfl (lv_at hl 0 rfl) ?_
    refine lv_iload_n S.1 S.2.1 dX12_debtors_14 rfl (lv_at hl 3 rfl) ?_
    refine lv_iload_n S.1 S.2.1 dX12_debtors_15 rfl (lv_at hl 1 rfl) ?_
    obtain ⟨x5, hx5, hf⟩ := bnd_e hf
    refine Rd.cV (c_X12_owed hx5) S hK hP 0 10 rfl rfl kVX12_254 rfl hl.1 [.int s2.1] rfl (Nat.le_of_ble_eq_true rfl) ⟨(Nat.le_of_ble_eq_true rfl), (Nat.le_of_ble_eq_true rfl)⟩ ⟨(Nat.zero_le _), (Nat.zero_le _)⟩ dX12_debtors_16 ?_
    refine lv_if_le (tgt := 26) S.1 S.2.1 dX12_debtors_19 (by decide) (fun c_ => ?_) (fun c_ => ?_)
    · have hf := it_p c_ hf
      refine lv_iconst (v := 0) S.1 S.2.1 dX12_debtors_26 ic_0 ?_
      refine lv_iadd S.1 S.2.1 dX12_debtors_27 ?_
      refine lv_topi (fun x6 ex6 => ?_)
      have hf := ltn_e hf ex6
      refine lv_istore_n (lv' := [(2, .int x6), (0, .ref o_q0), (1, .int p1), (3, .int s2.2)]) S.1 S.2.1 dX12_debtors_28 rfl hl (by decide) rfl (fun ls hl => ?_)
      refine q_iinc (w := 1) (lv' := [(3, .int (s2.2 + 1)), (2, .int x6), (0, .ref o_q0), (1, .int p1)]) S dX12_debtors_29 hl (k := 3) rfl ic_1 (by decide) rfl (fun ls hl => ?_)
      refine lv_goto (tgt := 4) S.1 S.2.1 dX12_debtors_32 (by decide) ?_
      exact hI3 _ (Option.some.inj hf).symm _ (lv_sub hl [2, 3, 1, 0] rfl)
    · have hf := it_n c_ hf
      refine lv_iconst (v := 1) S.1 S.2.1 dX12_debtors_22 ic_1 ?_
      refine lv_goto (tgt := 27) S.1 S.2.1 dX12_debtors_23 (by decide) ?_
      refine lv_iadd S.1 S.2.1 dX12_debtors_27 ?_
      refine lv_topi (fun x7 ex7 => ?_)
      have hf := ltn_e hf ex7
      refine lv_istore_n (lv' := [(2, .int x7), (0, .ref o_q0), (1, .int p1), (3, .int s2.2)]) S.1 S.2.1 dX12_debtors_28 rfl hl (by decide) rfl (fun ls hl => ?_)
      refine q_iinc (w := 1) (lv' := [(3, .int (s2.2 + 1)), (2, .int x7), (0, .ref o_q0), (1, .int p1)]) S dX12_debtors_29 hl (k := 3) rfl ic_1 (by decide) rfl (fun ls hl => ?_)
      refine lv_goto (tgt := 4) S.1 S.2.1 dX12_debtors_32 (by decide) ?_
      exact hI3 _ (Option.some.inj hf).symm _ (lv_sub hl [2, 3, 1, 0] rfl)
def f_X12_first_L4 (fu : Nat) (o_people : Int32) (o_purse : (Nat → Int32)) (o_debts : (Nat → Int32)) (p1 : Int32) (s2 : Int32 × Int32) : Option ((Int32 × Int32) ⊕ (Int32)) := if o_people ≤ s2.2 then some (.inr s2.1) else bnd (α := Int32) (if s2.1 = (-1 : Int32) then some (1 : Int32) else if p1 = 0 then bnd (α := Int32) (f_X12_debtors fu o_people o_debts s2.2) (fun x7 => bnd (α := Int32) (f_X12_debtors fu o_people o_debts s2.1) (fun x8 => if x7 ≤ x8 then some (0 : Int32) else some (1 : Int32))) else bnd (α := Int32) (f_X12_wealthOf fu o_people o_purse o_debts s2.2) (fun x9 => bnd (α := Int32) (f_X12_wealthOf fu o_people o_purse o_debts s2.1) (fun x10 => if x9 ≤ x10 then some (0 : Int32) else some (1 : Int32)))) (fun v6 => if v6 = 0 then some (.inl (s2.1, (s2.2 + 1))) else some (.inl (s2.2, (s2.2 + 1))))
def f_X12_first (fu : Nat) (o_people : Int32) (o_purse : (Nat → Int32)) (o_debts : (Nat → Int32)) (p1 : Int32) : Option (Int32) := bnd (α := Int32) (lp (f_X12_first_L4 fu o_people o_purse o_debts p1) fu ((-1 : Int32), (0 : Int32))) (fun v11 => some v11)
set_option maxHeartbeats 4000000 in
set_option maxRecDepth 100000 in
theorem c_X12_first {l : Launch} {D : va_G} {g : Nat → ClassId} {fu : Nat} {o_q0 o_q1 o_q2 o_q3 o_q4 o_q5 o_q6 o_q7 o_q8 o_q9 o_q10 o_q11 o_q12 o_q13 o_q14 o_q15 o_q16 o_q17 o_q18 o_q19 o_q20 o_q21 o_q22 : Nat} {o_code : Int32} {o_tape : (Nat → Int32)} {o_size : (Nat → Int32)} {o_fault : (Nat → Int32)} {o_faultPlace : (Nat → Int32)} {o_many : (Nat → Int32)} {o_towns : (Nat → Int32)} {o_weeks : (Nat → Int32)} {o_logs : (Nat → Int32)} {o_reached : Int32} {o_length : Int32} {o_begins : Int32} {o_sort : Int32} {o_value : Int32} {o_word : Int64} {o_wrongAt : Int32} {o_laterFault : Int32} {o_laterPlace : Int32} {o_told : (Nat → Int32)} {o_read : (Nat → Int32)} {o_farOne : Int32} {o_good : Int32} {o_town : Int32} {o_people : Int32} {o_when : Int32} {o_sat : Int32} {o_quiet : Int32} {o_vain : Int32} {o_lent : Int32} {o_forgiven : Int32} {o_sundays : Int32} {o_purse : (Nat → Int32)} {o_beside : (Nat → Int32)} {o_debts : (Nat → Int32)} {o_sitting : (Nat → Int32)} {o_visited : (Nat → Int32)} {o_week : Int32} {o_heaps : (Nat → Int32)} {o_taken : (Nat → Int32)} {o_best : (Nat → Int32)} {o_more : (Nat → Int32)} {o_firstOne : Int32} {o_log : Int32} {o_fitting : (Nat → Int32)} {o_found : Int32} {o_seed : Int32} {o_row : (Nat → Int32)} {o_saved : (Nat → Int32)} {p1 : Int32} {r : Int32} (hf : f_X12_first fu o_people o_purse o_debts p1 = some r) : Rd l D (gy g) yX12_first cX12_first 5 (some .int) 4 [.ref o_q0, .int p1] (wMd g o_q0 o_q1 o_q2 o_q3 o_q4 o_q5 o_q6 o_q7 o_q8 o_q9 o_q10 o_q11 o_q12 o_q13 o_q14 o_q15 o_q16 o_q17 o_q18 o_q19 o_q20 o_q21 o_q22 o_code o_tape o_size o_fault o_faultPlace o_many o_towns o_weeks o_logs o_reached o_length o_begins o_sort o_value o_word o_wrongAt o_laterFault o_laterPlace o_told o_read o_farOne o_good o_town o_people o_when o_sat o_quiet o_vain o_lent o_forgiven o_sundays o_purse o_beside o_debts o_sitting o_visited o_week o_heaps o_taken o_best o_more o_firstOne o_log o_fitting o_found o_seed o_row o_saved) (some (.int r)) := by
  refine Rd.ofI (by decide) (Nat.le_of_ble_eq_true rfl) ?_
  intro p e s m args below meth c Q S hK hP hret ls hl
  have hl : lv_has ls 5 [(0, .ref o_q0), (1, .int p1)] := hl
  refine lv_iconst (v := (-1)) S.1 S.2.1 dX12_first_0 ic_m1 ?_
  refine lv_istore_n (lv' := [(2, .int (-1 : Int32)), (0, .ref o_q0), (1, .int p1)]) S.1 S.2.1 dX12_first_1 rfl hl (by decide) rfl (fun ls hl => ?_)
  refine lv_iconst (v := 0) S.1 S.2.1 dX12_first_2 ic_0 ?_
  refine lv_istore_n (lv' := [(3, .int (0 : Int32)), (2, .int (-1 : Int32)), (0, .ref o_q0), (1, .int p1)]) S.1 S.2.1 dX12_first_3 rfl hl (by decide) rfl (fun ls hl => ?_)
  obtain ⟨x3, hf_, hk3⟩ := bnd_e hf
  have hE3 : ∀ (v11 : Int32), v11 = x3 → ∀ (ls : Array Slot), lv_has ls 5 [(2, .int v11)] → W p l e (rmD 4) s m args below meth c s.heap [] 0 0 Q (F0 m 74 ls []) := by
    intro v11 e_ ls hl
    subst e_
    have hf := hk3
    refine lv_iload_n S.1 S.2.1 dX12_first_74 rfl (lv_at hl 0 rfl) ?_
    have e_ := Option.some.inj hf
    subst e_
    exact hret _ _ dX12_first_75
  refine lp_ind (P := fun (s2 : Int32 × Int32) => ∀ (ls : Array Slot), lv_has ls 5 [(0, .ref o_q0), (1, .int p1), (2, .int s2.1), (3, .int s2.2)] → W p l e (rmD 4) s m args below meth c s.heap [] 0 0 Q (F0 m 4 ls [])) ?_ _ _ hf_ _ (lv_sub hl [2, 3, 1, 0] rfl)
  intro s2 x4 hf hI3 hR3 ls hl
  refine lv_iload_n S.1 S.2.1 dX12_first_4 rfl (lv_at hl 3 rfl) ?_
  refine lv_aload_n S.1 S.2.1 dX12_first_5 rfl (lv_at hl 0 rfl) ?_
  refine gfX12_230 S hK hP 0 rfl rfl dX12_first_6 ?_
  refine lv_icmp_ge (tgt := 74) S.1 S.2.1 dX12_first_9 (by decide) (fun c_ => ?_) (fun c_ => ?_)
  · have hf := it_p c_ hf
    have e_ := hR3 _ (Option.some.inj hf).symm
    exact hE3 _ e_ _ (lv_sub hl [2] rfl)
  · have hf := it_n c_ hf
    refine lv_iload_n S.1 S.2.1 dX12_first_12 rfl (lv_at hl 2 rfl) ?_
    refine lv_iconst (v := (-1)) S.1 S.2.1 dX12_first_13 ic_m1 ?_
    obtain ⟨x5, hf_, hk5⟩ := bnd_e hf
    have hJ5 : ∀ (v6 : Int32), v6 = x5 → ∀ (ls : Array Slot), lv_has ls 5 [(0, .ref o_q0), (1, .int p1), (2, .int s2.1), (3, .int s2.2)] → W p l e (rmD 4) s m args below meth c s.heap [] 0 0 Q (F0 m 55 ls [.int v6]) := by
      intro v6 e_ ls hl
      subst e_
      have hf := hk5
      refine lv_istore (lv' := [(4, .int v6), (0, .ref o_q0), (1, .int p1), (2, .int s2.1), (3, .int s2.2)]) S.1 S.2.1 dX12_first_55 hl (by decide) rfl (fun ls hl => ?_)
      refine lv_iload S.1 S.2.1 dX12_first_57 (lv_at hl 0 rfl) ?_
      refine lv_if_eq (tgt := 66) S.1 S.2.1 dX12_first_59 (by decide) (fun c_ => ?_) (fun c_ => ?_)
      · have hf := it_p c_ hf
        refine lv_iload_n S.1 S.2.1 dX12_first_66 rfl (lv_at hl 3 rfl) ?_
        refine lv_istore_n (lv' := [(2, .int s2.1), (4, .int v6), (0, .ref o_q0), (1, .int p1), (3, .int s2.2)]) S.1 S.2.1 dX12_first_67 rfl hl (by decide) rfl (fun ls hl => ?_)
        refine q_iinc (w := 1) (lv' := [(3, .int (s2.2 + 1)), (2, .int s2.1), (4, .int v6), (0, .ref o_q0), (1, .int p1)]) S dX12_first_68 hl (k := 4) rfl ic_1 (by decide) rfl (fun ls hl => ?_)
        refine lv_goto (tgt := 4) S.1 S.2.1 dX12_first_71 (by decide) ?_
        exact hI3 _ (Option.some.inj hf).symm _ (lv_sub hl [3, 4, 1, 0] rfl)
      · have hf := it_n c_ hf
        refine lv_iload_n S.1 S.2.1 dX12_first_62 rfl (lv_at hl 4 rfl) ?_
        refine lv_goto (tgt := 67) S.1 S.2.1 dX12_first_63 (by decide) ?_
        refine lv_istore_n (lv' := [(2, .int s2.2), (4, .int v6), (0, .ref o_q0), (1, .int p1), (3, .int s2.2)]) S.1 S.2.1 dX12_first_67 rfl hl (by decide) rfl (fun ls hl => ?_)
        refine q_iinc (w := 1) (lv' := [(3, .int (s2.2 + 1)), (2, .int s2.2), (4, .int v6), (0, .ref o_q0), (1, .int p1)]) S dX12_first_68 hl (k := 4) rfl ic_1 (by decide) rfl (fun ls hl => ?_)
        refine lv_goto (tgt := 4) S.1 S.2.1 dX12_first_71 (by decide) ?_
        exact hI3 _ (Option.some.inj hf).symm _ (lv_sub hl [3, 4, 1, 0] rfl)
    have hf := hf_
    refine lv_icmp_eq (tgt := 50) S.1 S.2.1 dX12_first_14 (by decide) (fun c_ => ?_) (fun c_ => ?_)
    · have hf := it_p c_ hf
      refine lv_iconst (v := 1) S.1 S.2.1 dX12_first_50 ic_1 ?_
      refine lv_goto (tgt := 55) S.1 S.2.1 dX12_first_51 (by decide) ?_
      exact hJ5 _ (Option.some.inj hf) _ (lv_sub hl [0, 1, 2, 3] rfl)
    · have hf := it_n c_ hf
      refine lv_iload_n S.1 S.2.1 dX12_first_17 rfl (lv_at hl 1 rfl) ?_
      refine lv_if_eq (tgt := 37) S.1 S.2.1 dX12_first_18 (by decide) (fun c_ => ?_) (fun c_ => ?_)
      · have hf := it_p c_ hf
        refine lv_aload_n S.1 S.2.1 dX12_first_37 rfl (lv_at hl 0 rfl) ?_
        refine lv_iload_n S.1 S.2.1 dX12_first_38 rfl (lv_at hl 3 rfl) ?_
        obtain ⟨x7, hx7, hf⟩ := bnd_e hf
        refine Rd.cV (c_X12_debtors hx7) S hK hP 0 10 rfl rfl kVX12_439 rfl hl.1 [] rfl (Nat.le_of_ble_eq_true rfl) ⟨(Nat.le_of_ble_eq_true rfl), (Nat.le_of_ble_eq_true rfl)⟩ ⟨(Nat.zero_le _), (Nat.zero_le _)⟩ dX12_first_39 ?_
        refine lv_aload_n S.1 S.2.1 dX12_first_42 rfl (lv_at hl 0 rfl) ?_
        refine lv_iload_n S.1 S.2.1 dX12_first_43 rfl (lv_at hl 2 rfl) ?_
        obtain ⟨x8, hx8, hf⟩ := bnd_e hf
        refine Rd.cV (c_X12_debtors hx8) S hK hP 0 10 rfl rfl kVX12_439 rfl hl.1 [.int x7] rfl (Nat.le_of_ble_eq_true rfl) ⟨(Nat.le_of_ble_eq_true rfl), (Nat.le_of_ble_eq_true rfl)⟩ ⟨(Nat.zero_le _), (Nat.zero_le _)⟩ dX12_first_44 ?_
        refine lv_icmp_le (tgt := 54) S.1 S.2.1 dX12_first_47 (by decide) (fun c_ => ?_) (fun c_ => ?_)
        · have hf := it_p c_ hf
          refine lv_iconst (v := 0) S.1 S.2.1 dX12_first_54 ic_0 ?_
          exact hJ5 _ (Option.some.inj hf) _ (lv_sub hl [0, 1, 2, 3] rfl)
        · have hf := it_n c_ hf
          refine lv_iconst (v := 1) S.1 S.2.1 dX12_first_50 ic_1 ?_
          refine lv_goto (tgt := 55) S.1 S.2.1 dX12_first_51 (by decide) ?_
          exact hJ5 _ (Option.some.inj hf) _ (lv_sub hl [0, 1, 2, 3] rfl)
      · have hf := it_n c_ hf
        refine lv_aload_n S.1 S.2.1 dX12_first_21 rfl (lv_at hl 0 rfl) ?_
        refine lv_iload_n S.1 S.2.1 dX12_first_22 rfl (lv_at hl 3 rfl) ?_
        obtain ⟨x9, hx9, hf⟩ := bnd_e hf
        refine Rd.cV (c_X12_wealthOf hx9) S hK hP 0 10 rfl rfl kVX12_436 rfl hl.1 [] rfl (Nat.le_of_ble_eq_true rfl) ⟨(Nat.le_of_ble_eq_true rfl), (Nat.le_of_ble_eq_true rfl)⟩ ⟨(Nat.zero_le _), (Nat.zero_le _)⟩ dX12_first_23 ?_
        refine lv_aload_n S.1 S.2.1 dX12_first_26 rfl (lv_at hl 0 rfl) ?_
        refine lv_iload_n S.1 S.2.1 dX12_first_27 rfl (lv_at hl 2 rfl) ?_
        obtain ⟨x10, hx10, hf⟩ := bnd_e hf
        refine Rd.cV (c_X12_wealthOf hx10) S hK hP 0 10 rfl rfl kVX12_436 rfl hl.1 [.int x9] rfl (Nat.le_of_ble_eq_true rfl) ⟨(Nat.le_of_ble_eq_true rfl), (Nat.le_of_ble_eq_true rfl)⟩ ⟨(Nat.zero_le _), (Nat.zero_le _)⟩ dX12_first_28 ?_
        refine lv_icmp_le (tgt := 54) S.1 S.2.1 dX12_first_31 (by decide) (fun c_ => ?_) (fun c_ => ?_)
        · have hf := it_p c_ hf
          refine lv_iconst (v := 0) S.1 S.2.1 dX12_first_54 ic_0 ?_
          exact hJ5 _ (Option.some.inj hf) _ (lv_sub hl [0, 1, 2, 3] rfl)
        · have hf := it_n c_ hf
          refine lv_goto (tgt := 50) S.1 S.2.1 dX12_first_34 (by decide) ?_
          refine lv_iconst (v := 1) S.1 S.2.1 dX12_first_50 ic_1 ?_
          refine lv_goto (tgt := 55) S.1 S.2.1 dX12_first_51 (by decide) ?_
          exact hJ5 _ (Option.some.inj hf) _ (lv_sub hl [0, 1, 2, 3] rfl)
