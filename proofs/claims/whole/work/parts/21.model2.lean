def f_X12_hates (fu : Nat) (o_towns : (Nat → Int32)) (o_town : Int32) (p1 : Int32) (p2 : Int32) : Option (Int32) := bnd (α := Int32) (f_X12_of fu o_towns o_town ((13 : Int32) + p1)) (fun x1 => bnd (α := Int32) (f_X12_has fu x1 p2) (fun x2 => bnd (α := Int32) (bz x2) (fun z3 => some z3)))
set_option maxHeartbeats 4000000 in
set_option maxRecDepth 100000 in
theorem c_X12_hates {l : Launch} {D : va_G} {g : Nat → ClassId} {fu : Nat} {o_q0 o_q1 o_q2 o_q3 o_q4 o_q5 o_q6 o_q7 o_q8 o_q9 o_q10 o_q11 o_q12 o_q13 o_q14 o_q15 o_q16 o_q17 o_q18 o_q19 o_q20 o_q21 o_q22 : Nat} {o_code : Int32} {o_tape : (Nat → Int32)} {o_size : (Nat → Int32)} {o_fault : (Nat → Int32)} {o_faultPlace : (Nat → Int32)} {o_many : (Nat → Int32)} {o_towns : (Nat → Int32)} {o_weeks : (Nat → Int32)} {o_logs : (Nat → Int32)} {o_reached : Int32} {o_length : Int32} {o_begins : Int32} {o_sort : Int32} {o_value : Int32} {o_word : Int64} {o_wrongAt : Int32} {o_laterFault : Int32} {o_laterPlace : Int32} {o_told : (Nat → Int32)} {o_read : (Nat → Int32)} {o_farOne : Int32} {o_good : Int32} {o_town : Int32} {o_people : Int32} {o_when : Int32} {o_sat : Int32} {o_quiet : Int32} {o_vain : Int32} {o_lent : Int32} {o_forgiven : Int32} {o_sundays : Int32} {o_purse : (Nat → Int32)} {o_beside : (Nat → Int32)} {o_debts : (Nat → Int32)} {o_sitting : (Nat → Int32)} {o_visited : (Nat → Int32)} {o_week : Int32} {o_heaps : (Nat → Int32)} {o_taken : (Nat → Int32)} {o_best : (Nat → Int32)} {o_more : (Nat → Int32)} {o_firstOne : Int32} {o_log : Int32} {o_fitting : (Nat → Int32)} {o_found : Int32} {o_seed : Int32} {o_row : (Nat → Int32)} {o_saved : (Nat → Int32)} {p1 : Int32} {p2 : Int32} {r : Int32} (hf : f_X12_hates fu o_towns o_town p1 p2 = some r) : Rd l D (gy g) yX12_hates cX12_hates 3 (some .boolean) 1 [.ref o_q0, .int p1, .int p2] (wMd g o_q0 o_q1 o_q2 o_q3 o_q4 o_q5 o_q6 o_q7 o_q8 o_q9 o_q10 o_q11 o_q12 o_q13 o_q14 o_q15 o_q16 o_q17 o_q18 o_q19 o_q20 o_q21 o_q22 o_code o_tape o_size o_fault o_faultPlace o_many o_towns o_weeks o_logs o_reached o_length o_begins o_sort o_value o_word o_wrongAt o_laterFault o_laterPlace o_told o_read o_farOne o_good o_town o_people o_when o_sat o_quiet o_vain o_lent o_forgiven o_sundays o_purse o_beside o_debts o_sitting o_visited o_week o_heaps o_taken o_best o_more o_firstOne o_log o_fitting o_found o_seed o_row o_saved) (some (.int r)) := by
  refine Rd.ofZ (by decide) (Nat.le_of_ble_eq_true rfl) ?_
  intro p e s m args below meth c Q S hK hP hret ls hl
  have hl : lv_has ls 3 [(0, .ref o_q0), (1, .int p1), (2, .int p2)] := hl
  refine lv_aload_n S.1 S.2.1 dX12_hates_0 rfl (lv_at hl 0 rfl) ?_
  refine lv_bipush (v := 13) S.1 S.2.1 dX12_hates_1 bp_13 ?_
  refine lv_iload_n S.1 S.2.1 dX12_hates_3 rfl (lv_at hl 1 rfl) ?_
  refine lv_iadd S.1 S.2.1 dX12_hates_4 ?_
  obtain ⟨x1, hx1, hf⟩ := bnd_e hf
  refine Rd.cV (c_X12_of hx1) S hK hP 0 10 rfl rfl kVX12_226 rfl hl.1 [] rfl (Nat.le_of_ble_eq_true rfl) ⟨(Nat.le_of_ble_eq_true rfl), (Nat.le_of_ble_eq_true rfl)⟩ ⟨(Nat.zero_le _), (Nat.zero_le _)⟩ dX12_hates_5 ?_
  refine lv_iload_n S.1 S.2.1 dX12_hates_8 rfl (lv_at hl 2 rfl) ?_
  obtain ⟨x2, hx2, hf⟩ := bnd_e hf
  refine Rd.cS (c_X12_has hx2) S hK va_P.nil kSX12_82 rfl hl.1 [] rfl (Nat.le_of_ble_eq_true rfl) ⟨(Nat.le_of_ble_eq_true rfl), (Nat.le_of_ble_eq_true rfl)⟩ ⟨(Nat.zero_le _), (Nat.zero_le _)⟩ dX12_hates_9 ?_
  obtain ⟨z3, hz3, hf⟩ := bnd_e hf
  obtain ⟨hzz3, ezz3⟩ := bz_e hz3
  rw [ezz3]
  have e_ := Option.some.inj hf
  subst e_
  exact hret _ _ hzz3 dX12_hates_12
def f_X12_owesAll_L4 (fu : Nat) (o_people : Int32) (o_debts : (Nat → Int32)) (p1 : Int32) (s2 : Int32 × Int32) : Option ((Int32 × Int32) ⊕ (Int32)) := if o_people ≤ s2.2 then some (.inr s2.1) else bnd (α := Int32) (f_X12_owed fu o_debts p1 s2.2) (fun x5 => ltn (s2.1 + x5) (fun x6 => some (.inl (x6, (s2.2 + 1)))))
def f_X12_owesAll (fu : Nat) (o_people : Int32) (o_debts : (Nat → Int32)) (p1 : Int32) : Option (Int32) := bnd (α := Int32) (lp (f_X12_owesAll_L4 fu o_people o_debts p1) fu ((0 : Int32), (0 : Int32))) (fun v7 => some v7)
set_option maxHeartbeats 4000000 in
set_option maxRecDepth 100000 in
theorem c_X12_owesAll {l : Launch} {D : va_G} {g : Nat → ClassId} {fu : Nat} {o_q0 o_q1 o_q2 o_q3 o_q4 o_q5 o_q6 o_q7 o_q8 o_q9 o_q10 o_q11 o_q12 o_q13 o_q14 o_q15 o_q16 o_q17 o_q18 o_q19 o_q20 o_q21 o_q22 : Nat} {o_code : Int32} {o_tape : (Nat → Int32)} {o_size : (Nat → Int32)} {o_fault : (Nat → Int32)} {o_faultPlace : (Nat → Int32)} {o_many : (Nat → Int32)} {o_towns : (Nat → Int32)} {o_weeks : (Nat → Int32)} {o_logs : (Nat → Int32)} {o_reached : Int32} {o_length : Int32} {o_begins : Int32} {o_sort : Int32} {o_value : Int32} {o_word : Int64} {o_wrongAt : Int32} {o_laterFault : Int32} {o_laterPlace : Int32} {o_told : (Nat → Int32)} {o_read : (Nat → Int32)} {o_farOne : Int32} {o_good : Int32} {o_town : Int32} {o_people : Int32} {o_when : Int32} {o_sat : Int32} {o_quiet : Int32} {o_vain : Int32} {o_lent : Int32} {o_forgiven : Int32} {o_sundays : Int32} {o_purse : (Nat → Int32)} {o_beside : (Nat → Int32)} {o_debts : (Nat → Int32)} {o_sitting : (Nat → Int32)} {o_visited : (Nat → Int32)} {o_week : Int32} {o_heaps : (Nat → Int32)} {o_taken : (Nat → Int32)} {o_best : (Nat → Int32)} {o_more : (Nat → Int32)} {o_firstOne : Int32} {o_log : Int32} {o_fitting : (Nat → Int32)} {o_found : Int32} {o_seed : Int32} {o_row : (Nat → Int32)} {o_saved : (Nat → Int32)} {p1 : Int32} {r : Int32} (hf : f_X12_owesAll fu o_people o_debts p1 = some r) : Rd l D (gy g) yX12_owesAll cX12_owesAll 4 (some .int) 1 [.ref o_q0, .int p1] (wMd g o_q0 o_q1 o_q2 o_q3 o_q4 o_q5 o_q6 o_q7 o_q8 o_q9 o_q10 o_q11 o_q12 o_q13 o_q14 o_q15 o_q16 o_q17 o_q18 o_q19 o_q20 o_q21 o_q22 o_code o_tape o_size o_fault o_faultPlace o_many o_towns o_weeks o_logs o_reached o_length o_begins o_sort o_value o_word o_wrongAt o_laterFault o_laterPlace o_told o_read o_farOne o_good o_town o_people o_when o_sat o_quiet o_vain o_lent o_forgiven o_sundays o_purse o_beside o_debts o_sitting o_visited o_week o_heaps o_taken o_best o_more o_firstOne o_log o_fitting o_found o_seed o_row o_saved) (some (.int r)) := by
  refine Rd.ofI (by decide) (Nat.le_of_ble_eq_true rfl) ?_
  intro p e s m args below meth c Q S hK hP hret ls hl
  have hl : lv_has ls 4 [(0, .ref o_q0), (1, .int p1)] := hl
  refine lv_iconst (v := 0) S.1 S.2.1 dX12_owesAll_0 ic_0 ?_
  refine lv_istore_n (lv' := [(2, .int (0 : Int32)), (0, .ref o_q0), (1, .int p1)]) S.1 S.2.1 dX12_owesAll_1 rfl hl (by decide) rfl (fun ls hl => ?_)
  refine lv_iconst (v := 0) S.1 S.2.1 dX12_owesAll_2 ic_0 ?_
  refine lv_istore_n (lv' := [(3, .int (0 : Int32)), (2, .int (0 : Int32)), (0, .ref o_q0), (1, .int p1)]) S.1 S.2.1 dX12_owesAll_3 rfl hl (by decide) rfl (fun ls hl => ?_)
  obtain ⟨x3, hf_, hk3⟩ := bnd_e hf
  have hE3 : ∀ (v7 : Int32), v7 = x3 → ∀ (ls : Array Slot), lv_has ls 4 [(2, .int v7)] → W p l e (rmD 1) s m args below meth c s.heap [] 0 0 Q (F0 m 27 ls []) := by
    intro v7 e_ ls hl
    subst e_
    have hf := hk3
    refine lv_iload_n S.1 S.2.1 dX12_owesAll_27 rfl (lv_at hl 0 rfl) ?_
    have e_ := Option.some.inj hf
    subst e_
    exact hret _ _ dX12_owesAll_28
  refine lp_ind (P := fun (s2 : Int32 × Int32) => ∀ (ls : Array Slot), lv_has ls 4 [(0, .ref o_q0), (1, .int p1), (2, .int s2.1), (3, .int s2.2)] → W p l e (rmD 1) s m args below meth c s.heap [] 0 0 Q (F0 m 4 ls [])) ?_ _ _ hf_ _ (lv_sub hl [2, 3, 1, 0] rfl)
  intro s2 x4 hf hI3 hR3 ls hl
  refine lv_iload_n S.1 S.2.1 dX12_owesAll_4 rfl (lv_at hl 3 rfl) ?_
  refine lv_aload_n S.1 S.2.1 dX12_owesAll_5 rfl (lv_at hl 0 rfl) ?_
  refine gfX12_230 S hK hP 0 rfl rfl dX12_owesAll_6 ?_
  refine lv_icmp_ge (tgt := 27) S.1 S.2.1 dX12_owesAll_9 (by decide) (fun c_ => ?_) (fun c_ => ?_)
  · have hf := it_p c_ hf
    have e_ := hR3 _ (Option.some.inj hf).symm
    exact hE3 _ e_ _ (lv_sub hl [2] rfl)
  · have hf := it_n c_ hf
    refine lv_iload_n S.1 S.2.1 dX12_owesAll_12 rfl (lv_at hl 2 rfl) ?_
    refine lv_aload_n S.1 S.2.1 dX12_owesAll_13 rfl (lv_at hl 0 rfl) ?_
    refine lv_iload_n S.1 S.2.1 dX12_owesAll_14 rfl (lv_at hl 1 rfl) ?_
    refine lv_iload_n S.1 S.2.1 dX12_owesAll_15 rfl (lv_at hl 3 rfl) ?_
    obtain ⟨x5, hx5, hf⟩ := bnd_e hf
    refine Rd.cV (c_X12_owed hx5) S hK hP 0 10 rfl rfl kVX12_254 rfl hl.1 [.int s2.1] rfl (Nat.le_of_ble_eq_true rfl) ⟨(Nat.le_of_ble_eq_true rfl), (Nat.le_of_ble_eq_true rfl)⟩ ⟨(Nat.zero_le _), (Nat.zero_le _)⟩ dX12_owesAll_16 ?_
    refine lv_iadd S.1 S.2.1 dX12_owesAll_19 ?_
    refine lv_topi (fun x6 ex6 => ?_)
    have hf := ltn_e hf ex6
    refine lv_istore_n (lv' := [(2, .int x6), (0, .ref o_q0), (1, .int p1), (3, .int s2.2)]) S.1 S.2.1 dX12_owesAll_20 rfl hl (by decide) rfl (fun ls hl => ?_)
    refine q_iinc (w := 1) (lv' := [(3, .int (s2.2 + 1)), (2, .int x6), (0, .ref o_q0), (1, .int p1)]) S dX12_owesAll_21 hl (k := 3) rfl ic_1 (by decide) rfl (fun ls hl => ?_)
    refine lv_goto (tgt := 4) S.1 S.2.1 dX12_owesAll_24 (by decide) ?_
    exact hI3 _ (Option.some.inj hf).symm _ (lv_sub hl [2, 3, 1, 0] rfl)
def f_X12_owedAll_L4 (fu : Nat) (o_people : Int32) (o_debts : (Nat → Int32)) (p1 : Int32) (s2 : Int32 × Int32) : Option ((Int32 × Int32) ⊕ (Int32)) := if o_people ≤ s2.2 then some (.inr s2.1) else bnd (α := Int32) (f_X12_owed fu o_debts s2.2 p1) (fun x5 => ltn (s2.1 + x5) (fun x6 => some (.inl (x6, (s2.2 + 1)))))
def f_X12_owedAll (fu : Nat) (o_people : Int32) (o_debts : (Nat → Int32)) (p1 : Int32) : Option (Int32) := bnd (α := Int32) (lp (f_X12_owedAll_L4 fu o_people o_debts p1) fu ((0 : Int32), (0 : Int32))) (fun v7 => some v7)
set_option maxHeartbeats 4000000 in
set_option maxRecDepth 100000 in
theorem c_X12_owedAll {l : Launch} {D : va_G} {g : Nat → ClassId} {fu : Nat} {o_q0 o_q1 o_q2 o_q3 o_q4 o_q5 o_q6 o_q7 o_q8 o_q9 o_q10 o_q11 o_q12 o_q13 o_q14 o_q15 o_q16 o_q17 o_q18 o_q19 o_q20 o_q21 o_q22 : Nat} {o_code : Int32} {o_tape : (Nat → Int32)} {o_size : (Nat → Int32)} {o_fault : (Nat → Int32)} {o_faultPlace : (Nat → Int32)} {o_many : (Nat → Int32)} {o_towns : (Nat → Int32)} {o_weeks : (Nat → Int32)} {o_logs : (Nat → Int32)} {o_reached : Int32} {o_length : Int32} {o_begins : Int32} {o_sort : Int32} {o_value : Int32} {o_word : Int64} {o_wrongAt : Int32} {o_laterFault : Int32} {o_laterPlace : Int32} {o_told : (Nat → Int32)} {o_read : (Nat → Int32)} {o_farOne : Int32} {o_good : Int32} {o_town : Int32} {o_people : Int32} {o_when : Int32} {o_sat : Int32} {o_quiet : Int32} {o_vain : Int32} {o_lent : Int32} {o_forgiven : Int32} {o_sundays : Int32} {o_purse : (Nat → Int32)} {o_beside : (Nat → Int32)} {o_debts : (Nat → Int32)} {o_sitting : (Nat → Int32)} {o_visited : (Nat → Int32)} {o_week : Int32} {o_heaps : (Nat → Int32)} {o_taken : (Nat → Int32)} {o_best : (Nat → Int32)} {o_more : (Nat → Int32)} {o_firstOne : Int32} {o_log : Int32} {o_fitting : (Nat → Int32)} {o_found : Int32} {o_seed : Int32} {o_row : (Nat → Int32)} {o_saved : (Nat → Int32)} {p1 : Int32} {r : Int32} (hf : f_X12_owedAll fu o_people o_debts p1 = some r) : Rd l D (gy g) yX12_owedAll cX12_owedAll 4 (some .int) 1 [.ref o_q0, .int p1] (wMd g o_q0 o_q1 o_q2 o_q3 o_q4 o_q5 o_q6 o_q7 o_q8 o_q9 o_q10 o_q11 o_q12 o_q13 o_q14 o_q15 o_q16 o_q17 o_q18 o_q19 o_q20 o_q21 o_q22 o_code o_tape o_size o_fault o_faultPlace o_many o_towns o_weeks o_logs o_reached o_length o_begins o_sort o_value o_word o_wrongAt o_laterFault o_laterPlace o_told o_read o_farOne o_good o_town o_people o_when o_sat o_quiet o_vain o_lent o_forgiven o_sundays o_purse o_beside o_debts o_sitting o_visited o_week o_heaps o_taken o_best o_more o_firstOne o_log o_fitting o_found o_seed o_row o_saved) (some (.int r)) := by
  refine Rd.ofI (by decide) (Nat.le_of_ble_eq_true rfl) ?_
  intro p e s m args below meth c Q S hK hP hret ls hl
  have hl : lv_has ls 4 [(0, .ref o_q0), (1, .int p1)] := hl
  refine lv_iconst (v := 0) S.1 S.2.1 dX12_owedAll_0 ic_0 ?_
  refine lv_istore_n (lv' := [(2, .int (0 : Int32)), (0, .ref o_q0), (1, .int p1)]) S.1 S.2.1 dX12_owedAll_1 rfl hl (by decide) rfl (fun ls hl => ?_)
  refine lv_iconst (v := 0) S.1 S.2.1 dX12_owedAll_2 ic_0 ?_
  refine lv_istore_n (lv' := [(3, .int (0 : Int32)), (2, .int (0 : Int32)), (0, .ref o_q0), (1, .int p1)]) S.1 S.2.1 dX12_owedAll_3 rfl hl (by decide) rfl (fun ls hl => ?_)
  obtain ⟨x3, hf_, hk3⟩ := bnd_e hf
  have hE3 : ∀ (v7 : Int32), v7 = x3 → ∀ (ls : Array Slot), lv_has ls 4 [(2, .int v7)] → W p l e (rmD 1) s m args below meth c s.heap [] 0 0 Q (F0 m 27 ls []) := by
    intro v7 e_ ls hl
    subst e_
    have hf := hk3
    refine lv_iload_n S.1 S.2.1 dX12_owedAll_27 rfl (lv_at hl 0 rfl) ?_
    have e_ := Option.some.inj hf
    subst e_
    exact hret _ _ dX12_owedAll_28
  refine lp_ind (P := fun (s2 : Int32 × Int32) => ∀ (ls : Array Slot), lv_has ls 4 [(0, .ref o_q0), (1, .int p1), (2, .int s2.1), (3, .int s2.2)] → W p l e (rmD 1) s m args below meth c s.heap [] 0 0 Q (F0 m 4 ls [])) ?_ _ _ hf_ _ (lv_sub hl [2, 3, 1, 0] rfl)
  intro s2 x4 hf hI3 hR3 ls hl
  refine lv_iload_n S.1 S.2.1 dX12_owedAll_4 rfl (lv_at hl 3 rfl) ?_
  refine lv_aload_n S.1 S.2.1 dX12_owedAll_5 rfl (lv_at hl 0 rfl) ?_
  refine gfX12_230 S hK hP 0 rfl rfl dX12_owedAll_6 ?_
  refine lv_icmp_ge (tgt := 27) S.1 S.2.1 dX12_owedAll_9 (by decide) (fun c_ => ?_) (fun c_ => ?_)
  · have hf := it_p c_ hf
    have e_ := hR3 _ (Option.some.inj hf).symm
    exact hE3 _ e_ _ (lv_sub hl [2] rfl)
  · have hf := it_n c_ hf
    refine lv_iload_n S.1 S.2.1 dX12_owedAll_12 rfl (lv_at hl 2 rfl) ?_
    refine lv_aload_n S.1 S.2.1 dX12_owedAll_13 rfl (lv_at hl 0 rfl) ?_
    refine lv_iload_n S.1 S.2.1 dX12_owedAll_14 rfl (lv_at hl 3 rfl) ?_
    refine lv_iload_n S.1 S.2.1 dX12_owedAll_15 rfl (lv_at hl 1 rfl) ?_
    obtain ⟨x5, hx5, hf⟩ := bnd_e hf
    refine Rd.cV (c_X12_owed hx5) S hK hP 0 10 rfl rfl kVX12_254 rfl hl.1 [.int s2.1] rfl (Nat.le_of_ble_eq_true rfl) ⟨(Nat.le_of_ble_eq_true rfl), (Nat.le_of_ble_eq_true rfl)⟩ ⟨(Nat.zero_le _), (Nat.zero_le _)⟩ dX12_owedAll_16 ?_
    refine lv_iadd S.1 S.2.1 dX12_owedAll_19 ?_
    refine lv_topi (fun x6 ex6 => ?_)
    have hf := ltn_e hf ex6
    refine lv_istore_n (lv' := [(2, .int x6), (0, .ref o_q0), (1, .int p1), (3, .int s2.2)]) S.1 S.2.1 dX12_owedAll_20 rfl hl (by decide) rfl (fun ls hl => ?_)
    refine q_iinc (w := 1) (lv' := [(3, .int (s2.2 + 1)), (2, .int x6), (0, .ref o_q0), (1, .int p1)]) S dX12_owedAll_21 hl (k := 3) rfl ic_1 (by decide) rfl (fun ls hl => ?_)
    refine lv_goto (tgt := 4) S.1 S.2.1 dX12_owedAll_24 (by decide) ?_
    exact hI3 _ (Option.some.inj hf).symm _ (lv_sub hl [2, 3, 1, 0] rfl)
def f_X12_town (fu : Nat) (o_code : Int32) (o_many : (Nat → Int32)) (o_towns : (Nat → Int32)) (o_town : Int32) (o_people : Int32) (o_when : Int32) (o_sat : Int32) (o_quiet : Int32) (o_vain : Int32) (o_lent : Int32) (o_forgiven : Int32) (o_sundays : Int32) (o_purse : (Nat → Int32)) (o_beside : (Nat → Int32)) (o_debts : (Nat → Int32)) (o_sitting : (Nat → Int32)) (o_visited : (Nat → Int32)) (p1 : Int32) (p2 : Int32) : Option (Int32 × Int32 × Int32 × Int32 × Int32 × Int32 × Int32 × Int32 × Int32 × Int32 × Int32 × (Nat → Int32) × (Nat → Int32) × (Nat → Int32) × (Nat → Int32) × (Nat → Int32)) := bnd (α := Int32 × Int32 × Int32 × Int32 × Int32 × Int32 × Int32 × Int32 × Int32 × Int32 × (Nat → Int32) × (Nat → Int32) × (Nat → Int32) × (Nat → Int32) × (Nat → Int32)) (f_X12_hand fu o_many o_towns o_town o_people o_when o_sat o_quiet o_vain o_lent o_forgiven o_sundays o_purse o_beside o_debts o_sitting o_visited p1) (fun x1 => if x1.1 = 0 then some ((-1 : Int32), (0 : Int32), x1.2.1, x1.2.2.1, x1.2.2.2.1, x1.2.2.2.2.1, x1.2.2.2.2.2.1, x1.2.2.2.2.2.2.1, x1.2.2.2.2.2.2.2.1, x1.2.2.2.2.2.2.2.2.1, x1.2.2.2.2.2.2.2.2.2.1, x1.2.2.2.2.2.2.2.2.2.2.1, x1.2.2.2.2.2.2.2.2.2.2.2.1, x1.2.2.2.2.2.2.2.2.2.2.2.2.1, x1.2.2.2.2.2.2.2.2.2.2.2.2.2.1, x1.2.2.2.2.2.2.2.2.2.2.2.2.2.2) else ltn (jrm p2 (10 : Int32)) (fun x2 => if p2 < (100 : Int32) then if (p2 / (10 : Int32)) = 0 then if p2 = 0 then some (x1.2.2.1, (0 : Int32), x1.2.1, x1.2.2.1, x1.2.2.2.1, x1.2.2.2.2.1, x1.2.2.2.2.2.1, x1.2.2.2.2.2.2.1, x1.2.2.2.2.2.2.2.1, x1.2.2.2.2.2.2.2.2.1, x1.2.2.2.2.2.2.2.2.2.1, x1.2.2.2.2.2.2.2.2.2.2.1, x1.2.2.2.2.2.2.2.2.2.2.2.1, x1.2.2.2.2.2.2.2.2.2.2.2.2.1, x1.2.2.2.2.2.2.2.2.2.2.2.2.2.1, x1.2.2.2.2.2.2.2.2.2.2.2.2.2.2) else some ((-1 : Int32), (0 : Int32), x1.2.1, x1.2.2.1, x1.2.2.2.1, x1.2.2.2.2.1, x1.2.2.2.2.2.1, x1.2.2.2.2.2.2.1, x1.2.2.2.2.2.2.2.1, x1.2.2.2.2.2.2.2.2.1, x1.2.2.2.2.2.2.2.2.2.1, x1.2.2.2.2.2.2.2.2.2.2.1, x1.2.2.2.2.2.2.2.2.2.2.2.1, x1.2.2.2.2.2.2.2.2.2.2.2.2.1, x1.2.2.2.2.2.2.2.2.2.2.2.2.2.1, x1.2.2.2.2.2.2.2.2.2.2.2.2.2.2) else if (p2 / (10 : Int32)) = 1 then if x1.2.2.1 ≤ x2 then some ((-1 : Int32), (0 : Int32), x1.2.1, x1.2.2.1, x1.2.2.2.1, x1.2.2.2.2.1, x1.2.2.2.2.2.1, x1.2.2.2.2.2.2.1, x1.2.2.2.2.2.2.2.1, x1.2.2.2.2.2.2.2.2.1, x1.2.2.2.2.2.2.2.2.2.1, x1.2.2.2.2.2.2.2.2.2.2.1, x1.2.2.2.2.2.2.2.2.2.2.2.1, x1.2.2.2.2.2.2.2.2.2.2.2.2.1, x1.2.2.2.2.2.2.2.2.2.2.2.2.2.1, x1.2.2.2.2.2.2.2.2.2.2.2.2.2.2) else bnd (α := Int32) (f_X12_of fu o_towns x1.2.1 (((1 : Int32) + ((6 : Int32) * ((p2 / (10 : Int32)) - (1 : Int32)))) + x2)) (fun x3 => some (x3, (0 : Int32), x1.2.1, x1.2.2.1, x1.2.2.2.1, x1.2.2.2.2.1, x1.2.2.2.2.2.1, x1.2.2.2.2.2.2.1, x1.2.2.2.2.2.2.2.1, x1.2.2.2.2.2.2.2.2.1, x1.2.2.2.2.2.2.2.2.2.1, x1.2.2.2.2.2.2.2.2.2.2.1, x1.2.2.2.2.2.2.2.2.2.2.2.1, x1.2.2.2.2.2.2.2.2.2.2.2.2.1, x1.2.2.2.2.2.2.2.2.2.2.2.2.2.1, x1.2.2.2.2.2.2.2.2.2.2.2.2.2.2)) else if (p2 / (10 : Int32)) = 2 then if x1.2.2.1 ≤ x2 then some ((-1 : Int32), (0 : Int32), x1.2.1, x1.2.2.1, x1.2.2.2.1, x1.2.2.2.2.1, x1.2.2.2.2.2.1, x1.2.2.2.2.2.2.1, x1.2.2.2.2.2.2.2.1, x1.2.2.2.2.2.2.2.2.1, x1.2.2.2.2.2.2.2.2.2.1, x1.2.2.2.2.2.2.2.2.2.2.1, x1.2.2.2.2.2.2.2.2.2.2.2.1, x1.2.2.2.2.2.2.2.2.2.2.2.2.1, x1.2.2.2.2.2.2.2.2.2.2.2.2.2.1, x1.2.2.2.2.2.2.2.2.2.2.2.2.2.2) else bnd (α := Int32) (f_X12_of fu o_towns x1.2.1 (((1 : Int32) + ((6 : Int32) * ((p2 / (10 : Int32)) - (1 : Int32)))) + x2)) (fun x4 => some (x4, (0 : Int32), x1.2.1, x1.2.2.1, x1.2.2.2.1, x1.2.2.2.2.1, x1.2.2.2.2.2.1, x1.2.2.2.2.2.2.1, x1.2.2.2.2.2.2.2.1, x1.2.2.2.2.2.2.2.2.1, x1.2.2.2.2.2.2.2.2.2.1, x1.2.2.2.2.2.2.2.2.2.2.1, x1.2.2.2.2.2.2.2.2.2.2.2.1, x1.2.2.2.2.2.2.2.2.2.2.2.2.1, x1.2.2.2.2.2.2.2.2.2.2.2.2.2.1, x1.2.2.2.2.2.2.2.2.2.2.2.2.2.2)) else if (p2 / (10 : Int32)) = 3 then if x1.2.2.1 ≤ x2 then some ((-1 : Int32), (0 : Int32), x1.2.1, x1.2.2.1, x1.2.2.2.1, x1.2.2.2.2.1, x1.2.2.2.2.2.1, x1.2.2.2.2.2.2.1, x1.2.2.2.2.2.2.2.1, x1.2.2.2.2.2.2.2.2.1, x1.2.2.2.2.2.2.2.2.2.1, x1.2.2.2.2.2.2.2.2.2.2.1, x1.2.2.2.2.2.2.2.2.2.2.2.1, x1.2.2.2.2.2.2.2.2.2.2.2.2.1, x1.2.2.2.2.2.2.2.2.2.2.2.2.2.1, x1.2.2.2.2.2.2.2.2.2.2.2.2.2.2) else bnd (α := Int32) (f_X12_of fu o_towns x1.2.1 (((1 : Int32) + ((6 : Int32) * ((p2 / (10 : Int32)) - (1 : Int32)))) + x2)) (fun x5 => some (x5, (0 : Int32), x1.2.1, x1.2.2.1, x1.2.2.2.1, x1.2.2.2.2.1, x1.2.2.2.2.2.1, x1.2.2.2.2.2.2.1, x1.2.2.2.2.2.2.2.1, x1.2.2.2.2.2.2.2.2.1, x1.2.2.2.2.2.2.2.2.2.1, x1.2.2.2.2.2.2.2.2.2.2.1, x1.2.2.2.2.2.2.2.2.2.2.2.1, x1.2.2.2.2.2.2.2.2.2.2.2.2.1, x1.2.2.2.2.2.2.2.2.2.2.2.2.2.1, x1.2.2.2.2.2.2.2.2.2.2.2.2.2.2)) else some ((-1 : Int32), (0 : Int32), x1.2.1, x1.2.2.1, x1.2.2.2.1, x1.2.2.2.2.1, x1.2.2.2.2.2.1, x1.2.2.2.2.2.2.1, x1.2.2.2.2.2.2.2.1, x1.2.2.2.2.2.2.2.2.1, x1.2.2.2.2.2.2.2.2.2.1, x1.2.2.2.2.2.2.2.2.2.2.1, x1.2.2.2.2.2.2.2.2.2.2.2.1, x1.2.2.2.2.2.2.2.2.2.2.2.2.1, x1.2.2.2.2.2.2.2.2.2.2.2.2.2.1, x1.2.2.2.2.2.2.2.2.2.2.2.2.2.2) else if (160 : Int32) ≤ p2 then some ((-1 : Int32), (0 : Int32), x1.2.1, x1.2.2.1, x1.2.2.2.1, x1.2.2.2.2.1, x1.2.2.2.2.2.1, x1.2.2.2.2.2.2.1, x1.2.2.2.2.2.2.2.1, x1.2.2.2.2.2.2.2.2.1, x1.2.2.2.2.2.2.2.2.2.1, x1.2.2.2.2.2.2.2.2.2.2.1, x1.2.2.2.2.2.2.2.2.2.2.2.1, x1.2.2.2.2.2.2.2.2.2.2.2.2.1, x1.2.2.2.2.2.2.2.2.2.2.2.2.2.1, x1.2.2.2.2.2.2.2.2.2.2.2.2.2.2) else bnd (α := Int32) (f_X12_isPerson fu x1.2.2.1 ((p2 - (100 : Int32)) / (10 : Int32))) (fun x6 => if x6 = 0 then some ((-1 : Int32), (0 : Int32), x1.2.1, x1.2.2.1, x1.2.2.2.1, x1.2.2.2.2.1, x1.2.2.2.2.2.1, x1.2.2.2.2.2.2.1, x1.2.2.2.2.2.2.2.1, x1.2.2.2.2.2.2.2.2.1, x1.2.2.2.2.2.2.2.2.2.1, x1.2.2.2.2.2.2.2.2.2.2.1, x1.2.2.2.2.2.2.2.2.2.2.2.1, x1.2.2.2.2.2.2.2.2.2.2.2.2.1, x1.2.2.2.2.2.2.2.2.2.2.2.2.2.1, x1.2.2.2.2.2.2.2.2.2.2.2.2.2.2) else bnd (α := Int32) (f_X12_isPerson fu x1.2.2.1 x2) (fun x7 => if x7 = 0 then some ((-1 : Int32), (0 : Int32), x1.2.1, x1.2.2.1, x1.2.2.2.1, x1.2.2.2.2.1, x1.2.2.2.2.2.1, x1.2.2.2.2.2.2.1, x1.2.2.2.2.2.2.2.1, x1.2.2.2.2.2.2.2.2.1, x1.2.2.2.2.2.2.2.2.2.1, x1.2.2.2.2.2.2.2.2.2.2.1, x1.2.2.2.2.2.2.2.2.2.2.2.1, x1.2.2.2.2.2.2.2.2.2.2.2.2.1, x1.2.2.2.2.2.2.2.2.2.2.2.2.2.1, x1.2.2.2.2.2.2.2.2.2.2.2.2.2.2) else bnd (α := Int32) (f_X12_owed fu x1.2.2.2.2.2.2.2.2.2.2.2.2.1 ((p2 - (100 : Int32)) / (10 : Int32)) x2) (fun x8 => some (x8, (0 : Int32), x1.2.1, x1.2.2.1, x1.2.2.2.1, x1.2.2.2.2.1, x1.2.2.2.2.2.1, x1.2.2.2.2.2.2.1, x1.2.2.2.2.2.2.2.1, x1.2.2.2.2.2.2.2.2.1, x1.2.2.2.2.2.2.2.2.2.1, x1.2.2.2.2.2.2.2.2.2.2.1, x1.2.2.2.2.2.2.2.2.2.2.2.1, x1.2.2.2.2.2.2.2.2.2.2.2.2.1, x1.2.2.2.2.2.2.2.2.2.2.2.2.2.1, x1.2.2.2.2.2.2.2.2.2.2.2.2.2.2))))))
set_option maxHeartbeats 4000000 in
set_option maxRecDepth 100000 in
theorem c_X12_town {l : Launch} {D : va_G} {g : Nat → ClassId} {fu : Nat} {o_q0 o_q1 o_q2 o_q3 o_q4 o_q5 o_q6 o_q7 o_q8 o_q9 o_q10 o_q11 o_q12 o_q13 o_q14 o_q15 o_q16 o_q17 o_q18 o_q19 o_q20 o_q21 o_q22 : Nat} {o_code : Int32} {o_tape : (Nat → Int32)} {o_size : (Nat → Int32)} {o_fault : (Nat → Int32)} {o_faultPlace : (Nat → Int32)} {o_many : (Nat → Int32)} {o_towns : (Nat → Int32)} {o_weeks : (Nat → Int32)} {o_logs : (Nat → Int32)} {o_reached : Int32} {o_length : Int32} {o_begins : Int32} {o_sort : Int32} {o_value : Int32} {o_word : Int64} {o_wrongAt : Int32} {o_laterFault : Int32} {o_laterPlace : Int32} {o_told : (Nat → Int32)} {o_read : (Nat → Int32)} {o_farOne : Int32} {o_good : Int32} {o_town : Int32} {o_people : Int32} {o_when : Int32} {o_sat : Int32} {o_quiet : Int32} {o_vain : Int32} {o_lent : Int32} {o_forgiven : Int32} {o_sundays : Int32} {o_purse : (Nat → Int32)} {o_beside : (Nat → Int32)} {o_debts : (Nat → Int32)} {o_sitting : (Nat → Int32)} {o_visited : (Nat → Int32)} {o_week : Int32} {o_heaps : (Nat → Int32)} {o_taken : (Nat → Int32)} {o_best : (Nat → Int32)} {o_more : (Nat → Int32)} {o_firstOne : Int32} {o_log : Int32} {o_fitting : (Nat → Int32)} {o_found : Int32} {o_seed : Int32} {o_row : (Nat → Int32)} {o_saved : (Nat → Int32)} {p1 : Int32} {p2 : Int32} {r : Int32 × Int32 × Int32 × Int32 × Int32 × Int32 × Int32 × Int32 × Int32 × Int32 × Int32 × (Nat → Int32) × (Nat → Int32) × (Nat → Int32) × (Nat → Int32) × (Nat → Int32)} (hf : f_X12_town fu o_code o_many o_towns o_town o_people o_when o_sat o_quiet o_vain o_lent o_forgiven o_sundays o_purse o_beside o_debts o_sitting o_visited p1 p2 = some r) : Wr l D (gy g) yX12_town cX12_town 4 (some .int) 3 [.ref o_q0, .int p1, .int p2] (wMd g o_q0 o_q1 o_q2 o_q3 o_q4 o_q5 o_q6 o_q7 o_q8 o_q9 o_q10 o_q11 o_q12 o_q13 o_q14 o_q15 o_q16 o_q17 o_q18 o_q19 o_q20 o_q21 o_q22 o_code o_tape o_size o_fault o_faultPlace o_many o_towns o_weeks o_logs o_reached o_length o_begins o_sort o_value o_word o_wrongAt o_laterFault o_laterPlace o_told o_read o_farOne o_good o_town o_people o_when o_sat o_quiet o_vain o_lent o_forgiven o_sundays o_purse o_beside o_debts o_sitting o_visited o_week o_heaps o_taken o_best o_more o_firstOne o_log o_fitting o_found o_seed o_row o_saved) (wMd g o_q0 o_q1 o_q2 o_q3 o_q4 o_q5 o_q6 o_q7 o_q8 o_q9 o_q10 o_q11 o_q12 o_q13 o_q14 o_q15 o_q16 o_q17 o_q18 o_q19 o_q20 o_q21 o_q22 r.2.1 o_tape o_size o_fault o_faultPlace o_many o_towns o_weeks o_logs o_reached o_length o_begins o_sort o_value o_word o_wrongAt o_laterFault o_laterPlace o_told o_read o_farOne o_good r.2.2.1 r.2.2.2.1 r.2.2.2.2.1 r.2.2.2.2.2.1 r.2.2.2.2.2.2.1 r.2.2.2.2.2.2.2.1 r.2.2.2.2.2.2.2.2.1 r.2.2.2.2.2.2.2.2.2.1 r.2.2.2.2.2.2.2.2.2.2.1 r.2.2.2.2.2.2.2.2.2.2.2.1 r.2.2.2.2.2.2.2.2.2.2.2.2.1 r.2.2.2.2.2.2.2.2.2.2.2.2.2.1 r.2.2.2.2.2.2.2.2.2.2.2.2.2.2.1 r.2.2.2.2.2.2.2.2.2.2.2.2.2.2.2 o_week o_heaps o_taken o_best o_more o_firstOne o_log o_fitting o_found o_seed o_row o_saved) (some (.int r.1)) := by
  refine Wr.ofI (by decide) (Nat.le_of_ble_eq_true rfl) ?_
  intro p e s m args below meth c Q A S hK hA hret ls hl hW
  have hl : lv_has ls 4 [(0, .ref o_q0), (1, .int p1), (2, .int p2)] := hl
  refine lv_aload_n S.1 S.2.1 dX12_town_0 rfl (lv_at hl 0 rfl) ?_
  refine lv_iconst (v := 0) S.1 S.2.1 dX12_town_1 ic_0 ?_
  refine pfX12_78 (ws2 := (wMd g o_q0 o_q1 o_q2 o_q3 o_q4 o_q5 o_q6 o_q7 o_q8 o_q9 o_q10 o_q11 o_q12 o_q13 o_q14 o_q15 o_q16 o_q17 o_q18 o_q19 o_q20 o_q21 o_q22 (0 : Int32) o_tape o_size o_fault o_faultPlace o_many o_towns o_weeks o_logs o_reached o_length o_begins o_sort o_value o_word o_wrongAt o_laterFault o_laterPlace o_told o_read o_farOne o_good o_town o_people o_when o_sat o_quiet o_vain o_lent o_forgiven o_sundays o_purse o_beside o_debts o_sitting o_visited o_week o_heaps o_taken o_best o_more o_firstOne o_log o_fitting o_found o_seed o_row o_saved)) S hK hW 0 rfl rfl rfl (Nat.le_of_ble_eq_true rfl) rfl dX12_town_2 (fun H locs hW => ?_)
  refine lv_aload_n S.1 S.2.1 dX12_town_5 rfl (lv_at hl 0 rfl) ?_
  refine lv_iload_n S.1 S.2.1 dX12_town_6 rfl (lv_at hl 1 rfl) ?_
  obtain ⟨x1, hx1, hf⟩ := bnd_e hf
  refine Wr.goW (Wr.runV (c_X12_hand hx1) S hK hW.1 hW.2.1 0 10 rfl rfl kVX12_257 rfl hl.1 [] rfl (Nat.le_of_ble_eq_true rfl) ⟨(Nat.le_of_ble_eq_true rfl), (Nat.le_of_ble_eq_true rfl)⟩ ⟨(Nat.zero_le _), (Nat.zero_le _)⟩ dX12_town_7) hW hA (fun H locs hW => ?_)
  refine lv_if_ne (tgt := 15) S.1 S.2.1 dX12_town_10 (by decide) (fun c_ => ?_) (fun c_ => ?_)
  · have hf := it_n c_ hf
    refine lv_iload_n S.1 S.2.1 dX12_town_15 rfl (lv_at hl 2 rfl) ?_
    refine lv_bipush (v := 10) S.1 S.2.1 dX12_town_16 bp_10 ?_
    refine lv_irem S.1 S.2.1 dX12_town_18 (by decide) ?_
    refine lv_topi (fun x2 ex2 => ?_)
    have hf := ltn_e hf ex2
    refine lv_istore_n (lv' := [(3, .int x2), (0, .ref o_q0), (1, .int p1), (2, .int p2)]) S.1 S.2.1 dX12_town_19 rfl hl (by decide) rfl (fun ls hl => ?_)
    refine lv_iload_n S.1 S.2.1 dX12_town_20 rfl (lv_at hl 3 rfl) ?_
    refine lv_bipush (v := 100) S.1 S.2.1 dX12_town_21 bp_100 ?_
    refine lv_icmp_lt (tgt := 72) S.1 S.2.1 dX12_town_23 (by decide) (fun c_ => ?_) (fun c_ => ?_)
    · have hf := it_p c_ hf
      refine lv_iload_n S.1 S.2.1 dX12_town_72 rfl (lv_at hl 3 rfl) ?_
      refine lv_bipush (v := 10) S.1 S.2.1 dX12_town_73 bp_10 ?_
      refine lv_idiv S.1 S.2.1 dX12_town_75 (by decide) ?_
      by_cases c_0 : (p2 / (10 : Int32)) = 0
      · have hf := it_p c_0 hf
        refine lv_tableIn (tgt := 108) (off := 32) S.1 S.2.1 dX12_town_76 (by rw [c_0]; decide) (by rw [c_0]; decide) (by rw [c_0]; decide) (by decide) ?_
        refine lv_iload_n S.1 S.2.1 dX12_town_108 rfl (lv_at hl 3 rfl) ?_
        refine lv_if_ne (tgt := 119) S.1 S.2.1 dX12_town_109 (by decide) (fun c_ => ?_) (fun c_ => ?_)
        · have hf := it_n c_ hf
          refine lv_iconst (v := (-1)) S.1 S.2.1 dX12_town_119 ic_m1 ?_
          have e_ := Option.some.inj hf
          subst e_
          exact hret _ _ _ _ dX12_town_120 hW
        · have hf := it_p c_ hf
          refine lv_aload_n S.1 S.2.1 dX12_town_112 rfl (lv_at hl 1 rfl) ?_
          refine gfX12_230 S hK hW.1 0 rfl rfl dX12_town_113 ?_
          refine lv_goto (tgt := 120) S.1 S.2.1 dX12_town_116 (by decide) ?_
          have e_ := Option.some.inj hf
          subst e_
          exact hret _ _ _ _ dX12_town_120 hW
      have hf := it_n c_0 hf
      by_cases c_1 : (p2 / (10 : Int32)) = 1
      · have hf := it_p c_1 hf
        refine lv_tableIn (tgt := 121) (off := 45) S.1 S.2.1 dX12_town_76 (by rw [c_1]; decide) (by rw [c_1]; decide) (by rw [c_1]; decide) (by decide) ?_
        refine lv_iload_n S.1 S.2.1 dX12_town_121 rfl (lv_at hl 0 rfl) ?_
        refine lv_aload_n S.1 S.2.1 dX12_town_122 rfl (lv_at hl 1 rfl) ?_
        refine gfX12_230 S hK hW.1 0 rfl rfl dX12_town_123 ?_
        refine lv_icmp_ge (tgt := 149) S.1 S.2.1 dX12_town_126 (by decide) (fun c_ => ?_) (fun c_ => ?_)
        · have hf := it_p c_ hf
          refine lv_iconst (v := (-1)) S.1 S.2.1 dX12_town_149 ic_m1 ?_
          have e_ := Option.some.inj hf
          subst e_
          exact hret _ _ _ _ dX12_town_150 hW
        · have hf := it_n c_ hf
          refine lv_aload_n S.1 S.2.1 dX12_town_129 rfl (lv_at hl 1 rfl) ?_
          refine lv_iconst (v := 1) S.1 S.2.1 dX12_town_130 ic_1 ?_
          refine lv_bipush (v := 6) S.1 S.2.1 dX12_town_131 bp_6 ?_
          refine lv_iload_n S.1 S.2.1 dX12_town_133 rfl (lv_at hl 3 rfl) ?_
          refine lv_bipush (v := 10) S.1 S.2.1 dX12_town_134 bp_10 ?_
          refine lv_idiv S.1 S.2.1 dX12_town_136 (by decide) ?_
          refine lv_iconst (v := 1) S.1 S.2.1 dX12_town_137 ic_1 ?_
          refine lv_isub S.1 S.2.1 dX12_town_138 ?_
          refine lv_imul S.1 S.2.1 dX12_town_139 ?_
          refine lv_iadd S.1 S.2.1 dX12_town_140 ?_
          refine lv_iload_n S.1 S.2.1 dX12_town_141 rfl (lv_at hl 0 rfl) ?_
          refine lv_iadd S.1 S.2.1 dX12_town_142 ?_
          obtain ⟨x3, hx3, hf⟩ := bnd_e hf
          refine Rd.cV (c_X12_of hx3) S hK hW.1 0 10 rfl rfl kVX12_226 rfl hl.1 [] rfl (Nat.le_of_ble_eq_true rfl) ⟨(Nat.le_of_ble_eq_true rfl), (Nat.le_of_ble_eq_true rfl)⟩ ⟨(Nat.zero_le _), (Nat.zero_le _)⟩ dX12_town_143 ?_
          refine lv_goto (tgt := 150) S.1 S.2.1 dX12_town_146 (by decide) ?_
          have e_ := Option.some.inj hf
          subst e_
          exact hret _ _ _ _ dX12_town_150 hW
      have hf := it_n c_1 hf
      by_cases c_2 : (p2 / (10 : Int32)) = 2
      · have hf := it_p c_2 hf
        refine lv_tableIn (tgt := 121) (off := 45) S.1 S.2.1 dX12_town_76 (by rw [c_2]; decide) (by rw [c_2]; decide) (by rw [c_2]; decide) (by decide) ?_
        refine lv_iload_n S.1 S.2.1 dX12_town_121 rfl (lv_at hl 0 rfl) ?_
        refine lv_aload_n S.1 S.2.1 dX12_town_122 rfl (lv_at hl 1 rfl) ?_
        refine gfX12_230 S hK hW.1 0 rfl rfl dX12_town_123 ?_
        refine lv_icmp_ge (tgt := 149) S.1 S.2.1 dX12_town_126 (by decide) (fun c_ => ?_) (fun c_ => ?_)
        · have hf := it_p c_ hf
          refine lv_iconst (v := (-1)) S.1 S.2.1 dX12_town_149 ic_m1 ?_
          have e_ := Option.some.inj hf
          subst e_
          exact hret _ _ _ _ dX12_town_150 hW
        · have hf := it_n c_ hf
          refine lv_aload_n S.1 S.2.1 dX12_town_129 rfl (lv_at hl 1 rfl) ?_
          refine lv_iconst (v := 1) S.1 S.2.1 dX12_town_130 ic_1 ?_
          refine lv_bipush (v := 6) S.1 S.2.1 dX12_town_131 bp_6 ?_
          refine lv_iload_n S.1 S.2.1 dX12_town_133 rfl (lv_at hl 3 rfl) ?_
          refine lv_bipush (v := 10) S.1 S.2.1 dX12_town_134 bp_10 ?_
          refine lv_idiv S.1 S.2.1 dX12_town_136 (by decide) ?_
          refine lv_iconst (v := 1) S.1 S.2.1 dX12_town_137 ic_1 ?_
          refine lv_isub S.1 S.2.1 dX12_town_138 ?_
          refine lv_imul S.1 S.2.1 dX12_town_139 ?_
          refine lv_iadd S.1 S.2.1 dX12_town_140 ?_
          refine lv_iload_n S.1 S.2.1 dX12_town_141 rfl (lv_at hl 0 rfl) ?_
          refine lv_iadd S.1 S.2.1 dX12_town_142 ?_
          obtain ⟨x4, hx4, hf⟩ := bnd_e hf
          refine Rd.cV (c_X12_of hx4) S hK hW.1 0 10 rfl rfl kVX12_226 rfl hl.1 [] rfl (Nat.le_of_ble_eq_true rfl) ⟨(Nat.le_of_ble_eq_true rfl), (Nat.le_of_ble_eq_true rfl)⟩ ⟨(Nat.zero_le _), (Nat.zero_le _)⟩ dX12_town_143 ?_
          refine lv_goto (tgt := 150) S.1 S.2.1 dX12_town_146 (by decide) ?_
          have e_ := Option.some.inj hf
          subst e_
          exact hret _ _ _ _ dX12_town_150 hW
      have hf := it_n c_2 hf
      by_cases c_3 : (p2 / (10 : Int32)) = 3
      · have hf := it_p c_3 hf
        refine lv_tableIn (tgt := 121) (off := 45) S.1 S.2.1 dX12_town_76 (by rw [c_3]; decide) (by rw [c_3]; decide) (by rw [c_3]; decide) (by decide) ?_
        refine lv_iload_n S.1 S.2.1 dX12_town_121 rfl (lv_at hl 0 rfl) ?_
        refine lv_aload_n S.1 S.2.1 dX12_town_122 rfl (lv_at hl 1 rfl) ?_
        refine gfX12_230 S hK hW.1 0 rfl rfl dX12_town_123 ?_
        refine lv_icmp_ge (tgt := 149) S.1 S.2.1 dX12_town_126 (by decide) (fun c_ => ?_) (fun c_ => ?_)
        · have hf := it_p c_ hf
          refine lv_iconst (v := (-1)) S.1 S.2.1 dX12_town_149 ic_m1 ?_
          have e_ := Option.some.inj hf
          subst e_
          exact hret _ _ _ _ dX12_town_150 hW
        · have hf := it_n c_ hf
          refine lv_aload_n S.1 S.2.1 dX12_town_129 rfl (lv_at hl 1 rfl) ?_
          refine lv_iconst (v := 1) S.1 S.2.1 dX12_town_130 ic_1 ?_
          refine lv_bipush (v := 6) S.1 S.2.1 dX12_town_131 bp_6 ?_
          refine lv_iload_n S.1 S.2.1 dX12_town_133 rfl (lv_at hl 3 rfl) ?_
          refine lv_bipush (v := 10) S.1 S.2.1 dX12_town_134 bp_10 ?_
          refine lv_idiv S.1 S.2.1 dX12_town_136 (by decide) ?_
          refine lv_iconst (v := 1) S.1 S.2.1 dX12_town_137 ic_1 ?_
          refine lv_isub S.1 S.2.1 dX12_town_138 ?_
          refine lv_imul S.1 S.2.1 dX12_town_139 ?_
          refine lv_iadd S.1 S.2.1 dX12_town_140 ?_
          refine lv_iload_n S.1 S.2.1 dX12_town_141 rfl (lv_at hl 0 rfl) ?_
          refine lv_iadd S.1 S.2.1 dX12_town_142 ?_
          obtain ⟨x5, hx5, hf⟩ := bnd_e hf
          refine Rd.cV (c_X12_of hx5) S hK hW.1 0 10 rfl rfl kVX12_226 rfl hl.1 [] rfl (Nat.le_of_ble_eq_true rfl) ⟨(Nat.le_of_ble_eq_true rfl), (Nat.le_of_ble_eq_true rfl)⟩ ⟨(Nat.zero_le _), (Nat.zero_le _)⟩ dX12_town_143 ?_
          refine lv_goto (tgt := 150) S.1 S.2.1 dX12_town_146 (by decide) ?_
          have e_ := Option.some.inj hf
          subst e_
          exact hret _ _ _ _ dX12_town_150 hW
      have hf := it_n c_3 hf
      refine lv_tableOut (tgt := 151) S.1 S.2.1 dX12_town_76 (by have n_0 := lv_neT c_0 (a := 0) (by decide); have n_1 := lv_neT c_1 (a := 1) (by decide); have n_2 := lv_neT c_2 (a := 2) (by decide); have n_3 := lv_neT c_3 (a := 3) (by decide); omega) (by decide) ?_
      refine lv_iconst (v := (-1)) S.1 S.2.1 dX12_town_151 ic_m1 ?_
      have e_ := Option.some.inj hf
      subst e_
      exact hret _ _ _ _ dX12_town_152 hW
    · have hf := it_n c_ hf
      refine lv_iload_n S.1 S.2.1 dX12_town_26 rfl (lv_at hl 3 rfl) ?_
      refine lv_sipush (v := 160) S.1 S.2.1 dX12_town_27 sp_160 ?_
      refine lv_icmp_ge (tgt := 70) S.1 S.2.1 dX12_town_30 (by decide) (fun c_ => ?_) (fun c_ => ?_)
      · have hf := it_p c_ hf
        refine lv_iconst (v := (-1)) S.1 S.2.1 dX12_town_70 ic_m1 ?_
        have e_ := Option.some.inj hf
        subst e_
        exact hret _ _ _ _ dX12_town_71 hW
      · have hf := it_n c_ hf
        refine lv_aload_n S.1 S.2.1 dX12_town_33 rfl (lv_at hl 1 rfl) ?_
        refine lv_iload_n S.1 S.2.1 dX12_town_34 rfl (lv_at hl 3 rfl) ?_
        refine lv_bipush (v := 100) S.1 S.2.1 dX12_town_35 bp_100 ?_
        refine lv_isub S.1 S.2.1 dX12_town_37 ?_
        refine lv_bipush (v := 10) S.1 S.2.1 dX12_town_38 bp_10 ?_
        refine lv_idiv S.1 S.2.1 dX12_town_40 (by decide) ?_
        obtain ⟨x6, hx6, hf⟩ := bnd_e hf
        refine Rd.cV (c_X12_isPerson hx6) S hK hW.1 0 10 rfl rfl kVX12_260 rfl hl.1 [] rfl (Nat.le_of_ble_eq_true rfl) ⟨(Nat.le_of_ble_eq_true rfl), (Nat.le_of_ble_eq_true rfl)⟩ ⟨(Nat.zero_le _), (Nat.zero_le _)⟩ dX12_town_41 ?_
        refine lv_if_eq (tgt := 70) S.1 S.2.1 dX12_town_44 (by decide) (fun c_ => ?_) (fun c_ => ?_)
        · have hf := it_p c_ hf
          refine lv_iconst (v := (-1)) S.1 S.2.1 dX12_town_70 ic_m1 ?_
          have e_ := Option.some.inj hf
          subst e_
          exact hret _ _ _ _ dX12_town_71 hW
        · have hf := it_n c_ hf
          refine lv_aload_n S.1 S.2.1 dX12_town_47 rfl (lv_at hl 1 rfl) ?_
          refine lv_iload_n S.1 S.2.1 dX12_town_48 rfl (lv_at hl 0 rfl) ?_
          obtain ⟨x7, hx7, hf⟩ := bnd_e hf
          refine Rd.cV (c_X12_isPerson hx7) S hK hW.1 0 10 rfl rfl kVX12_260 rfl hl.1 [] rfl (Nat.le_of_ble_eq_true rfl) ⟨(Nat.le_of_ble_eq_true rfl), (Nat.le_of_ble_eq_true rfl)⟩ ⟨(Nat.zero_le _), (Nat.zero_le _)⟩ dX12_town_49 ?_
          refine lv_if_eq (tgt := 70) S.1 S.2.1 dX12_town_52 (by decide) (fun c_ => ?_) (fun c_ => ?_)
          · have hf := it_p c_ hf
            refine lv_iconst (v := (-1)) S.1 S.2.1 dX12_town_70 ic_m1 ?_
            have e_ := Option.some.inj hf
            subst e_
            exact hret _ _ _ _ dX12_town_71 hW
          · have hf := it_n c_ hf
            refine lv_aload_n S.1 S.2.1 dX12_town_55 rfl (lv_at hl 1 rfl) ?_
            refine lv_iload_n S.1 S.2.1 dX12_town_56 rfl (lv_at hl 3 rfl) ?_
            refine lv_bipush (v := 100) S.1 S.2.1 dX12_town_57 bp_100 ?_
            refine lv_isub S.1 S.2.1 dX12_town_59 ?_
            refine lv_bipush (v := 10) S.1 S.2.1 dX12_town_60 bp_10 ?_
            refine lv_idiv S.1 S.2.1 dX12_town_62 (by decide) ?_
            refine lv_iload_n S.1 S.2.1 dX12_town_63 rfl (lv_at hl 0 rfl) ?_
            obtain ⟨x8, hx8, hf⟩ := bnd_e hf
            refine Rd.cV (c_X12_owed hx8) S hK hW.1 0 10 rfl rfl kVX12_254 rfl hl.1 [] rfl (Nat.le_of_ble_eq_true rfl) ⟨(Nat.le_of_ble_eq_true rfl), (Nat.le_of_ble_eq_true rfl)⟩ ⟨(Nat.zero_le _), (Nat.zero_le _)⟩ dX12_town_64 ?_
            refine lv_goto (tgt := 71) S.1 S.2.1 dX12_town_67 (by decide) ?_
            have e_ := Option.some.inj hf
            subst e_
            exact hret _ _ _ _ dX12_town_71 hW
  · have hf := it_p c_ hf
    refine lv_iconst (v := (-1)) S.1 S.2.1 dX12_town_13 ic_m1 ?_
    have e_ := Option.some.inj hf
    subst e_
    exact hret _ _ _ _ dX12_town_14 hW
def f_X12_deeds (fu : Nat) (o_weeks : (Nat → Int32)) (o_week : Int32) : Option (Int32) := bnd (α := Int32) (rdi 1288 o_weeks ((161 : Int32) * o_week)) (fun x1 => some x1)
set_option maxHeartbeats 4000000 in
set_option maxRecDepth 100000 in
theorem c_X12_deeds {l : Launch} {D : va_G} {g : Nat → ClassId} {fu : Nat} {o_q0 o_q1 o_q2 o_q3 o_q4 o_q5 o_q6 o_q7 o_q8 o_q9 o_q10 o_q11 o_q12 o_q13 o_q14 o_q15 o_q16 o_q17 o_q18 o_q19 o_q20 o_q21 o_q22 : Nat} {o_code : Int32} {o_tape : (Nat → Int32)} {o_size : (Nat → Int32)} {o_fault : (Nat → Int32)} {o_faultPlace : (Nat → Int32)} {o_many : (Nat → Int32)} {o_towns : (Nat → Int32)} {o_weeks : (Nat → Int32)} {o_logs : (Nat → Int32)} {o_reached : Int32} {o_length : Int32} {o_begins : Int32} {o_sort : Int32} {o_value : Int32} {o_word : Int64} {o_wrongAt : Int32} {o_laterFault : Int32} {o_laterPlace : Int32} {o_told : (Nat → Int32)} {o_read : (Nat → Int32)} {o_farOne : Int32} {o_good : Int32} {o_town : Int32} {o_people : Int32} {o_when : Int32} {o_sat : Int32} {o_quiet : Int32} {o_vain : Int32} {o_lent : Int32} {o_forgiven : Int32} {o_sundays : Int32} {o_purse : (Nat → Int32)} {o_beside : (Nat → Int32)} {o_debts : (Nat → Int32)} {o_sitting : (Nat → Int32)} {o_visited : (Nat → Int32)} {o_week : Int32} {o_heaps : (Nat → Int32)} {o_taken : (Nat → Int32)} {o_best : (Nat → Int32)} {o_more : (Nat → Int32)} {o_firstOne : Int32} {o_log : Int32} {o_fitting : (Nat → Int32)} {o_found : Int32} {o_seed : Int32} {o_row : (Nat → Int32)} {o_saved : (Nat → Int32)} {r : Int32} (hf : f_X12_deeds fu o_weeks o_week = some r) : Rd l D (gy g) yX12_deeds cX12_deeds 1 (some .int) 0 [.ref o_q0] (wMd g o_q0 o_q1 o_q2 o_q3 o_q4 o_q5 o_q6 o_q7 o_q8 o_q9 o_q10 o_q11 o_q12 o_q13 o_q14 o_q15 o_q16 o_q17 o_q18 o_q19 o_q20 o_q21 o_q22 o_code o_tape o_size o_fault o_faultPlace o_many o_towns o_weeks o_logs o_reached o_length o_begins o_sort o_value o_word o_wrongAt o_laterFault o_laterPlace o_told o_read o_farOne o_good o_town o_people o_when o_sat o_quiet o_vain o_lent o_forgiven o_sundays o_purse o_beside o_debts o_sitting o_visited o_week o_heaps o_taken o_best o_more o_firstOne o_log o_fitting o_found o_seed o_row o_saved) (some (.int r)) := by
  refine Rd.ofI (by decide) (Nat.le_of_ble_eq_true rfl) ?_
  intro p e s m args below meth c Q S hK hP hret ls hl
  have hl : lv_has ls 1 [(0, .ref o_q0)] := hl
  refine lv_aload_n S.1 S.2.1 dX12_deeds_0 rfl (lv_at hl 0 rfl) ?_
  refine gfX12_29 S hK hP 0 rfl rfl dX12_deeds_1 ?_
  refine lv_sipush (v := 161) S.1 S.2.1 dX12_deeds_4 sp_161 ?_
  refine lv_aload_n S.1 S.2.1 dX12_deeds_7 rfl (lv_at hl 0 rfl) ?_
  refine gfX12_263 S hK hP 0 rfl rfl dX12_deeds_8 ?_
  refine lv_imul S.1 S.2.1 dX12_deeds_11 ?_
  obtain ⟨x1, hx1, hf⟩ := bnd_e hf
  refine q_iald S hK hP 7 0 rfl rfl hx1 dX12_deeds_12 ?_
  have e_ := Option.some.inj hf
  subst e_
  exact hret _ _ dX12_deeds_13
def f_X12_deedOf (fu : Nat) (o_weeks : (Nat → Int32)) (o_week : Int32) (p1 : Int32) (p2 : Int32) : Option (Int32) := bnd (α := Int32) (rdi 1288 o_weeks (((((161 : Int32) * o_week) + (1 : Int32)) + ((4 : Int32) * p1)) + p2)) (fun x1 => some x1)
set_option maxHeartbeats 4000000 in
set_option maxRecDepth 100000 in
theorem c_X12_deedOf {l : Launch} {D : va_G} {g : Nat → ClassId} {fu : Nat} {o_q0 o_q1 o_q2 o_q3 o_q4 o_q5 o_q6 o_q7 o_q8 o_q9 o_q10 o_q11 o_q12 o_q13 o_q14 o_q15 o_q16 o_q17 o_q18 o_q19 o_q20 o_q21 o_q22 : Nat} {o_code : Int32} {o_tape : (Nat → Int32)} {o_size : (Nat → Int32)} {o_fault : (Nat → Int32)} {o_faultPlace : (Nat → Int32)} {o_many : (Nat → Int32)} {o_towns : (Nat → Int32)} {o_weeks : (Nat → Int32)} {o_logs : (Nat → Int32)} {o_reached : Int32} {o_length : Int32} {o_begins : Int32} {o_sort : Int32} {o_value : Int32} {o_word : Int64} {o_wrongAt : Int32} {o_laterFault : Int32} {o_laterPlace : Int32} {o_told : (Nat → Int32)} {o_read : (Nat → Int32)} {o_farOne : Int32} {o_good : Int32} {o_town : Int32} {o_people : Int32} {o_when : Int32} {o_sat : Int32} {o_quiet : Int32} {o_vain : Int32} {o_lent : Int32} {o_forgiven : Int32} {o_sundays : Int32} {o_purse : (Nat → Int32)} {o_beside : (Nat → Int32)} {o_debts : (Nat → Int32)} {o_sitting : (Nat → Int32)} {o_visited : (Nat → Int32)} {o_week : Int32} {o_heaps : (Nat → Int32)} {o_taken : (Nat → Int32)} {o_best : (Nat → Int32)} {o_more : (Nat → Int32)} {o_firstOne : Int32} {o_log : Int32} {o_fitting : (Nat → Int32)} {o_found : Int32} {o_seed : Int32} {o_row : (Nat → Int32)} {o_saved : (Nat → Int32)} {p1 : Int32} {p2 : Int32} {r : Int32} (hf : f_X12_deedOf fu o_weeks o_week p1 p2 = some r) : Rd l D (gy g) yX12_deedOf cX12_deedOf 3 (some .int) 0 [.ref o_q0, .int p1, .int p2] (wMd g o_q0 o_q1 o_q2 o_q3 o_q4 o_q5 o_q6 o_q7 o_q8 o_q9 o_q10 o_q11 o_q12 o_q13 o_q14 o_q15 o_q16 o_q17 o_q18 o_q19 o_q20 o_q21 o_q22 o_code o_tape o_size o_fault o_faultPlace o_many o_towns o_weeks o_logs o_reached o_length o_begins o_sort o_value o_word o_wrongAt o_laterFault o_laterPlace o_told o_read o_farOne o_good o_town o_people o_when o_sat o_quiet o_vain o_lent o_forgiven o_sundays o_purse o_beside o_debts o_sitting o_visited o_week o_heaps o_taken o_best o_more o_firstOne o_log o_fitting o_found o_seed o_row o_saved) (some (.int r)) := by
  refine Rd.ofI (by decide) (Nat.le_of_ble_eq_true rfl) ?_
  intro p e s m args below meth c Q S hK hP hret ls hl
  have hl : lv_has ls 3 [(0, .ref o_q0), (1, .int p1), (2, .int p2)] := hl
  refine lv_aload_n S.1 S.2.1 dX12_deedOf_0 rfl (lv_at hl 0 rfl) ?_
  refine gfX12_29 S hK hP 0 rfl rfl dX12_deedOf_1 ?_
  refine lv_sipush (v := 161) S.1 S.2.1 dX12_deedOf_4 sp_161 ?_
  refine lv_aload_n S.1 S.2.1 dX12_deedOf_7 rfl (lv_at hl 0 rfl) ?_
  refine gfX12_263 S hK hP 0 rfl rfl dX12_deedOf_8 ?_
  refine lv_imul S.1 S.2.1 dX12_deedOf_11 ?_
  refine lv_iconst (v := 1) S.1 S.2.1 dX12_deedOf_12 ic_1 ?_
  refine lv_iadd S.1 S.2.1 dX12_deedOf_13 ?_
  refine lv_iconst (v := 4) S.1 S.2.1 dX12_deedOf_14 ic_4 ?_
  refine lv_iload_n S.1 S.2.1 dX12_deedOf_15 rfl (lv_at hl 1 rfl) ?_
  refine lv_imul S.1 S.2.1 dX12_deedOf_16 ?_
  refine lv_iadd S.1 S.2.1 dX12_deedOf_17 ?_
  refine lv_iload_n S.1 S.2.1 dX12_deedOf_18 rfl (lv_at hl 2 rfl) ?_
  refine lv_iadd S.1 S.2.1 dX12_deedOf_19 ?_
  obtain ⟨x1, hx1, hf⟩ := bnd_e hf
  refine q_iald S hK hP 7 0 rfl rfl hx1 dX12_deedOf_20 ?_
  have e_ := Option.some.inj hf
  subst e_
  exact hret _ _ dX12_deedOf_21
def f_X12_hasWeek (fu : Nat) (o_many : (Nat → Int32)) (o_week : Int32) (p1 : Int32) : Option (Int32 × Int32) := bnd (α := Int32) (f_X12_is fu o_many (1 : Int32) p1) (fun x1 => bnd (α := Int32) (bz x1) (fun z2 => some (z2, p1)))
set_option maxHeartbeats 4000000 in
set_option maxRecDepth 100000 in
theorem c_X12_hasWeek {l : Launch} {D : va_G} {g : Nat → ClassId} {fu : Nat} {o_q0 o_q1 o_q2 o_q3 o_q4 o_q5 o_q6 o_q7 o_q8 o_q9 o_q10 o_q11 o_q12 o_q13 o_q14 o_q15 o_q16 o_q17 o_q18 o_q19 o_q20 o_q21 o_q22 : Nat} {o_code : Int32} {o_tape : (Nat → Int32)} {o_size : (Nat → Int32)} {o_fault : (Nat → Int32)} {o_faultPlace : (Nat → Int32)} {o_many : (Nat → Int32)} {o_towns : (Nat → Int32)} {o_weeks : (Nat → Int32)} {o_logs : (Nat → Int32)} {o_reached : Int32} {o_length : Int32} {o_begins : Int32} {o_sort : Int32} {o_value : Int32} {o_word : Int64} {o_wrongAt : Int32} {o_laterFault : Int32} {o_laterPlace : Int32} {o_told : (Nat → Int32)} {o_read : (Nat → Int32)} {o_farOne : Int32} {o_good : Int32} {o_town : Int32} {o_people : Int32} {o_when : Int32} {o_sat : Int32} {o_quiet : Int32} {o_vain : Int32} {o_lent : Int32} {o_forgiven : Int32} {o_sundays : Int32} {o_purse : (Nat → Int32)} {o_beside : (Nat → Int32)} {o_debts : (Nat → Int32)} {o_sitting : (Nat → Int32)} {o_visited : (Nat → Int32)} {o_week : Int32} {o_heaps : (Nat → Int32)} {o_taken : (Nat → Int32)} {o_best : (Nat → Int32)} {o_more : (Nat → Int32)} {o_firstOne : Int32} {o_log : Int32} {o_fitting : (Nat → Int32)} {o_found : Int32} {o_seed : Int32} {o_row : (Nat → Int32)} {o_saved : (Nat → Int32)} {p1 : Int32} {r : Int32 × Int32} (hf : f_X12_hasWeek fu o_many o_week p1 = some r) : Wr l D (gy g) yX12_hasWeek cX12_hasWeek 2 (some .boolean) 2 [.ref o_q0, .int p1] (wMd g o_q0 o_q1 o_q2 o_q3 o_q4 o_q5 o_q6 o_q7 o_q8 o_q9 o_q10 o_q11 o_q12 o_q13 o_q14 o_q15 o_q16 o_q17 o_q18 o_q19 o_q20 o_q21 o_q22 o_code o_tape o_size o_fault o_faultPlace o_many o_towns o_weeks o_logs o_reached o_length o_begins o_sort o_value o_word o_wrongAt o_laterFault o_laterPlace o_told o_read o_farOne o_good o_town o_people o_when o_sat o_quiet o_vain o_lent o_forgiven o_sundays o_purse o_beside o_debts o_sitting o_visited o_week o_heaps o_taken o_best o_more o_firstOne o_log o_fitting o_found o_seed o_row o_saved) (wMd g o_q0 o_q1 o_q2 o_q3 o_q4 o_q5 o_q6 o_q7 o_q8 o_q9 o_q10 o_q11 o_q12 o_q13 o_q14 o_q15 o_q16 o_q17 o_q18 o_q19 o_q20 o_q21 o_q22 o_code o_tape o_size o_fault o_faultPlace o_many o_towns o_weeks o_logs o_reached o_length o_begins o_sort o_value o_word o_wrongAt o_laterFault o_laterPlace o_told o_read o_farOne o_good o_town o_people o_when o_sat o_quiet o_vain o_lent o_forgiven o_sundays o_purse o_beside o_debts o_sitting o_visited r.2 o_heaps o_taken o_best o_more o_firstOne o_log o_fitting o_found o_seed o_row o_saved) (some (.int r.1)) := by
  refine Wr.ofZ (by decide) (Nat.le_of_ble_eq_true rfl) ?_
  intro p e s m args below meth c Q A S hK hA hret ls hl hW
  have hl : lv_has ls 2 [(0, .ref o_q0), (1, .int p1)] := hl
  refine lv_aload_n S.1 S.2.1 dX12_hasWeek_0 rfl (lv_at hl 0 rfl) ?_
  refine lv_iload_n S.1 S.2.1 dX12_hasWeek_1 rfl (lv_at hl 1 rfl) ?_
  refine pfX12_263 (ws2 := (wMd g o_q0 o_q1 o_q2 o_q3 o_q4 o_q5 o_q6 o_q7 o_q8 o_q9 o_q10 o_q11 o_q12 o_q13 o_q14 o_q15 o_q16 o_q17 o_q18 o_q19 o_q20 o_q21 o_q22 o_code o_tape o_size o_fault o_faultPlace o_many o_towns o_weeks o_logs o_reached o_length o_begins o_sort o_value o_word o_wrongAt o_laterFault o_laterPlace o_told o_read o_farOne o_good o_town o_people o_when o_sat o_quiet o_vain o_lent o_forgiven o_sundays o_purse o_beside o_debts o_sitting o_visited p1 o_heaps o_taken o_best o_more o_firstOne o_log o_fitting o_found o_seed o_row o_saved)) S hK hW 0 rfl rfl rfl (Nat.le_of_ble_eq_true rfl) rfl dX12_hasWeek_2 (fun H locs hW => ?_)
  refine lv_aload_n S.1 S.2.1 dX12_hasWeek_5 rfl (lv_at hl 0 rfl) ?_
  refine lv_iconst (v := 1) S.1 S.2.1 dX12_hasWeek_6 ic_1 ?_
  refine lv_iload_n S.1 S.2.1 dX12_hasWeek_7 rfl (lv_at hl 1 rfl) ?_
  obtain ⟨x1, hx1, hf⟩ := bnd_e hf
  refine Rd.cV (c_X12_is hx1) S hK hW.1 0 10 rfl rfl kVX12_213 rfl hl.1 [] rfl (Nat.le_of_ble_eq_true rfl) ⟨(Nat.le_of_ble_eq_true rfl), (Nat.le_of_ble_eq_true rfl)⟩ ⟨(Nat.zero_le _), (Nat.zero_le _)⟩ dX12_hasWeek_8 ?_
  obtain ⟨z2, hz2, hf⟩ := bnd_e hf
  obtain ⟨hzz2, ezz2⟩ := bz_e hz2
  rw [ezz2]
  have e_ := Option.some.inj hf
  subst e_
  exact hret _ _ _ _ hzz2 dX12_hasWeek_11 hW
def f_X12_deed (fu : Nat) (o_code : Int32) (o_many : (Nat → Int32)) (o_weeks : (Nat → Int32)) (o_week : Int32) (p1 : Int32) (p2 : Int32) (p3 : Int32) : Option (Int32 × Int32 × Int32) := bnd (α := Int32 × Int32) (f_X12_hasWeek fu o_many o_week p1) (fun x1 => if x1.1 = 0 then some ((-2 : Int32), (0 : Int32), x1.2) else if p2 = (-1 : Int32) then if p3 = 0 then bnd (α := Int32) (f_X12_deeds fu o_weeks x1.2) (fun x2 => some (x2, (0 : Int32), x1.2)) else some ((-2 : Int32), (0 : Int32), x1.2) else bnd (α := Int32) (f_X12_deeds fu o_weeks x1.2) (fun x3 => bnd (α := Int32) (f_X12_in fu p2 (0 : Int32) (x3 - (1 : Int32))) (fun x4 => if x4 = 0 then some ((-2 : Int32), (0 : Int32), x1.2) else bnd (α := Int32) (f_X12_in fu p3 (0 : Int32) (3 : Int32)) (fun x5 => if x5 = 0 then some ((-2 : Int32), (0 : Int32), x1.2) else bnd (α := Int32) (f_X12_deedOf fu o_weeks x1.2 p2 p3) (fun x6 => some (x6, (0 : Int32), x1.2))))))
set_option maxHeartbeats 4000000 in
set_option maxRecDepth 100000 in
theorem c_X12_deed {l : Launch} {D : va_G} {g : Nat → ClassId} {fu : Nat} {o_q0 o_q1 o_q2 o_q3 o_q4 o_q5 o_q6 o_q7 o_q8 o_q9 o_q10 o_q11 o_q12 o_q13 o_q14 o_q15 o_q16 o_q17 o_q18 o_q19 o_q20 o_q21 o_q22 : Nat} {o_code : Int32} {o_tape : (Nat → Int32)} {o_size : (Nat → Int32)} {o_fault : (Nat → Int32)} {o_faultPlace : (Nat → Int32)} {o_many : (Nat → Int32)} {o_towns : (Nat → Int32)} {o_weeks : (Nat → Int32)} {o_logs : (Nat → Int32)} {o_reached : Int32} {o_length : Int32} {o_begins : Int32} {o_sort : Int32} {o_value : Int32} {o_word : Int64} {o_wrongAt : Int32} {o_laterFault : Int32} {o_laterPlace : Int32} {o_told : (Nat → Int32)} {o_read : (Nat → Int32)} {o_farOne : Int32} {o_good : Int32} {o_town : Int32} {o_people : Int32} {o_when : Int32} {o_sat : Int32} {o_quiet : Int32} {o_vain : Int32} {o_lent : Int32} {o_forgiven : Int32} {o_sundays : Int32} {o_purse : (Nat → Int32)} {o_beside : (Nat → Int32)} {o_debts : (Nat → Int32)} {o_sitting : (Nat → Int32)} {o_visited : (Nat → Int32)} {o_week : Int32} {o_heaps : (Nat → Int32)} {o_taken : (Nat → Int32)} {o_best : (Nat → Int32)} {o_more : (Nat → Int32)} {o_firstOne : Int32} {o_log : Int32} {o_fitting : (Nat → Int32)} {o_found : Int32} {o_seed : Int32} {o_row : (Nat → Int32)} {o_saved : (Nat → Int32)} {p1 : Int32} {p2 : Int32} {p3 : Int32} {r : Int32 × Int32 × Int32} (hf : f_X12_deed fu o_code o_many o_weeks o_week p1 p2 p3 = some r) : Wr l D (gy g) yX12_deed cX12_deed 4 (some .int) 3 [.ref o_q0, .int p1, .int p2, .int p3] (wMd g o_q0 o_q1 o_q2 o_q3 o_q4 o_q5 o_q6 o_q7 o_q8 o_q9 o_q10 o_q11 o_q12 o_q13 o_q14 o_q15 o_q16 o_q17 o_q18 o_q19 o_q20 o_q21 o_q22 o_code o_tape o_size o_fault o_faultPlace o_many o_towns o_weeks o_logs o_reached o_length o_begins o_sort o_value o_word o_wrongAt o_laterFault o_laterPlace o_told o_read o_farOne o_good o_town o_people o_when o_sat o_quiet o_vain o_lent o_forgiven o_sundays o_purse o_beside o_debts o_sitting o_visited o_week o_heaps o_taken o_best o_more o_firstOne o_log o_fitting o_found o_seed o_row o_saved) (wMd g o_q0 o_q1 o_q2 o_q3 o_q4 o_q5 o_q6 o_q7 o_q8 o_q9 o_q10 o_q11 o_q12 o_q13 o_q14 o_q15 o_q16 o_q17 o_q18 o_q19 o_q20 o_q21 o_q22 r.2.1 o_tape o_size o_fault o_faultPlace o_many o_towns o_weeks o_logs o_reached o_length o_begins o_sort o_value o_word o_wrongAt o_laterFault o_laterPlace o_told o_read o_farOne o_good o_town o_people o_when o_sat o_quiet o_vain o_lent o_forgiven o_sundays o_purse o_beside o_debts o_sitting o_visited r.2.2 o_heaps o_taken o_best o_more o_firstOne o_log o_fitting o_found o_seed o_row o_saved) (some (.int r.1)) := by
  refine Wr.ofI (by decide) (Nat.le_of_ble_eq_true rfl) ?_
  intro p e s m args below meth c Q A S hK hA hret ls hl hW
  have hl : lv_has ls 4 [(0, .ref o_q0), (1, .int p1), (2, .int p2), (3, .int p3)] := hl
  refine lv_aload_n S.1 S.2.1 dX12_deed_0 rfl (lv_at hl 0 rfl) ?_
  refine lv_iconst (v := 0) S.1 S.2.1 dX12_deed_1 ic_0 ?_
  refine pfX12_78 (ws2 := (wMd g o_q0 o_q1 o_q2 o_q3 o_q4 o_q5 o_q6 o_q7 o_q8 o_q9 o_q10 o_q11 o_q12 o_q13 o_q14 o_q15 o_q16 o_q17 o_q18 o_q19 o_q20 o_q21 o_q22 (0 : Int32) o_tape o_size o_fault o_faultPlace o_many o_towns o_weeks o_logs o_reached o_length o_begins o_sort o_value o_word o_wrongAt o_laterFault o_laterPlace o_told o_read o_farOne o_good o_town o_people o_when o_sat o_quiet o_vain o_lent o_forgiven o_sundays o_purse o_beside o_debts o_sitting o_visited o_week o_heaps o_taken o_best o_more o_firstOne o_log o_fitting o_found o_seed o_row o_saved)) S hK hW 0 rfl rfl rfl (Nat.le_of_ble_eq_true rfl) rfl dX12_deed_2 (fun H locs hW => ?_)
  refine lv_aload_n S.1 S.2.1 dX12_deed_5 rfl (lv_at hl 0 rfl) ?_
  refine lv_iload_n S.1 S.2.1 dX12_deed_6 rfl (lv_at hl 1 rfl) ?_
  obtain ⟨x1, hx1, hf⟩ := bnd_e hf
  refine Wr.goW (Wr.runV (c_X12_hasWeek hx1) S hK hW.1 hW.2.1 0 10 rfl rfl kVX12_266 rfl hl.1 [] rfl (Nat.le_of_ble_eq_true rfl) ⟨(Nat.le_of_ble_eq_true rfl), (Nat.le_of_ble_eq_true rfl)⟩ ⟨(Nat.zero_le _), (Nat.zero_le _)⟩ dX12_deed_7) hW hA (fun H locs hW => ?_)
  refine lv_if_ne (tgt := 16) S.1 S.2.1 dX12_deed_10 (by decide) (fun c_ => ?_) (fun c_ => ?_)
  · have hf := it_n c_ hf
    refine lv_iload_n S.1 S.2.1 dX12_deed_16 rfl (lv_at hl 2 rfl) ?_
    refine lv_iconst (v := (-1)) S.1 S.2.1 dX12_deed_17 ic_m1 ?_
    refine lv_icmp_ne (tgt := 35) S.1 S.2.1 dX12_deed_18 (by decide) (fun c_ => ?_) (fun c_ => ?_)
    · have hf := it_n c_ hf
      refine lv_iload_n S.1 S.2.1 dX12_deed_35 rfl (lv_at hl 2 rfl) ?_
      refine lv_iconst (v := 0) S.1 S.2.1 dX12_deed_36 ic_0 ?_
      refine lv_aload_n S.1 S.2.1 dX12_deed_37 rfl (lv_at hl 0 rfl) ?_
      obtain ⟨x3, hx3, hf⟩ := bnd_e hf
      refine Rd.cV (c_X12_deeds hx3) S hK hW.1 0 10 rfl rfl kVX12_269 rfl hl.1 [.int (0 : Int32), .int p2] rfl (Nat.le_of_ble_eq_true rfl) ⟨(Nat.le_of_ble_eq_true rfl), (Nat.le_of_ble_eq_true rfl)⟩ ⟨(Nat.zero_le _), (Nat.zero_le _)⟩ dX12_deed_38 ?_
      refine lv_iconst (v := 1) S.1 S.2.1 dX12_deed_41 ic_1 ?_
      refine lv_isub S.1 S.2.1 dX12_deed_42 ?_
      obtain ⟨x4, hx4, hf⟩ := bnd_e hf
      refine Rd.cS (c_X12_in hx4) S hK va_P.nil kSX12_90 rfl hl.1 [] rfl (Nat.le_of_ble_eq_true rfl) ⟨(Nat.le_of_ble_eq_true rfl), (Nat.le_of_ble_eq_true rfl)⟩ ⟨(Nat.zero_le _), (Nat.zero_le _)⟩ dX12_deed_43 ?_
      refine lv_if_eq (tgt := 67) S.1 S.2.1 dX12_deed_46 (by decide) (fun c_ => ?_) (fun c_ => ?_)
      · have hf := it_p c_ hf
        refine lv_bipush (v := (-2)) S.1 S.2.1 dX12_deed_67 bp_m2 ?_
        have e_ := Option.some.inj hf
        subst e_
        exact hret _ _ _ _ dX12_deed_69 hW
      · have hf := it_n c_ hf
        refine lv_iload_n S.1 S.2.1 dX12_deed_49 rfl (lv_at hl 3 rfl) ?_
        refine lv_iconst (v := 0) S.1 S.2.1 dX12_deed_50 ic_0 ?_
        refine lv_iconst (v := 3) S.1 S.2.1 dX12_deed_51 ic_3 ?_
        obtain ⟨x5, hx5, hf⟩ := bnd_e hf
        refine Rd.cS (c_X12_in hx5) S hK va_P.nil kSX12_90 rfl hl.1 [] rfl (Nat.le_of_ble_eq_true rfl) ⟨(Nat.le_of_ble_eq_true rfl), (Nat.le_of_ble_eq_true rfl)⟩ ⟨(Nat.zero_le _), (Nat.zero_le _)⟩ dX12_deed_52 ?_
        refine lv_if_eq (tgt := 67) S.1 S.2.1 dX12_deed_55 (by decide) (fun c_ => ?_) (fun c_ => ?_)
        · have hf := it_p c_ hf
          refine lv_bipush (v := (-2)) S.1 S.2.1 dX12_deed_67 bp_m2 ?_
          have e_ := Option.some.inj hf
          subst e_
          exact hret _ _ _ _ dX12_deed_69 hW
        · have hf := it_n c_ hf
          refine lv_aload_n S.1 S.2.1 dX12_deed_58 rfl (lv_at hl 0 rfl) ?_
          refine lv_iload_n S.1 S.2.1 dX12_deed_59 rfl (lv_at hl 2 rfl) ?_
          refine lv_iload_n S.1 S.2.1 dX12_deed_60 rfl (lv_at hl 3 rfl) ?_
          obtain ⟨x6, hx6, hf⟩ := bnd_e hf
          refine Rd.cV (c_X12_deedOf hx6) S hK hW.1 0 10 rfl rfl kVX12_272 rfl hl.1 [] rfl (Nat.le_of_ble_eq_true rfl) ⟨(Nat.le_of_ble_eq_true rfl), (Nat.le_of_ble_eq_true rfl)⟩ ⟨(Nat.zero_le _), (Nat.zero_le _)⟩ dX12_deed_61 ?_
          refine lv_goto (tgt := 69) S.1 S.2.1 dX12_deed_64 (by decide) ?_
          have e_ := Option.some.inj hf
          subst e_
          exact hret _ _ _ _ dX12_deed_69 hW
    · have hf := it_p c_ hf
      refine lv_iload_n S.1 S.2.1 dX12_deed_21 rfl (lv_at hl 3 rfl) ?_
      refine lv_if_ne (tgt := 32) S.1 S.2.1 dX12_deed_22 (by decide) (fun c_ => ?_) (fun c_ => ?_)
      · have hf := it_n c_ hf
        refine lv_bipush (v := (-2)) S.1 S.2.1 dX12_deed_32 bp_m2 ?_
        have e_ := Option.some.inj hf
        subst e_
        exact hret _ _ _ _ dX12_deed_34 hW
      · have hf := it_p c_ hf
        refine lv_aload_n S.1 S.2.1 dX12_deed_25 rfl (lv_at hl 0 rfl) ?_
        obtain ⟨x2, hx2, hf⟩ := bnd_e hf
        refine Rd.cV (c_X12_deeds hx2) S hK hW.1 0 10 rfl rfl kVX12_269 rfl hl.1 [] rfl (Nat.le_of_ble_eq_true rfl) ⟨(Nat.le_of_ble_eq_true rfl), (Nat.le_of_ble_eq_true rfl)⟩ ⟨(Nat.zero_le _), (Nat.zero_le _)⟩ dX12_deed_26 ?_
        refine lv_goto (tgt := 34) S.1 S.2.1 dX12_deed_29 (by decide) ?_
        have e_ := Option.some.inj hf
        subst e_
        exact hret _ _ _ _ dX12_deed_34 hW
  · have hf := it_p c_ hf
    refine lv_bipush (v := (-2)) S.1 S.2.1 dX12_deed_13 bp_m2 ?_
    have e_ := Option.some.inj hf
    subst e_
    exact hret _ _ _ _ dX12_deed_15 hW
def f_X12_sits_L24 (fu : Nat) (o_towns : (Nat → Int32)) (o_town : Int32) (o_people : Int32) (o_sat : Int32) (o_vain : Int32) (o_beside : (Nat → Int32)) (o_debts : (Nat → Int32)) (o_sitting : (Nat → Int32)) (o_visited : (Nat → Int32)) (p1 : Int32) (p2 : Int32) (s4 : Int32) : Option ((Int32) ⊕ ((Int32 × Int32 × Int32 × (Nat → Int32) × (Nat → Int32) × (Nat → Int32) × (Nat → Int32)) ⊕ (Unit))) := if o_people ≤ s4 then some (.inr (.inr ())) else bnd (α := Int32) (rdi 6 o_beside s4) (fun x7 => if x7 = p2 then bnd (α := Int32) (f_X12_hates fu o_towns o_town p1 s4) (fun x8 => if x8 = 0 then some (.inl (s4 + 1)) else some (.inr (.inl ((0 : Int32), o_sat, o_vain, o_beside, o_debts, o_sitting, o_visited)))) else some (.inl (s4 + 1)))
def f_X12_sits (fu : Nat) (o_towns : (Nat → Int32)) (o_town : Int32) (o_people : Int32) (o_sat : Int32) (o_quiet : Int32) (o_vain : Int32) (o_beside : (Nat → Int32)) (o_debts : (Nat → Int32)) (o_sitting : (Nat → Int32)) (o_visited : (Nat → Int32)) (p1 : Int32) (p2 : Int32) : Option (Int32 × Int32 × Int32 × (Nat → Int32) × (Nat → Int32) × (Nat → Int32) × (Nat → Int32)) := bnd (α := Int32) (f_X12_owed fu o_debts p2 p1) (fun x1 => if x1 = 0 then some ((0 : Int32), o_sat, o_vain, o_beside, o_debts, o_sitting, o_visited) else bnd (α := Int32) (rdi 6 o_beside p1) (fun x2 => if (6 : Int32) ≤ x2 then bnd (α := (Int32 × Int32 × Int32 × (Nat → Int32) × (Nat → Int32) × (Nat → Int32) × (Nat → Int32)) ⊕ (Unit)) (lp (f_X12_sits_L24 fu o_towns o_town o_people o_sat o_vain o_beside o_debts o_sitting o_visited p1 p2) fu (0 : Int32)) (fun x5 => cse x5 (fun y24 => some y24) (fun v9 => bnd (α := (Nat → Int32)) (wri 6 o_beside p1 p2) (fun x10 => ltn (o_sat + (1 : Int32)) (fun x11 => bnd (α := Int32) (rdi 6 o_sitting p1) (fun x12 => ltn (x12 + (1 : Int32)) (fun x13 => bnd (α := (Nat → Int32)) (wri 6 o_sitting p1 x13) (fun x14 => bnd (α := Int32) (rdi 6 o_visited p2) (fun x15 => ltn (x15 + (1 : Int32)) (fun x16 => bnd (α := (Nat → Int32)) (wri 6 o_visited p2 x16) (fun x17 => bnd (α := Int32) (f_X12_has fu o_quiet p2) (fun x18 => if x18 = 0 then ltn (((6 : Int32) * p2) + p1) (fun x19 => bnd (α := Int32) (rdi 36 o_debts x19) (fun x20 => ltn (x20 - (1 : Int32)) (fun x21 => bnd (α := (Nat → Int32)) (wri 36 o_debts x19 x21) (fun x22 => some ((1 : Int32), x11, o_vain, x10, x22, x14, x17))))) else ltn (o_vain + (1 : Int32)) (fun x23 => some ((1 : Int32), x11, x23, x10, o_debts, x14, x17))))))))))))) else some ((0 : Int32), o_sat, o_vain, o_beside, o_debts, o_sitting, o_visited)))
set_option maxHeartbeats 4000000 in
set_option maxRecDepth 100000 in
theorem c_X12_sits {l : Launch} {D : va_G} {g : Nat → ClassId} {fu : Nat} {o_q0 o_q1 o_q2 o_q3 o_q4 o_q5 o_q6 o_q7 o_q8 o_q9 o_q10 o_q11 o_q12 o_q13 o_q14 o_q15 o_q16 o_q17 o_q18 o_q19 o_q20 o_q21 o_q22 : Nat} {o_code : Int32} {o_tape : (Nat → Int32)} {o_size : (Nat → Int32)} {o_fault : (Nat → Int32)} {o_faultPlace : (Nat → Int32)} {o_many : (Nat → Int32)} {o_towns : (Nat → Int32)} {o_weeks : (Nat → Int32)} {o_logs : (Nat → Int32)} {o_reached : Int32} {o_length : Int32} {o_begins : Int32} {o_sort : Int32} {o_value : Int32} {o_word : Int64} {o_wrongAt : Int32} {o_laterFault : Int32} {o_laterPlace : Int32} {o_told : (Nat → Int32)} {o_read : (Nat → Int32)} {o_farOne : Int32} {o_good : Int32} {o_town : Int32} {o_people : Int32} {o_when : Int32} {o_sat : Int32} {o_quiet : Int32} {o_vain : Int32} {o_lent : Int32} {o_forgiven : Int32} {o_sundays : Int32} {o_purse : (Nat → Int32)} {o_beside : (Nat → Int32)} {o_debts : (Nat → Int32)} {o_sitting : (Nat → Int32)} {o_visited : (Nat → Int32)} {o_week : Int32} {o_heaps : (Nat → Int32)} {o_taken : (Nat → Int32)} {o_best : (Nat → Int32)} {o_more : (Nat → Int32)} {o_firstOne : Int32} {o_log : Int32} {o_fitting : (Nat → Int32)} {o_found : Int32} {o_seed : Int32} {o_row : (Nat → Int32)} {o_saved : (Nat → Int32)} {p1 : Int32} {p2 : Int32} {r : Int32 × Int32 × Int32 × (Nat → Int32) × (Nat → Int32) × (Nat → Int32) × (Nat → Int32)} (hf : f_X12_sits fu o_towns o_town o_people o_sat o_quiet o_vain o_beside o_debts o_sitting o_visited p1 p2 = some r) : Wr l D (gy g) yX12_sits cX12_sits 4 (some .boolean) 2 [.ref o_q0, .int p1, .int p2] (wMd g o_q0 o_q1 o_q2 o_q3 o_q4 o_q5 o_q6 o_q7 o_q8 o_q9 o_q10 o_q11 o_q12 o_q13 o_q14 o_q15 o_q16 o_q17 o_q18 o_q19 o_q20 o_q21 o_q22 o_code o_tape o_size o_fault o_faultPlace o_many o_towns o_weeks o_logs o_reached o_length o_begins o_sort o_value o_word o_wrongAt o_laterFault o_laterPlace o_told o_read o_farOne o_good o_town o_people o_when o_sat o_quiet o_vain o_lent o_forgiven o_sundays o_purse o_beside o_debts o_sitting o_visited o_week o_heaps o_taken o_best o_more o_firstOne o_log o_fitting o_found o_seed o_row o_saved) (wMd g o_q0 o_q1 o_q2 o_q3 o_q4 o_q5 o_q6 o_q7 o_q8 o_q9 o_q10 o_q11 o_q12 o_q13 o_q14 o_q15 o_q16 o_q17 o_q18 o_q19 o_q20 o_q21 o_q22 o_code o_tape o_size o_fault o_faultPlace o_many o_towns o_weeks o_logs o_reached o_length o_begins o_sort o_value o_word o_wrongAt o_laterFault o_laterPlace o_told o_read o_farOne o_good o_town o_people o_when r.2.1 o_quiet r.2.2.1 o_lent o_forgiven o_sundays o_purse r.2.2.2.1 r.2.2.2.2.1 r.2.2.2.2.2.1 r.2.2.2.2.2.2 o_week o_heaps o_taken o_best o_more o_firstOne o_log o_fitting o_found o_seed o_row o_saved) (some (.int r.1)) := by
  refine Wr.ofZ (by decide) (Nat.le_of_ble_eq_true rfl) ?_
  intro p e s m args below meth c Q A S hK hA hret ls hl hW
  have hl : lv_has ls 4 [(0, .ref o_q0), (1, .int p1), (2, .int p2)] := hl
  refine lv_aload_n S.1 S.2.1 dX12_sits_0 rfl (lv_at hl 0 rfl) ?_
  refine lv_iload_n S.1 S.2.1 dX12_sits_1 rfl (lv_at hl 2 rfl) ?_
  refine lv_iload_n S.1 S.2.1 dX12_sits_2 rfl (lv_at hl 1 rfl) ?_
  obtain ⟨x1, hx1, hf⟩ := bnd_e hf
  refine Rd.cV (c_X12_owed hx1) S hK hW.1 0 10 rfl rfl kVX12_254 rfl hl.1 [] rfl (Nat.le_of_ble_eq_true rfl) ⟨(Nat.le_of_ble_eq_true rfl), (Nat.le_of_ble_eq_true rfl)⟩ ⟨(Nat.zero_le _), (Nat.zero_le _)⟩ dX12_sits_3 ?_
  refine lv_if_eq (tgt := 20) S.1 S.2.1 dX12_sits_6 (by decide) (fun c_ => ?_) (fun c_ => ?_)
  · have hf := it_p c_ hf
    refine lv_iconst (v := 0) S.1 S.2.1 dX12_sits_20 ic_0 ?_
    have e_ := Option.some.inj hf
    subst e_
    exact hret _ _ _ _ (Or.inl rfl) dX12_sits_21 hW
  · have hf := it_n c_ hf
    refine lv_aload_n S.1 S.2.1 dX12_sits_9 rfl (lv_at hl 0 rfl) ?_
    refine gfX12_44 S hK hW.1 0 rfl rfl dX12_sits_10 ?_
    refine lv_iload_n S.1 S.2.1 dX12_sits_13 rfl (lv_at hl 1 rfl) ?_
    obtain ⟨x2, hx2, hf⟩ := bnd_e hf
    refine q_iald S hK hW.1 12 0 rfl rfl hx2 dX12_sits_14 ?_
    refine lv_bipush (v := 6) S.1 S.2.1 dX12_sits_15 bp_6 ?_
    refine lv_icmp_ge (tgt := 22) S.1 S.2.1 dX12_sits_17 (by decide) (fun c_ => ?_) (fun c_ => ?_)
    · have hf := it_p c_ hf
      refine lv_iconst (v := 0) S.1 S.2.1 dX12_sits_22 ic_0 ?_
      refine lv_istore_n (lv' := [(3, .int (0 : Int32)), (0, .ref o_q0), (1, .int p1), (2, .int p2)]) S.1 S.2.1 dX12_sits_23 rfl hl (by decide) rfl (fun ls hl => ?_)
      obtain ⟨x5, hf_, hk5⟩ := bnd_e hf
      have hE5 : ∀ (v9 : Unit), x5 = .inr v9 → ∀ (ls : Array Slot) (H : Heap) (locs : List Loc), lv_has ls 4 [(0, .ref o_q0), (1, .int p1), (2, .int p2)] → St A s.heap D (wMd g o_q0 o_q1 o_q2 o_q3 o_q4 o_q5 o_q6 o_q7 o_q8 o_q9 o_q10 o_q11 o_q12 o_q13 o_q14 o_q15 o_q16 o_q17 o_q18 o_q19 o_q20 o_q21 o_q22 o_code o_tape o_size o_fault o_faultPlace o_many o_towns o_weeks o_logs o_reached o_length o_begins o_sort o_value o_word o_wrongAt o_laterFault o_laterPlace o_told o_read o_farOne o_good o_town o_people o_when o_sat o_quiet o_vain o_lent o_forgiven o_sundays o_purse o_beside o_debts o_sitting o_visited o_week o_heaps o_taken o_best o_more o_firstOne o_log o_fitting o_found o_seed o_row o_saved) H locs → W p l e (rmD 2) s m args below meth c H locs 0 0 Q (F0 m 59 ls []) := by
        intro v9 e_ ls H locs hl hW
        subst e_
        have hf := cse_r hk5
        refine lv_aload_n S.1 S.2.1 dX12_sits_59 rfl (lv_at hl 0 rfl) ?_
        refine gfX12_44 S hK hW.1 0 rfl rfl dX12_sits_60 ?_
        refine lv_iload_n S.1 S.2.1 dX12_sits_63 rfl (lv_at hl 1 rfl) ?_
        refine lv_iload_n S.1 S.2.1 dX12_sits_64 rfl (lv_at hl 2 rfl) ?_
        obtain ⟨x10, hx10, hf⟩ := bnd_e hf
        refine q_iast (ws2 := (wMd g o_q0 o_q1 o_q2 o_q3 o_q4 o_q5 o_q6 o_q7 o_q8 o_q9 o_q10 o_q11 o_q12 o_q13 o_q14 o_q15 o_q16 o_q17 o_q18 o_q19 o_q20 o_q21 o_q22 o_code o_tape o_size o_fault o_faultPlace o_many o_towns o_weeks o_logs o_reached o_length o_begins o_sort o_value o_word o_wrongAt o_laterFault o_laterPlace o_told o_read o_farOne o_good o_town o_people o_when o_sat o_quiet o_vain o_lent o_forgiven o_sundays o_purse x10 o_debts o_sitting o_visited o_week o_heaps o_taken o_best o_more o_firstOne o_log o_fitting o_found o_seed o_row o_saved)) S hK hW 12 0 rfl rfl hx10 rfl dX12_sits_65 (fun H locs hW => ?_)
        refine lv_aload_n S.1 S.2.1 dX12_sits_66 rfl (lv_at hl 0 rfl) ?_
        refine lv_dup S.1 S.2.1 dX12_sits_67 rfl ?_
        refine gfX12_236 S hK hW.1 0 rfl rfl dX12_sits_68 ?_
        refine lv_iconst (v := 1) S.1 S.2.1 dX12_sits_71 ic_1 ?_
        refine lv_iadd S.1 S.2.1 dX12_sits_72 ?_
        refine lv_topi (fun x11 ex11 => ?_)
        have hf := ltn_e hf ex11
        refine pfX12_236 (ws2 := (wMd g o_q0 o_q1 o_q2 o_q3 o_q4 o_q5 o_q6 o_q7 o_q8 o_q9 o_q10 o_q11 o_q12 o_q13 o_q14 o_q15 o_q16 o_q17 o_q18 o_q19 o_q20 o_q21 o_q22 o_code o_tape o_size o_fault o_faultPlace o_many o_towns o_weeks o_logs o_reached o_length o_begins o_sort o_value o_word o_wrongAt o_laterFault o_laterPlace o_told o_read o_farOne o_good o_town o_people o_when x11 o_quiet o_vain o_lent o_forgiven o_sundays o_purse x10 o_debts o_sitting o_visited o_week o_heaps o_taken o_best o_more o_firstOne o_log o_fitting o_found o_seed o_row o_saved)) S hK hW 0 rfl rfl rfl (Nat.le_of_ble_eq_true rfl) rfl dX12_sits_73 (fun H locs hW => ?_)
        refine lv_aload_n S.1 S.2.1 dX12_sits_76 rfl (lv_at hl 0 rfl) ?_
        refine gfX12_50 S hK hW.1 0 rfl rfl dX12_sits_77 ?_
        refine lv_iload_n S.1 S.2.1 dX12_sits_80 rfl (lv_at hl 1 rfl) ?_
        refine lv_dup2_11 S.1 S.2.1 dX12_sits_81 rfl rfl ?_
        obtain ⟨x12, hx12, hf⟩ := bnd_e hf
        refine q_iald S hK hW.1 14 0 rfl rfl hx12 dX12_sits_82 ?_
        refine lv_iconst (v := 1) S.1 S.2.1 dX12_sits_83 ic_1 ?_
        refine lv_iadd S.1 S.2.1 dX12_sits_84 ?_
        refine lv_topi (fun x13 ex13 => ?_)
        have hf := ltn_e hf ex13
        obtain ⟨x14, hx14, hf⟩ := bnd_e hf
        refine q_iast (ws2 := (wMd g o_q0 o_q1 o_q2 o_q3 o_q4 o_q5 o_q6 o_q7 o_q8 o_q9 o_q10 o_q11 o_q12 o_q13 o_q14 o_q15 o_q16 o_q17 o_q18 o_q19 o_q20 o_q21 o_q22 o_code o_tape o_size o_fault o_faultPlace o_many o_towns o_weeks o_logs o_reached o_length o_begins o_sort o_value o_word o_wrongAt o_laterFault o_laterPlace o_told o_read o_farOne o_good o_town o_people o_when x11 o_quiet o_vain o_lent o_forgiven o_sundays o_purse x10 o_debts x14 o_visited o_week o_heaps o_taken o_best o_more o_firstOne o_log o_fitting o_found o_seed o_row o_saved)) S hK hW 14 0 rfl rfl hx14 rfl dX12_sits_85 (fun H locs hW => ?_)
        refine lv_aload_n S.1 S.2.1 dX12_sits_86 rfl (lv_at hl 0 rfl) ?_
        refine gfX12_53 S hK hW.1 0 rfl rfl dX12_sits_87 ?_
        refine lv_iload_n S.1 S.2.1 dX12_sits_90 rfl (lv_at hl 2 rfl) ?_
        refine lv_dup2_11 S.1 S.2.1 dX12_sits_91 rfl rfl ?_
        obtain ⟨x15, hx15, hf⟩ := bnd_e hf
        refine q_iald S hK hW.1 15 0 rfl rfl hx15 dX12_sits_92 ?_
        refine lv_iconst (v := 1) S.1 S.2.1 dX12_sits_93 ic_1 ?_
        refine lv_iadd S.1 S.2.1 dX12_sits_94 ?_
        refine lv_topi (fun x16 ex16 => ?_)
        have hf := ltn_e hf ex16
        obtain ⟨x17, hx17, hf⟩ := bnd_e hf
        refine q_iast (ws2 := (wMd g o_q0 o_q1 o_q2 o_q3 o_q4 o_q5 o_q6 o_q7 o_q8 o_q9 o_q10 o_q11 o_q12 o_q13 o_q14 o_q15 o_q16 o_q17 o_q18 o_q19 o_q20 o_q21 o_q22 o_code o_tape o_size o_fault o_faultPlace o_many o_towns o_weeks o_logs o_reached o_length o_begins o_sort o_value o_word o_wrongAt o_laterFault o_laterPlace o_told o_read o_farOne o_good o_town o_people o_when x11 o_quiet o_vain o_lent o_forgiven o_sundays o_purse x10 o_debts x14 x17 o_week o_heaps o_taken o_best o_more o_firstOne o_log o_fitting o_found o_seed o_row o_saved)) S hK hW 15 0 rfl rfl hx17 rfl dX12_sits_95 (fun H locs hW => ?_)
        refine lv_aload_n S.1 S.2.1 dX12_sits_96 rfl (lv_at hl 0 rfl) ?_
        refine gfX12_239 S hK hW.1 0 rfl rfl dX12_sits_97 ?_
        refine lv_iload_n S.1 S.2.1 dX12_sits_100 rfl (lv_at hl 2 rfl) ?_
        obtain ⟨x18, hx18, hf⟩ := bnd_e hf
        refine Rd.cS (c_X12_has hx18) S hK va_P.nil kSX12_82 rfl hl.1 [] rfl (Nat.le_of_ble_eq_true rfl) ⟨(Nat.le_of_ble_eq_true rfl), (Nat.le_of_ble_eq_true rfl)⟩ ⟨(Nat.zero_le _), (Nat.zero_le _)⟩ dX12_sits_101 ?_
        refine lv_if_eq (tgt := 120) S.1 S.2.1 dX12_sits_104 (by decide) (fun c_ => ?_) (fun c_ => ?_)
        · have hf := it_p c_ hf
          refine lv_aload_n S.1 S.2.1 dX12_sits_120 rfl (lv_at hl 0 rfl) ?_
          refine gfX12_47 S hK hW.1 0 rfl rfl dX12_sits_121 ?_
          refine lv_bipush (v := 6) S.1 S.2.1 dX12_sits_124 bp_6 ?_
          refine lv_iload_n S.1 S.2.1 dX12_sits_126 rfl (lv_at hl 2 rfl) ?_
          refine lv_imul S.1 S.2.1 dX12_sits_127 ?_
          refine lv_iload_n S.1 S.2.1 dX12_sits_128 rfl (lv_at hl 1 rfl) ?_
          refine lv_iadd S.1 S.2.1 dX12_sits_129 ?_
          refine lv_topi (fun x19 ex19 => ?_)
          have hf := ltn_e hf ex19
          refine lv_dup2_11 S.1 S.2.1 dX12_sits_130 rfl rfl ?_
          obtain ⟨x20, hx20, hf⟩ := bnd_e hf
          refine q_iald S hK hW.1 13 0 rfl rfl hx20 dX12_sits_131 ?_
          refine lv_iconst (v := 1) S.1 S.2.1 dX12_sits_132 ic_1 ?_
          refine lv_isub S.1 S.2.1 dX12_sits_133 ?_
          refine lv_topi (fun x21 ex21 => ?_)
          have hf := ltn_e hf ex21
          obtain ⟨x22, hx22, hf⟩ := bnd_e hf
          refine q_iast (ws2 := (wMd g o_q0 o_q1 o_q2 o_q3 o_q4 o_q5 o_q6 o_q7 o_q8 o_q9 o_q10 o_q11 o_q12 o_q13 o_q14 o_q15 o_q16 o_q17 o_q18 o_q19 o_q20 o_q21 o_q22 o_code o_tape o_size o_fault o_faultPlace o_many o_towns o_weeks o_logs o_reached o_length o_begins o_sort o_value o_word o_wrongAt o_laterFault o_laterPlace o_told o_read o_farOne o_good o_town o_people o_when x11 o_quiet o_vain o_lent o_forgiven o_sundays o_purse x10 x22 x14 x17 o_week o_heaps o_taken o_best o_more o_firstOne o_log o_fitting o_found o_seed o_row o_saved)) S hK hW 13 0 rfl rfl hx22 rfl dX12_sits_134 (fun H locs hW => ?_)
          refine lv_iconst (v := 1) S.1 S.2.1 dX12_sits_135 ic_1 ?_
          have e_ := Option.some.inj hf
          subst e_
          exact hret _ _ _ _ (Or.inr rfl) dX12_sits_136 hW
        · have hf := it_n c_ hf
          refine lv_aload_n S.1 S.2.1 dX12_sits_107 rfl (lv_at hl 0 rfl) ?_
          refine lv_dup S.1 S.2.1 dX12_sits_108 rfl ?_
          refine gfX12_242 S hK hW.1 0 rfl rfl dX12_sits_109 ?_
          refine lv_iconst (v := 1) S.1 S.2.1 dX12_sits_112 ic_1 ?_
          refine lv_iadd S.1 S.2.1 dX12_sits_113 ?_
          refine lv_topi (fun x23 ex23 => ?_)
          have hf := ltn_e hf ex23
          refine pfX12_242 (ws2 := (wMd g o_q0 o_q1 o_q2 o_q3 o_q4 o_q5 o_q6 o_q7 o_q8 o_q9 o_q10 o_q11 o_q12 o_q13 o_q14 o_q15 o_q16 o_q17 o_q18 o_q19 o_q20 o_q21 o_q22 o_code o_tape o_size o_fault o_faultPlace o_many o_towns o_weeks o_logs o_reached o_length o_begins o_sort o_value o_word o_wrongAt o_laterFault o_laterPlace o_told o_read o_farOne o_good o_town o_people o_when x11 o_quiet x23 o_lent o_forgiven o_sundays o_purse x10 o_debts x14 x17 o_week o_heaps o_taken o_best o_more o_firstOne o_log o_fitting o_found o_seed o_row o_saved)) S hK hW 0 rfl rfl rfl (Nat.le_of_ble_eq_true rfl) rfl dX12_sits_114 (fun H locs hW => ?_)
          refine lv_goto (tgt := 135) S.1 S.2.1 dX12_sits_117 (by decide) ?_
          refine lv_iconst (v := 1) S.1 S.2.1 dX12_sits_135 ic_1 ?_
          have e_ := Option.some.inj hf
          subst e_
          exact hret _ _ _ _ (Or.inr rfl) dX12_sits_136 hW
      refine lp_ind (P := fun (s4 : Int32) => ∀ (ls : Array Slot) (H : Heap) (locs : List Loc), lv_has ls 4 [(0, .ref o_q0), (1, .int p1), (2, .int p2), (3, .int s4)] → St A s.heap D (wMd g o_q0 o_q1 o_q2 o_q3 o_q4 o_q5 o_q6 o_q7 o_q8 o_q9 o_q10 o_q11 o_q12 o_q13 o_q14 o_q15 o_q16 o_q17 o_q18 o_q19 o_q20 o_q21 o_q22 o_code o_tape o_size o_fault o_faultPlace o_many o_towns o_weeks o_logs o_reached o_length o_begins o_sort o_value o_word o_wrongAt o_laterFault o_laterPlace o_told o_read o_farOne o_good o_town o_people o_when o_sat o_quiet o_vain o_lent o_forgiven o_sundays o_purse o_beside o_debts o_sitting o_visited o_week o_heaps o_taken o_best o_more o_firstOne o_log o_fitting o_found o_seed o_row o_saved) H locs → W p l e (rmD 2) s m args below meth c H locs 0 0 Q (F0 m 24 ls [])) ?_ _ _ hf_ _ _ _ (lv_sub hl [1, 2, 3, 0] rfl) hW
      intro s4 x6 hf hI5 hR5 ls H locs hl hW
      refine lv_iload_n S.1 S.2.1 dX12_sits_24 rfl (lv_at hl 3 rfl) ?_
      refine lv_aload_n S.1 S.2.1 dX12_sits_25 rfl (lv_at hl 0 rfl) ?_
      refine gfX12_230 S hK hW.1 0 rfl rfl dX12_sits_26 ?_
      refine lv_icmp_ge (tgt := 59) S.1 S.2.1 dX12_sits_29 (by decide) (fun c_ => ?_) (fun c_ => ?_)
      · have hf := it_p c_ hf
        have e_ := hR5 _ (Option.some.inj hf).symm
        exact hE5 _ e_.symm _ _ _ (lv_sub hl [0, 1, 2] rfl) hW
      · have hf := it_n c_ hf
        refine lv_aload_n S.1 S.2.1 dX12_sits_32 rfl (lv_at hl 0 rfl) ?_
        refine gfX12_44 S hK hW.1 0 rfl rfl dX12_sits_33 ?_
        refine lv_iload_n S.1 S.2.1 dX12_sits_36 rfl (lv_at hl 3 rfl) ?_
        obtain ⟨x7, hx7, hf⟩ := bnd_e hf
        refine q_iald S hK hW.1 12 0 rfl rfl hx7 dX12_sits_37 ?_
        refine lv_iload_n S.1 S.2.1 dX12_sits_38 rfl (lv_at hl 2 rfl) ?_
        refine lv_icmp_ne (tgt := 53) S.1 S.2.1 dX12_sits_39 (by decide) (fun c_ => ?_) (fun c_ => ?_)
        · have hf := it_n c_ hf
          refine q_iinc (w := 1) (lv' := [(3, .int (s4 + 1)), (0, .ref o_q0), (1, .int p1), (2, .int p2)]) S dX12_sits_53 hl (k := 3) rfl ic_1 (by decide) rfl (fun ls hl => ?_)
          refine lv_goto (tgt := 24) S.1 S.2.1 dX12_sits_56 (by decide) ?_
          exact hI5 _ (Option.some.inj hf).symm _ _ _ (lv_sub hl [1, 2, 3, 0] rfl) hW
        · have hf := it_p c_ hf
          refine lv_aload_n S.1 S.2.1 dX12_sits_42 rfl (lv_at hl 0 rfl) ?_
          refine lv_iload_n S.1 S.2.1 dX12_sits_43 rfl (lv_at hl 1 rfl) ?_
          refine lv_iload_n S.1 S.2.1 dX12_sits_44 rfl (lv_at hl 3 rfl) ?_
          obtain ⟨x8, hx8, hf⟩ := bnd_e hf
          refine Rd.cV (c_X12_hates hx8) S hK hW.1 0 10 rfl rfl kVX12_275 rfl hl.1 [] rfl (Nat.le_of_ble_eq_true rfl) ⟨(Nat.le_of_ble_eq_true rfl), (Nat.le_of_ble_eq_true rfl)⟩ ⟨(Nat.zero_le _), (Nat.zero_le _)⟩ dX12_sits_45 ?_
          refine lv_if_eq (tgt := 53) S.1 S.2.1 dX12_sits_48 (by decide) (fun c_ => ?_) (fun c_ => ?_)
          · have hf := it_p c_ hf
            refine q_iinc (w := 1) (lv' := [(3, .int (s4 + 1)), (0, .ref o_q0), (1, .int p1), (2, .int p2)]) S dX12_sits_53 hl (k := 3) rfl ic_1 (by decide) rfl (fun ls hl => ?_)
            refine lv_goto (tgt := 24) S.1 S.2.1 dX12_sits_56 (by decide) ?_
            exact hI5 _ (Option.some.inj hf).symm _ _ _ (lv_sub hl [1, 2, 3, 0] rfl) hW
          · have hf := it_n c_ hf
            refine lv_iconst (v := 0) S.1 S.2.1 dX12_sits_51 ic_0 ?_
            have e_ := hR5 _ (Option.some.inj hf).symm
            subst e_
            have hf := cse_l hk5
            have e_ := Option.some.inj hf
            subst e_
            exact hret _ _ _ _ (Or.inl rfl) dX12_sits_52 hW
    · have hf := it_n c_ hf
      refine lv_iconst (v := 0) S.1 S.2.1 dX12_sits_20 ic_0 ?_
      have e_ := Option.some.inj hf
      subst e_
      exact hret _ _ _ _ (Or.inl rfl) dX12_sits_21 hW
def f_X12_gives (fu : Nat) (o_purse : (Nat → Int32)) (p1 : Int32) (p2 : Int32) (p3 : Int32) : Option (Int32 × (Nat → Int32)) := bnd (α := Int32) (rdi 6 o_purse p1) (fun x1 => if x1 < p3 then some ((0 : Int32), o_purse) else bnd (α := Int32) (rdi 6 o_purse p2) (fun x2 => if (x2 + p3) ≤ (99 : Int32) then bnd (α := Int32) (rdi 6 o_purse p1) (fun x3 => ltn (x3 - p3) (fun x4 => bnd (α := (Nat → Int32)) (wri 6 o_purse p1 x4) (fun x5 => bnd (α := Int32) (rdi 6 x5 p2) (fun x6 => ltn (x6 + p3) (fun x7 => bnd (α := (Nat → Int32)) (wri 6 x5 p2 x7) (fun x8 => some ((1 : Int32), x8))))))) else some ((0 : Int32), o_purse)))
set_option maxHeartbeats 4000000 in
set_option maxRecDepth 100000 in
theorem c_X12_gives {l : Launch} {D : va_G} {g : Nat → ClassId} {fu : Nat} {o_q0 o_q1 o_q2 o_q3 o_q4 o_q5 o_q6 o_q7 o_q8 o_q9 o_q10 o_q11 o_q12 o_q13 o_q14 o_q15 o_q16 o_q17 o_q18 o_q19 o_q20 o_q21 o_q22 : Nat} {o_code : Int32} {o_tape : (Nat → Int32)} {o_size : (Nat → Int32)} {o_fault : (Nat → Int32)} {o_faultPlace : (Nat → Int32)} {o_many : (Nat → Int32)} {o_towns : (Nat → Int32)} {o_weeks : (Nat → Int32)} {o_logs : (Nat → Int32)} {o_reached : Int32} {o_length : Int32} {o_begins : Int32} {o_sort : Int32} {o_value : Int32} {o_word : Int64} {o_wrongAt : Int32} {o_laterFault : Int32} {o_laterPlace : Int32} {o_told : (Nat → Int32)} {o_read : (Nat → Int32)} {o_farOne : Int32} {o_good : Int32} {o_town : Int32} {o_people : Int32} {o_when : Int32} {o_sat : Int32} {o_quiet : Int32} {o_vain : Int32} {o_lent : Int32} {o_forgiven : Int32} {o_sundays : Int32} {o_purse : (Nat → Int32)} {o_beside : (Nat → Int32)} {o_debts : (Nat → Int32)} {o_sitting : (Nat → Int32)} {o_visited : (Nat → Int32)} {o_week : Int32} {o_heaps : (Nat → Int32)} {o_taken : (Nat → Int32)} {o_best : (Nat → Int32)} {o_more : (Nat → Int32)} {o_firstOne : Int32} {o_log : Int32} {o_fitting : (Nat → Int32)} {o_found : Int32} {o_seed : Int32} {o_row : (Nat → Int32)} {o_saved : (Nat → Int32)} {p1 : Int32} {p2 : Int32} {p3 : Int32} {r : Int32 × (Nat → Int32)} (hf : f_X12_gives fu o_purse p1 p2 p3 = some r) : Wr l D (gy g) yX12_gives cX12_gives 4 (some .boolean) 0 [.ref o_q0, .int p1, .int p2, .int p3] (wMd g o_q0 o_q1 o_q2 o_q3 o_q4 o_q5 o_q6 o_q7 o_q8 o_q9 o_q10 o_q11 o_q12 o_q13 o_q14 o_q15 o_q16 o_q17 o_q18 o_q19 o_q20 o_q21 o_q22 o_code o_tape o_size o_fault o_faultPlace o_many o_towns o_weeks o_logs o_reached o_length o_begins o_sort o_value o_word o_wrongAt o_laterFault o_laterPlace o_told o_read o_farOne o_good o_town o_people o_when o_sat o_quiet o_vain o_lent o_forgiven o_sundays o_purse o_beside o_debts o_sitting o_visited o_week o_heaps o_taken o_best o_more o_firstOne o_log o_fitting o_found o_seed o_row o_saved) (wMd g o_q0 o_q1 o_q2 o_q3 o_q4 o_q5 o_q6 o_q7 o_q8 o_q9 o_q10 o_q11 o_q12 o_q13 o_q14 o_q15 o_q16 o_q17 o_q18 o_q19 o_q20 o_q21 o_q22 o_code o_tape o_size o_fault o_faultPlace o_many o_towns o_weeks o_logs o_reached o_length o_begins o_sort o_value o_word o_wrongAt o_laterFault o_laterPlace o_told o_read o_farOne o_good o_town o_people o_when o_sat o_quiet o_vain o_lent o_forgiven o_sundays r.2 o_beside o_debts o_sitting o_visited o_week o_heaps o_taken o_best o_more o_firstOne o_log o_fitting o_found o_seed o_row o_saved) (some (.int r.1)) := by
  refine Wr.ofZ (by decide) (Nat.le_of_ble_eq_true rfl) ?_
  intro p e s m args below meth c Q A S hK hA hret ls hl hW
  have hl : lv_has ls 4 [(0, .ref o_q0), (1, .int p1), (2, .int p2), (3, .int p3)] := hl
  refine lv_aload_n S.1 S.2.1 dX12_gives_0 rfl (lv_at hl 0 rfl) ?_
  refine gfX12_41 S hK hW.1 0 rfl rfl dX12_gives_1 ?_
  refine lv_iload_n S.1 S.2.1 dX12_gives_4 rfl (lv_at hl 1 rfl) ?_
  obtain ⟨x1, hx1, hf⟩ := bnd_e hf
  refine q_iald S hK hW.1 11 0 rfl rfl hx1 dX12_gives_5 ?_
  refine lv_iload_n S.1 S.2.1 dX12_gives_6 rfl (lv_at hl 3 rfl) ?_
  refine lv_icmp_lt (tgt := 23) S.1 S.2.1 dX12_gives_7 (by decide) (fun c_ => ?_) (fun c_ => ?_)
  · have hf := it_p c_ hf
    refine lv_iconst (v := 0) S.1 S.2.1 dX12_gives_23 ic_0 ?_
    have e_ := Option.some.inj hf
    subst e_
    exact hret _ _ _ _ (Or.inl rfl) dX12_gives_24 hW
  · have hf := it_n c_ hf
    refine lv_aload_n S.1 S.2.1 dX12_gives_10 rfl (lv_at hl 0 rfl) ?_
    refine gfX12_41 S hK hW.1 0 rfl rfl dX12_gives_11 ?_
    refine lv_iload_n S.1 S.2.1 dX12_gives_14 rfl (lv_at hl 2 rfl) ?_
    obtain ⟨x2, hx2, hf⟩ := bnd_e hf
    refine q_iald S hK hW.1 11 0 rfl rfl hx2 dX12_gives_15 ?_
    refine lv_iload_n S.1 S.2.1 dX12_gives_16 rfl (lv_at hl 3 rfl) ?_
    refine lv_iadd S.1 S.2.1 dX12_gives_17 ?_
    refine lv_bipush (v := 99) S.1 S.2.1 dX12_gives_18 bp_99 ?_
    refine lv_icmp_le (tgt := 25) S.1 S.2.1 dX12_gives_20 (by decide) (fun c_ => ?_) (fun c_ => ?_)
    · have hf := it_p c_ hf
      refine lv_aload_n S.1 S.2.1 dX12_gives_25 rfl (lv_at hl 0 rfl) ?_
      refine gfX12_41 S hK hW.1 0 rfl rfl dX12_gives_26 ?_
      refine lv_iload_n S.1 S.2.1 dX12_gives_29 rfl (lv_at hl 1 rfl) ?_
      refine lv_dup2_11 S.1 S.2.1 dX12_gives_30 rfl rfl ?_
      obtain ⟨x3, hx3, hf⟩ := bnd_e hf
      refine q_iald S hK hW.1 11 0 rfl rfl hx3 dX12_gives_31 ?_
      refine lv_iload_n S.1 S.2.1 dX12_gives_32 rfl (lv_at hl 3 rfl) ?_
      refine lv_isub S.1 S.2.1 dX12_gives_33 ?_
      refine lv_topi (fun x4 ex4 => ?_)
      have hf := ltn_e hf ex4
      obtain ⟨x5, hx5, hf⟩ := bnd_e hf
      refine q_iast (ws2 := (wMd g o_q0 o_q1 o_q2 o_q3 o_q4 o_q5 o_q6 o_q7 o_q8 o_q9 o_q10 o_q11 o_q12 o_q13 o_q14 o_q15 o_q16 o_q17 o_q18 o_q19 o_q20 o_q21 o_q22 o_code o_tape o_size o_fault o_faultPlace o_many o_towns o_weeks o_logs o_reached o_length o_begins o_sort o_value o_word o_wrongAt o_laterFault o_laterPlace o_told o_read o_farOne o_good o_town o_people o_when o_sat o_quiet o_vain o_lent o_forgiven o_sundays x5 o_beside o_debts o_sitting o_visited o_week o_heaps o_taken o_best o_more o_firstOne o_log o_fitting o_found o_seed o_row o_saved)) S hK hW 11 0 rfl rfl hx5 rfl dX12_gives_34 (fun H locs hW => ?_)
      refine lv_aload_n S.1 S.2.1 dX12_gives_35 rfl (lv_at hl 0 rfl) ?_
      refine gfX12_41 S hK hW.1 0 rfl rfl dX12_gives_36 ?_
      refine lv_iload_n S.1 S.2.1 dX12_gives_39 rfl (lv_at hl 2 rfl) ?_
      refine lv_dup2_11 S.1 S.2.1 dX12_gives_40 rfl rfl ?_
      obtain ⟨x6, hx6, hf⟩ := bnd_e hf
      refine q_iald S hK hW.1 11 0 rfl rfl hx6 dX12_gives_41 ?_
      refine lv_iload_n S.1 S.2.1 dX12_gives_42 rfl (lv_at hl 3 rfl) ?_
      refine lv_iadd S.1 S.2.1 dX12_gives_43 ?_
      refine lv_topi (fun x7 ex7 => ?_)
      have hf := ltn_e hf ex7
      obtain ⟨x8, hx8, hf⟩ := bnd_e hf
      refine q_iast (ws2 := (wMd g o_q0 o_q1 o_q2 o_q3 o_q4 o_q5 o_q6 o_q7 o_q8 o_q9 o_q10 o_q11 o_q12 o_q13 o_q14 o_q15 o_q16 o_q17 o_q18 o_q19 o_q20 o_q21 o_q22 o_code o_tape o_size o_fault o_faultPlace o_many o_towns o_weeks o_logs o_reached o_length o_begins o_sort o_value o_word o_wrongAt o_laterFault o_laterPlace o_told o_read o_farOne o_good o_town o_people o_when o_sat o_quiet o_vain o_lent o_forgiven o_sundays x8 o_beside o_debts o_sitting o_visited o_week o_heaps o_taken o_best o_more o_firstOne o_log o_fitting o_found o_seed o_row o_saved)) S hK hW 11 0 rfl rfl hx8 rfl dX12_gives_44 (fun H locs hW => ?_)
      refine lv_iconst (v := 1) S.1 S.2.1 dX12_gives_45 ic_1 ?_
      have e_ := Option.some.inj hf
      subst e_
      exact hret _ _ _ _ (Or.inr rfl) dX12_gives_46 hW
    · have hf := it_n c_ hf
      refine lv_iconst (v := 0) S.1 S.2.1 dX12_gives_23 ic_0 ?_
      have e_ := Option.some.inj hf
      subst e_
      exact hret _ _ _ _ (Or.inl rfl) dX12_gives_24 hW
def f_X12_lends (fu : Nat) (o_lent : Int32) (o_purse : (Nat → Int32)) (o_debts : (Nat → Int32)) (p1 : Int32) (p2 : Int32) (p3 : Int32) : Option (Int32 × Int32 × (Nat → Int32) × (Nat → Int32)) := bnd (α := Int32) (f_X12_owed fu o_debts p2 p1) (fun x1 => if (99 : Int32) < (x1 + p3) then some ((0 : Int32), o_lent, o_purse, o_debts) else bnd (α := Int32 × (Nat → Int32)) (f_X12_gives fu o_purse p1 p2 p3) (fun x2 => if x2.1 = 0 then some ((0 : Int32), o_lent, x2.2, o_debts) else ltn (((6 : Int32) * p2) + p1) (fun x3 => bnd (α := Int32) (rdi 36 o_debts x3) (fun x4 => ltn (x4 + p3) (fun x5 => bnd (α := (Nat → Int32)) (wri 36 o_debts x3 x5) (fun x6 => ltn (o_lent + p3) (fun x7 => some ((1 : Int32), x7, x2.2, x6))))))))
set_option maxHeartbeats 4000000 in
set_option maxRecDepth 100000 in
theorem c_X12_lends {l : Launch} {D : va_G} {g : Nat → ClassId} {fu : Nat} {o_q0 o_q1 o_q2 o_q3 o_q4 o_q5 o_q6 o_q7 o_q8 o_q9 o_q10 o_q11 o_q12 o_q13 o_q14 o_q15 o_q16 o_q17 o_q18 o_q19 o_q20 o_q21 o_q22 : Nat} {o_code : Int32} {o_tape : (Nat → Int32)} {o_size : (Nat → Int32)} {o_fault : (Nat → Int32)} {o_faultPlace : (Nat → Int32)} {o_many : (Nat → Int32)} {o_towns : (Nat → Int32)} {o_weeks : (Nat → Int32)} {o_logs : (Nat → Int32)} {o_reached : Int32} {o_length : Int32} {o_begins : Int32} {o_sort : Int32} {o_value : Int32} {o_word : Int64} {o_wrongAt : Int32} {o_laterFault : Int32} {o_laterPlace : Int32} {o_told : (Nat → Int32)} {o_read : (Nat → Int32)} {o_farOne : Int32} {o_good : Int32} {o_town : Int32} {o_people : Int32} {o_when : Int32} {o_sat : Int32} {o_quiet : Int32} {o_vain : Int32} {o_lent : Int32} {o_forgiven : Int32} {o_sundays : Int32} {o_purse : (Nat → Int32)} {o_beside : (Nat → Int32)} {o_debts : (Nat → Int32)} {o_sitting : (Nat → Int32)} {o_visited : (Nat → Int32)} {o_week : Int32} {o_heaps : (Nat → Int32)} {o_taken : (Nat → Int32)} {o_best : (Nat → Int32)} {o_more : (Nat → Int32)} {o_firstOne : Int32} {o_log : Int32} {o_fitting : (Nat → Int32)} {o_found : Int32} {o_seed : Int32} {o_row : (Nat → Int32)} {o_saved : (Nat → Int32)} {p1 : Int32} {p2 : Int32} {p3 : Int32} {r : Int32 × Int32 × (Nat → Int32) × (Nat → Int32)} (hf : f_X12_lends fu o_lent o_purse o_debts p1 p2 p3 = some r) : Wr l D (gy g) yX12_lends cX12_lends 4 (some .boolean) 1 [.ref o_q0, .int p1, .int p2, .int p3] (wMd g o_q0 o_q1 o_q2 o_q3 o_q4 o_q5 o_q6 o_q7 o_q8 o_q9 o_q10 o_q11 o_q12 o_q13 o_q14 o_q15 o_q16 o_q17 o_q18 o_q19 o_q20 o_q21 o_q22 o_code o_tape o_size o_fault o_faultPlace o_many o_towns o_weeks o_logs o_reached o_length o_begins o_sort o_value o_word o_wrongAt o_laterFault o_laterPlace o_told o_read o_farOne o_good o_town o_people o_when o_sat o_quiet o_vain o_lent o_forgiven o_sundays o_purse o_beside o_debts o_sitting o_visited o_week o_heaps o_taken o_best o_more o_firstOne o_log o_fitting o_found o_seed o_row o_saved) (wMd g o_q0 o_q1 o_q2 o_q3 o_q4 o_q5 o_q6 o_q7 o_q8 o_q9 o_q10 o_q11 o_q12 o_q13 o_q14 o_q15 o_q16 o_q17 o_q18 o_q19 o_q20 o_q21 o_q22 o_code o_tape o_size o_fault o_faultPlace o_many o_towns o_weeks o_logs o_reached o_length o_begins o_sort o_value o_word o_wrongAt o_laterFault o_laterPlace o_told o_read o_farOne o_good o_town o_people o_when o_sat o_quiet o_vain r.2.1 o_forgiven o_sundays r.2.2.1 o_beside r.2.2.2 o_sitting o_visited o_week o_heaps o_taken o_best o_more o_firstOne o_log o_fitting o_found o_seed o_row o_saved) (some (.int r.1)) := by
  refine Wr.ofZ (by decide) (Nat.le_of_ble_eq_true rfl) ?_
  intro p e s m args below meth c Q A S hK hA hret ls hl hW
  have hl : lv_has ls 4 [(0, .ref o_q0), (1, .int p1), (2, .int p2), (3, .int p3)] := hl
  refine lv_aload_n S.1 S.2.1 dX12_lends_0 rfl (lv_at hl 0 rfl) ?_
  refine lv_iload_n S.1 S.2.1 dX12_lends_1 rfl (lv_at hl 2 rfl) ?_
  refine lv_iload_n S.1 S.2.1 dX12_lends_2 rfl (lv_at hl 1 rfl) ?_
  obtain ⟨x1, hx1, hf⟩ := bnd_e hf
  refine Rd.cV (c_X12_owed hx1) S hK hW.1 0 10 rfl rfl kVX12_254 rfl hl.1 [] rfl (Nat.le_of_ble_eq_true rfl) ⟨(Nat.le_of_ble_eq_true rfl), (Nat.le_of_ble_eq_true rfl)⟩ ⟨(Nat.zero_le _), (Nat.zero_le _)⟩ dX12_lends_3 ?_
  refine lv_iload_n S.1 S.2.1 dX12_lends_6 rfl (lv_at hl 3 rfl) ?_
  refine lv_iadd S.1 S.2.1 dX12_lends_7 ?_
  refine lv_bipush (v := 99) S.1 S.2.1 dX12_lends_8 bp_99 ?_
  refine lv_icmp_gt (tgt := 23) S.1 S.2.1 dX12_lends_10 (by decide) (fun c_ => ?_) (fun c_ => ?_)
  · have hf := it_p c_ hf
    refine lv_iconst (v := 0) S.1 S.2.1 dX12_lends_23 ic_0 ?_
    have e_ := Option.some.inj hf
    subst e_
    exact hret _ _ _ _ (Or.inl rfl) dX12_lends_24 hW
  · have hf := it_n c_ hf
    refine lv_aload_n S.1 S.2.1 dX12_lends_13 rfl (lv_at hl 0 rfl) ?_
    refine lv_iload_n S.1 S.2.1 dX12_lends_14 rfl (lv_at hl 1 rfl) ?_
    refine lv_iload_n S.1 S.2.1 dX12_lends_15 rfl (lv_at hl 2 rfl) ?_
    refine lv_iload_n S.1 S.2.1 dX12_lends_16 rfl (lv_at hl 3 rfl) ?_
    obtain ⟨x2, hx2, hf⟩ := bnd_e hf
    refine Wr.goW (Wr.runV (c_X12_gives hx2) S hK hW.1 hW.2.1 0 10 rfl rfl kVX12_278 rfl hl.1 [] rfl (Nat.le_of_ble_eq_true rfl) ⟨(Nat.le_of_ble_eq_true rfl), (Nat.le_of_ble_eq_true rfl)⟩ ⟨(Nat.zero_le _), (Nat.zero_le _)⟩ dX12_lends_17) hW hA (fun H locs hW => ?_)
    refine lv_if_ne (tgt := 25) S.1 S.2.1 dX12_lends_20 (by decide) (fun c_ => ?_) (fun c_ => ?_)
    · have hf := it_n c_ hf
      refine lv_aload_n S.1 S.2.1 dX12_lends_25 rfl (lv_at hl 0 rfl) ?_
      refine gfX12_47 S hK hW.1 0 rfl rfl dX12_lends_26 ?_
      refine lv_bipush (v := 6) S.1 S.2.1 dX12_lends_29 bp_6 ?_
      refine lv_iload_n S.1 S.2.1 dX12_lends_31 rfl (lv_at hl 2 rfl) ?_
      refine lv_imul S.1 S.2.1 dX12_lends_32 ?_
      refine lv_iload_n S.1 S.2.1 dX12_lends_33 rfl (lv_at hl 1 rfl) ?_
      refine lv_iadd S.1 S.2.1 dX12_lends_34 ?_
      refine lv_topi (fun x3 ex3 => ?_)
      have hf := ltn_e hf ex3
      refine lv_dup2_11 S.1 S.2.1 dX12_lends_35 rfl rfl ?_
      obtain ⟨x4, hx4, hf⟩ := bnd_e hf
      refine q_iald S hK hW.1 13 0 rfl rfl hx4 dX12_lends_36 ?_
      refine lv_iload_n S.1 S.2.1 dX12_lends_37 rfl (lv_at hl 3 rfl) ?_
      refine lv_iadd S.1 S.2.1 dX12_lends_38 ?_
      refine lv_topi (fun x5 ex5 => ?_)
      have hf := ltn_e hf ex5
      obtain ⟨x6, hx6, hf⟩ := bnd_e hf
      refine q_iast (ws2 := (wMd g o_q0 o_q1 o_q2 o_q3 o_q4 o_q5 o_q6 o_q7 o_q8 o_q9 o_q10 o_q11 o_q12 o_q13 o_q14 o_q15 o_q16 o_q17 o_q18 o_q19 o_q20 o_q21 o_q22 o_code o_tape o_size o_fault o_faultPlace o_many o_towns o_weeks o_logs o_reached o_length o_begins o_sort o_value o_word o_wrongAt o_laterFault o_laterPlace o_told o_read o_farOne o_good o_town o_people o_when o_sat o_quiet o_vain o_lent o_forgiven o_sundays x2.2 o_beside x6 o_sitting o_visited o_week o_heaps o_taken o_best o_more o_firstOne o_log o_fitting o_found o_seed o_row o_saved)) S hK hW 13 0 rfl rfl hx6 rfl dX12_lends_39 (fun H locs hW => ?_)
      refine lv_aload_n S.1 S.2.1 dX12_lends_40 rfl (lv_at hl 0 rfl) ?_
      refine lv_dup S.1 S.2.1 dX12_lends_41 rfl ?_
      refine gfX12_245 S hK hW.1 0 rfl rfl dX12_lends_42 ?_
      refine lv_iload_n S.1 S.2.1 dX12_lends_45 rfl (lv_at hl 3 rfl) ?_
      refine lv_iadd S.1 S.2.1 dX12_lends_46 ?_
      refine lv_topi (fun x7 ex7 => ?_)
      have hf := ltn_e hf ex7
      refine pfX12_245 (ws2 := (wMd g o_q0 o_q1 o_q2 o_q3 o_q4 o_q5 o_q6 o_q7 o_q8 o_q9 o_q10 o_q11 o_q12 o_q13 o_q14 o_q15 o_q16 o_q17 o_q18 o_q19 o_q20 o_q21 o_q22 o_code o_tape o_size o_fault o_faultPlace o_many o_towns o_weeks o_logs o_reached o_length o_begins o_sort o_value o_word o_wrongAt o_laterFault o_laterPlace o_told o_read o_farOne o_good o_town o_people o_when o_sat o_quiet o_vain x7 o_forgiven o_sundays x2.2 o_beside x6 o_sitting o_visited o_week o_heaps o_taken o_best o_more o_firstOne o_log o_fitting o_found o_seed o_row o_saved)) S hK hW 0 rfl rfl rfl (Nat.le_of_ble_eq_true rfl) rfl dX12_lends_47 (fun H locs hW => ?_)
      refine lv_iconst (v := 1) S.1 S.2.1 dX12_lends_50 ic_1 ?_
      have e_ := Option.some.inj hf
      subst e_
      exact hret _ _ _ _ (Or.inr rfl) dX12_lends_51 hW
    · have hf := it_p c_ hf
      refine lv_iconst (v := 0) S.1 S.2.1 dX12_lends_23 ic_0 ?_
      have e_ := Option.some.inj hf
      subst e_
      exact hret _ _ _ _ (Or.inl rfl) dX12_lends_24 hW
def f_X12_pays (fu : Nat) (o_purse : (Nat → Int32)) (o_debts : (Nat → Int32)) (p1 : Int32) (p2 : Int32) (p3 : Int32) : Option (Int32 × (Nat → Int32) × (Nat → Int32)) := bnd (α := Int32) (f_X12_owed fu o_debts p1 p2) (fun x1 => if x1 < p3 then some ((0 : Int32), o_purse, o_debts) else bnd (α := Int32 × (Nat → Int32)) (f_X12_gives fu o_purse p1 p2 p3) (fun x2 => if x2.1 = 0 then some ((0 : Int32), x2.2, o_debts) else ltn (((6 : Int32) * p1) + p2) (fun x3 => bnd (α := Int32) (rdi 36 o_debts x3) (fun x4 => ltn (x4 - p3) (fun x5 => bnd (α := (Nat → Int32)) (wri 36 o_debts x3 x5) (fun x6 => some ((1 : Int32), x2.2, x6)))))))
set_option maxHeartbeats 4000000 in
set_option maxRecDepth 100000 in
theorem c_X12_pays {l : Launch} {D : va_G} {g : Nat → ClassId} {fu : Nat} {o_q0 o_q1 o_q2 o_q3 o_q4 o_q5 o_q6 o_q7 o_q8 o_q9 o_q10 o_q11 o_q12 o_q13 o_q14 o_q15 o_q16 o_q17 o_q18 o_q19 o_q20 o_q21 o_q22 : Nat} {o_code : Int32} {o_tape : (Nat → Int32)} {o_size : (Nat → Int32)} {o_fault : (Nat → Int32)} {o_faultPlace : (Nat → Int32)} {o_many : (Nat → Int32)} {o_towns : (Nat → Int32)} {o_weeks : (Nat → Int32)} {o_logs : (Nat → Int32)} {o_reached : Int32} {o_length : Int32} {o_begins : Int32} {o_sort : Int32} {o_value : Int32} {o_word : Int64} {o_wrongAt : Int32} {o_laterFault : Int32} {o_laterPlace : Int32} {o_told : (Nat → Int32)} {o_read : (Nat → Int32)} {o_farOne : Int32} {o_good : Int32} {o_town : Int32} {o_people : Int32} {o_when : Int32} {o_sat : Int32} {o_quiet : Int32} {o_vain : Int32} {o_lent : Int32} {o_forgiven : Int32} {o_sundays : Int32} {o_purse : (Nat → Int32)} {o_beside : (Nat → Int32)} {o_debts : (Nat → Int32)} {o_sitting : (Nat → Int32)} {o_visited : (Nat → Int32)} {o_week : Int32} {o_heaps : (Nat → Int32)} {o_taken : (Nat → Int32)} {o_best : (Nat → Int32)} {o_more : (Nat → Int32)} {o_firstOne : Int32} {o_log : Int32} {o_fitting : (Nat → Int32)} {o_found : Int32} {o_seed : Int32} {o_row : (Nat → Int32)} {o_saved : (Nat → Int32)} {p1 : Int32} {p2 : Int32} {p3 : Int32} {r : Int32 × (Nat → Int32) × (Nat → Int32)} (hf : f_X12_pays fu o_purse o_debts p1 p2 p3 = some r) : Wr l D (gy g) yX12_pays cX12_pays 4 (some .boolean) 1 [.ref o_q0, .int p1, .int p2, .int p3] (wMd g o_q0 o_q1 o_q2 o_q3 o_q4 o_q5 o_q6 o_q7 o_q8 o_q9 o_q10 o_q11 o_q12 o_q13 o_q14 o_q15 o_q16 o_q17 o_q18 o_q19 o_q20 o_q21 o_q22 o_code o_tape o_size o_fault o_faultPlace o_many o_towns o_weeks o_logs o_reached o_length o_begins o_sort o_value o_word o_wrongAt o_laterFault o_laterPlace o_told o_read o_farOne o_good o_town o_people o_when o_sat o_quiet o_vain o_lent o_forgiven o_sundays o_purse o_beside o_debts o_sitting o_visited o_week o_heaps o_taken o_best o_more o_firstOne o_log o_fitting o_found o_seed o_row o_saved) (wMd g o_q0 o_q1 o_q2 o_q3 o_q4 o_q5 o_q6 o_q7 o_q8 o_q9 o_q10 o_q11 o_q12 o_q13 o_q14 o_q15 o_q16 o_q17 o_q18 o_q19 o_q20 o_q21 o_q22 o_code o_tape o_size o_fault o_faultPlace o_many o_towns o_weeks o_logs o_reached o_length o_begins o_sort o_value o_word o_wrongAt o_laterFault o_laterPlace o_told o_read o_farOne o_good o_town o_people o_when o_sat o_quiet o_vain o_lent o_forgiven o_sundays r.2.1 o_beside r.2.2 o_sitting o_visited o_week o_heaps o_taken o_best o_more o_firstOne o_log o_fitting o_found o_seed o_row o_saved) (some (.int r.1)) := by
  refine Wr.ofZ (by decide) (Nat.le_of_ble_eq_true rfl) ?_
  intro p e s m args below meth c Q A S hK hA hret ls hl hW
  have hl : lv_has ls 4 [(0, .ref o_q0), (1, .int p1), (2, .int p2), (3, .int p3)] := hl
  refine lv_aload_n S.1 S.2.1 dX12_pays_0 rfl (lv_at hl 0 rfl) ?_
  refine lv_iload_n S.1 S.2.1 dX12_pays_1 rfl (lv_at hl 1 rfl) ?_
  refine lv_iload_n S.1 S.2.1 dX12_pays_2 rfl (lv_at hl 2 rfl) ?_
  obtain ⟨x1, hx1, hf⟩ := bnd_e hf
  refine Rd.cV (c_X12_owed hx1) S hK hW.1 0 10 rfl rfl kVX12_254 rfl hl.1 [] rfl (Nat.le_of_ble_eq_true rfl) ⟨(Nat.le_of_ble_eq_true rfl), (Nat.le_of_ble_eq_true rfl)⟩ ⟨(Nat.zero_le _), (Nat.zero_le _)⟩ dX12_pays_3 ?_
  refine lv_iload_n S.1 S.2.1 dX12_pays_6 rfl (lv_at hl 3 rfl) ?_
  refine lv_icmp_lt (tgt := 20) S.1 S.2.1 dX12_pays_7 (by decide) (fun c_ => ?_) (fun c_ => ?_)
  · have hf := it_p c_ hf
    refine lv_iconst (v := 0) S.1 S.2.1 dX12_pays_20 ic_0 ?_
    have e_ := Option.some.inj hf
    subst e_
    exact hret _ _ _ _ (Or.inl rfl) dX12_pays_21 hW
  · have hf := it_n c_ hf
    refine lv_aload_n S.1 S.2.1 dX12_pays_10 rfl (lv_at hl 0 rfl) ?_
    refine lv_iload_n S.1 S.2.1 dX12_pays_11 rfl (lv_at hl 1 rfl) ?_
    refine lv_iload_n S.1 S.2.1 dX12_pays_12 rfl (lv_at hl 2 rfl) ?_
    refine lv_iload_n S.1 S.2.1 dX12_pays_13 rfl (lv_at hl 3 rfl) ?_
    obtain ⟨x2, hx2, hf⟩ := bnd_e hf
    refine Wr.goW (Wr.runV (c_X12_gives hx2) S hK hW.1 hW.2.1 0 10 rfl rfl kVX12_278 rfl hl.1 [] rfl (Nat.le_of_ble_eq_true rfl) ⟨(Nat.le_of_ble_eq_true rfl), (Nat.le_of_ble_eq_true rfl)⟩ ⟨(Nat.zero_le _), (Nat.zero_le _)⟩ dX12_pays_14) hW hA (fun H locs hW => ?_)
    refine lv_if_ne (tgt := 22) S.1 S.2.1 dX12_pays_17 (by decide) (fun c_ => ?_) (fun c_ => ?_)
    · have hf := it_n c_ hf
      refine lv_aload_n S.1 S.2.1 dX12_pays_22 rfl (lv_at hl 0 rfl) ?_
      refine gfX12_47 S hK hW.1 0 rfl rfl dX12_pays_23 ?_
      refine lv_bipush (v := 6) S.1 S.2.1 dX12_pays_26 bp_6 ?_
      refine lv_iload_n S.1 S.2.1 dX12_pays_28 rfl (lv_at hl 1 rfl) ?_
      refine lv_imul S.1 S.2.1 dX12_pays_29 ?_
      refine lv_iload_n S.1 S.2.1 dX12_pays_30 rfl (lv_at hl 2 rfl) ?_
      refine lv_iadd S.1 S.2.1 dX12_pays_31 ?_
      refine lv_topi (fun x3 ex3 => ?_)
      have hf := ltn_e hf ex3
      refine lv_dup2_11 S.1 S.2.1 dX12_pays_32 rfl rfl ?_
      obtain ⟨x4, hx4, hf⟩ := bnd_e hf
      refine q_iald S hK hW.1 13 0 rfl rfl hx4 dX12_pays_33 ?_
      refine lv_iload_n S.1 S.2.1 dX12_pays_34 rfl (lv_at hl 3 rfl) ?_
      refine lv_isub S.1 S.2.1 dX12_pays_35 ?_
      refine lv_topi (fun x5 ex5 => ?_)
      have hf := ltn_e hf ex5
      obtain ⟨x6, hx6, hf⟩ := bnd_e hf
      refine q_iast (ws2 := (wMd g o_q0 o_q1 o_q2 o_q3 o_q4 o_q5 o_q6 o_q7 o_q8 o_q9 o_q10 o_q11 o_q12 o_q13 o_q14 o_q15 o_q16 o_q17 o_q18 o_q19 o_q20 o_q21 o_q22 o_code o_tape o_size o_fault o_faultPlace o_many o_towns o_weeks o_logs o_reached o_length o_begins o_sort o_value o_word o_wrongAt o_laterFault o_laterPlace o_told o_read o_farOne o_good o_town o_people o_when o_sat o_quiet o_vain o_lent o_forgiven o_sundays x2.2 o_beside x6 o_sitting o_visited o_week o_heaps o_taken o_best o_more o_firstOne o_log o_fitting o_found o_seed o_row o_saved)) S hK hW 13 0 rfl rfl hx6 rfl dX12_pays_36 (fun H locs hW => ?_)
      refine lv_iconst (v := 1) S.1 S.2.1 dX12_pays_37 ic_1 ?_
      have e_ := Option.some.inj hf
      subst e_
      exact hret _ _ _ _ (Or.inr rfl) dX12_pays_38 hW
    · have hf := it_p c_ hf
      refine lv_iconst (v := 0) S.1 S.2.1 dX12_pays_20 ic_0 ?_
      have e_ := Option.some.inj hf
      subst e_
      exact hret _ _ _ _ (Or.inl rfl) dX12_pays_21 hW
def f_X12_forgives (fu : Nat) (o_forgiven : Int32) (o_debts : (Nat → Int32)) (p1 : Int32) (p2 : Int32) (p3 : Int32) : Option (Int32 × Int32 × (Nat → Int32)) := bnd (α := Int32) (f_X12_owed fu o_debts p2 p1) (fun x1 => if p3 ≤ x1 then ltn (((6 : Int32) * p2) + p1) (fun x2 => bnd (α := Int32) (rdi 36 o_debts x2) (fun x3 => ltn (x3 - p3) (fun x4 => bnd (α := (Nat → Int32)) (wri 36 o_debts x2 x4) (fun x5 => ltn (o_forgiven + p3) (fun x6 => some ((1 : Int32), x6, x5)))))) else some ((0 : Int32), o_forgiven, o_debts))
set_option maxHeartbeats 4000000 in
set_option maxRecDepth 100000 in
theorem c_X12_forgives {l : Launch} {D : va_G} {g : Nat → ClassId} {fu : Nat} {o_q0 o_q1 o_q2 o_q3 o_q4 o_q5 o_q6 o_q7 o_q8 o_q9 o_q10 o_q11 o_q12 o_q13 o_q14 o_q15 o_q16 o_q17 o_q18 o_q19 o_q20 o_q21 o_q22 : Nat} {o_code : Int32} {o_tape : (Nat → Int32)} {o_size : (Nat → Int32)} {o_fault : (Nat → Int32)} {o_faultPlace : (Nat → Int32)} {o_many : (Nat → Int32)} {o_towns : (Nat → Int32)} {o_weeks : (Nat → Int32)} {o_logs : (Nat → Int32)} {o_reached : Int32} {o_length : Int32} {o_begins : Int32} {o_sort : Int32} {o_value : Int32} {o_word : Int64} {o_wrongAt : Int32} {o_laterFault : Int32} {o_laterPlace : Int32} {o_told : (Nat → Int32)} {o_read : (Nat → Int32)} {o_farOne : Int32} {o_good : Int32} {o_town : Int32} {o_people : Int32} {o_when : Int32} {o_sat : Int32} {o_quiet : Int32} {o_vain : Int32} {o_lent : Int32} {o_forgiven : Int32} {o_sundays : Int32} {o_purse : (Nat → Int32)} {o_beside : (Nat → Int32)} {o_debts : (Nat → Int32)} {o_sitting : (Nat → Int32)} {o_visited : (Nat → Int32)} {o_week : Int32} {o_heaps : (Nat → Int32)} {o_taken : (Nat → Int32)} {o_best : (Nat → Int32)} {o_more : (Nat → Int32)} {o_firstOne : Int32} {o_log : Int32} {o_fitting : (Nat → Int32)} {o_found : Int32} {o_seed : Int32} {o_row : (Nat → Int32)} {o_saved : (Nat → Int32)} {p1 : Int32} {p2 : Int32} {p3 : Int32} {r : Int32 × Int32 × (Nat → Int32)} (hf : f_X12_forgives fu o_forgiven o_debts p1 p2 p3 = some r) : Wr l D (gy g) yX12_forgives cX12_forgives 4 (some .boolean) 1 [.ref o_q0, .int p1, .int p2, .int p3] (wMd g o_q0 o_q1 o_q2 o_q3 o_q4 o_q5 o_q6 o_q7 o_q8 o_q9 o_q10 o_q11 o_q12 o_q13 o_q14 o_q15 o_q16 o_q17 o_q18 o_q19 o_q20 o_q21 o_q22 o_code o_tape o_size o_fault o_faultPlace o_many o_towns o_weeks o_logs o_reached o_length o_begins o_sort o_value o_word o_wrongAt o_laterFault o_laterPlace o_told o_read o_farOne o_good o_town o_people o_when o_sat o_quiet o_vain o_lent o_forgiven o_sundays o_purse o_beside o_debts o_sitting o_visited o_week o_heaps o_taken o_best o_more o_firstOne o_log o_fitting o_found o_seed o_row o_saved) (wMd g o_q0 o_q1 o_q2 o_q3 o_q4 o_q5 o_q6 o_q7 o_q8 o_q9 o_q10 o_q11 o_q12 o_q13 o_q14 o_q15 o_q16 o_q17 o_q18 o_q19 o_q20 o_q21 o_q22 o_code o_tape o_size o_fault o_faultPlace o_many o_towns o_weeks o_logs o_reached o_length o_begins o_sort o_value o_word o_wrongAt o_laterFault o_laterPlace o_told o_read o_farOne o_good o_town o_people o_when o_sat o_quiet o_vain o_lent r.2.1 o_sundays o_purse o_beside r.2.2 o_sitting o_visited o_week o_heaps o_taken o_best o_more o_firstOne o_log o_fitting o_found o_seed o_row o_saved) (some (.int r.1)) := by
  refine Wr.ofZ (by decide) (Nat.le_of_ble_eq_true rfl) ?_
  intro p e s m args below meth c Q A S hK hA hret ls hl hW
  have hl : lv_has ls 4 [(0, .ref o_q0), (1, .int p1), (2, .int p2), (3, .int p3)] := hl
  refine lv_aload_n S.1 S.2.1 dX12_forgives_0 rfl (lv_at hl 0 rfl) ?_
  refine lv_iload_n S.1 S.2.1 dX12_forgives_1 rfl (lv_at hl 2 rfl) ?_
  refine lv_iload_n S.1 S.2.1 dX12_forgives_2 rfl (lv_at hl 1 rfl) ?_
  obtain ⟨x1, hx1, hf⟩ := bnd_e hf
  refine Rd.cV (c_X12_owed hx1) S hK hW.1 0 10 rfl rfl kVX12_254 rfl hl.1 [] rfl (Nat.le_of_ble_eq_true rfl) ⟨(Nat.le_of_ble_eq_true rfl), (Nat.le_of_ble_eq_true rfl)⟩ ⟨(Nat.zero_le _), (Nat.zero_le _)⟩ dX12_forgives_3 ?_
  refine lv_iload_n S.1 S.2.1 dX12_forgives_6 rfl (lv_at hl 3 rfl) ?_
  refine lv_icmp_ge (tgt := 12) S.1 S.2.1 dX12_forgives_7 (by decide) (fun c_ => ?_) (fun c_ => ?_)
  · have hf := it_p c_ hf
    refine lv_aload_n S.1 S.2.1 dX12_forgives_12 rfl (lv_at hl 0 rfl) ?_
    refine gfX12_47 S hK hW.1 0 rfl rfl dX12_forgives_13 ?_
    refine lv_bipush (v := 6) S.1 S.2.1 dX12_forgives_16 bp_6 ?_
    refine lv_iload_n S.1 S.2.1 dX12_forgives_18 rfl (lv_at hl 2 rfl) ?_
    refine lv_imul S.1 S.2.1 dX12_forgives_19 ?_
    refine lv_iload_n S.1 S.2.1 dX12_forgives_20 rfl (lv_at hl 1 rfl) ?_
    refine lv_iadd S.1 S.2.1 dX12_forgives_21 ?_
    refine lv_topi (fun x2 ex2 => ?_)
    have hf := ltn_e hf ex2
    refine lv_dup2_11 S.1 S.2.1 dX12_forgives_22 rfl rfl ?_
    obtain ⟨x3, hx3, hf⟩ := bnd_e hf
    refine q_iald S hK hW.1 13 0 rfl rfl hx3 dX12_forgives_23 ?_
    refine lv_iload_n S.1 S.2.1 dX12_forgives_24 rfl (lv_at hl 3 rfl) ?_
    refine lv_isub S.1 S.2.1 dX12_forgives_25 ?_
    refine lv_topi (fun x4 ex4 => ?_)
    have hf := ltn_e hf ex4
    obtain ⟨x5, hx5, hf⟩ := bnd_e hf
    refine q_iast (ws2 := (wMd g o_q0 o_q1 o_q2 o_q3 o_q4 o_q5 o_q6 o_q7 o_q8 o_q9 o_q10 o_q11 o_q12 o_q13 o_q14 o_q15 o_q16 o_q17 o_q18 o_q19 o_q20 o_q21 o_q22 o_code o_tape o_size o_fault o_faultPlace o_many o_towns o_weeks o_logs o_reached o_length o_begins o_sort o_value o_word o_wrongAt o_laterFault o_laterPlace o_told o_read o_farOne o_good o_town o_people o_when o_sat o_quiet o_vain o_lent o_forgiven o_sundays o_purse o_beside x5 o_sitting o_visited o_week o_heaps o_taken o_best o_more o_firstOne o_log o_fitting o_found o_seed o_row o_saved)) S hK hW 13 0 rfl rfl hx5 rfl dX12_forgives_26 (fun H locs hW => ?_)
    refine lv_aload_n S.1 S.2.1 dX12_forgives_27 rfl (lv_at hl 0 rfl) ?_
    refine lv_dup S.1 S.2.1 dX12_forgives_28 rfl ?_
    refine gfX12_248 S hK hW.1 0 rfl rfl dX12_forgives_29 ?_
    refine lv_iload_n S.1 S.2.1 dX12_forgives_32 rfl (lv_at hl 3 rfl) ?_
    refine lv_iadd S.1 S.2.1 dX12_forgives_33 ?_
    refine lv_topi (fun x6 ex6 => ?_)
    have hf := ltn_e hf ex6
    refine pfX12_248 (ws2 := (wMd g o_q0 o_q1 o_q2 o_q3 o_q4 o_q5 o_q6 o_q7 o_q8 o_q9 o_q10 o_q11 o_q12 o_q13 o_q14 o_q15 o_q16 o_q17 o_q18 o_q19 o_q20 o_q21 o_q22 o_code o_tape o_size o_fault o_faultPlace o_many o_towns o_weeks o_logs o_reached o_length o_begins o_sort o_value o_word o_wrongAt o_laterFault o_laterPlace o_told o_read o_farOne o_good o_town o_people o_when o_sat o_quiet o_vain o_lent x6 o_sundays o_purse o_beside x5 o_sitting o_visited o_week o_heaps o_taken o_best o_more o_firstOne o_log o_fitting o_found o_seed o_row o_saved)) S hK hW 0 rfl rfl rfl (Nat.le_of_ble_eq_true rfl) rfl dX12_forgives_34 (fun H locs hW => ?_)
    refine lv_iconst (v := 1) S.1 S.2.1 dX12_forgives_37 ic_1 ?_
    have e_ := Option.some.inj hf
    subst e_
    exact hret _ _ _ _ (Or.inr rfl) dX12_forgives_38 hW
  · have hf := it_n c_ hf
    refine lv_iconst (v := 0) S.1 S.2.1 dX12_forgives_10 ic_0 ?_
    have e_ := Option.some.inj hf
    subst e_
    exact hret _ _ _ _ (Or.inl rfl) dX12_forgives_11 hW
def f_X12_goesOn_L12  (s3 : Int32 × (Nat → Int32)) : Option ((Int32 × (Nat → Int32)) ⊕ ((Nat → Int32))) := if (6 : Int32) ≤ s3.1 then some (.inr s3.2) else bnd (α := (Nat → Int32)) (wri 6 s3.2 s3.1 (6 : Int32)) (fun x6 => some (.inl ((s3.1 + 1), x6)))
def f_X12_goesOn_L54 (fu : Nat) (s10 : Int32 × (Nat → Int32)) : Option ((Int32 × (Nat → Int32)) ⊕ ((Nat → Int32))) := if (36 : Int32) ≤ s10.1 then some (.inr s10.2) else bnd (α := Int32) (rdi 36 s10.2 s10.1) (fun x13 => if x13 ≤ 0 then bnd (α := (Nat → Int32)) (wri 36 s10.2 s10.1 (0 : Int32)) (fun x14 => some (.inl ((s10.1 + 1), x14))) else bnd (α := Int32) (rdi 36 s10.2 s10.1) (fun x15 => bnd (α := Int32) (f_X12_lesser fu (99 : Int32) (x15 + (1 : Int32))) (fun x16 => bnd (α := (Nat → Int32)) (wri 36 s10.2 s10.1 x16) (fun x17 => some (.inl ((s10.1 + 1), x17))))))
def f_X12_goesOn (fu : Nat) (o_when : Int32) (o_sundays : Int32) (o_beside : (Nat → Int32)) (o_debts : (Nat → Int32)) : Option (Int32 × Int32 × (Nat → Int32) × (Nat → Int32)) := ltn (o_when + (1 : Int32)) (fun x1 => bnd (α := (Nat → Int32)) (lp (f_X12_goesOn_L12) fu ((0 : Int32), o_beside)) (fun v7 => if (jrm x1 (10 : Int32)) = 0 then ltn (o_sundays + (1 : Int32)) (fun x8 => bnd (α := (Nat → Int32)) (lp (f_X12_goesOn_L54 fu) fu ((0 : Int32), o_debts)) (fun v18 => some (x1, x8, v7, v18))) else some (x1, o_sundays, v7, o_debts)))
set_option maxHeartbeats 4000000 in
set_option maxRecDepth 100000 in
theorem c_X12_goesOn {l : Launch} {D : va_G} {g : Nat → ClassId} {fu : Nat} {o_q0 o_q1 o_q2 o_q3 o_q4 o_q5 o_q6 o_q7 o_q8 o_q9 o_q10 o_q11 o_q12 o_q13 o_q14 o_q15 o_q16 o_q17 o_q18 o_q19 o_q20 o_q21 o_q22 : Nat} {o_code : Int32} {o_tape : (Nat → Int32)} {o_size : (Nat → Int32)} {o_fault : (Nat → Int32)} {o_faultPlace : (Nat → Int32)} {o_many : (Nat → Int32)} {o_towns : (Nat → Int32)} {o_weeks : (Nat → Int32)} {o_logs : (Nat → Int32)} {o_reached : Int32} {o_length : Int32} {o_begins : Int32} {o_sort : Int32} {o_value : Int32} {o_word : Int64} {o_wrongAt : Int32} {o_laterFault : Int32} {o_laterPlace : Int32} {o_told : (Nat → Int32)} {o_read : (Nat → Int32)} {o_farOne : Int32} {o_good : Int32} {o_town : Int32} {o_people : Int32} {o_when : Int32} {o_sat : Int32} {o_quiet : Int32} {o_vain : Int32} {o_lent : Int32} {o_forgiven : Int32} {o_sundays : Int32} {o_purse : (Nat → Int32)} {o_beside : (Nat → Int32)} {o_debts : (Nat → Int32)} {o_sitting : (Nat → Int32)} {o_visited : (Nat → Int32)} {o_week : Int32} {o_heaps : (Nat → Int32)} {o_taken : (Nat → Int32)} {o_best : (Nat → Int32)} {o_more : (Nat → Int32)} {o_firstOne : Int32} {o_log : Int32} {o_fitting : (Nat → Int32)} {o_found : Int32} {o_seed : Int32} {o_row : (Nat → Int32)} {o_saved : (Nat → Int32)} {r : Int32 × Int32 × (Nat → Int32) × (Nat → Int32)} (hf : f_X12_goesOn fu o_when o_sundays o_beside o_debts = some r) : Wr l D (gy g) yX12_goesOn cX12_goesOn 2 none 1 [.ref o_q0] (wMd g o_q0 o_q1 o_q2 o_q3 o_q4 o_q5 o_q6 o_q7 o_q8 o_q9 o_q10 o_q11 o_q12 o_q13 o_q14 o_q15 o_q16 o_q17 o_q18 o_q19 o_q20 o_q21 o_q22 o_code o_tape o_size o_fault o_faultPlace o_many o_towns o_weeks o_logs o_reached o_length o_begins o_sort o_value o_word o_wrongAt o_laterFault o_laterPlace o_told o_read o_farOne o_good o_town o_people o_when o_sat o_quiet o_vain o_lent o_forgiven o_sundays o_purse o_beside o_debts o_sitting o_visited o_week o_heaps o_taken o_best o_more o_firstOne o_log o_fitting o_found o_seed o_row o_saved) (wMd g o_q0 o_q1 o_q2 o_q3 o_q4 o_q5 o_q6 o_q7 o_q8 o_q9 o_q10 o_q11 o_q12 o_q13 o_q14 o_q15 o_q16 o_q17 o_q18 o_q19 o_q20 o_q21 o_q22 o_code o_tape o_size o_fault o_faultPlace o_many o_towns o_weeks o_logs o_reached o_length o_begins o_sort o_value o_word o_wrongAt o_laterFault o_laterPlace o_told o_read o_farOne o_good o_town o_people r.1 o_sat o_quiet o_vain o_lent o_forgiven r.2.1 o_purse r.2.2.1 r.2.2.2 o_sitting o_visited o_week o_heaps o_taken o_best o_more o_firstOne o_log o_fitting o_found o_seed o_row o_saved) none := by
  refine Wr.ofV (by decide) (Nat.le_of_ble_eq_true rfl) ?_
  intro p e s m args below meth c Q A S hK hA hret ls hl hW
  have hl : lv_has ls 2 [(0, .ref o_q0)] := hl
  refine lv_aload_n S.1 S.2.1 dX12_goesOn_0 rfl (lv_at hl 0 rfl) ?_
  refine lv_dup S.1 S.2.1 dX12_goesOn_1 rfl ?_
  refine gfX12_233 S hK hW.1 0 rfl rfl dX12_goesOn_2 ?_
  refine lv_iconst (v := 1) S.1 S.2.1 dX12_goesOn_5 ic_1 ?_
  refine lv_iadd S.1 S.2.1 dX12_goesOn_6 ?_
  refine lv_topi (fun x1 ex1 => ?_)
  have hf := ltn_e hf ex1
  refine pfX12_233 (ws2 := (wMd g o_q0 o_q1 o_q2 o_q3 o_q4 o_q5 o_q6 o_q7 o_q8 o_q9 o_q10 o_q11 o_q12 o_q13 o_q14 o_q15 o_q16 o_q17 o_q18 o_q19 o_q20 o_q21 o_q22 o_code o_tape o_size o_fault o_faultPlace o_many o_towns o_weeks o_logs o_reached o_length o_begins o_sort o_value o_word o_wrongAt o_laterFault o_laterPlace o_told o_read o_farOne o_good o_town o_people x1 o_sat o_quiet o_vain o_lent o_forgiven o_sundays o_purse o_beside o_debts o_sitting o_visited o_week o_heaps o_taken o_best o_more o_firstOne o_log o_fitting o_found o_seed o_row o_saved)) S hK hW 0 rfl rfl rfl (Nat.le_of_ble_eq_true rfl) rfl dX12_goesOn_7 (fun H locs hW => ?_)
  refine lv_iconst (v := 0) S.1 S.2.1 dX12_goesOn_10 ic_0 ?_
  refine lv_istore_n (lv' := [(1, .int (0 : Int32)), (0, .ref o_q0)]) S.1 S.2.1 dX12_goesOn_11 rfl hl (by decide) rfl (fun ls hl => ?_)
  obtain ⟨x4, hf_, hk4⟩ := bnd_e hf
  have hE4 : ∀ (v7 : (Nat → Int32)), v7 = x4 → ∀ (ls : Array Slot) (H : Heap) (locs : List Loc), lv_has ls 2 [(0, .ref o_q0)] → St A s.heap D (wMd g o_q0 o_q1 o_q2 o_q3 o_q4 o_q5 o_q6 o_q7 o_q8 o_q9 o_q10 o_q11 o_q12 o_q13 o_q14 o_q15 o_q16 o_q17 o_q18 o_q19 o_q20 o_q21 o_q22 o_code o_tape o_size o_fault o_faultPlace o_many o_towns o_weeks o_logs o_reached o_length o_begins o_sort o_value o_word o_wrongAt o_laterFault o_laterPlace o_told o_read o_farOne o_good o_town o_people x1 o_sat o_quiet o_vain o_lent o_forgiven o_sundays o_purse v7 o_debts o_sitting o_visited o_week o_heaps o_taken o_best o_more o_firstOne o_log o_fitting o_found o_seed o_row o_saved) H locs → W p l e (rmD 1) s m args below meth c H locs 0 0 Q (F0 m 32 ls []) := by
    intro v7 e_ ls H locs hl hW
    subst e_
    have hf := hk4
    refine lv_aload_n S.1 S.2.1 dX12_goesOn_32 rfl (lv_at hl 0 rfl) ?_
    refine gfX12_233 S hK hW.1 0 rfl rfl dX12_goesOn_33 ?_
    refine lv_bipush (v := 10) S.1 S.2.1 dX12_goesOn_36 bp_10 ?_
    refine lv_irem S.1 S.2.1 dX12_goesOn_38 (by decide) ?_
    refine lv_if_ne (tgt := 98) S.1 S.2.1 dX12_goesOn_39 (by decide) (fun c_ => ?_) (fun c_ => ?_)
    · have hf := it_n c_ hf
      have e_ := Option.some.inj hf
      subst e_
      exact hret _ _ _ _ dX12_goesOn_98 hW
    · have hf := it_p c_ hf
      refine lv_aload_n S.1 S.2.1 dX12_goesOn_42 rfl (lv_at hl 0 rfl) ?_
      refine lv_dup S.1 S.2.1 dX12_goesOn_43 rfl ?_
      refine gfX12_251 S hK hW.1 0 rfl rfl dX12_goesOn_44 ?_
      refine lv_iconst (v := 1) S.1 S.2.1 dX12_goesOn_47 ic_1 ?_
      refine lv_iadd S.1 S.2.1 dX12_goesOn_48 ?_
      refine lv_topi (fun x8 ex8 => ?_)
      have hf := ltn_e hf ex8
      refine pfX12_251 (ws2 := (wMd g o_q0 o_q1 o_q2 o_q3 o_q4 o_q5 o_q6 o_q7 o_q8 o_q9 o_q10 o_q11 o_q12 o_q13 o_q14 o_q15 o_q16 o_q17 o_q18 o_q19 o_q20 o_q21 o_q22 o_code o_tape o_size o_fault o_faultPlace o_many o_towns o_weeks o_logs o_reached o_length o_begins o_sort o_value o_word o_wrongAt o_laterFault o_laterPlace o_told o_read o_farOne o_good o_town o_people x1 o_sat o_quiet o_vain o_lent o_forgiven x8 o_purse v7 o_debts o_sitting o_visited o_week o_heaps o_taken o_best o_more o_firstOne o_log o_fitting o_found o_seed o_row o_saved)) S hK hW 0 rfl rfl rfl (Nat.le_of_ble_eq_true rfl) rfl dX12_goesOn_49 (fun H locs hW => ?_)
      refine lv_iconst (v := 0) S.1 S.2.1 dX12_goesOn_52 ic_0 ?_
      refine lv_istore_n (lv' := [(1, .int (0 : Int32)), (0, .ref o_q0)]) S.1 S.2.1 dX12_goesOn_53 rfl hl (by decide) rfl (fun ls hl => ?_)
      obtain ⟨x11, hf_, hk11⟩ := bnd_e hf
      have hE11 : ∀ (v18 : (Nat → Int32)), v18 = x11 → ∀ (ls : Array Slot) (H : Heap) (locs : List Loc), lv_has ls 2 [] → St A s.heap D (wMd g o_q0 o_q1 o_q2 o_q3 o_q4 o_q5 o_q6 o_q7 o_q8 o_q9 o_q10 o_q11 o_q12 o_q13 o_q14 o_q15 o_q16 o_q17 o_q18 o_q19 o_q20 o_q21 o_q22 o_code o_tape o_size o_fault o_faultPlace o_many o_towns o_weeks o_logs o_reached o_length o_begins o_sort o_value o_word o_wrongAt o_laterFault o_laterPlace o_told o_read o_farOne o_good o_town o_people x1 o_sat o_quiet o_vain o_lent o_forgiven x8 o_purse v7 v18 o_sitting o_visited o_week o_heaps o_taken o_best o_more o_firstOne o_log o_fitting o_found o_seed o_row o_saved) H locs → W p l e (rmD 1) s m args below meth c H locs 0 0 Q (F0 m 98 ls []) := by
        intro v18 e_ ls H locs hl hW
        subst e_
        have hf := hk11
        have e_ := Option.some.inj hf
        subst e_
        exact hret _ _ _ _ dX12_goesOn_98 hW
      refine lp_ind (P := fun (s10 : Int32 × (Nat → Int32)) => ∀ (ls : Array Slot) (H : Heap) (locs : List Loc), lv_has ls 2 [(0, .ref o_q0), (1, .int s10.1)] → St A s.heap D (wMd g o_q0 o_q1 o_q2 o_q3 o_q4 o_q5 o_q6 o_q7 o_q8 o_q9 o_q10 o_q11 o_q12 o_q13 o_q14 o_q15 o_q16 o_q17 o_q18 o_q19 o_q20 o_q21 o_q22 o_code o_tape o_size o_fault o_faultPlace o_many o_towns o_weeks o_logs o_reached o_length o_begins o_sort o_value o_word o_wrongAt o_laterFault o_laterPlace o_told o_read o_farOne o_good o_town o_people x1 o_sat o_quiet o_vain o_lent o_forgiven x8 o_purse v7 s10.2 o_sitting o_visited o_week o_heaps o_taken o_best o_more o_firstOne o_log o_fitting o_found o_seed o_row o_saved) H locs → W p l e (rmD 1) s m args below meth c H locs 0 0 Q (F0 m 54 ls [])) ?_ _ _ hf_ _ _ _ (lv_sub hl [1, 0] rfl) hW
      intro s10 x12 hf hI11 hR11 ls H locs hl hW
      refine lv_iload_n S.1 S.2.1 dX12_goesOn_54 rfl (lv_at hl 1 rfl) ?_
      refine lv_bipush (v := 36) S.1 S.2.1 dX12_goesOn_55 bp_36 ?_
      refine lv_icmp_ge (tgt := 98) S.1 S.2.1 dX12_goesOn_57 (by decide) (fun c_ => ?_) (fun c_ => ?_)
      · have hf := it_p c_ hf
        have e_ := hR11 _ (Option.some.inj hf).symm
        exact hE11 _ e_ _ _ _ (lv_sub hl [] rfl) hW
      · have hf := it_n c_ hf
        refine lv_aload_n S.1 S.2.1 dX12_goesOn_60 rfl (lv_at hl 0 rfl) ?_
        refine gfX12_47 S hK hW.1 0 rfl rfl dX12_goesOn_61 ?_
        refine lv_iload_n S.1 S.2.1 dX12_goesOn_64 rfl (lv_at hl 1 rfl) ?_
        refine lv_aload_n S.1 S.2.1 dX12_goesOn_65 rfl (lv_at hl 0 rfl) ?_
        refine gfX12_47 S hK hW.1 0 rfl rfl dX12_goesOn_66 ?_
        refine lv_iload_n S.1 S.2.1 dX12_goesOn_69 rfl (lv_at hl 1 rfl) ?_
        obtain ⟨x13, hx13, hf⟩ := bnd_e hf
        refine q_iald S hK hW.1 13 0 rfl rfl hx13 dX12_goesOn_70 ?_
        refine lv_if_le (tgt := 90) S.1 S.2.1 dX12_goesOn_71 (by decide) (fun c_ => ?_) (fun c_ => ?_)
        · have hf := it_p c_ hf
          refine lv_iconst (v := 0) S.1 S.2.1 dX12_goesOn_90 ic_0 ?_
          obtain ⟨x14, hx14, hf⟩ := bnd_e hf
          refine q_iast (ws2 := (wMd g o_q0 o_q1 o_q2 o_q3 o_q4 o_q5 o_q6 o_q7 o_q8 o_q9 o_q10 o_q11 o_q12 o_q13 o_q14 o_q15 o_q16 o_q17 o_q18 o_q19 o_q20 o_q21 o_q22 o_code o_tape o_size o_fault o_faultPlace o_many o_towns o_weeks o_logs o_reached o_length o_begins o_sort o_value o_word o_wrongAt o_laterFault o_laterPlace o_told o_read o_farOne o_good o_town o_people x1 o_sat o_quiet o_vain o_lent o_forgiven x8 o_purse v7 x14 o_sitting o_visited o_week o_heaps o_taken o_best o_more o_firstOne o_log o_fitting o_found o_seed o_row o_saved)) S hK hW 13 0 rfl rfl hx14 rfl dX12_goesOn_91 (fun H locs hW => ?_)
          refine q_iinc (w := 1) (lv' := [(1, .int (s10.1 + 1)), (0, .ref o_q0)]) S dX12_goesOn_92 hl (k := 1) rfl ic_1 (by decide) rfl (fun ls hl => ?_)
          refine lv_goto (tgt := 54) S.1 S.2.1 dX12_goesOn_95 (by decide) ?_
          exact hI11 _ (Option.some.inj hf).symm _ _ _ (lv_sub hl [1, 0] rfl) hW
        · have hf := it_n c_ hf
          refine lv_bipush (v := 99) S.1 S.2.1 dX12_goesOn_74 bp_99 ?_
          refine lv_aload_n S.1 S.2.1 dX12_goesOn_76 rfl (lv_at hl 0 rfl) ?_
          refine gfX12_47 S hK hW.1 0 rfl rfl dX12_goesOn_77 ?_
          refine lv_iload_n S.1 S.2.1 dX12_goesOn_80 rfl (lv_at hl 1 rfl) ?_
          obtain ⟨x15, hx15, hf⟩ := bnd_e hf
          refine q_iald S hK hW.1 13 0 rfl rfl hx15 dX12_goesOn_81 ?_
          refine lv_iconst (v := 1) S.1 S.2.1 dX12_goesOn_82 ic_1 ?_
          refine lv_iadd S.1 S.2.1 dX12_goesOn_83 ?_
          obtain ⟨x16, hx16, hf⟩ := bnd_e hf
          refine Rd.cS (c_X12_lesser hx16) S hK va_P.nil kSX12_281 rfl hl.1 [.int s10.1, .ref o_q13] rfl (Nat.le_of_ble_eq_true rfl) ⟨(Nat.le_of_ble_eq_true rfl), (Nat.le_of_ble_eq_true rfl)⟩ ⟨(Nat.zero_le _), (Nat.zero_le _)⟩ dX12_goesOn_84 ?_
          refine lv_goto (tgt := 91) S.1 S.2.1 dX12_goesOn_87 (by decide) ?_
          obtain ⟨x17, hx17, hf⟩ := bnd_e hf
          refine q_iast (ws2 := (wMd g o_q0 o_q1 o_q2 o_q3 o_q4 o_q5 o_q6 o_q7 o_q8 o_q9 o_q10 o_q11 o_q12 o_q13 o_q14 o_q15 o_q16 o_q17 o_q18 o_q19 o_q20 o_q21 o_q22 o_code o_tape o_size o_fault o_faultPlace o_many o_towns o_weeks o_logs o_reached o_length o_begins o_sort o_value o_word o_wrongAt o_laterFault o_laterPlace o_told o_read o_farOne o_good o_town o_people x1 o_sat o_quiet o_vain o_lent o_forgiven x8 o_purse v7 x17 o_sitting o_visited o_week o_heaps o_taken o_best o_more o_firstOne o_log o_fitting o_found o_seed o_row o_saved)) S hK hW 13 0 rfl rfl hx17 rfl dX12_goesOn_91 (fun H locs hW => ?_)
          refine q_iinc (w := 1) (lv' := [(1, .int (s10.1 + 1)), (0, .ref o_q0)]) S dX12_goesOn_92 hl (k := 1) rfl ic_1 (by decide) rfl (fun ls hl => ?_)
          refine lv_goto (tgt := 54) S.1 S.2.1 dX12_goesOn_95 (by decide) ?_
          exact hI11 _ (Option.some.inj hf).symm _ _ _ (lv_sub hl [1, 0] rfl) hW
  refine lp_ind (P := fun (s3 : Int32 × (Nat → Int32)) => ∀ (ls : Array Slot) (H : Heap) (locs : List Loc), lv_has ls 2 [(0, .ref o_q0), (1, .int s3.1)] → St A s.heap D (wMd g o_q0 o_q1 o_q2 o_q3 o_q4 o_q5 o_q6 o_q7 o_q8 o_q9 o_q10 o_q11 o_q12 o_q13 o_q14 o_q15 o_q16 o_q17 o_q18 o_q19 o_q20 o_q21 o_q22 o_code o_tape o_size o_fault o_faultPlace o_many o_towns o_weeks o_logs o_reached o_length o_begins o_sort o_value o_word o_wrongAt o_laterFault o_laterPlace o_told o_read o_farOne o_good o_town o_people x1 o_sat o_quiet o_vain o_lent o_forgiven o_sundays o_purse s3.2 o_debts o_sitting o_visited o_week o_heaps o_taken o_best o_more o_firstOne o_log o_fitting o_found o_seed o_row o_saved) H locs → W p l e (rmD 1) s m args below meth c H locs 0 0 Q (F0 m 12 ls [])) ?_ _ _ hf_ _ _ _ (lv_sub hl [1, 0] rfl) hW
  intro s3 x5 hf hI4 hR4 ls H locs hl hW
  refine lv_iload_n S.1 S.2.1 dX12_goesOn_12 rfl (lv_at hl 1 rfl) ?_
  refine lv_bipush (v := 6) S.1 S.2.1 dX12_goesOn_13 bp_6 ?_
  refine lv_icmp_ge (tgt := 32) S.1 S.2.1 dX12_goesOn_15 (by decide) (fun c_ => ?_) (fun c_ => ?_)
  · have hf := it_p c_ hf
    have e_ := hR4 _ (Option.some.inj hf).symm
    exact hE4 _ e_ _ _ _ (lv_sub hl [0] rfl) hW
  · have hf := it_n c_ hf
    refine lv_aload_n S.1 S.2.1 dX12_goesOn_18 rfl (lv_at hl 0 rfl) ?_
    refine gfX12_44 S hK hW.1 0 rfl rfl dX12_goesOn_19 ?_
    refine lv_iload_n S.1 S.2.1 dX12_goesOn_22 rfl (lv_at hl 1 rfl) ?_
    refine lv_bipush (v := 6) S.1 S.2.1 dX12_goesOn_23 bp_6 ?_
    obtain ⟨x6, hx6, hf⟩ := bnd_e hf
    refine q_iast (ws2 := (wMd g o_q0 o_q1 o_q2 o_q3 o_q4 o_q5 o_q6 o_q7 o_q8 o_q9 o_q10 o_q11 o_q12 o_q13 o_q14 o_q15 o_q16 o_q17 o_q18 o_q19 o_q20 o_q21 o_q22 o_code o_tape o_size o_fault o_faultPlace o_many o_towns o_weeks o_logs o_reached o_length o_begins o_sort o_value o_word o_wrongAt o_laterFault o_laterPlace o_told o_read o_farOne o_good o_town o_people x1 o_sat o_quiet o_vain o_lent o_forgiven o_sundays o_purse x6 o_debts o_sitting o_visited o_week o_heaps o_taken o_best o_more o_firstOne o_log o_fitting o_found o_seed o_row o_saved)) S hK hW 12 0 rfl rfl hx6 rfl dX12_goesOn_25 (fun H locs hW => ?_)
    refine q_iinc (w := 1) (lv' := [(1, .int (s3.1 + 1)), (0, .ref o_q0)]) S dX12_goesOn_26 hl (k := 1) rfl ic_1 (by decide) rfl (fun ls hl => ?_)
    refine lv_goto (tgt := 12) S.1 S.2.1 dX12_goesOn_29 (by decide) ?_
    exact hI4 _ (Option.some.inj hf).symm _ _ _ (lv_sub hl [1, 0] rfl) hW
def f_X12_does (fu : Nat) (o_towns : (Nat → Int32)) (o_town : Int32) (o_people : Int32) (o_when : Int32) (o_sat : Int32) (o_quiet : Int32) (o_vain : Int32) (o_lent : Int32) (o_forgiven : Int32) (o_sundays : Int32) (o_purse : (Nat → Int32)) (o_beside : (Nat → Int32)) (o_debts : (Nat → Int32)) (o_sitting : (Nat → Int32)) (o_visited : (Nat → Int32)) (p1 : Int32) (p2 : Int32) (p3 : Int32) (p4 : Int32) : Option (Int32 × Int32 × Int32 × Int32 × Int32 × Int32 × Int32 × Int32 × (Nat → Int32) × (Nat → Int32) × (Nat → Int32) × (Nat → Int32) × (Nat → Int32)) := if p1 = (6 : Int32) then bnd (α := Int32 × Int32 × (Nat → Int32) × (Nat → Int32)) (f_X12_goesOn fu o_when o_sundays o_beside o_debts) (fun x1 => some ((1 : Int32), x1.1, o_sat, o_quiet, o_vain, o_lent, o_forgiven, x1.2.1, o_purse, x1.2.2.1, x1.2.2.2, o_sitting, o_visited)) else bnd (α := Int32) (f_X12_isPerson fu o_people p2) (fun x2 => if x2 = 0 then some ((0 : Int32), o_when, o_sat, o_quiet, o_vain, o_lent, o_forgiven, o_sundays, o_purse, o_beside, o_debts, o_sitting, o_visited) else bnd (α := (Int32 × Int32 × Int32 × Int32 × Int32 × Int32 × Int32 × Int32 × (Nat → Int32) × (Nat → Int32) × (Nat → Int32) × (Nat → Int32) × (Nat → Int32)) ⊕ (Unit)) (if (4 : Int32) ≤ p1 then some (.inr ()) else bnd (α := Int32) (f_X12_isPerson fu o_people p3) (fun x15 => if x15 = 0 then some (.inl ((0 : Int32), o_when, o_sat, o_quiet, o_vain, o_lent, o_forgiven, o_sundays, o_purse, o_beside, o_debts, o_sitting, o_visited)) else some (.inr ()))) (fun x3 => cse x3 (fun y16 => some y16) (fun v4 => if p1 = 0 then bnd (α := Int32 × Int32 × Int32 × (Nat → Int32) × (Nat → Int32) × (Nat → Int32) × (Nat → Int32)) (f_X12_sits fu o_towns o_town o_people o_sat o_quiet o_vain o_beside o_debts o_sitting o_visited p2 p3) (fun x5 => bnd (α := Int32) (bz x5.1) (fun z6 => some (z6, o_when, x5.2.1, o_quiet, x5.2.2.1, o_lent, o_forgiven, o_sundays, o_purse, x5.2.2.2.1, x5.2.2.2.2.1, x5.2.2.2.2.2.1, x5.2.2.2.2.2.2))) else if p1 = 1 then bnd (α := Int32 × Int32 × (Nat → Int32) × (Nat → Int32)) (f_X12_lends fu o_lent o_purse o_debts p2 p3 p4) (fun x7 => bnd (α := Int32) (bz x7.1) (fun z8 => some (z8, o_when, o_sat, o_quiet, o_vain, x7.2.1, o_forgiven, o_sundays, x7.2.2.1, o_beside, x7.2.2.2, o_sitting, o_visited))) else if p1 = 2 then bnd (α := Int32 × (Nat → Int32) × (Nat → Int32)) (f_X12_pays fu o_purse o_debts p2 p3 p4) (fun x9 => bnd (α := Int32) (bz x9.1) (fun z10 => some (z10, o_when, o_sat, o_quiet, o_vain, o_lent, o_forgiven, o_sundays, x9.2.1, o_beside, x9.2.2, o_sitting, o_visited))) else if p1 = 3 then bnd (α := Int32 × Int32 × (Nat → Int32)) (f_X12_forgives fu o_forgiven o_debts p2 p3 p4) (fun x11 => bnd (α := Int32) (bz x11.1) (fun z12 => some (z12, o_when, o_sat, o_quiet, o_vain, o_lent, x11.2.1, o_sundays, o_purse, o_beside, x11.2.2, o_sitting, o_visited))) else if p1 = 4 then ltn (o_quiet ||| (jshl (1 : Int32) p2)) (fun x13 => some ((1 : Int32), o_when, o_sat, x13, o_vain, o_lent, o_forgiven, o_sundays, o_purse, o_beside, o_debts, o_sitting, o_visited)) else ltn (o_quiet &&& ((jshl (1 : Int32) p2) ^^^ (-1 : Int32))) (fun x14 => some ((1 : Int32), o_when, o_sat, x14, o_vain, o_lent, o_forgiven, o_sundays, o_purse, o_beside, o_debts, o_sitting, o_visited)))))
set_option maxHeartbeats 4000000 in
set_option maxRecDepth 100000 in
theorem c_X12_does {l : Launch} {D : va_G} {g : Nat → ClassId} {fu : Nat} {o_q0 o_q1 o_q2 o_q3 o_q4 o_q5 o_q6 o_q7 o_q8 o_q9 o_q10 o_q11 o_q12 o_q13 o_q14 o_q15 o_q16 o_q17 o_q18 o_q19 o_q20 o_q21 o_q22 : Nat} {o_code : Int32} {o_tape : (Nat → Int32)} {o_size : (Nat → Int32)} {o_fault : (Nat → Int32)} {o_faultPlace : (Nat → Int32)} {o_many : (Nat → Int32)} {o_towns : (Nat → Int32)} {o_weeks : (Nat → Int32)} {o_logs : (Nat → Int32)} {o_reached : Int32} {o_length : Int32} {o_begins : Int32} {o_sort : Int32} {o_value : Int32} {o_word : Int64} {o_wrongAt : Int32} {o_laterFault : Int32} {o_laterPlace : Int32} {o_told : (Nat → Int32)} {o_read : (Nat → Int32)} {o_farOne : Int32} {o_good : Int32} {o_town : Int32} {o_people : Int32} {o_when : Int32} {o_sat : Int32} {o_quiet : Int32} {o_vain : Int32} {o_lent : Int32} {o_forgiven : Int32} {o_sundays : Int32} {o_purse : (Nat → Int32)} {o_beside : (Nat → Int32)} {o_debts : (Nat → Int32)} {o_sitting : (Nat → Int32)} {o_visited : (Nat → Int32)} {o_week : Int32} {o_heaps : (Nat → Int32)} {o_taken : (Nat → Int32)} {o_best : (Nat → Int32)} {o_more : (Nat → Int32)} {o_firstOne : Int32} {o_log : Int32} {o_fitting : (Nat → Int32)} {o_found : Int32} {o_seed : Int32} {o_row : (Nat → Int32)} {o_saved : (Nat → Int32)} {p1 : Int32} {p2 : Int32} {p3 : Int32} {p4 : Int32} {r : Int32 × Int32 × Int32 × Int32 × Int32 × Int32 × Int32 × Int32 × (Nat → Int32) × (Nat → Int32) × (Nat → Int32) × (Nat → Int32) × (Nat → Int32)} (hf : f_X12_does fu o_towns o_town o_people o_when o_sat o_quiet o_vain o_lent o_forgiven o_sundays o_purse o_beside o_debts o_sitting o_visited p1 p2 p3 p4 = some r) : Wr l D (gy g) yX12_does cX12_does 5 (some .boolean) 3 [.ref o_q0, .int p1, .int p2, .int p3, .int p4] (wMd g o_q0 o_q1 o_q2 o_q3 o_q4 o_q5 o_q6 o_q7 o_q8 o_q9 o_q10 o_q11 o_q12 o_q13 o_q14 o_q15 o_q16 o_q17 o_q18 o_q19 o_q20 o_q21 o_q22 o_code o_tape o_size o_fault o_faultPlace o_many o_towns o_weeks o_logs o_reached o_length o_begins o_sort o_value o_word o_wrongAt o_laterFault o_laterPlace o_told o_read o_farOne o_good o_town o_people o_when o_sat o_quiet o_vain o_lent o_forgiven o_sundays o_purse o_beside o_debts o_sitting o_visited o_week o_heaps o_taken o_best o_more o_firstOne o_log o_fitting o_found o_seed o_row o_saved) (wMd g o_q0 o_q1 o_q2 o_q3 o_q4 o_q5 o_q6 o_q7 o_q8 o_q9 o_q10 o_q11 o_q12 o_q13 o_q14 o_q15 o_q16 o_q17 o_q18 o_q19 o_q20 o_q21 o_q22 o_code o_tape o_size o_fault o_faultPlace o_many o_towns o_weeks o_logs o_reached o_length o_begins o_sort o_value o_word o_wrongAt o_laterFault o_laterPlace o_told o_read o_farOne o_good o_town o_people r.2.1 r.2.2.1 r.2.2.2.1 r.2.2.2.2.1 r.2.2.2.2.2.1 r.2.2.2.2.2.2.1 r.2.2.2.2.2.2.2.1 r.2.2.2.2.2.2.2.2.1 r.2.2.2.2.2.2.2.2.2.1 r.2.2.2.2.2.2.2.2.2.2.1 r.2.2.2.2.2.2.2.2.2.2.2.1 r.2.2.2.2.2.2.2.2.2.2.2.2 o_week o_heaps o_taken o_best o_more o_firstOne o_log o_fitting o_found o_seed o_row o_saved) (some (.int r.1)) := by
  refine Wr.ofZ (by decide) (Nat.le_of_ble_eq_true rfl) ?_
  intro p e s m args below meth c Q A S hK hA hret ls hl hW
  have hl : lv_has ls 5 [(0, .ref o_q0), (1, .int p1), (2, .int p2), (3, .int p3), (4, .int p4)] := hl
  refine lv_iload_n S.1 S.2.1 dX12_does_0 rfl (lv_at hl 1 rfl) ?_
  refine lv_bipush (v := 6) S.1 S.2.1 dX12_does_1 bp_6 ?_
  refine lv_icmp_ne (tgt := 12) S.1 S.2.1 dX12_does_3 (by decide) (fun c_ => ?_) (fun c_ => ?_)
  · have hf := it_n c_ hf
    refine lv_aload_n S.1 S.2.1 dX12_does_12 rfl (lv_at hl 0 rfl) ?_
    refine lv_iload_n S.1 S.2.1 dX12_does_13 rfl (lv_at hl 2 rfl) ?_
    obtain ⟨x2, hx2, hf⟩ := bnd_e hf
    refine Rd.cV (c_X12_isPerson hx2) S hK hW.1 0 10 rfl rfl kVX12_260 rfl hl.1 [] rfl (Nat.le_of_ble_eq_true rfl) ⟨(Nat.le_of_ble_eq_true rfl), (Nat.le_of_ble_eq_true rfl)⟩ ⟨(Nat.zero_le _), (Nat.zero_le _)⟩ dX12_does_14 ?_
    refine lv_if_eq (tgt := 33) S.1 S.2.1 dX12_does_17 (by decide) (fun c_ => ?_) (fun c_ => ?_)
    · have hf := it_p c_ hf
      refine lv_iconst (v := 0) S.1 S.2.1 dX12_does_33 ic_0 ?_
      have e_ := Option.some.inj hf
      subst e_
      exact hret _ _ _ _ (Or.inl rfl) dX12_does_34 hW
    · have hf := it_n c_ hf
      refine lv_iload_n S.1 S.2.1 dX12_does_20 rfl (lv_at hl 1 rfl) ?_
      refine lv_iconst (v := 4) S.1 S.2.1 dX12_does_21 ic_4 ?_
      obtain ⟨x3, hf_, hk3⟩ := bnd_e hf
      have hJ3 : ∀ (v4 : Unit), x3 = .inr v4 → ∀ (ls : Array Slot) (H : Heap) (locs : List Loc), lv_has ls 5 [(0, .ref o_q0), (1, .int p1), (2, .int p2), (3, .int p3), (4, .int p4)] → St A s.heap D (wMd g o_q0 o_q1 o_q2 o_q3 o_q4 o_q5 o_q6 o_q7 o_q8 o_q9 o_q10 o_q11 o_q12 o_q13 o_q14 o_q15 o_q16 o_q17 o_q18 o_q19 o_q20 o_q21 o_q22 o_code o_tape o_size o_fault o_faultPlace o_many o_towns o_weeks o_logs o_reached o_length o_begins o_sort o_value o_word o_wrongAt o_laterFault o_laterPlace o_told o_read o_farOne o_good o_town o_people o_when o_sat o_quiet o_vain o_lent o_forgiven o_sundays o_purse o_beside o_debts o_sitting o_visited o_week o_heaps o_taken o_best o_more o_firstOne o_log o_fitting o_found o_seed o_row o_saved) H locs → W p l e (rmD 3) s m args below meth c H locs 0 0 Q (F0 m 35 ls []) := by
        intro v4 e_ ls H locs hl hW
        subst e_
        have hf := cse_r hk3
        refine lv_iload_n S.1 S.2.1 dX12_does_35 rfl (lv_at hl 1 rfl) ?_
        by_cases c_0 : p1 = 0
        · have hf := it_p c_0 hf
          refine lv_tableIn (tgt := 72) (off := 36) S.1 S.2.1 dX12_does_36 (by rw [c_0]; decide) (by rw [c_0]; decide) (by rw [c_0]; decide) (by decide) ?_
          refine lv_aload_n S.1 S.2.1 dX12_does_72 rfl (lv_at hl 0 rfl) ?_
          refine lv_iload_n S.1 S.2.1 dX12_does_73 rfl (lv_at hl 2 rfl) ?_
          refine lv_iload_n S.1 S.2.1 dX12_does_74 rfl (lv_at hl 3 rfl) ?_
          obtain ⟨x5, hx5, hf⟩ := bnd_e hf
          refine Wr.goW (Wr.runV (c_X12_sits hx5) S hK hW.1 hW.2.1 0 10 rfl rfl kVX12_287 rfl hl.1 [] rfl (Nat.le_of_ble_eq_true rfl) ⟨(Nat.le_of_ble_eq_true rfl), (Nat.le_of_ble_eq_true rfl)⟩ ⟨(Nat.zero_le _), (Nat.zero_le _)⟩ dX12_does_75) hW hA (fun H locs hW => ?_)
          obtain ⟨z6, hz6, hf⟩ := bnd_e hf
          obtain ⟨hzz6, ezz6⟩ := bz_e hz6
          rw [ezz6]
          have e_ := Option.some.inj hf
          subst e_
          exact hret _ _ _ _ hzz6 dX12_does_78 hW
        have hf := it_n c_0 hf
        by_cases c_1 : p1 = 1
        · have hf := it_p c_1 hf
          refine lv_tableIn (tgt := 79) (off := 43) S.1 S.2.1 dX12_does_36 (by rw [c_1]; decide) (by rw [c_1]; decide) (by rw [c_1]; decide) (by decide) ?_
          refine lv_aload_n S.1 S.2.1 dX12_does_79 rfl (lv_at hl 0 rfl) ?_
          refine lv_iload_n S.1 S.2.1 dX12_does_80 rfl (lv_at hl 2 rfl) ?_
          refine lv_iload_n S.1 S.2.1 dX12_does_81 rfl (lv_at hl 3 rfl) ?_
          refine lv_iload S.1 S.2.1 dX12_does_82 (lv_at hl 4 rfl) ?_
          obtain ⟨x7, hx7, hf⟩ := bnd_e hf
          refine Wr.goW (Wr.runV (c_X12_lends hx7) S hK hW.1 hW.2.1 0 10 rfl rfl kVX12_290 rfl hl.1 [] rfl (Nat.le_of_ble_eq_true rfl) ⟨(Nat.le_of_ble_eq_true rfl), (Nat.le_of_ble_eq_true rfl)⟩ ⟨(Nat.zero_le _), (Nat.zero_le _)⟩ dX12_does_84) hW hA (fun H locs hW => ?_)
          obtain ⟨z8, hz8, hf⟩ := bnd_e hf
          obtain ⟨hzz8, ezz8⟩ := bz_e hz8
          rw [ezz8]
          have e_ := Option.some.inj hf
          subst e_
          exact hret _ _ _ _ hzz8 dX12_does_87 hW
        have hf := it_n c_1 hf
        by_cases c_2 : p1 = 2
        · have hf := it_p c_2 hf
          refine lv_tableIn (tgt := 88) (off := 52) S.1 S.2.1 dX12_does_36 (by rw [c_2]; decide) (by rw [c_2]; decide) (by rw [c_2]; decide) (by decide) ?_
          refine lv_aload_n S.1 S.2.1 dX12_does_88 rfl (lv_at hl 0 rfl) ?_
          refine lv_iload_n S.1 S.2.1 dX12_does_89 rfl (lv_at hl 2 rfl) ?_
          refine lv_iload_n S.1 S.2.1 dX12_does_90 rfl (lv_at hl 3 rfl) ?_
          refine lv_iload S.1 S.2.1 dX12_does_91 (lv_at hl 4 rfl) ?_
          obtain ⟨x9, hx9, hf⟩ := bnd_e hf
          refine Wr.goW (Wr.runV (c_X12_pays hx9) S hK hW.1 hW.2.1 0 10 rfl rfl kVX12_293 rfl hl.1 [] rfl (Nat.le_of_ble_eq_true rfl) ⟨(Nat.le_of_ble_eq_true rfl), (Nat.le_of_ble_eq_true rfl)⟩ ⟨(Nat.zero_le _), (Nat.zero_le _)⟩ dX12_does_93) hW hA (fun H locs hW => ?_)
          obtain ⟨z10, hz10, hf⟩ := bnd_e hf
          obtain ⟨hzz10, ezz10⟩ := bz_e hz10
          rw [ezz10]
          have e_ := Option.some.inj hf
          subst e_
          exact hret _ _ _ _ hzz10 dX12_does_96 hW
        have hf := it_n c_2 hf
        by_cases c_3 : p1 = 3
        · have hf := it_p c_3 hf
          refine lv_tableIn (tgt := 97) (off := 61) S.1 S.2.1 dX12_does_36 (by rw [c_3]; decide) (by rw [c_3]; decide) (by rw [c_3]; decide) (by decide) ?_
          refine lv_aload_n S.1 S.2.1 dX12_does_97 rfl (lv_at hl 0 rfl) ?_
          refine lv_iload_n S.1 S.2.1 dX12_does_98 rfl (lv_at hl 2 rfl) ?_
          refine lv_iload_n S.1 S.2.1 dX12_does_99 rfl (lv_at hl 3 rfl) ?_
          refine lv_iload S.1 S.2.1 dX12_does_100 (lv_at hl 4 rfl) ?_
          obtain ⟨x11, hx11, hf⟩ := bnd_e hf
          refine Wr.goW (Wr.runV (c_X12_forgives hx11) S hK hW.1 hW.2.1 0 10 rfl rfl kVX12_296 rfl hl.1 [] rfl (Nat.le_of_ble_eq_true rfl) ⟨(Nat.le_of_ble_eq_true rfl), (Nat.le_of_ble_eq_true rfl)⟩ ⟨(Nat.zero_le _), (Nat.zero_le _)⟩ dX12_does_102) hW hA (fun H locs hW => ?_)
          obtain ⟨z12, hz12, hf⟩ := bnd_e hf
          obtain ⟨hzz12, ezz12⟩ := bz_e hz12
          rw [ezz12]
          have e_ := Option.some.inj hf
          subst e_
          exact hret _ _ _ _ hzz12 dX12_does_105 hW
        have hf := it_n c_3 hf
        by_cases c_4 : p1 = 4
        · have hf := it_p c_4 hf
          refine lv_tableIn (tgt := 106) (off := 70) S.1 S.2.1 dX12_does_36 (by rw [c_4]; decide) (by rw [c_4]; decide) (by rw [c_4]; decide) (by decide) ?_
          refine lv_aload_n S.1 S.2.1 dX12_does_106 rfl (lv_at hl 0 rfl) ?_
          refine lv_dup S.1 S.2.1 dX12_does_107 rfl ?_
          refine gfX12_239 S hK hW.1 0 rfl rfl dX12_does_108 ?_
          refine lv_iconst (v := 1) S.1 S.2.1 dX12_does_111 ic_1 ?_
          refine lv_iload_n S.1 S.2.1 dX12_does_112 rfl (lv_at hl 2 rfl) ?_
          refine lv_ishl S.1 S.2.1 dX12_does_113 ?_
          refine lv_ior S.1 S.2.1 dX12_does_114 ?_
          refine lv_topi (fun x13 ex13 => ?_)
          have hf := ltn_e hf ex13
          refine pfX12_239 (ws2 := (wMd g o_q0 o_q1 o_q2 o_q3 o_q4 o_q5 o_q6 o_q7 o_q8 o_q9 o_q10 o_q11 o_q12 o_q13 o_q14 o_q15 o_q16 o_q17 o_q18 o_q19 o_q20 o_q21 o_q22 o_code o_tape o_size o_fault o_faultPlace o_many o_towns o_weeks o_logs o_reached o_length o_begins o_sort o_value o_word o_wrongAt o_laterFault o_laterPlace o_told o_read o_farOne o_good o_town o_people o_when o_sat x13 o_vain o_lent o_forgiven o_sundays o_purse o_beside o_debts o_sitting o_visited o_week o_heaps o_taken o_best o_more o_firstOne o_log o_fitting o_found o_seed o_row o_saved)) S hK hW 0 rfl rfl rfl (Nat.le_of_ble_eq_true rfl) rfl dX12_does_115 (fun H locs hW => ?_)
          refine lv_iconst (v := 1) S.1 S.2.1 dX12_does_118 ic_1 ?_
          have e_ := Option.some.inj hf
          subst e_
          exact hret _ _ _ _ (Or.inr rfl) dX12_does_119 hW
        have hf := it_n c_4 hf
        refine lv_tableOut (tgt := 120) S.1 S.2.1 dX12_does_36 (by have n_0 := lv_neT c_0 (a := 0) (by decide); have n_1 := lv_neT c_1 (a := 1) (by decide); have n_2 := lv_neT c_2 (a := 2) (by decide); have n_3 := lv_neT c_3 (a := 3) (by decide); have n_4 := lv_neT c_4 (a := 4) (by decide); omega) (by decide) ?_
        refine lv_aload_n S.1 S.2.1 dX12_does_120 rfl (lv_at hl 0 rfl) ?_
        refine lv_dup S.1 S.2.1 dX12_does_121 rfl ?_
        refine gfX12_239 S hK hW.1 0 rfl rfl dX12_does_122 ?_
        refine lv_iconst (v := 1) S.1 S.2.1 dX12_does_125 ic_1 ?_
        refine lv_iload_n S.1 S.2.1 dX12_does_126 rfl (lv_at hl 2 rfl) ?_
        refine lv_ishl S.1 S.2.1 dX12_does_127 ?_
        refine lv_iconst (v := (-1)) S.1 S.2.1 dX12_does_128 ic_m1 ?_
        refine lv_ixor S.1 S.2.1 dX12_does_129 ?_
        refine lv_iand S.1 S.2.1 dX12_does_130 ?_
        refine lv_topi (fun x14 ex14 => ?_)
        have hf := ltn_e hf ex14
        refine pfX12_239 (ws2 := (wMd g o_q0 o_q1 o_q2 o_q3 o_q4 o_q5 o_q6 o_q7 o_q8 o_q9 o_q10 o_q11 o_q12 o_q13 o_q14 o_q15 o_q16 o_q17 o_q18 o_q19 o_q20 o_q21 o_q22 o_code o_tape o_size o_fault o_faultPlace o_many o_towns o_weeks o_logs o_reached o_length o_begins o_sort o_value o_word o_wrongAt o_laterFault o_laterPlace o_told o_read o_farOne o_good o_town o_people o_when o_sat x14 o_vain o_lent o_forgiven o_sundays o_purse o_beside o_debts o_sitting o_visited o_week o_heaps o_taken o_best o_more o_firstOne o_log o_fitting o_found o_seed o_row o_saved)) S hK hW 0 rfl rfl rfl (Nat.le_of_ble_eq_true rfl) rfl dX12_does_131 (fun H locs hW => ?_)
        refine lv_iconst (v := 1) S.1 S.2.1 dX12_does_134 ic_1 ?_
        have e_ := Option.some.inj hf
        subst e_
        exact hret _ _ _ _ (Or.inr rfl) dX12_does_135 hW
      have hf := hf_
      refine lv_icmp_ge (tgt := 35) S.1 S.2.1 dX12_does_22 (by decide) (fun c_ => ?_) (fun c_ => ?_)
      · have hf := it_p c_ hf
        exact hJ3 _ (Option.some.inj hf).symm _ _ _ (lv_sub hl [0, 1, 2, 3, 4] rfl) hW
      · have hf := it_n c_ hf
        refine lv_aload_n S.1 S.2.1 dX12_does_25 rfl (lv_at hl 0 rfl) ?_
        refine lv_iload_n S.1 S.2.1 dX12_does_26 rfl (lv_at hl 3 rfl) ?_
        obtain ⟨x15, hx15, hf⟩ := bnd_e hf
        refine Rd.cV (c_X12_isPerson hx15) S hK hW.1 0 10 rfl rfl kVX12_260 rfl hl.1 [] rfl (Nat.le_of_ble_eq_true rfl) ⟨(Nat.le_of_ble_eq_true rfl), (Nat.le_of_ble_eq_true rfl)⟩ ⟨(Nat.zero_le _), (Nat.zero_le _)⟩ dX12_does_27 ?_
        refine lv_if_ne (tgt := 35) S.1 S.2.1 dX12_does_30 (by decide) (fun c_ => ?_) (fun c_ => ?_)
        · have hf := it_n c_ hf
          exact hJ3 _ (Option.some.inj hf).symm _ _ _ (lv_sub hl [0, 1, 2, 3, 4] rfl) hW
        · have hf := it_p c_ hf
          refine lv_iconst (v := 0) S.1 S.2.1 dX12_does_33 ic_0 ?_
          have e_ := Option.some.inj hf
          subst e_
          have hf := cse_l hk3
          have e_ := Option.some.inj hf
          subst e_
          exact hret _ _ _ _ (Or.inl rfl) dX12_does_34 hW
  · have hf := it_p c_ hf
    refine lv_aload_n S.1 S.2.1 dX12_does_6 rfl (lv_at hl 0 rfl) ?_
    obtain ⟨x1, hx1, hf⟩ := bnd_e hf
    refine Wr.goW (Wr.runV (c_X12_goesOn hx1) S hK hW.1 hW.2.1 0 10 rfl rfl kVX12_284 rfl hl.1 [] rfl (Nat.le_of_ble_eq_true rfl) ⟨(Nat.le_of_ble_eq_true rfl), (Nat.le_of_ble_eq_true rfl)⟩ ⟨(Nat.zero_le _), (Nat.zero_le _)⟩ dX12_does_7) hW hA (fun H locs hW => ?_)
    refine lv_iconst (v := 1) S.1 S.2.1 dX12_does_10 ic_1 ?_
    have e_ := Option.some.inj hf
    subst e_
    exact hret _ _ _ _ (Or.inr rfl) dX12_does_11 hW
def f_X12_doesDeed (fu : Nat) (o_towns : (Nat → Int32)) (o_weeks : (Nat → Int32)) (o_town : Int32) (o_people : Int32) (o_when : Int32) (o_sat : Int32) (o_quiet : Int32) (o_vain : Int32) (o_lent : Int32) (o_forgiven : Int32) (o_sundays : Int32) (o_purse : (Nat → Int32)) (o_beside : (Nat → Int32)) (o_debts : (Nat → Int32)) (o_sitting : (Nat → Int32)) (o_visited : (Nat → Int32)) (o_week : Int32) (p1 : Int32) : Option (Int32 × Int32 × Int32 × Int32 × Int32 × Int32 × Int32 × Int32 × (Nat → Int32) × (Nat → Int32) × (Nat → Int32) × (Nat → Int32) × (Nat → Int32)) := bnd (α := Int32) (f_X12_deedOf fu o_weeks o_week p1 (0 : Int32)) (fun x1 => bnd (α := Int32) (f_X12_deedOf fu o_weeks o_week p1 (1 : Int32)) (fun x2 => bnd (α := Int32) (f_X12_deedOf fu o_weeks o_week p1 (2 : Int32)) (fun x3 => bnd (α := Int32) (f_X12_deedOf fu o_weeks o_week p1 (3 : Int32)) (fun x4 => bnd (α := Int32 × Int32 × Int32 × Int32 × Int32 × Int32 × Int32 × Int32 × (Nat → Int32) × (Nat → Int32) × (Nat → Int32) × (Nat → Int32) × (Nat → Int32)) (f_X12_does fu o_towns o_town o_people o_when o_sat o_quiet o_vain o_lent o_forgiven o_sundays o_purse o_beside o_debts o_sitting o_visited x1 x2 x3 x4) (fun x5 => bnd (α := Int32) (bz x5.1) (fun z6 => some (z6, x5.2.1, x5.2.2.1, x5.2.2.2.1, x5.2.2.2.2.1, x5.2.2.2.2.2.1, x5.2.2.2.2.2.2.1, x5.2.2.2.2.2.2.2.1, x5.2.2.2.2.2.2.2.2.1, x5.2.2.2.2.2.2.2.2.2.1, x5.2.2.2.2.2.2.2.2.2.2.1, x5.2.2.2.2.2.2.2.2.2.2.2.1, x5.2.2.2.2.2.2.2.2.2.2.2.2)))))))
set_option maxHeartbeats 4000000 in
set_option maxRecDepth 100000 in
theorem c_X12_doesDeed {l : Launch} {D : va_G} {g : Nat → ClassId} {fu : Nat} {o_q0 o_q1 o_q2 o_q3 o_q4 o_q5 o_q6 o_q7 o_q8 o_q9 o_q10 o_q11 o_q12 o_q13 o_q14 o_q15 o_q16 o_q17 o_q18 o_q19 o_q20 o_q21 o_q22 : Nat} {o_code : Int32} {o_tape : (Nat → Int32)} {o_size : (Nat → Int32)} {o_fault : (Nat → Int32)} {o_faultPlace : (Nat → Int32)} {o_many : (Nat → Int32)} {o_towns : (Nat → Int32)} {o_weeks : (Nat → Int32)} {o_logs : (Nat → Int32)} {o_reached : Int32} {o_length : Int32} {o_begins : Int32} {o_sort : Int32} {o_value : Int32} {o_word : Int64} {o_wrongAt : Int32} {o_laterFault : Int32} {o_laterPlace : Int32} {o_told : (Nat → Int32)} {o_read : (Nat → Int32)} {o_farOne : Int32} {o_good : Int32} {o_town : Int32} {o_people : Int32} {o_when : Int32} {o_sat : Int32} {o_quiet : Int32} {o_vain : Int32} {o_lent : Int32} {o_forgiven : Int32} {o_sundays : Int32} {o_purse : (Nat → Int32)} {o_beside : (Nat → Int32)} {o_debts : (Nat → Int32)} {o_sitting : (Nat → Int32)} {o_visited : (Nat → Int32)} {o_week : Int32} {o_heaps : (Nat → Int32)} {o_taken : (Nat → Int32)} {o_best : (Nat → Int32)} {o_more : (Nat → Int32)} {o_firstOne : Int32} {o_log : Int32} {o_fitting : (Nat → Int32)} {o_found : Int32} {o_seed : Int32} {o_row : (Nat → Int32)} {o_saved : (Nat → Int32)} {p1 : Int32} {r : Int32 × Int32 × Int32 × Int32 × Int32 × Int32 × Int32 × Int32 × (Nat → Int32) × (Nat → Int32) × (Nat → Int32) × (Nat → Int32) × (Nat → Int32)} (hf : f_X12_doesDeed fu o_towns o_weeks o_town o_people o_when o_sat o_quiet o_vain o_lent o_forgiven o_sundays o_purse o_beside o_debts o_sitting o_visited o_week p1 = some r) : Wr l D (gy g) yX12_doesDeed cX12_doesDeed 2 (some .boolean) 4 [.ref o_q0, .int p1] (wMd g o_q0 o_q1 o_q2 o_q3 o_q4 o_q5 o_q6 o_q7 o_q8 o_q9 o_q10 o_q11 o_q12 o_q13 o_q14 o_q15 o_q16 o_q17 o_q18 o_q19 o_q20 o_q21 o_q22 o_code o_tape o_size o_fault o_faultPlace o_many o_towns o_weeks o_logs o_reached o_length o_begins o_sort o_value o_word o_wrongAt o_laterFault o_laterPlace o_told o_read o_farOne o_good o_town o_people o_when o_sat o_quiet o_vain o_lent o_forgiven o_sundays o_purse o_beside o_debts o_sitting o_visited o_week o_heaps o_taken o_best o_more o_firstOne o_log o_fitting o_found o_seed o_row o_saved) (wMd g o_q0 o_q1 o_q2 o_q3 o_q4 o_q5 o_q6 o_q7 o_q8 o_q9 o_q10 o_q11 o_q12 o_q13 o_q14 o_q15 o_q16 o_q17 o_q18 o_q19 o_q20 o_q21 o_q22 o_code o_tape o_size o_fault o_faultPlace o_many o_towns o_weeks o_logs o_reached o_length o_begins o_sort o_value o_word o_wrongAt o_laterFault o_laterPlace o_told o_read o_farOne o_good o_town o_people r.2.1 r.2.2.1 r.2.2.2.1 r.2.2.2.2.1 r.2.2.2.2.2.1 r.2.2.2.2.2.2.1 r.2.2.2.2.2.2.2.1 r.2.2.2.2.2.2.2.2.1 r.2.2.2.2.2.2.2.2.2.1 r.2.2.2.2.2.2.2.2.2.2.1 r.2.2.2.2.2.2.2.2.2.2.2.1 r.2.2.2.2.2.2.2.2.2.2.2.2 o_week o_heaps o_taken o_best o_more o_firstOne o_log o_fitting o_found o_seed o_row o_saved) (some (.int r.1)) := by
  refine Wr.ofZ (by decide) (Nat.le_of_ble_eq_true rfl) ?_
  intro p e s m args below meth c Q A S hK hA hret ls hl hW
  have hl : lv_has ls 2 [(0, .ref o_q0), (1, .int p1)] := hl
  refine lv_aload_n S.1 S.2.1 dX12_doesDeed_0 rfl (lv_at hl 0 rfl) ?_
  refine lv_aload_n S.1 S.2.1 dX12_doesDeed_1 rfl (lv_at hl 0 rfl) ?_
  refine lv_iload_n S.1 S.2.1 dX12_doesDeed_2 rfl (lv_at hl 1 rfl) ?_
  refine lv_iconst (v := 0) S.1 S.2.1 dX12_doesDeed_3 ic_0 ?_
  obtain ⟨x1, hx1, hf⟩ := bnd_e hf
  refine Rd.cV (c_X12_deedOf hx1) S hK hW.1 0 10 rfl rfl kVX12_272 rfl hl.1 [.ref o_q0] rfl (Nat.le_of_ble_eq_true rfl) ⟨(Nat.le_of_ble_eq_true rfl), (Nat.le_of_ble_eq_true rfl)⟩ ⟨(Nat.zero_le _), (Nat.zero_le _)⟩ dX12_doesDeed_4 ?_
  refine lv_aload_n S.1 S.2.1 dX12_doesDeed_7 rfl (lv_at hl 0 rfl) ?_
  refine lv_iload_n S.1 S.2.1 dX12_doesDeed_8 rfl (lv_at hl 1 rfl) ?_
  refine lv_iconst (v := 1) S.1 S.2.1 dX12_doesDeed_9 ic_1 ?_
  obtain ⟨x2, hx2, hf⟩ := bnd_e hf
  refine Rd.cV (c_X12_deedOf hx2) S hK hW.1 0 10 rfl rfl kVX12_272 rfl hl.1 [.int x1, .ref o_q0] rfl (Nat.le_of_ble_eq_true rfl) ⟨(Nat.le_of_ble_eq_true rfl), (Nat.le_of_ble_eq_true rfl)⟩ ⟨(Nat.zero_le _), (Nat.zero_le _)⟩ dX12_doesDeed_10 ?_
  refine lv_aload_n S.1 S.2.1 dX12_doesDeed_13 rfl (lv_at hl 0 rfl) ?_
  refine lv_iload_n S.1 S.2.1 dX12_doesDeed_14 rfl (lv_at hl 1 rfl) ?_
  refine lv_iconst (v := 2) S.1 S.2.1 dX12_doesDeed_15 ic_2 ?_
  obtain ⟨x3, hx3, hf⟩ := bnd_e hf
  refine Rd.cV (c_X12_deedOf hx3) S hK hW.1 0 10 rfl rfl kVX12_272 rfl hl.1 [.int x2, .int x1, .ref o_q0] rfl (Nat.le_of_ble_eq_true rfl) ⟨(Nat.le_of_ble_eq_true rfl), (Nat.le_of_ble_eq_true rfl)⟩ ⟨(Nat.zero_le _), (Nat.zero_le _)⟩ dX12_doesDeed_16 ?_
  refine lv_aload_n S.1 S.2.1 dX12_doesDeed_19 rfl (lv_at hl 0 rfl) ?_
  refine lv_iload_n S.1 S.2.1 dX12_doesDeed_20 rfl (lv_at hl 1 rfl) ?_
  refine lv_iconst (v := 3) S.1 S.2.1 dX12_doesDeed_21 ic_3 ?_
  obtain ⟨x4, hx4, hf⟩ := bnd_e hf
  refine Rd.cV (c_X12_deedOf hx4) S hK hW.1 0 10 rfl rfl kVX12_272 rfl hl.1 [.int x3, .int x2, .int x1, .ref o_q0] rfl (Nat.le_of_ble_eq_true rfl) ⟨(Nat.le_of_ble_eq_true rfl), (Nat.le_of_ble_eq_true rfl)⟩ ⟨(Nat.zero_le _), (Nat.zero_le _)⟩ dX12_doesDeed_22 ?_
  obtain ⟨x5, hx5, hf⟩ := bnd_e hf
  refine Wr.goW (Wr.runV (c_X12_does hx5) S hK hW.1 hW.2.1 0 10 rfl rfl kVX12_299 rfl hl.1 [] rfl (Nat.le_of_ble_eq_true rfl) ⟨(Nat.le_of_ble_eq_true rfl), (Nat.le_of_ble_eq_true rfl)⟩ ⟨(Nat.zero_le _), (Nat.zero_le _)⟩ dX12_doesDeed_25) hW hA (fun H locs hW => ?_)
  obtain ⟨z6, hz6, hf⟩ := bnd_e hf
  obtain ⟨hzz6, ezz6⟩ := bz_e hz6
  rw [ezz6]
  have e_ := Option.some.inj hf
  subst e_
  exact hret _ _ _ _ hzz6 dX12_doesDeed_28 hW
def f_X12_play_L2 (fu : Nat) (o_towns : (Nat → Int32)) (o_weeks : (Nat → Int32)) (o_town : Int32) (o_people : Int32) (o_week : Int32) (p1 : Int32) (s2 : Int32 × Int32 × Int32 × Int32 × Int32 × Int32 × Int32 × Int32 × (Nat → Int32) × (Nat → Int32) × (Nat → Int32) × (Nat → Int32) × (Nat → Int32)) : Option ((Int32 × Int32 × Int32 × Int32 × Int32 × Int32 × Int32 × Int32 × (Nat → Int32) × (Nat → Int32) × (Nat → Int32) × (Nat → Int32) × (Nat → Int32)) ⊕ (Int32 × Int32 × Int32 × Int32 × Int32 × Int32 × Int32 × Int32 × (Nat → Int32) × (Nat → Int32) × (Nat → Int32) × (Nat → Int32) × (Nat → Int32))) := if p1 ≤ s2.1 then some (.inr (s2.1, s2.2.1, s2.2.2.1, s2.2.2.2.1, s2.2.2.2.2.1, s2.2.2.2.2.2.1, s2.2.2.2.2.2.2.1, s2.2.2.2.2.2.2.2.1, s2.2.2.2.2.2.2.2.2.1, s2.2.2.2.2.2.2.2.2.2.1, s2.2.2.2.2.2.2.2.2.2.2.1, s2.2.2.2.2.2.2.2.2.2.2.2.1, s2.2.2.2.2.2.2.2.2.2.2.2.2)) else bnd (α := Int32 × Int32 × Int32 × Int32 × Int32 × Int32 × Int32 × Int32 × (Nat → Int32) × (Nat → Int32) × (Nat → Int32) × (Nat → Int32) × (Nat → Int32)) (f_X12_doesDeed fu o_towns o_weeks o_town o_people s2.2.1 s2.2.2.1 s2.2.2.2.1 s2.2.2.2.2.1 s2.2.2.2.2.2.1 s2.2.2.2.2.2.2.1 s2.2.2.2.2.2.2.2.1 s2.2.2.2.2.2.2.2.2.1 s2.2.2.2.2.2.2.2.2.2.1 s2.2.2.2.2.2.2.2.2.2.2.1 s2.2.2.2.2.2.2.2.2.2.2.2.1 s2.2.2.2.2.2.2.2.2.2.2.2.2 o_week s2.1) (fun x5 => if x5.1 = 0 then some (.inr (s2.1, x5.2.1, x5.2.2.1, x5.2.2.2.1, x5.2.2.2.2.1, x5.2.2.2.2.2.1, x5.2.2.2.2.2.2.1, x5.2.2.2.2.2.2.2.1, x5.2.2.2.2.2.2.2.2.1, x5.2.2.2.2.2.2.2.2.2.1, x5.2.2.2.2.2.2.2.2.2.2.1, x5.2.2.2.2.2.2.2.2.2.2.2.1, x5.2.2.2.2.2.2.2.2.2.2.2.2)) else some (.inl ((s2.1 + 1), x5.2.1, x5.2.2.1, x5.2.2.2.1, x5.2.2.2.2.1, x5.2.2.2.2.2.1, x5.2.2.2.2.2.2.1, x5.2.2.2.2.2.2.2.1, x5.2.2.2.2.2.2.2.2.1, x5.2.2.2.2.2.2.2.2.2.1, x5.2.2.2.2.2.2.2.2.2.2.1, x5.2.2.2.2.2.2.2.2.2.2.2.1, x5.2.2.2.2.2.2.2.2.2.2.2.2)))
def f_X12_play (fu : Nat) (o_towns : (Nat → Int32)) (o_weeks : (Nat → Int32)) (o_town : Int32) (o_people : Int32) (o_when : Int32) (o_sat : Int32) (o_quiet : Int32) (o_vain : Int32) (o_lent : Int32) (o_forgiven : Int32) (o_sundays : Int32) (o_purse : (Nat → Int32)) (o_beside : (Nat → Int32)) (o_debts : (Nat → Int32)) (o_sitting : (Nat → Int32)) (o_visited : (Nat → Int32)) (o_week : Int32) (p1 : Int32) : Option (Int32 × Int32 × Int32 × Int32 × Int32 × Int32 × Int32 × Int32 × (Nat → Int32) × (Nat → Int32) × (Nat → Int32) × (Nat → Int32) × (Nat → Int32)) := bnd (α := Int32 × Int32 × Int32 × Int32 × Int32 × Int32 × Int32 × Int32 × (Nat → Int32) × (Nat → Int32) × (Nat → Int32) × (Nat → Int32) × (Nat → Int32)) (lp (f_X12_play_L2 fu o_towns o_weeks o_town o_people o_week p1) fu ((0 : Int32), o_when, o_sat, o_quiet, o_vain, o_lent, o_forgiven, o_sundays, o_purse, o_beside, o_debts, o_sitting, o_visited)) (fun v6 => some (v6.1, v6.2.1, v6.2.2.1, v6.2.2.2.1, v6.2.2.2.2.1, v6.2.2.2.2.2.1, v6.2.2.2.2.2.2.1, v6.2.2.2.2.2.2.2.1, v6.2.2.2.2.2.2.2.2.1, v6.2.2.2.2.2.2.2.2.2.1, v6.2.2.2.2.2.2.2.2.2.2.1, v6.2.2.2.2.2.2.2.2.2.2.2.1, v6.2.2.2.2.2.2.2.2.2.2.2.2))
set_option maxHeartbeats 4000000 in
set_option maxRecDepth 100000 in
theorem c_X12_play {l : Launch} {D : va_G} {g : Nat → ClassId} {fu : Nat} {o_q0 o_q1 o_q2 o_q3 o_q4 o_q5 o_q6 o_q7 o_q8 o_q9 o_q10 o_q11 o_q12 o_q13 o_q14 o_q15 o_q16 o_q17 o_q18 o_q19 o_q20 o_q21 o_q22 : Nat} {o_code : Int32} {o_tape : (Nat → Int32)} {o_size : (Nat → Int32)} {o_fault : (Nat → Int32)} {o_faultPlace : (Nat → Int32)} {o_many : (Nat → Int32)} {o_towns : (Nat → Int32)} {o_weeks : (Nat → Int32)} {o_logs : (Nat → Int32)} {o_reached : Int32} {o_length : Int32} {o_begins : Int32} {o_sort : Int32} {o_value : Int32} {o_word : Int64} {o_wrongAt : Int32} {o_laterFault : Int32} {o_laterPlace : Int32} {o_told : (Nat → Int32)} {o_read : (Nat → Int32)} {o_farOne : Int32} {o_good : Int32} {o_town : Int32} {o_people : Int32} {o_when : Int32} {o_sat : Int32} {o_quiet : Int32} {o_vain : Int32} {o_lent : Int32} {o_forgiven : Int32} {o_sundays : Int32} {o_purse : (Nat → Int32)} {o_beside : (Nat → Int32)} {o_debts : (Nat → Int32)} {o_sitting : (Nat → Int32)} {o_visited : (Nat → Int32)} {o_week : Int32} {o_heaps : (Nat → Int32)} {o_taken : (Nat → Int32)} {o_best : (Nat → Int32)} {o_more : (Nat → Int32)} {o_firstOne : Int32} {o_log : Int32} {o_fitting : (Nat → Int32)} {o_found : Int32} {o_seed : Int32} {o_row : (Nat → Int32)} {o_saved : (Nat → Int32)} {p1 : Int32} {r : Int32 × Int32 × Int32 × Int32 × Int32 × Int32 × Int32 × Int32 × (Nat → Int32) × (Nat → Int32) × (Nat → Int32) × (Nat → Int32) × (Nat → Int32)} (hf : f_X12_play fu o_towns o_weeks o_town o_people o_when o_sat o_quiet o_vain o_lent o_forgiven o_sundays o_purse o_beside o_debts o_sitting o_visited o_week p1 = some r) : Wr l D (gy g) yX12_play cX12_play 3 (some .int) 5 [.ref o_q0, .int p1] (wMd g o_q0 o_q1 o_q2 o_q3 o_q4 o_q5 o_q6 o_q7 o_q8 o_q9 o_q10 o_q11 o_q12 o_q13 o_q14 o_q15 o_q16 o_q17 o_q18 o_q19 o_q20 o_q21 o_q22 o_code o_tape o_size o_fault o_faultPlace o_many o_towns o_weeks o_logs o_reached o_length o_begins o_sort o_value o_word o_wrongAt o_laterFault o_laterPlace o_told o_read o_farOne o_good o_town o_people o_when o_sat o_quiet o_vain o_lent o_forgiven o_sundays o_purse o_beside o_debts o_sitting o_visited o_week o_heaps o_taken o_best o_more o_firstOne o_log o_fitting o_found o_seed o_row o_saved) (wMd g o_q0 o_q1 o_q2 o_q3 o_q4 o_q5 o_q6 o_q7 o_q8 o_q9 o_q10 o_q11 o_q12 o_q13 o_q14 o_q15 o_q16 o_q17 o_q18 o_q19 o_q20 o_q21 o_q22 o_code o_tape o_size o_fault o_faultPlace o_many o_towns o_weeks o_logs o_reached o_length o_begins o_sort o_value o_word o_wrongAt o_laterFault o_laterPlace o_told o_read o_farOne o_good o_town o_people r.2.1 r.2.2.1 r.2.2.2.1 r.2.2.2.2.1 r.2.2.2.2.2.1 r.2.2.2.2.2.2.1 r.2.2.2.2.2.2.2.1 r.2.2.2.2.2.2.2.2.1 r.2.2.2.2.2.2.2.2.2.1 r.2.2.2.2.2.2.2.2.2.2.1 r.2.2.2.2.2.2.2.2.2.2.2.1 r.2.2.2.2.2.2.2.2.2.2.2.2 o_week o_heaps o_taken o_best o_more o_firstOne o_log o_fitting o_found o_seed o_row o_saved) (some (.int r.1)) := by
  refine Wr.ofI (by decide) (Nat.le_of_ble_eq_true rfl) ?_
  intro p e s m args below meth c Q A S hK hA hret ls hl hW
  have hl : lv_has ls 3 [(0, .ref o_q0), (1, .int p1)] := hl
  refine lv_iconst (v := 0) S.1 S.2.1 dX12_play_0 ic_0 ?_
  refine lv_istore_n (lv' := [(2, .int (0 : Int32)), (0, .ref o_q0), (1, .int p1)]) S.1 S.2.1 dX12_play_1 rfl hl (by decide) rfl (fun ls hl => ?_)
  obtain ⟨x3, hf_, hk3⟩ := bnd_e hf
  have hE3 : ∀ (v6 : Int32 × Int32 × Int32 × Int32 × Int32 × Int32 × Int32 × Int32 × (Nat → Int32) × (Nat → Int32) × (Nat → Int32) × (Nat → Int32) × (Nat → Int32)), v6 = x3 → ∀ (ls : Array Slot) (H : Heap) (locs : List Loc), lv_has ls 3 [(2, .int v6.1)] → St A s.heap D (wMd g o_q0 o_q1 o_q2 o_q3 o_q4 o_q5 o_q6 o_q7 o_q8 o_q9 o_q10 o_q11 o_q12 o_q13 o_q14 o_q15 o_q16 o_q17 o_q18 o_q19 o_q20 o_q21 o_q22 o_code o_tape o_size o_fault o_faultPlace o_many o_towns o_weeks o_logs o_reached o_length o_begins o_sort o_value o_word o_wrongAt o_laterFault o_laterPlace o_told o_read o_farOne o_good o_town o_people v6.2.1 v6.2.2.1 v6.2.2.2.1 v6.2.2.2.2.1 v6.2.2.2.2.2.1 v6.2.2.2.2.2.2.1 v6.2.2.2.2.2.2.2.1 v6.2.2.2.2.2.2.2.2.1 v6.2.2.2.2.2.2.2.2.2.1 v6.2.2.2.2.2.2.2.2.2.2.1 v6.2.2.2.2.2.2.2.2.2.2.2.1 v6.2.2.2.2.2.2.2.2.2.2.2.2 o_week o_heaps o_taken o_best o_more o_firstOne o_log o_fitting o_found o_seed o_row o_saved) H locs → W p l e (rmD 5) s m args below meth c H locs 0 0 Q (F0 m 21 ls []) := by
    intro v6 e_ ls H locs hl hW
    subst e_
    have hf := hk3
    refine lv_iload_n S.1 S.2.1 dX12_play_21 rfl (lv_at hl 0 rfl) ?_
    have e_ := Option.some.inj hf
    subst e_
    exact hret _ _ _ _ dX12_play_22 hW
  refine lp_ind (P := fun (s2 : Int32 × Int32 × Int32 × Int32 × Int32 × Int32 × Int32 × Int32 × (Nat → Int32) × (Nat → Int32) × (Nat → Int32) × (Nat → Int32) × (Nat → Int32)) => ∀ (ls : Array Slot) (H : Heap) (locs : List Loc), lv_has ls 3 [(0, .ref o_q0), (1, .int p1), (2, .int s2.1)] → St A s.heap D (wMd g o_q0 o_q1 o_q2 o_q3 o_q4 o_q5 o_q6 o_q7 o_q8 o_q9 o_q10 o_q11 o_q12 o_q13 o_q14 o_q15 o_q16 o_q17 o_q18 o_q19 o_q20 o_q21 o_q22 o_code o_tape o_size o_fault o_faultPlace o_many o_towns o_weeks o_logs o_reached o_length o_begins o_sort o_value o_word o_wrongAt o_laterFault o_laterPlace o_told o_read o_farOne o_good o_town o_people s2.2.1 s2.2.2.1 s2.2.2.2.1 s2.2.2.2.2.1 s2.2.2.2.2.2.1 s2.2.2.2.2.2.2.1 s2.2.2.2.2.2.2.2.1 s2.2.2.2.2.2.2.2.2.1 s2.2.2.2.2.2.2.2.2.2.1 s2.2.2.2.2.2.2.2.2.2.2.1 s2.2.2.2.2.2.2.2.2.2.2.2.1 s2.2.2.2.2.2.2.2.2.2.2.2.2 o_week o_heaps o_taken o_best o_more o_firstOne o_log o_fitting o_found o_seed o_row o_saved) H locs → W p l e (rmD 5) s m args below meth c H locs 0 0 Q (F0 m 2 ls [])) ?_ _ _ hf_ _ _ _ (lv_sub hl [1, 2, 0] rfl) hW
  intro s2 x4 hf hI3 hR3 ls H locs hl hW
  refine lv_iload_n S.1 S.2.1 dX12_play_2 rfl (lv_at hl 2 rfl) ?_
  refine lv_iload_n S.1 S.2.1 dX12_play_3 rfl (lv_at hl 1 rfl) ?_
  refine lv_icmp_ge (tgt := 21) S.1 S.2.1 dX12_play_4 (by decide) (fun c_ => ?_) (fun c_ => ?_)
  · have hf := it_p c_ hf
    have e_ := hR3 _ (Option.some.inj hf).symm
    exact hE3 _ e_ _ _ _ (lv_sub hl [2] rfl) hW
  · have hf := it_n c_ hf
    refine lv_aload_n S.1 S.2.1 dX12_play_7 rfl (lv_at hl 0 rfl) ?_
    refine lv_iload_n S.1 S.2.1 dX12_play_8 rfl (lv_at hl 2 rfl) ?_
    obtain ⟨x5, hx5, hf⟩ := bnd_e hf
    refine Wr.goW (Wr.runV (c_X12_doesDeed hx5) S hK hW.1 hW.2.1 0 10 rfl rfl kVX12_302 rfl hl.1 [] rfl (Nat.le_of_ble_eq_true rfl) ⟨(Nat.le_of_ble_eq_true rfl), (Nat.le_of_ble_eq_true rfl)⟩ ⟨(Nat.zero_le _), (Nat.zero_le _)⟩ dX12_play_9) hW hA (fun H locs hW => ?_)
    refine lv_if_eq (tgt := 21) S.1 S.2.1 dX12_play_12 (by decide) (fun c_ => ?_) (fun c_ => ?_)
    · have hf := it_p c_ hf
      have e_ := hR3 _ (Option.some.inj hf).symm
      exact hE3 _ e_ _ _ _ (lv_sub hl [2] rfl) hW
    · have hf := it_n c_ hf
      refine q_iinc (w := 1) (lv' := [(2, .int (s2.1 + 1)), (0, .ref o_q0), (1, .int p1)]) S dX12_play_15 hl (k := 2) rfl ic_1 (by decide) rfl (fun ls hl => ?_)
      refine lv_goto (tgt := 2) S.1 S.2.1 dX12_play_18 (by decide) ?_
      exact hI3 _ (Option.some.inj hf).symm _ _ _ (lv_sub hl [1, 2, 0] rfl) hW
def f_X12_layAll (fu : Nat) (o_many : (Nat → Int32)) (o_towns : (Nat → Int32)) (o_town : Int32) (o_people : Int32) (o_when : Int32) (o_sat : Int32) (o_quiet : Int32) (o_vain : Int32) (o_lent : Int32) (o_forgiven : Int32) (o_sundays : Int32) (o_purse : (Nat → Int32)) (o_beside : (Nat → Int32)) (o_debts : (Nat → Int32)) (o_sitting : (Nat → Int32)) (o_visited : (Nat → Int32)) (o_week : Int32) (p1 : Int32) (p2 : Int32) : Option (Int32 × Int32 × Int32 × Int32 × Int32 × Int32 × Int32 × Int32 × Int32 × Int32 × (Nat → Int32) × (Nat → Int32) × (Nat → Int32) × (Nat → Int32) × (Nat → Int32) × Int32) := bnd (α := Int32 × Int32) (f_X12_hasWeek fu o_many o_week p2) (fun x1 => if x1.1 = 0 then some ((0 : Int32), o_town, o_people, o_when, o_sat, o_quiet, o_vain, o_lent, o_forgiven, o_sundays, o_purse, o_beside, o_debts, o_sitting, o_visited, x1.2) else bnd (α := Int32 × Int32 × Int32 × Int32 × Int32 × Int32 × Int32 × Int32 × Int32 × Int32 × (Nat → Int32) × (Nat → Int32) × (Nat → Int32) × (Nat → Int32) × (Nat → Int32)) (f_X12_hand fu o_many o_towns o_town o_people o_when o_sat o_quiet o_vain o_lent o_forgiven o_sundays o_purse o_beside o_debts o_sitting o_visited p1) (fun x2 => if x2.1 = 0 then some ((0 : Int32), x2.2.1, x2.2.2.1, x2.2.2.2.1, x2.2.2.2.2.1, x2.2.2.2.2.2.1, x2.2.2.2.2.2.2.1, x2.2.2.2.2.2.2.2.1, x2.2.2.2.2.2.2.2.2.1, x2.2.2.2.2.2.2.2.2.2.1, x2.2.2.2.2.2.2.2.2.2.2.1, x2.2.2.2.2.2.2.2.2.2.2.2.1, x2.2.2.2.2.2.2.2.2.2.2.2.2.1, x2.2.2.2.2.2.2.2.2.2.2.2.2.2.1, x2.2.2.2.2.2.2.2.2.2.2.2.2.2.2, x1.2) else some ((1 : Int32), x2.2.1, x2.2.2.1, x2.2.2.2.1, x2.2.2.2.2.1, x2.2.2.2.2.2.1, x2.2.2.2.2.2.2.1, x2.2.2.2.2.2.2.2.1, x2.2.2.2.2.2.2.2.2.1, x2.2.2.2.2.2.2.2.2.2.1, x2.2.2.2.2.2.2.2.2.2.2.1, x2.2.2.2.2.2.2.2.2.2.2.2.1, x2.2.2.2.2.2.2.2.2.2.2.2.2.1, x2.2.2.2.2.2.2.2.2.2.2.2.2.2.1, x2.2.2.2.2.2.2.2.2.2.2.2.2.2.2, x1.2)))
set_option maxHeartbeats 4000000 in
set_option maxRecDepth 100000 in
theorem c_X12_layAll {l : Launch} {D : va_G} {g : Nat → ClassId} {fu : Nat} {o_q0 o_q1 o_q2 o_q3 o_q4 o_q5 o_q6 o_q7 o_q8 o_q9 o_q10 o_q11 o_q12 o_q13 o_q14 o_q15 o_q16 o_q17 o_q18 o_q19 o_q20 o_q21 o_q22 : Nat} {o_code : Int32} {o_tape : (Nat → Int32)} {o_size : (Nat → Int32)} {o_fault : (Nat → Int32)} {o_faultPlace : (Nat → Int32)} {o_many : (Nat → Int32)} {o_towns : (Nat → Int32)} {o_weeks : (Nat → Int32)} {o_logs : (Nat → Int32)} {o_reached : Int32} {o_length : Int32} {o_begins : Int32} {o_sort : Int32} {o_value : Int32} {o_word : Int64} {o_wrongAt : Int32} {o_laterFault : Int32} {o_laterPlace : Int32} {o_told : (Nat → Int32)} {o_read : (Nat → Int32)} {o_farOne : Int32} {o_good : Int32} {o_town : Int32} {o_people : Int32} {o_when : Int32} {o_sat : Int32} {o_quiet : Int32} {o_vain : Int32} {o_lent : Int32} {o_forgiven : Int32} {o_sundays : Int32} {o_purse : (Nat → Int32)} {o_beside : (Nat → Int32)} {o_debts : (Nat → Int32)} {o_sitting : (Nat → Int32)} {o_visited : (Nat → Int32)} {o_week : Int32} {o_heaps : (Nat → Int32)} {o_taken : (Nat → Int32)} {o_best : (Nat → Int32)} {o_more : (Nat → Int32)} {o_firstOne : Int32} {o_log : Int32} {o_fitting : (Nat → Int32)} {o_found : Int32} {o_seed : Int32} {o_row : (Nat → Int32)} {o_saved : (Nat → Int32)} {p1 : Int32} {p2 : Int32} {r : Int32 × Int32 × Int32 × Int32 × Int32 × Int32 × Int32 × Int32 × Int32 × Int32 × (Nat → Int32) × (Nat → Int32) × (Nat → Int32) × (Nat → Int32) × (Nat → Int32) × Int32} (hf : f_X12_layAll fu o_many o_towns o_town o_people o_when o_sat o_quiet o_vain o_lent o_forgiven o_sundays o_purse o_beside o_debts o_sitting o_visited o_week p1 p2 = some r) : Wr l D (gy g) yX12_layAll cX12_layAll 3 (some .boolean) 3 [.ref o_q0, .int p1, .int p2] (wMd g o_q0 o_q1 o_q2 o_q3 o_q4 o_q5 o_q6 o_q7 o_q8 o_q9 o_q10 o_q11 o_q12 o_q13 o_q14 o_q15 o_q16 o_q17 o_q18 o_q19 o_q20 o_q21 o_q22 o_code o_tape o_size o_fault o_faultPlace o_many o_towns o_weeks o_logs o_reached o_length o_begins o_sort o_value o_word o_wrongAt o_laterFault o_laterPlace o_told o_read o_farOne o_good o_town o_people o_when o_sat o_quiet o_vain o_lent o_forgiven o_sundays o_purse o_beside o_debts o_sitting o_visited o_week o_heaps o_taken o_best o_more o_firstOne o_log o_fitting o_found o_seed o_row o_saved) (wMd g o_q0 o_q1 o_q2 o_q3 o_q4 o_q5 o_q6 o_q7 o_q8 o_q9 o_q10 o_q11 o_q12 o_q13 o_q14 o_q15 o_q16 o_q17 o_q18 o_q19 o_q20 o_q21 o_q22 o_code o_tape o_size o_fault o_faultPlace o_many o_towns o_weeks o_logs o_reached o_length o_begins o_sort o_value o_word o_wrongAt o_laterFault o_laterPlace o_told o_read o_farOne o_good r.2.1 r.2.2.1 r.2.2.2.1 r.2.2.2.2.1 r.2.2.2.2.2.1 r.2.2.2.2.2.2.1 r.2.2.2.2.2.2.2.1 r.2.2.2.2.2.2.2.2.1 r.2.2.2.2.2.2.2.2.2.1 r.2.2.2.2.2.2.2.2.2.2.1 r.2.2.2.2.2.2.2.2.2.2.2.1 r.2.2.2.2.2.2.2.2.2.2.2.2.1 r.2.2.2.2.2.2.2.2.2.2.2.2.2.1 r.2.2.2.2.2.2.2.2.2.2.2.2.2.2.1 r.2.2.2.2.2.2.2.2.2.2.2.2.2.2.2 o_heaps o_taken o_best o_more o_firstOne o_log o_fitting o_found o_seed o_row o_saved) (some (.int r.1)) := by
  refine Wr.ofZ (by decide) (Nat.le_of_ble_eq_true rfl) ?_
  intro p e s m args below meth c Q A S hK hA hret ls hl hW
  have hl : lv_has ls 3 [(0, .ref o_q0), (1, .int p1), (2, .int p2)] := hl
  refine lv_aload_n S.1 S.2.1 dX12_layAll_0 rfl (lv_at hl 0 rfl) ?_
  refine lv_iload_n S.1 S.2.1 dX12_layAll_1 rfl (lv_at hl 2 rfl) ?_
  obtain ⟨x1, hx1, hf⟩ := bnd_e hf
  refine Wr.goW (Wr.runV (c_X12_hasWeek hx1) S hK hW.1 hW.2.1 0 10 rfl rfl kVX12_266 rfl hl.1 [] rfl (Nat.le_of_ble_eq_true rfl) ⟨(Nat.le_of_ble_eq_true rfl), (Nat.le_of_ble_eq_true rfl)⟩ ⟨(Nat.zero_le _), (Nat.zero_le _)⟩ dX12_layAll_2) hW hA (fun H locs hW => ?_)
  refine lv_if_eq (tgt := 20) S.1 S.2.1 dX12_layAll_5 (by decide) (fun c_ => ?_) (fun c_ => ?_)
  · have hf := it_p c_ hf
    refine lv_iconst (v := 0) S.1 S.2.1 dX12_layAll_20 ic_0 ?_
    have e_ := Option.some.inj hf
    subst e_
    exact hret _ _ _ _ (Or.inl rfl) dX12_layAll_21 hW
  · have hf := it_n c_ hf
    refine lv_aload_n S.1 S.2.1 dX12_layAll_8 rfl (lv_at hl 0 rfl) ?_
    refine lv_iload_n S.1 S.2.1 dX12_layAll_9 rfl (lv_at hl 1 rfl) ?_
    obtain ⟨x2, hx2, hf⟩ := bnd_e hf
    refine Wr.goW (Wr.runV (c_X12_hand hx2) S hK hW.1 hW.2.1 0 10 rfl rfl kVX12_257 rfl hl.1 [] rfl (Nat.le_of_ble_eq_true rfl) ⟨(Nat.le_of_ble_eq_true rfl), (Nat.le_of_ble_eq_true rfl)⟩ ⟨(Nat.zero_le _), (Nat.zero_le _)⟩ dX12_layAll_10) hW hA (fun H locs hW => ?_)
    refine lv_if_eq (tgt := 20) S.1 S.2.1 dX12_layAll_13 (by decide) (fun c_ => ?_) (fun c_ => ?_)
    · have hf := it_p c_ hf
      refine lv_iconst (v := 0) S.1 S.2.1 dX12_layAll_20 ic_0 ?_
      have e_ := Option.some.inj hf
      subst e_
      exact hret _ _ _ _ (Or.inl rfl) dX12_layAll_21 hW
    · have hf := it_n c_ hf
      refine lv_iconst (v := 1) S.1 S.2.1 dX12_layAll_16 ic_1 ?_
      refine lv_goto (tgt := 21) S.1 S.2.1 dX12_layAll_17 (by decide) ?_
      have e_ := Option.some.inj hf
      subst e_
      exact hret _ _ _ _ (Or.inr rfl) dX12_layAll_21 hW
def f_X12_till (fu : Nat) (o_code : Int32) (o_many : (Nat → Int32)) (o_towns : (Nat → Int32)) (o_weeks : (Nat → Int32)) (o_town : Int32) (o_people : Int32) (o_when : Int32) (o_sat : Int32) (o_quiet : Int32) (o_vain : Int32) (o_lent : Int32) (o_forgiven : Int32) (o_sundays : Int32) (o_purse : (Nat → Int32)) (o_beside : (Nat → Int32)) (o_debts : (Nat → Int32)) (o_sitting : (Nat → Int32)) (o_visited : (Nat → Int32)) (o_week : Int32) (p1 : Int32) (p2 : Int32) : Option (Int32 × Int32 × Int32 × Int32 × Int32 × Int32 × Int32 × Int32 × Int32 × Int32 × Int32 × (Nat → Int32) × (Nat → Int32) × (Nat → Int32) × (Nat → Int32) × (Nat → Int32) × Int32) := bnd (α := Int32 × Int32 × Int32 × Int32 × Int32 × Int32 × Int32 × Int32 × Int32 × Int32 × (Nat → Int32) × (Nat → Int32) × (Nat → Int32) × (Nat → Int32) × (Nat → Int32) × Int32) (f_X12_layAll fu o_many o_towns o_town o_people o_when o_sat o_quiet o_vain o_lent o_forgiven o_sundays o_purse o_beside o_debts o_sitting o_visited o_week p1 p2) (fun x1 => if x1.1 = 0 then some ((-1 : Int32), (0 : Int32), x1.2.1, x1.2.2.1, x1.2.2.2.1, x1.2.2.2.2.1, x1.2.2.2.2.2.1, x1.2.2.2.2.2.2.1, x1.2.2.2.2.2.2.2.1, x1.2.2.2.2.2.2.2.2.1, x1.2.2.2.2.2.2.2.2.2.1, x1.2.2.2.2.2.2.2.2.2.2.1, x1.2.2.2.2.2.2.2.2.2.2.2.1, x1.2.2.2.2.2.2.2.2.2.2.2.2.1, x1.2.2.2.2.2.2.2.2.2.2.2.2.2.1, x1.2.2.2.2.2.2.2.2.2.2.2.2.2.2.1, x1.2.2.2.2.2.2.2.2.2.2.2.2.2.2.2) else bnd (α := Int32) (f_X12_deeds fu o_weeks x1.2.2.2.2.2.2.2.2.2.2.2.2.2.2.2) (fun x2 => bnd (α := Int32 × Int32 × Int32 × Int32 × Int32 × Int32 × Int32 × Int32 × (Nat → Int32) × (Nat → Int32) × (Nat → Int32) × (Nat → Int32) × (Nat → Int32)) (f_X12_play fu o_towns o_weeks x1.2.1 x1.2.2.1 x1.2.2.2.1 x1.2.2.2.2.1 x1.2.2.2.2.2.1 x1.2.2.2.2.2.2.1 x1.2.2.2.2.2.2.2.1 x1.2.2.2.2.2.2.2.2.1 x1.2.2.2.2.2.2.2.2.2.1 x1.2.2.2.2.2.2.2.2.2.2.1 x1.2.2.2.2.2.2.2.2.2.2.2.1 x1.2.2.2.2.2.2.2.2.2.2.2.2.1 x1.2.2.2.2.2.2.2.2.2.2.2.2.2.1 x1.2.2.2.2.2.2.2.2.2.2.2.2.2.2.1 x1.2.2.2.2.2.2.2.2.2.2.2.2.2.2.2 x2) (fun x3 => some (x3.1, (0 : Int32), x1.2.1, x1.2.2.1, x3.2.1, x3.2.2.1, x3.2.2.2.1, x3.2.2.2.2.1, x3.2.2.2.2.2.1, x3.2.2.2.2.2.2.1, x3.2.2.2.2.2.2.2.1, x3.2.2.2.2.2.2.2.2.1, x3.2.2.2.2.2.2.2.2.2.1, x3.2.2.2.2.2.2.2.2.2.2.1, x3.2.2.2.2.2.2.2.2.2.2.2.1, x3.2.2.2.2.2.2.2.2.2.2.2.2, x1.2.2.2.2.2.2.2.2.2.2.2.2.2.2.2))))
set_option maxHeartbeats 4000000 in
set_option maxRecDepth 100000 in
theorem c_X12_till {l : Launch} {D : va_G} {g : Nat → ClassId} {fu : Nat} {o_q0 o_q1 o_q2 o_q3 o_q4 o_q5 o_q6 o_q7 o_q8 o_q9 o_q10 o_q11 o_q12 o_q13 o_q14 o_q15 o_q16 o_q17 o_q18 o_q19 o_q20 o_q21 o_q22 : Nat} {o_code : Int32} {o_tape : (Nat → Int32)} {o_size : (Nat → Int32)} {o_fault : (Nat → Int32)} {o_faultPlace : (Nat → Int32)} {o_many : (Nat → Int32)} {o_towns : (Nat → Int32)} {o_weeks : (Nat → Int32)} {o_logs : (Nat → Int32)} {o_reached : Int32} {o_length : Int32} {o_begins : Int32} {o_sort : Int32} {o_value : Int32} {o_word : Int64} {o_wrongAt : Int32} {o_laterFault : Int32} {o_laterPlace : Int32} {o_told : (Nat → Int32)} {o_read : (Nat → Int32)} {o_farOne : Int32} {o_good : Int32} {o_town : Int32} {o_people : Int32} {o_when : Int32} {o_sat : Int32} {o_quiet : Int32} {o_vain : Int32} {o_lent : Int32} {o_forgiven : Int32} {o_sundays : Int32} {o_purse : (Nat → Int32)} {o_beside : (Nat → Int32)} {o_debts : (Nat → Int32)} {o_sitting : (Nat → Int32)} {o_visited : (Nat → Int32)} {o_week : Int32} {o_heaps : (Nat → Int32)} {o_taken : (Nat → Int32)} {o_best : (Nat → Int32)} {o_more : (Nat → Int32)} {o_firstOne : Int32} {o_log : Int32} {o_fitting : (Nat → Int32)} {o_found : Int32} {o_seed : Int32} {o_row : (Nat → Int32)} {o_saved : (Nat → Int32)} {p1 : Int32} {p2 : Int32} {r : Int32 × Int32 × Int32 × Int32 × Int32 × Int32 × Int32 × Int32 × Int32 × Int32 × Int32 × (Nat → Int32) × (Nat → Int32) × (Nat → Int32) × (Nat → Int32) × (Nat → Int32) × Int32} (hf : f_X12_till fu o_code o_many o_towns o_weeks o_town o_people o_when o_sat o_quiet o_vain o_lent o_forgiven o_sundays o_purse o_beside o_debts o_sitting o_visited o_week p1 p2 = some r) : Wr l D (gy g) yX12_till cX12_till 3 (some .int) 6 [.ref o_q0, .int p1, .int p2] (wMd g o_q0 o_q1 o_q2 o_q3 o_q4 o_q5 o_q6 o_q7 o_q8 o_q9 o_q10 o_q11 o_q12 o_q13 o_q14 o_q15 o_q16 o_q17 o_q18 o_q19 o_q20 o_q21 o_q22 o_code o_tape o_size o_fault o_faultPlace o_many o_towns o_weeks o_logs o_reached o_length o_begins o_sort o_value o_word o_wrongAt o_laterFault o_laterPlace o_told o_read o_farOne o_good o_town o_people o_when o_sat o_quiet o_vain o_lent o_forgiven o_sundays o_purse o_beside o_debts o_sitting o_visited o_week o_heaps o_taken o_best o_more o_firstOne o_log o_fitting o_found o_seed o_row o_saved) (wMd g o_q0 o_q1 o_q2 o_q3 o_q4 o_q5 o_q6 o_q7 o_q8 o_q9 o_q10 o_q11 o_q12 o_q13 o_q14 o_q15 o_q16 o_q17 o_q18 o_q19 o_q20 o_q21 o_q22 r.2.1 o_tape o_size o_fault o_faultPlace o_many o_towns o_weeks o_logs o_reached o_length o_begins o_sort o_value o_word o_wrongAt o_laterFault o_laterPlace o_told o_read o_farOne o_good r.2.2.1 r.2.2.2.1 r.2.2.2.2.1 r.2.2.2.2.2.1 r.2.2.2.2.2.2.1 r.2.2.2.2.2.2.2.1 r.2.2.2.2.2.2.2.2.1 r.2.2.2.2.2.2.2.2.2.1 r.2.2.2.2.2.2.2.2.2.2.1 r.2.2.2.2.2.2.2.2.2.2.2.1 r.2.2.2.2.2.2.2.2.2.2.2.2.1 r.2.2.2.2.2.2.2.2.2.2.2.2.2.1 r.2.2.2.2.2.2.2.2.2.2.2.2.2.2.1 r.2.2.2.2.2.2.2.2.2.2.2.2.2.2.2.1 r.2.2.2.2.2.2.2.2.2.2.2.2.2.2.2.2 o_heaps o_taken o_best o_more o_firstOne o_log o_fitting o_found o_seed o_row o_saved) (some (.int r.1)) := by
  refine Wr.ofI (by decide) (Nat.le_of_ble_eq_true rfl) ?_
  intro p e s m args below meth c Q A S hK hA hret ls hl hW
  have hl : lv_has ls 3 [(0, .ref o_q0), (1, .int p1), (2, .int p2)] := hl
  refine lv_aload_n S.1 S.2.1 dX12_till_0 rfl (lv_at hl 0 rfl) ?_
  refine lv_iconst (v := 0) S.1 S.2.1 dX12_till_1 ic_0 ?_
  refine pfX12_78 (ws2 := (wMd g o_q0 o_q1 o_q2 o_q3 o_q4 o_q5 o_q6 o_q7 o_q8 o_q9 o_q10 o_q11 o_q12 o_q13 o_q14 o_q15 o_q16 o_q17 o_q18 o_q19 o_q20 o_q21 o_q22 (0 : Int32) o_tape o_size o_fault o_faultPlace o_many o_towns o_weeks o_logs o_reached o_length o_begins o_sort o_value o_word o_wrongAt o_laterFault o_laterPlace o_told o_read o_farOne o_good o_town o_people o_when o_sat o_quiet o_vain o_lent o_forgiven o_sundays o_purse o_beside o_debts o_sitting o_visited o_week o_heaps o_taken o_best o_more o_firstOne o_log o_fitting o_found o_seed o_row o_saved)) S hK hW 0 rfl rfl rfl (Nat.le_of_ble_eq_true rfl) rfl dX12_till_2 (fun H locs hW => ?_)
  refine lv_aload_n S.1 S.2.1 dX12_till_5 rfl (lv_at hl 0 rfl) ?_
  refine lv_iload_n S.1 S.2.1 dX12_till_6 rfl (lv_at hl 1 rfl) ?_
  refine lv_iload_n S.1 S.2.1 dX12_till_7 rfl (lv_at hl 2 rfl) ?_
  obtain ⟨x1, hx1, hf⟩ := bnd_e hf
  refine Wr.goW (Wr.runV (c_X12_layAll hx1) S hK hW.1 hW.2.1 0 10 rfl rfl kVX12_305 rfl hl.1 [] rfl (Nat.le_of_ble_eq_true rfl) ⟨(Nat.le_of_ble_eq_true rfl), (Nat.le_of_ble_eq_true rfl)⟩ ⟨(Nat.zero_le _), (Nat.zero_le _)⟩ dX12_till_8) hW hA (fun H locs hW => ?_)
  refine lv_if_eq (tgt := 25) S.1 S.2.1 dX12_till_11 (by decide) (fun c_ => ?_) (fun c_ => ?_)
  · have hf := it_p c_ hf
    refine lv_iconst (v := (-1)) S.1 S.2.1 dX12_till_25 ic_m1 ?_
    have e_ := Option.some.inj hf
    subst e_
    exact hret _ _ _ _ dX12_till_26 hW
  · have hf := it_n c_ hf
    refine lv_aload_n S.1 S.2.1 dX12_till_14 rfl (lv_at hl 0 rfl) ?_
    refine lv_aload_n S.1 S.2.1 dX12_till_15 rfl (lv_at hl 0 rfl) ?_
    obtain ⟨x2, hx2, hf⟩ := bnd_e hf
    refine Rd.cV (c_X12_deeds hx2) S hK hW.1 0 10 rfl rfl kVX12_269 rfl hl.1 [.ref o_q0] rfl (Nat.le_of_ble_eq_true rfl) ⟨(Nat.le_of_ble_eq_true rfl), (Nat.le_of_ble_eq_true rfl)⟩ ⟨(Nat.zero_le _), (Nat.zero_le _)⟩ dX12_till_16 ?_
    obtain ⟨x3, hx3, hf⟩ := bnd_e hf
    refine Wr.goW (Wr.runV (c_X12_play hx3) S hK hW.1 hW.2.1 0 10 rfl rfl kVX12_308 rfl hl.1 [] rfl (Nat.le_of_ble_eq_true rfl) ⟨(Nat.le_of_ble_eq_true rfl), (Nat.le_of_ble_eq_true rfl)⟩ ⟨(Nat.zero_le _), (Nat.zero_le _)⟩ dX12_till_19) hW hA (fun H locs hW => ?_)
    refine lv_goto (tgt := 26) S.1 S.2.1 dX12_till_22 (by decide) ?_
    have e_ := Option.some.inj hf
    subst e_
    exact hret _ _ _ _ dX12_till_26 hW
def f_X12_allOwed_L4 (fu : Nat) (o_people : Int32) (o_debts : (Nat → Int32)) (s2 : Int32 × Int32) : Option ((Int32 × Int32) ⊕ (Int32)) := if o_people ≤ s2.2 then some (.inr s2.1) else bnd (α := Int32) (f_X12_owesAll fu o_people o_debts s2.2) (fun x5 => ltn (s2.1 + x5) (fun x6 => some (.inl (x6, (s2.2 + 1)))))
def f_X12_allOwed (fu : Nat) (o_people : Int32) (o_debts : (Nat → Int32)) : Option (Int32) := bnd (α := Int32) (lp (f_X12_allOwed_L4 fu o_people o_debts) fu ((0 : Int32), (0 : Int32))) (fun v7 => some v7)
set_option maxHeartbeats 4000000 in
set_option maxRecDepth 100000 in
theorem c_X12_allOwed {l : Launch} {D : va_G} {g : Nat → ClassId} {fu : Nat} {o_q0 o_q1 o_q2 o_q3 o_q4 o_q5 o_q6 o_q7 o_q8 o_q9 o_q10 o_q11 o_q12 o_q13 o_q14 o_q15 o_q16 o_q17 o_q18 o_q19 o_q20 o_q21 o_q22 : Nat} {o_code : Int32} {o_tape : (Nat → Int32)} {o_size : (Nat → Int32)} {o_fault : (Nat → Int32)} {o_faultPlace : (Nat → Int32)} {o_many : (Nat → Int32)} {o_towns : (Nat → Int32)} {o_weeks : (Nat → Int32)} {o_logs : (Nat → Int32)} {o_reached : Int32} {o_length : Int32} {o_begins : Int32} {o_sort : Int32} {o_value : Int32} {o_word : Int64} {o_wrongAt : Int32} {o_laterFault : Int32} {o_laterPlace : Int32} {o_told : (Nat → Int32)} {o_read : (Nat → Int32)} {o_farOne : Int32} {o_good : Int32} {o_town : Int32} {o_people : Int32} {o_when : Int32} {o_sat : Int32} {o_quiet : Int32} {o_vain : Int32} {o_lent : Int32} {o_forgiven : Int32} {o_sundays : Int32} {o_purse : (Nat → Int32)} {o_beside : (Nat → Int32)} {o_debts : (Nat → Int32)} {o_sitting : (Nat → Int32)} {o_visited : (Nat → Int32)} {o_week : Int32} {o_heaps : (Nat → Int32)} {o_taken : (Nat → Int32)} {o_best : (Nat → Int32)} {o_more : (Nat → Int32)} {o_firstOne : Int32} {o_log : Int32} {o_fitting : (Nat → Int32)} {o_found : Int32} {o_seed : Int32} {o_row : (Nat → Int32)} {o_saved : (Nat → Int32)} {r : Int32} (hf : f_X12_allOwed fu o_people o_debts = some r) : Rd l D (gy g) yX12_allOwed cX12_allOwed 3 (some .int) 2 [.ref o_q0] (wMd g o_q0 o_q1 o_q2 o_q3 o_q4 o_q5 o_q6 o_q7 o_q8 o_q9 o_q10 o_q11 o_q12 o_q13 o_q14 o_q15 o_q16 o_q17 o_q18 o_q19 o_q20 o_q21 o_q22 o_code o_tape o_size o_fault o_faultPlace o_many o_towns o_weeks o_logs o_reached o_length o_begins o_sort o_value o_word o_wrongAt o_laterFault o_laterPlace o_told o_read o_farOne o_good o_town o_people o_when o_sat o_quiet o_vain o_lent o_forgiven o_sundays o_purse o_beside o_debts o_sitting o_visited o_week o_heaps o_taken o_best o_more o_firstOne o_log o_fitting o_found o_seed o_row o_saved) (some (.int r)) := by
  refine Rd.ofI (by decide) (Nat.le_of_ble_eq_true rfl) ?_
  intro p e s m args below meth c Q S hK hP hret ls hl
  have hl : lv_has ls 3 [(0, .ref o_q0)] := hl
  refine lv_iconst (v := 0) S.1 S.2.1 dX12_allOwed_0 ic_0 ?_
  refine lv_istore_n (lv' := [(1, .int (0 : Int32)), (0, .ref o_q0)]) S.1 S.2.1 dX12_allOwed_1 rfl hl (by decide) rfl (fun ls hl => ?_)
  refine lv_iconst (v := 0) S.1 S.2.1 dX12_allOwed_2 ic_0 ?_
  refine lv_istore_n (lv' := [(2, .int (0 : Int32)), (1, .int (0 : Int32)), (0, .ref o_q0)]) S.1 S.2.1 dX12_allOwed_3 rfl hl (by decide) rfl (fun ls hl => ?_)
  obtain ⟨x3, hf_, hk3⟩ := bnd_e hf
  have hE3 : ∀ (v7 : Int32), v7 = x3 → ∀ (ls : Array Slot), lv_has ls 3 [(1, .int v7)] → W p l e (rmD 2) s m args below meth c s.heap [] 0 0 Q (F0 m 26 ls []) := by
    intro v7 e_ ls hl
    subst e_
    have hf := hk3
    refine lv_iload_n S.1 S.2.1 dX12_allOwed_26 rfl (lv_at hl 0 rfl) ?_
    have e_ := Option.some.inj hf
    subst e_
    exact hret _ _ dX12_allOwed_27
  refine lp_ind (P := fun (s2 : Int32 × Int32) => ∀ (ls : Array Slot), lv_has ls 3 [(0, .ref o_q0), (1, .int s2.1), (2, .int s2.2)] → W p l e (rmD 2) s m args below meth c s.heap [] 0 0 Q (F0 m 4 ls [])) ?_ _ _ hf_ _ (lv_sub hl [2, 1, 0] rfl)
  intro s2 x4 hf hI3 hR3 ls hl
  refine lv_iload_n S.1 S.2.1 dX12_allOwed_4 rfl (lv_at hl 2 rfl) ?_
  refine lv_aload_n S.1 S.2.1 dX12_allOwed_5 rfl (lv_at hl 0 rfl) ?_
  refine gfX12_230 S hK hP 0 rfl rfl dX12_allOwed_6 ?_
  refine lv_icmp_ge (tgt := 26) S.1 S.2.1 dX12_allOwed_9 (by decide) (fun c_ => ?_) (fun c_ => ?_)
  · have hf := it_p c_ hf
    have e_ := hR3 _ (Option.some.inj hf).symm
    exact hE3 _ e_ _ (lv_sub hl [1] rfl)
  · have hf := it_n c_ hf
    refine lv_iload_n S.1 S.2.1 dX12_allOwed_12 rfl (lv_at hl 1 rfl) ?_
    refine lv_aload_n S.1 S.2.1 dX12_allOwed_13 rfl (lv_at hl 0 rfl) ?_
    refine lv_iload_n S.1 S.2.1 dX12_allOwed_14 rfl (lv_at hl 2 rfl) ?_
    obtain ⟨x5, hx5, hf⟩ := bnd_e hf
    refine Rd.cV (c_X12_owesAll hx5) S hK hP 0 10 rfl rfl kVX12_311 rfl hl.1 [.int s2.1] rfl (Nat.le_of_ble_eq_true rfl) ⟨(Nat.le_of_ble_eq_true rfl), (Nat.le_of_ble_eq_true rfl)⟩ ⟨(Nat.zero_le _), (Nat.zero_le _)⟩ dX12_allOwed_15 ?_
    refine lv_iadd S.1 S.2.1 dX12_allOwed_18 ?_
    refine lv_topi (fun x6 ex6 => ?_)
    have hf := ltn_e hf ex6
    refine lv_istore_n (lv' := [(1, .int x6), (0, .ref o_q0), (2, .int s2.2)]) S.1 S.2.1 dX12_allOwed_19 rfl hl (by decide) rfl (fun ls hl => ?_)
    refine q_iinc (w := 1) (lv' := [(2, .int (s2.2 + 1)), (1, .int x6), (0, .ref o_q0)]) S dX12_allOwed_20 hl (k := 2) rfl ic_1 (by decide) rfl (fun ls hl => ?_)
    refine lv_goto (tgt := 4) S.1 S.2.1 dX12_allOwed_23 (by decide) ?_
    exact hI3 _ (Option.some.inj hf).symm _ (lv_sub hl [2, 1, 0] rfl)
def f_X12_sitters_L4 (o_people : Int32) (o_beside : (Nat → Int32)) (s2 : Int32 × Int32) : Option ((Int32 × Int32) ⊕ (Int32)) := if o_people ≤ s2.2 then some (.inr s2.1) else bnd (α := Int32) (rdi 6 o_beside s2.2) (fun x5 => if (6 : Int32) ≤ x5 then ltn (s2.1 ||| (0 : Int32)) (fun x6 => some (.inl (x6, (s2.2 + 1)))) else ltn (s2.1 ||| (jshl (1 : Int32) s2.2)) (fun x7 => some (.inl (x7, (s2.2 + 1)))))
def f_X12_sitters (fu : Nat) (o_people : Int32) (o_beside : (Nat → Int32)) : Option (Int32) := bnd (α := Int32) (lp (f_X12_sitters_L4 o_people o_beside) fu ((0 : Int32), (0 : Int32))) (fun v8 => some v8)
set_option maxHeartbeats 4000000 in
set_option maxRecDepth 100000 in
theorem c_X12_sitters {l : Launch} {D : va_G} {g : Nat → ClassId} {fu : Nat} {o_q0 o_q1 o_q2 o_q3 o_q4 o_q5 o_q6 o_q7 o_q8 o_q9 o_q10 o_q11 o_q12 o_q13 o_q14 o_q15 o_q16 o_q17 o_q18 o_q19 o_q20 o_q21 o_q22 : Nat} {o_code : Int32} {o_tape : (Nat → Int32)} {o_size : (Nat → Int32)} {o_fault : (Nat → Int32)} {o_faultPlace : (Nat → Int32)} {o_many : (Nat → Int32)} {o_towns : (Nat → Int32)} {o_weeks : (Nat → Int32)} {o_logs : (Nat → Int32)} {o_reached : Int32} {o_length : Int32} {o_begins : Int32} {o_sort : Int32} {o_value : Int32} {o_word : Int64} {o_wrongAt : Int32} {o_laterFault : Int32} {o_laterPlace : Int32} {o_told : (Nat → Int32)} {o_read : (Nat → Int32)} {o_farOne : Int32} {o_good : Int32} {o_town : Int32} {o_people : Int32} {o_when : Int32} {o_sat : Int32} {o_quiet : Int32} {o_vain : Int32} {o_lent : Int32} {o_forgiven : Int32} {o_sundays : Int32} {o_purse : (Nat → Int32)} {o_beside : (Nat → Int32)} {o_debts : (Nat → Int32)} {o_sitting : (Nat → Int32)} {o_visited : (Nat → Int32)} {o_week : Int32} {o_heaps : (Nat → Int32)} {o_taken : (Nat → Int32)} {o_best : (Nat → Int32)} {o_more : (Nat → Int32)} {o_firstOne : Int32} {o_log : Int32} {o_fitting : (Nat → Int32)} {o_found : Int32} {o_seed : Int32} {o_row : (Nat → Int32)} {o_saved : (Nat → Int32)} {r : Int32} (hf : f_X12_sitters fu o_people o_beside = some r) : Rd l D (gy g) yX12_sitters cX12_sitters 3 (some .int) 0 [.ref o_q0] (wMd g o_q0 o_q1 o_q2 o_q3 o_q4 o_q5 o_q6 o_q7 o_q8 o_q9 o_q10 o_q11 o_q12 o_q13 o_q14 o_q15 o_q16 o_q17 o_q18 o_q19 o_q20 o_q21 o_q22 o_code o_tape o_size o_fault o_faultPlace o_many o_towns o_weeks o_logs o_reached o_length o_begins o_sort o_value o_word o_wrongAt o_laterFault o_laterPlace o_told o_read o_farOne o_good o_town o_people o_when o_sat o_quiet o_vain o_lent o_forgiven o_sundays o_purse o_beside o_debts o_sitting o_visited o_week o_heaps o_taken o_best o_more o_firstOne o_log o_fitting o_found o_seed o_row o_saved) (some (.int r)) := by
  refine Rd.ofI (by decide) (Nat.le_of_ble_eq_true rfl) ?_
  intro p e s m args below meth c Q S hK hP hret ls hl
  have hl : lv_has ls 3 [(0, .ref o_q0)] := hl
  refine lv_iconst (v := 0) S.1 S.2.1 dX12_sitters_0 ic_0 ?_
  refine lv_istore_n (lv' := [(1, .int (0 : Int32)), (0, .ref o_q0)]) S.1 S.2.1 dX12_sitters_1 rfl hl (by decide) rfl (fun ls hl => ?_)
  refine lv_iconst (v := 0) S.1 S.2.1 dX12_sitters_2 ic_0 ?_
  refine lv_istore_n (lv' := [(2, .int (0 : Int32)), (1, .int (0 : Int32)), (0, .ref o_q0)]) S.1 S.2.1 dX12_sitters_3 rfl hl (by decide) rfl (fun ls hl => ?_)
  obtain ⟨x3, hf_, hk3⟩ := bnd_e hf
  have hE3 : ∀ (v8 : Int32), v8 = x3 → ∀ (ls : Array Slot), lv_has ls 3 [(1, .int v8)] → W p l e (rmD 0) s m args below meth c s.heap [] 0 0 Q (F0 m 39 ls []) := by
    intro v8 e_ ls hl
    subst e_
    have hf := hk3
    refine lv_iload_n S.1 S.2.1 dX12_sitters_39 rfl (lv_at hl 0 rfl) ?_
    have e_ := Option.some.inj hf
    subst e_
    exact hret _ _ dX12_sitters_40
  refine lp_ind (P := fun (s2 : Int32 × Int32) => ∀ (ls : Array Slot), lv_has ls 3 [(0, .ref o_q0), (1, .int s2.1), (2, .int s2.2)] → W p l e (rmD 0) s m args below meth c s.heap [] 0 0 Q (F0 m 4 ls [])) ?_ _ _ hf_ _ (lv_sub hl [2, 1, 0] rfl)
  intro s2 x4 hf hI3 hR3 ls hl
  refine lv_iload_n S.1 S.2.1 dX12_sitters_4 rfl (lv_at hl 2 rfl) ?_
  refine lv_aload_n S.1 S.2.1 dX12_sitters_5 rfl (lv_at hl 0 rfl) ?_
  refine gfX12_230 S hK hP 0 rfl rfl dX12_sitters_6 ?_
  refine lv_icmp_ge (tgt := 39) S.1 S.2.1 dX12_sitters_9 (by decide) (fun c_ => ?_) (fun c_ => ?_)
  · have hf := it_p c_ hf
    have e_ := hR3 _ (Option.some.inj hf).symm
    exact hE3 _ e_ _ (lv_sub hl [1] rfl)
  · have hf := it_n c_ hf
    refine lv_iload_n S.1 S.2.1 dX12_sitters_12 rfl (lv_at hl 1 rfl) ?_
    refine lv_aload_n S.1 S.2.1 dX12_sitters_13 rfl (lv_at hl 0 rfl) ?_
    refine gfX12_44 S hK hP 0 rfl rfl dX12_sitters_14 ?_
    refine lv_iload_n S.1 S.2.1 dX12_sitters_17 rfl (lv_at hl 2 rfl) ?_
    obtain ⟨x5, hx5, hf⟩ := bnd_e hf
    refine q_iald S hK hP 12 0 rfl rfl hx5 dX12_sitters_18 ?_
    refine lv_bipush (v := 6) S.1 S.2.1 dX12_sitters_19 bp_6 ?_
    refine lv_icmp_ge (tgt := 30) S.1 S.2.1 dX12_sitters_21 (by decide) (fun c_ => ?_) (fun c_ => ?_)
    · have hf := it_p c_ hf
      refine lv_iconst (v := 0) S.1 S.2.1 dX12_sitters_30 ic_0 ?_
      refine lv_ior S.1 S.2.1 dX12_sitters_31 ?_
      refine lv_topi (fun x6 ex6 => ?_)
      have hf := ltn_e hf ex6
      refine lv_istore_n (lv' := [(1, .int x6), (0, .ref o_q0), (2, .int s2.2)]) S.1 S.2.1 dX12_sitters_32 rfl hl (by decide) rfl (fun ls hl => ?_)
      refine q_iinc (w := 1) (lv' := [(2, .int (s2.2 + 1)), (1, .int x6), (0, .ref o_q0)]) S dX12_sitters_33 hl (k := 2) rfl ic_1 (by decide) rfl (fun ls hl => ?_)
      refine lv_goto (tgt := 4) S.1 S.2.1 dX12_sitters_36 (by decide) ?_
      exact hI3 _ (Option.some.inj hf).symm _ (lv_sub hl [2, 1, 0] rfl)
    · have hf := it_n c_ hf
      refine lv_iconst (v := 1) S.1 S.2.1 dX12_sitters_24 ic_1 ?_
      refine lv_iload_n S.1 S.2.1 dX12_sitters_25 rfl (lv_at hl 2 rfl) ?_
      refine lv_ishl S.1 S.2.1 dX12_sitters_26 ?_
      refine lv_goto (tgt := 31) S.1 S.2.1 dX12_sitters_27 (by decide) ?_
      refine lv_ior S.1 S.2.1 dX12_sitters_31 ?_
      refine lv_topi (fun x7 ex7 => ?_)
      have hf := ltn_e hf ex7
      refine lv_istore_n (lv' := [(1, .int x7), (0, .ref o_q0), (2, .int s2.2)]) S.1 S.2.1 dX12_sitters_32 rfl hl (by decide) rfl (fun ls hl => ?_)
      refine q_iinc (w := 1) (lv' := [(2, .int (s2.2 + 1)), (1, .int x7), (0, .ref o_q0)]) S dX12_sitters_33 hl (k := 2) rfl ic_1 (by decide) rfl (fun ls hl => ?_)
      refine lv_goto (tgt := 4) S.1 S.2.1 dX12_sitters_36 (by decide) ?_
      exact hI3 _ (Option.some.inj hf).symm _ (lv_sub hl [2, 1, 0] rfl)
def f_X12_ofState (fu : Nat) (o_people : Int32) (o_when : Int32) (o_sat : Int32) (o_quiet : Int32) (o_purse : (Nat → Int32)) (o_beside : (Nat → Int32)) (o_debts : (Nat → Int32)) (p1 : Int32) : Option (Int32) := ltn (jrm p1 (10 : Int32)) (fun x1 => if p1 < (100 : Int32) then if (p1 / (10 : Int32)) = 0 then if p1 = 0 then some o_when else if p1 = 1 then bnd (α := Int32) (f_X12_allOwed fu o_people o_debts) (fun x2 => some x2) else if p1 = 2 then some o_sat else if p1 = 3 then some o_quiet else if p1 = 4 then bnd (α := Int32) (f_X12_sitters fu o_people o_beside) (fun x3 => some x3) else some (-1 : Int32) else if (p1 / (10 : Int32)) = 1 then if o_people ≤ x1 then some (-1 : Int32) else bnd (α := Int32) (rdi 6 o_purse x1) (fun x4 => some x4) else if (p1 / (10 : Int32)) = 2 then if o_people ≤ x1 then some (-1 : Int32) else bnd (α := Int32) (rdi 6 o_beside x1) (fun x5 => some x5) else some (-1 : Int32) else if (160 : Int32) ≤ p1 then some (-1 : Int32) else bnd (α := Int32) (f_X12_isPerson fu o_people ((p1 - (100 : Int32)) / (10 : Int32))) (fun x6 => if x6 = 0 then some (-1 : Int32) else bnd (α := Int32) (f_X12_isPerson fu o_people x1) (fun x7 => if x7 = 0 then some (-1 : Int32) else bnd (α := Int32) (f_X12_owed fu o_debts ((p1 - (100 : Int32)) / (10 : Int32)) x1) (fun x8 => some x8))))
set_option maxHeartbeats 4000000 in
set_option maxRecDepth 100000 in
theorem c_X12_ofState {l : Launch} {D : va_G} {g : Nat → ClassId} {fu : Nat} {o_q0 o_q1 o_q2 o_q3 o_q4 o_q5 o_q6 o_q7 o_q8 o_q9 o_q10 o_q11 o_q12 o_q13 o_q14 o_q15 o_q16 o_q17 o_q18 o_q19 o_q20 o_q21 o_q22 : Nat} {o_code : Int32} {o_tape : (Nat → Int32)} {o_size : (Nat → Int32)} {o_fault : (Nat → Int32)} {o_faultPlace : (Nat → Int32)} {o_many : (Nat → Int32)} {o_towns : (Nat → Int32)} {o_weeks : (Nat → Int32)} {o_logs : (Nat → Int32)} {o_reached : Int32} {o_length : Int32} {o_begins : Int32} {o_sort : Int32} {o_value : Int32} {o_word : Int64} {o_wrongAt : Int32} {o_laterFault : Int32} {o_laterPlace : Int32} {o_told : (Nat → Int32)} {o_read : (Nat → Int32)} {o_farOne : Int32} {o_good : Int32} {o_town : Int32} {o_people : Int32} {o_when : Int32} {o_sat : Int32} {o_quiet : Int32} {o_vain : Int32} {o_lent : Int32} {o_forgiven : Int32} {o_sundays : Int32} {o_purse : (Nat → Int32)} {o_beside : (Nat → Int32)} {o_debts : (Nat → Int32)} {o_sitting : (Nat → Int32)} {o_visited : (Nat → Int32)} {o_week : Int32} {o_heaps : (Nat → Int32)} {o_taken : (Nat → Int32)} {o_best : (Nat → Int32)} {o_more : (Nat → Int32)} {o_firstOne : Int32} {o_log : Int32} {o_fitting : (Nat → Int32)} {o_found : Int32} {o_seed : Int32} {o_row : (Nat → Int32)} {o_saved : (Nat → Int32)} {p1 : Int32} {r : Int32} (hf : f_X12_ofState fu o_people o_when o_sat o_quiet o_purse o_beside o_debts p1 = some r) : Rd l D (gy g) yX12_ofState cX12_ofState 3 (some .int) 3 [.ref o_q0, .int p1] (wMd g o_q0 o_q1 o_q2 o_q3 o_q4 o_q5 o_q6 o_q7 o_q8 o_q9 o_q10 o_q11 o_q12 o_q13 o_q14 o_q15 o_q16 o_q17 o_q18 o_q19 o_q20 o_q21 o_q22 o_code o_tape o_size o_fault o_faultPlace o_many o_towns o_weeks o_logs o_reached o_length o_begins o_sort o_value o_word o_wrongAt o_laterFault o_laterPlace o_told o_read o_farOne o_good o_town o_people o_when o_sat o_quiet o_vain o_lent o_forgiven o_sundays o_purse o_beside o_debts o_sitting o_visited o_week o_heaps o_taken o_best o_more o_firstOne o_log o_fitting o_found o_seed o_row o_saved) (some (.int r)) := by
  refine Rd.ofI (by decide) (Nat.le_of_ble_eq_true rfl) ?_
  intro p e s m args below meth c Q S hK hP hret ls hl
  have hl : lv_has ls 3 [(0, .ref o_q0), (1, .int p1)] := hl
  refine lv_iload_n S.1 S.2.1 dX12_ofState_0 rfl (lv_at hl 1 rfl) ?_
  refine lv_bipush (v := 10) S.1 S.2.1 dX12_ofState_1 bp_10 ?_
  refine lv_irem S.1 S.2.1 dX12_ofState_3 (by decide) ?_
  refine lv_topi (fun x1 ex1 => ?_)
  have hf := ltn_e hf ex1
  refine lv_istore_n (lv' := [(2, .int x1), (0, .ref o_q0), (1, .int p1)]) S.1 S.2.1 dX12_ofState_4 rfl hl (by decide) rfl (fun ls hl => ?_)
  refine lv_iload_n S.1 S.2.1 dX12_ofState_5 rfl (lv_at hl 2 rfl) ?_
  refine lv_bipush (v := 100) S.1 S.2.1 dX12_ofState_6 bp_100 ?_
  refine lv_icmp_lt (tgt := 57) S.1 S.2.1 dX12_ofState_8 (by decide) (fun c_ => ?_) (fun c_ => ?_)
  · have hf := it_p c_ hf
    refine lv_iload_n S.1 S.2.1 dX12_ofState_57 rfl (lv_at hl 2 rfl) ?_
    refine lv_bipush (v := 10) S.1 S.2.1 dX12_ofState_58 bp_10 ?_
    refine lv_idiv S.1 S.2.1 dX12_ofState_60 (by decide) ?_
    by_cases c_0 : (p1 / (10 : Int32)) = 0
    · have hf := it_p c_0 hf
      refine lv_tableIn (tgt := 88) (off := 27) S.1 S.2.1 dX12_ofState_61 (by rw [c_0]; decide) (by rw [c_0]; decide) (by rw [c_0]; decide) (by decide) ?_
      refine lv_goto (tgt := 131) S.1 S.2.1 dX12_ofState_88 (by decide) ?_
      refine lv_iload_n S.1 S.2.1 dX12_ofState_131 rfl (lv_at hl 2 rfl) ?_
      by_cases c_0 : p1 = 0
      · have hf := it_p c_0 hf
        refine lv_tableIn (tgt := 168) (off := 36) S.1 S.2.1 dX12_ofState_132 (by rw [c_0]; decide) (by rw [c_0]; decide) (by rw [c_0]; decide) (by decide) ?_
        refine lv_aload_n S.1 S.2.1 dX12_ofState_168 rfl (lv_at hl 1 rfl) ?_
        refine gfX12_233 S hK hP 0 rfl rfl dX12_ofState_169 ?_
        have e_ := Option.some.inj hf
        subst e_
        exact hret _ _ dX12_ofState_172
      have hf := it_n c_0 hf
      by_cases c_1 : p1 = 1
      · have hf := it_p c_1 hf
        refine lv_tableIn (tgt := 173) (off := 41) S.1 S.2.1 dX12_ofState_132 (by rw [c_1]; decide) (by rw [c_1]; decide) (by rw [c_1]; decide) (by decide) ?_
        refine lv_aload_n S.1 S.2.1 dX12_ofState_173 rfl (lv_at hl 1 rfl) ?_
        obtain ⟨x2, hx2, hf⟩ := bnd_e hf
        refine Rd.cV (c_X12_allOwed hx2) S hK hP 0 10 rfl rfl kVX12_314 rfl hl.1 [] rfl (Nat.le_of_ble_eq_true rfl) ⟨(Nat.le_of_ble_eq_true rfl), (Nat.le_of_ble_eq_true rfl)⟩ ⟨(Nat.zero_le _), (Nat.zero_le _)⟩ dX12_ofState_174 ?_
        have e_ := Option.some.inj hf
        subst e_
        exact hret _ _ dX12_ofState_177
      have hf := it_n c_1 hf
      by_cases c_2 : p1 = 2
      · have hf := it_p c_2 hf
        refine lv_tableIn (tgt := 178) (off := 46) S.1 S.2.1 dX12_ofState_132 (by rw [c_2]; decide) (by rw [c_2]; decide) (by rw [c_2]; decide) (by decide) ?_
        refine lv_aload_n S.1 S.2.1 dX12_ofState_178 rfl (lv_at hl 1 rfl) ?_
        refine gfX12_236 S hK hP 0 rfl rfl dX12_ofState_179 ?_
        have e_ := Option.some.inj hf
        subst e_
        exact hret _ _ dX12_ofState_182
      have hf := it_n c_2 hf
      by_cases c_3 : p1 = 3
      · have hf := it_p c_3 hf
        refine lv_tableIn (tgt := 183) (off := 51) S.1 S.2.1 dX12_ofState_132 (by rw [c_3]; decide) (by rw [c_3]; decide) (by rw [c_3]; decide) (by decide) ?_
        refine lv_aload_n S.1 S.2.1 dX12_ofState_183 rfl (lv_at hl 1 rfl) ?_
        refine gfX12_239 S hK hP 0 rfl rfl dX12_ofState_184 ?_
        have e_ := Option.some.inj hf
        subst e_
        exact hret _ _ dX12_ofState_187
      have hf := it_n c_3 hf
      by_cases c_4 : p1 = 4
      · have hf := it_p c_4 hf
        refine lv_tableIn (tgt := 188) (off := 56) S.1 S.2.1 dX12_ofState_132 (by rw [c_4]; decide) (by rw [c_4]; decide) (by rw [c_4]; decide) (by decide) ?_
        refine lv_aload_n S.1 S.2.1 dX12_ofState_188 rfl (lv_at hl 1 rfl) ?_
        obtain ⟨x3, hx3, hf⟩ := bnd_e hf
        refine Rd.cV (c_X12_sitters hx3) S hK hP 0 10 rfl rfl kVX12_317 rfl hl.1 [] rfl (Nat.le_of_ble_eq_true rfl) ⟨(Nat.le_of_ble_eq_true rfl), (Nat.le_of_ble_eq_true rfl)⟩ ⟨(Nat.zero_le _), (Nat.zero_le _)⟩ dX12_ofState_189 ?_
        have e_ := Option.some.inj hf
        subst e_
        exact hret _ _ dX12_ofState_192
      have hf := it_n c_4 hf
      refine lv_tableOut (tgt := 193) S.1 S.2.1 dX12_ofState_132 (by have n_0 := lv_neT c_0 (a := 0) (by decide); have n_1 := lv_neT c_1 (a := 1) (by decide); have n_2 := lv_neT c_2 (a := 2) (by decide); have n_3 := lv_neT c_3 (a := 3) (by decide); have n_4 := lv_neT c_4 (a := 4) (by decide); omega) (by decide) ?_
      refine lv_iconst (v := (-1)) S.1 S.2.1 dX12_ofState_193 ic_m1 ?_
      have e_ := Option.some.inj hf
      subst e_
      exact hret _ _ dX12_ofState_194
    have hf := it_n c_0 hf
    by_cases c_1 : (p1 / (10 : Int32)) = 1
    · have hf := it_p c_1 hf
      refine lv_tableIn (tgt := 91) (off := 30) S.1 S.2.1 dX12_ofState_61 (by rw [c_1]; decide) (by rw [c_1]; decide) (by rw [c_1]; decide) (by decide) ?_
      refine lv_iload_n S.1 S.2.1 dX12_ofState_91 rfl (lv_at hl 0 rfl) ?_
      refine lv_aload_n S.1 S.2.1 dX12_ofState_92 rfl (lv_at hl 1 rfl) ?_
      refine gfX12_230 S hK hP 0 rfl rfl dX12_ofState_93 ?_
      refine lv_icmp_ge (tgt := 108) S.1 S.2.1 dX12_ofState_96 (by decide) (fun c_ => ?_) (fun c_ => ?_)
      · have hf := it_p c_ hf
        refine lv_iconst (v := (-1)) S.1 S.2.1 dX12_ofState_108 ic_m1 ?_
        have e_ := Option.some.inj hf
        subst e_
        exact hret _ _ dX12_ofState_109
      · have hf := it_n c_ hf
        refine lv_aload_n S.1 S.2.1 dX12_ofState_99 rfl (lv_at hl 1 rfl) ?_
        refine gfX12_41 S hK hP 0 rfl rfl dX12_ofState_100 ?_
        refine lv_iload_n S.1 S.2.1 dX12_ofState_103 rfl (lv_at hl 0 rfl) ?_
        obtain ⟨x4, hx4, hf⟩ := bnd_e hf
        refine q_iald S hK hP 11 0 rfl rfl hx4 dX12_ofState_104 ?_
        refine lv_goto (tgt := 109) S.1 S.2.1 dX12_ofState_105 (by decide) ?_
        have e_ := Option.some.inj hf
        subst e_
        exact hret _ _ dX12_ofState_109
    have hf := it_n c_1 hf
    by_cases c_2 : (p1 / (10 : Int32)) = 2
    · have hf := it_p c_2 hf
      refine lv_tableIn (tgt := 110) (off := 49) S.1 S.2.1 dX12_ofState_61 (by rw [c_2]; decide) (by rw [c_2]; decide) (by rw [c_2]; decide) (by decide) ?_
      refine lv_iload_n S.1 S.2.1 dX12_ofState_110 rfl (lv_at hl 0 rfl) ?_
      refine lv_aload_n S.1 S.2.1 dX12_ofState_111 rfl (lv_at hl 1 rfl) ?_
      refine gfX12_230 S hK hP 0 rfl rfl dX12_ofState_112 ?_
      refine lv_icmp_ge (tgt := 127) S.1 S.2.1 dX12_ofState_115 (by decide) (fun c_ => ?_) (fun c_ => ?_)
      · have hf := it_p c_ hf
        refine lv_iconst (v := (-1)) S.1 S.2.1 dX12_ofState_127 ic_m1 ?_
        have e_ := Option.some.inj hf
        subst e_
        exact hret _ _ dX12_ofState_128
      · have hf := it_n c_ hf
        refine lv_aload_n S.1 S.2.1 dX12_ofState_118 rfl (lv_at hl 1 rfl) ?_
        refine gfX12_44 S hK hP 0 rfl rfl dX12_ofState_119 ?_
        refine lv_iload_n S.1 S.2.1 dX12_ofState_122 rfl (lv_at hl 0 rfl) ?_
        obtain ⟨x5, hx5, hf⟩ := bnd_e hf
        refine q_iald S hK hP 12 0 rfl rfl hx5 dX12_ofState_123 ?_
        refine lv_goto (tgt := 128) S.1 S.2.1 dX12_ofState_124 (by decide) ?_
        have e_ := Option.some.inj hf
        subst e_
        exact hret _ _ dX12_ofState_128
    have hf := it_n c_2 hf
    refine lv_tableOut (tgt := 129) S.1 S.2.1 dX12_ofState_61 (by have n_0 := lv_neT c_0 (a := 0) (by decide); have n_1 := lv_neT c_1 (a := 1) (by decide); have n_2 := lv_neT c_2 (a := 2) (by decide); omega) (by decide) ?_
    refine lv_iconst (v := (-1)) S.1 S.2.1 dX12_ofState_129 ic_m1 ?_
    have e_ := Option.some.inj hf
    subst e_
    exact hret _ _ dX12_ofState_130
  · have hf := it_n c_ hf
    refine lv_iload_n S.1 S.2.1 dX12_ofState_11 rfl (lv_at hl 2 rfl) ?_
    refine lv_sipush (v := 160) S.1 S.2.1 dX12_ofState_12 sp_160 ?_
    refine lv_icmp_ge (tgt := 55) S.1 S.2.1 dX12_ofState_15 (by decide) (fun c_ => ?_) (fun c_ => ?_)
    · have hf := it_p c_ hf
      refine lv_iconst (v := (-1)) S.1 S.2.1 dX12_ofState_55 ic_m1 ?_
      have e_ := Option.some.inj hf
      subst e_
      exact hret _ _ dX12_ofState_56
    · have hf := it_n c_ hf
      refine lv_aload_n S.1 S.2.1 dX12_ofState_18 rfl (lv_at hl 1 rfl) ?_
      refine lv_iload_n S.1 S.2.1 dX12_ofState_19 rfl (lv_at hl 2 rfl) ?_
      refine lv_bipush (v := 100) S.1 S.2.1 dX12_ofState_20 bp_100 ?_
      refine lv_isub S.1 S.2.1 dX12_ofState_22 ?_
      refine lv_bipush (v := 10) S.1 S.2.1 dX12_ofState_23 bp_10 ?_
      refine lv_idiv S.1 S.2.1 dX12_ofState_25 (by decide) ?_
      obtain ⟨x6, hx6, hf⟩ := bnd_e hf
      refine Rd.cV (c_X12_isPerson hx6) S hK hP 0 10 rfl rfl kVX12_260 rfl hl.1 [] rfl (Nat.le_of_ble_eq_true rfl) ⟨(Nat.le_of_ble_eq_true rfl), (Nat.le_of_ble_eq_true rfl)⟩ ⟨(Nat.zero_le _), (Nat.zero_le _)⟩ dX12_ofState_26 ?_
      refine lv_if_eq (tgt := 55) S.1 S.2.1 dX12_ofState_29 (by decide) (fun c_ => ?_) (fun c_ => ?_)
      · have hf := it_p c_ hf
        refine lv_iconst (v := (-1)) S.1 S.2.1 dX12_ofState_55 ic_m1 ?_
        have e_ := Option.some.inj hf
        subst e_
        exact hret _ _ dX12_ofState_56
      · have hf := it_n c_ hf
        refine lv_aload_n S.1 S.2.1 dX12_ofState_32 rfl (lv_at hl 1 rfl) ?_
        refine lv_iload_n S.1 S.2.1 dX12_ofState_33 rfl (lv_at hl 0 rfl) ?_
        obtain ⟨x7, hx7, hf⟩ := bnd_e hf
        refine Rd.cV (c_X12_isPerson hx7) S hK hP 0 10 rfl rfl kVX12_260 rfl hl.1 [] rfl (Nat.le_of_ble_eq_true rfl) ⟨(Nat.le_of_ble_eq_true rfl), (Nat.le_of_ble_eq_true rfl)⟩ ⟨(Nat.zero_le _), (Nat.zero_le _)⟩ dX12_ofState_34 ?_
        refine lv_if_eq (tgt := 55) S.1 S.2.1 dX12_ofState_37 (by decide) (fun c_ => ?_) (fun c_ => ?_)
        · have hf := it_p c_ hf
          refine lv_iconst (v := (-1)) S.1 S.2.1 dX12_ofState_55 ic_m1 ?_
          have e_ := Option.some.inj hf
          subst e_
          exact hret _ _ dX12_ofState_56
        · have hf := it_n c_ hf
          refine lv_aload_n S.1 S.2.1 dX12_ofState_40 rfl (lv_at hl 1 rfl) ?_
          refine lv_iload_n S.1 S.2.1 dX12_ofState_41 rfl (lv_at hl 2 rfl) ?_
          refine lv_bipush (v := 100) S.1 S.2.1 dX12_ofState_42 bp_100 ?_
          refine lv_isub S.1 S.2.1 dX12_ofState_44 ?_
          refine lv_bipush (v := 10) S.1 S.2.1 dX12_ofState_45 bp_10 ?_
          refine lv_idiv S.1 S.2.1 dX12_ofState_47 (by decide) ?_
          refine lv_iload_n S.1 S.2.1 dX12_ofState_48 rfl (lv_at hl 0 rfl) ?_
          obtain ⟨x8, hx8, hf⟩ := bnd_e hf
          refine Rd.cV (c_X12_owed hx8) S hK hP 0 10 rfl rfl kVX12_254 rfl hl.1 [] rfl (Nat.le_of_ble_eq_true rfl) ⟨(Nat.le_of_ble_eq_true rfl), (Nat.le_of_ble_eq_true rfl)⟩ ⟨(Nat.zero_le _), (Nat.zero_le _)⟩ dX12_ofState_49 ?_
          refine lv_goto (tgt := 56) S.1 S.2.1 dX12_ofState_52 (by decide) ?_
          have e_ := Option.some.inj hf
          subst e_
          exact hret _ _ dX12_ofState_56
def f_X12_state (fu : Nat) (o_code : Int32) (o_many : (Nat → Int32)) (o_towns : (Nat → Int32)) (o_weeks : (Nat → Int32)) (o_town : Int32) (o_people : Int32) (o_when : Int32) (o_sat : Int32) (o_quiet : Int32) (o_vain : Int32) (o_lent : Int32) (o_forgiven : Int32) (o_sundays : Int32) (o_purse : (Nat → Int32)) (o_beside : (Nat → Int32)) (o_debts : (Nat → Int32)) (o_sitting : (Nat → Int32)) (o_visited : (Nat → Int32)) (o_week : Int32) (p1 : Int32) (p2 : Int32) (p3 : Int32) (p4 : Int32) : Option (Int32 × Int32 × Int32 × Int32 × Int32 × Int32 × Int32 × Int32 × Int32 × Int32 × Int32 × (Nat → Int32) × (Nat → Int32) × (Nat → Int32) × (Nat → Int32) × (Nat → Int32) × Int32) := bnd (α := Int32 × Int32 × Int32 × Int32 × Int32 × Int32 × Int32 × Int32 × Int32 × Int32 × (Nat → Int32) × (Nat → Int32) × (Nat → Int32) × (Nat → Int32) × (Nat → Int32) × Int32) (f_X12_layAll fu o_many o_towns o_town o_people o_when o_sat o_quiet o_vain o_lent o_forgiven o_sundays o_purse o_beside o_debts o_sitting o_visited o_week p1 p2) (fun x1 => if x1.1 = 0 then some ((-1 : Int32), (0 : Int32), x1.2.1, x1.2.2.1, x1.2.2.2.1, x1.2.2.2.2.1, x1.2.2.2.2.2.1, x1.2.2.2.2.2.2.1, x1.2.2.2.2.2.2.2.1, x1.2.2.2.2.2.2.2.2.1, x1.2.2.2.2.2.2.2.2.2.1, x1.2.2.2.2.2.2.2.2.2.2.1, x1.2.2.2.2.2.2.2.2.2.2.2.1, x1.2.2.2.2.2.2.2.2.2.2.2.2.1, x1.2.2.2.2.2.2.2.2.2.2.2.2.2.1, x1.2.2.2.2.2.2.2.2.2.2.2.2.2.2.1, x1.2.2.2.2.2.2.2.2.2.2.2.2.2.2.2) else bnd (α := Int32) (f_X12_deeds fu o_weeks x1.2.2.2.2.2.2.2.2.2.2.2.2.2.2.2) (fun x2 => bnd (α := Int32) (f_X12_in fu p3 (0 : Int32) x2) (fun x3 => if x3 = 0 then some ((-1 : Int32), (0 : Int32), x1.2.1, x1.2.2.1, x1.2.2.2.1, x1.2.2.2.2.1, x1.2.2.2.2.2.1, x1.2.2.2.2.2.2.1, x1.2.2.2.2.2.2.2.1, x1.2.2.2.2.2.2.2.2.1, x1.2.2.2.2.2.2.2.2.2.1, x1.2.2.2.2.2.2.2.2.2.2.1, x1.2.2.2.2.2.2.2.2.2.2.2.1, x1.2.2.2.2.2.2.2.2.2.2.2.2.1, x1.2.2.2.2.2.2.2.2.2.2.2.2.2.1, x1.2.2.2.2.2.2.2.2.2.2.2.2.2.2.1, x1.2.2.2.2.2.2.2.2.2.2.2.2.2.2.2) else bnd (α := Int32 × Int32 × Int32 × Int32 × Int32 × Int32 × Int32 × Int32 × (Nat → Int32) × (Nat → Int32) × (Nat → Int32) × (Nat → Int32) × (Nat → Int32)) (f_X12_play fu o_towns o_weeks x1.2.1 x1.2.2.1 x1.2.2.2.1 x1.2.2.2.2.1 x1.2.2.2.2.2.1 x1.2.2.2.2.2.2.1 x1.2.2.2.2.2.2.2.1 x1.2.2.2.2.2.2.2.2.1 x1.2.2.2.2.2.2.2.2.2.1 x1.2.2.2.2.2.2.2.2.2.2.1 x1.2.2.2.2.2.2.2.2.2.2.2.1 x1.2.2.2.2.2.2.2.2.2.2.2.2.1 x1.2.2.2.2.2.2.2.2.2.2.2.2.2.1 x1.2.2.2.2.2.2.2.2.2.2.2.2.2.2.1 x1.2.2.2.2.2.2.2.2.2.2.2.2.2.2.2 p3) (fun x4 => if x4.1 = p3 then bnd (α := Int32) (f_X12_ofState fu x1.2.2.1 x4.2.1 x4.2.2.1 x4.2.2.2.1 x4.2.2.2.2.2.2.2.2.1 x4.2.2.2.2.2.2.2.2.2.1 x4.2.2.2.2.2.2.2.2.2.2.1 p4) (fun x5 => some (x5, (0 : Int32), x1.2.1, x1.2.2.1, x4.2.1, x4.2.2.1, x4.2.2.2.1, x4.2.2.2.2.1, x4.2.2.2.2.2.1, x4.2.2.2.2.2.2.1, x4.2.2.2.2.2.2.2.1, x4.2.2.2.2.2.2.2.2.1, x4.2.2.2.2.2.2.2.2.2.1, x4.2.2.2.2.2.2.2.2.2.2.1, x4.2.2.2.2.2.2.2.2.2.2.2.1, x4.2.2.2.2.2.2.2.2.2.2.2.2, x1.2.2.2.2.2.2.2.2.2.2.2.2.2.2.2)) else some ((-1 : Int32), (0 : Int32), x1.2.1, x1.2.2.1, x4.2.1, x4.2.2.1, x4.2.2.2.1, x4.2.2.2.2.1, x4.2.2.2.2.2.1, x4.2.2.2.2.2.2.1, x4.2.2.2.2.2.2.2.1, x4.2.2.2.2.2.2.2.2.1, x4.2.2.2.2.2.2.2.2.2.1, x4.2.2.2.2.2.2.2.2.2.2.1, x4.2.2.2.2.2.2.2.2.2.2.2.1, x4.2.2.2.2.2.2.2.2.2.2.2.2, x1.2.2.2.2.2.2.2.2.2.2.2.2.2.2.2)))))
set_option maxHeartbeats 4000000 in
set_option maxRecDepth 100000 in
theorem c_X12_state {l : Launch} {D : va_G} {g : Nat → ClassId} {fu : Nat} {o_q0 o_q1 o_q2 o_q3 o_q4 o_q5 o_q6 o_q7 o_q8 o_q9 o_q10 o_q11 o_q12 o_q13 o_q14 o_q15 o_q16 o_q17 o_q18 o_q19 o_q20 o_q21 o_q22 : Nat} {o_code : Int32} {o_tape : (Nat → Int32)} {o_size : (Nat → Int32)} {o_fault : (Nat → Int32)} {o_faultPlace : (Nat → Int32)} {o_many : (Nat → Int32)} {o_towns : (Nat → Int32)} {o_weeks : (Nat → Int32)} {o_logs : (Nat → Int32)} {o_reached : Int32} {o_length : Int32} {o_begins : Int32} {o_sort : Int32} {o_value : Int32} {o_word : Int64} {o_wrongAt : Int32} {o_laterFault : Int32} {o_laterPlace : Int32} {o_told : (Nat → Int32)} {o_read : (Nat → Int32)} {o_farOne : Int32} {o_good : Int32} {o_town : Int32} {o_people : Int32} {o_when : Int32} {o_sat : Int32} {o_quiet : Int32} {o_vain : Int32} {o_lent : Int32} {o_forgiven : Int32} {o_sundays : Int32} {o_purse : (Nat → Int32)} {o_beside : (Nat → Int32)} {o_debts : (Nat → Int32)} {o_sitting : (Nat → Int32)} {o_visited : (Nat → Int32)} {o_week : Int32} {o_heaps : (Nat → Int32)} {o_taken : (Nat → Int32)} {o_best : (Nat → Int32)} {o_more : (Nat → Int32)} {o_firstOne : Int32} {o_log : Int32} {o_fitting : (Nat → Int32)} {o_found : Int32} {o_seed : Int32} {o_row : (Nat → Int32)} {o_saved : (Nat → Int32)} {p1 : Int32} {p2 : Int32} {p3 : Int32} {p4 : Int32} {r : Int32 × Int32 × Int32 × Int32 × Int32 × Int32 × Int32 × Int32 × Int32 × Int32 × Int32 × (Nat → Int32) × (Nat → Int32) × (Nat → Int32) × (Nat → Int32) × (Nat → Int32) × Int32} (hf : f_X12_state fu o_code o_many o_towns o_weeks o_town o_people o_when o_sat o_quiet o_vain o_lent o_forgiven o_sundays o_purse o_beside o_debts o_sitting o_visited o_week p1 p2 p3 p4 = some r) : Wr l D (gy g) yX12_state cX12_state 5 (some .int) 6 [.ref o_q0, .int p1, .int p2, .int p3, .int p4] (wMd g o_q0 o_q1 o_q2 o_q3 o_q4 o_q5 o_q6 o_q7 o_q8 o_q9 o_q10 o_q11 o_q12 o_q13 o_q14 o_q15 o_q16 o_q17 o_q18 o_q19 o_q20 o_q21 o_q22 o_code o_tape o_size o_fault o_faultPlace o_many o_towns o_weeks o_logs o_reached o_length o_begins o_sort o_value o_word o_wrongAt o_laterFault o_laterPlace o_told o_read o_farOne o_good o_town o_people o_when o_sat o_quiet o_vain o_lent o_forgiven o_sundays o_purse o_beside o_debts o_sitting o_visited o_week o_heaps o_taken o_best o_more o_firstOne o_log o_fitting o_found o_seed o_row o_saved) (wMd g o_q0 o_q1 o_q2 o_q3 o_q4 o_q5 o_q6 o_q7 o_q8 o_q9 o_q10 o_q11 o_q12 o_q13 o_q14 o_q15 o_q16 o_q17 o_q18 o_q19 o_q20 o_q21 o_q22 r.2.1 o_tape o_size o_fault o_faultPlace o_many o_towns o_weeks o_logs o_reached o_length o_begins o_sort o_value o_word o_wrongAt o_laterFault o_laterPlace o_told o_read o_farOne o_good r.2.2.1 r.2.2.2.1 r.2.2.2.2.1 r.2.2.2.2.2.1 r.2.2.2.2.2.2.1 r.2.2.2.2.2.2.2.1 r.2.2.2.2.2.2.2.2.1 r.2.2.2.2.2.2.2.2.2.1 r.2.2.2.2.2.2.2.2.2.2.1 r.2.2.2.2.2.2.2.2.2.2.2.1 r.2.2.2.2.2.2.2.2.2.2.2.2.1 r.2.2.2.2.2.2.2.2.2.2.2.2.2.1 r.2.2.2.2.2.2.2.2.2.2.2.2.2.2.1 r.2.2.2.2.2.2.2.2.2.2.2.2.2.2.2.1 r.2.2.2.2.2.2.2.2.2.2.2.2.2.2.2.2 o_heaps o_taken o_best o_more o_firstOne o_log o_fitting o_found o_seed o_row o_saved) (some (.int r.1)) := by
  refine Wr.ofI (by decide) (Nat.le_of_ble_eq_true rfl) ?_
  intro p e s m args below meth c Q A S hK hA hret ls hl hW
  have hl : lv_has ls 5 [(0, .ref o_q0), (1, .int p1), (2, .int p2), (3, .int p3), (4, .int p4)] := hl
  refine lv_aload_n S.1 S.2.1 dX12_state_0 rfl (lv_at hl 0 rfl) ?_
  refine lv_iconst (v := 0) S.1 S.2.1 dX12_state_1 ic_0 ?_
  refine pfX12_78 (ws2 := (wMd g o_q0 o_q1 o_q2 o_q3 o_q4 o_q5 o_q6 o_q7 o_q8 o_q9 o_q10 o_q11 o_q12 o_q13 o_q14 o_q15 o_q16 o_q17 o_q18 o_q19 o_q20 o_q21 o_q22 (0 : Int32) o_tape o_size o_fault o_faultPlace o_many o_towns o_weeks o_logs o_reached o_length o_begins o_sort o_value o_word o_wrongAt o_laterFault o_laterPlace o_told o_read o_farOne o_good o_town o_people o_when o_sat o_quiet o_vain o_lent o_forgiven o_sundays o_purse o_beside o_debts o_sitting o_visited o_week o_heaps o_taken o_best o_more o_firstOne o_log o_fitting o_found o_seed o_row o_saved)) S hK hW 0 rfl rfl rfl (Nat.le_of_ble_eq_true rfl) rfl dX12_state_2 (fun H locs hW => ?_)
  refine lv_aload_n S.1 S.2.1 dX12_state_5 rfl (lv_at hl 0 rfl) ?_
  refine lv_iload_n S.1 S.2.1 dX12_state_6 rfl (lv_at hl 1 rfl) ?_
  refine lv_iload_n S.1 S.2.1 dX12_state_7 rfl (lv_at hl 2 rfl) ?_
  obtain ⟨x1, hx1, hf⟩ := bnd_e hf
  refine Wr.goW (Wr.runV (c_X12_layAll hx1) S hK hW.1 hW.2.1 0 10 rfl rfl kVX12_305 rfl hl.1 [] rfl (Nat.le_of_ble_eq_true rfl) ⟨(Nat.le_of_ble_eq_true rfl), (Nat.le_of_ble_eq_true rfl)⟩ ⟨(Nat.zero_le _), (Nat.zero_le _)⟩ dX12_state_8) hW hA (fun H locs hW => ?_)
  refine lv_if_eq (tgt := 44) S.1 S.2.1 dX12_state_11 (by decide) (fun c_ => ?_) (fun c_ => ?_)
  · have hf := it_p c_ hf
    refine lv_iconst (v := (-1)) S.1 S.2.1 dX12_state_44 ic_m1 ?_
    have e_ := Option.some.inj hf
    subst e_
    exact hret _ _ _ _ dX12_state_45 hW
  · have hf := it_n c_ hf
    refine lv_iload_n S.1 S.2.1 dX12_state_14 rfl (lv_at hl 3 rfl) ?_
    refine lv_iconst (v := 0) S.1 S.2.1 dX12_state_15 ic_0 ?_
    refine lv_aload_n S.1 S.2.1 dX12_state_16 rfl (lv_at hl 0 rfl) ?_
    obtain ⟨x2, hx2, hf⟩ := bnd_e hf
    refine Rd.cV (c_X12_deeds hx2) S hK hW.1 0 10 rfl rfl kVX12_269 rfl hl.1 [.int (0 : Int32), .int p3] rfl (Nat.le_of_ble_eq_true rfl) ⟨(Nat.le_of_ble_eq_true rfl), (Nat.le_of_ble_eq_true rfl)⟩ ⟨(Nat.zero_le _), (Nat.zero_le _)⟩ dX12_state_17 ?_
    obtain ⟨x3, hx3, hf⟩ := bnd_e hf
    refine Rd.cS (c_X12_in hx3) S hK va_P.nil kSX12_90 rfl hl.1 [] rfl (Nat.le_of_ble_eq_true rfl) ⟨(Nat.le_of_ble_eq_true rfl), (Nat.le_of_ble_eq_true rfl)⟩ ⟨(Nat.zero_le _), (Nat.zero_le _)⟩ dX12_state_20 ?_
    refine lv_if_eq (tgt := 44) S.1 S.2.1 dX12_state_23 (by decide) (fun c_ => ?_) (fun c_ => ?_)
    · have hf := it_p c_ hf
      refine lv_iconst (v := (-1)) S.1 S.2.1 dX12_state_44 ic_m1 ?_
      have e_ := Option.some.inj hf
      subst e_
      exact hret _ _ _ _ dX12_state_45 hW
    · have hf := it_n c_ hf
      refine lv_aload_n S.1 S.2.1 dX12_state_26 rfl (lv_at hl 0 rfl) ?_
      refine lv_iload_n S.1 S.2.1 dX12_state_27 rfl (lv_at hl 3 rfl) ?_
      obtain ⟨x4, hx4, hf⟩ := bnd_e hf
      refine Wr.goW (Wr.runV (c_X12_play hx4) S hK hW.1 hW.2.1 0 10 rfl rfl kVX12_308 rfl hl.1 [] rfl (Nat.le_of_ble_eq_true rfl) ⟨(Nat.le_of_ble_eq_true rfl), (Nat.le_of_ble_eq_true rfl)⟩ ⟨(Nat.zero_le _), (Nat.zero_le _)⟩ dX12_state_28) hW hA (fun H locs hW => ?_)
      refine lv_iload_n S.1 S.2.1 dX12_state_31 rfl (lv_at hl 3 rfl) ?_
      refine lv_icmp_ne (tgt := 44) S.1 S.2.1 dX12_state_32 (by decide) (fun c_ => ?_) (fun c_ => ?_)
      · have hf := it_n c_ hf
        refine lv_iconst (v := (-1)) S.1 S.2.1 dX12_state_44 ic_m1 ?_
        have e_ := Option.some.inj hf
        subst e_
        exact hret _ _ _ _ dX12_state_45 hW
      · have hf := it_p c_ hf
        refine lv_aload_n S.1 S.2.1 dX12_state_35 rfl (lv_at hl 0 rfl) ?_
        refine lv_iload S.1 S.2.1 dX12_state_36 (lv_at hl 4 rfl) ?_
        obtain ⟨x5, hx5, hf⟩ := bnd_e hf
        refine Rd.cV (c_X12_ofState hx5) S hK hW.1 0 10 rfl rfl kVX12_320 rfl hl.1 [] rfl (Nat.le_of_ble_eq_true rfl) ⟨(Nat.le_of_ble_eq_true rfl), (Nat.le_of_ble_eq_true rfl)⟩ ⟨(Nat.zero_le _), (Nat.zero_le _)⟩ dX12_state_38 ?_
        refine lv_goto (tgt := 45) S.1 S.2.1 dX12_state_41 (by decide) ?_
        have e_ := Option.some.inj hf
        subst e_
        exact hret _ _ _ _ dX12_state_45 hW
def f_X12_allHate_L12 (fu : Nat) (o_towns : (Nat → Int32)) (o_town : Int32) (p1 : Int32) (s2 : Int32) (s6 : Int32) : Option ((Int32) ⊕ ((Int32) ⊕ (Unit))) := if s2 ≤ s6 then some (.inr (.inr ())) else bnd (α := Int32) (f_X12_has fu p1 s2) (fun x9 => if x9 = 0 then some (.inl (s6 + 1)) else bnd (α := Int32) (f_X12_has fu p1 s6) (fun x10 => if x10 = 0 then some (.inl (s6 + 1)) else bnd (α := Int32) (f_X12_hates fu o_towns o_town s2 s6) (fun x11 => if x11 = 0 then some (.inr (.inl (0 : Int32))) else some (.inl (s6 + 1)))))
def f_X12_allHate_L2 (fu : Nat) (o_towns : (Nat → Int32)) (o_town : Int32) (o_people : Int32) (p1 : Int32) (s2 : Int32) : Option ((Int32) ⊕ ((Int32) ⊕ (Unit))) := if o_people ≤ s2 then some (.inr (.inr ())) else bnd (α := (Int32) ⊕ (Unit)) (lp (f_X12_allHate_L12 fu o_towns o_town p1 s2) fu (0 : Int32)) (fun x7 => cse x7 (fun y13 => some (.inr (.inl y13))) (fun v12 => some (.inl (s2 + 1))))
def f_X12_allHate (fu : Nat) (o_towns : (Nat → Int32)) (o_town : Int32) (o_people : Int32) (p1 : Int32) : Option (Int32) := bnd (α := (Int32) ⊕ (Unit)) (lp (f_X12_allHate_L2 fu o_towns o_town o_people p1) fu (0 : Int32)) (fun x3 => cse x3 (fun y15 => some y15) (fun v14 => some (1 : Int32)))
set_option maxHeartbeats 4000000 in
set_option maxRecDepth 100000 in
theorem c_X12_allHate {l : Launch} {D : va_G} {g : Nat → ClassId} {fu : Nat} {o_q0 o_q1 o_q2 o_q3 o_q4 o_q5 o_q6 o_q7 o_q8 o_q9 o_q10 o_q11 o_q12 o_q13 o_q14 o_q15 o_q16 o_q17 o_q18 o_q19 o_q20 o_q21 o_q22 : Nat} {o_code : Int32} {o_tape : (Nat → Int32)} {o_size : (Nat → Int32)} {o_fault : (Nat → Int32)} {o_faultPlace : (Nat → Int32)} {o_many : (Nat → Int32)} {o_towns : (Nat → Int32)} {o_weeks : (Nat → Int32)} {o_logs : (Nat → Int32)} {o_reached : Int32} {o_length : Int32} {o_begins : Int32} {o_sort : Int32} {o_value : Int32} {o_word : Int64} {o_wrongAt : Int32} {o_laterFault : Int32} {o_laterPlace : Int32} {o_told : (Nat → Int32)} {o_read : (Nat → Int32)} {o_farOne : Int32} {o_good : Int32} {o_town : Int32} {o_people : Int32} {o_when : Int32} {o_sat : Int32} {o_quiet : Int32} {o_vain : Int32} {o_lent : Int32} {o_forgiven : Int32} {o_sundays : Int32} {o_purse : (Nat → Int32)} {o_beside : (Nat → Int32)} {o_debts : (Nat → Int32)} {o_sitting : (Nat → Int32)} {o_visited : (Nat → Int32)} {o_week : Int32} {o_heaps : (Nat → Int32)} {o_taken : (Nat → Int32)} {o_best : (Nat → Int32)} {o_more : (Nat → Int32)} {o_firstOne : Int32} {o_log : Int32} {o_fitting : (Nat → Int32)} {o_found : Int32} {o_seed : Int32} {o_row : (Nat → Int32)} {o_saved : (Nat → Int32)} {p1 : Int32} {r : Int32} (hf : f_X12_allHate fu o_towns o_town o_people p1 = some r) : Rd l D (gy g) yX12_allHate cX12_allHate 4 (some .boolean) 2 [.ref o_q0, .int p1] (wMd g o_q0 o_q1 o_q2 o_q3 o_q4 o_q5 o_q6 o_q7 o_q8 o_q9 o_q10 o_q11 o_q12 o_q13 o_q14 o_q15 o_q16 o_q17 o_q18 o_q19 o_q20 o_q21 o_q22 o_code o_tape o_size o_fault o_faultPlace o_many o_towns o_weeks o_logs o_reached o_length o_begins o_sort o_value o_word o_wrongAt o_laterFault o_laterPlace o_told o_read o_farOne o_good o_town o_people o_when o_sat o_quiet o_vain o_lent o_forgiven o_sundays o_purse o_beside o_debts o_sitting o_visited o_week o_heaps o_taken o_best o_more o_firstOne o_log o_fitting o_found o_seed o_row o_saved) (some (.int r)) := by
  refine Rd.ofZ (by decide) (Nat.le_of_ble_eq_true rfl) ?_
  intro p e s m args below meth c Q S hK hP hret ls hl
  have hl : lv_has ls 4 [(0, .ref o_q0), (1, .int p1)] := hl
  refine lv_iconst (v := 0) S.1 S.2.1 dX12_allHate_0 ic_0 ?_
  refine lv_istore_n (lv' := [(2, .int (0 : Int32)), (0, .ref o_q0), (1, .int p1)]) S.1 S.2.1 dX12_allHate_1 rfl hl (by decide) rfl (fun ls hl => ?_)
  obtain ⟨x3, hf_, hk3⟩ := bnd_e hf
  have hE3 : ∀ (v14 : Unit), x3 = .inr v14 → ∀ (ls : Array Slot), lv_has ls 4 [] → W p l e (rmD 2) s m args below meth c s.heap [] 0 0 Q (F0 m 56 ls []) := by
    intro v14 e_ ls hl
    subst e_
    have hf := cse_r hk3
    refine lv_iconst (v := 1) S.1 S.2.1 dX12_allHate_56 ic_1 ?_
    have e_ := Option.some.inj hf
    subst e_
    exact hret _ _ (Or.inr rfl) dX12_allHate_57
  refine lp_ind (P := fun (s2 : Int32) => ∀ (ls : Array Slot), lv_has ls 4 [(0, .ref o_q0), (1, .int p1), (2, .int s2)] → W p l e (rmD 2) s m args below meth c s.heap [] 0 0 Q (F0 m 2 ls [])) ?_ _ _ hf_ _ (lv_sub hl [1, 2, 0] rfl)
  intro s2 x4 hf hI3 hR3 ls hl
  refine lv_iload_n S.1 S.2.1 dX12_allHate_2 rfl (lv_at hl 2 rfl) ?_
  refine lv_aload_n S.1 S.2.1 dX12_allHate_3 rfl (lv_at hl 0 rfl) ?_
  refine gfX12_230 S hK hP 0 rfl rfl dX12_allHate_4 ?_
  refine lv_icmp_ge (tgt := 56) S.1 S.2.1 dX12_allHate_7 (by decide) (fun c_ => ?_) (fun c_ => ?_)
  · have hf := it_p c_ hf
    have e_ := hR3 _ (Option.some.inj hf).symm
    exact hE3 _ e_.symm _ (lv_sub hl [] rfl)
  · have hf := it_n c_ hf
    refine lv_iconst (v := 0) S.1 S.2.1 dX12_allHate_10 ic_0 ?_
    refine lv_istore_n (lv' := [(3, .int (0 : Int32)), (0, .ref o_q0), (1, .int p1), (2, .int s2)]) S.1 S.2.1 dX12_allHate_11 rfl hl (by decide) rfl (fun ls hl => ?_)
    obtain ⟨x7, hf_, hk7⟩ := bnd_e hf
    have hE7 : ∀ (v12 : Unit), x7 = .inr v12 → ∀ (ls : Array Slot), lv_has ls 4 [(0, .ref o_q0), (1, .int p1), (2, .int s2)] → W p l e (rmD 2) s m args below meth c s.heap [] 0 0 Q (F0 m 50 ls []) := by
      intro v12 e_ ls hl
      subst e_
      have hf := cse_r hk7
      refine q_iinc (w := 1) (lv' := [(2, .int (s2 + 1)), (0, .ref o_q0), (1, .int p1)]) S dX12_allHate_50 hl (k := 2) rfl ic_1 (by decide) rfl (fun ls hl => ?_)
      refine lv_goto (tgt := 2) S.1 S.2.1 dX12_allHate_53 (by decide) ?_
      exact hI3 _ (Option.some.inj hf).symm _ (lv_sub hl [1, 2, 0] rfl)
    refine lp_ind (P := fun (s6 : Int32) => ∀ (ls : Array Slot), lv_has ls 4 [(0, .ref o_q0), (1, .int p1), (2, .int s2), (3, .int s6)] → W p l e (rmD 2) s m args below meth c s.heap [] 0 0 Q (F0 m 12 ls [])) ?_ _ _ hf_ _ (lv_sub hl [1, 2, 3, 0] rfl)
    intro s6 x8 hf hI7 hR7 ls hl
    refine lv_iload_n S.1 S.2.1 dX12_allHate_12 rfl (lv_at hl 3 rfl) ?_
    refine lv_iload_n S.1 S.2.1 dX12_allHate_13 rfl (lv_at hl 2 rfl) ?_
    refine lv_icmp_ge (tgt := 50) S.1 S.2.1 dX12_allHate_14 (by decide) (fun c_ => ?_) (fun c_ => ?_)
    · have hf := it_p c_ hf
      have e_ := hR7 _ (Option.some.inj hf).symm
      exact hE7 _ e_.symm _ (lv_sub hl [0, 1, 2] rfl)
    · have hf := it_n c_ hf
      refine lv_iload_n S.1 S.2.1 dX12_allHate_17 rfl (lv_at hl 1 rfl) ?_
      refine lv_iload_n S.1 S.2.1 dX12_allHate_18 rfl (lv_at hl 2 rfl) ?_
      obtain ⟨x9, hx9, hf⟩ := bnd_e hf
      refine Rd.cS (c_X12_has hx9) S hK va_P.nil kSX12_82 rfl hl.1 [] rfl (Nat.le_of_ble_eq_true rfl) ⟨(Nat.le_of_ble_eq_true rfl), (Nat.le_of_ble_eq_true rfl)⟩ ⟨(Nat.zero_le _), (Nat.zero_le _)⟩ dX12_allHate_19 ?_
      refine lv_if_eq (tgt := 44) S.1 S.2.1 dX12_allHate_22 (by decide) (fun c_ => ?_) (fun c_ => ?_)
      · have hf := it_p c_ hf
        refine q_iinc (w := 1) (lv' := [(3, .int (s6 + 1)), (0, .ref o_q0), (1, .int p1), (2, .int s2)]) S dX12_allHate_44 hl (k := 3) rfl ic_1 (by decide) rfl (fun ls hl => ?_)
        refine lv_goto (tgt := 12) S.1 S.2.1 dX12_allHate_47 (by decide) ?_
        exact hI7 _ (Option.some.inj hf).symm _ (lv_sub hl [1, 2, 3, 0] rfl)
      · have hf := it_n c_ hf
        refine lv_iload_n S.1 S.2.1 dX12_allHate_25 rfl (lv_at hl 1 rfl) ?_
        refine lv_iload_n S.1 S.2.1 dX12_allHate_26 rfl (lv_at hl 3 rfl) ?_
        obtain ⟨x10, hx10, hf⟩ := bnd_e hf
        refine Rd.cS (c_X12_has hx10) S hK va_P.nil kSX12_82 rfl hl.1 [] rfl (Nat.le_of_ble_eq_true rfl) ⟨(Nat.le_of_ble_eq_true rfl), (Nat.le_of_ble_eq_true rfl)⟩ ⟨(Nat.zero_le _), (Nat.zero_le _)⟩ dX12_allHate_27 ?_
        refine lv_if_eq (tgt := 44) S.1 S.2.1 dX12_allHate_30 (by decide) (fun c_ => ?_) (fun c_ => ?_)
        · have hf := it_p c_ hf
          refine q_iinc (w := 1) (lv' := [(3, .int (s6 + 1)), (0, .ref o_q0), (1, .int p1), (2, .int s2)]) S dX12_allHate_44 hl (k := 3) rfl ic_1 (by decide) rfl (fun ls hl => ?_)
          refine lv_goto (tgt := 12) S.1 S.2.1 dX12_allHate_47 (by decide) ?_
          exact hI7 _ (Option.some.inj hf).symm _ (lv_sub hl [1, 2, 3, 0] rfl)
        · have hf := it_n c_ hf
          refine lv_aload_n S.1 S.2.1 dX12_allHate_33 rfl (lv_at hl 0 rfl) ?_
          refine lv_iload_n S.1 S.2.1 dX12_allHate_34 rfl (lv_at hl 2 rfl) ?_
          refine lv_iload_n S.1 S.2.1 dX12_allHate_35 rfl (lv_at hl 3 rfl) ?_
          obtain ⟨x11, hx11, hf⟩ := bnd_e hf
          refine Rd.cV (c_X12_hates hx11) S hK hP 0 10 rfl rfl kVX12_275 rfl hl.1 [] rfl (Nat.le_of_ble_eq_true rfl) ⟨(Nat.le_of_ble_eq_true rfl), (Nat.le_of_ble_eq_true rfl)⟩ ⟨(Nat.zero_le _), (Nat.zero_le _)⟩ dX12_allHate_36 ?_
          refine lv_if_ne (tgt := 44) S.1 S.2.1 dX12_allHate_39 (by decide) (fun c_ => ?_) (fun c_ => ?_)
          · have hf := it_n c_ hf
            refine q_iinc (w := 1) (lv' := [(3, .int (s6 + 1)), (0, .ref o_q0), (1, .int p1), (2, .int s2)]) S dX12_allHate_44 hl (k := 3) rfl ic_1 (by decide) rfl (fun ls hl => ?_)
            refine lv_goto (tgt := 12) S.1 S.2.1 dX12_allHate_47 (by decide) ?_
            exact hI7 _ (Option.some.inj hf).symm _ (lv_sub hl [1, 2, 3, 0] rfl)
          · have hf := it_p c_ hf
            refine lv_iconst (v := 0) S.1 S.2.1 dX12_allHate_42 ic_0 ?_
            have e_ := hR7 _ (Option.some.inj hf).symm
            subst e_
            have hf := cse_l hk7
            have e_ := hR3 _ (Option.some.inj hf).symm
            subst e_
            have hf := cse_l hk3
            have e_ := Option.some.inj hf
            subst e_
            exact hret _ _ (Or.inl rfl) dX12_allHate_43
def f_X12_owesThem_L5 (fu : Nat) (o_people : Int32) (o_debts : (Nat → Int32)) (p1 : Int32) (p2 : Int32) (s2 : Int32 × Int32) : Option ((Int32 × Int32) ⊕ (Int32)) := if o_people ≤ s2.2 then some (.inr s2.1) else bnd (α := Int32) (f_X12_has fu p2 s2.2) (fun x5 => if x5 = 0 then ltn (s2.1 + (0 : Int32)) (fun x6 => some (.inl (x6, (s2.2 + 1)))) else bnd (α := Int32) (f_X12_owed fu o_debts p1 s2.2) (fun x7 => ltn (s2.1 + x7) (fun x8 => some (.inl (x8, (s2.2 + 1))))))
def f_X12_owesThem (fu : Nat) (o_people : Int32) (o_debts : (Nat → Int32)) (p1 : Int32) (p2 : Int32) : Option (Int32) := bnd (α := Int32) (lp (f_X12_owesThem_L5 fu o_people o_debts p1 p2) fu ((0 : Int32), (0 : Int32))) (fun v9 => some v9)
set_option maxHeartbeats 4000000 in
set_option maxRecDepth 100000 in
theorem c_X12_owesThem {l : Launch} {D : va_G} {g : Nat → ClassId} {fu : Nat} {o_q0 o_q1 o_q2 o_q3 o_q4 o_q5 o_q6 o_q7 o_q8 o_q9 o_q10 o_q11 o_q12 o_q13 o_q14 o_q15 o_q16 o_q17 o_q18 o_q19 o_q20 o_q21 o_q22 : Nat} {o_code : Int32} {o_tape : (Nat → Int32)} {o_size : (Nat → Int32)} {o_fault : (Nat → Int32)} {o_faultPlace : (Nat → Int32)} {o_many : (Nat → Int32)} {o_towns : (Nat → Int32)} {o_weeks : (Nat → Int32)} {o_logs : (Nat → Int32)} {o_reached : Int32} {o_length : Int32} {o_begins : Int32} {o_sort : Int32} {o_value : Int32} {o_word : Int64} {o_wrongAt : Int32} {o_laterFault : Int32} {o_laterPlace : Int32} {o_told : (Nat → Int32)} {o_read : (Nat → Int32)} {o_farOne : Int32} {o_good : Int32} {o_town : Int32} {o_people : Int32} {o_when : Int32} {o_sat : Int32} {o_quiet : Int32} {o_vain : Int32} {o_lent : Int32} {o_forgiven : Int32} {o_sundays : Int32} {o_purse : (Nat → Int32)} {o_beside : (Nat → Int32)} {o_debts : (Nat → Int32)} {o_sitting : (Nat → Int32)} {o_visited : (Nat → Int32)} {o_week : Int32} {o_heaps : (Nat → Int32)} {o_taken : (Nat → Int32)} {o_best : (Nat → Int32)} {o_more : (Nat → Int32)} {o_firstOne : Int32} {o_log : Int32} {o_fitting : (Nat → Int32)} {o_found : Int32} {o_seed : Int32} {o_row : (Nat → Int32)} {o_saved : (Nat → Int32)} {p1 : Int32} {p2 : Int32} {r : Int32} (hf : f_X12_owesThem fu o_people o_debts p1 p2 = some r) : Rd l D (gy g) yX12_owesThem cX12_owesThem 5 (some .int) 1 [.ref o_q0, .int p1, .int p2] (wMd g o_q0 o_q1 o_q2 o_q3 o_q4 o_q5 o_q6 o_q7 o_q8 o_q9 o_q10 o_q11 o_q12 o_q13 o_q14 o_q15 o_q16 o_q17 o_q18 o_q19 o_q20 o_q21 o_q22 o_code o_tape o_size o_fault o_faultPlace o_many o_towns o_weeks o_logs o_reached o_length o_begins o_sort o_value o_word o_wrongAt o_laterFault o_laterPlace o_told o_read o_farOne o_good o_town o_people o_when o_sat o_quiet o_vain o_lent o_forgiven o_sundays o_purse o_beside o_debts o_sitting o_visited o_week o_heaps o_taken o_best o_more o_firstOne o_log o_fitting o_found o_seed o_row o_saved) (some (.int r)) := by
  refine Rd.ofI (by decide) (Nat.le_of_ble_eq_true rfl) ?_
  intro p e s m args below meth c Q S hK hP hret ls hl
  have hl : lv_has ls 5 [(0, .ref o_q0), (1, .int p1), (2, .int p2)] := hl
  refine lv_iconst (v := 0) S.1 S.2.1 dX12_owesThem_0 ic_0 ?_
  refine lv_istore_n (lv' := [(3, .int (0 : Int32)), (0, .ref o_q0), (1, .int p1), (2, .int p2)]) S.1 S.2.1 dX12_owesThem_1 rfl hl (by decide) rfl (fun ls hl => ?_)
  refine lv_iconst (v := 0) S.1 S.2.1 dX12_owesThem_2 ic_0 ?_
  refine lv_istore (lv' := [(4, .int (0 : Int32)), (3, .int (0 : Int32)), (0, .ref o_q0), (1, .int p1), (2, .int p2)]) S.1 S.2.1 dX12_owesThem_3 hl (by decide) rfl (fun ls hl => ?_)
  obtain ⟨x3, hf_, hk3⟩ := bnd_e hf
  have hE3 : ∀ (v9 : Int32), v9 = x3 → ∀ (ls : Array Slot), lv_has ls 5 [(3, .int v9)] → W p l e (rmD 1) s m args below meth c s.heap [] 0 0 Q (F0 m 43 ls []) := by
    intro v9 e_ ls hl
    subst e_
    have hf := hk3
    refine lv_iload_n S.1 S.2.1 dX12_owesThem_43 rfl (lv_at hl 0 rfl) ?_
    have e_ := Option.some.inj hf
    subst e_
    exact hret _ _ dX12_owesThem_44
  refine lp_ind (P := fun (s2 : Int32 × Int32) => ∀ (ls : Array Slot), lv_has ls 5 [(0, .ref o_q0), (1, .int p1), (2, .int p2), (3, .int s2.1), (4, .int s2.2)] → W p l e (rmD 1) s m args below meth c s.heap [] 0 0 Q (F0 m 5 ls [])) ?_ _ _ hf_ _ (lv_sub hl [2, 3, 4, 1, 0] rfl)
  intro s2 x4 hf hI3 hR3 ls hl
  refine lv_iload S.1 S.2.1 dX12_owesThem_5 (lv_at hl 4 rfl) ?_
  refine lv_aload_n S.1 S.2.1 dX12_owesThem_7 rfl (lv_at hl 0 rfl) ?_
  refine gfX12_230 S hK hP 0 rfl rfl dX12_owesThem_8 ?_
  refine lv_icmp_ge (tgt := 43) S.1 S.2.1 dX12_owesThem_11 (by decide) (fun c_ => ?_) (fun c_ => ?_)
  · have hf := it_p c_ hf
    have e_ := hR3 _ (Option.some.inj hf).symm
    exact hE3 _ e_ _ (lv_sub hl [3] rfl)
  · have hf := it_n c_ hf
    refine lv_iload_n S.1 S.2.1 dX12_owesThem_14 rfl (lv_at hl 3 rfl) ?_
    refine lv_iload_n S.1 S.2.1 dX12_owesThem_15 rfl (lv_at hl 2 rfl) ?_
    refine lv_iload S.1 S.2.1 dX12_owesThem_16 (lv_at hl 4 rfl) ?_
    obtain ⟨x5, hx5, hf⟩ := bnd_e hf
    refine Rd.cS (c_X12_has hx5) S hK va_P.nil kSX12_82 rfl hl.1 [.int s2.1] rfl (Nat.le_of_ble_eq_true rfl) ⟨(Nat.le_of_ble_eq_true rfl), (Nat.le_of_ble_eq_true rfl)⟩ ⟨(Nat.zero_le _), (Nat.zero_le _)⟩ dX12_owesThem_18 ?_
    refine lv_if_eq (tgt := 34) S.1 S.2.1 dX12_owesThem_21 (by decide) (fun c_ => ?_) (fun c_ => ?_)
    · have hf := it_p c_ hf
      refine lv_iconst (v := 0) S.1 S.2.1 dX12_owesThem_34 ic_0 ?_
      refine lv_iadd S.1 S.2.1 dX12_owesThem_35 ?_
      refine lv_topi (fun x6 ex6 => ?_)
      have hf := ltn_e hf ex6
      refine lv_istore_n (lv' := [(3, .int x6), (0, .ref o_q0), (1, .int p1), (2, .int p2), (4, .int s2.2)]) S.1 S.2.1 dX12_owesThem_36 rfl hl (by decide) rfl (fun ls hl => ?_)
      refine q_iinc (w := 1) (lv' := [(4, .int (s2.2 + 1)), (3, .int x6), (0, .ref o_q0), (1, .int p1), (2, .int p2)]) S dX12_owesThem_37 hl (k := 4) rfl ic_1 (by decide) rfl (fun ls hl => ?_)
      refine lv_goto (tgt := 5) S.1 S.2.1 dX12_owesThem_40 (by decide) ?_
      exact hI3 _ (Option.some.inj hf).symm _ (lv_sub hl [2, 3, 4, 1, 0] rfl)
    · have hf := it_n c_ hf
      refine lv_aload_n S.1 S.2.1 dX12_owesThem_24 rfl (lv_at hl 0 rfl) ?_
      refine lv_iload_n S.1 S.2.1 dX12_owesThem_25 rfl (lv_at hl 1 rfl) ?_
      refine lv_iload S.1 S.2.1 dX12_owesThem_26 (lv_at hl 4 rfl) ?_
      obtain ⟨x7, hx7, hf⟩ := bnd_e hf
      refine Rd.cV (c_X12_owed hx7) S hK hP 0 10 rfl rfl kVX12_254 rfl hl.1 [.int s2.1] rfl (Nat.le_of_ble_eq_true rfl) ⟨(Nat.le_of_ble_eq_true rfl), (Nat.le_of_ble_eq_true rfl)⟩ ⟨(Nat.zero_le _), (Nat.zero_le _)⟩ dX12_owesThem_28 ?_
      refine lv_goto (tgt := 35) S.1 S.2.1 dX12_owesThem_31 (by decide) ?_
      refine lv_iadd S.1 S.2.1 dX12_owesThem_35 ?_
      refine lv_topi (fun x8 ex8 => ?_)
      have hf := ltn_e hf ex8
      refine lv_istore_n (lv' := [(3, .int x8), (0, .ref o_q0), (1, .int p1), (2, .int p2), (4, .int s2.2)]) S.1 S.2.1 dX12_owesThem_36 rfl hl (by decide) rfl (fun ls hl => ?_)
      refine q_iinc (w := 1) (lv' := [(4, .int (s2.2 + 1)), (3, .int x8), (0, .ref o_q0), (1, .int p1), (2, .int p2)]) S dX12_owesThem_37 hl (k := 4) rfl ic_1 (by decide) rfl (fun ls hl => ?_)
      refine lv_goto (tgt := 5) S.1 S.2.1 dX12_owesThem_40 (by decide) ?_
      exact hI3 _ (Option.some.inj hf).symm _ (lv_sub hl [2, 3, 4, 1, 0] rfl)
def f_X12_court_L29 (fu : Nat) (o_towns : (Nat → Int32)) (p2 : Int32) (x1 : Int32 × Int32 × Int32 × Int32 × Int32 × Int32 × Int32 × Int32 × Int32 × Int32 × (Nat → Int32) × (Nat → Int32) × (Nat → Int32) × (Nat → Int32) × (Nat → Int32)) (s4 : Int32 × Int32) : Option ((Int32 × Int32) ⊕ (Int32)) := if (jshl (1 : Int32) x1.2.2.1) ≤ s4.2 then some (.inr s4.1) else bnd (α := Int32) (f_X12_owesThem fu x1.2.2.1 x1.2.2.2.2.2.2.2.2.2.2.2.2.1 p2 s4.2) (fun x7 => bnd (α := Int32) (f_X12_owesThem fu x1.2.2.1 x1.2.2.2.2.2.2.2.2.2.2.2.2.1 p2 s4.1) (fun x8 => if x7 ≤ x8 then some (.inl (s4.1, (s4.2 + 1))) else bnd (α := Int32) (f_X12_allHate fu o_towns x1.2.1 x1.2.2.1 s4.2) (fun x9 => if x9 = 0 then some (.inl (s4.1, (s4.2 + 1))) else some (.inl (s4.2, (s4.2 + 1))))))
def f_X12_court (fu : Nat) (o_code : Int32) (o_many : (Nat → Int32)) (o_towns : (Nat → Int32)) (o_town : Int32) (o_people : Int32) (o_when : Int32) (o_sat : Int32) (o_quiet : Int32) (o_vain : Int32) (o_lent : Int32) (o_forgiven : Int32) (o_sundays : Int32) (o_purse : (Nat → Int32)) (o_beside : (Nat → Int32)) (o_debts : (Nat → Int32)) (o_sitting : (Nat → Int32)) (o_visited : (Nat → Int32)) (p1 : Int32) (p2 : Int32) (p3 : Int32) : Option (Int32 × Int32 × Int32 × Int32 × Int32 × Int32 × Int32 × Int32 × Int32 × Int32 × Int32 × (Nat → Int32) × (Nat → Int32) × (Nat → Int32) × (Nat → Int32) × (Nat → Int32)) := bnd (α := Int32 × Int32 × Int32 × Int32 × Int32 × Int32 × Int32 × Int32 × Int32 × Int32 × (Nat → Int32) × (Nat → Int32) × (Nat → Int32) × (Nat → Int32) × (Nat → Int32)) (f_X12_hand fu o_many o_towns o_town o_people o_when o_sat o_quiet o_vain o_lent o_forgiven o_sundays o_purse o_beside o_debts o_sitting o_visited p1) (fun x1 => if x1.1 = 0 then some ((-1 : Int32), (0 : Int32), x1.2.1, x1.2.2.1, x1.2.2.2.1, x1.2.2.2.2.1, x1.2.2.2.2.2.1, x1.2.2.2.2.2.2.1, x1.2.2.2.2.2.2.2.1, x1.2.2.2.2.2.2.2.2.1, x1.2.2.2.2.2.2.2.2.2.1, x1.2.2.2.2.2.2.2.2.2.2.1, x1.2.2.2.2.2.2.2.2.2.2.2.1, x1.2.2.2.2.2.2.2.2.2.2.2.2.1, x1.2.2.2.2.2.2.2.2.2.2.2.2.2.1, x1.2.2.2.2.2.2.2.2.2.2.2.2.2.2) else bnd (α := Int32) (f_X12_isPerson fu x1.2.2.1 p2) (fun x2 => if x2 = 0 then some ((-1 : Int32), (0 : Int32), x1.2.1, x1.2.2.1, x1.2.2.2.1, x1.2.2.2.2.1, x1.2.2.2.2.2.1, x1.2.2.2.2.2.2.1, x1.2.2.2.2.2.2.2.1, x1.2.2.2.2.2.2.2.2.1, x1.2.2.2.2.2.2.2.2.2.1, x1.2.2.2.2.2.2.2.2.2.2.1, x1.2.2.2.2.2.2.2.2.2.2.2.1, x1.2.2.2.2.2.2.2.2.2.2.2.2.1, x1.2.2.2.2.2.2.2.2.2.2.2.2.2.1, x1.2.2.2.2.2.2.2.2.2.2.2.2.2.2) else bnd (α := Int32) (lp (f_X12_court_L29 fu o_towns p2 x1) fu ((0 : Int32), (1 : Int32))) (fun v10 => if p3 = 0 then bnd (α := Int32) (f_X12_owesThem fu x1.2.2.1 x1.2.2.2.2.2.2.2.2.2.2.2.2.1 p2 v10) (fun x11 => some (x11, (0 : Int32), x1.2.1, x1.2.2.1, x1.2.2.2.1, x1.2.2.2.2.1, x1.2.2.2.2.2.1, x1.2.2.2.2.2.2.1, x1.2.2.2.2.2.2.2.1, x1.2.2.2.2.2.2.2.2.1, x1.2.2.2.2.2.2.2.2.2.1, x1.2.2.2.2.2.2.2.2.2.2.1, x1.2.2.2.2.2.2.2.2.2.2.2.1, x1.2.2.2.2.2.2.2.2.2.2.2.2.1, x1.2.2.2.2.2.2.2.2.2.2.2.2.2.1, x1.2.2.2.2.2.2.2.2.2.2.2.2.2.2)) else some (v10, (0 : Int32), x1.2.1, x1.2.2.1, x1.2.2.2.1, x1.2.2.2.2.1, x1.2.2.2.2.2.1, x1.2.2.2.2.2.2.1, x1.2.2.2.2.2.2.2.1, x1.2.2.2.2.2.2.2.2.1, x1.2.2.2.2.2.2.2.2.2.1, x1.2.2.2.2.2.2.2.2.2.2.1, x1.2.2.2.2.2.2.2.2.2.2.2.1, x1.2.2.2.2.2.2.2.2.2.2.2.2.1, x1.2.2.2.2.2.2.2.2.2.2.2.2.2.1, x1.2.2.2.2.2.2.2.2.2.2.2.2.2.2))))
set_option maxHeartbeats 4000000 in
set_option maxRecDepth 100000 in
theorem c_X12_court {l : Launch} {D : va_G} {g : Nat → ClassId} {fu : Nat} {o_q0 o_q1 o_q2 o_q3 o_q4 o_q5 o_q6 o_q7 o_q8 o_q9 o_q10 o_q11 o_q12 o_q13 o_q14 o_q15 o_q16 o_q17 o_q18 o_q19 o_q20 o_q21 o_q22 : Nat} {o_code : Int32} {o_tape : (Nat → Int32)} {o_size : (Nat → Int32)} {o_fault : (Nat → Int32)} {o_faultPlace : (Nat → Int32)} {o_many : (Nat → Int32)} {o_towns : (Nat → Int32)} {o_weeks : (Nat → Int32)} {o_logs : (Nat → Int32)} {o_reached : Int32} {o_length : Int32} {o_begins : Int32} {o_sort : Int32} {o_value : Int32} {o_word : Int64} {o_wrongAt : Int32} {o_laterFault : Int32} {o_laterPlace : Int32} {o_told : (Nat → Int32)} {o_read : (Nat → Int32)} {o_farOne : Int32} {o_good : Int32} {o_town : Int32} {o_people : Int32} {o_when : Int32} {o_sat : Int32} {o_quiet : Int32} {o_vain : Int32} {o_lent : Int32} {o_forgiven : Int32} {o_sundays : Int32} {o_purse : (Nat → Int32)} {o_beside : (Nat → Int32)} {o_debts : (Nat → Int32)} {o_sitting : (Nat → Int32)} {o_visited : (Nat → Int32)} {o_week : Int32} {o_heaps : (Nat → Int32)} {o_taken : (Nat → Int32)} {o_best : (Nat → Int32)} {o_more : (Nat → Int32)} {o_firstOne : Int32} {o_log : Int32} {o_fitting : (Nat → Int32)} {o_found : Int32} {o_seed : Int32} {o_row : (Nat → Int32)} {o_saved : (Nat → Int32)} {p1 : Int32} {p2 : Int32} {p3 : Int32} {r : Int32 × Int32 × Int32 × Int32 × Int32 × Int32 × Int32 × Int32 × Int32 × Int32 × Int32 × (Nat → Int32) × (Nat → Int32) × (Nat → Int32) × (Nat → Int32) × (Nat → Int32)} (hf : f_X12_court fu o_code o_many o_towns o_town o_people o_when o_sat o_quiet o_vain o_lent o_forgiven o_sundays o_purse o_beside o_debts o_sitting o_visited p1 p2 p3 = some r) : Wr l D (gy g) yX12_court cX12_court 6 (some .int) 3 [.ref o_q0, .int p1, .int p2, .int p3] (wMd g o_q0 o_q1 o_q2 o_q3 o_q4 o_q5 o_q6 o_q7 o_q8 o_q9 o_q10 o_q11 o_q12 o_q13 o_q14 o_q15 o_q16 o_q17 o_q18 o_q19 o_q20 o_q21 o_q22 o_code o_tape o_size o_fault o_faultPlace o_many o_towns o_weeks o_logs o_reached o_length o_begins o_sort o_value o_word o_wrongAt o_laterFault o_laterPlace o_told o_read o_farOne o_good o_town o_people o_when o_sat o_quiet o_vain o_lent o_forgiven o_sundays o_purse o_beside o_debts o_sitting o_visited o_week o_heaps o_taken o_best o_more o_firstOne o_log o_fitting o_found o_seed o_row o_saved) (wMd g o_q0 o_q1 o_q2 o_q3 o_q4 o_q5 o_q6 o_q7 o_q8 o_q9 o_q10 o_q11 o_q12 o_q13 o_q14 o_q15 o_q16 o_q17 o_q18 o_q19 o_q20 o_q21 o_q22 r.2.1 o_tape o_size o_fault o_faultPlace o_many o_towns o_weeks o_logs o_reached o_length o_begins o_sort o_value o_word o_wrongAt o_laterFault o_laterPlace o_told o_read o_farOne o_good r.2.2.1 r.2.2.2.1 r.2.2.2.2.1 r.2.2.2.2.2.1 r.2.2.2.2.2.2.1 r.2.2.2.2.2.2.2.1 r.2.2.2.2.2.2.2.2.1 r.2.2.2.2.2.2.2.2.2.1 r.2.2.2.2.2.2.2.2.2.2.1 r.2.2.2.2.2.2.2.2.2.2.2.1 r.2.2.2.2.2.2.2.2.2.2.2.2.1 r.2.2.2.2.2.2.2.2.2.2.2.2.2.1 r.2.2.2.2.2.2.2.2.2.2.2.2.2.2.1 r.2.2.2.2.2.2.2.2.2.2.2.2.2.2.2 o_week o_heaps o_taken o_best o_more o_firstOne o_log o_fitting o_found o_seed o_row o_saved) (some (.int r.1)) := by
  refine Wr.ofI (by decide) (Nat.le_of_ble_eq_true rfl) ?_
  intro p e s m args below meth c Q A S hK hA hret ls hl hW
  have hl : lv_has ls 6 [(0, .ref o_q0), (1, .int p1), (2, .int p2), (3, .int p3)] := hl
  refine lv_aload_n S.1 S.2.1 dX12_court_0 rfl (lv_at hl 0 rfl) ?_
  refine lv_iconst (v := 0) S.1 S.2.1 dX12_court_1 ic_0 ?_
  refine pfX12_78 (ws2 := (wMd g o_q0 o_q1 o_q2 o_q3 o_q4 o_q5 o_q6 o_q7 o_q8 o_q9 o_q10 o_q11 o_q12 o_q13 o_q14 o_q15 o_q16 o_q17 o_q18 o_q19 o_q20 o_q21 o_q22 (0 : Int32) o_tape o_size o_fault o_faultPlace o_many o_towns o_weeks o_logs o_reached o_length o_begins o_sort o_value o_word o_wrongAt o_laterFault o_laterPlace o_told o_read o_farOne o_good o_town o_people o_when o_sat o_quiet o_vain o_lent o_forgiven o_sundays o_purse o_beside o_debts o_sitting o_visited o_week o_heaps o_taken o_best o_more o_firstOne o_log o_fitting o_found o_seed o_row o_saved)) S hK hW 0 rfl rfl rfl (Nat.le_of_ble_eq_true rfl) rfl dX12_court_2 (fun H locs hW => ?_)
  refine lv_aload_n S.1 S.2.1 dX12_court_5 rfl (lv_at hl 0 rfl) ?_
  refine lv_iload_n S.1 S.2.1 dX12_court_6 rfl (lv_at hl 1 rfl) ?_
  obtain ⟨x1, hx1, hf⟩ := bnd_e hf
  refine Wr.goW (Wr.runV (c_X12_hand hx1) S hK hW.1 hW.2.1 0 10 rfl rfl kVX12_257 rfl hl.1 [] rfl (Nat.le_of_ble_eq_true rfl) ⟨(Nat.le_of_ble_eq_true rfl), (Nat.le_of_ble_eq_true rfl)⟩ ⟨(Nat.zero_le _), (Nat.zero_le _)⟩ dX12_court_7) hW hA (fun H locs hW => ?_)
  refine lv_if_eq (tgt := 21) S.1 S.2.1 dX12_court_10 (by decide) (fun c_ => ?_) (fun c_ => ?_)
  · have hf := it_p c_ hf
    refine lv_iconst (v := (-1)) S.1 S.2.1 dX12_court_21 ic_m1 ?_
    have e_ := Option.some.inj hf
    subst e_
    exact hret _ _ _ _ dX12_court_22 hW
  · have hf := it_n c_ hf
    refine lv_aload_n S.1 S.2.1 dX12_court_13 rfl (lv_at hl 0 rfl) ?_
    refine lv_iload_n S.1 S.2.1 dX12_court_14 rfl (lv_at hl 2 rfl) ?_
    obtain ⟨x2, hx2, hf⟩ := bnd_e hf
    refine Rd.cV (c_X12_isPerson hx2) S hK hW.1 0 10 rfl rfl kVX12_260 rfl hl.1 [] rfl (Nat.le_of_ble_eq_true rfl) ⟨(Nat.le_of_ble_eq_true rfl), (Nat.le_of_ble_eq_true rfl)⟩ ⟨(Nat.zero_le _), (Nat.zero_le _)⟩ dX12_court_15 ?_
    refine lv_if_ne (tgt := 23) S.1 S.2.1 dX12_court_18 (by decide) (fun c_ => ?_) (fun c_ => ?_)
    · have hf := it_n c_ hf
      refine lv_iconst (v := 0) S.1 S.2.1 dX12_court_23 ic_0 ?_
      refine lv_istore (lv' := [(4, .int (0 : Int32)), (0, .ref o_q0), (1, .int p1), (2, .int p2), (3, .int p3)]) S.1 S.2.1 dX12_court_24 hl (by decide) rfl (fun ls hl => ?_)
      refine lv_iconst (v := 1) S.1 S.2.1 dX12_court_26 ic_1 ?_
      refine lv_istore (lv' := [(5, .int (1 : Int32)), (4, .int (0 : Int32)), (0, .ref o_q0), (1, .int p1), (2, .int p2), (3, .int p3)]) S.1 S.2.1 dX12_court_27 hl (by decide) rfl (fun ls hl => ?_)
      obtain ⟨x5, hf_, hk5⟩ := bnd_e hf
      have hE5 : ∀ (v10 : Int32), v10 = x5 → ∀ (ls : Array Slot) (H : Heap) (locs : List Loc), lv_has ls 6 [(0, .ref o_q0), (2, .int p2), (3, .int p3), (4, .int v10)] → St A s.heap D (wMd g o_q0 o_q1 o_q2 o_q3 o_q4 o_q5 o_q6 o_q7 o_q8 o_q9 o_q10 o_q11 o_q12 o_q13 o_q14 o_q15 o_q16 o_q17 o_q18 o_q19 o_q20 o_q21 o_q22 (0 : Int32) o_tape o_size o_fault o_faultPlace o_many o_towns o_weeks o_logs o_reached o_length o_begins o_sort o_value o_word o_wrongAt o_laterFault o_laterPlace o_told o_read o_farOne o_good x1.2.1 x1.2.2.1 x1.2.2.2.1 x1.2.2.2.2.1 x1.2.2.2.2.2.1 x1.2.2.2.2.2.2.1 x1.2.2.2.2.2.2.2.1 x1.2.2.2.2.2.2.2.2.1 x1.2.2.2.2.2.2.2.2.2.1 x1.2.2.2.2.2.2.2.2.2.2.1 x1.2.2.2.2.2.2.2.2.2.2.2.1 x1.2.2.2.2.2.2.2.2.2.2.2.2.1 x1.2.2.2.2.2.2.2.2.2.2.2.2.2.1 x1.2.2.2.2.2.2.2.2.2.2.2.2.2.2 o_week o_heaps o_taken o_best o_more o_firstOne o_log o_fitting o_found o_seed o_row o_saved) H locs → W p l e (rmD 3) s m args below meth c H locs 0 0 Q (F0 m 81 ls []) := by
        intro v10 e_ ls H locs hl hW
        subst e_
        have hf := hk5
        refine lv_iload_n S.1 S.2.1 dX12_court_81 rfl (lv_at hl 2 rfl) ?_
        refine lv_if_eq (tgt := 90) S.1 S.2.1 dX12_court_82 (by decide) (fun c_ => ?_) (fun c_ => ?_)
        · have hf := it_p c_ hf
          refine lv_aload_n S.1 S.2.1 dX12_court_90 rfl (lv_at hl 0 rfl) ?_
          refine lv_iload_n S.1 S.2.1 dX12_court_91 rfl (lv_at hl 1 rfl) ?_
          refine lv_iload S.1 S.2.1 dX12_court_92 (lv_at hl 3 rfl) ?_
          obtain ⟨x11, hx11, hf⟩ := bnd_e hf
          refine Rd.cV (c_X12_owesThem hx11) S hK hW.1 0 10 rfl rfl kVX12_323 rfl hl.1 [] rfl (Nat.le_of_ble_eq_true rfl) ⟨(Nat.le_of_ble_eq_true rfl), (Nat.le_of_ble_eq_true rfl)⟩ ⟨(Nat.zero_le _), (Nat.zero_le _)⟩ dX12_court_94 ?_
          have e_ := Option.some.inj hf
          subst e_
          exact hret _ _ _ _ dX12_court_97 hW
        · have hf := it_n c_ hf
          refine lv_iload S.1 S.2.1 dX12_court_85 (lv_at hl 3 rfl) ?_
          refine lv_goto (tgt := 97) S.1 S.2.1 dX12_court_87 (by decide) ?_
          have e_ := Option.some.inj hf
          subst e_
          exact hret _ _ _ _ dX12_court_97 hW
      refine lp_ind (P := fun (s4 : Int32 × Int32) => ∀ (ls : Array Slot) (H : Heap) (locs : List Loc), lv_has ls 6 [(0, .ref o_q0), (2, .int p2), (3, .int p3), (4, .int s4.1), (5, .int s4.2)] → St A s.heap D (wMd g o_q0 o_q1 o_q2 o_q3 o_q4 o_q5 o_q6 o_q7 o_q8 o_q9 o_q10 o_q11 o_q12 o_q13 o_q14 o_q15 o_q16 o_q17 o_q18 o_q19 o_q20 o_q21 o_q22 (0 : Int32) o_tape o_size o_fault o_faultPlace o_many o_towns o_weeks o_logs o_reached o_length o_begins o_sort o_value o_word o_wrongAt o_laterFault o_laterPlace o_told o_read o_farOne o_good x1.2.1 x1.2.2.1 x1.2.2.2.1 x1.2.2.2.2.1 x1.2.2.2.2.2.1 x1.2.2.2.2.2.2.1 x1.2.2.2.2.2.2.2.1 x1.2.2.2.2.2.2.2.2.1 x1.2.2.2.2.2.2.2.2.2.1 x1.2.2.2.2.2.2.2.2.2.2.1 x1.2.2.2.2.2.2.2.2.2.2.2.1 x1.2.2.2.2.2.2.2.2.2.2.2.2.1 x1.2.2.2.2.2.2.2.2.2.2.2.2.2.1 x1.2.2.2.2.2.2.2.2.2.2.2.2.2.2 o_week o_heaps o_taken o_best o_more o_firstOne o_log o_fitting o_found o_seed o_row o_saved) H locs → W p l e (rmD 3) s m args below meth c H locs 0 0 Q (F0 m 29 ls [])) ?_ _ _ hf_ _ _ _ (lv_sub hl [2, 4, 5, 1, 0] rfl) hW
      intro s4 x6 hf hI5 hR5 ls H locs hl hW
      refine lv_iload S.1 S.2.1 dX12_court_29 (lv_at hl 4 rfl) ?_
      refine lv_iconst (v := 1) S.1 S.2.1 dX12_court_31 ic_1 ?_
      refine lv_aload_n S.1 S.2.1 dX12_court_32 rfl (lv_at hl 0 rfl) ?_
      refine gfX12_230 S hK hW.1 0 rfl rfl dX12_court_33 ?_
      refine lv_ishl S.1 S.2.1 dX12_court_36 ?_
      refine lv_icmp_ge (tgt := 81) S.1 S.2.1 dX12_court_37 (by decide) (fun c_ => ?_) (fun c_ => ?_)
      · have hf := it_p c_ hf
        have e_ := hR5 _ (Option.some.inj hf).symm
        exact hE5 _ e_ _ _ _ (lv_sub hl [0, 1, 2, 3] rfl) hW
      · have hf := it_n c_ hf
        refine lv_aload_n S.1 S.2.1 dX12_court_40 rfl (lv_at hl 0 rfl) ?_
        refine lv_iload_n S.1 S.2.1 dX12_court_41 rfl (lv_at hl 1 rfl) ?_
        refine lv_iload S.1 S.2.1 dX12_court_42 (lv_at hl 4 rfl) ?_
        obtain ⟨x7, hx7, hf⟩ := bnd_e hf
        refine Rd.cV (c_X12_owesThem hx7) S hK hW.1 0 10 rfl rfl kVX12_323 rfl hl.1 [] rfl (Nat.le_of_ble_eq_true rfl) ⟨(Nat.le_of_ble_eq_true rfl), (Nat.le_of_ble_eq_true rfl)⟩ ⟨(Nat.zero_le _), (Nat.zero_le _)⟩ dX12_court_44 ?_
        refine lv_aload_n S.1 S.2.1 dX12_court_47 rfl (lv_at hl 0 rfl) ?_
        refine lv_iload_n S.1 S.2.1 dX12_court_48 rfl (lv_at hl 1 rfl) ?_
        refine lv_iload S.1 S.2.1 dX12_court_49 (lv_at hl 3 rfl) ?_
        obtain ⟨x8, hx8, hf⟩ := bnd_e hf
        refine Rd.cV (c_X12_owesThem hx8) S hK hW.1 0 10 rfl rfl kVX12_323 rfl hl.1 [.int x7] rfl (Nat.le_of_ble_eq_true rfl) ⟨(Nat.le_of_ble_eq_true rfl), (Nat.le_of_ble_eq_true rfl)⟩ ⟨(Nat.zero_le _), (Nat.zero_le _)⟩ dX12_court_51 ?_
        refine lv_icmp_le (tgt := 71) S.1 S.2.1 dX12_court_54 (by decide) (fun c_ => ?_) (fun c_ => ?_)
        · have hf := it_p c_ hf
          refine lv_iload S.1 S.2.1 dX12_court_71 (lv_at hl 3 rfl) ?_
          refine lv_istore (lv' := [(4, .int s4.1), (0, .ref o_q0), (2, .int p2), (3, .int p3), (5, .int s4.2)]) S.1 S.2.1 dX12_court_73 hl (by decide) rfl (fun ls hl => ?_)
          refine q_iinc (w := 1) (lv' := [(5, .int (s4.2 + 1)), (4, .int s4.1), (0, .ref o_q0), (2, .int p2), (3, .int p3)]) S dX12_court_75 hl (k := 4) rfl ic_1 (by decide) rfl (fun ls hl => ?_)
          refine lv_goto (tgt := 29) S.1 S.2.1 dX12_court_78 (by decide) ?_
          exact hI5 _ (Option.some.inj hf).symm _ _ _ (lv_sub hl [2, 3, 4, 1, 0] rfl) hW
        · have hf := it_n c_ hf
          refine lv_aload_n S.1 S.2.1 dX12_court_57 rfl (lv_at hl 0 rfl) ?_
          refine lv_iload S.1 S.2.1 dX12_court_58 (lv_at hl 4 rfl) ?_
          obtain ⟨x9, hx9, hf⟩ := bnd_e hf
          refine Rd.cV (c_X12_allHate hx9) S hK hW.1 0 10 rfl rfl kVX12_326 rfl hl.1 [] rfl (Nat.le_of_ble_eq_true rfl) ⟨(Nat.le_of_ble_eq_true rfl), (Nat.le_of_ble_eq_true rfl)⟩ ⟨(Nat.zero_le _), (Nat.zero_le _)⟩ dX12_court_60 ?_
          refine lv_if_eq (tgt := 71) S.1 S.2.1 dX12_court_63 (by decide) (fun c_ => ?_) (fun c_ => ?_)
          · have hf := it_p c_ hf
            refine lv_iload S.1 S.2.1 dX12_court_71 (lv_at hl 3 rfl) ?_
            refine lv_istore (lv' := [(4, .int s4.1), (0, .ref o_q0), (2, .int p2), (3, .int p3), (5, .int s4.2)]) S.1 S.2.1 dX12_court_73 hl (by decide) rfl (fun ls hl => ?_)
            refine q_iinc (w := 1) (lv' := [(5, .int (s4.2 + 1)), (4, .int s4.1), (0, .ref o_q0), (2, .int p2), (3, .int p3)]) S dX12_court_75 hl (k := 4) rfl ic_1 (by decide) rfl (fun ls hl => ?_)
            refine lv_goto (tgt := 29) S.1 S.2.1 dX12_court_78 (by decide) ?_
            exact hI5 _ (Option.some.inj hf).symm _ _ _ (lv_sub hl [2, 3, 4, 1, 0] rfl) hW
          · have hf := it_n c_ hf
            refine lv_iload S.1 S.2.1 dX12_court_66 (lv_at hl 4 rfl) ?_
            refine lv_goto (tgt := 73) S.1 S.2.1 dX12_court_68 (by decide) ?_
            refine lv_istore (lv' := [(4, .int s4.2), (0, .ref o_q0), (2, .int p2), (3, .int p3), (5, .int s4.2)]) S.1 S.2.1 dX12_court_73 hl (by decide) rfl (fun ls hl => ?_)
            refine q_iinc (w := 1) (lv' := [(5, .int (s4.2 + 1)), (4, .int s4.2), (0, .ref o_q0), (2, .int p2), (3, .int p3)]) S dX12_court_75 hl (k := 4) rfl ic_1 (by decide) rfl (fun ls hl => ?_)
            refine lv_goto (tgt := 29) S.1 S.2.1 dX12_court_78 (by decide) ?_
            exact hI5 _ (Option.some.inj hf).symm _ _ _ (lv_sub hl [2, 3, 4, 1, 0] rfl) hW
    · have hf := it_p c_ hf
      refine lv_iconst (v := (-1)) S.1 S.2.1 dX12_court_21 ic_m1 ?_
      have e_ := Option.some.inj hf
      subst e_
      exact hret _ _ _ _ dX12_court_22 hW
def f_X12_rota_L21 (fu : Nat) (x1 : Int32 × Int32 × Int32 × Int32 × Int32 × Int32 × Int32 × Int32 × Int32 × Int32 × (Nat → Int32) × (Nat → Int32) × (Nat → Int32) × (Nat → Int32) × (Nat → Int32)) (s3 : Int32 × Int32) : Option ((Int32 × Int32) ⊕ (Int32)) := if x1.2.2.1 ≤ s3.2 then some (.inr s3.1) else if s3.1 = (-1 : Int32) then some (.inl (s3.2, (s3.2 + 1))) else bnd (α := Int32) (f_X12_owedAll fu x1.2.2.1 x1.2.2.2.2.2.2.2.2.2.2.2.2.1 s3.2) (fun x6 => bnd (α := Int32) (f_X12_owedAll fu x1.2.2.1 x1.2.2.2.2.2.2.2.2.2.2.2.2.1 s3.1) (fun x7 => if x6 ≤ x7 then some (.inl (s3.1, (s3.2 + 1))) else some (.inl (s3.2, (s3.2 + 1)))))
def f_X12_rota (fu : Nat) (o_code : Int32) (o_many : (Nat → Int32)) (o_towns : (Nat → Int32)) (o_town : Int32) (o_people : Int32) (o_when : Int32) (o_sat : Int32) (o_quiet : Int32) (o_vain : Int32) (o_lent : Int32) (o_forgiven : Int32) (o_sundays : Int32) (o_purse : (Nat → Int32)) (o_beside : (Nat → Int32)) (o_debts : (Nat → Int32)) (o_sitting : (Nat → Int32)) (o_visited : (Nat → Int32)) (p1 : Int32) (p2 : Int32) : Option (Int32 × Int32 × Int32 × Int32 × Int32 × Int32 × Int32 × Int32 × Int32 × Int32 × Int32 × (Nat → Int32) × (Nat → Int32) × (Nat → Int32) × (Nat → Int32) × (Nat → Int32)) := bnd (α := Int32 × Int32 × Int32 × Int32 × Int32 × Int32 × Int32 × Int32 × Int32 × Int32 × (Nat → Int32) × (Nat → Int32) × (Nat → Int32) × (Nat → Int32) × (Nat → Int32)) (f_X12_hand fu o_many o_towns o_town o_people o_when o_sat o_quiet o_vain o_lent o_forgiven o_sundays o_purse o_beside o_debts o_sitting o_visited p1) (fun x1 => if x1.1 = 0 then some ((-2 : Int32), (0 : Int32), x1.2.1, x1.2.2.1, x1.2.2.2.1, x1.2.2.2.2.1, x1.2.2.2.2.2.1, x1.2.2.2.2.2.2.1, x1.2.2.2.2.2.2.2.1, x1.2.2.2.2.2.2.2.2.1, x1.2.2.2.2.2.2.2.2.2.1, x1.2.2.2.2.2.2.2.2.2.2.1, x1.2.2.2.2.2.2.2.2.2.2.2.1, x1.2.2.2.2.2.2.2.2.2.2.2.2.1, x1.2.2.2.2.2.2.2.2.2.2.2.2.2.1, x1.2.2.2.2.2.2.2.2.2.2.2.2.2.2) else bnd (α := Int32) (lp (f_X12_rota_L21 fu x1) fu ((-1 : Int32), (0 : Int32))) (fun v8 => if p2 = 0 then if v8 = (-1 : Int32) then some ((0 : Int32), (0 : Int32), x1.2.1, x1.2.2.1, x1.2.2.2.1, x1.2.2.2.2.1, x1.2.2.2.2.2.1, x1.2.2.2.2.2.2.1, x1.2.2.2.2.2.2.2.1, x1.2.2.2.2.2.2.2.2.1, x1.2.2.2.2.2.2.2.2.2.1, x1.2.2.2.2.2.2.2.2.2.2.1, x1.2.2.2.2.2.2.2.2.2.2.2.1, x1.2.2.2.2.2.2.2.2.2.2.2.2.1, x1.2.2.2.2.2.2.2.2.2.2.2.2.2.1, x1.2.2.2.2.2.2.2.2.2.2.2.2.2.2) else bnd (α := Int32) (f_X12_owedAll fu x1.2.2.1 x1.2.2.2.2.2.2.2.2.2.2.2.2.1 v8) (fun x9 => some (x9, (0 : Int32), x1.2.1, x1.2.2.1, x1.2.2.2.1, x1.2.2.2.2.1, x1.2.2.2.2.2.1, x1.2.2.2.2.2.2.1, x1.2.2.2.2.2.2.2.1, x1.2.2.2.2.2.2.2.2.1, x1.2.2.2.2.2.2.2.2.2.1, x1.2.2.2.2.2.2.2.2.2.2.1, x1.2.2.2.2.2.2.2.2.2.2.2.1, x1.2.2.2.2.2.2.2.2.2.2.2.2.1, x1.2.2.2.2.2.2.2.2.2.2.2.2.2.1, x1.2.2.2.2.2.2.2.2.2.2.2.2.2.2)) else some (v8, (0 : Int32), x1.2.1, x1.2.2.1, x1.2.2.2.1, x1.2.2.2.2.1, x1.2.2.2.2.2.1, x1.2.2.2.2.2.2.1, x1.2.2.2.2.2.2.2.1, x1.2.2.2.2.2.2.2.2.1, x1.2.2.2.2.2.2.2.2.2.1, x1.2.2.2.2.2.2.2.2.2.2.1, x1.2.2.2.2.2.2.2.2.2.2.2.1, x1.2.2.2.2.2.2.2.2.2.2.2.2.1, x1.2.2.2.2.2.2.2.2.2.2.2.2.2.1, x1.2.2.2.2.2.2.2.2.2.2.2.2.2.2)))
set_option maxHeartbeats 4000000 in
set_option maxRecDepth 100000 in
theorem c_X12_rota {l : Launch} {D : va_G} {g : Nat → ClassId} {fu : Nat} {o_q0 o_q1 o_q2 o_q3 o_q4 o_q5 o_q6 o_q7 o_q8 o_q9 o_q10 o_q11 o_q12 o_q13 o_q14 o_q15 o_q16 o_q17 o_q18 o_q19 o_q20 o_q21 o_q22 : Nat} {o_code : Int32} {o_tape : (Nat → Int32)} {o_size : (Nat → Int32)} {o_fault : (Nat → Int32)} {o_faultPlace : (Nat → Int32)} {o_many : (Nat → Int32)} {o_towns : (Nat → Int32)} {o_weeks : (Nat → Int32)} {o_logs : (Nat → Int32)} {o_reached : Int32} {o_length : Int32} {o_begins : Int32} {o_sort : Int32} {o_value : Int32} {o_word : Int64} {o_wrongAt : Int32} {o_laterFault : Int32} {o_laterPlace : Int32} {o_told : (Nat → Int32)} {o_read : (Nat → Int32)} {o_farOne : Int32} {o_good : Int32} {o_town : Int32} {o_people : Int32} {o_when : Int32} {o_sat : Int32} {o_quiet : Int32} {o_vain : Int32} {o_lent : Int32} {o_forgiven : Int32} {o_sundays : Int32} {o_purse : (Nat → Int32)} {o_beside : (Nat → Int32)} {o_debts : (Nat → Int32)} {o_sitting : (Nat → Int32)} {o_visited : (Nat → Int32)} {o_week : Int32} {o_heaps : (Nat → Int32)} {o_taken : (Nat → Int32)} {o_best : (Nat → Int32)} {o_more : (Nat → Int32)} {o_firstOne : Int32} {o_log : Int32} {o_fitting : (Nat → Int32)} {o_found : Int32} {o_seed : Int32} {o_row : (Nat → Int32)} {o_saved : (Nat → Int32)} {p1 : Int32} {p2 : Int32} {r : Int32 × Int32 × Int32 × Int32 × Int32 × Int32 × Int32 × Int32 × Int32 × Int32 × Int32 × (Nat → Int32) × (Nat → Int32) × (Nat → Int32) × (Nat → Int32) × (Nat → Int32)} (hf : f_X12_rota fu o_code o_many o_towns o_town o_people o_when o_sat o_quiet o_vain o_lent o_forgiven o_sundays o_purse o_beside o_debts o_sitting o_visited p1 p2 = some r) : Wr l D (gy g) yX12_rota cX12_rota 5 (some .int) 3 [.ref o_q0, .int p1, .int p2] (wMd g o_q0 o_q1 o_q2 o_q3 o_q4 o_q5 o_q6 o_q7 o_q8 o_q9 o_q10 o_q11 o_q12 o_q13 o_q14 o_q15 o_q16 o_q17 o_q18 o_q19 o_q20 o_q21 o_q22 o_code o_tape o_size o_fault o_faultPlace o_many o_towns o_weeks o_logs o_reached o_length o_begins o_sort o_value o_word o_wrongAt o_laterFault o_laterPlace o_told o_read o_farOne o_good o_town o_people o_when o_sat o_quiet o_vain o_lent o_forgiven o_sundays o_purse o_beside o_debts o_sitting o_visited o_week o_heaps o_taken o_best o_more o_firstOne o_log o_fitting o_found o_seed o_row o_saved) (wMd g o_q0 o_q1 o_q2 o_q3 o_q4 o_q5 o_q6 o_q7 o_q8 o_q9 o_q10 o_q11 o_q12 o_q13 o_q14 o_q15 o_q16 o_q17 o_q18 o_q19 o_q20 o_q21 o_q22 r.2.1 o_tape o_size o_fault o_faultPlace o_many o_towns o_weeks o_logs o_reached o_length o_begins o_sort o_value o_word o_wrongAt o_laterFault o_laterPlace o_told o_read o_farOne o_good r.2.2.1 r.2.2.2.1 r.2.2.2.2.1 r.2.2.2.2.2.1 r.2.2.2.2.2.2.1 r.2.2.2.2.2.2.2.1 r.2.2.2.2.2.2.2.2.1 r.2.2.2.2.2.2.2.2.2.1 r.2.2.2.2.2.2.2.2.2.2.1 r.2.2.2.2.2.2.2.2.2.2.2.1 r.2.2.2.2.2.2.2.2.2.2.2.2.1 r.2.2.2.2.2.2.2.2.2.2.2.2.2.1 r.2.2.2.2.2.2.2.2.2.2.2.2.2.2.1 r.2.2.2.2.2.2.2.2.2.2.2.2.2.2.2 o_week o_heaps o_taken o_best o_more o_firstOne o_log o_fitting o_found o_seed o_row o_saved) (some (.int r.1)) := by
  refine Wr.ofI (by decide) (Nat.le_of_ble_eq_true rfl) ?_
  intro p e s m args below meth c Q A S hK hA hret ls hl hW
  have hl : lv_has ls 5 [(0, .ref o_q0), (1, .int p1), (2, .int p2)] := hl
  refine lv_aload_n S.1 S.2.1 dX12_rota_0 rfl (lv_at hl 0 rfl) ?_
  refine lv_iconst (v := 0) S.1 S.2.1 dX12_rota_1 ic_0 ?_
  refine pfX12_78 (ws2 := (wMd g o_q0 o_q1 o_q2 o_q3 o_q4 o_q5 o_q6 o_q7 o_q8 o_q9 o_q10 o_q11 o_q12 o_q13 o_q14 o_q15 o_q16 o_q17 o_q18 o_q19 o_q20 o_q21 o_q22 (0 : Int32) o_tape o_size o_fault o_faultPlace o_many o_towns o_weeks o_logs o_reached o_length o_begins o_sort o_value o_word o_wrongAt o_laterFault o_laterPlace o_told o_read o_farOne o_good o_town o_people o_when o_sat o_quiet o_vain o_lent o_forgiven o_sundays o_purse o_beside o_debts o_sitting o_visited o_week o_heaps o_taken o_best o_more o_firstOne o_log o_fitting o_found o_seed o_row o_saved)) S hK hW 0 rfl rfl rfl (Nat.le_of_ble_eq_true rfl) rfl dX12_rota_2 (fun H locs hW => ?_)
  refine lv_aload_n S.1 S.2.1 dX12_rota_5 rfl (lv_at hl 0 rfl) ?_
  refine lv_iload_n S.1 S.2.1 dX12_rota_6 rfl (lv_at hl 1 rfl) ?_
  obtain ⟨x1, hx1, hf⟩ := bnd_e hf
  refine Wr.goW (Wr.runV (c_X12_hand hx1) S hK hW.1 hW.2.1 0 10 rfl rfl kVX12_257 rfl hl.1 [] rfl (Nat.le_of_ble_eq_true rfl) ⟨(Nat.le_of_ble_eq_true rfl), (Nat.le_of_ble_eq_true rfl)⟩ ⟨(Nat.zero_le _), (Nat.zero_le _)⟩ dX12_rota_7) hW hA (fun H locs hW => ?_)
  refine lv_if_ne (tgt := 16) S.1 S.2.1 dX12_rota_10 (by decide) (fun c_ => ?_) (fun c_ => ?_)
  · have hf := it_n c_ hf
    refine lv_iconst (v := (-1)) S.1 S.2.1 dX12_rota_16 ic_m1 ?_
    refine lv_istore_n (lv' := [(3, .int (-1 : Int32)), (0, .ref o_q0), (1, .int p1), (2, .int p2)]) S.1 S.2.1 dX12_rota_17 rfl hl (by decide) rfl (fun ls hl => ?_)
    refine lv_iconst (v := 0) S.1 S.2.1 dX12_rota_18 ic_0 ?_
    refine lv_istore (lv' := [(4, .int (0 : Int32)), (3, .int (-1 : Int32)), (0, .ref o_q0), (1, .int p1), (2, .int p2)]) S.1 S.2.1 dX12_rota_19 hl (by decide) rfl (fun ls hl => ?_)
    obtain ⟨x4, hf_, hk4⟩ := bnd_e hf
    have hE4 : ∀ (v8 : Int32), v8 = x4 → ∀ (ls : Array Slot) (H : Heap) (locs : List Loc), lv_has ls 5 [(0, .ref o_q0), (2, .int p2), (3, .int v8)] → St A s.heap D (wMd g o_q0 o_q1 o_q2 o_q3 o_q4 o_q5 o_q6 o_q7 o_q8 o_q9 o_q10 o_q11 o_q12 o_q13 o_q14 o_q15 o_q16 o_q17 o_q18 o_q19 o_q20 o_q21 o_q22 (0 : Int32) o_tape o_size o_fault o_faultPlace o_many o_towns o_weeks o_logs o_reached o_length o_begins o_sort o_value o_word o_wrongAt o_laterFault o_laterPlace o_told o_read o_farOne o_good x1.2.1 x1.2.2.1 x1.2.2.2.1 x1.2.2.2.2.1 x1.2.2.2.2.2.1 x1.2.2.2.2.2.2.1 x1.2.2.2.2.2.2.2.1 x1.2.2.2.2.2.2.2.2.1 x1.2.2.2.2.2.2.2.2.2.1 x1.2.2.2.2.2.2.2.2.2.2.1 x1.2.2.2.2.2.2.2.2.2.2.2.1 x1.2.2.2.2.2.2.2.2.2.2.2.2.1 x1.2.2.2.2.2.2.2.2.2.2.2.2.2.1 x1.2.2.2.2.2.2.2.2.2.2.2.2.2.2 o_week o_heaps o_taken o_best o_more o_firstOne o_log o_fitting o_found o_seed o_row o_saved) H locs → W p l e (rmD 3) s m args below meth c H locs 0 0 Q (F0 m 62 ls []) := by
      intro v8 e_ ls H locs hl hW
      subst e_
      have hf := hk4
      refine lv_iload_n S.1 S.2.1 dX12_rota_62 rfl (lv_at hl 1 rfl) ?_
      refine lv_if_eq (tgt := 70) S.1 S.2.1 dX12_rota_63 (by decide) (fun c_ => ?_) (fun c_ => ?_)
      · have hf := it_p c_ hf
        refine lv_iload_n S.1 S.2.1 dX12_rota_70 rfl (lv_at hl 2 rfl) ?_
        refine lv_iconst (v := (-1)) S.1 S.2.1 dX12_rota_71 ic_m1 ?_
        refine lv_icmp_ne (tgt := 79) S.1 S.2.1 dX12_rota_72 (by decide) (fun c_ => ?_) (fun c_ => ?_)
        · have hf := it_n c_ hf
          refine lv_aload_n S.1 S.2.1 dX12_rota_79 rfl (lv_at hl 0 rfl) ?_
          refine lv_iload_n S.1 S.2.1 dX12_rota_80 rfl (lv_at hl 2 rfl) ?_
          obtain ⟨x9, hx9, hf⟩ := bnd_e hf
          refine Rd.cV (c_X12_owedAll hx9) S hK hW.1 0 10 rfl rfl kVX12_329 rfl hl.1 [] rfl (Nat.le_of_ble_eq_true rfl) ⟨(Nat.le_of_ble_eq_true rfl), (Nat.le_of_ble_eq_true rfl)⟩ ⟨(Nat.zero_le _), (Nat.zero_le _)⟩ dX12_rota_81 ?_
          have e_ := Option.some.inj hf
          subst e_
          exact hret _ _ _ _ dX12_rota_84 hW
        · have hf := it_p c_ hf
          refine lv_iconst (v := 0) S.1 S.2.1 dX12_rota_75 ic_0 ?_
          refine lv_goto (tgt := 84) S.1 S.2.1 dX12_rota_76 (by decide) ?_
          have e_ := Option.some.inj hf
          subst e_
          exact hret _ _ _ _ dX12_rota_84 hW
      · have hf := it_n c_ hf
        refine lv_iload_n S.1 S.2.1 dX12_rota_66 rfl (lv_at hl 2 rfl) ?_
        refine lv_goto (tgt := 84) S.1 S.2.1 dX12_rota_67 (by decide) ?_
        have e_ := Option.some.inj hf
        subst e_
        exact hret _ _ _ _ dX12_rota_84 hW
    refine lp_ind (P := fun (s3 : Int32 × Int32) => ∀ (ls : Array Slot) (H : Heap) (locs : List Loc), lv_has ls 5 [(0, .ref o_q0), (2, .int p2), (3, .int s3.1), (4, .int s3.2)] → St A s.heap D (wMd g o_q0 o_q1 o_q2 o_q3 o_q4 o_q5 o_q6 o_q7 o_q8 o_q9 o_q10 o_q11 o_q12 o_q13 o_q14 o_q15 o_q16 o_q17 o_q18 o_q19 o_q20 o_q21 o_q22 (0 : Int32) o_tape o_size o_fault o_faultPlace o_many o_towns o_weeks o_logs o_reached o_length o_begins o_sort o_value o_word o_wrongAt o_laterFault o_laterPlace o_told o_read o_farOne o_good x1.2.1 x1.2.2.1 x1.2.2.2.1 x1.2.2.2.2.1 x1.2.2.2.2.2.1 x1.2.2.2.2.2.2.1 x1.2.2.2.2.2.2.2.1 x1.2.2.2.2.2.2.2.2.1 x1.2.2.2.2.2.2.2.2.2.1 x1.2.2.2.2.2.2.2.2.2.2.1 x1.2.2.2.2.2.2.2.2.2.2.2.1 x1.2.2.2.2.2.2.2.2.2.2.2.2.1 x1.2.2.2.2.2.2.2.2.2.2.2.2.2.1 x1.2.2.2.2.2.2.2.2.2.2.2.2.2.2 o_week o_heaps o_taken o_best o_more o_firstOne o_log o_fitting o_found o_seed o_row o_saved) H locs → W p l e (rmD 3) s m args below meth c H locs 0 0 Q (F0 m 21 ls [])) ?_ _ _ hf_ _ _ _ (lv_sub hl [2, 4, 1, 0] rfl) hW
    intro s3 x5 hf hI4 hR4 ls H locs hl hW
    refine lv_iload S.1 S.2.1 dX12_rota_21 (lv_at hl 3 rfl) ?_
    refine lv_aload_n S.1 S.2.1 dX12_rota_23 rfl (lv_at hl 0 rfl) ?_
    refine gfX12_230 S hK hW.1 0 rfl rfl dX12_rota_24 ?_
    refine lv_icmp_ge (tgt := 62) S.1 S.2.1 dX12_rota_27 (by decide) (fun c_ => ?_) (fun c_ => ?_)
    · have hf := it_p c_ hf
      have e_ := hR4 _ (Option.some.inj hf).symm
      exact hE4 _ e_ _ _ _ (lv_sub hl [0, 1, 2] rfl) hW
    · have hf := it_n c_ hf
      refine lv_iload_n S.1 S.2.1 dX12_rota_30 rfl (lv_at hl 2 rfl) ?_
      refine lv_iconst (v := (-1)) S.1 S.2.1 dX12_rota_31 ic_m1 ?_
      refine lv_icmp_eq (tgt := 49) S.1 S.2.1 dX12_rota_32 (by decide) (fun c_ => ?_) (fun c_ => ?_)
      · have hf := it_p c_ hf
        refine lv_iload S.1 S.2.1 dX12_rota_49 (lv_at hl 3 rfl) ?_
        refine lv_goto (tgt := 55) S.1 S.2.1 dX12_rota_51 (by decide) ?_
        refine lv_istore_n (lv' := [(3, .int s3.2), (0, .ref o_q0), (2, .int p2), (4, .int s3.2)]) S.1 S.2.1 dX12_rota_55 rfl hl (by decide) rfl (fun ls hl => ?_)
        refine q_iinc (w := 1) (lv' := [(4, .int (s3.2 + 1)), (3, .int s3.2), (0, .ref o_q0), (2, .int p2)]) S dX12_rota_56 hl (k := 3) rfl ic_1 (by decide) rfl (fun ls hl => ?_)
        refine lv_goto (tgt := 21) S.1 S.2.1 dX12_rota_59 (by decide) ?_
        exact hI4 _ (Option.some.inj hf).symm _ _ _ (lv_sub hl [2, 3, 1, 0] rfl) hW
      · have hf := it_n c_ hf
        refine lv_aload_n S.1 S.2.1 dX12_rota_35 rfl (lv_at hl 0 rfl) ?_
        refine lv_iload S.1 S.2.1 dX12_rota_36 (lv_at hl 3 rfl) ?_
        obtain ⟨x6, hx6, hf⟩ := bnd_e hf
        refine Rd.cV (c_X12_owedAll hx6) S hK hW.1 0 10 rfl rfl kVX12_329 rfl hl.1 [] rfl (Nat.le_of_ble_eq_true rfl) ⟨(Nat.le_of_ble_eq_true rfl), (Nat.le_of_ble_eq_true rfl)⟩ ⟨(Nat.zero_le _), (Nat.zero_le _)⟩ dX12_rota_38 ?_
        refine lv_aload_n S.1 S.2.1 dX12_rota_41 rfl (lv_at hl 0 rfl) ?_
        refine lv_iload_n S.1 S.2.1 dX12_rota_42 rfl (lv_at hl 2 rfl) ?_
        obtain ⟨x7, hx7, hf⟩ := bnd_e hf
        refine Rd.cV (c_X12_owedAll hx7) S hK hW.1 0 10 rfl rfl kVX12_329 rfl hl.1 [.int x6] rfl (Nat.le_of_ble_eq_true rfl) ⟨(Nat.le_of_ble_eq_true rfl), (Nat.le_of_ble_eq_true rfl)⟩ ⟨(Nat.zero_le _), (Nat.zero_le _)⟩ dX12_rota_43 ?_
        refine lv_icmp_le (tgt := 54) S.1 S.2.1 dX12_rota_46 (by decide) (fun c_ => ?_) (fun c_ => ?_)
        · have hf := it_p c_ hf
          refine lv_iload_n S.1 S.2.1 dX12_rota_54 rfl (lv_at hl 2 rfl) ?_
          refine lv_istore_n (lv' := [(3, .int s3.1), (0, .ref o_q0), (2, .int p2), (4, .int s3.2)]) S.1 S.2.1 dX12_rota_55 rfl hl (by decide) rfl (fun ls hl => ?_)
          refine q_iinc (w := 1) (lv' := [(4, .int (s3.2 + 1)), (3, .int s3.1), (0, .ref o_q0), (2, .int p2)]) S dX12_rota_56 hl (k := 3) rfl ic_1 (by decide) rfl (fun ls hl => ?_)
          refine lv_goto (tgt := 21) S.1 S.2.1 dX12_rota_59 (by decide) ?_
          exact hI4 _ (Option.some.inj hf).symm _ _ _ (lv_sub hl [2, 3, 1, 0] rfl) hW
        · have hf := it_n c_ hf
          refine lv_iload S.1 S.2.1 dX12_rota_49 (lv_at hl 3 rfl) ?_
          refine lv_goto (tgt := 55) S.1 S.2.1 dX12_rota_51 (by decide) ?_
          refine lv_istore_n (lv' := [(3, .int s3.2), (0, .ref o_q0), (2, .int p2), (4, .int s3.2)]) S.1 S.2.1 dX12_rota_55 rfl hl (by decide) rfl (fun ls hl => ?_)
          refine q_iinc (w := 1) (lv' := [(4, .int (s3.2 + 1)), (3, .int s3.2), (0, .ref o_q0), (2, .int p2)]) S dX12_rota_56 hl (k := 3) rfl ic_1 (by decide) rfl (fun ls hl => ?_)
          refine lv_goto (tgt := 21) S.1 S.2.1 dX12_rota_59 (by decide) ?_
          exact hI4 _ (Option.some.inj hf).symm _ _ _ (lv_sub hl [2, 3, 1, 0] rfl) hW
  · have hf := it_p c_ hf
    refine lv_bipush (v := (-2)) S.1 S.2.1 dX12_rota_13 bp_m2 ?_
    have e_ := Option.some.inj hf
    subst e_
    exact hret _ _ _ _ dX12_rota_15 hW
def f_X12_netOf (fu : Nat) (o_people : Int32) (o_debts : (Nat → Int32)) (p1 : Int32) : Option (Int32) := bnd (α := Int32) (f_X12_owedAll fu o_people o_debts p1) (fun x1 => bnd (α := Int32) (f_X12_owesAll fu o_people o_debts p1) (fun x2 => some (x1 - x2)))
set_option maxHeartbeats 4000000 in
set_option maxRecDepth 100000 in
theorem c_X12_netOf {l : Launch} {D : va_G} {g : Nat → ClassId} {fu : Nat} {o_q0 o_q1 o_q2 o_q3 o_q4 o_q5 o_q6 o_q7 o_q8 o_q9 o_q10 o_q11 o_q12 o_q13 o_q14 o_q15 o_q16 o_q17 o_q18 o_q19 o_q20 o_q21 o_q22 : Nat} {o_code : Int32} {o_tape : (Nat → Int32)} {o_size : (Nat → Int32)} {o_fault : (Nat → Int32)} {o_faultPlace : (Nat → Int32)} {o_many : (Nat → Int32)} {o_towns : (Nat → Int32)} {o_weeks : (Nat → Int32)} {o_logs : (Nat → Int32)} {o_reached : Int32} {o_length : Int32} {o_begins : Int32} {o_sort : Int32} {o_value : Int32} {o_word : Int64} {o_wrongAt : Int32} {o_laterFault : Int32} {o_laterPlace : Int32} {o_told : (Nat → Int32)} {o_read : (Nat → Int32)} {o_farOne : Int32} {o_good : Int32} {o_town : Int32} {o_people : Int32} {o_when : Int32} {o_sat : Int32} {o_quiet : Int32} {o_vain : Int32} {o_lent : Int32} {o_forgiven : Int32} {o_sundays : Int32} {o_purse : (Nat → Int32)} {o_beside : (Nat → Int32)} {o_debts : (Nat → Int32)} {o_sitting : (Nat → Int32)} {o_visited : (Nat → Int32)} {o_week : Int32} {o_heaps : (Nat → Int32)} {o_taken : (Nat → Int32)} {o_best : (Nat → Int32)} {o_more : (Nat → Int32)} {o_firstOne : Int32} {o_log : Int32} {o_fitting : (Nat → Int32)} {o_found : Int32} {o_seed : Int32} {o_row : (Nat → Int32)} {o_saved : (Nat → Int32)} {p1 : Int32} {r : Int32} (hf : f_X12_netOf fu o_people o_debts p1 = some r) : Rd l D (gy g) yX12_netOf cX12_netOf 2 (some .int) 2 [.ref o_q0, .int p1] (wMd g o_q0 o_q1 o_q2 o_q3 o_q4 o_q5 o_q6 o_q7 o_q8 o_q9 o_q10 o_q11 o_q12 o_q13 o_q14 o_q15 o_q16 o_q17 o_q18 o_q19 o_q20 o_q21 o_q22 o_code o_tape o_size o_fault o_faultPlace o_many o_towns o_weeks o_logs o_reached o_length o_begins o_sort o_value o_word o_wrongAt o_laterFault o_laterPlace o_told o_read o_farOne o_good o_town o_people o_when o_sat o_quiet o_vain o_lent o_forgiven o_sundays o_purse o_beside o_debts o_sitting o_visited o_week o_heaps o_taken o_best o_more o_firstOne o_log o_fitting o_found o_seed o_row o_saved) (some (.int r)) := by
  refine Rd.ofI (by decide) (Nat.le_of_ble_eq_true rfl) ?_
  intro p e s m args below meth c Q S hK hP hret ls hl
  have hl : lv_has ls 2 [(0, .ref o_q0), (1, .int p1)] := hl
  refine lv_aload_n S.1 S.2.1 dX12_netOf_0 rfl (lv_at hl 0 rfl) ?_
  refine lv_iload_n S.1 S.2.1 dX12_netOf_1 rfl (lv_at hl 1 rfl) ?_
  obtain ⟨x1, hx1, hf⟩ := bnd_e hf
  refine Rd.cV (c_X12_owedAll hx1) S hK hP 0 10 rfl rfl kVX12_329 rfl hl.1 [] rfl (Nat.le_of_ble_eq_true rfl) ⟨(Nat.le_of_ble_eq_true rfl), (Nat.le_of_ble_eq_true rfl)⟩ ⟨(Nat.zero_le _), (Nat.zero_le _)⟩ dX12_netOf_2 ?_
  refine lv_aload_n S.1 S.2.1 dX12_netOf_5 rfl (lv_at hl 0 rfl) ?_
  refine lv_iload_n S.1 S.2.1 dX12_netOf_6 rfl (lv_at hl 1 rfl) ?_
  obtain ⟨x2, hx2, hf⟩ := bnd_e hf
  refine Rd.cV (c_X12_owesAll hx2) S hK hP 0 10 rfl rfl kVX12_311 rfl hl.1 [.int x1] rfl (Nat.le_of_ble_eq_true rfl) ⟨(Nat.le_of_ble_eq_true rfl), (Nat.le_of_ble_eq_true rfl)⟩ ⟨(Nat.zero_le _), (Nat.zero_le _)⟩ dX12_netOf_7 ?_
  refine lv_isub S.1 S.2.1 dX12_netOf_10 ?_
  have e_ := Option.some.inj hf
  subst e_
  exact hret _ _ dX12_netOf_11
def f_X12_net (fu : Nat) (o_code : Int32) (o_many : (Nat → Int32)) (o_towns : (Nat → Int32)) (o_town : Int32) (o_people : Int32) (o_when : Int32) (o_sat : Int32) (o_quiet : Int32) (o_vain : Int32) (o_lent : Int32) (o_forgiven : Int32) (o_sundays : Int32) (o_purse : (Nat → Int32)) (o_beside : (Nat → Int32)) (o_debts : (Nat → Int32)) (o_sitting : (Nat → Int32)) (o_visited : (Nat → Int32)) (p1 : Int32) (p2 : Int32) : Option (Int32 × Int32 × Int32 × Int32 × Int32 × Int32 × Int32 × Int32 × Int32 × Int32 × Int32 × (Nat → Int32) × (Nat → Int32) × (Nat → Int32) × (Nat → Int32) × (Nat → Int32)) := bnd (α := Int32 × Int32 × Int32 × Int32 × Int32 × Int32 × Int32 × Int32 × Int32 × Int32 × (Nat → Int32) × (Nat → Int32) × (Nat → Int32) × (Nat → Int32) × (Nat → Int32)) (f_X12_hand fu o_many o_towns o_town o_people o_when o_sat o_quiet o_vain o_lent o_forgiven o_sundays o_purse o_beside o_debts o_sitting o_visited p1) (fun x1 => if x1.1 = 0 then some ((-999 : Int32), (0 : Int32), x1.2.1, x1.2.2.1, x1.2.2.2.1, x1.2.2.2.2.1, x1.2.2.2.2.2.1, x1.2.2.2.2.2.2.1, x1.2.2.2.2.2.2.2.1, x1.2.2.2.2.2.2.2.2.1, x1.2.2.2.2.2.2.2.2.2.1, x1.2.2.2.2.2.2.2.2.2.2.1, x1.2.2.2.2.2.2.2.2.2.2.2.1, x1.2.2.2.2.2.2.2.2.2.2.2.2.1, x1.2.2.2.2.2.2.2.2.2.2.2.2.2.1, x1.2.2.2.2.2.2.2.2.2.2.2.2.2.2) else bnd (α := Int32) (f_X12_isPerson fu x1.2.2.1 p2) (fun x2 => if x2 = 0 then some ((-999 : Int32), (0 : Int32), x1.2.1, x1.2.2.1, x1.2.2.2.1, x1.2.2.2.2.1, x1.2.2.2.2.2.1, x1.2.2.2.2.2.2.1, x1.2.2.2.2.2.2.2.1, x1.2.2.2.2.2.2.2.2.1, x1.2.2.2.2.2.2.2.2.2.1, x1.2.2.2.2.2.2.2.2.2.2.1, x1.2.2.2.2.2.2.2.2.2.2.2.1, x1.2.2.2.2.2.2.2.2.2.2.2.2.1, x1.2.2.2.2.2.2.2.2.2.2.2.2.2.1, x1.2.2.2.2.2.2.2.2.2.2.2.2.2.2) else bnd (α := Int32) (f_X12_netOf fu x1.2.2.1 x1.2.2.2.2.2.2.2.2.2.2.2.2.1 p2) (fun x3 => some (x3, (0 : Int32), x1.2.1, x1.2.2.1, x1.2.2.2.1, x1.2.2.2.2.1, x1.2.2.2.2.2.1, x1.2.2.2.2.2.2.1, x1.2.2.2.2.2.2.2.1, x1.2.2.2.2.2.2.2.2.1, x1.2.2.2.2.2.2.2.2.2.1, x1.2.2.2.2.2.2.2.2.2.2.1, x1.2.2.2.2.2.2.2.2.2.2.2.1, x1.2.2.2.2.2.2.2.2.2.2.2.2.1, x1.2.2.2.2.2.2.2.2.2.2.2.2.2.1, x1.2.2.2.2.2.2.2.2.2.2.2.2.2.2))))
set_option maxHeartbeats 4000000 in
set_option maxRecDepth 100000 in
theorem c_X12_net {l : Launch} {D : va_G} {g : Nat → ClassId} {fu : Nat} {o_q0 o_q1 o_q2 o_q3 o_q4 o_q5 o_q6 o_q7 o_q8 o_q9 o_q10 o_q11 o_q12 o_q13 o_q14 o_q15 o_q16 o_q17 o_q18 o_q19 o_q20 o_q21 o_q22 : Nat} {o_code : Int32} {o_tape : (Nat → Int32)} {o_size : (Nat → Int32)} {o_fault : (Nat → Int32)} {o_faultPlace : (Nat → Int32)} {o_many : (Nat → Int32)} {o_towns : (Nat → Int32)} {o_weeks : (Nat → Int32)} {o_logs : (Nat → Int32)} {o_reached : Int32} {o_length : Int32} {o_begins : Int32} {o_sort : Int32} {o_value : Int32} {o_word : Int64} {o_wrongAt : Int32} {o_laterFault : Int32} {o_laterPlace : Int32} {o_told : (Nat → Int32)} {o_read : (Nat → Int32)} {o_farOne : Int32} {o_good : Int32} {o_town : Int32} {o_people : Int32} {o_when : Int32} {o_sat : Int32} {o_quiet : Int32} {o_vain : Int32} {o_lent : Int32} {o_forgiven : Int32} {o_sundays : Int32} {o_purse : (Nat → Int32)} {o_beside : (Nat → Int32)} {o_debts : (Nat → Int32)} {o_sitting : (Nat → Int32)} {o_visited : (Nat → Int32)} {o_week : Int32} {o_heaps : (Nat → Int32)} {o_taken : (Nat → Int32)} {o_best : (Nat → Int32)} {o_more : (Nat → Int32)} {o_firstOne : Int32} {o_log : Int32} {o_fitting : (Nat → Int32)} {o_found : Int32} {o_seed : Int32} {o_row : (Nat → Int32)} {o_saved : (Nat → Int32)} {p1 : Int32} {p2 : Int32} {r : Int32 × Int32 × Int32 × Int32 × Int32 × Int32 × Int32 × Int32 × Int32 × Int32 × Int32 × (Nat → Int32) × (Nat → Int32) × (Nat → Int32) × (Nat → Int32) × (Nat → Int32)} (hf : f_X12_net fu o_code o_many o_towns o_town o_people o_when o_sat o_quiet o_vain o_lent o_forgiven o_sundays o_purse o_beside o_debts o_sitting o_visited p1 p2 = some r) : Wr l D (gy g) yX12_net cX12_net 3 (some .int) 3 [.ref o_q0, .int p1, .int p2] (wMd g o_q0 o_q1 o_q2 o_q3 o_q4 o_q5 o_q6 o_q7 o_q8 o_q9 o_q10 o_q11 o_q12 o_q13 o_q14 o_q15 o_q16 o_q17 o_q18 o_q19 o_q20 o_q21 o_q22 o_code o_tape o_size o_fault o_faultPlace o_many o_towns o_weeks o_logs o_reached o_length o_begins o_sort o_value o_word o_wrongAt o_laterFault o_laterPlace o_told o_read o_farOne o_good o_town o_people o_when o_sat o_quiet o_vain o_lent o_forgiven o_sundays o_purse o_beside o_debts o_sitting o_visited o_week o_heaps o_taken o_best o_more o_firstOne o_log o_fitting o_found o_seed o_row o_saved) (wMd g o_q0 o_q1 o_q2 o_q3 o_q4 o_q5 o_q6 o_q7 o_q8 o_q9 o_q10 o_q11 o_q12 o_q13 o_q14 o_q15 o_q16 o_q17 o_q18 o_q19 o_q20 o_q21 o_q22 r.2.1 o_tape o_size o_fault o_faultPlace o_many o_towns o_weeks o_logs o_reached o_length o_begins o_sort o_value o_word o_wrongAt o_laterFault o_laterPlace o_told o_read o_farOne o_good r.2.2.1 r.2.2.2.1 r.2.2.2.2.1 r.2.2.2.2.2.1 r.2.2.2.2.2.2.1 r.2.2.2.2.2.2.2.1 r.2.2.2.2.2.2.2.2.1 r.2.2.2.2.2.2.2.2.2.1 r.2.2.2.2.2.2.2.2.2.2.1 r.2.2.2.2.2.2.2.2.2.2.2.1 r.2.2.2.2.2.2.2.2.2.2.2.2.1 r.2.2.2.2.2.2.2.2.2.2.2.2.2.1 r.2.2.2.2.2.2.2.2.2.2.2.2.2.2.1 r.2.2.2.2.2.2.2.2.2.2.2.2.2.2.2 o_week o_heaps o_taken o_best o_more o_firstOne o_log o_fitting o_found o_seed o_row o_saved) (some (.int r.1)) := by
  refine Wr.ofI (by decide) (Nat.le_of_ble_eq_true rfl) ?_
  intro p e s m args below meth c Q A S hK hA hret ls hl hW
  have hl : lv_has ls 3 [(0, .ref o_q0), (1, .int p1), (2, .int p2)] := hl
  refine lv_aload_n S.1 S.2.1 dX12_net_0 rfl (lv_at hl 0 rfl) ?_
  refine lv_iconst (v := 0) S.1 S.2.1 dX12_net_1 ic_0 ?_
  refine pfX12_78 (ws2 := (wMd g o_q0 o_q1 o_q2 o_q3 o_q4 o_q5 o_q6 o_q7 o_q8 o_q9 o_q10 o_q11 o_q12 o_q13 o_q14 o_q15 o_q16 o_q17 o_q18 o_q19 o_q20 o_q21 o_q22 (0 : Int32) o_tape o_size o_fault o_faultPlace o_many o_towns o_weeks o_logs o_reached o_length o_begins o_sort o_value o_word o_wrongAt o_laterFault o_laterPlace o_told o_read o_farOne o_good o_town o_people o_when o_sat o_quiet o_vain o_lent o_forgiven o_sundays o_purse o_beside o_debts o_sitting o_visited o_week o_heaps o_taken o_best o_more o_firstOne o_log o_fitting o_found o_seed o_row o_saved)) S hK hW 0 rfl rfl rfl (Nat.le_of_ble_eq_true rfl) rfl dX12_net_2 (fun H locs hW => ?_)
  refine lv_aload_n S.1 S.2.1 dX12_net_5 rfl (lv_at hl 0 rfl) ?_
  refine lv_iload_n S.1 S.2.1 dX12_net_6 rfl (lv_at hl 1 rfl) ?_
  obtain ⟨x1, hx1, hf⟩ := bnd_e hf
  refine Wr.goW (Wr.runV (c_X12_hand hx1) S hK hW.1 hW.2.1 0 10 rfl rfl kVX12_257 rfl hl.1 [] rfl (Nat.le_of_ble_eq_true rfl) ⟨(Nat.le_of_ble_eq_true rfl), (Nat.le_of_ble_eq_true rfl)⟩ ⟨(Nat.zero_le _), (Nat.zero_le _)⟩ dX12_net_7) hW hA (fun H locs hW => ?_)
  refine lv_if_eq (tgt := 29) S.1 S.2.1 dX12_net_10 (by decide) (fun c_ => ?_) (fun c_ => ?_)
  · have hf := it_p c_ hf
    refine lv_sipush (v := (-999)) S.1 S.2.1 dX12_net_29 sp_m999 ?_
    have e_ := Option.some.inj hf
    subst e_
    exact hret _ _ _ _ dX12_net_32 hW
  · have hf := it_n c_ hf
    refine lv_aload_n S.1 S.2.1 dX12_net_13 rfl (lv_at hl 0 rfl) ?_
    refine lv_iload_n S.1 S.2.1 dX12_net_14 rfl (lv_at hl 2 rfl) ?_
    obtain ⟨x2, hx2, hf⟩ := bnd_e hf
    refine Rd.cV (c_X12_isPerson hx2) S hK hW.1 0 10 rfl rfl kVX12_260 rfl hl.1 [] rfl (Nat.le_of_ble_eq_true rfl) ⟨(Nat.le_of_ble_eq_true rfl), (Nat.le_of_ble_eq_true rfl)⟩ ⟨(Nat.zero_le _), (Nat.zero_le _)⟩ dX12_net_15 ?_
    refine lv_if_eq (tgt := 29) S.1 S.2.1 dX12_net_18 (by decide) (fun c_ => ?_) (fun c_ => ?_)
    · have hf := it_p c_ hf
      refine lv_sipush (v := (-999)) S.1 S.2.1 dX12_net_29 sp_m999 ?_
      have e_ := Option.some.inj hf
      subst e_
      exact hret _ _ _ _ dX12_net_32 hW
    · have hf := it_n c_ hf
      refine lv_aload_n S.1 S.2.1 dX12_net_21 rfl (lv_at hl 0 rfl) ?_
      refine lv_iload_n S.1 S.2.1 dX12_net_22 rfl (lv_at hl 2 rfl) ?_
      obtain ⟨x3, hx3, hf⟩ := bnd_e hf
      refine Rd.cV (c_X12_netOf hx3) S hK hW.1 0 10 rfl rfl kVX12_332 rfl hl.1 [] rfl (Nat.le_of_ble_eq_true rfl) ⟨(Nat.le_of_ble_eq_true rfl), (Nat.le_of_ble_eq_true rfl)⟩ ⟨(Nat.zero_le _), (Nat.zero_le _)⟩ dX12_net_23 ?_
      refine lv_goto (tgt := 32) S.1 S.2.1 dX12_net_26 (by decide) ?_
      have e_ := Option.some.inj hf
      subst e_
      exact hret _ _ _ _ dX12_net_32 hW
def f_X12_netsOf_L4 (fu : Nat) (o_people : Int32) (o_debts : (Nat → Int32)) (p1 : Int32) (s2 : Int32 × Int32) : Option ((Int32 × Int32) ⊕ (Int32)) := if o_people ≤ s2.2 then some (.inr s2.1) else bnd (α := Int32) (f_X12_has fu p1 s2.2) (fun x5 => if x5 = 0 then ltn (s2.1 + (0 : Int32)) (fun x6 => some (.inl (x6, (s2.2 + 1)))) else bnd (α := Int32) (f_X12_netOf fu o_people o_debts s2.2) (fun x7 => ltn (s2.1 + x7) (fun x8 => some (.inl (x8, (s2.2 + 1))))))
def f_X12_netsOf (fu : Nat) (o_people : Int32) (o_debts : (Nat → Int32)) (p1 : Int32) : Option (Int32) := bnd (α := Int32) (lp (f_X12_netsOf_L4 fu o_people o_debts p1) fu ((0 : Int32), (0 : Int32))) (fun v9 => some v9)
set_option maxHeartbeats 4000000 in
set_option maxRecDepth 100000 in
theorem c_X12_netsOf {l : Launch} {D : va_G} {g : Nat → ClassId} {fu : Nat} {o_q0 o_q1 o_q2 o_q3 o_q4 o_q5 o_q6 o_q7 o_q8 o_q9 o_q10 o_q11 o_q12 o_q13 o_q14 o_q15 o_q16 o_q17 o_q18 o_q19 o_q20 o_q21 o_q22 : Nat} {o_code : Int32} {o_tape : (Nat → Int32)} {o_size : (Nat → Int32)} {o_fault : (Nat → Int32)} {o_faultPlace : (Nat → Int32)} {o_many : (Nat → Int32)} {o_towns : (Nat → Int32)} {o_weeks : (Nat → Int32)} {o_logs : (Nat → Int32)} {o_reached : Int32} {o_length : Int32} {o_begins : Int32} {o_sort : Int32} {o_value : Int32} {o_word : Int64} {o_wrongAt : Int32} {o_laterFault : Int32} {o_laterPlace : Int32} {o_told : (Nat → Int32)} {o_read : (Nat → Int32)} {o_farOne : Int32} {o_good : Int32} {o_town : Int32} {o_people : Int32} {o_when : Int32} {o_sat : Int32} {o_quiet : Int32} {o_vain : Int32} {o_lent : Int32} {o_forgiven : Int32} {o_sundays : Int32} {o_purse : (Nat → Int32)} {o_beside : (Nat → Int32)} {o_debts : (Nat → Int32)} {o_sitting : (Nat → Int32)} {o_visited : (Nat → Int32)} {o_week : Int32} {o_heaps : (Nat → Int32)} {o_taken : (Nat → Int32)} {o_best : (Nat → Int32)} {o_more : (Nat → Int32)} {o_firstOne : Int32} {o_log : Int32} {o_fitting : (Nat → Int32)} {o_found : Int32} {o_seed : Int32} {o_row : (Nat → Int32)} {o_saved : (Nat → Int32)} {p1 : Int32} {r : Int32} (hf : f_X12_netsOf fu o_people o_debts p1 = some r) : Rd l D (gy g) yX12_netsOf cX12_netsOf 4 (some .int) 3 [.ref o_q0, .int p1] (wMd g o_q0 o_q1 o_q2 o_q3 o_q4 o_q5 o_q6 o_q7 o_q8 o_q9 o_q10 o_q11 o_q12 o_q13 o_q14 o_q15 o_q16 o_q17 o_q18 o_q19 o_q20 o_q21 o_q22 o_code o_tape o_size o_fault o_faultPlace o_many o_towns o_weeks o_logs o_reached o_length o_begins o_sort o_value o_word o_wrongAt o_laterFault o_laterPlace o_told o_read o_farOne o_good o_town o_people o_when o_sat o_quiet o_vain o_lent o_forgiven o_sundays o_purse o_beside o_debts o_sitting o_visited o_week o_heaps o_taken o_best o_more o_firstOne o_log o_fitting o_found o_seed o_row o_saved) (some (.int r)) := by
  refine Rd.ofI (by decide) (Nat.le_of_ble_eq_true rfl) ?_
  intro p e s m args below meth c Q S hK hP hret ls hl
  have hl : lv_has ls 4 [(0, .ref o_q0), (1, .int p1)] := hl
  refine lv_iconst (v := 0) S.1 S.2.1 dX12_netsOf_0 ic_0 ?_
  refine lv_istore_n (lv' := [(2, .int (0 : Int32)), (0, .ref o_q0), (1, .int p1)]) S.1 S.2.1 dX12_netsOf_1 rfl hl (by decide) rfl (fun ls hl => ?_)
  refine lv_iconst (v := 0) S.1 S.2.1 dX12_netsOf_2 ic_0 ?_
  refine lv_istore_n (lv' := [(3, .int (0 : Int32)), (2, .int (0 : Int32)), (0, .ref o_q0), (1, .int p1)]) S.1 S.2.1 dX12_netsOf_3 rfl hl (by decide) rfl (fun ls hl => ?_)
  obtain ⟨x3, hf_, hk3⟩ := bnd_e hf
  have hE3 : ∀ (v9 : Int32), v9 = x3 → ∀ (ls : Array Slot), lv_has ls 4 [(2, .int v9)] → W p l e (rmD 3) s m args below meth c s.heap [] 0 0 Q (F0 m 38 ls []) := by
    intro v9 e_ ls hl
    subst e_
    have hf := hk3
    refine lv_iload_n S.1 S.2.1 dX12_netsOf_38 rfl (lv_at hl 0 rfl) ?_
    have e_ := Option.some.inj hf
    subst e_
    exact hret _ _ dX12_netsOf_39
  refine lp_ind (P := fun (s2 : Int32 × Int32) => ∀ (ls : Array Slot), lv_has ls 4 [(0, .ref o_q0), (1, .int p1), (2, .int s2.1), (3, .int s2.2)] → W p l e (rmD 3) s m args below meth c s.heap [] 0 0 Q (F0 m 4 ls [])) ?_ _ _ hf_ _ (lv_sub hl [2, 3, 1, 0] rfl)
  intro s2 x4 hf hI3 hR3 ls hl
  refine lv_iload_n S.1 S.2.1 dX12_netsOf_4 rfl (lv_at hl 3 rfl) ?_
  refine lv_aload_n S.1 S.2.1 dX12_netsOf_5 rfl (lv_at hl 0 rfl) ?_
  refine gfX12_230 S hK hP 0 rfl rfl dX12_netsOf_6 ?_
  refine lv_icmp_ge (tgt := 38) S.1 S.2.1 dX12_netsOf_9 (by decide) (fun c_ => ?_) (fun c_ => ?_)
  · have hf := it_p c_ hf
    have e_ := hR3 _ (Option.some.inj hf).symm
    exact hE3 _ e_ _ (lv_sub hl [2] rfl)
  · have hf := it_n c_ hf
    refine lv_iload_n S.1 S.2.1 dX12_netsOf_12 rfl (lv_at hl 2 rfl) ?_
    refine lv_iload_n S.1 S.2.1 dX12_netsOf_13 rfl (lv_at hl 1 rfl) ?_
    refine lv_iload_n S.1 S.2.1 dX12_netsOf_14 rfl (lv_at hl 3 rfl) ?_
    obtain ⟨x5, hx5, hf⟩ := bnd_e hf
    refine Rd.cS (c_X12_has hx5) S hK va_P.nil kSX12_82 rfl hl.1 [.int s2.1] rfl (Nat.le_of_ble_eq_true rfl) ⟨(Nat.le_of_ble_eq_true rfl), (Nat.le_of_ble_eq_true rfl)⟩ ⟨(Nat.zero_le _), (Nat.zero_le _)⟩ dX12_netsOf_15 ?_
    refine lv_if_eq (tgt := 29) S.1 S.2.1 dX12_netsOf_18 (by decide) (fun c_ => ?_) (fun c_ => ?_)
    · have hf := it_p c_ hf
      refine lv_iconst (v := 0) S.1 S.2.1 dX12_netsOf_29 ic_0 ?_
      refine lv_iadd S.1 S.2.1 dX12_netsOf_30 ?_
      refine lv_topi (fun x6 ex6 => ?_)
      have hf := ltn_e hf ex6
      refine lv_istore_n (lv' := [(2, .int x6), (0, .ref o_q0), (1, .int p1), (3, .int s2.2)]) S.1 S.2.1 dX12_netsOf_31 rfl hl (by decide) rfl (fun ls hl => ?_)
      refine q_iinc (w := 1) (lv' := [(3, .int (s2.2 + 1)), (2, .int x6), (0, .ref o_q0), (1, .int p1)]) S dX12_netsOf_32 hl (k := 3) rfl ic_1 (by decide) rfl (fun ls hl => ?_)
      refine lv_goto (tgt := 4) S.1 S.2.1 dX12_netsOf_35 (by decide) ?_
      exact hI3 _ (Option.some.inj hf).symm _ (lv_sub hl [2, 3, 1, 0] rfl)
    · have hf := it_n c_ hf
      refine lv_aload_n S.1 S.2.1 dX12_netsOf_21 rfl (lv_at hl 0 rfl) ?_
      refine lv_iload_n S.1 S.2.1 dX12_netsOf_22 rfl (lv_at hl 3 rfl) ?_
      obtain ⟨x7, hx7, hf⟩ := bnd_e hf
      refine Rd.cV (c_X12_netOf hx7) S hK hP 0 10 rfl rfl kVX12_332 rfl hl.1 [.int s2.1] rfl (Nat.le_of_ble_eq_true rfl) ⟨(Nat.le_of_ble_eq_true rfl), (Nat.le_of_ble_eq_true rfl)⟩ ⟨(Nat.zero_le _), (Nat.zero_le _)⟩ dX12_netsOf_23 ?_
      refine lv_goto (tgt := 30) S.1 S.2.1 dX12_netsOf_26 (by decide) ?_
      refine lv_iadd S.1 S.2.1 dX12_netsOf_30 ?_
      refine lv_topi (fun x8 ex8 => ?_)
      have hf := ltn_e hf ex8
      refine lv_istore_n (lv' := [(2, .int x8), (0, .ref o_q0), (1, .int p1), (3, .int s2.2)]) S.1 S.2.1 dX12_netsOf_31 rfl hl (by decide) rfl (fun ls hl => ?_)
      refine q_iinc (w := 1) (lv' := [(3, .int (s2.2 + 1)), (2, .int x8), (0, .ref o_q0), (1, .int p1)]) S dX12_netsOf_32 hl (k := 3) rfl ic_1 (by decide) rfl (fun ls hl => ?_)
      refine lv_goto (tgt := 4) S.1 S.2.1 dX12_netsOf_35 (by decide) ?_
      exact hI3 _ (Option.some.inj hf).symm _ (lv_sub hl [2, 3, 1, 0] rfl)
def f_X12_settled_L57 (fu : Nat) (x1 : Int32 × Int32 × Int32 × Int32 × Int32 × Int32 × Int32 × Int32 × Int32 × Int32 × (Nat → Int32) × (Nat → Int32) × (Nat → Int32) × (Nat → Int32) × (Nat → Int32)) (s4 : Int32 × (Nat → Int32)) (s12 : Int32 × Int32) : Option ((Int32 × Int32) ⊕ (Int32)) := if s12.2 ≤ 0 then some (.inr s12.1) else bnd (α := Int32) (f_X12_netsOf fu x1.2.2.1 x1.2.2.2.2.2.2.2.2.2.2.2.2.1 s12.2) (fun x15 => if x15 = 0 then bnd (α := Int32) (rdi 64 s4.2 (s4.1 &&& (s12.2 ^^^ (-1 : Int32)))) (fun x16 => bnd (α := Int32) (f_X12_greater fu s12.1 ((1 : Int32) + x16)) (fun x17 => ltn ((s12.2 - (1 : Int32)) &&& s4.1) (fun x18 => some (.inl (x17, x18))))) else ltn ((s12.2 - (1 : Int32)) &&& s4.1) (fun x19 => some (.inl (s12.1, x19))))
def f_X12_settled_L24 (fu : Nat) (x1 : Int32 × Int32 × Int32 × Int32 × Int32 × Int32 × Int32 × Int32 × Int32 × Int32 × (Nat → Int32) × (Nat → Int32) × (Nat → Int32) × (Nat → Int32) × (Nat → Int32)) (s4 : Int32 × (Nat → Int32)) : Option ((Int32 × (Nat → Int32)) ⊕ ((Nat → Int32))) := if (jshl (1 : Int32) x1.2.2.1) ≤ s4.1 then some (.inr s4.2) else bnd (α := Int32) (f_X12_netsOf fu x1.2.2.1 x1.2.2.2.2.2.2.2.2.2.2.2.2.1 s4.1) (fun x7 => bnd (α := Int32) (if x7 = 0 then some (1 : Int32) else some (-1000000 : Int32)) (fun v9 => ltn ((s4.1 - (1 : Int32)) &&& s4.1) (fun x10 => bnd (α := Int32) (lp (f_X12_settled_L57 fu x1 s4) fu (v9, x10)) (fun v20 => bnd (α := (Nat → Int32)) (wri 64 s4.2 s4.1 v20) (fun x21 => some (.inl ((s4.1 + 1), x21)))))))
def f_X12_settled (fu : Nat) (o_code : Int32) (o_many : (Nat → Int32)) (o_towns : (Nat → Int32)) (o_town : Int32) (o_people : Int32) (o_when : Int32) (o_sat : Int32) (o_quiet : Int32) (o_vain : Int32) (o_lent : Int32) (o_forgiven : Int32) (o_sundays : Int32) (o_purse : (Nat → Int32)) (o_beside : (Nat → Int32)) (o_debts : (Nat → Int32)) (o_sitting : (Nat → Int32)) (o_visited : (Nat → Int32)) (o_heaps : (Nat → Int32)) (p1 : Int32) : Option (Int32 × Int32 × Int32 × Int32 × Int32 × Int32 × Int32 × Int32 × Int32 × Int32 × Int32 × (Nat → Int32) × (Nat → Int32) × (Nat → Int32) × (Nat → Int32) × (Nat → Int32) × (Nat → Int32)) := bnd (α := Int32 × Int32 × Int32 × Int32 × Int32 × Int32 × Int32 × Int32 × Int32 × Int32 × (Nat → Int32) × (Nat → Int32) × (Nat → Int32) × (Nat → Int32) × (Nat → Int32)) (f_X12_hand fu o_many o_towns o_town o_people o_when o_sat o_quiet o_vain o_lent o_forgiven o_sundays o_purse o_beside o_debts o_sitting o_visited p1) (fun x1 => if x1.1 = 0 then some ((-1 : Int32), (0 : Int32), x1.2.1, x1.2.2.1, x1.2.2.2.1, x1.2.2.2.2.1, x1.2.2.2.2.2.1, x1.2.2.2.2.2.2.1, x1.2.2.2.2.2.2.2.1, x1.2.2.2.2.2.2.2.2.1, x1.2.2.2.2.2.2.2.2.2.1, x1.2.2.2.2.2.2.2.2.2.2.1, x1.2.2.2.2.2.2.2.2.2.2.2.1, x1.2.2.2.2.2.2.2.2.2.2.2.2.1, x1.2.2.2.2.2.2.2.2.2.2.2.2.2.1, x1.2.2.2.2.2.2.2.2.2.2.2.2.2.2, o_heaps) else bnd (α := (Nat → Int32)) (wri 64 o_heaps (0 : Int32) (0 : Int32)) (fun x2 => bnd (α := (Nat → Int32)) (lp (f_X12_settled_L24 fu x1) fu ((1 : Int32), x2)) (fun v22 => bnd (α := Int32) (rdi 64 v22 ((jshl (1 : Int32) x1.2.2.1) - (1 : Int32))) (fun x23 => some ((x1.2.2.1 - x23), (0 : Int32), x1.2.1, x1.2.2.1, x1.2.2.2.1, x1.2.2.2.2.1, x1.2.2.2.2.2.1, x1.2.2.2.2.2.2.1, x1.2.2.2.2.2.2.2.1, x1.2.2.2.2.2.2.2.2.1, x1.2.2.2.2.2.2.2.2.2.1, x1.2.2.2.2.2.2.2.2.2.2.1, x1.2.2.2.2.2.2.2.2.2.2.2.1, x1.2.2.2.2.2.2.2.2.2.2.2.2.1, x1.2.2.2.2.2.2.2.2.2.2.2.2.2.1, x1.2.2.2.2.2.2.2.2.2.2.2.2.2.2, v22)))))
set_option maxHeartbeats 4000000 in
set_option maxRecDepth 100000 in
theorem c_X12_settled {l : Launch} {D : va_G} {g : Nat → ClassId} {fu : Nat} {o_q0 o_q1 o_q2 o_q3 o_q4 o_q5 o_q6 o_q7 o_q8 o_q9 o_q10 o_q11 o_q12 o_q13 o_q14 o_q15 o_q16 o_q17 o_q18 o_q19 o_q20 o_q21 o_q22 : Nat} {o_code : Int32} {o_tape : (Nat → Int32)} {o_size : (Nat → Int32)} {o_fault : (Nat → Int32)} {o_faultPlace : (Nat → Int32)} {o_many : (Nat → Int32)} {o_towns : (Nat → Int32)} {o_weeks : (Nat → Int32)} {o_logs : (Nat → Int32)} {o_reached : Int32} {o_length : Int32} {o_begins : Int32} {o_sort : Int32} {o_value : Int32} {o_word : Int64} {o_wrongAt : Int32} {o_laterFault : Int32} {o_laterPlace : Int32} {o_told : (Nat → Int32)} {o_read : (Nat → Int32)} {o_farOne : Int32} {o_good : Int32} {o_town : Int32} {o_people : Int32} {o_when : Int32} {o_sat : Int32} {o_quiet : Int32} {o_vain : Int32} {o_lent : Int32} {o_forgiven : Int32} {o_sundays : Int32} {o_purse : (Nat → Int32)} {o_beside : (Nat → Int32)} {o_debts : (Nat → Int32)} {o_sitting : (Nat → Int32)} {o_visited : (Nat → Int32)} {o_week : Int32} {o_heaps : (Nat → Int32)} {o_taken : (Nat → Int32)} {o_best : (Nat → Int32)} {o_more : (Nat → Int32)} {o_firstOne : Int32} {o_log : Int32} {o_fitting : (Nat → Int32)} {o_found : Int32} {o_seed : Int32} {o_row : (Nat → Int32)} {o_saved : (Nat → Int32)} {p1 : Int32} {r : Int32 × Int32 × Int32 × Int32 × Int32 × Int32 × Int32 × Int32 × Int32 × Int32 × Int32 × (Nat → Int32) × (Nat → Int32) × (Nat → Int32) × (Nat → Int32) × (Nat → Int32) × (Nat → Int32)} (hf : f_X12_settled fu o_code o_many o_towns o_town o_people o_when o_sat o_quiet o_vain o_lent o_forgiven o_sundays o_purse o_beside o_debts o_sitting o_visited o_heaps p1 = some r) : Wr l D (gy g) yX12_settled cX12_settled 5 (some .int) 4 [.ref o_q0, .int p1] (wMd g o_q0 o_q1 o_q2 o_q3 o_q4 o_q5 o_q6 o_q7 o_q8 o_q9 o_q10 o_q11 o_q12 o_q13 o_q14 o_q15 o_q16 o_q17 o_q18 o_q19 o_q20 o_q21 o_q22 o_code o_tape o_size o_fault o_faultPlace o_many o_towns o_weeks o_logs o_reached o_length o_begins o_sort o_value o_word o_wrongAt o_laterFault o_laterPlace o_told o_read o_farOne o_good o_town o_people o_when o_sat o_quiet o_vain o_lent o_forgiven o_sundays o_purse o_beside o_debts o_sitting o_visited o_week o_heaps o_taken o_best o_more o_firstOne o_log o_fitting o_found o_seed o_row o_saved) (wMd g o_q0 o_q1 o_q2 o_q3 o_q4 o_q5 o_q6 o_q7 o_q8 o_q9 o_q10 o_q11 o_q12 o_q13 o_q14 o_q15 o_q16 o_q17 o_q18 o_q19 o_q20 o_q21 o_q22 r.2.1 o_tape o_size o_fault o_faultPlace o_many o_towns o_weeks o_logs o_reached o_length o_begins o_sort o_value o_word o_wrongAt o_laterFault o_laterPlace o_told o_read o_farOne o_good r.2.2.1 r.2.2.2.1 r.2.2.2.2.1 r.2.2.2.2.2.1 r.2.2.2.2.2.2.1 r.2.2.2.2.2.2.2.1 r.2.2.2.2.2.2.2.2.1 r.2.2.2.2.2.2.2.2.2.1 r.2.2.2.2.2.2.2.2.2.2.1 r.2.2.2.2.2.2.2.2.2.2.2.1 r.2.2.2.2.2.2.2.2.2.2.2.2.1 r.2.2.2.2.2.2.2.2.2.2.2.2.2.1 r.2.2.2.2.2.2.2.2.2.2.2.2.2.2.1 r.2.2.2.2.2.2.2.2.2.2.2.2.2.2.2.1 o_week r.2.2.2.2.2.2.2.2.2.2.2.2.2.2.2.2 o_taken o_best o_more o_firstOne o_log o_fitting o_found o_seed o_row o_saved) (some (.int r.1)) := by
  refine Wr.ofI (by decide) (Nat.le_of_ble_eq_true rfl) ?_
  intro p e s m args below meth c Q A S hK hA hret ls hl hW
  have hl : lv_has ls 5 [(0, .ref o_q0), (1, .int p1)] := hl
  refine lv_aload_n S.1 S.2.1 dX12_settled_0 rfl (lv_at hl 0 rfl) ?_
  refine lv_iconst (v := 0) S.1 S.2.1 dX12_settled_1 ic_0 ?_
  refine pfX12_78 (ws2 := (wMd g o_q0 o_q1 o_q2 o_q3 o_q4 o_q5 o_q6 o_q7 o_q8 o_q9 o_q10 o_q11 o_q12 o_q13 o_q14 o_q15 o_q16 o_q17 o_q18 o_q19 o_q20 o_q21 o_q22 (0 : Int32) o_tape o_size o_fault o_faultPlace o_many o_towns o_weeks o_logs o_reached o_length o_begins o_sort o_value o_word o_wrongAt o_laterFault o_laterPlace o_told o_read o_farOne o_good o_town o_people o_when o_sat o_quiet o_vain o_lent o_forgiven o_sundays o_purse o_beside o_debts o_sitting o_visited o_week o_heaps o_taken o_best o_more o_firstOne o_log o_fitting o_found o_seed o_row o_saved)) S hK hW 0 rfl rfl rfl (Nat.le_of_ble_eq_true rfl) rfl dX12_settled_2 (fun H locs hW => ?_)
  refine lv_aload_n S.1 S.2.1 dX12_settled_5 rfl (lv_at hl 0 rfl) ?_
  refine lv_iload_n S.1 S.2.1 dX12_settled_6 rfl (lv_at hl 1 rfl) ?_
  obtain ⟨x1, hx1, hf⟩ := bnd_e hf
  refine Wr.goW (Wr.runV (c_X12_hand hx1) S hK hW.1 hW.2.1 0 10 rfl rfl kVX12_257 rfl hl.1 [] rfl (Nat.le_of_ble_eq_true rfl) ⟨(Nat.le_of_ble_eq_true rfl), (Nat.le_of_ble_eq_true rfl)⟩ ⟨(Nat.zero_le _), (Nat.zero_le _)⟩ dX12_settled_7) hW hA (fun H locs hW => ?_)
  refine lv_if_ne (tgt := 15) S.1 S.2.1 dX12_settled_10 (by decide) (fun c_ => ?_) (fun c_ => ?_)
  · have hf := it_n c_ hf
    refine lv_aload_n S.1 S.2.1 dX12_settled_15 rfl (lv_at hl 0 rfl) ?_
    refine gfX12_56 S hK hW.1 0 rfl rfl dX12_settled_16 ?_
    refine lv_iconst (v := 0) S.1 S.2.1 dX12_settled_19 ic_0 ?_
    refine lv_iconst (v := 0) S.1 S.2.1 dX12_settled_20 ic_0 ?_
    obtain ⟨x2, hx2, hf⟩ := bnd_e hf
    refine q_iast (ws2 := (wMd g o_q0 o_q1 o_q2 o_q3 o_q4 o_q5 o_q6 o_q7 o_q8 o_q9 o_q10 o_q11 o_q12 o_q13 o_q14 o_q15 o_q16 o_q17 o_q18 o_q19 o_q20 o_q21 o_q22 (0 : Int32) o_tape o_size o_fault o_faultPlace o_many o_towns o_weeks o_logs o_reached o_length o_begins o_sort o_value o_word o_wrongAt o_laterFault o_laterPlace o_told o_read o_farOne o_good x1.2.1 x1.2.2.1 x1.2.2.2.1 x1.2.2.2.2.1 x1.2.2.2.2.2.1 x1.2.2.2.2.2.2.1 x1.2.2.2.2.2.2.2.1 x1.2.2.2.2.2.2.2.2.1 x1.2.2.2.2.2.2.2.2.2.1 x1.2.2.2.2.2.2.2.2.2.2.1 x1.2.2.2.2.2.2.2.2.2.2.2.1 x1.2.2.2.2.2.2.2.2.2.2.2.2.1 x1.2.2.2.2.2.2.2.2.2.2.2.2.2.1 x1.2.2.2.2.2.2.2.2.2.2.2.2.2.2 o_week x2 o_taken o_best o_more o_firstOne o_log o_fitting o_found o_seed o_row o_saved)) S hK hW 16 0 rfl rfl hx2 rfl dX12_settled_21 (fun H locs hW => ?_)
    refine lv_iconst (v := 1) S.1 S.2.1 dX12_settled_22 ic_1 ?_
    refine lv_istore_n (lv' := [(2, .int (1 : Int32)), (0, .ref o_q0), (1, .int p1)]) S.1 S.2.1 dX12_settled_23 rfl hl (by decide) rfl (fun ls hl => ?_)
    obtain ⟨x5, hf_, hk5⟩ := bnd_e hf
    have hE5 : ∀ (v22 : (Nat → Int32)), v22 = x5 → ∀ (ls : Array Slot) (H : Heap) (locs : List Loc), lv_has ls 5 [(0, .ref o_q0)] → St A s.heap D (wMd g o_q0 o_q1 o_q2 o_q3 o_q4 o_q5 o_q6 o_q7 o_q8 o_q9 o_q10 o_q11 o_q12 o_q13 o_q14 o_q15 o_q16 o_q17 o_q18 o_q19 o_q20 o_q21 o_q22 (0 : Int32) o_tape o_size o_fault o_faultPlace o_many o_towns o_weeks o_logs o_reached o_length o_begins o_sort o_value o_word o_wrongAt o_laterFault o_laterPlace o_told o_read o_farOne o_good x1.2.1 x1.2.2.1 x1.2.2.2.1 x1.2.2.2.2.1 x1.2.2.2.2.2.1 x1.2.2.2.2.2.2.1 x1.2.2.2.2.2.2.2.1 x1.2.2.2.2.2.2.2.2.1 x1.2.2.2.2.2.2.2.2.2.1 x1.2.2.2.2.2.2.2.2.2.2.1 x1.2.2.2.2.2.2.2.2.2.2.2.1 x1.2.2.2.2.2.2.2.2.2.2.2.2.1 x1.2.2.2.2.2.2.2.2.2.2.2.2.2.1 x1.2.2.2.2.2.2.2.2.2.2.2.2.2.2 o_week v22 o_taken o_best o_more o_firstOne o_log o_fitting o_found o_seed o_row o_saved) H locs → W p l e (rmD 4) s m args below meth c H locs 0 0 Q (F0 m 117 ls []) := by
      intro v22 e_ ls H locs hl hW
      subst e_
      have hf := hk5
      refine lv_aload_n S.1 S.2.1 dX12_settled_117 rfl (lv_at hl 0 rfl) ?_
      refine gfX12_230 S hK hW.1 0 rfl rfl dX12_settled_118 ?_
      refine lv_aload_n S.1 S.2.1 dX12_settled_121 rfl (lv_at hl 0 rfl) ?_
      refine gfX12_56 S hK hW.1 0 rfl rfl dX12_settled_122 ?_
      refine lv_iconst (v := 1) S.1 S.2.1 dX12_settled_125 ic_1 ?_
      refine lv_aload_n S.1 S.2.1 dX12_settled_126 rfl (lv_at hl 0 rfl) ?_
      refine gfX12_230 S hK hW.1 0 rfl rfl dX12_settled_127 ?_
      refine lv_ishl S.1 S.2.1 dX12_settled_130 ?_
      refine lv_iconst (v := 1) S.1 S.2.1 dX12_settled_131 ic_1 ?_
      refine lv_isub S.1 S.2.1 dX12_settled_132 ?_
      obtain ⟨x23, hx23, hf⟩ := bnd_e hf
      refine q_iald S hK hW.1 16 0 rfl rfl hx23 dX12_settled_133 ?_
      refine lv_isub S.1 S.2.1 dX12_settled_134 ?_
      have e_ := Option.some.inj hf
      subst e_
      exact hret _ _ _ _ dX12_settled_135 hW
    refine lp_ind (P := fun (s4 : Int32 × (Nat → Int32)) => ∀ (ls : Array Slot) (H : Heap) (locs : List Loc), lv_has ls 5 [(0, .ref o_q0), (2, .int s4.1)] → St A s.heap D (wMd g o_q0 o_q1 o_q2 o_q3 o_q4 o_q5 o_q6 o_q7 o_q8 o_q9 o_q10 o_q11 o_q12 o_q13 o_q14 o_q15 o_q16 o_q17 o_q18 o_q19 o_q20 o_q21 o_q22 (0 : Int32) o_tape o_size o_fault o_faultPlace o_many o_towns o_weeks o_logs o_reached o_length o_begins o_sort o_value o_word o_wrongAt o_laterFault o_laterPlace o_told o_read o_farOne o_good x1.2.1 x1.2.2.1 x1.2.2.2.1 x1.2.2.2.2.1 x1.2.2.2.2.2.1 x1.2.2.2.2.2.2.1 x1.2.2.2.2.2.2.2.1 x1.2.2.2.2.2.2.2.2.1 x1.2.2.2.2.2.2.2.2.2.1 x1.2.2.2.2.2.2.2.2.2.2.1 x1.2.2.2.2.2.2.2.2.2.2.2.1 x1.2.2.2.2.2.2.2.2.2.2.2.2.1 x1.2.2.2.2.2.2.2.2.2.2.2.2.2.1 x1.2.2.2.2.2.2.2.2.2.2.2.2.2.2 o_week s4.2 o_taken o_best o_more o_firstOne o_log o_fitting o_found o_seed o_row o_saved) H locs → W p l e (rmD 4) s m args below meth c H locs 0 0 Q (F0 m 24 ls [])) ?_ _ _ hf_ _ _ _ (lv_sub hl [1, 0] rfl) hW
    intro s4 x6 hf hI5 hR5 ls H locs hl hW
    refine lv_iload_n S.1 S.2.1 dX12_settled_24 rfl (lv_at hl 1 rfl) ?_
    refine lv_iconst (v := 1) S.1 S.2.1 dX12_settled_25 ic_1 ?_
    refine lv_aload_n S.1 S.2.1 dX12_settled_26 rfl (lv_at hl 0 rfl) ?_
    refine gfX12_230 S hK hW.1 0 rfl rfl dX12_settled_27 ?_
    refine lv_ishl S.1 S.2.1 dX12_settled_30 ?_
    refine lv_icmp_ge (tgt := 117) S.1 S.2.1 dX12_settled_31 (by decide) (fun c_ => ?_) (fun c_ => ?_)
    · have hf := it_p c_ hf
      have e_ := hR5 _ (Option.some.inj hf).symm
      exact hE5 _ e_ _ _ _ (lv_sub hl [0] rfl) hW
    · have hf := it_n c_ hf
      refine lv_aload_n S.1 S.2.1 dX12_settled_34 rfl (lv_at hl 0 rfl) ?_
      refine lv_iload_n S.1 S.2.1 dX12_settled_35 rfl (lv_at hl 1 rfl) ?_
      obtain ⟨x7, hx7, hf⟩ := bnd_e hf
      refine Rd.cV (c_X12_netsOf hx7) S hK hW.1 0 10 rfl rfl kVX12_335 rfl hl.1 [] rfl (Nat.le_of_ble_eq_true rfl) ⟨(Nat.le_of_ble_eq_true rfl), (Nat.le_of_ble_eq_true rfl)⟩ ⟨(Nat.zero_le _), (Nat.zero_le _)⟩ dX12_settled_36 ?_
      obtain ⟨x8, hf_, hk8⟩ := bnd_e hf
      have hJ8 : ∀ (v9 : Int32), v9 = x8 → ∀ (ls : Array Slot) (H : Heap) (locs : List Loc), lv_has ls 5 [(0, .ref o_q0), (2, .int s4.1)] → St A s.heap D (wMd g o_q0 o_q1 o_q2 o_q3 o_q4 o_q5 o_q6 o_q7 o_q8 o_q9 o_q10 o_q11 o_q12 o_q13 o_q14 o_q15 o_q16 o_q17 o_q18 o_q19 o_q20 o_q21 o_q22 (0 : Int32) o_tape o_size o_fault o_faultPlace o_many o_towns o_weeks o_logs o_reached o_length o_begins o_sort o_value o_word o_wrongAt o_laterFault o_laterPlace o_told o_read o_farOne o_good x1.2.1 x1.2.2.1 x1.2.2.2.1 x1.2.2.2.2.1 x1.2.2.2.2.2.1 x1.2.2.2.2.2.2.1 x1.2.2.2.2.2.2.2.1 x1.2.2.2.2.2.2.2.2.1 x1.2.2.2.2.2.2.2.2.2.1 x1.2.2.2.2.2.2.2.2.2.2.1 x1.2.2.2.2.2.2.2.2.2.2.2.1 x1.2.2.2.2.2.2.2.2.2.2.2.2.1 x1.2.2.2.2.2.2.2.2.2.2.2.2.2.1 x1.2.2.2.2.2.2.2.2.2.2.2.2.2.2 o_week s4.2 o_taken o_best o_more o_firstOne o_log o_fitting o_found o_seed o_row o_saved) H locs → W p l e (rmD 4) s m args below meth c H locs 0 0 Q (F0 m 49 ls [.int v9]) := by
        intro v9 e_ ls H locs hl hW
        subst e_
        have hf := hk8
        refine lv_istore_n (lv' := [(3, .int v9), (0, .ref o_q0), (2, .int s4.1)]) S.1 S.2.1 dX12_settled_49 rfl hl (by decide) rfl (fun ls hl => ?_)
        refine lv_iload_n S.1 S.2.1 dX12_settled_50 rfl (lv_at hl 2 rfl) ?_
        refine lv_iconst (v := 1) S.1 S.2.1 dX12_settled_51 ic_1 ?_
        refine lv_isub S.1 S.2.1 dX12_settled_52 ?_
        refine lv_iload_n S.1 S.2.1 dX12_settled_53 rfl (lv_at hl 2 rfl) ?_
        refine lv_iand S.1 S.2.1 dX12_settled_54 ?_
        refine lv_topi (fun x10 ex10 => ?_)
        have hf := ltn_e hf ex10
        refine lv_istore (lv' := [(4, .int x10), (3, .int v9), (0, .ref o_q0), (2, .int s4.1)]) S.1 S.2.1 dX12_settled_55 hl (by decide) rfl (fun ls hl => ?_)
        obtain ⟨x13, hf_, hk13⟩ := bnd_e hf
        have hE13 : ∀ (v20 : Int32), v20 = x13 → ∀ (ls : Array Slot) (H : Heap) (locs : List Loc), lv_has ls 5 [(0, .ref o_q0), (2, .int s4.1), (3, .int v20)] → St A s.heap D (wMd g o_q0 o_q1 o_q2 o_q3 o_q4 o_q5 o_q6 o_q7 o_q8 o_q9 o_q10 o_q11 o_q12 o_q13 o_q14 o_q15 o_q16 o_q17 o_q18 o_q19 o_q20 o_q21 o_q22 (0 : Int32) o_tape o_size o_fault o_faultPlace o_many o_towns o_weeks o_logs o_reached o_length o_begins o_sort o_value o_word o_wrongAt o_laterFault o_laterPlace o_told o_read o_farOne o_good x1.2.1 x1.2.2.1 x1.2.2.2.1 x1.2.2.2.2.1 x1.2.2.2.2.2.1 x1.2.2.2.2.2.2.1 x1.2.2.2.2.2.2.2.1 x1.2.2.2.2.2.2.2.2.1 x1.2.2.2.2.2.2.2.2.2.1 x1.2.2.2.2.2.2.2.2.2.2.1 x1.2.2.2.2.2.2.2.2.2.2.2.1 x1.2.2.2.2.2.2.2.2.2.2.2.2.1 x1.2.2.2.2.2.2.2.2.2.2.2.2.2.1 x1.2.2.2.2.2.2.2.2.2.2.2.2.2.2 o_week s4.2 o_taken o_best o_more o_firstOne o_log o_fitting o_found o_seed o_row o_saved) H locs → W p l e (rmD 4) s m args below meth c H locs 0 0 Q (F0 m 104 ls []) := by
          intro v20 e_ ls H locs hl hW
          subst e_
          have hf := hk13
          refine lv_aload_n S.1 S.2.1 dX12_settled_104 rfl (lv_at hl 0 rfl) ?_
          refine gfX12_56 S hK hW.1 0 rfl rfl dX12_settled_105 ?_
          refine lv_iload_n S.1 S.2.1 dX12_settled_108 rfl (lv_at hl 1 rfl) ?_
          refine lv_iload_n S.1 S.2.1 dX12_settled_109 rfl (lv_at hl 2 rfl) ?_
          obtain ⟨x21, hx21, hf⟩ := bnd_e hf
          refine q_iast (ws2 := (wMd g o_q0 o_q1 o_q2 o_q3 o_q4 o_q5 o_q6 o_q7 o_q8 o_q9 o_q10 o_q11 o_q12 o_q13 o_q14 o_q15 o_q16 o_q17 o_q18 o_q19 o_q20 o_q21 o_q22 (0 : Int32) o_tape o_size o_fault o_faultPlace o_many o_towns o_weeks o_logs o_reached o_length o_begins o_sort o_value o_word o_wrongAt o_laterFault o_laterPlace o_told o_read o_farOne o_good x1.2.1 x1.2.2.1 x1.2.2.2.1 x1.2.2.2.2.1 x1.2.2.2.2.2.1 x1.2.2.2.2.2.2.1 x1.2.2.2.2.2.2.2.1 x1.2.2.2.2.2.2.2.2.1 x1.2.2.2.2.2.2.2.2.2.1 x1.2.2.2.2.2.2.2.2.2.2.1 x1.2.2.2.2.2.2.2.2.2.2.2.1 x1.2.2.2.2.2.2.2.2.2.2.2.2.1 x1.2.2.2.2.2.2.2.2.2.2.2.2.2.1 x1.2.2.2.2.2.2.2.2.2.2.2.2.2.2 o_week x21 o_taken o_best o_more o_firstOne o_log o_fitting o_found o_seed o_row o_saved)) S hK hW 16 0 rfl rfl hx21 rfl dX12_settled_110 (fun H locs hW => ?_)
          refine q_iinc (w := 1) (lv' := [(2, .int (s4.1 + 1)), (0, .ref o_q0), (3, .int v20)]) S dX12_settled_111 hl (k := 1) rfl ic_1 (by decide) rfl (fun ls hl => ?_)
          refine lv_goto (tgt := 24) S.1 S.2.1 dX12_settled_114 (by decide) ?_
          exact hI5 _ (Option.some.inj hf).symm _ _ _ (lv_sub hl [1, 0] rfl) hW
        refine lp_ind (P := fun (s12 : Int32 × Int32) => ∀ (ls : Array Slot) (H : Heap) (locs : List Loc), lv_has ls 5 [(0, .ref o_q0), (2, .int s4.1), (3, .int s12.1), (4, .int s12.2)] → St A s.heap D (wMd g o_q0 o_q1 o_q2 o_q3 o_q4 o_q5 o_q6 o_q7 o_q8 o_q9 o_q10 o_q11 o_q12 o_q13 o_q14 o_q15 o_q16 o_q17 o_q18 o_q19 o_q20 o_q21 o_q22 (0 : Int32) o_tape o_size o_fault o_faultPlace o_many o_towns o_weeks o_logs o_reached o_length o_begins o_sort o_value o_word o_wrongAt o_laterFault o_laterPlace o_told o_read o_farOne o_good x1.2.1 x1.2.2.1 x1.2.2.2.1 x1.2.2.2.2.1 x1.2.2.2.2.2.1 x1.2.2.2.2.2.2.1 x1.2.2.2.2.2.2.2.1 x1.2.2.2.2.2.2.2.2.1 x1.2.2.2.2.2.2.2.2.2.1 x1.2.2.2.2.2.2.2.2.2.2.1 x1.2.2.2.2.2.2.2.2.2.2.2.1 x1.2.2.2.2.2.2.2.2.2.2.2.2.1 x1.2.2.2.2.2.2.2.2.2.2.2.2.2.1 x1.2.2.2.2.2.2.2.2.2.2.2.2.2.2 o_week s4.2 o_taken o_best o_more o_firstOne o_log o_fitting o_found o_seed o_row o_saved) H locs → W p l e (rmD 4) s m args below meth c H locs 0 0 Q (F0 m 57 ls [])) ?_ _ _ hf_ _ _ _ (lv_sub hl [2, 3, 1, 0] rfl) hW
        intro s12 x14 hf hI13 hR13 ls H locs hl hW
        refine lv_iload S.1 S.2.1 dX12_settled_57 (lv_at hl 3 rfl) ?_
        refine lv_if_le (tgt := 104) S.1 S.2.1 dX12_settled_59 (by decide) (fun c_ => ?_) (fun c_ => ?_)
        · have hf := it_p c_ hf
          have e_ := hR13 _ (Option.some.inj hf).symm
          exact hE13 _ e_ _ _ _ (lv_sub hl [0, 1, 2] rfl) hW
        · have hf := it_n c_ hf
          refine lv_aload_n S.1 S.2.1 dX12_settled_62 rfl (lv_at hl 0 rfl) ?_
          refine lv_iload S.1 S.2.1 dX12_settled_63 (lv_at hl 3 rfl) ?_
          obtain ⟨x15, hx15, hf⟩ := bnd_e hf
          refine Rd.cV (c_X12_netsOf hx15) S hK hW.1 0 10 rfl rfl kVX12_335 rfl hl.1 [] rfl (Nat.le_of_ble_eq_true rfl) ⟨(Nat.le_of_ble_eq_true rfl), (Nat.le_of_ble_eq_true rfl)⟩ ⟨(Nat.zero_le _), (Nat.zero_le _)⟩ dX12_settled_65 ?_
          refine lv_if_ne (tgt := 91) S.1 S.2.1 dX12_settled_68 (by decide) (fun c_ => ?_) (fun c_ => ?_)
          · have hf := it_n c_ hf
            refine lv_iload_n S.1 S.2.1 dX12_settled_91 rfl (lv_at hl 2 rfl) ?_
            refine lv_istore_n (lv' := [(3, .int s12.1), (0, .ref o_q0), (2, .int s4.1), (4, .int s12.2)]) S.1 S.2.1 dX12_settled_92 rfl hl (by decide) rfl (fun ls hl => ?_)
            refine lv_iload S.1 S.2.1 dX12_settled_93 (lv_at hl 3 rfl) ?_
            refine lv_iconst (v := 1) S.1 S.2.1 dX12_settled_95 ic_1 ?_
            refine lv_isub S.1 S.2.1 dX12_settled_96 ?_
            refine lv_iload_n S.1 S.2.1 dX12_settled_97 rfl (lv_at hl 2 rfl) ?_
            refine lv_iand S.1 S.2.1 dX12_settled_98 ?_
            refine lv_topi (fun x19 ex19 => ?_)
            have hf := ltn_e hf ex19
            refine lv_istore (lv' := [(4, .int x19), (3, .int s12.1), (0, .ref o_q0), (2, .int s4.1)]) S.1 S.2.1 dX12_settled_99 hl (by decide) rfl (fun ls hl => ?_)
            refine lv_goto (tgt := 57) S.1 S.2.1 dX12_settled_101 (by decide) ?_
            exact hI13 _ (Option.some.inj hf).symm _ _ _ (lv_sub hl [2, 3, 1, 0] rfl) hW
          · have hf := it_p c_ hf
            refine lv_iload_n S.1 S.2.1 dX12_settled_71 rfl (lv_at hl 2 rfl) ?_
            refine lv_iconst (v := 1) S.1 S.2.1 dX12_settled_72 ic_1 ?_
            refine lv_aload_n S.1 S.2.1 dX12_settled_73 rfl (lv_at hl 0 rfl) ?_
            refine gfX12_56 S hK hW.1 0 rfl rfl dX12_settled_74 ?_
            refine lv_iload_n S.1 S.2.1 dX12_settled_77 rfl (lv_at hl 1 rfl) ?_
            refine lv_iload S.1 S.2.1 dX12_settled_78 (lv_at hl 3 rfl) ?_
            refine lv_iconst (v := (-1)) S.1 S.2.1 dX12_settled_80 ic_m1 ?_
            refine lv_ixor S.1 S.2.1 dX12_settled_81 ?_
            refine lv_iand S.1 S.2.1 dX12_settled_82 ?_
            obtain ⟨x16, hx16, hf⟩ := bnd_e hf
            refine q_iald S hK hW.1 16 0 rfl rfl hx16 dX12_settled_83 ?_
            refine lv_iadd S.1 S.2.1 dX12_settled_84 ?_
            obtain ⟨x17, hx17, hf⟩ := bnd_e hf
            refine Rd.cS (c_X12_greater hx17) S hK va_P.nil kSX12_171 rfl hl.1 [] rfl (Nat.le_of_ble_eq_true rfl) ⟨(Nat.le_of_ble_eq_true rfl), (Nat.le_of_ble_eq_true rfl)⟩ ⟨(Nat.zero_le _), (Nat.zero_le _)⟩ dX12_settled_85 ?_
            refine lv_goto (tgt := 92) S.1 S.2.1 dX12_settled_88 (by decide) ?_
            refine lv_istore_n (lv' := [(3, .int x17), (0, .ref o_q0), (2, .int s4.1), (4, .int s12.2)]) S.1 S.2.1 dX12_settled_92 rfl hl (by decide) rfl (fun ls hl => ?_)
            refine lv_iload S.1 S.2.1 dX12_settled_93 (lv_at hl 3 rfl) ?_
            refine lv_iconst (v := 1) S.1 S.2.1 dX12_settled_95 ic_1 ?_
            refine lv_isub S.1 S.2.1 dX12_settled_96 ?_
            refine lv_iload_n S.1 S.2.1 dX12_settled_97 rfl (lv_at hl 2 rfl) ?_
            refine lv_iand S.1 S.2.1 dX12_settled_98 ?_
            refine lv_topi (fun x18 ex18 => ?_)
            have hf := ltn_e hf ex18
            refine lv_istore (lv' := [(4, .int x18), (3, .int x17), (0, .ref o_q0), (2, .int s4.1)]) S.1 S.2.1 dX12_settled_99 hl (by decide) rfl (fun ls hl => ?_)
            refine lv_goto (tgt := 57) S.1 S.2.1 dX12_settled_101 (by decide) ?_
            exact hI13 _ (Option.some.inj hf).symm _ _ _ (lv_sub hl [2, 3, 1, 0] rfl) hW
      have hf := hf_
      refine lv_if_ne (tgt := 46) S.1 S.2.1 dX12_settled_39 (by decide) (fun c_ => ?_) (fun c_ => ?_)
      · have hf := it_n c_ hf
        refine lv_ldcw (v := (-1000000)) S.1 S.2.1 S.2.2.2.1 (S.2.2.2.2 _ q_1448) dX12_settled_46 ?_
        exact hJ8 _ (Option.some.inj hf) _ _ _ (lv_sub hl [0, 1] rfl) hW
      · have hf := it_p c_ hf
        refine lv_iconst (v := 1) S.1 S.2.1 dX12_settled_42 ic_1 ?_
        refine lv_goto (tgt := 49) S.1 S.2.1 dX12_settled_43 (by decide) ?_
        exact hJ8 _ (Option.some.inj hf) _ _ _ (lv_sub hl [0, 1] rfl) hW
  · have hf := it_p c_ hf
    refine lv_iconst (v := (-1)) S.1 S.2.1 dX12_settled_13 ic_m1 ?_
    have e_ := Option.some.inj hf
    subst e_
    exact hret _ _ _ _ dX12_settled_14 hW
def f_X12_ruin_L63 (fu : Nat) (x1 : Int32 × Int32 × Int32 × Int32 × Int32 × Int32 × Int32 × Int32 × Int32 × Int32 × (Nat → Int32) × (Nat → Int32) × (Nat → Int32) × (Nat → Int32) × (Nat → Int32)) (s9 : Int32 × Int32) (s14 : Int32 × Int32) : Option ((Int32 × Int32) ⊕ (Int32)) := if x1.2.2.1 ≤ s14.2 then some (.inr s14.1) else bnd (α := Int32) (f_X12_has fu s9.1 s14.2) (fun x17 => if x17 = 0 then bnd (α := Int32) (f_X12_owed fu x1.2.2.2.2.2.2.2.2.2.2.2.2.1 s14.2 s9.2) (fun x18 => ltn (s14.1 + x18) (fun x19 => some (.inl (x19, (s14.2 + 1))))) else ltn (s14.1 + (0 : Int32)) (fun x20 => some (.inl (x20, (s14.2 + 1)))))
def f_X12_ruin_L42 (fu : Nat) (x1 : Int32 × Int32 × Int32 × Int32 × Int32 × Int32 × Int32 × Int32 × Int32 × Int32 × (Nat → Int32) × (Nat → Int32) × (Nat → Int32) × (Nat → Int32) × (Nat → Int32)) (s9 : Int32 × Int32) : Option ((Int32 × Int32) ⊕ (Int32)) := if x1.2.2.1 ≤ s9.2 then some (.inr s9.1) else bnd (α := Int32) (rdi 6 x1.2.2.2.2.2.2.2.2.2.2.1 s9.2) (fun x12 => bnd (α := Int32) (lp (f_X12_ruin_L63 fu x1 s9) fu (x12, (0 : Int32))) (fun v21 => bnd (α := Int32) (f_X12_owesAll fu x1.2.2.1 x1.2.2.2.2.2.2.2.2.2.2.2.2.1 s9.2) (fun x22 => if x22 ≤ v21 then ltn (s9.1 ||| (0 : Int32)) (fun x23 => some (.inl (x23, (s9.2 + 1)))) else ltn (s9.1 ||| (jshl (1 : Int32) s9.2)) (fun x24 => some (.inl (x24, (s9.2 + 1)))))))
def f_X12_ruin_L30 (fu : Nat) (x1 : Int32 × Int32 × Int32 × Int32 × Int32 × Int32 × Int32 × Int32 × Int32 × Int32 × (Nat → Int32) × (Nat → Int32) × (Nat → Int32) × (Nat → Int32) × (Nat → Int32)) (s5 : Int32 × Int32) : Option ((Int32 × Int32) ⊕ (Int32)) := if s5.1 = s5.2 then some (.inr s5.1) else bnd (α := Int32) (lp (f_X12_ruin_L42 fu x1) fu (s5.1, (0 : Int32))) (fun v25 => some (.inl (v25, s5.1)))
def f_X12_ruin (fu : Nat) (o_code : Int32) (o_many : (Nat → Int32)) (o_towns : (Nat → Int32)) (o_town : Int32) (o_people : Int32) (o_when : Int32) (o_sat : Int32) (o_quiet : Int32) (o_vain : Int32) (o_lent : Int32) (o_forgiven : Int32) (o_sundays : Int32) (o_purse : (Nat → Int32)) (o_beside : (Nat → Int32)) (o_debts : (Nat → Int32)) (o_sitting : (Nat → Int32)) (o_visited : (Nat → Int32)) (p1 : Int32) (p2 : Int32) : Option (Int32 × Int32 × Int32 × Int32 × Int32 × Int32 × Int32 × Int32 × Int32 × Int32 × Int32 × (Nat → Int32) × (Nat → Int32) × (Nat → Int32) × (Nat → Int32) × (Nat → Int32)) := bnd (α := Int32 × Int32 × Int32 × Int32 × Int32 × Int32 × Int32 × Int32 × Int32 × Int32 × (Nat → Int32) × (Nat → Int32) × (Nat → Int32) × (Nat → Int32) × (Nat → Int32)) (f_X12_hand fu o_many o_towns o_town o_people o_when o_sat o_quiet o_vain o_lent o_forgiven o_sundays o_purse o_beside o_debts o_sitting o_visited p1) (fun x1 => if x1.1 = 0 then some ((-1 : Int32), (0 : Int32), x1.2.1, x1.2.2.1, x1.2.2.2.1, x1.2.2.2.2.1, x1.2.2.2.2.2.1, x1.2.2.2.2.2.2.1, x1.2.2.2.2.2.2.2.1, x1.2.2.2.2.2.2.2.2.1, x1.2.2.2.2.2.2.2.2.2.1, x1.2.2.2.2.2.2.2.2.2.2.1, x1.2.2.2.2.2.2.2.2.2.2.2.1, x1.2.2.2.2.2.2.2.2.2.2.2.2.1, x1.2.2.2.2.2.2.2.2.2.2.2.2.2.1, x1.2.2.2.2.2.2.2.2.2.2.2.2.2.2) else bnd (α := Int32) (f_X12_isPerson fu x1.2.2.1 p2) (fun x2 => if x2 = 0 then some ((-1 : Int32), (0 : Int32), x1.2.1, x1.2.2.1, x1.2.2.2.1, x1.2.2.2.2.1, x1.2.2.2.2.2.1, x1.2.2.2.2.2.2.1, x1.2.2.2.2.2.2.2.1, x1.2.2.2.2.2.2.2.2.1, x1.2.2.2.2.2.2.2.2.2.1, x1.2.2.2.2.2.2.2.2.2.2.1, x1.2.2.2.2.2.2.2.2.2.2.2.1, x1.2.2.2.2.2.2.2.2.2.2.2.2.1, x1.2.2.2.2.2.2.2.2.2.2.2.2.2.1, x1.2.2.2.2.2.2.2.2.2.2.2.2.2.2) else ltn (jshl (1 : Int32) p2) (fun x3 => bnd (α := Int32) (lp (f_X12_ruin_L30 fu x1) fu (x3, (0 : Int32))) (fun v26 => some (v26, (0 : Int32), x1.2.1, x1.2.2.1, x1.2.2.2.1, x1.2.2.2.2.1, x1.2.2.2.2.2.1, x1.2.2.2.2.2.2.1, x1.2.2.2.2.2.2.2.1, x1.2.2.2.2.2.2.2.2.1, x1.2.2.2.2.2.2.2.2.2.1, x1.2.2.2.2.2.2.2.2.2.2.1, x1.2.2.2.2.2.2.2.2.2.2.2.1, x1.2.2.2.2.2.2.2.2.2.2.2.2.1, x1.2.2.2.2.2.2.2.2.2.2.2.2.2.1, x1.2.2.2.2.2.2.2.2.2.2.2.2.2.2)))))
set_option maxHeartbeats 4000000 in
set_option maxRecDepth 100000 in
theorem c_X12_ruin {l : Launch} {D : va_G} {g : Nat → ClassId} {fu : Nat} {o_q0 o_q1 o_q2 o_q3 o_q4 o_q5 o_q6 o_q7 o_q8 o_q9 o_q10 o_q11 o_q12 o_q13 o_q14 o_q15 o_q16 o_q17 o_q18 o_q19 o_q20 o_q21 o_q22 : Nat} {o_code : Int32} {o_tape : (Nat → Int32)} {o_size : (Nat → Int32)} {o_fault : (Nat → Int32)} {o_faultPlace : (Nat → Int32)} {o_many : (Nat → Int32)} {o_towns : (Nat → Int32)} {o_weeks : (Nat → Int32)} {o_logs : (Nat → Int32)} {o_reached : Int32} {o_length : Int32} {o_begins : Int32} {o_sort : Int32} {o_value : Int32} {o_word : Int64} {o_wrongAt : Int32} {o_laterFault : Int32} {o_laterPlace : Int32} {o_told : (Nat → Int32)} {o_read : (Nat → Int32)} {o_farOne : Int32} {o_good : Int32} {o_town : Int32} {o_people : Int32} {o_when : Int32} {o_sat : Int32} {o_quiet : Int32} {o_vain : Int32} {o_lent : Int32} {o_forgiven : Int32} {o_sundays : Int32} {o_purse : (Nat → Int32)} {o_beside : (Nat → Int32)} {o_debts : (Nat → Int32)} {o_sitting : (Nat → Int32)} {o_visited : (Nat → Int32)} {o_week : Int32} {o_heaps : (Nat → Int32)} {o_taken : (Nat → Int32)} {o_best : (Nat → Int32)} {o_more : (Nat → Int32)} {o_firstOne : Int32} {o_log : Int32} {o_fitting : (Nat → Int32)} {o_found : Int32} {o_seed : Int32} {o_row : (Nat → Int32)} {o_saved : (Nat → Int32)} {p1 : Int32} {p2 : Int32} {r : Int32 × Int32 × Int32 × Int32 × Int32 × Int32 × Int32 × Int32 × Int32 × Int32 × Int32 × (Nat → Int32) × (Nat → Int32) × (Nat → Int32) × (Nat → Int32) × (Nat → Int32)} (hf : f_X12_ruin fu o_code o_many o_towns o_town o_people o_when o_sat o_quiet o_vain o_lent o_forgiven o_sundays o_purse o_beside o_debts o_sitting o_visited p1 p2 = some r) : Wr l D (gy g) yX12_ruin cX12_ruin 8 (some .int) 3 [.ref o_q0, .int p1, .int p2] (wMd g o_q0 o_q1 o_q2 o_q3 o_q4 o_q5 o_q6 o_q7 o_q8 o_q9 o_q10 o_q11 o_q12 o_q13 o_q14 o_q15 o_q16 o_q17 o_q18 o_q19 o_q20 o_q21 o_q22 o_code o_tape o_size o_fault o_faultPlace o_many o_towns o_weeks o_logs o_reached o_length o_begins o_sort o_value o_word o_wrongAt o_laterFault o_laterPlace o_told o_read o_farOne o_good o_town o_people o_when o_sat o_quiet o_vain o_lent o_forgiven o_sundays o_purse o_beside o_debts o_sitting o_visited o_week o_heaps o_taken o_best o_more o_firstOne o_log o_fitting o_found o_seed o_row o_saved) (wMd g o_q0 o_q1 o_q2 o_q3 o_q4 o_q5 o_q6 o_q7 o_q8 o_q9 o_q10 o_q11 o_q12 o_q13 o_q14 o_q15 o_q16 o_q17 o_q18 o_q19 o_q20 o_q21 o_q22 r.2.1 o_tape o_size o_fault o_faultPlace o_many o_towns o_weeks o_logs o_reached o_length o_begins o_sort o_value o_word o_wrongAt o_laterFault o_laterPlace o_told o_read o_farOne o_good r.2.2.1 r.2.2.2.1 r.2.2.2.2.1 r.2.2.2.2.2.1 r.2.2.2.2.2.2.1 r.2.2.2.2.2.2.2.1 r.2.2.2.2.2.2.2.2.1 r.2.2.2.2.2.2.2.2.2.1 r.2.2.2.2.2.2.2.2.2.2.1 r.2.2.2.2.2.2.2.2.2.2.2.1 r.2.2.2.2.2.2.2.2.2.2.2.2.1 r.2.2.2.2.2.2.2.2.2.2.2.2.2.1 r.2.2.2.2.2.2.2.2.2.2.2.2.2.2.1 r.2.2.2.2.2.2.2.2.2.2.2.2.2.2.2 o_week o_heaps o_taken o_best o_more o_firstOne o_log o_fitting o_found o_seed o_row o_saved) (some (.int r.1)) := by
  refine Wr.ofI (by decide) (Nat.le_of_ble_eq_true rfl) ?_
  intro p e s m args below meth c Q A S hK hA hret ls hl hW
  have hl : lv_has ls 8 [(0, .ref o_q0), (1, .int p1), (2, .int p2)] := hl
  refine lv_aload_n S.1 S.2.1 dX12_ruin_0 rfl (lv_at hl 0 rfl) ?_
  refine lv_iconst (v := 0) S.1 S.2.1 dX12_ruin_1 ic_0 ?_
  refine pfX12_78 (ws2 := (wMd g o_q0 o_q1 o_q2 o_q3 o_q4 o_q5 o_q6 o_q7 o_q8 o_q9 o_q10 o_q11 o_q12 o_q13 o_q14 o_q15 o_q16 o_q17 o_q18 o_q19 o_q20 o_q21 o_q22 (0 : Int32) o_tape o_size o_fault o_faultPlace o_many o_towns o_weeks o_logs o_reached o_length o_begins o_sort o_value o_word o_wrongAt o_laterFault o_laterPlace o_told o_read o_farOne o_good o_town o_people o_when o_sat o_quiet o_vain o_lent o_forgiven o_sundays o_purse o_beside o_debts o_sitting o_visited o_week o_heaps o_taken o_best o_more o_firstOne o_log o_fitting o_found o_seed o_row o_saved)) S hK hW 0 rfl rfl rfl (Nat.le_of_ble_eq_true rfl) rfl dX12_ruin_2 (fun H locs hW => ?_)
  refine lv_aload_n S.1 S.2.1 dX12_ruin_5 rfl (lv_at hl 0 rfl) ?_
  refine lv_iload_n S.1 S.2.1 dX12_ruin_6 rfl (lv_at hl 1 rfl) ?_
  obtain ⟨x1, hx1, hf⟩ := bnd_e hf
  refine Wr.goW (Wr.runV (c_X12_hand hx1) S hK hW.1 hW.2.1 0 10 rfl rfl kVX12_257 rfl hl.1 [] rfl (Nat.le_of_ble_eq_true rfl) ⟨(Nat.le_of_ble_eq_true rfl), (Nat.le_of_ble_eq_true rfl)⟩ ⟨(Nat.zero_le _), (Nat.zero_le _)⟩ dX12_ruin_7) hW hA (fun H locs hW => ?_)
  refine lv_if_eq (tgt := 21) S.1 S.2.1 dX12_ruin_10 (by decide) (fun c_ => ?_) (fun c_ => ?_)
  · have hf := it_p c_ hf
    refine lv_iconst (v := (-1)) S.1 S.2.1 dX12_ruin_21 ic_m1 ?_
    have e_ := Option.some.inj hf
    subst e_
    exact hret _ _ _ _ dX12_ruin_22 hW
  · have hf := it_n c_ hf
    refine lv_aload_n S.1 S.2.1 dX12_ruin_13 rfl (lv_at hl 0 rfl) ?_
    refine lv_iload_n S.1 S.2.1 dX12_ruin_14 rfl (lv_at hl 2 rfl) ?_
    obtain ⟨x2, hx2, hf⟩ := bnd_e hf
    refine Rd.cV (c_X12_isPerson hx2) S hK hW.1 0 10 rfl rfl kVX12_260 rfl hl.1 [] rfl (Nat.le_of_ble_eq_true rfl) ⟨(Nat.le_of_ble_eq_true rfl), (Nat.le_of_ble_eq_true rfl)⟩ ⟨(Nat.zero_le _), (Nat.zero_le _)⟩ dX12_ruin_15 ?_
    refine lv_if_ne (tgt := 23) S.1 S.2.1 dX12_ruin_18 (by decide) (fun c_ => ?_) (fun c_ => ?_)
    · have hf := it_n c_ hf
      refine lv_iconst (v := 1) S.1 S.2.1 dX12_ruin_23 ic_1 ?_
      refine lv_iload_n S.1 S.2.1 dX12_ruin_24 rfl (lv_at hl 2 rfl) ?_
      refine lv_ishl S.1 S.2.1 dX12_ruin_25 ?_
      refine lv_topi (fun x3 ex3 => ?_)
      have hf := ltn_e hf ex3
      refine lv_istore_n (lv' := [(3, .int x3), (0, .ref o_q0), (1, .int p1), (2, .int p2)]) S.1 S.2.1 dX12_ruin_26 rfl hl (by decide) rfl (fun ls hl => ?_)
      refine lv_iconst (v := 0) S.1 S.2.1 dX12_ruin_27 ic_0 ?_
      refine lv_istore (lv' := [(4, .int (0 : Int32)), (3, .int x3), (0, .ref o_q0), (1, .int p1), (2, .int p2)]) S.1 S.2.1 dX12_ruin_28 hl (by decide) rfl (fun ls hl => ?_)
      obtain ⟨x6, hf_, hk6⟩ := bnd_e hf
      have hE6 : ∀ (v26 : Int32), v26 = x6 → ∀ (ls : Array Slot) (H : Heap) (locs : List Loc), lv_has ls 8 [(3, .int v26)] → St A s.heap D (wMd g o_q0 o_q1 o_q2 o_q3 o_q4 o_q5 o_q6 o_q7 o_q8 o_q9 o_q10 o_q11 o_q12 o_q13 o_q14 o_q15 o_q16 o_q17 o_q18 o_q19 o_q20 o_q21 o_q22 (0 : Int32) o_tape o_size o_fault o_faultPlace o_many o_towns o_weeks o_logs o_reached o_length o_begins o_sort o_value o_word o_wrongAt o_laterFault o_laterPlace o_told o_read o_farOne o_good x1.2.1 x1.2.2.1 x1.2.2.2.1 x1.2.2.2.2.1 x1.2.2.2.2.2.1 x1.2.2.2.2.2.2.1 x1.2.2.2.2.2.2.2.1 x1.2.2.2.2.2.2.2.2.1 x1.2.2.2.2.2.2.2.2.2.1 x1.2.2.2.2.2.2.2.2.2.2.1 x1.2.2.2.2.2.2.2.2.2.2.2.1 x1.2.2.2.2.2.2.2.2.2.2.2.2.1 x1.2.2.2.2.2.2.2.2.2.2.2.2.2.1 x1.2.2.2.2.2.2.2.2.2.2.2.2.2.2 o_week o_heaps o_taken o_best o_more o_firstOne o_log o_fitting o_found o_seed o_row o_saved) H locs → W p l e (rmD 3) s m args below meth c H locs 0 0 Q (F0 m 135 ls []) := by
        intro v26 e_ ls H locs hl hW
        subst e_
        have hf := hk6
        refine lv_iload_n S.1 S.2.1 dX12_ruin_135 rfl (lv_at hl 0 rfl) ?_
        have e_ := Option.some.inj hf
        subst e_
        exact hret _ _ _ _ dX12_ruin_136 hW
      refine lp_ind (P := fun (s5 : Int32 × Int32) => ∀ (ls : Array Slot) (H : Heap) (locs : List Loc), lv_has ls 8 [(0, .ref o_q0), (3, .int s5.1), (4, .int s5.2)] → St A s.heap D (wMd g o_q0 o_q1 o_q2 o_q3 o_q4 o_q5 o_q6 o_q7 o_q8 o_q9 o_q10 o_q11 o_q12 o_q13 o_q14 o_q15 o_q16 o_q17 o_q18 o_q19 o_q20 o_q21 o_q22 (0 : Int32) o_tape o_size o_fault o_faultPlace o_many o_towns o_weeks o_logs o_reached o_length o_begins o_sort o_value o_word o_wrongAt o_laterFault o_laterPlace o_told o_read o_farOne o_good x1.2.1 x1.2.2.1 x1.2.2.2.1 x1.2.2.2.2.1 x1.2.2.2.2.2.1 x1.2.2.2.2.2.2.1 x1.2.2.2.2.2.2.2.1 x1.2.2.2.2.2.2.2.2.1 x1.2.2.2.2.2.2.2.2.2.1 x1.2.2.2.2.2.2.2.2.2.2.1 x1.2.2.2.2.2.2.2.2.2.2.2.1 x1.2.2.2.2.2.2.2.2.2.2.2.2.1 x1.2.2.2.2.2.2.2.2.2.2.2.2.2.1 x1.2.2.2.2.2.2.2.2.2.2.2.2.2.2 o_week o_heaps o_taken o_best o_more o_firstOne o_log o_fitting o_found o_seed o_row o_saved) H locs → W p l e (rmD 3) s m args below meth c H locs 0 0 Q (F0 m 30 ls [])) ?_ _ _ hf_ _ _ _ (lv_sub hl [2, 1, 0] rfl) hW
      intro s5 x7 hf hI6 hR6 ls H locs hl hW
      refine lv_iload_n S.1 S.2.1 dX12_ruin_30 rfl (lv_at hl 1 rfl) ?_
      refine lv_iload S.1 S.2.1 dX12_ruin_31 (lv_at hl 2 rfl) ?_
      refine lv_icmp_eq (tgt := 135) S.1 S.2.1 dX12_ruin_33 (by decide) (fun c_ => ?_) (fun c_ => ?_)
      · have hf := it_p c_ hf
        have e_ := hR6 _ (Option.some.inj hf).symm
        exact hE6 _ e_ _ _ _ (lv_sub hl [1] rfl) hW
      · have hf := it_n c_ hf
        refine lv_iload_n S.1 S.2.1 dX12_ruin_36 rfl (lv_at hl 1 rfl) ?_
        refine lv_istore (lv' := [(4, .int s5.1), (0, .ref o_q0), (3, .int s5.1)]) S.1 S.2.1 dX12_ruin_37 hl (by decide) rfl (fun ls hl => ?_)
        refine lv_iconst (v := 0) S.1 S.2.1 dX12_ruin_39 ic_0 ?_
        refine lv_istore (lv' := [(5, .int (0 : Int32)), (4, .int s5.1), (0, .ref o_q0), (3, .int s5.1)]) S.1 S.2.1 dX12_ruin_40 hl (by decide) rfl (fun ls hl => ?_)
        obtain ⟨x10, hf_, hk10⟩ := bnd_e hf
        have hE10 : ∀ (v25 : Int32), v25 = x10 → ∀ (ls : Array Slot) (H : Heap) (locs : List Loc), lv_has ls 8 [(0, .ref o_q0), (3, .int v25), (4, .int s5.1)] → St A s.heap D (wMd g o_q0 o_q1 o_q2 o_q3 o_q4 o_q5 o_q6 o_q7 o_q8 o_q9 o_q10 o_q11 o_q12 o_q13 o_q14 o_q15 o_q16 o_q17 o_q18 o_q19 o_q20 o_q21 o_q22 (0 : Int32) o_tape o_size o_fault o_faultPlace o_many o_towns o_weeks o_logs o_reached o_length o_begins o_sort o_value o_word o_wrongAt o_laterFault o_laterPlace o_told o_read o_farOne o_good x1.2.1 x1.2.2.1 x1.2.2.2.1 x1.2.2.2.2.1 x1.2.2.2.2.2.1 x1.2.2.2.2.2.2.1 x1.2.2.2.2.2.2.2.1 x1.2.2.2.2.2.2.2.2.1 x1.2.2.2.2.2.2.2.2.2.1 x1.2.2.2.2.2.2.2.2.2.2.1 x1.2.2.2.2.2.2.2.2.2.2.2.1 x1.2.2.2.2.2.2.2.2.2.2.2.2.1 x1.2.2.2.2.2.2.2.2.2.2.2.2.2.1 x1.2.2.2.2.2.2.2.2.2.2.2.2.2.2 o_week o_heaps o_taken o_best o_more o_firstOne o_log o_fitting o_found o_seed o_row o_saved) H locs → W p l e (rmD 3) s m args below meth c H locs 0 0 Q (F0 m 132 ls []) := by
          intro v25 e_ ls H locs hl hW
          subst e_
          have hf := hk10
          refine lv_goto (tgt := 30) S.1 S.2.1 dX12_ruin_132 (by decide) ?_
          exact hI6 _ (Option.some.inj hf).symm _ _ _ (lv_sub hl [0, 1, 2] rfl) hW
        refine lp_ind (P := fun (s9 : Int32 × Int32) => ∀ (ls : Array Slot) (H : Heap) (locs : List Loc), lv_has ls 8 [(0, .ref o_q0), (3, .int s9.1), (4, .int s5.1), (5, .int s9.2)] → St A s.heap D (wMd g o_q0 o_q1 o_q2 o_q3 o_q4 o_q5 o_q6 o_q7 o_q8 o_q9 o_q10 o_q11 o_q12 o_q13 o_q14 o_q15 o_q16 o_q17 o_q18 o_q19 o_q20 o_q21 o_q22 (0 : Int32) o_tape o_size o_fault o_faultPlace o_many o_towns o_weeks o_logs o_reached o_length o_begins o_sort o_value o_word o_wrongAt o_laterFault o_laterPlace o_told o_read o_farOne o_good x1.2.1 x1.2.2.1 x1.2.2.2.1 x1.2.2.2.2.1 x1.2.2.2.2.2.1 x1.2.2.2.2.2.2.1 x1.2.2.2.2.2.2.2.1 x1.2.2.2.2.2.2.2.2.1 x1.2.2.2.2.2.2.2.2.2.1 x1.2.2.2.2.2.2.2.2.2.2.1 x1.2.2.2.2.2.2.2.2.2.2.2.1 x1.2.2.2.2.2.2.2.2.2.2.2.2.1 x1.2.2.2.2.2.2.2.2.2.2.2.2.2.1 x1.2.2.2.2.2.2.2.2.2.2.2.2.2.2 o_week o_heaps o_taken o_best o_more o_firstOne o_log o_fitting o_found o_seed o_row o_saved) H locs → W p l e (rmD 3) s m args below meth c H locs 0 0 Q (F0 m 42 ls [])) ?_ _ _ hf_ _ _ _ (lv_sub hl [2, 3, 1, 0] rfl) hW
        intro s9 x11 hf hI10 hR10 ls H locs hl hW
        refine lv_iload S.1 S.2.1 dX12_ruin_42 (lv_at hl 3 rfl) ?_
        refine lv_aload_n S.1 S.2.1 dX12_ruin_44 rfl (lv_at hl 0 rfl) ?_
        refine gfX12_230 S hK hW.1 0 rfl rfl dX12_ruin_45 ?_
        refine lv_icmp_ge (tgt := 132) S.1 S.2.1 dX12_ruin_48 (by decide) (fun c_ => ?_) (fun c_ => ?_)
        · have hf := it_p c_ hf
          have e_ := hR10 _ (Option.some.inj hf).symm
          exact hE10 _ e_ _ _ _ (lv_sub hl [0, 1, 2] rfl) hW
        · have hf := it_n c_ hf
          refine lv_aload_n S.1 S.2.1 dX12_ruin_51 rfl (lv_at hl 0 rfl) ?_
          refine gfX12_41 S hK hW.1 0 rfl rfl dX12_ruin_52 ?_
          refine lv_iload S.1 S.2.1 dX12_ruin_55 (lv_at hl 3 rfl) ?_
          obtain ⟨x12, hx12, hf⟩ := bnd_e hf
          refine q_iald S hK hW.1 11 0 rfl rfl hx12 dX12_ruin_57 ?_
          refine lv_istore (lv' := [(6, .int x12), (0, .ref o_q0), (3, .int s9.1), (4, .int s5.1), (5, .int s9.2)]) S.1 S.2.1 dX12_ruin_58 hl (by decide) rfl (fun ls hl => ?_)
          refine lv_iconst (v := 0) S.1 S.2.1 dX12_ruin_60 ic_0 ?_
          refine lv_istore (lv' := [(7, .int (0 : Int32)), (6, .int x12), (0, .ref o_q0), (3, .int s9.1), (4, .int s5.1), (5, .int s9.2)]) S.1 S.2.1 dX12_ruin_61 hl (by decide) rfl (fun ls hl => ?_)
          obtain ⟨x15, hf_, hk15⟩ := bnd_e hf
          have hE15 : ∀ (v21 : Int32), v21 = x15 → ∀ (ls : Array Slot) (H : Heap) (locs : List Loc), lv_has ls 8 [(0, .ref o_q0), (3, .int s9.1), (4, .int s5.1), (5, .int s9.2), (6, .int v21)] → St A s.heap D (wMd g o_q0 o_q1 o_q2 o_q3 o_q4 o_q5 o_q6 o_q7 o_q8 o_q9 o_q10 o_q11 o_q12 o_q13 o_q14 o_q15 o_q16 o_q17 o_q18 o_q19 o_q20 o_q21 o_q22 (0 : Int32) o_tape o_size o_fault o_faultPlace o_many o_towns o_weeks o_logs o_reached o_length o_begins o_sort o_value o_word o_wrongAt o_laterFault o_laterPlace o_told o_read o_farOne o_good x1.2.1 x1.2.2.1 x1.2.2.2.1 x1.2.2.2.2.1 x1.2.2.2.2.2.1 x1.2.2.2.2.2.2.1 x1.2.2.2.2.2.2.2.1 x1.2.2.2.2.2.2.2.2.1 x1.2.2.2.2.2.2.2.2.2.1 x1.2.2.2.2.2.2.2.2.2.2.1 x1.2.2.2.2.2.2.2.2.2.2.2.1 x1.2.2.2.2.2.2.2.2.2.2.2.2.1 x1.2.2.2.2.2.2.2.2.2.2.2.2.2.1 x1.2.2.2.2.2.2.2.2.2.2.2.2.2.2 o_week o_heaps o_taken o_best o_more o_firstOne o_log o_fitting o_found o_seed o_row o_saved) H locs → W p l e (rmD 3) s m args below meth c H locs 0 0 Q (F0 m 104 ls []) := by
            intro v21 e_ ls H locs hl hW
            subst e_
            have hf := hk15
            refine lv_iload_n S.1 S.2.1 dX12_ruin_104 rfl (lv_at hl 1 rfl) ?_
            refine lv_aload_n S.1 S.2.1 dX12_ruin_105 rfl (lv_at hl 0 rfl) ?_
            refine lv_iload S.1 S.2.1 dX12_ruin_106 (lv_at hl 3 rfl) ?_
            obtain ⟨x22, hx22, hf⟩ := bnd_e hf
            refine Rd.cV (c_X12_owesAll hx22) S hK hW.1 0 10 rfl rfl kVX12_311 rfl hl.1 [.int s9.1] rfl (Nat.le_of_ble_eq_true rfl) ⟨(Nat.le_of_ble_eq_true rfl), (Nat.le_of_ble_eq_true rfl)⟩ ⟨(Nat.zero_le _), (Nat.zero_le _)⟩ dX12_ruin_108 ?_
            refine lv_iload S.1 S.2.1 dX12_ruin_111 (lv_at hl 4 rfl) ?_
            refine lv_icmp_le (tgt := 123) S.1 S.2.1 dX12_ruin_113 (by decide) (fun c_ => ?_) (fun c_ => ?_)
            · have hf := it_p c_ hf
              refine lv_iconst (v := 0) S.1 S.2.1 dX12_ruin_123 ic_0 ?_
              refine lv_ior S.1 S.2.1 dX12_ruin_124 ?_
              refine lv_topi (fun x23 ex23 => ?_)
              have hf := ltn_e hf ex23
              refine lv_istore_n (lv' := [(3, .int x23), (0, .ref o_q0), (4, .int s5.1), (5, .int s9.2), (6, .int v21)]) S.1 S.2.1 dX12_ruin_125 rfl hl (by decide) rfl (fun ls hl => ?_)
              refine q_iinc (w := 1) (lv' := [(5, .int (s9.2 + 1)), (3, .int x23), (0, .ref o_q0), (4, .int s5.1), (6, .int v21)]) S dX12_ruin_126 hl (k := 3) rfl ic_1 (by decide) rfl (fun ls hl => ?_)
              refine lv_goto (tgt := 42) S.1 S.2.1 dX12_ruin_129 (by decide) ?_
              exact hI10 _ (Option.some.inj hf).symm _ _ _ (lv_sub hl [2, 1, 3, 0] rfl) hW
            · have hf := it_n c_ hf
              refine lv_iconst (v := 1) S.1 S.2.1 dX12_ruin_116 ic_1 ?_
              refine lv_iload S.1 S.2.1 dX12_ruin_117 (lv_at hl 3 rfl) ?_
              refine lv_ishl S.1 S.2.1 dX12_ruin_119 ?_
              refine lv_goto (tgt := 124) S.1 S.2.1 dX12_ruin_120 (by decide) ?_
              refine lv_ior S.1 S.2.1 dX12_ruin_124 ?_
              refine lv_topi (fun x24 ex24 => ?_)
              have hf := ltn_e hf ex24
              refine lv_istore_n (lv' := [(3, .int x24), (0, .ref o_q0), (4, .int s5.1), (5, .int s9.2), (6, .int v21)]) S.1 S.2.1 dX12_ruin_125 rfl hl (by decide) rfl (fun ls hl => ?_)
              refine q_iinc (w := 1) (lv' := [(5, .int (s9.2 + 1)), (3, .int x24), (0, .ref o_q0), (4, .int s5.1), (6, .int v21)]) S dX12_ruin_126 hl (k := 3) rfl ic_1 (by decide) rfl (fun ls hl => ?_)
              refine lv_goto (tgt := 42) S.1 S.2.1 dX12_ruin_129 (by decide) ?_
              exact hI10 _ (Option.some.inj hf).symm _ _ _ (lv_sub hl [2, 1, 3, 0] rfl) hW
          refine lp_ind (P := fun (s14 : Int32 × Int32) => ∀ (ls : Array Slot) (H : Heap) (locs : List Loc), lv_has ls 8 [(0, .ref o_q0), (3, .int s9.1), (4, .int s5.1), (5, .int s9.2), (6, .int s14.1), (7, .int s14.2)] → St A s.heap D (wMd g o_q0 o_q1 o_q2 o_q3 o_q4 o_q5 o_q6 o_q7 o_q8 o_q9 o_q10 o_q11 o_q12 o_q13 o_q14 o_q15 o_q16 o_q17 o_q18 o_q19 o_q20 o_q21 o_q22 (0 : Int32) o_tape o_size o_fault o_faultPlace o_many o_towns o_weeks o_logs o_reached o_length o_begins o_sort o_value o_word o_wrongAt o_laterFault o_laterPlace o_told o_read o_farOne o_good x1.2.1 x1.2.2.1 x1.2.2.2.1 x1.2.2.2.2.1 x1.2.2.2.2.2.1 x1.2.2.2.2.2.2.1 x1.2.2.2.2.2.2.2.1 x1.2.2.2.2.2.2.2.2.1 x1.2.2.2.2.2.2.2.2.2.1 x1.2.2.2.2.2.2.2.2.2.2.1 x1.2.2.2.2.2.2.2.2.2.2.2.1 x1.2.2.2.2.2.2.2.2.2.2.2.2.1 x1.2.2.2.2.2.2.2.2.2.2.2.2.2.1 x1.2.2.2.2.2.2.2.2.2.2.2.2.2.2 o_week o_heaps o_taken o_best o_more o_firstOne o_log o_fitting o_found o_seed o_row o_saved) H locs → W p l e (rmD 3) s m args below meth c H locs 0 0 Q (F0 m 63 ls [])) ?_ _ _ hf_ _ _ _ (lv_sub hl [2, 3, 4, 5, 1, 0] rfl) hW
          intro s14 x16 hf hI15 hR15 ls H locs hl hW
          refine lv_iload S.1 S.2.1 dX12_ruin_63 (lv_at hl 5 rfl) ?_
          refine lv_aload_n S.1 S.2.1 dX12_ruin_65 rfl (lv_at hl 0 rfl) ?_
          refine gfX12_230 S hK hW.1 0 rfl rfl dX12_ruin_66 ?_
          refine lv_icmp_ge (tgt := 104) S.1 S.2.1 dX12_ruin_69 (by decide) (fun c_ => ?_) (fun c_ => ?_)
          · have hf := it_p c_ hf
            have e_ := hR15 _ (Option.some.inj hf).symm
            exact hE15 _ e_ _ _ _ (lv_sub hl [0, 1, 2, 3, 4] rfl) hW
          · have hf := it_n c_ hf
            refine lv_iload S.1 S.2.1 dX12_ruin_72 (lv_at hl 4 rfl) ?_
            refine lv_iload_n S.1 S.2.1 dX12_ruin_74 rfl (lv_at hl 1 rfl) ?_
            refine lv_iload S.1 S.2.1 dX12_ruin_75 (lv_at hl 5 rfl) ?_
            obtain ⟨x17, hx17, hf⟩ := bnd_e hf
            refine Rd.cS (c_X12_has hx17) S hK va_P.nil kSX12_82 rfl hl.1 [.int s14.1] rfl (Nat.le_of_ble_eq_true rfl) ⟨(Nat.le_of_ble_eq_true rfl), (Nat.le_of_ble_eq_true rfl)⟩ ⟨(Nat.zero_le _), (Nat.zero_le _)⟩ dX12_ruin_77 ?_
            refine lv_if_eq (tgt := 87) S.1 S.2.1 dX12_ruin_80 (by decide) (fun c_ => ?_) (fun c_ => ?_)
            · have hf := it_p c_ hf
              refine lv_aload_n S.1 S.2.1 dX12_ruin_87 rfl (lv_at hl 0 rfl) ?_
              refine lv_iload S.1 S.2.1 dX12_ruin_88 (lv_at hl 5 rfl) ?_
              refine lv_iload S.1 S.2.1 dX12_ruin_90 (lv_at hl 3 rfl) ?_
              obtain ⟨x18, hx18, hf⟩ := bnd_e hf
              refine Rd.cV (c_X12_owed hx18) S hK hW.1 0 10 rfl rfl kVX12_254 rfl hl.1 [.int s14.1] rfl (Nat.le_of_ble_eq_true rfl) ⟨(Nat.le_of_ble_eq_true rfl), (Nat.le_of_ble_eq_true rfl)⟩ ⟨(Nat.zero_le _), (Nat.zero_le _)⟩ dX12_ruin_92 ?_
              refine lv_iadd S.1 S.2.1 dX12_ruin_95 ?_
              refine lv_topi (fun x19 ex19 => ?_)
              have hf := ltn_e hf ex19
              refine lv_istore (lv' := [(6, .int x19), (0, .ref o_q0), (3, .int s9.1), (4, .int s5.1), (5, .int s9.2), (7, .int s14.2)]) S.1 S.2.1 dX12_ruin_96 hl (by decide) rfl (fun ls hl => ?_)
              refine q_iinc (w := 1) (lv' := [(7, .int (s14.2 + 1)), (6, .int x19), (0, .ref o_q0), (3, .int s9.1), (4, .int s5.1), (5, .int s9.2)]) S dX12_ruin_98 hl (k := 5) rfl ic_1 (by decide) rfl (fun ls hl => ?_)
              refine lv_goto (tgt := 63) S.1 S.2.1 dX12_ruin_101 (by decide) ?_
              exact hI15 _ (Option.some.inj hf).symm _ _ _ (lv_sub hl [2, 3, 4, 5, 1, 0] rfl) hW
            · have hf := it_n c_ hf
              refine lv_iconst (v := 0) S.1 S.2.1 dX12_ruin_83 ic_0 ?_
              refine lv_goto (tgt := 95) S.1 S.2.1 dX12_ruin_84 (by decide) ?_
              refine lv_iadd S.1 S.2.1 dX12_ruin_95 ?_
              refine lv_topi (fun x20 ex20 => ?_)
              have hf := ltn_e hf ex20
              refine lv_istore (lv' := [(6, .int x20), (0, .ref o_q0), (3, .int s9.1), (4, .int s5.1), (5, .int s9.2), (7, .int s14.2)]) S.1 S.2.1 dX12_ruin_96 hl (by decide) rfl (fun ls hl => ?_)
              refine q_iinc (w := 1) (lv' := [(7, .int (s14.2 + 1)), (6, .int x20), (0, .ref o_q0), (3, .int s9.1), (4, .int s5.1), (5, .int s9.2)]) S dX12_ruin_98 hl (k := 5) rfl ic_1 (by decide) rfl (fun ls hl => ?_)
              refine lv_goto (tgt := 63) S.1 S.2.1 dX12_ruin_101 (by decide) ?_
              exact hI15 _ (Option.some.inj hf).symm _ _ _ (lv_sub hl [2, 3, 4, 5, 1, 0] rfl) hW
    · have hf := it_p c_ hf
      refine lv_iconst (v := (-1)) S.1 S.2.1 dX12_ruin_21 ic_m1 ?_
      have e_ := Option.some.inj hf
      subst e_
      exact hret _ _ _ _ dX12_ruin_22 hW
def f_X12_wittiest_L4 (fu : Nat) (o_towns : (Nat → Int32)) (o_town : Int32) (o_people : Int32) (p1 : Int32) (s2 : Int32 × Int32) : Option ((Int32 × Int32) ⊕ (Int32)) := if o_people ≤ s2.2 then some (.inr s2.1) else bnd (α := Int32) (if s2.1 = (-1 : Int32) then some (1 : Int32) else bnd (α := Int32) (f_X12_of fu o_towns o_town ((1 : Int32) + s2.2)) (fun x8 => bnd (α := Int32) (f_X12_of fu o_towns o_town ((1 : Int32) + s2.1)) (fun x9 => if x8 ≤ x9 then some (0 : Int32) else some (1 : Int32)))) (fun v6 => bnd (α := Int32) (f_X12_has fu p1 s2.2) (fun x7 => if x7 = 0 then if v6 = 0 then some (.inl (s2.1, (s2.2 + 1))) else some (.inl (s2.2, (s2.2 + 1))) else some (.inl (s2.1, (s2.2 + 1)))))
def f_X12_wittiest (fu : Nat) (o_towns : (Nat → Int32)) (o_town : Int32) (o_people : Int32) (p1 : Int32) : Option (Int32) := bnd (α := Int32) (lp (f_X12_wittiest_L4 fu o_towns o_town o_people p1) fu ((-1 : Int32), (0 : Int32))) (fun v10 => some v10)
set_option maxHeartbeats 4000000 in
set_option maxRecDepth 100000 in
theorem c_X12_wittiest {l : Launch} {D : va_G} {g : Nat → ClassId} {fu : Nat} {o_q0 o_q1 o_q2 o_q3 o_q4 o_q5 o_q6 o_q7 o_q8 o_q9 o_q10 o_q11 o_q12 o_q13 o_q14 o_q15 o_q16 o_q17 o_q18 o_q19 o_q20 o_q21 o_q22 : Nat} {o_code : Int32} {o_tape : (Nat → Int32)} {o_size : (Nat → Int32)} {o_fault : (Nat → Int32)} {o_faultPlace : (Nat → Int32)} {o_many : (Nat → Int32)} {o_towns : (Nat → Int32)} {o_weeks : (Nat → Int32)} {o_logs : (Nat → Int32)} {o_reached : Int32} {o_length : Int32} {o_begins : Int32} {o_sort : Int32} {o_value : Int32} {o_word : Int64} {o_wrongAt : Int32} {o_laterFault : Int32} {o_laterPlace : Int32} {o_told : (Nat → Int32)} {o_read : (Nat → Int32)} {o_farOne : Int32} {o_good : Int32} {o_town : Int32} {o_people : Int32} {o_when : Int32} {o_sat : Int32} {o_quiet : Int32} {o_vain : Int32} {o_lent : Int32} {o_forgiven : Int32} {o_sundays : Int32} {o_purse : (Nat → Int32)} {o_beside : (Nat → Int32)} {o_debts : (Nat → Int32)} {o_sitting : (Nat → Int32)} {o_visited : (Nat → Int32)} {o_week : Int32} {o_heaps : (Nat → Int32)} {o_taken : (Nat → Int32)} {o_best : (Nat → Int32)} {o_more : (Nat → Int32)} {o_firstOne : Int32} {o_log : Int32} {o_fitting : (Nat → Int32)} {o_found : Int32} {o_seed : Int32} {o_row : (Nat → Int32)} {o_saved : (Nat → Int32)} {p1 : Int32} {r : Int32} (hf : f_X12_wittiest fu o_towns o_town o_people p1 = some r) : Rd l D (gy g) yX12_wittiest cX12_wittiest 5 (some .int) 1 [.ref o_q0, .int p1] (wMd g o_q0 o_q1 o_q2 o_q3 o_q4 o_q5 o_q6 o_q7 o_q8 o_q9 o_q10 o_q11 o_q12 o_q13 o_q14 o_q15 o_q16 o_q17 o_q18 o_q19 o_q20 o_q21 o_q22 o_code o_tape o_size o_fault o_faultPlace o_many o_towns o_weeks o_logs o_reached o_length o_begins o_sort o_value o_word o_wrongAt o_laterFault o_laterPlace o_told o_read o_farOne o_good o_town o_people o_when o_sat o_quiet o_vain o_lent o_forgiven o_sundays o_purse o_beside o_debts o_sitting o_visited o_week o_heaps o_taken o_best o_more o_firstOne o_log o_fitting o_found o_seed o_row o_saved) (some (.int r)) := by
  refine Rd.ofI (by decide) (Nat.le_of_ble_eq_true rfl) ?_
  intro p e s m args below meth c Q S hK hP hret ls hl
  have hl : lv_has ls 5 [(0, .ref o_q0), (1, .int p1)] := hl
  refine lv_iconst (v := (-1)) S.1 S.2.1 dX12_wittiest_0 ic_m1 ?_
  refine lv_istore_n (lv' := [(2, .int (-1 : Int32)), (0, .ref o_q0), (1, .int p1)]) S.1 S.2.1 dX12_wittiest_1 rfl hl (by decide) rfl (fun ls hl => ?_)
  refine lv_iconst (v := 0) S.1 S.2.1 dX12_wittiest_2 ic_0 ?_
  refine lv_istore_n (lv' := [(3, .int (0 : Int32)), (2, .int (-1 : Int32)), (0, .ref o_q0), (1, .int p1)]) S.1 S.2.1 dX12_wittiest_3 rfl hl (by decide) rfl (fun ls hl => ?_)
  obtain ⟨x3, hf_, hk3⟩ := bnd_e hf
  have hE3 : ∀ (v10 : Int32), v10 = x3 → ∀ (ls : Array Slot), lv_has ls 5 [(2, .int v10)] → W p l e (rmD 1) s m args below meth c s.heap [] 0 0 Q (F0 m 66 ls []) := by
    intro v10 e_ ls hl
    subst e_
    have hf := hk3
    refine lv_iload_n S.1 S.2.1 dX12_wittiest_66 rfl (lv_at hl 0 rfl) ?_
    have e_ := Option.some.inj hf
    subst e_
    exact hret _ _ dX12_wittiest_67
  refine lp_ind (P := fun (s2 : Int32 × Int32) => ∀ (ls : Array Slot), lv_has ls 5 [(0, .ref o_q0), (1, .int p1), (2, .int s2.1), (3, .int s2.2)] → W p l e (rmD 1) s m args below meth c s.heap [] 0 0 Q (F0 m 4 ls [])) ?_ _ _ hf_ _ (lv_sub hl [2, 3, 1, 0] rfl)
  intro s2 x4 hf hI3 hR3 ls hl
  refine lv_iload_n S.1 S.2.1 dX12_wittiest_4 rfl (lv_at hl 3 rfl) ?_
  refine lv_aload_n S.1 S.2.1 dX12_wittiest_5 rfl (lv_at hl 0 rfl) ?_
  refine gfX12_230 S hK hP 0 rfl rfl dX12_wittiest_6 ?_
  refine lv_icmp_ge (tgt := 66) S.1 S.2.1 dX12_wittiest_9 (by decide) (fun c_ => ?_) (fun c_ => ?_)
  · have hf := it_p c_ hf
    have e_ := hR3 _ (Option.some.inj hf).symm
    exact hE3 _ e_ _ (lv_sub hl [2] rfl)
  · have hf := it_n c_ hf
    refine lv_iload_n S.1 S.2.1 dX12_wittiest_12 rfl (lv_at hl 2 rfl) ?_
    refine lv_iconst (v := (-1)) S.1 S.2.1 dX12_wittiest_13 ic_m1 ?_
    obtain ⟨x5, hf_, hk5⟩ := bnd_e hf
    have hJ5 : ∀ (v6 : Int32), v6 = x5 → ∀ (ls : Array Slot), lv_has ls 5 [(0, .ref o_q0), (1, .int p1), (2, .int s2.1), (3, .int s2.2)] → W p l e (rmD 1) s m args below meth c s.heap [] 0 0 Q (F0 m 39 ls [.int v6]) := by
      intro v6 e_ ls hl
      subst e_
      have hf := hk5
      refine lv_istore (lv' := [(4, .int v6), (0, .ref o_q0), (1, .int p1), (2, .int s2.1), (3, .int s2.2)]) S.1 S.2.1 dX12_wittiest_39 hl (by decide) rfl (fun ls hl => ?_)
      refine lv_iload_n S.1 S.2.1 dX12_wittiest_41 rfl (lv_at hl 2 rfl) ?_
      refine lv_iload_n S.1 S.2.1 dX12_wittiest_42 rfl (lv_at hl 4 rfl) ?_
      obtain ⟨x7, hx7, hf⟩ := bnd_e hf
      refine Rd.cS (c_X12_has hx7) S hK va_P.nil kSX12_82 rfl hl.1 [] rfl (Nat.le_of_ble_eq_true rfl) ⟨(Nat.le_of_ble_eq_true rfl), (Nat.le_of_ble_eq_true rfl)⟩ ⟨(Nat.zero_le _), (Nat.zero_le _)⟩ dX12_wittiest_43 ?_
      refine lv_if_ne (tgt := 58) S.1 S.2.1 dX12_wittiest_46 (by decide) (fun c_ => ?_) (fun c_ => ?_)
      · have hf := it_n c_ hf
        refine lv_iload_n S.1 S.2.1 dX12_wittiest_58 rfl (lv_at hl 3 rfl) ?_
        refine lv_istore_n (lv' := [(2, .int s2.1), (4, .int v6), (0, .ref o_q0), (1, .int p1), (3, .int s2.2)]) S.1 S.2.1 dX12_wittiest_59 rfl hl (by decide) rfl (fun ls hl => ?_)
        refine q_iinc (w := 1) (lv' := [(3, .int (s2.2 + 1)), (2, .int s2.1), (4, .int v6), (0, .ref o_q0), (1, .int p1)]) S dX12_wittiest_60 hl (k := 4) rfl ic_1 (by decide) rfl (fun ls hl => ?_)
        refine lv_goto (tgt := 4) S.1 S.2.1 dX12_wittiest_63 (by decide) ?_
        exact hI3 _ (Option.some.inj hf).symm _ (lv_sub hl [3, 4, 1, 0] rfl)
      · have hf := it_p c_ hf
        refine lv_iload S.1 S.2.1 dX12_wittiest_49 (lv_at hl 0 rfl) ?_
        refine lv_if_eq (tgt := 58) S.1 S.2.1 dX12_wittiest_51 (by decide) (fun c_ => ?_) (fun c_ => ?_)
        · have hf := it_p c_ hf
          refine lv_iload_n S.1 S.2.1 dX12_wittiest_58 rfl (lv_at hl 3 rfl) ?_
          refine lv_istore_n (lv' := [(2, .int s2.1), (4, .int v6), (0, .ref o_q0), (1, .int p1), (3, .int s2.2)]) S.1 S.2.1 dX12_wittiest_59 rfl hl (by decide) rfl (fun ls hl => ?_)
          refine q_iinc (w := 1) (lv' := [(3, .int (s2.2 + 1)), (2, .int s2.1), (4, .int v6), (0, .ref o_q0), (1, .int p1)]) S dX12_wittiest_60 hl (k := 4) rfl ic_1 (by decide) rfl (fun ls hl => ?_)
          refine lv_goto (tgt := 4) S.1 S.2.1 dX12_wittiest_63 (by decide) ?_
          exact hI3 _ (Option.some.inj hf).symm _ (lv_sub hl [3, 4, 1, 0] rfl)
        · have hf := it_n c_ hf
          refine lv_iload_n S.1 S.2.1 dX12_wittiest_54 rfl (lv_at hl 4 rfl) ?_
          refine lv_goto (tgt := 59) S.1 S.2.1 dX12_wittiest_55 (by decide) ?_
          refine lv_istore_n (lv' := [(2, .int s2.2), (4, .int v6), (0, .ref o_q0), (1, .int p1), (3, .int s2.2)]) S.1 S.2.1 dX12_wittiest_59 rfl hl (by decide) rfl (fun ls hl => ?_)
          refine q_iinc (w := 1) (lv' := [(3, .int (s2.2 + 1)), (2, .int s2.2), (4, .int v6), (0, .ref o_q0), (1, .int p1)]) S dX12_wittiest_60 hl (k := 4) rfl ic_1 (by decide) rfl (fun ls hl => ?_)
          refine lv_goto (tgt := 4) S.1 S.2.1 dX12_wittiest_63 (by decide) ?_
          exact hI3 _ (Option.some.inj hf).symm _ (lv_sub hl [3, 4, 1, 0] rfl)
    have hf := hf_
    refine lv_icmp_eq (tgt := 34) S.1 S.2.1 dX12_wittiest_14 (by decide) (fun c_ => ?_) (fun c_ => ?_)
    · have hf := it_p c_ hf
      refine lv_iconst (v := 1) S.1 S.2.1 dX12_wittiest_34 ic_1 ?_
      refine lv_goto (tgt := 39) S.1 S.2.1 dX12_wittiest_35 (by decide) ?_
      exact hJ5 _ (Option.some.inj hf) _ (lv_sub hl [0, 1, 2, 3] rfl)
    · have hf := it_n c_ hf
      refine lv_aload_n S.1 S.2.1 dX12_wittiest_17 rfl (lv_at hl 0 rfl) ?_
      refine lv_iconst (v := 1) S.1 S.2.1 dX12_wittiest_18 ic_1 ?_
      refine lv_iload_n S.1 S.2.1 dX12_wittiest_19 rfl (lv_at hl 3 rfl) ?_
      refine lv_iadd S.1 S.2.1 dX12_wittiest_20 ?_
      obtain ⟨x8, hx8, hf⟩ := bnd_e hf
      refine Rd.cV (c_X12_of hx8) S hK hP 0 10 rfl rfl kVX12_226 rfl hl.1 [] rfl (Nat.le_of_ble_eq_true rfl) ⟨(Nat.le_of_ble_eq_true rfl), (Nat.le_of_ble_eq_true rfl)⟩ ⟨(Nat.zero_le _), (Nat.zero_le _)⟩ dX12_wittiest_21 ?_
      refine lv_aload_n S.1 S.2.1 dX12_wittiest_24 rfl (lv_at hl 0 rfl) ?_
      refine lv_iconst (v := 1) S.1 S.2.1 dX12_wittiest_25 ic_1 ?_
      refine lv_iload_n S.1 S.2.1 dX12_wittiest_26 rfl (lv_at hl 2 rfl) ?_
      refine lv_iadd S.1 S.2.1 dX12_wittiest_27 ?_
      obtain ⟨x9, hx9, hf⟩ := bnd_e hf
      refine Rd.cV (c_X12_of hx9) S hK hP 0 10 rfl rfl kVX12_226 rfl hl.1 [.int x8] rfl (Nat.le_of_ble_eq_true rfl) ⟨(Nat.le_of_ble_eq_true rfl), (Nat.le_of_ble_eq_true rfl)⟩ ⟨(Nat.zero_le _), (Nat.zero_le _)⟩ dX12_wittiest_28 ?_
      refine lv_icmp_le (tgt := 38) S.1 S.2.1 dX12_wittiest_31 (by decide) (fun c_ => ?_) (fun c_ => ?_)
      · have hf := it_p c_ hf
        refine lv_iconst (v := 0) S.1 S.2.1 dX12_wittiest_38 ic_0 ?_
        exact hJ5 _ (Option.some.inj hf) _ (lv_sub hl [0, 1, 2, 3] rfl)
      · have hf := it_n c_ hf
        refine lv_iconst (v := 1) S.1 S.2.1 dX12_wittiest_34 ic_1 ?_
        refine lv_goto (tgt := 39) S.1 S.2.1 dX12_wittiest_35 (by decide) ?_
        exact hJ5 _ (Option.some.inj hf) _ (lv_sub hl [0, 1, 2, 3] rfl)
def f_X12_borrow_L69 (fu : Nat) (o_towns : (Nat → Int32)) (x2 : Int32 × Int32 × Int32 × Int32 × Int32 × Int32 × Int32 × Int32 × Int32 × Int32 × (Nat → Int32) × (Nat → Int32) × (Nat → Int32) × (Nat → Int32) × (Nat → Int32)) (s9 : Int32 × Int32 × Int32 × Int32 × (Nat → Int32)) : Option ((Int32 × Int32 × Int32 × Int32 × (Nat → Int32)) ⊕ (Int32 × Int32 × (Nat → Int32))) := if x2.2.2.1 ≤ s9.2.2.2.1 then some (.inr (s9.2.1, s9.2.2.1, s9.2.2.2.2)) else bnd (α := Int32) (f_X12_wittiest fu o_towns x2.2.1 x2.2.2.1 s9.1) (fun x12 => bnd (α := Int32) (rdi 6 x2.2.2.2.2.2.2.2.2.2.2.1 x12) (fun x13 => bnd (α := Int32) (f_X12_lesser fu s9.2.1 x13) (fun x14 => bnd (α := (Nat → Int32)) (wri 6 s9.2.2.2.2 x12 x14) (fun x15 => bnd (α := Int32) (rdi 6 x15 x12) (fun x16 => ltn (s9.2.1 - x16) (fun x17 => bnd (α := Int32) (rdi 6 x15 x12) (fun x18 => bnd (α := Int32) (f_X12_of fu o_towns x2.2.1 ((1 : Int32) + x12)) (fun x19 => ltn (s9.2.2.1 + (x18 * ((10 : Int32) - x19))) (fun x20 => ltn (s9.1 ||| (jshl (1 : Int32) x12)) (fun x21 => some (.inl (x21, x17, x20, (s9.2.2.2.1 + 1), x15))))))))))))
def f_X12_borrow (fu : Nat) (o_code : Int32) (o_many : (Nat → Int32)) (o_towns : (Nat → Int32)) (o_town : Int32) (o_people : Int32) (o_when : Int32) (o_sat : Int32) (o_quiet : Int32) (o_vain : Int32) (o_lent : Int32) (o_forgiven : Int32) (o_sundays : Int32) (o_purse : (Nat → Int32)) (o_beside : (Nat → Int32)) (o_debts : (Nat → Int32)) (o_sitting : (Nat → Int32)) (o_visited : (Nat → Int32)) (o_taken : (Nat → Int32)) (p1 : Int32) (p2 : Int32) (p3 : Int32) (p4 : Int32) : Option (Int32 × Int32 × Int32 × Int32 × Int32 × Int32 × Int32 × Int32 × Int32 × Int32 × Int32 × (Nat → Int32) × (Nat → Int32) × (Nat → Int32) × (Nat → Int32) × (Nat → Int32) × (Nat → Int32)) := bnd (α := Int32) (f_X12_in fu p3 (1 : Int32) (99 : Int32)) (fun x1 => if x1 = 0 then some ((-1 : Int32), (0 : Int32), o_town, o_people, o_when, o_sat, o_quiet, o_vain, o_lent, o_forgiven, o_sundays, o_purse, o_beside, o_debts, o_sitting, o_visited, o_taken) else bnd (α := Int32 × Int32 × Int32 × Int32 × Int32 × Int32 × Int32 × Int32 × Int32 × Int32 × (Nat → Int32) × (Nat → Int32) × (Nat → Int32) × (Nat → Int32) × (Nat → Int32)) (f_X12_hand fu o_many o_towns o_town o_people o_when o_sat o_quiet o_vain o_lent o_forgiven o_sundays o_purse o_beside o_debts o_sitting o_visited p1) (fun x2 => if x2.1 = 0 then some ((-1 : Int32), (0 : Int32), x2.2.1, x2.2.2.1, x2.2.2.2.1, x2.2.2.2.2.1, x2.2.2.2.2.2.1, x2.2.2.2.2.2.2.1, x2.2.2.2.2.2.2.2.1, x2.2.2.2.2.2.2.2.2.1, x2.2.2.2.2.2.2.2.2.2.1, x2.2.2.2.2.2.2.2.2.2.2.1, x2.2.2.2.2.2.2.2.2.2.2.2.1, x2.2.2.2.2.2.2.2.2.2.2.2.2.1, x2.2.2.2.2.2.2.2.2.2.2.2.2.2.1, x2.2.2.2.2.2.2.2.2.2.2.2.2.2.2, o_taken) else bnd (α := Int32) (f_X12_isPerson fu x2.2.2.1 p2) (fun x3 => if x3 = 0 then some ((-1 : Int32), (0 : Int32), x2.2.1, x2.2.2.1, x2.2.2.2.1, x2.2.2.2.2.1, x2.2.2.2.2.2.1, x2.2.2.2.2.2.2.1, x2.2.2.2.2.2.2.2.1, x2.2.2.2.2.2.2.2.2.1, x2.2.2.2.2.2.2.2.2.2.1, x2.2.2.2.2.2.2.2.2.2.2.1, x2.2.2.2.2.2.2.2.2.2.2.2.1, x2.2.2.2.2.2.2.2.2.2.2.2.2.1, x2.2.2.2.2.2.2.2.2.2.2.2.2.2.1, x2.2.2.2.2.2.2.2.2.2.2.2.2.2.2, o_taken) else bnd (α := (Int32 × Int32 × Int32 × Int32 × Int32 × Int32 × Int32 × Int32 × Int32 × Int32 × Int32 × (Nat → Int32) × (Nat → Int32) × (Nat → Int32) × (Nat → Int32) × (Nat → Int32) × (Nat → Int32)) ⊕ (Unit)) (if p4 = (-1 : Int32) then some (.inr ()) else bnd (α := Int32) (f_X12_isPerson fu x2.2.2.1 p4) (fun x24 => if x24 = 0 then some (.inl ((-1 : Int32), (0 : Int32), x2.2.1, x2.2.2.1, x2.2.2.2.1, x2.2.2.2.2.1, x2.2.2.2.2.2.1, x2.2.2.2.2.2.2.1, x2.2.2.2.2.2.2.2.1, x2.2.2.2.2.2.2.2.2.1, x2.2.2.2.2.2.2.2.2.2.1, x2.2.2.2.2.2.2.2.2.2.2.1, x2.2.2.2.2.2.2.2.2.2.2.2.1, x2.2.2.2.2.2.2.2.2.2.2.2.2.1, x2.2.2.2.2.2.2.2.2.2.2.2.2.2.1, x2.2.2.2.2.2.2.2.2.2.2.2.2.2.2, o_taken)) else some (.inr ()))) (fun x4 => cse x4 (fun y25 => some y25) (fun v5 => ltn (jshl (1 : Int32) p2) (fun x6 => bnd (α := (Nat → Int32)) (wri 6 o_taken p2 (0 : Int32)) (fun x7 => bnd (α := Int32 × Int32 × (Nat → Int32)) (lp (f_X12_borrow_L69 fu o_towns x2) fu (x6, p3, (0 : Int32), (1 : Int32), x7)) (fun v22 => if v22.1 ≤ 0 then if p4 = (-1 : Int32) then some (v22.2.1, (0 : Int32), x2.2.1, x2.2.2.1, x2.2.2.2.1, x2.2.2.2.2.1, x2.2.2.2.2.2.1, x2.2.2.2.2.2.2.1, x2.2.2.2.2.2.2.2.1, x2.2.2.2.2.2.2.2.2.1, x2.2.2.2.2.2.2.2.2.2.1, x2.2.2.2.2.2.2.2.2.2.2.1, x2.2.2.2.2.2.2.2.2.2.2.2.1, x2.2.2.2.2.2.2.2.2.2.2.2.2.1, x2.2.2.2.2.2.2.2.2.2.2.2.2.2.1, x2.2.2.2.2.2.2.2.2.2.2.2.2.2.2, v22.2.2) else bnd (α := Int32) (rdi 6 v22.2.2 p4) (fun x23 => some (x23, (0 : Int32), x2.2.1, x2.2.2.1, x2.2.2.2.1, x2.2.2.2.2.1, x2.2.2.2.2.2.1, x2.2.2.2.2.2.2.1, x2.2.2.2.2.2.2.2.1, x2.2.2.2.2.2.2.2.2.1, x2.2.2.2.2.2.2.2.2.2.1, x2.2.2.2.2.2.2.2.2.2.2.1, x2.2.2.2.2.2.2.2.2.2.2.2.1, x2.2.2.2.2.2.2.2.2.2.2.2.2.1, x2.2.2.2.2.2.2.2.2.2.2.2.2.2.1, x2.2.2.2.2.2.2.2.2.2.2.2.2.2.2, v22.2.2)) else some ((-1 : Int32), (0 : Int32), x2.2.1, x2.2.2.1, x2.2.2.2.1, x2.2.2.2.2.1, x2.2.2.2.2.2.1, x2.2.2.2.2.2.2.1, x2.2.2.2.2.2.2.2.1, x2.2.2.2.2.2.2.2.2.1, x2.2.2.2.2.2.2.2.2.2.1, x2.2.2.2.2.2.2.2.2.2.2.1, x2.2.2.2.2.2.2.2.2.2.2.2.1, x2.2.2.2.2.2.2.2.2.2.2.2.2.1, x2.2.2.2.2.2.2.2.2.2.2.2.2.2.1, x2.2.2.2.2.2.2.2.2.2.2.2.2.2.2, v22.2.2)))))))))
set_option maxHeartbeats 4000000 in
set_option maxRecDepth 100000 in
theorem c_X12_borrow {l : Launch} {D : va_G} {g : Nat → ClassId} {fu : Nat} {o_q0 o_q1 o_q2 o_q3 o_q4 o_q5 o_q6 o_q7 o_q8 o_q9 o_q10 o_q11 o_q12 o_q13 o_q14 o_q15 o_q16 o_q17 o_q18 o_q19 o_q20 o_q21 o_q22 : Nat} {o_code : Int32} {o_tape : (Nat → Int32)} {o_size : (Nat → Int32)} {o_fault : (Nat → Int32)} {o_faultPlace : (Nat → Int32)} {o_many : (Nat → Int32)} {o_towns : (Nat → Int32)} {o_weeks : (Nat → Int32)} {o_logs : (Nat → Int32)} {o_reached : Int32} {o_length : Int32} {o_begins : Int32} {o_sort : Int32} {o_value : Int32} {o_word : Int64} {o_wrongAt : Int32} {o_laterFault : Int32} {o_laterPlace : Int32} {o_told : (Nat → Int32)} {o_read : (Nat → Int32)} {o_farOne : Int32} {o_good : Int32} {o_town : Int32} {o_people : Int32} {o_when : Int32} {o_sat : Int32} {o_quiet : Int32} {o_vain : Int32} {o_lent : Int32} {o_forgiven : Int32} {o_sundays : Int32} {o_purse : (Nat → Int32)} {o_beside : (Nat → Int32)} {o_debts : (Nat → Int32)} {o_sitting : (Nat → Int32)} {o_visited : (Nat → Int32)} {o_week : Int32} {o_heaps : (Nat → Int32)} {o_taken : (Nat → Int32)} {o_best : (Nat → Int32)} {o_more : (Nat → Int32)} {o_firstOne : Int32} {o_log : Int32} {o_fitting : (Nat → Int32)} {o_found : Int32} {o_seed : Int32} {o_row : (Nat → Int32)} {o_saved : (Nat → Int32)} {p1 : Int32} {p2 : Int32} {p3 : Int32} {p4 : Int32} {r : Int32 × Int32 × Int32 × Int32 × Int32 × Int32 × Int32 × Int32 × Int32 × Int32 × Int32 × (Nat → Int32) × (Nat → Int32) × (Nat → Int32) × (Nat → Int32) × (Nat → Int32) × (Nat → Int32)} (hf : f_X12_borrow fu o_code o_many o_towns o_town o_people o_when o_sat o_quiet o_vain o_lent o_forgiven o_sundays o_purse o_beside o_debts o_sitting o_visited o_taken p1 p2 p3 p4 = some r) : Wr l D (gy g) yX12_borrow cX12_borrow 10 (some .int) 3 [.ref o_q0, .int p1, .int p2, .int p3, .int p4] (wMd g o_q0 o_q1 o_q2 o_q3 o_q4 o_q5 o_q6 o_q7 o_q8 o_q9 o_q10 o_q11 o_q12 o_q13 o_q14 o_q15 o_q16 o_q17 o_q18 o_q19 o_q20 o_q21 o_q22 o_code o_tape o_size o_fault o_faultPlace o_many o_towns o_weeks o_logs o_reached o_length o_begins o_sort o_value o_word o_wrongAt o_laterFault o_laterPlace o_told o_read o_farOne o_good o_town o_people o_when o_sat o_quiet o_vain o_lent o_forgiven o_sundays o_purse o_beside o_debts o_sitting o_visited o_week o_heaps o_taken o_best o_more o_firstOne o_log o_fitting o_found o_seed o_row o_saved) (wMd g o_q0 o_q1 o_q2 o_q3 o_q4 o_q5 o_q6 o_q7 o_q8 o_q9 o_q10 o_q11 o_q12 o_q13 o_q14 o_q15 o_q16 o_q17 o_q18 o_q19 o_q20 o_q21 o_q22 r.2.1 o_tape o_size o_fault o_faultPlace o_many o_towns o_weeks o_logs o_reached o_length o_begins o_sort o_value o_word o_wrongAt o_laterFault o_laterPlace o_told o_read o_farOne o_good r.2.2.1 r.2.2.2.1 r.2.2.2.2.1 r.2.2.2.2.2.1 r.2.2.2.2.2.2.1 r.2.2.2.2.2.2.2.1 r.2.2.2.2.2.2.2.2.1 r.2.2.2.2.2.2.2.2.2.1 r.2.2.2.2.2.2.2.2.2.2.1 r.2.2.2.2.2.2.2.2.2.2.2.1 r.2.2.2.2.2.2.2.2.2.2.2.2.1 r.2.2.2.2.2.2.2.2.2.2.2.2.2.1 r.2.2.2.2.2.2.2.2.2.2.2.2.2.2.1 r.2.2.2.2.2.2.2.2.2.2.2.2.2.2.2.1 o_week o_heaps r.2.2.2.2.2.2.2.2.2.2.2.2.2.2.2.2 o_best o_more o_firstOne o_log o_fitting o_found o_seed o_row o_saved) (some (.int r.1)) := by
  refine Wr.ofI (by decide) (Nat.le_of_ble_eq_true rfl) ?_
  intro p e s m args below meth c Q A S hK hA hret ls hl hW
  have hl : lv_has ls 10 [(0, .ref o_q0), (1, .int p1), (2, .int p2), (3, .int p3), (4, .int p4)] := hl
  refine lv_aload_n S.1 S.2.1 dX12_borrow_0 rfl (lv_at hl 0 rfl) ?_
  refine lv_iconst (v := 0) S.1 S.2.1 dX12_borrow_1 ic_0 ?_
  refine pfX12_78 (ws2 := (wMd g o_q0 o_q1 o_q2 o_q3 o_q4 o_q5 o_q6 o_q7 o_q8 o_q9 o_q10 o_q11 o_q12 o_q13 o_q14 o_q15 o_q16 o_q17 o_q18 o_q19 o_q20 o_q21 o_q22 (0 : Int32) o_tape o_size o_fault o_faultPlace o_many o_towns o_weeks o_logs o_reached o_length o_begins o_sort o_value o_word o_wrongAt o_laterFault o_laterPlace o_told o_read o_farOne o_good o_town o_people o_when o_sat o_quiet o_vain o_lent o_forgiven o_sundays o_purse o_beside o_debts o_sitting o_visited o_week o_heaps o_taken o_best o_more o_firstOne o_log o_fitting o_found o_seed o_row o_saved)) S hK hW 0 rfl rfl rfl (Nat.le_of_ble_eq_true rfl) rfl dX12_borrow_2 (fun H locs hW => ?_)
  refine lv_iload_n S.1 S.2.1 dX12_borrow_5 rfl (lv_at hl 3 rfl) ?_
  refine lv_iconst (v := 1) S.1 S.2.1 dX12_borrow_6 ic_1 ?_
  refine lv_bipush (v := 99) S.1 S.2.1 dX12_borrow_7 bp_99 ?_
  obtain ⟨x1, hx1, hf⟩ := bnd_e hf
  refine Rd.cS (c_X12_in hx1) S hK va_P.nil kSX12_90 rfl hl.1 [] rfl (Nat.le_of_ble_eq_true rfl) ⟨(Nat.le_of_ble_eq_true rfl), (Nat.le_of_ble_eq_true rfl)⟩ ⟨(Nat.zero_le _), (Nat.zero_le _)⟩ dX12_borrow_9 ?_
  refine lv_if_eq (tgt := 46) S.1 S.2.1 dX12_borrow_12 (by decide) (fun c_ => ?_) (fun c_ => ?_)
  · have hf := it_p c_ hf
    refine lv_iconst (v := (-1)) S.1 S.2.1 dX12_borrow_46 ic_m1 ?_
    have e_ := Option.some.inj hf
    subst e_
    exact hret _ _ _ _ dX12_borrow_47 hW
  · have hf := it_n c_ hf
    refine lv_aload_n S.1 S.2.1 dX12_borrow_15 rfl (lv_at hl 0 rfl) ?_
    refine lv_iload_n S.1 S.2.1 dX12_borrow_16 rfl (lv_at hl 1 rfl) ?_
    obtain ⟨x2, hx2, hf⟩ := bnd_e hf
    refine Wr.goW (Wr.runV (c_X12_hand hx2) S hK hW.1 hW.2.1 0 10 rfl rfl kVX12_257 rfl hl.1 [] rfl (Nat.le_of_ble_eq_true rfl) ⟨(Nat.le_of_ble_eq_true rfl), (Nat.le_of_ble_eq_true rfl)⟩ ⟨(Nat.zero_le _), (Nat.zero_le _)⟩ dX12_borrow_17) hW hA (fun H locs hW => ?_)
    refine lv_if_eq (tgt := 46) S.1 S.2.1 dX12_borrow_20 (by decide) (fun c_ => ?_) (fun c_ => ?_)
    · have hf := it_p c_ hf
      refine lv_iconst (v := (-1)) S.1 S.2.1 dX12_borrow_46 ic_m1 ?_
      have e_ := Option.some.inj hf
      subst e_
      exact hret _ _ _ _ dX12_borrow_47 hW
    · have hf := it_n c_ hf
      refine lv_aload_n S.1 S.2.1 dX12_borrow_23 rfl (lv_at hl 0 rfl) ?_
      refine lv_iload_n S.1 S.2.1 dX12_borrow_24 rfl (lv_at hl 2 rfl) ?_
      obtain ⟨x3, hx3, hf⟩ := bnd_e hf
      refine Rd.cV (c_X12_isPerson hx3) S hK hW.1 0 10 rfl rfl kVX12_260 rfl hl.1 [] rfl (Nat.le_of_ble_eq_true rfl) ⟨(Nat.le_of_ble_eq_true rfl), (Nat.le_of_ble_eq_true rfl)⟩ ⟨(Nat.zero_le _), (Nat.zero_le _)⟩ dX12_borrow_25 ?_
      refine lv_if_eq (tgt := 46) S.1 S.2.1 dX12_borrow_28 (by decide) (fun c_ => ?_) (fun c_ => ?_)
      · have hf := it_p c_ hf
        refine lv_iconst (v := (-1)) S.1 S.2.1 dX12_borrow_46 ic_m1 ?_
        have e_ := Option.some.inj hf
        subst e_
        exact hret _ _ _ _ dX12_borrow_47 hW
      · have hf := it_n c_ hf
        refine lv_iload S.1 S.2.1 dX12_borrow_31 (lv_at hl 4 rfl) ?_
        refine lv_iconst (v := (-1)) S.1 S.2.1 dX12_borrow_33 ic_m1 ?_
        obtain ⟨x4, hf_, hk4⟩ := bnd_e hf
        have hJ4 : ∀ (v5 : Unit), x4 = .inr v5 → ∀ (ls : Array Slot) (H : Heap) (locs : List Loc), lv_has ls 10 [(0, .ref o_q0), (2, .int p2), (3, .int p3), (4, .int p4)] → St A s.heap D (wMd g o_q0 o_q1 o_q2 o_q3 o_q4 o_q5 o_q6 o_q7 o_q8 o_q9 o_q10 o_q11 o_q12 o_q13 o_q14 o_q15 o_q16 o_q17 o_q18 o_q19 o_q20 o_q21 o_q22 (0 : Int32) o_tape o_size o_fault o_faultPlace o_many o_towns o_weeks o_logs o_reached o_length o_begins o_sort o_value o_word o_wrongAt o_laterFault o_laterPlace o_told o_read o_farOne o_good x2.2.1 x2.2.2.1 x2.2.2.2.1 x2.2.2.2.2.1 x2.2.2.2.2.2.1 x2.2.2.2.2.2.2.1 x2.2.2.2.2.2.2.2.1 x2.2.2.2.2.2.2.2.2.1 x2.2.2.2.2.2.2.2.2.2.1 x2.2.2.2.2.2.2.2.2.2.2.1 x2.2.2.2.2.2.2.2.2.2.2.2.1 x2.2.2.2.2.2.2.2.2.2.2.2.2.1 x2.2.2.2.2.2.2.2.2.2.2.2.2.2.1 x2.2.2.2.2.2.2.2.2.2.2.2.2.2.2 o_week o_heaps o_taken o_best o_more o_firstOne o_log o_fitting o_found o_seed o_row o_saved) H locs → W p l e (rmD 3) s m args below meth c H locs 0 0 Q (F0 m 48 ls []) := by
          intro v5 e_ ls H locs hl hW
          subst e_
          have hf := cse_r hk4
          refine lv_iconst (v := 1) S.1 S.2.1 dX12_borrow_48 ic_1 ?_
          refine lv_iload_n S.1 S.2.1 dX12_borrow_49 rfl (lv_at hl 1 rfl) ?_
          refine lv_ishl S.1 S.2.1 dX12_borrow_50 ?_
          refine lv_topi (fun x6 ex6 => ?_)
          have hf := ltn_e hf ex6
          refine lv_istore (lv' := [(5, .int x6), (0, .ref o_q0), (2, .int p2), (3, .int p3), (4, .int p4)]) S.1 S.2.1 dX12_borrow_51 hl (by decide) rfl (fun ls hl => ?_)
          refine lv_iload_n S.1 S.2.1 dX12_borrow_53 rfl (lv_at hl 3 rfl) ?_
          refine lv_istore (lv' := [(6, .int p3), (5, .int x6), (0, .ref o_q0), (2, .int p2), (3, .int p3), (4, .int p4)]) S.1 S.2.1 dX12_borrow_54 hl (by decide) rfl (fun ls hl => ?_)
          refine lv_iconst (v := 0) S.1 S.2.1 dX12_borrow_56 ic_0 ?_
          refine lv_istore (lv' := [(7, .int (0 : Int32)), (6, .int p3), (5, .int x6), (0, .ref o_q0), (2, .int p2), (3, .int p3), (4, .int p4)]) S.1 S.2.1 dX12_borrow_57 hl (by decide) rfl (fun ls hl => ?_)
          refine lv_aload_n S.1 S.2.1 dX12_borrow_59 rfl (lv_at hl 3 rfl) ?_
          refine gfX12_59 S hK hW.1 0 rfl rfl dX12_borrow_60 ?_
          refine lv_iload_n S.1 S.2.1 dX12_borrow_63 rfl (lv_at hl 4 rfl) ?_
          refine lv_iconst (v := 0) S.1 S.2.1 dX12_borrow_64 ic_0 ?_
          obtain ⟨x7, hx7, hf⟩ := bnd_e hf
          refine q_iast (ws2 := (wMd g o_q0 o_q1 o_q2 o_q3 o_q4 o_q5 o_q6 o_q7 o_q8 o_q9 o_q10 o_q11 o_q12 o_q13 o_q14 o_q15 o_q16 o_q17 o_q18 o_q19 o_q20 o_q21 o_q22 (0 : Int32) o_tape o_size o_fault o_faultPlace o_many o_towns o_weeks o_logs o_reached o_length o_begins o_sort o_value o_word o_wrongAt o_laterFault o_laterPlace o_told o_read o_farOne o_good x2.2.1 x2.2.2.1 x2.2.2.2.1 x2.2.2.2.2.1 x2.2.2.2.2.2.1 x2.2.2.2.2.2.2.1 x2.2.2.2.2.2.2.2.1 x2.2.2.2.2.2.2.2.2.1 x2.2.2.2.2.2.2.2.2.2.1 x2.2.2.2.2.2.2.2.2.2.2.1 x2.2.2.2.2.2.2.2.2.2.2.2.1 x2.2.2.2.2.2.2.2.2.2.2.2.2.1 x2.2.2.2.2.2.2.2.2.2.2.2.2.2.1 x2.2.2.2.2.2.2.2.2.2.2.2.2.2.2 o_week o_heaps x7 o_best o_more o_firstOne o_log o_fitting o_found o_seed o_row o_saved)) S hK hW 17 0 rfl rfl hx7 rfl dX12_borrow_65 (fun H locs hW => ?_)
          refine lv_iconst (v := 1) S.1 S.2.1 dX12_borrow_66 ic_1 ?_
          refine lv_istore (lv' := [(8, .int (1 : Int32)), (7, .int (0 : Int32)), (6, .int p3), (5, .int x6), (0, .ref o_q0), (2, .int p2), (3, .int p3), (4, .int p4)]) S.1 S.2.1 dX12_borrow_67 hl (by decide) rfl (fun ls hl => ?_)
          obtain ⟨x10, hf_, hk10⟩ := bnd_e hf
          have hE10 : ∀ (v22 : Int32 × Int32 × (Nat → Int32)), v22 = x10 → ∀ (ls : Array Slot) (H : Heap) (locs : List Loc), lv_has ls 10 [(0, .ref o_q0), (4, .int p4), (6, .int v22.1), (7, .int v22.2.1)] → St A s.heap D (wMd g o_q0 o_q1 o_q2 o_q3 o_q4 o_q5 o_q6 o_q7 o_q8 o_q9 o_q10 o_q11 o_q12 o_q13 o_q14 o_q15 o_q16 o_q17 o_q18 o_q19 o_q20 o_q21 o_q22 (0 : Int32) o_tape o_size o_fault o_faultPlace o_many o_towns o_weeks o_logs o_reached o_length o_begins o_sort o_value o_word o_wrongAt o_laterFault o_laterPlace o_told o_read o_farOne o_good x2.2.1 x2.2.2.1 x2.2.2.2.1 x2.2.2.2.2.1 x2.2.2.2.2.2.1 x2.2.2.2.2.2.2.1 x2.2.2.2.2.2.2.2.1 x2.2.2.2.2.2.2.2.2.1 x2.2.2.2.2.2.2.2.2.2.1 x2.2.2.2.2.2.2.2.2.2.2.1 x2.2.2.2.2.2.2.2.2.2.2.2.1 x2.2.2.2.2.2.2.2.2.2.2.2.2.1 x2.2.2.2.2.2.2.2.2.2.2.2.2.2.1 x2.2.2.2.2.2.2.2.2.2.2.2.2.2.2 o_week o_heaps v22.2.2 o_best o_more o_firstOne o_log o_fitting o_found o_seed o_row o_saved) H locs → W p l e (rmD 3) s m args below meth c H locs 0 0 Q (F0 m 156 ls []) := by
            intro v22 e_ ls H locs hl hW
            subst e_
            have hf := hk10
            refine lv_iload S.1 S.2.1 dX12_borrow_156 (lv_at hl 2 rfl) ?_
            refine lv_if_le (tgt := 165) S.1 S.2.1 dX12_borrow_158 (by decide) (fun c_ => ?_) (fun c_ => ?_)
            · have hf := it_p c_ hf
              refine lv_iload S.1 S.2.1 dX12_borrow_165 (lv_at hl 1 rfl) ?_
              refine lv_iconst (v := (-1)) S.1 S.2.1 dX12_borrow_167 ic_m1 ?_
              refine lv_icmp_ne (tgt := 176) S.1 S.2.1 dX12_borrow_168 (by decide) (fun c_ => ?_) (fun c_ => ?_)
              · have hf := it_n c_ hf
                refine lv_aload_n S.1 S.2.1 dX12_borrow_176 rfl (lv_at hl 0 rfl) ?_
                refine gfX12_59 S hK hW.1 0 rfl rfl dX12_borrow_177 ?_
                refine lv_iload S.1 S.2.1 dX12_borrow_180 (lv_at hl 1 rfl) ?_
                obtain ⟨x23, hx23, hf⟩ := bnd_e hf
                refine q_iald S hK hW.1 17 0 rfl rfl hx23 dX12_borrow_182 ?_
                have e_ := Option.some.inj hf
                subst e_
                exact hret _ _ _ _ dX12_borrow_183 hW
              · have hf := it_p c_ hf
                refine lv_iload S.1 S.2.1 dX12_borrow_171 (lv_at hl 3 rfl) ?_
                refine lv_goto (tgt := 183) S.1 S.2.1 dX12_borrow_173 (by decide) ?_
                have e_ := Option.some.inj hf
                subst e_
                exact hret _ _ _ _ dX12_borrow_183 hW
            · have hf := it_n c_ hf
              refine lv_iconst (v := (-1)) S.1 S.2.1 dX12_borrow_161 ic_m1 ?_
              refine lv_goto (tgt := 183) S.1 S.2.1 dX12_borrow_162 (by decide) ?_
              have e_ := Option.some.inj hf
              subst e_
              exact hret _ _ _ _ dX12_borrow_183 hW
          refine lp_ind (P := fun (s9 : Int32 × Int32 × Int32 × Int32 × (Nat → Int32)) => ∀ (ls : Array Slot) (H : Heap) (locs : List Loc), lv_has ls 10 [(0, .ref o_q0), (4, .int p4), (5, .int s9.1), (6, .int s9.2.1), (7, .int s9.2.2.1), (8, .int s9.2.2.2.1)] → St A s.heap D (wMd g o_q0 o_q1 o_q2 o_q3 o_q4 o_q5 o_q6 o_q7 o_q8 o_q9 o_q10 o_q11 o_q12 o_q13 o_q14 o_q15 o_q16 o_q17 o_q18 o_q19 o_q20 o_q21 o_q22 (0 : Int32) o_tape o_size o_fault o_faultPlace o_many o_towns o_weeks o_logs o_reached o_length o_begins o_sort o_value o_word o_wrongAt o_laterFault o_laterPlace o_told o_read o_farOne o_good x2.2.1 x2.2.2.1 x2.2.2.2.1 x2.2.2.2.2.1 x2.2.2.2.2.2.1 x2.2.2.2.2.2.2.1 x2.2.2.2.2.2.2.2.1 x2.2.2.2.2.2.2.2.2.1 x2.2.2.2.2.2.2.2.2.2.1 x2.2.2.2.2.2.2.2.2.2.2.1 x2.2.2.2.2.2.2.2.2.2.2.2.1 x2.2.2.2.2.2.2.2.2.2.2.2.2.1 x2.2.2.2.2.2.2.2.2.2.2.2.2.2.1 x2.2.2.2.2.2.2.2.2.2.2.2.2.2.2 o_week o_heaps s9.2.2.2.2 o_best o_more o_firstOne o_log o_fitting o_found o_seed o_row o_saved) H locs → W p l e (rmD 3) s m args below meth c H locs 0 0 Q (F0 m 69 ls [])) ?_ _ _ hf_ _ _ _ (lv_sub hl [4, 7, 3, 2, 1, 0] rfl) hW
          intro s9 x11 hf hI10 hR10 ls H locs hl hW
          refine lv_iload S.1 S.2.1 dX12_borrow_69 (lv_at hl 5 rfl) ?_
          refine lv_aload_n S.1 S.2.1 dX12_borrow_71 rfl (lv_at hl 0 rfl) ?_
          refine gfX12_230 S hK hW.1 0 rfl rfl dX12_borrow_72 ?_
          refine lv_icmp_ge (tgt := 156) S.1 S.2.1 dX12_borrow_75 (by decide) (fun c_ => ?_) (fun c_ => ?_)
          · have hf := it_p c_ hf
            have e_ := hR10 _ (Option.some.inj hf).symm
            exact hE10 _ e_ _ _ _ (lv_sub hl [0, 1, 3, 4] rfl) hW
          · have hf := it_n c_ hf
            refine lv_aload_n S.1 S.2.1 dX12_borrow_78 rfl (lv_at hl 0 rfl) ?_
            refine lv_iload S.1 S.2.1 dX12_borrow_79 (lv_at hl 2 rfl) ?_
            obtain ⟨x12, hx12, hf⟩ := bnd_e hf
            refine Rd.cV (c_X12_wittiest hx12) S hK hW.1 0 10 rfl rfl kVX12_339 rfl hl.1 [] rfl (Nat.le_of_ble_eq_true rfl) ⟨(Nat.le_of_ble_eq_true rfl), (Nat.le_of_ble_eq_true rfl)⟩ ⟨(Nat.zero_le _), (Nat.zero_le _)⟩ dX12_borrow_81 ?_
            refine lv_istore (lv' := [(9, .int x12), (0, .ref o_q0), (4, .int p4), (5, .int s9.1), (6, .int s9.2.1), (7, .int s9.2.2.1), (8, .int s9.2.2.2.1)]) S.1 S.2.1 dX12_borrow_84 hl (by decide) rfl (fun ls hl => ?_)
            refine lv_aload_n S.1 S.2.1 dX12_borrow_86 rfl (lv_at hl 1 rfl) ?_
            refine gfX12_59 S hK hW.1 0 rfl rfl dX12_borrow_87 ?_
            refine lv_iload S.1 S.2.1 dX12_borrow_90 (lv_at hl 0 rfl) ?_
            refine lv_iload S.1 S.2.1 dX12_borrow_92 (lv_at hl 4 rfl) ?_
            refine lv_aload_n S.1 S.2.1 dX12_borrow_94 rfl (lv_at hl 1 rfl) ?_
            refine gfX12_41 S hK hW.1 0 rfl rfl dX12_borrow_95 ?_
            refine lv_iload S.1 S.2.1 dX12_borrow_98 (lv_at hl 0 rfl) ?_
            obtain ⟨x13, hx13, hf⟩ := bnd_e hf
            refine q_iald S hK hW.1 11 0 rfl rfl hx13 dX12_borrow_100 ?_
            obtain ⟨x14, hx14, hf⟩ := bnd_e hf
            refine Rd.cS (c_X12_lesser hx14) S hK va_P.nil kSX12_281 rfl hl.1 [.int x12, .ref o_q17] rfl (Nat.le_of_ble_eq_true rfl) ⟨(Nat.le_of_ble_eq_true rfl), (Nat.le_of_ble_eq_true rfl)⟩ ⟨(Nat.zero_le _), (Nat.zero_le _)⟩ dX12_borrow_101 ?_
            obtain ⟨x15, hx15, hf⟩ := bnd_e hf
            refine q_iast (ws2 := (wMd g o_q0 o_q1 o_q2 o_q3 o_q4 o_q5 o_q6 o_q7 o_q8 o_q9 o_q10 o_q11 o_q12 o_q13 o_q14 o_q15 o_q16 o_q17 o_q18 o_q19 o_q20 o_q21 o_q22 (0 : Int32) o_tape o_size o_fault o_faultPlace o_many o_towns o_weeks o_logs o_reached o_length o_begins o_sort o_value o_word o_wrongAt o_laterFault o_laterPlace o_told o_read o_farOne o_good x2.2.1 x2.2.2.1 x2.2.2.2.1 x2.2.2.2.2.1 x2.2.2.2.2.2.1 x2.2.2.2.2.2.2.1 x2.2.2.2.2.2.2.2.1 x2.2.2.2.2.2.2.2.2.1 x2.2.2.2.2.2.2.2.2.2.1 x2.2.2.2.2.2.2.2.2.2.2.1 x2.2.2.2.2.2.2.2.2.2.2.2.1 x2.2.2.2.2.2.2.2.2.2.2.2.2.1 x2.2.2.2.2.2.2.2.2.2.2.2.2.2.1 x2.2.2.2.2.2.2.2.2.2.2.2.2.2.2 o_week o_heaps x15 o_best o_more o_firstOne o_log o_fitting o_found o_seed o_row o_saved)) S hK hW 17 0 rfl rfl hx15 rfl dX12_borrow_104 (fun H locs hW => ?_)
            refine lv_iload S.1 S.2.1 dX12_borrow_105 (lv_at hl 4 rfl) ?_
            refine lv_aload_n S.1 S.2.1 dX12_borrow_107 rfl (lv_at hl 1 rfl) ?_
            refine gfX12_59 S hK hW.1 0 rfl rfl dX12_borrow_108 ?_
            refine lv_iload S.1 S.2.1 dX12_borrow_111 (lv_at hl 0 rfl) ?_
            obtain ⟨x16, hx16, hf⟩ := bnd_e hf
            refine q_iald S hK hW.1 17 0 rfl rfl hx16 dX12_borrow_113 ?_
            refine lv_isub S.1 S.2.1 dX12_borrow_114 ?_
            refine lv_topi (fun x17 ex17 => ?_)
            have hf := ltn_e hf ex17
            refine lv_istore (lv' := [(6, .int x17), (9, .int x12), (0, .ref o_q0), (4, .int p4), (5, .int s9.1), (7, .int s9.2.2.1), (8, .int s9.2.2.2.1)]) S.1 S.2.1 dX12_borrow_115 hl (by decide) rfl (fun ls hl => ?_)
            refine lv_iload S.1 S.2.1 dX12_borrow_117 (lv_at hl 5 rfl) ?_
            refine lv_aload_n S.1 S.2.1 dX12_borrow_119 rfl (lv_at hl 2 rfl) ?_
            refine gfX12_59 S hK hW.1 0 rfl rfl dX12_borrow_120 ?_
            refine lv_iload S.1 S.2.1 dX12_borrow_123 (lv_at hl 1 rfl) ?_
            obtain ⟨x18, hx18, hf⟩ := bnd_e hf
            refine q_iald S hK hW.1 17 0 rfl rfl hx18 dX12_borrow_125 ?_
            refine lv_bipush (v := 10) S.1 S.2.1 dX12_borrow_126 bp_10 ?_
            refine lv_aload_n S.1 S.2.1 dX12_borrow_128 rfl (lv_at hl 2 rfl) ?_
            refine lv_iconst (v := 1) S.1 S.2.1 dX12_borrow_129 ic_1 ?_
            refine lv_iload S.1 S.2.1 dX12_borrow_130 (lv_at hl 1 rfl) ?_
            refine lv_iadd S.1 S.2.1 dX12_borrow_132 ?_
            obtain ⟨x19, hx19, hf⟩ := bnd_e hf
            refine Rd.cV (c_X12_of hx19) S hK hW.1 0 10 rfl rfl kVX12_226 rfl hl.1 [.int (10 : Int32), .int x18, .int s9.2.2.1] rfl (Nat.le_of_ble_eq_true rfl) ⟨(Nat.le_of_ble_eq_true rfl), (Nat.le_of_ble_eq_true rfl)⟩ ⟨(Nat.zero_le _), (Nat.zero_le _)⟩ dX12_borrow_133 ?_
            refine lv_isub S.1 S.2.1 dX12_borrow_136 ?_
            refine lv_imul S.1 S.2.1 dX12_borrow_137 ?_
            refine lv_iadd S.1 S.2.1 dX12_borrow_138 ?_
            refine lv_topi (fun x20 ex20 => ?_)
            have hf := ltn_e hf ex20
            refine lv_istore (lv' := [(7, .int x20), (6, .int x17), (9, .int x12), (0, .ref o_q0), (4, .int p4), (5, .int s9.1), (8, .int s9.2.2.2.1)]) S.1 S.2.1 dX12_borrow_139 hl (by decide) rfl (fun ls hl => ?_)
            refine lv_iload S.1 S.2.1 dX12_borrow_141 (lv_at hl 5 rfl) ?_
            refine lv_iconst (v := 1) S.1 S.2.1 dX12_borrow_143 ic_1 ?_
            refine lv_iload S.1 S.2.1 dX12_borrow_144 (lv_at hl 2 rfl) ?_
            refine lv_ishl S.1 S.2.1 dX12_borrow_146 ?_
            refine lv_ior S.1 S.2.1 dX12_borrow_147 ?_
            refine lv_topi (fun x21 ex21 => ?_)
            have hf := ltn_e hf ex21
            refine lv_istore (lv' := [(5, .int x21), (7, .int x20), (6, .int x17), (9, .int x12), (0, .ref o_q0), (4, .int p4), (8, .int s9.2.2.2.1)]) S.1 S.2.1 dX12_borrow_148 hl (by decide) rfl (fun ls hl => ?_)
            refine q_iinc (w := 1) (lv' := [(8, .int (s9.2.2.2.1 + 1)), (5, .int x21), (7, .int x20), (6, .int x17), (9, .int x12), (0, .ref o_q0), (4, .int p4)]) S dX12_borrow_150 hl (k := 6) rfl ic_1 (by decide) rfl (fun ls hl => ?_)
            refine lv_goto (tgt := 69) S.1 S.2.1 dX12_borrow_153 (by decide) ?_
            exact hI10 _ (Option.some.inj hf).symm _ _ _ (lv_sub hl [5, 6, 1, 3, 2, 0] rfl) hW
        have hf := hf_
        refine lv_icmp_eq (tgt := 48) S.1 S.2.1 dX12_borrow_34 (by decide) (fun c_ => ?_) (fun c_ => ?_)
        · have hf := it_p c_ hf
          exact hJ4 _ (Option.some.inj hf).symm _ _ _ (lv_sub hl [0, 2, 3, 4] rfl) hW
        · have hf := it_n c_ hf
          refine lv_aload_n S.1 S.2.1 dX12_borrow_37 rfl (lv_at hl 0 rfl) ?_
          refine lv_iload S.1 S.2.1 dX12_borrow_38 (lv_at hl 4 rfl) ?_
          obtain ⟨x24, hx24, hf⟩ := bnd_e hf
          refine Rd.cV (c_X12_isPerson hx24) S hK hW.1 0 10 rfl rfl kVX12_260 rfl hl.1 [] rfl (Nat.le_of_ble_eq_true rfl) ⟨(Nat.le_of_ble_eq_true rfl), (Nat.le_of_ble_eq_true rfl)⟩ ⟨(Nat.zero_le _), (Nat.zero_le _)⟩ dX12_borrow_40 ?_
          refine lv_if_ne (tgt := 48) S.1 S.2.1 dX12_borrow_43 (by decide) (fun c_ => ?_) (fun c_ => ?_)
          · have hf := it_n c_ hf
            exact hJ4 _ (Option.some.inj hf).symm _ _ _ (lv_sub hl [0, 2, 3, 4] rfl) hW
          · have hf := it_p c_ hf
            refine lv_iconst (v := (-1)) S.1 S.2.1 dX12_borrow_46 ic_m1 ?_
            have e_ := Option.some.inj hf
            subst e_
            have hf := cse_l hk4
            have e_ := Option.some.inj hf
            subst e_
            exact hret _ _ _ _ dX12_borrow_47 hW
