def f_X5_isWord_L20 (o_tape : (Nat → Int32)) (o_start : Int32) (p1 : Nat) (s3 : Int32) : Option ((Int32) ⊕ ((Int32) ⊕ (Unit))) := bnd (α := Int32) (slen p1) (fun x6 => if x6 ≤ s3 then some (.inr (.inr ())) else bnd (α := Int32) (rdi 600 o_tape (o_start + s3)) (fun x7 => bnd (α := Int32) (schr p1 s3) (fun x8 => if x7 = x8 then some (.inl (s3 + 1)) else some (.inr (.inl (0 : Int32))))))
def f_X5_isWord (fu : Nat) (o_tape : (Nat → Int32)) (o_next : Int32) (o_start : Int32) (p1 : Nat) : Option (Int32) := bnd (α := Int32) (slen p1) (fun x1 => if (o_next - o_start) = x1 then bnd (α := (Int32) ⊕ (Unit)) (lp (f_X5_isWord_L20 o_tape o_start p1) fu (0 : Int32)) (fun x4 => cse x4 (fun y10 => some y10) (fun v9 => some (1 : Int32))) else some (0 : Int32))
set_option maxHeartbeats 4000000 in
set_option maxRecDepth 100000 in
theorem c_X5_isWord {l : Launch} {D : va_G} {g : Nat → ClassId} {fu : Nat} {o_q0 o_town_q0 o_town_q1 o_town_q2 o_town_q3 o_town_q4 o_week_q0 o_week_q1 o_log_q0 o_log_q1 o_q1 o_q2 : Nat} {z : Nat → Nat} {o_town_people : Int32} {o_town_wit : (Nat → Int32)} {o_town_purse : (Nat → Int32)} {o_town_hated : (Nat → Int32)} {o_town_owed : (Nat → Int32)} {o_week_deeds : Int32} {o_week_cells : (Nat → Int32)} {o_log_facts : Int32} {o_log_cells : (Nat → Int32)} {o_fault : Int32} {o_place : Int32} {o_numbers : (Nat → Int32)} {o_tape : (Nat → Int32)} {o_length : Int32} {o_next : Int32} {o_start : Int32} {o_token : Int32} {o_value : Int32} {o_toldOf : Int32} {p1 : Nat} {r : Int32} (hf : f_X5_isWord fu o_tape o_next o_start p1 = some r) : RdE l D (gy g) yX5_isWord cX5_isWord 3 (some .boolean) 4 z [.ref o_q0, .ref (adK z p1)] (wRe g o_q0 o_town_q0 o_town_q1 o_town_q2 o_town_q3 o_town_q4 o_week_q0 o_week_q1 o_log_q0 o_log_q1 o_q1 o_q2 o_town_people o_town_wit o_town_purse o_town_hated o_town_owed o_week_deeds o_week_cells o_log_facts o_log_cells o_fault o_place o_numbers o_tape o_length o_next o_start o_token o_value o_toldOf) (some (.int r)) := by
  refine RdE.ofZ (by decide) (Nat.le_of_ble_eq_true rfl) ?_
  intro p e s m args below meth c Q S hK hP hX hret ls hl
  have hl : lv_has ls 3 [(0, .ref o_q0), (1, .ref (adK z p1))] := hl
  refine lv_aload_n S.1 S.2.1 dX5_isWord_0 rfl (lv_at hl 0 rfl) ?_
  refine gfX5_46 S hK hP 0 rfl rfl dX5_isWord_1 ?_
  refine lv_aload_n S.1 S.2.1 dX5_isWord_4 rfl (lv_at hl 0 rfl) ?_
  refine gfX5_49 S hK hP 0 rfl rfl dX5_isWord_5 ?_
  refine lv_isub S.1 S.2.1 dX5_isWord_8 ?_
  refine lv_aload_n S.1 S.2.1 dX5_isWord_9 rfl (lv_at hl 1 rfl) ?_
  obtain ⟨x1, hx1, hf⟩ := bnd_e hf
  refine q_slen hx1 S hK hX kVX5_199 hl.1 (Nat.le_of_ble_eq_true rfl) ⟨(Nat.le_of_ble_eq_true rfl), (Nat.le_of_ble_eq_true rfl)⟩ ⟨(Nat.zero_le _), (Nat.zero_le _)⟩ dX5_isWord_10 ?_
  refine lv_icmp_eq (tgt := 18) S.1 S.2.1 dX5_isWord_13 (by decide) (fun c_ => ?_) (fun c_ => ?_)
  · have hf := it_p c_ hf
    refine lv_iconst (v := 0) S.1 S.2.1 dX5_isWord_18 ic_0 ?_
    refine lv_istore_n (lv' := [(2, .int (0 : Int32)), (0, .ref o_q0), (1, .ref (adK z p1))]) S.1 S.2.1 dX5_isWord_19 rfl hl (by decide) rfl (fun ls hl => ?_)
    obtain ⟨x4, hf_, hk4⟩ := bnd_e hf
    have hE4 : ∀ (v9 : Unit), x4 = .inr v9 → ∀ (ls : Array Slot), lv_has ls 3 [] → W p l e (rmD 4) s m args below meth c s.heap [] 0 0 Q (F0 m 55 ls []) := by
      intro v9 e_ ls hl
      subst e_
      have hf := cse_r hk4
      refine lv_iconst (v := 1) S.1 S.2.1 dX5_isWord_55 ic_1 ?_
      have e_ := Option.some.inj hf
      subst e_
      exact hret _ _ (Or.inr rfl) dX5_isWord_56
    refine lp_ind (P := fun (s3 : Int32) => ∀ (ls : Array Slot), lv_has ls 3 [(0, .ref o_q0), (1, .ref (adK z p1)), (2, .int s3)] → W p l e (rmD 4) s m args below meth c s.heap [] 0 0 Q (F0 m 20 ls [])) ?_ _ _ hf_ _ (lv_sub hl [1, 2, 0] rfl)
    intro s3 x5 hf hI4 hR4 ls hl
    refine lv_iload_n S.1 S.2.1 dX5_isWord_20 rfl (lv_at hl 2 rfl) ?_
    refine lv_aload_n S.1 S.2.1 dX5_isWord_21 rfl (lv_at hl 1 rfl) ?_
    obtain ⟨x6, hx6, hf⟩ := bnd_e hf
    refine q_slen hx6 S hK hX kVX5_199 hl.1 (Nat.le_of_ble_eq_true rfl) ⟨(Nat.le_of_ble_eq_true rfl), (Nat.le_of_ble_eq_true rfl)⟩ ⟨(Nat.zero_le _), (Nat.zero_le _)⟩ dX5_isWord_22 ?_
    refine lv_icmp_ge (tgt := 55) S.1 S.2.1 dX5_isWord_25 (by decide) (fun c_ => ?_) (fun c_ => ?_)
    · have hf := it_p c_ hf
      have e_ := hR4 _ (Option.some.inj hf).symm
      exact hE4 _ e_.symm _ (lv_sub hl [] rfl)
    · have hf := it_n c_ hf
      refine lv_aload_n S.1 S.2.1 dX5_isWord_28 rfl (lv_at hl 0 rfl) ?_
      refine gfX5_61 S hK hP 0 rfl rfl dX5_isWord_29 ?_
      refine lv_aload_n S.1 S.2.1 dX5_isWord_32 rfl (lv_at hl 0 rfl) ?_
      refine gfX5_49 S hK hP 0 rfl rfl dX5_isWord_33 ?_
      refine lv_iload_n S.1 S.2.1 dX5_isWord_36 rfl (lv_at hl 2 rfl) ?_
      refine lv_iadd S.1 S.2.1 dX5_isWord_37 ?_
      obtain ⟨x7, hx7, hf⟩ := bnd_e hf
      refine q_bald S hK hP 11 1 rfl rfl hx7 dX5_isWord_38 ?_
      refine lv_aload_n S.1 S.2.1 dX5_isWord_39 rfl (lv_at hl 1 rfl) ?_
      refine lv_iload_n S.1 S.2.1 dX5_isWord_40 rfl (lv_at hl 2 rfl) ?_
      obtain ⟨x8, hx8, hf⟩ := bnd_e hf
      refine q_schr hx8 S hK hX kVX5_203 hl.1 (Nat.le_of_ble_eq_true rfl) ⟨(Nat.le_of_ble_eq_true rfl), (Nat.le_of_ble_eq_true rfl)⟩ ⟨(Nat.zero_le _), (Nat.zero_le _)⟩ dX5_isWord_41 ?_
      refine lv_icmp_eq (tgt := 49) S.1 S.2.1 dX5_isWord_44 (by decide) (fun c_ => ?_) (fun c_ => ?_)
      · have hf := it_p c_ hf
        refine q_iinc (w := 1) (lv' := [(2, .int (s3 + 1)), (0, .ref o_q0), (1, .ref (adK z p1))]) S dX5_isWord_49 hl (k := 2) rfl ic_1 (by decide) rfl (fun ls hl => ?_)
        refine lv_goto (tgt := 20) S.1 S.2.1 dX5_isWord_52 (by decide) ?_
        exact hI4 _ (Option.some.inj hf).symm _ (lv_sub hl [1, 2, 0] rfl)
      · have hf := it_n c_ hf
        refine lv_iconst (v := 0) S.1 S.2.1 dX5_isWord_47 ic_0 ?_
        have e_ := hR4 _ (Option.some.inj hf).symm
        subst e_
        have hf := cse_l hk4
        have e_ := Option.some.inj hf
        subst e_
        exact hret _ _ (Or.inl rfl) dX5_isWord_48
  · have hf := it_n c_ hf
    refine lv_iconst (v := 0) S.1 S.2.1 dX5_isWord_16 ic_0 ?_
    have e_ := Option.some.inj hf
    subst e_
    exact hret _ _ (Or.inl rfl) dX5_isWord_17
def f_X5_formOfTown (fu : Nat) (o_tape : (Nat → Int32)) (o_next : Int32) (o_start : Int32) : Option (Int32) := bnd (α := Int32) (f_X5_isWord fu o_tape o_next o_start 0) (fun x1 => if x1 = 0 then bnd (α := Int32) (f_X5_isWord fu o_tape o_next o_start 1) (fun x2 => if x2 = 0 then bnd (α := Int32) (f_X5_isWord fu o_tape o_next o_start 2) (fun x3 => if x3 = 0 then some (-1 : Int32) else some (2 : Int32)) else some (1 : Int32)) else some (0 : Int32))
set_option maxHeartbeats 4000000 in
set_option maxRecDepth 100000 in
theorem c_X5_formOfTown {l : Launch} {D : va_G} {g : Nat → ClassId} {fu : Nat} {o_q0 o_town_q0 o_town_q1 o_town_q2 o_town_q3 o_town_q4 o_week_q0 o_week_q1 o_log_q0 o_log_q1 o_q1 o_q2 : Nat} {z : Nat → Nat} {o_town_people : Int32} {o_town_wit : (Nat → Int32)} {o_town_purse : (Nat → Int32)} {o_town_hated : (Nat → Int32)} {o_town_owed : (Nat → Int32)} {o_week_deeds : Int32} {o_week_cells : (Nat → Int32)} {o_log_facts : Int32} {o_log_cells : (Nat → Int32)} {o_fault : Int32} {o_place : Int32} {o_numbers : (Nat → Int32)} {o_tape : (Nat → Int32)} {o_length : Int32} {o_next : Int32} {o_start : Int32} {o_token : Int32} {o_value : Int32} {o_toldOf : Int32} {r : Int32} (hf : f_X5_formOfTown fu o_tape o_next o_start = some r) : RdE l D (gy g) yX5_formOfTown cX5_formOfTown 1 (some .int) 5 z [.ref o_q0] (wRe g o_q0 o_town_q0 o_town_q1 o_town_q2 o_town_q3 o_town_q4 o_week_q0 o_week_q1 o_log_q0 o_log_q1 o_q1 o_q2 o_town_people o_town_wit o_town_purse o_town_hated o_town_owed o_week_deeds o_week_cells o_log_facts o_log_cells o_fault o_place o_numbers o_tape o_length o_next o_start o_token o_value o_toldOf) (some (.int r)) := by
  refine RdE.ofI (by decide) (Nat.le_of_ble_eq_true rfl) ?_
  intro p e s m args below meth c Q S hK hP hX hret ls hl
  have hl : lv_has ls 1 [(0, .ref o_q0)] := hl
  refine lv_aload_n S.1 S.2.1 dX5_formOfTown_0 rfl (lv_at hl 0 rfl) ?_
  refine va_ldcS S.1 S.2.1 S.2.2.2.1 (hX.2.2.2.1 0 (by decide)) dX5_formOfTown_1 ?_
  obtain ⟨x1, hx1, hf⟩ := bnd_e hf
  refine RdE.cV (c_X5_isWord hx1) S hK hP hX 0 3 rfl rfl kVX5_133 rfl hl.1 [] rfl (Nat.le_of_ble_eq_true rfl) ⟨(Nat.le_of_ble_eq_true rfl), (Nat.le_of_ble_eq_true rfl)⟩ ⟨(Nat.zero_le _), (Nat.zero_le _)⟩ dX5_formOfTown_3 ?_
  refine lv_if_eq (tgt := 11) S.1 S.2.1 dX5_formOfTown_6 (by decide) (fun c_ => ?_) (fun c_ => ?_)
  · have hf := it_p c_ hf
    refine lv_aload_n S.1 S.2.1 dX5_formOfTown_11 rfl (lv_at hl 0 rfl) ?_
    refine va_ldcS S.1 S.2.1 S.2.2.2.1 (hX.2.2.2.1 1 (by decide)) dX5_formOfTown_12 ?_
    obtain ⟨x2, hx2, hf⟩ := bnd_e hf
    refine RdE.cV (c_X5_isWord hx2) S hK hP hX 0 3 rfl rfl kVX5_133 rfl hl.1 [] rfl (Nat.le_of_ble_eq_true rfl) ⟨(Nat.le_of_ble_eq_true rfl), (Nat.le_of_ble_eq_true rfl)⟩ ⟨(Nat.zero_le _), (Nat.zero_le _)⟩ dX5_formOfTown_14 ?_
    refine lv_if_eq (tgt := 22) S.1 S.2.1 dX5_formOfTown_17 (by decide) (fun c_ => ?_) (fun c_ => ?_)
    · have hf := it_p c_ hf
      refine lv_aload_n S.1 S.2.1 dX5_formOfTown_22 rfl (lv_at hl 0 rfl) ?_
      refine va_ldcS S.1 S.2.1 S.2.2.2.1 (hX.2.2.2.1 2 (by decide)) dX5_formOfTown_23 ?_
      obtain ⟨x3, hx3, hf⟩ := bnd_e hf
      refine RdE.cV (c_X5_isWord hx3) S hK hP hX 0 3 rfl rfl kVX5_133 rfl hl.1 [] rfl (Nat.le_of_ble_eq_true rfl) ⟨(Nat.le_of_ble_eq_true rfl), (Nat.le_of_ble_eq_true rfl)⟩ ⟨(Nat.zero_le _), (Nat.zero_le _)⟩ dX5_formOfTown_25 ?_
      refine lv_if_eq (tgt := 35) S.1 S.2.1 dX5_formOfTown_28 (by decide) (fun c_ => ?_) (fun c_ => ?_)
      · have hf := it_p c_ hf
        refine lv_iconst (v := (-1)) S.1 S.2.1 dX5_formOfTown_35 ic_m1 ?_
        have e_ := Option.some.inj hf
        subst e_
        exact hret _ _ dX5_formOfTown_36
      · have hf := it_n c_ hf
        refine lv_iconst (v := 2) S.1 S.2.1 dX5_formOfTown_31 ic_2 ?_
        refine lv_goto (tgt := 36) S.1 S.2.1 dX5_formOfTown_32 (by decide) ?_
        have e_ := Option.some.inj hf
        subst e_
        exact hret _ _ dX5_formOfTown_36
    · have hf := it_n c_ hf
      refine lv_iconst (v := 1) S.1 S.2.1 dX5_formOfTown_20 ic_1 ?_
      have e_ := Option.some.inj hf
      subst e_
      exact hret _ _ dX5_formOfTown_21
  · have hf := it_n c_ hf
    refine lv_iconst (v := 0) S.1 S.2.1 dX5_formOfTown_9 ic_0 ?_
    have e_ := Option.some.inj hf
    subst e_
    exact hret _ _ dX5_formOfTown_10
def f_X5_formOfWeek (fu : Nat) (o_tape : (Nat → Int32)) (o_next : Int32) (o_start : Int32) : Option (Int32) := bnd (α := Int32) (f_X5_isWord fu o_tape o_next o_start 3) (fun x1 => if x1 = 0 then bnd (α := Int32) (f_X5_isWord fu o_tape o_next o_start 4) (fun x2 => if x2 = 0 then bnd (α := Int32) (f_X5_isWord fu o_tape o_next o_start 5) (fun x3 => if x3 = 0 then bnd (α := Int32) (f_X5_isWord fu o_tape o_next o_start 6) (fun x4 => if x4 = 0 then bnd (α := Int32) (f_X5_isWord fu o_tape o_next o_start 7) (fun x5 => if x5 = 0 then bnd (α := Int32) (f_X5_isWord fu o_tape o_next o_start 8) (fun x6 => if x6 = 0 then bnd (α := Int32) (f_X5_isWord fu o_tape o_next o_start 9) (fun x7 => if x7 = 0 then some (-1 : Int32) else some (6 : Int32)) else some (5 : Int32)) else some (4 : Int32)) else some (3 : Int32)) else some (2 : Int32)) else some (1 : Int32)) else some (0 : Int32))
set_option maxHeartbeats 4000000 in
set_option maxRecDepth 100000 in
theorem c_X5_formOfWeek {l : Launch} {D : va_G} {g : Nat → ClassId} {fu : Nat} {o_q0 o_town_q0 o_town_q1 o_town_q2 o_town_q3 o_town_q4 o_week_q0 o_week_q1 o_log_q0 o_log_q1 o_q1 o_q2 : Nat} {z : Nat → Nat} {o_town_people : Int32} {o_town_wit : (Nat → Int32)} {o_town_purse : (Nat → Int32)} {o_town_hated : (Nat → Int32)} {o_town_owed : (Nat → Int32)} {o_week_deeds : Int32} {o_week_cells : (Nat → Int32)} {o_log_facts : Int32} {o_log_cells : (Nat → Int32)} {o_fault : Int32} {o_place : Int32} {o_numbers : (Nat → Int32)} {o_tape : (Nat → Int32)} {o_length : Int32} {o_next : Int32} {o_start : Int32} {o_token : Int32} {o_value : Int32} {o_toldOf : Int32} {r : Int32} (hf : f_X5_formOfWeek fu o_tape o_next o_start = some r) : RdE l D (gy g) yX5_formOfWeek cX5_formOfWeek 1 (some .int) 5 z [.ref o_q0] (wRe g o_q0 o_town_q0 o_town_q1 o_town_q2 o_town_q3 o_town_q4 o_week_q0 o_week_q1 o_log_q0 o_log_q1 o_q1 o_q2 o_town_people o_town_wit o_town_purse o_town_hated o_town_owed o_week_deeds o_week_cells o_log_facts o_log_cells o_fault o_place o_numbers o_tape o_length o_next o_start o_token o_value o_toldOf) (some (.int r)) := by
  refine RdE.ofI (by decide) (Nat.le_of_ble_eq_true rfl) ?_
  intro p e s m args below meth c Q S hK hP hX hret ls hl
  have hl : lv_has ls 1 [(0, .ref o_q0)] := hl
  refine lv_aload_n S.1 S.2.1 dX5_formOfWeek_0 rfl (lv_at hl 0 rfl) ?_
  refine va_ldcS S.1 S.2.1 S.2.2.2.1 (hX.2.2.2.1 3 (by decide)) dX5_formOfWeek_1 ?_
  obtain ⟨x1, hx1, hf⟩ := bnd_e hf
  refine RdE.cV (c_X5_isWord hx1) S hK hP hX 0 3 rfl rfl kVX5_133 rfl hl.1 [] rfl (Nat.le_of_ble_eq_true rfl) ⟨(Nat.le_of_ble_eq_true rfl), (Nat.le_of_ble_eq_true rfl)⟩ ⟨(Nat.zero_le _), (Nat.zero_le _)⟩ dX5_formOfWeek_3 ?_
  refine lv_if_eq (tgt := 11) S.1 S.2.1 dX5_formOfWeek_6 (by decide) (fun c_ => ?_) (fun c_ => ?_)
  · have hf := it_p c_ hf
    refine lv_aload_n S.1 S.2.1 dX5_formOfWeek_11 rfl (lv_at hl 0 rfl) ?_
    refine va_ldcS S.1 S.2.1 S.2.2.2.1 (hX.2.2.2.1 4 (by decide)) dX5_formOfWeek_12 ?_
    obtain ⟨x2, hx2, hf⟩ := bnd_e hf
    refine RdE.cV (c_X5_isWord hx2) S hK hP hX 0 3 rfl rfl kVX5_133 rfl hl.1 [] rfl (Nat.le_of_ble_eq_true rfl) ⟨(Nat.le_of_ble_eq_true rfl), (Nat.le_of_ble_eq_true rfl)⟩ ⟨(Nat.zero_le _), (Nat.zero_le _)⟩ dX5_formOfWeek_14 ?_
    refine lv_if_eq (tgt := 22) S.1 S.2.1 dX5_formOfWeek_17 (by decide) (fun c_ => ?_) (fun c_ => ?_)
    · have hf := it_p c_ hf
      refine lv_aload_n S.1 S.2.1 dX5_formOfWeek_22 rfl (lv_at hl 0 rfl) ?_
      refine va_ldcS S.1 S.2.1 S.2.2.2.1 (hX.2.2.2.1 5 (by decide)) dX5_formOfWeek_23 ?_
      obtain ⟨x3, hx3, hf⟩ := bnd_e hf
      refine RdE.cV (c_X5_isWord hx3) S hK hP hX 0 3 rfl rfl kVX5_133 rfl hl.1 [] rfl (Nat.le_of_ble_eq_true rfl) ⟨(Nat.le_of_ble_eq_true rfl), (Nat.le_of_ble_eq_true rfl)⟩ ⟨(Nat.zero_le _), (Nat.zero_le _)⟩ dX5_formOfWeek_25 ?_
      refine lv_if_eq (tgt := 33) S.1 S.2.1 dX5_formOfWeek_28 (by decide) (fun c_ => ?_) (fun c_ => ?_)
      · have hf := it_p c_ hf
        refine lv_aload_n S.1 S.2.1 dX5_formOfWeek_33 rfl (lv_at hl 0 rfl) ?_
        refine va_ldcS S.1 S.2.1 S.2.2.2.1 (hX.2.2.2.1 6 (by decide)) dX5_formOfWeek_34 ?_
        obtain ⟨x4, hx4, hf⟩ := bnd_e hf
        refine RdE.cV (c_X5_isWord hx4) S hK hP hX 0 3 rfl rfl kVX5_133 rfl hl.1 [] rfl (Nat.le_of_ble_eq_true rfl) ⟨(Nat.le_of_ble_eq_true rfl), (Nat.le_of_ble_eq_true rfl)⟩ ⟨(Nat.zero_le _), (Nat.zero_le _)⟩ dX5_formOfWeek_36 ?_
        refine lv_if_eq (tgt := 44) S.1 S.2.1 dX5_formOfWeek_39 (by decide) (fun c_ => ?_) (fun c_ => ?_)
        · have hf := it_p c_ hf
          refine lv_aload_n S.1 S.2.1 dX5_formOfWeek_44 rfl (lv_at hl 0 rfl) ?_
          refine va_ldcS S.1 S.2.1 S.2.2.2.1 (hX.2.2.2.1 7 (by decide)) dX5_formOfWeek_45 ?_
          obtain ⟨x5, hx5, hf⟩ := bnd_e hf
          refine RdE.cV (c_X5_isWord hx5) S hK hP hX 0 3 rfl rfl kVX5_133 rfl hl.1 [] rfl (Nat.le_of_ble_eq_true rfl) ⟨(Nat.le_of_ble_eq_true rfl), (Nat.le_of_ble_eq_true rfl)⟩ ⟨(Nat.zero_le _), (Nat.zero_le _)⟩ dX5_formOfWeek_47 ?_
          refine lv_if_eq (tgt := 55) S.1 S.2.1 dX5_formOfWeek_50 (by decide) (fun c_ => ?_) (fun c_ => ?_)
          · have hf := it_p c_ hf
            refine lv_aload_n S.1 S.2.1 dX5_formOfWeek_55 rfl (lv_at hl 0 rfl) ?_
            refine va_ldcS S.1 S.2.1 S.2.2.2.1 (hX.2.2.2.1 8 (by decide)) dX5_formOfWeek_56 ?_
            obtain ⟨x6, hx6, hf⟩ := bnd_e hf
            refine RdE.cV (c_X5_isWord hx6) S hK hP hX 0 3 rfl rfl kVX5_133 rfl hl.1 [] rfl (Nat.le_of_ble_eq_true rfl) ⟨(Nat.le_of_ble_eq_true rfl), (Nat.le_of_ble_eq_true rfl)⟩ ⟨(Nat.zero_le _), (Nat.zero_le _)⟩ dX5_formOfWeek_58 ?_
            refine lv_if_eq (tgt := 66) S.1 S.2.1 dX5_formOfWeek_61 (by decide) (fun c_ => ?_) (fun c_ => ?_)
            · have hf := it_p c_ hf
              refine lv_aload_n S.1 S.2.1 dX5_formOfWeek_66 rfl (lv_at hl 0 rfl) ?_
              refine va_ldcS S.1 S.2.1 S.2.2.2.1 (hX.2.2.2.1 9 (by decide)) dX5_formOfWeek_67 ?_
              obtain ⟨x7, hx7, hf⟩ := bnd_e hf
              refine RdE.cV (c_X5_isWord hx7) S hK hP hX 0 3 rfl rfl kVX5_133 rfl hl.1 [] rfl (Nat.le_of_ble_eq_true rfl) ⟨(Nat.le_of_ble_eq_true rfl), (Nat.le_of_ble_eq_true rfl)⟩ ⟨(Nat.zero_le _), (Nat.zero_le _)⟩ dX5_formOfWeek_69 ?_
              refine lv_if_eq (tgt := 80) S.1 S.2.1 dX5_formOfWeek_72 (by decide) (fun c_ => ?_) (fun c_ => ?_)
              · have hf := it_p c_ hf
                refine lv_iconst (v := (-1)) S.1 S.2.1 dX5_formOfWeek_80 ic_m1 ?_
                have e_ := Option.some.inj hf
                subst e_
                exact hret _ _ dX5_formOfWeek_81
              · have hf := it_n c_ hf
                refine lv_bipush (v := 6) S.1 S.2.1 dX5_formOfWeek_75 bp_6 ?_
                refine lv_goto (tgt := 81) S.1 S.2.1 dX5_formOfWeek_77 (by decide) ?_
                have e_ := Option.some.inj hf
                subst e_
                exact hret _ _ dX5_formOfWeek_81
            · have hf := it_n c_ hf
              refine lv_iconst (v := 5) S.1 S.2.1 dX5_formOfWeek_64 ic_5 ?_
              have e_ := Option.some.inj hf
              subst e_
              exact hret _ _ dX5_formOfWeek_65
          · have hf := it_n c_ hf
            refine lv_iconst (v := 4) S.1 S.2.1 dX5_formOfWeek_53 ic_4 ?_
            have e_ := Option.some.inj hf
            subst e_
            exact hret _ _ dX5_formOfWeek_54
        · have hf := it_n c_ hf
          refine lv_iconst (v := 3) S.1 S.2.1 dX5_formOfWeek_42 ic_3 ?_
          have e_ := Option.some.inj hf
          subst e_
          exact hret _ _ dX5_formOfWeek_43
      · have hf := it_n c_ hf
        refine lv_iconst (v := 2) S.1 S.2.1 dX5_formOfWeek_31 ic_2 ?_
        have e_ := Option.some.inj hf
        subst e_
        exact hret _ _ dX5_formOfWeek_32
    · have hf := it_n c_ hf
      refine lv_iconst (v := 1) S.1 S.2.1 dX5_formOfWeek_20 ic_1 ?_
      have e_ := Option.some.inj hf
      subst e_
      exact hret _ _ dX5_formOfWeek_21
  · have hf := it_n c_ hf
    refine lv_iconst (v := 0) S.1 S.2.1 dX5_formOfWeek_9 ic_0 ?_
    have e_ := Option.some.inj hf
    subst e_
    exact hret _ _ dX5_formOfWeek_10
def f_X5_formOf (fu : Nat) (o_tape : (Nat → Int32)) (o_next : Int32) (o_start : Int32) (o_token : Int32) (p1 : Int32) : Option (Int32) := if o_token = (1 : Int32) then if p1 = 0 then bnd (α := Int32) (f_X5_formOfTown fu o_tape o_next o_start) (fun x1 => some x1) else if p1 = (1 : Int32) then bnd (α := Int32) (f_X5_formOfWeek fu o_tape o_next o_start) (fun x2 => some x2) else bnd (α := Int32) (f_X5_isWord fu o_tape o_next o_start 10) (fun x3 => if x3 = 0 then bnd (α := Int32) (f_X5_isWord fu o_tape o_next o_start 11) (fun x4 => if x4 = 0 then some (-1 : Int32) else some (1 : Int32)) else some (0 : Int32)) else some (-1 : Int32)
set_option maxHeartbeats 4000000 in
set_option maxRecDepth 100000 in
theorem c_X5_formOf {l : Launch} {D : va_G} {g : Nat → ClassId} {fu : Nat} {o_q0 o_town_q0 o_town_q1 o_town_q2 o_town_q3 o_town_q4 o_week_q0 o_week_q1 o_log_q0 o_log_q1 o_q1 o_q2 : Nat} {z : Nat → Nat} {o_town_people : Int32} {o_town_wit : (Nat → Int32)} {o_town_purse : (Nat → Int32)} {o_town_hated : (Nat → Int32)} {o_town_owed : (Nat → Int32)} {o_week_deeds : Int32} {o_week_cells : (Nat → Int32)} {o_log_facts : Int32} {o_log_cells : (Nat → Int32)} {o_fault : Int32} {o_place : Int32} {o_numbers : (Nat → Int32)} {o_tape : (Nat → Int32)} {o_length : Int32} {o_next : Int32} {o_start : Int32} {o_token : Int32} {o_value : Int32} {o_toldOf : Int32} {p1 : Int32} {r : Int32} (hf : f_X5_formOf fu o_tape o_next o_start o_token p1 = some r) : RdE l D (gy g) yX5_formOf cX5_formOf 2 (some .int) 6 z [.ref o_q0, .int p1] (wRe g o_q0 o_town_q0 o_town_q1 o_town_q2 o_town_q3 o_town_q4 o_week_q0 o_week_q1 o_log_q0 o_log_q1 o_q1 o_q2 o_town_people o_town_wit o_town_purse o_town_hated o_town_owed o_week_deeds o_week_cells o_log_facts o_log_cells o_fault o_place o_numbers o_tape o_length o_next o_start o_token o_value o_toldOf) (some (.int r)) := by
  refine RdE.ofI (by decide) (Nat.le_of_ble_eq_true rfl) ?_
  intro p e s m args below meth c Q S hK hP hX hret ls hl
  have hl : lv_has ls 2 [(0, .ref o_q0), (1, .int p1)] := hl
  refine lv_aload_n S.1 S.2.1 dX5_formOf_0 rfl (lv_at hl 0 rfl) ?_
  refine gfX5_52 S hK hP 0 rfl rfl dX5_formOf_1 ?_
  refine lv_iconst (v := 1) S.1 S.2.1 dX5_formOf_4 ic_1 ?_
  refine lv_icmp_eq (tgt := 10) S.1 S.2.1 dX5_formOf_5 (by decide) (fun c_ => ?_) (fun c_ => ?_)
  · have hf := it_p c_ hf
    refine lv_iload_n S.1 S.2.1 dX5_formOf_10 rfl (lv_at hl 1 rfl) ?_
    refine lv_if_ne (tgt := 19) S.1 S.2.1 dX5_formOf_11 (by decide) (fun c_ => ?_) (fun c_ => ?_)
    · have hf := it_n c_ hf
      refine lv_iload_n S.1 S.2.1 dX5_formOf_19 rfl (lv_at hl 1 rfl) ?_
      refine lv_iconst (v := 1) S.1 S.2.1 dX5_formOf_20 ic_1 ?_
      refine lv_icmp_ne (tgt := 29) S.1 S.2.1 dX5_formOf_21 (by decide) (fun c_ => ?_) (fun c_ => ?_)
      · have hf := it_n c_ hf
        refine lv_aload_n S.1 S.2.1 dX5_formOf_29 rfl (lv_at hl 0 rfl) ?_
        refine va_ldcS S.1 S.2.1 S.2.2.2.1 (hX.2.2.2.1 10 (by decide)) dX5_formOf_30 ?_
        obtain ⟨x3, hx3, hf⟩ := bnd_e hf
        refine RdE.cV (c_X5_isWord hx3) S hK hP hX 0 3 rfl rfl kVX5_133 rfl hl.1 [] rfl (Nat.le_of_ble_eq_true rfl) ⟨(Nat.le_of_ble_eq_true rfl), (Nat.le_of_ble_eq_true rfl)⟩ ⟨(Nat.zero_le _), (Nat.zero_le _)⟩ dX5_formOf_32 ?_
        refine lv_if_eq (tgt := 40) S.1 S.2.1 dX5_formOf_35 (by decide) (fun c_ => ?_) (fun c_ => ?_)
        · have hf := it_p c_ hf
          refine lv_aload_n S.1 S.2.1 dX5_formOf_40 rfl (lv_at hl 0 rfl) ?_
          refine va_ldcS S.1 S.2.1 S.2.2.2.1 (hX.2.2.2.1 11 (by decide)) dX5_formOf_41 ?_
          obtain ⟨x4, hx4, hf⟩ := bnd_e hf
          refine RdE.cV (c_X5_isWord hx4) S hK hP hX 0 3 rfl rfl kVX5_133 rfl hl.1 [] rfl (Nat.le_of_ble_eq_true rfl) ⟨(Nat.le_of_ble_eq_true rfl), (Nat.le_of_ble_eq_true rfl)⟩ ⟨(Nat.zero_le _), (Nat.zero_le _)⟩ dX5_formOf_43 ?_
          refine lv_if_eq (tgt := 53) S.1 S.2.1 dX5_formOf_46 (by decide) (fun c_ => ?_) (fun c_ => ?_)
          · have hf := it_p c_ hf
            refine lv_iconst (v := (-1)) S.1 S.2.1 dX5_formOf_53 ic_m1 ?_
            have e_ := Option.some.inj hf
            subst e_
            exact hret _ _ dX5_formOf_54
          · have hf := it_n c_ hf
            refine lv_iconst (v := 1) S.1 S.2.1 dX5_formOf_49 ic_1 ?_
            refine lv_goto (tgt := 54) S.1 S.2.1 dX5_formOf_50 (by decide) ?_
            have e_ := Option.some.inj hf
            subst e_
            exact hret _ _ dX5_formOf_54
        · have hf := it_n c_ hf
          refine lv_iconst (v := 0) S.1 S.2.1 dX5_formOf_38 ic_0 ?_
          have e_ := Option.some.inj hf
          subst e_
          exact hret _ _ dX5_formOf_39
      · have hf := it_p c_ hf
        refine lv_aload_n S.1 S.2.1 dX5_formOf_24 rfl (lv_at hl 0 rfl) ?_
        obtain ⟨x2, hx2, hf⟩ := bnd_e hf
        refine RdE.cV (c_X5_formOfWeek hx2) S hK hP hX 0 3 rfl rfl kVX5_128 rfl hl.1 [] rfl (Nat.le_of_ble_eq_true rfl) ⟨(Nat.le_of_ble_eq_true rfl), (Nat.le_of_ble_eq_true rfl)⟩ ⟨(Nat.zero_le _), (Nat.zero_le _)⟩ dX5_formOf_25 ?_
        have e_ := Option.some.inj hf
        subst e_
        exact hret _ _ dX5_formOf_28
    · have hf := it_p c_ hf
      refine lv_aload_n S.1 S.2.1 dX5_formOf_14 rfl (lv_at hl 0 rfl) ?_
      obtain ⟨x1, hx1, hf⟩ := bnd_e hf
      refine RdE.cV (c_X5_formOfTown hx1) S hK hP hX 0 3 rfl rfl kVX5_124 rfl hl.1 [] rfl (Nat.le_of_ble_eq_true rfl) ⟨(Nat.le_of_ble_eq_true rfl), (Nat.le_of_ble_eq_true rfl)⟩ ⟨(Nat.zero_le _), (Nat.zero_le _)⟩ dX5_formOf_15 ?_
      have e_ := Option.some.inj hf
      subst e_
      exact hret _ _ dX5_formOf_18
  · have hf := it_n c_ hf
    refine lv_iconst (v := (-1)) S.1 S.2.1 dX5_formOf_8 ic_m1 ?_
    have e_ := Option.some.inj hf
    subst e_
    exact hret _ _ dX5_formOf_9
def f_X5_numbersOf (fu : Nat) (p1 : Int32) (p2 : Int32) : Option (Int32) := if p1 = 0 then if p2 < 0 then some (0 : Int32) else if (3 : Int32) ≤ p2 then some (0 : Int32) else bnd (α := Int32) (rdi 3 (fun j => nTown.getD j 0) p2) (fun x1 => some x1) else if p1 = (1 : Int32) then if p2 < 0 then some (0 : Int32) else if (7 : Int32) ≤ p2 then some (0 : Int32) else bnd (α := Int32) (rdi 7 (fun j => nWeek.getD j 0) p2) (fun x2 => some x2) else some (2 : Int32)
set_option maxHeartbeats 4000000 in
set_option maxRecDepth 100000 in
theorem c_X5_numbersOf {l : Launch} {D : va_G} {g : Nat → ClassId} {fu : Nat} {z : Nat → Nat} {p1 : Int32} {p2 : Int32} {r : Int32} (hf : f_X5_numbersOf fu p1 p2 = some r) : RdE l D (gy g) yX5_numbersOf cX5_numbersOf 2 (some .int) 0 z [.int p1, .int p2] ([] : va_W) (some (.int r)) := by
  refine RdE.ofI (by decide) (Nat.le_of_ble_eq_true rfl) ?_
  intro p e s m args below meth c Q S hK hP hX hret ls hl
  have hl : lv_has ls 2 [(0, .int p1), (1, .int p2)] := hl
  refine lv_iload_n S.1 S.2.1 dX5_numbersOf_0 rfl (lv_at hl 0 rfl) ?_
  refine lv_if_ne (tgt := 26) S.1 S.2.1 dX5_numbersOf_1 (by decide) (fun c_ => ?_) (fun c_ => ?_)
  · have hf := it_n c_ hf
    refine lv_iload_n S.1 S.2.1 dX5_numbersOf_26 rfl (lv_at hl 0 rfl) ?_
    refine lv_iconst (v := 1) S.1 S.2.1 dX5_numbersOf_27 ic_1 ?_
    refine lv_icmp_ne (tgt := 53) S.1 S.2.1 dX5_numbersOf_28 (by decide) (fun c_ => ?_) (fun c_ => ?_)
    · have hf := it_n c_ hf
      refine lv_iconst (v := 2) S.1 S.2.1 dX5_numbersOf_53 ic_2 ?_
      have e_ := Option.some.inj hf
      subst e_
      exact hret _ _ dX5_numbersOf_54
    · have hf := it_p c_ hf
      refine lv_iload_n S.1 S.2.1 dX5_numbersOf_31 rfl (lv_at hl 1 rfl) ?_
      refine lv_if_lt (tgt := 51) S.1 S.2.1 dX5_numbersOf_32 (by decide) (fun c_ => ?_) (fun c_ => ?_)
      · have hf := it_p c_ hf
        refine lv_iconst (v := 0) S.1 S.2.1 dX5_numbersOf_51 ic_0 ?_
        have e_ := Option.some.inj hf
        subst e_
        exact hret _ _ dX5_numbersOf_52
      · have hf := it_n c_ hf
        refine lv_iload_n S.1 S.2.1 dX5_numbersOf_35 rfl (lv_at hl 1 rfl) ?_
        refine va_gets S.1 S.2.1 hX.2.2.2.2.2.1.1 va_S.rf S.2.2.2.1 (S.2.2.2.2 _ q_487) (fun _ h => h) dX5_numbersOf_36 ?_
        refine va_tlen S.1 S.2.1 hX.2.2.2.2.2.1.2 va_S.rf (v := (7 : Int32)) rfl dX5_numbersOf_39 ?_
        refine lv_icmp_ge (tgt := 51) S.1 S.2.1 dX5_numbersOf_40 (by decide) (fun c_ => ?_) (fun c_ => ?_)
        · have hf := it_p c_ hf
          refine lv_iconst (v := 0) S.1 S.2.1 dX5_numbersOf_51 ic_0 ?_
          have e_ := Option.some.inj hf
          subst e_
          exact hret _ _ dX5_numbersOf_52
        · have hf := it_n c_ hf
          refine va_gets S.1 S.2.1 hX.2.2.2.2.2.1.1 va_S.rf S.2.2.2.1 (S.2.2.2.2 _ q_487) (fun _ h => h) dX5_numbersOf_43 ?_
          refine lv_iload_n S.1 S.2.1 dX5_numbersOf_46 rfl (lv_at hl 1 rfl) ?_
          obtain ⟨x2, hx2, hf⟩ := bnd_e hf
          refine q_stald S hX.2.2.2.2.2.1.2 hx2 dX5_numbersOf_47 ?_
          refine lv_goto (tgt := 52) S.1 S.2.1 dX5_numbersOf_48 (by decide) ?_
          have e_ := Option.some.inj hf
          subst e_
          exact hret _ _ dX5_numbersOf_52
  · have hf := it_p c_ hf
    refine lv_iload_n S.1 S.2.1 dX5_numbersOf_4 rfl (lv_at hl 1 rfl) ?_
    refine lv_if_lt (tgt := 24) S.1 S.2.1 dX5_numbersOf_5 (by decide) (fun c_ => ?_) (fun c_ => ?_)
    · have hf := it_p c_ hf
      refine lv_iconst (v := 0) S.1 S.2.1 dX5_numbersOf_24 ic_0 ?_
      have e_ := Option.some.inj hf
      subst e_
      exact hret _ _ dX5_numbersOf_25
    · have hf := it_n c_ hf
      refine lv_iload_n S.1 S.2.1 dX5_numbersOf_8 rfl (lv_at hl 1 rfl) ?_
      refine va_gets S.1 S.2.1 hX.2.2.2.2.1.1 va_S.rf S.2.2.2.1 (S.2.2.2.2 _ q_485) (fun _ h => h) dX5_numbersOf_9 ?_
      refine va_tlen S.1 S.2.1 hX.2.2.2.2.1.2 va_S.rf (v := (3 : Int32)) rfl dX5_numbersOf_12 ?_
      refine lv_icmp_ge (tgt := 24) S.1 S.2.1 dX5_numbersOf_13 (by decide) (fun c_ => ?_) (fun c_ => ?_)
      · have hf := it_p c_ hf
        refine lv_iconst (v := 0) S.1 S.2.1 dX5_numbersOf_24 ic_0 ?_
        have e_ := Option.some.inj hf
        subst e_
        exact hret _ _ dX5_numbersOf_25
      · have hf := it_n c_ hf
        refine va_gets S.1 S.2.1 hX.2.2.2.2.1.1 va_S.rf S.2.2.2.1 (S.2.2.2.2 _ q_485) (fun _ h => h) dX5_numbersOf_16 ?_
        refine lv_iload_n S.1 S.2.1 dX5_numbersOf_19 rfl (lv_at hl 1 rfl) ?_
        obtain ⟨x1, hx1, hf⟩ := bnd_e hf
        refine q_stald S hX.2.2.2.2.1.2 hx1 dX5_numbersOf_20 ?_
        refine lv_goto (tgt := 25) S.1 S.2.1 dX5_numbersOf_21 (by decide) ?_
        have e_ := Option.some.inj hf
        subst e_
        exact hret _ _ dX5_numbersOf_25
def f_X5_readLine_L51 (fu : Nat) (o_town_people : Int32) (o_town_wit : (Nat → Int32)) (o_town_purse : (Nat → Int32)) (o_town_hated : (Nat → Int32)) (o_town_owed : (Nat → Int32)) (o_week_deeds : Int32) (o_week_cells : (Nat → Int32)) (o_log_facts : Int32) (o_log_cells : (Nat → Int32)) (o_tape : (Nat → Int32)) (o_length : Int32) (o_toldOf : Int32) (p1 : Int32) (x1 : Int32) (x7 : Int32) (s9 : Int32 × Int32 × Int32 × (Nat → Int32) × Int32 × Int32 × Int32 × Int32) : Option ((Int32 × Int32 × Int32 × (Nat → Int32) × Int32 × Int32 × Int32 × Int32) ⊕ ((Int32 × (Nat → Int32) × (Nat → Int32) × (Nat → Int32) × (Nat → Int32) × Int32 × (Nat → Int32) × Int32 × (Nat → Int32) × Int32 × Int32 × (Nat → Int32) × Int32 × Int32 × Int32 × Int32 × Int32) ⊕ (Int32 × Int32 × (Nat → Int32) × Int32 × Int32 × Int32 × Int32))) := if x7 ≤ s9.1 then some (.inr (.inr (s9.2.1, s9.2.2.1, s9.2.2.2.1, s9.2.2.2.2.1, s9.2.2.2.2.2.1, s9.2.2.2.2.2.2.1, s9.2.2.2.2.2.2.2))) else bnd (α := Int32 × Int32 × Int32 × Int32) (f_X5_takeToken fu o_tape o_length s9.2.2.2.2.1 s9.2.2.2.2.2.1 s9.2.2.2.2.2.2.1 s9.2.2.2.2.2.2.2) (fun x12 => if x12.2.2.1 = (2 : Int32) then bnd (α := (Nat → Int32)) (wri 3 s9.2.2.2.1 s9.1 x12.2.2.2) (fun x13 => bnd (α := Int32) (f_X5_canBe fu x13 x12.2.2.2 p1 x1 s9.1) (fun x14 => if x14 = 0 then bnd (α := Int32 × Int32) (f_X5_note fu s9.2.1 s9.2.2.1 (2 : Int32) x12.2.1) (fun x15 => some (.inl ((s9.1 + 1), x15.1, x15.2, x13, x12.1, x12.2.1, x12.2.2.1, x12.2.2.2))) else some (.inl ((s9.1 + 1), s9.2.1, s9.2.2.1, x13, x12.1, x12.2.1, x12.2.2.1, x12.2.2.2)))) else bnd (α := Int32 × Int32) (f_X5_stop fu s9.2.1 s9.2.2.1 x12.2.1) (fun x16 => some (.inr (.inl (o_town_people, o_town_wit, o_town_purse, o_town_hated, o_town_owed, o_week_deeds, o_week_cells, o_log_facts, o_log_cells, x16.1, x16.2, s9.2.2.2.1, x12.1, x12.2.1, x12.2.2.1, x12.2.2.2, o_toldOf)))))
def f_X5_readLine (fu : Nat) (o_town_people : Int32) (o_town_wit : (Nat → Int32)) (o_town_purse : (Nat → Int32)) (o_town_hated : (Nat → Int32)) (o_town_owed : (Nat → Int32)) (o_week_deeds : Int32) (o_week_cells : (Nat → Int32)) (o_log_facts : Int32) (o_log_cells : (Nat → Int32)) (o_fault : Int32) (o_place : Int32) (o_numbers : (Nat → Int32)) (o_tape : (Nat → Int32)) (o_length : Int32) (o_next : Int32) (o_start : Int32) (o_token : Int32) (o_value : Int32) (o_toldOf : Int32) (p1 : Int32) : Option (Int32 × (Nat → Int32) × (Nat → Int32) × (Nat → Int32) × (Nat → Int32) × Int32 × (Nat → Int32) × Int32 × (Nat → Int32) × Int32 × Int32 × (Nat → Int32) × Int32 × Int32 × Int32 × Int32 × Int32) := bnd (α := Int32) (f_X5_formOf fu o_tape o_next o_start o_token p1) (fun x1 => if x1 = (-1 : Int32) then bnd (α := Int32 × Int32) (f_X5_stop fu o_fault o_place o_start) (fun x2 => some (o_town_people, o_town_wit, o_town_purse, o_town_hated, o_town_owed, o_week_deeds, o_week_cells, o_log_facts, o_log_cells, x2.1, x2.2, o_numbers, o_next, o_start, o_token, o_value, o_toldOf)) else bnd (α := Int32) (f_X5_isOneTooMany fu o_town_people o_week_deeds o_log_facts p1 x1) (fun x3 => bnd (α := Int32 × Int32) (if x3 = 0 then some (o_fault, o_place) else bnd (α := Int32 × Int32) (f_X5_note fu o_fault o_place (3 : Int32) o_start) (fun x24 => some (x24.1, x24.2))) (fun v5 => bnd (α := (Nat → Int32)) (f_J7_fill_53178 fu 3 o_numbers (-1 : Int32)) (fun x6 => bnd (α := Int32) (f_X5_numbersOf fu p1 x1) (fun x7 => bnd (α := (Int32 × (Nat → Int32) × (Nat → Int32) × (Nat → Int32) × (Nat → Int32) × Int32 × (Nat → Int32) × Int32 × (Nat → Int32) × Int32 × Int32 × (Nat → Int32) × Int32 × Int32 × Int32 × Int32 × Int32) ⊕ (Int32 × Int32 × (Nat → Int32) × Int32 × Int32 × Int32 × Int32)) (lp (f_X5_readLine_L51 fu o_town_people o_town_wit o_town_purse o_town_hated o_town_owed o_week_deeds o_week_cells o_log_facts o_log_cells o_tape o_length o_toldOf p1 x1 x7) fu ((0 : Int32), v5.1, v5.2, x6, o_next, o_start, o_token, o_value)) (fun x10 => cse x10 (fun y23 => some y23) (fun v17 => bnd (α := Int32 × Int32 × Int32 × Int32) (f_X5_takeToken fu o_tape o_length v17.2.2.2.1 v17.2.2.2.2.1 v17.2.2.2.2.2.1 v17.2.2.2.2.2.2) (fun x18 => if x18.2.2.1 = (3 : Int32) then if v17.1 = 0 then bnd (α := Int32 × (Nat → Int32) × (Nat → Int32) × (Nat → Int32) × (Nat → Int32) × Int32 × (Nat → Int32) × Int32 × (Nat → Int32) × Int32) (f_X5_keepLine fu o_town_people o_town_wit o_town_purse o_town_hated o_town_owed o_week_deeds o_week_cells o_log_facts o_log_cells v17.2.2.1 o_toldOf p1 x1) (fun x19 => bnd (α := Int32 × Int32 × Int32 × Int32) (f_X5_takeToken fu o_tape o_length x18.1 x18.2.1 x18.2.2.1 x18.2.2.2) (fun x20 => some (x19.1, x19.2.1, x19.2.2.1, x19.2.2.2.1, x19.2.2.2.2.1, x19.2.2.2.2.2.1, x19.2.2.2.2.2.2.1, x19.2.2.2.2.2.2.2.1, x19.2.2.2.2.2.2.2.2.1, v17.1, v17.2.1, v17.2.2.1, x20.1, x20.2.1, x20.2.2.1, x20.2.2.2, x19.2.2.2.2.2.2.2.2.2))) else bnd (α := Int32 × Int32 × Int32 × Int32) (f_X5_takeToken fu o_tape o_length x18.1 x18.2.1 x18.2.2.1 x18.2.2.2) (fun x21 => some (o_town_people, o_town_wit, o_town_purse, o_town_hated, o_town_owed, o_week_deeds, o_week_cells, o_log_facts, o_log_cells, v17.1, v17.2.1, v17.2.2.1, x21.1, x21.2.1, x21.2.2.1, x21.2.2.2, o_toldOf)) else bnd (α := Int32 × Int32) (f_X5_stop fu v17.1 v17.2.1 x18.2.1) (fun x22 => some (o_town_people, o_town_wit, o_town_purse, o_town_hated, o_town_owed, o_week_deeds, o_week_cells, o_log_facts, o_log_cells, x22.1, x22.2, v17.2.2.1, x18.1, x18.2.1, x18.2.2.1, x18.2.2.2, o_toldOf))))))))))
set_option maxHeartbeats 4000000 in
set_option maxRecDepth 100000 in
theorem c_X5_readLine {l : Launch} {D : va_G} {g : Nat → ClassId} {fu : Nat} {o_q0 o_town_q0 o_town_q1 o_town_q2 o_town_q3 o_town_q4 o_week_q0 o_week_q1 o_log_q0 o_log_q1 o_q1 o_q2 : Nat} {z : Nat → Nat} {o_town_people : Int32} {o_town_wit : (Nat → Int32)} {o_town_purse : (Nat → Int32)} {o_town_hated : (Nat → Int32)} {o_town_owed : (Nat → Int32)} {o_week_deeds : Int32} {o_week_cells : (Nat → Int32)} {o_log_facts : Int32} {o_log_cells : (Nat → Int32)} {o_fault : Int32} {o_place : Int32} {o_numbers : (Nat → Int32)} {o_tape : (Nat → Int32)} {o_length : Int32} {o_next : Int32} {o_start : Int32} {o_token : Int32} {o_value : Int32} {o_toldOf : Int32} {p1 : Int32} {r : Int32 × (Nat → Int32) × (Nat → Int32) × (Nat → Int32) × (Nat → Int32) × Int32 × (Nat → Int32) × Int32 × (Nat → Int32) × Int32 × Int32 × (Nat → Int32) × Int32 × Int32 × Int32 × Int32 × Int32} (hf : f_X5_readLine fu o_town_people o_town_wit o_town_purse o_town_hated o_town_owed o_week_deeds o_week_cells o_log_facts o_log_cells o_fault o_place o_numbers o_tape o_length o_next o_start o_token o_value o_toldOf p1 = some r) : WrE l D (gy g) yX5_readLine cX5_readLine 5 none 7 z [.ref o_q0, .int p1] (wRe g o_q0 o_town_q0 o_town_q1 o_town_q2 o_town_q3 o_town_q4 o_week_q0 o_week_q1 o_log_q0 o_log_q1 o_q1 o_q2 o_town_people o_town_wit o_town_purse o_town_hated o_town_owed o_week_deeds o_week_cells o_log_facts o_log_cells o_fault o_place o_numbers o_tape o_length o_next o_start o_token o_value o_toldOf) (wRe g o_q0 o_town_q0 o_town_q1 o_town_q2 o_town_q3 o_town_q4 o_week_q0 o_week_q1 o_log_q0 o_log_q1 o_q1 o_q2 r.1 r.2.1 r.2.2.1 r.2.2.2.1 r.2.2.2.2.1 r.2.2.2.2.2.1 r.2.2.2.2.2.2.1 r.2.2.2.2.2.2.2.1 r.2.2.2.2.2.2.2.2.1 r.2.2.2.2.2.2.2.2.2.1 r.2.2.2.2.2.2.2.2.2.2.1 r.2.2.2.2.2.2.2.2.2.2.2.1 o_tape o_length r.2.2.2.2.2.2.2.2.2.2.2.2.1 r.2.2.2.2.2.2.2.2.2.2.2.2.2.1 r.2.2.2.2.2.2.2.2.2.2.2.2.2.2.1 r.2.2.2.2.2.2.2.2.2.2.2.2.2.2.2.1 r.2.2.2.2.2.2.2.2.2.2.2.2.2.2.2.2) none := by
  refine WrE.ofV (by decide) (Nat.le_of_ble_eq_true rfl) ?_
  intro p e s m args below meth c Q A S hK hA hX hret ls hl hW
  have hl : lv_has ls 5 [(0, .ref o_q0), (1, .int p1)] := hl
  refine lv_aload_n S.1 S.2.1 dX5_readLine_0 rfl (lv_at hl 0 rfl) ?_
  refine lv_iload_n S.1 S.2.1 dX5_readLine_1 rfl (lv_at hl 1 rfl) ?_
  obtain ⟨x1, hx1, hf⟩ := bnd_e hf
  refine RdE.cV (c_X5_formOf hx1) S hK hW.1 (hX.rd hW.2.2) 0 3 rfl rfl kVX5_97 rfl hl.1 [] rfl (Nat.le_of_ble_eq_true rfl) ⟨(Nat.le_of_ble_eq_true rfl), (Nat.le_of_ble_eq_true rfl)⟩ ⟨(Nat.zero_le _), (Nat.zero_le _)⟩ dX5_readLine_2 ?_
  refine lv_istore_n (lv' := [(2, .int x1), (0, .ref o_q0), (1, .int p1)]) S.1 S.2.1 dX5_readLine_5 rfl hl (by decide) rfl (fun ls hl => ?_)
  refine lv_iload_n S.1 S.2.1 dX5_readLine_6 rfl (lv_at hl 0 rfl) ?_
  refine lv_iconst (v := (-1)) S.1 S.2.1 dX5_readLine_7 ic_m1 ?_
  refine lv_icmp_ne (tgt := 16) S.1 S.2.1 dX5_readLine_8 (by decide) (fun c_ => ?_) (fun c_ => ?_)
  · have hf := it_n c_ hf
    refine lv_aload_n S.1 S.2.1 dX5_readLine_16 rfl (lv_at hl 1 rfl) ?_
    refine lv_iload_n S.1 S.2.1 dX5_readLine_17 rfl (lv_at hl 2 rfl) ?_
    refine lv_iload_n S.1 S.2.1 dX5_readLine_18 rfl (lv_at hl 0 rfl) ?_
    obtain ⟨x3, hx3, hf⟩ := bnd_e hf
    refine Rd.cV (c_X5_isOneTooMany hx3) S hK hW.1 0 3 rfl rfl kVX5_104 rfl hl.1 [] rfl (Nat.le_of_ble_eq_true rfl) ⟨(Nat.le_of_ble_eq_true rfl), (Nat.le_of_ble_eq_true rfl)⟩ ⟨(Nat.zero_le _), (Nat.zero_le _)⟩ dX5_readLine_19 ?_
    obtain ⟨x4, hf_, hk4⟩ := bnd_e hf
    have hJ4 : ∀ (v5 : Int32 × Int32), v5 = x4 → ∀ (ls : Array Slot) (H : Heap) (locs : List Loc), lv_has ls 5 [(0, .ref o_q0), (1, .int p1), (2, .int x1)] → St A s.heap D (wRe g o_q0 o_town_q0 o_town_q1 o_town_q2 o_town_q3 o_town_q4 o_week_q0 o_week_q1 o_log_q0 o_log_q1 o_q1 o_q2 o_town_people o_town_wit o_town_purse o_town_hated o_town_owed o_week_deeds o_week_cells o_log_facts o_log_cells v5.1 v5.2 o_numbers o_tape o_length o_next o_start o_token o_value o_toldOf) H locs → W p l e (rmD 7) s m args below meth c H locs 0 0 Q (F0 m 34 ls []) := by
      intro v5 e_ ls H locs hl hW
      subst e_
      have hf := hk4
      refine lv_aload_n S.1 S.2.1 dX5_readLine_34 rfl (lv_at hl 0 rfl) ?_
      refine gfX5_39 S hK hW.1 0 rfl rfl dX5_readLine_35 ?_
      refine lv_iconst (v := (-1)) S.1 S.2.1 dX5_readLine_38 ic_m1 ?_
      obtain ⟨x6, hx6, hf⟩ := bnd_e hf
      refine Wr.go (ws2 := (wRe g o_q0 o_town_q0 o_town_q1 o_town_q2 o_town_q3 o_town_q4 o_week_q0 o_week_q1 o_log_q0 o_log_q1 o_q1 o_q2 o_town_people o_town_wit o_town_purse o_town_hated o_town_owed o_week_deeds o_week_cells o_log_facts o_log_cells v5.1 v5.2 x6 o_tape o_length o_next o_start o_token o_value o_toldOf)) (Wr.runS (c_J7_fill_53178 hx6) S hK (hW.1.sub (ws' := (wAI g o_q1 3 o_numbers)) [10] rfl) (hW.2.1.sub (ws' := (wAI g o_q1 3 o_numbers)) [10] (by decide) rfl) kSX5_108 rfl hl.1 [] rfl (Nat.le_of_ble_eq_true rfl) ⟨(Nat.le_of_ble_eq_true rfl), (Nat.le_of_ble_eq_true rfl)⟩ ⟨(Nat.zero_le _), (Nat.zero_le _)⟩ dX5_readLine_39) hW hA [10] rfl [(false, 0), (false, 1), (false, 2), (false, 3), (false, 4), (false, 5), (false, 6), (false, 7), (false, 8), (false, 9), (true, 0), (false, 11)] rfl (by decide) rfl (fun H locs hW => ?_)
      refine lv_iload_n S.1 S.2.1 dX5_readLine_42 rfl (lv_at hl 1 rfl) ?_
      refine lv_iload_n S.1 S.2.1 dX5_readLine_43 rfl (lv_at hl 2 rfl) ?_
      obtain ⟨x7, hx7, hf⟩ := bnd_e hf
      refine RdE.cS (c_X5_numbersOf hx7) S hK va_P.nil (hX.rd hW.2.2) kSX5_114 rfl hl.1 [] rfl (Nat.le_of_ble_eq_true rfl) ⟨(Nat.le_of_ble_eq_true rfl), (Nat.le_of_ble_eq_true rfl)⟩ ⟨(Nat.zero_le _), (Nat.zero_le _)⟩ dX5_readLine_44 ?_
      refine lv_istore_n (lv' := [(3, .int x7), (0, .ref o_q0), (1, .int p1), (2, .int x1)]) S.1 S.2.1 dX5_readLine_47 rfl hl (by decide) rfl (fun ls hl => ?_)
      refine lv_iconst (v := 0) S.1 S.2.1 dX5_readLine_48 ic_0 ?_
      refine lv_istore (lv' := [(4, .int (0 : Int32)), (3, .int x7), (0, .ref o_q0), (1, .int p1), (2, .int x1)]) S.1 S.2.1 dX5_readLine_49 hl (by decide) rfl (fun ls hl => ?_)
      obtain ⟨x10, hf_, hk10⟩ := bnd_e hf
      have hE10 : ∀ (v17 : Int32 × Int32 × (Nat → Int32) × Int32 × Int32 × Int32 × Int32), x10 = .inr v17 → ∀ (ls : Array Slot) (H : Heap) (locs : List Loc), lv_has ls 5 [(0, .ref o_q0), (1, .int p1), (2, .int x1)] → St A s.heap D (wRe g o_q0 o_town_q0 o_town_q1 o_town_q2 o_town_q3 o_town_q4 o_week_q0 o_week_q1 o_log_q0 o_log_q1 o_q1 o_q2 o_town_people o_town_wit o_town_purse o_town_hated o_town_owed o_week_deeds o_week_cells o_log_facts o_log_cells v17.1 v17.2.1 v17.2.2.1 o_tape o_length v17.2.2.2.1 v17.2.2.2.2.1 v17.2.2.2.2.2.1 v17.2.2.2.2.2.2 o_toldOf) H locs → W p l e (rmD 7) s m args below meth c H locs 0 0 Q (F0 m 111 ls []) := by
        intro v17 e_ ls H locs hl hW
        subst e_
        have hf := cse_r hk10
        refine lv_aload_n S.1 S.2.1 dX5_readLine_111 rfl (lv_at hl 0 rfl) ?_
        obtain ⟨x18, hx18, hf⟩ := bnd_e hf
        refine Wr.goW (Wr.runV (c_X5_takeToken hx18) S hK hW.1 hW.2.1 0 3 rfl rfl kVX5_69 rfl hl.1 [] rfl (Nat.le_of_ble_eq_true rfl) ⟨(Nat.le_of_ble_eq_true rfl), (Nat.le_of_ble_eq_true rfl)⟩ ⟨(Nat.zero_le _), (Nat.zero_le _)⟩ dX5_readLine_112) hW hA (fun H locs hW => ?_)
        refine lv_aload_n S.1 S.2.1 dX5_readLine_115 rfl (lv_at hl 0 rfl) ?_
        refine gfX5_52 S hK hW.1 0 rfl rfl dX5_readLine_116 ?_
        refine lv_iconst (v := 3) S.1 S.2.1 dX5_readLine_119 ic_3 ?_
        refine lv_icmp_eq (tgt := 128) S.1 S.2.1 dX5_readLine_120 (by decide) (fun c_ => ?_) (fun c_ => ?_)
        · have hf := it_p c_ hf
          refine lv_aload_n S.1 S.2.1 dX5_readLine_128 rfl (lv_at hl 0 rfl) ?_
          refine gfX5_32 S hK hW.1 0 rfl rfl dX5_readLine_129 ?_
          refine lv_if_ne (tgt := 141) S.1 S.2.1 dX5_readLine_132 (by decide) (fun c_ => ?_) (fun c_ => ?_)
          · have hf := it_n c_ hf
            refine lv_aload_n S.1 S.2.1 dX5_readLine_141 rfl (lv_at hl 0 rfl) ?_
            obtain ⟨x21, hx21, hf⟩ := bnd_e hf
            refine Wr.goW (Wr.runV (c_X5_takeToken hx21) S hK hW.1 hW.2.1 0 3 rfl rfl kVX5_69 rfl hl.1 [] rfl (Nat.le_of_ble_eq_true rfl) ⟨(Nat.le_of_ble_eq_true rfl), (Nat.le_of_ble_eq_true rfl)⟩ ⟨(Nat.zero_le _), (Nat.zero_le _)⟩ dX5_readLine_142) hW hA (fun H locs hW => ?_)
            have e_ := Option.some.inj hf
            subst e_
            exact hret _ _ _ _ dX5_readLine_145 hW
          · have hf := it_p c_ hf
            refine lv_aload_n S.1 S.2.1 dX5_readLine_135 rfl (lv_at hl 0 rfl) ?_
            refine lv_iload_n S.1 S.2.1 dX5_readLine_136 rfl (lv_at hl 1 rfl) ?_
            refine lv_iload_n S.1 S.2.1 dX5_readLine_137 rfl (lv_at hl 2 rfl) ?_
            obtain ⟨x19, hx19, hf⟩ := bnd_e hf
            refine Wr.goW (Wr.runV (c_X5_keepLine hx19) S hK hW.1 hW.2.1 0 3 rfl rfl kVX5_121 rfl hl.1 [] rfl (Nat.le_of_ble_eq_true rfl) ⟨(Nat.le_of_ble_eq_true rfl), (Nat.le_of_ble_eq_true rfl)⟩ ⟨(Nat.zero_le _), (Nat.zero_le _)⟩ dX5_readLine_138) hW hA (fun H locs hW => ?_)
            refine lv_aload_n S.1 S.2.1 dX5_readLine_141 rfl (lv_at hl 0 rfl) ?_
            obtain ⟨x20, hx20, hf⟩ := bnd_e hf
            refine Wr.goW (Wr.runV (c_X5_takeToken hx20) S hK hW.1 hW.2.1 0 3 rfl rfl kVX5_69 rfl hl.1 [] rfl (Nat.le_of_ble_eq_true rfl) ⟨(Nat.le_of_ble_eq_true rfl), (Nat.le_of_ble_eq_true rfl)⟩ ⟨(Nat.zero_le _), (Nat.zero_le _)⟩ dX5_readLine_142) hW hA (fun H locs hW => ?_)
            have e_ := Option.some.inj hf
            subst e_
            exact hret _ _ _ _ dX5_readLine_145 hW
        · have hf := it_n c_ hf
          refine lv_aload_n S.1 S.2.1 dX5_readLine_123 rfl (lv_at hl 0 rfl) ?_
          obtain ⟨x22, hx22, hf⟩ := bnd_e hf
          refine Wr.goW (Wr.runV (c_X5_stop hx22) S hK hW.1 hW.2.1 0 3 rfl rfl kVX5_101 rfl hl.1 [] rfl (Nat.le_of_ble_eq_true rfl) ⟨(Nat.le_of_ble_eq_true rfl), (Nat.le_of_ble_eq_true rfl)⟩ ⟨(Nat.zero_le _), (Nat.zero_le _)⟩ dX5_readLine_124) hW hA (fun H locs hW => ?_)
          have e_ := Option.some.inj hf
          subst e_
          exact hret _ _ _ _ dX5_readLine_127 hW
      refine lp_ind (P := fun (s9 : Int32 × Int32 × Int32 × (Nat → Int32) × Int32 × Int32 × Int32 × Int32) => ∀ (ls : Array Slot) (H : Heap) (locs : List Loc), lv_has ls 5 [(0, .ref o_q0), (1, .int p1), (2, .int x1), (3, .int x7), (4, .int s9.1)] → St A s.heap D (wRe g o_q0 o_town_q0 o_town_q1 o_town_q2 o_town_q3 o_town_q4 o_week_q0 o_week_q1 o_log_q0 o_log_q1 o_q1 o_q2 o_town_people o_town_wit o_town_purse o_town_hated o_town_owed o_week_deeds o_week_cells o_log_facts o_log_cells s9.2.1 s9.2.2.1 s9.2.2.2.1 o_tape o_length s9.2.2.2.2.1 s9.2.2.2.2.2.1 s9.2.2.2.2.2.2.1 s9.2.2.2.2.2.2.2 o_toldOf) H locs → W p l e (rmD 7) s m args below meth c H locs 0 0 Q (F0 m 51 ls [])) ?_ _ _ hf_ _ _ _ (lv_sub hl [2, 3, 4, 1, 0] rfl) hW
      intro s9 x11 hf hI10 hR10 ls H locs hl hW
      refine lv_iload S.1 S.2.1 dX5_readLine_51 (lv_at hl 4 rfl) ?_
      refine lv_iload_n S.1 S.2.1 dX5_readLine_53 rfl (lv_at hl 3 rfl) ?_
      refine lv_icmp_ge (tgt := 111) S.1 S.2.1 dX5_readLine_54 (by decide) (fun c_ => ?_) (fun c_ => ?_)
      · have hf := it_p c_ hf
        have e_ := hR10 _ (Option.some.inj hf).symm
        exact hE10 _ e_.symm _ _ _ (lv_sub hl [0, 1, 2] rfl) hW
      · have hf := it_n c_ hf
        refine lv_aload_n S.1 S.2.1 dX5_readLine_57 rfl (lv_at hl 0 rfl) ?_
        obtain ⟨x12, hx12, hf⟩ := bnd_e hf
        refine Wr.goW (Wr.runV (c_X5_takeToken hx12) S hK hW.1 hW.2.1 0 3 rfl rfl kVX5_69 rfl hl.1 [] rfl (Nat.le_of_ble_eq_true rfl) ⟨(Nat.le_of_ble_eq_true rfl), (Nat.le_of_ble_eq_true rfl)⟩ ⟨(Nat.zero_le _), (Nat.zero_le _)⟩ dX5_readLine_58) hW hA (fun H locs hW => ?_)
        refine lv_aload_n S.1 S.2.1 dX5_readLine_61 rfl (lv_at hl 0 rfl) ?_
        refine gfX5_52 S hK hW.1 0 rfl rfl dX5_readLine_62 ?_
        refine lv_iconst (v := 2) S.1 S.2.1 dX5_readLine_65 ic_2 ?_
        refine lv_icmp_eq (tgt := 74) S.1 S.2.1 dX5_readLine_66 (by decide) (fun c_ => ?_) (fun c_ => ?_)
        · have hf := it_p c_ hf
          refine lv_aload_n S.1 S.2.1 dX5_readLine_74 rfl (lv_at hl 0 rfl) ?_
          refine gfX5_39 S hK hW.1 0 rfl rfl dX5_readLine_75 ?_
          refine lv_iload S.1 S.2.1 dX5_readLine_78 (lv_at hl 4 rfl) ?_
          refine lv_aload_n S.1 S.2.1 dX5_readLine_80 rfl (lv_at hl 0 rfl) ?_
          refine gfX5_55 S hK hW.1 0 rfl rfl dX5_readLine_81 ?_
          obtain ⟨x13, hx13, hf⟩ := bnd_e hf
          refine q_iast (ws2 := (wRe g o_q0 o_town_q0 o_town_q1 o_town_q2 o_town_q3 o_town_q4 o_week_q0 o_week_q1 o_log_q0 o_log_q1 o_q1 o_q2 o_town_people o_town_wit o_town_purse o_town_hated o_town_owed o_week_deeds o_week_cells o_log_facts o_log_cells s9.2.1 s9.2.2.1 x13 o_tape o_length x12.1 x12.2.1 x12.2.2.1 x12.2.2.2 o_toldOf)) S hK hW 10 0 rfl rfl hx13 rfl dX5_readLine_84 (fun H locs hW => ?_)
          refine lv_aload_n S.1 S.2.1 dX5_readLine_85 rfl (lv_at hl 0 rfl) ?_
          refine lv_iload_n S.1 S.2.1 dX5_readLine_86 rfl (lv_at hl 1 rfl) ?_
          refine lv_iload_n S.1 S.2.1 dX5_readLine_87 rfl (lv_at hl 2 rfl) ?_
          refine lv_iload S.1 S.2.1 dX5_readLine_88 (lv_at hl 4 rfl) ?_
          obtain ⟨x14, hx14, hf⟩ := bnd_e hf
          refine Rd.cV (c_X5_canBe hx14) S hK hW.1 0 3 rfl rfl kVX5_117 rfl hl.1 [] rfl (Nat.le_of_ble_eq_true rfl) ⟨(Nat.le_of_ble_eq_true rfl), (Nat.le_of_ble_eq_true rfl)⟩ ⟨(Nat.zero_le _), (Nat.zero_le _)⟩ dX5_readLine_90 ?_
          refine lv_if_ne (tgt := 105) S.1 S.2.1 dX5_readLine_93 (by decide) (fun c_ => ?_) (fun c_ => ?_)
          · have hf := it_n c_ hf
            refine q_iinc (w := 1) (lv' := [(4, .int (s9.1 + 1)), (0, .ref o_q0), (1, .int p1), (2, .int x1), (3, .int x7)]) S dX5_readLine_105 hl (k := 4) rfl ic_1 (by decide) rfl (fun ls hl => ?_)
            refine lv_goto (tgt := 51) S.1 S.2.1 dX5_readLine_108 (by decide) ?_
            exact hI10 _ (Option.some.inj hf).symm _ _ _ (lv_sub hl [1, 2, 3, 4, 0] rfl) hW
          · have hf := it_p c_ hf
            refine lv_aload_n S.1 S.2.1 dX5_readLine_96 rfl (lv_at hl 0 rfl) ?_
            refine lv_iconst (v := 2) S.1 S.2.1 dX5_readLine_97 ic_2 ?_
            refine lv_aload_n S.1 S.2.1 dX5_readLine_98 rfl (lv_at hl 0 rfl) ?_
            refine gfX5_49 S hK hW.1 0 rfl rfl dX5_readLine_99 ?_
            obtain ⟨x15, hx15, hf⟩ := bnd_e hf
            refine Wr.goW (Wr.runV (c_X5_note hx15) S hK hW.1 hW.2.1 0 3 rfl rfl kVX5_78 rfl hl.1 [] rfl (Nat.le_of_ble_eq_true rfl) ⟨(Nat.le_of_ble_eq_true rfl), (Nat.le_of_ble_eq_true rfl)⟩ ⟨(Nat.zero_le _), (Nat.zero_le _)⟩ dX5_readLine_102) hW hA (fun H locs hW => ?_)
            refine q_iinc (w := 1) (lv' := [(4, .int (s9.1 + 1)), (0, .ref o_q0), (1, .int p1), (2, .int x1), (3, .int x7)]) S dX5_readLine_105 hl (k := 4) rfl ic_1 (by decide) rfl (fun ls hl => ?_)
            refine lv_goto (tgt := 51) S.1 S.2.1 dX5_readLine_108 (by decide) ?_
            exact hI10 _ (Option.some.inj hf).symm _ _ _ (lv_sub hl [1, 2, 3, 4, 0] rfl) hW
        · have hf := it_n c_ hf
          refine lv_aload_n S.1 S.2.1 dX5_readLine_69 rfl (lv_at hl 0 rfl) ?_
          obtain ⟨x16, hx16, hf⟩ := bnd_e hf
          refine Wr.goW (Wr.runV (c_X5_stop hx16) S hK hW.1 hW.2.1 0 3 rfl rfl kVX5_101 rfl hl.1 [] rfl (Nat.le_of_ble_eq_true rfl) ⟨(Nat.le_of_ble_eq_true rfl), (Nat.le_of_ble_eq_true rfl)⟩ ⟨(Nat.zero_le _), (Nat.zero_le _)⟩ dX5_readLine_70) hW hA (fun H locs hW => ?_)
          have e_ := hR10 _ (Option.some.inj hf).symm
          subst e_
          have hf := cse_l hk10
          have e_ := Option.some.inj hf
          subst e_
          exact hret _ _ _ _ dX5_readLine_73 hW
    have hf := hf_
    refine lv_if_eq (tgt := 34) S.1 S.2.1 dX5_readLine_22 (by decide) (fun c_ => ?_) (fun c_ => ?_)
    · have hf := it_p c_ hf
      exact hJ4 _ (Option.some.inj hf) _ _ _ (lv_sub hl [1, 2, 0] rfl) hW
    · have hf := it_n c_ hf
      refine lv_aload_n S.1 S.2.1 dX5_readLine_25 rfl (lv_at hl 1 rfl) ?_
      refine lv_iconst (v := 3) S.1 S.2.1 dX5_readLine_26 ic_3 ?_
      refine lv_aload_n S.1 S.2.1 dX5_readLine_27 rfl (lv_at hl 1 rfl) ?_
      refine gfX5_49 S hK hW.1 0 rfl rfl dX5_readLine_28 ?_
      obtain ⟨x24, hx24, hf⟩ := bnd_e hf
      refine Wr.goW (Wr.runV (c_X5_note hx24) S hK hW.1 hW.2.1 0 3 rfl rfl kVX5_78 rfl hl.1 [] rfl (Nat.le_of_ble_eq_true rfl) ⟨(Nat.le_of_ble_eq_true rfl), (Nat.le_of_ble_eq_true rfl)⟩ ⟨(Nat.zero_le _), (Nat.zero_le _)⟩ dX5_readLine_31) hW hA (fun H locs hW => ?_)
      exact hJ4 _ (Option.some.inj hf) _ _ _ (lv_sub hl [1, 2, 0] rfl) hW
  · have hf := it_p c_ hf
    refine lv_aload_n S.1 S.2.1 dX5_readLine_11 rfl (lv_at hl 1 rfl) ?_
    obtain ⟨x2, hx2, hf⟩ := bnd_e hf
    refine Wr.goW (Wr.runV (c_X5_stop hx2) S hK hW.1 hW.2.1 0 3 rfl rfl kVX5_101 rfl hl.1 [] rfl (Nat.le_of_ble_eq_true rfl) ⟨(Nat.le_of_ble_eq_true rfl), (Nat.le_of_ble_eq_true rfl)⟩ ⟨(Nat.zero_le _), (Nat.zero_le _)⟩ dX5_readLine_12) hW hA (fun H locs hW => ?_)
    have e_ := Option.some.inj hf
    subst e_
    exact hret _ _ _ _ dX5_readLine_15 hW
def f_X5_read_L11 (fu : Nat) (o_tape : (Nat → Int32)) (p1 : Int32) (x1 : Int32 × (Nat → Int32) × (Nat → Int32) × Int32 × Int32 × Int32 × Int32 × Int32 × Int32 × Int32) (s4 : Int32 × Int32 × (Nat → Int32) × (Nat → Int32) × (Nat → Int32) × (Nat → Int32) × Int32 × (Nat → Int32) × Int32 × (Nat → Int32) × Int32 × Int32 × (Nat → Int32) × Int32 × Int32 × Int32 × Int32 × Int32) : Option ((Int32 × Int32 × (Nat → Int32) × (Nat → Int32) × (Nat → Int32) × (Nat → Int32) × Int32 × (Nat → Int32) × Int32 × (Nat → Int32) × Int32 × Int32 × (Nat → Int32) × Int32 × Int32 × Int32 × Int32 × Int32) ⊕ (Int32 × (Nat → Int32) × (Nat → Int32) × (Nat → Int32) × (Nat → Int32) × Int32 × (Nat → Int32) × Int32 × (Nat → Int32) × Int32 × Int32 × (Nat → Int32) × Int32 × Int32 × Int32 × Int32 × Int32)) := if (600 : Int32) < s4.1 then some (.inr (s4.2.1, s4.2.2.1, s4.2.2.2.1, s4.2.2.2.2.1, s4.2.2.2.2.2.1, s4.2.2.2.2.2.2.1, s4.2.2.2.2.2.2.2.1, s4.2.2.2.2.2.2.2.2.1, s4.2.2.2.2.2.2.2.2.2.1, s4.2.2.2.2.2.2.2.2.2.2.1, s4.2.2.2.2.2.2.2.2.2.2.2.1, s4.2.2.2.2.2.2.2.2.2.2.2.2.1, s4.2.2.2.2.2.2.2.2.2.2.2.2.2.1, s4.2.2.2.2.2.2.2.2.2.2.2.2.2.2.1, s4.2.2.2.2.2.2.2.2.2.2.2.2.2.2.2.1, s4.2.2.2.2.2.2.2.2.2.2.2.2.2.2.2.2.1, s4.2.2.2.2.2.2.2.2.2.2.2.2.2.2.2.2.2)) else if s4.2.2.2.2.2.2.2.2.2.2.2.2.2.2.2.1 = 0 then some (.inr (s4.2.1, s4.2.2.1, s4.2.2.2.1, s4.2.2.2.2.1, s4.2.2.2.2.2.1, s4.2.2.2.2.2.2.1, s4.2.2.2.2.2.2.2.1, s4.2.2.2.2.2.2.2.2.1, s4.2.2.2.2.2.2.2.2.2.1, s4.2.2.2.2.2.2.2.2.2.2.1, s4.2.2.2.2.2.2.2.2.2.2.2.1, s4.2.2.2.2.2.2.2.2.2.2.2.2.1, s4.2.2.2.2.2.2.2.2.2.2.2.2.2.1, s4.2.2.2.2.2.2.2.2.2.2.2.2.2.2.1, s4.2.2.2.2.2.2.2.2.2.2.2.2.2.2.2.1, s4.2.2.2.2.2.2.2.2.2.2.2.2.2.2.2.2.1, s4.2.2.2.2.2.2.2.2.2.2.2.2.2.2.2.2.2)) else if s4.2.2.2.2.2.2.2.2.2.2.1 = (1 : Int32) then some (.inr (s4.2.1, s4.2.2.1, s4.2.2.2.1, s4.2.2.2.2.1, s4.2.2.2.2.2.1, s4.2.2.2.2.2.2.1, s4.2.2.2.2.2.2.2.1, s4.2.2.2.2.2.2.2.2.1, s4.2.2.2.2.2.2.2.2.2.1, s4.2.2.2.2.2.2.2.2.2.2.1, s4.2.2.2.2.2.2.2.2.2.2.2.1, s4.2.2.2.2.2.2.2.2.2.2.2.2.1, s4.2.2.2.2.2.2.2.2.2.2.2.2.2.1, s4.2.2.2.2.2.2.2.2.2.2.2.2.2.2.1, s4.2.2.2.2.2.2.2.2.2.2.2.2.2.2.2.1, s4.2.2.2.2.2.2.2.2.2.2.2.2.2.2.2.2.1, s4.2.2.2.2.2.2.2.2.2.2.2.2.2.2.2.2.2)) else bnd (α := Int32 × (Nat → Int32) × (Nat → Int32) × (Nat → Int32) × (Nat → Int32) × Int32 × (Nat → Int32) × Int32 × (Nat → Int32) × Int32 × Int32 × (Nat → Int32) × Int32 × Int32 × Int32 × Int32 × Int32) (f_X5_readLine fu s4.2.1 s4.2.2.1 s4.2.2.2.1 s4.2.2.2.2.1 s4.2.2.2.2.2.1 s4.2.2.2.2.2.2.1 s4.2.2.2.2.2.2.2.1 s4.2.2.2.2.2.2.2.2.1 s4.2.2.2.2.2.2.2.2.2.1 s4.2.2.2.2.2.2.2.2.2.2.1 s4.2.2.2.2.2.2.2.2.2.2.2.1 s4.2.2.2.2.2.2.2.2.2.2.2.2.1 o_tape x1.2.2.2.2.2.2.2.1 s4.2.2.2.2.2.2.2.2.2.2.2.2.2.1 s4.2.2.2.2.2.2.2.2.2.2.2.2.2.2.1 s4.2.2.2.2.2.2.2.2.2.2.2.2.2.2.2.1 s4.2.2.2.2.2.2.2.2.2.2.2.2.2.2.2.2.1 s4.2.2.2.2.2.2.2.2.2.2.2.2.2.2.2.2.2 p1) (fun x7 => some (.inl ((s4.1 + 1), x7.1, x7.2.1, x7.2.2.1, x7.2.2.2.1, x7.2.2.2.2.1, x7.2.2.2.2.2.1, x7.2.2.2.2.2.2.1, x7.2.2.2.2.2.2.2.1, x7.2.2.2.2.2.2.2.2.1, x7.2.2.2.2.2.2.2.2.2.1, x7.2.2.2.2.2.2.2.2.2.2.1, x7.2.2.2.2.2.2.2.2.2.2.2.1, x7.2.2.2.2.2.2.2.2.2.2.2.2.1, x7.2.2.2.2.2.2.2.2.2.2.2.2.2.1, x7.2.2.2.2.2.2.2.2.2.2.2.2.2.2.1, x7.2.2.2.2.2.2.2.2.2.2.2.2.2.2.2.1, x7.2.2.2.2.2.2.2.2.2.2.2.2.2.2.2.2)))
def f_X5_read (fu : Nat) (o_town_people : Int32) (o_town_wit : (Nat → Int32)) (o_town_purse : (Nat → Int32)) (o_town_hated : (Nat → Int32)) (o_town_owed : (Nat → Int32)) (o_week_deeds : Int32) (o_week_cells : (Nat → Int32)) (o_log_facts : Int32) (o_log_cells : (Nat → Int32)) (o_fault : Int32) (o_place : Int32) (o_numbers : (Nat → Int32)) (o_tape : (Nat → Int32)) (o_length : Int32) (o_next : Int32) (o_start : Int32) (o_token : Int32) (o_value : Int32) (o_toldOf : Int32) (p1 : Int32) (p2 : Int32) : Option (Int32 × (Nat → Int32) × (Nat → Int32) × (Nat → Int32) × (Nat → Int32) × Int32 × (Nat → Int32) × Int32 × (Nat → Int32) × Int32 × Int32 × (Nat → Int32) × Int32 × Int32 × Int32 × Int32 × Int32 × Int32) := bnd (α := Int32 × (Nat → Int32) × (Nat → Int32) × Int32 × Int32 × Int32 × Int32 × Int32 × Int32 × Int32) (f_X5_begin fu o_town_people o_town_hated o_town_owed o_week_deeds o_log_facts o_fault o_place o_length o_next o_toldOf p2) (fun x1 => bnd (α := Int32 × Int32 × Int32 × Int32) (f_X5_takeToken fu o_tape x1.2.2.2.2.2.2.2.1 x1.2.2.2.2.2.2.2.2.1 o_start o_token o_value) (fun x2 => bnd (α := Int32 × (Nat → Int32) × (Nat → Int32) × (Nat → Int32) × (Nat → Int32) × Int32 × (Nat → Int32) × Int32 × (Nat → Int32) × Int32 × Int32 × (Nat → Int32) × Int32 × Int32 × Int32 × Int32 × Int32) (lp (f_X5_read_L11 fu o_tape p1 x1) fu ((0 : Int32), x1.1, o_town_wit, o_town_purse, x1.2.1, x1.2.2.1, x1.2.2.2.1, o_week_cells, x1.2.2.2.2.1, o_log_cells, x1.2.2.2.2.2.1, x1.2.2.2.2.2.2.1, o_numbers, x2.1, x2.2.1, x2.2.2.1, x2.2.2.2, x1.2.2.2.2.2.2.2.2.2)) (fun v8 => if v8.2.2.2.2.2.2.2.2.2.1 = 0 then if p1 = 0 then if (jshr v8.2.2.2.2.2.2.2.2.2.2.2.2.2.2.2.2 v8.1) = 0 then some (v8.1, v8.2.1, v8.2.2.1, v8.2.2.2.1, v8.2.2.2.2.1, v8.2.2.2.2.2.1, v8.2.2.2.2.2.2.1, v8.2.2.2.2.2.2.2.1, v8.2.2.2.2.2.2.2.2.1, v8.2.2.2.2.2.2.2.2.2.1, v8.2.2.2.2.2.2.2.2.2.2.1, v8.2.2.2.2.2.2.2.2.2.2.2.1, x1.2.2.2.2.2.2.2.1, v8.2.2.2.2.2.2.2.2.2.2.2.2.1, v8.2.2.2.2.2.2.2.2.2.2.2.2.2.1, v8.2.2.2.2.2.2.2.2.2.2.2.2.2.2.1, v8.2.2.2.2.2.2.2.2.2.2.2.2.2.2.2.1, v8.2.2.2.2.2.2.2.2.2.2.2.2.2.2.2.2) else bnd (α := Int32 × Int32) (f_X5_note fu v8.2.2.2.2.2.2.2.2.2.1 v8.2.2.2.2.2.2.2.2.2.2.1 (4 : Int32) x1.2.2.2.2.2.2.2.1) (fun x9 => some (v8.1, v8.2.1, v8.2.2.1, v8.2.2.2.1, v8.2.2.2.2.1, v8.2.2.2.2.2.1, v8.2.2.2.2.2.2.1, v8.2.2.2.2.2.2.2.1, v8.2.2.2.2.2.2.2.2.1, x9.1, x9.2, v8.2.2.2.2.2.2.2.2.2.2.2.1, x1.2.2.2.2.2.2.2.1, v8.2.2.2.2.2.2.2.2.2.2.2.2.1, v8.2.2.2.2.2.2.2.2.2.2.2.2.2.1, v8.2.2.2.2.2.2.2.2.2.2.2.2.2.2.1, v8.2.2.2.2.2.2.2.2.2.2.2.2.2.2.2.1, v8.2.2.2.2.2.2.2.2.2.2.2.2.2.2.2.2)) else some (v8.1, v8.2.1, v8.2.2.1, v8.2.2.2.1, v8.2.2.2.2.1, v8.2.2.2.2.2.1, v8.2.2.2.2.2.2.1, v8.2.2.2.2.2.2.2.1, v8.2.2.2.2.2.2.2.2.1, v8.2.2.2.2.2.2.2.2.2.1, v8.2.2.2.2.2.2.2.2.2.2.1, v8.2.2.2.2.2.2.2.2.2.2.2.1, x1.2.2.2.2.2.2.2.1, v8.2.2.2.2.2.2.2.2.2.2.2.2.1, v8.2.2.2.2.2.2.2.2.2.2.2.2.2.1, v8.2.2.2.2.2.2.2.2.2.2.2.2.2.2.1, v8.2.2.2.2.2.2.2.2.2.2.2.2.2.2.2.1, v8.2.2.2.2.2.2.2.2.2.2.2.2.2.2.2.2) else some (v8.1, v8.2.1, v8.2.2.1, v8.2.2.2.1, v8.2.2.2.2.1, v8.2.2.2.2.2.1, v8.2.2.2.2.2.2.1, v8.2.2.2.2.2.2.2.1, v8.2.2.2.2.2.2.2.2.1, v8.2.2.2.2.2.2.2.2.2.1, v8.2.2.2.2.2.2.2.2.2.2.1, v8.2.2.2.2.2.2.2.2.2.2.2.1, x1.2.2.2.2.2.2.2.1, v8.2.2.2.2.2.2.2.2.2.2.2.2.1, v8.2.2.2.2.2.2.2.2.2.2.2.2.2.1, v8.2.2.2.2.2.2.2.2.2.2.2.2.2.2.1, v8.2.2.2.2.2.2.2.2.2.2.2.2.2.2.2.1, v8.2.2.2.2.2.2.2.2.2.2.2.2.2.2.2.2))))
set_option maxHeartbeats 4000000 in
set_option maxRecDepth 100000 in
theorem c_X5_read {l : Launch} {D : va_G} {g : Nat → ClassId} {fu : Nat} {o_q0 o_town_q0 o_town_q1 o_town_q2 o_town_q3 o_town_q4 o_week_q0 o_week_q1 o_log_q0 o_log_q1 o_q1 o_q2 : Nat} {z : Nat → Nat} {o_town_people : Int32} {o_town_wit : (Nat → Int32)} {o_town_purse : (Nat → Int32)} {o_town_hated : (Nat → Int32)} {o_town_owed : (Nat → Int32)} {o_week_deeds : Int32} {o_week_cells : (Nat → Int32)} {o_log_facts : Int32} {o_log_cells : (Nat → Int32)} {o_fault : Int32} {o_place : Int32} {o_numbers : (Nat → Int32)} {o_tape : (Nat → Int32)} {o_length : Int32} {o_next : Int32} {o_start : Int32} {o_token : Int32} {o_value : Int32} {o_toldOf : Int32} {p1 : Int32} {p2 : Int32} {r : Int32 × (Nat → Int32) × (Nat → Int32) × (Nat → Int32) × (Nat → Int32) × Int32 × (Nat → Int32) × Int32 × (Nat → Int32) × Int32 × Int32 × (Nat → Int32) × Int32 × Int32 × Int32 × Int32 × Int32 × Int32} (hf : f_X5_read fu o_town_people o_town_wit o_town_purse o_town_hated o_town_owed o_week_deeds o_week_cells o_log_facts o_log_cells o_fault o_place o_numbers o_tape o_length o_next o_start o_token o_value o_toldOf p1 p2 = some r) : WrE l D (gy g) yX5_read cX5_read 4 none 8 z [.ref o_q0, .int p1, .int p2] (wRe g o_q0 o_town_q0 o_town_q1 o_town_q2 o_town_q3 o_town_q4 o_week_q0 o_week_q1 o_log_q0 o_log_q1 o_q1 o_q2 o_town_people o_town_wit o_town_purse o_town_hated o_town_owed o_week_deeds o_week_cells o_log_facts o_log_cells o_fault o_place o_numbers o_tape o_length o_next o_start o_token o_value o_toldOf) (wRe g o_q0 o_town_q0 o_town_q1 o_town_q2 o_town_q3 o_town_q4 o_week_q0 o_week_q1 o_log_q0 o_log_q1 o_q1 o_q2 r.1 r.2.1 r.2.2.1 r.2.2.2.1 r.2.2.2.2.1 r.2.2.2.2.2.1 r.2.2.2.2.2.2.1 r.2.2.2.2.2.2.2.1 r.2.2.2.2.2.2.2.2.1 r.2.2.2.2.2.2.2.2.2.1 r.2.2.2.2.2.2.2.2.2.2.1 r.2.2.2.2.2.2.2.2.2.2.2.1 o_tape r.2.2.2.2.2.2.2.2.2.2.2.2.1 r.2.2.2.2.2.2.2.2.2.2.2.2.2.1 r.2.2.2.2.2.2.2.2.2.2.2.2.2.2.1 r.2.2.2.2.2.2.2.2.2.2.2.2.2.2.2.1 r.2.2.2.2.2.2.2.2.2.2.2.2.2.2.2.2.1 r.2.2.2.2.2.2.2.2.2.2.2.2.2.2.2.2.2) none := by
  refine WrE.ofV (by decide) (Nat.le_of_ble_eq_true rfl) ?_
  intro p e s m args below meth c Q A S hK hA hX hret ls hl hW
  have hl : lv_has ls 4 [(0, .ref o_q0), (1, .int p1), (2, .int p2)] := hl
  refine lv_aload_n S.1 S.2.1 dX5_read_0 rfl (lv_at hl 0 rfl) ?_
  refine lv_iload_n S.1 S.2.1 dX5_read_1 rfl (lv_at hl 2 rfl) ?_
  obtain ⟨x1, hx1, hf⟩ := bnd_e hf
  refine Wr.goW (Wr.runV (c_X5_begin hx1) S hK hW.1 hW.2.1 0 3 rfl rfl kVX5_65 rfl hl.1 [] rfl (Nat.le_of_ble_eq_true rfl) ⟨(Nat.le_of_ble_eq_true rfl), (Nat.le_of_ble_eq_true rfl)⟩ ⟨(Nat.zero_le _), (Nat.zero_le _)⟩ dX5_read_2) hW hA (fun H locs hW => ?_)
  refine lv_aload_n S.1 S.2.1 dX5_read_5 rfl (lv_at hl 0 rfl) ?_
  obtain ⟨x2, hx2, hf⟩ := bnd_e hf
  refine Wr.goW (Wr.runV (c_X5_takeToken hx2) S hK hW.1 hW.2.1 0 3 rfl rfl kVX5_69 rfl hl.1 [] rfl (Nat.le_of_ble_eq_true rfl) ⟨(Nat.le_of_ble_eq_true rfl), (Nat.le_of_ble_eq_true rfl)⟩ ⟨(Nat.zero_le _), (Nat.zero_le _)⟩ dX5_read_6) hW hA (fun H locs hW => ?_)
  refine lv_iconst (v := 0) S.1 S.2.1 dX5_read_9 ic_0 ?_
  refine lv_istore_n (lv' := [(3, .int (0 : Int32)), (0, .ref o_q0), (1, .int p1), (2, .int p2)]) S.1 S.2.1 dX5_read_10 rfl hl (by decide) rfl (fun ls hl => ?_)
  obtain ⟨x5, hf_, hk5⟩ := bnd_e hf
  have hE5 : ∀ (v8 : Int32 × (Nat → Int32) × (Nat → Int32) × (Nat → Int32) × (Nat → Int32) × Int32 × (Nat → Int32) × Int32 × (Nat → Int32) × Int32 × Int32 × (Nat → Int32) × Int32 × Int32 × Int32 × Int32 × Int32), v8 = x5 → ∀ (ls : Array Slot) (H : Heap) (locs : List Loc), lv_has ls 4 [(0, .ref o_q0), (1, .int p1)] → St A s.heap D (wRe g o_q0 o_town_q0 o_town_q1 o_town_q2 o_town_q3 o_town_q4 o_week_q0 o_week_q1 o_log_q0 o_log_q1 o_q1 o_q2 v8.1 v8.2.1 v8.2.2.1 v8.2.2.2.1 v8.2.2.2.2.1 v8.2.2.2.2.2.1 v8.2.2.2.2.2.2.1 v8.2.2.2.2.2.2.2.1 v8.2.2.2.2.2.2.2.2.1 v8.2.2.2.2.2.2.2.2.2.1 v8.2.2.2.2.2.2.2.2.2.2.1 v8.2.2.2.2.2.2.2.2.2.2.2.1 o_tape x1.2.2.2.2.2.2.2.1 v8.2.2.2.2.2.2.2.2.2.2.2.2.1 v8.2.2.2.2.2.2.2.2.2.2.2.2.2.1 v8.2.2.2.2.2.2.2.2.2.2.2.2.2.2.1 v8.2.2.2.2.2.2.2.2.2.2.2.2.2.2.2.1 v8.2.2.2.2.2.2.2.2.2.2.2.2.2.2.2.2) H locs → W p l e (rmD 8) s m args below meth c H locs 0 0 Q (F0 m 44 ls []) := by
    intro v8 e_ ls H locs hl hW
    subst e_
    have hf := hk5
    refine lv_aload_n S.1 S.2.1 dX5_read_44 rfl (lv_at hl 0 rfl) ?_
    refine gfX5_32 S hK hW.1 0 rfl rfl dX5_read_45 ?_
    refine lv_if_ne (tgt := 79) S.1 S.2.1 dX5_read_48 (by decide) (fun c_ => ?_) (fun c_ => ?_)
    · have hf := it_n c_ hf
      have e_ := Option.some.inj hf
      subst e_
      exact hret _ _ _ _ dX5_read_79 hW
    · have hf := it_p c_ hf
      refine lv_iload_n S.1 S.2.1 dX5_read_51 rfl (lv_at hl 1 rfl) ?_
      refine lv_if_ne (tgt := 79) S.1 S.2.1 dX5_read_52 (by decide) (fun c_ => ?_) (fun c_ => ?_)
      · have hf := it_n c_ hf
        have e_ := Option.some.inj hf
        subst e_
        exact hret _ _ _ _ dX5_read_79 hW
      · have hf := it_p c_ hf
        refine lv_aload_n S.1 S.2.1 dX5_read_55 rfl (lv_at hl 0 rfl) ?_
        refine gfX5_58 S hK hW.1 0 rfl rfl dX5_read_56 ?_
        refine lv_aload_n S.1 S.2.1 dX5_read_59 rfl (lv_at hl 0 rfl) ?_
        refine gfX5_12 S hK hW.1 0 rfl rfl dX5_read_60 ?_
        refine gfX5_75 S hK hW.1 1 rfl rfl dX5_read_63 ?_
        refine lv_ishr S.1 S.2.1 dX5_read_66 ?_
        refine lv_if_eq (tgt := 79) S.1 S.2.1 dX5_read_67 (by decide) (fun c_ => ?_) (fun c_ => ?_)
        · have hf := it_p c_ hf
          have e_ := Option.some.inj hf
          subst e_
          exact hret _ _ _ _ dX5_read_79 hW
        · have hf := it_n c_ hf
          refine lv_aload_n S.1 S.2.1 dX5_read_70 rfl (lv_at hl 0 rfl) ?_
          refine lv_iconst (v := 4) S.1 S.2.1 dX5_read_71 ic_4 ?_
          refine lv_aload_n S.1 S.2.1 dX5_read_72 rfl (lv_at hl 0 rfl) ?_
          refine gfX5_43 S hK hW.1 0 rfl rfl dX5_read_73 ?_
          obtain ⟨x9, hx9, hf⟩ := bnd_e hf
          refine Wr.goW (Wr.runV (c_X5_note hx9) S hK hW.1 hW.2.1 0 3 rfl rfl kVX5_78 rfl hl.1 [] rfl (Nat.le_of_ble_eq_true rfl) ⟨(Nat.le_of_ble_eq_true rfl), (Nat.le_of_ble_eq_true rfl)⟩ ⟨(Nat.zero_le _), (Nat.zero_le _)⟩ dX5_read_76) hW hA (fun H locs hW => ?_)
          have e_ := Option.some.inj hf
          subst e_
          exact hret _ _ _ _ dX5_read_79 hW
  refine lp_ind (P := fun (s4 : Int32 × Int32 × (Nat → Int32) × (Nat → Int32) × (Nat → Int32) × (Nat → Int32) × Int32 × (Nat → Int32) × Int32 × (Nat → Int32) × Int32 × Int32 × (Nat → Int32) × Int32 × Int32 × Int32 × Int32 × Int32) => ∀ (ls : Array Slot) (H : Heap) (locs : List Loc), lv_has ls 4 [(0, .ref o_q0), (1, .int p1), (3, .int s4.1)] → St A s.heap D (wRe g o_q0 o_town_q0 o_town_q1 o_town_q2 o_town_q3 o_town_q4 o_week_q0 o_week_q1 o_log_q0 o_log_q1 o_q1 o_q2 s4.2.1 s4.2.2.1 s4.2.2.2.1 s4.2.2.2.2.1 s4.2.2.2.2.2.1 s4.2.2.2.2.2.2.1 s4.2.2.2.2.2.2.2.1 s4.2.2.2.2.2.2.2.2.1 s4.2.2.2.2.2.2.2.2.2.1 s4.2.2.2.2.2.2.2.2.2.2.1 s4.2.2.2.2.2.2.2.2.2.2.2.1 s4.2.2.2.2.2.2.2.2.2.2.2.2.1 o_tape x1.2.2.2.2.2.2.2.1 s4.2.2.2.2.2.2.2.2.2.2.2.2.2.1 s4.2.2.2.2.2.2.2.2.2.2.2.2.2.2.1 s4.2.2.2.2.2.2.2.2.2.2.2.2.2.2.2.1 s4.2.2.2.2.2.2.2.2.2.2.2.2.2.2.2.2.1 s4.2.2.2.2.2.2.2.2.2.2.2.2.2.2.2.2.2) H locs → W p l e (rmD 8) s m args below meth c H locs 0 0 Q (F0 m 11 ls [])) ?_ _ _ hf_ _ _ _ (lv_sub hl [1, 2, 0] rfl) hW
  intro s4 x6 hf hI5 hR5 ls H locs hl hW
  refine lv_iload_n S.1 S.2.1 dX5_read_11 rfl (lv_at hl 2 rfl) ?_
  refine lv_sipush (v := 600) S.1 S.2.1 dX5_read_12 sp_600 ?_
  refine lv_icmp_gt (tgt := 44) S.1 S.2.1 dX5_read_15 (by decide) (fun c_ => ?_) (fun c_ => ?_)
  · have hf := it_p c_ hf
    have e_ := hR5 _ (Option.some.inj hf).symm
    exact hE5 _ e_ _ _ _ (lv_sub hl [0, 1] rfl) hW
  · have hf := it_n c_ hf
    refine lv_aload_n S.1 S.2.1 dX5_read_18 rfl (lv_at hl 0 rfl) ?_
    refine gfX5_52 S hK hW.1 0 rfl rfl dX5_read_19 ?_
    refine lv_if_eq (tgt := 44) S.1 S.2.1 dX5_read_22 (by decide) (fun c_ => ?_) (fun c_ => ?_)
    · have hf := it_p c_ hf
      have e_ := hR5 _ (Option.some.inj hf).symm
      exact hE5 _ e_ _ _ _ (lv_sub hl [0, 1] rfl) hW
    · have hf := it_n c_ hf
      refine lv_aload_n S.1 S.2.1 dX5_read_25 rfl (lv_at hl 0 rfl) ?_
      refine gfX5_32 S hK hW.1 0 rfl rfl dX5_read_26 ?_
      refine lv_iconst (v := 1) S.1 S.2.1 dX5_read_29 ic_1 ?_
      refine lv_icmp_eq (tgt := 44) S.1 S.2.1 dX5_read_30 (by decide) (fun c_ => ?_) (fun c_ => ?_)
      · have hf := it_p c_ hf
        have e_ := hR5 _ (Option.some.inj hf).symm
        exact hE5 _ e_ _ _ _ (lv_sub hl [0, 1] rfl) hW
      · have hf := it_n c_ hf
        refine lv_aload_n S.1 S.2.1 dX5_read_33 rfl (lv_at hl 0 rfl) ?_
        refine lv_iload_n S.1 S.2.1 dX5_read_34 rfl (lv_at hl 1 rfl) ?_
        obtain ⟨x7, hx7, hf⟩ := bnd_e hf
        refine Wr.goW (WrE.runV (c_X5_readLine hx7) S hK hW.1 hW.2.1 hX hW.2.2 hA 0 3 rfl rfl kVX5_72 rfl hl.1 [] rfl (Nat.le_of_ble_eq_true rfl) ⟨(Nat.le_of_ble_eq_true rfl), (Nat.le_of_ble_eq_true rfl)⟩ ⟨(Nat.zero_le _), (Nat.zero_le _)⟩ dX5_read_35) hW hA (fun H locs hW => ?_)
        refine q_iinc (w := 1) (lv' := [(3, .int (s4.1 + 1)), (0, .ref o_q0), (1, .int p1)]) S dX5_read_38 hl (k := 2) rfl ic_1 (by decide) rfl (fun ls hl => ?_)
        refine lv_goto (tgt := 11) S.1 S.2.1 dX5_read_41 (by decide) ?_
        exact hI5 _ (Option.some.inj hf).symm _ _ _ (lv_sub hl [1, 2, 0] rfl) hW
def f_X11_text (fu : Nat) (o_told_tape : (Nat → Int32)) (o_told_length : Int32) (o_told_fault : Int32) (o_told_place : Int32) (o_told_counts : (Nat → Int32)) (o_told_towns0_people : Int32) (o_told_towns0_wit : (Nat → Int32)) (o_told_towns0_purse : (Nat → Int32)) (o_told_towns0_hated : (Nat → Int32)) (o_told_towns0_owed : (Nat → Int32)) (o_told_towns1_people : Int32) (o_told_towns1_wit : (Nat → Int32)) (o_told_towns1_purse : (Nat → Int32)) (o_told_towns1_hated : (Nat → Int32)) (o_told_towns1_owed : (Nat → Int32)) (o_told_weeks0_deeds : Int32) (o_told_weeks0_cells : (Nat → Int32)) (o_told_weeks1_deeds : Int32) (o_told_weeks1_cells : (Nat → Int32)) (o_told_logs0_facts : Int32) (o_told_logs0_cells : (Nat → Int32)) (o_told_logs1_facts : Int32) (o_told_logs1_cells : (Nat → Int32)) (o_reader_town_people : Int32) (o_reader_town_wit : (Nat → Int32)) (o_reader_town_purse : (Nat → Int32)) (o_reader_town_hated : (Nat → Int32)) (o_reader_town_owed : (Nat → Int32)) (o_reader_week_deeds : Int32) (o_reader_week_cells : (Nat → Int32)) (o_reader_log_facts : Int32) (o_reader_log_cells : (Nat → Int32)) (o_reader_fault : Int32) (o_reader_place : Int32) (o_reader_numbers : (Nat → Int32)) (o_reader_length : Int32) (o_reader_next : Int32) (o_reader_start : Int32) (o_reader_token : Int32) (o_reader_value : Int32) (o_reader_toldOf : Int32) (p1 : Int32) (p2 : Int32) : Option (Int32 × Int32 × Int32 × Int32 × (Nat → Int32) × Int32 × (Nat → Int32) × (Nat → Int32) × (Nat → Int32) × (Nat → Int32) × Int32 × (Nat → Int32) × (Nat → Int32) × (Nat → Int32) × (Nat → Int32) × Int32 × (Nat → Int32) × Int32 × (Nat → Int32) × Int32 × (Nat → Int32) × Int32 × (Nat → Int32) × Int32 × (Nat → Int32) × (Nat → Int32) × (Nat → Int32) × (Nat → Int32) × Int32 × (Nat → Int32) × Int32 × (Nat → Int32) × Int32 × Int32 × (Nat → Int32) × Int32 × Int32 × Int32 × Int32 × Int32 × Int32) := bnd (α := Int32) (f_X8_hasPlaceFor fu o_told_counts p1 p2) (fun x1 => if x1 = 0 then some ((-2 : Int32), (0 : Int32), (0 : Int32), (-1 : Int32), o_told_counts, o_told_towns0_people, o_told_towns0_wit, o_told_towns0_purse, o_told_towns0_hated, o_told_towns0_owed, o_told_towns1_people, o_told_towns1_wit, o_told_towns1_purse, o_told_towns1_hated, o_told_towns1_owed, o_told_weeks0_deeds, o_told_weeks0_cells, o_told_weeks1_deeds, o_told_weeks1_cells, o_told_logs0_facts, o_told_logs0_cells, o_told_logs1_facts, o_told_logs1_cells, o_reader_town_people, o_reader_town_wit, o_reader_town_purse, o_reader_town_hated, o_reader_town_owed, o_reader_week_deeds, o_reader_week_cells, o_reader_log_facts, o_reader_log_cells, o_reader_fault, o_reader_place, o_reader_numbers, o_reader_length, o_reader_next, o_reader_start, o_reader_token, o_reader_value, o_reader_toldOf) else bnd (α := Int32 × (Nat → Int32) × (Nat → Int32) × (Nat → Int32) × (Nat → Int32) × Int32 × (Nat → Int32) × Int32 × (Nat → Int32) × Int32 × Int32 × (Nat → Int32) × Int32 × Int32 × Int32 × Int32 × Int32 × Int32) (f_X5_read fu o_reader_town_people o_reader_town_wit o_reader_town_purse o_reader_town_hated o_reader_town_owed o_reader_week_deeds o_reader_week_cells o_reader_log_facts o_reader_log_cells o_reader_fault o_reader_place o_reader_numbers o_told_tape o_reader_length o_reader_next o_reader_start o_reader_token o_reader_value o_reader_toldOf p1 o_told_length) (fun x2 => if x2.2.2.2.2.2.2.2.2.2.1 = 0 then bnd (α := Int32 × (Nat → Int32) × Int32 × (Nat → Int32) × (Nat → Int32) × (Nat → Int32) × (Nat → Int32) × Int32 × (Nat → Int32) × (Nat → Int32) × (Nat → Int32) × (Nat → Int32) × Int32 × (Nat → Int32) × Int32 × (Nat → Int32) × Int32 × (Nat → Int32) × Int32 × (Nat → Int32)) (f_X8_take fu o_told_counts o_told_towns0_people o_told_towns0_wit o_told_towns0_purse o_told_towns0_hated o_told_towns0_owed o_told_towns1_people o_told_towns1_wit o_told_towns1_purse o_told_towns1_hated o_told_towns1_owed o_told_weeks0_deeds o_told_weeks0_cells o_told_weeks1_deeds o_told_weeks1_cells o_told_logs0_facts o_told_logs0_cells o_told_logs1_facts o_told_logs1_cells x2.1 x2.2.1 x2.2.2.1 x2.2.2.2.1 x2.2.2.2.2.1 x2.2.2.2.2.2.1 x2.2.2.2.2.2.2.1 x2.2.2.2.2.2.2.2.1 x2.2.2.2.2.2.2.2.2.1 p1 p2) (fun x3 => some (x3.1, (0 : Int32), x2.2.2.2.2.2.2.2.2.2.1, x2.2.2.2.2.2.2.2.2.2.2.1, x3.2.1, x3.2.2.1, x3.2.2.2.1, x3.2.2.2.2.1, x3.2.2.2.2.2.1, x3.2.2.2.2.2.2.1, x3.2.2.2.2.2.2.2.1, x3.2.2.2.2.2.2.2.2.1, x3.2.2.2.2.2.2.2.2.2.1, x3.2.2.2.2.2.2.2.2.2.2.1, x3.2.2.2.2.2.2.2.2.2.2.2.1, x3.2.2.2.2.2.2.2.2.2.2.2.2.1, x3.2.2.2.2.2.2.2.2.2.2.2.2.2.1, x3.2.2.2.2.2.2.2.2.2.2.2.2.2.2.1, x3.2.2.2.2.2.2.2.2.2.2.2.2.2.2.2.1, x3.2.2.2.2.2.2.2.2.2.2.2.2.2.2.2.2.1, x3.2.2.2.2.2.2.2.2.2.2.2.2.2.2.2.2.2.1, x3.2.2.2.2.2.2.2.2.2.2.2.2.2.2.2.2.2.2.1, x3.2.2.2.2.2.2.2.2.2.2.2.2.2.2.2.2.2.2.2, x2.1, x2.2.1, x2.2.2.1, x2.2.2.2.1, x2.2.2.2.2.1, x2.2.2.2.2.2.1, x2.2.2.2.2.2.2.1, x2.2.2.2.2.2.2.2.1, x2.2.2.2.2.2.2.2.2.1, x2.2.2.2.2.2.2.2.2.2.1, x2.2.2.2.2.2.2.2.2.2.2.1, x2.2.2.2.2.2.2.2.2.2.2.2.1, x2.2.2.2.2.2.2.2.2.2.2.2.2.1, x2.2.2.2.2.2.2.2.2.2.2.2.2.2.1, x2.2.2.2.2.2.2.2.2.2.2.2.2.2.2.1, x2.2.2.2.2.2.2.2.2.2.2.2.2.2.2.2.1, x2.2.2.2.2.2.2.2.2.2.2.2.2.2.2.2.2.1, x2.2.2.2.2.2.2.2.2.2.2.2.2.2.2.2.2.2)) else some ((-1 : Int32), (0 : Int32), x2.2.2.2.2.2.2.2.2.2.1, x2.2.2.2.2.2.2.2.2.2.2.1, o_told_counts, o_told_towns0_people, o_told_towns0_wit, o_told_towns0_purse, o_told_towns0_hated, o_told_towns0_owed, o_told_towns1_people, o_told_towns1_wit, o_told_towns1_purse, o_told_towns1_hated, o_told_towns1_owed, o_told_weeks0_deeds, o_told_weeks0_cells, o_told_weeks1_deeds, o_told_weeks1_cells, o_told_logs0_facts, o_told_logs0_cells, o_told_logs1_facts, o_told_logs1_cells, x2.1, x2.2.1, x2.2.2.1, x2.2.2.2.1, x2.2.2.2.2.1, x2.2.2.2.2.2.1, x2.2.2.2.2.2.2.1, x2.2.2.2.2.2.2.2.1, x2.2.2.2.2.2.2.2.2.1, x2.2.2.2.2.2.2.2.2.2.1, x2.2.2.2.2.2.2.2.2.2.2.1, x2.2.2.2.2.2.2.2.2.2.2.2.1, x2.2.2.2.2.2.2.2.2.2.2.2.2.1, x2.2.2.2.2.2.2.2.2.2.2.2.2.2.1, x2.2.2.2.2.2.2.2.2.2.2.2.2.2.2.1, x2.2.2.2.2.2.2.2.2.2.2.2.2.2.2.2.1, x2.2.2.2.2.2.2.2.2.2.2.2.2.2.2.2.2.1, x2.2.2.2.2.2.2.2.2.2.2.2.2.2.2.2.2.2)))
set_option maxHeartbeats 4000000 in
set_option maxRecDepth 100000 in
theorem c_X11_text {l : Launch} {D : va_G} {g : Nat → ClassId} {fu : Nat} {o_q0 o_told_q0 o_told_q1 o_told_q2 o_told_q3 o_told_towns0_q0 o_told_towns0_q1 o_told_towns0_q2 o_told_towns0_q3 o_told_towns0_q4 o_told_towns1_q0 o_told_towns1_q1 o_told_towns1_q2 o_told_towns1_q3 o_told_towns1_q4 o_told_q4 o_told_weeks0_q0 o_told_weeks0_q1 o_told_weeks1_q0 o_told_weeks1_q1 o_told_q5 o_told_logs0_q0 o_told_logs0_q1 o_told_logs1_q0 o_told_logs1_q1 o_q1 o_reader_q0 o_reader_town_q0 o_reader_town_q1 o_reader_town_q2 o_reader_town_q3 o_reader_town_q4 o_reader_week_q0 o_reader_week_q1 o_reader_log_q0 o_reader_log_q1 o_reader_q1 o_life_q0 o_life_q1 o_life_q2 o_life_q3 o_life_q4 o_life_q5 o_life_q6 o_purses_q0 o_purses_q1 o_purses_q2 o_purses_q3 o_purses_q4 o_seats_q0 o_seats_q1 o_seats_q2 o_suspects_q0 o_suspects_q1 : Nat} {z : Nat → Nat} {o_told_tape : (Nat → Int32)} {o_told_length : Int32} {o_told_fault : Int32} {o_told_place : Int32} {o_told_counts : (Nat → Int32)} {o_told_towns0_people : Int32} {o_told_towns0_wit : (Nat → Int32)} {o_told_towns0_purse : (Nat → Int32)} {o_told_towns0_hated : (Nat → Int32)} {o_told_towns0_owed : (Nat → Int32)} {o_told_towns1_people : Int32} {o_told_towns1_wit : (Nat → Int32)} {o_told_towns1_purse : (Nat → Int32)} {o_told_towns1_hated : (Nat → Int32)} {o_told_towns1_owed : (Nat → Int32)} {o_told_weeks0_deeds : Int32} {o_told_weeks0_cells : (Nat → Int32)} {o_told_weeks1_deeds : Int32} {o_told_weeks1_cells : (Nat → Int32)} {o_told_logs0_facts : Int32} {o_told_logs0_cells : (Nat → Int32)} {o_told_logs1_facts : Int32} {o_told_logs1_cells : (Nat → Int32)} {o_images : (Nat → Option Nat)} {o_reader_town_people : Int32} {o_reader_town_wit : (Nat → Int32)} {o_reader_town_purse : (Nat → Int32)} {o_reader_town_hated : (Nat → Int32)} {o_reader_town_owed : (Nat → Int32)} {o_reader_week_deeds : Int32} {o_reader_week_cells : (Nat → Int32)} {o_reader_log_facts : Int32} {o_reader_log_cells : (Nat → Int32)} {o_reader_fault : Int32} {o_reader_place : Int32} {o_reader_numbers : (Nat → Int32)} {o_reader_length : Int32} {o_reader_next : Int32} {o_reader_start : Int32} {o_reader_token : Int32} {o_reader_value : Int32} {o_reader_toldOf : Int32} {o_life_people : Int32} {o_life_hated : (Nat → Int32)} {o_life_purse : (Nat → Int32)} {o_life_owed : (Nat → Int32)} {o_life_seat : (Nat → Int32)} {o_life_kept : (Nat → Int32)} {o_life_wasKept : (Nat → Int32)} {o_life_silent : Int32} {o_life_clock : Int32} {o_life_sat : Int32} {o_life_done : Int32} {o_life_first : Int32} {o_life_vain : Int32} {o_life_lent : Int32} {o_life_forgiven : Int32} {o_life_seed : Int32} {o_purses_sums : (Nat → Int32)} {o_purses_table : (Nat → Int32)} {o_purses_onward : (Nat → Int32)} {o_purses_chances : (Nat → Int64)} {o_seats_row : (Nat → Int32)} {o_seats_debtors : (Nat → Int32)} {o_suspects_size : Int32} {o_suspects_people : Int32} {o_suspects_found : (Nat → Int32)} {p1 : Int32} {p2 : Int32} {r : Int32 × Int32 × Int32 × Int32 × (Nat → Int32) × Int32 × (Nat → Int32) × (Nat → Int32) × (Nat → Int32) × (Nat → Int32) × Int32 × (Nat → Int32) × (Nat → Int32) × (Nat → Int32) × (Nat → Int32) × Int32 × (Nat → Int32) × Int32 × (Nat → Int32) × Int32 × (Nat → Int32) × Int32 × (Nat → Int32) × Int32 × (Nat → Int32) × (Nat → Int32) × (Nat → Int32) × (Nat → Int32) × Int32 × (Nat → Int32) × Int32 × (Nat → Int32) × Int32 × Int32 × (Nat → Int32) × Int32 × Int32 × Int32 × Int32 × Int32 × Int32} (hf : f_X11_text fu o_told_tape o_told_length o_told_fault o_told_place o_told_counts o_told_towns0_people o_told_towns0_wit o_told_towns0_purse o_told_towns0_hated o_told_towns0_owed o_told_towns1_people o_told_towns1_wit o_told_towns1_purse o_told_towns1_hated o_told_towns1_owed o_told_weeks0_deeds o_told_weeks0_cells o_told_weeks1_deeds o_told_weeks1_cells o_told_logs0_facts o_told_logs0_cells o_told_logs1_facts o_told_logs1_cells o_reader_town_people o_reader_town_wit o_reader_town_purse o_reader_town_hated o_reader_town_owed o_reader_week_deeds o_reader_week_cells o_reader_log_facts o_reader_log_cells o_reader_fault o_reader_place o_reader_numbers o_reader_length o_reader_next o_reader_start o_reader_token o_reader_value o_reader_toldOf p1 p2 = some r) : WrE l D (gy g) yX11_text cX11_text 4 (some .int) 9 z [.ref o_q0, .int p1, .int p2] (wKc g o_q0 o_told_q0 o_told_q1 o_told_q2 o_told_q3 o_told_towns0_q0 o_told_towns0_q1 o_told_towns0_q2 o_told_towns0_q3 o_told_towns0_q4 o_told_towns1_q0 o_told_towns1_q1 o_told_towns1_q2 o_told_towns1_q3 o_told_towns1_q4 o_told_q4 o_told_weeks0_q0 o_told_weeks0_q1 o_told_weeks1_q0 o_told_weeks1_q1 o_told_q5 o_told_logs0_q0 o_told_logs0_q1 o_told_logs1_q0 o_told_logs1_q1 o_q1 o_reader_q0 o_reader_town_q0 o_reader_town_q1 o_reader_town_q2 o_reader_town_q3 o_reader_town_q4 o_reader_week_q0 o_reader_week_q1 o_reader_log_q0 o_reader_log_q1 o_reader_q1 o_life_q0 o_life_q1 o_life_q2 o_life_q3 o_life_q4 o_life_q5 o_life_q6 o_purses_q0 o_purses_q1 o_purses_q2 o_purses_q3 o_purses_q4 o_seats_q0 o_seats_q1 o_seats_q2 o_suspects_q0 o_suspects_q1 o_told_tape o_told_length o_told_fault o_told_place o_told_counts o_told_towns0_people o_told_towns0_wit o_told_towns0_purse o_told_towns0_hated o_told_towns0_owed o_told_towns1_people o_told_towns1_wit o_told_towns1_purse o_told_towns1_hated o_told_towns1_owed o_told_weeks0_deeds o_told_weeks0_cells o_told_weeks1_deeds o_told_weeks1_cells o_told_logs0_facts o_told_logs0_cells o_told_logs1_facts o_told_logs1_cells o_images o_reader_town_people o_reader_town_wit o_reader_town_purse o_reader_town_hated o_reader_town_owed o_reader_week_deeds o_reader_week_cells o_reader_log_facts o_reader_log_cells o_reader_fault o_reader_place o_reader_numbers o_reader_length o_reader_next o_reader_start o_reader_token o_reader_value o_reader_toldOf o_life_people o_life_hated o_life_purse o_life_owed o_life_seat o_life_kept o_life_wasKept o_life_silent o_life_clock o_life_sat o_life_done o_life_first o_life_vain o_life_lent o_life_forgiven o_life_seed o_purses_sums o_purses_table o_purses_onward o_purses_chances o_seats_row o_seats_debtors o_suspects_size o_suspects_people o_suspects_found) (wKc g o_q0 o_told_q0 o_told_q1 o_told_q2 o_told_q3 o_told_towns0_q0 o_told_towns0_q1 o_told_towns0_q2 o_told_towns0_q3 o_told_towns0_q4 o_told_towns1_q0 o_told_towns1_q1 o_told_towns1_q2 o_told_towns1_q3 o_told_towns1_q4 o_told_q4 o_told_weeks0_q0 o_told_weeks0_q1 o_told_weeks1_q0 o_told_weeks1_q1 o_told_q5 o_told_logs0_q0 o_told_logs0_q1 o_told_logs1_q0 o_told_logs1_q1 o_q1 o_reader_q0 o_reader_town_q0 o_reader_town_q1 o_reader_town_q2 o_reader_town_q3 o_reader_town_q4 o_reader_week_q0 o_reader_week_q1 o_reader_log_q0 o_reader_log_q1 o_reader_q1 o_life_q0 o_life_q1 o_life_q2 o_life_q3 o_life_q4 o_life_q5 o_life_q6 o_purses_q0 o_purses_q1 o_purses_q2 o_purses_q3 o_purses_q4 o_seats_q0 o_seats_q1 o_seats_q2 o_suspects_q0 o_suspects_q1 o_told_tape r.2.1 r.2.2.1 r.2.2.2.1 r.2.2.2.2.1 r.2.2.2.2.2.1 r.2.2.2.2.2.2.1 r.2.2.2.2.2.2.2.1 r.2.2.2.2.2.2.2.2.1 r.2.2.2.2.2.2.2.2.2.1 r.2.2.2.2.2.2.2.2.2.2.1 r.2.2.2.2.2.2.2.2.2.2.2.1 r.2.2.2.2.2.2.2.2.2.2.2.2.1 r.2.2.2.2.2.2.2.2.2.2.2.2.2.1 r.2.2.2.2.2.2.2.2.2.2.2.2.2.2.1 r.2.2.2.2.2.2.2.2.2.2.2.2.2.2.2.1 r.2.2.2.2.2.2.2.2.2.2.2.2.2.2.2.2.1 r.2.2.2.2.2.2.2.2.2.2.2.2.2.2.2.2.2.1 r.2.2.2.2.2.2.2.2.2.2.2.2.2.2.2.2.2.2.1 r.2.2.2.2.2.2.2.2.2.2.2.2.2.2.2.2.2.2.2.1 r.2.2.2.2.2.2.2.2.2.2.2.2.2.2.2.2.2.2.2.2.1 r.2.2.2.2.2.2.2.2.2.2.2.2.2.2.2.2.2.2.2.2.2.1 r.2.2.2.2.2.2.2.2.2.2.2.2.2.2.2.2.2.2.2.2.2.2.1 o_images r.2.2.2.2.2.2.2.2.2.2.2.2.2.2.2.2.2.2.2.2.2.2.2.1 r.2.2.2.2.2.2.2.2.2.2.2.2.2.2.2.2.2.2.2.2.2.2.2.2.1 r.2.2.2.2.2.2.2.2.2.2.2.2.2.2.2.2.2.2.2.2.2.2.2.2.2.1 r.2.2.2.2.2.2.2.2.2.2.2.2.2.2.2.2.2.2.2.2.2.2.2.2.2.2.1 r.2.2.2.2.2.2.2.2.2.2.2.2.2.2.2.2.2.2.2.2.2.2.2.2.2.2.2.1 r.2.2.2.2.2.2.2.2.2.2.2.2.2.2.2.2.2.2.2.2.2.2.2.2.2.2.2.2.1 r.2.2.2.2.2.2.2.2.2.2.2.2.2.2.2.2.2.2.2.2.2.2.2.2.2.2.2.2.2.1 r.2.2.2.2.2.2.2.2.2.2.2.2.2.2.2.2.2.2.2.2.2.2.2.2.2.2.2.2.2.2.1 r.2.2.2.2.2.2.2.2.2.2.2.2.2.2.2.2.2.2.2.2.2.2.2.2.2.2.2.2.2.2.2.1 r.2.2.2.2.2.2.2.2.2.2.2.2.2.2.2.2.2.2.2.2.2.2.2.2.2.2.2.2.2.2.2.2.1 r.2.2.2.2.2.2.2.2.2.2.2.2.2.2.2.2.2.2.2.2.2.2.2.2.2.2.2.2.2.2.2.2.2.1 r.2.2.2.2.2.2.2.2.2.2.2.2.2.2.2.2.2.2.2.2.2.2.2.2.2.2.2.2.2.2.2.2.2.2.1 r.2.2.2.2.2.2.2.2.2.2.2.2.2.2.2.2.2.2.2.2.2.2.2.2.2.2.2.2.2.2.2.2.2.2.2.1 r.2.2.2.2.2.2.2.2.2.2.2.2.2.2.2.2.2.2.2.2.2.2.2.2.2.2.2.2.2.2.2.2.2.2.2.2.1 r.2.2.2.2.2.2.2.2.2.2.2.2.2.2.2.2.2.2.2.2.2.2.2.2.2.2.2.2.2.2.2.2.2.2.2.2.2.1 r.2.2.2.2.2.2.2.2.2.2.2.2.2.2.2.2.2.2.2.2.2.2.2.2.2.2.2.2.2.2.2.2.2.2.2.2.2.2.1 r.2.2.2.2.2.2.2.2.2.2.2.2.2.2.2.2.2.2.2.2.2.2.2.2.2.2.2.2.2.2.2.2.2.2.2.2.2.2.2.1 r.2.2.2.2.2.2.2.2.2.2.2.2.2.2.2.2.2.2.2.2.2.2.2.2.2.2.2.2.2.2.2.2.2.2.2.2.2.2.2.2 o_life_people o_life_hated o_life_purse o_life_owed o_life_seat o_life_kept o_life_wasKept o_life_silent o_life_clock o_life_sat o_life_done o_life_first o_life_vain o_life_lent o_life_forgiven o_life_seed o_purses_sums o_purses_table o_purses_onward o_purses_chances o_seats_row o_seats_debtors o_suspects_size o_suspects_people o_suspects_found) (some (.int r.1)) := by
  refine WrE.ofI (by decide) (Nat.le_of_ble_eq_true rfl) ?_
  intro p e s m args below meth c Q A S hK hA hX hret ls hl hW
  have hl : lv_has ls 4 [(0, .ref o_q0), (1, .int p1), (2, .int p2)] := hl
  refine lv_aload_n S.1 S.2.1 dX11_text_0 rfl (lv_at hl 0 rfl) ?_
  refine gfX11_10 S hK hW.1 0 rfl rfl dX11_text_1 ?_
  refine gfX11_61 S hK hW.1 1 rfl rfl dX11_text_4 ?_
  refine lv_istore_n (lv' := [(3, .int o_told_length), (0, .ref o_q0), (1, .int p1), (2, .int p2)]) S.1 S.2.1 dX11_text_7 rfl hl (by decide) rfl (fun ls hl => ?_)
  refine lv_aload_n S.1 S.2.1 dX11_text_8 rfl (lv_at hl 1 rfl) ?_
  refine gfX11_10 S hK hW.1 0 rfl rfl dX11_text_9 ?_
  refine lv_iconst (v := 0) S.1 S.2.1 dX11_text_12 ic_0 ?_
  refine pfX11_61 (ws2 := (wKc g o_q0 o_told_q0 o_told_q1 o_told_q2 o_told_q3 o_told_towns0_q0 o_told_towns0_q1 o_told_towns0_q2 o_told_towns0_q3 o_told_towns0_q4 o_told_towns1_q0 o_told_towns1_q1 o_told_towns1_q2 o_told_towns1_q3 o_told_towns1_q4 o_told_q4 o_told_weeks0_q0 o_told_weeks0_q1 o_told_weeks1_q0 o_told_weeks1_q1 o_told_q5 o_told_logs0_q0 o_told_logs0_q1 o_told_logs1_q0 o_told_logs1_q1 o_q1 o_reader_q0 o_reader_town_q0 o_reader_town_q1 o_reader_town_q2 o_reader_town_q3 o_reader_town_q4 o_reader_week_q0 o_reader_week_q1 o_reader_log_q0 o_reader_log_q1 o_reader_q1 o_life_q0 o_life_q1 o_life_q2 o_life_q3 o_life_q4 o_life_q5 o_life_q6 o_purses_q0 o_purses_q1 o_purses_q2 o_purses_q3 o_purses_q4 o_seats_q0 o_seats_q1 o_seats_q2 o_suspects_q0 o_suspects_q1 o_told_tape (0 : Int32) o_told_fault o_told_place o_told_counts o_told_towns0_people o_told_towns0_wit o_told_towns0_purse o_told_towns0_hated o_told_towns0_owed o_told_towns1_people o_told_towns1_wit o_told_towns1_purse o_told_towns1_hated o_told_towns1_owed o_told_weeks0_deeds o_told_weeks0_cells o_told_weeks1_deeds o_told_weeks1_cells o_told_logs0_facts o_told_logs0_cells o_told_logs1_facts o_told_logs1_cells o_images o_reader_town_people o_reader_town_wit o_reader_town_purse o_reader_town_hated o_reader_town_owed o_reader_week_deeds o_reader_week_cells o_reader_log_facts o_reader_log_cells o_reader_fault o_reader_place o_reader_numbers o_reader_length o_reader_next o_reader_start o_reader_token o_reader_value o_reader_toldOf o_life_people o_life_hated o_life_purse o_life_owed o_life_seat o_life_kept o_life_wasKept o_life_silent o_life_clock o_life_sat o_life_done o_life_first o_life_vain o_life_lent o_life_forgiven o_life_seed o_purses_sums o_purses_table o_purses_onward o_purses_chances o_seats_row o_seats_debtors o_suspects_size o_suspects_people o_suspects_found)) S hK hW 1 rfl rfl rfl (Nat.le_of_ble_eq_true rfl) rfl dX11_text_13 (fun H locs hW => ?_)
  refine lv_aload_n S.1 S.2.1 dX11_text_16 rfl (lv_at hl 1 rfl) ?_
  refine gfX11_10 S hK hW.1 0 rfl rfl dX11_text_17 ?_
  refine lv_iconst (v := 0) S.1 S.2.1 dX11_text_20 ic_0 ?_
  refine pfX11_69 (ws2 := (wKc g o_q0 o_told_q0 o_told_q1 o_told_q2 o_told_q3 o_told_towns0_q0 o_told_towns0_q1 o_told_towns0_q2 o_told_towns0_q3 o_told_towns0_q4 o_told_towns1_q0 o_told_towns1_q1 o_told_towns1_q2 o_told_towns1_q3 o_told_towns1_q4 o_told_q4 o_told_weeks0_q0 o_told_weeks0_q1 o_told_weeks1_q0 o_told_weeks1_q1 o_told_q5 o_told_logs0_q0 o_told_logs0_q1 o_told_logs1_q0 o_told_logs1_q1 o_q1 o_reader_q0 o_reader_town_q0 o_reader_town_q1 o_reader_town_q2 o_reader_town_q3 o_reader_town_q4 o_reader_week_q0 o_reader_week_q1 o_reader_log_q0 o_reader_log_q1 o_reader_q1 o_life_q0 o_life_q1 o_life_q2 o_life_q3 o_life_q4 o_life_q5 o_life_q6 o_purses_q0 o_purses_q1 o_purses_q2 o_purses_q3 o_purses_q4 o_seats_q0 o_seats_q1 o_seats_q2 o_suspects_q0 o_suspects_q1 o_told_tape (0 : Int32) (0 : Int32) o_told_place o_told_counts o_told_towns0_people o_told_towns0_wit o_told_towns0_purse o_told_towns0_hated o_told_towns0_owed o_told_towns1_people o_told_towns1_wit o_told_towns1_purse o_told_towns1_hated o_told_towns1_owed o_told_weeks0_deeds o_told_weeks0_cells o_told_weeks1_deeds o_told_weeks1_cells o_told_logs0_facts o_told_logs0_cells o_told_logs1_facts o_told_logs1_cells o_images o_reader_town_people o_reader_town_wit o_reader_town_purse o_reader_town_hated o_reader_town_owed o_reader_week_deeds o_reader_week_cells o_reader_log_facts o_reader_log_cells o_reader_fault o_reader_place o_reader_numbers o_reader_length o_reader_next o_reader_start o_reader_token o_reader_value o_reader_toldOf o_life_people o_life_hated o_life_purse o_life_owed o_life_seat o_life_kept o_life_wasKept o_life_silent o_life_clock o_life_sat o_life_done o_life_first o_life_vain o_life_lent o_life_forgiven o_life_seed o_purses_sums o_purses_table o_purses_onward o_purses_chances o_seats_row o_seats_debtors o_suspects_size o_suspects_people o_suspects_found)) S hK hW 1 rfl rfl rfl (Nat.le_of_ble_eq_true rfl) rfl dX11_text_21 (fun H locs hW => ?_)
  refine lv_aload_n S.1 S.2.1 dX11_text_24 rfl (lv_at hl 1 rfl) ?_
  refine gfX11_10 S hK hW.1 0 rfl rfl dX11_text_25 ?_
  refine lv_iconst (v := (-1)) S.1 S.2.1 dX11_text_28 ic_m1 ?_
  refine pfX11_72 (ws2 := (wKc g o_q0 o_told_q0 o_told_q1 o_told_q2 o_told_q3 o_told_towns0_q0 o_told_towns0_q1 o_told_towns0_q2 o_told_towns0_q3 o_told_towns0_q4 o_told_towns1_q0 o_told_towns1_q1 o_told_towns1_q2 o_told_towns1_q3 o_told_towns1_q4 o_told_q4 o_told_weeks0_q0 o_told_weeks0_q1 o_told_weeks1_q0 o_told_weeks1_q1 o_told_q5 o_told_logs0_q0 o_told_logs0_q1 o_told_logs1_q0 o_told_logs1_q1 o_q1 o_reader_q0 o_reader_town_q0 o_reader_town_q1 o_reader_town_q2 o_reader_town_q3 o_reader_town_q4 o_reader_week_q0 o_reader_week_q1 o_reader_log_q0 o_reader_log_q1 o_reader_q1 o_life_q0 o_life_q1 o_life_q2 o_life_q3 o_life_q4 o_life_q5 o_life_q6 o_purses_q0 o_purses_q1 o_purses_q2 o_purses_q3 o_purses_q4 o_seats_q0 o_seats_q1 o_seats_q2 o_suspects_q0 o_suspects_q1 o_told_tape (0 : Int32) (0 : Int32) (-1 : Int32) o_told_counts o_told_towns0_people o_told_towns0_wit o_told_towns0_purse o_told_towns0_hated o_told_towns0_owed o_told_towns1_people o_told_towns1_wit o_told_towns1_purse o_told_towns1_hated o_told_towns1_owed o_told_weeks0_deeds o_told_weeks0_cells o_told_weeks1_deeds o_told_weeks1_cells o_told_logs0_facts o_told_logs0_cells o_told_logs1_facts o_told_logs1_cells o_images o_reader_town_people o_reader_town_wit o_reader_town_purse o_reader_town_hated o_reader_town_owed o_reader_week_deeds o_reader_week_cells o_reader_log_facts o_reader_log_cells o_reader_fault o_reader_place o_reader_numbers o_reader_length o_reader_next o_reader_start o_reader_token o_reader_value o_reader_toldOf o_life_people o_life_hated o_life_purse o_life_owed o_life_seat o_life_kept o_life_wasKept o_life_silent o_life_clock o_life_sat o_life_done o_life_first o_life_vain o_life_lent o_life_forgiven o_life_seed o_purses_sums o_purses_table o_purses_onward o_purses_chances o_seats_row o_seats_debtors o_suspects_size o_suspects_people o_suspects_found)) S hK hW 1 rfl rfl rfl (Nat.le_of_ble_eq_true rfl) rfl dX11_text_29 (fun H locs hW => ?_)
  refine lv_aload_n S.1 S.2.1 dX11_text_32 rfl (lv_at hl 1 rfl) ?_
  refine gfX11_10 S hK hW.1 0 rfl rfl dX11_text_33 ?_
  refine lv_iload_n S.1 S.2.1 dX11_text_36 rfl (lv_at hl 2 rfl) ?_
  refine lv_iload_n S.1 S.2.1 dX11_text_37 rfl (lv_at hl 3 rfl) ?_
  obtain ⟨x1, hx1, hf⟩ := bnd_e hf
  refine Rd.cV (c_X8_hasPlaceFor hx1) S hK (hW.1.sub (ws' := (wTo g o_told_q0 o_told_q1 o_told_q2 o_told_q3 o_told_towns0_q0 o_told_towns0_q1 o_told_towns0_q2 o_told_towns0_q3 o_told_towns0_q4 o_told_towns1_q0 o_told_towns1_q1 o_told_towns1_q2 o_told_towns1_q3 o_told_towns1_q4 o_told_q4 o_told_weeks0_q0 o_told_weeks0_q1 o_told_weeks1_q0 o_told_weeks1_q1 o_told_q5 o_told_logs0_q0 o_told_logs0_q1 o_told_logs1_q0 o_told_logs1_q1 o_told_tape (0 : Int32) (0 : Int32) (-1 : Int32) o_told_counts o_told_towns0_people o_told_towns0_wit o_told_towns0_purse o_told_towns0_hated o_told_towns0_owed o_told_towns1_people o_told_towns1_wit o_told_towns1_purse o_told_towns1_hated o_told_towns1_owed o_told_weeks0_deeds o_told_weeks0_cells o_told_weeks1_deeds o_told_weeks1_cells o_told_logs0_facts o_told_logs0_cells o_told_logs1_facts o_told_logs1_cells)) [1, 2, 3, 4, 5, 6, 7, 8, 9, 10, 11, 12, 13, 14, 15, 16, 17, 18, 19, 20, 21, 22, 23, 24] rfl) 0 6 rfl rfl kVX11_75 rfl hl.1 [] rfl (Nat.le_of_ble_eq_true rfl) ⟨(Nat.le_of_ble_eq_true rfl), (Nat.le_of_ble_eq_true rfl)⟩ ⟨(Nat.zero_le _), (Nat.zero_le _)⟩ dX11_text_38 ?_
  refine lv_if_ne (tgt := 47) S.1 S.2.1 dX11_text_41 (by decide) (fun c_ => ?_) (fun c_ => ?_)
  · have hf := it_n c_ hf
    refine lv_aload_n S.1 S.2.1 dX11_text_47 rfl (lv_at hl 1 rfl) ?_
    refine gfX11_29 S hK hW.1 0 rfl rfl dX11_text_48 ?_
    refine lv_iload_n S.1 S.2.1 dX11_text_51 rfl (lv_at hl 2 rfl) ?_
    refine lv_iload_n S.1 S.2.1 dX11_text_52 rfl (lv_at hl 0 rfl) ?_
    obtain ⟨x2, hx2, hf⟩ := bnd_e hf
    refine Wr.go (ws2 := (wKc g o_q0 o_told_q0 o_told_q1 o_told_q2 o_told_q3 o_told_towns0_q0 o_told_towns0_q1 o_told_towns0_q2 o_told_towns0_q3 o_told_towns0_q4 o_told_towns1_q0 o_told_towns1_q1 o_told_towns1_q2 o_told_towns1_q3 o_told_towns1_q4 o_told_q4 o_told_weeks0_q0 o_told_weeks0_q1 o_told_weeks1_q0 o_told_weeks1_q1 o_told_q5 o_told_logs0_q0 o_told_logs0_q1 o_told_logs1_q0 o_told_logs1_q1 o_q1 o_reader_q0 o_reader_town_q0 o_reader_town_q1 o_reader_town_q2 o_reader_town_q3 o_reader_town_q4 o_reader_week_q0 o_reader_week_q1 o_reader_log_q0 o_reader_log_q1 o_reader_q1 o_life_q0 o_life_q1 o_life_q2 o_life_q3 o_life_q4 o_life_q5 o_life_q6 o_purses_q0 o_purses_q1 o_purses_q2 o_purses_q3 o_purses_q4 o_seats_q0 o_seats_q1 o_seats_q2 o_suspects_q0 o_suspects_q1 o_told_tape (0 : Int32) (0 : Int32) (-1 : Int32) o_told_counts o_told_towns0_people o_told_towns0_wit o_told_towns0_purse o_told_towns0_hated o_told_towns0_owed o_told_towns1_people o_told_towns1_wit o_told_towns1_purse o_told_towns1_hated o_told_towns1_owed o_told_weeks0_deeds o_told_weeks0_cells o_told_weeks1_deeds o_told_weeks1_cells o_told_logs0_facts o_told_logs0_cells o_told_logs1_facts o_told_logs1_cells o_images x2.1 x2.2.1 x2.2.2.1 x2.2.2.2.1 x2.2.2.2.2.1 x2.2.2.2.2.2.1 x2.2.2.2.2.2.2.1 x2.2.2.2.2.2.2.2.1 x2.2.2.2.2.2.2.2.2.1 x2.2.2.2.2.2.2.2.2.2.1 x2.2.2.2.2.2.2.2.2.2.2.1 x2.2.2.2.2.2.2.2.2.2.2.2.1 x2.2.2.2.2.2.2.2.2.2.2.2.2.1 x2.2.2.2.2.2.2.2.2.2.2.2.2.2.1 x2.2.2.2.2.2.2.2.2.2.2.2.2.2.2.1 x2.2.2.2.2.2.2.2.2.2.2.2.2.2.2.2.1 x2.2.2.2.2.2.2.2.2.2.2.2.2.2.2.2.2.1 x2.2.2.2.2.2.2.2.2.2.2.2.2.2.2.2.2.2 o_life_people o_life_hated o_life_purse o_life_owed o_life_seat o_life_kept o_life_wasKept o_life_silent o_life_clock o_life_sat o_life_done o_life_first o_life_vain o_life_lent o_life_forgiven o_life_seed o_purses_sums o_purses_table o_purses_onward o_purses_chances o_seats_row o_seats_debtors o_suspects_size o_suspects_people o_suspects_found)) (WrE.runV (c_X5_read hx2) S hK (hW.1.sub (ws' := (wRe g o_reader_q0 o_reader_town_q0 o_reader_town_q1 o_reader_town_q2 o_reader_town_q3 o_reader_town_q4 o_reader_week_q0 o_reader_week_q1 o_reader_log_q0 o_reader_log_q1 o_reader_q1 o_told_q1 o_reader_town_people o_reader_town_wit o_reader_town_purse o_reader_town_hated o_reader_town_owed o_reader_week_deeds o_reader_week_cells o_reader_log_facts o_reader_log_cells o_reader_fault o_reader_place o_reader_numbers o_told_tape o_reader_length o_reader_next o_reader_start o_reader_token o_reader_value o_reader_toldOf)) [26, 27, 28, 29, 30, 31, 32, 33, 34, 35, 36, 2] rfl) (hW.2.1.sub (ws' := (wRe g o_reader_q0 o_reader_town_q0 o_reader_town_q1 o_reader_town_q2 o_reader_town_q3 o_reader_town_q4 o_reader_week_q0 o_reader_week_q1 o_reader_log_q0 o_reader_log_q1 o_reader_q1 o_told_q1 o_reader_town_people o_reader_town_wit o_reader_town_purse o_reader_town_hated o_reader_town_owed o_reader_week_deeds o_reader_week_cells o_reader_log_facts o_reader_log_cells o_reader_fault o_reader_place o_reader_numbers o_told_tape o_reader_length o_reader_next o_reader_start o_reader_token o_reader_value o_reader_toldOf)) [26, 27, 28, 29, 30, 31, 32, 33, 34, 35, 36, 2] (by decide) rfl) hX hW.2.2 hA 0 3 rfl rfl kVX11_79 rfl hl.1 [] rfl (Nat.le_of_ble_eq_true rfl) ⟨(Nat.le_of_ble_eq_true rfl), (Nat.le_of_ble_eq_true rfl)⟩ ⟨(Nat.zero_le _), (Nat.zero_le _)⟩ dX11_text_53) hW hA [26, 27, 28, 29, 30, 31, 32, 33, 34, 35, 36, 2] rfl [(false, 0), (false, 1), (true, 11), (false, 3), (false, 4), (false, 5), (false, 6), (false, 7), (false, 8), (false, 9), (false, 10), (false, 11), (false, 12), (false, 13), (false, 14), (false, 15), (false, 16), (false, 17), (false, 18), (false, 19), (false, 20), (false, 21), (false, 22), (false, 23), (false, 24), (false, 25), (true, 0), (true, 1), (true, 2), (true, 3), (true, 4), (true, 5), (true, 6), (true, 7), (true, 8), (true, 9), (true, 10), (false, 37), (false, 38), (false, 39), (false, 40), (false, 41), (false, 42), (false, 43), (false, 44), (false, 45), (false, 46), (false, 47), (false, 48), (false, 49), (false, 50), (false, 51), (false, 52), (false, 53)] rfl (by decide) rfl (fun H locs hW => ?_)
    refine lv_aload_n S.1 S.2.1 dX11_text_56 rfl (lv_at hl 1 rfl) ?_
    refine gfX11_10 S hK hW.1 0 rfl rfl dX11_text_57 ?_
    refine lv_aload_n S.1 S.2.1 dX11_text_60 rfl (lv_at hl 1 rfl) ?_
    refine gfX11_29 S hK hW.1 0 rfl rfl dX11_text_61 ?_
    refine gfX11_83 S hK hW.1 26 rfl rfl dX11_text_64 ?_
    refine pfX11_69 (ws2 := (wKc g o_q0 o_told_q0 o_told_q1 o_told_q2 o_told_q3 o_told_towns0_q0 o_told_towns0_q1 o_told_towns0_q2 o_told_towns0_q3 o_told_towns0_q4 o_told_towns1_q0 o_told_towns1_q1 o_told_towns1_q2 o_told_towns1_q3 o_told_towns1_q4 o_told_q4 o_told_weeks0_q0 o_told_weeks0_q1 o_told_weeks1_q0 o_told_weeks1_q1 o_told_q5 o_told_logs0_q0 o_told_logs0_q1 o_told_logs1_q0 o_told_logs1_q1 o_q1 o_reader_q0 o_reader_town_q0 o_reader_town_q1 o_reader_town_q2 o_reader_town_q3 o_reader_town_q4 o_reader_week_q0 o_reader_week_q1 o_reader_log_q0 o_reader_log_q1 o_reader_q1 o_life_q0 o_life_q1 o_life_q2 o_life_q3 o_life_q4 o_life_q5 o_life_q6 o_purses_q0 o_purses_q1 o_purses_q2 o_purses_q3 o_purses_q4 o_seats_q0 o_seats_q1 o_seats_q2 o_suspects_q0 o_suspects_q1 o_told_tape (0 : Int32) x2.2.2.2.2.2.2.2.2.2.1 (-1 : Int32) o_told_counts o_told_towns0_people o_told_towns0_wit o_told_towns0_purse o_told_towns0_hated o_told_towns0_owed o_told_towns1_people o_told_towns1_wit o_told_towns1_purse o_told_towns1_hated o_told_towns1_owed o_told_weeks0_deeds o_told_weeks0_cells o_told_weeks1_deeds o_told_weeks1_cells o_told_logs0_facts o_told_logs0_cells o_told_logs1_facts o_told_logs1_cells o_images x2.1 x2.2.1 x2.2.2.1 x2.2.2.2.1 x2.2.2.2.2.1 x2.2.2.2.2.2.1 x2.2.2.2.2.2.2.1 x2.2.2.2.2.2.2.2.1 x2.2.2.2.2.2.2.2.2.1 x2.2.2.2.2.2.2.2.2.2.1 x2.2.2.2.2.2.2.2.2.2.2.1 x2.2.2.2.2.2.2.2.2.2.2.2.1 x2.2.2.2.2.2.2.2.2.2.2.2.2.1 x2.2.2.2.2.2.2.2.2.2.2.2.2.2.1 x2.2.2.2.2.2.2.2.2.2.2.2.2.2.2.1 x2.2.2.2.2.2.2.2.2.2.2.2.2.2.2.2.1 x2.2.2.2.2.2.2.2.2.2.2.2.2.2.2.2.2.1 x2.2.2.2.2.2.2.2.2.2.2.2.2.2.2.2.2.2 o_life_people o_life_hated o_life_purse o_life_owed o_life_seat o_life_kept o_life_wasKept o_life_silent o_life_clock o_life_sat o_life_done o_life_first o_life_vain o_life_lent o_life_forgiven o_life_seed o_purses_sums o_purses_table o_purses_onward o_purses_chances o_seats_row o_seats_debtors o_suspects_size o_suspects_people o_suspects_found)) S hK hW 1 rfl rfl rfl (Nat.le_of_ble_eq_true rfl) rfl dX11_text_67 (fun H locs hW => ?_)
    refine lv_aload_n S.1 S.2.1 dX11_text_70 rfl (lv_at hl 1 rfl) ?_
    refine gfX11_10 S hK hW.1 0 rfl rfl dX11_text_71 ?_
    refine lv_aload_n S.1 S.2.1 dX11_text_74 rfl (lv_at hl 1 rfl) ?_
    refine gfX11_29 S hK hW.1 0 rfl rfl dX11_text_75 ?_
    refine gfX11_84 S hK hW.1 26 rfl rfl dX11_text_78 ?_
    refine pfX11_72 (ws2 := (wKc g o_q0 o_told_q0 o_told_q1 o_told_q2 o_told_q3 o_told_towns0_q0 o_told_towns0_q1 o_told_towns0_q2 o_told_towns0_q3 o_told_towns0_q4 o_told_towns1_q0 o_told_towns1_q1 o_told_towns1_q2 o_told_towns1_q3 o_told_towns1_q4 o_told_q4 o_told_weeks0_q0 o_told_weeks0_q1 o_told_weeks1_q0 o_told_weeks1_q1 o_told_q5 o_told_logs0_q0 o_told_logs0_q1 o_told_logs1_q0 o_told_logs1_q1 o_q1 o_reader_q0 o_reader_town_q0 o_reader_town_q1 o_reader_town_q2 o_reader_town_q3 o_reader_town_q4 o_reader_week_q0 o_reader_week_q1 o_reader_log_q0 o_reader_log_q1 o_reader_q1 o_life_q0 o_life_q1 o_life_q2 o_life_q3 o_life_q4 o_life_q5 o_life_q6 o_purses_q0 o_purses_q1 o_purses_q2 o_purses_q3 o_purses_q4 o_seats_q0 o_seats_q1 o_seats_q2 o_suspects_q0 o_suspects_q1 o_told_tape (0 : Int32) x2.2.2.2.2.2.2.2.2.2.1 x2.2.2.2.2.2.2.2.2.2.2.1 o_told_counts o_told_towns0_people o_told_towns0_wit o_told_towns0_purse o_told_towns0_hated o_told_towns0_owed o_told_towns1_people o_told_towns1_wit o_told_towns1_purse o_told_towns1_hated o_told_towns1_owed o_told_weeks0_deeds o_told_weeks0_cells o_told_weeks1_deeds o_told_weeks1_cells o_told_logs0_facts o_told_logs0_cells o_told_logs1_facts o_told_logs1_cells o_images x2.1 x2.2.1 x2.2.2.1 x2.2.2.2.1 x2.2.2.2.2.1 x2.2.2.2.2.2.1 x2.2.2.2.2.2.2.1 x2.2.2.2.2.2.2.2.1 x2.2.2.2.2.2.2.2.2.1 x2.2.2.2.2.2.2.2.2.2.1 x2.2.2.2.2.2.2.2.2.2.2.1 x2.2.2.2.2.2.2.2.2.2.2.2.1 x2.2.2.2.2.2.2.2.2.2.2.2.2.1 x2.2.2.2.2.2.2.2.2.2.2.2.2.2.1 x2.2.2.2.2.2.2.2.2.2.2.2.2.2.2.1 x2.2.2.2.2.2.2.2.2.2.2.2.2.2.2.2.1 x2.2.2.2.2.2.2.2.2.2.2.2.2.2.2.2.2.1 x2.2.2.2.2.2.2.2.2.2.2.2.2.2.2.2.2.2 o_life_people o_life_hated o_life_purse o_life_owed o_life_seat o_life_kept o_life_wasKept o_life_silent o_life_clock o_life_sat o_life_done o_life_first o_life_vain o_life_lent o_life_forgiven o_life_seed o_purses_sums o_purses_table o_purses_onward o_purses_chances o_seats_row o_seats_debtors o_suspects_size o_suspects_people o_suspects_found)) S hK hW 1 rfl rfl rfl (Nat.le_of_ble_eq_true rfl) rfl dX11_text_81 (fun H locs hW => ?_)
    refine lv_aload_n S.1 S.2.1 dX11_text_84 rfl (lv_at hl 1 rfl) ?_
    refine gfX11_29 S hK hW.1 0 rfl rfl dX11_text_85 ?_
    refine gfX11_83 S hK hW.1 26 rfl rfl dX11_text_88 ?_
    refine lv_if_ne (tgt := 110) S.1 S.2.1 dX11_text_91 (by decide) (fun c_ => ?_) (fun c_ => ?_)
    · have hf := it_n c_ hf
      refine lv_iconst (v := (-1)) S.1 S.2.1 dX11_text_110 ic_m1 ?_
      have e_ := Option.some.inj hf
      subst e_
      exact hret _ _ _ _ dX11_text_111 hW
    · have hf := it_p c_ hf
      refine lv_aload_n S.1 S.2.1 dX11_text_94 rfl (lv_at hl 1 rfl) ?_
      refine gfX11_10 S hK hW.1 0 rfl rfl dX11_text_95 ?_
      refine lv_iload_n S.1 S.2.1 dX11_text_98 rfl (lv_at hl 2 rfl) ?_
      refine lv_iload_n S.1 S.2.1 dX11_text_99 rfl (lv_at hl 3 rfl) ?_
      refine lv_aload_n S.1 S.2.1 dX11_text_100 rfl (lv_at hl 1 rfl) ?_
      refine gfX11_29 S hK hW.1 0 rfl rfl dX11_text_101 ?_
      obtain ⟨x3, hx3, hf⟩ := bnd_e hf
      refine Wr.go (ws2 := (wKc g o_q0 o_told_q0 o_told_q1 o_told_q2 o_told_q3 o_told_towns0_q0 o_told_towns0_q1 o_told_towns0_q2 o_told_towns0_q3 o_told_towns0_q4 o_told_towns1_q0 o_told_towns1_q1 o_told_towns1_q2 o_told_towns1_q3 o_told_towns1_q4 o_told_q4 o_told_weeks0_q0 o_told_weeks0_q1 o_told_weeks1_q0 o_told_weeks1_q1 o_told_q5 o_told_logs0_q0 o_told_logs0_q1 o_told_logs1_q0 o_told_logs1_q1 o_q1 o_reader_q0 o_reader_town_q0 o_reader_town_q1 o_reader_town_q2 o_reader_town_q3 o_reader_town_q4 o_reader_week_q0 o_reader_week_q1 o_reader_log_q0 o_reader_log_q1 o_reader_q1 o_life_q0 o_life_q1 o_life_q2 o_life_q3 o_life_q4 o_life_q5 o_life_q6 o_purses_q0 o_purses_q1 o_purses_q2 o_purses_q3 o_purses_q4 o_seats_q0 o_seats_q1 o_seats_q2 o_suspects_q0 o_suspects_q1 o_told_tape (0 : Int32) x2.2.2.2.2.2.2.2.2.2.1 x2.2.2.2.2.2.2.2.2.2.2.1 x3.2.1 x3.2.2.1 x3.2.2.2.1 x3.2.2.2.2.1 x3.2.2.2.2.2.1 x3.2.2.2.2.2.2.1 x3.2.2.2.2.2.2.2.1 x3.2.2.2.2.2.2.2.2.1 x3.2.2.2.2.2.2.2.2.2.1 x3.2.2.2.2.2.2.2.2.2.2.1 x3.2.2.2.2.2.2.2.2.2.2.2.1 x3.2.2.2.2.2.2.2.2.2.2.2.2.1 x3.2.2.2.2.2.2.2.2.2.2.2.2.2.1 x3.2.2.2.2.2.2.2.2.2.2.2.2.2.2.1 x3.2.2.2.2.2.2.2.2.2.2.2.2.2.2.2.1 x3.2.2.2.2.2.2.2.2.2.2.2.2.2.2.2.2.1 x3.2.2.2.2.2.2.2.2.2.2.2.2.2.2.2.2.2.1 x3.2.2.2.2.2.2.2.2.2.2.2.2.2.2.2.2.2.2.1 x3.2.2.2.2.2.2.2.2.2.2.2.2.2.2.2.2.2.2.2 o_images x2.1 x2.2.1 x2.2.2.1 x2.2.2.2.1 x2.2.2.2.2.1 x2.2.2.2.2.2.1 x2.2.2.2.2.2.2.1 x2.2.2.2.2.2.2.2.1 x2.2.2.2.2.2.2.2.2.1 x2.2.2.2.2.2.2.2.2.2.1 x2.2.2.2.2.2.2.2.2.2.2.1 x2.2.2.2.2.2.2.2.2.2.2.2.1 x2.2.2.2.2.2.2.2.2.2.2.2.2.1 x2.2.2.2.2.2.2.2.2.2.2.2.2.2.1 x2.2.2.2.2.2.2.2.2.2.2.2.2.2.2.1 x2.2.2.2.2.2.2.2.2.2.2.2.2.2.2.2.1 x2.2.2.2.2.2.2.2.2.2.2.2.2.2.2.2.2.1 x2.2.2.2.2.2.2.2.2.2.2.2.2.2.2.2.2.2 o_life_people o_life_hated o_life_purse o_life_owed o_life_seat o_life_kept o_life_wasKept o_life_silent o_life_clock o_life_sat o_life_done o_life_first o_life_vain o_life_lent o_life_forgiven o_life_seed o_purses_sums o_purses_table o_purses_onward o_purses_chances o_seats_row o_seats_debtors o_suspects_size o_suspects_people o_suspects_found)) (Wr.runV (c_X8_take hx3) S hK (hW.1.sub (ws' := (wTo g o_told_q0 o_told_q1 o_told_q2 o_told_q3 o_told_towns0_q0 o_told_towns0_q1 o_told_towns0_q2 o_told_towns0_q3 o_told_towns0_q4 o_told_towns1_q0 o_told_towns1_q1 o_told_towns1_q2 o_told_towns1_q3 o_told_towns1_q4 o_told_q4 o_told_weeks0_q0 o_told_weeks0_q1 o_told_weeks1_q0 o_told_weeks1_q1 o_told_q5 o_told_logs0_q0 o_told_logs0_q1 o_told_logs1_q0 o_told_logs1_q1 o_told_tape (0 : Int32) x2.2.2.2.2.2.2.2.2.2.1 x2.2.2.2.2.2.2.2.2.2.2.1 o_told_counts o_told_towns0_people o_told_towns0_wit o_told_towns0_purse o_told_towns0_hated o_told_towns0_owed o_told_towns1_people o_told_towns1_wit o_told_towns1_purse o_told_towns1_hated o_told_towns1_owed o_told_weeks0_deeds o_told_weeks0_cells o_told_weeks1_deeds o_told_weeks1_cells o_told_logs0_facts o_told_logs0_cells o_told_logs1_facts o_told_logs1_cells ++ wRet g o_reader_q0 o_reader_town_q0 o_reader_town_q1 o_reader_town_q2 o_reader_town_q3 o_reader_town_q4 o_reader_week_q0 o_reader_week_q1 o_reader_log_q0 o_reader_log_q1 o_reader_q1 o_told_q1 x2.1 x2.2.1 x2.2.2.1 x2.2.2.2.1 x2.2.2.2.2.1 x2.2.2.2.2.2.1 x2.2.2.2.2.2.2.1 x2.2.2.2.2.2.2.2.1 x2.2.2.2.2.2.2.2.2.1 x2.2.2.2.2.2.2.2.2.2.1 x2.2.2.2.2.2.2.2.2.2.2.1 x2.2.2.2.2.2.2.2.2.2.2.2.1 x2.2.2.2.2.2.2.2.2.2.2.2.2.1 x2.2.2.2.2.2.2.2.2.2.2.2.2.2.1 x2.2.2.2.2.2.2.2.2.2.2.2.2.2.2.1 x2.2.2.2.2.2.2.2.2.2.2.2.2.2.2.2.1 x2.2.2.2.2.2.2.2.2.2.2.2.2.2.2.2.2.1 x2.2.2.2.2.2.2.2.2.2.2.2.2.2.2.2.2.2)) [1, 2, 3, 4, 5, 6, 7, 8, 9, 10, 11, 12, 13, 14, 15, 16, 17, 18, 19, 20, 21, 22, 23, 24, 26, 27, 28, 29, 30, 31, 32, 33, 34, 35, 36] rfl) (hW.2.1.sub (ws' := (wTo g o_told_q0 o_told_q1 o_told_q2 o_told_q3 o_told_towns0_q0 o_told_towns0_q1 o_told_towns0_q2 o_told_towns0_q3 o_told_towns0_q4 o_told_towns1_q0 o_told_towns1_q1 o_told_towns1_q2 o_told_towns1_q3 o_told_towns1_q4 o_told_q4 o_told_weeks0_q0 o_told_weeks0_q1 o_told_weeks1_q0 o_told_weeks1_q1 o_told_q5 o_told_logs0_q0 o_told_logs0_q1 o_told_logs1_q0 o_told_logs1_q1 o_told_tape (0 : Int32) x2.2.2.2.2.2.2.2.2.2.1 x2.2.2.2.2.2.2.2.2.2.2.1 o_told_counts o_told_towns0_people o_told_towns0_wit o_told_towns0_purse o_told_towns0_hated o_told_towns0_owed o_told_towns1_people o_told_towns1_wit o_told_towns1_purse o_told_towns1_hated o_told_towns1_owed o_told_weeks0_deeds o_told_weeks0_cells o_told_weeks1_deeds o_told_weeks1_cells o_told_logs0_facts o_told_logs0_cells o_told_logs1_facts o_told_logs1_cells ++ wRet g o_reader_q0 o_reader_town_q0 o_reader_town_q1 o_reader_town_q2 o_reader_town_q3 o_reader_town_q4 o_reader_week_q0 o_reader_week_q1 o_reader_log_q0 o_reader_log_q1 o_reader_q1 o_told_q1 x2.1 x2.2.1 x2.2.2.1 x2.2.2.2.1 x2.2.2.2.2.1 x2.2.2.2.2.2.1 x2.2.2.2.2.2.2.1 x2.2.2.2.2.2.2.2.1 x2.2.2.2.2.2.2.2.2.1 x2.2.2.2.2.2.2.2.2.2.1 x2.2.2.2.2.2.2.2.2.2.2.1 x2.2.2.2.2.2.2.2.2.2.2.2.1 x2.2.2.2.2.2.2.2.2.2.2.2.2.1 x2.2.2.2.2.2.2.2.2.2.2.2.2.2.1 x2.2.2.2.2.2.2.2.2.2.2.2.2.2.2.1 x2.2.2.2.2.2.2.2.2.2.2.2.2.2.2.2.1 x2.2.2.2.2.2.2.2.2.2.2.2.2.2.2.2.2.1 x2.2.2.2.2.2.2.2.2.2.2.2.2.2.2.2.2.2)) [1, 2, 3, 4, 5, 6, 7, 8, 9, 10, 11, 12, 13, 14, 15, 16, 17, 18, 19, 20, 21, 22, 23, 24, 26, 27, 28, 29, 30, 31, 32, 33, 34, 35, 36] (by decide) rfl) 0 6 rfl rfl kVX11_85 rfl hl.1 [] rfl (Nat.le_of_ble_eq_true rfl) ⟨(Nat.le_of_ble_eq_true rfl), (Nat.le_of_ble_eq_true rfl)⟩ ⟨(Nat.zero_le _), (Nat.zero_le _)⟩ dX11_text_104) hW hA [1, 2, 3, 4, 5, 6, 7, 8, 9, 10, 11, 12, 13, 14, 15, 16, 17, 18, 19, 20, 21, 22, 23, 24, 26, 27, 28, 29, 30, 31, 32, 33, 34, 35, 36] rfl [(false, 0), (true, 0), (true, 1), (true, 2), (true, 3), (true, 4), (true, 5), (true, 6), (true, 7), (true, 8), (true, 9), (true, 10), (true, 11), (true, 12), (true, 13), (true, 14), (true, 15), (true, 16), (true, 17), (true, 18), (true, 19), (true, 20), (true, 21), (true, 22), (true, 23), (false, 25), (true, 24), (true, 25), (true, 26), (true, 27), (true, 28), (true, 29), (true, 30), (true, 31), (true, 32), (true, 33), (true, 34), (false, 37), (false, 38), (false, 39), (false, 40), (false, 41), (false, 42), (false, 43), (false, 44), (false, 45), (false, 46), (false, 47), (false, 48), (false, 49), (false, 50), (false, 51), (false, 52), (false, 53)] rfl (by decide) rfl (fun H locs hW => ?_)
      refine lv_goto (tgt := 111) S.1 S.2.1 dX11_text_107 (by decide) ?_
      have e_ := Option.some.inj hf
      subst e_
      exact hret _ _ _ _ dX11_text_111 hW
  · have hf := it_p c_ hf
    refine lv_bipush (v := (-2)) S.1 S.2.1 dX11_text_44 bp_m2 ?_
    have e_ := Option.some.inj hf
    subst e_
    exact hret _ _ _ _ dX11_text_46 hW
