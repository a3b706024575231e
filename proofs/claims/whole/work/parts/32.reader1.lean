def f_X5_begin (fu : Nat) (o_town_people : Int32) (o_town_hated : (Nat → Int32)) (o_town_owed : (Nat → Int32)) (o_week_deeds : Int32) (o_log_facts : Int32) (o_fault : Int32) (o_place : Int32) (o_length : Int32) (o_next : Int32) (o_toldOf : Int32) (p1 : Int32) : Option (Int32 × (Nat → Int32) × (Nat → Int32) × Int32 × Int32 × Int32 × Int32 × Int32 × Int32 × Int32) := ltn (jmin p1 (600 : Int32)) (fun x1 => bnd (α := Int32 × (Nat → Int32) × (Nat → Int32)) (f_X9_clear fu o_town_people o_town_hated o_town_owed) (fun x2 => some (x2.1, x2.2.1, x2.2.2, (0 : Int32), (0 : Int32), (0 : Int32), (-1 : Int32), x1, (0 : Int32), (0 : Int32))))
set_option maxHeartbeats 4000000 in
set_option maxRecDepth 100000 in
theorem c_X5_begin {l : Launch} {D : va_G} {g : Nat → ClassId} {fu : Nat} {o_q0 o_town_q0 o_town_q1 o_town_q2 o_town_q3 o_town_q4 o_week_q0 o_week_q1 o_log_q0 o_log_q1 o_q1 o_q2 : Nat} {o_town_people : Int32} {o_town_wit : (Nat → Int32)} {o_town_purse : (Nat → Int32)} {o_town_hated : (Nat → Int32)} {o_town_owed : (Nat → Int32)} {o_week_deeds : Int32} {o_week_cells : (Nat → Int32)} {o_log_facts : Int32} {o_log_cells : (Nat → Int32)} {o_fault : Int32} {o_place : Int32} {o_numbers : (Nat → Int32)} {o_tape : (Nat → Int32)} {o_length : Int32} {o_next : Int32} {o_start : Int32} {o_token : Int32} {o_value : Int32} {o_toldOf : Int32} {p1 : Int32} {r : Int32 × (Nat → Int32) × (Nat → Int32) × Int32 × Int32 × Int32 × Int32 × Int32 × Int32 × Int32} (hf : f_X5_begin fu o_town_people o_town_hated o_town_owed o_week_deeds o_log_facts o_fault o_place o_length o_next o_toldOf p1 = some r) : Wr l D (gy g) yX5_begin cX5_begin 2 none 2 [.ref o_q0, .int p1] (wRe g o_q0 o_town_q0 o_town_q1 o_town_q2 o_town_q3 o_town_q4 o_week_q0 o_week_q1 o_log_q0 o_log_q1 o_q1 o_q2 o_town_people o_town_wit o_town_purse o_town_hated o_town_owed o_week_deeds o_week_cells o_log_facts o_log_cells o_fault o_place o_numbers o_tape o_length o_next o_start o_token o_value o_toldOf) (wRe g o_q0 o_town_q0 o_town_q1 o_town_q2 o_town_q3 o_town_q4 o_week_q0 o_week_q1 o_log_q0 o_log_q1 o_q1 o_q2 r.1 o_town_wit o_town_purse r.2.1 r.2.2.1 r.2.2.2.1 o_week_cells r.2.2.2.2.1 o_log_cells r.2.2.2.2.2.1 r.2.2.2.2.2.2.1 o_numbers o_tape r.2.2.2.2.2.2.2.1 r.2.2.2.2.2.2.2.2.1 o_start o_token o_value r.2.2.2.2.2.2.2.2.2) none := by
  refine Wr.ofV (by decide) (Nat.le_of_ble_eq_true rfl) ?_
  intro p e s m args below meth c Q A S hK hA hret ls hl hW
  have hl : lv_has ls 2 [(0, .ref o_q0), (1, .int p1)] := hl
  refine lv_aload_n S.1 S.2.1 dX5_begin_0 rfl (lv_at hl 0 rfl) ?_
  refine lv_iload_n S.1 S.2.1 dX5_begin_1 rfl (lv_at hl 1 rfl) ?_
  refine lv_aload_n S.1 S.2.1 dX5_begin_2 rfl (lv_at hl 0 rfl) ?_
  refine gfX5_61 S hK hW.1 0 rfl rfl dX5_begin_3 ?_
  refine q_alen S hK hW.1 11 1 rfl rfl (v := (600 : Int32)) rfl dX5_begin_6 ?_
  refine va_mmin S.1 S.2.1 (S.2.2.1.trans hl.1.symm) S.2.2.2.1 (S.2.2.2.2 _ q_361) (S.2.2.2.2 _ q_362) (S.2.2.2.2 _ q_12) (S.2.2.2.2 _ q_363) (Nat.le_of_ble_eq_true rfl) (Nat.le_of_ble_eq_true rfl) (Nat.zero_le _) (Nat.zero_le _) dX5_begin_7 ?_
  refine lv_topi (fun x1 ex1 => ?_)
  have hf := ltn_e hf ex1
  refine pfX5_43 (ws2 := (wRe g o_q0 o_town_q0 o_town_q1 o_town_q2 o_town_q3 o_town_q4 o_week_q0 o_week_q1 o_log_q0 o_log_q1 o_q1 o_q2 o_town_people o_town_wit o_town_purse o_town_hated o_town_owed o_week_deeds o_week_cells o_log_facts o_log_cells o_fault o_place o_numbers o_tape x1 o_next o_start o_token o_value o_toldOf)) S hK hW 0 rfl rfl rfl (Nat.le_of_ble_eq_true rfl) rfl dX5_begin_10 (fun H locs hW => ?_)
  refine lv_aload_n S.1 S.2.1 dX5_begin_13 rfl (lv_at hl 0 rfl) ?_
  refine lv_iconst (v := 0) S.1 S.2.1 dX5_begin_14 ic_0 ?_
  refine pfX5_46 (ws2 := (wRe g o_q0 o_town_q0 o_town_q1 o_town_q2 o_town_q3 o_town_q4 o_week_q0 o_week_q1 o_log_q0 o_log_q1 o_q1 o_q2 o_town_people o_town_wit o_town_purse o_town_hated o_town_owed o_week_deeds o_week_cells o_log_facts o_log_cells o_fault o_place o_numbers o_tape x1 (0 : Int32) o_start o_token o_value o_toldOf)) S hK hW 0 rfl rfl rfl (Nat.le_of_ble_eq_true rfl) rfl dX5_begin_15 (fun H locs hW => ?_)
  refine lv_aload_n S.1 S.2.1 dX5_begin_18 rfl (lv_at hl 0 rfl) ?_
  refine lv_iconst (v := 0) S.1 S.2.1 dX5_begin_19 ic_0 ?_
  refine pfX5_32 (ws2 := (wRe g o_q0 o_town_q0 o_town_q1 o_town_q2 o_town_q3 o_town_q4 o_week_q0 o_week_q1 o_log_q0 o_log_q1 o_q1 o_q2 o_town_people o_town_wit o_town_purse o_town_hated o_town_owed o_week_deeds o_week_cells o_log_facts o_log_cells (0 : Int32) o_place o_numbers o_tape x1 (0 : Int32) o_start o_token o_value o_toldOf)) S hK hW 0 rfl rfl rfl (Nat.le_of_ble_eq_true rfl) rfl dX5_begin_20 (fun H locs hW => ?_)
  refine lv_aload_n S.1 S.2.1 dX5_begin_23 rfl (lv_at hl 0 rfl) ?_
  refine lv_iconst (v := (-1)) S.1 S.2.1 dX5_begin_24 ic_m1 ?_
  refine pfX5_36 (ws2 := (wRe g o_q0 o_town_q0 o_town_q1 o_town_q2 o_town_q3 o_town_q4 o_week_q0 o_week_q1 o_log_q0 o_log_q1 o_q1 o_q2 o_town_people o_town_wit o_town_purse o_town_hated o_town_owed o_week_deeds o_week_cells o_log_facts o_log_cells (0 : Int32) (-1 : Int32) o_numbers o_tape x1 (0 : Int32) o_start o_token o_value o_toldOf)) S hK hW 0 rfl rfl rfl (Nat.le_of_ble_eq_true rfl) rfl dX5_begin_25 (fun H locs hW => ?_)
  refine lv_aload_n S.1 S.2.1 dX5_begin_28 rfl (lv_at hl 0 rfl) ?_
  refine lv_iconst (v := 0) S.1 S.2.1 dX5_begin_29 ic_0 ?_
  refine pfX5_58 (ws2 := (wRe g o_q0 o_town_q0 o_town_q1 o_town_q2 o_town_q3 o_town_q4 o_week_q0 o_week_q1 o_log_q0 o_log_q1 o_q1 o_q2 o_town_people o_town_wit o_town_purse o_town_hated o_town_owed o_week_deeds o_week_cells o_log_facts o_log_cells (0 : Int32) (-1 : Int32) o_numbers o_tape x1 (0 : Int32) o_start o_token o_value (0 : Int32))) S hK hW 0 rfl rfl rfl (Nat.le_of_ble_eq_true rfl) rfl dX5_begin_30 (fun H locs hW => ?_)
  refine lv_aload_n S.1 S.2.1 dX5_begin_33 rfl (lv_at hl 0 rfl) ?_
  refine gfX5_12 S hK hW.1 0 rfl rfl dX5_begin_34 ?_
  obtain ⟨x2, hx2, hf⟩ := bnd_e hf
  refine Wr.go (ws2 := (wRe g o_q0 o_town_q0 o_town_q1 o_town_q2 o_town_q3 o_town_q4 o_week_q0 o_week_q1 o_log_q0 o_log_q1 o_q1 o_q2 x2.1 o_town_wit o_town_purse x2.2.1 x2.2.2 o_week_deeds o_week_cells o_log_facts o_log_cells (0 : Int32) (-1 : Int32) o_numbers o_tape x1 (0 : Int32) o_start o_token o_value (0 : Int32))) (Wr.runV (c_X9_clear hx2) S hK (hW.1.sub (ws' := (wTw g o_town_q0 o_town_q1 o_town_q2 o_town_q3 o_town_q4 o_town_people o_town_wit o_town_purse o_town_hated o_town_owed)) [1, 2, 3, 4, 5] rfl) (hW.2.1.sub (ws' := (wTw g o_town_q0 o_town_q1 o_town_q2 o_town_q3 o_town_q4 o_town_people o_town_wit o_town_purse o_town_hated o_town_owed)) [1, 2, 3, 4, 5] (by decide) rfl) 0 7 rfl rfl kVX5_88 rfl hl.1 [] rfl (Nat.le_of_ble_eq_true rfl) ⟨(Nat.le_of_ble_eq_true rfl), (Nat.le_of_ble_eq_true rfl)⟩ ⟨(Nat.zero_le _), (Nat.zero_le _)⟩ dX5_begin_37) hW hA [1, 2, 3, 4, 5] rfl [(false, 0), (true, 0), (true, 1), (true, 2), (true, 3), (true, 4), (false, 6), (false, 7), (false, 8), (false, 9), (false, 10), (false, 11)] rfl (by decide) rfl (fun H locs hW => ?_)
  refine lv_aload_n S.1 S.2.1 dX5_begin_40 rfl (lv_at hl 0 rfl) ?_
  refine gfX5_21 S hK hW.1 0 rfl rfl dX5_begin_41 ?_
  refine lv_iconst (v := 0) S.1 S.2.1 dX5_begin_44 ic_0 ?_
  refine pfX5_91 (ws2 := (wRe g o_q0 o_town_q0 o_town_q1 o_town_q2 o_town_q3 o_town_q4 o_week_q0 o_week_q1 o_log_q0 o_log_q1 o_q1 o_q2 x2.1 o_town_wit o_town_purse x2.2.1 x2.2.2 (0 : Int32) o_week_cells o_log_facts o_log_cells (0 : Int32) (-1 : Int32) o_numbers o_tape x1 (0 : Int32) o_start o_token o_value (0 : Int32))) S hK hW 6 rfl rfl rfl (Nat.le_of_ble_eq_true rfl) rfl dX5_begin_45 (fun H locs hW => ?_)
  refine lv_aload_n S.1 S.2.1 dX5_begin_48 rfl (lv_at hl 0 rfl) ?_
  refine gfX5_28 S hK hW.1 0 rfl rfl dX5_begin_49 ?_
  refine lv_iconst (v := 0) S.1 S.2.1 dX5_begin_52 ic_0 ?_
  refine pfX5_94 (ws2 := (wRe g o_q0 o_town_q0 o_town_q1 o_town_q2 o_town_q3 o_town_q4 o_week_q0 o_week_q1 o_log_q0 o_log_q1 o_q1 o_q2 x2.1 o_town_wit o_town_purse x2.2.1 x2.2.2 (0 : Int32) o_week_cells (0 : Int32) o_log_cells (0 : Int32) (-1 : Int32) o_numbers o_tape x1 (0 : Int32) o_start o_token o_value (0 : Int32))) S hK hW 8 rfl rfl rfl (Nat.le_of_ble_eq_true rfl) rfl dX5_begin_53 (fun H locs hW => ?_)
  have e_ := Option.some.inj hf
  subst e_
  exact hret _ _ _ _ dX5_begin_56 hW
def f_X5_note (fu : Nat) (o_fault : Int32) (o_place : Int32) (p1 : Int32) (p2 : Int32) : Option (Int32 × Int32) := if o_fault = 0 then some (p1, p2) else some (o_fault, o_place)
set_option maxHeartbeats 4000000 in
set_option maxRecDepth 100000 in
theorem c_X5_note {l : Launch} {D : va_G} {g : Nat → ClassId} {fu : Nat} {o_q0 o_town_q0 o_town_q1 o_town_q2 o_town_q3 o_town_q4 o_week_q0 o_week_q1 o_log_q0 o_log_q1 o_q1 o_q2 : Nat} {o_town_people : Int32} {o_town_wit : (Nat → Int32)} {o_town_purse : (Nat → Int32)} {o_town_hated : (Nat → Int32)} {o_town_owed : (Nat → Int32)} {o_week_deeds : Int32} {o_week_cells : (Nat → Int32)} {o_log_facts : Int32} {o_log_cells : (Nat → Int32)} {o_fault : Int32} {o_place : Int32} {o_numbers : (Nat → Int32)} {o_tape : (Nat → Int32)} {o_length : Int32} {o_next : Int32} {o_start : Int32} {o_token : Int32} {o_value : Int32} {o_toldOf : Int32} {p1 : Int32} {p2 : Int32} {r : Int32 × Int32} (hf : f_X5_note fu o_fault o_place p1 p2 = some r) : Wr l D (gy g) yX5_note cX5_note 3 none 0 [.ref o_q0, .int p1, .int p2] (wRe g o_q0 o_town_q0 o_town_q1 o_town_q2 o_town_q3 o_town_q4 o_week_q0 o_week_q1 o_log_q0 o_log_q1 o_q1 o_q2 o_town_people o_town_wit o_town_purse o_town_hated o_town_owed o_week_deeds o_week_cells o_log_facts o_log_cells o_fault o_place o_numbers o_tape o_length o_next o_start o_token o_value o_toldOf) (wRe g o_q0 o_town_q0 o_town_q1 o_town_q2 o_town_q3 o_town_q4 o_week_q0 o_week_q1 o_log_q0 o_log_q1 o_q1 o_q2 o_town_people o_town_wit o_town_purse o_town_hated o_town_owed o_week_deeds o_week_cells o_log_facts o_log_cells r.1 r.2 o_numbers o_tape o_length o_next o_start o_token o_value o_toldOf) none := by
  refine Wr.ofV (by decide) (Nat.le_of_ble_eq_true rfl) ?_
  intro p e s m args below meth c Q A S hK hA hret ls hl hW
  have hl : lv_has ls 3 [(0, .ref o_q0), (1, .int p1), (2, .int p2)] := hl
  refine lv_aload_n S.1 S.2.1 dX5_note_0 rfl (lv_at hl 0 rfl) ?_
  refine gfX5_32 S hK hW.1 0 rfl rfl dX5_note_1 ?_
  refine lv_if_ne (tgt := 17) S.1 S.2.1 dX5_note_4 (by decide) (fun c_ => ?_) (fun c_ => ?_)
  · have hf := it_n c_ hf
    have e_ := Option.some.inj hf
    subst e_
    exact hret _ _ _ _ dX5_note_17 hW
  · have hf := it_p c_ hf
    refine lv_aload_n S.1 S.2.1 dX5_note_7 rfl (lv_at hl 0 rfl) ?_
    refine lv_iload_n S.1 S.2.1 dX5_note_8 rfl (lv_at hl 1 rfl) ?_
    refine pfX5_32 (ws2 := (wRe g o_q0 o_town_q0 o_town_q1 o_town_q2 o_town_q3 o_town_q4 o_week_q0 o_week_q1 o_log_q0 o_log_q1 o_q1 o_q2 o_town_people o_town_wit o_town_purse o_town_hated o_town_owed o_week_deeds o_week_cells o_log_facts o_log_cells p1 o_place o_numbers o_tape o_length o_next o_start o_token o_value o_toldOf)) S hK hW 0 rfl rfl rfl (Nat.le_of_ble_eq_true rfl) rfl dX5_note_9 (fun H locs hW => ?_)
    refine lv_aload_n S.1 S.2.1 dX5_note_12 rfl (lv_at hl 0 rfl) ?_
    refine lv_iload_n S.1 S.2.1 dX5_note_13 rfl (lv_at hl 2 rfl) ?_
    refine pfX5_36 (ws2 := (wRe g o_q0 o_town_q0 o_town_q1 o_town_q2 o_town_q3 o_town_q4 o_week_q0 o_week_q1 o_log_q0 o_log_q1 o_q1 o_q2 o_town_people o_town_wit o_town_purse o_town_hated o_town_owed o_week_deeds o_week_cells o_log_facts o_log_cells p1 p2 o_numbers o_tape o_length o_next o_start o_token o_value o_toldOf)) S hK hW 0 rfl rfl rfl (Nat.le_of_ble_eq_true rfl) rfl dX5_note_14 (fun H locs hW => ?_)
    have e_ := Option.some.inj hf
    subst e_
    exact hret _ _ _ _ dX5_note_17 hW
def f_X5_stop (fu : Nat) (o_fault : Int32) (o_place : Int32) (o_start : Int32) : Option (Int32 × Int32) := some ((1 : Int32), o_start)
set_option maxHeartbeats 4000000 in
set_option maxRecDepth 100000 in
theorem c_X5_stop {l : Launch} {D : va_G} {g : Nat → ClassId} {fu : Nat} {o_q0 o_town_q0 o_town_q1 o_town_q2 o_town_q3 o_town_q4 o_week_q0 o_week_q1 o_log_q0 o_log_q1 o_q1 o_q2 : Nat} {o_town_people : Int32} {o_town_wit : (Nat → Int32)} {o_town_purse : (Nat → Int32)} {o_town_hated : (Nat → Int32)} {o_town_owed : (Nat → Int32)} {o_week_deeds : Int32} {o_week_cells : (Nat → Int32)} {o_log_facts : Int32} {o_log_cells : (Nat → Int32)} {o_fault : Int32} {o_place : Int32} {o_numbers : (Nat → Int32)} {o_tape : (Nat → Int32)} {o_length : Int32} {o_next : Int32} {o_start : Int32} {o_token : Int32} {o_value : Int32} {o_toldOf : Int32} {r : Int32 × Int32} (hf : f_X5_stop fu o_fault o_place o_start = some r) : Wr l D (gy g) yX5_stop cX5_stop 1 none 0 [.ref o_q0] (wRe g o_q0 o_town_q0 o_town_q1 o_town_q2 o_town_q3 o_town_q4 o_week_q0 o_week_q1 o_log_q0 o_log_q1 o_q1 o_q2 o_town_people o_town_wit o_town_purse o_town_hated o_town_owed o_week_deeds o_week_cells o_log_facts o_log_cells o_fault o_place o_numbers o_tape o_length o_next o_start o_token o_value o_toldOf) (wRe g o_q0 o_town_q0 o_town_q1 o_town_q2 o_town_q3 o_town_q4 o_week_q0 o_week_q1 o_log_q0 o_log_q1 o_q1 o_q2 o_town_people o_town_wit o_town_purse o_town_hated o_town_owed o_week_deeds o_week_cells o_log_facts o_log_cells r.1 r.2 o_numbers o_tape o_length o_next o_start o_token o_value o_toldOf) none := by
  refine Wr.ofV (by decide) (Nat.le_of_ble_eq_true rfl) ?_
  intro p e s m args below meth c Q A S hK hA hret ls hl hW
  have hl : lv_has ls 1 [(0, .ref o_q0)] := hl
  refine lv_aload_n S.1 S.2.1 dX5_stop_0 rfl (lv_at hl 0 rfl) ?_
  refine lv_iconst (v := 1) S.1 S.2.1 dX5_stop_1 ic_1 ?_
  refine pfX5_32 (ws2 := (wRe g o_q0 o_town_q0 o_town_q1 o_town_q2 o_town_q3 o_town_q4 o_week_q0 o_week_q1 o_log_q0 o_log_q1 o_q1 o_q2 o_town_people o_town_wit o_town_purse o_town_hated o_town_owed o_week_deeds o_week_cells o_log_facts o_log_cells (1 : Int32) o_place o_numbers o_tape o_length o_next o_start o_token o_value o_toldOf)) S hK hW 0 rfl rfl rfl (Nat.le_of_ble_eq_true rfl) rfl dX5_stop_2 (fun H locs hW => ?_)
  refine lv_aload_n S.1 S.2.1 dX5_stop_5 rfl (lv_at hl 0 rfl) ?_
  refine lv_aload_n S.1 S.2.1 dX5_stop_6 rfl (lv_at hl 0 rfl) ?_
  refine gfX5_49 S hK hW.1 0 rfl rfl dX5_stop_7 ?_
  refine pfX5_36 (ws2 := (wRe g o_q0 o_town_q0 o_town_q1 o_town_q2 o_town_q3 o_town_q4 o_week_q0 o_week_q1 o_log_q0 o_log_q1 o_q1 o_q2 o_town_people o_town_wit o_town_purse o_town_hated o_town_owed o_week_deeds o_week_cells o_log_facts o_log_cells (1 : Int32) o_start o_numbers o_tape o_length o_next o_start o_token o_value o_toldOf)) S hK hW 0 rfl rfl rfl (Nat.le_of_ble_eq_true rfl) rfl dX5_stop_10 (fun H locs hW => ?_)
  have e_ := Option.some.inj hf
  subst e_
  exact hret _ _ _ _ dX5_stop_13 hW
def f_X5_isOneTooMany (fu : Nat) (o_town_people : Int32) (o_week_deeds : Int32) (o_log_facts : Int32) (p1 : Int32) (p2 : Int32) : Option (Int32) := if p1 = 0 then if p2 = 0 then if o_town_people < (6 : Int32) then some (0 : Int32) else some (1 : Int32) else some (0 : Int32) else if p1 = (1 : Int32) then if o_week_deeds < (40 : Int32) then some (0 : Int32) else some (1 : Int32) else if o_log_facts < (8 : Int32) then some (0 : Int32) else some (1 : Int32)
set_option maxHeartbeats 4000000 in
set_option maxRecDepth 100000 in
theorem c_X5_isOneTooMany {l : Launch} {D : va_G} {g : Nat → ClassId} {fu : Nat} {o_q0 o_town_q0 o_town_q1 o_town_q2 o_town_q3 o_town_q4 o_week_q0 o_week_q1 o_log_q0 o_log_q1 o_q1 o_q2 : Nat} {o_town_people : Int32} {o_town_wit : (Nat → Int32)} {o_town_purse : (Nat → Int32)} {o_town_hated : (Nat → Int32)} {o_town_owed : (Nat → Int32)} {o_week_deeds : Int32} {o_week_cells : (Nat → Int32)} {o_log_facts : Int32} {o_log_cells : (Nat → Int32)} {o_fault : Int32} {o_place : Int32} {o_numbers : (Nat → Int32)} {o_tape : (Nat → Int32)} {o_length : Int32} {o_next : Int32} {o_start : Int32} {o_token : Int32} {o_value : Int32} {o_toldOf : Int32} {p1 : Int32} {p2 : Int32} {r : Int32} (hf : f_X5_isOneTooMany fu o_town_people o_week_deeds o_log_facts p1 p2 = some r) : Rd l D (gy g) yX5_isOneTooMany cX5_isOneTooMany 3 (some .boolean) 0 [.ref o_q0, .int p1, .int p2] (wRe g o_q0 o_town_q0 o_town_q1 o_town_q2 o_town_q3 o_town_q4 o_week_q0 o_week_q1 o_log_q0 o_log_q1 o_q1 o_q2 o_town_people o_town_wit o_town_purse o_town_hated o_town_owed o_week_deeds o_week_cells o_log_facts o_log_cells o_fault o_place o_numbers o_tape o_length o_next o_start o_token o_value o_toldOf) (some (.int r)) := by
  refine Rd.ofZ (by decide) (Nat.le_of_ble_eq_true rfl) ?_
  intro p e s m args below meth c Q S hK hP hret ls hl
  have hl : lv_has ls 3 [(0, .ref o_q0), (1, .int p1), (2, .int p2)] := hl
  refine lv_iload_n S.1 S.2.1 dX5_isOneTooMany_0 rfl (lv_at hl 1 rfl) ?_
  refine lv_if_ne (tgt := 26) S.1 S.2.1 dX5_isOneTooMany_1 (by decide) (fun c_ => ?_) (fun c_ => ?_)
  · have hf := it_n c_ hf
    refine lv_iload_n S.1 S.2.1 dX5_isOneTooMany_26 rfl (lv_at hl 1 rfl) ?_
    refine lv_iconst (v := 1) S.1 S.2.1 dX5_isOneTooMany_27 ic_1 ?_
    refine lv_icmp_ne (tgt := 51) S.1 S.2.1 dX5_isOneTooMany_28 (by decide) (fun c_ => ?_) (fun c_ => ?_)
    · have hf := it_n c_ hf
      refine lv_aload_n S.1 S.2.1 dX5_isOneTooMany_51 rfl (lv_at hl 0 rfl) ?_
      refine gfX5_28 S hK hP 0 rfl rfl dX5_isOneTooMany_52 ?_
      refine gfX5_94 S hK hP 8 rfl rfl dX5_isOneTooMany_55 ?_
      refine lv_bipush (v := 8) S.1 S.2.1 dX5_isOneTooMany_58 bp_8 ?_
      refine lv_icmp_lt (tgt := 67) S.1 S.2.1 dX5_isOneTooMany_60 (by decide) (fun c_ => ?_) (fun c_ => ?_)
      · have hf := it_p c_ hf
        refine lv_iconst (v := 0) S.1 S.2.1 dX5_isOneTooMany_67 ic_0 ?_
        have e_ := Option.some.inj hf
        subst e_
        exact hret _ _ (Or.inl rfl) dX5_isOneTooMany_68
      · have hf := it_n c_ hf
        refine lv_iconst (v := 1) S.1 S.2.1 dX5_isOneTooMany_63 ic_1 ?_
        refine lv_goto (tgt := 68) S.1 S.2.1 dX5_isOneTooMany_64 (by decide) ?_
        have e_ := Option.some.inj hf
        subst e_
        exact hret _ _ (Or.inr rfl) dX5_isOneTooMany_68
    · have hf := it_p c_ hf
      refine lv_aload_n S.1 S.2.1 dX5_isOneTooMany_31 rfl (lv_at hl 0 rfl) ?_
      refine gfX5_21 S hK hP 0 rfl rfl dX5_isOneTooMany_32 ?_
      refine gfX5_91 S hK hP 6 rfl rfl dX5_isOneTooMany_35 ?_
      refine lv_bipush (v := 40) S.1 S.2.1 dX5_isOneTooMany_38 bp_40 ?_
      refine lv_icmp_lt (tgt := 47) S.1 S.2.1 dX5_isOneTooMany_40 (by decide) (fun c_ => ?_) (fun c_ => ?_)
      · have hf := it_p c_ hf
        refine lv_iconst (v := 0) S.1 S.2.1 dX5_isOneTooMany_47 ic_0 ?_
        refine lv_goto (tgt := 68) S.1 S.2.1 dX5_isOneTooMany_48 (by decide) ?_
        have e_ := Option.some.inj hf
        subst e_
        exact hret _ _ (Or.inl rfl) dX5_isOneTooMany_68
      · have hf := it_n c_ hf
        refine lv_iconst (v := 1) S.1 S.2.1 dX5_isOneTooMany_43 ic_1 ?_
        refine lv_goto (tgt := 68) S.1 S.2.1 dX5_isOneTooMany_44 (by decide) ?_
        have e_ := Option.some.inj hf
        subst e_
        exact hret _ _ (Or.inr rfl) dX5_isOneTooMany_68
  · have hf := it_p c_ hf
    refine lv_iload_n S.1 S.2.1 dX5_isOneTooMany_4 rfl (lv_at hl 2 rfl) ?_
    refine lv_if_ne (tgt := 24) S.1 S.2.1 dX5_isOneTooMany_5 (by decide) (fun c_ => ?_) (fun c_ => ?_)
    · have hf := it_n c_ hf
      refine lv_iconst (v := 0) S.1 S.2.1 dX5_isOneTooMany_24 ic_0 ?_
      have e_ := Option.some.inj hf
      subst e_
      exact hret _ _ (Or.inl rfl) dX5_isOneTooMany_25
    · have hf := it_p c_ hf
      refine lv_aload_n S.1 S.2.1 dX5_isOneTooMany_8 rfl (lv_at hl 0 rfl) ?_
      refine gfX5_12 S hK hP 0 rfl rfl dX5_isOneTooMany_9 ?_
      refine gfX5_75 S hK hP 1 rfl rfl dX5_isOneTooMany_12 ?_
      refine lv_bipush (v := 6) S.1 S.2.1 dX5_isOneTooMany_15 bp_6 ?_
      refine lv_icmp_lt (tgt := 24) S.1 S.2.1 dX5_isOneTooMany_17 (by decide) (fun c_ => ?_) (fun c_ => ?_)
      · have hf := it_p c_ hf
        refine lv_iconst (v := 0) S.1 S.2.1 dX5_isOneTooMany_24 ic_0 ?_
        have e_ := Option.some.inj hf
        subst e_
        exact hret _ _ (Or.inl rfl) dX5_isOneTooMany_25
      · have hf := it_n c_ hf
        refine lv_iconst (v := 1) S.1 S.2.1 dX5_isOneTooMany_20 ic_1 ?_
        refine lv_goto (tgt := 25) S.1 S.2.1 dX5_isOneTooMany_21 (by decide) ?_
        have e_ := Option.some.inj hf
        subst e_
        exact hret _ _ (Or.inr rfl) dX5_isOneTooMany_25
def f_X5_canBe (fu : Nat) (o_numbers : (Nat → Int32)) (o_value : Int32) (p1 : Int32) (p2 : Int32) (p3 : Int32) : Option (Int32) := bnd (α := (Int32) ⊕ (Unit)) (if p1 = 0 then if p2 = 0 then if p3 = (1 : Int32) then some (.inl (1 : Int32)) else if (9 : Int32) < o_value then some (.inl (0 : Int32)) else some (.inl (1 : Int32)) else some (.inr ()) else some (.inr ())) (fun x1 => cse x1 (fun y4 => some y4) (fun v2 => if p3 = (2 : Int32) then if (30 : Int32) < o_value then some (0 : Int32) else if p1 = 0 then some (1 : Int32) else if o_value < (1 : Int32) then some (0 : Int32) else some (1 : Int32) else if (6 : Int32) ≤ o_value then some (0 : Int32) else if p3 = 0 then some (1 : Int32) else bnd (α := Int32) (rdi 3 o_numbers (0 : Int32)) (fun x3 => if o_value = x3 then some (0 : Int32) else some (1 : Int32))))
set_option maxHeartbeats 4000000 in
set_option maxRecDepth 100000 in
theorem c_X5_canBe {l : Launch} {D : va_G} {g : Nat → ClassId} {fu : Nat} {o_q0 o_town_q0 o_town_q1 o_town_q2 o_town_q3 o_town_q4 o_week_q0 o_week_q1 o_log_q0 o_log_q1 o_q1 o_q2 : Nat} {o_town_people : Int32} {o_town_wit : (Nat → Int32)} {o_town_purse : (Nat → Int32)} {o_town_hated : (Nat → Int32)} {o_town_owed : (Nat → Int32)} {o_week_deeds : Int32} {o_week_cells : (Nat → Int32)} {o_log_facts : Int32} {o_log_cells : (Nat → Int32)} {o_fault : Int32} {o_place : Int32} {o_numbers : (Nat → Int32)} {o_tape : (Nat → Int32)} {o_length : Int32} {o_next : Int32} {o_start : Int32} {o_token : Int32} {o_value : Int32} {o_toldOf : Int32} {p1 : Int32} {p2 : Int32} {p3 : Int32} {r : Int32} (hf : f_X5_canBe fu o_numbers o_value p1 p2 p3 = some r) : Rd l D (gy g) yX5_canBe cX5_canBe 4 (some .boolean) 0 [.ref o_q0, .int p1, .int p2, .int p3] (wRe g o_q0 o_town_q0 o_town_q1 o_town_q2 o_town_q3 o_town_q4 o_week_q0 o_week_q1 o_log_q0 o_log_q1 o_q1 o_q2 o_town_people o_town_wit o_town_purse o_town_hated o_town_owed o_week_deeds o_week_cells o_log_facts o_log_cells o_fault o_place o_numbers o_tape o_length o_next o_start o_token o_value o_toldOf) (some (.int r)) := by
  refine Rd.ofZ (by decide) (Nat.le_of_ble_eq_true rfl) ?_
  intro p e s m args below meth c Q S hK hP hret ls hl
  have hl : lv_has ls 4 [(0, .ref o_q0), (1, .int p1), (2, .int p2), (3, .int p3)] := hl
  refine lv_iload_n S.1 S.2.1 dX5_canBe_0 rfl (lv_at hl 1 rfl) ?_
  obtain ⟨x1, hf_, hk1⟩ := bnd_e hf
  have hJ1 : ∀ (v2 : Unit), x1 = .inr v2 → ∀ (ls : Array Slot), lv_has ls 4 [(0, .ref o_q0), (1, .int p1), (3, .int p3)] → W p l e (rmD 0) s m args below meth c s.heap [] 0 0 Q (F0 m 28 ls []) := by
    intro v2 e_ ls hl
    subst e_
    have hf := cse_r hk1
    refine lv_iload_n S.1 S.2.1 dX5_canBe_28 rfl (lv_at hl 2 rfl) ?_
    refine lv_iconst (v := 2) S.1 S.2.1 dX5_canBe_29 ic_2 ?_
    refine lv_icmp_ne (tgt := 60) S.1 S.2.1 dX5_canBe_30 (by decide) (fun c_ => ?_) (fun c_ => ?_)
    · have hf := it_n c_ hf
      refine lv_aload_n S.1 S.2.1 dX5_canBe_60 rfl (lv_at hl 0 rfl) ?_
      refine gfX5_55 S hK hP 0 rfl rfl dX5_canBe_61 ?_
      refine lv_bipush (v := 6) S.1 S.2.1 dX5_canBe_64 bp_6 ?_
      refine lv_icmp_ge (tgt := 90) S.1 S.2.1 dX5_canBe_66 (by decide) (fun c_ => ?_) (fun c_ => ?_)
      · have hf := it_p c_ hf
        refine lv_iconst (v := 0) S.1 S.2.1 dX5_canBe_90 ic_0 ?_
        have e_ := Option.some.inj hf
        subst e_
        exact hret _ _ (Or.inl rfl) dX5_canBe_91
      · have hf := it_n c_ hf
        refine lv_iload_n S.1 S.2.1 dX5_canBe_69 rfl (lv_at hl 2 rfl) ?_
        refine lv_if_eq (tgt := 86) S.1 S.2.1 dX5_canBe_70 (by decide) (fun c_ => ?_) (fun c_ => ?_)
        · have hf := it_p c_ hf
          refine lv_iconst (v := 1) S.1 S.2.1 dX5_canBe_86 ic_1 ?_
          refine lv_goto (tgt := 91) S.1 S.2.1 dX5_canBe_87 (by decide) ?_
          have e_ := Option.some.inj hf
          subst e_
          exact hret _ _ (Or.inr rfl) dX5_canBe_91
        · have hf := it_n c_ hf
          refine lv_aload_n S.1 S.2.1 dX5_canBe_73 rfl (lv_at hl 0 rfl) ?_
          refine gfX5_55 S hK hP 0 rfl rfl dX5_canBe_74 ?_
          refine lv_aload_n S.1 S.2.1 dX5_canBe_77 rfl (lv_at hl 0 rfl) ?_
          refine gfX5_39 S hK hP 0 rfl rfl dX5_canBe_78 ?_
          refine lv_iconst (v := 0) S.1 S.2.1 dX5_canBe_81 ic_0 ?_
          obtain ⟨x3, hx3, hf⟩ := bnd_e hf
          refine q_iald S hK hP 10 0 rfl rfl hx3 dX5_canBe_82 ?_
          refine lv_icmp_eq (tgt := 90) S.1 S.2.1 dX5_canBe_83 (by decide) (fun c_ => ?_) (fun c_ => ?_)
          · have hf := it_p c_ hf
            refine lv_iconst (v := 0) S.1 S.2.1 dX5_canBe_90 ic_0 ?_
            have e_ := Option.some.inj hf
            subst e_
            exact hret _ _ (Or.inl rfl) dX5_canBe_91
          · have hf := it_n c_ hf
            refine lv_iconst (v := 1) S.1 S.2.1 dX5_canBe_86 ic_1 ?_
            refine lv_goto (tgt := 91) S.1 S.2.1 dX5_canBe_87 (by decide) ?_
            have e_ := Option.some.inj hf
            subst e_
            exact hret _ _ (Or.inr rfl) dX5_canBe_91
    · have hf := it_p c_ hf
      refine lv_aload_n S.1 S.2.1 dX5_canBe_33 rfl (lv_at hl 0 rfl) ?_
      refine gfX5_55 S hK hP 0 rfl rfl dX5_canBe_34 ?_
      refine lv_bipush (v := 30) S.1 S.2.1 dX5_canBe_37 bp_30 ?_
      refine lv_icmp_gt (tgt := 58) S.1 S.2.1 dX5_canBe_39 (by decide) (fun c_ => ?_) (fun c_ => ?_)
      · have hf := it_p c_ hf
        refine lv_iconst (v := 0) S.1 S.2.1 dX5_canBe_58 ic_0 ?_
        have e_ := Option.some.inj hf
        subst e_
        exact hret _ _ (Or.inl rfl) dX5_canBe_59
      · have hf := it_n c_ hf
        refine lv_iload_n S.1 S.2.1 dX5_canBe_42 rfl (lv_at hl 1 rfl) ?_
        refine lv_if_eq (tgt := 54) S.1 S.2.1 dX5_canBe_43 (by decide) (fun c_ => ?_) (fun c_ => ?_)
        · have hf := it_p c_ hf
          refine lv_iconst (v := 1) S.1 S.2.1 dX5_canBe_54 ic_1 ?_
          refine lv_goto (tgt := 59) S.1 S.2.1 dX5_canBe_55 (by decide) ?_
          have e_ := Option.some.inj hf
          subst e_
          exact hret _ _ (Or.inr rfl) dX5_canBe_59
        · have hf := it_n c_ hf
          refine lv_aload_n S.1 S.2.1 dX5_canBe_46 rfl (lv_at hl 0 rfl) ?_
          refine gfX5_55 S hK hP 0 rfl rfl dX5_canBe_47 ?_
          refine lv_iconst (v := 1) S.1 S.2.1 dX5_canBe_50 ic_1 ?_
          refine lv_icmp_lt (tgt := 58) S.1 S.2.1 dX5_canBe_51 (by decide) (fun c_ => ?_) (fun c_ => ?_)
          · have hf := it_p c_ hf
            refine lv_iconst (v := 0) S.1 S.2.1 dX5_canBe_58 ic_0 ?_
            have e_ := Option.some.inj hf
            subst e_
            exact hret _ _ (Or.inl rfl) dX5_canBe_59
          · have hf := it_n c_ hf
            refine lv_iconst (v := 1) S.1 S.2.1 dX5_canBe_54 ic_1 ?_
            refine lv_goto (tgt := 59) S.1 S.2.1 dX5_canBe_55 (by decide) ?_
            have e_ := Option.some.inj hf
            subst e_
            exact hret _ _ (Or.inr rfl) dX5_canBe_59
  have hf := hf_
  refine lv_if_ne (tgt := 28) S.1 S.2.1 dX5_canBe_1 (by decide) (fun c_ => ?_) (fun c_ => ?_)
  · have hf := it_n c_ hf
    exact hJ1 _ (Option.some.inj hf).symm _ (lv_sub hl [0, 1, 3] rfl)
  · have hf := it_p c_ hf
    refine lv_iload_n S.1 S.2.1 dX5_canBe_4 rfl (lv_at hl 2 rfl) ?_
    refine lv_if_ne (tgt := 28) S.1 S.2.1 dX5_canBe_5 (by decide) (fun c_ => ?_) (fun c_ => ?_)
    · have hf := it_n c_ hf
      exact hJ1 _ (Option.some.inj hf).symm _ (lv_sub hl [0, 1, 3] rfl)
    · have hf := it_p c_ hf
      refine lv_iload_n S.1 S.2.1 dX5_canBe_8 rfl (lv_at hl 3 rfl) ?_
      refine lv_iconst (v := 1) S.1 S.2.1 dX5_canBe_9 ic_1 ?_
      refine lv_icmp_eq (tgt := 22) S.1 S.2.1 dX5_canBe_10 (by decide) (fun c_ => ?_) (fun c_ => ?_)
      · have hf := it_p c_ hf
        refine lv_iconst (v := 1) S.1 S.2.1 dX5_canBe_22 ic_1 ?_
        refine lv_goto (tgt := 27) S.1 S.2.1 dX5_canBe_23 (by decide) ?_
        have e_ := Option.some.inj hf
        subst e_
        have hf := cse_l hk1
        have e_ := Option.some.inj hf
        subst e_
        exact hret _ _ (Or.inr rfl) dX5_canBe_27
      · have hf := it_n c_ hf
        refine lv_aload_n S.1 S.2.1 dX5_canBe_13 rfl (lv_at hl 0 rfl) ?_
        refine gfX5_55 S hK hP 0 rfl rfl dX5_canBe_14 ?_
        refine lv_bipush (v := 9) S.1 S.2.1 dX5_canBe_17 bp_9 ?_
        refine lv_icmp_gt (tgt := 26) S.1 S.2.1 dX5_canBe_19 (by decide) (fun c_ => ?_) (fun c_ => ?_)
        · have hf := it_p c_ hf
          refine lv_iconst (v := 0) S.1 S.2.1 dX5_canBe_26 ic_0 ?_
          have e_ := Option.some.inj hf
          subst e_
          have hf := cse_l hk1
          have e_ := Option.some.inj hf
          subst e_
          exact hret _ _ (Or.inl rfl) dX5_canBe_27
        · have hf := it_n c_ hf
          refine lv_iconst (v := 1) S.1 S.2.1 dX5_canBe_22 ic_1 ?_
          refine lv_goto (tgt := 27) S.1 S.2.1 dX5_canBe_23 (by decide) ?_
          have e_ := Option.some.inj hf
          subst e_
          have hf := cse_l hk1
          have e_ := Option.some.inj hf
          subst e_
          exact hret _ _ (Or.inr rfl) dX5_canBe_27
def f_X5_keepOfTown (fu : Nat) (o_town_people : Int32) (o_town_wit : (Nat → Int32)) (o_town_purse : (Nat → Int32)) (o_town_hated : (Nat → Int32)) (o_town_owed : (Nat → Int32)) (o_toldOf : Int32) (p1 : Int32) (p2 : Int32) (p3 : Int32) (p4 : Int32) : Option (Int32 × (Nat → Int32) × (Nat → Int32) × (Nat → Int32) × (Nat → Int32) × Int32) := if p1 = 0 then if (6 : Int32) ≤ o_town_people then some (o_town_people, o_town_wit, o_town_purse, o_town_hated, o_town_owed, o_toldOf) else bnd (α := (Nat → Int32)) (wri 6 o_town_wit o_town_people p2) (fun x1 => bnd (α := (Nat → Int32)) (wri 6 o_town_purse o_town_people p3) (fun x2 => ltn (o_town_people + (1 : Int32)) (fun x3 => some (x3, x1, x2, o_town_hated, o_town_owed, o_toldOf)))) else if p2 < 0 then some (o_town_people, o_town_wit, o_town_purse, o_town_hated, o_town_owed, o_toldOf) else if (6 : Int32) ≤ p2 then some (o_town_people, o_town_wit, o_town_purse, o_town_hated, o_town_owed, o_toldOf) else if p3 < 0 then some (o_town_people, o_town_wit, o_town_purse, o_town_hated, o_town_owed, o_toldOf) else if p3 < (6 : Int32) then ltn (o_toldOf ||| ((jshl (1 : Int32) p2) ||| (jshl (1 : Int32) p3))) (fun x4 => if p1 = (1 : Int32) then bnd (α := Int32) (rdi 6 o_town_hated p2) (fun x5 => ltn (x5 ||| (jshl (1 : Int32) p3)) (fun x6 => bnd (α := (Nat → Int32)) (wri 6 o_town_hated p2 x6) (fun x7 => bnd (α := Int32) (rdi 6 x7 p3) (fun x8 => ltn (x8 ||| (jshl (1 : Int32) p2)) (fun x9 => bnd (α := (Nat → Int32)) (wri 6 x7 p3 x9) (fun x10 => some (o_town_people, o_town_wit, o_town_purse, x10, o_town_owed, x4))))))) else bnd (α := (Nat → Int32)) (wri 36 o_town_owed (((6 : Int32) * p2) + p3) p4) (fun x11 => some (o_town_people, o_town_wit, o_town_purse, o_town_hated, x11, x4))) else some (o_town_people, o_town_wit, o_town_purse, o_town_hated, o_town_owed, o_toldOf)
set_option maxHeartbeats 4000000 in
set_option maxRecDepth 100000 in
theorem c_X5_keepOfTown {l : Launch} {D : va_G} {g : Nat → ClassId} {fu : Nat} {o_q0 o_town_q0 o_town_q1 o_town_q2 o_town_q3 o_town_q4 o_week_q0 o_week_q1 o_log_q0 o_log_q1 o_q1 o_q2 : Nat} {o_town_people : Int32} {o_town_wit : (Nat → Int32)} {o_town_purse : (Nat → Int32)} {o_town_hated : (Nat → Int32)} {o_town_owed : (Nat → Int32)} {o_week_deeds : Int32} {o_week_cells : (Nat → Int32)} {o_log_facts : Int32} {o_log_cells : (Nat → Int32)} {o_fault : Int32} {o_place : Int32} {o_numbers : (Nat → Int32)} {o_tape : (Nat → Int32)} {o_length : Int32} {o_next : Int32} {o_start : Int32} {o_token : Int32} {o_value : Int32} {o_toldOf : Int32} {p1 : Int32} {p2 : Int32} {p3 : Int32} {p4 : Int32} {r : Int32 × (Nat → Int32) × (Nat → Int32) × (Nat → Int32) × (Nat → Int32) × Int32} (hf : f_X5_keepOfTown fu o_town_people o_town_wit o_town_purse o_town_hated o_town_owed o_toldOf p1 p2 p3 p4 = some r) : Wr l D (gy g) yX5_keepOfTown cX5_keepOfTown 5 none 0 [.ref o_q0, .int p1, .int p2, .int p3, .int p4] (wRe g o_q0 o_town_q0 o_town_q1 o_town_q2 o_town_q3 o_town_q4 o_week_q0 o_week_q1 o_log_q0 o_log_q1 o_q1 o_q2 o_town_people o_town_wit o_town_purse o_town_hated o_town_owed o_week_deeds o_week_cells o_log_facts o_log_cells o_fault o_place o_numbers o_tape o_length o_next o_start o_token o_value o_toldOf) (wRe g o_q0 o_town_q0 o_town_q1 o_town_q2 o_town_q3 o_town_q4 o_week_q0 o_week_q1 o_log_q0 o_log_q1 o_q1 o_q2 r.1 r.2.1 r.2.2.1 r.2.2.2.1 r.2.2.2.2.1 o_week_deeds o_week_cells o_log_facts o_log_cells o_fault o_place o_numbers o_tape o_length o_next o_start o_token o_value r.2.2.2.2.2) none := by
  refine Wr.ofV (by decide) (Nat.le_of_ble_eq_true rfl) ?_
  intro p e s m args below meth c Q A S hK hA hret ls hl hW
  have hl : lv_has ls 5 [(0, .ref o_q0), (1, .int p1), (2, .int p2), (3, .int p3), (4, .int p4)] := hl
  refine lv_iload_n S.1 S.2.1 dX5_keepOfTown_0 rfl (lv_at hl 1 rfl) ?_
  refine lv_if_ne (tgt := 62) S.1 S.2.1 dX5_keepOfTown_1 (by decide) (fun c_ => ?_) (fun c_ => ?_)
  · have hf := it_n c_ hf
    refine lv_iload_n S.1 S.2.1 dX5_keepOfTown_62 rfl (lv_at hl 2 rfl) ?_
    refine lv_if_lt (tgt := 82) S.1 S.2.1 dX5_keepOfTown_63 (by decide) (fun c_ => ?_) (fun c_ => ?_)
    · have hf := it_p c_ hf
      have e_ := Option.some.inj hf
      subst e_
      exact hret _ _ _ _ dX5_keepOfTown_82 hW
    · have hf := it_n c_ hf
      refine lv_iload_n S.1 S.2.1 dX5_keepOfTown_66 rfl (lv_at hl 2 rfl) ?_
      refine lv_bipush (v := 6) S.1 S.2.1 dX5_keepOfTown_67 bp_6 ?_
      refine lv_icmp_ge (tgt := 82) S.1 S.2.1 dX5_keepOfTown_69 (by decide) (fun c_ => ?_) (fun c_ => ?_)
      · have hf := it_p c_ hf
        have e_ := Option.some.inj hf
        subst e_
        exact hret _ _ _ _ dX5_keepOfTown_82 hW
      · have hf := it_n c_ hf
        refine lv_iload_n S.1 S.2.1 dX5_keepOfTown_72 rfl (lv_at hl 3 rfl) ?_
        refine lv_if_lt (tgt := 82) S.1 S.2.1 dX5_keepOfTown_73 (by decide) (fun c_ => ?_) (fun c_ => ?_)
        · have hf := it_p c_ hf
          have e_ := Option.some.inj hf
          subst e_
          exact hret _ _ _ _ dX5_keepOfTown_82 hW
        · have hf := it_n c_ hf
          refine lv_iload_n S.1 S.2.1 dX5_keepOfTown_76 rfl (lv_at hl 3 rfl) ?_
          refine lv_bipush (v := 6) S.1 S.2.1 dX5_keepOfTown_77 bp_6 ?_
          refine lv_icmp_lt (tgt := 83) S.1 S.2.1 dX5_keepOfTown_79 (by decide) (fun c_ => ?_) (fun c_ => ?_)
          · have hf := it_p c_ hf
            refine lv_aload_n S.1 S.2.1 dX5_keepOfTown_83 rfl (lv_at hl 0 rfl) ?_
            refine lv_dup S.1 S.2.1 dX5_keepOfTown_84 rfl ?_
            refine gfX5_58 S hK hW.1 0 rfl rfl dX5_keepOfTown_85 ?_
            refine lv_iconst (v := 1) S.1 S.2.1 dX5_keepOfTown_88 ic_1 ?_
            refine lv_iload_n S.1 S.2.1 dX5_keepOfTown_89 rfl (lv_at hl 2 rfl) ?_
            refine lv_ishl S.1 S.2.1 dX5_keepOfTown_90 ?_
            refine lv_iconst (v := 1) S.1 S.2.1 dX5_keepOfTown_91 ic_1 ?_
            refine lv_iload_n S.1 S.2.1 dX5_keepOfTown_92 rfl (lv_at hl 3 rfl) ?_
            refine lv_ishl S.1 S.2.1 dX5_keepOfTown_93 ?_
            refine lv_ior S.1 S.2.1 dX5_keepOfTown_94 ?_
            refine lv_ior S.1 S.2.1 dX5_keepOfTown_95 ?_
            refine lv_topi (fun x4 ex4 => ?_)
            have hf := ltn_e hf ex4
            refine pfX5_58 (ws2 := (wRe g o_q0 o_town_q0 o_town_q1 o_town_q2 o_town_q3 o_town_q4 o_week_q0 o_week_q1 o_log_q0 o_log_q1 o_q1 o_q2 o_town_people o_town_wit o_town_purse o_town_hated o_town_owed o_week_deeds o_week_cells o_log_facts o_log_cells o_fault o_place o_numbers o_tape o_length o_next o_start o_token o_value x4)) S hK hW 0 rfl rfl rfl (Nat.le_of_ble_eq_true rfl) rfl dX5_keepOfTown_96 (fun H locs hW => ?_)
            refine lv_iload_n S.1 S.2.1 dX5_keepOfTown_99 rfl (lv_at hl 1 rfl) ?_
            refine lv_iconst (v := 1) S.1 S.2.1 dX5_keepOfTown_100 ic_1 ?_
            refine lv_icmp_ne (tgt := 137) S.1 S.2.1 dX5_keepOfTown_101 (by decide) (fun c_ => ?_) (fun c_ => ?_)
            · have hf := it_n c_ hf
              refine lv_aload_n S.1 S.2.1 dX5_keepOfTown_137 rfl (lv_at hl 0 rfl) ?_
              refine gfX5_12 S hK hW.1 0 rfl rfl dX5_keepOfTown_138 ?_
              refine gfX5_183 S hK hW.1 1 rfl rfl dX5_keepOfTown_141 ?_
              refine lv_bipush (v := 6) S.1 S.2.1 dX5_keepOfTown_144 bp_6 ?_
              refine lv_iload_n S.1 S.2.1 dX5_keepOfTown_146 rfl (lv_at hl 2 rfl) ?_
              refine lv_imul S.1 S.2.1 dX5_keepOfTown_147 ?_
              refine lv_iload_n S.1 S.2.1 dX5_keepOfTown_148 rfl (lv_at hl 3 rfl) ?_
              refine lv_iadd S.1 S.2.1 dX5_keepOfTown_149 ?_
              refine lv_iload S.1 S.2.1 dX5_keepOfTown_150 (lv_at hl 4 rfl) ?_
              obtain ⟨x11, hx11, hf⟩ := bnd_e hf
              refine q_iast (ws2 := (wRe g o_q0 o_town_q0 o_town_q1 o_town_q2 o_town_q3 o_town_q4 o_week_q0 o_week_q1 o_log_q0 o_log_q1 o_q1 o_q2 o_town_people o_town_wit o_town_purse o_town_hated x11 o_week_deeds o_week_cells o_log_facts o_log_cells o_fault o_place o_numbers o_tape o_length o_next o_start o_token o_value x4)) S hK hW 5 0 rfl rfl hx11 rfl dX5_keepOfTown_152 (fun H locs hW => ?_)
              have e_ := Option.some.inj hf
              subst e_
              exact hret _ _ _ _ dX5_keepOfTown_153 hW
            · have hf := it_p c_ hf
              refine lv_aload_n S.1 S.2.1 dX5_keepOfTown_104 rfl (lv_at hl 0 rfl) ?_
              refine gfX5_12 S hK hW.1 0 rfl rfl dX5_keepOfTown_105 ?_
              refine gfX5_180 S hK hW.1 1 rfl rfl dX5_keepOfTown_108 ?_
              refine lv_iload_n S.1 S.2.1 dX5_keepOfTown_111 rfl (lv_at hl 2 rfl) ?_
              refine lv_dup2_11 S.1 S.2.1 dX5_keepOfTown_112 rfl rfl ?_
              obtain ⟨x5, hx5, hf⟩ := bnd_e hf
              refine q_iald S hK hW.1 4 0 rfl rfl hx5 dX5_keepOfTown_113 ?_
              refine lv_iconst (v := 1) S.1 S.2.1 dX5_keepOfTown_114 ic_1 ?_
              refine lv_iload_n S.1 S.2.1 dX5_keepOfTown_115 rfl (lv_at hl 3 rfl) ?_
              refine lv_ishl S.1 S.2.1 dX5_keepOfTown_116 ?_
              refine lv_ior S.1 S.2.1 dX5_keepOfTown_117 ?_
              refine lv_topi (fun x6 ex6 => ?_)
              have hf := ltn_e hf ex6
              obtain ⟨x7, hx7, hf⟩ := bnd_e hf
              refine q_iast (ws2 := (wRe g o_q0 o_town_q0 o_town_q1 o_town_q2 o_town_q3 o_town_q4 o_week_q0 o_week_q1 o_log_q0 o_log_q1 o_q1 o_q2 o_town_people o_town_wit o_town_purse x7 o_town_owed o_week_deeds o_week_cells o_log_facts o_log_cells o_fault o_place o_numbers o_tape o_length o_next o_start o_token o_value x4)) S hK hW 4 0 rfl rfl hx7 rfl dX5_keepOfTown_118 (fun H locs hW => ?_)
              refine lv_aload_n S.1 S.2.1 dX5_keepOfTown_119 rfl (lv_at hl 0 rfl) ?_
              refine gfX5_12 S hK hW.1 0 rfl rfl dX5_keepOfTown_120 ?_
              refine gfX5_180 S hK hW.1 1 rfl rfl dX5_keepOfTown_123 ?_
              refine lv_iload_n S.1 S.2.1 dX5_keepOfTown_126 rfl (lv_at hl 3 rfl) ?_
              refine lv_dup2_11 S.1 S.2.1 dX5_keepOfTown_127 rfl rfl ?_
              obtain ⟨x8, hx8, hf⟩ := bnd_e hf
              refine q_iald S hK hW.1 4 0 rfl rfl hx8 dX5_keepOfTown_128 ?_
              refine lv_iconst (v := 1) S.1 S.2.1 dX5_keepOfTown_129 ic_1 ?_
              refine lv_iload_n S.1 S.2.1 dX5_keepOfTown_130 rfl (lv_at hl 2 rfl) ?_
              refine lv_ishl S.1 S.2.1 dX5_keepOfTown_131 ?_
              refine lv_ior S.1 S.2.1 dX5_keepOfTown_132 ?_
              refine lv_topi (fun x9 ex9 => ?_)
              have hf := ltn_e hf ex9
              obtain ⟨x10, hx10, hf⟩ := bnd_e hf
              refine q_iast (ws2 := (wRe g o_q0 o_town_q0 o_town_q1 o_town_q2 o_town_q3 o_town_q4 o_week_q0 o_week_q1 o_log_q0 o_log_q1 o_q1 o_q2 o_town_people o_town_wit o_town_purse x10 o_town_owed o_week_deeds o_week_cells o_log_facts o_log_cells o_fault o_place o_numbers o_tape o_length o_next o_start o_token o_value x4)) S hK hW 4 0 rfl rfl hx10 rfl dX5_keepOfTown_133 (fun H locs hW => ?_)
              refine lv_goto (tgt := 153) S.1 S.2.1 dX5_keepOfTown_134 (by decide) ?_
              have e_ := Option.some.inj hf
              subst e_
              exact hret _ _ _ _ dX5_keepOfTown_153 hW
          · have hf := it_n c_ hf
            have e_ := Option.some.inj hf
            subst e_
            exact hret _ _ _ _ dX5_keepOfTown_82 hW
  · have hf := it_p c_ hf
    refine lv_aload_n S.1 S.2.1 dX5_keepOfTown_4 rfl (lv_at hl 0 rfl) ?_
    refine gfX5_12 S hK hW.1 0 rfl rfl dX5_keepOfTown_5 ?_
    refine gfX5_75 S hK hW.1 1 rfl rfl dX5_keepOfTown_8 ?_
    refine lv_bipush (v := 6) S.1 S.2.1 dX5_keepOfTown_11 bp_6 ?_
    refine lv_icmp_ge (tgt := 61) S.1 S.2.1 dX5_keepOfTown_13 (by decide) (fun c_ => ?_) (fun c_ => ?_)
    · have hf := it_p c_ hf
      have e_ := Option.some.inj hf
      subst e_
      exact hret _ _ _ _ dX5_keepOfTown_61 hW
    · have hf := it_n c_ hf
      refine lv_aload_n S.1 S.2.1 dX5_keepOfTown_16 rfl (lv_at hl 0 rfl) ?_
      refine gfX5_12 S hK hW.1 0 rfl rfl dX5_keepOfTown_17 ?_
      refine gfX5_174 S hK hW.1 1 rfl rfl dX5_keepOfTown_20 ?_
      refine lv_aload_n S.1 S.2.1 dX5_keepOfTown_23 rfl (lv_at hl 0 rfl) ?_
      refine gfX5_12 S hK hW.1 0 rfl rfl dX5_keepOfTown_24 ?_
      refine gfX5_75 S hK hW.1 1 rfl rfl dX5_keepOfTown_27 ?_
      refine lv_iload_n S.1 S.2.1 dX5_keepOfTown_30 rfl (lv_at hl 2 rfl) ?_
      obtain ⟨x1, hx1, hf⟩ := bnd_e hf
      refine q_iast (ws2 := (wRe g o_q0 o_town_q0 o_town_q1 o_town_q2 o_town_q3 o_town_q4 o_week_q0 o_week_q1 o_log_q0 o_log_q1 o_q1 o_q2 o_town_people x1 o_town_purse o_town_hated o_town_owed o_week_deeds o_week_cells o_log_facts o_log_cells o_fault o_place o_numbers o_tape o_length o_next o_start o_token o_value o_toldOf)) S hK hW 2 0 rfl rfl hx1 rfl dX5_keepOfTown_31 (fun H locs hW => ?_)
      refine lv_aload_n S.1 S.2.1 dX5_keepOfTown_32 rfl (lv_at hl 0 rfl) ?_
      refine gfX5_12 S hK hW.1 0 rfl rfl dX5_keepOfTown_33 ?_
      refine gfX5_177 S hK hW.1 1 rfl rfl dX5_keepOfTown_36 ?_
      refine lv_aload_n S.1 S.2.1 dX5_keepOfTown_39 rfl (lv_at hl 0 rfl) ?_
      refine gfX5_12 S hK hW.1 0 rfl rfl dX5_keepOfTown_40 ?_
      refine gfX5_75 S hK hW.1 1 rfl rfl dX5_keepOfTown_43 ?_
      refine lv_iload_n S.1 S.2.1 dX5_keepOfTown_46 rfl (lv_at hl 3 rfl) ?_
      obtain ⟨x2, hx2, hf⟩ := bnd_e hf
      refine q_iast (ws2 := (wRe g o_q0 o_town_q0 o_town_q1 o_town_q2 o_town_q3 o_town_q4 o_week_q0 o_week_q1 o_log_q0 o_log_q1 o_q1 o_q2 o_town_people x1 x2 o_town_hated o_town_owed o_week_deeds o_week_cells o_log_facts o_log_cells o_fault o_place o_numbers o_tape o_length o_next o_start o_token o_value o_toldOf)) S hK hW 3 0 rfl rfl hx2 rfl dX5_keepOfTown_47 (fun H locs hW => ?_)
      refine lv_aload_n S.1 S.2.1 dX5_keepOfTown_48 rfl (lv_at hl 0 rfl) ?_
      refine gfX5_12 S hK hW.1 0 rfl rfl dX5_keepOfTown_49 ?_
      refine lv_dup S.1 S.2.1 dX5_keepOfTown_52 rfl ?_
      refine gfX5_75 S hK hW.1 1 rfl rfl dX5_keepOfTown_53 ?_
      refine lv_iconst (v := 1) S.1 S.2.1 dX5_keepOfTown_56 ic_1 ?_
      refine lv_iadd S.1 S.2.1 dX5_keepOfTown_57 ?_
      refine lv_topi (fun x3 ex3 => ?_)
      have hf := ltn_e hf ex3
      refine pfX5_75 (ws2 := (wRe g o_q0 o_town_q0 o_town_q1 o_town_q2 o_town_q3 o_town_q4 o_week_q0 o_week_q1 o_log_q0 o_log_q1 o_q1 o_q2 x3 x1 x2 o_town_hated o_town_owed o_week_deeds o_week_cells o_log_facts o_log_cells o_fault o_place o_numbers o_tape o_length o_next o_start o_token o_value o_toldOf)) S hK hW 1 rfl rfl rfl (Nat.le_of_ble_eq_true rfl) rfl dX5_keepOfTown_58 (fun H locs hW => ?_)
      have e_ := Option.some.inj hf
      subst e_
      exact hret _ _ _ _ dX5_keepOfTown_61 hW
def f_X5_keepLine (fu : Nat) (o_town_people : Int32) (o_town_wit : (Nat → Int32)) (o_town_purse : (Nat → Int32)) (o_town_hated : (Nat → Int32)) (o_town_owed : (Nat → Int32)) (o_week_deeds : Int32) (o_week_cells : (Nat → Int32)) (o_log_facts : Int32) (o_log_cells : (Nat → Int32)) (o_numbers : (Nat → Int32)) (o_toldOf : Int32) (p1 : Int32) (p2 : Int32) : Option (Int32 × (Nat → Int32) × (Nat → Int32) × (Nat → Int32) × (Nat → Int32) × Int32 × (Nat → Int32) × Int32 × (Nat → Int32) × Int32) := if p1 = 0 then bnd (α := Int32) (rdi 3 o_numbers (0 : Int32)) (fun x1 => bnd (α := Int32) (rdi 3 o_numbers (1 : Int32)) (fun x2 => bnd (α := Int32) (rdi 3 o_numbers (2 : Int32)) (fun x3 => bnd (α := Int32 × (Nat → Int32) × (Nat → Int32) × (Nat → Int32) × (Nat → Int32) × Int32) (f_X5_keepOfTown fu o_town_people o_town_wit o_town_purse o_town_hated o_town_owed o_toldOf p2 x1 x2 x3) (fun x4 => some (x4.1, x4.2.1, x4.2.2.1, x4.2.2.2.1, x4.2.2.2.2.1, o_week_deeds, o_week_cells, o_log_facts, o_log_cells, x4.2.2.2.2.2))))) else if p1 = (1 : Int32) then bnd (α := Int32 × (Nat → Int32)) (f_X10_add fu 3 o_week_deeds o_week_cells o_numbers p2) (fun x5 => some (o_town_people, o_town_wit, o_town_purse, o_town_hated, o_town_owed, x5.1, x5.2, o_log_facts, o_log_cells, o_toldOf)) else bnd (α := Int32 × (Nat → Int32)) (f_X2_add fu 3 o_log_facts o_log_cells o_numbers p2) (fun x6 => some (o_town_people, o_town_wit, o_town_purse, o_town_hated, o_town_owed, o_week_deeds, o_week_cells, x6.1, x6.2, o_toldOf))
set_option maxHeartbeats 4000000 in
set_option maxRecDepth 100000 in
theorem c_X5_keepLine {l : Launch} {D : va_G} {g : Nat → ClassId} {fu : Nat} {o_q0 o_town_q0 o_town_q1 o_town_q2 o_town_q3 o_town_q4 o_week_q0 o_week_q1 o_log_q0 o_log_q1 o_q1 o_q2 : Nat} {o_town_people : Int32} {o_town_wit : (Nat → Int32)} {o_town_purse : (Nat → Int32)} {o_town_hated : (Nat → Int32)} {o_town_owed : (Nat → Int32)} {o_week_deeds : Int32} {o_week_cells : (Nat → Int32)} {o_log_facts : Int32} {o_log_cells : (Nat → Int32)} {o_fault : Int32} {o_place : Int32} {o_numbers : (Nat → Int32)} {o_tape : (Nat → Int32)} {o_length : Int32} {o_next : Int32} {o_start : Int32} {o_token : Int32} {o_value : Int32} {o_toldOf : Int32} {p1 : Int32} {p2 : Int32} {r : Int32 × (Nat → Int32) × (Nat → Int32) × (Nat → Int32) × (Nat → Int32) × Int32 × (Nat → Int32) × Int32 × (Nat → Int32) × Int32} (hf : f_X5_keepLine fu o_town_people o_town_wit o_town_purse o_town_hated o_town_owed o_week_deeds o_week_cells o_log_facts o_log_cells o_numbers o_toldOf p1 p2 = some r) : Wr l D (gy g) yX5_keepLine cX5_keepLine 3 none 2 [.ref o_q0, .int p1, .int p2] (wRe g o_q0 o_town_q0 o_town_q1 o_town_q2 o_town_q3 o_town_q4 o_week_q0 o_week_q1 o_log_q0 o_log_q1 o_q1 o_q2 o_town_people o_town_wit o_town_purse o_town_hated o_town_owed o_week_deeds o_week_cells o_log_facts o_log_cells o_fault o_place o_numbers o_tape o_length o_next o_start o_token o_value o_toldOf) (wRe g o_q0 o_town_q0 o_town_q1 o_town_q2 o_town_q3 o_town_q4 o_week_q0 o_week_q1 o_log_q0 o_log_q1 o_q1 o_q2 r.1 r.2.1 r.2.2.1 r.2.2.2.1 r.2.2.2.2.1 r.2.2.2.2.2.1 r.2.2.2.2.2.2.1 r.2.2.2.2.2.2.2.1 r.2.2.2.2.2.2.2.2.1 o_fault o_place o_numbers o_tape o_length o_next o_start o_token o_value r.2.2.2.2.2.2.2.2.2) none := by
  refine Wr.ofV (by decide) (Nat.le_of_ble_eq_true rfl) ?_
  intro p e s m args below meth c Q A S hK hA hret ls hl hW
  have hl : lv_has ls 3 [(0, .ref o_q0), (1, .int p1), (2, .int p2)] := hl
  refine lv_iload_n S.1 S.2.1 dX5_keepLine_0 rfl (lv_at hl 1 rfl) ?_
  refine lv_if_ne (tgt := 30) S.1 S.2.1 dX5_keepLine_1 (by decide) (fun c_ => ?_) (fun c_ => ?_)
  · have hf := it_n c_ hf
    refine lv_iload_n S.1 S.2.1 dX5_keepLine_30 rfl (lv_at hl 1 rfl) ?_
    refine lv_iconst (v := 1) S.1 S.2.1 dX5_keepLine_31 ic_1 ?_
    refine lv_icmp_ne (tgt := 50) S.1 S.2.1 dX5_keepLine_32 (by decide) (fun c_ => ?_) (fun c_ => ?_)
    · have hf := it_n c_ hf
      refine lv_aload_n S.1 S.2.1 dX5_keepLine_50 rfl (lv_at hl 0 rfl) ?_
      refine gfX5_28 S hK hW.1 0 rfl rfl dX5_keepLine_51 ?_
      refine lv_iload_n S.1 S.2.1 dX5_keepLine_54 rfl (lv_at hl 2 rfl) ?_
      refine lv_aload_n S.1 S.2.1 dX5_keepLine_55 rfl (lv_at hl 0 rfl) ?_
      refine gfX5_39 S hK hW.1 0 rfl rfl dX5_keepLine_56 ?_
      obtain ⟨x6, hx6, hf⟩ := bnd_e hf
      refine Wr.go (ws2 := (wRe g o_q0 o_town_q0 o_town_q1 o_town_q2 o_town_q3 o_town_q4 o_week_q0 o_week_q1 o_log_q0 o_log_q1 o_q1 o_q2 o_town_people o_town_wit o_town_purse o_town_hated o_town_owed o_week_deeds o_week_cells x6.1 x6.2 o_fault o_place o_numbers o_tape o_length o_next o_start o_token o_value o_toldOf)) (Wr.runV (c_X2_add hx6) S hK (hW.1.sub (ws' := (wLo g o_log_q0 o_log_q1 o_log_facts o_log_cells ++ wAI g o_q1 3 o_numbers)) [8, 9, 10] rfl) (hW.2.1.sub (ws' := (wLo g o_log_q0 o_log_q1 o_log_facts o_log_cells ++ wAI g o_q1 3 o_numbers)) [8, 9, 10] (by decide) rfl) 0 1 rfl rfl kVX5_173 rfl hl.1 [] rfl (Nat.le_of_ble_eq_true rfl) ⟨(Nat.le_of_ble_eq_true rfl), (Nat.le_of_ble_eq_true rfl)⟩ ⟨(Nat.zero_le _), (Nat.zero_le _)⟩ dX5_keepLine_59) hW hA [8, 9, 10] rfl [(false, 0), (false, 1), (false, 2), (false, 3), (false, 4), (false, 5), (false, 6), (false, 7), (true, 0), (true, 1), (true, 2), (false, 11)] rfl (by decide) rfl (fun H locs hW => ?_)
      have e_ := Option.some.inj hf
      subst e_
      exact hret _ _ _ _ dX5_keepLine_62 hW
    · have hf := it_p c_ hf
      refine lv_aload_n S.1 S.2.1 dX5_keepLine_35 rfl (lv_at hl 0 rfl) ?_
      refine gfX5_21 S hK hW.1 0 rfl rfl dX5_keepLine_36 ?_
      refine lv_iload_n S.1 S.2.1 dX5_keepLine_39 rfl (lv_at hl 2 rfl) ?_
      refine lv_aload_n S.1 S.2.1 dX5_keepLine_40 rfl (lv_at hl 0 rfl) ?_
      refine gfX5_39 S hK hW.1 0 rfl rfl dX5_keepLine_41 ?_
      obtain ⟨x5, hx5, hf⟩ := bnd_e hf
      refine Wr.go (ws2 := (wRe g o_q0 o_town_q0 o_town_q1 o_town_q2 o_town_q3 o_town_q4 o_week_q0 o_week_q1 o_log_q0 o_log_q1 o_q1 o_q2 o_town_people o_town_wit o_town_purse o_town_hated o_town_owed x5.1 x5.2 o_log_facts o_log_cells o_fault o_place o_numbers o_tape o_length o_next o_start o_token o_value o_toldOf)) (Wr.runV (c_X10_add hx5) S hK (hW.1.sub (ws' := (wWe g o_week_q0 o_week_q1 o_week_deeds o_week_cells ++ wAI g o_q1 3 o_numbers)) [6, 7, 10] rfl) (hW.2.1.sub (ws' := (wWe g o_week_q0 o_week_q1 o_week_deeds o_week_cells ++ wAI g o_q1 3 o_numbers)) [6, 7, 10] (by decide) rfl) 0 8 rfl rfl kVX5_169 rfl hl.1 [] rfl (Nat.le_of_ble_eq_true rfl) ⟨(Nat.le_of_ble_eq_true rfl), (Nat.le_of_ble_eq_true rfl)⟩ ⟨(Nat.zero_le _), (Nat.zero_le _)⟩ dX5_keepLine_44) hW hA [6, 7, 10] rfl [(false, 0), (false, 1), (false, 2), (false, 3), (false, 4), (false, 5), (true, 0), (true, 1), (false, 8), (false, 9), (true, 2), (false, 11)] rfl (by decide) rfl (fun H locs hW => ?_)
      refine lv_goto (tgt := 62) S.1 S.2.1 dX5_keepLine_47 (by decide) ?_
      have e_ := Option.some.inj hf
      subst e_
      exact hret _ _ _ _ dX5_keepLine_62 hW
  · have hf := it_p c_ hf
    refine lv_aload_n S.1 S.2.1 dX5_keepLine_4 rfl (lv_at hl 0 rfl) ?_
    refine lv_iload_n S.1 S.2.1 dX5_keepLine_5 rfl (lv_at hl 2 rfl) ?_
    refine lv_aload_n S.1 S.2.1 dX5_keepLine_6 rfl (lv_at hl 0 rfl) ?_
    refine gfX5_39 S hK hW.1 0 rfl rfl dX5_keepLine_7 ?_
    refine lv_iconst (v := 0) S.1 S.2.1 dX5_keepLine_10 ic_0 ?_
    obtain ⟨x1, hx1, hf⟩ := bnd_e hf
    refine q_iald S hK hW.1 10 0 rfl rfl hx1 dX5_keepLine_11 ?_
    refine lv_aload_n S.1 S.2.1 dX5_keepLine_12 rfl (lv_at hl 0 rfl) ?_
    refine gfX5_39 S hK hW.1 0 rfl rfl dX5_keepLine_13 ?_
    refine lv_iconst (v := 1) S.1 S.2.1 dX5_keepLine_16 ic_1 ?_
    obtain ⟨x2, hx2, hf⟩ := bnd_e hf
    refine q_iald S hK hW.1 10 0 rfl rfl hx2 dX5_keepLine_17 ?_
    refine lv_aload_n S.1 S.2.1 dX5_keepLine_18 rfl (lv_at hl 0 rfl) ?_
    refine gfX5_39 S hK hW.1 0 rfl rfl dX5_keepLine_19 ?_
    refine lv_iconst (v := 2) S.1 S.2.1 dX5_keepLine_22 ic_2 ?_
    obtain ⟨x3, hx3, hf⟩ := bnd_e hf
    refine q_iald S hK hW.1 10 0 rfl rfl hx3 dX5_keepLine_23 ?_
    obtain ⟨x4, hx4, hf⟩ := bnd_e hf
    refine Wr.goW (Wr.runV (c_X5_keepOfTown hx4) S hK hW.1 hW.2.1 0 3 rfl rfl kVX5_165 rfl hl.1 [] rfl (Nat.le_of_ble_eq_true rfl) ⟨(Nat.le_of_ble_eq_true rfl), (Nat.le_of_ble_eq_true rfl)⟩ ⟨(Nat.zero_le _), (Nat.zero_le _)⟩ dX5_keepLine_24) hW hA (fun H locs hW => ?_)
    refine lv_goto (tgt := 62) S.1 S.2.1 dX5_keepLine_27 (by decide) ?_
    have e_ := Option.some.inj hf
    subst e_
    exact hret _ _ _ _ dX5_keepLine_62 hW
def f_X5_isLetter (fu : Nat) (p1 : Int32) : Option (Int32) := if p1 < (97 : Int32) then some (0 : Int32) else if (122 : Int32) < p1 then some (0 : Int32) else some (1 : Int32)
set_option maxHeartbeats 4000000 in
set_option maxRecDepth 100000 in
theorem c_X5_isLetter {l : Launch} {D : va_G} {g : Nat → ClassId} {fu : Nat} {p1 : Int32} {r : Int32} (hf : f_X5_isLetter fu p1 = some r) : Rd l D (gy g) yX5_isLetter cX5_isLetter 1 (some .boolean) 0 [.int p1] ([] : va_W) (some (.int r)) := by
  refine Rd.ofZ (by decide) (Nat.le_of_ble_eq_true rfl) ?_
  intro p e s m args below meth c Q S hK hP hret ls hl
  have hl : lv_has ls 1 [(0, .int p1)] := hl
  refine lv_iload_n S.1 S.2.1 dX5_isLetter_0 rfl (lv_at hl 0 rfl) ?_
  refine lv_bipush (v := 97) S.1 S.2.1 dX5_isLetter_1 bp_97 ?_
  refine lv_icmp_lt (tgt := 16) S.1 S.2.1 dX5_isLetter_3 (by decide) (fun c_ => ?_) (fun c_ => ?_)
  · have hf := it_p c_ hf
    refine lv_iconst (v := 0) S.1 S.2.1 dX5_isLetter_16 ic_0 ?_
    have e_ := Option.some.inj hf
    subst e_
    exact hret _ _ (Or.inl rfl) dX5_isLetter_17
  · have hf := it_n c_ hf
    refine lv_iload_n S.1 S.2.1 dX5_isLetter_6 rfl (lv_at hl 0 rfl) ?_
    refine lv_bipush (v := 122) S.1 S.2.1 dX5_isLetter_7 bp_122 ?_
    refine lv_icmp_gt (tgt := 16) S.1 S.2.1 dX5_isLetter_9 (by decide) (fun c_ => ?_) (fun c_ => ?_)
    · have hf := it_p c_ hf
      refine lv_iconst (v := 0) S.1 S.2.1 dX5_isLetter_16 ic_0 ?_
      have e_ := Option.some.inj hf
      subst e_
      exact hret _ _ (Or.inl rfl) dX5_isLetter_17
    · have hf := it_n c_ hf
      refine lv_iconst (v := 1) S.1 S.2.1 dX5_isLetter_12 ic_1 ?_
      refine lv_goto (tgt := 17) S.1 S.2.1 dX5_isLetter_13 (by decide) ?_
      have e_ := Option.some.inj hf
      subst e_
      exact hret _ _ (Or.inr rfl) dX5_isLetter_17
def f_X5_takeWord_L0 (fu : Nat) (o_tape : (Nat → Int32)) (o_length : Int32) (s2 : Int32) : Option ((Int32) ⊕ (Int32)) := if o_length ≤ s2 then some (.inr s2) else bnd (α := Int32) (rdi 600 o_tape s2) (fun x5 => bnd (α := Int32) (f_X5_isLetter fu x5) (fun x6 => if x6 = 0 then some (.inr s2) else ltn (s2 + (1 : Int32)) (fun x7 => some (.inl x7))))
def f_X5_takeWord (fu : Nat) (o_tape : (Nat → Int32)) (o_length : Int32) (o_next : Int32) (o_token : Int32) : Option (Int32 × Int32) := bnd (α := Int32) (lp (f_X5_takeWord_L0 fu o_tape o_length) fu o_next) (fun v8 => some (v8, (1 : Int32)))
set_option maxHeartbeats 4000000 in
set_option maxRecDepth 100000 in
theorem c_X5_takeWord {l : Launch} {D : va_G} {g : Nat → ClassId} {fu : Nat} {o_q0 o_town_q0 o_town_q1 o_town_q2 o_town_q3 o_town_q4 o_week_q0 o_week_q1 o_log_q0 o_log_q1 o_q1 o_q2 : Nat} {o_town_people : Int32} {o_town_wit : (Nat → Int32)} {o_town_purse : (Nat → Int32)} {o_town_hated : (Nat → Int32)} {o_town_owed : (Nat → Int32)} {o_week_deeds : Int32} {o_week_cells : (Nat → Int32)} {o_log_facts : Int32} {o_log_cells : (Nat → Int32)} {o_fault : Int32} {o_place : Int32} {o_numbers : (Nat → Int32)} {o_tape : (Nat → Int32)} {o_length : Int32} {o_next : Int32} {o_start : Int32} {o_token : Int32} {o_value : Int32} {o_toldOf : Int32} {r : Int32 × Int32} (hf : f_X5_takeWord fu o_tape o_length o_next o_token = some r) : Wr l D (gy g) yX5_takeWord cX5_takeWord 1 none 1 [.ref o_q0] (wRe g o_q0 o_town_q0 o_town_q1 o_town_q2 o_town_q3 o_town_q4 o_week_q0 o_week_q1 o_log_q0 o_log_q1 o_q1 o_q2 o_town_people o_town_wit o_town_purse o_town_hated o_town_owed o_week_deeds o_week_cells o_log_facts o_log_cells o_fault o_place o_numbers o_tape o_length o_next o_start o_token o_value o_toldOf) (wRe g o_q0 o_town_q0 o_town_q1 o_town_q2 o_town_q3 o_town_q4 o_week_q0 o_week_q1 o_log_q0 o_log_q1 o_q1 o_q2 o_town_people o_town_wit o_town_purse o_town_hated o_town_owed o_week_deeds o_week_cells o_log_facts o_log_cells o_fault o_place o_numbers o_tape o_length r.1 o_start r.2 o_value o_toldOf) none := by
  refine Wr.ofV (by decide) (Nat.le_of_ble_eq_true rfl) ?_
  intro p e s m args below meth c Q A S hK hA hret ls hl hW
  have hl : lv_has ls 1 [(0, .ref o_q0)] := hl
  obtain ⟨x3, hf_, hk3⟩ := bnd_e hf
  have hE3 : ∀ (v8 : Int32), v8 = x3 → ∀ (ls : Array Slot) (H : Heap) (locs : List Loc), lv_has ls 1 [(0, .ref o_q0)] → St A s.heap D (wRe g o_q0 o_town_q0 o_town_q1 o_town_q2 o_town_q3 o_town_q4 o_week_q0 o_week_q1 o_log_q0 o_log_q1 o_q1 o_q2 o_town_people o_town_wit o_town_purse o_town_hated o_town_owed o_week_deeds o_week_cells o_log_facts o_log_cells o_fault o_place o_numbers o_tape o_length v8 o_start o_token o_value o_toldOf) H locs → W p l e (rmD 1) s m args below meth c H locs 0 0 Q (F0 m 39 ls []) := by
    intro v8 e_ ls H locs hl hW
    subst e_
    have hf := hk3
    refine lv_aload_n S.1 S.2.1 dX5_takeWord_39 rfl (lv_at hl 0 rfl) ?_
    refine lv_iconst (v := 1) S.1 S.2.1 dX5_takeWord_40 ic_1 ?_
    refine pfX5_52 (ws2 := (wRe g o_q0 o_town_q0 o_town_q1 o_town_q2 o_town_q3 o_town_q4 o_week_q0 o_week_q1 o_log_q0 o_log_q1 o_q1 o_q2 o_town_people o_town_wit o_town_purse o_town_hated o_town_owed o_week_deeds o_week_cells o_log_facts o_log_cells o_fault o_place o_numbers o_tape o_length v8 o_start (1 : Int32) o_value o_toldOf)) S hK hW 0 rfl rfl rfl (Nat.le_of_ble_eq_true rfl) rfl dX5_takeWord_41 (fun H locs hW => ?_)
    have e_ := Option.some.inj hf
    subst e_
    exact hret _ _ _ _ dX5_takeWord_44 hW
  refine lp_ind (P := fun (s2 : Int32) => ∀ (ls : Array Slot) (H : Heap) (locs : List Loc), lv_has ls 1 [(0, .ref o_q0)] → St A s.heap D (wRe g o_q0 o_town_q0 o_town_q1 o_town_q2 o_town_q3 o_town_q4 o_week_q0 o_week_q1 o_log_q0 o_log_q1 o_q1 o_q2 o_town_people o_town_wit o_town_purse o_town_hated o_town_owed o_week_deeds o_week_cells o_log_facts o_log_cells o_fault o_place o_numbers o_tape o_length s2 o_start o_token o_value o_toldOf) H locs → W p l e (rmD 1) s m args below meth c H locs 0 0 Q (F0 m 0 ls [])) ?_ _ _ hf_ _ _ _ (lv_sub hl [0] rfl) hW
  intro s2 x4 hf hI3 hR3 ls H locs hl hW
  refine lv_aload_n S.1 S.2.1 dX5_takeWord_0 rfl (lv_at hl 0 rfl) ?_
  refine gfX5_46 S hK hW.1 0 rfl rfl dX5_takeWord_1 ?_
  refine lv_aload_n S.1 S.2.1 dX5_takeWord_4 rfl (lv_at hl 0 rfl) ?_
  refine gfX5_43 S hK hW.1 0 rfl rfl dX5_takeWord_5 ?_
  refine lv_icmp_ge (tgt := 39) S.1 S.2.1 dX5_takeWord_8 (by decide) (fun c_ => ?_) (fun c_ => ?_)
  · have hf := it_p c_ hf
    have e_ := hR3 _ (Option.some.inj hf).symm
    exact hE3 _ e_ _ _ _ (lv_sub hl [0] rfl) hW
  · have hf := it_n c_ hf
    refine lv_aload_n S.1 S.2.1 dX5_takeWord_11 rfl (lv_at hl 0 rfl) ?_
    refine gfX5_61 S hK hW.1 0 rfl rfl dX5_takeWord_12 ?_
    refine lv_aload_n S.1 S.2.1 dX5_takeWord_15 rfl (lv_at hl 0 rfl) ?_
    refine gfX5_46 S hK hW.1 0 rfl rfl dX5_takeWord_16 ?_
    obtain ⟨x5, hx5, hf⟩ := bnd_e hf
    refine q_bald S hK hW.1 11 1 rfl rfl hx5 dX5_takeWord_19 ?_
    obtain ⟨x6, hx6, hf⟩ := bnd_e hf
    refine Rd.cS (c_X5_isLetter hx6) S hK va_P.nil kSX5_186 rfl hl.1 [] rfl (Nat.le_of_ble_eq_true rfl) ⟨(Nat.le_of_ble_eq_true rfl), (Nat.le_of_ble_eq_true rfl)⟩ ⟨(Nat.zero_le _), (Nat.zero_le _)⟩ dX5_takeWord_20 ?_
    refine lv_if_eq (tgt := 39) S.1 S.2.1 dX5_takeWord_23 (by decide) (fun c_ => ?_) (fun c_ => ?_)
    · have hf := it_p c_ hf
      have e_ := hR3 _ (Option.some.inj hf).symm
      exact hE3 _ e_ _ _ _ (lv_sub hl [0] rfl) hW
    · have hf := it_n c_ hf
      refine lv_aload_n S.1 S.2.1 dX5_takeWord_26 rfl (lv_at hl 0 rfl) ?_
      refine lv_dup S.1 S.2.1 dX5_takeWord_27 rfl ?_
      refine gfX5_46 S hK hW.1 0 rfl rfl dX5_takeWord_28 ?_
      refine lv_iconst (v := 1) S.1 S.2.1 dX5_takeWord_31 ic_1 ?_
      refine lv_iadd S.1 S.2.1 dX5_takeWord_32 ?_
      refine lv_topi (fun x7 ex7 => ?_)
      have hf := ltn_e hf ex7
      refine pfX5_46 (ws2 := (wRe g o_q0 o_town_q0 o_town_q1 o_town_q2 o_town_q3 o_town_q4 o_week_q0 o_week_q1 o_log_q0 o_log_q1 o_q1 o_q2 o_town_people o_town_wit o_town_purse o_town_hated o_town_owed o_week_deeds o_week_cells o_log_facts o_log_cells o_fault o_place o_numbers o_tape o_length x7 o_start o_token o_value o_toldOf)) S hK hW 0 rfl rfl rfl (Nat.le_of_ble_eq_true rfl) rfl dX5_takeWord_33 (fun H locs hW => ?_)
      refine lv_goto (tgt := 0) S.1 S.2.1 dX5_takeWord_36 (by decide) ?_
      exact hI3 _ (Option.some.inj hf).symm _ _ _ (lv_sub hl [0] rfl) hW
def f_X5_isDigit (fu : Nat) (p1 : Int32) : Option (Int32) := if p1 < (48 : Int32) then some (0 : Int32) else if (57 : Int32) < p1 then some (0 : Int32) else some (1 : Int32)
set_option maxHeartbeats 4000000 in
set_option maxRecDepth 100000 in
theorem c_X5_isDigit {l : Launch} {D : va_G} {g : Nat → ClassId} {fu : Nat} {p1 : Int32} {r : Int32} (hf : f_X5_isDigit fu p1 = some r) : Rd l D (gy g) yX5_isDigit cX5_isDigit 1 (some .boolean) 0 [.int p1] ([] : va_W) (some (.int r)) := by
  refine Rd.ofZ (by decide) (Nat.le_of_ble_eq_true rfl) ?_
  intro p e s m args below meth c Q S hK hP hret ls hl
  have hl : lv_has ls 1 [(0, .int p1)] := hl
  refine lv_iload_n S.1 S.2.1 dX5_isDigit_0 rfl (lv_at hl 0 rfl) ?_
  refine lv_bipush (v := 48) S.1 S.2.1 dX5_isDigit_1 bp_48 ?_
  refine lv_icmp_lt (tgt := 16) S.1 S.2.1 dX5_isDigit_3 (by decide) (fun c_ => ?_) (fun c_ => ?_)
  · have hf := it_p c_ hf
    refine lv_iconst (v := 0) S.1 S.2.1 dX5_isDigit_16 ic_0 ?_
    have e_ := Option.some.inj hf
    subst e_
    exact hret _ _ (Or.inl rfl) dX5_isDigit_17
  · have hf := it_n c_ hf
    refine lv_iload_n S.1 S.2.1 dX5_isDigit_6 rfl (lv_at hl 0 rfl) ?_
    refine lv_bipush (v := 57) S.1 S.2.1 dX5_isDigit_7 bp_57 ?_
    refine lv_icmp_gt (tgt := 16) S.1 S.2.1 dX5_isDigit_9 (by decide) (fun c_ => ?_) (fun c_ => ?_)
    · have hf := it_p c_ hf
      refine lv_iconst (v := 0) S.1 S.2.1 dX5_isDigit_16 ic_0 ?_
      have e_ := Option.some.inj hf
      subst e_
      exact hret _ _ (Or.inl rfl) dX5_isDigit_17
    · have hf := it_n c_ hf
      refine lv_iconst (v := 1) S.1 S.2.1 dX5_isDigit_12 ic_1 ?_
      refine lv_goto (tgt := 17) S.1 S.2.1 dX5_isDigit_13 (by decide) ?_
      have e_ := Option.some.inj hf
      subst e_
      exact hret _ _ (Or.inr rfl) dX5_isDigit_17
def f_X5_takeNumber_L5 (fu : Nat) (o_tape : (Nat → Int32)) (o_length : Int32) (s2 : Int32 × Int32) : Option ((Int32 × Int32) ⊕ (Int32 × Int32)) := if o_length ≤ s2.1 then some (.inr (s2.1, s2.2)) else bnd (α := Int32) (rdi 600 o_tape s2.1) (fun x5 => bnd (α := Int32) (f_X5_isDigit fu x5) (fun x6 => if x6 = 0 then some (.inr (s2.1, s2.2)) else bnd (α := Int32) (rdi 600 o_tape s2.1) (fun x7 => ltn ((((10 : Int32) * (jrm s2.2 (100 : Int32))) + x7) - (48 : Int32)) (fun x8 => ltn (s2.1 + (1 : Int32)) (fun x9 => some (.inl (x9, x8)))))))
def f_X5_takeNumber (fu : Nat) (o_tape : (Nat → Int32)) (o_length : Int32) (o_next : Int32) (o_start : Int32) (o_token : Int32) (o_value : Int32) : Option (Int32 × Int32 × Int32) := bnd (α := Int32 × Int32) (lp (f_X5_takeNumber_L5 fu o_tape o_length) fu (o_next, (0 : Int32))) (fun v10 => if (v10.1 - o_start) ≤ (2 : Int32) then some (v10.1, (2 : Int32), v10.2) else some (v10.1, (4 : Int32), v10.2))
set_option maxHeartbeats 4000000 in
set_option maxRecDepth 100000 in
theorem c_X5_takeNumber {l : Launch} {D : va_G} {g : Nat → ClassId} {fu : Nat} {o_q0 o_town_q0 o_town_q1 o_town_q2 o_town_q3 o_town_q4 o_week_q0 o_week_q1 o_log_q0 o_log_q1 o_q1 o_q2 : Nat} {o_town_people : Int32} {o_town_wit : (Nat → Int32)} {o_town_purse : (Nat → Int32)} {o_town_hated : (Nat → Int32)} {o_town_owed : (Nat → Int32)} {o_week_deeds : Int32} {o_week_cells : (Nat → Int32)} {o_log_facts : Int32} {o_log_cells : (Nat → Int32)} {o_fault : Int32} {o_place : Int32} {o_numbers : (Nat → Int32)} {o_tape : (Nat → Int32)} {o_length : Int32} {o_next : Int32} {o_start : Int32} {o_token : Int32} {o_value : Int32} {o_toldOf : Int32} {r : Int32 × Int32 × Int32} (hf : f_X5_takeNumber fu o_tape o_length o_next o_start o_token o_value = some r) : Wr l D (gy g) yX5_takeNumber cX5_takeNumber 1 none 1 [.ref o_q0] (wRe g o_q0 o_town_q0 o_town_q1 o_town_q2 o_town_q3 o_town_q4 o_week_q0 o_week_q1 o_log_q0 o_log_q1 o_q1 o_q2 o_town_people o_town_wit o_town_purse o_town_hated o_town_owed o_week_deeds o_week_cells o_log_facts o_log_cells o_fault o_place o_numbers o_tape o_length o_next o_start o_token o_value o_toldOf) (wRe g o_q0 o_town_q0 o_town_q1 o_town_q2 o_town_q3 o_town_q4 o_week_q0 o_week_q1 o_log_q0 o_log_q1 o_q1 o_q2 o_town_people o_town_wit o_town_purse o_town_hated o_town_owed o_week_deeds o_week_cells o_log_facts o_log_cells o_fault o_place o_numbers o_tape o_length r.1 o_start r.2.1 r.2.2 o_toldOf) none := by
  refine Wr.ofV (by decide) (Nat.le_of_ble_eq_true rfl) ?_
  intro p e s m args below meth c Q A S hK hA hret ls hl hW
  have hl : lv_has ls 1 [(0, .ref o_q0)] := hl
  refine lv_aload_n S.1 S.2.1 dX5_takeNumber_0 rfl (lv_at hl 0 rfl) ?_
  refine lv_iconst (v := 0) S.1 S.2.1 dX5_takeNumber_1 ic_0 ?_
  refine pfX5_55 (ws2 := (wRe g o_q0 o_town_q0 o_town_q1 o_town_q2 o_town_q3 o_town_q4 o_week_q0 o_week_q1 o_log_q0 o_log_q1 o_q1 o_q2 o_town_people o_town_wit o_town_purse o_town_hated o_town_owed o_week_deeds o_week_cells o_log_facts o_log_cells o_fault o_place o_numbers o_tape o_length o_next o_start o_token (0 : Int32) o_toldOf)) S hK hW 0 rfl rfl rfl (Nat.le_of_ble_eq_true rfl) rfl dX5_takeNumber_2 (fun H locs hW => ?_)
  obtain ⟨x3, hf_, hk3⟩ := bnd_e hf
  have hE3 : ∀ (v10 : Int32 × Int32), v10 = x3 → ∀ (ls : Array Slot) (H : Heap) (locs : List Loc), lv_has ls 1 [(0, .ref o_q0)] → St A s.heap D (wRe g o_q0 o_town_q0 o_town_q1 o_town_q2 o_town_q3 o_town_q4 o_week_q0 o_week_q1 o_log_q0 o_log_q1 o_q1 o_q2 o_town_people o_town_wit o_town_purse o_town_hated o_town_owed o_week_deeds o_week_cells o_log_facts o_log_cells o_fault o_place o_numbers o_tape o_length v10.1 o_start o_token v10.2 o_toldOf) H locs → W p l e (rmD 1) s m args below meth c H locs 0 0 Q (F0 m 71 ls []) := by
    intro v10 e_ ls H locs hl hW
    subst e_
    have hf := hk3
    refine lv_aload_n S.1 S.2.1 dX5_takeNumber_71 rfl (lv_at hl 0 rfl) ?_
    refine lv_aload_n S.1 S.2.1 dX5_takeNumber_72 rfl (lv_at hl 0 rfl) ?_
    refine gfX5_46 S hK hW.1 0 rfl rfl dX5_takeNumber_73 ?_
    refine lv_aload_n S.1 S.2.1 dX5_takeNumber_76 rfl (lv_at hl 0 rfl) ?_
    refine gfX5_49 S hK hW.1 0 rfl rfl dX5_takeNumber_77 ?_
    refine lv_isub S.1 S.2.1 dX5_takeNumber_80 ?_
    refine lv_iconst (v := 2) S.1 S.2.1 dX5_takeNumber_81 ic_2 ?_
    refine lv_icmp_le (tgt := 89) S.1 S.2.1 dX5_takeNumber_82 (by decide) (fun c_ => ?_) (fun c_ => ?_)
    · have hf := it_p c_ hf
      refine lv_iconst (v := 2) S.1 S.2.1 dX5_takeNumber_89 ic_2 ?_
      refine pfX5_52 (ws2 := (wRe g o_q0 o_town_q0 o_town_q1 o_town_q2 o_town_q3 o_town_q4 o_week_q0 o_week_q1 o_log_q0 o_log_q1 o_q1 o_q2 o_town_people o_town_wit o_town_purse o_town_hated o_town_owed o_week_deeds o_week_cells o_log_facts o_log_cells o_fault o_place o_numbers o_tape o_length v10.1 o_start (2 : Int32) v10.2 o_toldOf)) S hK hW 0 rfl rfl rfl (Nat.le_of_ble_eq_true rfl) rfl dX5_takeNumber_90 (fun H locs hW => ?_)
      have e_ := Option.some.inj hf
      subst e_
      exact hret _ _ _ _ dX5_takeNumber_93 hW
    · have hf := it_n c_ hf
      refine lv_iconst (v := 4) S.1 S.2.1 dX5_takeNumber_85 ic_4 ?_
      refine lv_goto (tgt := 90) S.1 S.2.1 dX5_takeNumber_86 (by decide) ?_
      refine pfX5_52 (ws2 := (wRe g o_q0 o_town_q0 o_town_q1 o_town_q2 o_town_q3 o_town_q4 o_week_q0 o_week_q1 o_log_q0 o_log_q1 o_q1 o_q2 o_town_people o_town_wit o_town_purse o_town_hated o_town_owed o_week_deeds o_week_cells o_log_facts o_log_cells o_fault o_place o_numbers o_tape o_length v10.1 o_start (4 : Int32) v10.2 o_toldOf)) S hK hW 0 rfl rfl rfl (Nat.le_of_ble_eq_true rfl) rfl dX5_takeNumber_90 (fun H locs hW => ?_)
      have e_ := Option.some.inj hf
      subst e_
      exact hret _ _ _ _ dX5_takeNumber_93 hW
  refine lp_ind (P := fun (s2 : Int32 × Int32) => ∀ (ls : Array Slot) (H : Heap) (locs : List Loc), lv_has ls 1 [(0, .ref o_q0)] → St A s.heap D (wRe g o_q0 o_town_q0 o_town_q1 o_town_q2 o_town_q3 o_town_q4 o_week_q0 o_week_q1 o_log_q0 o_log_q1 o_q1 o_q2 o_town_people o_town_wit o_town_purse o_town_hated o_town_owed o_week_deeds o_week_cells o_log_facts o_log_cells o_fault o_place o_numbers o_tape o_length s2.1 o_start o_token s2.2 o_toldOf) H locs → W p l e (rmD 1) s m args below meth c H locs 0 0 Q (F0 m 5 ls [])) ?_ _ _ hf_ _ _ _ (lv_sub hl [0] rfl) hW
  intro s2 x4 hf hI3 hR3 ls H locs hl hW
  refine lv_aload_n S.1 S.2.1 dX5_takeNumber_5 rfl (lv_at hl 0 rfl) ?_
  refine gfX5_46 S hK hW.1 0 rfl rfl dX5_takeNumber_6 ?_
  refine lv_aload_n S.1 S.2.1 dX5_takeNumber_9 rfl (lv_at hl 0 rfl) ?_
  refine gfX5_43 S hK hW.1 0 rfl rfl dX5_takeNumber_10 ?_
  refine lv_icmp_ge (tgt := 71) S.1 S.2.1 dX5_takeNumber_13 (by decide) (fun c_ => ?_) (fun c_ => ?_)
  · have hf := it_p c_ hf
    have e_ := hR3 _ (Option.some.inj hf).symm
    exact hE3 _ e_ _ _ _ (lv_sub hl [0] rfl) hW
  · have hf := it_n c_ hf
    refine lv_aload_n S.1 S.2.1 dX5_takeNumber_16 rfl (lv_at hl 0 rfl) ?_
    refine gfX5_61 S hK hW.1 0 rfl rfl dX5_takeNumber_17 ?_
    refine lv_aload_n S.1 S.2.1 dX5_takeNumber_20 rfl (lv_at hl 0 rfl) ?_
    refine gfX5_46 S hK hW.1 0 rfl rfl dX5_takeNumber_21 ?_
    obtain ⟨x5, hx5, hf⟩ := bnd_e hf
    refine q_bald S hK hW.1 11 1 rfl rfl hx5 dX5_takeNumber_24 ?_
    obtain ⟨x6, hx6, hf⟩ := bnd_e hf
    refine Rd.cS (c_X5_isDigit hx6) S hK va_P.nil kSX5_193 rfl hl.1 [] rfl (Nat.le_of_ble_eq_true rfl) ⟨(Nat.le_of_ble_eq_true rfl), (Nat.le_of_ble_eq_true rfl)⟩ ⟨(Nat.zero_le _), (Nat.zero_le _)⟩ dX5_takeNumber_25 ?_
    refine lv_if_eq (tgt := 71) S.1 S.2.1 dX5_takeNumber_28 (by decide) (fun c_ => ?_) (fun c_ => ?_)
    · have hf := it_p c_ hf
      have e_ := hR3 _ (Option.some.inj hf).symm
      exact hE3 _ e_ _ _ _ (lv_sub hl [0] rfl) hW
    · have hf := it_n c_ hf
      refine lv_aload_n S.1 S.2.1 dX5_takeNumber_31 rfl (lv_at hl 0 rfl) ?_
      refine lv_bipush (v := 10) S.1 S.2.1 dX5_takeNumber_32 bp_10 ?_
      refine lv_aload_n S.1 S.2.1 dX5_takeNumber_34 rfl (lv_at hl 0 rfl) ?_
      refine gfX5_55 S hK hW.1 0 rfl rfl dX5_takeNumber_35 ?_
      refine lv_bipush (v := 100) S.1 S.2.1 dX5_takeNumber_38 bp_100 ?_
      refine lv_irem S.1 S.2.1 dX5_takeNumber_40 (by decide) ?_
      refine lv_imul S.1 S.2.1 dX5_takeNumber_41 ?_
      refine lv_aload_n S.1 S.2.1 dX5_takeNumber_42 rfl (lv_at hl 0 rfl) ?_
      refine gfX5_61 S hK hW.1 0 rfl rfl dX5_takeNumber_43 ?_
      refine lv_aload_n S.1 S.2.1 dX5_takeNumber_46 rfl (lv_at hl 0 rfl) ?_
      refine gfX5_46 S hK hW.1 0 rfl rfl dX5_takeNumber_47 ?_
      obtain ⟨x7, hx7, hf⟩ := bnd_e hf
      refine q_bald S hK hW.1 11 1 rfl rfl hx7 dX5_takeNumber_50 ?_
      refine lv_iadd S.1 S.2.1 dX5_takeNumber_51 ?_
      refine lv_bipush (v := 48) S.1 S.2.1 dX5_takeNumber_52 bp_48 ?_
      refine lv_isub S.1 S.2.1 dX5_takeNumber_54 ?_
      refine lv_topi (fun x8 ex8 => ?_)
      have hf := ltn_e hf ex8
      refine pfX5_55 (ws2 := (wRe g o_q0 o_town_q0 o_town_q1 o_town_q2 o_town_q3 o_town_q4 o_week_q0 o_week_q1 o_log_q0 o_log_q1 o_q1 o_q2 o_town_people o_town_wit o_town_purse o_town_hated o_town_owed o_week_deeds o_week_cells o_log_facts o_log_cells o_fault o_place o_numbers o_tape o_length s2.1 o_start o_token x8 o_toldOf)) S hK hW 0 rfl rfl rfl (Nat.le_of_ble_eq_true rfl) rfl dX5_takeNumber_55 (fun H locs hW => ?_)
      refine lv_aload_n S.1 S.2.1 dX5_takeNumber_58 rfl (lv_at hl 0 rfl) ?_
      refine lv_dup S.1 S.2.1 dX5_takeNumber_59 rfl ?_
      refine gfX5_46 S hK hW.1 0 rfl rfl dX5_takeNumber_60 ?_
      refine lv_iconst (v := 1) S.1 S.2.1 dX5_takeNumber_63 ic_1 ?_
      refine lv_iadd S.1 S.2.1 dX5_takeNumber_64 ?_
      refine lv_topi (fun x9 ex9 => ?_)
      have hf := ltn_e hf ex9
      refine pfX5_46 (ws2 := (wRe g o_q0 o_town_q0 o_town_q1 o_town_q2 o_town_q3 o_town_q4 o_week_q0 o_week_q1 o_log_q0 o_log_q1 o_q1 o_q2 o_town_people o_town_wit o_town_purse o_town_hated o_town_owed o_week_deeds o_week_cells o_log_facts o_log_cells o_fault o_place o_numbers o_tape o_length x9 o_start o_token x8 o_toldOf)) S hK hW 0 rfl rfl rfl (Nat.le_of_ble_eq_true rfl) rfl dX5_takeNumber_65 (fun H locs hW => ?_)
      refine lv_goto (tgt := 5) S.1 S.2.1 dX5_takeNumber_68 (by decide) ?_
      exact hI3 _ (Option.some.inj hf).symm _ _ _ (lv_sub hl [0] rfl) hW
def f_X5_takeToken_L0 (o_tape : (Nat → Int32)) (o_length : Int32) (s2 : Int32) : Option ((Int32) ⊕ (Int32)) := if o_length ≤ s2 then some (.inr s2) else bnd (α := Int32) (rdi 600 o_tape s2) (fun x5 => if x5 = (10 : Int32) then ltn (s2 + (1 : Int32)) (fun x6 => some (.inl x6)) else bnd (α := Int32) (rdi 600 o_tape s2) (fun x7 => if x7 = (32 : Int32) then ltn (s2 + (1 : Int32)) (fun x8 => some (.inl x8)) else some (.inr s2)))
def f_X5_takeToken (fu : Nat) (o_tape : (Nat → Int32)) (o_length : Int32) (o_next : Int32) (o_start : Int32) (o_token : Int32) (o_value : Int32) : Option (Int32 × Int32 × Int32 × Int32) := bnd (α := Int32) (lp (f_X5_takeToken_L0 o_tape o_length) fu o_next) (fun v9 => if v9 < o_length then bnd (α := Int32) (rdi 600 o_tape v9) (fun x10 => bnd (α := Int32) (f_X5_isLetter fu x10) (fun x11 => if x11 = 0 then bnd (α := Int32) (rdi 600 o_tape v9) (fun x12 => bnd (α := Int32) (f_X5_isDigit fu x12) (fun x13 => if x13 = 0 then bnd (α := Int32) (rdi 600 o_tape v9) (fun x14 => if x14 = (59 : Int32) then ltn (v9 + (1 : Int32)) (fun x15 => some (x15, v9, (3 : Int32), o_value)) else ltn (v9 + (1 : Int32)) (fun x16 => some (x16, v9, (4 : Int32), o_value))) else bnd (α := Int32 × Int32 × Int32) (f_X5_takeNumber fu o_tape o_length v9 v9 o_token o_value) (fun x17 => some (x17.1, v9, x17.2.1, x17.2.2)))) else bnd (α := Int32 × Int32) (f_X5_takeWord fu o_tape o_length v9 o_token) (fun x18 => some (x18.1, v9, x18.2, o_value)))) else some (v9, v9, (0 : Int32), o_value))
set_option maxHeartbeats 4000000 in
set_option maxRecDepth 100000 in
theorem c_X5_takeToken {l : Launch} {D : va_G} {g : Nat → ClassId} {fu : Nat} {o_q0 o_town_q0 o_town_q1 o_town_q2 o_town_q3 o_town_q4 o_week_q0 o_week_q1 o_log_q0 o_log_q1 o_q1 o_q2 : Nat} {o_town_people : Int32} {o_town_wit : (Nat → Int32)} {o_town_purse : (Nat → Int32)} {o_town_hated : (Nat → Int32)} {o_town_owed : (Nat → Int32)} {o_week_deeds : Int32} {o_week_cells : (Nat → Int32)} {o_log_facts : Int32} {o_log_cells : (Nat → Int32)} {o_fault : Int32} {o_place : Int32} {o_numbers : (Nat → Int32)} {o_tape : (Nat → Int32)} {o_length : Int32} {o_next : Int32} {o_start : Int32} {o_token : Int32} {o_value : Int32} {o_toldOf : Int32} {r : Int32 × Int32 × Int32 × Int32} (hf : f_X5_takeToken fu o_tape o_length o_next o_start o_token o_value = some r) : Wr l D (gy g) yX5_takeToken cX5_takeToken 1 none 2 [.ref o_q0] (wRe g o_q0 o_town_q0 o_town_q1 o_town_q2 o_town_q3 o_town_q4 o_week_q0 o_week_q1 o_log_q0 o_log_q1 o_q1 o_q2 o_town_people o_town_wit o_town_purse o_town_hated o_town_owed o_week_deeds o_week_cells o_log_facts o_log_cells o_fault o_place o_numbers o_tape o_length o_next o_start o_token o_value o_toldOf) (wRe g o_q0 o_town_q0 o_town_q1 o_town_q2 o_town_q3 o_town_q4 o_week_q0 o_week_q1 o_log_q0 o_log_q1 o_q1 o_q2 o_town_people o_town_wit o_town_purse o_town_hated o_town_owed o_week_deeds o_week_cells o_log_facts o_log_cells o_fault o_place o_numbers o_tape o_length r.1 r.2.1 r.2.2.1 r.2.2.2 o_toldOf) none := by
  refine Wr.ofV (by decide) (Nat.le_of_ble_eq_true rfl) ?_
  intro p e s m args below meth c Q A S hK hA hret ls hl hW
  have hl : lv_has ls 1 [(0, .ref o_q0)] := hl
  obtain ⟨x3, hf_, hk3⟩ := bnd_e hf
  have hE3 : ∀ (v9 : Int32), v9 = x3 → ∀ (ls : Array Slot) (H : Heap) (locs : List Loc), lv_has ls 1 [(0, .ref o_q0)] → St A s.heap D (wRe g o_q0 o_town_q0 o_town_q1 o_town_q2 o_town_q3 o_town_q4 o_week_q0 o_week_q1 o_log_q0 o_log_q1 o_q1 o_q2 o_town_people o_town_wit o_town_purse o_town_hated o_town_owed o_week_deeds o_week_cells o_log_facts o_log_cells o_fault o_place o_numbers o_tape o_length v9 o_start o_token o_value o_toldOf) H locs → W p l e (rmD 2) s m args below meth c H locs 0 0 Q (F0 m 52 ls []) := by
    intro v9 e_ ls H locs hl hW
    subst e_
    have hf := hk3
    refine lv_aload_n S.1 S.2.1 dX5_takeToken_52 rfl (lv_at hl 0 rfl) ?_
    refine lv_aload_n S.1 S.2.1 dX5_takeToken_53 rfl (lv_at hl 0 rfl) ?_
    refine gfX5_46 S hK hW.1 0 rfl rfl dX5_takeToken_54 ?_
    refine pfX5_49 (ws2 := (wRe g o_q0 o_town_q0 o_town_q1 o_town_q2 o_town_q3 o_town_q4 o_week_q0 o_week_q1 o_log_q0 o_log_q1 o_q1 o_q2 o_town_people o_town_wit o_town_purse o_town_hated o_town_owed o_week_deeds o_week_cells o_log_facts o_log_cells o_fault o_place o_numbers o_tape o_length v9 v9 o_token o_value o_toldOf)) S hK hW 0 rfl rfl rfl (Nat.le_of_ble_eq_true rfl) rfl dX5_takeToken_57 (fun H locs hW => ?_)
    refine lv_aload_n S.1 S.2.1 dX5_takeToken_60 rfl (lv_at hl 0 rfl) ?_
    refine gfX5_46 S hK hW.1 0 rfl rfl dX5_takeToken_61 ?_
    refine lv_aload_n S.1 S.2.1 dX5_takeToken_64 rfl (lv_at hl 0 rfl) ?_
    refine gfX5_43 S hK hW.1 0 rfl rfl dX5_takeToken_65 ?_
    refine lv_icmp_lt (tgt := 79) S.1 S.2.1 dX5_takeToken_68 (by decide) (fun c_ => ?_) (fun c_ => ?_)
    · have hf := it_p c_ hf
      refine lv_aload_n S.1 S.2.1 dX5_takeToken_79 rfl (lv_at hl 0 rfl) ?_
      refine gfX5_61 S hK hW.1 0 rfl rfl dX5_takeToken_80 ?_
      refine lv_aload_n S.1 S.2.1 dX5_takeToken_83 rfl (lv_at hl 0 rfl) ?_
      refine gfX5_46 S hK hW.1 0 rfl rfl dX5_takeToken_84 ?_
      obtain ⟨x10, hx10, hf⟩ := bnd_e hf
      refine q_bald S hK hW.1 11 1 rfl rfl hx10 dX5_takeToken_87 ?_
      obtain ⟨x11, hx11, hf⟩ := bnd_e hf
      refine Rd.cS (c_X5_isLetter hx11) S hK va_P.nil kSX5_186 rfl hl.1 [] rfl (Nat.le_of_ble_eq_true rfl) ⟨(Nat.le_of_ble_eq_true rfl), (Nat.le_of_ble_eq_true rfl)⟩ ⟨(Nat.zero_le _), (Nat.zero_le _)⟩ dX5_takeToken_88 ?_
      refine lv_if_eq (tgt := 101) S.1 S.2.1 dX5_takeToken_91 (by decide) (fun c_ => ?_) (fun c_ => ?_)
      · have hf := it_p c_ hf
        refine lv_aload_n S.1 S.2.1 dX5_takeToken_101 rfl (lv_at hl 0 rfl) ?_
        refine gfX5_61 S hK hW.1 0 rfl rfl dX5_takeToken_102 ?_
        refine lv_aload_n S.1 S.2.1 dX5_takeToken_105 rfl (lv_at hl 0 rfl) ?_
        refine gfX5_46 S hK hW.1 0 rfl rfl dX5_takeToken_106 ?_
        obtain ⟨x12, hx12, hf⟩ := bnd_e hf
        refine q_bald S hK hW.1 11 1 rfl rfl hx12 dX5_takeToken_109 ?_
        obtain ⟨x13, hx13, hf⟩ := bnd_e hf
        refine Rd.cS (c_X5_isDigit hx13) S hK va_P.nil kSX5_193 rfl hl.1 [] rfl (Nat.le_of_ble_eq_true rfl) ⟨(Nat.le_of_ble_eq_true rfl), (Nat.le_of_ble_eq_true rfl)⟩ ⟨(Nat.zero_le _), (Nat.zero_le _)⟩ dX5_takeToken_110 ?_
        refine lv_if_eq (tgt := 123) S.1 S.2.1 dX5_takeToken_113 (by decide) (fun c_ => ?_) (fun c_ => ?_)
        · have hf := it_p c_ hf
          refine lv_aload_n S.1 S.2.1 dX5_takeToken_123 rfl (lv_at hl 0 rfl) ?_
          refine lv_aload_n S.1 S.2.1 dX5_takeToken_124 rfl (lv_at hl 0 rfl) ?_
          refine gfX5_61 S hK hW.1 0 rfl rfl dX5_takeToken_125 ?_
          refine lv_aload_n S.1 S.2.1 dX5_takeToken_128 rfl (lv_at hl 0 rfl) ?_
          refine gfX5_46 S hK hW.1 0 rfl rfl dX5_takeToken_129 ?_
          obtain ⟨x14, hx14, hf⟩ := bnd_e hf
          refine q_bald S hK hW.1 11 1 rfl rfl hx14 dX5_takeToken_132 ?_
          refine lv_bipush (v := 59) S.1 S.2.1 dX5_takeToken_133 bp_59 ?_
          refine lv_icmp_ne (tgt := 142) S.1 S.2.1 dX5_takeToken_135 (by decide) (fun c_ => ?_) (fun c_ => ?_)
          · have hf := it_n c_ hf
            refine lv_iconst (v := 4) S.1 S.2.1 dX5_takeToken_142 ic_4 ?_
            refine pfX5_52 (ws2 := (wRe g o_q0 o_town_q0 o_town_q1 o_town_q2 o_town_q3 o_town_q4 o_week_q0 o_week_q1 o_log_q0 o_log_q1 o_q1 o_q2 o_town_people o_town_wit o_town_purse o_town_hated o_town_owed o_week_deeds o_week_cells o_log_facts o_log_cells o_fault o_place o_numbers o_tape o_length v9 v9 (4 : Int32) o_value o_toldOf)) S hK hW 0 rfl rfl rfl (Nat.le_of_ble_eq_true rfl) rfl dX5_takeToken_143 (fun H locs hW => ?_)
            refine lv_aload_n S.1 S.2.1 dX5_takeToken_146 rfl (lv_at hl 0 rfl) ?_
            refine lv_dup S.1 S.2.1 dX5_takeToken_147 rfl ?_
            refine gfX5_46 S hK hW.1 0 rfl rfl dX5_takeToken_148 ?_
            refine lv_iconst (v := 1) S.1 S.2.1 dX5_takeToken_151 ic_1 ?_
            refine lv_iadd S.1 S.2.1 dX5_takeToken_152 ?_
            refine lv_topi (fun x16 ex16 => ?_)
            have hf := ltn_e hf ex16
            refine pfX5_46 (ws2 := (wRe g o_q0 o_town_q0 o_town_q1 o_town_q2 o_town_q3 o_town_q4 o_week_q0 o_week_q1 o_log_q0 o_log_q1 o_q1 o_q2 o_town_people o_town_wit o_town_purse o_town_hated o_town_owed o_week_deeds o_week_cells o_log_facts o_log_cells o_fault o_place o_numbers o_tape o_length x16 v9 (4 : Int32) o_value o_toldOf)) S hK hW 0 rfl rfl rfl (Nat.le_of_ble_eq_true rfl) rfl dX5_takeToken_153 (fun H locs hW => ?_)
            have e_ := Option.some.inj hf
            subst e_
            exact hret _ _ _ _ dX5_takeToken_156 hW
          · have hf := it_p c_ hf
            refine lv_iconst (v := 3) S.1 S.2.1 dX5_takeToken_138 ic_3 ?_
            refine lv_goto (tgt := 143) S.1 S.2.1 dX5_takeToken_139 (by decide) ?_
            refine pfX5_52 (ws2 := (wRe g o_q0 o_town_q0 o_town_q1 o_town_q2 o_town_q3 o_town_q4 o_week_q0 o_week_q1 o_log_q0 o_log_q1 o_q1 o_q2 o_town_people o_town_wit o_town_purse o_town_hated o_town_owed o_week_deeds o_week_cells o_log_facts o_log_cells o_fault o_place o_numbers o_tape o_length v9 v9 (3 : Int32) o_value o_toldOf)) S hK hW 0 rfl rfl rfl (Nat.le_of_ble_eq_true rfl) rfl dX5_takeToken_143 (fun H locs hW => ?_)
            refine lv_aload_n S.1 S.2.1 dX5_takeToken_146 rfl (lv_at hl 0 rfl) ?_
            refine lv_dup S.1 S.2.1 dX5_takeToken_147 rfl ?_
            refine gfX5_46 S hK hW.1 0 rfl rfl dX5_takeToken_148 ?_
            refine lv_iconst (v := 1) S.1 S.2.1 dX5_takeToken_151 ic_1 ?_
            refine lv_iadd S.1 S.2.1 dX5_takeToken_152 ?_
            refine lv_topi (fun x15 ex15 => ?_)
            have hf := ltn_e hf ex15
            refine pfX5_46 (ws2 := (wRe g o_q0 o_town_q0 o_town_q1 o_town_q2 o_town_q3 o_town_q4 o_week_q0 o_week_q1 o_log_q0 o_log_q1 o_q1 o_q2 o_town_people o_town_wit o_town_purse o_town_hated o_town_owed o_week_deeds o_week_cells o_log_facts o_log_cells o_fault o_place o_numbers o_tape o_length x15 v9 (3 : Int32) o_value o_toldOf)) S hK hW 0 rfl rfl rfl (Nat.le_of_ble_eq_true rfl) rfl dX5_takeToken_153 (fun H locs hW => ?_)
            have e_ := Option.some.inj hf
            subst e_
            exact hret _ _ _ _ dX5_takeToken_156 hW
        · have hf := it_n c_ hf
          refine lv_aload_n S.1 S.2.1 dX5_takeToken_116 rfl (lv_at hl 0 rfl) ?_
          obtain ⟨x17, hx17, hf⟩ := bnd_e hf
          refine Wr.goW (Wr.runV (c_X5_takeNumber hx17) S hK hW.1 hW.2.1 0 3 rfl rfl kVX5_196 rfl hl.1 [] rfl (Nat.le_of_ble_eq_true rfl) ⟨(Nat.le_of_ble_eq_true rfl), (Nat.le_of_ble_eq_true rfl)⟩ ⟨(Nat.zero_le _), (Nat.zero_le _)⟩ dX5_takeToken_117) hW hA (fun H locs hW => ?_)
          refine lv_goto (tgt := 156) S.1 S.2.1 dX5_takeToken_120 (by decide) ?_
          have e_ := Option.some.inj hf
          subst e_
          exact hret _ _ _ _ dX5_takeToken_156 hW
      · have hf := it_n c_ hf
        refine lv_aload_n S.1 S.2.1 dX5_takeToken_94 rfl (lv_at hl 0 rfl) ?_
        obtain ⟨x18, hx18, hf⟩ := bnd_e hf
        refine Wr.goW (Wr.runV (c_X5_takeWord hx18) S hK hW.1 hW.2.1 0 3 rfl rfl kVX5_190 rfl hl.1 [] rfl (Nat.le_of_ble_eq_true rfl) ⟨(Nat.le_of_ble_eq_true rfl), (Nat.le_of_ble_eq_true rfl)⟩ ⟨(Nat.zero_le _), (Nat.zero_le _)⟩ dX5_takeToken_95) hW hA (fun H locs hW => ?_)
        refine lv_goto (tgt := 156) S.1 S.2.1 dX5_takeToken_98 (by decide) ?_
        have e_ := Option.some.inj hf
        subst e_
        exact hret _ _ _ _ dX5_takeToken_156 hW
    · have hf := it_n c_ hf
      refine lv_aload_n S.1 S.2.1 dX5_takeToken_71 rfl (lv_at hl 0 rfl) ?_
      refine lv_iconst (v := 0) S.1 S.2.1 dX5_takeToken_72 ic_0 ?_
      refine pfX5_52 (ws2 := (wRe g o_q0 o_town_q0 o_town_q1 o_town_q2 o_town_q3 o_town_q4 o_week_q0 o_week_q1 o_log_q0 o_log_q1 o_q1 o_q2 o_town_people o_town_wit o_town_purse o_town_hated o_town_owed o_week_deeds o_week_cells o_log_facts o_log_cells o_fault o_place o_numbers o_tape o_length v9 v9 (0 : Int32) o_value o_toldOf)) S hK hW 0 rfl rfl rfl (Nat.le_of_ble_eq_true rfl) rfl dX5_takeToken_73 (fun H locs hW => ?_)
      refine lv_goto (tgt := 156) S.1 S.2.1 dX5_takeToken_76 (by decide) ?_
      have e_ := Option.some.inj hf
      subst e_
      exact hret _ _ _ _ dX5_takeToken_156 hW
  refine lp_ind (P := fun (s2 : Int32) => ∀ (ls : Array Slot) (H : Heap) (locs : List Loc), lv_has ls 1 [(0, .ref o_q0)] → St A s.heap D (wRe g o_q0 o_town_q0 o_town_q1 o_town_q2 o_town_q3 o_town_q4 o_week_q0 o_week_q1 o_log_q0 o_log_q1 o_q1 o_q2 o_town_people o_town_wit o_town_purse o_town_hated o_town_owed o_week_deeds o_week_cells o_log_facts o_log_cells o_fault o_place o_numbers o_tape o_length s2 o_start o_token o_value o_toldOf) H locs → W p l e (rmD 2) s m args below meth c H locs 0 0 Q (F0 m 0 ls [])) ?_ _ _ hf_ _ _ _ (lv_sub hl [0] rfl) hW
  intro s2 x4 hf hI3 hR3 ls H locs hl hW
  refine lv_aload_n S.1 S.2.1 dX5_takeToken_0 rfl (lv_at hl 0 rfl) ?_
  refine gfX5_46 S hK hW.1 0 rfl rfl dX5_takeToken_1 ?_
  refine lv_aload_n S.1 S.2.1 dX5_takeToken_4 rfl (lv_at hl 0 rfl) ?_
  refine gfX5_43 S hK hW.1 0 rfl rfl dX5_takeToken_5 ?_
  refine lv_icmp_ge (tgt := 52) S.1 S.2.1 dX5_takeToken_8 (by decide) (fun c_ => ?_) (fun c_ => ?_)
  · have hf := it_p c_ hf
    have e_ := hR3 _ (Option.some.inj hf).symm
    exact hE3 _ e_ _ _ _ (lv_sub hl [0] rfl) hW
  · have hf := it_n c_ hf
    refine lv_aload_n S.1 S.2.1 dX5_takeToken_11 rfl (lv_at hl 0 rfl) ?_
    refine gfX5_61 S hK hW.1 0 rfl rfl dX5_takeToken_12 ?_
    refine lv_aload_n S.1 S.2.1 dX5_takeToken_15 rfl (lv_at hl 0 rfl) ?_
    refine gfX5_46 S hK hW.1 0 rfl rfl dX5_takeToken_16 ?_
    obtain ⟨x5, hx5, hf⟩ := bnd_e hf
    refine q_bald S hK hW.1 11 1 rfl rfl hx5 dX5_takeToken_19 ?_
    refine lv_bipush (v := 10) S.1 S.2.1 dX5_takeToken_20 bp_10 ?_
    refine lv_icmp_eq (tgt := 39) S.1 S.2.1 dX5_takeToken_22 (by decide) (fun c_ => ?_) (fun c_ => ?_)
    · have hf := it_p c_ hf
      refine lv_aload_n S.1 S.2.1 dX5_takeToken_39 rfl (lv_at hl 0 rfl) ?_
      refine lv_dup S.1 S.2.1 dX5_takeToken_40 rfl ?_
      refine gfX5_46 S hK hW.1 0 rfl rfl dX5_takeToken_41 ?_
      refine lv_iconst (v := 1) S.1 S.2.1 dX5_takeToken_44 ic_1 ?_
      refine lv_iadd S.1 S.2.1 dX5_takeToken_45 ?_
      refine lv_topi (fun x6 ex6 => ?_)
      have hf := ltn_e hf ex6
      refine pfX5_46 (ws2 := (wRe g o_q0 o_town_q0 o_town_q1 o_town_q2 o_town_q3 o_town_q4 o_week_q0 o_week_q1 o_log_q0 o_log_q1 o_q1 o_q2 o_town_people o_town_wit o_town_purse o_town_hated o_town_owed o_week_deeds o_week_cells o_log_facts o_log_cells o_fault o_place o_numbers o_tape o_length x6 o_start o_token o_value o_toldOf)) S hK hW 0 rfl rfl rfl (Nat.le_of_ble_eq_true rfl) rfl dX5_takeToken_46 (fun H locs hW => ?_)
      refine lv_goto (tgt := 0) S.1 S.2.1 dX5_takeToken_49 (by decide) ?_
      exact hI3 _ (Option.some.inj hf).symm _ _ _ (lv_sub hl [0] rfl) hW
    · have hf := it_n c_ hf
      refine lv_aload_n S.1 S.2.1 dX5_takeToken_25 rfl (lv_at hl 0 rfl) ?_
      refine gfX5_61 S hK hW.1 0 rfl rfl dX5_takeToken_26 ?_
      refine lv_aload_n S.1 S.2.1 dX5_takeToken_29 rfl (lv_at hl 0 rfl) ?_
      refine gfX5_46 S hK hW.1 0 rfl rfl dX5_takeToken_30 ?_
      obtain ⟨x7, hx7, hf⟩ := bnd_e hf
      refine q_bald S hK hW.1 11 1 rfl rfl hx7 dX5_takeToken_33 ?_
      refine lv_bipush (v := 32) S.1 S.2.1 dX5_takeToken_34 bp_32 ?_
      refine lv_icmp_ne (tgt := 52) S.1 S.2.1 dX5_takeToken_36 (by decide) (fun c_ => ?_) (fun c_ => ?_)
      · have hf := it_n c_ hf
        have e_ := hR3 _ (Option.some.inj hf).symm
        exact hE3 _ e_ _ _ _ (lv_sub hl [0] rfl) hW
      · have hf := it_p c_ hf
        refine lv_aload_n S.1 S.2.1 dX5_takeToken_39 rfl (lv_at hl 0 rfl) ?_
        refine lv_dup S.1 S.2.1 dX5_takeToken_40 rfl ?_
        refine gfX5_46 S hK hW.1 0 rfl rfl dX5_takeToken_41 ?_
        refine lv_iconst (v := 1) S.1 S.2.1 dX5_takeToken_44 ic_1 ?_
        refine lv_iadd S.1 S.2.1 dX5_takeToken_45 ?_
        refine lv_topi (fun x8 ex8 => ?_)
        have hf := ltn_e hf ex8
        refine pfX5_46 (ws2 := (wRe g o_q0 o_town_q0 o_town_q1 o_town_q2 o_town_q3 o_town_q4 o_week_q0 o_week_q1 o_log_q0 o_log_q1 o_q1 o_q2 o_town_people o_town_wit o_town_purse o_town_hated o_town_owed o_week_deeds o_week_cells o_log_facts o_log_cells o_fault o_place o_numbers o_tape o_length x8 o_start o_token o_value o_toldOf)) S hK hW 0 rfl rfl rfl (Nat.le_of_ble_eq_true rfl) rfl dX5_takeToken_46 (fun H locs hW => ?_)
        refine lv_goto (tgt := 0) S.1 S.2.1 dX5_takeToken_49 (by decide) ?_
        exact hI3 _ (Option.some.inj hf).symm _ _ _ (lv_sub hl [0] rfl) hW
