def f_X1_begin (fu : Nat) (o_people : Int32) (o_hated : (Nat → Int32)) (o_purse : (Nat → Int32)) (o_owed : (Nat → Int32)) (o_seat : (Nat → Int32)) (o_kept : (Nat → Int32)) (o_wasKept : (Nat → Int32)) (o_silent : Int32) (o_clock : Int32) (o_sat : Int32) (o_done : Int32) (o_first : Int32) (o_vain : Int32) (o_lent : Int32) (o_forgiven : Int32) (t_people : Int32) (t_purse : (Nat → Int32)) (t_hated : (Nat → Int32)) (t_owed : (Nat → Int32)) : Option (Int32 × (Nat → Int32) × (Nat → Int32) × (Nat → Int32) × (Nat → Int32) × (Nat → Int32) × (Nat → Int32) × Int32 × Int32 × Int32 × Int32 × Int32 × Int32 × Int32 × Int32) := bnd (α := (Nat → Int32)) (cpi 6 6 t_hated o_hated (0 : Int32) (0 : Int32) (6 : Int32)) (fun x1 => bnd (α := (Nat → Int32)) (cpi 6 6 t_purse o_purse (0 : Int32) (0 : Int32) (6 : Int32)) (fun x2 => bnd (α := (Nat → Int32)) (cpi 36 36 t_owed o_owed (0 : Int32) (0 : Int32) (36 : Int32)) (fun x3 => bnd (α := (Nat → Int32)) (f_J7_fill_53178 fu 6 o_seat (6 : Int32)) (fun x4 => bnd (α := (Nat → Int32)) (f_J7_fill_53178 fu 6 o_kept (0 : Int32)) (fun x5 => bnd (α := (Nat → Int32)) (f_J7_fill_53178 fu 6 o_wasKept (0 : Int32)) (fun x6 => some (t_people, x1, x2, x3, x4, x5, x6, (0 : Int32), (0 : Int32), (0 : Int32), (0 : Int32), (-1 : Int32), (0 : Int32), (0 : Int32), (0 : Int32))))))))
set_option maxHeartbeats 4000000 in
set_option maxRecDepth 100000 in
theorem c_X1_begin {l : Launch} {D : va_G} {g : Nat → ClassId} {fu : Nat} {o_q0 o_q1 o_q2 o_q3 o_q4 o_q5 o_q6 t_q0 t_q1 t_q2 t_q3 t_q4 : Nat} {o_people : Int32} {o_hated : (Nat → Int32)} {o_purse : (Nat → Int32)} {o_owed : (Nat → Int32)} {o_seat : (Nat → Int32)} {o_kept : (Nat → Int32)} {o_wasKept : (Nat → Int32)} {o_silent : Int32} {o_clock : Int32} {o_sat : Int32} {o_done : Int32} {o_first : Int32} {o_vain : Int32} {o_lent : Int32} {o_forgiven : Int32} {o_seed : Int32} {t_people : Int32} {t_wit : (Nat → Int32)} {t_purse : (Nat → Int32)} {t_hated : (Nat → Int32)} {t_owed : (Nat → Int32)} {r : Int32 × (Nat → Int32) × (Nat → Int32) × (Nat → Int32) × (Nat → Int32) × (Nat → Int32) × (Nat → Int32) × Int32 × Int32 × Int32 × Int32 × Int32 × Int32 × Int32 × Int32} (hf : f_X1_begin fu o_people o_hated o_purse o_owed o_seat o_kept o_wasKept o_silent o_clock o_sat o_done o_first o_vain o_lent o_forgiven t_people t_purse t_hated t_owed = some r) : Wr l D (gy g) yX1_begin cX1_begin 2 none 1 [.ref o_q0, .ref t_q0] (wLi g o_q0 o_q1 o_q2 o_q3 o_q4 o_q5 o_q6 o_people o_hated o_purse o_owed o_seat o_kept o_wasKept o_silent o_clock o_sat o_done o_first o_vain o_lent o_forgiven o_seed ++ wTw g t_q0 t_q1 t_q2 t_q3 t_q4 t_people t_wit t_purse t_hated t_owed) (wLi g o_q0 o_q1 o_q2 o_q3 o_q4 o_q5 o_q6 r.1 r.2.1 r.2.2.1 r.2.2.2.1 r.2.2.2.2.1 r.2.2.2.2.2.1 r.2.2.2.2.2.2.1 r.2.2.2.2.2.2.2.1 r.2.2.2.2.2.2.2.2.1 r.2.2.2.2.2.2.2.2.2.1 r.2.2.2.2.2.2.2.2.2.2.1 r.2.2.2.2.2.2.2.2.2.2.2.1 r.2.2.2.2.2.2.2.2.2.2.2.2.1 r.2.2.2.2.2.2.2.2.2.2.2.2.2.1 r.2.2.2.2.2.2.2.2.2.2.2.2.2.2 o_seed ++ wTw g t_q0 t_q1 t_q2 t_q3 t_q4 t_people t_wit t_purse t_hated t_owed) none := by
  refine Wr.ofV (by decide) (Nat.le_of_ble_eq_true rfl) ?_
  intro p e s m args below meth c Q A S hK hA hret ls hl hW
  have hl : lv_has ls 2 [(0, .ref o_q0), (1, .ref t_q0)] := hl
  refine lv_aload_n S.1 S.2.1 dX1_begin_0 rfl (lv_at hl 0 rfl) ?_
  refine lv_aload_n S.1 S.2.1 dX1_begin_1 rfl (lv_at hl 1 rfl) ?_
  refine gfX1_61 S hK hW.1 7 rfl rfl dX1_begin_2 ?_
  refine pfX1_9 (ws2 := (wLi g o_q0 o_q1 o_q2 o_q3 o_q4 o_q5 o_q6 t_people o_hated o_purse o_owed o_seat o_kept o_wasKept o_silent o_clock o_sat o_done o_first o_vain o_lent o_forgiven o_seed ++ wTw g t_q0 t_q1 t_q2 t_q3 t_q4 t_people t_wit t_purse t_hated t_owed)) S hK hW 0 rfl rfl rfl (Nat.le_of_ble_eq_true rfl) rfl dX1_begin_5 (fun H locs hW => ?_)
  refine lv_aload_n S.1 S.2.1 dX1_begin_8 rfl (lv_at hl 1 rfl) ?_
  refine gfX1_64 S hK hW.1 7 rfl rfl dX1_begin_9 ?_
  refine lv_iconst (v := 0) S.1 S.2.1 dX1_begin_12 ic_0 ?_
  refine lv_aload_n S.1 S.2.1 dX1_begin_13 rfl (lv_at hl 0 rfl) ?_
  refine gfX1_15 S hK hW.1 0 rfl rfl dX1_begin_14 ?_
  refine lv_iconst (v := 0) S.1 S.2.1 dX1_begin_17 ic_0 ?_
  refine lv_bipush (v := 6) S.1 S.2.1 dX1_begin_18 bp_6 ?_
  obtain ⟨x1, hx1, hf⟩ := bnd_e hf
  refine q_copyi (ws2 := (wLi g o_q0 o_q1 o_q2 o_q3 o_q4 o_q5 o_q6 t_people x1 o_purse o_owed o_seat o_kept o_wasKept o_silent o_clock o_sat o_done o_first o_vain o_lent o_forgiven o_seed ++ wTw g t_q0 t_q1 t_q2 t_q3 t_q4 t_people t_wit t_purse t_hated t_owed)) S q_579 q_507 q_506 q_18 hK hW hl.1 10 1 0 0 rfl rfl rfl rfl hx1 rfl (Nat.le_of_ble_eq_true rfl) (Nat.le_of_ble_eq_true rfl) dX1_begin_20 (fun H locs hW => ?_)
  refine lv_aload_n S.1 S.2.1 dX1_begin_23 rfl (lv_at hl 1 rfl) ?_
  refine gfX1_71 S hK hW.1 7 rfl rfl dX1_begin_24 ?_
  refine lv_iconst (v := 0) S.1 S.2.1 dX1_begin_27 ic_0 ?_
  refine lv_aload_n S.1 S.2.1 dX1_begin_28 rfl (lv_at hl 0 rfl) ?_
  refine gfX1_19 S hK hW.1 0 rfl rfl dX1_begin_29 ?_
  refine lv_iconst (v := 0) S.1 S.2.1 dX1_begin_32 ic_0 ?_
  refine lv_bipush (v := 6) S.1 S.2.1 dX1_begin_33 bp_6 ?_
  obtain ⟨x2, hx2, hf⟩ := bnd_e hf
  refine q_copyi (ws2 := (wLi g o_q0 o_q1 o_q2 o_q3 o_q4 o_q5 o_q6 t_people x1 x2 o_owed o_seat o_kept o_wasKept o_silent o_clock o_sat o_done o_first o_vain o_lent o_forgiven o_seed ++ wTw g t_q0 t_q1 t_q2 t_q3 t_q4 t_people t_wit t_purse t_hated t_owed)) S q_579 q_507 q_506 q_18 hK hW hl.1 9 2 0 0 rfl rfl rfl rfl hx2 rfl (Nat.le_of_ble_eq_true rfl) (Nat.le_of_ble_eq_true rfl) dX1_begin_35 (fun H locs hW => ?_)
  refine lv_aload_n S.1 S.2.1 dX1_begin_38 rfl (lv_at hl 1 rfl) ?_
  refine gfX1_72 S hK hW.1 7 rfl rfl dX1_begin_39 ?_
  refine lv_iconst (v := 0) S.1 S.2.1 dX1_begin_42 ic_0 ?_
  refine lv_aload_n S.1 S.2.1 dX1_begin_43 rfl (lv_at hl 0 rfl) ?_
  refine gfX1_22 S hK hW.1 0 rfl rfl dX1_begin_44 ?_
  refine lv_iconst (v := 0) S.1 S.2.1 dX1_begin_47 ic_0 ?_
  refine lv_bipush (v := 36) S.1 S.2.1 dX1_begin_48 bp_36 ?_
  obtain ⟨x3, hx3, hf⟩ := bnd_e hf
  refine q_copyi (ws2 := (wLi g o_q0 o_q1 o_q2 o_q3 o_q4 o_q5 o_q6 t_people x1 x2 x3 o_seat o_kept o_wasKept o_silent o_clock o_sat o_done o_first o_vain o_lent o_forgiven o_seed ++ wTw g t_q0 t_q1 t_q2 t_q3 t_q4 t_people t_wit t_purse t_hated t_owed)) S q_579 q_507 q_506 q_18 hK hW hl.1 11 3 0 0 rfl rfl rfl rfl hx3 rfl (Nat.le_of_ble_eq_true rfl) (Nat.le_of_ble_eq_true rfl) dX1_begin_50 (fun H locs hW => ?_)
  refine lv_aload_n S.1 S.2.1 dX1_begin_53 rfl (lv_at hl 0 rfl) ?_
  refine gfX1_25 S hK hW.1 0 rfl rfl dX1_begin_54 ?_
  refine lv_bipush (v := 6) S.1 S.2.1 dX1_begin_57 bp_6 ?_
  obtain ⟨x4, hx4, hf⟩ := bnd_e hf
  refine Wr.go (ws2 := (wLi g o_q0 o_q1 o_q2 o_q3 o_q4 o_q5 o_q6 t_people x1 x2 x3 x4 o_kept o_wasKept o_silent o_clock o_sat o_done o_first o_vain o_lent o_forgiven o_seed ++ wTw g t_q0 t_q1 t_q2 t_q3 t_q4 t_people t_wit t_purse t_hated t_owed)) (Wr.runS (c_J7_fill_53178 hx4) S hK (hW.1.sub (ws' := (wAI g o_q4 6 o_seat)) [4] rfl) (hW.2.1.sub (ws' := (wAI g o_q4 6 o_seat)) [4] (by decide) rfl) kSX1_73 rfl hl.1 [] rfl (Nat.le_of_ble_eq_true rfl) ⟨(Nat.le_of_ble_eq_true rfl), (Nat.le_of_ble_eq_true rfl)⟩ ⟨(Nat.zero_le _), (Nat.zero_le _)⟩ dX1_begin_59) hW hA [4] rfl [(false, 0), (false, 1), (false, 2), (false, 3), (true, 0), (false, 5), (false, 6), (false, 7), (false, 8), (false, 9), (false, 10), (false, 11)] rfl (by decide) rfl (fun H locs hW => ?_)
  refine lv_aload_n S.1 S.2.1 dX1_begin_62 rfl (lv_at hl 0 rfl) ?_
  refine gfX1_28 S hK hW.1 0 rfl rfl dX1_begin_63 ?_
  refine lv_iconst (v := 0) S.1 S.2.1 dX1_begin_66 ic_0 ?_
  obtain ⟨x5, hx5, hf⟩ := bnd_e hf
  refine Wr.go (ws2 := (wLi g o_q0 o_q1 o_q2 o_q3 o_q4 o_q5 o_q6 t_people x1 x2 x3 x4 x5 o_wasKept o_silent o_clock o_sat o_done o_first o_vain o_lent o_forgiven o_seed ++ wTw g t_q0 t_q1 t_q2 t_q3 t_q4 t_people t_wit t_purse t_hated t_owed)) (Wr.runS (c_J7_fill_53178 hx5) S hK (hW.1.sub (ws' := (wAI g o_q5 6 o_kept)) [5] rfl) (hW.2.1.sub (ws' := (wAI g o_q5 6 o_kept)) [5] (by decide) rfl) kSX1_73 rfl hl.1 [] rfl (Nat.le_of_ble_eq_true rfl) ⟨(Nat.le_of_ble_eq_true rfl), (Nat.le_of_ble_eq_true rfl)⟩ ⟨(Nat.zero_le _), (Nat.zero_le _)⟩ dX1_begin_67) hW hA [5] rfl [(false, 0), (false, 1), (false, 2), (false, 3), (false, 4), (true, 0), (false, 6), (false, 7), (false, 8), (false, 9), (false, 10), (false, 11)] rfl (by decide) rfl (fun H locs hW => ?_)
  refine lv_aload_n S.1 S.2.1 dX1_begin_70 rfl (lv_at hl 0 rfl) ?_
  refine gfX1_31 S hK hW.1 0 rfl rfl dX1_begin_71 ?_
  refine lv_iconst (v := 0) S.1 S.2.1 dX1_begin_74 ic_0 ?_
  obtain ⟨x6, hx6, hf⟩ := bnd_e hf
  refine Wr.go (ws2 := (wLi g o_q0 o_q1 o_q2 o_q3 o_q4 o_q5 o_q6 t_people x1 x2 x3 x4 x5 x6 o_silent o_clock o_sat o_done o_first o_vain o_lent o_forgiven o_seed ++ wTw g t_q0 t_q1 t_q2 t_q3 t_q4 t_people t_wit t_purse t_hated t_owed)) (Wr.runS (c_J7_fill_53178 hx6) S hK (hW.1.sub (ws' := (wAI g o_q6 6 o_wasKept)) [6] rfl) (hW.2.1.sub (ws' := (wAI g o_q6 6 o_wasKept)) [6] (by decide) rfl) kSX1_73 rfl hl.1 [] rfl (Nat.le_of_ble_eq_true rfl) ⟨(Nat.le_of_ble_eq_true rfl), (Nat.le_of_ble_eq_true rfl)⟩ ⟨(Nat.zero_le _), (Nat.zero_le _)⟩ dX1_begin_75) hW hA [6] rfl [(false, 0), (false, 1), (false, 2), (false, 3), (false, 4), (false, 5), (true, 0), (false, 7), (false, 8), (false, 9), (false, 10), (false, 11)] rfl (by decide) rfl (fun H locs hW => ?_)
  refine lv_aload_n S.1 S.2.1 dX1_begin_78 rfl (lv_at hl 0 rfl) ?_
  refine lv_iconst (v := 0) S.1 S.2.1 dX1_begin_79 ic_0 ?_
  refine pfX1_34 (ws2 := (wLi g o_q0 o_q1 o_q2 o_q3 o_q4 o_q5 o_q6 t_people x1 x2 x3 x4 x5 x6 (0 : Int32) o_clock o_sat o_done o_first o_vain o_lent o_forgiven o_seed ++ wTw g t_q0 t_q1 t_q2 t_q3 t_q4 t_people t_wit t_purse t_hated t_owed)) S hK hW 0 rfl rfl rfl (Nat.le_of_ble_eq_true rfl) rfl dX1_begin_80 (fun H locs hW => ?_)
  refine lv_aload_n S.1 S.2.1 dX1_begin_83 rfl (lv_at hl 0 rfl) ?_
  refine lv_iconst (v := 0) S.1 S.2.1 dX1_begin_84 ic_0 ?_
  refine pfX1_37 (ws2 := (wLi g o_q0 o_q1 o_q2 o_q3 o_q4 o_q5 o_q6 t_people x1 x2 x3 x4 x5 x6 (0 : Int32) (0 : Int32) o_sat o_done o_first o_vain o_lent o_forgiven o_seed ++ wTw g t_q0 t_q1 t_q2 t_q3 t_q4 t_people t_wit t_purse t_hated t_owed)) S hK hW 0 rfl rfl rfl (Nat.le_of_ble_eq_true rfl) rfl dX1_begin_85 (fun H locs hW => ?_)
  refine lv_aload_n S.1 S.2.1 dX1_begin_88 rfl (lv_at hl 0 rfl) ?_
  refine lv_iconst (v := 0) S.1 S.2.1 dX1_begin_89 ic_0 ?_
  refine pfX1_40 (ws2 := (wLi g o_q0 o_q1 o_q2 o_q3 o_q4 o_q5 o_q6 t_people x1 x2 x3 x4 x5 x6 (0 : Int32) (0 : Int32) (0 : Int32) o_done o_first o_vain o_lent o_forgiven o_seed ++ wTw g t_q0 t_q1 t_q2 t_q3 t_q4 t_people t_wit t_purse t_hated t_owed)) S hK hW 0 rfl rfl rfl (Nat.le_of_ble_eq_true rfl) rfl dX1_begin_90 (fun H locs hW => ?_)
  refine lv_aload_n S.1 S.2.1 dX1_begin_93 rfl (lv_at hl 0 rfl) ?_
  refine lv_iconst (v := 0) S.1 S.2.1 dX1_begin_94 ic_0 ?_
  refine pfX1_43 (ws2 := (wLi g o_q0 o_q1 o_q2 o_q3 o_q4 o_q5 o_q6 t_people x1 x2 x3 x4 x5 x6 (0 : Int32) (0 : Int32) (0 : Int32) (0 : Int32) o_first o_vain o_lent o_forgiven o_seed ++ wTw g t_q0 t_q1 t_q2 t_q3 t_q4 t_people t_wit t_purse t_hated t_owed)) S hK hW 0 rfl rfl rfl (Nat.le_of_ble_eq_true rfl) rfl dX1_begin_95 (fun H locs hW => ?_)
  refine lv_aload_n S.1 S.2.1 dX1_begin_98 rfl (lv_at hl 0 rfl) ?_
  refine lv_iconst (v := (-1)) S.1 S.2.1 dX1_begin_99 ic_m1 ?_
  refine pfX1_46 (ws2 := (wLi g o_q0 o_q1 o_q2 o_q3 o_q4 o_q5 o_q6 t_people x1 x2 x3 x4 x5 x6 (0 : Int32) (0 : Int32) (0 : Int32) (0 : Int32) (-1 : Int32) o_vain o_lent o_forgiven o_seed ++ wTw g t_q0 t_q1 t_q2 t_q3 t_q4 t_people t_wit t_purse t_hated t_owed)) S hK hW 0 rfl rfl rfl (Nat.le_of_ble_eq_true rfl) rfl dX1_begin_100 (fun H locs hW => ?_)
  refine lv_aload_n S.1 S.2.1 dX1_begin_103 rfl (lv_at hl 0 rfl) ?_
  refine lv_iconst (v := 0) S.1 S.2.1 dX1_begin_104 ic_0 ?_
  refine pfX1_49 (ws2 := (wLi g o_q0 o_q1 o_q2 o_q3 o_q4 o_q5 o_q6 t_people x1 x2 x3 x4 x5 x6 (0 : Int32) (0 : Int32) (0 : Int32) (0 : Int32) (-1 : Int32) (0 : Int32) o_lent o_forgiven o_seed ++ wTw g t_q0 t_q1 t_q2 t_q3 t_q4 t_people t_wit t_purse t_hated t_owed)) S hK hW 0 rfl rfl rfl (Nat.le_of_ble_eq_true rfl) rfl dX1_begin_105 (fun H locs hW => ?_)
  refine lv_aload_n S.1 S.2.1 dX1_begin_108 rfl (lv_at hl 0 rfl) ?_
  refine lv_iconst (v := 0) S.1 S.2.1 dX1_begin_109 ic_0 ?_
  refine pfX1_52 (ws2 := (wLi g o_q0 o_q1 o_q2 o_q3 o_q4 o_q5 o_q6 t_people x1 x2 x3 x4 x5 x6 (0 : Int32) (0 : Int32) (0 : Int32) (0 : Int32) (-1 : Int32) (0 : Int32) (0 : Int32) o_forgiven o_seed ++ wTw g t_q0 t_q1 t_q2 t_q3 t_q4 t_people t_wit t_purse t_hated t_owed)) S hK hW 0 rfl rfl rfl (Nat.le_of_ble_eq_true rfl) rfl dX1_begin_110 (fun H locs hW => ?_)
  refine lv_aload_n S.1 S.2.1 dX1_begin_113 rfl (lv_at hl 0 rfl) ?_
  refine lv_iconst (v := 0) S.1 S.2.1 dX1_begin_114 ic_0 ?_
  refine pfX1_55 (ws2 := (wLi g o_q0 o_q1 o_q2 o_q3 o_q4 o_q5 o_q6 t_people x1 x2 x3 x4 x5 x6 (0 : Int32) (0 : Int32) (0 : Int32) (0 : Int32) (-1 : Int32) (0 : Int32) (0 : Int32) (0 : Int32) o_seed ++ wTw g t_q0 t_q1 t_q2 t_q3 t_q4 t_people t_wit t_purse t_hated t_owed)) S hK hW 0 rfl rfl rfl (Nat.le_of_ble_eq_true rfl) rfl dX1_begin_115 (fun H locs hW => ?_)
  have e_ := Option.some.inj hf
  subst e_
  exact hret _ _ _ _ dX1_begin_118 hW
def f_X1_onSunday (fu : Nat) (p1 : Int32) : Option (Int32) := if p1 = 0 then some (0 : Int32) else some (jmin (99 : Int32) (p1 + (1 : Int32)))
set_option maxHeartbeats 4000000 in
set_option maxRecDepth 100000 in
theorem c_X1_onSunday {l : Launch} {D : va_G} {g : Nat → ClassId} {fu : Nat} {p1 : Int32} {r : Int32} (hf : f_X1_onSunday fu p1 = some r) : Rd l D (gy g) yX1_onSunday cX1_onSunday 1 (some .int) 1 [.int p1] ([] : va_W) (some (.int r)) := by
  refine Rd.ofI (by decide) (Nat.le_of_ble_eq_true rfl) ?_
  intro p e s m args below meth c Q S hK hP hret ls hl
  have hl : lv_has ls 1 [(0, .int p1)] := hl
  refine lv_iload_n S.1 S.2.1 dX1_onSunday_0 rfl (lv_at hl 0 rfl) ?_
  refine lv_if_ne (tgt := 8) S.1 S.2.1 dX1_onSunday_1 (by decide) (fun c_ => ?_) (fun c_ => ?_)
  · have hf := it_n c_ hf
    refine lv_bipush (v := 99) S.1 S.2.1 dX1_onSunday_8 bp_99 ?_
    refine lv_iload_n S.1 S.2.1 dX1_onSunday_10 rfl (lv_at hl 0 rfl) ?_
    refine lv_iconst (v := 1) S.1 S.2.1 dX1_onSunday_11 ic_1 ?_
    refine lv_iadd S.1 S.2.1 dX1_onSunday_12 ?_
    refine va_mmin S.1 S.2.1 (S.2.2.1.trans hl.1.symm) S.2.2.2.1 (S.2.2.2.2 _ q_581) (S.2.2.2.2 _ q_362) (S.2.2.2.2 _ q_12) (S.2.2.2.2 _ q_363) (Nat.le_of_ble_eq_true rfl) (Nat.le_of_ble_eq_true rfl) (Nat.zero_le _) (Nat.zero_le _) dX1_onSunday_13 ?_
    have e_ := Option.some.inj hf
    subst e_
    exact hret _ _ dX1_onSunday_16
  · have hf := it_p c_ hf
    refine lv_iconst (v := 0) S.1 S.2.1 dX1_onSunday_4 ic_0 ?_
    refine lv_goto (tgt := 16) S.1 S.2.1 dX1_onSunday_5 (by decide) ?_
    have e_ := Option.some.inj hf
    subst e_
    exact hret _ _ dX1_onSunday_16
def f_X1_nextHour_L31 (fu : Nat) (s4 : Int32 × (Nat → Int32)) : Option ((Int32 × (Nat → Int32)) ⊕ ((Nat → Int32))) := if (36 : Int32) ≤ s4.1 then some (.inr s4.2) else bnd (α := Int32) (rdi 36 s4.2 s4.1) (fun x7 => bnd (α := Int32) (f_X1_onSunday fu x7) (fun x8 => bnd (α := (Nat → Int32)) (wri 36 s4.2 s4.1 x8) (fun x9 => some (.inl ((s4.1 + 1), x9)))))
def f_X1_nextHour (fu : Nat) (o_owed : (Nat → Int32)) (o_seat : (Nat → Int32)) (o_clock : Int32) : Option ((Nat → Int32) × (Nat → Int32) × Int32) := bnd (α := (Nat → Int32)) (f_J7_fill_53178 fu 6 o_seat (6 : Int32)) (fun x1 => ltn (o_clock + (1 : Int32)) (fun x2 => if (jrm x2 (10 : Int32)) = 0 then bnd (α := (Nat → Int32)) (lp (f_X1_nextHour_L31 fu) fu ((0 : Int32), o_owed)) (fun v10 => some (v10, x1, x2)) else some (o_owed, x1, x2)))
set_option maxHeartbeats 4000000 in
set_option maxRecDepth 100000 in
theorem c_X1_nextHour {l : Launch} {D : va_G} {g : Nat → ClassId} {fu : Nat} {o_q0 o_q1 o_q2 o_q3 o_q4 o_q5 o_q6 : Nat} {o_people : Int32} {o_hated : (Nat → Int32)} {o_purse : (Nat → Int32)} {o_owed : (Nat → Int32)} {o_seat : (Nat → Int32)} {o_kept : (Nat → Int32)} {o_wasKept : (Nat → Int32)} {o_silent : Int32} {o_clock : Int32} {o_sat : Int32} {o_done : Int32} {o_first : Int32} {o_vain : Int32} {o_lent : Int32} {o_forgiven : Int32} {o_seed : Int32} {r : (Nat → Int32) × (Nat → Int32) × Int32} (hf : f_X1_nextHour fu o_owed o_seat o_clock = some r) : Wr l D (gy g) yX1_nextHour cX1_nextHour 2 none 2 [.ref o_q0] (wLi g o_q0 o_q1 o_q2 o_q3 o_q4 o_q5 o_q6 o_people o_hated o_purse o_owed o_seat o_kept o_wasKept o_silent o_clock o_sat o_done o_first o_vain o_lent o_forgiven o_seed) (wLi g o_q0 o_q1 o_q2 o_q3 o_q4 o_q5 o_q6 o_people o_hated o_purse r.1 r.2.1 o_kept o_wasKept o_silent r.2.2 o_sat o_done o_first o_vain o_lent o_forgiven o_seed) none := by
  refine Wr.ofV (by decide) (Nat.le_of_ble_eq_true rfl) ?_
  intro p e s m args below meth c Q A S hK hA hret ls hl hW
  have hl : lv_has ls 2 [(0, .ref o_q0)] := hl
  refine lv_aload_n S.1 S.2.1 dX1_nextHour_0 rfl (lv_at hl 0 rfl) ?_
  refine gfX1_25 S hK hW.1 0 rfl rfl dX1_nextHour_1 ?_
  refine lv_bipush (v := 6) S.1 S.2.1 dX1_nextHour_4 bp_6 ?_
  obtain ⟨x1, hx1, hf⟩ := bnd_e hf
  refine Wr.go (ws2 := (wLi g o_q0 o_q1 o_q2 o_q3 o_q4 o_q5 o_q6 o_people o_hated o_purse o_owed x1 o_kept o_wasKept o_silent o_clock o_sat o_done o_first o_vain o_lent o_forgiven o_seed)) (Wr.runS (c_J7_fill_53178 hx1) S hK (hW.1.sub (ws' := (wAI g o_q4 6 o_seat)) [4] rfl) (hW.2.1.sub (ws' := (wAI g o_q4 6 o_seat)) [4] (by decide) rfl) kSX1_73 rfl hl.1 [] rfl (Nat.le_of_ble_eq_true rfl) ⟨(Nat.le_of_ble_eq_true rfl), (Nat.le_of_ble_eq_true rfl)⟩ ⟨(Nat.zero_le _), (Nat.zero_le _)⟩ dX1_nextHour_6) hW hA [4] rfl [(false, 0), (false, 1), (false, 2), (false, 3), (true, 0), (false, 5), (false, 6)] rfl (by decide) rfl (fun H locs hW => ?_)
  refine lv_aload_n S.1 S.2.1 dX1_nextHour_9 rfl (lv_at hl 0 rfl) ?_
  refine lv_dup S.1 S.2.1 dX1_nextHour_10 rfl ?_
  refine gfX1_37 S hK hW.1 0 rfl rfl dX1_nextHour_11 ?_
  refine lv_iconst (v := 1) S.1 S.2.1 dX1_nextHour_14 ic_1 ?_
  refine lv_iadd S.1 S.2.1 dX1_nextHour_15 ?_
  refine lv_topi (fun x2 ex2 => ?_)
  have hf := ltn_e hf ex2
  refine pfX1_37 (ws2 := (wLi g o_q0 o_q1 o_q2 o_q3 o_q4 o_q5 o_q6 o_people o_hated o_purse o_owed x1 o_kept o_wasKept o_silent x2 o_sat o_done o_first o_vain o_lent o_forgiven o_seed)) S hK hW 0 rfl rfl rfl (Nat.le_of_ble_eq_true rfl) rfl dX1_nextHour_16 (fun H locs hW => ?_)
  refine lv_aload_n S.1 S.2.1 dX1_nextHour_19 rfl (lv_at hl 0 rfl) ?_
  refine gfX1_37 S hK hW.1 0 rfl rfl dX1_nextHour_20 ?_
  refine lv_bipush (v := 10) S.1 S.2.1 dX1_nextHour_23 bp_10 ?_
  refine lv_irem S.1 S.2.1 dX1_nextHour_25 (by decide) ?_
  refine lv_if_ne (tgt := 61) S.1 S.2.1 dX1_nextHour_26 (by decide) (fun c_ => ?_) (fun c_ => ?_)
  · have hf := it_n c_ hf
    have e_ := Option.some.inj hf
    subst e_
    exact hret _ _ _ _ dX1_nextHour_61 hW
  · have hf := it_p c_ hf
    refine lv_iconst (v := 0) S.1 S.2.1 dX1_nextHour_29 ic_0 ?_
    refine lv_istore_n (lv' := [(1, .int (0 : Int32)), (0, .ref o_q0)]) S.1 S.2.1 dX1_nextHour_30 rfl hl (by decide) rfl (fun ls hl => ?_)
    obtain ⟨x5, hf_, hk5⟩ := bnd_e hf
    have hE5 : ∀ (v10 : (Nat → Int32)), v10 = x5 → ∀ (ls : Array Slot) (H : Heap) (locs : List Loc), lv_has ls 2 [] → St A s.heap D (wLi g o_q0 o_q1 o_q2 o_q3 o_q4 o_q5 o_q6 o_people o_hated o_purse v10 x1 o_kept o_wasKept o_silent x2 o_sat o_done o_first o_vain o_lent o_forgiven o_seed) H locs → W p l e (rmD 2) s m args below meth c H locs 0 0 Q (F0 m 61 ls []) := by
      intro v10 e_ ls H locs hl hW
      subst e_
      have hf := hk5
      have e_ := Option.some.inj hf
      subst e_
      exact hret _ _ _ _ dX1_nextHour_61 hW
    refine lp_ind (P := fun (s4 : Int32 × (Nat → Int32)) => ∀ (ls : Array Slot) (H : Heap) (locs : List Loc), lv_has ls 2 [(0, .ref o_q0), (1, .int s4.1)] → St A s.heap D (wLi g o_q0 o_q1 o_q2 o_q3 o_q4 o_q5 o_q6 o_people o_hated o_purse s4.2 x1 o_kept o_wasKept o_silent x2 o_sat o_done o_first o_vain o_lent o_forgiven o_seed) H locs → W p l e (rmD 2) s m args below meth c H locs 0 0 Q (F0 m 31 ls [])) ?_ _ _ hf_ _ _ _ (lv_sub hl [1, 0] rfl) hW
    intro s4 x6 hf hI5 hR5 ls H locs hl hW
    refine lv_iload_n S.1 S.2.1 dX1_nextHour_31 rfl (lv_at hl 1 rfl) ?_
    refine lv_aload_n S.1 S.2.1 dX1_nextHour_32 rfl (lv_at hl 0 rfl) ?_
    refine gfX1_22 S hK hW.1 0 rfl rfl dX1_nextHour_33 ?_
    refine q_alen S hK hW.1 3 0 rfl rfl (v := (36 : Int32)) rfl dX1_nextHour_36 ?_
    refine lv_icmp_ge (tgt := 61) S.1 S.2.1 dX1_nextHour_37 (by decide) (fun c_ => ?_) (fun c_ => ?_)
    · have hf := it_p c_ hf
      have e_ := hR5 _ (Option.some.inj hf).symm
      exact hE5 _ e_ _ _ _ (lv_sub hl [] rfl) hW
    · have hf := it_n c_ hf
      refine lv_aload_n S.1 S.2.1 dX1_nextHour_40 rfl (lv_at hl 0 rfl) ?_
      refine gfX1_22 S hK hW.1 0 rfl rfl dX1_nextHour_41 ?_
      refine lv_iload_n S.1 S.2.1 dX1_nextHour_44 rfl (lv_at hl 1 rfl) ?_
      refine lv_aload_n S.1 S.2.1 dX1_nextHour_45 rfl (lv_at hl 0 rfl) ?_
      refine gfX1_22 S hK hW.1 0 rfl rfl dX1_nextHour_46 ?_
      refine lv_iload_n S.1 S.2.1 dX1_nextHour_49 rfl (lv_at hl 1 rfl) ?_
      obtain ⟨x7, hx7, hf⟩ := bnd_e hf
      refine q_iald S hK hW.1 3 0 rfl rfl hx7 dX1_nextHour_50 ?_
      obtain ⟨x8, hx8, hf⟩ := bnd_e hf
      refine Rd.cS (c_X1_onSunday hx8) S hK va_P.nil kSX1_131 rfl hl.1 [.int s4.1, .ref o_q3] rfl (Nat.le_of_ble_eq_true rfl) ⟨(Nat.le_of_ble_eq_true rfl), (Nat.le_of_ble_eq_true rfl)⟩ ⟨(Nat.zero_le _), (Nat.zero_le _)⟩ dX1_nextHour_51 ?_
      obtain ⟨x9, hx9, hf⟩ := bnd_e hf
      refine q_iast (ws2 := (wLi g o_q0 o_q1 o_q2 o_q3 o_q4 o_q5 o_q6 o_people o_hated o_purse x9 x1 o_kept o_wasKept o_silent x2 o_sat o_done o_first o_vain o_lent o_forgiven o_seed)) S hK hW 3 0 rfl rfl hx9 rfl dX1_nextHour_54 (fun H locs hW => ?_)
      refine q_iinc (w := 1) (lv' := [(1, .int (s4.1 + 1)), (0, .ref o_q0)]) S dX1_nextHour_55 hl (k := 1) rfl ic_1 (by decide) rfl (fun ls hl => ?_)
      refine lv_goto (tgt := 31) S.1 S.2.1 dX1_nextHour_58 (by decide) ?_
      exact hI5 _ (Option.some.inj hf).symm _ _ _ (lv_sub hl [1, 0] rfl) hW
def f_X1_has (fu : Nat) (o_people : Int32) (p1 : Int32) : Option (Int32) := if p1 < 0 then some (0 : Int32) else if o_people ≤ p1 then some (0 : Int32) else some (1 : Int32)
set_option maxHeartbeats 4000000 in
set_option maxRecDepth 100000 in
theorem c_X1_has {l : Launch} {D : va_G} {g : Nat → ClassId} {fu : Nat} {o_q0 o_q1 o_q2 o_q3 o_q4 o_q5 o_q6 : Nat} {o_people : Int32} {o_hated : (Nat → Int32)} {o_purse : (Nat → Int32)} {o_owed : (Nat → Int32)} {o_seat : (Nat → Int32)} {o_kept : (Nat → Int32)} {o_wasKept : (Nat → Int32)} {o_silent : Int32} {o_clock : Int32} {o_sat : Int32} {o_done : Int32} {o_first : Int32} {o_vain : Int32} {o_lent : Int32} {o_forgiven : Int32} {o_seed : Int32} {p1 : Int32} {r : Int32} (hf : f_X1_has fu o_people p1 = some r) : Rd l D (gy g) yX1_has cX1_has 2 (some .boolean) 0 [.ref o_q0, .int p1] (wLi g o_q0 o_q1 o_q2 o_q3 o_q4 o_q5 o_q6 o_people o_hated o_purse o_owed o_seat o_kept o_wasKept o_silent o_clock o_sat o_done o_first o_vain o_lent o_forgiven o_seed) (some (.int r)) := by
  refine Rd.ofZ (by decide) (Nat.le_of_ble_eq_true rfl) ?_
  intro p e s m args below meth c Q S hK hP hret ls hl
  have hl : lv_has ls 2 [(0, .ref o_q0), (1, .int p1)] := hl
  refine lv_iload_n S.1 S.2.1 dX1_has_0 rfl (lv_at hl 1 rfl) ?_
  refine lv_if_lt (tgt := 16) S.1 S.2.1 dX1_has_1 (by decide) (fun c_ => ?_) (fun c_ => ?_)
  · have hf := it_p c_ hf
    refine lv_iconst (v := 0) S.1 S.2.1 dX1_has_16 ic_0 ?_
    have e_ := Option.some.inj hf
    subst e_
    exact hret _ _ (Or.inl rfl) dX1_has_17
  · have hf := it_n c_ hf
    refine lv_iload_n S.1 S.2.1 dX1_has_4 rfl (lv_at hl 1 rfl) ?_
    refine lv_aload_n S.1 S.2.1 dX1_has_5 rfl (lv_at hl 0 rfl) ?_
    refine gfX1_9 S hK hP 0 rfl rfl dX1_has_6 ?_
    refine lv_icmp_ge (tgt := 16) S.1 S.2.1 dX1_has_9 (by decide) (fun c_ => ?_) (fun c_ => ?_)
    · have hf := it_p c_ hf
      refine lv_iconst (v := 0) S.1 S.2.1 dX1_has_16 ic_0 ?_
      have e_ := Option.some.inj hf
      subst e_
      exact hret _ _ (Or.inl rfl) dX1_has_17
    · have hf := it_n c_ hf
      refine lv_iconst (v := 1) S.1 S.2.1 dX1_has_12 ic_1 ?_
      refine lv_goto (tgt := 17) S.1 S.2.1 dX1_has_13 (by decide) ?_
      have e_ := Option.some.inj hf
      subst e_
      exact hret _ _ (Or.inr rfl) dX1_has_17
def f_X1_maySit_L33 (o_people : Int32) (o_hated : (Nat → Int32)) (o_owed : (Nat → Int32)) (o_seat : (Nat → Int32)) (o_kept : (Nat → Int32)) (o_wasKept : (Nat → Int32)) (o_sat : Int32) (o_first : Int32) (o_vain : Int32) (p1 : Int32) (p2 : Int32) (s5 : Int32) : Option ((Int32) ⊕ ((Int32 × (Nat → Int32) × (Nat → Int32) × (Nat → Int32) × (Nat → Int32) × Int32 × Int32 × Int32) ⊕ (Unit))) := if o_people ≤ s5 then some (.inr (.inr ())) else bnd (α := Int32) (rdi 6 o_seat s5) (fun x8 => if x8 = p2 then bnd (α := Int32) (rdi 6 o_hated p1) (fun x9 => if ((jshr x9 s5) &&& (1 : Int32)) = 0 then some (.inl (s5 + 1)) else some (.inr (.inl ((0 : Int32), o_owed, o_seat, o_kept, o_wasKept, o_sat, o_first, o_vain)))) else some (.inl (s5 + 1)))
def f_X1_maySit (fu : Nat) (o_people : Int32) (o_hated : (Nat → Int32)) (o_owed : (Nat → Int32)) (o_seat : (Nat → Int32)) (o_kept : (Nat → Int32)) (o_wasKept : (Nat → Int32)) (o_silent : Int32) (o_sat : Int32) (o_done : Int32) (o_first : Int32) (o_vain : Int32) (p1 : Int32) (p2 : Int32) : Option (Int32 × (Nat → Int32) × (Nat → Int32) × (Nat → Int32) × (Nat → Int32) × Int32 × Int32 × Int32) := ltn (((6 : Int32) * p2) + p1) (fun x1 => bnd (α := Int32) (rdi 36 o_owed x1) (fun x2 => if x2 < (1 : Int32) then some ((0 : Int32), o_owed, o_seat, o_kept, o_wasKept, o_sat, o_first, o_vain) else bnd (α := Int32) (rdi 6 o_seat p1) (fun x3 => if x3 = (6 : Int32) then bnd (α := (Int32 × (Nat → Int32) × (Nat → Int32) × (Nat → Int32) × (Nat → Int32) × Int32 × Int32 × Int32) ⊕ (Unit)) (lp (f_X1_maySit_L33 o_people o_hated o_owed o_seat o_kept o_wasKept o_sat o_first o_vain p1 p2) fu (0 : Int32)) (fun x6 => cse x6 (fun y25 => some y25) (fun v10 => bnd (α := (Nat → Int32)) (wri 6 o_seat p1 p2) (fun x11 => bnd (α := Int32) (if o_first = (-1 : Int32) then some o_done else some o_first) (fun v13 => ltn (o_sat + (1 : Int32)) (fun x14 => bnd (α := Int32) (rdi 6 o_kept p1) (fun x15 => ltn (x15 + (1 : Int32)) (fun x16 => bnd (α := (Nat → Int32)) (wri 6 o_kept p1 x16) (fun x17 => bnd (α := Int32) (rdi 6 o_wasKept p2) (fun x18 => ltn (x18 + (1 : Int32)) (fun x19 => bnd (α := (Nat → Int32)) (wri 6 o_wasKept p2 x19) (fun x20 => if ((jshr o_silent p2) &&& (1 : Int32)) = 0 then bnd (α := Int32) (rdi 36 o_owed x1) (fun x21 => ltn (x21 - (1 : Int32)) (fun x22 => bnd (α := (Nat → Int32)) (wri 36 o_owed x1 x22) (fun x23 => some ((1 : Int32), x23, x11, x17, x20, x14, v13, o_vain)))) else ltn (o_vain + (1 : Int32)) (fun x24 => some ((1 : Int32), o_owed, x11, x17, x20, x14, v13, x24))))))))))))) else some ((0 : Int32), o_owed, o_seat, o_kept, o_wasKept, o_sat, o_first, o_vain))))
set_option maxHeartbeats 4000000 in
set_option maxRecDepth 100000 in
theorem c_X1_maySit {l : Launch} {D : va_G} {g : Nat → ClassId} {fu : Nat} {o_q0 o_q1 o_q2 o_q3 o_q4 o_q5 o_q6 : Nat} {o_people : Int32} {o_hated : (Nat → Int32)} {o_purse : (Nat → Int32)} {o_owed : (Nat → Int32)} {o_seat : (Nat → Int32)} {o_kept : (Nat → Int32)} {o_wasKept : (Nat → Int32)} {o_silent : Int32} {o_clock : Int32} {o_sat : Int32} {o_done : Int32} {o_first : Int32} {o_vain : Int32} {o_lent : Int32} {o_forgiven : Int32} {o_seed : Int32} {p1 : Int32} {p2 : Int32} {r : Int32 × (Nat → Int32) × (Nat → Int32) × (Nat → Int32) × (Nat → Int32) × Int32 × Int32 × Int32} (hf : f_X1_maySit fu o_people o_hated o_owed o_seat o_kept o_wasKept o_silent o_sat o_done o_first o_vain p1 p2 = some r) : Wr l D (gy g) yX1_maySit cX1_maySit 5 (some .boolean) 0 [.ref o_q0, .int p1, .int p2] (wLi g o_q0 o_q1 o_q2 o_q3 o_q4 o_q5 o_q6 o_people o_hated o_purse o_owed o_seat o_kept o_wasKept o_silent o_clock o_sat o_done o_first o_vain o_lent o_forgiven o_seed) (wLi g o_q0 o_q1 o_q2 o_q3 o_q4 o_q5 o_q6 o_people o_hated o_purse r.2.1 r.2.2.1 r.2.2.2.1 r.2.2.2.2.1 o_silent o_clock r.2.2.2.2.2.1 o_done r.2.2.2.2.2.2.1 r.2.2.2.2.2.2.2 o_lent o_forgiven o_seed) (some (.int r.1)) := by
  refine Wr.ofZ (by decide) (Nat.le_of_ble_eq_true rfl) ?_
  intro p e s m args below meth c Q A S hK hA hret ls hl hW
  have hl : lv_has ls 5 [(0, .ref o_q0), (1, .int p1), (2, .int p2)] := hl
  refine lv_bipush (v := 6) S.1 S.2.1 dX1_maySit_0 bp_6 ?_
  refine lv_iload_n S.1 S.2.1 dX1_maySit_2 rfl (lv_at hl 2 rfl) ?_
  refine lv_imul S.1 S.2.1 dX1_maySit_3 ?_
  refine lv_iload_n S.1 S.2.1 dX1_maySit_4 rfl (lv_at hl 1 rfl) ?_
  refine lv_iadd S.1 S.2.1 dX1_maySit_5 ?_
  refine lv_topi (fun x1 ex1 => ?_)
  have hf := ltn_e hf ex1
  refine lv_istore_n (lv' := [(3, .int x1), (0, .ref o_q0), (1, .int p1), (2, .int p2)]) S.1 S.2.1 dX1_maySit_6 rfl hl (by decide) rfl (fun ls hl => ?_)
  refine lv_aload_n S.1 S.2.1 dX1_maySit_7 rfl (lv_at hl 1 rfl) ?_
  refine gfX1_22 S hK hW.1 0 rfl rfl dX1_maySit_8 ?_
  refine lv_iload_n S.1 S.2.1 dX1_maySit_11 rfl (lv_at hl 0 rfl) ?_
  obtain ⟨x2, hx2, hf⟩ := bnd_e hf
  refine q_iald S hK hW.1 3 0 rfl rfl hx2 dX1_maySit_12 ?_
  refine lv_iconst (v := 1) S.1 S.2.1 dX1_maySit_13 ic_1 ?_
  refine lv_icmp_lt (tgt := 28) S.1 S.2.1 dX1_maySit_14 (by decide) (fun c_ => ?_) (fun c_ => ?_)
  · have hf := it_p c_ hf
    refine lv_iconst (v := 0) S.1 S.2.1 dX1_maySit_28 ic_0 ?_
    have e_ := Option.some.inj hf
    subst e_
    exact hret _ _ _ _ (Or.inl rfl) dX1_maySit_29 hW
  · have hf := it_n c_ hf
    refine lv_aload_n S.1 S.2.1 dX1_maySit_17 rfl (lv_at hl 1 rfl) ?_
    refine gfX1_25 S hK hW.1 0 rfl rfl dX1_maySit_18 ?_
    refine lv_iload_n S.1 S.2.1 dX1_maySit_21 rfl (lv_at hl 2 rfl) ?_
    obtain ⟨x3, hx3, hf⟩ := bnd_e hf
    refine q_iald S hK hW.1 4 0 rfl rfl hx3 dX1_maySit_22 ?_
    refine lv_bipush (v := 6) S.1 S.2.1 dX1_maySit_23 bp_6 ?_
    refine lv_icmp_eq (tgt := 30) S.1 S.2.1 dX1_maySit_25 (by decide) (fun c_ => ?_) (fun c_ => ?_)
    · have hf := it_p c_ hf
      refine lv_iconst (v := 0) S.1 S.2.1 dX1_maySit_30 ic_0 ?_
      refine lv_istore (lv' := [(4, .int (0 : Int32)), (3, .int x1), (0, .ref o_q0), (1, .int p1), (2, .int p2)]) S.1 S.2.1 dX1_maySit_31 hl (by decide) rfl (fun ls hl => ?_)
      obtain ⟨x6, hf_, hk6⟩ := bnd_e hf
      have hE6 : ∀ (v10 : Unit), x6 = .inr v10 → ∀ (ls : Array Slot) (H : Heap) (locs : List Loc), lv_has ls 5 [(0, .ref o_q0), (1, .int p1), (2, .int p2), (3, .int x1)] → St A s.heap D (wLi g o_q0 o_q1 o_q2 o_q3 o_q4 o_q5 o_q6 o_people o_hated o_purse o_owed o_seat o_kept o_wasKept o_silent o_clock o_sat o_done o_first o_vain o_lent o_forgiven o_seed) H locs → W p l e (rmD 0) s m args below meth c H locs 0 0 Q (F0 m 75 ls []) := by
        intro v10 e_ ls H locs hl hW
        subst e_
        have hf := cse_r hk6
        refine lv_aload_n S.1 S.2.1 dX1_maySit_75 rfl (lv_at hl 0 rfl) ?_
        refine gfX1_25 S hK hW.1 0 rfl rfl dX1_maySit_76 ?_
        refine lv_iload_n S.1 S.2.1 dX1_maySit_79 rfl (lv_at hl 1 rfl) ?_
        refine lv_iload_n S.1 S.2.1 dX1_maySit_80 rfl (lv_at hl 2 rfl) ?_
        obtain ⟨x11, hx11, hf⟩ := bnd_e hf
        refine q_iast (ws2 := (wLi g o_q0 o_q1 o_q2 o_q3 o_q4 o_q5 o_q6 o_people o_hated o_purse o_owed x11 o_kept o_wasKept o_silent o_clock o_sat o_done o_first o_vain o_lent o_forgiven o_seed)) S hK hW 4 0 rfl rfl hx11 rfl dX1_maySit_81 (fun H locs hW => ?_)
        refine lv_aload_n S.1 S.2.1 dX1_maySit_82 rfl (lv_at hl 0 rfl) ?_
        refine gfX1_46 S hK hW.1 0 rfl rfl dX1_maySit_83 ?_
        refine lv_iconst (v := (-1)) S.1 S.2.1 dX1_maySit_86 ic_m1 ?_
        obtain ⟨x12, hf_, hk12⟩ := bnd_e hf
        have hJ12 : ∀ (v13 : Int32), v13 = x12 → ∀ (ls : Array Slot) (H : Heap) (locs : List Loc), lv_has ls 5 [(0, .ref o_q0), (1, .int p1), (2, .int p2), (3, .int x1)] → St A s.heap D (wLi g o_q0 o_q1 o_q2 o_q3 o_q4 o_q5 o_q6 o_people o_hated o_purse o_owed x11 o_kept o_wasKept o_silent o_clock o_sat o_done v13 o_vain o_lent o_forgiven o_seed) H locs → W p l e (rmD 0) s m args below meth c H locs 0 0 Q (F0 m 98 ls []) := by
          intro v13 e_ ls H locs hl hW
          subst e_
          have hf := hk12
          refine lv_aload_n S.1 S.2.1 dX1_maySit_98 rfl (lv_at hl 0 rfl) ?_
          refine lv_dup S.1 S.2.1 dX1_maySit_99 rfl ?_
          refine gfX1_40 S hK hW.1 0 rfl rfl dX1_maySit_100 ?_
          refine lv_iconst (v := 1) S.1 S.2.1 dX1_maySit_103 ic_1 ?_
          refine lv_iadd S.1 S.2.1 dX1_maySit_104 ?_
          refine lv_topi (fun x14 ex14 => ?_)
          have hf := ltn_e hf ex14
          refine pfX1_40 (ws2 := (wLi g o_q0 o_q1 o_q2 o_q3 o_q4 o_q5 o_q6 o_people o_hated o_purse o_owed x11 o_kept o_wasKept o_silent o_clock x14 o_done v13 o_vain o_lent o_forgiven o_seed)) S hK hW 0 rfl rfl rfl (Nat.le_of_ble_eq_true rfl) rfl dX1_maySit_105 (fun H locs hW => ?_)
          refine lv_aload_n S.1 S.2.1 dX1_maySit_108 rfl (lv_at hl 0 rfl) ?_
          refine gfX1_28 S hK hW.1 0 rfl rfl dX1_maySit_109 ?_
          refine lv_iload_n S.1 S.2.1 dX1_maySit_112 rfl (lv_at hl 1 rfl) ?_
          refine lv_dup2_11 S.1 S.2.1 dX1_maySit_113 rfl rfl ?_
          obtain ⟨x15, hx15, hf⟩ := bnd_e hf
          refine q_iald S hK hW.1 5 0 rfl rfl hx15 dX1_maySit_114 ?_
          refine lv_iconst (v := 1) S.1 S.2.1 dX1_maySit_115 ic_1 ?_
          refine lv_iadd S.1 S.2.1 dX1_maySit_116 ?_
          refine lv_topi (fun x16 ex16 => ?_)
          have hf := ltn_e hf ex16
          obtain ⟨x17, hx17, hf⟩ := bnd_e hf
          refine q_iast (ws2 := (wLi g o_q0 o_q1 o_q2 o_q3 o_q4 o_q5 o_q6 o_people o_hated o_purse o_owed x11 x17 o_wasKept o_silent o_clock x14 o_done v13 o_vain o_lent o_forgiven o_seed)) S hK hW 5 0 rfl rfl hx17 rfl dX1_maySit_117 (fun H locs hW => ?_)
          refine lv_aload_n S.1 S.2.1 dX1_maySit_118 rfl (lv_at hl 0 rfl) ?_
          refine gfX1_31 S hK hW.1 0 rfl rfl dX1_maySit_119 ?_
          refine lv_iload_n S.1 S.2.1 dX1_maySit_122 rfl (lv_at hl 2 rfl) ?_
          refine lv_dup2_11 S.1 S.2.1 dX1_maySit_123 rfl rfl ?_
          obtain ⟨x18, hx18, hf⟩ := bnd_e hf
          refine q_iald S hK hW.1 6 0 rfl rfl hx18 dX1_maySit_124 ?_
          refine lv_iconst (v := 1) S.1 S.2.1 dX1_maySit_125 ic_1 ?_
          refine lv_iadd S.1 S.2.1 dX1_maySit_126 ?_
          refine lv_topi (fun x19 ex19 => ?_)
          have hf := ltn_e hf ex19
          obtain ⟨x20, hx20, hf⟩ := bnd_e hf
          refine q_iast (ws2 := (wLi g o_q0 o_q1 o_q2 o_q3 o_q4 o_q5 o_q6 o_people o_hated o_purse o_owed x11 x17 x20 o_silent o_clock x14 o_done v13 o_vain o_lent o_forgiven o_seed)) S hK hW 6 0 rfl rfl hx20 rfl dX1_maySit_127 (fun H locs hW => ?_)
          refine lv_aload_n S.1 S.2.1 dX1_maySit_128 rfl (lv_at hl 0 rfl) ?_
          refine gfX1_34 S hK hW.1 0 rfl rfl dX1_maySit_129 ?_
          refine lv_iload_n S.1 S.2.1 dX1_maySit_132 rfl (lv_at hl 2 rfl) ?_
          refine lv_ishr S.1 S.2.1 dX1_maySit_133 ?_
          refine lv_iconst (v := 1) S.1 S.2.1 dX1_maySit_134 ic_1 ?_
          refine lv_iand S.1 S.2.1 dX1_maySit_135 ?_
          refine lv_if_eq (tgt := 152) S.1 S.2.1 dX1_maySit_136 (by decide) (fun c_ => ?_) (fun c_ => ?_)
          · have hf := it_p c_ hf
            refine lv_aload_n S.1 S.2.1 dX1_maySit_152 rfl (lv_at hl 0 rfl) ?_
            refine gfX1_22 S hK hW.1 0 rfl rfl dX1_maySit_153 ?_
            refine lv_iload_n S.1 S.2.1 dX1_maySit_156 rfl (lv_at hl 3 rfl) ?_
            refine lv_dup2_11 S.1 S.2.1 dX1_maySit_157 rfl rfl ?_
            obtain ⟨x21, hx21, hf⟩ := bnd_e hf
            refine q_iald S hK hW.1 3 0 rfl rfl hx21 dX1_maySit_158 ?_
            refine lv_iconst (v := 1) S.1 S.2.1 dX1_maySit_159 ic_1 ?_
            refine lv_isub S.1 S.2.1 dX1_maySit_160 ?_
            refine lv_topi (fun x22 ex22 => ?_)
            have hf := ltn_e hf ex22
            obtain ⟨x23, hx23, hf⟩ := bnd_e hf
            refine q_iast (ws2 := (wLi g o_q0 o_q1 o_q2 o_q3 o_q4 o_q5 o_q6 o_people o_hated o_purse x23 x11 x17 x20 o_silent o_clock x14 o_done v13 o_vain o_lent o_forgiven o_seed)) S hK hW 3 0 rfl rfl hx23 rfl dX1_maySit_161 (fun H locs hW => ?_)
            refine lv_iconst (v := 1) S.1 S.2.1 dX1_maySit_162 ic_1 ?_
            have e_ := Option.some.inj hf
            subst e_
            exact hret _ _ _ _ (Or.inr rfl) dX1_maySit_163 hW
          · have hf := it_n c_ hf
            refine lv_aload_n S.1 S.2.1 dX1_maySit_139 rfl (lv_at hl 0 rfl) ?_
            refine lv_dup S.1 S.2.1 dX1_maySit_140 rfl ?_
            refine gfX1_49 S hK hW.1 0 rfl rfl dX1_maySit_141 ?_
            refine lv_iconst (v := 1) S.1 S.2.1 dX1_maySit_144 ic_1 ?_
            refine lv_iadd S.1 S.2.1 dX1_maySit_145 ?_
            refine lv_topi (fun x24 ex24 => ?_)
            have hf := ltn_e hf ex24
            refine pfX1_49 (ws2 := (wLi g o_q0 o_q1 o_q2 o_q3 o_q4 o_q5 o_q6 o_people o_hated o_purse o_owed x11 x17 x20 o_silent o_clock x14 o_done v13 x24 o_lent o_forgiven o_seed)) S hK hW 0 rfl rfl rfl (Nat.le_of_ble_eq_true rfl) rfl dX1_maySit_146 (fun H locs hW => ?_)
            refine lv_goto (tgt := 162) S.1 S.2.1 dX1_maySit_149 (by decide) ?_
            refine lv_iconst (v := 1) S.1 S.2.1 dX1_maySit_162 ic_1 ?_
            have e_ := Option.some.inj hf
            subst e_
            exact hret _ _ _ _ (Or.inr rfl) dX1_maySit_163 hW
        have hf := hf_
        refine lv_icmp_ne (tgt := 98) S.1 S.2.1 dX1_maySit_87 (by decide) (fun c_ => ?_) (fun c_ => ?_)
        · have hf := it_n c_ hf
          exact hJ12 _ (Option.some.inj hf) _ _ _ (lv_sub hl [0, 1, 2, 3] rfl) hW
        · have hf := it_p c_ hf
          refine lv_aload_n S.1 S.2.1 dX1_maySit_90 rfl (lv_at hl 0 rfl) ?_
          refine lv_aload_n S.1 S.2.1 dX1_maySit_91 rfl (lv_at hl 0 rfl) ?_
          refine gfX1_43 S hK hW.1 0 rfl rfl dX1_maySit_92 ?_
          refine pfX1_46 (ws2 := (wLi g o_q0 o_q1 o_q2 o_q3 o_q4 o_q5 o_q6 o_people o_hated o_purse o_owed x11 o_kept o_wasKept o_silent o_clock o_sat o_done o_done o_vain o_lent o_forgiven o_seed)) S hK hW 0 rfl rfl rfl (Nat.le_of_ble_eq_true rfl) rfl dX1_maySit_95 (fun H locs hW => ?_)
          exact hJ12 _ (Option.some.inj hf) _ _ _ (lv_sub hl [0, 1, 2, 3] rfl) hW
      refine lp_ind (P := fun (s5 : Int32) => ∀ (ls : Array Slot) (H : Heap) (locs : List Loc), lv_has ls 5 [(0, .ref o_q0), (1, .int p1), (2, .int p2), (3, .int x1), (4, .int s5)] → St A s.heap D (wLi g o_q0 o_q1 o_q2 o_q3 o_q4 o_q5 o_q6 o_people o_hated o_purse o_owed o_seat o_kept o_wasKept o_silent o_clock o_sat o_done o_first o_vain o_lent o_forgiven o_seed) H locs → W p l e (rmD 0) s m args below meth c H locs 0 0 Q (F0 m 33 ls [])) ?_ _ _ hf_ _ _ _ (lv_sub hl [2, 3, 4, 1, 0] rfl) hW
      intro s5 x7 hf hI6 hR6 ls H locs hl hW
      refine lv_iload S.1 S.2.1 dX1_maySit_33 (lv_at hl 4 rfl) ?_
      refine lv_aload_n S.1 S.2.1 dX1_maySit_35 rfl (lv_at hl 0 rfl) ?_
      refine gfX1_9 S hK hW.1 0 rfl rfl dX1_maySit_36 ?_
      refine lv_icmp_ge (tgt := 75) S.1 S.2.1 dX1_maySit_39 (by decide) (fun c_ => ?_) (fun c_ => ?_)
      · have hf := it_p c_ hf
        have e_ := hR6 _ (Option.some.inj hf).symm
        exact hE6 _ e_.symm _ _ _ (lv_sub hl [0, 1, 2, 3] rfl) hW
      · have hf := it_n c_ hf
        refine lv_aload_n S.1 S.2.1 dX1_maySit_42 rfl (lv_at hl 0 rfl) ?_
        refine gfX1_25 S hK hW.1 0 rfl rfl dX1_maySit_43 ?_
        refine lv_iload S.1 S.2.1 dX1_maySit_46 (lv_at hl 4 rfl) ?_
        obtain ⟨x8, hx8, hf⟩ := bnd_e hf
        refine q_iald S hK hW.1 4 0 rfl rfl hx8 dX1_maySit_48 ?_
        refine lv_iload_n S.1 S.2.1 dX1_maySit_49 rfl (lv_at hl 2 rfl) ?_
        refine lv_icmp_ne (tgt := 69) S.1 S.2.1 dX1_maySit_50 (by decide) (fun c_ => ?_) (fun c_ => ?_)
        · have hf := it_n c_ hf
          refine q_iinc (w := 1) (lv' := [(4, .int (s5 + 1)), (0, .ref o_q0), (1, .int p1), (2, .int p2), (3, .int x1)]) S dX1_maySit_69 hl (k := 4) rfl ic_1 (by decide) rfl (fun ls hl => ?_)
          refine lv_goto (tgt := 33) S.1 S.2.1 dX1_maySit_72 (by decide) ?_
          exact hI6 _ (Option.some.inj hf).symm _ _ _ (lv_sub hl [1, 2, 3, 4, 0] rfl) hW
        · have hf := it_p c_ hf
          refine lv_aload_n S.1 S.2.1 dX1_maySit_53 rfl (lv_at hl 0 rfl) ?_
          refine gfX1_15 S hK hW.1 0 rfl rfl dX1_maySit_54 ?_
          refine lv_iload_n S.1 S.2.1 dX1_maySit_57 rfl (lv_at hl 1 rfl) ?_
          obtain ⟨x9, hx9, hf⟩ := bnd_e hf
          refine q_iald S hK hW.1 1 0 rfl rfl hx9 dX1_maySit_58 ?_
          refine lv_iload S.1 S.2.1 dX1_maySit_59 (lv_at hl 4 rfl) ?_
          refine lv_ishr S.1 S.2.1 dX1_maySit_61 ?_
          refine lv_iconst (v := 1) S.1 S.2.1 dX1_maySit_62 ic_1 ?_
          refine lv_iand S.1 S.2.1 dX1_maySit_63 ?_
          refine lv_if_eq (tgt := 69) S.1 S.2.1 dX1_maySit_64 (by decide) (fun c_ => ?_) (fun c_ => ?_)
          · have hf := it_p c_ hf
            refine q_iinc (w := 1) (lv' := [(4, .int (s5 + 1)), (0, .ref o_q0), (1, .int p1), (2, .int p2), (3, .int x1)]) S dX1_maySit_69 hl (k := 4) rfl ic_1 (by decide) rfl (fun ls hl => ?_)
            refine lv_goto (tgt := 33) S.1 S.2.1 dX1_maySit_72 (by decide) ?_
            exact hI6 _ (Option.some.inj hf).symm _ _ _ (lv_sub hl [1, 2, 3, 4, 0] rfl) hW
          · have hf := it_n c_ hf
            refine lv_iconst (v := 0) S.1 S.2.1 dX1_maySit_67 ic_0 ?_
            have e_ := hR6 _ (Option.some.inj hf).symm
            subst e_
            have hf := cse_l hk6
            have e_ := Option.some.inj hf
            subst e_
            exact hret _ _ _ _ (Or.inl rfl) dX1_maySit_68 hW
    · have hf := it_n c_ hf
      refine lv_iconst (v := 0) S.1 S.2.1 dX1_maySit_28 ic_0 ?_
      have e_ := Option.some.inj hf
      subst e_
      exact hret _ _ _ _ (Or.inl rfl) dX1_maySit_29 hW
def f_X1_mayForgive (fu : Nat) (o_owed : (Nat → Int32)) (o_forgiven : Int32) (p1 : Int32) (p2 : Int32) (p3 : Int32) : Option (Int32 × (Nat → Int32) × Int32) := ltn (((6 : Int32) * p2) + p1) (fun x1 => bnd (α := Int32) (rdi 36 o_owed x1) (fun x2 => if p3 ≤ x2 then bnd (α := Int32) (rdi 36 o_owed x1) (fun x3 => ltn (x3 - p3) (fun x4 => bnd (α := (Nat → Int32)) (wri 36 o_owed x1 x4) (fun x5 => ltn (o_forgiven + p3) (fun x6 => some ((1 : Int32), x5, x6))))) else some ((0 : Int32), o_owed, o_forgiven)))
set_option maxHeartbeats 4000000 in
set_option maxRecDepth 100000 in
theorem c_X1_mayForgive {l : Launch} {D : va_G} {g : Nat → ClassId} {fu : Nat} {o_q0 o_q1 o_q2 o_q3 o_q4 o_q5 o_q6 : Nat} {o_people : Int32} {o_hated : (Nat → Int32)} {o_purse : (Nat → Int32)} {o_owed : (Nat → Int32)} {o_seat : (Nat → Int32)} {o_kept : (Nat → Int32)} {o_wasKept : (Nat → Int32)} {o_silent : Int32} {o_clock : Int32} {o_sat : Int32} {o_done : Int32} {o_first : Int32} {o_vain : Int32} {o_lent : Int32} {o_forgiven : Int32} {o_seed : Int32} {p1 : Int32} {p2 : Int32} {p3 : Int32} {r : Int32 × (Nat → Int32) × Int32} (hf : f_X1_mayForgive fu o_owed o_forgiven p1 p2 p3 = some r) : Wr l D (gy g) yX1_mayForgive cX1_mayForgive 5 (some .boolean) 0 [.ref o_q0, .int p1, .int p2, .int p3] (wLi g o_q0 o_q1 o_q2 o_q3 o_q4 o_q5 o_q6 o_people o_hated o_purse o_owed o_seat o_kept o_wasKept o_silent o_clock o_sat o_done o_first o_vain o_lent o_forgiven o_seed) (wLi g o_q0 o_q1 o_q2 o_q3 o_q4 o_q5 o_q6 o_people o_hated o_purse r.2.1 o_seat o_kept o_wasKept o_silent o_clock o_sat o_done o_first o_vain o_lent r.2.2 o_seed) (some (.int r.1)) := by
  refine Wr.ofZ (by decide) (Nat.le_of_ble_eq_true rfl) ?_
  intro p e s m args below meth c Q A S hK hA hret ls hl hW
  have hl : lv_has ls 5 [(0, .ref o_q0), (1, .int p1), (2, .int p2), (3, .int p3)] := hl
  refine lv_bipush (v := 6) S.1 S.2.1 dX1_mayForgive_0 bp_6 ?_
  refine lv_iload_n S.1 S.2.1 dX1_mayForgive_2 rfl (lv_at hl 2 rfl) ?_
  refine lv_imul S.1 S.2.1 dX1_mayForgive_3 ?_
  refine lv_iload_n S.1 S.2.1 dX1_mayForgive_4 rfl (lv_at hl 1 rfl) ?_
  refine lv_iadd S.1 S.2.1 dX1_mayForgive_5 ?_
  refine lv_topi (fun x1 ex1 => ?_)
  have hf := ltn_e hf ex1
  refine lv_istore (lv' := [(4, .int x1), (0, .ref o_q0), (1, .int p1), (2, .int p2), (3, .int p3)]) S.1 S.2.1 dX1_mayForgive_6 hl (by decide) rfl (fun ls hl => ?_)
  refine lv_aload_n S.1 S.2.1 dX1_mayForgive_8 rfl (lv_at hl 1 rfl) ?_
  refine gfX1_22 S hK hW.1 0 rfl rfl dX1_mayForgive_9 ?_
  refine lv_iload S.1 S.2.1 dX1_mayForgive_12 (lv_at hl 0 rfl) ?_
  obtain ⟨x2, hx2, hf⟩ := bnd_e hf
  refine q_iald S hK hW.1 3 0 rfl rfl hx2 dX1_mayForgive_14 ?_
  refine lv_iload_n S.1 S.2.1 dX1_mayForgive_15 rfl (lv_at hl 4 rfl) ?_
  refine lv_icmp_ge (tgt := 21) S.1 S.2.1 dX1_mayForgive_16 (by decide) (fun c_ => ?_) (fun c_ => ?_)
  · have hf := it_p c_ hf
    refine lv_aload_n S.1 S.2.1 dX1_mayForgive_21 rfl (lv_at hl 1 rfl) ?_
    refine gfX1_22 S hK hW.1 0 rfl rfl dX1_mayForgive_22 ?_
    refine lv_iload S.1 S.2.1 dX1_mayForgive_25 (lv_at hl 0 rfl) ?_
    refine lv_dup2_11 S.1 S.2.1 dX1_mayForgive_27 rfl rfl ?_
    obtain ⟨x3, hx3, hf⟩ := bnd_e hf
    refine q_iald S hK hW.1 3 0 rfl rfl hx3 dX1_mayForgive_28 ?_
    refine lv_iload_n S.1 S.2.1 dX1_mayForgive_29 rfl (lv_at hl 4 rfl) ?_
    refine lv_isub S.1 S.2.1 dX1_mayForgive_30 ?_
    refine lv_topi (fun x4 ex4 => ?_)
    have hf := ltn_e hf ex4
    obtain ⟨x5, hx5, hf⟩ := bnd_e hf
    refine q_iast (ws2 := (wLi g o_q0 o_q1 o_q2 o_q3 o_q4 o_q5 o_q6 o_people o_hated o_purse x5 o_seat o_kept o_wasKept o_silent o_clock o_sat o_done o_first o_vain o_lent o_forgiven o_seed)) S hK hW 3 0 rfl rfl hx5 rfl dX1_mayForgive_31 (fun H locs hW => ?_)
    refine lv_aload_n S.1 S.2.1 dX1_mayForgive_32 rfl (lv_at hl 1 rfl) ?_
    refine lv_dup S.1 S.2.1 dX1_mayForgive_33 rfl ?_
    refine gfX1_55 S hK hW.1 0 rfl rfl dX1_mayForgive_34 ?_
    refine lv_iload_n S.1 S.2.1 dX1_mayForgive_37 rfl (lv_at hl 4 rfl) ?_
    refine lv_iadd S.1 S.2.1 dX1_mayForgive_38 ?_
    refine lv_topi (fun x6 ex6 => ?_)
    have hf := ltn_e hf ex6
    refine pfX1_55 (ws2 := (wLi g o_q0 o_q1 o_q2 o_q3 o_q4 o_q5 o_q6 o_people o_hated o_purse x5 o_seat o_kept o_wasKept o_silent o_clock o_sat o_done o_first o_vain o_lent x6 o_seed)) S hK hW 0 rfl rfl rfl (Nat.le_of_ble_eq_true rfl) rfl dX1_mayForgive_39 (fun H locs hW => ?_)
    refine lv_iconst (v := 1) S.1 S.2.1 dX1_mayForgive_42 ic_1 ?_
    have e_ := Option.some.inj hf
    subst e_
    exact hret _ _ _ _ (Or.inr rfl) dX1_mayForgive_43 hW
  · have hf := it_n c_ hf
    refine lv_iconst (v := 0) S.1 S.2.1 dX1_mayForgive_19 ic_0 ?_
    have e_ := Option.some.inj hf
    subst e_
    exact hret _ _ _ _ (Or.inl rfl) dX1_mayForgive_20 hW
def f_X1_mayLend (fu : Nat) (o_purse : (Nat → Int32)) (o_owed : (Nat → Int32)) (o_lent : Int32) (p1 : Int32) (p2 : Int32) (p3 : Int32) : Option (Int32 × (Nat → Int32) × (Nat → Int32) × Int32) := ltn (((6 : Int32) * p2) + p1) (fun x1 => bnd (α := Int32) (rdi 6 o_purse p1) (fun x2 => if x2 < p3 then some ((0 : Int32), o_purse, o_owed, o_lent) else bnd (α := Int32) (rdi 6 o_purse p2) (fun x3 => if (99 : Int32) < (x3 + p3) then some ((0 : Int32), o_purse, o_owed, o_lent) else bnd (α := Int32) (rdi 36 o_owed x1) (fun x4 => if (x4 + p3) ≤ (99 : Int32) then bnd (α := Int32) (rdi 6 o_purse p1) (fun x5 => ltn (x5 - p3) (fun x6 => bnd (α := (Nat → Int32)) (wri 6 o_purse p1 x6) (fun x7 => bnd (α := Int32) (rdi 6 x7 p2) (fun x8 => ltn (x8 + p3) (fun x9 => bnd (α := (Nat → Int32)) (wri 6 x7 p2 x9) (fun x10 => bnd (α := Int32) (rdi 36 o_owed x1) (fun x11 => ltn (x11 + p3) (fun x12 => bnd (α := (Nat → Int32)) (wri 36 o_owed x1 x12) (fun x13 => ltn (o_lent + p3) (fun x14 => some ((1 : Int32), x10, x13, x14))))))))))) else some ((0 : Int32), o_purse, o_owed, o_lent)))))
set_option maxHeartbeats 4000000 in
set_option maxRecDepth 100000 in
theorem c_X1_mayLend {l : Launch} {D : va_G} {g : Nat → ClassId} {fu : Nat} {o_q0 o_q1 o_q2 o_q3 o_q4 o_q5 o_q6 : Nat} {o_people : Int32} {o_hated : (Nat → Int32)} {o_purse : (Nat → Int32)} {o_owed : (Nat → Int32)} {o_seat : (Nat → Int32)} {o_kept : (Nat → Int32)} {o_wasKept : (Nat → Int32)} {o_silent : Int32} {o_clock : Int32} {o_sat : Int32} {o_done : Int32} {o_first : Int32} {o_vain : Int32} {o_lent : Int32} {o_forgiven : Int32} {o_seed : Int32} {p1 : Int32} {p2 : Int32} {p3 : Int32} {r : Int32 × (Nat → Int32) × (Nat → Int32) × Int32} (hf : f_X1_mayLend fu o_purse o_owed o_lent p1 p2 p3 = some r) : Wr l D (gy g) yX1_mayLend cX1_mayLend 5 (some .boolean) 0 [.ref o_q0, .int p1, .int p2, .int p3] (wLi g o_q0 o_q1 o_q2 o_q3 o_q4 o_q5 o_q6 o_people o_hated o_purse o_owed o_seat o_kept o_wasKept o_silent o_clock o_sat o_done o_first o_vain o_lent o_forgiven o_seed) (wLi g o_q0 o_q1 o_q2 o_q3 o_q4 o_q5 o_q6 o_people o_hated r.2.1 r.2.2.1 o_seat o_kept o_wasKept o_silent o_clock o_sat o_done o_first o_vain r.2.2.2 o_forgiven o_seed) (some (.int r.1)) := by
  refine Wr.ofZ (by decide) (Nat.le_of_ble_eq_true rfl) ?_
  intro p e s m args below meth c Q A S hK hA hret ls hl hW
  have hl : lv_has ls 5 [(0, .ref o_q0), (1, .int p1), (2, .int p2), (3, .int p3)] := hl
  refine lv_bipush (v := 6) S.1 S.2.1 dX1_mayLend_0 bp_6 ?_
  refine lv_iload_n S.1 S.2.1 dX1_mayLend_2 rfl (lv_at hl 2 rfl) ?_
  refine lv_imul S.1 S.2.1 dX1_mayLend_3 ?_
  refine lv_iload_n S.1 S.2.1 dX1_mayLend_4 rfl (lv_at hl 1 rfl) ?_
  refine lv_iadd S.1 S.2.1 dX1_mayLend_5 ?_
  refine lv_topi (fun x1 ex1 => ?_)
  have hf := ltn_e hf ex1
  refine lv_istore (lv' := [(4, .int x1), (0, .ref o_q0), (1, .int p1), (2, .int p2), (3, .int p3)]) S.1 S.2.1 dX1_mayLend_6 hl (by decide) rfl (fun ls hl => ?_)
  refine lv_aload_n S.1 S.2.1 dX1_mayLend_8 rfl (lv_at hl 1 rfl) ?_
  refine gfX1_19 S hK hW.1 0 rfl rfl dX1_mayLend_9 ?_
  refine lv_iload_n S.1 S.2.1 dX1_mayLend_12 rfl (lv_at hl 2 rfl) ?_
  obtain ⟨x2, hx2, hf⟩ := bnd_e hf
  refine q_iald S hK hW.1 2 0 rfl rfl hx2 dX1_mayLend_13 ?_
  refine lv_iload_n S.1 S.2.1 dX1_mayLend_14 rfl (lv_at hl 4 rfl) ?_
  refine lv_icmp_lt (tgt := 45) S.1 S.2.1 dX1_mayLend_15 (by decide) (fun c_ => ?_) (fun c_ => ?_)
  · have hf := it_p c_ hf
    refine lv_iconst (v := 0) S.1 S.2.1 dX1_mayLend_45 ic_0 ?_
    have e_ := Option.some.inj hf
    subst e_
    exact hret _ _ _ _ (Or.inl rfl) dX1_mayLend_46 hW
  · have hf := it_n c_ hf
    refine lv_aload_n S.1 S.2.1 dX1_mayLend_18 rfl (lv_at hl 1 rfl) ?_
    refine gfX1_19 S hK hW.1 0 rfl rfl dX1_mayLend_19 ?_
    refine lv_iload_n S.1 S.2.1 dX1_mayLend_22 rfl (lv_at hl 3 rfl) ?_
    obtain ⟨x3, hx3, hf⟩ := bnd_e hf
    refine q_iald S hK hW.1 2 0 rfl rfl hx3 dX1_mayLend_23 ?_
    refine lv_iload_n S.1 S.2.1 dX1_mayLend_24 rfl (lv_at hl 4 rfl) ?_
    refine lv_iadd S.1 S.2.1 dX1_mayLend_25 ?_
    refine lv_bipush (v := 99) S.1 S.2.1 dX1_mayLend_26 bp_99 ?_
    refine lv_icmp_gt (tgt := 45) S.1 S.2.1 dX1_mayLend_28 (by decide) (fun c_ => ?_) (fun c_ => ?_)
    · have hf := it_p c_ hf
      refine lv_iconst (v := 0) S.1 S.2.1 dX1_mayLend_45 ic_0 ?_
      have e_ := Option.some.inj hf
      subst e_
      exact hret _ _ _ _ (Or.inl rfl) dX1_mayLend_46 hW
    · have hf := it_n c_ hf
      refine lv_aload_n S.1 S.2.1 dX1_mayLend_31 rfl (lv_at hl 1 rfl) ?_
      refine gfX1_22 S hK hW.1 0 rfl rfl dX1_mayLend_32 ?_
      refine lv_iload S.1 S.2.1 dX1_mayLend_35 (lv_at hl 0 rfl) ?_
      obtain ⟨x4, hx4, hf⟩ := bnd_e hf
      refine q_iald S hK hW.1 3 0 rfl rfl hx4 dX1_mayLend_37 ?_
      refine lv_iload_n S.1 S.2.1 dX1_mayLend_38 rfl (lv_at hl 4 rfl) ?_
      refine lv_iadd S.1 S.2.1 dX1_mayLend_39 ?_
      refine lv_bipush (v := 99) S.1 S.2.1 dX1_mayLend_40 bp_99 ?_
      refine lv_icmp_le (tgt := 47) S.1 S.2.1 dX1_mayLend_42 (by decide) (fun c_ => ?_) (fun c_ => ?_)
      · have hf := it_p c_ hf
        refine lv_aload_n S.1 S.2.1 dX1_mayLend_47 rfl (lv_at hl 1 rfl) ?_
        refine gfX1_19 S hK hW.1 0 rfl rfl dX1_mayLend_48 ?_
        refine lv_iload_n S.1 S.2.1 dX1_mayLend_51 rfl (lv_at hl 2 rfl) ?_
        refine lv_dup2_11 S.1 S.2.1 dX1_mayLend_52 rfl rfl ?_
        obtain ⟨x5, hx5, hf⟩ := bnd_e hf
        refine q_iald S hK hW.1 2 0 rfl rfl hx5 dX1_mayLend_53 ?_
        refine lv_iload_n S.1 S.2.1 dX1_mayLend_54 rfl (lv_at hl 4 rfl) ?_
        refine lv_isub S.1 S.2.1 dX1_mayLend_55 ?_
        refine lv_topi (fun x6 ex6 => ?_)
        have hf := ltn_e hf ex6
        obtain ⟨x7, hx7, hf⟩ := bnd_e hf
        refine q_iast (ws2 := (wLi g o_q0 o_q1 o_q2 o_q3 o_q4 o_q5 o_q6 o_people o_hated x7 o_owed o_seat o_kept o_wasKept o_silent o_clock o_sat o_done o_first o_vain o_lent o_forgiven o_seed)) S hK hW 2 0 rfl rfl hx7 rfl dX1_mayLend_56 (fun H locs hW => ?_)
        refine lv_aload_n S.1 S.2.1 dX1_mayLend_57 rfl (lv_at hl 1 rfl) ?_
        refine gfX1_19 S hK hW.1 0 rfl rfl dX1_mayLend_58 ?_
        refine lv_iload_n S.1 S.2.1 dX1_mayLend_61 rfl (lv_at hl 3 rfl) ?_
        refine lv_dup2_11 S.1 S.2.1 dX1_mayLend_62 rfl rfl ?_
        obtain ⟨x8, hx8, hf⟩ := bnd_e hf
        refine q_iald S hK hW.1 2 0 rfl rfl hx8 dX1_mayLend_63 ?_
        refine lv_iload_n S.1 S.2.1 dX1_mayLend_64 rfl (lv_at hl 4 rfl) ?_
        refine lv_iadd S.1 S.2.1 dX1_mayLend_65 ?_
        refine lv_topi (fun x9 ex9 => ?_)
        have hf := ltn_e hf ex9
        obtain ⟨x10, hx10, hf⟩ := bnd_e hf
        refine q_iast (ws2 := (wLi g o_q0 o_q1 o_q2 o_q3 o_q4 o_q5 o_q6 o_people o_hated x10 o_owed o_seat o_kept o_wasKept o_silent o_clock o_sat o_done o_first o_vain o_lent o_forgiven o_seed)) S hK hW 2 0 rfl rfl hx10 rfl dX1_mayLend_66 (fun H locs hW => ?_)
        refine lv_aload_n S.1 S.2.1 dX1_mayLend_67 rfl (lv_at hl 1 rfl) ?_
        refine gfX1_22 S hK hW.1 0 rfl rfl dX1_mayLend_68 ?_
        refine lv_iload S.1 S.2.1 dX1_mayLend_71 (lv_at hl 0 rfl) ?_
        refine lv_dup2_11 S.1 S.2.1 dX1_mayLend_73 rfl rfl ?_
        obtain ⟨x11, hx11, hf⟩ := bnd_e hf
        refine q_iald S hK hW.1 3 0 rfl rfl hx11 dX1_mayLend_74 ?_
        refine lv_iload_n S.1 S.2.1 dX1_mayLend_75 rfl (lv_at hl 4 rfl) ?_
        refine lv_iadd S.1 S.2.1 dX1_mayLend_76 ?_
        refine lv_topi (fun x12 ex12 => ?_)
        have hf := ltn_e hf ex12
        obtain ⟨x13, hx13, hf⟩ := bnd_e hf
        refine q_iast (ws2 := (wLi g o_q0 o_q1 o_q2 o_q3 o_q4 o_q5 o_q6 o_people o_hated x10 x13 o_seat o_kept o_wasKept o_silent o_clock o_sat o_done o_first o_vain o_lent o_forgiven o_seed)) S hK hW 3 0 rfl rfl hx13 rfl dX1_mayLend_77 (fun H locs hW => ?_)
        refine lv_aload_n S.1 S.2.1 dX1_mayLend_78 rfl (lv_at hl 1 rfl) ?_
        refine lv_dup S.1 S.2.1 dX1_mayLend_79 rfl ?_
        refine gfX1_52 S hK hW.1 0 rfl rfl dX1_mayLend_80 ?_
        refine lv_iload_n S.1 S.2.1 dX1_mayLend_83 rfl (lv_at hl 4 rfl) ?_
        refine lv_iadd S.1 S.2.1 dX1_mayLend_84 ?_
        refine lv_topi (fun x14 ex14 => ?_)
        have hf := ltn_e hf ex14
        refine pfX1_52 (ws2 := (wLi g o_q0 o_q1 o_q2 o_q3 o_q4 o_q5 o_q6 o_people o_hated x10 x13 o_seat o_kept o_wasKept o_silent o_clock o_sat o_done o_first o_vain x14 o_forgiven o_seed)) S hK hW 0 rfl rfl rfl (Nat.le_of_ble_eq_true rfl) rfl dX1_mayLend_85 (fun H locs hW => ?_)
        refine lv_iconst (v := 1) S.1 S.2.1 dX1_mayLend_88 ic_1 ?_
        have e_ := Option.some.inj hf
        subst e_
        exact hret _ _ _ _ (Or.inr rfl) dX1_mayLend_89 hW
      · have hf := it_n c_ hf
        refine lv_iconst (v := 0) S.1 S.2.1 dX1_mayLend_45 ic_0 ?_
        have e_ := Option.some.inj hf
        subst e_
        exact hret _ _ _ _ (Or.inl rfl) dX1_mayLend_46 hW
def f_X1_mayPay (fu : Nat) (o_purse : (Nat → Int32)) (o_owed : (Nat → Int32)) (p1 : Int32) (p2 : Int32) (p3 : Int32) : Option (Int32 × (Nat → Int32) × (Nat → Int32)) := ltn (((6 : Int32) * p1) + p2) (fun x1 => bnd (α := Int32) (rdi 36 o_owed x1) (fun x2 => if x2 < p3 then some ((0 : Int32), o_purse, o_owed) else bnd (α := Int32) (rdi 6 o_purse p1) (fun x3 => if x3 < p3 then some ((0 : Int32), o_purse, o_owed) else bnd (α := Int32) (rdi 6 o_purse p2) (fun x4 => if (x4 + p3) ≤ (99 : Int32) then bnd (α := Int32) (rdi 6 o_purse p1) (fun x5 => ltn (x5 - p3) (fun x6 => bnd (α := (Nat → Int32)) (wri 6 o_purse p1 x6) (fun x7 => bnd (α := Int32) (rdi 6 x7 p2) (fun x8 => ltn (x8 + p3) (fun x9 => bnd (α := (Nat → Int32)) (wri 6 x7 p2 x9) (fun x10 => bnd (α := Int32) (rdi 36 o_owed x1) (fun x11 => ltn (x11 - p3) (fun x12 => bnd (α := (Nat → Int32)) (wri 36 o_owed x1 x12) (fun x13 => some ((1 : Int32), x10, x13)))))))))) else some ((0 : Int32), o_purse, o_owed)))))
set_option maxHeartbeats 4000000 in
set_option maxRecDepth 100000 in
theorem c_X1_mayPay {l : Launch} {D : va_G} {g : Nat → ClassId} {fu : Nat} {o_q0 o_q1 o_q2 o_q3 o_q4 o_q5 o_q6 : Nat} {o_people : Int32} {o_hated : (Nat → Int32)} {o_purse : (Nat → Int32)} {o_owed : (Nat → Int32)} {o_seat : (Nat → Int32)} {o_kept : (Nat → Int32)} {o_wasKept : (Nat → Int32)} {o_silent : Int32} {o_clock : Int32} {o_sat : Int32} {o_done : Int32} {o_first : Int32} {o_vain : Int32} {o_lent : Int32} {o_forgiven : Int32} {o_seed : Int32} {p1 : Int32} {p2 : Int32} {p3 : Int32} {r : Int32 × (Nat → Int32) × (Nat → Int32)} (hf : f_X1_mayPay fu o_purse o_owed p1 p2 p3 = some r) : Wr l D (gy g) yX1_mayPay cX1_mayPay 5 (some .boolean) 0 [.ref o_q0, .int p1, .int p2, .int p3] (wLi g o_q0 o_q1 o_q2 o_q3 o_q4 o_q5 o_q6 o_people o_hated o_purse o_owed o_seat o_kept o_wasKept o_silent o_clock o_sat o_done o_first o_vain o_lent o_forgiven o_seed) (wLi g o_q0 o_q1 o_q2 o_q3 o_q4 o_q5 o_q6 o_people o_hated r.2.1 r.2.2 o_seat o_kept o_wasKept o_silent o_clock o_sat o_done o_first o_vain o_lent o_forgiven o_seed) (some (.int r.1)) := by
  refine Wr.ofZ (by decide) (Nat.le_of_ble_eq_true rfl) ?_
  intro p e s m args below meth c Q A S hK hA hret ls hl hW
  have hl : lv_has ls 5 [(0, .ref o_q0), (1, .int p1), (2, .int p2), (3, .int p3)] := hl
  refine lv_bipush (v := 6) S.1 S.2.1 dX1_mayPay_0 bp_6 ?_
  refine lv_iload_n S.1 S.2.1 dX1_mayPay_2 rfl (lv_at hl 1 rfl) ?_
  refine lv_imul S.1 S.2.1 dX1_mayPay_3 ?_
  refine lv_iload_n S.1 S.2.1 dX1_mayPay_4 rfl (lv_at hl 2 rfl) ?_
  refine lv_iadd S.1 S.2.1 dX1_mayPay_5 ?_
  refine lv_topi (fun x1 ex1 => ?_)
  have hf := ltn_e hf ex1
  refine lv_istore (lv' := [(4, .int x1), (0, .ref o_q0), (1, .int p1), (2, .int p2), (3, .int p3)]) S.1 S.2.1 dX1_mayPay_6 hl (by decide) rfl (fun ls hl => ?_)
  refine lv_aload_n S.1 S.2.1 dX1_mayPay_8 rfl (lv_at hl 1 rfl) ?_
  refine gfX1_22 S hK hW.1 0 rfl rfl dX1_mayPay_9 ?_
  refine lv_iload S.1 S.2.1 dX1_mayPay_12 (lv_at hl 0 rfl) ?_
  obtain ⟨x2, hx2, hf⟩ := bnd_e hf
  refine q_iald S hK hW.1 3 0 rfl rfl hx2 dX1_mayPay_14 ?_
  refine lv_iload_n S.1 S.2.1 dX1_mayPay_15 rfl (lv_at hl 4 rfl) ?_
  refine lv_icmp_lt (tgt := 42) S.1 S.2.1 dX1_mayPay_16 (by decide) (fun c_ => ?_) (fun c_ => ?_)
  · have hf := it_p c_ hf
    refine lv_iconst (v := 0) S.1 S.2.1 dX1_mayPay_42 ic_0 ?_
    have e_ := Option.some.inj hf
    subst e_
    exact hret _ _ _ _ (Or.inl rfl) dX1_mayPay_43 hW
  · have hf := it_n c_ hf
    refine lv_aload_n S.1 S.2.1 dX1_mayPay_19 rfl (lv_at hl 1 rfl) ?_
    refine gfX1_19 S hK hW.1 0 rfl rfl dX1_mayPay_20 ?_
    refine lv_iload_n S.1 S.2.1 dX1_mayPay_23 rfl (lv_at hl 2 rfl) ?_
    obtain ⟨x3, hx3, hf⟩ := bnd_e hf
    refine q_iald S hK hW.1 2 0 rfl rfl hx3 dX1_mayPay_24 ?_
    refine lv_iload_n S.1 S.2.1 dX1_mayPay_25 rfl (lv_at hl 4 rfl) ?_
    refine lv_icmp_lt (tgt := 42) S.1 S.2.1 dX1_mayPay_26 (by decide) (fun c_ => ?_) (fun c_ => ?_)
    · have hf := it_p c_ hf
      refine lv_iconst (v := 0) S.1 S.2.1 dX1_mayPay_42 ic_0 ?_
      have e_ := Option.some.inj hf
      subst e_
      exact hret _ _ _ _ (Or.inl rfl) dX1_mayPay_43 hW
    · have hf := it_n c_ hf
      refine lv_aload_n S.1 S.2.1 dX1_mayPay_29 rfl (lv_at hl 1 rfl) ?_
      refine gfX1_19 S hK hW.1 0 rfl rfl dX1_mayPay_30 ?_
      refine lv_iload_n S.1 S.2.1 dX1_mayPay_33 rfl (lv_at hl 3 rfl) ?_
      obtain ⟨x4, hx4, hf⟩ := bnd_e hf
      refine q_iald S hK hW.1 2 0 rfl rfl hx4 dX1_mayPay_34 ?_
      refine lv_iload_n S.1 S.2.1 dX1_mayPay_35 rfl (lv_at hl 4 rfl) ?_
      refine lv_iadd S.1 S.2.1 dX1_mayPay_36 ?_
      refine lv_bipush (v := 99) S.1 S.2.1 dX1_mayPay_37 bp_99 ?_
      refine lv_icmp_le (tgt := 44) S.1 S.2.1 dX1_mayPay_39 (by decide) (fun c_ => ?_) (fun c_ => ?_)
      · have hf := it_p c_ hf
        refine lv_aload_n S.1 S.2.1 dX1_mayPay_44 rfl (lv_at hl 1 rfl) ?_
        refine gfX1_19 S hK hW.1 0 rfl rfl dX1_mayPay_45 ?_
        refine lv_iload_n S.1 S.2.1 dX1_mayPay_48 rfl (lv_at hl 2 rfl) ?_
        refine lv_dup2_11 S.1 S.2.1 dX1_mayPay_49 rfl rfl ?_
        obtain ⟨x5, hx5, hf⟩ := bnd_e hf
        refine q_iald S hK hW.1 2 0 rfl rfl hx5 dX1_mayPay_50 ?_
        refine lv_iload_n S.1 S.2.1 dX1_mayPay_51 rfl (lv_at hl 4 rfl) ?_
        refine lv_isub S.1 S.2.1 dX1_mayPay_52 ?_
        refine lv_topi (fun x6 ex6 => ?_)
        have hf := ltn_e hf ex6
        obtain ⟨x7, hx7, hf⟩ := bnd_e hf
        refine q_iast (ws2 := (wLi g o_q0 o_q1 o_q2 o_q3 o_q4 o_q5 o_q6 o_people o_hated x7 o_owed o_seat o_kept o_wasKept o_silent o_clock o_sat o_done o_first o_vain o_lent o_forgiven o_seed)) S hK hW 2 0 rfl rfl hx7 rfl dX1_mayPay_53 (fun H locs hW => ?_)
        refine lv_aload_n S.1 S.2.1 dX1_mayPay_54 rfl (lv_at hl 1 rfl) ?_
        refine gfX1_19 S hK hW.1 0 rfl rfl dX1_mayPay_55 ?_
        refine lv_iload_n S.1 S.2.1 dX1_mayPay_58 rfl (lv_at hl 3 rfl) ?_
        refine lv_dup2_11 S.1 S.2.1 dX1_mayPay_59 rfl rfl ?_
        obtain ⟨x8, hx8, hf⟩ := bnd_e hf
        refine q_iald S hK hW.1 2 0 rfl rfl hx8 dX1_mayPay_60 ?_
        refine lv_iload_n S.1 S.2.1 dX1_mayPay_61 rfl (lv_at hl 4 rfl) ?_
        refine lv_iadd S.1 S.2.1 dX1_mayPay_62 ?_
        refine lv_topi (fun x9 ex9 => ?_)
        have hf := ltn_e hf ex9
        obtain ⟨x10, hx10, hf⟩ := bnd_e hf
        refine q_iast (ws2 := (wLi g o_q0 o_q1 o_q2 o_q3 o_q4 o_q5 o_q6 o_people o_hated x10 o_owed o_seat o_kept o_wasKept o_silent o_clock o_sat o_done o_first o_vain o_lent o_forgiven o_seed)) S hK hW 2 0 rfl rfl hx10 rfl dX1_mayPay_63 (fun H locs hW => ?_)
        refine lv_aload_n S.1 S.2.1 dX1_mayPay_64 rfl (lv_at hl 1 rfl) ?_
        refine gfX1_22 S hK hW.1 0 rfl rfl dX1_mayPay_65 ?_
        refine lv_iload S.1 S.2.1 dX1_mayPay_68 (lv_at hl 0 rfl) ?_
        refine lv_dup2_11 S.1 S.2.1 dX1_mayPay_70 rfl rfl ?_
        obtain ⟨x11, hx11, hf⟩ := bnd_e hf
        refine q_iald S hK hW.1 3 0 rfl rfl hx11 dX1_mayPay_71 ?_
        refine lv_iload_n S.1 S.2.1 dX1_mayPay_72 rfl (lv_at hl 4 rfl) ?_
        refine lv_isub S.1 S.2.1 dX1_mayPay_73 ?_
        refine lv_topi (fun x12 ex12 => ?_)
        have hf := ltn_e hf ex12
        obtain ⟨x13, hx13, hf⟩ := bnd_e hf
        refine q_iast (ws2 := (wLi g o_q0 o_q1 o_q2 o_q3 o_q4 o_q5 o_q6 o_people o_hated x10 x13 o_seat o_kept o_wasKept o_silent o_clock o_sat o_done o_first o_vain o_lent o_forgiven o_seed)) S hK hW 3 0 rfl rfl hx13 rfl dX1_mayPay_74 (fun H locs hW => ?_)
        refine lv_iconst (v := 1) S.1 S.2.1 dX1_mayPay_75 ic_1 ?_
        have e_ := Option.some.inj hf
        subst e_
        exact hret _ _ _ _ (Or.inr rfl) dX1_mayPay_76 hW
      · have hf := it_n c_ hf
        refine lv_iconst (v := 0) S.1 S.2.1 dX1_mayPay_42 ic_0 ?_
        have e_ := Option.some.inj hf
        subst e_
        exact hret _ _ _ _ (Or.inl rfl) dX1_mayPay_43 hW
def f_X1_mayDo (fu : Nat) (o_people : Int32) (o_hated : (Nat → Int32)) (o_purse : (Nat → Int32)) (o_owed : (Nat → Int32)) (o_seat : (Nat → Int32)) (o_kept : (Nat → Int32)) (o_wasKept : (Nat → Int32)) (o_silent : Int32) (o_clock : Int32) (o_sat : Int32) (o_done : Int32) (o_first : Int32) (o_vain : Int32) (o_lent : Int32) (o_forgiven : Int32) (p1 : Int32) (p2 : Int32) (p3 : Int32) (p4 : Int32) : Option (Int32 × (Nat → Int32) × (Nat → Int32) × (Nat → Int32) × (Nat → Int32) × (Nat → Int32) × Int32 × Int32 × Int32 × Int32 × Int32 × Int32 × Int32) := if p1 = (6 : Int32) then bnd (α := (Nat → Int32) × (Nat → Int32) × Int32) (f_X1_nextHour fu o_owed o_seat o_clock) (fun x1 => some ((1 : Int32), o_purse, x1.1, x1.2.1, o_kept, o_wasKept, o_silent, x1.2.2, o_sat, o_first, o_vain, o_lent, o_forgiven)) else bnd (α := Int32) (f_X1_has fu o_people p2) (fun x2 => if x2 = 0 then some ((0 : Int32), o_purse, o_owed, o_seat, o_kept, o_wasKept, o_silent, o_clock, o_sat, o_first, o_vain, o_lent, o_forgiven) else if p1 = (4 : Int32) then ltn (o_silent ||| (jshl (1 : Int32) p2)) (fun x3 => some ((1 : Int32), o_purse, o_owed, o_seat, o_kept, o_wasKept, x3, o_clock, o_sat, o_first, o_vain, o_lent, o_forgiven)) else if p1 = (5 : Int32) then ltn (o_silent &&& ((jshl (1 : Int32) p2) ^^^ (-1 : Int32))) (fun x4 => some ((1 : Int32), o_purse, o_owed, o_seat, o_kept, o_wasKept, x4, o_clock, o_sat, o_first, o_vain, o_lent, o_forgiven)) else bnd (α := Int32) (f_X1_has fu o_people p3) (fun x5 => if x5 = 0 then some ((0 : Int32), o_purse, o_owed, o_seat, o_kept, o_wasKept, o_silent, o_clock, o_sat, o_first, o_vain, o_lent, o_forgiven) else if p1 = 0 then bnd (α := Int32 × (Nat → Int32) × (Nat → Int32) × (Nat → Int32) × (Nat → Int32) × Int32 × Int32 × Int32) (f_X1_maySit fu o_people o_hated o_owed o_seat o_kept o_wasKept o_silent o_sat o_done o_first o_vain p2 p3) (fun x6 => bnd (α := Int32) (bz x6.1) (fun z7 => some (z7, o_purse, x6.2.1, x6.2.2.1, x6.2.2.2.1, x6.2.2.2.2.1, o_silent, o_clock, x6.2.2.2.2.2.1, x6.2.2.2.2.2.2.1, x6.2.2.2.2.2.2.2, o_lent, o_forgiven))) else if p1 = (3 : Int32) then bnd (α := Int32 × (Nat → Int32) × Int32) (f_X1_mayForgive fu o_owed o_forgiven p2 p3 p4) (fun x8 => bnd (α := Int32) (bz x8.1) (fun z9 => some (z9, o_purse, x8.2.1, o_seat, o_kept, o_wasKept, o_silent, o_clock, o_sat, o_first, o_vain, o_lent, x8.2.2))) else if p1 = (1 : Int32) then bnd (α := Int32 × (Nat → Int32) × (Nat → Int32) × Int32) (f_X1_mayLend fu o_purse o_owed o_lent p2 p3 p4) (fun x10 => bnd (α := Int32) (bz x10.1) (fun z11 => some (z11, x10.2.1, x10.2.2.1, o_seat, o_kept, o_wasKept, o_silent, o_clock, o_sat, o_first, o_vain, x10.2.2.2, o_forgiven))) else bnd (α := Int32 × (Nat → Int32) × (Nat → Int32)) (f_X1_mayPay fu o_purse o_owed p2 p3 p4) (fun x12 => bnd (α := Int32) (bz x12.1) (fun z13 => some (z13, x12.2.1, x12.2.2, o_seat, o_kept, o_wasKept, o_silent, o_clock, o_sat, o_first, o_vain, o_lent, o_forgiven)))))
set_option maxHeartbeats 4000000 in
set_option maxRecDepth 100000 in
theorem c_X1_mayDo {l : Launch} {D : va_G} {g : Nat → ClassId} {fu : Nat} {o_q0 o_q1 o_q2 o_q3 o_q4 o_q5 o_q6 : Nat} {o_people : Int32} {o_hated : (Nat → Int32)} {o_purse : (Nat → Int32)} {o_owed : (Nat → Int32)} {o_seat : (Nat → Int32)} {o_kept : (Nat → Int32)} {o_wasKept : (Nat → Int32)} {o_silent : Int32} {o_clock : Int32} {o_sat : Int32} {o_done : Int32} {o_first : Int32} {o_vain : Int32} {o_lent : Int32} {o_forgiven : Int32} {o_seed : Int32} {p1 : Int32} {p2 : Int32} {p3 : Int32} {p4 : Int32} {r : Int32 × (Nat → Int32) × (Nat → Int32) × (Nat → Int32) × (Nat → Int32) × (Nat → Int32) × Int32 × Int32 × Int32 × Int32 × Int32 × Int32 × Int32} (hf : f_X1_mayDo fu o_people o_hated o_purse o_owed o_seat o_kept o_wasKept o_silent o_clock o_sat o_done o_first o_vain o_lent o_forgiven p1 p2 p3 p4 = some r) : Wr l D (gy g) yX1_mayDo cX1_mayDo 5 (some .boolean) 3 [.ref o_q0, .int p1, .int p2, .int p3, .int p4] (wLi g o_q0 o_q1 o_q2 o_q3 o_q4 o_q5 o_q6 o_people o_hated o_purse o_owed o_seat o_kept o_wasKept o_silent o_clock o_sat o_done o_first o_vain o_lent o_forgiven o_seed) (wLi g o_q0 o_q1 o_q2 o_q3 o_q4 o_q5 o_q6 o_people o_hated r.2.1 r.2.2.1 r.2.2.2.1 r.2.2.2.2.1 r.2.2.2.2.2.1 r.2.2.2.2.2.2.1 r.2.2.2.2.2.2.2.1 r.2.2.2.2.2.2.2.2.1 o_done r.2.2.2.2.2.2.2.2.2.1 r.2.2.2.2.2.2.2.2.2.2.1 r.2.2.2.2.2.2.2.2.2.2.2.1 r.2.2.2.2.2.2.2.2.2.2.2.2 o_seed) (some (.int r.1)) := by
  refine Wr.ofZ (by decide) (Nat.le_of_ble_eq_true rfl) ?_
  intro p e s m args below meth c Q A S hK hA hret ls hl hW
  have hl : lv_has ls 5 [(0, .ref o_q0), (1, .int p1), (2, .int p2), (3, .int p3), (4, .int p4)] := hl
  refine lv_iload_n S.1 S.2.1 dX1_mayDo_0 rfl (lv_at hl 1 rfl) ?_
  refine lv_bipush (v := 6) S.1 S.2.1 dX1_mayDo_1 bp_6 ?_
  refine lv_icmp_ne (tgt := 12) S.1 S.2.1 dX1_mayDo_3 (by decide) (fun c_ => ?_) (fun c_ => ?_)
  · have hf := it_n c_ hf
    refine lv_aload_n S.1 S.2.1 dX1_mayDo_12 rfl (lv_at hl 0 rfl) ?_
    refine lv_iload_n S.1 S.2.1 dX1_mayDo_13 rfl (lv_at hl 2 rfl) ?_
    obtain ⟨x2, hx2, hf⟩ := bnd_e hf
    refine Rd.cV (c_X1_has hx2) S hK hW.1 0 0 rfl rfl kVX1_113 rfl hl.1 [] rfl (Nat.le_of_ble_eq_true rfl) ⟨(Nat.le_of_ble_eq_true rfl), (Nat.le_of_ble_eq_true rfl)⟩ ⟨(Nat.zero_le _), (Nat.zero_le _)⟩ dX1_mayDo_14 ?_
    refine lv_if_ne (tgt := 22) S.1 S.2.1 dX1_mayDo_17 (by decide) (fun c_ => ?_) (fun c_ => ?_)
    · have hf := it_n c_ hf
      refine lv_iload_n S.1 S.2.1 dX1_mayDo_22 rfl (lv_at hl 1 rfl) ?_
      refine lv_iconst (v := 4) S.1 S.2.1 dX1_mayDo_23 ic_4 ?_
      refine lv_icmp_ne (tgt := 41) S.1 S.2.1 dX1_mayDo_24 (by decide) (fun c_ => ?_) (fun c_ => ?_)
      · have hf := it_n c_ hf
        refine lv_iload_n S.1 S.2.1 dX1_mayDo_41 rfl (lv_at hl 1 rfl) ?_
        refine lv_iconst (v := 5) S.1 S.2.1 dX1_mayDo_42 ic_5 ?_
        refine lv_icmp_ne (tgt := 62) S.1 S.2.1 dX1_mayDo_43 (by decide) (fun c_ => ?_) (fun c_ => ?_)
        · have hf := it_n c_ hf
          refine lv_aload_n S.1 S.2.1 dX1_mayDo_62 rfl (lv_at hl 0 rfl) ?_
          refine lv_iload_n S.1 S.2.1 dX1_mayDo_63 rfl (lv_at hl 3 rfl) ?_
          obtain ⟨x5, hx5, hf⟩ := bnd_e hf
          refine Rd.cV (c_X1_has hx5) S hK hW.1 0 0 rfl rfl kVX1_113 rfl hl.1 [] rfl (Nat.le_of_ble_eq_true rfl) ⟨(Nat.le_of_ble_eq_true rfl), (Nat.le_of_ble_eq_true rfl)⟩ ⟨(Nat.zero_le _), (Nat.zero_le _)⟩ dX1_mayDo_64 ?_
          refine lv_if_ne (tgt := 72) S.1 S.2.1 dX1_mayDo_67 (by decide) (fun c_ => ?_) (fun c_ => ?_)
          · have hf := it_n c_ hf
            refine lv_iload_n S.1 S.2.1 dX1_mayDo_72 rfl (lv_at hl 1 rfl) ?_
            refine lv_if_ne (tgt := 83) S.1 S.2.1 dX1_mayDo_73 (by decide) (fun c_ => ?_) (fun c_ => ?_)
            · have hf := it_n c_ hf
              refine lv_iload_n S.1 S.2.1 dX1_mayDo_83 rfl (lv_at hl 1 rfl) ?_
              refine lv_iconst (v := 3) S.1 S.2.1 dX1_mayDo_84 ic_3 ?_
              refine lv_icmp_ne (tgt := 97) S.1 S.2.1 dX1_mayDo_85 (by decide) (fun c_ => ?_) (fun c_ => ?_)
              · have hf := it_n c_ hf
                refine lv_iload_n S.1 S.2.1 dX1_mayDo_97 rfl (lv_at hl 1 rfl) ?_
                refine lv_iconst (v := 1) S.1 S.2.1 dX1_mayDo_98 ic_1 ?_
                refine lv_icmp_ne (tgt := 113) S.1 S.2.1 dX1_mayDo_99 (by decide) (fun c_ => ?_) (fun c_ => ?_)
                · have hf := it_n c_ hf
                  refine lv_aload_n S.1 S.2.1 dX1_mayDo_113 rfl (lv_at hl 0 rfl) ?_
                  refine lv_iload_n S.1 S.2.1 dX1_mayDo_114 rfl (lv_at hl 2 rfl) ?_
                  refine lv_iload_n S.1 S.2.1 dX1_mayDo_115 rfl (lv_at hl 3 rfl) ?_
                  refine lv_iload S.1 S.2.1 dX1_mayDo_116 (lv_at hl 4 rfl) ?_
                  obtain ⟨x12, hx12, hf⟩ := bnd_e hf
                  refine Wr.goW (Wr.runV (c_X1_mayPay hx12) S hK hW.1 hW.2.1 0 0 rfl rfl kVX1_128 rfl hl.1 [] rfl (Nat.le_of_ble_eq_true rfl) ⟨(Nat.le_of_ble_eq_true rfl), (Nat.le_of_ble_eq_true rfl)⟩ ⟨(Nat.zero_le _), (Nat.zero_le _)⟩ dX1_mayDo_118) hW hA (fun H locs hW => ?_)
                  obtain ⟨z13, hz13, hf⟩ := bnd_e hf
                  obtain ⟨hzz13, ezz13⟩ := bz_e hz13
                  rw [ezz13]
                  have e_ := Option.some.inj hf
                  subst e_
                  exact hret _ _ _ _ hzz13 dX1_mayDo_121 hW
                · have hf := it_p c_ hf
                  refine lv_aload_n S.1 S.2.1 dX1_mayDo_102 rfl (lv_at hl 0 rfl) ?_
                  refine lv_iload_n S.1 S.2.1 dX1_mayDo_103 rfl (lv_at hl 2 rfl) ?_
                  refine lv_iload_n S.1 S.2.1 dX1_mayDo_104 rfl (lv_at hl 3 rfl) ?_
                  refine lv_iload S.1 S.2.1 dX1_mayDo_105 (lv_at hl 4 rfl) ?_
                  obtain ⟨x10, hx10, hf⟩ := bnd_e hf
                  refine Wr.goW (Wr.runV (c_X1_mayLend hx10) S hK hW.1 hW.2.1 0 0 rfl rfl kVX1_125 rfl hl.1 [] rfl (Nat.le_of_ble_eq_true rfl) ⟨(Nat.le_of_ble_eq_true rfl), (Nat.le_of_ble_eq_true rfl)⟩ ⟨(Nat.zero_le _), (Nat.zero_le _)⟩ dX1_mayDo_107) hW hA (fun H locs hW => ?_)
                  refine lv_goto (tgt := 121) S.1 S.2.1 dX1_mayDo_110 (by decide) ?_
                  obtain ⟨z11, hz11, hf⟩ := bnd_e hf
                  obtain ⟨hzz11, ezz11⟩ := bz_e hz11
                  rw [ezz11]
                  have e_ := Option.some.inj hf
                  subst e_
                  exact hret _ _ _ _ hzz11 dX1_mayDo_121 hW
              · have hf := it_p c_ hf
                refine lv_aload_n S.1 S.2.1 dX1_mayDo_88 rfl (lv_at hl 0 rfl) ?_
                refine lv_iload_n S.1 S.2.1 dX1_mayDo_89 rfl (lv_at hl 2 rfl) ?_
                refine lv_iload_n S.1 S.2.1 dX1_mayDo_90 rfl (lv_at hl 3 rfl) ?_
                refine lv_iload S.1 S.2.1 dX1_mayDo_91 (lv_at hl 4 rfl) ?_
                obtain ⟨x8, hx8, hf⟩ := bnd_e hf
                refine Wr.goW (Wr.runV (c_X1_mayForgive hx8) S hK hW.1 hW.2.1 0 0 rfl rfl kVX1_121 rfl hl.1 [] rfl (Nat.le_of_ble_eq_true rfl) ⟨(Nat.le_of_ble_eq_true rfl), (Nat.le_of_ble_eq_true rfl)⟩ ⟨(Nat.zero_le _), (Nat.zero_le _)⟩ dX1_mayDo_93) hW hA (fun H locs hW => ?_)
                obtain ⟨z9, hz9, hf⟩ := bnd_e hf
                obtain ⟨hzz9, ezz9⟩ := bz_e hz9
                rw [ezz9]
                have e_ := Option.some.inj hf
                subst e_
                exact hret _ _ _ _ hzz9 dX1_mayDo_96 hW
            · have hf := it_p c_ hf
              refine lv_aload_n S.1 S.2.1 dX1_mayDo_76 rfl (lv_at hl 0 rfl) ?_
              refine lv_iload_n S.1 S.2.1 dX1_mayDo_77 rfl (lv_at hl 2 rfl) ?_
              refine lv_iload_n S.1 S.2.1 dX1_mayDo_78 rfl (lv_at hl 3 rfl) ?_
              obtain ⟨x6, hx6, hf⟩ := bnd_e hf
              refine Wr.goW (Wr.runV (c_X1_maySit hx6) S hK hW.1 hW.2.1 0 0 rfl rfl kVX1_117 rfl hl.1 [] rfl (Nat.le_of_ble_eq_true rfl) ⟨(Nat.le_of_ble_eq_true rfl), (Nat.le_of_ble_eq_true rfl)⟩ ⟨(Nat.zero_le _), (Nat.zero_le _)⟩ dX1_mayDo_79) hW hA (fun H locs hW => ?_)
              obtain ⟨z7, hz7, hf⟩ := bnd_e hf
              obtain ⟨hzz7, ezz7⟩ := bz_e hz7
              rw [ezz7]
              have e_ := Option.some.inj hf
              subst e_
              exact hret _ _ _ _ hzz7 dX1_mayDo_82 hW
          · have hf := it_p c_ hf
            refine lv_iconst (v := 0) S.1 S.2.1 dX1_mayDo_70 ic_0 ?_
            have e_ := Option.some.inj hf
            subst e_
            exact hret _ _ _ _ (Or.inl rfl) dX1_mayDo_71 hW
        · have hf := it_p c_ hf
          refine lv_aload_n S.1 S.2.1 dX1_mayDo_46 rfl (lv_at hl 0 rfl) ?_
          refine lv_dup S.1 S.2.1 dX1_mayDo_47 rfl ?_
          refine gfX1_34 S hK hW.1 0 rfl rfl dX1_mayDo_48 ?_
          refine lv_iconst (v := 1) S.1 S.2.1 dX1_mayDo_51 ic_1 ?_
          refine lv_iload_n S.1 S.2.1 dX1_mayDo_52 rfl (lv_at hl 2 rfl) ?_
          refine lv_ishl S.1 S.2.1 dX1_mayDo_53 ?_
          refine lv_iconst (v := (-1)) S.1 S.2.1 dX1_mayDo_54 ic_m1 ?_
          refine lv_ixor S.1 S.2.1 dX1_mayDo_55 ?_
          refine lv_iand S.1 S.2.1 dX1_mayDo_56 ?_
          refine lv_topi (fun x4 ex4 => ?_)
          have hf := ltn_e hf ex4
          refine pfX1_34 (ws2 := (wLi g o_q0 o_q1 o_q2 o_q3 o_q4 o_q5 o_q6 o_people o_hated o_purse o_owed o_seat o_kept o_wasKept x4 o_clock o_sat o_done o_first o_vain o_lent o_forgiven o_seed)) S hK hW 0 rfl rfl rfl (Nat.le_of_ble_eq_true rfl) rfl dX1_mayDo_57 (fun H locs hW => ?_)
          refine lv_iconst (v := 1) S.1 S.2.1 dX1_mayDo_60 ic_1 ?_
          have e_ := Option.some.inj hf
          subst e_
          exact hret _ _ _ _ (Or.inr rfl) dX1_mayDo_61 hW
      · have hf := it_p c_ hf
        refine lv_aload_n S.1 S.2.1 dX1_mayDo_27 rfl (lv_at hl 0 rfl) ?_
        refine lv_dup S.1 S.2.1 dX1_mayDo_28 rfl ?_
        refine gfX1_34 S hK hW.1 0 rfl rfl dX1_mayDo_29 ?_
        refine lv_iconst (v := 1) S.1 S.2.1 dX1_mayDo_32 ic_1 ?_
        refine lv_iload_n S.1 S.2.1 dX1_mayDo_33 rfl (lv_at hl 2 rfl) ?_
        refine lv_ishl S.1 S.2.1 dX1_mayDo_34 ?_
        refine lv_ior S.1 S.2.1 dX1_mayDo_35 ?_
        refine lv_topi (fun x3 ex3 => ?_)
        have hf := ltn_e hf ex3
        refine pfX1_34 (ws2 := (wLi g o_q0 o_q1 o_q2 o_q3 o_q4 o_q5 o_q6 o_people o_hated o_purse o_owed o_seat o_kept o_wasKept x3 o_clock o_sat o_done o_first o_vain o_lent o_forgiven o_seed)) S hK hW 0 rfl rfl rfl (Nat.le_of_ble_eq_true rfl) rfl dX1_mayDo_36 (fun H locs hW => ?_)
        refine lv_iconst (v := 1) S.1 S.2.1 dX1_mayDo_39 ic_1 ?_
        have e_ := Option.some.inj hf
        subst e_
        exact hret _ _ _ _ (Or.inr rfl) dX1_mayDo_40 hW
    · have hf := it_p c_ hf
      refine lv_iconst (v := 0) S.1 S.2.1 dX1_mayDo_20 ic_0 ?_
      have e_ := Option.some.inj hf
      subst e_
      exact hret _ _ _ _ (Or.inl rfl) dX1_mayDo_21 hW
  · have hf := it_p c_ hf
    refine lv_aload_n S.1 S.2.1 dX1_mayDo_6 rfl (lv_at hl 0 rfl) ?_
    obtain ⟨x1, hx1, hf⟩ := bnd_e hf
    refine Wr.goW (Wr.runV (c_X1_nextHour hx1) S hK hW.1 hW.2.1 0 0 rfl rfl kVX1_105 rfl hl.1 [] rfl (Nat.le_of_ble_eq_true rfl) ⟨(Nat.le_of_ble_eq_true rfl), (Nat.le_of_ble_eq_true rfl)⟩ ⟨(Nat.zero_le _), (Nat.zero_le _)⟩ dX1_mayDo_7) hW hA (fun H locs hW => ?_)
    refine lv_iconst (v := 1) S.1 S.2.1 dX1_mayDo_10 ic_1 ?_
    have e_ := Option.some.inj hf
    subst e_
    exact hret _ _ _ _ (Or.inr rfl) dX1_mayDo_11 hW
def f_X1_live_L15 (fu : Nat) (w_deeds : Int32) (w_cells : (Nat → Int32)) (x1 : Int32 × (Nat → Int32) × (Nat → Int32) × (Nat → Int32) × (Nat → Int32) × (Nat → Int32) × (Nat → Int32) × Int32 × Int32 × Int32 × Int32 × Int32 × Int32 × Int32 × Int32) (x2 : Int32) (s4 : (Nat → Int32) × (Nat → Int32) × (Nat → Int32) × (Nat → Int32) × (Nat → Int32) × Int32 × Int32 × Int32 × Int32 × Int32 × Int32 × Int32 × Int32) : Option (((Nat → Int32) × (Nat → Int32) × (Nat → Int32) × (Nat → Int32) × (Nat → Int32) × Int32 × Int32 × Int32 × Int32 × Int32 × Int32 × Int32 × Int32) ⊕ ((Nat → Int32) × (Nat → Int32) × (Nat → Int32) × (Nat → Int32) × (Nat → Int32) × Int32 × Int32 × Int32 × Int32 × Int32 × Int32 × Int32 × Int32)) := if x2 ≤ s4.2.2.2.2.2.2.2.2.1 then some (.inr (s4.1, s4.2.1, s4.2.2.1, s4.2.2.2.1, s4.2.2.2.2.1, s4.2.2.2.2.2.1, s4.2.2.2.2.2.2.1, s4.2.2.2.2.2.2.2.1, s4.2.2.2.2.2.2.2.2.1, s4.2.2.2.2.2.2.2.2.2.1, s4.2.2.2.2.2.2.2.2.2.2.1, s4.2.2.2.2.2.2.2.2.2.2.2.1, s4.2.2.2.2.2.2.2.2.2.2.2.2)) else bnd (α := Int32) (f_X10_tell fu w_deeds w_cells s4.2.2.2.2.2.2.2.2.1 (0 : Int32)) (fun x7 => bnd (α := Int32) (f_X10_tell fu w_deeds w_cells s4.2.2.2.2.2.2.2.2.1 (1 : Int32)) (fun x8 => bnd (α := Int32) (f_X10_tell fu w_deeds w_cells s4.2.2.2.2.2.2.2.2.1 (2 : Int32)) (fun x9 => bnd (α := Int32) (f_X10_tell fu w_deeds w_cells s4.2.2.2.2.2.2.2.2.1 (3 : Int32)) (fun x10 => bnd (α := Int32 × (Nat → Int32) × (Nat → Int32) × (Nat → Int32) × (Nat → Int32) × (Nat → Int32) × Int32 × Int32 × Int32 × Int32 × Int32 × Int32 × Int32) (f_X1_mayDo fu x1.1 x1.2.1 s4.1 s4.2.1 s4.2.2.1 s4.2.2.2.1 s4.2.2.2.2.1 s4.2.2.2.2.2.1 s4.2.2.2.2.2.2.1 s4.2.2.2.2.2.2.2.1 s4.2.2.2.2.2.2.2.2.1 s4.2.2.2.2.2.2.2.2.2.1 s4.2.2.2.2.2.2.2.2.2.2.1 s4.2.2.2.2.2.2.2.2.2.2.2.1 s4.2.2.2.2.2.2.2.2.2.2.2.2 x7 x8 x9 x10) (fun x11 => if x11.1 = 0 then some (.inr (x11.2.1, x11.2.2.1, x11.2.2.2.1, x11.2.2.2.2.1, x11.2.2.2.2.2.1, x11.2.2.2.2.2.2.1, x11.2.2.2.2.2.2.2.1, x11.2.2.2.2.2.2.2.2.1, s4.2.2.2.2.2.2.2.2.1, x11.2.2.2.2.2.2.2.2.2.1, x11.2.2.2.2.2.2.2.2.2.2.1, x11.2.2.2.2.2.2.2.2.2.2.2.1, x11.2.2.2.2.2.2.2.2.2.2.2.2)) else ltn (s4.2.2.2.2.2.2.2.2.1 + (1 : Int32)) (fun x12 => some (.inl (x11.2.1, x11.2.2.1, x11.2.2.2.1, x11.2.2.2.2.1, x11.2.2.2.2.2.1, x11.2.2.2.2.2.2.1, x11.2.2.2.2.2.2.2.1, x11.2.2.2.2.2.2.2.2.1, x12, x11.2.2.2.2.2.2.2.2.2.1, x11.2.2.2.2.2.2.2.2.2.2.1, x11.2.2.2.2.2.2.2.2.2.2.2.1, x11.2.2.2.2.2.2.2.2.2.2.2.2))))))))
def f_X1_live (fu : Nat) (o_people : Int32) (o_hated : (Nat → Int32)) (o_purse : (Nat → Int32)) (o_owed : (Nat → Int32)) (o_seat : (Nat → Int32)) (o_kept : (Nat → Int32)) (o_wasKept : (Nat → Int32)) (o_silent : Int32) (o_clock : Int32) (o_sat : Int32) (o_done : Int32) (o_first : Int32) (o_vain : Int32) (o_lent : Int32) (o_forgiven : Int32) (t_people : Int32) (t_purse : (Nat → Int32)) (t_hated : (Nat → Int32)) (t_owed : (Nat → Int32)) (w_deeds : Int32) (w_cells : (Nat → Int32)) (p3 : Int32) : Option (Int32 × Int32 × (Nat → Int32) × (Nat → Int32) × (Nat → Int32) × (Nat → Int32) × (Nat → Int32) × (Nat → Int32) × Int32 × Int32 × Int32 × Int32 × Int32 × Int32 × Int32 × Int32) := bnd (α := Int32 × (Nat → Int32) × (Nat → Int32) × (Nat → Int32) × (Nat → Int32) × (Nat → Int32) × (Nat → Int32) × Int32 × Int32 × Int32 × Int32 × Int32 × Int32 × Int32 × Int32) (f_X1_begin fu o_people o_hated o_purse o_owed o_seat o_kept o_wasKept o_silent o_clock o_sat o_done o_first o_vain o_lent o_forgiven t_people t_purse t_hated t_owed) (fun x1 => ltn (jmin p3 w_deeds) (fun x2 => bnd (α := (Nat → Int32) × (Nat → Int32) × (Nat → Int32) × (Nat → Int32) × (Nat → Int32) × Int32 × Int32 × Int32 × Int32 × Int32 × Int32 × Int32 × Int32) (lp (f_X1_live_L15 fu w_deeds w_cells x1 x2) fu (x1.2.2.1, x1.2.2.2.1, x1.2.2.2.2.1, x1.2.2.2.2.2.1, x1.2.2.2.2.2.2.1, x1.2.2.2.2.2.2.2.1, x1.2.2.2.2.2.2.2.2.1, x1.2.2.2.2.2.2.2.2.2.1, x1.2.2.2.2.2.2.2.2.2.2.1, x1.2.2.2.2.2.2.2.2.2.2.2.1, x1.2.2.2.2.2.2.2.2.2.2.2.2.1, x1.2.2.2.2.2.2.2.2.2.2.2.2.2.1, x1.2.2.2.2.2.2.2.2.2.2.2.2.2.2)) (fun v13 => some (v13.2.2.2.2.2.2.2.2.1, x1.1, x1.2.1, v13.1, v13.2.1, v13.2.2.1, v13.2.2.2.1, v13.2.2.2.2.1, v13.2.2.2.2.2.1, v13.2.2.2.2.2.2.1, v13.2.2.2.2.2.2.2.1, v13.2.2.2.2.2.2.2.2.1, v13.2.2.2.2.2.2.2.2.2.1, v13.2.2.2.2.2.2.2.2.2.2.1, v13.2.2.2.2.2.2.2.2.2.2.2.1, v13.2.2.2.2.2.2.2.2.2.2.2.2))))
set_option maxHeartbeats 4000000 in
set_option maxRecDepth 100000 in
theorem c_X1_live {l : Launch} {D : va_G} {g : Nat → ClassId} {fu : Nat} {o_q0 o_q1 o_q2 o_q3 o_q4 o_q5 o_q6 t_q0 t_q1 t_q2 t_q3 t_q4 w_q0 w_q1 : Nat} {o_people : Int32} {o_hated : (Nat → Int32)} {o_purse : (Nat → Int32)} {o_owed : (Nat → Int32)} {o_seat : (Nat → Int32)} {o_kept : (Nat → Int32)} {o_wasKept : (Nat → Int32)} {o_silent : Int32} {o_clock : Int32} {o_sat : Int32} {o_done : Int32} {o_first : Int32} {o_vain : Int32} {o_lent : Int32} {o_forgiven : Int32} {o_seed : Int32} {t_people : Int32} {t_wit : (Nat → Int32)} {t_purse : (Nat → Int32)} {t_hated : (Nat → Int32)} {t_owed : (Nat → Int32)} {w_deeds : Int32} {w_cells : (Nat → Int32)} {p3 : Int32} {r : Int32 × Int32 × (Nat → Int32) × (Nat → Int32) × (Nat → Int32) × (Nat → Int32) × (Nat → Int32) × (Nat → Int32) × Int32 × Int32 × Int32 × Int32 × Int32 × Int32 × Int32 × Int32} (hf : f_X1_live fu o_people o_hated o_purse o_owed o_seat o_kept o_wasKept o_silent o_clock o_sat o_done o_first o_vain o_lent o_forgiven t_people t_purse t_hated t_owed w_deeds w_cells p3 = some r) : Wr l D (gy g) yX1_live cX1_live 5 (some .int) 4 [.ref o_q0, .ref t_q0, .ref w_q0, .int p3] (wLi g o_q0 o_q1 o_q2 o_q3 o_q4 o_q5 o_q6 o_people o_hated o_purse o_owed o_seat o_kept o_wasKept o_silent o_clock o_sat o_done o_first o_vain o_lent o_forgiven o_seed ++ (wTw g t_q0 t_q1 t_q2 t_q3 t_q4 t_people t_wit t_purse t_hated t_owed ++ wWe g w_q0 w_q1 w_deeds w_cells)) (wLi g o_q0 o_q1 o_q2 o_q3 o_q4 o_q5 o_q6 r.2.1 r.2.2.1 r.2.2.2.1 r.2.2.2.2.1 r.2.2.2.2.2.1 r.2.2.2.2.2.2.1 r.2.2.2.2.2.2.2.1 r.2.2.2.2.2.2.2.2.1 r.2.2.2.2.2.2.2.2.2.1 r.2.2.2.2.2.2.2.2.2.2.1 r.2.2.2.2.2.2.2.2.2.2.2.1 r.2.2.2.2.2.2.2.2.2.2.2.2.1 r.2.2.2.2.2.2.2.2.2.2.2.2.2.1 r.2.2.2.2.2.2.2.2.2.2.2.2.2.2.1 r.2.2.2.2.2.2.2.2.2.2.2.2.2.2.2 o_seed ++ (wTw g t_q0 t_q1 t_q2 t_q3 t_q4 t_people t_wit t_purse t_hated t_owed ++ wWe g w_q0 w_q1 w_deeds w_cells)) (some (.int r.1)) := by
  refine Wr.ofI (by decide) (Nat.le_of_ble_eq_true rfl) ?_
  intro p e s m args below meth c Q A S hK hA hret ls hl hW
  have hl : lv_has ls 5 [(0, .ref o_q0), (1, .ref t_q0), (2, .ref w_q0), (3, .int p3)] := hl
  refine lv_aload_n S.1 S.2.1 dX1_live_0 rfl (lv_at hl 0 rfl) ?_
  refine lv_aload_n S.1 S.2.1 dX1_live_1 rfl (lv_at hl 1 rfl) ?_
  obtain ⟨x1, hx1, hf⟩ := bnd_e hf
  refine Wr.go (ws2 := (wLi g o_q0 o_q1 o_q2 o_q3 o_q4 o_q5 o_q6 x1.1 x1.2.1 x1.2.2.1 x1.2.2.2.1 x1.2.2.2.2.1 x1.2.2.2.2.2.1 x1.2.2.2.2.2.2.1 x1.2.2.2.2.2.2.2.1 x1.2.2.2.2.2.2.2.2.1 x1.2.2.2.2.2.2.2.2.2.1 x1.2.2.2.2.2.2.2.2.2.2.1 x1.2.2.2.2.2.2.2.2.2.2.2.1 x1.2.2.2.2.2.2.2.2.2.2.2.2.1 x1.2.2.2.2.2.2.2.2.2.2.2.2.2.1 x1.2.2.2.2.2.2.2.2.2.2.2.2.2.2 o_seed ++ (wTw g t_q0 t_q1 t_q2 t_q3 t_q4 t_people t_wit t_purse t_hated t_owed ++ wWe g w_q0 w_q1 w_deeds w_cells))) (Wr.runV (c_X1_begin hx1) S hK (hW.1.sub (ws' := (wLi g o_q0 o_q1 o_q2 o_q3 o_q4 o_q5 o_q6 o_people o_hated o_purse o_owed o_seat o_kept o_wasKept o_silent o_clock o_sat o_done o_first o_vain o_lent o_forgiven o_seed ++ wTw g t_q0 t_q1 t_q2 t_q3 t_q4 t_people t_wit t_purse t_hated t_owed)) [0, 1, 2, 3, 4, 5, 6, 7, 8, 9, 10, 11] rfl) (hW.2.1.sub (ws' := (wLi g o_q0 o_q1 o_q2 o_q3 o_q4 o_q5 o_q6 o_people o_hated o_purse o_owed o_seat o_kept o_wasKept o_silent o_clock o_sat o_done o_first o_vain o_lent o_forgiven o_seed ++ wTw g t_q0 t_q1 t_q2 t_q3 t_q4 t_people t_wit t_purse t_hated t_owed)) [0, 1, 2, 3, 4, 5, 6, 7, 8, 9, 10, 11] (by decide) rfl) 0 0 rfl rfl kVX1_79 rfl hl.1 [] rfl (Nat.le_of_ble_eq_true rfl) ⟨(Nat.le_of_ble_eq_true rfl), (Nat.le_of_ble_eq_true rfl)⟩ ⟨(Nat.zero_le _), (Nat.zero_le _)⟩ dX1_live_2) hW hA [0, 1, 2, 3, 4, 5, 6, 7, 8, 9, 10, 11] rfl [(true, 0), (true, 1), (true, 2), (true, 3), (true, 4), (true, 5), (true, 6), (true, 7), (true, 8), (true, 9), (true, 10), (true, 11), (false, 12), (false, 13)] rfl (by decide) rfl (fun H locs hW => ?_)
  refine lv_iload_n S.1 S.2.1 dX1_live_5 rfl (lv_at hl 3 rfl) ?_
  refine lv_aload_n S.1 S.2.1 dX1_live_6 rfl (lv_at hl 2 rfl) ?_
  refine gfX1_83 S hK hW.1 12 rfl rfl dX1_live_7 ?_
  refine va_mmin S.1 S.2.1 (S.2.2.1.trans hl.1.symm) S.2.2.2.1 (S.2.2.2.2 _ q_581) (S.2.2.2.2 _ q_362) (S.2.2.2.2 _ q_12) (S.2.2.2.2 _ q_363) (Nat.le_of_ble_eq_true rfl) (Nat.le_of_ble_eq_true rfl) (Nat.zero_le _) (Nat.zero_le _) dX1_live_10 ?_
  refine lv_topi (fun x2 ex2 => ?_)
  have hf := ltn_e hf ex2
  refine lv_istore (lv' := [(4, .int x2), (0, .ref o_q0), (1, .ref t_q0), (2, .ref w_q0), (3, .int p3)]) S.1 S.2.1 dX1_live_13 hl (by decide) rfl (fun ls hl => ?_)
  obtain ⟨x5, hf_, hk5⟩ := bnd_e hf
  have hE5 : ∀ (v13 : (Nat → Int32) × (Nat → Int32) × (Nat → Int32) × (Nat → Int32) × (Nat → Int32) × Int32 × Int32 × Int32 × Int32 × Int32 × Int32 × Int32 × Int32), v13 = x5 → ∀ (ls : Array Slot) (H : Heap) (locs : List Loc), lv_has ls 5 [(0, .ref o_q0)] → St A s.heap D (wLi g o_q0 o_q1 o_q2 o_q3 o_q4 o_q5 o_q6 x1.1 x1.2.1 v13.1 v13.2.1 v13.2.2.1 v13.2.2.2.1 v13.2.2.2.2.1 v13.2.2.2.2.2.1 v13.2.2.2.2.2.2.1 v13.2.2.2.2.2.2.2.1 v13.2.2.2.2.2.2.2.2.1 v13.2.2.2.2.2.2.2.2.2.1 v13.2.2.2.2.2.2.2.2.2.2.1 v13.2.2.2.2.2.2.2.2.2.2.2.1 v13.2.2.2.2.2.2.2.2.2.2.2.2 o_seed ++ (wTw g t_q0 t_q1 t_q2 t_q3 t_q4 t_people t_wit t_purse t_hated t_owed ++ wWe g w_q0 w_q1 w_deeds w_cells)) H locs → W p l e (rmD 4) s m args below meth c H locs 0 0 Q (F0 m 80 ls []) := by
    intro v13 e_ ls H locs hl hW
    subst e_
    have hf := hk5
    refine lv_aload_n S.1 S.2.1 dX1_live_80 rfl (lv_at hl 0 rfl) ?_
    refine gfX1_43 S hK hW.1 0 rfl rfl dX1_live_81 ?_
    have e_ := Option.some.inj hf
    subst e_
    exact hret _ _ _ _ dX1_live_84 hW
  refine lp_ind (P := fun (s4 : (Nat → Int32) × (Nat → Int32) × (Nat → Int32) × (Nat → Int32) × (Nat → Int32) × Int32 × Int32 × Int32 × Int32 × Int32 × Int32 × Int32 × Int32) => ∀ (ls : Array Slot) (H : Heap) (locs : List Loc), lv_has ls 5 [(0, .ref o_q0), (2, .ref w_q0), (4, .int x2)] → St A s.heap D (wLi g o_q0 o_q1 o_q2 o_q3 o_q4 o_q5 o_q6 x1.1 x1.2.1 s4.1 s4.2.1 s4.2.2.1 s4.2.2.2.1 s4.2.2.2.2.1 s4.2.2.2.2.2.1 s4.2.2.2.2.2.2.1 s4.2.2.2.2.2.2.2.1 s4.2.2.2.2.2.2.2.2.1 s4.2.2.2.2.2.2.2.2.2.1 s4.2.2.2.2.2.2.2.2.2.2.1 s4.2.2.2.2.2.2.2.2.2.2.2.1 s4.2.2.2.2.2.2.2.2.2.2.2.2 o_seed ++ (wTw g t_q0 t_q1 t_q2 t_q3 t_q4 t_people t_wit t_purse t_hated t_owed ++ wWe g w_q0 w_q1 w_deeds w_cells)) H locs → W p l e (rmD 4) s m args below meth c H locs 0 0 Q (F0 m 15 ls [])) ?_ _ _ hf_ _ _ _ (lv_sub hl [1, 3, 0] rfl) hW
  intro s4 x6 hf hI5 hR5 ls H locs hl hW
  refine lv_aload_n S.1 S.2.1 dX1_live_15 rfl (lv_at hl 0 rfl) ?_
  refine gfX1_43 S hK hW.1 0 rfl rfl dX1_live_16 ?_
  refine lv_iload S.1 S.2.1 dX1_live_19 (lv_at hl 2 rfl) ?_
  refine lv_icmp_ge (tgt := 80) S.1 S.2.1 dX1_live_21 (by decide) (fun c_ => ?_) (fun c_ => ?_)
  · have hf := it_p c_ hf
    have e_ := hR5 _ (Option.some.inj hf).symm
    exact hE5 _ e_ _ _ _ (lv_sub hl [0] rfl) hW
  · have hf := it_n c_ hf
    refine lv_aload_n S.1 S.2.1 dX1_live_24 rfl (lv_at hl 0 rfl) ?_
    refine lv_aload_n S.1 S.2.1 dX1_live_25 rfl (lv_at hl 1 rfl) ?_
    refine lv_aload_n S.1 S.2.1 dX1_live_26 rfl (lv_at hl 0 rfl) ?_
    refine gfX1_43 S hK hW.1 0 rfl rfl dX1_live_27 ?_
    refine lv_iconst (v := 0) S.1 S.2.1 dX1_live_30 ic_0 ?_
    obtain ⟨x7, hx7, hf⟩ := bnd_e hf
    refine Rd.cV (c_X10_tell hx7) S hK (hW.1.sub (ws' := (wWe g w_q0 w_q1 w_deeds w_cells)) [12, 13] rfl) 0 8 rfl rfl kVX1_94 rfl hl.1 [.ref o_q0] rfl (Nat.le_of_ble_eq_true rfl) ⟨(Nat.le_of_ble_eq_true rfl), (Nat.le_of_ble_eq_true rfl)⟩ ⟨(Nat.zero_le _), (Nat.zero_le _)⟩ dX1_live_31 ?_
    refine lv_aload_n S.1 S.2.1 dX1_live_34 rfl (lv_at hl 1 rfl) ?_
    refine lv_aload_n S.1 S.2.1 dX1_live_35 rfl (lv_at hl 0 rfl) ?_
    refine gfX1_43 S hK hW.1 0 rfl rfl dX1_live_36 ?_
    refine lv_iconst (v := 1) S.1 S.2.1 dX1_live_39 ic_1 ?_
    obtain ⟨x8, hx8, hf⟩ := bnd_e hf
    refine Rd.cV (c_X10_tell hx8) S hK (hW.1.sub (ws' := (wWe g w_q0 w_q1 w_deeds w_cells)) [12, 13] rfl) 0 8 rfl rfl kVX1_94 rfl hl.1 [.int x7, .ref o_q0] rfl (Nat.le_of_ble_eq_true rfl) ⟨(Nat.le_of_ble_eq_true rfl), (Nat.le_of_ble_eq_true rfl)⟩ ⟨(Nat.zero_le _), (Nat.zero_le _)⟩ dX1_live_40 ?_
    refine lv_aload_n S.1 S.2.1 dX1_live_43 rfl (lv_at hl 1 rfl) ?_
    refine lv_aload_n S.1 S.2.1 dX1_live_44 rfl (lv_at hl 0 rfl) ?_
    refine gfX1_43 S hK hW.1 0 rfl rfl dX1_live_45 ?_
    refine lv_iconst (v := 2) S.1 S.2.1 dX1_live_48 ic_2 ?_
    obtain ⟨x9, hx9, hf⟩ := bnd_e hf
    refine Rd.cV (c_X10_tell hx9) S hK (hW.1.sub (ws' := (wWe g w_q0 w_q1 w_deeds w_cells)) [12, 13] rfl) 0 8 rfl rfl kVX1_94 rfl hl.1 [.int x8, .int x7, .ref o_q0] rfl (Nat.le_of_ble_eq_true rfl) ⟨(Nat.le_of_ble_eq_true rfl), (Nat.le_of_ble_eq_true rfl)⟩ ⟨(Nat.zero_le _), (Nat.zero_le _)⟩ dX1_live_49 ?_
    refine lv_aload_n S.1 S.2.1 dX1_live_52 rfl (lv_at hl 1 rfl) ?_
    refine lv_aload_n S.1 S.2.1 dX1_live_53 rfl (lv_at hl 0 rfl) ?_
    refine gfX1_43 S hK hW.1 0 rfl rfl dX1_live_54 ?_
    refine lv_iconst (v := 3) S.1 S.2.1 dX1_live_57 ic_3 ?_
    obtain ⟨x10, hx10, hf⟩ := bnd_e hf
    refine Rd.cV (c_X10_tell hx10) S hK (hW.1.sub (ws' := (wWe g w_q0 w_q1 w_deeds w_cells)) [12, 13] rfl) 0 8 rfl rfl kVX1_94 rfl hl.1 [.int x9, .int x8, .int x7, .ref o_q0] rfl (Nat.le_of_ble_eq_true rfl) ⟨(Nat.le_of_ble_eq_true rfl), (Nat.le_of_ble_eq_true rfl)⟩ ⟨(Nat.zero_le _), (Nat.zero_le _)⟩ dX1_live_58 ?_
    obtain ⟨x11, hx11, hf⟩ := bnd_e hf
    refine Wr.go (ws2 := (wLi g o_q0 o_q1 o_q2 o_q3 o_q4 o_q5 o_q6 x1.1 x1.2.1 x11.2.1 x11.2.2.1 x11.2.2.2.1 x11.2.2.2.2.1 x11.2.2.2.2.2.1 x11.2.2.2.2.2.2.1 x11.2.2.2.2.2.2.2.1 x11.2.2.2.2.2.2.2.2.1 s4.2.2.2.2.2.2.2.2.1 x11.2.2.2.2.2.2.2.2.2.1 x11.2.2.2.2.2.2.2.2.2.2.1 x11.2.2.2.2.2.2.2.2.2.2.2.1 x11.2.2.2.2.2.2.2.2.2.2.2.2 o_seed ++ (wTw g t_q0 t_q1 t_q2 t_q3 t_q4 t_people t_wit t_purse t_hated t_owed ++ wWe g w_q0 w_q1 w_deeds w_cells))) (Wr.runV (c_X1_mayDo hx11) S hK (hW.1.sub (ws' := (wLi g o_q0 o_q1 o_q2 o_q3 o_q4 o_q5 o_q6 x1.1 x1.2.1 s4.1 s4.2.1 s4.2.2.1 s4.2.2.2.1 s4.2.2.2.2.1 s4.2.2.2.2.2.1 s4.2.2.2.2.2.2.1 s4.2.2.2.2.2.2.2.1 s4.2.2.2.2.2.2.2.2.1 s4.2.2.2.2.2.2.2.2.2.1 s4.2.2.2.2.2.2.2.2.2.2.1 s4.2.2.2.2.2.2.2.2.2.2.2.1 s4.2.2.2.2.2.2.2.2.2.2.2.2 o_seed)) [0, 1, 2, 3, 4, 5, 6] rfl) (hW.2.1.sub (ws' := (wLi g o_q0 o_q1 o_q2 o_q3 o_q4 o_q5 o_q6 x1.1 x1.2.1 s4.1 s4.2.1 s4.2.2.1 s4.2.2.2.1 s4.2.2.2.2.1 s4.2.2.2.2.2.1 s4.2.2.2.2.2.2.1 s4.2.2.2.2.2.2.2.1 s4.2.2.2.2.2.2.2.2.1 s4.2.2.2.2.2.2.2.2.2.1 s4.2.2.2.2.2.2.2.2.2.2.1 s4.2.2.2.2.2.2.2.2.2.2.2.1 s4.2.2.2.2.2.2.2.2.2.2.2.2 o_seed)) [0, 1, 2, 3, 4, 5, 6] (by decide) rfl) 0 0 rfl rfl kVX1_97 rfl hl.1 [] rfl (Nat.le_of_ble_eq_true rfl) ⟨(Nat.le_of_ble_eq_true rfl), (Nat.le_of_ble_eq_true rfl)⟩ ⟨(Nat.zero_le _), (Nat.zero_le _)⟩ dX1_live_61) hW hA [0, 1, 2, 3, 4, 5, 6] rfl [(true, 0), (true, 1), (true, 2), (true, 3), (true, 4), (true, 5), (true, 6), (false, 7), (false, 8), (false, 9), (false, 10), (false, 11), (false, 12), (false, 13)] rfl (by decide) rfl (fun H locs hW => ?_)
    refine lv_if_eq (tgt := 80) S.1 S.2.1 dX1_live_64 (by decide) (fun c_ => ?_) (fun c_ => ?_)
    · have hf := it_p c_ hf
      have e_ := hR5 _ (Option.some.inj hf).symm
      exact hE5 _ e_ _ _ _ (lv_sub hl [0] rfl) hW
    · have hf := it_n c_ hf
      refine lv_aload_n S.1 S.2.1 dX1_live_67 rfl (lv_at hl 0 rfl) ?_
      refine lv_dup S.1 S.2.1 dX1_live_68 rfl ?_
      refine gfX1_43 S hK hW.1 0 rfl rfl dX1_live_69 ?_
      refine lv_iconst (v := 1) S.1 S.2.1 dX1_live_72 ic_1 ?_
      refine lv_iadd S.1 S.2.1 dX1_live_73 ?_
      refine lv_topi (fun x12 ex12 => ?_)
      have hf := ltn_e hf ex12
      refine pfX1_43 (ws2 := (wLi g o_q0 o_q1 o_q2 o_q3 o_q4 o_q5 o_q6 x1.1 x1.2.1 x11.2.1 x11.2.2.1 x11.2.2.2.1 x11.2.2.2.2.1 x11.2.2.2.2.2.1 x11.2.2.2.2.2.2.1 x11.2.2.2.2.2.2.2.1 x11.2.2.2.2.2.2.2.2.1 x12 x11.2.2.2.2.2.2.2.2.2.1 x11.2.2.2.2.2.2.2.2.2.2.1 x11.2.2.2.2.2.2.2.2.2.2.2.1 x11.2.2.2.2.2.2.2.2.2.2.2.2 o_seed ++ (wTw g t_q0 t_q1 t_q2 t_q3 t_q4 t_people t_wit t_purse t_hated t_owed ++ wWe g w_q0 w_q1 w_deeds w_cells))) S hK hW 0 rfl rfl rfl (Nat.le_of_ble_eq_true rfl) rfl dX1_live_74 (fun H locs hW => ?_)
      refine lv_goto (tgt := 15) S.1 S.2.1 dX1_live_77 (by decide) ?_
      exact hI5 _ (Option.some.inj hf).symm _ _ _ (lv_sub hl [0, 1, 2] rfl) hW
def f_X1_below (fu : Nat) (o_seed : Int32) (p1 : Int32) : Option (Int32 × Int32) := ltn ((o_seed * (1103515245 : Int32)) + (12345 : Int32)) (fun x1 => if (1 : Int32) ≤ p1 then bnd (α := Int32) (rmi (jushr x1 (16 : Int32)) p1) (fun x2 => some (x2, x1)) else some ((0 : Int32), x1))
set_option maxHeartbeats 4000000 in
set_option maxRecDepth 100000 in
theorem c_X1_below {l : Launch} {D : va_G} {g : Nat → ClassId} {fu : Nat} {o_q0 o_q1 o_q2 o_q3 o_q4 o_q5 o_q6 : Nat} {o_people : Int32} {o_hated : (Nat → Int32)} {o_purse : (Nat → Int32)} {o_owed : (Nat → Int32)} {o_seat : (Nat → Int32)} {o_kept : (Nat → Int32)} {o_wasKept : (Nat → Int32)} {o_silent : Int32} {o_clock : Int32} {o_sat : Int32} {o_done : Int32} {o_first : Int32} {o_vain : Int32} {o_lent : Int32} {o_forgiven : Int32} {o_seed : Int32} {p1 : Int32} {r : Int32 × Int32} (hf : f_X1_below fu o_seed p1 = some r) : Wr l D (gy g) yX1_below cX1_below 2 (some .int) 0 [.ref o_q0, .int p1] (wLi g o_q0 o_q1 o_q2 o_q3 o_q4 o_q5 o_q6 o_people o_hated o_purse o_owed o_seat o_kept o_wasKept o_silent o_clock o_sat o_done o_first o_vain o_lent o_forgiven o_seed) (wLi g o_q0 o_q1 o_q2 o_q3 o_q4 o_q5 o_q6 o_people o_hated o_purse o_owed o_seat o_kept o_wasKept o_silent o_clock o_sat o_done o_first o_vain o_lent o_forgiven r.2) (some (.int r.1)) := by
  refine Wr.ofI (by decide) (Nat.le_of_ble_eq_true rfl) ?_
  intro p e s m args below meth c Q A S hK hA hret ls hl hW
  have hl : lv_has ls 2 [(0, .ref o_q0), (1, .int p1)] := hl
  refine lv_aload_n S.1 S.2.1 dX1_below_0 rfl (lv_at hl 0 rfl) ?_
  refine lv_aload_n S.1 S.2.1 dX1_below_1 rfl (lv_at hl 0 rfl) ?_
  refine gfX1_58 S hK hW.1 0 rfl rfl dX1_below_2 ?_
  refine lv_ldc (v := 1103515245) S.1 S.2.1 S.2.2.2.1 (S.2.2.2.2 _ q_825) dX1_below_5 ?_
  refine lv_imul S.1 S.2.1 dX1_below_7 ?_
  refine lv_sipush (v := 12345) S.1 S.2.1 dX1_below_8 sp_12345 ?_
  refine lv_iadd S.1 S.2.1 dX1_below_11 ?_
  refine lv_topi (fun x1 ex1 => ?_)
  have hf := ltn_e hf ex1
  refine pfX1_58 (ws2 := (wLi g o_q0 o_q1 o_q2 o_q3 o_q4 o_q5 o_q6 o_people o_hated o_purse o_owed o_seat o_kept o_wasKept o_silent o_clock o_sat o_done o_first o_vain o_lent o_forgiven x1)) S hK hW 0 rfl rfl rfl (Nat.le_of_ble_eq_true rfl) rfl dX1_below_12 (fun H locs hW => ?_)
  refine lv_iload_n S.1 S.2.1 dX1_below_15 rfl (lv_at hl 1 rfl) ?_
  refine lv_iconst (v := 1) S.1 S.2.1 dX1_below_16 ic_1 ?_
  refine lv_icmp_ge (tgt := 24) S.1 S.2.1 dX1_below_17 (by decide) (fun c_ => ?_) (fun c_ => ?_)
  · have hf := it_p c_ hf
    refine lv_aload_n S.1 S.2.1 dX1_below_24 rfl (lv_at hl 0 rfl) ?_
    refine gfX1_58 S hK hW.1 0 rfl rfl dX1_below_25 ?_
    refine lv_bipush (v := 16) S.1 S.2.1 dX1_below_28 bp_16 ?_
    refine lv_iushr (v := (jushr x1 (16 : Int32))) S.1 S.2.1 dX1_below_30 rfl ?_
    refine lv_iload_n S.1 S.2.1 dX1_below_31 rfl (lv_at hl 1 rfl) ?_
    obtain ⟨x2, hx2, hf⟩ := bnd_e hf
    refine q_irem S hx2 dX1_below_32 ?_
    have e_ := Option.some.inj hf
    subst e_
    exact hret _ _ _ _ dX1_below_33 hW
  · have hf := it_n c_ hf
    refine lv_iconst (v := 0) S.1 S.2.1 dX1_below_20 ic_0 ?_
    refine lv_goto (tgt := 33) S.1 S.2.1 dX1_below_21 (by decide) ?_
    have e_ := Option.some.inj hf
    subst e_
    exact hret _ _ _ _ dX1_below_33 hW
def f_X1_driftOn (fu : Nat) (o_people : Int32) (o_hated : (Nat → Int32)) (o_purse : (Nat → Int32)) (o_owed : (Nat → Int32)) (o_seat : (Nat → Int32)) (o_kept : (Nat → Int32)) (o_wasKept : (Nat → Int32)) (o_silent : Int32) (o_clock : Int32) (o_sat : Int32) (o_done : Int32) (o_first : Int32) (o_vain : Int32) (o_lent : Int32) (o_forgiven : Int32) (o_seed : Int32) (p1 : Int32) : Option ((Nat → Int32) × (Nat → Int32) × (Nat → Int32) × (Nat → Int32) × (Nat → Int32) × Int32 × Int32 × Int32 × Int32 × Int32 × Int32 × Int32 × Int32) := bnd (α := Int32 × Int32) (f_X1_below fu o_seed o_people) (fun x1 => if p1 < (6 : Int32) then bnd (α := Int32 × Int32) (if (2 : Int32) ≤ o_people then bnd (α := Int32 × Int32) (f_X1_below fu x1.2 (o_people - (1 : Int32))) (fun x10 => bnd (α := Int32) (rmi ((x10.1 + (1 : Int32)) + x1.1) o_people) (fun x11 => some (x11, x10.2))) else some ((-1 : Int32), x1.2)) (fun v3 => if (3 : Int32) ≤ p1 then bnd (α := Int32 × Int32) (f_X1_below fu v3.2 (5 : Int32)) (fun x4 => ltn ((1 : Int32) + x4.1) (fun x5 => if p1 = (3 : Int32) then bnd (α := Int32 × (Nat → Int32) × (Nat → Int32) × (Nat → Int32) × (Nat → Int32) × (Nat → Int32) × Int32 × Int32 × Int32 × Int32 × Int32 × Int32 × Int32) (f_X1_mayDo fu o_people o_hated o_purse o_owed o_seat o_kept o_wasKept o_silent o_clock o_sat o_done o_first o_vain o_lent o_forgiven (1 : Int32) x1.1 v3.1 x5) (fun x6 => some (x6.2.1, x6.2.2.1, x6.2.2.2.1, x6.2.2.2.2.1, x6.2.2.2.2.2.1, x6.2.2.2.2.2.2.1, x6.2.2.2.2.2.2.2.1, x6.2.2.2.2.2.2.2.2.1, x6.2.2.2.2.2.2.2.2.2.1, x6.2.2.2.2.2.2.2.2.2.2.1, x6.2.2.2.2.2.2.2.2.2.2.2.1, x6.2.2.2.2.2.2.2.2.2.2.2.2, x4.2)) else if p1 = (4 : Int32) then bnd (α := Int32 × (Nat → Int32) × (Nat → Int32) × (Nat → Int32) × (Nat → Int32) × (Nat → Int32) × Int32 × Int32 × Int32 × Int32 × Int32 × Int32 × Int32) (f_X1_mayDo fu o_people o_hated o_purse o_owed o_seat o_kept o_wasKept o_silent o_clock o_sat o_done o_first o_vain o_lent o_forgiven (2 : Int32) x1.1 v3.1 x5) (fun x7 => some (x7.2.1, x7.2.2.1, x7.2.2.2.1, x7.2.2.2.2.1, x7.2.2.2.2.2.1, x7.2.2.2.2.2.2.1, x7.2.2.2.2.2.2.2.1, x7.2.2.2.2.2.2.2.2.1, x7.2.2.2.2.2.2.2.2.2.1, x7.2.2.2.2.2.2.2.2.2.2.1, x7.2.2.2.2.2.2.2.2.2.2.2.1, x7.2.2.2.2.2.2.2.2.2.2.2.2, x4.2)) else bnd (α := Int32 × (Nat → Int32) × (Nat → Int32) × (Nat → Int32) × (Nat → Int32) × (Nat → Int32) × Int32 × Int32 × Int32 × Int32 × Int32 × Int32 × Int32) (f_X1_mayDo fu o_people o_hated o_purse o_owed o_seat o_kept o_wasKept o_silent o_clock o_sat o_done o_first o_vain o_lent o_forgiven (3 : Int32) x1.1 v3.1 x5) (fun x8 => some (x8.2.1, x8.2.2.1, x8.2.2.2.1, x8.2.2.2.2.1, x8.2.2.2.2.2.1, x8.2.2.2.2.2.2.1, x8.2.2.2.2.2.2.2.1, x8.2.2.2.2.2.2.2.2.1, x8.2.2.2.2.2.2.2.2.2.1, x8.2.2.2.2.2.2.2.2.2.2.1, x8.2.2.2.2.2.2.2.2.2.2.2.1, x8.2.2.2.2.2.2.2.2.2.2.2.2, x4.2)))) else bnd (α := Int32 × (Nat → Int32) × (Nat → Int32) × (Nat → Int32) × (Nat → Int32) × (Nat → Int32) × Int32 × Int32 × Int32 × Int32 × Int32 × Int32 × Int32) (f_X1_mayDo fu o_people o_hated o_purse o_owed o_seat o_kept o_wasKept o_silent o_clock o_sat o_done o_first o_vain o_lent o_forgiven (0 : Int32) x1.1 v3.1 (-1 : Int32)) (fun x9 => some (x9.2.1, x9.2.2.1, x9.2.2.2.1, x9.2.2.2.2.1, x9.2.2.2.2.2.1, x9.2.2.2.2.2.2.1, x9.2.2.2.2.2.2.2.1, x9.2.2.2.2.2.2.2.2.1, x9.2.2.2.2.2.2.2.2.2.1, x9.2.2.2.2.2.2.2.2.2.2.1, x9.2.2.2.2.2.2.2.2.2.2.2.1, x9.2.2.2.2.2.2.2.2.2.2.2.2, v3.2))) else if p1 = (6 : Int32) then bnd (α := Int32 × (Nat → Int32) × (Nat → Int32) × (Nat → Int32) × (Nat → Int32) × (Nat → Int32) × Int32 × Int32 × Int32 × Int32 × Int32 × Int32 × Int32) (f_X1_mayDo fu o_people o_hated o_purse o_owed o_seat o_kept o_wasKept o_silent o_clock o_sat o_done o_first o_vain o_lent o_forgiven (4 : Int32) x1.1 (-1 : Int32) (-1 : Int32)) (fun x12 => some (x12.2.1, x12.2.2.1, x12.2.2.2.1, x12.2.2.2.2.1, x12.2.2.2.2.2.1, x12.2.2.2.2.2.2.1, x12.2.2.2.2.2.2.2.1, x12.2.2.2.2.2.2.2.2.1, x12.2.2.2.2.2.2.2.2.2.1, x12.2.2.2.2.2.2.2.2.2.2.1, x12.2.2.2.2.2.2.2.2.2.2.2.1, x12.2.2.2.2.2.2.2.2.2.2.2.2, x1.2)) else bnd (α := Int32 × (Nat → Int32) × (Nat → Int32) × (Nat → Int32) × (Nat → Int32) × (Nat → Int32) × Int32 × Int32 × Int32 × Int32 × Int32 × Int32 × Int32) (f_X1_mayDo fu o_people o_hated o_purse o_owed o_seat o_kept o_wasKept o_silent o_clock o_sat o_done o_first o_vain o_lent o_forgiven (5 : Int32) x1.1 (-1 : Int32) (-1 : Int32)) (fun x13 => some (x13.2.1, x13.2.2.1, x13.2.2.2.1, x13.2.2.2.2.1, x13.2.2.2.2.2.1, x13.2.2.2.2.2.2.1, x13.2.2.2.2.2.2.2.1, x13.2.2.2.2.2.2.2.2.1, x13.2.2.2.2.2.2.2.2.2.1, x13.2.2.2.2.2.2.2.2.2.2.1, x13.2.2.2.2.2.2.2.2.2.2.2.1, x13.2.2.2.2.2.2.2.2.2.2.2.2, x1.2)))
set_option maxHeartbeats 4000000 in
set_option maxRecDepth 100000 in
theorem c_X1_driftOn {l : Launch} {D : va_G} {g : Nat → ClassId} {fu : Nat} {o_q0 o_q1 o_q2 o_q3 o_q4 o_q5 o_q6 : Nat} {o_people : Int32} {o_hated : (Nat → Int32)} {o_purse : (Nat → Int32)} {o_owed : (Nat → Int32)} {o_seat : (Nat → Int32)} {o_kept : (Nat → Int32)} {o_wasKept : (Nat → Int32)} {o_silent : Int32} {o_clock : Int32} {o_sat : Int32} {o_done : Int32} {o_first : Int32} {o_vain : Int32} {o_lent : Int32} {o_forgiven : Int32} {o_seed : Int32} {p1 : Int32} {r : (Nat → Int32) × (Nat → Int32) × (Nat → Int32) × (Nat → Int32) × (Nat → Int32) × Int32 × Int32 × Int32 × Int32 × Int32 × Int32 × Int32 × Int32} (hf : f_X1_driftOn fu o_people o_hated o_purse o_owed o_seat o_kept o_wasKept o_silent o_clock o_sat o_done o_first o_vain o_lent o_forgiven o_seed p1 = some r) : Wr l D (gy g) yX1_driftOn cX1_driftOn 5 none 4 [.ref o_q0, .int p1] (wLi g o_q0 o_q1 o_q2 o_q3 o_q4 o_q5 o_q6 o_people o_hated o_purse o_owed o_seat o_kept o_wasKept o_silent o_clock o_sat o_done o_first o_vain o_lent o_forgiven o_seed) (wLi g o_q0 o_q1 o_q2 o_q3 o_q4 o_q5 o_q6 o_people o_hated r.1 r.2.1 r.2.2.1 r.2.2.2.1 r.2.2.2.2.1 r.2.2.2.2.2.1 r.2.2.2.2.2.2.1 r.2.2.2.2.2.2.2.1 o_done r.2.2.2.2.2.2.2.2.1 r.2.2.2.2.2.2.2.2.2.1 r.2.2.2.2.2.2.2.2.2.2.1 r.2.2.2.2.2.2.2.2.2.2.2.1 r.2.2.2.2.2.2.2.2.2.2.2.2) none := by
  refine Wr.ofV (by decide) (Nat.le_of_ble_eq_true rfl) ?_
  intro p e s m args below meth c Q A S hK hA hret ls hl hW
  have hl : lv_has ls 5 [(0, .ref o_q0), (1, .int p1)] := hl
  refine lv_aload_n S.1 S.2.1 dX1_driftOn_0 rfl (lv_at hl 0 rfl) ?_
  refine lv_aload_n S.1 S.2.1 dX1_driftOn_1 rfl (lv_at hl 0 rfl) ?_
  refine gfX1_9 S hK hW.1 0 rfl rfl dX1_driftOn_2 ?_
  obtain ⟨x1, hx1, hf⟩ := bnd_e hf
  refine Wr.goW (Wr.runV (c_X1_below hx1) S hK hW.1 hW.2.1 0 0 rfl rfl kVX1_101 rfl hl.1 [] rfl (Nat.le_of_ble_eq_true rfl) ⟨(Nat.le_of_ble_eq_true rfl), (Nat.le_of_ble_eq_true rfl)⟩ ⟨(Nat.zero_le _), (Nat.zero_le _)⟩ dX1_driftOn_5) hW hA (fun H locs hW => ?_)
  refine lv_istore_n (lv' := [(2, .int x1.1), (0, .ref o_q0), (1, .int p1)]) S.1 S.2.1 dX1_driftOn_8 rfl hl (by decide) rfl (fun ls hl => ?_)
  refine lv_iload_n S.1 S.2.1 dX1_driftOn_9 rfl (lv_at hl 2 rfl) ?_
  refine lv_bipush (v := 6) S.1 S.2.1 dX1_driftOn_10 bp_6 ?_
  refine lv_icmp_lt (tgt := 35) S.1 S.2.1 dX1_driftOn_12 (by decide) (fun c_ => ?_) (fun c_ => ?_)
  · have hf := it_p c_ hf
    refine lv_aload_n S.1 S.2.1 dX1_driftOn_35 rfl (lv_at hl 1 rfl) ?_
    refine gfX1_9 S hK hW.1 0 rfl rfl dX1_driftOn_36 ?_
    refine lv_iconst (v := 2) S.1 S.2.1 dX1_driftOn_39 ic_2 ?_
    obtain ⟨x2, hf_, hk2⟩ := bnd_e hf
    have hJ2 : ∀ (v3 : Int32 × Int32), v3 = x2 → ∀ (ls : Array Slot) (H : Heap) (locs : List Loc), lv_has ls 5 [(0, .ref o_q0), (1, .int p1), (2, .int x1.1)] → St A s.heap D (wLi g o_q0 o_q1 o_q2 o_q3 o_q4 o_q5 o_q6 o_people o_hated o_purse o_owed o_seat o_kept o_wasKept o_silent o_clock o_sat o_done o_first o_vain o_lent o_forgiven v3.2) H locs → W p l e (rmD 4) s m args below meth c H locs 0 0 Q (F0 m 66 ls [.int v3.1]) := by
      intro v3 e_ ls H locs hl hW
      subst e_
      have hf := hk2
      refine lv_istore_n (lv' := [(3, .int v3.1), (0, .ref o_q0), (1, .int p1), (2, .int x1.1)]) S.1 S.2.1 dX1_driftOn_66 rfl hl (by decide) rfl (fun ls hl => ?_)
      refine lv_iload_n S.1 S.2.1 dX1_driftOn_67 rfl (lv_at hl 2 rfl) ?_
      refine lv_iconst (v := 3) S.1 S.2.1 dX1_driftOn_68 ic_3 ?_
      refine lv_icmp_ge (tgt := 82) S.1 S.2.1 dX1_driftOn_69 (by decide) (fun c_ => ?_) (fun c_ => ?_)
      · have hf := it_p c_ hf
        refine lv_iconst (v := 1) S.1 S.2.1 dX1_driftOn_82 ic_1 ?_
        refine lv_aload_n S.1 S.2.1 dX1_driftOn_83 rfl (lv_at hl 1 rfl) ?_
        refine lv_iconst (v := 5) S.1 S.2.1 dX1_driftOn_84 ic_5 ?_
        obtain ⟨x4, hx4, hf⟩ := bnd_e hf
        refine Wr.goW (Wr.runV (c_X1_below hx4) S hK hW.1 hW.2.1 0 0 rfl rfl kVX1_101 rfl hl.1 [.int (1 : Int32)] rfl (Nat.le_of_ble_eq_true rfl) ⟨(Nat.le_of_ble_eq_true rfl), (Nat.le_of_ble_eq_true rfl)⟩ ⟨(Nat.zero_le _), (Nat.zero_le _)⟩ dX1_driftOn_85) hW hA (fun H locs hW => ?_)
        refine lv_iadd S.1 S.2.1 dX1_driftOn_88 ?_
        refine lv_topi (fun x5 ex5 => ?_)
        have hf := ltn_e hf ex5
        refine lv_istore (lv' := [(4, .int x5), (3, .int v3.1), (0, .ref o_q0), (1, .int p1), (2, .int x1.1)]) S.1 S.2.1 dX1_driftOn_89 hl (by decide) rfl (fun ls hl => ?_)
        refine lv_aload_n S.1 S.2.1 dX1_driftOn_91 rfl (lv_at hl 2 rfl) ?_
        refine lv_iload_n S.1 S.2.1 dX1_driftOn_92 rfl (lv_at hl 3 rfl) ?_
        refine lv_iconst (v := 3) S.1 S.2.1 dX1_driftOn_93 ic_3 ?_
        refine lv_icmp_ne (tgt := 101) S.1 S.2.1 dX1_driftOn_94 (by decide) (fun c_ => ?_) (fun c_ => ?_)
        · have hf := it_n c_ hf
          refine lv_iload_n S.1 S.2.1 dX1_driftOn_101 rfl (lv_at hl 3 rfl) ?_
          refine lv_iconst (v := 4) S.1 S.2.1 dX1_driftOn_102 ic_4 ?_
          refine lv_icmp_ne (tgt := 110) S.1 S.2.1 dX1_driftOn_103 (by decide) (fun c_ => ?_) (fun c_ => ?_)
          · have hf := it_n c_ hf
            refine lv_iconst (v := 3) S.1 S.2.1 dX1_driftOn_110 ic_3 ?_
            refine lv_iload_n S.1 S.2.1 dX1_driftOn_111 rfl (lv_at hl 4 rfl) ?_
            refine lv_iload_n S.1 S.2.1 dX1_driftOn_112 rfl (lv_at hl 1 rfl) ?_
            refine lv_iload S.1 S.2.1 dX1_driftOn_113 (lv_at hl 0 rfl) ?_
            obtain ⟨x8, hx8, hf⟩ := bnd_e hf
            refine Wr.goW (Wr.runV (c_X1_mayDo hx8) S hK hW.1 hW.2.1 0 0 rfl rfl kVX1_97 rfl hl.1 [] rfl (Nat.le_of_ble_eq_true rfl) ⟨(Nat.le_of_ble_eq_true rfl), (Nat.le_of_ble_eq_true rfl)⟩ ⟨(Nat.zero_le _), (Nat.zero_le _)⟩ dX1_driftOn_115) hW hA (fun H locs hW => ?_)
            refine lv_pop S.1 S.2.1 dX1_driftOn_118 rfl ?_
            have e_ := Option.some.inj hf
            subst e_
            exact hret _ _ _ _ dX1_driftOn_119 hW
          · have hf := it_p c_ hf
            refine lv_iconst (v := 2) S.1 S.2.1 dX1_driftOn_106 ic_2 ?_
            refine lv_goto (tgt := 111) S.1 S.2.1 dX1_driftOn_107 (by decide) ?_
            refine lv_iload_n S.1 S.2.1 dX1_driftOn_111 rfl (lv_at hl 4 rfl) ?_
            refine lv_iload_n S.1 S.2.1 dX1_driftOn_112 rfl (lv_at hl 1 rfl) ?_
            refine lv_iload S.1 S.2.1 dX1_driftOn_113 (lv_at hl 0 rfl) ?_
            obtain ⟨x7, hx7, hf⟩ := bnd_e hf
            refine Wr.goW (Wr.runV (c_X1_mayDo hx7) S hK hW.1 hW.2.1 0 0 rfl rfl kVX1_97 rfl hl.1 [] rfl (Nat.le_of_ble_eq_true rfl) ⟨(Nat.le_of_ble_eq_true rfl), (Nat.le_of_ble_eq_true rfl)⟩ ⟨(Nat.zero_le _), (Nat.zero_le _)⟩ dX1_driftOn_115) hW hA (fun H locs hW => ?_)
            refine lv_pop S.1 S.2.1 dX1_driftOn_118 rfl ?_
            have e_ := Option.some.inj hf
            subst e_
            exact hret _ _ _ _ dX1_driftOn_119 hW
        · have hf := it_p c_ hf
          refine lv_iconst (v := 1) S.1 S.2.1 dX1_driftOn_97 ic_1 ?_
          refine lv_goto (tgt := 111) S.1 S.2.1 dX1_driftOn_98 (by decide) ?_
          refine lv_iload_n S.1 S.2.1 dX1_driftOn_111 rfl (lv_at hl 4 rfl) ?_
          refine lv_iload_n S.1 S.2.1 dX1_driftOn_112 rfl (lv_at hl 1 rfl) ?_
          refine lv_iload S.1 S.2.1 dX1_driftOn_113 (lv_at hl 0 rfl) ?_
          obtain ⟨x6, hx6, hf⟩ := bnd_e hf
          refine Wr.goW (Wr.runV (c_X1_mayDo hx6) S hK hW.1 hW.2.1 0 0 rfl rfl kVX1_97 rfl hl.1 [] rfl (Nat.le_of_ble_eq_true rfl) ⟨(Nat.le_of_ble_eq_true rfl), (Nat.le_of_ble_eq_true rfl)⟩ ⟨(Nat.zero_le _), (Nat.zero_le _)⟩ dX1_driftOn_115) hW hA (fun H locs hW => ?_)
          refine lv_pop S.1 S.2.1 dX1_driftOn_118 rfl ?_
          have e_ := Option.some.inj hf
          subst e_
          exact hret _ _ _ _ dX1_driftOn_119 hW
      · have hf := it_n c_ hf
        refine lv_aload_n S.1 S.2.1 dX1_driftOn_72 rfl (lv_at hl 1 rfl) ?_
        refine lv_iconst (v := 0) S.1 S.2.1 dX1_driftOn_73 ic_0 ?_
        refine lv_iload_n S.1 S.2.1 dX1_driftOn_74 rfl (lv_at hl 3 rfl) ?_
        refine lv_iload_n S.1 S.2.1 dX1_driftOn_75 rfl (lv_at hl 0 rfl) ?_
        refine lv_iconst (v := (-1)) S.1 S.2.1 dX1_driftOn_76 ic_m1 ?_
        obtain ⟨x9, hx9, hf⟩ := bnd_e hf
        refine Wr.goW (Wr.runV (c_X1_mayDo hx9) S hK hW.1 hW.2.1 0 0 rfl rfl kVX1_97 rfl hl.1 [] rfl (Nat.le_of_ble_eq_true rfl) ⟨(Nat.le_of_ble_eq_true rfl), (Nat.le_of_ble_eq_true rfl)⟩ ⟨(Nat.zero_le _), (Nat.zero_le _)⟩ dX1_driftOn_77) hW hA (fun H locs hW => ?_)
        refine lv_pop S.1 S.2.1 dX1_driftOn_80 rfl ?_
        have e_ := Option.some.inj hf
        subst e_
        exact hret _ _ _ _ dX1_driftOn_81 hW
    have hf := hf_
    refine lv_icmp_ge (tgt := 47) S.1 S.2.1 dX1_driftOn_40 (by decide) (fun c_ => ?_) (fun c_ => ?_)
    · have hf := it_p c_ hf
      refine lv_aload_n S.1 S.2.1 dX1_driftOn_47 rfl (lv_at hl 1 rfl) ?_
      refine lv_aload_n S.1 S.2.1 dX1_driftOn_48 rfl (lv_at hl 1 rfl) ?_
      refine gfX1_9 S hK hW.1 0 rfl rfl dX1_driftOn_49 ?_
      refine lv_iconst (v := 1) S.1 S.2.1 dX1_driftOn_52 ic_1 ?_
      refine lv_isub S.1 S.2.1 dX1_driftOn_53 ?_
      obtain ⟨x10, hx10, hf⟩ := bnd_e hf
      refine Wr.goW (Wr.runV (c_X1_below hx10) S hK hW.1 hW.2.1 0 0 rfl rfl kVX1_101 rfl hl.1 [] rfl (Nat.le_of_ble_eq_true rfl) ⟨(Nat.le_of_ble_eq_true rfl), (Nat.le_of_ble_eq_true rfl)⟩ ⟨(Nat.zero_le _), (Nat.zero_le _)⟩ dX1_driftOn_54) hW hA (fun H locs hW => ?_)
      refine lv_iconst (v := 1) S.1 S.2.1 dX1_driftOn_57 ic_1 ?_
      refine lv_iadd S.1 S.2.1 dX1_driftOn_58 ?_
      refine lv_iload_n S.1 S.2.1 dX1_driftOn_59 rfl (lv_at hl 0 rfl) ?_
      refine lv_iadd S.1 S.2.1 dX1_driftOn_60 ?_
      refine lv_aload_n S.1 S.2.1 dX1_driftOn_61 rfl (lv_at hl 1 rfl) ?_
      refine gfX1_9 S hK hW.1 0 rfl rfl dX1_driftOn_62 ?_
      obtain ⟨x11, hx11, hf⟩ := bnd_e hf
      refine q_irem S hx11 dX1_driftOn_65 ?_
      exact hJ2 _ (Option.some.inj hf) _ _ _ (lv_sub hl [1, 2, 0] rfl) hW
    · have hf := it_n c_ hf
      refine lv_iconst (v := (-1)) S.1 S.2.1 dX1_driftOn_43 ic_m1 ?_
      refine lv_goto (tgt := 66) S.1 S.2.1 dX1_driftOn_44 (by decide) ?_
      exact hJ2 _ (Option.some.inj hf) _ _ _ (lv_sub hl [1, 2, 0] rfl) hW
  · have hf := it_n c_ hf
    refine lv_aload_n S.1 S.2.1 dX1_driftOn_15 rfl (lv_at hl 1 rfl) ?_
    refine lv_iload_n S.1 S.2.1 dX1_driftOn_16 rfl (lv_at hl 2 rfl) ?_
    refine lv_bipush (v := 6) S.1 S.2.1 dX1_driftOn_17 bp_6 ?_
    refine lv_icmp_ne (tgt := 26) S.1 S.2.1 dX1_driftOn_19 (by decide) (fun c_ => ?_) (fun c_ => ?_)
    · have hf := it_n c_ hf
      refine lv_iconst (v := 5) S.1 S.2.1 dX1_driftOn_26 ic_5 ?_
      refine lv_iload_n S.1 S.2.1 dX1_driftOn_27 rfl (lv_at hl 0 rfl) ?_
      refine lv_iconst (v := (-1)) S.1 S.2.1 dX1_driftOn_28 ic_m1 ?_
      refine lv_iconst (v := (-1)) S.1 S.2.1 dX1_driftOn_29 ic_m1 ?_
      obtain ⟨x13, hx13, hf⟩ := bnd_e hf
      refine Wr.goW (Wr.runV (c_X1_mayDo hx13) S hK hW.1 hW.2.1 0 0 rfl rfl kVX1_97 rfl hl.1 [] rfl (Nat.le_of_ble_eq_true rfl) ⟨(Nat.le_of_ble_eq_true rfl), (Nat.le_of_ble_eq_true rfl)⟩ ⟨(Nat.zero_le _), (Nat.zero_le _)⟩ dX1_driftOn_30) hW hA (fun H locs hW => ?_)
      refine lv_pop S.1 S.2.1 dX1_driftOn_33 rfl ?_
      have e_ := Option.some.inj hf
      subst e_
      exact hret _ _ _ _ dX1_driftOn_34 hW
    · have hf := it_p c_ hf
      refine lv_iconst (v := 4) S.1 S.2.1 dX1_driftOn_22 ic_4 ?_
      refine lv_goto (tgt := 27) S.1 S.2.1 dX1_driftOn_23 (by decide) ?_
      refine lv_iload_n S.1 S.2.1 dX1_driftOn_27 rfl (lv_at hl 0 rfl) ?_
      refine lv_iconst (v := (-1)) S.1 S.2.1 dX1_driftOn_28 ic_m1 ?_
      refine lv_iconst (v := (-1)) S.1 S.2.1 dX1_driftOn_29 ic_m1 ?_
      obtain ⟨x12, hx12, hf⟩ := bnd_e hf
      refine Wr.goW (Wr.runV (c_X1_mayDo hx12) S hK hW.1 hW.2.1 0 0 rfl rfl kVX1_97 rfl hl.1 [] rfl (Nat.le_of_ble_eq_true rfl) ⟨(Nat.le_of_ble_eq_true rfl), (Nat.le_of_ble_eq_true rfl)⟩ ⟨(Nat.zero_le _), (Nat.zero_le _)⟩ dX1_driftOn_30) hW hA (fun H locs hW => ?_)
      refine lv_pop S.1 S.2.1 dX1_driftOn_33 rfl ?_
      have e_ := Option.some.inj hf
      subst e_
      exact hret _ _ _ _ dX1_driftOn_34 hW
def f_X1_drift_L13 (fu : Nat) (p3 : Int32) (x1 : Int32 × (Nat → Int32) × (Nat → Int32) × (Nat → Int32) × (Nat → Int32) × (Nat → Int32) × (Nat → Int32) × Int32 × Int32 × Int32 × Int32 × Int32 × Int32 × Int32 × Int32) (s3 : Int32 × (Nat → Int32) × (Nat → Int32) × (Nat → Int32) × (Nat → Int32) × (Nat → Int32) × Int32 × Int32 × Int32 × Int32 × Int32 × Int32 × Int32 × Int32) : Option ((Int32 × (Nat → Int32) × (Nat → Int32) × (Nat → Int32) × (Nat → Int32) × (Nat → Int32) × Int32 × Int32 × Int32 × Int32 × Int32 × Int32 × Int32 × Int32) ⊕ ((Nat → Int32) × (Nat → Int32) × (Nat → Int32) × (Nat → Int32) × (Nat → Int32) × Int32 × Int32 × Int32 × Int32 × Int32 × Int32 × Int32 × Int32)) := if p3 ≤ s3.1 then some (.inr (s3.2.1, s3.2.2.1, s3.2.2.2.1, s3.2.2.2.2.1, s3.2.2.2.2.2.1, s3.2.2.2.2.2.2.1, s3.2.2.2.2.2.2.2.1, s3.2.2.2.2.2.2.2.2.1, s3.2.2.2.2.2.2.2.2.2.1, s3.2.2.2.2.2.2.2.2.2.2.1, s3.2.2.2.2.2.2.2.2.2.2.2.1, s3.2.2.2.2.2.2.2.2.2.2.2.2.1, s3.2.2.2.2.2.2.2.2.2.2.2.2.2)) else bnd (α := Int32 × Int32) (f_X1_below fu s3.2.2.2.2.2.2.2.2.2.2.2.2.2 (10 : Int32)) (fun x6 => if x6.1 < (8 : Int32) then if x1.1 < (2 : Int32) then some (.inl ((s3.1 + 1), s3.2.1, s3.2.2.1, s3.2.2.2.1, s3.2.2.2.2.1, s3.2.2.2.2.2.1, s3.2.2.2.2.2.2.1, s3.2.2.2.2.2.2.2.1, s3.2.2.2.2.2.2.2.2.1, s3.2.2.2.2.2.2.2.2.2.1, s3.2.2.2.2.2.2.2.2.2.2.1, s3.2.2.2.2.2.2.2.2.2.2.2.1, s3.2.2.2.2.2.2.2.2.2.2.2.2.1, x6.2)) else bnd (α := (Nat → Int32) × (Nat → Int32) × (Nat → Int32) × (Nat → Int32) × (Nat → Int32) × Int32 × Int32 × Int32 × Int32 × Int32 × Int32 × Int32 × Int32) (f_X1_driftOn fu x1.1 x1.2.1 s3.2.1 s3.2.2.1 s3.2.2.2.1 s3.2.2.2.2.1 s3.2.2.2.2.2.1 s3.2.2.2.2.2.2.1 s3.2.2.2.2.2.2.2.1 s3.2.2.2.2.2.2.2.2.1 x1.2.2.2.2.2.2.2.2.2.2.1 s3.2.2.2.2.2.2.2.2.2.1 s3.2.2.2.2.2.2.2.2.2.2.1 s3.2.2.2.2.2.2.2.2.2.2.2.1 s3.2.2.2.2.2.2.2.2.2.2.2.2.1 x6.2 x6.1) (fun x7 => some (.inl ((s3.1 + 1), x7.1, x7.2.1, x7.2.2.1, x7.2.2.2.1, x7.2.2.2.2.1, x7.2.2.2.2.2.1, x7.2.2.2.2.2.2.1, x7.2.2.2.2.2.2.2.1, x7.2.2.2.2.2.2.2.2.1, x7.2.2.2.2.2.2.2.2.2.1, x7.2.2.2.2.2.2.2.2.2.2.1, x7.2.2.2.2.2.2.2.2.2.2.2.1, x7.2.2.2.2.2.2.2.2.2.2.2.2))) else bnd (α := (Nat → Int32) × (Nat → Int32) × Int32) (f_X1_nextHour fu s3.2.2.1 s3.2.2.2.1 s3.2.2.2.2.2.2.2.1) (fun x8 => some (.inl ((s3.1 + 1), s3.2.1, x8.1, x8.2.1, s3.2.2.2.2.1, s3.2.2.2.2.2.1, s3.2.2.2.2.2.2.1, x8.2.2, s3.2.2.2.2.2.2.2.2.1, s3.2.2.2.2.2.2.2.2.2.1, s3.2.2.2.2.2.2.2.2.2.2.1, s3.2.2.2.2.2.2.2.2.2.2.2.1, s3.2.2.2.2.2.2.2.2.2.2.2.2.1, x6.2))))
def f_X1_drift (fu : Nat) (o_people : Int32) (o_hated : (Nat → Int32)) (o_purse : (Nat → Int32)) (o_owed : (Nat → Int32)) (o_seat : (Nat → Int32)) (o_kept : (Nat → Int32)) (o_wasKept : (Nat → Int32)) (o_silent : Int32) (o_clock : Int32) (o_sat : Int32) (o_done : Int32) (o_first : Int32) (o_vain : Int32) (o_lent : Int32) (o_forgiven : Int32) (o_seed : Int32) (t_people : Int32) (t_purse : (Nat → Int32)) (t_hated : (Nat → Int32)) (t_owed : (Nat → Int32)) (p2 : Int32) (p3 : Int32) : Option (Int32 × (Nat → Int32) × (Nat → Int32) × (Nat → Int32) × (Nat → Int32) × (Nat → Int32) × (Nat → Int32) × Int32 × Int32 × Int32 × Int32 × Int32 × Int32 × Int32 × Int32 × Int32) := bnd (α := Int32 × (Nat → Int32) × (Nat → Int32) × (Nat → Int32) × (Nat → Int32) × (Nat → Int32) × (Nat → Int32) × Int32 × Int32 × Int32 × Int32 × Int32 × Int32 × Int32 × Int32) (f_X1_begin fu o_people o_hated o_purse o_owed o_seat o_kept o_wasKept o_silent o_clock o_sat o_done o_first o_vain o_lent o_forgiven t_people t_purse t_hated t_owed) (fun x1 => bnd (α := (Nat → Int32) × (Nat → Int32) × (Nat → Int32) × (Nat → Int32) × (Nat → Int32) × Int32 × Int32 × Int32 × Int32 × Int32 × Int32 × Int32 × Int32) (lp (f_X1_drift_L13 fu p3 x1) fu ((0 : Int32), x1.2.2.1, x1.2.2.2.1, x1.2.2.2.2.1, x1.2.2.2.2.2.1, x1.2.2.2.2.2.2.1, x1.2.2.2.2.2.2.2.1, x1.2.2.2.2.2.2.2.2.1, x1.2.2.2.2.2.2.2.2.2.1, x1.2.2.2.2.2.2.2.2.2.2.2.1, x1.2.2.2.2.2.2.2.2.2.2.2.2.1, x1.2.2.2.2.2.2.2.2.2.2.2.2.2.1, x1.2.2.2.2.2.2.2.2.2.2.2.2.2.2, p2)) (fun v9 => some (x1.1, x1.2.1, v9.1, v9.2.1, v9.2.2.1, v9.2.2.2.1, v9.2.2.2.2.1, v9.2.2.2.2.2.1, v9.2.2.2.2.2.2.1, v9.2.2.2.2.2.2.2.1, x1.2.2.2.2.2.2.2.2.2.2.1, v9.2.2.2.2.2.2.2.2.1, v9.2.2.2.2.2.2.2.2.2.1, v9.2.2.2.2.2.2.2.2.2.2.1, v9.2.2.2.2.2.2.2.2.2.2.2.1, v9.2.2.2.2.2.2.2.2.2.2.2.2)))
set_option maxHeartbeats 4000000 in
set_option maxRecDepth 100000 in
theorem c_X1_drift {l : Launch} {D : va_G} {g : Nat → ClassId} {fu : Nat} {o_q0 o_q1 o_q2 o_q3 o_q4 o_q5 o_q6 t_q0 t_q1 t_q2 t_q3 t_q4 : Nat} {o_people : Int32} {o_hated : (Nat → Int32)} {o_purse : (Nat → Int32)} {o_owed : (Nat → Int32)} {o_seat : (Nat → Int32)} {o_kept : (Nat → Int32)} {o_wasKept : (Nat → Int32)} {o_silent : Int32} {o_clock : Int32} {o_sat : Int32} {o_done : Int32} {o_first : Int32} {o_vain : Int32} {o_lent : Int32} {o_forgiven : Int32} {o_seed : Int32} {t_people : Int32} {t_wit : (Nat → Int32)} {t_purse : (Nat → Int32)} {t_hated : (Nat → Int32)} {t_owed : (Nat → Int32)} {p2 : Int32} {p3 : Int32} {r : Int32 × (Nat → Int32) × (Nat → Int32) × (Nat → Int32) × (Nat → Int32) × (Nat → Int32) × (Nat → Int32) × Int32 × Int32 × Int32 × Int32 × Int32 × Int32 × Int32 × Int32 × Int32} (hf : f_X1_drift fu o_people o_hated o_purse o_owed o_seat o_kept o_wasKept o_silent o_clock o_sat o_done o_first o_vain o_lent o_forgiven o_seed t_people t_purse t_hated t_owed p2 p3 = some r) : Wr l D (gy g) yX1_drift cX1_drift 6 none 5 [.ref o_q0, .ref t_q0, .int p2, .int p3] (wLi g o_q0 o_q1 o_q2 o_q3 o_q4 o_q5 o_q6 o_people o_hated o_purse o_owed o_seat o_kept o_wasKept o_silent o_clock o_sat o_done o_first o_vain o_lent o_forgiven o_seed ++ wTw g t_q0 t_q1 t_q2 t_q3 t_q4 t_people t_wit t_purse t_hated t_owed) (wLi g o_q0 o_q1 o_q2 o_q3 o_q4 o_q5 o_q6 r.1 r.2.1 r.2.2.1 r.2.2.2.1 r.2.2.2.2.1 r.2.2.2.2.2.1 r.2.2.2.2.2.2.1 r.2.2.2.2.2.2.2.1 r.2.2.2.2.2.2.2.2.1 r.2.2.2.2.2.2.2.2.2.1 r.2.2.2.2.2.2.2.2.2.2.1 r.2.2.2.2.2.2.2.2.2.2.2.1 r.2.2.2.2.2.2.2.2.2.2.2.2.1 r.2.2.2.2.2.2.2.2.2.2.2.2.2.1 r.2.2.2.2.2.2.2.2.2.2.2.2.2.2.1 r.2.2.2.2.2.2.2.2.2.2.2.2.2.2.2 ++ wTw g t_q0 t_q1 t_q2 t_q3 t_q4 t_people t_wit t_purse t_hated t_owed) none := by
  refine Wr.ofV (by decide) (Nat.le_of_ble_eq_true rfl) ?_
  intro p e s m args below meth c Q A S hK hA hret ls hl hW
  have hl : lv_has ls 6 [(0, .ref o_q0), (1, .ref t_q0), (2, .int p2), (3, .int p3)] := hl
  refine lv_aload_n S.1 S.2.1 dX1_drift_0 rfl (lv_at hl 0 rfl) ?_
  refine lv_aload_n S.1 S.2.1 dX1_drift_1 rfl (lv_at hl 1 rfl) ?_
  obtain ⟨x1, hx1, hf⟩ := bnd_e hf
  refine Wr.goW (Wr.runV (c_X1_begin hx1) S hK hW.1 hW.2.1 0 0 rfl rfl kVX1_79 rfl hl.1 [] rfl (Nat.le_of_ble_eq_true rfl) ⟨(Nat.le_of_ble_eq_true rfl), (Nat.le_of_ble_eq_true rfl)⟩ ⟨(Nat.zero_le _), (Nat.zero_le _)⟩ dX1_drift_2) hW hA (fun H locs hW => ?_)
  refine lv_aload_n S.1 S.2.1 dX1_drift_5 rfl (lv_at hl 0 rfl) ?_
  refine lv_iload_n S.1 S.2.1 dX1_drift_6 rfl (lv_at hl 2 rfl) ?_
  refine pfX1_58 (ws2 := (wLi g o_q0 o_q1 o_q2 o_q3 o_q4 o_q5 o_q6 x1.1 x1.2.1 x1.2.2.1 x1.2.2.2.1 x1.2.2.2.2.1 x1.2.2.2.2.2.1 x1.2.2.2.2.2.2.1 x1.2.2.2.2.2.2.2.1 x1.2.2.2.2.2.2.2.2.1 x1.2.2.2.2.2.2.2.2.2.1 x1.2.2.2.2.2.2.2.2.2.2.1 x1.2.2.2.2.2.2.2.2.2.2.2.1 x1.2.2.2.2.2.2.2.2.2.2.2.2.1 x1.2.2.2.2.2.2.2.2.2.2.2.2.2.1 x1.2.2.2.2.2.2.2.2.2.2.2.2.2.2 p2 ++ wTw g t_q0 t_q1 t_q2 t_q3 t_q4 t_people t_wit t_purse t_hated t_owed)) S hK hW 0 rfl rfl rfl (Nat.le_of_ble_eq_true rfl) rfl dX1_drift_7 (fun H locs hW => ?_)
  refine lv_iconst (v := 0) S.1 S.2.1 dX1_drift_10 ic_0 ?_
  refine lv_istore (lv' := [(4, .int (0 : Int32)), (0, .ref o_q0), (1, .ref t_q0), (2, .int p2), (3, .int p3)]) S.1 S.2.1 dX1_drift_11 hl (by decide) rfl (fun ls hl => ?_)
  obtain ⟨x4, hf_, hk4⟩ := bnd_e hf
  have hE4 : ∀ (v9 : (Nat → Int32) × (Nat → Int32) × (Nat → Int32) × (Nat → Int32) × (Nat → Int32) × Int32 × Int32 × Int32 × Int32 × Int32 × Int32 × Int32 × Int32), v9 = x4 → ∀ (ls : Array Slot) (H : Heap) (locs : List Loc), lv_has ls 6 [] → St A s.heap D (wLi g o_q0 o_q1 o_q2 o_q3 o_q4 o_q5 o_q6 x1.1 x1.2.1 v9.1 v9.2.1 v9.2.2.1 v9.2.2.2.1 v9.2.2.2.2.1 v9.2.2.2.2.2.1 v9.2.2.2.2.2.2.1 v9.2.2.2.2.2.2.2.1 x1.2.2.2.2.2.2.2.2.2.2.1 v9.2.2.2.2.2.2.2.2.1 v9.2.2.2.2.2.2.2.2.2.1 v9.2.2.2.2.2.2.2.2.2.2.1 v9.2.2.2.2.2.2.2.2.2.2.2.1 v9.2.2.2.2.2.2.2.2.2.2.2.2 ++ wTw g t_q0 t_q1 t_q2 t_q3 t_q4 t_people t_wit t_purse t_hated t_owed) H locs → W p l e (rmD 5) s m args below meth c H locs 0 0 Q (F0 m 61 ls []) := by
    intro v9 e_ ls H locs hl hW
    subst e_
    have hf := hk4
    have e_ := Option.some.inj hf
    subst e_
    exact hret _ _ _ _ dX1_drift_61 hW
  refine lp_ind (P := fun (s3 : Int32 × (Nat → Int32) × (Nat → Int32) × (Nat → Int32) × (Nat → Int32) × (Nat → Int32) × Int32 × Int32 × Int32 × Int32 × Int32 × Int32 × Int32 × Int32) => ∀ (ls : Array Slot) (H : Heap) (locs : List Loc), lv_has ls 6 [(0, .ref o_q0), (3, .int p3), (4, .int s3.1)] → St A s.heap D (wLi g o_q0 o_q1 o_q2 o_q3 o_q4 o_q5 o_q6 x1.1 x1.2.1 s3.2.1 s3.2.2.1 s3.2.2.2.1 s3.2.2.2.2.1 s3.2.2.2.2.2.1 s3.2.2.2.2.2.2.1 s3.2.2.2.2.2.2.2.1 s3.2.2.2.2.2.2.2.2.1 x1.2.2.2.2.2.2.2.2.2.2.1 s3.2.2.2.2.2.2.2.2.2.1 s3.2.2.2.2.2.2.2.2.2.2.1 s3.2.2.2.2.2.2.2.2.2.2.2.1 s3.2.2.2.2.2.2.2.2.2.2.2.2.1 s3.2.2.2.2.2.2.2.2.2.2.2.2.2 ++ wTw g t_q0 t_q1 t_q2 t_q3 t_q4 t_people t_wit t_purse t_hated t_owed) H locs → W p l e (rmD 5) s m args below meth c H locs 0 0 Q (F0 m 13 ls [])) ?_ _ _ hf_ _ _ _ (lv_sub hl [1, 4, 0] rfl) hW
  intro s3 x5 hf hI4 hR4 ls H locs hl hW
  refine lv_iload S.1 S.2.1 dX1_drift_13 (lv_at hl 2 rfl) ?_
  refine lv_iload_n S.1 S.2.1 dX1_drift_15 rfl (lv_at hl 1 rfl) ?_
  refine lv_icmp_ge (tgt := 61) S.1 S.2.1 dX1_drift_16 (by decide) (fun c_ => ?_) (fun c_ => ?_)
  · have hf := it_p c_ hf
    have e_ := hR4 _ (Option.some.inj hf).symm
    exact hE4 _ e_ _ _ _ (lv_sub hl [] rfl) hW
  · have hf := it_n c_ hf
    refine lv_aload_n S.1 S.2.1 dX1_drift_19 rfl (lv_at hl 0 rfl) ?_
    refine lv_bipush (v := 10) S.1 S.2.1 dX1_drift_20 bp_10 ?_
    obtain ⟨x6, hx6, hf⟩ := bnd_e hf
    refine Wr.go (ws2 := (wLi g o_q0 o_q1 o_q2 o_q3 o_q4 o_q5 o_q6 x1.1 x1.2.1 s3.2.1 s3.2.2.1 s3.2.2.2.1 s3.2.2.2.2.1 s3.2.2.2.2.2.1 s3.2.2.2.2.2.2.1 s3.2.2.2.2.2.2.2.1 s3.2.2.2.2.2.2.2.2.1 x1.2.2.2.2.2.2.2.2.2.2.1 s3.2.2.2.2.2.2.2.2.2.1 s3.2.2.2.2.2.2.2.2.2.2.1 s3.2.2.2.2.2.2.2.2.2.2.2.1 s3.2.2.2.2.2.2.2.2.2.2.2.2.1 x6.2 ++ wTw g t_q0 t_q1 t_q2 t_q3 t_q4 t_people t_wit t_purse t_hated t_owed)) (Wr.runV (c_X1_below hx6) S hK (hW.1.sub (ws' := (wLi g o_q0 o_q1 o_q2 o_q3 o_q4 o_q5 o_q6 x1.1 x1.2.1 s3.2.1 s3.2.2.1 s3.2.2.2.1 s3.2.2.2.2.1 s3.2.2.2.2.2.1 s3.2.2.2.2.2.2.1 s3.2.2.2.2.2.2.2.1 s3.2.2.2.2.2.2.2.2.1 x1.2.2.2.2.2.2.2.2.2.2.1 s3.2.2.2.2.2.2.2.2.2.1 s3.2.2.2.2.2.2.2.2.2.2.1 s3.2.2.2.2.2.2.2.2.2.2.2.1 s3.2.2.2.2.2.2.2.2.2.2.2.2.1 s3.2.2.2.2.2.2.2.2.2.2.2.2.2)) [0, 1, 2, 3, 4, 5, 6] rfl) (hW.2.1.sub (ws' := (wLi g o_q0 o_q1 o_q2 o_q3 o_q4 o_q5 o_q6 x1.1 x1.2.1 s3.2.1 s3.2.2.1 s3.2.2.2.1 s3.2.2.2.2.1 s3.2.2.2.2.2.1 s3.2.2.2.2.2.2.1 s3.2.2.2.2.2.2.2.1 s3.2.2.2.2.2.2.2.2.1 x1.2.2.2.2.2.2.2.2.2.2.1 s3.2.2.2.2.2.2.2.2.2.1 s3.2.2.2.2.2.2.2.2.2.2.1 s3.2.2.2.2.2.2.2.2.2.2.2.1 s3.2.2.2.2.2.2.2.2.2.2.2.2.1 s3.2.2.2.2.2.2.2.2.2.2.2.2.2)) [0, 1, 2, 3, 4, 5, 6] (by decide) rfl) 0 0 rfl rfl kVX1_101 rfl hl.1 [] rfl (Nat.le_of_ble_eq_true rfl) ⟨(Nat.le_of_ble_eq_true rfl), (Nat.le_of_ble_eq_true rfl)⟩ ⟨(Nat.zero_le _), (Nat.zero_le _)⟩ dX1_drift_22) hW hA [0, 1, 2, 3, 4, 5, 6] rfl [(true, 0), (true, 1), (true, 2), (true, 3), (true, 4), (true, 5), (true, 6), (false, 7), (false, 8), (false, 9), (false, 10), (false, 11)] rfl (by decide) rfl (fun H locs hW => ?_)
    refine lv_istore (lv' := [(5, .int x6.1), (0, .ref o_q0), (3, .int p3), (4, .int s3.1)]) S.1 S.2.1 dX1_drift_25 hl (by decide) rfl (fun ls hl => ?_)
    refine lv_iload S.1 S.2.1 dX1_drift_27 (lv_at hl 0 rfl) ?_
    refine lv_bipush (v := 8) S.1 S.2.1 dX1_drift_29 bp_8 ?_
    refine lv_icmp_lt (tgt := 41) S.1 S.2.1 dX1_drift_31 (by decide) (fun c_ => ?_) (fun c_ => ?_)
    · have hf := it_p c_ hf
      refine lv_aload_n S.1 S.2.1 dX1_drift_41 rfl (lv_at hl 1 rfl) ?_
      refine gfX1_9 S hK hW.1 0 rfl rfl dX1_drift_42 ?_
      refine lv_iconst (v := 2) S.1 S.2.1 dX1_drift_45 ic_2 ?_
      refine lv_icmp_lt (tgt := 55) S.1 S.2.1 dX1_drift_46 (by decide) (fun c_ => ?_) (fun c_ => ?_)
      · have hf := it_p c_ hf
        refine q_iinc (w := 1) (lv' := [(4, .int (s3.1 + 1)), (5, .int x6.1), (0, .ref o_q0), (3, .int p3)]) S dX1_drift_55 hl (k := 3) rfl ic_1 (by decide) rfl (fun ls hl => ?_)
        refine lv_goto (tgt := 13) S.1 S.2.1 dX1_drift_58 (by decide) ?_
        exact hI4 _ (Option.some.inj hf).symm _ _ _ (lv_sub hl [2, 3, 0] rfl) hW
      · have hf := it_n c_ hf
        refine lv_aload_n S.1 S.2.1 dX1_drift_49 rfl (lv_at hl 1 rfl) ?_
        refine lv_iload S.1 S.2.1 dX1_drift_50 (lv_at hl 0 rfl) ?_
        obtain ⟨x7, hx7, hf⟩ := bnd_e hf
        refine Wr.go (ws2 := (wLi g o_q0 o_q1 o_q2 o_q3 o_q4 o_q5 o_q6 x1.1 x1.2.1 x7.1 x7.2.1 x7.2.2.1 x7.2.2.2.1 x7.2.2.2.2.1 x7.2.2.2.2.2.1 x7.2.2.2.2.2.2.1 x7.2.2.2.2.2.2.2.1 x1.2.2.2.2.2.2.2.2.2.2.1 x7.2.2.2.2.2.2.2.2.1 x7.2.2.2.2.2.2.2.2.2.1 x7.2.2.2.2.2.2.2.2.2.2.1 x7.2.2.2.2.2.2.2.2.2.2.2.1 x7.2.2.2.2.2.2.2.2.2.2.2.2 ++ wTw g t_q0 t_q1 t_q2 t_q3 t_q4 t_people t_wit t_purse t_hated t_owed)) (Wr.runV (c_X1_driftOn hx7) S hK (hW.1.sub (ws' := (wLi g o_q0 o_q1 o_q2 o_q3 o_q4 o_q5 o_q6 x1.1 x1.2.1 s3.2.1 s3.2.2.1 s3.2.2.2.1 s3.2.2.2.2.1 s3.2.2.2.2.2.1 s3.2.2.2.2.2.2.1 s3.2.2.2.2.2.2.2.1 s3.2.2.2.2.2.2.2.2.1 x1.2.2.2.2.2.2.2.2.2.2.1 s3.2.2.2.2.2.2.2.2.2.1 s3.2.2.2.2.2.2.2.2.2.2.1 s3.2.2.2.2.2.2.2.2.2.2.2.1 s3.2.2.2.2.2.2.2.2.2.2.2.2.1 x6.2)) [0, 1, 2, 3, 4, 5, 6] rfl) (hW.2.1.sub (ws' := (wLi g o_q0 o_q1 o_q2 o_q3 o_q4 o_q5 o_q6 x1.1 x1.2.1 s3.2.1 s3.2.2.1 s3.2.2.2.1 s3.2.2.2.2.1 s3.2.2.2.2.2.1 s3.2.2.2.2.2.2.1 s3.2.2.2.2.2.2.2.1 s3.2.2.2.2.2.2.2.2.1 x1.2.2.2.2.2.2.2.2.2.2.1 s3.2.2.2.2.2.2.2.2.2.1 s3.2.2.2.2.2.2.2.2.2.2.1 s3.2.2.2.2.2.2.2.2.2.2.2.1 s3.2.2.2.2.2.2.2.2.2.2.2.2.1 x6.2)) [0, 1, 2, 3, 4, 5, 6] (by decide) rfl) 0 0 rfl rfl kVX1_108 rfl hl.1 [] rfl (Nat.le_of_ble_eq_true rfl) ⟨(Nat.le_of_ble_eq_true rfl), (Nat.le_of_ble_eq_true rfl)⟩ ⟨(Nat.zero_le _), (Nat.zero_le _)⟩ dX1_drift_52) hW hA [0, 1, 2, 3, 4, 5, 6] rfl [(true, 0), (true, 1), (true, 2), (true, 3), (true, 4), (true, 5), (true, 6), (false, 7), (false, 8), (false, 9), (false, 10), (false, 11)] rfl (by decide) rfl (fun H locs hW => ?_)
        refine q_iinc (w := 1) (lv' := [(4, .int (s3.1 + 1)), (5, .int x6.1), (0, .ref o_q0), (3, .int p3)]) S dX1_drift_55 hl (k := 3) rfl ic_1 (by decide) rfl (fun ls hl => ?_)
        refine lv_goto (tgt := 13) S.1 S.2.1 dX1_drift_58 (by decide) ?_
        exact hI4 _ (Option.some.inj hf).symm _ _ _ (lv_sub hl [2, 3, 0] rfl) hW
    · have hf := it_n c_ hf
      refine lv_aload_n S.1 S.2.1 dX1_drift_34 rfl (lv_at hl 1 rfl) ?_
      obtain ⟨x8, hx8, hf⟩ := bnd_e hf
      refine Wr.go (ws2 := (wLi g o_q0 o_q1 o_q2 o_q3 o_q4 o_q5 o_q6 x1.1 x1.2.1 s3.2.1 x8.1 x8.2.1 s3.2.2.2.2.1 s3.2.2.2.2.2.1 s3.2.2.2.2.2.2.1 x8.2.2 s3.2.2.2.2.2.2.2.2.1 x1.2.2.2.2.2.2.2.2.2.2.1 s3.2.2.2.2.2.2.2.2.2.1 s3.2.2.2.2.2.2.2.2.2.2.1 s3.2.2.2.2.2.2.2.2.2.2.2.1 s3.2.2.2.2.2.2.2.2.2.2.2.2.1 x6.2 ++ wTw g t_q0 t_q1 t_q2 t_q3 t_q4 t_people t_wit t_purse t_hated t_owed)) (Wr.runV (c_X1_nextHour hx8) S hK (hW.1.sub (ws' := (wLi g o_q0 o_q1 o_q2 o_q3 o_q4 o_q5 o_q6 x1.1 x1.2.1 s3.2.1 s3.2.2.1 s3.2.2.2.1 s3.2.2.2.2.1 s3.2.2.2.2.2.1 s3.2.2.2.2.2.2.1 s3.2.2.2.2.2.2.2.1 s3.2.2.2.2.2.2.2.2.1 x1.2.2.2.2.2.2.2.2.2.2.1 s3.2.2.2.2.2.2.2.2.2.1 s3.2.2.2.2.2.2.2.2.2.2.1 s3.2.2.2.2.2.2.2.2.2.2.2.1 s3.2.2.2.2.2.2.2.2.2.2.2.2.1 x6.2)) [0, 1, 2, 3, 4, 5, 6] rfl) (hW.2.1.sub (ws' := (wLi g o_q0 o_q1 o_q2 o_q3 o_q4 o_q5 o_q6 x1.1 x1.2.1 s3.2.1 s3.2.2.1 s3.2.2.2.1 s3.2.2.2.2.1 s3.2.2.2.2.2.1 s3.2.2.2.2.2.2.1 s3.2.2.2.2.2.2.2.1 s3.2.2.2.2.2.2.2.2.1 x1.2.2.2.2.2.2.2.2.2.2.1 s3.2.2.2.2.2.2.2.2.2.1 s3.2.2.2.2.2.2.2.2.2.2.1 s3.2.2.2.2.2.2.2.2.2.2.2.1 s3.2.2.2.2.2.2.2.2.2.2.2.2.1 x6.2)) [0, 1, 2, 3, 4, 5, 6] (by decide) rfl) 0 0 rfl rfl kVX1_105 rfl hl.1 [] rfl (Nat.le_of_ble_eq_true rfl) ⟨(Nat.le_of_ble_eq_true rfl), (Nat.le_of_ble_eq_true rfl)⟩ ⟨(Nat.zero_le _), (Nat.zero_le _)⟩ dX1_drift_35) hW hA [0, 1, 2, 3, 4, 5, 6] rfl [(true, 0), (true, 1), (true, 2), (true, 3), (true, 4), (true, 5), (true, 6), (false, 7), (false, 8), (false, 9), (false, 10), (false, 11)] rfl (by decide) rfl (fun H locs hW => ?_)
      refine lv_goto (tgt := 55) S.1 S.2.1 dX1_drift_38 (by decide) ?_
      refine q_iinc (w := 1) (lv' := [(4, .int (s3.1 + 1)), (5, .int x6.1), (0, .ref o_q0), (3, .int p3)]) S dX1_drift_55 hl (k := 3) rfl ic_1 (by decide) rfl (fun ls hl => ?_)
      refine lv_goto (tgt := 13) S.1 S.2.1 dX1_drift_58 (by decide) ?_
      exact hI4 _ (Option.some.inj hf).symm _ _ _ (lv_sub hl [2, 3, 0] rfl) hW
def f_X1_owedInAll_L4 (o_owed : (Nat → Int32)) (s2 : Int32 × Int32) : Option ((Int32 × Int32) ⊕ (Int32)) := if (36 : Int32) ≤ s2.2 then some (.inr s2.1) else bnd (α := Int32) (rdi 36 o_owed s2.2) (fun x5 => ltn (s2.1 + x5) (fun x6 => some (.inl (x6, (s2.2 + 1)))))
def f_X1_owedInAll (fu : Nat) (o_owed : (Nat → Int32)) : Option (Int32) := bnd (α := Int32) (lp (f_X1_owedInAll_L4 o_owed) fu ((0 : Int32), (0 : Int32))) (fun v7 => some v7)
set_option maxHeartbeats 4000000 in
set_option maxRecDepth 100000 in
theorem c_X1_owedInAll {l : Launch} {D : va_G} {g : Nat → ClassId} {fu : Nat} {o_q0 o_q1 o_q2 o_q3 o_q4 o_q5 o_q6 : Nat} {o_people : Int32} {o_hated : (Nat → Int32)} {o_purse : (Nat → Int32)} {o_owed : (Nat → Int32)} {o_seat : (Nat → Int32)} {o_kept : (Nat → Int32)} {o_wasKept : (Nat → Int32)} {o_silent : Int32} {o_clock : Int32} {o_sat : Int32} {o_done : Int32} {o_first : Int32} {o_vain : Int32} {o_lent : Int32} {o_forgiven : Int32} {o_seed : Int32} {r : Int32} (hf : f_X1_owedInAll fu o_owed = some r) : Rd l D (gy g) yX1_owedInAll cX1_owedInAll 3 (some .int) 0 [.ref o_q0] (wLi g o_q0 o_q1 o_q2 o_q3 o_q4 o_q5 o_q6 o_people o_hated o_purse o_owed o_seat o_kept o_wasKept o_silent o_clock o_sat o_done o_first o_vain o_lent o_forgiven o_seed) (some (.int r)) := by
  refine Rd.ofI (by decide) (Nat.le_of_ble_eq_true rfl) ?_
  intro p e s m args below meth c Q S hK hP hret ls hl
  have hl : lv_has ls 3 [(0, .ref o_q0)] := hl
  refine lv_iconst (v := 0) S.1 S.2.1 dX1_owedInAll_0 ic_0 ?_
  refine lv_istore_n (lv' := [(1, .int (0 : Int32)), (0, .ref o_q0)]) S.1 S.2.1 dX1_owedInAll_1 rfl hl (by decide) rfl (fun ls hl => ?_)
  refine lv_iconst (v := 0) S.1 S.2.1 dX1_owedInAll_2 ic_0 ?_
  refine lv_istore_n (lv' := [(2, .int (0 : Int32)), (1, .int (0 : Int32)), (0, .ref o_q0)]) S.1 S.2.1 dX1_owedInAll_3 rfl hl (by decide) rfl (fun ls hl => ?_)
  obtain ⟨x3, hf_, hk3⟩ := bnd_e hf
  have hE3 : ∀ (v7 : Int32), v7 = x3 → ∀ (ls : Array Slot), lv_has ls 3 [(1, .int v7)] → W p l e (rmD 0) s m args below meth c s.heap [] 0 0 Q (F0 m 28 ls []) := by
    intro v7 e_ ls hl
    subst e_
    have hf := hk3
    refine lv_iload_n S.1 S.2.1 dX1_owedInAll_28 rfl (lv_at hl 0 rfl) ?_
    have e_ := Option.some.inj hf
    subst e_
    exact hret _ _ dX1_owedInAll_29
  refine lp_ind (P := fun (s2 : Int32 × Int32) => ∀ (ls : Array Slot), lv_has ls 3 [(0, .ref o_q0), (1, .int s2.1), (2, .int s2.2)] → W p l e (rmD 0) s m args below meth c s.heap [] 0 0 Q (F0 m 4 ls [])) ?_ _ _ hf_ _ (lv_sub hl [2, 1, 0] rfl)
  intro s2 x4 hf hI3 hR3 ls hl
  refine lv_iload_n S.1 S.2.1 dX1_owedInAll_4 rfl (lv_at hl 2 rfl) ?_
  refine lv_aload_n S.1 S.2.1 dX1_owedInAll_5 rfl (lv_at hl 0 rfl) ?_
  refine gfX1_22 S hK hP 0 rfl rfl dX1_owedInAll_6 ?_
  refine q_alen S hK hP 3 0 rfl rfl (v := (36 : Int32)) rfl dX1_owedInAll_9 ?_
  refine lv_icmp_ge (tgt := 28) S.1 S.2.1 dX1_owedInAll_10 (by decide) (fun c_ => ?_) (fun c_ => ?_)
  · have hf := it_p c_ hf
    have e_ := hR3 _ (Option.some.inj hf).symm
    exact hE3 _ e_ _ (lv_sub hl [1] rfl)
  · have hf := it_n c_ hf
    refine lv_iload_n S.1 S.2.1 dX1_owedInAll_13 rfl (lv_at hl 1 rfl) ?_
    refine lv_aload_n S.1 S.2.1 dX1_owedInAll_14 rfl (lv_at hl 0 rfl) ?_
    refine gfX1_22 S hK hP 0 rfl rfl dX1_owedInAll_15 ?_
    refine lv_iload_n S.1 S.2.1 dX1_owedInAll_18 rfl (lv_at hl 2 rfl) ?_
    obtain ⟨x5, hx5, hf⟩ := bnd_e hf
    refine q_iald S hK hP 3 0 rfl rfl hx5 dX1_owedInAll_19 ?_
    refine lv_iadd S.1 S.2.1 dX1_owedInAll_20 ?_
    refine lv_topi (fun x6 ex6 => ?_)
    have hf := ltn_e hf ex6
    refine lv_istore_n (lv' := [(1, .int x6), (0, .ref o_q0), (2, .int s2.2)]) S.1 S.2.1 dX1_owedInAll_21 rfl hl (by decide) rfl (fun ls hl => ?_)
    refine q_iinc (w := 1) (lv' := [(2, .int (s2.2 + 1)), (1, .int x6), (0, .ref o_q0)]) S dX1_owedInAll_22 hl (k := 2) rfl ic_1 (by decide) rfl (fun ls hl => ?_)
    refine lv_goto (tgt := 4) S.1 S.2.1 dX1_owedInAll_25 (by decide) ?_
    exact hI3 _ (Option.some.inj hf).symm _ (lv_sub hl [2, 1, 0] rfl)
def f_X1_sitting_L4 (o_people : Int32) (o_seat : (Nat → Int32)) (s2 : Int32 × Int32) : Option ((Int32 × Int32) ⊕ (Int32)) := if o_people ≤ s2.2 then some (.inr s2.1) else bnd (α := Int32) (rdi 6 o_seat s2.2) (fun x5 => if x5 = (6 : Int32) then some (.inl (s2.1, (s2.2 + 1))) else ltn (s2.1 ||| (jshl (1 : Int32) s2.2)) (fun x6 => some (.inl (x6, (s2.2 + 1)))))
def f_X1_sitting (fu : Nat) (o_people : Int32) (o_seat : (Nat → Int32)) : Option (Int32) := bnd (α := Int32) (lp (f_X1_sitting_L4 o_people o_seat) fu ((0 : Int32), (0 : Int32))) (fun v7 => some v7)
set_option maxHeartbeats 4000000 in
set_option maxRecDepth 100000 in
theorem c_X1_sitting {l : Launch} {D : va_G} {g : Nat → ClassId} {fu : Nat} {o_q0 o_q1 o_q2 o_q3 o_q4 o_q5 o_q6 : Nat} {o_people : Int32} {o_hated : (Nat → Int32)} {o_purse : (Nat → Int32)} {o_owed : (Nat → Int32)} {o_seat : (Nat → Int32)} {o_kept : (Nat → Int32)} {o_wasKept : (Nat → Int32)} {o_silent : Int32} {o_clock : Int32} {o_sat : Int32} {o_done : Int32} {o_first : Int32} {o_vain : Int32} {o_lent : Int32} {o_forgiven : Int32} {o_seed : Int32} {r : Int32} (hf : f_X1_sitting fu o_people o_seat = some r) : Rd l D (gy g) yX1_sitting cX1_sitting 3 (some .int) 0 [.ref o_q0] (wLi g o_q0 o_q1 o_q2 o_q3 o_q4 o_q5 o_q6 o_people o_hated o_purse o_owed o_seat o_kept o_wasKept o_silent o_clock o_sat o_done o_first o_vain o_lent o_forgiven o_seed) (some (.int r)) := by
  refine Rd.ofI (by decide) (Nat.le_of_ble_eq_true rfl) ?_
  intro p e s m args below meth c Q S hK hP hret ls hl
  have hl : lv_has ls 3 [(0, .ref o_q0)] := hl
  refine lv_iconst (v := 0) S.1 S.2.1 dX1_sitting_0 ic_0 ?_
  refine lv_istore_n (lv' := [(1, .int (0 : Int32)), (0, .ref o_q0)]) S.1 S.2.1 dX1_sitting_1 rfl hl (by decide) rfl (fun ls hl => ?_)
  refine lv_iconst (v := 0) S.1 S.2.1 dX1_sitting_2 ic_0 ?_
  refine lv_istore_n (lv' := [(2, .int (0 : Int32)), (1, .int (0 : Int32)), (0, .ref o_q0)]) S.1 S.2.1 dX1_sitting_3 rfl hl (by decide) rfl (fun ls hl => ?_)
  obtain ⟨x3, hf_, hk3⟩ := bnd_e hf
  have hE3 : ∀ (v7 : Int32), v7 = x3 → ∀ (ls : Array Slot), lv_has ls 3 [(1, .int v7)] → W p l e (rmD 0) s m args below meth c s.heap [] 0 0 Q (F0 m 35 ls []) := by
    intro v7 e_ ls hl
    subst e_
    have hf := hk3
    refine lv_iload_n S.1 S.2.1 dX1_sitting_35 rfl (lv_at hl 0 rfl) ?_
    have e_ := Option.some.inj hf
    subst e_
    exact hret _ _ dX1_sitting_36
  refine lp_ind (P := fun (s2 : Int32 × Int32) => ∀ (ls : Array Slot), lv_has ls 3 [(0, .ref o_q0), (1, .int s2.1), (2, .int s2.2)] → W p l e (rmD 0) s m args below meth c s.heap [] 0 0 Q (F0 m 4 ls [])) ?_ _ _ hf_ _ (lv_sub hl [2, 1, 0] rfl)
  intro s2 x4 hf hI3 hR3 ls hl
  refine lv_iload_n S.1 S.2.1 dX1_sitting_4 rfl (lv_at hl 2 rfl) ?_
  refine lv_aload_n S.1 S.2.1 dX1_sitting_5 rfl (lv_at hl 0 rfl) ?_
  refine gfX1_9 S hK hP 0 rfl rfl dX1_sitting_6 ?_
  refine lv_icmp_ge (tgt := 35) S.1 S.2.1 dX1_sitting_9 (by decide) (fun c_ => ?_) (fun c_ => ?_)
  · have hf := it_p c_ hf
    have e_ := hR3 _ (Option.some.inj hf).symm
    exact hE3 _ e_ _ (lv_sub hl [1] rfl)
  · have hf := it_n c_ hf
    refine lv_aload_n S.1 S.2.1 dX1_sitting_12 rfl (lv_at hl 0 rfl) ?_
    refine gfX1_25 S hK hP 0 rfl rfl dX1_sitting_13 ?_
    refine lv_iload_n S.1 S.2.1 dX1_sitting_16 rfl (lv_at hl 2 rfl) ?_
    obtain ⟨x5, hx5, hf⟩ := bnd_e hf
    refine q_iald S hK hP 4 0 rfl rfl hx5 dX1_sitting_17 ?_
    refine lv_bipush (v := 6) S.1 S.2.1 dX1_sitting_18 bp_6 ?_
    refine lv_icmp_eq (tgt := 29) S.1 S.2.1 dX1_sitting_20 (by decide) (fun c_ => ?_) (fun c_ => ?_)
    · have hf := it_p c_ hf
      refine q_iinc (w := 1) (lv' := [(2, .int (s2.2 + 1)), (0, .ref o_q0), (1, .int s2.1)]) S dX1_sitting_29 hl (k := 2) rfl ic_1 (by decide) rfl (fun ls hl => ?_)
      refine lv_goto (tgt := 4) S.1 S.2.1 dX1_sitting_32 (by decide) ?_
      exact hI3 _ (Option.some.inj hf).symm _ (lv_sub hl [1, 2, 0] rfl)
    · have hf := it_n c_ hf
      refine lv_iload_n S.1 S.2.1 dX1_sitting_23 rfl (lv_at hl 1 rfl) ?_
      refine lv_iconst (v := 1) S.1 S.2.1 dX1_sitting_24 ic_1 ?_
      refine lv_iload_n S.1 S.2.1 dX1_sitting_25 rfl (lv_at hl 2 rfl) ?_
      refine lv_ishl S.1 S.2.1 dX1_sitting_26 ?_
      refine lv_ior S.1 S.2.1 dX1_sitting_27 ?_
      refine lv_topi (fun x6 ex6 => ?_)
      have hf := ltn_e hf ex6
      refine lv_istore_n (lv' := [(1, .int x6), (0, .ref o_q0), (2, .int s2.2)]) S.1 S.2.1 dX1_sitting_28 rfl hl (by decide) rfl (fun ls hl => ?_)
      refine q_iinc (w := 1) (lv' := [(2, .int (s2.2 + 1)), (1, .int x6), (0, .ref o_q0)]) S dX1_sitting_29 hl (k := 2) rfl ic_1 (by decide) rfl (fun ls hl => ?_)
      refine lv_goto (tgt := 4) S.1 S.2.1 dX1_sitting_32 (by decide) ?_
      exact hI3 _ (Option.some.inj hf).symm _ (lv_sub hl [2, 1, 0] rfl)
def f_X1_tell (fu : Nat) (o_people : Int32) (o_purse : (Nat → Int32)) (o_owed : (Nat → Int32)) (o_seat : (Nat → Int32)) (o_silent : Int32) (o_clock : Int32) (o_sat : Int32) (p1 : Int32) : Option (Int32) := bnd (α := (Int32) ⊕ (Unit)) (if p1 < (10 : Int32) then some (.inr ()) else if (30 : Int32) ≤ p1 then some (.inr ()) else ltn (jrm p1 (10 : Int32)) (fun x13 => bnd (α := Int32) (f_X1_has fu o_people x13) (fun x14 => if x14 = 0 then some (.inl (-1 : Int32)) else if (20 : Int32) ≤ p1 then bnd (α := Int32) (rdi 6 o_seat x13) (fun x15 => some (.inl x15)) else bnd (α := Int32) (rdi 6 o_purse x13) (fun x16 => some (.inl x16))))) (fun x1 => cse x1 (fun y17 => some y17) (fun v2 => bnd (α := (Int32) ⊕ (Unit)) (if p1 < (100 : Int32) then some (.inr ()) else if (200 : Int32) ≤ p1 then some (.inr ()) else ltn ((p1 - (100 : Int32)) / (10 : Int32)) (fun x7 => ltn (jrm p1 (10 : Int32)) (fun x8 => bnd (α := Int32) (f_X1_has fu o_people x7) (fun x9 => if x9 = 0 then some (.inl (-1 : Int32)) else bnd (α := Int32) (f_X1_has fu o_people x8) (fun x10 => if x10 = 0 then some (.inl (-1 : Int32)) else bnd (α := Int32) (rdi 36 o_owed (((6 : Int32) * x7) + x8)) (fun x11 => some (.inl x11))))))) (fun x3 => cse x3 (fun y12 => some y12) (fun v4 => if p1 = 0 then some o_clock else if p1 = 1 then bnd (α := Int32) (f_X1_owedInAll fu o_owed) (fun x5 => some x5) else if p1 = 2 then some o_sat else if p1 = 3 then some o_silent else if p1 = 4 then bnd (α := Int32) (f_X1_sitting fu o_people o_seat) (fun x6 => some x6) else some (-1 : Int32)))))
set_option maxHeartbeats 4000000 in
set_option maxRecDepth 100000 in
theorem c_X1_tell {l : Launch} {D : va_G} {g : Nat → ClassId} {fu : Nat} {o_q0 o_q1 o_q2 o_q3 o_q4 o_q5 o_q6 : Nat} {o_people : Int32} {o_hated : (Nat → Int32)} {o_purse : (Nat → Int32)} {o_owed : (Nat → Int32)} {o_seat : (Nat → Int32)} {o_kept : (Nat → Int32)} {o_wasKept : (Nat → Int32)} {o_silent : Int32} {o_clock : Int32} {o_sat : Int32} {o_done : Int32} {o_first : Int32} {o_vain : Int32} {o_lent : Int32} {o_forgiven : Int32} {o_seed : Int32} {p1 : Int32} {r : Int32} (hf : f_X1_tell fu o_people o_purse o_owed o_seat o_silent o_clock o_sat p1 = some r) : Rd l D (gy g) yX1_tell cX1_tell 4 (some .int) 1 [.ref o_q0, .int p1] (wLi g o_q0 o_q1 o_q2 o_q3 o_q4 o_q5 o_q6 o_people o_hated o_purse o_owed o_seat o_kept o_wasKept o_silent o_clock o_sat o_done o_first o_vain o_lent o_forgiven o_seed) (some (.int r)) := by
  refine Rd.ofI (by decide) (Nat.le_of_ble_eq_true rfl) ?_
  intro p e s m args below meth c Q S hK hP hret ls hl
  have hl : lv_has ls 4 [(0, .ref o_q0), (1, .int p1)] := hl
  refine lv_iload_n S.1 S.2.1 dX1_tell_0 rfl (lv_at hl 1 rfl) ?_
  refine lv_bipush (v := 10) S.1 S.2.1 dX1_tell_1 bp_10 ?_
  obtain ⟨x1, hf_, hk1⟩ := bnd_e hf
  have hJ1 : ∀ (v2 : Unit), x1 = .inr v2 → ∀ (ls : Array Slot), lv_has ls 4 [(0, .ref o_q0), (1, .int p1)] → W p l e (rmD 1) s m args below meth c s.heap [] 0 0 Q (F0 m 49 ls []) := by
    intro v2 e_ ls hl
    subst e_
    have hf := cse_r hk1
    refine lv_iload_n S.1 S.2.1 dX1_tell_49 rfl (lv_at hl 1 rfl) ?_
    refine lv_bipush (v := 100) S.1 S.2.1 dX1_tell_50 bp_100 ?_
    obtain ⟨x3, hf_, hk3⟩ := bnd_e hf
    have hJ3 : ∀ (v4 : Unit), x3 = .inr v4 → ∀ (ls : Array Slot), lv_has ls 4 [(0, .ref o_q0), (1, .int p1)] → W p l e (rmD 1) s m args below meth c s.heap [] 0 0 Q (F0 m 107 ls []) := by
      intro v4 e_ ls hl
      subst e_
      have hf := cse_r hk3
      refine lv_iload_n S.1 S.2.1 dX1_tell_107 rfl (lv_at hl 1 rfl) ?_
      by_cases c_0 : p1 = 0
      · have hf := it_p c_0 hf
        refine lv_tableIn (tgt := 144) (off := 36) S.1 S.2.1 dX1_tell_108 (by rw [c_0]; decide) (by rw [c_0]; decide) (by rw [c_0]; decide) (by decide) ?_
        refine lv_aload_n S.1 S.2.1 dX1_tell_144 rfl (lv_at hl 0 rfl) ?_
        refine gfX1_37 S hK hP 0 rfl rfl dX1_tell_145 ?_
        have e_ := Option.some.inj hf
        subst e_
        exact hret _ _ dX1_tell_148
      have hf := it_n c_0 hf
      by_cases c_1 : p1 = 1
      · have hf := it_p c_1 hf
        refine lv_tableIn (tgt := 149) (off := 41) S.1 S.2.1 dX1_tell_108 (by rw [c_1]; decide) (by rw [c_1]; decide) (by rw [c_1]; decide) (by decide) ?_
        refine lv_aload_n S.1 S.2.1 dX1_tell_149 rfl (lv_at hl 0 rfl) ?_
        obtain ⟨x5, hx5, hf⟩ := bnd_e hf
        refine Rd.cV (c_X1_owedInAll hx5) S hK hP 0 0 rfl rfl kVX1_134 rfl hl.1 [] rfl (Nat.le_of_ble_eq_true rfl) ⟨(Nat.le_of_ble_eq_true rfl), (Nat.le_of_ble_eq_true rfl)⟩ ⟨(Nat.zero_le _), (Nat.zero_le _)⟩ dX1_tell_150 ?_
        have e_ := Option.some.inj hf
        subst e_
        exact hret _ _ dX1_tell_153
      have hf := it_n c_1 hf
      by_cases c_2 : p1 = 2
      · have hf := it_p c_2 hf
        refine lv_tableIn (tgt := 154) (off := 46) S.1 S.2.1 dX1_tell_108 (by rw [c_2]; decide) (by rw [c_2]; decide) (by rw [c_2]; decide) (by decide) ?_
        refine lv_aload_n S.1 S.2.1 dX1_tell_154 rfl (lv_at hl 0 rfl) ?_
        refine gfX1_40 S hK hP 0 rfl rfl dX1_tell_155 ?_
        have e_ := Option.some.inj hf
        subst e_
        exact hret _ _ dX1_tell_158
      have hf := it_n c_2 hf
      by_cases c_3 : p1 = 3
      · have hf := it_p c_3 hf
        refine lv_tableIn (tgt := 159) (off := 51) S.1 S.2.1 dX1_tell_108 (by rw [c_3]; decide) (by rw [c_3]; decide) (by rw [c_3]; decide) (by decide) ?_
        refine lv_aload_n S.1 S.2.1 dX1_tell_159 rfl (lv_at hl 0 rfl) ?_
        refine gfX1_34 S hK hP 0 rfl rfl dX1_tell_160 ?_
        have e_ := Option.some.inj hf
        subst e_
        exact hret _ _ dX1_tell_163
      have hf := it_n c_3 hf
      by_cases c_4 : p1 = 4
      · have hf := it_p c_4 hf
        refine lv_tableIn (tgt := 164) (off := 56) S.1 S.2.1 dX1_tell_108 (by rw [c_4]; decide) (by rw [c_4]; decide) (by rw [c_4]; decide) (by decide) ?_
        refine lv_aload_n S.1 S.2.1 dX1_tell_164 rfl (lv_at hl 0 rfl) ?_
        obtain ⟨x6, hx6, hf⟩ := bnd_e hf
        refine Rd.cV (c_X1_sitting hx6) S hK hP 0 0 rfl rfl kVX1_138 rfl hl.1 [] rfl (Nat.le_of_ble_eq_true rfl) ⟨(Nat.le_of_ble_eq_true rfl), (Nat.le_of_ble_eq_true rfl)⟩ ⟨(Nat.zero_le _), (Nat.zero_le _)⟩ dX1_tell_165 ?_
        have e_ := Option.some.inj hf
        subst e_
        exact hret _ _ dX1_tell_168
      have hf := it_n c_4 hf
      refine lv_tableOut (tgt := 169) S.1 S.2.1 dX1_tell_108 (by have n_0 := lv_neT c_0 (a := 0) (by decide); have n_1 := lv_neT c_1 (a := 1) (by decide); have n_2 := lv_neT c_2 (a := 2) (by decide); have n_3 := lv_neT c_3 (a := 3) (by decide); have n_4 := lv_neT c_4 (a := 4) (by decide); omega) (by decide) ?_
      refine lv_iconst (v := (-1)) S.1 S.2.1 dX1_tell_169 ic_m1 ?_
      have e_ := Option.some.inj hf
      subst e_
      exact hret _ _ dX1_tell_170
    have hf := hf_
    refine lv_icmp_lt (tgt := 107) S.1 S.2.1 dX1_tell_52 (by decide) (fun c_ => ?_) (fun c_ => ?_)
    · have hf := it_p c_ hf
      exact hJ3 _ (Option.some.inj hf).symm _ (lv_sub hl [0, 1] rfl)
    · have hf := it_n c_ hf
      refine lv_iload_n S.1 S.2.1 dX1_tell_55 rfl (lv_at hl 1 rfl) ?_
      refine lv_sipush (v := 200) S.1 S.2.1 dX1_tell_56 sp_200 ?_
      refine lv_icmp_ge (tgt := 107) S.1 S.2.1 dX1_tell_59 (by decide) (fun c_ => ?_) (fun c_ => ?_)
      · have hf := it_p c_ hf
        exact hJ3 _ (Option.some.inj hf).symm _ (lv_sub hl [0, 1] rfl)
      · have hf := it_n c_ hf
        refine lv_iload_n S.1 S.2.1 dX1_tell_62 rfl (lv_at hl 1 rfl) ?_
        refine lv_bipush (v := 100) S.1 S.2.1 dX1_tell_63 bp_100 ?_
        refine lv_isub S.1 S.2.1 dX1_tell_65 ?_
        refine lv_bipush (v := 10) S.1 S.2.1 dX1_tell_66 bp_10 ?_
        refine lv_idiv S.1 S.2.1 dX1_tell_68 (by decide) ?_
        refine lv_topi (fun x7 ex7 => ?_)
        have hf := ltn_e hf ex7
        refine lv_istore_n (lv' := [(2, .int x7), (0, .ref o_q0), (1, .int p1)]) S.1 S.2.1 dX1_tell_69 rfl hl (by decide) rfl (fun ls hl => ?_)
        refine lv_iload_n S.1 S.2.1 dX1_tell_70 rfl (lv_at hl 2 rfl) ?_
        refine lv_bipush (v := 10) S.1 S.2.1 dX1_tell_71 bp_10 ?_
        refine lv_irem S.1 S.2.1 dX1_tell_73 (by decide) ?_
        refine lv_topi (fun x8 ex8 => ?_)
        have hf := ltn_e hf ex8
        refine lv_istore_n (lv' := [(3, .int x8), (2, .int x7), (0, .ref o_q0), (1, .int p1)]) S.1 S.2.1 dX1_tell_74 rfl hl (by decide) rfl (fun ls hl => ?_)
        refine lv_aload_n S.1 S.2.1 dX1_tell_75 rfl (lv_at hl 2 rfl) ?_
        refine lv_iload_n S.1 S.2.1 dX1_tell_76 rfl (lv_at hl 1 rfl) ?_
        obtain ⟨x9, hx9, hf⟩ := bnd_e hf
        refine Rd.cV (c_X1_has hx9) S hK hP 0 0 rfl rfl kVX1_113 rfl hl.1 [] rfl (Nat.le_of_ble_eq_true rfl) ⟨(Nat.le_of_ble_eq_true rfl), (Nat.le_of_ble_eq_true rfl)⟩ ⟨(Nat.zero_le _), (Nat.zero_le _)⟩ dX1_tell_77 ?_
        refine lv_if_eq (tgt := 105) S.1 S.2.1 dX1_tell_80 (by decide) (fun c_ => ?_) (fun c_ => ?_)
        · have hf := it_p c_ hf
          refine lv_iconst (v := (-1)) S.1 S.2.1 dX1_tell_105 ic_m1 ?_
          have e_ := Option.some.inj hf
          subst e_
          have hf := cse_l hk3
          have e_ := Option.some.inj hf
          subst e_
          exact hret _ _ dX1_tell_106
        · have hf := it_n c_ hf
          refine lv_aload_n S.1 S.2.1 dX1_tell_83 rfl (lv_at hl 2 rfl) ?_
          refine lv_iload_n S.1 S.2.1 dX1_tell_84 rfl (lv_at hl 0 rfl) ?_
          obtain ⟨x10, hx10, hf⟩ := bnd_e hf
          refine Rd.cV (c_X1_has hx10) S hK hP 0 0 rfl rfl kVX1_113 rfl hl.1 [] rfl (Nat.le_of_ble_eq_true rfl) ⟨(Nat.le_of_ble_eq_true rfl), (Nat.le_of_ble_eq_true rfl)⟩ ⟨(Nat.zero_le _), (Nat.zero_le _)⟩ dX1_tell_85 ?_
          refine lv_if_eq (tgt := 105) S.1 S.2.1 dX1_tell_88 (by decide) (fun c_ => ?_) (fun c_ => ?_)
          · have hf := it_p c_ hf
            refine lv_iconst (v := (-1)) S.1 S.2.1 dX1_tell_105 ic_m1 ?_
            have e_ := Option.some.inj hf
            subst e_
            have hf := cse_l hk3
            have e_ := Option.some.inj hf
            subst e_
            exact hret _ _ dX1_tell_106
          · have hf := it_n c_ hf
            refine lv_aload_n S.1 S.2.1 dX1_tell_91 rfl (lv_at hl 2 rfl) ?_
            refine gfX1_22 S hK hP 0 rfl rfl dX1_tell_92 ?_
            refine lv_bipush (v := 6) S.1 S.2.1 dX1_tell_95 bp_6 ?_
            refine lv_iload_n S.1 S.2.1 dX1_tell_97 rfl (lv_at hl 1 rfl) ?_
            refine lv_imul S.1 S.2.1 dX1_tell_98 ?_
            refine lv_iload_n S.1 S.2.1 dX1_tell_99 rfl (lv_at hl 0 rfl) ?_
            refine lv_iadd S.1 S.2.1 dX1_tell_100 ?_
            obtain ⟨x11, hx11, hf⟩ := bnd_e hf
            refine q_iald S hK hP 3 0 rfl rfl hx11 dX1_tell_101 ?_
            refine lv_goto (tgt := 106) S.1 S.2.1 dX1_tell_102 (by decide) ?_
            have e_ := Option.some.inj hf
            subst e_
            have hf := cse_l hk3
            have e_ := Option.some.inj hf
            subst e_
            exact hret _ _ dX1_tell_106
  have hf := hf_
  refine lv_icmp_lt (tgt := 49) S.1 S.2.1 dX1_tell_3 (by decide) (fun c_ => ?_) (fun c_ => ?_)
  · have hf := it_p c_ hf
    exact hJ1 _ (Option.some.inj hf).symm _ (lv_sub hl [0, 1] rfl)
  · have hf := it_n c_ hf
    refine lv_iload_n S.1 S.2.1 dX1_tell_6 rfl (lv_at hl 1 rfl) ?_
    refine lv_bipush (v := 30) S.1 S.2.1 dX1_tell_7 bp_30 ?_
    refine lv_icmp_ge (tgt := 49) S.1 S.2.1 dX1_tell_9 (by decide) (fun c_ => ?_) (fun c_ => ?_)
    · have hf := it_p c_ hf
      exact hJ1 _ (Option.some.inj hf).symm _ (lv_sub hl [0, 1] rfl)
    · have hf := it_n c_ hf
      refine lv_iload_n S.1 S.2.1 dX1_tell_12 rfl (lv_at hl 1 rfl) ?_
      refine lv_bipush (v := 10) S.1 S.2.1 dX1_tell_13 bp_10 ?_
      refine lv_irem S.1 S.2.1 dX1_tell_15 (by decide) ?_
      refine lv_topi (fun x13 ex13 => ?_)
      have hf := ltn_e hf ex13
      refine lv_istore_n (lv' := [(2, .int x13), (0, .ref o_q0), (1, .int p1)]) S.1 S.2.1 dX1_tell_16 rfl hl (by decide) rfl (fun ls hl => ?_)
      refine lv_aload_n S.1 S.2.1 dX1_tell_17 rfl (lv_at hl 1 rfl) ?_
      refine lv_iload_n S.1 S.2.1 dX1_tell_18 rfl (lv_at hl 0 rfl) ?_
      obtain ⟨x14, hx14, hf⟩ := bnd_e hf
      refine Rd.cV (c_X1_has hx14) S hK hP 0 0 rfl rfl kVX1_113 rfl hl.1 [] rfl (Nat.le_of_ble_eq_true rfl) ⟨(Nat.le_of_ble_eq_true rfl), (Nat.le_of_ble_eq_true rfl)⟩ ⟨(Nat.zero_le _), (Nat.zero_le _)⟩ dX1_tell_19 ?_
      refine lv_if_ne (tgt := 27) S.1 S.2.1 dX1_tell_22 (by decide) (fun c_ => ?_) (fun c_ => ?_)
      · have hf := it_n c_ hf
        refine lv_iload_n S.1 S.2.1 dX1_tell_27 rfl (lv_at hl 2 rfl) ?_
        refine lv_bipush (v := 20) S.1 S.2.1 dX1_tell_28 bp_20 ?_
        refine lv_icmp_ge (tgt := 42) S.1 S.2.1 dX1_tell_30 (by decide) (fun c_ => ?_) (fun c_ => ?_)
        · have hf := it_p c_ hf
          refine lv_aload_n S.1 S.2.1 dX1_tell_42 rfl (lv_at hl 1 rfl) ?_
          refine gfX1_25 S hK hP 0 rfl rfl dX1_tell_43 ?_
          refine lv_iload_n S.1 S.2.1 dX1_tell_46 rfl (lv_at hl 0 rfl) ?_
          obtain ⟨x15, hx15, hf⟩ := bnd_e hf
          refine q_iald S hK hP 4 0 rfl rfl hx15 dX1_tell_47 ?_
          have e_ := Option.some.inj hf
          subst e_
          have hf := cse_l hk1
          have e_ := Option.some.inj hf
          subst e_
          exact hret _ _ dX1_tell_48
        · have hf := it_n c_ hf
          refine lv_aload_n S.1 S.2.1 dX1_tell_33 rfl (lv_at hl 1 rfl) ?_
          refine gfX1_19 S hK hP 0 rfl rfl dX1_tell_34 ?_
          refine lv_iload_n S.1 S.2.1 dX1_tell_37 rfl (lv_at hl 0 rfl) ?_
          obtain ⟨x16, hx16, hf⟩ := bnd_e hf
          refine q_iald S hK hP 2 0 rfl rfl hx16 dX1_tell_38 ?_
          refine lv_goto (tgt := 48) S.1 S.2.1 dX1_tell_39 (by decide) ?_
          have e_ := Option.some.inj hf
          subst e_
          have hf := cse_l hk1
          have e_ := Option.some.inj hf
          subst e_
          exact hret _ _ dX1_tell_48
      · have hf := it_p c_ hf
        refine lv_iconst (v := (-1)) S.1 S.2.1 dX1_tell_25 ic_m1 ?_
        have e_ := Option.some.inj hf
        subst e_
        have hf := cse_l hk1
        have e_ := Option.some.inj hf
        subst e_
        exact hret _ _ dX1_tell_26
def f_X1_mostOften_L7 (o_people : Int32) (p1_f : (Nat → Int32)) (p1_n : Nat) (s2 : Int32 × Int32 × Int32) : Option ((Int32 × Int32 × Int32) ⊕ (Int32)) := if o_people ≤ s2.2.2 then some (.inr s2.1) else if (nI p1_n) ≤ s2.2.2 then some (.inr s2.1) else bnd (α := Int32) (rdi p1_n p1_f s2.2.2) (fun x5 => if x5 ≤ s2.2.1 then some (.inl (s2.1, s2.2.1, (s2.2.2 + 1))) else bnd (α := Int32) (rdi p1_n p1_f s2.2.2) (fun x6 => some (.inl (s2.2.2, x6, (s2.2.2 + 1)))))
def f_X1_mostOften (fu : Nat) (p1_n : Nat) (o_people : Int32) (p1_f : (Nat → Int32)) : Option (Int32) := bnd (α := Int32) (lp (f_X1_mostOften_L7 o_people p1_f p1_n) fu ((-1 : Int32), (0 : Int32), (0 : Int32))) (fun v7 => some v7)
set_option maxHeartbeats 4000000 in
set_option maxRecDepth 100000 in
theorem c_X1_mostOften {l : Launch} {D : va_G} {g : Nat → ClassId} {fu : Nat} {o_q0 o_q1 o_q2 o_q3 o_q4 o_q5 o_q6 p1_q0 : Nat} {p1_n : Nat} {o_people : Int32} {o_hated : (Nat → Int32)} {o_purse : (Nat → Int32)} {o_owed : (Nat → Int32)} {o_seat : (Nat → Int32)} {o_kept : (Nat → Int32)} {o_wasKept : (Nat → Int32)} {o_silent : Int32} {o_clock : Int32} {o_sat : Int32} {o_done : Int32} {o_first : Int32} {o_vain : Int32} {o_lent : Int32} {o_forgiven : Int32} {o_seed : Int32} {p1_f : (Nat → Int32)} {r : Int32} (hf : f_X1_mostOften fu p1_n o_people p1_f = some r) : Rd l D (gy g) yX1_mostOften cX1_mostOften 5 (some .int) 0 [.ref o_q0, .ref p1_q0] (wLi g o_q0 o_q1 o_q2 o_q3 o_q4 o_q5 o_q6 o_people o_hated o_purse o_owed o_seat o_kept o_wasKept o_silent o_clock o_sat o_done o_first o_vain o_lent o_forgiven o_seed ++ wAI g p1_q0 p1_n p1_f) (some (.int r)) := by
  refine Rd.ofI (by decide) (Nat.le_of_ble_eq_true rfl) ?_
  intro p e s m args below meth c Q S hK hP hret ls hl
  have hl : lv_has ls 5 [(0, .ref o_q0), (1, .ref p1_q0)] := hl
  refine lv_iconst (v := (-1)) S.1 S.2.1 dX1_mostOften_0 ic_m1 ?_
  refine lv_istore_n (lv' := [(2, .int (-1 : Int32)), (0, .ref o_q0), (1, .ref p1_q0)]) S.1 S.2.1 dX1_mostOften_1 rfl hl (by decide) rfl (fun ls hl => ?_)
  refine lv_iconst (v := 0) S.1 S.2.1 dX1_mostOften_2 ic_0 ?_
  refine lv_istore_n (lv' := [(3, .int (0 : Int32)), (2, .int (-1 : Int32)), (0, .ref o_q0), (1, .ref p1_q0)]) S.1 S.2.1 dX1_mostOften_3 rfl hl (by decide) rfl (fun ls hl => ?_)
  refine lv_iconst (v := 0) S.1 S.2.1 dX1_mostOften_4 ic_0 ?_
  refine lv_istore (lv' := [(4, .int (0 : Int32)), (3, .int (0 : Int32)), (2, .int (-1 : Int32)), (0, .ref o_q0), (1, .ref p1_q0)]) S.1 S.2.1 dX1_mostOften_5 hl (by decide) rfl (fun ls hl => ?_)
  obtain ⟨x3, hf_, hk3⟩ := bnd_e hf
  have hE3 : ∀ (v7 : Int32), v7 = x3 → ∀ (ls : Array Slot), lv_has ls 5 [(2, .int v7)] → W p l e (rmD 0) s m args below meth c s.heap [] 0 0 Q (F0 m 45 ls []) := by
    intro v7 e_ ls hl
    subst e_
    have hf := hk3
    refine lv_iload_n S.1 S.2.1 dX1_mostOften_45 rfl (lv_at hl 0 rfl) ?_
    have e_ := Option.some.inj hf
    subst e_
    exact hret _ _ dX1_mostOften_46
  refine lp_ind (P := fun (s2 : Int32 × Int32 × Int32) => ∀ (ls : Array Slot), lv_has ls 5 [(0, .ref o_q0), (1, .ref p1_q0), (2, .int s2.1), (3, .int s2.2.1), (4, .int s2.2.2)] → W p l e (rmD 0) s m args below meth c s.heap [] 0 0 Q (F0 m 7 ls [])) ?_ _ _ hf_ _ (lv_sub hl [3, 4, 2, 1, 0] rfl)
  intro s2 x4 hf hI3 hR3 ls hl
  refine lv_iload S.1 S.2.1 dX1_mostOften_7 (lv_at hl 4 rfl) ?_
  refine lv_aload_n S.1 S.2.1 dX1_mostOften_9 rfl (lv_at hl 0 rfl) ?_
  refine gfX1_9 S hK hP 0 rfl rfl dX1_mostOften_10 ?_
  refine lv_icmp_ge (tgt := 45) S.1 S.2.1 dX1_mostOften_13 (by decide) (fun c_ => ?_) (fun c_ => ?_)
  · have hf := it_p c_ hf
    have e_ := hR3 _ (Option.some.inj hf).symm
    exact hE3 _ e_ _ (lv_sub hl [2] rfl)
  · have hf := it_n c_ hf
    refine lv_iload S.1 S.2.1 dX1_mostOften_16 (lv_at hl 4 rfl) ?_
    refine lv_aload_n S.1 S.2.1 dX1_mostOften_18 rfl (lv_at hl 1 rfl) ?_
    refine q_alen S hK hP 7 0 rfl rfl (v := (nI p1_n)) rfl dX1_mostOften_19 ?_
    refine lv_icmp_ge (tgt := 45) S.1 S.2.1 dX1_mostOften_20 (by decide) (fun c_ => ?_) (fun c_ => ?_)
    · have hf := it_p c_ hf
      have e_ := hR3 _ (Option.some.inj hf).symm
      exact hE3 _ e_ _ (lv_sub hl [2] rfl)
    · have hf := it_n c_ hf
      refine lv_aload_n S.1 S.2.1 dX1_mostOften_23 rfl (lv_at hl 1 rfl) ?_
      refine lv_iload S.1 S.2.1 dX1_mostOften_24 (lv_at hl 4 rfl) ?_
      obtain ⟨x5, hx5, hf⟩ := bnd_e hf
      refine q_iald S hK hP 7 0 rfl rfl hx5 dX1_mostOften_26 ?_
      refine lv_iload_n S.1 S.2.1 dX1_mostOften_27 rfl (lv_at hl 3 rfl) ?_
      refine lv_icmp_le (tgt := 39) S.1 S.2.1 dX1_mostOften_28 (by decide) (fun c_ => ?_) (fun c_ => ?_)
      · have hf := it_p c_ hf
        refine q_iinc (w := 1) (lv' := [(4, .int (s2.2.2 + 1)), (0, .ref o_q0), (1, .ref p1_q0), (2, .int s2.1), (3, .int s2.2.1)]) S dX1_mostOften_39 hl (k := 4) rfl ic_1 (by decide) rfl (fun ls hl => ?_)
        refine lv_goto (tgt := 7) S.1 S.2.1 dX1_mostOften_42 (by decide) ?_
        exact hI3 _ (Option.some.inj hf).symm _ (lv_sub hl [1, 2, 3, 4, 0] rfl)
      · have hf := it_n c_ hf
        refine lv_aload_n S.1 S.2.1 dX1_mostOften_31 rfl (lv_at hl 1 rfl) ?_
        refine lv_iload S.1 S.2.1 dX1_mostOften_32 (lv_at hl 4 rfl) ?_
        obtain ⟨x6, hx6, hf⟩ := bnd_e hf
        refine q_iald S hK hP 7 0 rfl rfl hx6 dX1_mostOften_34 ?_
        refine lv_istore_n (lv' := [(3, .int x6), (0, .ref o_q0), (1, .ref p1_q0), (2, .int s2.1), (4, .int s2.2.2)]) S.1 S.2.1 dX1_mostOften_35 rfl hl (by decide) rfl (fun ls hl => ?_)
        refine lv_iload S.1 S.2.1 dX1_mostOften_36 (lv_at hl 4 rfl) ?_
        refine lv_istore_n (lv' := [(2, .int s2.2.2), (3, .int x6), (0, .ref o_q0), (1, .ref p1_q0), (4, .int s2.2.2)]) S.1 S.2.1 dX1_mostOften_38 rfl hl (by decide) rfl (fun ls hl => ?_)
        refine q_iinc (w := 1) (lv' := [(4, .int (s2.2.2 + 1)), (2, .int s2.2.2), (3, .int x6), (0, .ref o_q0), (1, .ref p1_q0)]) S dX1_mostOften_39 hl (k := 4) rfl ic_1 (by decide) rfl (fun ls hl => ?_)
        refine lv_goto (tgt := 7) S.1 S.2.1 dX1_mostOften_42 (by decide) ?_
        exact hI3 _ (Option.some.inj hf).symm _ (lv_sub hl [3, 4, 1, 2, 0] rfl)
def f_X1_free_L17 (o_people : Int32) (o_owed : (Nat → Int32)) (s2 : Int32 × Int32) (s6 : Int32 × Int32) : Option ((Int32 × Int32) ⊕ (Int32)) := if o_people ≤ s6.2 then some (.inr s6.1) else bnd (α := Int32) (rdi 36 o_owed (((6 : Int32) * s2.2) + s6.2)) (fun x9 => ltn (s6.1 + x9) (fun x10 => some (.inl (x10, (s6.2 + 1)))))
def f_X1_free_L4 (fu : Nat) (o_people : Int32) (o_owed : (Nat → Int32)) (s2 : Int32 × Int32) : Option ((Int32 × Int32) ⊕ (Int32)) := if o_people ≤ s2.2 then some (.inr s2.1) else bnd (α := Int32) (lp (f_X1_free_L17 o_people o_owed s2) fu ((0 : Int32), (0 : Int32))) (fun v11 => if v11 = 0 then ltn (s2.1 ||| (jshl (1 : Int32) s2.2)) (fun x12 => some (.inl (x12, (s2.2 + 1)))) else some (.inl (s2.1, (s2.2 + 1))))
def f_X1_free (fu : Nat) (o_people : Int32) (o_owed : (Nat → Int32)) : Option (Int32) := bnd (α := Int32) (lp (f_X1_free_L4 fu o_people o_owed) fu ((0 : Int32), (0 : Int32))) (fun v13 => some v13)
set_option maxHeartbeats 4000000 in
set_option maxRecDepth 100000 in
theorem c_X1_free {l : Launch} {D : va_G} {g : Nat → ClassId} {fu : Nat} {o_q0 o_q1 o_q2 o_q3 o_q4 o_q5 o_q6 : Nat} {o_people : Int32} {o_hated : (Nat → Int32)} {o_purse : (Nat → Int32)} {o_owed : (Nat → Int32)} {o_seat : (Nat → Int32)} {o_kept : (Nat → Int32)} {o_wasKept : (Nat → Int32)} {o_silent : Int32} {o_clock : Int32} {o_sat : Int32} {o_done : Int32} {o_first : Int32} {o_vain : Int32} {o_lent : Int32} {o_forgiven : Int32} {o_seed : Int32} {r : Int32} (hf : f_X1_free fu o_people o_owed = some r) : Rd l D (gy g) yX1_free cX1_free 5 (some .int) 0 [.ref o_q0] (wLi g o_q0 o_q1 o_q2 o_q3 o_q4 o_q5 o_q6 o_people o_hated o_purse o_owed o_seat o_kept o_wasKept o_silent o_clock o_sat o_done o_first o_vain o_lent o_forgiven o_seed) (some (.int r)) := by
  refine Rd.ofI (by decide) (Nat.le_of_ble_eq_true rfl) ?_
  intro p e s m args below meth c Q S hK hP hret ls hl
  have hl : lv_has ls 5 [(0, .ref o_q0)] := hl
  refine lv_iconst (v := 0) S.1 S.2.1 dX1_free_0 ic_0 ?_
  refine lv_istore_n (lv' := [(1, .int (0 : Int32)), (0, .ref o_q0)]) S.1 S.2.1 dX1_free_1 rfl hl (by decide) rfl (fun ls hl => ?_)
  refine lv_iconst (v := 0) S.1 S.2.1 dX1_free_2 ic_0 ?_
  refine lv_istore_n (lv' := [(2, .int (0 : Int32)), (1, .int (0 : Int32)), (0, .ref o_q0)]) S.1 S.2.1 dX1_free_3 rfl hl (by decide) rfl (fun ls hl => ?_)
  obtain ⟨x3, hf_, hk3⟩ := bnd_e hf
  have hE3 : ∀ (v13 : Int32), v13 = x3 → ∀ (ls : Array Slot), lv_has ls 5 [(1, .int v13)] → W p l e (rmD 0) s m args below meth c s.heap [] 0 0 Q (F0 m 63 ls []) := by
    intro v13 e_ ls hl
    subst e_
    have hf := hk3
    refine lv_iload_n S.1 S.2.1 dX1_free_63 rfl (lv_at hl 0 rfl) ?_
    have e_ := Option.some.inj hf
    subst e_
    exact hret _ _ dX1_free_64
  refine lp_ind (P := fun (s2 : Int32 × Int32) => ∀ (ls : Array Slot), lv_has ls 5 [(0, .ref o_q0), (1, .int s2.1), (2, .int s2.2)] → W p l e (rmD 0) s m args below meth c s.heap [] 0 0 Q (F0 m 4 ls [])) ?_ _ _ hf_ _ (lv_sub hl [2, 1, 0] rfl)
  intro s2 x4 hf hI3 hR3 ls hl
  refine lv_iload_n S.1 S.2.1 dX1_free_4 rfl (lv_at hl 2 rfl) ?_
  refine lv_aload_n S.1 S.2.1 dX1_free_5 rfl (lv_at hl 0 rfl) ?_
  refine gfX1_9 S hK hP 0 rfl rfl dX1_free_6 ?_
  refine lv_icmp_ge (tgt := 63) S.1 S.2.1 dX1_free_9 (by decide) (fun c_ => ?_) (fun c_ => ?_)
  · have hf := it_p c_ hf
    have e_ := hR3 _ (Option.some.inj hf).symm
    exact hE3 _ e_ _ (lv_sub hl [1] rfl)
  · have hf := it_n c_ hf
    refine lv_iconst (v := 0) S.1 S.2.1 dX1_free_12 ic_0 ?_
    refine lv_istore_n (lv' := [(3, .int (0 : Int32)), (0, .ref o_q0), (1, .int s2.1), (2, .int s2.2)]) S.1 S.2.1 dX1_free_13 rfl hl (by decide) rfl (fun ls hl => ?_)
    refine lv_iconst (v := 0) S.1 S.2.1 dX1_free_14 ic_0 ?_
    refine lv_istore (lv' := [(4, .int (0 : Int32)), (3, .int (0 : Int32)), (0, .ref o_q0), (1, .int s2.1), (2, .int s2.2)]) S.1 S.2.1 dX1_free_15 hl (by decide) rfl (fun ls hl => ?_)
    obtain ⟨x7, hf_, hk7⟩ := bnd_e hf
    have hE7 : ∀ (v11 : Int32), v11 = x7 → ∀ (ls : Array Slot), lv_has ls 5 [(0, .ref o_q0), (1, .int s2.1), (2, .int s2.2), (3, .int v11)] → W p l e (rmD 0) s m args below meth c s.heap [] 0 0 Q (F0 m 47 ls []) := by
      intro v11 e_ ls hl
      subst e_
      have hf := hk7
      refine lv_iload_n S.1 S.2.1 dX1_free_47 rfl (lv_at hl 3 rfl) ?_
      refine lv_if_ne (tgt := 57) S.1 S.2.1 dX1_free_48 (by decide) (fun c_ => ?_) (fun c_ => ?_)
      · have hf := it_n c_ hf
        refine q_iinc (w := 1) (lv' := [(2, .int (s2.2 + 1)), (0, .ref o_q0), (1, .int s2.1), (3, .int v11)]) S dX1_free_57 hl (k := 2) rfl ic_1 (by decide) rfl (fun ls hl => ?_)
        refine lv_goto (tgt := 4) S.1 S.2.1 dX1_free_60 (by decide) ?_
        exact hI3 _ (Option.some.inj hf).symm _ (lv_sub hl [1, 2, 0] rfl)
      · have hf := it_p c_ hf
        refine lv_iload_n S.1 S.2.1 dX1_free_51 rfl (lv_at hl 1 rfl) ?_
        refine lv_iconst (v := 1) S.1 S.2.1 dX1_free_52 ic_1 ?_
        refine lv_iload_n S.1 S.2.1 dX1_free_53 rfl (lv_at hl 2 rfl) ?_
        refine lv_ishl S.1 S.2.1 dX1_free_54 ?_
        refine lv_ior S.1 S.2.1 dX1_free_55 ?_
        refine lv_topi (fun x12 ex12 => ?_)
        have hf := ltn_e hf ex12
        refine lv_istore_n (lv' := [(1, .int x12), (0, .ref o_q0), (2, .int s2.2), (3, .int v11)]) S.1 S.2.1 dX1_free_56 rfl hl (by decide) rfl (fun ls hl => ?_)
        refine q_iinc (w := 1) (lv' := [(2, .int (s2.2 + 1)), (1, .int x12), (0, .ref o_q0), (3, .int v11)]) S dX1_free_57 hl (k := 2) rfl ic_1 (by decide) rfl (fun ls hl => ?_)
        refine lv_goto (tgt := 4) S.1 S.2.1 dX1_free_60 (by decide) ?_
        exact hI3 _ (Option.some.inj hf).symm _ (lv_sub hl [2, 1, 0] rfl)
    refine lp_ind (P := fun (s6 : Int32 × Int32) => ∀ (ls : Array Slot), lv_has ls 5 [(0, .ref o_q0), (1, .int s2.1), (2, .int s2.2), (3, .int s6.1), (4, .int s6.2)] → W p l e (rmD 0) s m args below meth c s.heap [] 0 0 Q (F0 m 17 ls [])) ?_ _ _ hf_ _ (lv_sub hl [2, 3, 4, 1, 0] rfl)
    intro s6 x8 hf hI7 hR7 ls hl
    refine lv_iload S.1 S.2.1 dX1_free_17 (lv_at hl 4 rfl) ?_
    refine lv_aload_n S.1 S.2.1 dX1_free_19 rfl (lv_at hl 0 rfl) ?_
    refine gfX1_9 S hK hP 0 rfl rfl dX1_free_20 ?_
    refine lv_icmp_ge (tgt := 47) S.1 S.2.1 dX1_free_23 (by decide) (fun c_ => ?_) (fun c_ => ?_)
    · have hf := it_p c_ hf
      have e_ := hR7 _ (Option.some.inj hf).symm
      exact hE7 _ e_ _ (lv_sub hl [0, 1, 2, 3] rfl)
    · have hf := it_n c_ hf
      refine lv_iload_n S.1 S.2.1 dX1_free_26 rfl (lv_at hl 3 rfl) ?_
      refine lv_aload_n S.1 S.2.1 dX1_free_27 rfl (lv_at hl 0 rfl) ?_
      refine gfX1_22 S hK hP 0 rfl rfl dX1_free_28 ?_
      refine lv_bipush (v := 6) S.1 S.2.1 dX1_free_31 bp_6 ?_
      refine lv_iload_n S.1 S.2.1 dX1_free_33 rfl (lv_at hl 2 rfl) ?_
      refine lv_imul S.1 S.2.1 dX1_free_34 ?_
      refine lv_iload S.1 S.2.1 dX1_free_35 (lv_at hl 4 rfl) ?_
      refine lv_iadd S.1 S.2.1 dX1_free_37 ?_
      obtain ⟨x9, hx9, hf⟩ := bnd_e hf
      refine q_iald S hK hP 3 0 rfl rfl hx9 dX1_free_38 ?_
      refine lv_iadd S.1 S.2.1 dX1_free_39 ?_
      refine lv_topi (fun x10 ex10 => ?_)
      have hf := ltn_e hf ex10
      refine lv_istore_n (lv' := [(3, .int x10), (0, .ref o_q0), (1, .int s2.1), (2, .int s2.2), (4, .int s6.2)]) S.1 S.2.1 dX1_free_40 rfl hl (by decide) rfl (fun ls hl => ?_)
      refine q_iinc (w := 1) (lv' := [(4, .int (s6.2 + 1)), (3, .int x10), (0, .ref o_q0), (1, .int s2.1), (2, .int s2.2)]) S dX1_free_41 hl (k := 4) rfl ic_1 (by decide) rfl (fun ls hl => ?_)
      refine lv_goto (tgt := 17) S.1 S.2.1 dX1_free_44 (by decide) ?_
      exact hI7 _ (Option.some.inj hf).symm _ (lv_sub hl [2, 3, 4, 1, 0] rfl)
def f_X1_tellAfter (fu : Nat) (o_people : Int32) (o_owed : (Nat → Int32)) (o_kept : (Nat → Int32)) (o_wasKept : (Nat → Int32)) (o_clock : Int32) (o_first : Int32) (o_vain : Int32) (o_lent : Int32) (o_forgiven : Int32) (p1 : Int32) : Option (Int32) := if p1 = 0 then some o_first else if p1 = 1 then bnd (α := Int32) (f_X1_mostOften fu 6 o_people o_kept) (fun x1 => some x1) else if p1 = 2 then bnd (α := Int32) (f_X1_mostOften fu 6 o_people o_wasKept) (fun x2 => some x2) else if p1 = 3 then some o_vain else if p1 = 4 then some o_lent else if p1 = 5 then some o_forgiven else if p1 = 6 then some (o_clock / (10 : Int32)) else if p1 = 7 then bnd (α := Int32) (f_X1_free fu o_people o_owed) (fun x3 => some x3) else some (-2 : Int32)
set_option maxHeartbeats 4000000 in
set_option maxRecDepth 100000 in
theorem c_X1_tellAfter {l : Launch} {D : va_G} {g : Nat → ClassId} {fu : Nat} {o_q0 o_q1 o_q2 o_q3 o_q4 o_q5 o_q6 : Nat} {o_people : Int32} {o_hated : (Nat → Int32)} {o_purse : (Nat → Int32)} {o_owed : (Nat → Int32)} {o_seat : (Nat → Int32)} {o_kept : (Nat → Int32)} {o_wasKept : (Nat → Int32)} {o_silent : Int32} {o_clock : Int32} {o_sat : Int32} {o_done : Int32} {o_first : Int32} {o_vain : Int32} {o_lent : Int32} {o_forgiven : Int32} {o_seed : Int32} {p1 : Int32} {r : Int32} (hf : f_X1_tellAfter fu o_people o_owed o_kept o_wasKept o_clock o_first o_vain o_lent o_forgiven p1 = some r) : Rd l D (gy g) yX1_tellAfter cX1_tellAfter 2 (some .int) 1 [.ref o_q0, .int p1] (wLi g o_q0 o_q1 o_q2 o_q3 o_q4 o_q5 o_q6 o_people o_hated o_purse o_owed o_seat o_kept o_wasKept o_silent o_clock o_sat o_done o_first o_vain o_lent o_forgiven o_seed) (some (.int r)) := by
  refine Rd.ofI (by decide) (Nat.le_of_ble_eq_true rfl) ?_
  intro p e s m args below meth c Q S hK hP hret ls hl
  have hl : lv_has ls 2 [(0, .ref o_q0), (1, .int p1)] := hl
  refine lv_iload_n S.1 S.2.1 dX1_tellAfter_0 rfl (lv_at hl 1 rfl) ?_
  by_cases c_0 : p1 = 0
  · have hf := it_p c_0 hf
    refine lv_tableIn (tgt := 48) (off := 47) S.1 S.2.1 dX1_tellAfter_1 (by rw [c_0]; decide) (by rw [c_0]; decide) (by rw [c_0]; decide) (by decide) ?_
    refine lv_aload_n S.1 S.2.1 dX1_tellAfter_48 rfl (lv_at hl 0 rfl) ?_
    refine gfX1_46 S hK hP 0 rfl rfl dX1_tellAfter_49 ?_
    have e_ := Option.some.inj hf
    subst e_
    exact hret _ _ dX1_tellAfter_52
  have hf := it_n c_0 hf
  by_cases c_1 : p1 = 1
  · have hf := it_p c_1 hf
    refine lv_tableIn (tgt := 53) (off := 52) S.1 S.2.1 dX1_tellAfter_1 (by rw [c_1]; decide) (by rw [c_1]; decide) (by rw [c_1]; decide) (by decide) ?_
    refine lv_aload_n S.1 S.2.1 dX1_tellAfter_53 rfl (lv_at hl 0 rfl) ?_
    refine lv_aload_n S.1 S.2.1 dX1_tellAfter_54 rfl (lv_at hl 0 rfl) ?_
    refine gfX1_28 S hK hP 0 rfl rfl dX1_tellAfter_55 ?_
    obtain ⟨x1, hx1, hf⟩ := bnd_e hf
    refine Rd.cV (c_X1_mostOften hx1) S hK (hP.sub (ws' := (wLi g o_q0 o_q1 o_q2 o_q3 o_q4 o_q5 o_q6 o_people o_hated o_purse o_owed o_seat o_kept o_wasKept o_silent o_clock o_sat o_done o_first o_vain o_lent o_forgiven o_seed ++ wAI g o_q5 6 o_kept)) [0, 1, 2, 3, 4, 5, 6, 5] rfl) 0 0 rfl rfl kVX1_141 rfl hl.1 [] rfl (Nat.le_of_ble_eq_true rfl) ⟨(Nat.le_of_ble_eq_true rfl), (Nat.le_of_ble_eq_true rfl)⟩ ⟨(Nat.zero_le _), (Nat.zero_le _)⟩ dX1_tellAfter_58 ?_
    have e_ := Option.some.inj hf
    subst e_
    exact hret _ _ dX1_tellAfter_61
  have hf := it_n c_1 hf
  by_cases c_2 : p1 = 2
  · have hf := it_p c_2 hf
    refine lv_tableIn (tgt := 62) (off := 61) S.1 S.2.1 dX1_tellAfter_1 (by rw [c_2]; decide) (by rw [c_2]; decide) (by rw [c_2]; decide) (by decide) ?_
    refine lv_aload_n S.1 S.2.1 dX1_tellAfter_62 rfl (lv_at hl 0 rfl) ?_
    refine lv_aload_n S.1 S.2.1 dX1_tellAfter_63 rfl (lv_at hl 0 rfl) ?_
    refine gfX1_31 S hK hP 0 rfl rfl dX1_tellAfter_64 ?_
    obtain ⟨x2, hx2, hf⟩ := bnd_e hf
    refine Rd.cV (c_X1_mostOften hx2) S hK (hP.sub (ws' := (wLi g o_q0 o_q1 o_q2 o_q3 o_q4 o_q5 o_q6 o_people o_hated o_purse o_owed o_seat o_kept o_wasKept o_silent o_clock o_sat o_done o_first o_vain o_lent o_forgiven o_seed ++ wAI g o_q6 6 o_wasKept)) [0, 1, 2, 3, 4, 5, 6, 6] rfl) 0 0 rfl rfl kVX1_141 rfl hl.1 [] rfl (Nat.le_of_ble_eq_true rfl) ⟨(Nat.le_of_ble_eq_true rfl), (Nat.le_of_ble_eq_true rfl)⟩ ⟨(Nat.zero_le _), (Nat.zero_le _)⟩ dX1_tellAfter_67 ?_
    have e_ := Option.some.inj hf
    subst e_
    exact hret _ _ dX1_tellAfter_70
  have hf := it_n c_2 hf
  by_cases c_3 : p1 = 3
  · have hf := it_p c_3 hf
    refine lv_tableIn (tgt := 71) (off := 70) S.1 S.2.1 dX1_tellAfter_1 (by rw [c_3]; decide) (by rw [c_3]; decide) (by rw [c_3]; decide) (by decide) ?_
    refine lv_aload_n S.1 S.2.1 dX1_tellAfter_71 rfl (lv_at hl 0 rfl) ?_
    refine gfX1_49 S hK hP 0 rfl rfl dX1_tellAfter_72 ?_
    have e_ := Option.some.inj hf
    subst e_
    exact hret _ _ dX1_tellAfter_75
  have hf := it_n c_3 hf
  by_cases c_4 : p1 = 4
  · have hf := it_p c_4 hf
    refine lv_tableIn (tgt := 76) (off := 75) S.1 S.2.1 dX1_tellAfter_1 (by rw [c_4]; decide) (by rw [c_4]; decide) (by rw [c_4]; decide) (by decide) ?_
    refine lv_aload_n S.1 S.2.1 dX1_tellAfter_76 rfl (lv_at hl 0 rfl) ?_
    refine gfX1_52 S hK hP 0 rfl rfl dX1_tellAfter_77 ?_
    have e_ := Option.some.inj hf
    subst e_
    exact hret _ _ dX1_tellAfter_80
  have hf := it_n c_4 hf
  by_cases c_5 : p1 = 5
  · have hf := it_p c_5 hf
    refine lv_tableIn (tgt := 81) (off := 80) S.1 S.2.1 dX1_tellAfter_1 (by rw [c_5]; decide) (by rw [c_5]; decide) (by rw [c_5]; decide) (by decide) ?_
    refine lv_aload_n S.1 S.2.1 dX1_tellAfter_81 rfl (lv_at hl 0 rfl) ?_
    refine gfX1_55 S hK hP 0 rfl rfl dX1_tellAfter_82 ?_
    have e_ := Option.some.inj hf
    subst e_
    exact hret _ _ dX1_tellAfter_85
  have hf := it_n c_5 hf
  by_cases c_6 : p1 = 6
  · have hf := it_p c_6 hf
    refine lv_tableIn (tgt := 86) (off := 85) S.1 S.2.1 dX1_tellAfter_1 (by rw [c_6]; decide) (by rw [c_6]; decide) (by rw [c_6]; decide) (by decide) ?_
    refine lv_aload_n S.1 S.2.1 dX1_tellAfter_86 rfl (lv_at hl 0 rfl) ?_
    refine gfX1_37 S hK hP 0 rfl rfl dX1_tellAfter_87 ?_
    refine lv_bipush (v := 10) S.1 S.2.1 dX1_tellAfter_90 bp_10 ?_
    refine lv_idiv S.1 S.2.1 dX1_tellAfter_92 (by decide) ?_
    have e_ := Option.some.inj hf
    subst e_
    exact hret _ _ dX1_tellAfter_93
  have hf := it_n c_6 hf
  by_cases c_7 : p1 = 7
  · have hf := it_p c_7 hf
    refine lv_tableIn (tgt := 94) (off := 93) S.1 S.2.1 dX1_tellAfter_1 (by rw [c_7]; decide) (by rw [c_7]; decide) (by rw [c_7]; decide) (by decide) ?_
    refine lv_aload_n S.1 S.2.1 dX1_tellAfter_94 rfl (lv_at hl 0 rfl) ?_
    obtain ⟨x3, hx3, hf⟩ := bnd_e hf
    refine Rd.cV (c_X1_free hx3) S hK hP 0 0 rfl rfl kVX1_145 rfl hl.1 [] rfl (Nat.le_of_ble_eq_true rfl) ⟨(Nat.le_of_ble_eq_true rfl), (Nat.le_of_ble_eq_true rfl)⟩ ⟨(Nat.zero_le _), (Nat.zero_le _)⟩ dX1_tellAfter_95 ?_
    have e_ := Option.some.inj hf
    subst e_
    exact hret _ _ dX1_tellAfter_98
  have hf := it_n c_7 hf
  refine lv_tableOut (tgt := 99) S.1 S.2.1 dX1_tellAfter_1 (by have n_0 := lv_neT c_0 (a := 0) (by decide); have n_1 := lv_neT c_1 (a := 1) (by decide); have n_2 := lv_neT c_2 (a := 2) (by decide); have n_3 := lv_neT c_3 (a := 3) (by decide); have n_4 := lv_neT c_4 (a := 4) (by decide); have n_5 := lv_neT c_5 (a := 5) (by decide); have n_6 := lv_neT c_6 (a := 6) (by decide); have n_7 := lv_neT c_7 (a := 7) (by decide); omega) (by decide) ?_
  refine lv_bipush (v := (-2)) S.1 S.2.1 dX1_tellAfter_99 bp_m2 ?_
  have e_ := Option.some.inj hf
  subst e_
  exact hret _ _ dX1_tellAfter_101
