def f_X7_find_vnn (fu : Nat) (o_size : Int32) : Option (Int32 × Int32) := some ((0 : Int32), (0 : Int32))
set_option maxHeartbeats 4000000 in
set_option maxRecDepth 100000 in
theorem c_X7_find_vnn {l : Launch} {D : va_G} {g : Nat → ClassId} {fu : Nat} {o_q0 o_q1 : Nat} {o_size : Int32} {o_people : Int32} {o_found : (Nat → Int32)} {r : Int32 × Int32} (hf : f_X7_find_vnn fu o_size = some r) : Wr l D (gy g) yX7_find cX7_find 5 (some .boolean) 0 [.ref o_q0, .null, .null] (wSu g o_q0 o_q1 o_size o_people o_found) (wSu g o_q0 o_q1 r.2 o_people o_found) (some (.int r.1)) := by
  refine Wr.ofZ (by decide) (Nat.le_of_ble_eq_true rfl) ?_
  intro p e s m args below meth c Q A S hK hA hret ls hl hW
  have hl : lv_has ls 5 [(0, .ref o_q0), (1, .null), (2, .null)] := hl
  refine lv_aload_n S.1 S.2.1 dX7_find_0 rfl (lv_at hl 0 rfl) ?_
  refine lv_iconst (v := 0) S.1 S.2.1 dX7_find_1 ic_0 ?_
  refine pfX7_9 (ws2 := (wSu g o_q0 o_q1 (0 : Int32) o_people o_found)) S hK hW 0 rfl rfl rfl (Nat.le_of_ble_eq_true rfl) rfl dX7_find_2 (fun H locs hW => ?_)
  refine lv_aload_nN S.1 S.2.1 dX7_find_5 rfl (lv_at hl 1 rfl) ?_
  refine lv_ifnullN (tgt := 13) S.1 S.2.1 dX7_find_6 (by decide) ?_
  refine lv_iconst (v := 0) S.1 S.2.1 dX7_find_13 ic_0 ?_
  have e_ := Option.some.inj hf
  subst e_
  exact hret _ _ _ _ (Or.inl rfl) dX7_find_14 hW
def f_X7_find_vnR (fu : Nat) (o_size : Int32) : Option (Int32 × Int32) := some ((0 : Int32), (0 : Int32))
set_option maxHeartbeats 4000000 in
set_option maxRecDepth 100000 in
theorem c_X7_find_vnR {l : Launch} {D : va_G} {g : Nat → ClassId} {fu : Nat} {o_q0 o_q1 p2_q0 : Nat} {o_size : Int32} {o_people : Int32} {o_found : (Nat → Int32)} {r : Int32 × Int32} (hf : f_X7_find_vnR fu o_size = some r) : Wr l D (gy g) yX7_find cX7_find 5 (some .boolean) 0 [.ref o_q0, .null, .ref p2_q0] (wSu g o_q0 o_q1 o_size o_people o_found) (wSu g o_q0 o_q1 r.2 o_people o_found) (some (.int r.1)) := by
  refine Wr.ofZ (by decide) (Nat.le_of_ble_eq_true rfl) ?_
  intro p e s m args below meth c Q A S hK hA hret ls hl hW
  have hl : lv_has ls 5 [(0, .ref o_q0), (1, .null), (2, .ref p2_q0)] := hl
  refine lv_aload_n S.1 S.2.1 dX7_find_0 rfl (lv_at hl 0 rfl) ?_
  refine lv_iconst (v := 0) S.1 S.2.1 dX7_find_1 ic_0 ?_
  refine pfX7_9 (ws2 := (wSu g o_q0 o_q1 (0 : Int32) o_people o_found)) S hK hW 0 rfl rfl rfl (Nat.le_of_ble_eq_true rfl) rfl dX7_find_2 (fun H locs hW => ?_)
  refine lv_aload_nN S.1 S.2.1 dX7_find_5 rfl (lv_at hl 1 rfl) ?_
  refine lv_ifnullN (tgt := 13) S.1 S.2.1 dX7_find_6 (by decide) ?_
  refine lv_iconst (v := 0) S.1 S.2.1 dX7_find_13 ic_0 ?_
  have e_ := Option.some.inj hf
  subst e_
  exact hret _ _ _ _ (Or.inl rfl) dX7_find_14 hW
def f_X7_find_vRn (fu : Nat) (o_size : Int32) : Option (Int32 × Int32) := some ((0 : Int32), (0 : Int32))
set_option maxHeartbeats 4000000 in
set_option maxRecDepth 100000 in
theorem c_X7_find_vRn {l : Launch} {D : va_G} {g : Nat → ClassId} {fu : Nat} {o_q0 o_q1 p1_q0 : Nat} {o_size : Int32} {o_people : Int32} {o_found : (Nat → Int32)} {r : Int32 × Int32} (hf : f_X7_find_vRn fu o_size = some r) : Wr l D (gy g) yX7_find cX7_find 5 (some .boolean) 0 [.ref o_q0, .ref p1_q0, .null] (wSu g o_q0 o_q1 o_size o_people o_found) (wSu g o_q0 o_q1 r.2 o_people o_found) (some (.int r.1)) := by
  refine Wr.ofZ (by decide) (Nat.le_of_ble_eq_true rfl) ?_
  intro p e s m args below meth c Q A S hK hA hret ls hl hW
  have hl : lv_has ls 5 [(0, .ref o_q0), (1, .ref p1_q0), (2, .null)] := hl
  refine lv_aload_n S.1 S.2.1 dX7_find_0 rfl (lv_at hl 0 rfl) ?_
  refine lv_iconst (v := 0) S.1 S.2.1 dX7_find_1 ic_0 ?_
  refine pfX7_9 (ws2 := (wSu g o_q0 o_q1 (0 : Int32) o_people o_found)) S hK hW 0 rfl rfl rfl (Nat.le_of_ble_eq_true rfl) rfl dX7_find_2 (fun H locs hW => ?_)
  refine lv_aload_n S.1 S.2.1 dX7_find_5 rfl (lv_at hl 1 rfl) ?_
  refine lv_ifnull S.1 S.2.1 dX7_find_6 ?_
  refine lv_aload_nN S.1 S.2.1 dX7_find_9 rfl (lv_at hl 2 rfl) ?_
  refine lv_ifnonnullN S.1 S.2.1 dX7_find_10 ?_
  refine lv_iconst (v := 0) S.1 S.2.1 dX7_find_13 ic_0 ?_
  have e_ := Option.some.inj hf
  subst e_
  exact hret _ _ _ _ (Or.inl rfl) dX7_find_14 hW
