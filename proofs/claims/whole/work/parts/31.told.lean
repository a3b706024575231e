def f_X8_put_L3 (p1 : Int32) (s2 : Int32 × (Nat → Int32) × Int32) : Option ((Int32 × (Nat → Int32) × Int32) ⊕ ((Nat → Int32) × Int32)) := if s2.1 < 0 then some (.inr (s2.2.1, s2.2.2)) else if (600 : Int32) ≤ s2.2.2 then some (.inr (s2.2.1, s2.2.2)) else ltn (jbyte (jshr p1 s2.1)) (fun x5 => bnd (α := (Nat → Int32)) (wri 600 s2.2.1 s2.2.2 (vp_nar .byte x5)) (fun x6 => ltn (s2.2.2 + (1 : Int32)) (fun x7 => some (.inl ((s2.1 + (-8)), x6, x7)))))
def f_X8_put (fu : Nat) (o_tape : (Nat → Int32)) (o_length : Int32) (p1 : Int32) : Option ((Nat → Int32) × Int32) := bnd (α := (Nat → Int32) × Int32) (lp (f_X8_put_L3 p1) fu ((24 : Int32), o_tape, o_length)) (fun v8 => some (v8.1, v8.2))
set_option maxHeartbeats 4000000 in
set_option maxRecDepth 100000 in
theorem c_X8_put {l : Launch} {D : va_G} {g : Nat → ClassId} {fu : Nat} {o_q0 o_q1 o_q2 o_q3 o_towns0_q0 o_towns0_q1 o_towns0_q2 o_towns0_q3 o_towns0_q4 o_towns1_q0 o_towns1_q1 o_towns1_q2 o_towns1_q3 o_towns1_q4 o_q4 o_weeks0_q0 o_weeks0_q1 o_weeks1_q0 o_weeks1_q1 o_q5 o_logs0_q0 o_logs0_q1 o_logs1_q0 o_logs1_q1 : Nat} {o_tape : (Nat → Int32)} {o_length : Int32} {o_fault : Int32} {o_place : Int32} {o_counts : (Nat → Int32)} {o_towns0_people : Int32} {o_towns0_wit : (Nat → Int32)} {o_towns0_purse : (Nat → Int32)} {o_towns0_hated : (Nat → Int32)} {o_towns0_owed : (Nat → Int32)} {o_towns1_people : Int32} {o_towns1_wit : (Nat → Int32)} {o_towns1_purse : (Nat → Int32)} {o_towns1_hated : (Nat → Int32)} {o_towns1_owed : (Nat → Int32)} {o_weeks0_deeds : Int32} {o_weeks0_cells : (Nat → Int32)} {o_weeks1_deeds : Int32} {o_weeks1_cells : (Nat → Int32)} {o_logs0_facts : Int32} {o_logs0_cells : (Nat → Int32)} {o_logs1_facts : Int32} {o_logs1_cells : (Nat → Int32)} {p1 : Int32} {r : (Nat → Int32) × Int32} (hf : f_X8_put fu o_tape o_length p1 = some r) : Wr l D (gy g) yX8_put cX8_put 3 none 0 [.ref o_q0, .int p1] (wTo g o_q0 o_q1 o_q2 o_q3 o_towns0_q0 o_towns0_q1 o_towns0_q2 o_towns0_q3 o_towns0_q4 o_towns1_q0 o_towns1_q1 o_towns1_q2 o_towns1_q3 o_towns1_q4 o_q4 o_weeks0_q0 o_weeks0_q1 o_weeks1_q0 o_weeks1_q1 o_q5 o_logs0_q0 o_logs0_q1 o_logs1_q0 o_logs1_q1 o_tape o_length o_fault o_place o_counts o_towns0_people o_towns0_wit o_towns0_purse o_towns0_hated o_towns0_owed o_towns1_people o_towns1_wit o_towns1_purse o_towns1_hated o_towns1_owed o_weeks0_deeds o_weeks0_cells o_weeks1_deeds o_weeks1_cells o_logs0_facts o_logs0_cells o_logs1_facts o_logs1_cells) (wTo g o_q0 o_q1 o_q2 o_q3 o_towns0_q0 o_towns0_q1 o_towns0_q2 o_towns0_q3 o_towns0_q4 o_towns1_q0 o_towns1_q1 o_towns1_q2 o_towns1_q3 o_towns1_q4 o_q4 o_weeks0_q0 o_weeks0_q1 o_weeks1_q0 o_weeks1_q1 o_q5 o_logs0_q0 o_logs0_q1 o_logs1_q0 o_logs1_q1 r.1 r.2 o_fault o_place o_counts o_towns0_people o_towns0_wit o_towns0_purse o_towns0_hated o_towns0_owed o_towns1_people o_towns1_wit o_towns1_purse o_towns1_hated o_towns1_owed o_weeks0_deeds o_weeks0_cells o_weeks1_deeds o_weeks1_cells o_logs0_facts o_logs0_cells o_logs1_facts o_logs1_cells) none := by
  refine Wr.ofV (by decide) (Nat.le_of_ble_eq_true rfl) ?_
  intro p e s m args below meth c Q A S hK hA hret ls hl hW
  have hl : lv_has ls 3 [(0, .ref o_q0), (1, .int p1)] := hl
  refine lv_bipush (v := 24) S.1 S.2.1 dX8_put_0 bp_24 ?_
  refine lv_istore_n (lv' := [(2, .int (24 : Int32)), (0, .ref o_q0), (1, .int p1)]) S.1 S.2.1 dX8_put_2 rfl hl (by decide) rfl (fun ls hl => ?_)
  obtain ⟨x3, hf_, hk3⟩ := bnd_e hf
  have hE3 : ∀ (v8 : (Nat → Int32) × Int32), v8 = x3 → ∀ (ls : Array Slot) (H : Heap) (locs : List Loc), lv_has ls 3 [] → St A s.heap D (wTo g o_q0 o_q1 o_q2 o_q3 o_towns0_q0 o_towns0_q1 o_towns0_q2 o_towns0_q3 o_towns0_q4 o_towns1_q0 o_towns1_q1 o_towns1_q2 o_towns1_q3 o_towns1_q4 o_q4 o_weeks0_q0 o_weeks0_q1 o_weeks1_q0 o_weeks1_q1 o_q5 o_logs0_q0 o_logs0_q1 o_logs1_q0 o_logs1_q1 v8.1 v8.2 o_fault o_place o_counts o_towns0_people o_towns0_wit o_towns0_purse o_towns0_hated o_towns0_owed o_towns1_people o_towns1_wit o_towns1_purse o_towns1_hated o_towns1_owed o_weeks0_deeds o_weeks0_cells o_weeks1_deeds o_weeks1_cells o_logs0_facts o_logs0_cells o_logs1_facts o_logs1_cells) H locs → W p l e (rmD 0) s m args below meth c H locs 0 0 Q (F0 m 46 ls []) := by
    intro v8 e_ ls H locs hl hW
    subst e_
    have hf := hk3
    have e_ := Option.some.inj hf
    subst e_
    exact hret _ _ _ _ dX8_put_46 hW
  refine lp_ind (P := fun (s2 : Int32 × (Nat → Int32) × Int32) => ∀ (ls : Array Slot) (H : Heap) (locs : List Loc), lv_has ls 3 [(0, .ref o_q0), (1, .int p1), (2, .int s2.1)] → St A s.heap D (wTo g o_q0 o_q1 o_q2 o_q3 o_towns0_q0 o_towns0_q1 o_towns0_q2 o_towns0_q3 o_towns0_q4 o_towns1_q0 o_towns1_q1 o_towns1_q2 o_towns1_q3 o_towns1_q4 o_q4 o_weeks0_q0 o_weeks0_q1 o_weeks1_q0 o_weeks1_q1 o_q5 o_logs0_q0 o_logs0_q1 o_logs1_q0 o_logs1_q1 s2.2.1 s2.2.2 o_fault o_place o_counts o_towns0_people o_towns0_wit o_towns0_purse o_towns0_hated o_towns0_owed o_towns1_people o_towns1_wit o_towns1_purse o_towns1_hated o_towns1_owed o_weeks0_deeds o_weeks0_cells o_weeks1_deeds o_weeks1_cells o_logs0_facts o_logs0_cells o_logs1_facts o_logs1_cells) H locs → W p l e (rmD 0) s m args below meth c H locs 0 0 Q (F0 m 3 ls [])) ?_ _ _ hf_ _ _ _ (lv_sub hl [1, 2, 0] rfl) hW
  intro s2 x4 hf hI3 hR3 ls H locs hl hW
  refine lv_iload_n S.1 S.2.1 dX8_put_3 rfl (lv_at hl 2 rfl) ?_
  refine lv_if_lt (tgt := 46) S.1 S.2.1 dX8_put_4 (by decide) (fun c_ => ?_) (fun c_ => ?_)
  · have hf := it_p c_ hf
    have e_ := hR3 _ (Option.some.inj hf).symm
    exact hE3 _ e_ _ _ _ (lv_sub hl [] rfl) hW
  · have hf := it_n c_ hf
    refine lv_aload_n S.1 S.2.1 dX8_put_7 rfl (lv_at hl 0 rfl) ?_
    refine gfX8_15 S hK hW.1 0 rfl rfl dX8_put_8 ?_
    refine lv_sipush (v := 600) S.1 S.2.1 dX8_put_11 sp_600 ?_
    refine lv_icmp_ge (tgt := 46) S.1 S.2.1 dX8_put_14 (by decide) (fun c_ => ?_) (fun c_ => ?_)
    · have hf := it_p c_ hf
      have e_ := hR3 _ (Option.some.inj hf).symm
      exact hE3 _ e_ _ _ _ (lv_sub hl [] rfl) hW
    · have hf := it_n c_ hf
      refine lv_aload_n S.1 S.2.1 dX8_put_17 rfl (lv_at hl 0 rfl) ?_
      refine gfX8_9 S hK hW.1 0 rfl rfl dX8_put_18 ?_
      refine lv_aload_n S.1 S.2.1 dX8_put_21 rfl (lv_at hl 0 rfl) ?_
      refine gfX8_15 S hK hW.1 0 rfl rfl dX8_put_22 ?_
      refine lv_iload_n S.1 S.2.1 dX8_put_25 rfl (lv_at hl 1 rfl) ?_
      refine lv_iload_n S.1 S.2.1 dX8_put_26 rfl (lv_at hl 2 rfl) ?_
      refine lv_ishr S.1 S.2.1 dX8_put_27 ?_
      refine lv_i2b (v := (jbyte (jshr p1 s2.1))) S.1 S.2.1 dX8_put_28 rfl ?_
      refine lv_topi (fun x5 ex5 => ?_)
      have hf := ltn_e hf ex5
      obtain ⟨x6, hx6, hf⟩ := bnd_e hf
      refine q_bast (ws2 := (wTo g o_q0 o_q1 o_q2 o_q3 o_towns0_q0 o_towns0_q1 o_towns0_q2 o_towns0_q3 o_towns0_q4 o_towns1_q0 o_towns1_q1 o_towns1_q2 o_towns1_q3 o_towns1_q4 o_q4 o_weeks0_q0 o_weeks0_q1 o_weeks1_q0 o_weeks1_q1 o_q5 o_logs0_q0 o_logs0_q1 o_logs1_q0 o_logs1_q1 x6 s2.2.2 o_fault o_place o_counts o_towns0_people o_towns0_wit o_towns0_purse o_towns0_hated o_towns0_owed o_towns1_people o_towns1_wit o_towns1_purse o_towns1_hated o_towns1_owed o_weeks0_deeds o_weeks0_cells o_weeks1_deeds o_weeks1_cells o_logs0_facts o_logs0_cells o_logs1_facts o_logs1_cells)) S hK hW 1 1 rfl rfl hx6 rfl dX8_put_29 (fun H locs hW => ?_)
      refine lv_aload_n S.1 S.2.1 dX8_put_30 rfl (lv_at hl 0 rfl) ?_
      refine lv_dup S.1 S.2.1 dX8_put_31 rfl ?_
      refine gfX8_15 S hK hW.1 0 rfl rfl dX8_put_32 ?_
      refine lv_iconst (v := 1) S.1 S.2.1 dX8_put_35 ic_1 ?_
      refine lv_iadd S.1 S.2.1 dX8_put_36 ?_
      refine lv_topi (fun x7 ex7 => ?_)
      have hf := ltn_e hf ex7
      refine pfX8_15 (ws2 := (wTo g o_q0 o_q1 o_q2 o_q3 o_towns0_q0 o_towns0_q1 o_towns0_q2 o_towns0_q3 o_towns0_q4 o_towns1_q0 o_towns1_q1 o_towns1_q2 o_towns1_q3 o_towns1_q4 o_q4 o_weeks0_q0 o_weeks0_q1 o_weeks1_q0 o_weeks1_q1 o_q5 o_logs0_q0 o_logs0_q1 o_logs1_q0 o_logs1_q1 x6 x7 o_fault o_place o_counts o_towns0_people o_towns0_wit o_towns0_purse o_towns0_hated o_towns0_owed o_towns1_people o_towns1_wit o_towns1_purse o_towns1_hated o_towns1_owed o_weeks0_deeds o_weeks0_cells o_weeks1_deeds o_weeks1_cells o_logs0_facts o_logs0_cells o_logs1_facts o_logs1_cells)) S hK hW 0 rfl rfl rfl (Nat.le_of_ble_eq_true rfl) rfl dX8_put_37 (fun H locs hW => ?_)
      refine q_iinc (w := (-8)) (lv' := [(2, .int (s2.1 + (-8))), (0, .ref o_q0), (1, .int p1)]) S dX8_put_40 hl (k := 2) rfl ic_m8 (by decide) rfl (fun ls hl => ?_)
      refine lv_goto (tgt := 3) S.1 S.2.1 dX8_put_43 (by decide) ?_
      exact hI3 _ (Option.some.inj hf).symm _ _ _ (lv_sub hl [1, 2, 0] rfl) hW
def f_X8_countOf (fu : Nat) (o_counts : (Nat → Int32)) (p1 : Int32) : Option (Int32) := if p1 < 0 then some (-2 : Int32) else if p1 ≤ (2 : Int32) then bnd (α := Int32) (rdi 3 o_counts p1) (fun x1 => some x1) else some (-2 : Int32)
set_option maxHeartbeats 4000000 in
set_option maxRecDepth 100000 in
theorem c_X8_countOf {l : Launch} {D : va_G} {g : Nat → ClassId} {fu : Nat} {o_q0 o_q1 o_q2 o_q3 o_towns0_q0 o_towns0_q1 o_towns0_q2 o_towns0_q3 o_towns0_q4 o_towns1_q0 o_towns1_q1 o_towns1_q2 o_towns1_q3 o_towns1_q4 o_q4 o_weeks0_q0 o_weeks0_q1 o_weeks1_q0 o_weeks1_q1 o_q5 o_logs0_q0 o_logs0_q1 o_logs1_q0 o_logs1_q1 : Nat} {o_tape : (Nat → Int32)} {o_length : Int32} {o_fault : Int32} {o_place : Int32} {o_counts : (Nat → Int32)} {o_towns0_people : Int32} {o_towns0_wit : (Nat → Int32)} {o_towns0_purse : (Nat → Int32)} {o_towns0_hated : (Nat → Int32)} {o_towns0_owed : (Nat → Int32)} {o_towns1_people : Int32} {o_towns1_wit : (Nat → Int32)} {o_towns1_purse : (Nat → Int32)} {o_towns1_hated : (Nat → Int32)} {o_towns1_owed : (Nat → Int32)} {o_weeks0_deeds : Int32} {o_weeks0_cells : (Nat → Int32)} {o_weeks1_deeds : Int32} {o_weeks1_cells : (Nat → Int32)} {o_logs0_facts : Int32} {o_logs0_cells : (Nat → Int32)} {o_logs1_facts : Int32} {o_logs1_cells : (Nat → Int32)} {p1 : Int32} {r : Int32} (hf : f_X8_countOf fu o_counts p1 = some r) : Rd l D (gy g) yX8_countOf cX8_countOf 2 (some .int) 0 [.ref o_q0, .int p1] (wTo g o_q0 o_q1 o_q2 o_q3 o_towns0_q0 o_towns0_q1 o_towns0_q2 o_towns0_q3 o_towns0_q4 o_towns1_q0 o_towns1_q1 o_towns1_q2 o_towns1_q3 o_towns1_q4 o_q4 o_weeks0_q0 o_weeks0_q1 o_weeks1_q0 o_weeks1_q1 o_q5 o_logs0_q0 o_logs0_q1 o_logs1_q0 o_logs1_q1 o_tape o_length o_fault o_place o_counts o_towns0_people o_towns0_wit o_towns0_purse o_towns0_hated o_towns0_owed o_towns1_people o_towns1_wit o_towns1_purse o_towns1_hated o_towns1_owed o_weeks0_deeds o_weeks0_cells o_weeks1_deeds o_weeks1_cells o_logs0_facts o_logs0_cells o_logs1_facts o_logs1_cells) (some (.int r)) := by
  refine Rd.ofI (by decide) (Nat.le_of_ble_eq_true rfl) ?_
  intro p e s m args below meth c Q S hK hP hret ls hl
  have hl : lv_has ls 2 [(0, .ref o_q0), (1, .int p1)] := hl
  refine lv_iload_n S.1 S.2.1 dX8_countOf_0 rfl (lv_at hl 1 rfl) ?_
  refine lv_if_lt (tgt := 9) S.1 S.2.1 dX8_countOf_1 (by decide) (fun c_ => ?_) (fun c_ => ?_)
  · have hf := it_p c_ hf
    refine lv_bipush (v := (-2)) S.1 S.2.1 dX8_countOf_9 bp_m2 ?_
    refine lv_goto (tgt := 20) S.1 S.2.1 dX8_countOf_11 (by decide) ?_
    have e_ := Option.some.inj hf
    subst e_
    exact hret _ _ dX8_countOf_20
  · have hf := it_n c_ hf
    refine lv_iload_n S.1 S.2.1 dX8_countOf_4 rfl (lv_at hl 1 rfl) ?_
    refine lv_iconst (v := 2) S.1 S.2.1 dX8_countOf_5 ic_2 ?_
    refine lv_icmp_le (tgt := 14) S.1 S.2.1 dX8_countOf_6 (by decide) (fun c_ => ?_) (fun c_ => ?_)
    · have hf := it_p c_ hf
      refine lv_aload_n S.1 S.2.1 dX8_countOf_14 rfl (lv_at hl 0 rfl) ?_
      refine gfX8_25 S hK hP 0 rfl rfl dX8_countOf_15 ?_
      refine lv_iload_n S.1 S.2.1 dX8_countOf_18 rfl (lv_at hl 1 rfl) ?_
      obtain ⟨x1, hx1, hf⟩ := bnd_e hf
      refine q_iald S hK hP 2 0 rfl rfl hx1 dX8_countOf_19 ?_
      have e_ := Option.some.inj hf
      subst e_
      exact hret _ _ dX8_countOf_20
    · have hf := it_n c_ hf
      refine lv_bipush (v := (-2)) S.1 S.2.1 dX8_countOf_9 bp_m2 ?_
      refine lv_goto (tgt := 20) S.1 S.2.1 dX8_countOf_11 (by decide) ?_
      have e_ := Option.some.inj hf
      subst e_
      exact hret _ _ dX8_countOf_20
def f_X8_holds (fu : Nat) (o_counts : (Nat → Int32)) (p1 : Int32) (p2 : Int32) : Option (Int32) := if p2 < 0 then some (0 : Int32) else if (2 : Int32) ≤ p2 then some (0 : Int32) else bnd (α := Int32) (rdi 3 o_counts p1) (fun x1 => if x1 ≤ p2 then some (0 : Int32) else some (1 : Int32))
set_option maxHeartbeats 4000000 in
set_option maxRecDepth 100000 in
theorem c_X8_holds {l : Launch} {D : va_G} {g : Nat → ClassId} {fu : Nat} {o_q0 o_q1 o_q2 o_q3 o_towns0_q0 o_towns0_q1 o_towns0_q2 o_towns0_q3 o_towns0_q4 o_towns1_q0 o_towns1_q1 o_towns1_q2 o_towns1_q3 o_towns1_q4 o_q4 o_weeks0_q0 o_weeks0_q1 o_weeks1_q0 o_weeks1_q1 o_q5 o_logs0_q0 o_logs0_q1 o_logs1_q0 o_logs1_q1 : Nat} {o_tape : (Nat → Int32)} {o_length : Int32} {o_fault : Int32} {o_place : Int32} {o_counts : (Nat → Int32)} {o_towns0_people : Int32} {o_towns0_wit : (Nat → Int32)} {o_towns0_purse : (Nat → Int32)} {o_towns0_hated : (Nat → Int32)} {o_towns0_owed : (Nat → Int32)} {o_towns1_people : Int32} {o_towns1_wit : (Nat → Int32)} {o_towns1_purse : (Nat → Int32)} {o_towns1_hated : (Nat → Int32)} {o_towns1_owed : (Nat → Int32)} {o_weeks0_deeds : Int32} {o_weeks0_cells : (Nat → Int32)} {o_weeks1_deeds : Int32} {o_weeks1_cells : (Nat → Int32)} {o_logs0_facts : Int32} {o_logs0_cells : (Nat → Int32)} {o_logs1_facts : Int32} {o_logs1_cells : (Nat → Int32)} {p1 : Int32} {p2 : Int32} {r : Int32} (hf : f_X8_holds fu o_counts p1 p2 = some r) : Rd l D (gy g) yX8_holds cX8_holds 3 (some .boolean) 0 [.ref o_q0, .int p1, .int p2] (wTo g o_q0 o_q1 o_q2 o_q3 o_towns0_q0 o_towns0_q1 o_towns0_q2 o_towns0_q3 o_towns0_q4 o_towns1_q0 o_towns1_q1 o_towns1_q2 o_towns1_q3 o_towns1_q4 o_q4 o_weeks0_q0 o_weeks0_q1 o_weeks1_q0 o_weeks1_q1 o_q5 o_logs0_q0 o_logs0_q1 o_logs1_q0 o_logs1_q1 o_tape o_length o_fault o_place o_counts o_towns0_people o_towns0_wit o_towns0_purse o_towns0_hated o_towns0_owed o_towns1_people o_towns1_wit o_towns1_purse o_towns1_hated o_towns1_owed o_weeks0_deeds o_weeks0_cells o_weeks1_deeds o_weeks1_cells o_logs0_facts o_logs0_cells o_logs1_facts o_logs1_cells) (some (.int r)) := by
  refine Rd.ofZ (by decide) (Nat.le_of_ble_eq_true rfl) ?_
  intro p e s m args below meth c Q S hK hP hret ls hl
  have hl : lv_has ls 3 [(0, .ref o_q0), (1, .int p1), (2, .int p2)] := hl
  refine lv_iload_n S.1 S.2.1 dX8_holds_0 rfl (lv_at hl 2 rfl) ?_
  refine lv_if_lt (tgt := 23) S.1 S.2.1 dX8_holds_1 (by decide) (fun c_ => ?_) (fun c_ => ?_)
  · have hf := it_p c_ hf
    refine lv_iconst (v := 0) S.1 S.2.1 dX8_holds_23 ic_0 ?_
    have e_ := Option.some.inj hf
    subst e_
    exact hret _ _ (Or.inl rfl) dX8_holds_24
  · have hf := it_n c_ hf
    refine lv_iload_n S.1 S.2.1 dX8_holds_4 rfl (lv_at hl 2 rfl) ?_
    refine lv_iconst (v := 2) S.1 S.2.1 dX8_holds_5 ic_2 ?_
    refine lv_icmp_ge (tgt := 23) S.1 S.2.1 dX8_holds_6 (by decide) (fun c_ => ?_) (fun c_ => ?_)
    · have hf := it_p c_ hf
      refine lv_iconst (v := 0) S.1 S.2.1 dX8_holds_23 ic_0 ?_
      have e_ := Option.some.inj hf
      subst e_
      exact hret _ _ (Or.inl rfl) dX8_holds_24
    · have hf := it_n c_ hf
      refine lv_iload_n S.1 S.2.1 dX8_holds_9 rfl (lv_at hl 2 rfl) ?_
      refine lv_aload_n S.1 S.2.1 dX8_holds_10 rfl (lv_at hl 0 rfl) ?_
      refine gfX8_25 S hK hP 0 rfl rfl dX8_holds_11 ?_
      refine lv_iload_n S.1 S.2.1 dX8_holds_14 rfl (lv_at hl 1 rfl) ?_
      obtain ⟨x1, hx1, hf⟩ := bnd_e hf
      refine q_iald S hK hP 2 0 rfl rfl hx1 dX8_holds_15 ?_
      refine lv_icmp_ge (tgt := 23) S.1 S.2.1 dX8_holds_16 (by decide) (fun c_ => ?_) (fun c_ => ?_)
      · have hf := it_p c_ hf
        refine lv_iconst (v := 0) S.1 S.2.1 dX8_holds_23 ic_0 ?_
        have e_ := Option.some.inj hf
        subst e_
        exact hret _ _ (Or.inl rfl) dX8_holds_24
      · have hf := it_n c_ hf
        refine lv_iconst (v := 1) S.1 S.2.1 dX8_holds_19 ic_1 ?_
        refine lv_goto (tgt := 24) S.1 S.2.1 dX8_holds_20 (by decide) ?_
        have e_ := Option.some.inj hf
        subst e_
        exact hret _ _ (Or.inr rfl) dX8_holds_24
def f_X8_townAt (fu : Nat) (o_counts : (Nat → Int32)) (p1 : Int32) : Option (Int32) := bnd (α := Int32) (f_X8_holds fu o_counts (0 : Int32) p1) (fun x1 => if x1 = 0 then some (-1 : Int32) else if p1 = 0 then some (0 : Int32) else if p1 = 1 then some (1 : Int32) else none)
set_option maxHeartbeats 4000000 in
set_option maxRecDepth 100000 in
theorem c_X8_townAt {l : Launch} {D : va_G} {g : Nat → ClassId} {fu : Nat} {o_q0 o_q1 o_q2 o_q3 o_towns0_q0 o_towns0_q1 o_towns0_q2 o_towns0_q3 o_towns0_q4 o_towns1_q0 o_towns1_q1 o_towns1_q2 o_towns1_q3 o_towns1_q4 o_q4 o_weeks0_q0 o_weeks0_q1 o_weeks1_q0 o_weeks1_q1 o_q5 o_logs0_q0 o_logs0_q1 o_logs1_q0 o_logs1_q1 : Nat} {o_tape : (Nat → Int32)} {o_length : Int32} {o_fault : Int32} {o_place : Int32} {o_counts : (Nat → Int32)} {o_towns0_people : Int32} {o_towns0_wit : (Nat → Int32)} {o_towns0_purse : (Nat → Int32)} {o_towns0_hated : (Nat → Int32)} {o_towns0_owed : (Nat → Int32)} {o_towns1_people : Int32} {o_towns1_wit : (Nat → Int32)} {o_towns1_purse : (Nat → Int32)} {o_towns1_hated : (Nat → Int32)} {o_towns1_owed : (Nat → Int32)} {o_weeks0_deeds : Int32} {o_weeks0_cells : (Nat → Int32)} {o_weeks1_deeds : Int32} {o_weeks1_cells : (Nat → Int32)} {o_logs0_facts : Int32} {o_logs0_cells : (Nat → Int32)} {o_logs1_facts : Int32} {o_logs1_cells : (Nat → Int32)} {p1 : Int32} {r : Int32} (hf : f_X8_townAt fu o_counts p1 = some r) : Rd l D (gy g) yX8_townAt cX8_townAt 2 (some (.object "KeptCompany$Town")) 1 [.ref o_q0, .int p1] (wTo g o_q0 o_q1 o_q2 o_q3 o_towns0_q0 o_towns0_q1 o_towns0_q2 o_towns0_q3 o_towns0_q4 o_towns1_q0 o_towns1_q1 o_towns1_q2 o_towns1_q3 o_towns1_q4 o_q4 o_weeks0_q0 o_weeks0_q1 o_weeks1_q0 o_weeks1_q1 o_q5 o_logs0_q0 o_logs0_q1 o_logs1_q0 o_logs1_q1 o_tape o_length o_fault o_place o_counts o_towns0_people o_towns0_wit o_towns0_purse o_towns0_hated o_towns0_owed o_towns1_people o_towns1_wit o_towns1_purse o_towns1_hated o_towns1_owed o_weeks0_deeds o_weeks0_cells o_weeks1_deeds o_weeks1_cells o_logs0_facts o_logs0_cells o_logs1_facts o_logs1_cells) (some (va_rf (sel2 o_towns0_q0 o_towns1_q0 r))) := by
  refine Rd.ofA (by decide) (Nat.le_of_ble_eq_true rfl) ?_
  intro p e s m args below meth c Q S hK hP hret0 hret1 hretn ls hl
  have hl : lv_has ls 2 [(0, .ref o_q0), (1, .int p1)] := hl
  refine lv_aload_n S.1 S.2.1 dX8_townAt_0 rfl (lv_at hl 0 rfl) ?_
  refine lv_iconst (v := 0) S.1 S.2.1 dX8_townAt_1 ic_0 ?_
  refine lv_iload_n S.1 S.2.1 dX8_townAt_2 rfl (lv_at hl 1 rfl) ?_
  obtain ⟨x1, hx1, hf⟩ := bnd_e hf
  refine Rd.cV (c_X8_holds hx1) S hK hP 0 6 rfl rfl kVX8_50 rfl hl.1 [] rfl (Nat.le_of_ble_eq_true rfl) ⟨(Nat.le_of_ble_eq_true rfl), (Nat.le_of_ble_eq_true rfl)⟩ ⟨(Nat.zero_le _), (Nat.zero_le _)⟩ dX8_townAt_3 ?_
  refine lv_if_eq (tgt := 18) S.1 S.2.1 dX8_townAt_6 (by decide) (fun c_ => ?_) (fun c_ => ?_)
  · have hf := it_p c_ hf
    refine lv_null S.1 S.2.1 dX8_townAt_18 ?_
    have e_ := Option.some.inj hf
    subst e_
    exact hretn rfl _ _ dX8_townAt_19
  · have hf := it_n c_ hf
    refine lv_aload_n S.1 S.2.1 dX8_townAt_9 rfl (lv_at hl 0 rfl) ?_
    refine gfX8_31 S hK hP 0 rfl rfl dX8_townAt_10 ?_
    refine lv_iload_n S.1 S.2.1 dX8_townAt_13 rfl (lv_at hl 1 rfl) ?_
    by_cases hc2 : p1 = 0
    · have hf := it_p hc2 hf
      refine q_aald0 S hK hP 3 4 rfl rfl hc2 dX8_townAt_14 ?_
      refine lv_goto (tgt := 19) S.1 S.2.1 dX8_townAt_15 (by decide) ?_
      have e_ := Option.some.inj hf
      subst e_
      exact hret0 rfl _ _ dX8_townAt_19
    have hf := it_n hc2 hf
    by_cases hc3 : p1 = 1
    · have hf := it_p hc3 hf
      refine q_aald1 S hK hP 3 4 rfl rfl hc3 dX8_townAt_14 ?_
      refine lv_goto (tgt := 19) S.1 S.2.1 dX8_townAt_15 (by decide) ?_
      have e_ := Option.some.inj hf
      subst e_
      exact hret1 rfl _ _ dX8_townAt_19
    have hf := it_n hc3 hf
    cases hf
def f_X8_weekAt (fu : Nat) (o_counts : (Nat → Int32)) (p1 : Int32) : Option (Int32) := bnd (α := Int32) (f_X8_holds fu o_counts (1 : Int32) p1) (fun x1 => if x1 = 0 then some (-1 : Int32) else if p1 = 0 then some (0 : Int32) else if p1 = 1 then some (1 : Int32) else none)
set_option maxHeartbeats 4000000 in
set_option maxRecDepth 100000 in
theorem c_X8_weekAt {l : Launch} {D : va_G} {g : Nat → ClassId} {fu : Nat} {o_q0 o_q1 o_q2 o_q3 o_towns0_q0 o_towns0_q1 o_towns0_q2 o_towns0_q3 o_towns0_q4 o_towns1_q0 o_towns1_q1 o_towns1_q2 o_towns1_q3 o_towns1_q4 o_q4 o_weeks0_q0 o_weeks0_q1 o_weeks1_q0 o_weeks1_q1 o_q5 o_logs0_q0 o_logs0_q1 o_logs1_q0 o_logs1_q1 : Nat} {o_tape : (Nat → Int32)} {o_length : Int32} {o_fault : Int32} {o_place : Int32} {o_counts : (Nat → Int32)} {o_towns0_people : Int32} {o_towns0_wit : (Nat → Int32)} {o_towns0_purse : (Nat → Int32)} {o_towns0_hated : (Nat → Int32)} {o_towns0_owed : (Nat → Int32)} {o_towns1_people : Int32} {o_towns1_wit : (Nat → Int32)} {o_towns1_purse : (Nat → Int32)} {o_towns1_hated : (Nat → Int32)} {o_towns1_owed : (Nat → Int32)} {o_weeks0_deeds : Int32} {o_weeks0_cells : (Nat → Int32)} {o_weeks1_deeds : Int32} {o_weeks1_cells : (Nat → Int32)} {o_logs0_facts : Int32} {o_logs0_cells : (Nat → Int32)} {o_logs1_facts : Int32} {o_logs1_cells : (Nat → Int32)} {p1 : Int32} {r : Int32} (hf : f_X8_weekAt fu o_counts p1 = some r) : Rd l D (gy g) yX8_weekAt cX8_weekAt 2 (some (.object "KeptCompany$Week")) 1 [.ref o_q0, .int p1] (wTo g o_q0 o_q1 o_q2 o_q3 o_towns0_q0 o_towns0_q1 o_towns0_q2 o_towns0_q3 o_towns0_q4 o_towns1_q0 o_towns1_q1 o_towns1_q2 o_towns1_q3 o_towns1_q4 o_q4 o_weeks0_q0 o_weeks0_q1 o_weeks1_q0 o_weeks1_q1 o_q5 o_logs0_q0 o_logs0_q1 o_logs1_q0 o_logs1_q1 o_tape o_length o_fault o_place o_counts o_towns0_people o_towns0_wit o_towns0_purse o_towns0_hated o_towns0_owed o_towns1_people o_towns1_wit o_towns1_purse o_towns1_hated o_towns1_owed o_weeks0_deeds o_weeks0_cells o_weeks1_deeds o_weeks1_cells o_logs0_facts o_logs0_cells o_logs1_facts o_logs1_cells) (some (va_rf (sel2 o_weeks0_q0 o_weeks1_q0 r))) := by
  refine Rd.ofA (by decide) (Nat.le_of_ble_eq_true rfl) ?_
  intro p e s m args below meth c Q S hK hP hret0 hret1 hretn ls hl
  have hl : lv_has ls 2 [(0, .ref o_q0), (1, .int p1)] := hl
  refine lv_aload_n S.1 S.2.1 dX8_weekAt_0 rfl (lv_at hl 0 rfl) ?_
  refine lv_iconst (v := 1) S.1 S.2.1 dX8_weekAt_1 ic_1 ?_
  refine lv_iload_n S.1 S.2.1 dX8_weekAt_2 rfl (lv_at hl 1 rfl) ?_
  obtain ⟨x1, hx1, hf⟩ := bnd_e hf
  refine Rd.cV (c_X8_holds hx1) S hK hP 0 6 rfl rfl kVX8_50 rfl hl.1 [] rfl (Nat.le_of_ble_eq_true rfl) ⟨(Nat.le_of_ble_eq_true rfl), (Nat.le_of_ble_eq_true rfl)⟩ ⟨(Nat.zero_le _), (Nat.zero_le _)⟩ dX8_weekAt_3 ?_
  refine lv_if_eq (tgt := 18) S.1 S.2.1 dX8_weekAt_6 (by decide) (fun c_ => ?_) (fun c_ => ?_)
  · have hf := it_p c_ hf
    refine lv_null S.1 S.2.1 dX8_weekAt_18 ?_
    have e_ := Option.some.inj hf
    subst e_
    exact hretn rfl _ _ dX8_weekAt_19
  · have hf := it_n c_ hf
    refine lv_aload_n S.1 S.2.1 dX8_weekAt_9 rfl (lv_at hl 0 rfl) ?_
    refine gfX8_37 S hK hP 0 rfl rfl dX8_weekAt_10 ?_
    refine lv_iload_n S.1 S.2.1 dX8_weekAt_13 rfl (lv_at hl 1 rfl) ?_
    by_cases hc2 : p1 = 0
    · have hf := it_p hc2 hf
      refine q_aald0 S hK hP 14 5 rfl rfl hc2 dX8_weekAt_14 ?_
      refine lv_goto (tgt := 19) S.1 S.2.1 dX8_weekAt_15 (by decide) ?_
      have e_ := Option.some.inj hf
      subst e_
      exact hret0 rfl _ _ dX8_weekAt_19
    have hf := it_n hc2 hf
    by_cases hc3 : p1 = 1
    · have hf := it_p hc3 hf
      refine q_aald1 S hK hP 14 5 rfl rfl hc3 dX8_weekAt_14 ?_
      refine lv_goto (tgt := 19) S.1 S.2.1 dX8_weekAt_15 (by decide) ?_
      have e_ := Option.some.inj hf
      subst e_
      exact hret1 rfl _ _ dX8_weekAt_19
    have hf := it_n hc3 hf
    cases hf
def f_X8_logAt (fu : Nat) (o_counts : (Nat → Int32)) (p1 : Int32) : Option (Int32) := bnd (α := Int32) (f_X8_holds fu o_counts (2 : Int32) p1) (fun x1 => if x1 = 0 then some (-1 : Int32) else if p1 = 0 then some (0 : Int32) else if p1 = 1 then some (1 : Int32) else none)
set_option maxHeartbeats 4000000 in
set_option maxRecDepth 100000 in
theorem c_X8_logAt {l : Launch} {D : va_G} {g : Nat → ClassId} {fu : Nat} {o_q0 o_q1 o_q2 o_q3 o_towns0_q0 o_towns0_q1 o_towns0_q2 o_towns0_q3 o_towns0_q4 o_towns1_q0 o_towns1_q1 o_towns1_q2 o_towns1_q3 o_towns1_q4 o_q4 o_weeks0_q0 o_weeks0_q1 o_weeks1_q0 o_weeks1_q1 o_q5 o_logs0_q0 o_logs0_q1 o_logs1_q0 o_logs1_q1 : Nat} {o_tape : (Nat → Int32)} {o_length : Int32} {o_fault : Int32} {o_place : Int32} {o_counts : (Nat → Int32)} {o_towns0_people : Int32} {o_towns0_wit : (Nat → Int32)} {o_towns0_purse : (Nat → Int32)} {o_towns0_hated : (Nat → Int32)} {o_towns0_owed : (Nat → Int32)} {o_towns1_people : Int32} {o_towns1_wit : (Nat → Int32)} {o_towns1_purse : (Nat → Int32)} {o_towns1_hated : (Nat → Int32)} {o_towns1_owed : (Nat → Int32)} {o_weeks0_deeds : Int32} {o_weeks0_cells : (Nat → Int32)} {o_weeks1_deeds : Int32} {o_weeks1_cells : (Nat → Int32)} {o_logs0_facts : Int32} {o_logs0_cells : (Nat → Int32)} {o_logs1_facts : Int32} {o_logs1_cells : (Nat → Int32)} {p1 : Int32} {r : Int32} (hf : f_X8_logAt fu o_counts p1 = some r) : Rd l D (gy g) yX8_logAt cX8_logAt 2 (some (.object "KeptCompany$Log")) 1 [.ref o_q0, .int p1] (wTo g o_q0 o_q1 o_q2 o_q3 o_towns0_q0 o_towns0_q1 o_towns0_q2 o_towns0_q3 o_towns0_q4 o_towns1_q0 o_towns1_q1 o_towns1_q2 o_towns1_q3 o_towns1_q4 o_q4 o_weeks0_q0 o_weeks0_q1 o_weeks1_q0 o_weeks1_q1 o_q5 o_logs0_q0 o_logs0_q1 o_logs1_q0 o_logs1_q1 o_tape o_length o_fault o_place o_counts o_towns0_people o_towns0_wit o_towns0_purse o_towns0_hated o_towns0_owed o_towns1_people o_towns1_wit o_towns1_purse o_towns1_hated o_towns1_owed o_weeks0_deeds o_weeks0_cells o_weeks1_deeds o_weeks1_cells o_logs0_facts o_logs0_cells o_logs1_facts o_logs1_cells) (some (va_rf (sel2 o_logs0_q0 o_logs1_q0 r))) := by
  refine Rd.ofA (by decide) (Nat.le_of_ble_eq_true rfl) ?_
  intro p e s m args below meth c Q S hK hP hret0 hret1 hretn ls hl
  have hl : lv_has ls 2 [(0, .ref o_q0), (1, .int p1)] := hl
  refine lv_aload_n S.1 S.2.1 dX8_logAt_0 rfl (lv_at hl 0 rfl) ?_
  refine lv_iconst (v := 2) S.1 S.2.1 dX8_logAt_1 ic_2 ?_
  refine lv_iload_n S.1 S.2.1 dX8_logAt_2 rfl (lv_at hl 1 rfl) ?_
  obtain ⟨x1, hx1, hf⟩ := bnd_e hf
  refine Rd.cV (c_X8_holds hx1) S hK hP 0 6 rfl rfl kVX8_50 rfl hl.1 [] rfl (Nat.le_of_ble_eq_true rfl) ⟨(Nat.le_of_ble_eq_true rfl), (Nat.le_of_ble_eq_true rfl)⟩ ⟨(Nat.zero_le _), (Nat.zero_le _)⟩ dX8_logAt_3 ?_
  refine lv_if_eq (tgt := 18) S.1 S.2.1 dX8_logAt_6 (by decide) (fun c_ => ?_) (fun c_ => ?_)
  · have hf := it_p c_ hf
    refine lv_null S.1 S.2.1 dX8_logAt_18 ?_
    have e_ := Option.some.inj hf
    subst e_
    exact hretn rfl _ _ dX8_logAt_19
  · have hf := it_n c_ hf
    refine lv_aload_n S.1 S.2.1 dX8_logAt_9 rfl (lv_at hl 0 rfl) ?_
    refine gfX8_43 S hK hP 0 rfl rfl dX8_logAt_10 ?_
    refine lv_iload_n S.1 S.2.1 dX8_logAt_13 rfl (lv_at hl 1 rfl) ?_
    by_cases hc2 : p1 = 0
    · have hf := it_p hc2 hf
      refine q_aald0 S hK hP 19 6 rfl rfl hc2 dX8_logAt_14 ?_
      refine lv_goto (tgt := 19) S.1 S.2.1 dX8_logAt_15 (by decide) ?_
      have e_ := Option.some.inj hf
      subst e_
      exact hret0 rfl _ _ dX8_logAt_19
    have hf := it_n hc2 hf
    by_cases hc3 : p1 = 1
    · have hf := it_p hc3 hf
      refine q_aald1 S hK hP 19 6 rfl rfl hc3 dX8_logAt_14 ?_
      refine lv_goto (tgt := 19) S.1 S.2.1 dX8_logAt_15 (by decide) ?_
      have e_ := Option.some.inj hf
      subst e_
      exact hret1 rfl _ _ dX8_logAt_19
    have hf := it_n hc3 hf
    cases hf
def f_X8_hasPlaceFor (fu : Nat) (o_counts : (Nat → Int32)) (p1 : Int32) (p2 : Int32) : Option (Int32) := if p1 < 0 then some (0 : Int32) else if p1 ≤ (2 : Int32) then if p2 = (-1 : Int32) then bnd (α := Int32) (rdi 3 o_counts p1) (fun x1 => if (2 : Int32) ≤ x1 then some (0 : Int32) else some (1 : Int32)) else bnd (α := Int32) (f_X8_holds fu o_counts p1 p2) (fun x2 => bnd (α := Int32) (bz x2) (fun z3 => some z3)) else some (0 : Int32)
set_option maxHeartbeats 4000000 in
set_option maxRecDepth 100000 in
theorem c_X8_hasPlaceFor {l : Launch} {D : va_G} {g : Nat → ClassId} {fu : Nat} {o_q0 o_q1 o_q2 o_q3 o_towns0_q0 o_towns0_q1 o_towns0_q2 o_towns0_q3 o_towns0_q4 o_towns1_q0 o_towns1_q1 o_towns1_q2 o_towns1_q3 o_towns1_q4 o_q4 o_weeks0_q0 o_weeks0_q1 o_weeks1_q0 o_weeks1_q1 o_q5 o_logs0_q0 o_logs0_q1 o_logs1_q0 o_logs1_q1 : Nat} {o_tape : (Nat → Int32)} {o_length : Int32} {o_fault : Int32} {o_place : Int32} {o_counts : (Nat → Int32)} {o_towns0_people : Int32} {o_towns0_wit : (Nat → Int32)} {o_towns0_purse : (Nat → Int32)} {o_towns0_hated : (Nat → Int32)} {o_towns0_owed : (Nat → Int32)} {o_towns1_people : Int32} {o_towns1_wit : (Nat → Int32)} {o_towns1_purse : (Nat → Int32)} {o_towns1_hated : (Nat → Int32)} {o_towns1_owed : (Nat → Int32)} {o_weeks0_deeds : Int32} {o_weeks0_cells : (Nat → Int32)} {o_weeks1_deeds : Int32} {o_weeks1_cells : (Nat → Int32)} {o_logs0_facts : Int32} {o_logs0_cells : (Nat → Int32)} {o_logs1_facts : Int32} {o_logs1_cells : (Nat → Int32)} {p1 : Int32} {p2 : Int32} {r : Int32} (hf : f_X8_hasPlaceFor fu o_counts p1 p2 = some r) : Rd l D (gy g) yX8_hasPlaceFor cX8_hasPlaceFor 3 (some .boolean) 1 [.ref o_q0, .int p1, .int p2] (wTo g o_q0 o_q1 o_q2 o_q3 o_towns0_q0 o_towns0_q1 o_towns0_q2 o_towns0_q3 o_towns0_q4 o_towns1_q0 o_towns1_q1 o_towns1_q2 o_towns1_q3 o_towns1_q4 o_q4 o_weeks0_q0 o_weeks0_q1 o_weeks1_q0 o_weeks1_q1 o_q5 o_logs0_q0 o_logs0_q1 o_logs1_q0 o_logs1_q1 o_tape o_length o_fault o_place o_counts o_towns0_people o_towns0_wit o_towns0_purse o_towns0_hated o_towns0_owed o_towns1_people o_towns1_wit o_towns1_purse o_towns1_hated o_towns1_owed o_weeks0_deeds o_weeks0_cells o_weeks1_deeds o_weeks1_cells o_logs0_facts o_logs0_cells o_logs1_facts o_logs1_cells) (some (.int r)) := by
  refine Rd.ofZ (by decide) (Nat.le_of_ble_eq_true rfl) ?_
  intro p e s m args below meth c Q S hK hP hret ls hl
  have hl : lv_has ls 3 [(0, .ref o_q0), (1, .int p1), (2, .int p2)] := hl
  refine lv_iload_n S.1 S.2.1 dX8_hasPlaceFor_0 rfl (lv_at hl 1 rfl) ?_
  refine lv_if_lt (tgt := 9) S.1 S.2.1 dX8_hasPlaceFor_1 (by decide) (fun c_ => ?_) (fun c_ => ?_)
  · have hf := it_p c_ hf
    refine lv_iconst (v := 0) S.1 S.2.1 dX8_hasPlaceFor_9 ic_0 ?_
    have e_ := Option.some.inj hf
    subst e_
    exact hret _ _ (Or.inl rfl) dX8_hasPlaceFor_10
  · have hf := it_n c_ hf
    refine lv_iload_n S.1 S.2.1 dX8_hasPlaceFor_4 rfl (lv_at hl 1 rfl) ?_
    refine lv_iconst (v := 2) S.1 S.2.1 dX8_hasPlaceFor_5 ic_2 ?_
    refine lv_icmp_le (tgt := 11) S.1 S.2.1 dX8_hasPlaceFor_6 (by decide) (fun c_ => ?_) (fun c_ => ?_)
    · have hf := it_p c_ hf
      refine lv_iload_n S.1 S.2.1 dX8_hasPlaceFor_11 rfl (lv_at hl 2 rfl) ?_
      refine lv_iconst (v := (-1)) S.1 S.2.1 dX8_hasPlaceFor_12 ic_m1 ?_
      refine lv_icmp_ne (tgt := 34) S.1 S.2.1 dX8_hasPlaceFor_13 (by decide) (fun c_ => ?_) (fun c_ => ?_)
      · have hf := it_n c_ hf
        refine lv_aload_n S.1 S.2.1 dX8_hasPlaceFor_34 rfl (lv_at hl 0 rfl) ?_
        refine lv_iload_n S.1 S.2.1 dX8_hasPlaceFor_35 rfl (lv_at hl 1 rfl) ?_
        refine lv_iload_n S.1 S.2.1 dX8_hasPlaceFor_36 rfl (lv_at hl 2 rfl) ?_
        obtain ⟨x2, hx2, hf⟩ := bnd_e hf
        refine Rd.cV (c_X8_holds hx2) S hK hP 0 6 rfl rfl kVX8_50 rfl hl.1 [] rfl (Nat.le_of_ble_eq_true rfl) ⟨(Nat.le_of_ble_eq_true rfl), (Nat.le_of_ble_eq_true rfl)⟩ ⟨(Nat.zero_le _), (Nat.zero_le _)⟩ dX8_hasPlaceFor_37 ?_
        obtain ⟨z3, hz3, hf⟩ := bnd_e hf
        obtain ⟨hzz3, ezz3⟩ := bz_e hz3
        rw [ezz3]
        have e_ := Option.some.inj hf
        subst e_
        exact hret _ _ hzz3 dX8_hasPlaceFor_40
      · have hf := it_p c_ hf
        refine lv_aload_n S.1 S.2.1 dX8_hasPlaceFor_16 rfl (lv_at hl 0 rfl) ?_
        refine gfX8_25 S hK hP 0 rfl rfl dX8_hasPlaceFor_17 ?_
        refine lv_iload_n S.1 S.2.1 dX8_hasPlaceFor_20 rfl (lv_at hl 1 rfl) ?_
        obtain ⟨x1, hx1, hf⟩ := bnd_e hf
        refine q_iald S hK hP 2 0 rfl rfl hx1 dX8_hasPlaceFor_21 ?_
        refine lv_iconst (v := 2) S.1 S.2.1 dX8_hasPlaceFor_22 ic_2 ?_
        refine lv_icmp_ge (tgt := 30) S.1 S.2.1 dX8_hasPlaceFor_23 (by decide) (fun c_ => ?_) (fun c_ => ?_)
        · have hf := it_p c_ hf
          refine lv_iconst (v := 0) S.1 S.2.1 dX8_hasPlaceFor_30 ic_0 ?_
          refine lv_goto (tgt := 40) S.1 S.2.1 dX8_hasPlaceFor_31 (by decide) ?_
          have e_ := Option.some.inj hf
          subst e_
          exact hret _ _ (Or.inl rfl) dX8_hasPlaceFor_40
        · have hf := it_n c_ hf
          refine lv_iconst (v := 1) S.1 S.2.1 dX8_hasPlaceFor_26 ic_1 ?_
          refine lv_goto (tgt := 40) S.1 S.2.1 dX8_hasPlaceFor_27 (by decide) ?_
          have e_ := Option.some.inj hf
          subst e_
          exact hret _ _ (Or.inr rfl) dX8_hasPlaceFor_40
    · have hf := it_n c_ hf
      refine lv_iconst (v := 0) S.1 S.2.1 dX8_hasPlaceFor_9 ic_0 ?_
      have e_ := Option.some.inj hf
      subst e_
      exact hret _ _ (Or.inl rfl) dX8_hasPlaceFor_10
def f_X8_take (fu : Nat) (o_counts : (Nat → Int32)) (o_towns0_people : Int32) (o_towns0_wit : (Nat → Int32)) (o_towns0_purse : (Nat → Int32)) (o_towns0_hated : (Nat → Int32)) (o_towns0_owed : (Nat → Int32)) (o_towns1_people : Int32) (o_towns1_wit : (Nat → Int32)) (o_towns1_purse : (Nat → Int32)) (o_towns1_hated : (Nat → Int32)) (o_towns1_owed : (Nat → Int32)) (o_weeks0_deeds : Int32) (o_weeks0_cells : (Nat → Int32)) (o_weeks1_deeds : Int32) (o_weeks1_cells : (Nat → Int32)) (o_logs0_facts : Int32) (o_logs0_cells : (Nat → Int32)) (o_logs1_facts : Int32) (o_logs1_cells : (Nat → Int32)) (p3_town_people : Int32) (p3_town_wit : (Nat → Int32)) (p3_town_purse : (Nat → Int32)) (p3_town_hated : (Nat → Int32)) (p3_town_owed : (Nat → Int32)) (p3_week_deeds : Int32) (p3_week_cells : (Nat → Int32)) (p3_log_facts : Int32) (p3_log_cells : (Nat → Int32)) (p1 : Int32) (p2 : Int32) : Option (Int32 × (Nat → Int32) × Int32 × (Nat → Int32) × (Nat → Int32) × (Nat → Int32) × (Nat → Int32) × Int32 × (Nat → Int32) × (Nat → Int32) × (Nat → Int32) × (Nat → Int32) × Int32 × (Nat → Int32) × Int32 × (Nat → Int32) × Int32 × (Nat → Int32) × Int32 × (Nat → Int32)) := bnd (α := Int32) (f_X8_hasPlaceFor fu o_counts p1 p2) (fun x1 => if x1 = 0 then some ((-2 : Int32), o_counts, o_towns0_people, o_towns0_wit, o_towns0_purse, o_towns0_hated, o_towns0_owed, o_towns1_people, o_towns1_wit, o_towns1_purse, o_towns1_hated, o_towns1_owed, o_weeks0_deeds, o_weeks0_cells, o_weeks1_deeds, o_weeks1_cells, o_logs0_facts, o_logs0_cells, o_logs1_facts, o_logs1_cells) else bnd (α := Int32 × (Nat → Int32)) (if p2 = (-1 : Int32) then bnd (α := Int32) (rdi 3 o_counts p1) (fun x16 => bnd (α := Int32) (rdi 3 o_counts p1) (fun x17 => ltn (x17 + (1 : Int32)) (fun x18 => bnd (α := (Nat → Int32)) (wri 3 o_counts p1 x18) (fun x19 => some (x16, x19))))) else some (p2, o_counts)) (fun v3 => if p1 = 0 then if v3.1 = 0 then bnd (α := Int32 × (Nat → Int32) × (Nat → Int32) × (Nat → Int32) × (Nat → Int32)) (f_X9_copy fu o_towns0_people o_towns0_wit o_towns0_purse o_towns0_hated o_towns0_owed p3_town_people p3_town_wit p3_town_purse p3_town_hated p3_town_owed) (fun x5 => some (v3.1, v3.2, x5.1, x5.2.1, x5.2.2.1, x5.2.2.2.1, x5.2.2.2.2, o_towns1_people, o_towns1_wit, o_towns1_purse, o_towns1_hated, o_towns1_owed, o_weeks0_deeds, o_weeks0_cells, o_weeks1_deeds, o_weeks1_cells, o_logs0_facts, o_logs0_cells, o_logs1_facts, o_logs1_cells)) else if v3.1 = 1 then bnd (α := Int32 × (Nat → Int32) × (Nat → Int32) × (Nat → Int32) × (Nat → Int32)) (f_X9_copy fu o_towns1_people o_towns1_wit o_towns1_purse o_towns1_hated o_towns1_owed p3_town_people p3_town_wit p3_town_purse p3_town_hated p3_town_owed) (fun x7 => some (v3.1, v3.2, o_towns0_people, o_towns0_wit, o_towns0_purse, o_towns0_hated, o_towns0_owed, x7.1, x7.2.1, x7.2.2.1, x7.2.2.2.1, x7.2.2.2.2, o_weeks0_deeds, o_weeks0_cells, o_weeks1_deeds, o_weeks1_cells, o_logs0_facts, o_logs0_cells, o_logs1_facts, o_logs1_cells)) else none else if p1 = (1 : Int32) then if v3.1 = 0 then bnd (α := Int32 × (Nat → Int32)) (f_X10_copy fu o_weeks0_deeds o_weeks0_cells p3_week_deeds p3_week_cells) (fun x9 => some (v3.1, v3.2, o_towns0_people, o_towns0_wit, o_towns0_purse, o_towns0_hated, o_towns0_owed, o_towns1_people, o_towns1_wit, o_towns1_purse, o_towns1_hated, o_towns1_owed, x9.1, x9.2, o_weeks1_deeds, o_weeks1_cells, o_logs0_facts, o_logs0_cells, o_logs1_facts, o_logs1_cells)) else if v3.1 = 1 then bnd (α := Int32 × (Nat → Int32)) (f_X10_copy fu o_weeks1_deeds o_weeks1_cells p3_week_deeds p3_week_cells) (fun x11 => some (v3.1, v3.2, o_towns0_people, o_towns0_wit, o_towns0_purse, o_towns0_hated, o_towns0_owed, o_towns1_people, o_towns1_wit, o_towns1_purse, o_towns1_hated, o_towns1_owed, o_weeks0_deeds, o_weeks0_cells, x11.1, x11.2, o_logs0_facts, o_logs0_cells, o_logs1_facts, o_logs1_cells)) else none else if v3.1 = 0 then bnd (α := Int32 × (Nat → Int32)) (f_X2_copy fu o_logs0_facts o_logs0_cells p3_log_facts p3_log_cells) (fun x13 => some (v3.1, v3.2, o_towns0_people, o_towns0_wit, o_towns0_purse, o_towns0_hated, o_towns0_owed, o_towns1_people, o_towns1_wit, o_towns1_purse, o_towns1_hated, o_towns1_owed, o_weeks0_deeds, o_weeks0_cells, o_weeks1_deeds, o_weeks1_cells, x13.1, x13.2, o_logs1_facts, o_logs1_cells)) else if v3.1 = 1 then bnd (α := Int32 × (Nat → Int32)) (f_X2_copy fu o_logs1_facts o_logs1_cells p3_log_facts p3_log_cells) (fun x15 => some (v3.1, v3.2, o_towns0_people, o_towns0_wit, o_towns0_purse, o_towns0_hated, o_towns0_owed, o_towns1_people, o_towns1_wit, o_towns1_purse, o_towns1_hated, o_towns1_owed, o_weeks0_deeds, o_weeks0_cells, o_weeks1_deeds, o_weeks1_cells, o_logs0_facts, o_logs0_cells, x15.1, x15.2)) else none))
set_option maxHeartbeats 4000000 in
set_option maxRecDepth 100000 in
theorem c_X8_take {l : Launch} {D : va_G} {g : Nat → ClassId} {fu : Nat} {o_q0 o_q1 o_q2 o_q3 o_towns0_q0 o_towns0_q1 o_towns0_q2 o_towns0_q3 o_towns0_q4 o_towns1_q0 o_towns1_q1 o_towns1_q2 o_towns1_q3 o_towns1_q4 o_q4 o_weeks0_q0 o_weeks0_q1 o_weeks1_q0 o_weeks1_q1 o_q5 o_logs0_q0 o_logs0_q1 o_logs1_q0 o_logs1_q1 p3_q0 p3_town_q0 p3_town_q1 p3_town_q2 p3_town_q3 p3_town_q4 p3_week_q0 p3_week_q1 p3_log_q0 p3_log_q1 p3_q1 p3_tq : Nat} {o_tape : (Nat → Int32)} {o_length : Int32} {o_fault : Int32} {o_place : Int32} {o_counts : (Nat → Int32)} {o_towns0_people : Int32} {o_towns0_wit : (Nat → Int32)} {o_towns0_purse : (Nat → Int32)} {o_towns0_hated : (Nat → Int32)} {o_towns0_owed : (Nat → Int32)} {o_towns1_people : Int32} {o_towns1_wit : (Nat → Int32)} {o_towns1_purse : (Nat → Int32)} {o_towns1_hated : (Nat → Int32)} {o_towns1_owed : (Nat → Int32)} {o_weeks0_deeds : Int32} {o_weeks0_cells : (Nat → Int32)} {o_weeks1_deeds : Int32} {o_weeks1_cells : (Nat → Int32)} {o_logs0_facts : Int32} {o_logs0_cells : (Nat → Int32)} {o_logs1_facts : Int32} {o_logs1_cells : (Nat → Int32)} {p3_town_people : Int32} {p3_town_wit : (Nat → Int32)} {p3_town_purse : (Nat → Int32)} {p3_town_hated : (Nat → Int32)} {p3_town_owed : (Nat → Int32)} {p3_week_deeds : Int32} {p3_week_cells : (Nat → Int32)} {p3_log_facts : Int32} {p3_log_cells : (Nat → Int32)} {p3_fault : Int32} {p3_place : Int32} {p3_numbers : (Nat → Int32)} {p3_length : Int32} {p3_next : Int32} {p3_start : Int32} {p3_token : Int32} {p3_value : Int32} {p3_toldOf : Int32} {p1 : Int32} {p2 : Int32} {r : Int32 × (Nat → Int32) × Int32 × (Nat → Int32) × (Nat → Int32) × (Nat → Int32) × (Nat → Int32) × Int32 × (Nat → Int32) × (Nat → Int32) × (Nat → Int32) × (Nat → Int32) × Int32 × (Nat → Int32) × Int32 × (Nat → Int32) × Int32 × (Nat → Int32) × Int32 × (Nat → Int32)} (hf : f_X8_take fu o_counts o_towns0_people o_towns0_wit o_towns0_purse o_towns0_hated o_towns0_owed o_towns1_people o_towns1_wit o_towns1_purse o_towns1_hated o_towns1_owed o_weeks0_deeds o_weeks0_cells o_weeks1_deeds o_weeks1_cells o_logs0_facts o_logs0_cells o_logs1_facts o_logs1_cells p3_town_people p3_town_wit p3_town_purse p3_town_hated p3_town_owed p3_week_deeds p3_week_cells p3_log_facts p3_log_cells p1 p2 = some r) : Wr l D (gy g) yX8_take cX8_take 5 (some .int) 2 [.ref o_q0, .int p1, .int p2, .ref p3_q0] (wTo g o_q0 o_q1 o_q2 o_q3 o_towns0_q0 o_towns0_q1 o_towns0_q2 o_towns0_q3 o_towns0_q4 o_towns1_q0 o_towns1_q1 o_towns1_q2 o_towns1_q3 o_towns1_q4 o_q4 o_weeks0_q0 o_weeks0_q1 o_weeks1_q0 o_weeks1_q1 o_q5 o_logs0_q0 o_logs0_q1 o_logs1_q0 o_logs1_q1 o_tape o_length o_fault o_place o_counts o_towns0_people o_towns0_wit o_towns0_purse o_towns0_hated o_towns0_owed o_towns1_people o_towns1_wit o_towns1_purse o_towns1_hated o_towns1_owed o_weeks0_deeds o_weeks0_cells o_weeks1_deeds o_weeks1_cells o_logs0_facts o_logs0_cells o_logs1_facts o_logs1_cells ++ wRet g p3_q0 p3_town_q0 p3_town_q1 p3_town_q2 p3_town_q3 p3_town_q4 p3_week_q0 p3_week_q1 p3_log_q0 p3_log_q1 p3_q1 p3_tq p3_town_people p3_town_wit p3_town_purse p3_town_hated p3_town_owed p3_week_deeds p3_week_cells p3_log_facts p3_log_cells p3_fault p3_place p3_numbers p3_length p3_next p3_start p3_token p3_value p3_toldOf) (wTo g o_q0 o_q1 o_q2 o_q3 o_towns0_q0 o_towns0_q1 o_towns0_q2 o_towns0_q3 o_towns0_q4 o_towns1_q0 o_towns1_q1 o_towns1_q2 o_towns1_q3 o_towns1_q4 o_q4 o_weeks0_q0 o_weeks0_q1 o_weeks1_q0 o_weeks1_q1 o_q5 o_logs0_q0 o_logs0_q1 o_logs1_q0 o_logs1_q1 o_tape o_length o_fault o_place r.2.1 r.2.2.1 r.2.2.2.1 r.2.2.2.2.1 r.2.2.2.2.2.1 r.2.2.2.2.2.2.1 r.2.2.2.2.2.2.2.1 r.2.2.2.2.2.2.2.2.1 r.2.2.2.2.2.2.2.2.2.1 r.2.2.2.2.2.2.2.2.2.2.1 r.2.2.2.2.2.2.2.2.2.2.2.1 r.2.2.2.2.2.2.2.2.2.2.2.2.1 r.2.2.2.2.2.2.2.2.2.2.2.2.2.1 r.2.2.2.2.2.2.2.2.2.2.2.2.2.2.1 r.2.2.2.2.2.2.2.2.2.2.2.2.2.2.2.1 r.2.2.2.2.2.2.2.2.2.2.2.2.2.2.2.2.1 r.2.2.2.2.2.2.2.2.2.2.2.2.2.2.2.2.2.1 r.2.2.2.2.2.2.2.2.2.2.2.2.2.2.2.2.2.2.1 r.2.2.2.2.2.2.2.2.2.2.2.2.2.2.2.2.2.2.2 ++ wRet g p3_q0 p3_town_q0 p3_town_q1 p3_town_q2 p3_town_q3 p3_town_q4 p3_week_q0 p3_week_q1 p3_log_q0 p3_log_q1 p3_q1 p3_tq p3_town_people p3_town_wit p3_town_purse p3_town_hated p3_town_owed p3_week_deeds p3_week_cells p3_log_facts p3_log_cells p3_fault p3_place p3_numbers p3_length p3_next p3_start p3_token p3_value p3_toldOf) (some (.int r.1)) := by
  refine Wr.ofI (by decide) (Nat.le_of_ble_eq_true rfl) ?_
  intro p e s m args below meth c Q A S hK hA hret ls hl hW
  have hl : lv_has ls 5 [(0, .ref o_q0), (1, .int p1), (2, .int p2), (3, .ref p3_q0)] := hl
  refine lv_aload_n S.1 S.2.1 dX8_take_0 rfl (lv_at hl 0 rfl) ?_
  refine lv_iload_n S.1 S.2.1 dX8_take_1 rfl (lv_at hl 1 rfl) ?_
  refine lv_iload_n S.1 S.2.1 dX8_take_2 rfl (lv_at hl 2 rfl) ?_
  obtain ⟨x1, hx1, hf⟩ := bnd_e hf
  refine Rd.cV (c_X8_hasPlaceFor hx1) S hK (hW.1.sub (ws' := (wTo g o_q0 o_q1 o_q2 o_q3 o_towns0_q0 o_towns0_q1 o_towns0_q2 o_towns0_q3 o_towns0_q4 o_towns1_q0 o_towns1_q1 o_towns1_q2 o_towns1_q3 o_towns1_q4 o_q4 o_weeks0_q0 o_weeks0_q1 o_weeks1_q0 o_weeks1_q1 o_q5 o_logs0_q0 o_logs0_q1 o_logs1_q0 o_logs1_q1 o_tape o_length o_fault o_place o_counts o_towns0_people o_towns0_wit o_towns0_purse o_towns0_hated o_towns0_owed o_towns1_people o_towns1_wit o_towns1_purse o_towns1_hated o_towns1_owed o_weeks0_deeds o_weeks0_cells o_weeks1_deeds o_weeks1_cells o_logs0_facts o_logs0_cells o_logs1_facts o_logs1_cells)) [0, 1, 2, 3, 4, 5, 6, 7, 8, 9, 10, 11, 12, 13, 14, 15, 16, 17, 18, 19, 20, 21, 22, 23] rfl) 0 6 rfl rfl kVX8_54 rfl hl.1 [] rfl (Nat.le_of_ble_eq_true rfl) ⟨(Nat.le_of_ble_eq_true rfl), (Nat.le_of_ble_eq_true rfl)⟩ ⟨(Nat.zero_le _), (Nat.zero_le _)⟩ dX8_take_3 ?_
  refine lv_if_ne (tgt := 12) S.1 S.2.1 dX8_take_6 (by decide) (fun c_ => ?_) (fun c_ => ?_)
  · have hf := it_n c_ hf
    refine lv_iload_n S.1 S.2.1 dX8_take_12 rfl (lv_at hl 2 rfl) ?_
    refine lv_istore (lv' := [(4, .int p2), (0, .ref o_q0), (1, .int p1), (2, .int p2), (3, .ref p3_q0)]) S.1 S.2.1 dX8_take_13 hl (by decide) rfl (fun ls hl => ?_)
    refine lv_iload_n S.1 S.2.1 dX8_take_15 rfl (lv_at hl 3 rfl) ?_
    refine lv_iconst (v := (-1)) S.1 S.2.1 dX8_take_16 ic_m1 ?_
    obtain ⟨x2, hf_, hk2⟩ := bnd_e hf
    have hJ2 : ∀ (v3 : Int32 × (Nat → Int32)), v3 = x2 → ∀ (ls : Array Slot) (H : Heap) (locs : List Loc), lv_has ls 5 [(0, .ref o_q0), (1, .int p1), (3, .ref p3_q0), (4, .int v3.1)] → St A s.heap D (wTo g o_q0 o_q1 o_q2 o_q3 o_towns0_q0 o_towns0_q1 o_towns0_q2 o_towns0_q3 o_towns0_q4 o_towns1_q0 o_towns1_q1 o_towns1_q2 o_towns1_q3 o_towns1_q4 o_q4 o_weeks0_q0 o_weeks0_q1 o_weeks1_q0 o_weeks1_q1 o_q5 o_logs0_q0 o_logs0_q1 o_logs1_q0 o_logs1_q1 o_tape o_length o_fault o_place v3.2 o_towns0_people o_towns0_wit o_towns0_purse o_towns0_hated o_towns0_owed o_towns1_people o_towns1_wit o_towns1_purse o_towns1_hated o_towns1_owed o_weeks0_deeds o_weeks0_cells o_weeks1_deeds o_weeks1_cells o_logs0_facts o_logs0_cells o_logs1_facts o_logs1_cells ++ wRet g p3_q0 p3_town_q0 p3_town_q1 p3_town_q2 p3_town_q3 p3_town_q4 p3_week_q0 p3_week_q1 p3_log_q0 p3_log_q1 p3_q1 p3_tq p3_town_people p3_town_wit p3_town_purse p3_town_hated p3_town_owed p3_week_deeds p3_week_cells p3_log_facts p3_log_cells p3_fault p3_place p3_numbers p3_length p3_next p3_start p3_token p3_value p3_toldOf) H locs → W p l e (rmD 2) s m args below meth c H locs 0 0 Q (F0 m 38 ls []) := by
      intro v3 e_ ls H locs hl hW
      subst e_
      have hf := hk2
      refine lv_iload_n S.1 S.2.1 dX8_take_38 rfl (lv_at hl 1 rfl) ?_
      refine lv_if_ne (tgt := 59) S.1 S.2.1 dX8_take_39 (by decide) (fun c_ => ?_) (fun c_ => ?_)
      · have hf := it_n c_ hf
        refine lv_iload_n S.1 S.2.1 dX8_take_59 rfl (lv_at hl 1 rfl) ?_
        refine lv_iconst (v := 1) S.1 S.2.1 dX8_take_60 ic_1 ?_
        refine lv_icmp_ne (tgt := 81) S.1 S.2.1 dX8_take_61 (by decide) (fun c_ => ?_) (fun c_ => ?_)
        · have hf := it_n c_ hf
          refine lv_aload_n S.1 S.2.1 dX8_take_81 rfl (lv_at hl 0 rfl) ?_
          refine gfX8_43 S hK hW.1 0 rfl rfl dX8_take_82 ?_
          refine lv_iload S.1 S.2.1 dX8_take_85 (lv_at hl 3 rfl) ?_
          by_cases hc12 : v3.1 = 0
          · have hf := it_p hc12 hf
            refine q_aald0 S hK hW.1 19 6 rfl rfl hc12 dX8_take_87 ?_
            refine lv_aload_n S.1 S.2.1 dX8_take_88 rfl (lv_at hl 2 rfl) ?_
            refine gfX8_74 S hK hW.1 24 rfl rfl dX8_take_89 ?_
            obtain ⟨x13, hx13, hf⟩ := bnd_e hf
            refine Wr.go (ws2 := (wTo g o_q0 o_q1 o_q2 o_q3 o_towns0_q0 o_towns0_q1 o_towns0_q2 o_towns0_q3 o_towns0_q4 o_towns1_q0 o_towns1_q1 o_towns1_q2 o_towns1_q3 o_towns1_q4 o_q4 o_weeks0_q0 o_weeks0_q1 o_weeks1_q0 o_weeks1_q1 o_q5 o_logs0_q0 o_logs0_q1 o_logs1_q0 o_logs1_q1 o_tape o_length o_fault o_place v3.2 o_towns0_people o_towns0_wit o_towns0_purse o_towns0_hated o_towns0_owed o_towns1_people o_towns1_wit o_towns1_purse o_towns1_hated o_towns1_owed o_weeks0_deeds o_weeks0_cells o_weeks1_deeds o_weeks1_cells x13.1 x13.2 o_logs1_facts o_logs1_cells ++ wRet g p3_q0 p3_town_q0 p3_town_q1 p3_town_q2 p3_town_q3 p3_town_q4 p3_week_q0 p3_week_q1 p3_log_q0 p3_log_q1 p3_q1 p3_tq p3_town_people p3_town_wit p3_town_purse p3_town_hated p3_town_owed p3_week_deeds p3_week_cells p3_log_facts p3_log_cells p3_fault p3_place p3_numbers p3_length p3_next p3_start p3_token p3_value p3_toldOf)) (Wr.runV (c_X2_copy hx13) S hK (hW.1.sub (ws' := (wLo g o_logs0_q0 o_logs0_q1 o_logs0_facts o_logs0_cells ++ wLo g p3_log_q0 p3_log_q1 p3_log_facts p3_log_cells)) [20, 21, 32, 33] rfl) (hW.2.1.sub (ws' := (wLo g o_logs0_q0 o_logs0_q1 o_logs0_facts o_logs0_cells ++ wLo g p3_log_q0 p3_log_q1 p3_log_facts p3_log_cells)) [20, 21, 32, 33] (by decide) rfl) 0 1 rfl rfl kVX8_78 rfl hl.1 [] rfl (Nat.le_of_ble_eq_true rfl) ⟨(Nat.le_of_ble_eq_true rfl), (Nat.le_of_ble_eq_true rfl)⟩ ⟨(Nat.zero_le _), (Nat.zero_le _)⟩ dX8_take_92) hW hA [20, 21, 32, 33] rfl [(false, 0), (false, 1), (false, 2), (false, 3), (false, 4), (false, 5), (false, 6), (false, 7), (false, 8), (false, 9), (false, 10), (false, 11), (false, 12), (false, 13), (false, 14), (false, 15), (false, 16), (false, 17), (false, 18), (false, 19), (true, 0), (true, 1), (false, 22), (false, 23), (false, 24), (false, 25), (false, 26), (false, 27), (false, 28), (false, 29), (false, 30), (false, 31), (true, 2), (true, 3), (false, 34)] rfl (by decide) rfl (fun H locs hW => ?_)
            refine lv_iload S.1 S.2.1 dX8_take_95 (lv_at hl 3 rfl) ?_
            have e_ := Option.some.inj hf
            subst e_
            exact hret _ _ _ _ dX8_take_97 hW
          have hf := it_n hc12 hf
          by_cases hc14 : v3.1 = 1
          · have hf := it_p hc14 hf
            refine q_aald1 S hK hW.1 19 6 rfl rfl hc14 dX8_take_87 ?_
            refine lv_aload_n S.1 S.2.1 dX8_take_88 rfl (lv_at hl 2 rfl) ?_
            refine gfX8_74 S hK hW.1 24 rfl rfl dX8_take_89 ?_
            obtain ⟨x15, hx15, hf⟩ := bnd_e hf
            refine Wr.go (ws2 := (wTo g o_q0 o_q1 o_q2 o_q3 o_towns0_q0 o_towns0_q1 o_towns0_q2 o_towns0_q3 o_towns0_q4 o_towns1_q0 o_towns1_q1 o_towns1_q2 o_towns1_q3 o_towns1_q4 o_q4 o_weeks0_q0 o_weeks0_q1 o_weeks1_q0 o_weeks1_q1 o_q5 o_logs0_q0 o_logs0_q1 o_logs1_q0 o_logs1_q1 o_tape o_length o_fault o_place v3.2 o_towns0_people o_towns0_wit o_towns0_purse o_towns0_hated o_towns0_owed o_towns1_people o_towns1_wit o_towns1_purse o_towns1_hated o_towns1_owed o_weeks0_deeds o_weeks0_cells o_weeks1_deeds o_weeks1_cells o_logs0_facts o_logs0_cells x15.1 x15.2 ++ wRet g p3_q0 p3_town_q0 p3_town_q1 p3_town_q2 p3_town_q3 p3_town_q4 p3_week_q0 p3_week_q1 p3_log_q0 p3_log_q1 p3_q1 p3_tq p3_town_people p3_town_wit p3_town_purse p3_town_hated p3_town_owed p3_week_deeds p3_week_cells p3_log_facts p3_log_cells p3_fault p3_place p3_numbers p3_length p3_next p3_start p3_token p3_value p3_toldOf)) (Wr.runV (c_X2_copy hx15) S hK (hW.1.sub (ws' := (wLo g o_logs1_q0 o_logs1_q1 o_logs1_facts o_logs1_cells ++ wLo g p3_log_q0 p3_log_q1 p3_log_facts p3_log_cells)) [22, 23, 32, 33] rfl) (hW.2.1.sub (ws' := (wLo g o_logs1_q0 o_logs1_q1 o_logs1_facts o_logs1_cells ++ wLo g p3_log_q0 p3_log_q1 p3_log_facts p3_log_cells)) [22, 23, 32, 33] (by decide) rfl) 0 1 rfl rfl kVX8_78 rfl hl.1 [] rfl (Nat.le_of_ble_eq_true rfl) ⟨(Nat.le_of_ble_eq_true rfl), (Nat.le_of_ble_eq_true rfl)⟩ ⟨(Nat.zero_le _), (Nat.zero_le _)⟩ dX8_take_92) hW hA [22, 23, 32, 33] rfl [(false, 0), (false, 1), (false, 2), (false, 3), (false, 4), (false, 5), (false, 6), (false, 7), (false, 8), (false, 9), (false, 10), (false, 11), (false, 12), (false, 13), (false, 14), (false, 15), (false, 16), (false, 17), (false, 18), (false, 19), (false, 20), (false, 21), (true, 0), (true, 1), (false, 24), (false, 25), (false, 26), (false, 27), (false, 28), (false, 29), (false, 30), (false, 31), (true, 2), (true, 3), (false, 34)] rfl (by decide) rfl (fun H locs hW => ?_)
            refine lv_iload S.1 S.2.1 dX8_take_95 (lv_at hl 3 rfl) ?_
            have e_ := Option.some.inj hf
            subst e_
            exact hret _ _ _ _ dX8_take_97 hW
          have hf := it_n hc14 hf
          cases hf
        · have hf := it_p c_ hf
          refine lv_aload_n S.1 S.2.1 dX8_take_64 rfl (lv_at hl 0 rfl) ?_
          refine gfX8_37 S hK hW.1 0 rfl rfl dX8_take_65 ?_
          refine lv_iload S.1 S.2.1 dX8_take_68 (lv_at hl 3 rfl) ?_
          by_cases hc8 : v3.1 = 0
          · have hf := it_p hc8 hf
            refine q_aald0 S hK hW.1 14 5 rfl rfl hc8 dX8_take_70 ?_
            refine lv_aload_n S.1 S.2.1 dX8_take_71 rfl (lv_at hl 2 rfl) ?_
            refine gfX8_67 S hK hW.1 24 rfl rfl dX8_take_72 ?_
            obtain ⟨x9, hx9, hf⟩ := bnd_e hf
            refine Wr.go (ws2 := (wTo g o_q0 o_q1 o_q2 o_q3 o_towns0_q0 o_towns0_q1 o_towns0_q2 o_towns0_q3 o_towns0_q4 o_towns1_q0 o_towns1_q1 o_towns1_q2 o_towns1_q3 o_towns1_q4 o_q4 o_weeks0_q0 o_weeks0_q1 o_weeks1_q0 o_weeks1_q1 o_q5 o_logs0_q0 o_logs0_q1 o_logs1_q0 o_logs1_q1 o_tape o_length o_fault o_place v3.2 o_towns0_people o_towns0_wit o_towns0_purse o_towns0_hated o_towns0_owed o_towns1_people o_towns1_wit o_towns1_purse o_towns1_hated o_towns1_owed x9.1 x9.2 o_weeks1_deeds o_weeks1_cells o_logs0_facts o_logs0_cells o_logs1_facts o_logs1_cells ++ wRet g p3_q0 p3_town_q0 p3_town_q1 p3_town_q2 p3_town_q3 p3_town_q4 p3_week_q0 p3_week_q1 p3_log_q0 p3_log_q1 p3_q1 p3_tq p3_town_people p3_town_wit p3_town_purse p3_town_hated p3_town_owed p3_week_deeds p3_week_cells p3_log_facts p3_log_cells p3_fault p3_place p3_numbers p3_length p3_next p3_start p3_token p3_value p3_toldOf)) (Wr.runV (c_X10_copy hx9) S hK (hW.1.sub (ws' := (wWe g o_weeks0_q0 o_weeks0_q1 o_weeks0_deeds o_weeks0_cells ++ wWe g p3_week_q0 p3_week_q1 p3_week_deeds p3_week_cells)) [15, 16, 30, 31] rfl) (hW.2.1.sub (ws' := (wWe g o_weeks0_q0 o_weeks0_q1 o_weeks0_deeds o_weeks0_cells ++ wWe g p3_week_q0 p3_week_q1 p3_week_deeds p3_week_cells)) [15, 16, 30, 31] (by decide) rfl) 0 8 rfl rfl kVX8_71 rfl hl.1 [] rfl (Nat.le_of_ble_eq_true rfl) ⟨(Nat.le_of_ble_eq_true rfl), (Nat.le_of_ble_eq_true rfl)⟩ ⟨(Nat.zero_le _), (Nat.zero_le _)⟩ dX8_take_75) hW hA [15, 16, 30, 31] rfl [(false, 0), (false, 1), (false, 2), (false, 3), (false, 4), (false, 5), (false, 6), (false, 7), (false, 8), (false, 9), (false, 10), (false, 11), (false, 12), (false, 13), (false, 14), (true, 0), (true, 1), (false, 17), (false, 18), (false, 19), (false, 20), (false, 21), (false, 22), (false, 23), (false, 24), (false, 25), (false, 26), (false, 27), (false, 28), (false, 29), (true, 2), (true, 3), (false, 32), (false, 33), (false, 34)] rfl (by decide) rfl (fun H locs hW => ?_)
            refine lv_goto (tgt := 95) S.1 S.2.1 dX8_take_78 (by decide) ?_
            refine lv_iload S.1 S.2.1 dX8_take_95 (lv_at hl 3 rfl) ?_
            have e_ := Option.some.inj hf
            subst e_
            exact hret _ _ _ _ dX8_take_97 hW
          have hf := it_n hc8 hf
          by_cases hc10 : v3.1 = 1
          · have hf := it_p hc10 hf
            refine q_aald1 S hK hW.1 14 5 rfl rfl hc10 dX8_take_70 ?_
            refine lv_aload_n S.1 S.2.1 dX8_take_71 rfl (lv_at hl 2 rfl) ?_
            refine gfX8_67 S hK hW.1 24 rfl rfl dX8_take_72 ?_
            obtain ⟨x11, hx11, hf⟩ := bnd_e hf
            refine Wr.go (ws2 := (wTo g o_q0 o_q1 o_q2 o_q3 o_towns0_q0 o_towns0_q1 o_towns0_q2 o_towns0_q3 o_towns0_q4 o_towns1_q0 o_towns1_q1 o_towns1_q2 o_towns1_q3 o_towns1_q4 o_q4 o_weeks0_q0 o_weeks0_q1 o_weeks1_q0 o_weeks1_q1 o_q5 o_logs0_q0 o_logs0_q1 o_logs1_q0 o_logs1_q1 o_tape o_length o_fault o_place v3.2 o_towns0_people o_towns0_wit o_towns0_purse o_towns0_hated o_towns0_owed o_towns1_people o_towns1_wit o_towns1_purse o_towns1_hated o_towns1_owed o_weeks0_deeds o_weeks0_cells x11.1 x11.2 o_logs0_facts o_logs0_cells o_logs1_facts o_logs1_cells ++ wRet g p3_q0 p3_town_q0 p3_town_q1 p3_town_q2 p3_town_q3 p3_town_q4 p3_week_q0 p3_week_q1 p3_log_q0 p3_log_q1 p3_q1 p3_tq p3_town_people p3_town_wit p3_town_purse p3_town_hated p3_town_owed p3_week_deeds p3_week_cells p3_log_facts p3_log_cells p3_fault p3_place p3_numbers p3_length p3_next p3_start p3_token p3_value p3_toldOf)) (Wr.runV (c_X10_copy hx11) S hK (hW.1.sub (ws' := (wWe g o_weeks1_q0 o_weeks1_q1 o_weeks1_deeds o_weeks1_cells ++ wWe g p3_week_q0 p3_week_q1 p3_week_deeds p3_week_cells)) [17, 18, 30, 31] rfl) (hW.2.1.sub (ws' := (wWe g o_weeks1_q0 o_weeks1_q1 o_weeks1_deeds o_weeks1_cells ++ wWe g p3_week_q0 p3_week_q1 p3_week_deeds p3_week_cells)) [17, 18, 30, 31] (by decide) rfl) 0 8 rfl rfl kVX8_71 rfl hl.1 [] rfl (Nat.le_of_ble_eq_true rfl) ⟨(Nat.le_of_ble_eq_true rfl), (Nat.le_of_ble_eq_true rfl)⟩ ⟨(Nat.zero_le _), (Nat.zero_le _)⟩ dX8_take_75) hW hA [17, 18, 30, 31] rfl [(false, 0), (false, 1), (false, 2), (false, 3), (false, 4), (false, 5), (false, 6), (false, 7), (false, 8), (false, 9), (false, 10), (false, 11), (false, 12), (false, 13), (false, 14), (false, 15), (false, 16), (true, 0), (true, 1), (false, 19), (false, 20), (false, 21), (false, 22), (false, 23), (false, 24), (false, 25), (false, 26), (false, 27), (false, 28), (false, 29), (true, 2), (true, 3), (false, 32), (false, 33), (false, 34)] rfl (by decide) rfl (fun H locs hW => ?_)
            refine lv_goto (tgt := 95) S.1 S.2.1 dX8_take_78 (by decide) ?_
            refine lv_iload S.1 S.2.1 dX8_take_95 (lv_at hl 3 rfl) ?_
            have e_ := Option.some.inj hf
            subst e_
            exact hret _ _ _ _ dX8_take_97 hW
          have hf := it_n hc10 hf
          cases hf
      · have hf := it_p c_ hf
        refine lv_aload_n S.1 S.2.1 dX8_take_42 rfl (lv_at hl 0 rfl) ?_
        refine gfX8_31 S hK hW.1 0 rfl rfl dX8_take_43 ?_
        refine lv_iload S.1 S.2.1 dX8_take_46 (lv_at hl 3 rfl) ?_
        by_cases hc4 : v3.1 = 0
        · have hf := it_p hc4 hf
          refine q_aald0 S hK hW.1 3 4 rfl rfl hc4 dX8_take_48 ?_
          refine lv_aload_n S.1 S.2.1 dX8_take_49 rfl (lv_at hl 2 rfl) ?_
          refine gfX8_57 S hK hW.1 24 rfl rfl dX8_take_50 ?_
          obtain ⟨x5, hx5, hf⟩ := bnd_e hf
          refine Wr.go (ws2 := (wTo g o_q0 o_q1 o_q2 o_q3 o_towns0_q0 o_towns0_q1 o_towns0_q2 o_towns0_q3 o_towns0_q4 o_towns1_q0 o_towns1_q1 o_towns1_q2 o_towns1_q3 o_towns1_q4 o_q4 o_weeks0_q0 o_weeks0_q1 o_weeks1_q0 o_weeks1_q1 o_q5 o_logs0_q0 o_logs0_q1 o_logs1_q0 o_logs1_q1 o_tape o_length o_fault o_place v3.2 x5.1 x5.2.1 x5.2.2.1 x5.2.2.2.1 x5.2.2.2.2 o_towns1_people o_towns1_wit o_towns1_purse o_towns1_hated o_towns1_owed o_weeks0_deeds o_weeks0_cells o_weeks1_deeds o_weeks1_cells o_logs0_facts o_logs0_cells o_logs1_facts o_logs1_cells ++ wRet g p3_q0 p3_town_q0 p3_town_q1 p3_town_q2 p3_town_q3 p3_town_q4 p3_week_q0 p3_week_q1 p3_log_q0 p3_log_q1 p3_q1 p3_tq p3_town_people p3_town_wit p3_town_purse p3_town_hated p3_town_owed p3_week_deeds p3_week_cells p3_log_facts p3_log_cells p3_fault p3_place p3_numbers p3_length p3_next p3_start p3_token p3_value p3_toldOf)) (Wr.runV (c_X9_copy hx5) S hK (hW.1.sub (ws' := (wTw g o_towns0_q0 o_towns0_q1 o_towns0_q2 o_towns0_q3 o_towns0_q4 o_towns0_people o_towns0_wit o_towns0_purse o_towns0_hated o_towns0_owed ++ wTw g p3_town_q0 p3_town_q1 p3_town_q2 p3_town_q3 p3_town_q4 p3_town_people p3_town_wit p3_town_purse p3_town_hated p3_town_owed)) [4, 5, 6, 7, 8, 25, 26, 27, 28, 29] rfl) (hW.2.1.sub (ws' := (wTw g o_towns0_q0 o_towns0_q1 o_towns0_q2 o_towns0_q3 o_towns0_q4 o_towns0_people o_towns0_wit o_towns0_purse o_towns0_hated o_towns0_owed ++ wTw g p3_town_q0 p3_town_q1 p3_town_q2 p3_town_q3 p3_town_q4 p3_town_people p3_town_wit p3_town_purse p3_town_hated p3_town_owed)) [4, 5, 6, 7, 8, 25, 26, 27, 28, 29] (by decide) rfl) 0 7 rfl rfl kVX8_63 rfl hl.1 [] rfl (Nat.le_of_ble_eq_true rfl) ⟨(Nat.le_of_ble_eq_true rfl), (Nat.le_of_ble_eq_true rfl)⟩ ⟨(Nat.zero_le _), (Nat.zero_le _)⟩ dX8_take_53) hW hA [4, 5, 6, 7, 8, 25, 26, 27, 28, 29] rfl [(false, 0), (false, 1), (false, 2), (false, 3), (true, 0), (true, 1), (true, 2), (true, 3), (true, 4), (false, 9), (false, 10), (false, 11), (false, 12), (false, 13), (false, 14), (false, 15), (false, 16), (false, 17), (false, 18), (false, 19), (false, 20), (false, 21), (false, 22), (false, 23), (false, 24), (true, 5), (true, 6), (true, 7), (true, 8), (true, 9), (false, 30), (false, 31), (false, 32), (false, 33), (false, 34)] rfl (by decide) rfl (fun H locs hW => ?_)
          refine lv_goto (tgt := 95) S.1 S.2.1 dX8_take_56 (by decide) ?_
          refine lv_iload S.1 S.2.1 dX8_take_95 (lv_at hl 3 rfl) ?_
          have e_ := Option.some.inj hf
          subst e_
          exact hret _ _ _ _ dX8_take_97 hW
        have hf := it_n hc4 hf
        by_cases hc6 : v3.1 = 1
        · have hf := it_p hc6 hf
          refine q_aald1 S hK hW.1 3 4 rfl rfl hc6 dX8_take_48 ?_
          refine lv_aload_n S.1 S.2.1 dX8_take_49 rfl (lv_at hl 2 rfl) ?_
          refine gfX8_57 S hK hW.1 24 rfl rfl dX8_take_50 ?_
          obtain ⟨x7, hx7, hf⟩ := bnd_e hf
          refine Wr.go (ws2 := (wTo g o_q0 o_q1 o_q2 o_q3 o_towns0_q0 o_towns0_q1 o_towns0_q2 o_towns0_q3 o_towns0_q4 o_towns1_q0 o_towns1_q1 o_towns1_q2 o_towns1_q3 o_towns1_q4 o_q4 o_weeks0_q0 o_weeks0_q1 o_weeks1_q0 o_weeks1_q1 o_q5 o_logs0_q0 o_logs0_q1 o_logs1_q0 o_logs1_q1 o_tape o_length o_fault o_place v3.2 o_towns0_people o_towns0_wit o_towns0_purse o_towns0_hated o_towns0_owed x7.1 x7.2.1 x7.2.2.1 x7.2.2.2.1 x7.2.2.2.2 o_weeks0_deeds o_weeks0_cells o_weeks1_deeds o_weeks1_cells o_logs0_facts o_logs0_cells o_logs1_facts o_logs1_cells ++ wRet g p3_q0 p3_town_q0 p3_town_q1 p3_town_q2 p3_town_q3 p3_town_q4 p3_week_q0 p3_week_q1 p3_log_q0 p3_log_q1 p3_q1 p3_tq p3_town_people p3_town_wit p3_town_purse p3_town_hated p3_town_owed p3_week_deeds p3_week_cells p3_log_facts p3_log_cells p3_fault p3_place p3_numbers p3_length p3_next p3_start p3_token p3_value p3_toldOf)) (Wr.runV (c_X9_copy hx7) S hK (hW.1.sub (ws' := (wTw g o_towns1_q0 o_towns1_q1 o_towns1_q2 o_towns1_q3 o_towns1_q4 o_towns1_people o_towns1_wit o_towns1_purse o_towns1_hated o_towns1_owed ++ wTw g p3_town_q0 p3_town_q1 p3_town_q2 p3_town_q3 p3_town_q4 p3_town_people p3_town_wit p3_town_purse p3_town_hated p3_town_owed)) [9, 10, 11, 12, 13, 25, 26, 27, 28, 29] rfl) (hW.2.1.sub (ws' := (wTw g o_towns1_q0 o_towns1_q1 o_towns1_q2 o_towns1_q3 o_towns1_q4 o_towns1_people o_towns1_wit o_towns1_purse o_towns1_hated o_towns1_owed ++ wTw g p3_town_q0 p3_town_q1 p3_town_q2 p3_town_q3 p3_town_q4 p3_town_people p3_town_wit p3_town_purse p3_town_hated p3_town_owed)) [9, 10, 11, 12, 13, 25, 26, 27, 28, 29] (by decide) rfl) 0 7 rfl rfl kVX8_63 rfl hl.1 [] rfl (Nat.le_of_ble_eq_true rfl) ⟨(Nat.le_of_ble_eq_true rfl), (Nat.le_of_ble_eq_true rfl)⟩ ⟨(Nat.zero_le _), (Nat.zero_le _)⟩ dX8_take_53) hW hA [9, 10, 11, 12, 13, 25, 26, 27, 28, 29] rfl [(false, 0), (false, 1), (false, 2), (false, 3), (false, 4), (false, 5), (false, 6), (false, 7), (false, 8), (true, 0), (true, 1), (true, 2), (true, 3), (true, 4), (false, 14), (false, 15), (false, 16), (false, 17), (false, 18), (false, 19), (false, 20), (false, 21), (false, 22), (false, 23), (false, 24), (true, 5), (true, 6), (true, 7), (true, 8), (true, 9), (false, 30), (false, 31), (false, 32), (false, 33), (false, 34)] rfl (by decide) rfl (fun H locs hW => ?_)
          refine lv_goto (tgt := 95) S.1 S.2.1 dX8_take_56 (by decide) ?_
          refine lv_iload S.1 S.2.1 dX8_take_95 (lv_at hl 3 rfl) ?_
          have e_ := Option.some.inj hf
          subst e_
          exact hret _ _ _ _ dX8_take_97 hW
        have hf := it_n hc6 hf
        cases hf
    have hf := hf_
    refine lv_icmp_ne (tgt := 38) S.1 S.2.1 dX8_take_17 (by decide) (fun c_ => ?_) (fun c_ => ?_)
    · have hf := it_n c_ hf
      exact hJ2 _ (Option.some.inj hf) _ _ _ (lv_sub hl [1, 2, 4, 0] rfl) hW
    · have hf := it_p c_ hf
      refine lv_aload_n S.1 S.2.1 dX8_take_20 rfl (lv_at hl 1 rfl) ?_
      refine gfX8_25 S hK hW.1 0 rfl rfl dX8_take_21 ?_
      refine lv_iload_n S.1 S.2.1 dX8_take_24 rfl (lv_at hl 2 rfl) ?_
      obtain ⟨x16, hx16, hf⟩ := bnd_e hf
      refine q_iald S hK hW.1 2 0 rfl rfl hx16 dX8_take_25 ?_
      refine lv_istore (lv' := [(4, .int x16), (0, .ref o_q0), (1, .int p1), (2, .int p2), (3, .ref p3_q0)]) S.1 S.2.1 dX8_take_26 hl (by decide) rfl (fun ls hl => ?_)
      refine lv_aload_n S.1 S.2.1 dX8_take_28 rfl (lv_at hl 1 rfl) ?_
      refine gfX8_25 S hK hW.1 0 rfl rfl dX8_take_29 ?_
      refine lv_iload_n S.1 S.2.1 dX8_take_32 rfl (lv_at hl 2 rfl) ?_
      refine lv_dup2_11 S.1 S.2.1 dX8_take_33 rfl rfl ?_
      obtain ⟨x17, hx17, hf⟩ := bnd_e hf
      refine q_iald S hK hW.1 2 0 rfl rfl hx17 dX8_take_34 ?_
      refine lv_iconst (v := 1) S.1 S.2.1 dX8_take_35 ic_1 ?_
      refine lv_iadd S.1 S.2.1 dX8_take_36 ?_
      refine lv_topi (fun x18 ex18 => ?_)
      have hf := ltn_e hf ex18
      obtain ⟨x19, hx19, hf⟩ := bnd_e hf
      refine q_iast (ws2 := (wTo g o_q0 o_q1 o_q2 o_q3 o_towns0_q0 o_towns0_q1 o_towns0_q2 o_towns0_q3 o_towns0_q4 o_towns1_q0 o_towns1_q1 o_towns1_q2 o_towns1_q3 o_towns1_q4 o_q4 o_weeks0_q0 o_weeks0_q1 o_weeks1_q0 o_weeks1_q1 o_q5 o_logs0_q0 o_logs0_q1 o_logs1_q0 o_logs1_q1 o_tape o_length o_fault o_place x19 o_towns0_people o_towns0_wit o_towns0_purse o_towns0_hated o_towns0_owed o_towns1_people o_towns1_wit o_towns1_purse o_towns1_hated o_towns1_owed o_weeks0_deeds o_weeks0_cells o_weeks1_deeds o_weeks1_cells o_logs0_facts o_logs0_cells o_logs1_facts o_logs1_cells ++ wRet g p3_q0 p3_town_q0 p3_town_q1 p3_town_q2 p3_town_q3 p3_town_q4 p3_week_q0 p3_week_q1 p3_log_q0 p3_log_q1 p3_q1 p3_tq p3_town_people p3_town_wit p3_town_purse p3_town_hated p3_town_owed p3_week_deeds p3_week_cells p3_log_facts p3_log_cells p3_fault p3_place p3_numbers p3_length p3_next p3_start p3_token p3_value p3_toldOf)) S hK hW 2 0 rfl rfl hx19 rfl dX8_take_37 (fun H locs hW => ?_)
      exact hJ2 _ (Option.some.inj hf) _ _ _ (lv_sub hl [1, 2, 4, 0] rfl) hW
  · have hf := it_p c_ hf
    refine lv_bipush (v := (-2)) S.1 S.2.1 dX8_take_9 bp_m2 ?_
    have e_ := Option.some.inj hf
    subst e_
    exact hret _ _ _ _ dX8_take_11 hW
def f_X8_copy_L57 (fu : Nat) (p1_towns0_people : Int32) (p1_towns0_wit : (Nat → Int32)) (p1_towns0_purse : (Nat → Int32)) (p1_towns0_hated : (Nat → Int32)) (p1_towns0_owed : (Nat → Int32)) (p1_towns1_people : Int32) (p1_towns1_wit : (Nat → Int32)) (p1_towns1_purse : (Nat → Int32)) (p1_towns1_hated : (Nat → Int32)) (p1_towns1_owed : (Nat → Int32)) (p1_weeks0_deeds : Int32) (p1_weeks0_cells : (Nat → Int32)) (p1_weeks1_deeds : Int32) (p1_weeks1_cells : (Nat → Int32)) (p1_logs0_facts : Int32) (p1_logs0_cells : (Nat → Int32)) (p1_logs1_facts : Int32) (p1_logs1_cells : (Nat → Int32)) (s4 : Int32 × Int32 × (Nat → Int32) × (Nat → Int32) × (Nat → Int32) × (Nat → Int32) × Int32 × (Nat → Int32) × (Nat → Int32) × (Nat → Int32) × (Nat → Int32) × Int32 × (Nat → Int32) × Int32 × (Nat → Int32) × Int32 × (Nat → Int32) × Int32 × (Nat → Int32)) : Option ((Int32 × Int32 × (Nat → Int32) × (Nat → Int32) × (Nat → Int32) × (Nat → Int32) × Int32 × (Nat → Int32) × (Nat → Int32) × (Nat → Int32) × (Nat → Int32) × Int32 × (Nat → Int32) × Int32 × (Nat → Int32) × Int32 × (Nat → Int32) × Int32 × (Nat → Int32)) ⊕ (Int32 × (Nat → Int32) × (Nat → Int32) × (Nat → Int32) × (Nat → Int32) × Int32 × (Nat → Int32) × (Nat → Int32) × (Nat → Int32) × (Nat → Int32) × Int32 × (Nat → Int32) × Int32 × (Nat → Int32) × Int32 × (Nat → Int32) × Int32 × (Nat → Int32))) := if (2 : Int32) ≤ s4.1 then some (.inr (s4.2.1, s4.2.2.1, s4.2.2.2.1, s4.2.2.2.2.1, s4.2.2.2.2.2.1, s4.2.2.2.2.2.2.1, s4.2.2.2.2.2.2.2.1, s4.2.2.2.2.2.2.2.2.1, s4.2.2.2.2.2.2.2.2.2.1, s4.2.2.2.2.2.2.2.2.2.2.1, s4.2.2.2.2.2.2.2.2.2.2.2.1, s4.2.2.2.2.2.2.2.2.2.2.2.2.1, s4.2.2.2.2.2.2.2.2.2.2.2.2.2.1, s4.2.2.2.2.2.2.2.2.2.2.2.2.2.2.1, s4.2.2.2.2.2.2.2.2.2.2.2.2.2.2.2.1, s4.2.2.2.2.2.2.2.2.2.2.2.2.2.2.2.2.1, s4.2.2.2.2.2.2.2.2.2.2.2.2.2.2.2.2.2.1, s4.2.2.2.2.2.2.2.2.2.2.2.2.2.2.2.2.2.2)) else if s4.1 = 0 then bnd (α := Int32 × (Nat → Int32) × (Nat → Int32) × (Nat → Int32) × (Nat → Int32)) (f_X9_copy fu s4.2.1 s4.2.2.1 s4.2.2.2.1 s4.2.2.2.2.1 s4.2.2.2.2.2.1 p1_towns0_people p1_towns0_wit p1_towns0_purse p1_towns0_hated p1_towns0_owed) (fun x8 => bnd (α := Int32 × (Nat → Int32)) (f_X10_copy fu s4.2.2.2.2.2.2.2.2.2.2.2.1 s4.2.2.2.2.2.2.2.2.2.2.2.2.1 p1_weeks0_deeds p1_weeks0_cells) (fun x9 => bnd (α := Int32 × (Nat → Int32)) (f_X2_copy fu s4.2.2.2.2.2.2.2.2.2.2.2.2.2.2.2.1 s4.2.2.2.2.2.2.2.2.2.2.2.2.2.2.2.2.1 p1_logs0_facts p1_logs0_cells) (fun x10 => some (.inl ((s4.1 + 1), x8.1, x8.2.1, x8.2.2.1, x8.2.2.2.1, x8.2.2.2.2, s4.2.2.2.2.2.2.1, s4.2.2.2.2.2.2.2.1, s4.2.2.2.2.2.2.2.2.1, s4.2.2.2.2.2.2.2.2.2.1, s4.2.2.2.2.2.2.2.2.2.2.1, x9.1, x9.2, s4.2.2.2.2.2.2.2.2.2.2.2.2.2.1, s4.2.2.2.2.2.2.2.2.2.2.2.2.2.2.1, x10.1, x10.2, s4.2.2.2.2.2.2.2.2.2.2.2.2.2.2.2.2.2.1, s4.2.2.2.2.2.2.2.2.2.2.2.2.2.2.2.2.2.2))))) else if s4.1 = 1 then bnd (α := Int32 × (Nat → Int32) × (Nat → Int32) × (Nat → Int32) × (Nat → Int32)) (f_X9_copy fu s4.2.2.2.2.2.2.1 s4.2.2.2.2.2.2.2.1 s4.2.2.2.2.2.2.2.2.1 s4.2.2.2.2.2.2.2.2.2.1 s4.2.2.2.2.2.2.2.2.2.2.1 p1_towns1_people p1_towns1_wit p1_towns1_purse p1_towns1_hated p1_towns1_owed) (fun x12 => bnd (α := Int32 × (Nat → Int32)) (f_X10_copy fu s4.2.2.2.2.2.2.2.2.2.2.2.2.2.1 s4.2.2.2.2.2.2.2.2.2.2.2.2.2.2.1 p1_weeks1_deeds p1_weeks1_cells) (fun x13 => bnd (α := Int32 × (Nat → Int32)) (f_X2_copy fu s4.2.2.2.2.2.2.2.2.2.2.2.2.2.2.2.2.2.1 s4.2.2.2.2.2.2.2.2.2.2.2.2.2.2.2.2.2.2 p1_logs1_facts p1_logs1_cells) (fun x14 => some (.inl ((s4.1 + 1), s4.2.1, s4.2.2.1, s4.2.2.2.1, s4.2.2.2.2.1, s4.2.2.2.2.2.1, x12.1, x12.2.1, x12.2.2.1, x12.2.2.2.1, x12.2.2.2.2, s4.2.2.2.2.2.2.2.2.2.2.2.1, s4.2.2.2.2.2.2.2.2.2.2.2.2.1, x13.1, x13.2, s4.2.2.2.2.2.2.2.2.2.2.2.2.2.2.2.1, s4.2.2.2.2.2.2.2.2.2.2.2.2.2.2.2.2.1, x14.1, x14.2))))) else none
def f_X8_copy (fu : Nat) (o_tape : (Nat → Int32)) (o_length : Int32) (o_fault : Int32) (o_place : Int32) (o_counts : (Nat → Int32)) (o_towns0_people : Int32) (o_towns0_wit : (Nat → Int32)) (o_towns0_purse : (Nat → Int32)) (o_towns0_hated : (Nat → Int32)) (o_towns0_owed : (Nat → Int32)) (o_towns1_people : Int32) (o_towns1_wit : (Nat → Int32)) (o_towns1_purse : (Nat → Int32)) (o_towns1_hated : (Nat → Int32)) (o_towns1_owed : (Nat → Int32)) (o_weeks0_deeds : Int32) (o_weeks0_cells : (Nat → Int32)) (o_weeks1_deeds : Int32) (o_weeks1_cells : (Nat → Int32)) (o_logs0_facts : Int32) (o_logs0_cells : (Nat → Int32)) (o_logs1_facts : Int32) (o_logs1_cells : (Nat → Int32)) (p1_tape : (Nat → Int32)) (p1_length : Int32) (p1_fault : Int32) (p1_place : Int32) (p1_counts : (Nat → Int32)) (p1_towns0_people : Int32) (p1_towns0_wit : (Nat → Int32)) (p1_towns0_purse : (Nat → Int32)) (p1_towns0_hated : (Nat → Int32)) (p1_towns0_owed : (Nat → Int32)) (p1_towns1_people : Int32) (p1_towns1_wit : (Nat → Int32)) (p1_towns1_purse : (Nat → Int32)) (p1_towns1_hated : (Nat → Int32)) (p1_towns1_owed : (Nat → Int32)) (p1_weeks0_deeds : Int32) (p1_weeks0_cells : (Nat → Int32)) (p1_weeks1_deeds : Int32) (p1_weeks1_cells : (Nat → Int32)) (p1_logs0_facts : Int32) (p1_logs0_cells : (Nat → Int32)) (p1_logs1_facts : Int32) (p1_logs1_cells : (Nat → Int32)) : Option ((Nat → Int32) × Int32 × Int32 × Int32 × (Nat → Int32) × Int32 × (Nat → Int32) × (Nat → Int32) × (Nat → Int32) × (Nat → Int32) × Int32 × (Nat → Int32) × (Nat → Int32) × (Nat → Int32) × (Nat → Int32) × Int32 × (Nat → Int32) × Int32 × (Nat → Int32) × Int32 × (Nat → Int32) × Int32 × (Nat → Int32)) := bnd (α := (Nat → Int32)) (cpb 600 600 p1_tape o_tape (0 : Int32) (0 : Int32) p1_length) (fun x1 => bnd (α := (Nat → Int32)) (cpi 3 3 p1_counts o_counts (0 : Int32) (0 : Int32) (3 : Int32)) (fun x2 => bnd (α := Int32 × (Nat → Int32) × (Nat → Int32) × (Nat → Int32) × (Nat → Int32) × Int32 × (Nat → Int32) × (Nat → Int32) × (Nat → Int32) × (Nat → Int32) × Int32 × (Nat → Int32) × Int32 × (Nat → Int32) × Int32 × (Nat → Int32) × Int32 × (Nat → Int32)) (lp (f_X8_copy_L57 fu p1_towns0_people p1_towns0_wit p1_towns0_purse p1_towns0_hated p1_towns0_owed p1_towns1_people p1_towns1_wit p1_towns1_purse p1_towns1_hated p1_towns1_owed p1_weeks0_deeds p1_weeks0_cells p1_weeks1_deeds p1_weeks1_cells p1_logs0_facts p1_logs0_cells p1_logs1_facts p1_logs1_cells) fu ((0 : Int32), o_towns0_people, o_towns0_wit, o_towns0_purse, o_towns0_hated, o_towns0_owed, o_towns1_people, o_towns1_wit, o_towns1_purse, o_towns1_hated, o_towns1_owed, o_weeks0_deeds, o_weeks0_cells, o_weeks1_deeds, o_weeks1_cells, o_logs0_facts, o_logs0_cells, o_logs1_facts, o_logs1_cells)) (fun v15 => some (x1, p1_length, p1_fault, p1_place, x2, v15.1, v15.2.1, v15.2.2.1, v15.2.2.2.1, v15.2.2.2.2.1, v15.2.2.2.2.2.1, v15.2.2.2.2.2.2.1, v15.2.2.2.2.2.2.2.1, v15.2.2.2.2.2.2.2.2.1, v15.2.2.2.2.2.2.2.2.2.1, v15.2.2.2.2.2.2.2.2.2.2.1, v15.2.2.2.2.2.2.2.2.2.2.2.1, v15.2.2.2.2.2.2.2.2.2.2.2.2.1, v15.2.2.2.2.2.2.2.2.2.2.2.2.2.1, v15.2.2.2.2.2.2.2.2.2.2.2.2.2.2.1, v15.2.2.2.2.2.2.2.2.2.2.2.2.2.2.2.1, v15.2.2.2.2.2.2.2.2.2.2.2.2.2.2.2.2.1, v15.2.2.2.2.2.2.2.2.2.2.2.2.2.2.2.2.2))))
set_option maxHeartbeats 4000000 in
set_option maxRecDepth 100000 in
theorem c_X8_copy {l : Launch} {D : va_G} {g : Nat → ClassId} {fu : Nat} {o_q0 o_q1 o_q2 o_q3 o_towns0_q0 o_towns0_q1 o_towns0_q2 o_towns0_q3 o_towns0_q4 o_towns1_q0 o_towns1_q1 o_towns1_q2 o_towns1_q3 o_towns1_q4 o_q4 o_weeks0_q0 o_weeks0_q1 o_weeks1_q0 o_weeks1_q1 o_q5 o_logs0_q0 o_logs0_q1 o_logs1_q0 o_logs1_q1 p1_q0 p1_q1 p1_q2 p1_q3 p1_towns0_q0 p1_towns0_q1 p1_towns0_q2 p1_towns0_q3 p1_towns0_q4 p1_towns1_q0 p1_towns1_q1 p1_towns1_q2 p1_towns1_q3 p1_towns1_q4 p1_q4 p1_weeks0_q0 p1_weeks0_q1 p1_weeks1_q0 p1_weeks1_q1 p1_q5 p1_logs0_q0 p1_logs0_q1 p1_logs1_q0 p1_logs1_q1 : Nat} {o_tape : (Nat → Int32)} {o_length : Int32} {o_fault : Int32} {o_place : Int32} {o_counts : (Nat → Int32)} {o_towns0_people : Int32} {o_towns0_wit : (Nat → Int32)} {o_towns0_purse : (Nat → Int32)} {o_towns0_hated : (Nat → Int32)} {o_towns0_owed : (Nat → Int32)} {o_towns1_people : Int32} {o_towns1_wit : (Nat → Int32)} {o_towns1_purse : (Nat → Int32)} {o_towns1_hated : (Nat → Int32)} {o_towns1_owed : (Nat → Int32)} {o_weeks0_deeds : Int32} {o_weeks0_cells : (Nat → Int32)} {o_weeks1_deeds : Int32} {o_weeks1_cells : (Nat → Int32)} {o_logs0_facts : Int32} {o_logs0_cells : (Nat → Int32)} {o_logs1_facts : Int32} {o_logs1_cells : (Nat → Int32)} {p1_tape : (Nat → Int32)} {p1_length : Int32} {p1_fault : Int32} {p1_place : Int32} {p1_counts : (Nat → Int32)} {p1_towns0_people : Int32} {p1_towns0_wit : (Nat → Int32)} {p1_towns0_purse : (Nat → Int32)} {p1_towns0_hated : (Nat → Int32)} {p1_towns0_owed : (Nat → Int32)} {p1_towns1_people : Int32} {p1_towns1_wit : (Nat → Int32)} {p1_towns1_purse : (Nat → Int32)} {p1_towns1_hated : (Nat → Int32)} {p1_towns1_owed : (Nat → Int32)} {p1_weeks0_deeds : Int32} {p1_weeks0_cells : (Nat → Int32)} {p1_weeks1_deeds : Int32} {p1_weeks1_cells : (Nat → Int32)} {p1_logs0_facts : Int32} {p1_logs0_cells : (Nat → Int32)} {p1_logs1_facts : Int32} {p1_logs1_cells : (Nat → Int32)} {r : (Nat → Int32) × Int32 × Int32 × Int32 × (Nat → Int32) × Int32 × (Nat → Int32) × (Nat → Int32) × (Nat → Int32) × (Nat → Int32) × Int32 × (Nat → Int32) × (Nat → Int32) × (Nat → Int32) × (Nat → Int32) × Int32 × (Nat → Int32) × Int32 × (Nat → Int32) × Int32 × (Nat → Int32) × Int32 × (Nat → Int32)} (hf : f_X8_copy fu o_tape o_length o_fault o_place o_counts o_towns0_people o_towns0_wit o_towns0_purse o_towns0_hated o_towns0_owed o_towns1_people o_towns1_wit o_towns1_purse o_towns1_hated o_towns1_owed o_weeks0_deeds o_weeks0_cells o_weeks1_deeds o_weeks1_cells o_logs0_facts o_logs0_cells o_logs1_facts o_logs1_cells p1_tape p1_length p1_fault p1_place p1_counts p1_towns0_people p1_towns0_wit p1_towns0_purse p1_towns0_hated p1_towns0_owed p1_towns1_people p1_towns1_wit p1_towns1_purse p1_towns1_hated p1_towns1_owed p1_weeks0_deeds p1_weeks0_cells p1_weeks1_deeds p1_weeks1_cells p1_logs0_facts p1_logs0_cells p1_logs1_facts p1_logs1_cells = some r) : Wr l D (gy g) yX8_copy cX8_copy 3 none 2 [.ref o_q0, .ref p1_q0] (wTo g o_q0 o_q1 o_q2 o_q3 o_towns0_q0 o_towns0_q1 o_towns0_q2 o_towns0_q3 o_towns0_q4 o_towns1_q0 o_towns1_q1 o_towns1_q2 o_towns1_q3 o_towns1_q4 o_q4 o_weeks0_q0 o_weeks0_q1 o_weeks1_q0 o_weeks1_q1 o_q5 o_logs0_q0 o_logs0_q1 o_logs1_q0 o_logs1_q1 o_tape o_length o_fault o_place o_counts o_towns0_people o_towns0_wit o_towns0_purse o_towns0_hated o_towns0_owed o_towns1_people o_towns1_wit o_towns1_purse o_towns1_hated o_towns1_owed o_weeks0_deeds o_weeks0_cells o_weeks1_deeds o_weeks1_cells o_logs0_facts o_logs0_cells o_logs1_facts o_logs1_cells ++ wTo g p1_q0 p1_q1 p1_q2 p1_q3 p1_towns0_q0 p1_towns0_q1 p1_towns0_q2 p1_towns0_q3 p1_towns0_q4 p1_towns1_q0 p1_towns1_q1 p1_towns1_q2 p1_towns1_q3 p1_towns1_q4 p1_q4 p1_weeks0_q0 p1_weeks0_q1 p1_weeks1_q0 p1_weeks1_q1 p1_q5 p1_logs0_q0 p1_logs0_q1 p1_logs1_q0 p1_logs1_q1 p1_tape p1_length p1_fault p1_place p1_counts p1_towns0_people p1_towns0_wit p1_towns0_purse p1_towns0_hated p1_towns0_owed p1_towns1_people p1_towns1_wit p1_towns1_purse p1_towns1_hated p1_towns1_owed p1_weeks0_deeds p1_weeks0_cells p1_weeks1_deeds p1_weeks1_cells p1_logs0_facts p1_logs0_cells p1_logs1_facts p1_logs1_cells) (wTo g o_q0 o_q1 o_q2 o_q3 o_towns0_q0 o_towns0_q1 o_towns0_q2 o_towns0_q3 o_towns0_q4 o_towns1_q0 o_towns1_q1 o_towns1_q2 o_towns1_q3 o_towns1_q4 o_q4 o_weeks0_q0 o_weeks0_q1 o_weeks1_q0 o_weeks1_q1 o_q5 o_logs0_q0 o_logs0_q1 o_logs1_q0 o_logs1_q1 r.1 r.2.1 r.2.2.1 r.2.2.2.1 r.2.2.2.2.1 r.2.2.2.2.2.1 r.2.2.2.2.2.2.1 r.2.2.2.2.2.2.2.1 r.2.2.2.2.2.2.2.2.1 r.2.2.2.2.2.2.2.2.2.1 r.2.2.2.2.2.2.2.2.2.2.1 r.2.2.2.2.2.2.2.2.2.2.2.1 r.2.2.2.2.2.2.2.2.2.2.2.2.1 r.2.2.2.2.2.2.2.2.2.2.2.2.2.1 r.2.2.2.2.2.2.2.2.2.2.2.2.2.2.1 r.2.2.2.2.2.2.2.2.2.2.2.2.2.2.2.1 r.2.2.2.2.2.2.2.2.2.2.2.2.2.2.2.2.1 r.2.2.2.2.2.2.2.2.2.2.2.2.2.2.2.2.2.1 r.2.2.2.2.2.2.2.2.2.2.2.2.2.2.2.2.2.2.1 r.2.2.2.2.2.2.2.2.2.2.2.2.2.2.2.2.2.2.2.1 r.2.2.2.2.2.2.2.2.2.2.2.2.2.2.2.2.2.2.2.2.1 r.2.2.2.2.2.2.2.2.2.2.2.2.2.2.2.2.2.2.2.2.2.1 r.2.2.2.2.2.2.2.2.2.2.2.2.2.2.2.2.2.2.2.2.2.2 ++ wTo g p1_q0 p1_q1 p1_q2 p1_q3 p1_towns0_q0 p1_towns0_q1 p1_towns0_q2 p1_towns0_q3 p1_towns0_q4 p1_towns1_q0 p1_towns1_q1 p1_towns1_q2 p1_towns1_q3 p1_towns1_q4 p1_q4 p1_weeks0_q0 p1_weeks0_q1 p1_weeks1_q0 p1_weeks1_q1 p1_q5 p1_logs0_q0 p1_logs0_q1 p1_logs1_q0 p1_logs1_q1 p1_tape p1_length p1_fault p1_place p1_counts p1_towns0_people p1_towns0_wit p1_towns0_purse p1_towns0_hated p1_towns0_owed p1_towns1_people p1_towns1_wit p1_towns1_purse p1_towns1_hated p1_towns1_owed p1_weeks0_deeds p1_weeks0_cells p1_weeks1_deeds p1_weeks1_cells p1_logs0_facts p1_logs0_cells p1_logs1_facts p1_logs1_cells) none := by
  refine Wr.ofV (by decide) (Nat.le_of_ble_eq_true rfl) ?_
  intro p e s m args below meth c Q A S hK hA hret ls hl hW
  have hl : lv_has ls 3 [(0, .ref o_q0), (1, .ref p1_q0)] := hl
  refine lv_aload_n S.1 S.2.1 dX8_copy_0 rfl (lv_at hl 1 rfl) ?_
  refine gfX8_9 S hK hW.1 24 rfl rfl dX8_copy_1 ?_
  refine lv_iconst (v := 0) S.1 S.2.1 dX8_copy_4 ic_0 ?_
  refine lv_aload_n S.1 S.2.1 dX8_copy_5 rfl (lv_at hl 0 rfl) ?_
  refine gfX8_9 S hK hW.1 0 rfl rfl dX8_copy_6 ?_
  refine lv_iconst (v := 0) S.1 S.2.1 dX8_copy_9 ic_0 ?_
  refine lv_aload_n S.1 S.2.1 dX8_copy_10 rfl (lv_at hl 1 rfl) ?_
  refine gfX8_15 S hK hW.1 24 rfl rfl dX8_copy_11 ?_
  obtain ⟨x1, hx1, hf⟩ := bnd_e hf
  refine q_copyb (ws2 := (wTo g o_q0 o_q1 o_q2 o_q3 o_towns0_q0 o_towns0_q1 o_towns0_q2 o_towns0_q3 o_towns0_q4 o_towns1_q0 o_towns1_q1 o_towns1_q2 o_towns1_q3 o_towns1_q4 o_q4 o_weeks0_q0 o_weeks0_q1 o_weeks1_q0 o_weeks1_q1 o_q5 o_logs0_q0 o_logs0_q1 o_logs1_q0 o_logs1_q1 x1 o_length o_fault o_place o_counts o_towns0_people o_towns0_wit o_towns0_purse o_towns0_hated o_towns0_owed o_towns1_people o_towns1_wit o_towns1_purse o_towns1_hated o_towns1_owed o_weeks0_deeds o_weeks0_cells o_weeks1_deeds o_weeks1_cells o_logs0_facts o_logs0_cells o_logs1_facts o_logs1_cells ++ wTo g p1_q0 p1_q1 p1_q2 p1_q3 p1_towns0_q0 p1_towns0_q1 p1_towns0_q2 p1_towns0_q3 p1_towns0_q4 p1_towns1_q0 p1_towns1_q1 p1_towns1_q2 p1_towns1_q3 p1_towns1_q4 p1_q4 p1_weeks0_q0 p1_weeks0_q1 p1_weeks1_q0 p1_weeks1_q1 p1_q5 p1_logs0_q0 p1_logs0_q1 p1_logs1_q0 p1_logs1_q1 p1_tape p1_length p1_fault p1_place p1_counts p1_towns0_people p1_towns0_wit p1_towns0_purse p1_towns0_hated p1_towns0_owed p1_towns1_people p1_towns1_wit p1_towns1_purse p1_towns1_hated p1_towns1_owed p1_weeks0_deeds p1_weeks0_cells p1_weeks1_deeds p1_weeks1_cells p1_logs0_facts p1_logs0_cells p1_logs1_facts p1_logs1_cells)) S q_1035 q_507 q_506 q_18 hK hW hl.1 25 1 1 1 rfl rfl rfl rfl hx1 rfl (Nat.le_of_ble_eq_true rfl) (Nat.le_of_ble_eq_true rfl) dX8_copy_14 (fun H locs hW => ?_)
  refine lv_aload_n S.1 S.2.1 dX8_copy_17 rfl (lv_at hl 0 rfl) ?_
  refine lv_aload_n S.1 S.2.1 dX8_copy_18 rfl (lv_at hl 1 rfl) ?_
  refine gfX8_15 S hK hW.1 24 rfl rfl dX8_copy_19 ?_
  refine pfX8_15 (ws2 := (wTo g o_q0 o_q1 o_q2 o_q3 o_towns0_q0 o_towns0_q1 o_towns0_q2 o_towns0_q3 o_towns0_q4 o_towns1_q0 o_towns1_q1 o_towns1_q2 o_towns1_q3 o_towns1_q4 o_q4 o_weeks0_q0 o_weeks0_q1 o_weeks1_q0 o_weeks1_q1 o_q5 o_logs0_q0 o_logs0_q1 o_logs1_q0 o_logs1_q1 x1 p1_length o_fault o_place o_counts o_towns0_people o_towns0_wit o_towns0_purse o_towns0_hated o_towns0_owed o_towns1_people o_towns1_wit o_towns1_purse o_towns1_hated o_towns1_owed o_weeks0_deeds o_weeks0_cells o_weeks1_deeds o_weeks1_cells o_logs0_facts o_logs0_cells o_logs1_facts o_logs1_cells ++ wTo g p1_q0 p1_q1 p1_q2 p1_q3 p1_towns0_q0 p1_towns0_q1 p1_towns0_q2 p1_towns0_q3 p1_towns0_q4 p1_towns1_q0 p1_towns1_q1 p1_towns1_q2 p1_towns1_q3 p1_towns1_q4 p1_q4 p1_weeks0_q0 p1_weeks0_q1 p1_weeks1_q0 p1_weeks1_q1 p1_q5 p1_logs0_q0 p1_logs0_q1 p1_logs1_q0 p1_logs1_q1 p1_tape p1_length p1_fault p1_place p1_counts p1_towns0_people p1_towns0_wit p1_towns0_purse p1_towns0_hated p1_towns0_owed p1_towns1_people p1_towns1_wit p1_towns1_purse p1_towns1_hated p1_towns1_owed p1_weeks0_deeds p1_weeks0_cells p1_weeks1_deeds p1_weeks1_cells p1_logs0_facts p1_logs0_cells p1_logs1_facts p1_logs1_cells)) S hK hW 0 rfl rfl rfl (Nat.le_of_ble_eq_true rfl) rfl dX8_copy_22 (fun H locs hW => ?_)
  refine lv_aload_n S.1 S.2.1 dX8_copy_25 rfl (lv_at hl 0 rfl) ?_
  refine lv_aload_n S.1 S.2.1 dX8_copy_26 rfl (lv_at hl 1 rfl) ?_
  refine gfX8_19 S hK hW.1 24 rfl rfl dX8_copy_27 ?_
  refine pfX8_19 (ws2 := (wTo g o_q0 o_q1 o_q2 o_q3 o_towns0_q0 o_towns0_q1 o_towns0_q2 o_towns0_q3 o_towns0_q4 o_towns1_q0 o_towns1_q1 o_towns1_q2 o_towns1_q3 o_towns1_q4 o_q4 o_weeks0_q0 o_weeks0_q1 o_weeks1_q0 o_weeks1_q1 o_q5 o_logs0_q0 o_logs0_q1 o_logs1_q0 o_logs1_q1 x1 p1_length p1_fault o_place o_counts o_towns0_people o_towns0_wit o_towns0_purse o_towns0_hated o_towns0_owed o_towns1_people o_towns1_wit o_towns1_purse o_towns1_hated o_towns1_owed o_weeks0_deeds o_weeks0_cells o_weeks1_deeds o_weeks1_cells o_logs0_facts o_logs0_cells o_logs1_facts o_logs1_cells ++ wTo g p1_q0 p1_q1 p1_q2 p1_q3 p1_towns0_q0 p1_towns0_q1 p1_towns0_q2 p1_towns0_q3 p1_towns0_q4 p1_towns1_q0 p1_towns1_q1 p1_towns1_q2 p1_towns1_q3 p1_towns1_q4 p1_q4 p1_weeks0_q0 p1_weeks0_q1 p1_weeks1_q0 p1_weeks1_q1 p1_q5 p1_logs0_q0 p1_logs0_q1 p1_logs1_q0 p1_logs1_q1 p1_tape p1_length p1_fault p1_place p1_counts p1_towns0_people p1_towns0_wit p1_towns0_purse p1_towns0_hated p1_towns0_owed p1_towns1_people p1_towns1_wit p1_towns1_purse p1_towns1_hated p1_towns1_owed p1_weeks0_deeds p1_weeks0_cells p1_weeks1_deeds p1_weeks1_cells p1_logs0_facts p1_logs0_cells p1_logs1_facts p1_logs1_cells)) S hK hW 0 rfl rfl rfl (Nat.le_of_ble_eq_true rfl) rfl dX8_copy_30 (fun H locs hW => ?_)
  refine lv_aload_n S.1 S.2.1 dX8_copy_33 rfl (lv_at hl 0 rfl) ?_
  refine lv_aload_n S.1 S.2.1 dX8_copy_34 rfl (lv_at hl 1 rfl) ?_
  refine gfX8_22 S hK hW.1 24 rfl rfl dX8_copy_35 ?_
  refine pfX8_22 (ws2 := (wTo g o_q0 o_q1 o_q2 o_q3 o_towns0_q0 o_towns0_q1 o_towns0_q2 o_towns0_q3 o_towns0_q4 o_towns1_q0 o_towns1_q1 o_towns1_q2 o_towns1_q3 o_towns1_q4 o_q4 o_weeks0_q0 o_weeks0_q1 o_weeks1_q0 o_weeks1_q1 o_q5 o_logs0_q0 o_logs0_q1 o_logs1_q0 o_logs1_q1 x1 p1_length p1_fault p1_place o_counts o_towns0_people o_towns0_wit o_towns0_purse o_towns0_hated o_towns0_owed o_towns1_people o_towns1_wit o_towns1_purse o_towns1_hated o_towns1_owed o_weeks0_deeds o_weeks0_cells o_weeks1_deeds o_weeks1_cells o_logs0_facts o_logs0_cells o_logs1_facts o_logs1_cells ++ wTo g p1_q0 p1_q1 p1_q2 p1_q3 p1_towns0_q0 p1_towns0_q1 p1_towns0_q2 p1_towns0_q3 p1_towns0_q4 p1_towns1_q0 p1_towns1_q1 p1_towns1_q2 p1_towns1_q3 p1_towns1_q4 p1_q4 p1_weeks0_q0 p1_weeks0_q1 p1_weeks1_q0 p1_weeks1_q1 p1_q5 p1_logs0_q0 p1_logs0_q1 p1_logs1_q0 p1_logs1_q1 p1_tape p1_length p1_fault p1_place p1_counts p1_towns0_people p1_towns0_wit p1_towns0_purse p1_towns0_hated p1_towns0_owed p1_towns1_people p1_towns1_wit p1_towns1_purse p1_towns1_hated p1_towns1_owed p1_weeks0_deeds p1_weeks0_cells p1_weeks1_deeds p1_weeks1_cells p1_logs0_facts p1_logs0_cells p1_logs1_facts p1_logs1_cells)) S hK hW 0 rfl rfl rfl (Nat.le_of_ble_eq_true rfl) rfl dX8_copy_38 (fun H locs hW => ?_)
  refine lv_aload_n S.1 S.2.1 dX8_copy_41 rfl (lv_at hl 1 rfl) ?_
  refine gfX8_25 S hK hW.1 24 rfl rfl dX8_copy_42 ?_
  refine lv_iconst (v := 0) S.1 S.2.1 dX8_copy_45 ic_0 ?_
  refine lv_aload_n S.1 S.2.1 dX8_copy_46 rfl (lv_at hl 0 rfl) ?_
  refine gfX8_25 S hK hW.1 0 rfl rfl dX8_copy_47 ?_
  refine lv_iconst (v := 0) S.1 S.2.1 dX8_copy_50 ic_0 ?_
  refine lv_iconst (v := 3) S.1 S.2.1 dX8_copy_51 ic_3 ?_
  obtain ⟨x2, hx2, hf⟩ := bnd_e hf
  refine q_copyi (ws2 := (wTo g o_q0 o_q1 o_q2 o_q3 o_towns0_q0 o_towns0_q1 o_towns0_q2 o_towns0_q3 o_towns0_q4 o_towns1_q0 o_towns1_q1 o_towns1_q2 o_towns1_q3 o_towns1_q4 o_q4 o_weeks0_q0 o_weeks0_q1 o_weeks1_q0 o_weeks1_q1 o_q5 o_logs0_q0 o_logs0_q1 o_logs1_q0 o_logs1_q1 x1 p1_length p1_fault p1_place x2 o_towns0_people o_towns0_wit o_towns0_purse o_towns0_hated o_towns0_owed o_towns1_people o_towns1_wit o_towns1_purse o_towns1_hated o_towns1_owed o_weeks0_deeds o_weeks0_cells o_weeks1_deeds o_weeks1_cells o_logs0_facts o_logs0_cells o_logs1_facts o_logs1_cells ++ wTo g p1_q0 p1_q1 p1_q2 p1_q3 p1_towns0_q0 p1_towns0_q1 p1_towns0_q2 p1_towns0_q3 p1_towns0_q4 p1_towns1_q0 p1_towns1_q1 p1_towns1_q2 p1_towns1_q3 p1_towns1_q4 p1_q4 p1_weeks0_q0 p1_weeks0_q1 p1_weeks1_q0 p1_weeks1_q1 p1_q5 p1_logs0_q0 p1_logs0_q1 p1_logs1_q0 p1_logs1_q1 p1_tape p1_length p1_fault p1_place p1_counts p1_towns0_people p1_towns0_wit p1_towns0_purse p1_towns0_hated p1_towns0_owed p1_towns1_people p1_towns1_wit p1_towns1_purse p1_towns1_hated p1_towns1_owed p1_weeks0_deeds p1_weeks0_cells p1_weeks1_deeds p1_weeks1_cells p1_logs0_facts p1_logs0_cells p1_logs1_facts p1_logs1_cells)) S q_1035 q_507 q_506 q_18 hK hW hl.1 26 2 0 0 rfl rfl rfl rfl hx2 rfl (Nat.le_of_ble_eq_true rfl) (Nat.le_of_ble_eq_true rfl) dX8_copy_52 (fun H locs hW => ?_)
  refine lv_iconst (v := 0) S.1 S.2.1 dX8_copy_55 ic_0 ?_
  refine lv_istore_n (lv' := [(2, .int (0 : Int32)), (0, .ref o_q0), (1, .ref p1_q0)]) S.1 S.2.1 dX8_copy_56 rfl hl (by decide) rfl (fun ls hl => ?_)
  obtain ⟨x5, hf_, hk5⟩ := bnd_e hf
  have hE5 : ∀ (v15 : Int32 × (Nat → Int32) × (Nat → Int32) × (Nat → Int32) × (Nat → Int32) × Int32 × (Nat → Int32) × (Nat → Int32) × (Nat → Int32) × (Nat → Int32) × Int32 × (Nat → Int32) × Int32 × (Nat → Int32) × Int32 × (Nat → Int32) × Int32 × (Nat → Int32)), v15 = x5 → ∀ (ls : Array Slot) (H : Heap) (locs : List Loc), lv_has ls 3 [] → St A s.heap D (wTo g o_q0 o_q1 o_q2 o_q3 o_towns0_q0 o_towns0_q1 o_towns0_q2 o_towns0_q3 o_towns0_q4 o_towns1_q0 o_towns1_q1 o_towns1_q2 o_towns1_q3 o_towns1_q4 o_q4 o_weeks0_q0 o_weeks0_q1 o_weeks1_q0 o_weeks1_q1 o_q5 o_logs0_q0 o_logs0_q1 o_logs1_q0 o_logs1_q1 x1 p1_length p1_fault p1_place x2 v15.1 v15.2.1 v15.2.2.1 v15.2.2.2.1 v15.2.2.2.2.1 v15.2.2.2.2.2.1 v15.2.2.2.2.2.2.1 v15.2.2.2.2.2.2.2.1 v15.2.2.2.2.2.2.2.2.1 v15.2.2.2.2.2.2.2.2.2.1 v15.2.2.2.2.2.2.2.2.2.2.1 v15.2.2.2.2.2.2.2.2.2.2.2.1 v15.2.2.2.2.2.2.2.2.2.2.2.2.1 v15.2.2.2.2.2.2.2.2.2.2.2.2.2.1 v15.2.2.2.2.2.2.2.2.2.2.2.2.2.2.1 v15.2.2.2.2.2.2.2.2.2.2.2.2.2.2.2.1 v15.2.2.2.2.2.2.2.2.2.2.2.2.2.2.2.2.1 v15.2.2.2.2.2.2.2.2.2.2.2.2.2.2.2.2.2 ++ wTo g p1_q0 p1_q1 p1_q2 p1_q3 p1_towns0_q0 p1_towns0_q1 p1_towns0_q2 p1_towns0_q3 p1_towns0_q4 p1_towns1_q0 p1_towns1_q1 p1_towns1_q2 p1_towns1_q3 p1_towns1_q4 p1_q4 p1_weeks0_q0 p1_weeks0_q1 p1_weeks1_q0 p1_weeks1_q1 p1_q5 p1_logs0_q0 p1_logs0_q1 p1_logs1_q0 p1_logs1_q1 p1_tape p1_length p1_fault p1_place p1_counts p1_towns0_people p1_towns0_wit p1_towns0_purse p1_towns0_hated p1_towns0_owed p1_towns1_people p1_towns1_wit p1_towns1_purse p1_towns1_hated p1_towns1_owed p1_weeks0_deeds p1_weeks0_cells p1_weeks1_deeds p1_weeks1_cells p1_logs0_facts p1_logs0_cells p1_logs1_facts p1_logs1_cells) H locs → W p l e (rmD 2) s m args below meth c H locs 0 0 Q (F0 m 113 ls []) := by
    intro v15 e_ ls H locs hl hW
    subst e_
    have hf := hk5
    have e_ := Option.some.inj hf
    subst e_
    exact hret _ _ _ _ dX8_copy_113 hW
  refine lp_ind (P := fun (s4 : Int32 × Int32 × (Nat → Int32) × (Nat → Int32) × (Nat → Int32) × (Nat → Int32) × Int32 × (Nat → Int32) × (Nat → Int32) × (Nat → Int32) × (Nat → Int32) × Int32 × (Nat → Int32) × Int32 × (Nat → Int32) × Int32 × (Nat → Int32) × Int32 × (Nat → Int32)) => ∀ (ls : Array Slot) (H : Heap) (locs : List Loc), lv_has ls 3 [(0, .ref o_q0), (1, .ref p1_q0), (2, .int s4.1)] → St A s.heap D (wTo g o_q0 o_q1 o_q2 o_q3 o_towns0_q0 o_towns0_q1 o_towns0_q2 o_towns0_q3 o_towns0_q4 o_towns1_q0 o_towns1_q1 o_towns1_q2 o_towns1_q3 o_towns1_q4 o_q4 o_weeks0_q0 o_weeks0_q1 o_weeks1_q0 o_weeks1_q1 o_q5 o_logs0_q0 o_logs0_q1 o_logs1_q0 o_logs1_q1 x1 p1_length p1_fault p1_place x2 s4.2.1 s4.2.2.1 s4.2.2.2.1 s4.2.2.2.2.1 s4.2.2.2.2.2.1 s4.2.2.2.2.2.2.1 s4.2.2.2.2.2.2.2.1 s4.2.2.2.2.2.2.2.2.1 s4.2.2.2.2.2.2.2.2.2.1 s4.2.2.2.2.2.2.2.2.2.2.1 s4.2.2.2.2.2.2.2.2.2.2.2.1 s4.2.2.2.2.2.2.2.2.2.2.2.2.1 s4.2.2.2.2.2.2.2.2.2.2.2.2.2.1 s4.2.2.2.2.2.2.2.2.2.2.2.2.2.2.1 s4.2.2.2.2.2.2.2.2.2.2.2.2.2.2.2.1 s4.2.2.2.2.2.2.2.2.2.2.2.2.2.2.2.2.1 s4.2.2.2.2.2.2.2.2.2.2.2.2.2.2.2.2.2.1 s4.2.2.2.2.2.2.2.2.2.2.2.2.2.2.2.2.2.2 ++ wTo g p1_q0 p1_q1 p1_q2 p1_q3 p1_towns0_q0 p1_towns0_q1 p1_towns0_q2 p1_towns0_q3 p1_towns0_q4 p1_towns1_q0 p1_towns1_q1 p1_towns1_q2 p1_towns1_q3 p1_towns1_q4 p1_q4 p1_weeks0_q0 p1_weeks0_q1 p1_weeks1_q0 p1_weeks1_q1 p1_q5 p1_logs0_q0 p1_logs0_q1 p1_logs1_q0 p1_logs1_q1 p1_tape p1_length p1_fault p1_place p1_counts p1_towns0_people p1_towns0_wit p1_towns0_purse p1_towns0_hated p1_towns0_owed p1_towns1_people p1_towns1_wit p1_towns1_purse p1_towns1_hated p1_towns1_owed p1_weeks0_deeds p1_weeks0_cells p1_weeks1_deeds p1_weeks1_cells p1_logs0_facts p1_logs0_cells p1_logs1_facts p1_logs1_cells) H locs → W p l e (rmD 2) s m args below meth c H locs 0 0 Q (F0 m 57 ls [])) ?_ _ _ hf_ _ _ _ (lv_sub hl [1, 2, 0] rfl) hW
  intro s4 x6 hf hI5 hR5 ls H locs hl hW
  refine lv_iload_n S.1 S.2.1 dX8_copy_57 rfl (lv_at hl 2 rfl) ?_
  refine lv_iconst (v := 2) S.1 S.2.1 dX8_copy_58 ic_2 ?_
  refine lv_icmp_ge (tgt := 113) S.1 S.2.1 dX8_copy_59 (by decide) (fun c_ => ?_) (fun c_ => ?_)
  · have hf := it_p c_ hf
    have e_ := hR5 _ (Option.some.inj hf).symm
    exact hE5 _ e_ _ _ _ (lv_sub hl [] rfl) hW
  · have hf := it_n c_ hf
    refine lv_aload_n S.1 S.2.1 dX8_copy_62 rfl (lv_at hl 0 rfl) ?_
    refine gfX8_31 S hK hW.1 0 rfl rfl dX8_copy_63 ?_
    refine lv_iload_n S.1 S.2.1 dX8_copy_66 rfl (lv_at hl 2 rfl) ?_
    by_cases hc7 : s4.1 = 0
    · have hf := it_p hc7 hf
      refine q_aald0 S hK hW.1 3 4 rfl rfl hc7 dX8_copy_67 ?_
      refine lv_aload_n S.1 S.2.1 dX8_copy_68 rfl (lv_at hl 1 rfl) ?_
      refine gfX8_31 S hK hW.1 24 rfl rfl dX8_copy_69 ?_
      refine lv_iload_n S.1 S.2.1 dX8_copy_72 rfl (lv_at hl 2 rfl) ?_
      refine q_aald0 S hK hW.1 27 4 rfl rfl hc7 dX8_copy_73 ?_
      obtain ⟨x8, hx8, hf⟩ := bnd_e hf
      refine Wr.go (ws2 := (wTo g o_q0 o_q1 o_q2 o_q3 o_towns0_q0 o_towns0_q1 o_towns0_q2 o_towns0_q3 o_towns0_q4 o_towns1_q0 o_towns1_q1 o_towns1_q2 o_towns1_q3 o_towns1_q4 o_q4 o_weeks0_q0 o_weeks0_q1 o_weeks1_q0 o_weeks1_q1 o_q5 o_logs0_q0 o_logs0_q1 o_logs1_q0 o_logs1_q1 x1 p1_length p1_fault p1_place x2 x8.1 x8.2.1 x8.2.2.1 x8.2.2.2.1 x8.2.2.2.2 s4.2.2.2.2.2.2.1 s4.2.2.2.2.2.2.2.1 s4.2.2.2.2.2.2.2.2.1 s4.2.2.2.2.2.2.2.2.2.1 s4.2.2.2.2.2.2.2.2.2.2.1 s4.2.2.2.2.2.2.2.2.2.2.2.1 s4.2.2.2.2.2.2.2.2.2.2.2.2.1 s4.2.2.2.2.2.2.2.2.2.2.2.2.2.1 s4.2.2.2.2.2.2.2.2.2.2.2.2.2.2.1 s4.2.2.2.2.2.2.2.2.2.2.2.2.2.2.2.1 s4.2.2.2.2.2.2.2.2.2.2.2.2.2.2.2.2.1 s4.2.2.2.2.2.2.2.2.2.2.2.2.2.2.2.2.2.1 s4.2.2.2.2.2.2.2.2.2.2.2.2.2.2.2.2.2.2 ++ wTo g p1_q0 p1_q1 p1_q2 p1_q3 p1_towns0_q0 p1_towns0_q1 p1_towns0_q2 p1_towns0_q3 p1_towns0_q4 p1_towns1_q0 p1_towns1_q1 p1_towns1_q2 p1_towns1_q3 p1_towns1_q4 p1_q4 p1_weeks0_q0 p1_weeks0_q1 p1_weeks1_q0 p1_weeks1_q1 p1_q5 p1_logs0_q0 p1_logs0_q1 p1_logs1_q0 p1_logs1_q1 p1_tape p1_length p1_fault p1_place p1_counts p1_towns0_people p1_towns0_wit p1_towns0_purse p1_towns0_hated p1_towns0_owed p1_towns1_people p1_towns1_wit p1_towns1_purse p1_towns1_hated p1_towns1_owed p1_weeks0_deeds p1_weeks0_cells p1_weeks1_deeds p1_weeks1_cells p1_logs0_facts p1_logs0_cells p1_logs1_facts p1_logs1_cells)) (Wr.runV (c_X9_copy hx8) S hK (hW.1.sub (ws' := (wTw g o_towns0_q0 o_towns0_q1 o_towns0_q2 o_towns0_q3 o_towns0_q4 s4.2.1 s4.2.2.1 s4.2.2.2.1 s4.2.2.2.2.1 s4.2.2.2.2.2.1 ++ wTw g p1_towns0_q0 p1_towns0_q1 p1_towns0_q2 p1_towns0_q3 p1_towns0_q4 p1_towns0_people p1_towns0_wit p1_towns0_purse p1_towns0_hated p1_towns0_owed)) [4, 5, 6, 7, 8, 28, 29, 30, 31, 32] rfl) (hW.2.1.sub (ws' := (wTw g o_towns0_q0 o_towns0_q1 o_towns0_q2 o_towns0_q3 o_towns0_q4 s4.2.1 s4.2.2.1 s4.2.2.2.1 s4.2.2.2.2.1 s4.2.2.2.2.2.1 ++ wTw g p1_towns0_q0 p1_towns0_q1 p1_towns0_q2 p1_towns0_q3 p1_towns0_q4 p1_towns0_people p1_towns0_wit p1_towns0_purse p1_towns0_hated p1_towns0_owed)) [4, 5, 6, 7, 8, 28, 29, 30, 31, 32] (by decide) rfl) 0 7 rfl rfl kVX8_63 rfl hl.1 [] rfl (Nat.le_of_ble_eq_true rfl) ⟨(Nat.le_of_ble_eq_true rfl), (Nat.le_of_ble_eq_true rfl)⟩ ⟨(Nat.zero_le _), (Nat.zero_le _)⟩ dX8_copy_74) hW hA [4, 5, 6, 7, 8, 28, 29, 30, 31, 32] rfl [(false, 0), (false, 1), (false, 2), (false, 3), (true, 0), (true, 1), (true, 2), (true, 3), (true, 4), (false, 9), (false, 10), (false, 11), (false, 12), (false, 13), (false, 14), (false, 15), (false, 16), (false, 17), (false, 18), (false, 19), (false, 20), (false, 21), (false, 22), (false, 23), (false, 24), (false, 25), (false, 26), (false, 27), (true, 5), (true, 6), (true, 7), (true, 8), (true, 9), (false, 33), (false, 34), (false, 35), (false, 36), (false, 37), (false, 38), (false, 39), (false, 40), (false, 41), (false, 42), (false, 43), (false, 44), (false, 45), (false, 46), (false, 47)] rfl (by decide) rfl (fun H locs hW => ?_)
      refine lv_aload_n S.1 S.2.1 dX8_copy_77 rfl (lv_at hl 0 rfl) ?_
      refine gfX8_37 S hK hW.1 0 rfl rfl dX8_copy_78 ?_
      refine lv_iload_n S.1 S.2.1 dX8_copy_81 rfl (lv_at hl 2 rfl) ?_
      refine q_aald0 S hK hW.1 14 5 rfl rfl hc7 dX8_copy_82 ?_
      refine lv_aload_n S.1 S.2.1 dX8_copy_83 rfl (lv_at hl 1 rfl) ?_
      refine gfX8_37 S hK hW.1 24 rfl rfl dX8_copy_84 ?_
      refine lv_iload_n S.1 S.2.1 dX8_copy_87 rfl (lv_at hl 2 rfl) ?_
      refine q_aald0 S hK hW.1 38 5 rfl rfl hc7 dX8_copy_88 ?_
      obtain ⟨x9, hx9, hf⟩ := bnd_e hf
      refine Wr.go (ws2 := (wTo g o_q0 o_q1 o_q2 o_q3 o_towns0_q0 o_towns0_q1 o_towns0_q2 o_towns0_q3 o_towns0_q4 o_towns1_q0 o_towns1_q1 o_towns1_q2 o_towns1_q3 o_towns1_q4 o_q4 o_weeks0_q0 o_weeks0_q1 o_weeks1_q0 o_weeks1_q1 o_q5 o_logs0_q0 o_logs0_q1 o_logs1_q0 o_logs1_q1 x1 p1_length p1_fault p1_place x2 x8.1 x8.2.1 x8.2.2.1 x8.2.2.2.1 x8.2.2.2.2 s4.2.2.2.2.2.2.1 s4.2.2.2.2.2.2.2.1 s4.2.2.2.2.2.2.2.2.1 s4.2.2.2.2.2.2.2.2.2.1 s4.2.2.2.2.2.2.2.2.2.2.1 x9.1 x9.2 s4.2.2.2.2.2.2.2.2.2.2.2.2.2.1 s4.2.2.2.2.2.2.2.2.2.2.2.2.2.2.1 s4.2.2.2.2.2.2.2.2.2.2.2.2.2.2.2.1 s4.2.2.2.2.2.2.2.2.2.2.2.2.2.2.2.2.1 s4.2.2.2.2.2.2.2.2.2.2.2.2.2.2.2.2.2.1 s4.2.2.2.2.2.2.2.2.2.2.2.2.2.2.2.2.2.2 ++ wTo g p1_q0 p1_q1 p1_q2 p1_q3 p1_towns0_q0 p1_towns0_q1 p1_towns0_q2 p1_towns0_q3 p1_towns0_q4 p1_towns1_q0 p1_towns1_q1 p1_towns1_q2 p1_towns1_q3 p1_towns1_q4 p1_q4 p1_weeks0_q0 p1_weeks0_q1 p1_weeks1_q0 p1_weeks1_q1 p1_q5 p1_logs0_q0 p1_logs0_q1 p1_logs1_q0 p1_logs1_q1 p1_tape p1_length p1_fault p1_place p1_counts p1_towns0_people p1_towns0_wit p1_towns0_purse p1_towns0_hated p1_towns0_owed p1_towns1_people p1_towns1_wit p1_towns1_purse p1_towns1_hated p1_towns1_owed p1_weeks0_deeds p1_weeks0_cells p1_weeks1_deeds p1_weeks1_cells p1_logs0_facts p1_logs0_cells p1_logs1_facts p1_logs1_cells)) (Wr.runV (c_X10_copy hx9) S hK (hW.1.sub (ws' := (wWe g o_weeks0_q0 o_weeks0_q1 s4.2.2.2.2.2.2.2.2.2.2.2.1 s4.2.2.2.2.2.2.2.2.2.2.2.2.1 ++ wWe g p1_weeks0_q0 p1_weeks0_q1 p1_weeks0_deeds p1_weeks0_cells)) [15, 16, 39, 40] rfl) (hW.2.1.sub (ws' := (wWe g o_weeks0_q0 o_weeks0_q1 s4.2.2.2.2.2.2.2.2.2.2.2.1 s4.2.2.2.2.2.2.2.2.2.2.2.2.1 ++ wWe g p1_weeks0_q0 p1_weeks0_q1 p1_weeks0_deeds p1_weeks0_cells)) [15, 16, 39, 40] (by decide) rfl) 0 8 rfl rfl kVX8_71 rfl hl.1 [] rfl (Nat.le_of_ble_eq_true rfl) ⟨(Nat.le_of_ble_eq_true rfl), (Nat.le_of_ble_eq_true rfl)⟩ ⟨(Nat.zero_le _), (Nat.zero_le _)⟩ dX8_copy_89) hW hA [15, 16, 39, 40] rfl [(false, 0), (false, 1), (false, 2), (false, 3), (false, 4), (false, 5), (false, 6), (false, 7), (false, 8), (false, 9), (false, 10), (false, 11), (false, 12), (false, 13), (false, 14), (true, 0), (true, 1), (false, 17), (false, 18), (false, 19), (false, 20), (false, 21), (false, 22), (false, 23), (false, 24), (false, 25), (false, 26), (false, 27), (false, 28), (false, 29), (false, 30), (false, 31), (false, 32), (false, 33), (false, 34), (false, 35), (false, 36), (false, 37), (false, 38), (true, 2), (true, 3), (false, 41), (false, 42), (false, 43), (false, 44), (false, 45), (false, 46), (false, 47)] rfl (by decide) rfl (fun H locs hW => ?_)
      refine lv_aload_n S.1 S.2.1 dX8_copy_92 rfl (lv_at hl 0 rfl) ?_
      refine gfX8_43 S hK hW.1 0 rfl rfl dX8_copy_93 ?_
      refine lv_iload_n S.1 S.2.1 dX8_copy_96 rfl (lv_at hl 2 rfl) ?_
      refine q_aald0 S hK hW.1 19 6 rfl rfl hc7 dX8_copy_97 ?_
      refine lv_aload_n S.1 S.2.1 dX8_copy_98 rfl (lv_at hl 1 rfl) ?_
      refine gfX8_43 S hK hW.1 24 rfl rfl dX8_copy_99 ?_
      refine lv_iload_n S.1 S.2.1 dX8_copy_102 rfl (lv_at hl 2 rfl) ?_
      refine q_aald0 S hK hW.1 43 6 rfl rfl hc7 dX8_copy_103 ?_
      obtain ⟨x10, hx10, hf⟩ := bnd_e hf
      refine Wr.go (ws2 := (wTo g o_q0 o_q1 o_q2 o_q3 o_towns0_q0 o_towns0_q1 o_towns0_q2 o_towns0_q3 o_towns0_q4 o_towns1_q0 o_towns1_q1 o_towns1_q2 o_towns1_q3 o_towns1_q4 o_q4 o_weeks0_q0 o_weeks0_q1 o_weeks1_q0 o_weeks1_q1 o_q5 o_logs0_q0 o_logs0_q1 o_logs1_q0 o_logs1_q1 x1 p1_length p1_fault p1_place x2 x8.1 x8.2.1 x8.2.2.1 x8.2.2.2.1 x8.2.2.2.2 s4.2.2.2.2.2.2.1 s4.2.2.2.2.2.2.2.1 s4.2.2.2.2.2.2.2.2.1 s4.2.2.2.2.2.2.2.2.2.1 s4.2.2.2.2.2.2.2.2.2.2.1 x9.1 x9.2 s4.2.2.2.2.2.2.2.2.2.2.2.2.2.1 s4.2.2.2.2.2.2.2.2.2.2.2.2.2.2.1 x10.1 x10.2 s4.2.2.2.2.2.2.2.2.2.2.2.2.2.2.2.2.2.1 s4.2.2.2.2.2.2.2.2.2.2.2.2.2.2.2.2.2.2 ++ wTo g p1_q0 p1_q1 p1_q2 p1_q3 p1_towns0_q0 p1_towns0_q1 p1_towns0_q2 p1_towns0_q3 p1_towns0_q4 p1_towns1_q0 p1_towns1_q1 p1_towns1_q2 p1_towns1_q3 p1_towns1_q4 p1_q4 p1_weeks0_q0 p1_weeks0_q1 p1_weeks1_q0 p1_weeks1_q1 p1_q5 p1_logs0_q0 p1_logs0_q1 p1_logs1_q0 p1_logs1_q1 p1_tape p1_length p1_fault p1_place p1_counts p1_towns0_people p1_towns0_wit p1_towns0_purse p1_towns0_hated p1_towns0_owed p1_towns1_people p1_towns1_wit p1_towns1_purse p1_towns1_hated p1_towns1_owed p1_weeks0_deeds p1_weeks0_cells p1_weeks1_deeds p1_weeks1_cells p1_logs0_facts p1_logs0_cells p1_logs1_facts p1_logs1_cells)) (Wr.runV (c_X2_copy hx10) S hK (hW.1.sub (ws' := (wLo g o_logs0_q0 o_logs0_q1 s4.2.2.2.2.2.2.2.2.2.2.2.2.2.2.2.1 s4.2.2.2.2.2.2.2.2.2.2.2.2.2.2.2.2.1 ++ wLo g p1_logs0_q0 p1_logs0_q1 p1_logs0_facts p1_logs0_cells)) [20, 21, 44, 45] rfl) (hW.2.1.sub (ws' := (wLo g o_logs0_q0 o_logs0_q1 s4.2.2.2.2.2.2.2.2.2.2.2.2.2.2.2.1 s4.2.2.2.2.2.2.2.2.2.2.2.2.2.2.2.2.1 ++ wLo g p1_logs0_q0 p1_logs0_q1 p1_logs0_facts p1_logs0_cells)) [20, 21, 44, 45] (by decide) rfl) 0 1 rfl rfl kVX8_78 rfl hl.1 [] rfl (Nat.le_of_ble_eq_true rfl) ⟨(Nat.le_of_ble_eq_true rfl), (Nat.le_of_ble_eq_true rfl)⟩ ⟨(Nat.zero_le _), (Nat.zero_le _)⟩ dX8_copy_104) hW hA [20, 21, 44, 45] rfl [(false, 0), (false, 1), (false, 2), (false, 3), (false, 4), (false, 5), (false, 6), (false, 7), (false, 8), (false, 9), (false, 10), (false, 11), (false, 12), (false, 13), (false, 14), (false, 15), (false, 16), (false, 17), (false, 18), (false, 19), (true, 0), (true, 1), (false, 22), (false, 23), (false, 24), (false, 25), (false, 26), (false, 27), (false, 28), (false, 29), (false, 30), (false, 31), (false, 32), (false, 33), (false, 34), (false, 35), (false, 36), (false, 37), (false, 38), (false, 39), (false, 40), (false, 41), (false, 42), (false, 43), (true, 2), (true, 3), (false, 46), (false, 47)] rfl (by decide) rfl (fun H locs hW => ?_)
      refine q_iinc (w := 1) (lv' := [(2, .int (s4.1 + 1)), (0, .ref o_q0), (1, .ref p1_q0)]) S dX8_copy_107 hl (k := 2) rfl ic_1 (by decide) rfl (fun ls hl => ?_)
      refine lv_goto (tgt := 57) S.1 S.2.1 dX8_copy_110 (by decide) ?_
      exact hI5 _ (Option.some.inj hf).symm _ _ _ (lv_sub hl [1, 2, 0] rfl) hW
    have hf := it_n hc7 hf
    by_cases hc11 : s4.1 = 1
    · have hf := it_p hc11 hf
      refine q_aald1 S hK hW.1 3 4 rfl rfl hc11 dX8_copy_67 ?_
      refine lv_aload_n S.1 S.2.1 dX8_copy_68 rfl (lv_at hl 1 rfl) ?_
      refine gfX8_31 S hK hW.1 24 rfl rfl dX8_copy_69 ?_
      refine lv_iload_n S.1 S.2.1 dX8_copy_72 rfl (lv_at hl 2 rfl) ?_
      refine q_aald1 S hK hW.1 27 4 rfl rfl hc11 dX8_copy_73 ?_
      obtain ⟨x12, hx12, hf⟩ := bnd_e hf
      refine Wr.go (ws2 := (wTo g o_q0 o_q1 o_q2 o_q3 o_towns0_q0 o_towns0_q1 o_towns0_q2 o_towns0_q3 o_towns0_q4 o_towns1_q0 o_towns1_q1 o_towns1_q2 o_towns1_q3 o_towns1_q4 o_q4 o_weeks0_q0 o_weeks0_q1 o_weeks1_q0 o_weeks1_q1 o_q5 o_logs0_q0 o_logs0_q1 o_logs1_q0 o_logs1_q1 x1 p1_length p1_fault p1_place x2 s4.2.1 s4.2.2.1 s4.2.2.2.1 s4.2.2.2.2.1 s4.2.2.2.2.2.1 x12.1 x12.2.1 x12.2.2.1 x12.2.2.2.1 x12.2.2.2.2 s4.2.2.2.2.2.2.2.2.2.2.2.1 s4.2.2.2.2.2.2.2.2.2.2.2.2.1 s4.2.2.2.2.2.2.2.2.2.2.2.2.2.1 s4.2.2.2.2.2.2.2.2.2.2.2.2.2.2.1 s4.2.2.2.2.2.2.2.2.2.2.2.2.2.2.2.1 s4.2.2.2.2.2.2.2.2.2.2.2.2.2.2.2.2.1 s4.2.2.2.2.2.2.2.2.2.2.2.2.2.2.2.2.2.1 s4.2.2.2.2.2.2.2.2.2.2.2.2.2.2.2.2.2.2 ++ wTo g p1_q0 p1_q1 p1_q2 p1_q3 p1_towns0_q0 p1_towns0_q1 p1_towns0_q2 p1_towns0_q3 p1_towns0_q4 p1_towns1_q0 p1_towns1_q1 p1_towns1_q2 p1_towns1_q3 p1_towns1_q4 p1_q4 p1_weeks0_q0 p1_weeks0_q1 p1_weeks1_q0 p1_weeks1_q1 p1_q5 p1_logs0_q0 p1_logs0_q1 p1_logs1_q0 p1_logs1_q1 p1_tape p1_length p1_fault p1_place p1_counts p1_towns0_people p1_towns0_wit p1_towns0_purse p1_towns0_hated p1_towns0_owed p1_towns1_people p1_towns1_wit p1_towns1_purse p1_towns1_hated p1_towns1_owed p1_weeks0_deeds p1_weeks0_cells p1_weeks1_deeds p1_weeks1_cells p1_logs0_facts p1_logs0_cells p1_logs1_facts p1_logs1_cells)) (Wr.runV (c_X9_copy hx12) S hK (hW.1.sub (ws' := (wTw g o_towns1_q0 o_towns1_q1 o_towns1_q2 o_towns1_q3 o_towns1_q4 s4.2.2.2.2.2.2.1 s4.2.2.2.2.2.2.2.1 s4.2.2.2.2.2.2.2.2.1 s4.2.2.2.2.2.2.2.2.2.1 s4.2.2.2.2.2.2.2.2.2.2.1 ++ wTw g p1_towns1_q0 p1_towns1_q1 p1_towns1_q2 p1_towns1_q3 p1_towns1_q4 p1_towns1_people p1_towns1_wit p1_towns1_purse p1_towns1_hated p1_towns1_owed)) [9, 10, 11, 12, 13, 33, 34, 35, 36, 37] rfl) (hW.2.1.sub (ws' := (wTw g o_towns1_q0 o_towns1_q1 o_towns1_q2 o_towns1_q3 o_towns1_q4 s4.2.2.2.2.2.2.1 s4.2.2.2.2.2.2.2.1 s4.2.2.2.2.2.2.2.2.1 s4.2.2.2.2.2.2.2.2.2.1 s4.2.2.2.2.2.2.2.2.2.2.1 ++ wTw g p1_towns1_q0 p1_towns1_q1 p1_towns1_q2 p1_towns1_q3 p1_towns1_q4 p1_towns1_people p1_towns1_wit p1_towns1_purse p1_towns1_hated p1_towns1_owed)) [9, 10, 11, 12, 13, 33, 34, 35, 36, 37] (by decide) rfl) 0 7 rfl rfl kVX8_63 rfl hl.1 [] rfl (Nat.le_of_ble_eq_true rfl) ⟨(Nat.le_of_ble_eq_true rfl), (Nat.le_of_ble_eq_true rfl)⟩ ⟨(Nat.zero_le _), (Nat.zero_le _)⟩ dX8_copy_74) hW hA [9, 10, 11, 12, 13, 33, 34, 35, 36, 37] rfl [(false, 0), (false, 1), (false, 2), (false, 3), (false, 4), (false, 5), (false, 6), (false, 7), (false, 8), (true, 0), (true, 1), (true, 2), (true, 3), (true, 4), (false, 14), (false, 15), (false, 16), (false, 17), (false, 18), (false, 19), (false, 20), (false, 21), (false, 22), (false, 23), (false, 24), (false, 25), (false, 26), (false, 27), (false, 28), (false, 29), (false, 30), (false, 31), (false, 32), (true, 5), (true, 6), (true, 7), (true, 8), (true, 9), (false, 38), (false, 39), (false, 40), (false, 41), (false, 42), (false, 43), (false, 44), (false, 45), (false, 46), (false, 47)] rfl (by decide) rfl (fun H locs hW => ?_)
      refine lv_aload_n S.1 S.2.1 dX8_copy_77 rfl (lv_at hl 0 rfl) ?_
      refine gfX8_37 S hK hW.1 0 rfl rfl dX8_copy_78 ?_
      refine lv_iload_n S.1 S.2.1 dX8_copy_81 rfl (lv_at hl 2 rfl) ?_
      refine q_aald1 S hK hW.1 14 5 rfl rfl hc11 dX8_copy_82 ?_
      refine lv_aload_n S.1 S.2.1 dX8_copy_83 rfl (lv_at hl 1 rfl) ?_
      refine gfX8_37 S hK hW.1 24 rfl rfl dX8_copy_84 ?_
      refine lv_iload_n S.1 S.2.1 dX8_copy_87 rfl (lv_at hl 2 rfl) ?_
      refine q_aald1 S hK hW.1 38 5 rfl rfl hc11 dX8_copy_88 ?_
      obtain ⟨x13, hx13, hf⟩ := bnd_e hf
      refine Wr.go (ws2 := (wTo g o_q0 o_q1 o_q2 o_q3 o_towns0_q0 o_towns0_q1 o_towns0_q2 o_towns0_q3 o_towns0_q4 o_towns1_q0 o_towns1_q1 o_towns1_q2 o_towns1_q3 o_towns1_q4 o_q4 o_weeks0_q0 o_weeks0_q1 o_weeks1_q0 o_weeks1_q1 o_q5 o_logs0_q0 o_logs0_q1 o_logs1_q0 o_logs1_q1 x1 p1_length p1_fault p1_place x2 s4.2.1 s4.2.2.1 s4.2.2.2.1 s4.2.2.2.2.1 s4.2.2.2.2.2.1 x12.1 x12.2.1 x12.2.2.1 x12.2.2.2.1 x12.2.2.2.2 s4.2.2.2.2.2.2.2.2.2.2.2.1 s4.2.2.2.2.2.2.2.2.2.2.2.2.1 x13.1 x13.2 s4.2.2.2.2.2.2.2.2.2.2.2.2.2.2.2.1 s4.2.2.2.2.2.2.2.2.2.2.2.2.2.2.2.2.1 s4.2.2.2.2.2.2.2.2.2.2.2.2.2.2.2.2.2.1 s4.2.2.2.2.2.2.2.2.2.2.2.2.2.2.2.2.2.2 ++ wTo g p1_q0 p1_q1 p1_q2 p1_q3 p1_towns0_q0 p1_towns0_q1 p1_towns0_q2 p1_towns0_q3 p1_towns0_q4 p1_towns1_q0 p1_towns1_q1 p1_towns1_q2 p1_towns1_q3 p1_towns1_q4 p1_q4 p1_weeks0_q0 p1_weeks0_q1 p1_weeks1_q0 p1_weeks1_q1 p1_q5 p1_logs0_q0 p1_logs0_q1 p1_logs1_q0 p1_logs1_q1 p1_tape p1_length p1_fault p1_place p1_counts p1_towns0_people p1_towns0_wit p1_towns0_purse p1_towns0_hated p1_towns0_owed p1_towns1_people p1_towns1_wit p1_towns1_purse p1_towns1_hated p1_towns1_owed p1_weeks0_deeds p1_weeks0_cells p1_weeks1_deeds p1_weeks1_cells p1_logs0_facts p1_logs0_cells p1_logs1_facts p1_logs1_cells)) (Wr.runV (c_X10_copy hx13) S hK (hW.1.sub (ws' := (wWe g o_weeks1_q0 o_weeks1_q1 s4.2.2.2.2.2.2.2.2.2.2.2.2.2.1 s4.2.2.2.2.2.2.2.2.2.2.2.2.2.2.1 ++ wWe g p1_weeks1_q0 p1_weeks1_q1 p1_weeks1_deeds p1_weeks1_cells)) [17, 18, 41, 42] rfl) (hW.2.1.sub (ws' := (wWe g o_weeks1_q0 o_weeks1_q1 s4.2.2.2.2.2.2.2.2.2.2.2.2.2.1 s4.2.2.2.2.2.2.2.2.2.2.2.2.2.2.1 ++ wWe g p1_weeks1_q0 p1_weeks1_q1 p1_weeks1_deeds p1_weeks1_cells)) [17, 18, 41, 42] (by decide) rfl) 0 8 rfl rfl kVX8_71 rfl hl.1 [] rfl (Nat.le_of_ble_eq_true rfl) ⟨(Nat.le_of_ble_eq_true rfl), (Nat.le_of_ble_eq_true rfl)⟩ ⟨(Nat.zero_le _), (Nat.zero_le _)⟩ dX8_copy_89) hW hA [17, 18, 41, 42] rfl [(false, 0), (false, 1), (false, 2), (false, 3), (false, 4), (false, 5), (false, 6), (false, 7), (false, 8), (false, 9), (false, 10), (false, 11), (false, 12), (false, 13), (false, 14), (false, 15), (false, 16), (true, 0), (true, 1), (false, 19), (false, 20), (false, 21), (false, 22), (false, 23), (false, 24), (false, 25), (false, 26), (false, 27), (false, 28), (false, 29), (false, 30), (false, 31), (false, 32), (false, 33), (false, 34), (false, 35), (false, 36), (false, 37), (false, 38), (false, 39), (false, 40), (true, 2), (true, 3), (false, 43), (false, 44), (false, 45), (false, 46), (false, 47)] rfl (by decide) rfl (fun H locs hW => ?_)
      refine lv_aload_n S.1 S.2.1 dX8_copy_92 rfl (lv_at hl 0 rfl) ?_
      refine gfX8_43 S hK hW.1 0 rfl rfl dX8_copy_93 ?_
      refine lv_iload_n S.1 S.2.1 dX8_copy_96 rfl (lv_at hl 2 rfl) ?_
      refine q_aald1 S hK hW.1 19 6 rfl rfl hc11 dX8_copy_97 ?_
      refine lv_aload_n S.1 S.2.1 dX8_copy_98 rfl (lv_at hl 1 rfl) ?_
      refine gfX8_43 S hK hW.1 24 rfl rfl dX8_copy_99 ?_
      refine lv_iload_n S.1 S.2.1 dX8_copy_102 rfl (lv_at hl 2 rfl) ?_
      refine q_aald1 S hK hW.1 43 6 rfl rfl hc11 dX8_copy_103 ?_
      obtain ⟨x14, hx14, hf⟩ := bnd_e hf
      refine Wr.go (ws2 := (wTo g o_q0 o_q1 o_q2 o_q3 o_towns0_q0 o_towns0_q1 o_towns0_q2 o_towns0_q3 o_towns0_q4 o_towns1_q0 o_towns1_q1 o_towns1_q2 o_towns1_q3 o_towns1_q4 o_q4 o_weeks0_q0 o_weeks0_q1 o_weeks1_q0 o_weeks1_q1 o_q5 o_logs0_q0 o_logs0_q1 o_logs1_q0 o_logs1_q1 x1 p1_length p1_fault p1_place x2 s4.2.1 s4.2.2.1 s4.2.2.2.1 s4.2.2.2.2.1 s4.2.2.2.2.2.1 x12.1 x12.2.1 x12.2.2.1 x12.2.2.2.1 x12.2.2.2.2 s4.2.2.2.2.2.2.2.2.2.2.2.1 s4.2.2.2.2.2.2.2.2.2.2.2.2.1 x13.1 x13.2 s4.2.2.2.2.2.2.2.2.2.2.2.2.2.2.2.1 s4.2.2.2.2.2.2.2.2.2.2.2.2.2.2.2.2.1 x14.1 x14.2 ++ wTo g p1_q0 p1_q1 p1_q2 p1_q3 p1_towns0_q0 p1_towns0_q1 p1_towns0_q2 p1_towns0_q3 p1_towns0_q4 p1_towns1_q0 p1_towns1_q1 p1_towns1_q2 p1_towns1_q3 p1_towns1_q4 p1_q4 p1_weeks0_q0 p1_weeks0_q1 p1_weeks1_q0 p1_weeks1_q1 p1_q5 p1_logs0_q0 p1_logs0_q1 p1_logs1_q0 p1_logs1_q1 p1_tape p1_length p1_fault p1_place p1_counts p1_towns0_people p1_towns0_wit p1_towns0_purse p1_towns0_hated p1_towns0_owed p1_towns1_people p1_towns1_wit p1_towns1_purse p1_towns1_hated p1_towns1_owed p1_weeks0_deeds p1_weeks0_cells p1_weeks1_deeds p1_weeks1_cells p1_logs0_facts p1_logs0_cells p1_logs1_facts p1_logs1_cells)) (Wr.runV (c_X2_copy hx14) S hK (hW.1.sub (ws' := (wLo g o_logs1_q0 o_logs1_q1 s4.2.2.2.2.2.2.2.2.2.2.2.2.2.2.2.2.2.1 s4.2.2.2.2.2.2.2.2.2.2.2.2.2.2.2.2.2.2 ++ wLo g p1_logs1_q0 p1_logs1_q1 p1_logs1_facts p1_logs1_cells)) [22, 23, 46, 47] rfl) (hW.2.1.sub (ws' := (wLo g o_logs1_q0 o_logs1_q1 s4.2.2.2.2.2.2.2.2.2.2.2.2.2.2.2.2.2.1 s4.2.2.2.2.2.2.2.2.2.2.2.2.2.2.2.2.2.2 ++ wLo g p1_logs1_q0 p1_logs1_q1 p1_logs1_facts p1_logs1_cells)) [22, 23, 46, 47] (by decide) rfl) 0 1 rfl rfl kVX8_78 rfl hl.1 [] rfl (Nat.le_of_ble_eq_true rfl) ⟨(Nat.le_of_ble_eq_true rfl), (Nat.le_of_ble_eq_true rfl)⟩ ⟨(Nat.zero_le _), (Nat.zero_le _)⟩ dX8_copy_104) hW hA [22, 23, 46, 47] rfl [(false, 0), (false, 1), (false, 2), (false, 3), (false, 4), (false, 5), (false, 6), (false, 7), (false, 8), (false, 9), (false, 10), (false, 11), (false, 12), (false, 13), (false, 14), (false, 15), (false, 16), (false, 17), (false, 18), (false, 19), (false, 20), (false, 21), (true, 0), (true, 1), (false, 24), (false, 25), (false, 26), (false, 27), (false, 28), (false, 29), (false, 30), (false, 31), (false, 32), (false, 33), (false, 34), (false, 35), (false, 36), (false, 37), (false, 38), (false, 39), (false, 40), (false, 41), (false, 42), (false, 43), (false, 44), (false, 45), (true, 2), (true, 3)] rfl (by decide) rfl (fun H locs hW => ?_)
      refine q_iinc (w := 1) (lv' := [(2, .int (s4.1 + 1)), (0, .ref o_q0), (1, .ref p1_q0)]) S dX8_copy_107 hl (k := 2) rfl ic_1 (by decide) rfl (fun ls hl => ?_)
      refine lv_goto (tgt := 57) S.1 S.2.1 dX8_copy_110 (by decide) ?_
      exact hI5 _ (Option.some.inj hf).symm _ _ _ (lv_sub hl [1, 2, 0] rfl) hW
    have hf := it_n hc11 hf
    cases hf
