def f_X10_add (fu : Nat) (p2_n : Nat) (o_deeds : Int32) (o_cells : (Nat → Int32)) (p2_f : (Nat → Int32)) (p1 : Int32) : Option (Int32 × (Nat → Int32)) := if (40 : Int32) ≤ o_deeds then some (o_deeds, o_cells) else if (3 : Int32) ≤ (nI p2_n) then bnd (α := (Nat → Int32)) (wri 160 o_cells ((4 : Int32) * o_deeds) p1) (fun x1 => bnd (α := (Nat → Int32)) (cpi p2_n 160 p2_f x1 (0 : Int32) (((4 : Int32) * o_deeds) + (1 : Int32)) (3 : Int32)) (fun x2 => ltn (o_deeds + (1 : Int32)) (fun x3 => some (x3, x2)))) else some (o_deeds, o_cells)
set_option maxHeartbeats 4000000 in
set_option maxRecDepth 100000 in
theorem c_X10_add {l : Launch} {D : va_G} {g : Nat → ClassId} {fu : Nat} {o_q0 o_q1 p2_q0 : Nat} {p2_n : Nat} {o_deeds : Int32} {o_cells : (Nat → Int32)} {p2_f : (Nat → Int32)} {p1 : Int32} {r : Int32 × (Nat → Int32)} (hf : f_X10_add fu p2_n o_deeds o_cells p2_f p1 = some r) : Wr l D (gy g) yX10_add cX10_add 3 none 1 [.ref o_q0, .int p1, .ref p2_q0] (wWe g o_q0 o_q1 o_deeds o_cells ++ wAI g p2_q0 p2_n p2_f) (wWe g o_q0 o_q1 r.1 r.2 ++ wAI g p2_q0 p2_n p2_f) none := by
  refine Wr.ofV (by decide) (Nat.le_of_ble_eq_true rfl) ?_
  intro p e s m args below meth c Q A S hK hA hret ls hl hW
  have hl : lv_has ls 3 [(0, .ref o_q0), (1, .int p1), (2, .ref p2_q0)] := hl
  refine lv_aload_n S.1 S.2.1 dX10_add_0 rfl (lv_at hl 0 rfl) ?_
  refine gfX10_9 S hK hW.1 0 rfl rfl dX10_add_1 ?_
  refine lv_bipush (v := 40) S.1 S.2.1 dX10_add_4 bp_40 ?_
  refine lv_icmp_ge (tgt := 15) S.1 S.2.1 dX10_add_6 (by decide) (fun c_ => ?_) (fun c_ => ?_)
  · have hf := it_p c_ hf
    have e_ := Option.some.inj hf
    subst e_
    exact hret _ _ _ _ dX10_add_15 hW
  · have hf := it_n c_ hf
    refine lv_aload_n S.1 S.2.1 dX10_add_9 rfl (lv_at hl 2 rfl) ?_
    refine q_alen S hK hW.1 2 0 rfl rfl (v := (nI p2_n)) rfl dX10_add_10 ?_
    refine lv_iconst (v := 3) S.1 S.2.1 dX10_add_11 ic_3 ?_
    refine lv_icmp_ge (tgt := 16) S.1 S.2.1 dX10_add_12 (by decide) (fun c_ => ?_) (fun c_ => ?_)
    · have hf := it_p c_ hf
      refine lv_aload_n S.1 S.2.1 dX10_add_16 rfl (lv_at hl 0 rfl) ?_
      refine gfX10_15 S hK hW.1 0 rfl rfl dX10_add_17 ?_
      refine lv_iconst (v := 4) S.1 S.2.1 dX10_add_20 ic_4 ?_
      refine lv_aload_n S.1 S.2.1 dX10_add_21 rfl (lv_at hl 0 rfl) ?_
      refine gfX10_9 S hK hW.1 0 rfl rfl dX10_add_22 ?_
      refine lv_imul S.1 S.2.1 dX10_add_25 ?_
      refine lv_iload_n S.1 S.2.1 dX10_add_26 rfl (lv_at hl 1 rfl) ?_
      obtain ⟨x1, hx1, hf⟩ := bnd_e hf
      refine q_iast (ws2 := (wWe g o_q0 o_q1 o_deeds x1 ++ wAI g p2_q0 p2_n p2_f)) S hK hW 1 0 rfl rfl hx1 rfl dX10_add_27 (fun H locs hW => ?_)
      refine lv_aload_n S.1 S.2.1 dX10_add_28 rfl (lv_at hl 2 rfl) ?_
      refine lv_iconst (v := 0) S.1 S.2.1 dX10_add_29 ic_0 ?_
      refine lv_aload_n S.1 S.2.1 dX10_add_30 rfl (lv_at hl 0 rfl) ?_
      refine gfX10_15 S hK hW.1 0 rfl rfl dX10_add_31 ?_
      refine lv_iconst (v := 4) S.1 S.2.1 dX10_add_34 ic_4 ?_
      refine lv_aload_n S.1 S.2.1 dX10_add_35 rfl (lv_at hl 0 rfl) ?_
      refine gfX10_9 S hK hW.1 0 rfl rfl dX10_add_36 ?_
      refine lv_imul S.1 S.2.1 dX10_add_39 ?_
      refine lv_iconst (v := 1) S.1 S.2.1 dX10_add_40 ic_1 ?_
      refine lv_iadd S.1 S.2.1 dX10_add_41 ?_
      refine lv_iconst (v := 3) S.1 S.2.1 dX10_add_42 ic_3 ?_
      obtain ⟨x2, hx2, hf⟩ := bnd_e hf
      refine q_copyi (ws2 := (wWe g o_q0 o_q1 o_deeds x2 ++ wAI g p2_q0 p2_n p2_f)) S q_505 q_507 q_506 q_18 hK hW hl.1 2 1 0 0 rfl rfl rfl rfl hx2 rfl (Nat.le_of_ble_eq_true rfl) (Nat.le_of_ble_eq_true rfl) dX10_add_43 (fun H locs hW => ?_)
      refine lv_aload_n S.1 S.2.1 dX10_add_46 rfl (lv_at hl 0 rfl) ?_
      refine lv_dup S.1 S.2.1 dX10_add_47 rfl ?_
      refine gfX10_9 S hK hW.1 0 rfl rfl dX10_add_48 ?_
      refine lv_iconst (v := 1) S.1 S.2.1 dX10_add_51 ic_1 ?_
      refine lv_iadd S.1 S.2.1 dX10_add_52 ?_
      refine lv_topi (fun x3 ex3 => ?_)
      have hf := ltn_e hf ex3
      refine pfX10_9 (ws2 := (wWe g o_q0 o_q1 x3 x2 ++ wAI g p2_q0 p2_n p2_f)) S hK hW 0 rfl rfl rfl (Nat.le_of_ble_eq_true rfl) rfl dX10_add_53 (fun H locs hW => ?_)
      have e_ := Option.some.inj hf
      subst e_
      exact hret _ _ _ _ dX10_add_56 hW
    · have hf := it_n c_ hf
      have e_ := Option.some.inj hf
      subst e_
      exact hret _ _ _ _ dX10_add_15 hW
def f_X10_copy (fu : Nat) (o_deeds : Int32) (o_cells : (Nat → Int32)) (w_deeds : Int32) (w_cells : (Nat → Int32)) : Option (Int32 × (Nat → Int32)) := bnd (α := (Nat → Int32)) (cpi 160 160 w_cells o_cells (0 : Int32) (0 : Int32) ((4 : Int32) * w_deeds)) (fun x1 => some (w_deeds, x1))
set_option maxHeartbeats 4000000 in
set_option maxRecDepth 100000 in
theorem c_X10_copy {l : Launch} {D : va_G} {g : Nat → ClassId} {fu : Nat} {o_q0 o_q1 w_q0 w_q1 : Nat} {o_deeds : Int32} {o_cells : (Nat → Int32)} {w_deeds : Int32} {w_cells : (Nat → Int32)} {r : Int32 × (Nat → Int32)} (hf : f_X10_copy fu o_deeds o_cells w_deeds w_cells = some r) : Wr l D (gy g) yX10_copy cX10_copy 2 none 1 [.ref o_q0, .ref w_q0] (wWe g o_q0 o_q1 o_deeds o_cells ++ wWe g w_q0 w_q1 w_deeds w_cells) (wWe g o_q0 o_q1 r.1 r.2 ++ wWe g w_q0 w_q1 w_deeds w_cells) none := by
  refine Wr.ofV (by decide) (Nat.le_of_ble_eq_true rfl) ?_
  intro p e s m args below meth c Q A S hK hA hret ls hl hW
  have hl : lv_has ls 2 [(0, .ref o_q0), (1, .ref w_q0)] := hl
  refine lv_aload_n S.1 S.2.1 dX10_copy_0 rfl (lv_at hl 0 rfl) ?_
  refine lv_aload_n S.1 S.2.1 dX10_copy_1 rfl (lv_at hl 1 rfl) ?_
  refine gfX10_9 S hK hW.1 2 rfl rfl dX10_copy_2 ?_
  refine pfX10_9 (ws2 := (wWe g o_q0 o_q1 w_deeds o_cells ++ wWe g w_q0 w_q1 w_deeds w_cells)) S hK hW 0 rfl rfl rfl (Nat.le_of_ble_eq_true rfl) rfl dX10_copy_5 (fun H locs hW => ?_)
  refine lv_aload_n S.1 S.2.1 dX10_copy_8 rfl (lv_at hl 1 rfl) ?_
  refine gfX10_15 S hK hW.1 2 rfl rfl dX10_copy_9 ?_
  refine lv_iconst (v := 0) S.1 S.2.1 dX10_copy_12 ic_0 ?_
  refine lv_aload_n S.1 S.2.1 dX10_copy_13 rfl (lv_at hl 0 rfl) ?_
  refine gfX10_15 S hK hW.1 0 rfl rfl dX10_copy_14 ?_
  refine lv_iconst (v := 0) S.1 S.2.1 dX10_copy_17 ic_0 ?_
  refine lv_iconst (v := 4) S.1 S.2.1 dX10_copy_18 ic_4 ?_
  refine lv_aload_n S.1 S.2.1 dX10_copy_19 rfl (lv_at hl 1 rfl) ?_
  refine gfX10_9 S hK hW.1 2 rfl rfl dX10_copy_20 ?_
  refine lv_imul S.1 S.2.1 dX10_copy_23 ?_
  obtain ⟨x1, hx1, hf⟩ := bnd_e hf
  refine q_copyi (ws2 := (wWe g o_q0 o_q1 w_deeds x1 ++ wWe g w_q0 w_q1 w_deeds w_cells)) S q_505 q_507 q_506 q_18 hK hW hl.1 3 1 0 0 rfl rfl rfl rfl hx1 rfl (Nat.le_of_ble_eq_true rfl) (Nat.le_of_ble_eq_true rfl) dX10_copy_24 (fun H locs hW => ?_)
  have e_ := Option.some.inj hf
  subst e_
  exact hret _ _ _ _ dX10_copy_27 hW
def f_X10_tell (fu : Nat) (o_deeds : Int32) (o_cells : (Nat → Int32)) (p1 : Int32) (p2 : Int32) : Option (Int32) := bnd (α := (Int32) ⊕ (Unit)) (if p1 = (-1 : Int32) then if p2 = 0 then some (.inl o_deeds) else some (.inr ()) else some (.inr ())) (fun x1 => cse x1 (fun y4 => some y4) (fun v2 => if p1 < 0 then some (-2 : Int32) else if o_deeds ≤ p1 then some (-2 : Int32) else if p2 < 0 then some (-2 : Int32) else if p2 ≤ (3 : Int32) then bnd (α := Int32) (rdi 160 o_cells (((4 : Int32) * p1) + p2)) (fun x3 => some x3) else some (-2 : Int32)))
set_option maxHeartbeats 4000000 in
set_option maxRecDepth 100000 in
theorem c_X10_tell {l : Launch} {D : va_G} {g : Nat → ClassId} {fu : Nat} {o_q0 o_q1 : Nat} {o_deeds : Int32} {o_cells : (Nat → Int32)} {p1 : Int32} {p2 : Int32} {r : Int32} (hf : f_X10_tell fu o_deeds o_cells p1 p2 = some r) : Rd l D (gy g) yX10_tell cX10_tell 3 (some .int) 0 [.ref o_q0, .int p1, .int p2] (wWe g o_q0 o_q1 o_deeds o_cells) (some (.int r)) := by
  refine Rd.ofI (by decide) (Nat.le_of_ble_eq_true rfl) ?_
  intro p e s m args below meth c Q S hK hP hret ls hl
  have hl : lv_has ls 3 [(0, .ref o_q0), (1, .int p1), (2, .int p2)] := hl
  refine lv_iload_n S.1 S.2.1 dX10_tell_0 rfl (lv_at hl 1 rfl) ?_
  refine lv_iconst (v := (-1)) S.1 S.2.1 dX10_tell_1 ic_m1 ?_
  obtain ⟨x1, hf_, hk1⟩ := bnd_e hf
  have hJ1 : ∀ (v2 : Unit), x1 = .inr v2 → ∀ (ls : Array Slot), lv_has ls 3 [(0, .ref o_q0), (1, .int p1), (2, .int p2)] → W p l e (rmD 0) s m args below meth c s.heap [] 0 0 Q (F0 m 14 ls []) := by
    intro v2 e_ ls hl
    subst e_
    have hf := cse_r hk1
    refine lv_iload_n S.1 S.2.1 dX10_tell_14 rfl (lv_at hl 1 rfl) ?_
    refine lv_if_lt (tgt := 35) S.1 S.2.1 dX10_tell_15 (by decide) (fun c_ => ?_) (fun c_ => ?_)
    · have hf := it_p c_ hf
      refine lv_bipush (v := (-2)) S.1 S.2.1 dX10_tell_35 bp_m2 ?_
      have e_ := Option.some.inj hf
      subst e_
      exact hret _ _ dX10_tell_37
    · have hf := it_n c_ hf
      refine lv_iload_n S.1 S.2.1 dX10_tell_18 rfl (lv_at hl 1 rfl) ?_
      refine lv_aload_n S.1 S.2.1 dX10_tell_19 rfl (lv_at hl 0 rfl) ?_
      refine gfX10_9 S hK hP 0 rfl rfl dX10_tell_20 ?_
      refine lv_icmp_ge (tgt := 35) S.1 S.2.1 dX10_tell_23 (by decide) (fun c_ => ?_) (fun c_ => ?_)
      · have hf := it_p c_ hf
        refine lv_bipush (v := (-2)) S.1 S.2.1 dX10_tell_35 bp_m2 ?_
        have e_ := Option.some.inj hf
        subst e_
        exact hret _ _ dX10_tell_37
      · have hf := it_n c_ hf
        refine lv_iload_n S.1 S.2.1 dX10_tell_26 rfl (lv_at hl 2 rfl) ?_
        refine lv_if_lt (tgt := 35) S.1 S.2.1 dX10_tell_27 (by decide) (fun c_ => ?_) (fun c_ => ?_)
        · have hf := it_p c_ hf
          refine lv_bipush (v := (-2)) S.1 S.2.1 dX10_tell_35 bp_m2 ?_
          have e_ := Option.some.inj hf
          subst e_
          exact hret _ _ dX10_tell_37
        · have hf := it_n c_ hf
          refine lv_iload_n S.1 S.2.1 dX10_tell_30 rfl (lv_at hl 2 rfl) ?_
          refine lv_iconst (v := 3) S.1 S.2.1 dX10_tell_31 ic_3 ?_
          refine lv_icmp_le (tgt := 38) S.1 S.2.1 dX10_tell_32 (by decide) (fun c_ => ?_) (fun c_ => ?_)
          · have hf := it_p c_ hf
            refine lv_aload_n S.1 S.2.1 dX10_tell_38 rfl (lv_at hl 0 rfl) ?_
            refine gfX10_15 S hK hP 0 rfl rfl dX10_tell_39 ?_
            refine lv_iconst (v := 4) S.1 S.2.1 dX10_tell_42 ic_4 ?_
            refine lv_iload_n S.1 S.2.1 dX10_tell_43 rfl (lv_at hl 1 rfl) ?_
            refine lv_imul S.1 S.2.1 dX10_tell_44 ?_
            refine lv_iload_n S.1 S.2.1 dX10_tell_45 rfl (lv_at hl 2 rfl) ?_
            refine lv_iadd S.1 S.2.1 dX10_tell_46 ?_
            obtain ⟨x3, hx3, hf⟩ := bnd_e hf
            refine q_iald S hK hP 1 0 rfl rfl hx3 dX10_tell_47 ?_
            have e_ := Option.some.inj hf
            subst e_
            exact hret _ _ dX10_tell_48
          · have hf := it_n c_ hf
            refine lv_bipush (v := (-2)) S.1 S.2.1 dX10_tell_35 bp_m2 ?_
            have e_ := Option.some.inj hf
            subst e_
            exact hret _ _ dX10_tell_37
  have hf := hf_
  refine lv_icmp_ne (tgt := 14) S.1 S.2.1 dX10_tell_2 (by decide) (fun c_ => ?_) (fun c_ => ?_)
  · have hf := it_n c_ hf
    exact hJ1 _ (Option.some.inj hf).symm _ (lv_sub hl [0, 1, 2] rfl)
  · have hf := it_p c_ hf
    refine lv_iload_n S.1 S.2.1 dX10_tell_5 rfl (lv_at hl 2 rfl) ?_
    refine lv_if_ne (tgt := 14) S.1 S.2.1 dX10_tell_6 (by decide) (fun c_ => ?_) (fun c_ => ?_)
    · have hf := it_n c_ hf
      exact hJ1 _ (Option.some.inj hf).symm _ (lv_sub hl [0, 1, 2] rfl)
    · have hf := it_p c_ hf
      refine lv_aload_n S.1 S.2.1 dX10_tell_9 rfl (lv_at hl 0 rfl) ?_
      refine gfX10_9 S hK hP 0 rfl rfl dX10_tell_10 ?_
      have e_ := Option.some.inj hf
      subst e_
      have hf := cse_l hk1
      have e_ := Option.some.inj hf
      subst e_
      exact hret _ _ dX10_tell_13
def f_X2_add (fu : Nat) (p2_n : Nat) (o_facts : Int32) (o_cells : (Nat → Int32)) (p2_f : (Nat → Int32)) (p1 : Int32) : Option (Int32 × (Nat → Int32)) := if (8 : Int32) ≤ o_facts then some (o_facts, o_cells) else if (2 : Int32) ≤ (nI p2_n) then bnd (α := (Nat → Int32)) (wri 24 o_cells ((3 : Int32) * o_facts) p1) (fun x1 => bnd (α := (Nat → Int32)) (cpi p2_n 24 p2_f x1 (0 : Int32) (((3 : Int32) * o_facts) + (1 : Int32)) (2 : Int32)) (fun x2 => ltn (o_facts + (1 : Int32)) (fun x3 => some (x3, x2)))) else some (o_facts, o_cells)
set_option maxHeartbeats 4000000 in
set_option maxRecDepth 100000 in
theorem c_X2_add {l : Launch} {D : va_G} {g : Nat → ClassId} {fu : Nat} {o_q0 o_q1 p2_q0 : Nat} {p2_n : Nat} {o_facts : Int32} {o_cells : (Nat → Int32)} {p2_f : (Nat → Int32)} {p1 : Int32} {r : Int32 × (Nat → Int32)} (hf : f_X2_add fu p2_n o_facts o_cells p2_f p1 = some r) : Wr l D (gy g) yX2_add cX2_add 3 none 1 [.ref o_q0, .int p1, .ref p2_q0] (wLo g o_q0 o_q1 o_facts o_cells ++ wAI g p2_q0 p2_n p2_f) (wLo g o_q0 o_q1 r.1 r.2 ++ wAI g p2_q0 p2_n p2_f) none := by
  refine Wr.ofV (by decide) (Nat.le_of_ble_eq_true rfl) ?_
  intro p e s m args below meth c Q A S hK hA hret ls hl hW
  have hl : lv_has ls 3 [(0, .ref o_q0), (1, .int p1), (2, .ref p2_q0)] := hl
  refine lv_aload_n S.1 S.2.1 dX2_add_0 rfl (lv_at hl 0 rfl) ?_
  refine gfX2_9 S hK hW.1 0 rfl rfl dX2_add_1 ?_
  refine lv_bipush (v := 8) S.1 S.2.1 dX2_add_4 bp_8 ?_
  refine lv_icmp_ge (tgt := 15) S.1 S.2.1 dX2_add_6 (by decide) (fun c_ => ?_) (fun c_ => ?_)
  · have hf := it_p c_ hf
    have e_ := Option.some.inj hf
    subst e_
    exact hret _ _ _ _ dX2_add_15 hW
  · have hf := it_n c_ hf
    refine lv_aload_n S.1 S.2.1 dX2_add_9 rfl (lv_at hl 2 rfl) ?_
    refine q_alen S hK hW.1 2 0 rfl rfl (v := (nI p2_n)) rfl dX2_add_10 ?_
    refine lv_iconst (v := 2) S.1 S.2.1 dX2_add_11 ic_2 ?_
    refine lv_icmp_ge (tgt := 16) S.1 S.2.1 dX2_add_12 (by decide) (fun c_ => ?_) (fun c_ => ?_)
    · have hf := it_p c_ hf
      refine lv_aload_n S.1 S.2.1 dX2_add_16 rfl (lv_at hl 0 rfl) ?_
      refine gfX2_15 S hK hW.1 0 rfl rfl dX2_add_17 ?_
      refine lv_iconst (v := 3) S.1 S.2.1 dX2_add_20 ic_3 ?_
      refine lv_aload_n S.1 S.2.1 dX2_add_21 rfl (lv_at hl 0 rfl) ?_
      refine gfX2_9 S hK hW.1 0 rfl rfl dX2_add_22 ?_
      refine lv_imul S.1 S.2.1 dX2_add_25 ?_
      refine lv_iload_n S.1 S.2.1 dX2_add_26 rfl (lv_at hl 1 rfl) ?_
      obtain ⟨x1, hx1, hf⟩ := bnd_e hf
      refine q_iast (ws2 := (wLo g o_q0 o_q1 o_facts x1 ++ wAI g p2_q0 p2_n p2_f)) S hK hW 1 0 rfl rfl hx1 rfl dX2_add_27 (fun H locs hW => ?_)
      refine lv_aload_n S.1 S.2.1 dX2_add_28 rfl (lv_at hl 2 rfl) ?_
      refine lv_iconst (v := 0) S.1 S.2.1 dX2_add_29 ic_0 ?_
      refine lv_aload_n S.1 S.2.1 dX2_add_30 rfl (lv_at hl 0 rfl) ?_
      refine gfX2_15 S hK hW.1 0 rfl rfl dX2_add_31 ?_
      refine lv_iconst (v := 3) S.1 S.2.1 dX2_add_34 ic_3 ?_
      refine lv_aload_n S.1 S.2.1 dX2_add_35 rfl (lv_at hl 0 rfl) ?_
      refine gfX2_9 S hK hW.1 0 rfl rfl dX2_add_36 ?_
      refine lv_imul S.1 S.2.1 dX2_add_39 ?_
      refine lv_iconst (v := 1) S.1 S.2.1 dX2_add_40 ic_1 ?_
      refine lv_iadd S.1 S.2.1 dX2_add_41 ?_
      refine lv_iconst (v := 2) S.1 S.2.1 dX2_add_42 ic_2 ?_
      obtain ⟨x2, hx2, hf⟩ := bnd_e hf
      refine q_copyi (ws2 := (wLo g o_q0 o_q1 o_facts x2 ++ wAI g p2_q0 p2_n p2_f)) S q_512 q_507 q_506 q_18 hK hW hl.1 2 1 0 0 rfl rfl rfl rfl hx2 rfl (Nat.le_of_ble_eq_true rfl) (Nat.le_of_ble_eq_true rfl) dX2_add_43 (fun H locs hW => ?_)
      refine lv_aload_n S.1 S.2.1 dX2_add_46 rfl (lv_at hl 0 rfl) ?_
      refine lv_dup S.1 S.2.1 dX2_add_47 rfl ?_
      refine gfX2_9 S hK hW.1 0 rfl rfl dX2_add_48 ?_
      refine lv_iconst (v := 1) S.1 S.2.1 dX2_add_51 ic_1 ?_
      refine lv_iadd S.1 S.2.1 dX2_add_52 ?_
      refine lv_topi (fun x3 ex3 => ?_)
      have hf := ltn_e hf ex3
      refine pfX2_9 (ws2 := (wLo g o_q0 o_q1 x3 x2 ++ wAI g p2_q0 p2_n p2_f)) S hK hW 0 rfl rfl rfl (Nat.le_of_ble_eq_true rfl) rfl dX2_add_53 (fun H locs hW => ?_)
      have e_ := Option.some.inj hf
      subst e_
      exact hret _ _ _ _ dX2_add_56 hW
    · have hf := it_n c_ hf
      have e_ := Option.some.inj hf
      subst e_
      exact hret _ _ _ _ dX2_add_15 hW
def f_X2_copy (fu : Nat) (o_facts : Int32) (o_cells : (Nat → Int32)) (l_facts : Int32) (l_cells : (Nat → Int32)) : Option (Int32 × (Nat → Int32)) := bnd (α := (Nat → Int32)) (cpi 24 24 l_cells o_cells (0 : Int32) (0 : Int32) ((3 : Int32) * l_facts)) (fun x1 => some (l_facts, x1))
set_option maxHeartbeats 4000000 in
set_option maxRecDepth 100000 in
theorem c_X2_copy {l : Launch} {D : va_G} {g : Nat → ClassId} {fu : Nat} {o_q0 o_q1 l_q0 l_q1 : Nat} {o_facts : Int32} {o_cells : (Nat → Int32)} {l_facts : Int32} {l_cells : (Nat → Int32)} {r : Int32 × (Nat → Int32)} (hf : f_X2_copy fu o_facts o_cells l_facts l_cells = some r) : Wr l D (gy g) yX2_copy cX2_copy 2 none 1 [.ref o_q0, .ref l_q0] (wLo g o_q0 o_q1 o_facts o_cells ++ wLo g l_q0 l_q1 l_facts l_cells) (wLo g o_q0 o_q1 r.1 r.2 ++ wLo g l_q0 l_q1 l_facts l_cells) none := by
  refine Wr.ofV (by decide) (Nat.le_of_ble_eq_true rfl) ?_
  intro p e s m args below meth c Q A S hK hA hret ls hl hW
  have hl : lv_has ls 2 [(0, .ref o_q0), (1, .ref l_q0)] := hl
  refine lv_aload_n S.1 S.2.1 dX2_copy_0 rfl (lv_at hl 0 rfl) ?_
  refine lv_aload_n S.1 S.2.1 dX2_copy_1 rfl (lv_at hl 1 rfl) ?_
  refine gfX2_9 S hK hW.1 2 rfl rfl dX2_copy_2 ?_
  refine pfX2_9 (ws2 := (wLo g o_q0 o_q1 l_facts o_cells ++ wLo g l_q0 l_q1 l_facts l_cells)) S hK hW 0 rfl rfl rfl (Nat.le_of_ble_eq_true rfl) rfl dX2_copy_5 (fun H locs hW => ?_)
  refine lv_aload_n S.1 S.2.1 dX2_copy_8 rfl (lv_at hl 1 rfl) ?_
  refine gfX2_15 S hK hW.1 2 rfl rfl dX2_copy_9 ?_
  refine lv_iconst (v := 0) S.1 S.2.1 dX2_copy_12 ic_0 ?_
  refine lv_aload_n S.1 S.2.1 dX2_copy_13 rfl (lv_at hl 0 rfl) ?_
  refine gfX2_15 S hK hW.1 0 rfl rfl dX2_copy_14 ?_
  refine lv_iconst (v := 0) S.1 S.2.1 dX2_copy_17 ic_0 ?_
  refine lv_iconst (v := 3) S.1 S.2.1 dX2_copy_18 ic_3 ?_
  refine lv_aload_n S.1 S.2.1 dX2_copy_19 rfl (lv_at hl 1 rfl) ?_
  refine gfX2_9 S hK hW.1 2 rfl rfl dX2_copy_20 ?_
  refine lv_imul S.1 S.2.1 dX2_copy_23 ?_
  obtain ⟨x1, hx1, hf⟩ := bnd_e hf
  refine q_copyi (ws2 := (wLo g o_q0 o_q1 l_facts x1 ++ wLo g l_q0 l_q1 l_facts l_cells)) S q_512 q_507 q_506 q_18 hK hW hl.1 3 1 0 0 rfl rfl rfl rfl hx1 rfl (Nat.le_of_ble_eq_true rfl) (Nat.le_of_ble_eq_true rfl) dX2_copy_24 (fun H locs hW => ?_)
  have e_ := Option.some.inj hf
  subst e_
  exact hret _ _ _ _ dX2_copy_27 hW
def f_X2_tell (fu : Nat) (o_facts : Int32) (o_cells : (Nat → Int32)) (p1 : Int32) (p2 : Int32) : Option (Int32) := bnd (α := (Int32) ⊕ (Unit)) (if p1 = (-1 : Int32) then if p2 = 0 then some (.inl o_facts) else some (.inr ()) else some (.inr ())) (fun x1 => cse x1 (fun y4 => some y4) (fun v2 => if p1 < 0 then some (-2 : Int32) else if o_facts ≤ p1 then some (-2 : Int32) else if p2 < 0 then some (-2 : Int32) else if p2 ≤ (2 : Int32) then bnd (α := Int32) (rdi 24 o_cells (((3 : Int32) * p1) + p2)) (fun x3 => some x3) else some (-2 : Int32)))
set_option maxHeartbeats 4000000 in
set_option maxRecDepth 100000 in
theorem c_X2_tell {l : Launch} {D : va_G} {g : Nat → ClassId} {fu : Nat} {o_q0 o_q1 : Nat} {o_facts : Int32} {o_cells : (Nat → Int32)} {p1 : Int32} {p2 : Int32} {r : Int32} (hf : f_X2_tell fu o_facts o_cells p1 p2 = some r) : Rd l D (gy g) yX2_tell cX2_tell 3 (some .int) 0 [.ref o_q0, .int p1, .int p2] (wLo g o_q0 o_q1 o_facts o_cells) (some (.int r)) := by
  refine Rd.ofI (by decide) (Nat.le_of_ble_eq_true rfl) ?_
  intro p e s m args below meth c Q S hK hP hret ls hl
  have hl : lv_has ls 3 [(0, .ref o_q0), (1, .int p1), (2, .int p2)] := hl
  refine lv_iload_n S.1 S.2.1 dX2_tell_0 rfl (lv_at hl 1 rfl) ?_
  refine lv_iconst (v := (-1)) S.1 S.2.1 dX2_tell_1 ic_m1 ?_
  obtain ⟨x1, hf_, hk1⟩ := bnd_e hf
  have hJ1 : ∀ (v2 : Unit), x1 = .inr v2 → ∀ (ls : Array Slot), lv_has ls 3 [(0, .ref o_q0), (1, .int p1), (2, .int p2)] → W p l e (rmD 0) s m args below meth c s.heap [] 0 0 Q (F0 m 14 ls []) := by
    intro v2 e_ ls hl
    subst e_
    have hf := cse_r hk1
    refine lv_iload_n S.1 S.2.1 dX2_tell_14 rfl (lv_at hl 1 rfl) ?_
    refine lv_if_lt (tgt := 35) S.1 S.2.1 dX2_tell_15 (by decide) (fun c_ => ?_) (fun c_ => ?_)
    · have hf := it_p c_ hf
      refine lv_bipush (v := (-2)) S.1 S.2.1 dX2_tell_35 bp_m2 ?_
      have e_ := Option.some.inj hf
      subst e_
      exact hret _ _ dX2_tell_37
    · have hf := it_n c_ hf
      refine lv_iload_n S.1 S.2.1 dX2_tell_18 rfl (lv_at hl 1 rfl) ?_
      refine lv_aload_n S.1 S.2.1 dX2_tell_19 rfl (lv_at hl 0 rfl) ?_
      refine gfX2_9 S hK hP 0 rfl rfl dX2_tell_20 ?_
      refine lv_icmp_ge (tgt := 35) S.1 S.2.1 dX2_tell_23 (by decide) (fun c_ => ?_) (fun c_ => ?_)
      · have hf := it_p c_ hf
        refine lv_bipush (v := (-2)) S.1 S.2.1 dX2_tell_35 bp_m2 ?_
        have e_ := Option.some.inj hf
        subst e_
        exact hret _ _ dX2_tell_37
      · have hf := it_n c_ hf
        refine lv_iload_n S.1 S.2.1 dX2_tell_26 rfl (lv_at hl 2 rfl) ?_
        refine lv_if_lt (tgt := 35) S.1 S.2.1 dX2_tell_27 (by decide) (fun c_ => ?_) (fun c_ => ?_)
        · have hf := it_p c_ hf
          refine lv_bipush (v := (-2)) S.1 S.2.1 dX2_tell_35 bp_m2 ?_
          have e_ := Option.some.inj hf
          subst e_
          exact hret _ _ dX2_tell_37
        · have hf := it_n c_ hf
          refine lv_iload_n S.1 S.2.1 dX2_tell_30 rfl (lv_at hl 2 rfl) ?_
          refine lv_iconst (v := 2) S.1 S.2.1 dX2_tell_31 ic_2 ?_
          refine lv_icmp_le (tgt := 38) S.1 S.2.1 dX2_tell_32 (by decide) (fun c_ => ?_) (fun c_ => ?_)
          · have hf := it_p c_ hf
            refine lv_aload_n S.1 S.2.1 dX2_tell_38 rfl (lv_at hl 0 rfl) ?_
            refine gfX2_15 S hK hP 0 rfl rfl dX2_tell_39 ?_
            refine lv_iconst (v := 3) S.1 S.2.1 dX2_tell_42 ic_3 ?_
            refine lv_iload_n S.1 S.2.1 dX2_tell_43 rfl (lv_at hl 1 rfl) ?_
            refine lv_imul S.1 S.2.1 dX2_tell_44 ?_
            refine lv_iload_n S.1 S.2.1 dX2_tell_45 rfl (lv_at hl 2 rfl) ?_
            refine lv_iadd S.1 S.2.1 dX2_tell_46 ?_
            obtain ⟨x3, hx3, hf⟩ := bnd_e hf
            refine q_iald S hK hP 1 0 rfl rfl hx3 dX2_tell_47 ?_
            have e_ := Option.some.inj hf
            subst e_
            exact hret _ _ dX2_tell_48
          · have hf := it_n c_ hf
            refine lv_bipush (v := (-2)) S.1 S.2.1 dX2_tell_35 bp_m2 ?_
            have e_ := Option.some.inj hf
            subst e_
            exact hret _ _ dX2_tell_37
  have hf := hf_
  refine lv_icmp_ne (tgt := 14) S.1 S.2.1 dX2_tell_2 (by decide) (fun c_ => ?_) (fun c_ => ?_)
  · have hf := it_n c_ hf
    exact hJ1 _ (Option.some.inj hf).symm _ (lv_sub hl [0, 1, 2] rfl)
  · have hf := it_p c_ hf
    refine lv_iload_n S.1 S.2.1 dX2_tell_5 rfl (lv_at hl 2 rfl) ?_
    refine lv_if_ne (tgt := 14) S.1 S.2.1 dX2_tell_6 (by decide) (fun c_ => ?_) (fun c_ => ?_)
    · have hf := it_n c_ hf
      exact hJ1 _ (Option.some.inj hf).symm _ (lv_sub hl [0, 1, 2] rfl)
    · have hf := it_p c_ hf
      refine lv_aload_n S.1 S.2.1 dX2_tell_9 rfl (lv_at hl 0 rfl) ?_
      refine gfX2_9 S hK hP 0 rfl rfl dX2_tell_10 ?_
      have e_ := Option.some.inj hf
      subst e_
      have hf := cse_l hk1
      have e_ := Option.some.inj hf
      subst e_
      exact hret _ _ dX2_tell_13
def f_X2_isOf_L2 (fu : Nat) (o_facts : Int32) (o_cells : (Nat → Int32)) (t_people : Int32) (s2 : Int32) : Option ((Int32) ⊕ ((Int32) ⊕ (Unit))) := if o_facts ≤ s2 then some (.inr (.inr ())) else bnd (α := Int32) (rdi 24 o_cells (((3 : Int32) * s2) + (1 : Int32))) (fun x5 => bnd (α := Int32) (f_X9_has fu t_people x5) (fun x6 => if x6 = 0 then some (.inr (.inl (0 : Int32))) else bnd (α := Int32) (rdi 24 o_cells (((3 : Int32) * s2) + (2 : Int32))) (fun x7 => bnd (α := Int32) (f_X9_has fu t_people x7) (fun x8 => if x8 = 0 then some (.inr (.inl (0 : Int32))) else some (.inl (s2 + 1))))))
def f_X2_isOf (fu : Nat) (o_facts : Int32) (o_cells : (Nat → Int32)) (t_people : Int32) : Option (Int32) := bnd (α := (Int32) ⊕ (Unit)) (lp (f_X2_isOf_L2 fu o_facts o_cells t_people) fu (0 : Int32)) (fun x3 => cse x3 (fun y10 => some y10) (fun v9 => some (1 : Int32)))
set_option maxHeartbeats 4000000 in
set_option maxRecDepth 100000 in
theorem c_X2_isOf {l : Launch} {D : va_G} {g : Nat → ClassId} {fu : Nat} {o_q0 o_q1 t_q0 t_q1 t_q2 t_q3 t_q4 : Nat} {o_facts : Int32} {o_cells : (Nat → Int32)} {t_people : Int32} {t_wit : (Nat → Int32)} {t_purse : (Nat → Int32)} {t_hated : (Nat → Int32)} {t_owed : (Nat → Int32)} {r : Int32} (hf : f_X2_isOf fu o_facts o_cells t_people = some r) : Rd l D (gy g) yX2_isOf cX2_isOf 3 (some .boolean) 1 [.ref o_q0, .ref t_q0] (wLo g o_q0 o_q1 o_facts o_cells ++ wTw g t_q0 t_q1 t_q2 t_q3 t_q4 t_people t_wit t_purse t_hated t_owed) (some (.int r)) := by
  refine Rd.ofZ (by decide) (Nat.le_of_ble_eq_true rfl) ?_
  intro p e s m args below meth c Q S hK hP hret ls hl
  have hl : lv_has ls 3 [(0, .ref o_q0), (1, .ref t_q0)] := hl
  refine lv_iconst (v := 0) S.1 S.2.1 dX2_isOf_0 ic_0 ?_
  refine lv_istore_n (lv' := [(2, .int (0 : Int32)), (0, .ref o_q0), (1, .ref t_q0)]) S.1 S.2.1 dX2_isOf_1 rfl hl (by decide) rfl (fun ls hl => ?_)
  obtain ⟨x3, hf_, hk3⟩ := bnd_e hf
  have hE3 : ∀ (v9 : Unit), x3 = .inr v9 → ∀ (ls : Array Slot), lv_has ls 3 [] → W p l e (rmD 1) s m args below meth c s.heap [] 0 0 Q (F0 m 52 ls []) := by
    intro v9 e_ ls hl
    subst e_
    have hf := cse_r hk3
    refine lv_iconst (v := 1) S.1 S.2.1 dX2_isOf_52 ic_1 ?_
    have e_ := Option.some.inj hf
    subst e_
    exact hret _ _ (Or.inr rfl) dX2_isOf_53
  refine lp_ind (P := fun (s2 : Int32) => ∀ (ls : Array Slot), lv_has ls 3 [(0, .ref o_q0), (1, .ref t_q0), (2, .int s2)] → W p l e (rmD 1) s m args below meth c s.heap [] 0 0 Q (F0 m 2 ls [])) ?_ _ _ hf_ _ (lv_sub hl [1, 2, 0] rfl)
  intro s2 x4 hf hI3 hR3 ls hl
  refine lv_iload_n S.1 S.2.1 dX2_isOf_2 rfl (lv_at hl 2 rfl) ?_
  refine lv_aload_n S.1 S.2.1 dX2_isOf_3 rfl (lv_at hl 0 rfl) ?_
  refine gfX2_9 S hK hP 0 rfl rfl dX2_isOf_4 ?_
  refine lv_icmp_ge (tgt := 52) S.1 S.2.1 dX2_isOf_7 (by decide) (fun c_ => ?_) (fun c_ => ?_)
  · have hf := it_p c_ hf
    have e_ := hR3 _ (Option.some.inj hf).symm
    exact hE3 _ e_.symm _ (lv_sub hl [] rfl)
  · have hf := it_n c_ hf
    refine lv_aload_n S.1 S.2.1 dX2_isOf_10 rfl (lv_at hl 1 rfl) ?_
    refine lv_aload_n S.1 S.2.1 dX2_isOf_11 rfl (lv_at hl 0 rfl) ?_
    refine gfX2_15 S hK hP 0 rfl rfl dX2_isOf_12 ?_
    refine lv_iconst (v := 3) S.1 S.2.1 dX2_isOf_15 ic_3 ?_
    refine lv_iload_n S.1 S.2.1 dX2_isOf_16 rfl (lv_at hl 2 rfl) ?_
    refine lv_imul S.1 S.2.1 dX2_isOf_17 ?_
    refine lv_iconst (v := 1) S.1 S.2.1 dX2_isOf_18 ic_1 ?_
    refine lv_iadd S.1 S.2.1 dX2_isOf_19 ?_
    obtain ⟨x5, hx5, hf⟩ := bnd_e hf
    refine q_iald S hK hP 1 0 rfl rfl hx5 dX2_isOf_20 ?_
    obtain ⟨x6, hx6, hf⟩ := bnd_e hf
    refine Rd.cV (c_X9_has hx6) S hK (hP.sub (ws' := (wTw g t_q0 t_q1 t_q2 t_q3 t_q4 t_people t_wit t_purse t_hated t_owed)) [2, 3, 4, 5, 6] rfl) 0 7 rfl rfl kVX2_25 rfl hl.1 [] rfl (Nat.le_of_ble_eq_true rfl) ⟨(Nat.le_of_ble_eq_true rfl), (Nat.le_of_ble_eq_true rfl)⟩ ⟨(Nat.zero_le _), (Nat.zero_le _)⟩ dX2_isOf_21 ?_
    refine lv_if_eq (tgt := 44) S.1 S.2.1 dX2_isOf_24 (by decide) (fun c_ => ?_) (fun c_ => ?_)
    · have hf := it_p c_ hf
      refine lv_iconst (v := 0) S.1 S.2.1 dX2_isOf_44 ic_0 ?_
      have e_ := hR3 _ (Option.some.inj hf).symm
      subst e_
      have hf := cse_l hk3
      have e_ := Option.some.inj hf
      subst e_
      exact hret _ _ (Or.inl rfl) dX2_isOf_45
    · have hf := it_n c_ hf
      refine lv_aload_n S.1 S.2.1 dX2_isOf_27 rfl (lv_at hl 1 rfl) ?_
      refine lv_aload_n S.1 S.2.1 dX2_isOf_28 rfl (lv_at hl 0 rfl) ?_
      refine gfX2_15 S hK hP 0 rfl rfl dX2_isOf_29 ?_
      refine lv_iconst (v := 3) S.1 S.2.1 dX2_isOf_32 ic_3 ?_
      refine lv_iload_n S.1 S.2.1 dX2_isOf_33 rfl (lv_at hl 2 rfl) ?_
      refine lv_imul S.1 S.2.1 dX2_isOf_34 ?_
      refine lv_iconst (v := 2) S.1 S.2.1 dX2_isOf_35 ic_2 ?_
      refine lv_iadd S.1 S.2.1 dX2_isOf_36 ?_
      obtain ⟨x7, hx7, hf⟩ := bnd_e hf
      refine q_iald S hK hP 1 0 rfl rfl hx7 dX2_isOf_37 ?_
      obtain ⟨x8, hx8, hf⟩ := bnd_e hf
      refine Rd.cV (c_X9_has hx8) S hK (hP.sub (ws' := (wTw g t_q0 t_q1 t_q2 t_q3 t_q4 t_people t_wit t_purse t_hated t_owed)) [2, 3, 4, 5, 6] rfl) 0 7 rfl rfl kVX2_25 rfl hl.1 [] rfl (Nat.le_of_ble_eq_true rfl) ⟨(Nat.le_of_ble_eq_true rfl), (Nat.le_of_ble_eq_true rfl)⟩ ⟨(Nat.zero_le _), (Nat.zero_le _)⟩ dX2_isOf_38 ?_
      refine lv_if_ne (tgt := 46) S.1 S.2.1 dX2_isOf_41 (by decide) (fun c_ => ?_) (fun c_ => ?_)
      · have hf := it_n c_ hf
        refine q_iinc (w := 1) (lv' := [(2, .int (s2 + 1)), (0, .ref o_q0), (1, .ref t_q0)]) S dX2_isOf_46 hl (k := 2) rfl ic_1 (by decide) rfl (fun ls hl => ?_)
        refine lv_goto (tgt := 2) S.1 S.2.1 dX2_isOf_49 (by decide) ?_
        exact hI3 _ (Option.some.inj hf).symm _ (lv_sub hl [1, 2, 0] rfl)
      · have hf := it_p c_ hf
        refine lv_iconst (v := 0) S.1 S.2.1 dX2_isOf_44 ic_0 ?_
        have e_ := hR3 _ (Option.some.inj hf).symm
        subst e_
        have hf := cse_l hk3
        have e_ := Option.some.inj hf
        subst e_
        exact hret _ _ (Or.inl rfl) dX2_isOf_45
def f_X2_agrees_L2 (o_facts : Int32) (o_cells : (Nat → Int32)) (p1 : Int32) (s2 : Int32) : Option ((Int32) ⊕ ((Int32) ⊕ (Unit))) := if o_facts ≤ s2 then some (.inr (.inr ())) else bnd (α := Int32) (rdi 24 o_cells (((3 : Int32) * s2) + (1 : Int32))) (fun x5 => bnd (α := Int32) (rdi 24 o_cells (((3 : Int32) * s2) + (2 : Int32))) (fun x6 => bnd (α := Int32) (if (((jshr p1 x5) &&& (jshr p1 x6)) &&& (1 : Int32)) = 0 then some (0 : Int32) else some (1 : Int32)) (fun v8 => bnd (α := Int32) (rdi 24 o_cells ((3 : Int32) * s2)) (fun x9 => bnd (α := Int32) (if x9 = 0 then some (1 : Int32) else some (0 : Int32)) (fun v11 => if v8 = v11 then some (.inl (s2 + 1)) else some (.inr (.inl (0 : Int32))))))))
def f_X2_agrees (fu : Nat) (o_facts : Int32) (o_cells : (Nat → Int32)) (p1 : Int32) : Option (Int32) := bnd (α := (Int32) ⊕ (Unit)) (lp (f_X2_agrees_L2 o_facts o_cells p1) fu (0 : Int32)) (fun x3 => cse x3 (fun y13 => some y13) (fun v12 => some (1 : Int32)))
set_option maxHeartbeats 4000000 in
set_option maxRecDepth 100000 in
theorem c_X2_agrees {l : Launch} {D : va_G} {g : Nat → ClassId} {fu : Nat} {o_q0 o_q1 : Nat} {o_facts : Int32} {o_cells : (Nat → Int32)} {p1 : Int32} {r : Int32} (hf : f_X2_agrees fu o_facts o_cells p1 = some r) : Rd l D (gy g) yX2_agrees cX2_agrees 4 (some .boolean) 0 [.ref o_q0, .int p1] (wLo g o_q0 o_q1 o_facts o_cells) (some (.int r)) := by
  refine Rd.ofZ (by decide) (Nat.le_of_ble_eq_true rfl) ?_
  intro p e s m args below meth c Q S hK hP hret ls hl
  have hl : lv_has ls 4 [(0, .ref o_q0), (1, .int p1)] := hl
  refine lv_iconst (v := 0) S.1 S.2.1 dX2_agrees_0 ic_0 ?_
  refine lv_istore_n (lv' := [(2, .int (0 : Int32)), (0, .ref o_q0), (1, .int p1)]) S.1 S.2.1 dX2_agrees_1 rfl hl (by decide) rfl (fun ls hl => ?_)
  obtain ⟨x3, hf_, hk3⟩ := bnd_e hf
  have hE3 : ∀ (v12 : Unit), x3 = .inr v12 → ∀ (ls : Array Slot), lv_has ls 4 [] → W p l e (rmD 0) s m args below meth c s.heap [] 0 0 Q (F0 m 74 ls []) := by
    intro v12 e_ ls hl
    subst e_
    have hf := cse_r hk3
    refine lv_iconst (v := 1) S.1 S.2.1 dX2_agrees_74 ic_1 ?_
    have e_ := Option.some.inj hf
    subst e_
    exact hret _ _ (Or.inr rfl) dX2_agrees_75
  refine lp_ind (P := fun (s2 : Int32) => ∀ (ls : Array Slot), lv_has ls 4 [(0, .ref o_q0), (1, .int p1), (2, .int s2)] → W p l e (rmD 0) s m args below meth c s.heap [] 0 0 Q (F0 m 2 ls [])) ?_ _ _ hf_ _ (lv_sub hl [1, 2, 0] rfl)
  intro s2 x4 hf hI3 hR3 ls hl
  refine lv_iload_n S.1 S.2.1 dX2_agrees_2 rfl (lv_at hl 2 rfl) ?_
  refine lv_aload_n S.1 S.2.1 dX2_agrees_3 rfl (lv_at hl 0 rfl) ?_
  refine gfX2_9 S hK hP 0 rfl rfl dX2_agrees_4 ?_
  refine lv_icmp_ge (tgt := 74) S.1 S.2.1 dX2_agrees_7 (by decide) (fun c_ => ?_) (fun c_ => ?_)
  · have hf := it_p c_ hf
    have e_ := hR3 _ (Option.some.inj hf).symm
    exact hE3 _ e_.symm _ (lv_sub hl [] rfl)
  · have hf := it_n c_ hf
    refine lv_iload_n S.1 S.2.1 dX2_agrees_10 rfl (lv_at hl 1 rfl) ?_
    refine lv_aload_n S.1 S.2.1 dX2_agrees_11 rfl (lv_at hl 0 rfl) ?_
    refine gfX2_15 S hK hP 0 rfl rfl dX2_agrees_12 ?_
    refine lv_iconst (v := 3) S.1 S.2.1 dX2_agrees_15 ic_3 ?_
    refine lv_iload_n S.1 S.2.1 dX2_agrees_16 rfl (lv_at hl 2 rfl) ?_
    refine lv_imul S.1 S.2.1 dX2_agrees_17 ?_
    refine lv_iconst (v := 1) S.1 S.2.1 dX2_agrees_18 ic_1 ?_
    refine lv_iadd S.1 S.2.1 dX2_agrees_19 ?_
    obtain ⟨x5, hx5, hf⟩ := bnd_e hf
    refine q_iald S hK hP 1 0 rfl rfl hx5 dX2_agrees_20 ?_
    refine lv_ishr S.1 S.2.1 dX2_agrees_21 ?_
    refine lv_iload_n S.1 S.2.1 dX2_agrees_22 rfl (lv_at hl 1 rfl) ?_
    refine lv_aload_n S.1 S.2.1 dX2_agrees_23 rfl (lv_at hl 0 rfl) ?_
    refine gfX2_15 S hK hP 0 rfl rfl dX2_agrees_24 ?_
    refine lv_iconst (v := 3) S.1 S.2.1 dX2_agrees_27 ic_3 ?_
    refine lv_iload_n S.1 S.2.1 dX2_agrees_28 rfl (lv_at hl 2 rfl) ?_
    refine lv_imul S.1 S.2.1 dX2_agrees_29 ?_
    refine lv_iconst (v := 2) S.1 S.2.1 dX2_agrees_30 ic_2 ?_
    refine lv_iadd S.1 S.2.1 dX2_agrees_31 ?_
    obtain ⟨x6, hx6, hf⟩ := bnd_e hf
    refine q_iald S hK hP 1 0 rfl rfl hx6 dX2_agrees_32 ?_
    refine lv_ishr S.1 S.2.1 dX2_agrees_33 ?_
    refine lv_iand S.1 S.2.1 dX2_agrees_34 ?_
    refine lv_iconst (v := 1) S.1 S.2.1 dX2_agrees_35 ic_1 ?_
    refine lv_iand S.1 S.2.1 dX2_agrees_36 ?_
    obtain ⟨x7, hf_, hk7⟩ := bnd_e hf
    have hJ7 : ∀ (v8 : Int32), v8 = x7 → ∀ (ls : Array Slot), lv_has ls 4 [(0, .ref o_q0), (1, .int p1), (2, .int s2)] → W p l e (rmD 0) s m args below meth c s.heap [] 0 0 Q (F0 m 45 ls [.int v8]) := by
      intro v8 e_ ls hl
      subst e_
      have hf := hk7
      refine lv_istore_n (lv' := [(3, .int v8), (0, .ref o_q0), (1, .int p1), (2, .int s2)]) S.1 S.2.1 dX2_agrees_45 rfl hl (by decide) rfl (fun ls hl => ?_)
      refine lv_iload_n S.1 S.2.1 dX2_agrees_46 rfl (lv_at hl 0 rfl) ?_
      refine lv_aload_n S.1 S.2.1 dX2_agrees_47 rfl (lv_at hl 1 rfl) ?_
      refine gfX2_15 S hK hP 0 rfl rfl dX2_agrees_48 ?_
      refine lv_iconst (v := 3) S.1 S.2.1 dX2_agrees_51 ic_3 ?_
      refine lv_iload_n S.1 S.2.1 dX2_agrees_52 rfl (lv_at hl 3 rfl) ?_
      refine lv_imul S.1 S.2.1 dX2_agrees_53 ?_
      obtain ⟨x9, hx9, hf⟩ := bnd_e hf
      refine q_iald S hK hP 1 0 rfl rfl hx9 dX2_agrees_54 ?_
      obtain ⟨x10, hf_, hk10⟩ := bnd_e hf
      have hJ10 : ∀ (v11 : Int32), v11 = x10 → ∀ (ls : Array Slot), lv_has ls 4 [(0, .ref o_q0), (1, .int p1), (2, .int s2)] → W p l e (rmD 0) s m args below meth c s.heap [] 0 0 Q (F0 m 63 ls [.int v11, .int v8]) := by
        intro v11 e_ ls hl
        subst e_
        have hf := hk10
        refine lv_icmp_eq (tgt := 68) S.1 S.2.1 dX2_agrees_63 (by decide) (fun c_ => ?_) (fun c_ => ?_)
        · have hf := it_p c_ hf
          refine q_iinc (w := 1) (lv' := [(2, .int (s2 + 1)), (0, .ref o_q0), (1, .int p1)]) S dX2_agrees_68 hl (k := 2) rfl ic_1 (by decide) rfl (fun ls hl => ?_)
          refine lv_goto (tgt := 2) S.1 S.2.1 dX2_agrees_71 (by decide) ?_
          exact hI3 _ (Option.some.inj hf).symm _ (lv_sub hl [1, 2, 0] rfl)
        · have hf := it_n c_ hf
          refine lv_iconst (v := 0) S.1 S.2.1 dX2_agrees_66 ic_0 ?_
          have e_ := hR3 _ (Option.some.inj hf).symm
          subst e_
          have hf := cse_l hk3
          have e_ := Option.some.inj hf
          subst e_
          exact hret _ _ (Or.inl rfl) dX2_agrees_67
      have hf := hf_
      refine lv_if_ne (tgt := 62) S.1 S.2.1 dX2_agrees_55 (by decide) (fun c_ => ?_) (fun c_ => ?_)
      · have hf := it_n c_ hf
        refine lv_iconst (v := 0) S.1 S.2.1 dX2_agrees_62 ic_0 ?_
        exact hJ10 _ (Option.some.inj hf) _ (lv_sub hl [1, 2, 3] rfl)
      · have hf := it_p c_ hf
        refine lv_iconst (v := 1) S.1 S.2.1 dX2_agrees_58 ic_1 ?_
        refine lv_goto (tgt := 63) S.1 S.2.1 dX2_agrees_59 (by decide) ?_
        exact hJ10 _ (Option.some.inj hf) _ (lv_sub hl [1, 2, 3] rfl)
    have hf := hf_
    refine lv_if_eq (tgt := 44) S.1 S.2.1 dX2_agrees_37 (by decide) (fun c_ => ?_) (fun c_ => ?_)
    · have hf := it_p c_ hf
      refine lv_iconst (v := 0) S.1 S.2.1 dX2_agrees_44 ic_0 ?_
      exact hJ7 _ (Option.some.inj hf) _ (lv_sub hl [0, 1, 2] rfl)
    · have hf := it_n c_ hf
      refine lv_iconst (v := 1) S.1 S.2.1 dX2_agrees_40 ic_1 ?_
      refine lv_goto (tgt := 45) S.1 S.2.1 dX2_agrees_41 (by decide) ?_
      exact hJ7 _ (Option.some.inj hf) _ (lv_sub hl [0, 1, 2] rfl)
def f_X3_lowest_L9  (s2 : Int64 × Int64 × Int32) : Option ((Int64 × Int64 × Int32) ⊕ (Int64)) := if (200 : Int32) ≤ s2.2.2 then some (.inr s2.1) else if (lg_cmp s2.2.1 (0 : Int64)) = 0 then some (.inr s2.1) else bnd (α := Int64) (rml s2.1 s2.2.1) (fun x5 => some (.inl (s2.2.1, x5, (s2.2.2 + 1))))
def f_X3_lowest (fu : Nat) (p1 : Int64) (p2 : Int64) (p3 : Int32) : Option (Int64) := bnd (α := Int64) (lp (f_X3_lowest_L9) fu (p2, p1, (0 : Int32))) (fun v6 => if (lg_cmp v6 (0 : Int64)) = 0 then some (-1 : Int64) else if p3 = 0 then bnd (α := Int64) (dvl p1 v6) (fun x7 => some x7) else bnd (α := Int64) (dvl p2 v6) (fun x8 => some x8))
set_option maxHeartbeats 4000000 in
set_option maxRecDepth 100000 in
theorem c_X3_lowest {l : Launch} {D : va_G} {g : Nat → ClassId} {fu : Nat} {p1 : Int64} {p2 : Int64} {p3 : Int32} {r : Int64} (hf : f_X3_lowest fu p1 p2 p3 = some r) : Rd l D (gy g) yX3_lowest cX3_lowest 12 (some .long) 0 [.long p1, .long p2, .int p3] ([] : va_W) (some (.long r)) := by
  refine Rd.ofL (by decide) (Nat.le_of_ble_eq_true rfl) ?_
  intro p e s m args below meth c Q S hK hP hret ls hl
  have hl : lv_has ls 12 [(0, .long p1), (2, .long p2), (4, .int p3)] := hl
  refine lv_lload_n S.1 S.2.1 dX3_lowest_0 rfl (lv_at hl 1 rfl) ?_
  refine lv_lstore (lv' := [(5, .long p2), (0, .long p1), (2, .long p2), (4, .int p3)]) S.1 S.2.1 dX3_lowest_1 hl (by decide) rfl (fun ls hl => ?_)
  refine lv_lload_n S.1 S.2.1 dX3_lowest_3 rfl (lv_at hl 1 rfl) ?_
  refine lv_lstore (lv' := [(7, .long p1), (5, .long p2), (0, .long p1), (2, .long p2), (4, .int p3)]) S.1 S.2.1 dX3_lowest_4 hl (by decide) rfl (fun ls hl => ?_)
  refine lv_iconst (v := 0) S.1 S.2.1 dX3_lowest_6 ic_0 ?_
  refine lv_istore (lv' := [(9, .int (0 : Int32)), (7, .long p1), (5, .long p2), (0, .long p1), (2, .long p2), (4, .int p3)]) S.1 S.2.1 dX3_lowest_7 hl (by decide) rfl (fun ls hl => ?_)
  obtain ⟨x3, hf_, hk3⟩ := bnd_e hf
  have hE3 : ∀ (v6 : Int64), v6 = x3 → ∀ (ls : Array Slot), lv_has ls 12 [(0, .long p1), (2, .long p2), (4, .int p3), (5, .long v6)] → W p l e (rmD 0) s m args below meth c s.heap [] 0 0 Q (F0 m 45 ls []) := by
    intro v6 e_ ls hl
    subst e_
    have hf := hk3
    refine lv_lload S.1 S.2.1 dX3_lowest_45 (lv_at hl 3 rfl) ?_
    refine lv_lconst (v := 0) S.1 S.2.1 dX3_lowest_47 rfl ?_
    refine W.lcmp S.1 S.2.1 dX3_lowest_48 ?_
    refine lv_if_ne (tgt := 56) S.1 S.2.1 dX3_lowest_49 (by decide) (fun c_ => ?_) (fun c_ => ?_)
    · have hf := it_n c_ hf
      refine lv_iload S.1 S.2.1 dX3_lowest_56 (lv_at hl 2 rfl) ?_
      refine lv_if_eq (tgt := 65) S.1 S.2.1 dX3_lowest_58 (by decide) (fun c_ => ?_) (fun c_ => ?_)
      · have hf := it_p c_ hf
        refine lv_lload_n S.1 S.2.1 dX3_lowest_65 rfl (lv_at hl 0 rfl) ?_
        refine lv_lload S.1 S.2.1 dX3_lowest_66 (lv_at hl 3 rfl) ?_
        obtain ⟨x7, hx7, hf⟩ := bnd_e hf
        refine q_ldiv S hx7 dX3_lowest_68 ?_
        have e_ := Option.some.inj hf
        subst e_
        exact hret _ _ dX3_lowest_69
      · have hf := it_n c_ hf
        refine lv_lload_n S.1 S.2.1 dX3_lowest_61 rfl (lv_at hl 1 rfl) ?_
        refine lv_goto (tgt := 66) S.1 S.2.1 dX3_lowest_62 (by decide) ?_
        refine lv_lload S.1 S.2.1 dX3_lowest_66 (lv_at hl 3 rfl) ?_
        obtain ⟨x8, hx8, hf⟩ := bnd_e hf
        refine q_ldiv S hx8 dX3_lowest_68 ?_
        have e_ := Option.some.inj hf
        subst e_
        exact hret _ _ dX3_lowest_69
    · have hf := it_p c_ hf
      refine lv_ldc2 (v := (-1)) S.1 S.2.1 S.2.2.2.1 (S.2.2.2.2 _ q_758) dX3_lowest_52 ?_
      have e_ := Option.some.inj hf
      subst e_
      exact hret _ _ dX3_lowest_55
  refine lp_ind (P := fun (s2 : Int64 × Int64 × Int32) => ∀ (ls : Array Slot), lv_has ls 12 [(0, .long p1), (2, .long p2), (4, .int p3), (5, .long s2.1), (7, .long s2.2.1), (9, .int s2.2.2)] → W p l e (rmD 0) s m args below meth c s.heap [] 0 0 Q (F0 m 9 ls [])) ?_ _ _ hf_ _ (lv_sub hl [3, 4, 5, 2, 1, 0] rfl)
  intro s2 x4 hf hI3 hR3 ls hl
  refine lv_iload S.1 S.2.1 dX3_lowest_9 (lv_at hl 5 rfl) ?_
  refine lv_sipush (v := 200) S.1 S.2.1 dX3_lowest_11 sp_200 ?_
  refine lv_icmp_ge (tgt := 45) S.1 S.2.1 dX3_lowest_14 (by decide) (fun c_ => ?_) (fun c_ => ?_)
  · have hf := it_p c_ hf
    have e_ := hR3 _ (Option.some.inj hf).symm
    exact hE3 _ e_ _ (lv_sub hl [0, 1, 2, 3] rfl)
  · have hf := it_n c_ hf
    refine lv_lload S.1 S.2.1 dX3_lowest_17 (lv_at hl 4 rfl) ?_
    refine lv_lconst (v := 0) S.1 S.2.1 dX3_lowest_19 rfl ?_
    refine W.lcmp S.1 S.2.1 dX3_lowest_20 ?_
    refine lv_if_eq (tgt := 45) S.1 S.2.1 dX3_lowest_21 (by decide) (fun c_ => ?_) (fun c_ => ?_)
    · have hf := it_p c_ hf
      have e_ := hR3 _ (Option.some.inj hf).symm
      exact hE3 _ e_ _ (lv_sub hl [0, 1, 2, 3] rfl)
    · have hf := it_n c_ hf
      refine lv_lload S.1 S.2.1 dX3_lowest_24 (lv_at hl 3 rfl) ?_
      refine lv_lload S.1 S.2.1 dX3_lowest_26 (lv_at hl 4 rfl) ?_
      obtain ⟨x5, hx5, hf⟩ := bnd_e hf
      refine q_lrem S hx5 dX3_lowest_28 ?_
      refine lv_lstore (lv' := [(10, .long x5), (0, .long p1), (2, .long p2), (4, .int p3), (5, .long s2.1), (7, .long s2.2.1), (9, .int s2.2.2)]) S.1 S.2.1 dX3_lowest_29 hl (by decide) rfl (fun ls hl => ?_)
      refine lv_lload S.1 S.2.1 dX3_lowest_31 (lv_at hl 5 rfl) ?_
      refine lv_lstore (lv' := [(5, .long s2.2.1), (10, .long x5), (0, .long p1), (2, .long p2), (4, .int p3), (7, .long s2.2.1), (9, .int s2.2.2)]) S.1 S.2.1 dX3_lowest_33 hl (by decide) rfl (fun ls hl => ?_)
      refine lv_lload S.1 S.2.1 dX3_lowest_35 (lv_at hl 1 rfl) ?_
      refine lv_lstore (lv' := [(7, .long x5), (5, .long s2.2.1), (10, .long x5), (0, .long p1), (2, .long p2), (4, .int p3), (9, .int s2.2.2)]) S.1 S.2.1 dX3_lowest_37 hl (by decide) rfl (fun ls hl => ?_)
      refine q_iinc (w := 1) (lv' := [(9, .int (s2.2.2 + 1)), (7, .long x5), (5, .long s2.2.1), (10, .long x5), (0, .long p1), (2, .long p2), (4, .int p3)]) S dX3_lowest_39 hl (k := 6) rfl ic_1 (by decide) rfl (fun ls hl => ?_)
      refine lv_goto (tgt := 9) S.1 S.2.1 dX3_lowest_42 (by decide) ?_
      exact hI3 _ (Option.some.inj hf).symm _ (lv_sub hl [4, 5, 6, 2, 1, 0] rfl)
def f_X3_ofMeeting_L23 (fu : Nat) (t_people : Int32) (t_hated : (Nat → Int32)) (t_owed : (Nat → Int32)) (p2 : Int32) (s2 : Int32 × Int32 × Int32) (s7 : Int32 × Int32 × Int32) : Option ((Int32 × Int32 × Int32) ⊕ (Int32 × Int32)) := if t_people ≤ s7.2.2 then some (.inr (s7.1, s7.2.1)) else if p2 = 0 then bnd (α := Int32) (f_X9_hates fu t_hated s2.2.2 s7.2.2) (fun x10 => if x10 = 0 then some (.inl ((s7.1 + 1), s7.2.1, (s7.2.2 + 1))) else some (.inl ((s7.1 + 1), (s7.2.1 + 1), (s7.2.2 + 1)))) else bnd (α := Int32) (f_X9_owes fu t_owed s2.2.2 s7.2.2) (fun x11 => bnd (α := Int32) (f_X9_owes fu t_owed s7.2.2 s2.2.2) (fun x12 => if (x11 + x12) ≤ 0 then some (.inl ((s7.1 + 1), s7.2.1, (s7.2.2 + 1))) else some (.inl ((s7.1 + 1), (s7.2.1 + 1), (s7.2.2 + 1)))))
def f_X3_ofMeeting_L8 (fu : Nat) (t_people : Int32) (t_hated : (Nat → Int32)) (t_owed : (Nat → Int32)) (p2 : Int32) (s2 : Int32 × Int32 × Int32) : Option ((Int32 × Int32 × Int32) ⊕ (Int32 × Int32)) := if t_people ≤ s2.2.2 then some (.inr (s2.1, s2.2.1)) else ltn (s2.2.2 + (1 : Int32)) (fun x5 => bnd (α := Int32 × Int32) (lp (f_X3_ofMeeting_L23 fu t_people t_hated t_owed p2 s2) fu (s2.1, s2.2.1, x5)) (fun v13 => some (.inl (v13.1, v13.2, (s2.2.2 + 1)))))
def f_X3_ofMeeting (fu : Nat) (t_people : Int32) (t_hated : (Nat → Int32)) (t_owed : (Nat → Int32)) (p2 : Int32) (p3 : Int32) : Option (Int64) := bnd (α := Int32 × Int32) (lp (f_X3_ofMeeting_L8 fu t_people t_hated t_owed p2) fu ((0 : Int32), (0 : Int32), (0 : Int32))) (fun v14 => bnd (α := Int64) (f_X3_lowest fu (v14.2.toInt64) (v14.1.toInt64) p3) (fun x15 => some x15))
set_option maxHeartbeats 4000000 in
set_option maxRecDepth 100000 in
theorem c_X3_ofMeeting {l : Launch} {D : va_G} {g : Nat → ClassId} {fu : Nat} {t_q0 t_q1 t_q2 t_q3 t_q4 : Nat} {t_people : Int32} {t_wit : (Nat → Int32)} {t_purse : (Nat → Int32)} {t_hated : (Nat → Int32)} {t_owed : (Nat → Int32)} {p2 : Int32} {p3 : Int32} {r : Int64} (hf : f_X3_ofMeeting fu t_people t_hated t_owed p2 p3 = some r) : Rd l D (gy g) yX3_ofMeeting cX3_ofMeeting 7 (some .long) 1 [.ref t_q0, .int p2, .int p3] (wTw g t_q0 t_q1 t_q2 t_q3 t_q4 t_people t_wit t_purse t_hated t_owed) (some (.long r)) := by
  refine Rd.ofL (by decide) (Nat.le_of_ble_eq_true rfl) ?_
  intro p e s m args below meth c Q S hK hP hret ls hl
  have hl : lv_has ls 7 [(0, .ref t_q0), (1, .int p2), (2, .int p3)] := hl
  refine lv_iconst (v := 0) S.1 S.2.1 dX3_ofMeeting_0 ic_0 ?_
  refine lv_istore_n (lv' := [(3, .int (0 : Int32)), (0, .ref t_q0), (1, .int p2), (2, .int p3)]) S.1 S.2.1 dX3_ofMeeting_1 rfl hl (by decide) rfl (fun ls hl => ?_)
  refine lv_iconst (v := 0) S.1 S.2.1 dX3_ofMeeting_2 ic_0 ?_
  refine lv_istore (lv' := [(4, .int (0 : Int32)), (3, .int (0 : Int32)), (0, .ref t_q0), (1, .int p2), (2, .int p3)]) S.1 S.2.1 dX3_ofMeeting_3 hl (by decide) rfl (fun ls hl => ?_)
  refine lv_iconst (v := 0) S.1 S.2.1 dX3_ofMeeting_5 ic_0 ?_
  refine lv_istore (lv' := [(5, .int (0 : Int32)), (4, .int (0 : Int32)), (3, .int (0 : Int32)), (0, .ref t_q0), (1, .int p2), (2, .int p3)]) S.1 S.2.1 dX3_ofMeeting_6 hl (by decide) rfl (fun ls hl => ?_)
  obtain ⟨x3, hf_, hk3⟩ := bnd_e hf
  have hE3 : ∀ (v14 : Int32 × Int32), v14 = x3 → ∀ (ls : Array Slot), lv_has ls 7 [(2, .int p3), (3, .int v14.1), (4, .int v14.2)] → W p l e (rmD 1) s m args below meth c s.heap [] 0 0 Q (F0 m 88 ls []) := by
    intro v14 e_ ls hl
    subst e_
    have hf := hk3
    refine lv_iload S.1 S.2.1 dX3_ofMeeting_88 (lv_at hl 2 rfl) ?_
    refine lv_i2l (v := (v14.2.toInt64)) S.1 S.2.1 dX3_ofMeeting_90 rfl ?_
    refine lv_iload_n S.1 S.2.1 dX3_ofMeeting_91 rfl (lv_at hl 1 rfl) ?_
    refine lv_i2l (v := (v14.1.toInt64)) S.1 S.2.1 dX3_ofMeeting_92 rfl ?_
    refine lv_iload_n S.1 S.2.1 dX3_ofMeeting_93 rfl (lv_at hl 0 rfl) ?_
    obtain ⟨x15, hx15, hf⟩ := bnd_e hf
    refine Rd.cS (c_X3_lowest hx15) S hK va_P.nil kSX3_25 rfl hl.1 [] rfl (Nat.le_of_ble_eq_true rfl) ⟨(Nat.le_of_ble_eq_true rfl), (Nat.le_of_ble_eq_true rfl)⟩ ⟨(Nat.zero_le _), (Nat.zero_le _)⟩ dX3_ofMeeting_94 ?_
    have e_ := Option.some.inj hf
    subst e_
    exact hret _ _ dX3_ofMeeting_97
  refine lp_ind (P := fun (s2 : Int32 × Int32 × Int32) => ∀ (ls : Array Slot), lv_has ls 7 [(0, .ref t_q0), (1, .int p2), (2, .int p3), (3, .int s2.1), (4, .int s2.2.1), (5, .int s2.2.2)] → W p l e (rmD 1) s m args below meth c s.heap [] 0 0 Q (F0 m 8 ls [])) ?_ _ _ hf_ _ (lv_sub hl [3, 4, 5, 2, 1, 0] rfl)
  intro s2 x4 hf hI3 hR3 ls hl
  refine lv_iload S.1 S.2.1 dX3_ofMeeting_8 (lv_at hl 5 rfl) ?_
  refine lv_aload_n S.1 S.2.1 dX3_ofMeeting_10 rfl (lv_at hl 0 rfl) ?_
  refine gfX3_11 S hK hP 0 rfl rfl dX3_ofMeeting_11 ?_
  refine lv_icmp_ge (tgt := 88) S.1 S.2.1 dX3_ofMeeting_14 (by decide) (fun c_ => ?_) (fun c_ => ?_)
  · have hf := it_p c_ hf
    have e_ := hR3 _ (Option.some.inj hf).symm
    exact hE3 _ e_ _ (lv_sub hl [2, 3, 4] rfl)
  · have hf := it_n c_ hf
    refine lv_iload S.1 S.2.1 dX3_ofMeeting_17 (lv_at hl 5 rfl) ?_
    refine lv_iconst (v := 1) S.1 S.2.1 dX3_ofMeeting_19 ic_1 ?_
    refine lv_iadd S.1 S.2.1 dX3_ofMeeting_20 ?_
    refine lv_topi (fun x5 ex5 => ?_)
    have hf := ltn_e hf ex5
    refine lv_istore (lv' := [(6, .int x5), (0, .ref t_q0), (1, .int p2), (2, .int p3), (3, .int s2.1), (4, .int s2.2.1), (5, .int s2.2.2)]) S.1 S.2.1 dX3_ofMeeting_21 hl (by decide) rfl (fun ls hl => ?_)
    obtain ⟨x8, hf_, hk8⟩ := bnd_e hf
    have hE8 : ∀ (v13 : Int32 × Int32), v13 = x8 → ∀ (ls : Array Slot), lv_has ls 7 [(0, .ref t_q0), (1, .int p2), (2, .int p3), (3, .int v13.1), (4, .int v13.2), (5, .int s2.2.2)] → W p l e (rmD 1) s m args below meth c s.heap [] 0 0 Q (F0 m 82 ls []) := by
      intro v13 e_ ls hl
      subst e_
      have hf := hk8
      refine q_iinc (w := 1) (lv' := [(5, .int (s2.2.2 + 1)), (0, .ref t_q0), (1, .int p2), (2, .int p3), (3, .int v13.1), (4, .int v13.2)]) S dX3_ofMeeting_82 hl (k := 5) rfl ic_1 (by decide) rfl (fun ls hl => ?_)
      refine lv_goto (tgt := 8) S.1 S.2.1 dX3_ofMeeting_85 (by decide) ?_
      exact hI3 _ (Option.some.inj hf).symm _ (lv_sub hl [1, 2, 3, 4, 5, 0] rfl)
    refine lp_ind (P := fun (s7 : Int32 × Int32 × Int32) => ∀ (ls : Array Slot), lv_has ls 7 [(0, .ref t_q0), (1, .int p2), (2, .int p3), (3, .int s7.1), (4, .int s7.2.1), (5, .int s2.2.2), (6, .int s7.2.2)] → W p l e (rmD 1) s m args below meth c s.heap [] 0 0 Q (F0 m 23 ls [])) ?_ _ _ hf_ _ (lv_sub hl [1, 2, 3, 4, 5, 6, 0] rfl)
    intro s7 x9 hf hI8 hR8 ls hl
    refine lv_iload S.1 S.2.1 dX3_ofMeeting_23 (lv_at hl 6 rfl) ?_
    refine lv_aload_n S.1 S.2.1 dX3_ofMeeting_25 rfl (lv_at hl 0 rfl) ?_
    refine gfX3_11 S hK hP 0 rfl rfl dX3_ofMeeting_26 ?_
    refine lv_icmp_ge (tgt := 82) S.1 S.2.1 dX3_ofMeeting_29 (by decide) (fun c_ => ?_) (fun c_ => ?_)
    · have hf := it_p c_ hf
      have e_ := hR8 _ (Option.some.inj hf).symm
      exact hE8 _ e_ _ (lv_sub hl [0, 1, 2, 3, 4, 5] rfl)
    · have hf := it_n c_ hf
      refine q_iinc (w := 1) (lv' := [(3, .int (s7.1 + 1)), (0, .ref t_q0), (1, .int p2), (2, .int p3), (4, .int s7.2.1), (5, .int s2.2.2), (6, .int s7.2.2)]) S dX3_ofMeeting_32 hl (k := 3) rfl ic_1 (by decide) rfl (fun ls hl => ?_)
      refine lv_iload_n S.1 S.2.1 dX3_ofMeeting_35 rfl (lv_at hl 2 rfl) ?_
      refine lv_if_eq (tgt := 62) S.1 S.2.1 dX3_ofMeeting_36 (by decide) (fun c_ => ?_) (fun c_ => ?_)
      · have hf := it_p c_ hf
        refine lv_aload_n S.1 S.2.1 dX3_ofMeeting_62 rfl (lv_at hl 1 rfl) ?_
        refine lv_iload S.1 S.2.1 dX3_ofMeeting_63 (lv_at hl 5 rfl) ?_
        refine lv_iload S.1 S.2.1 dX3_ofMeeting_65 (lv_at hl 6 rfl) ?_
        obtain ⟨x10, hx10, hf⟩ := bnd_e hf
        refine Rd.cV (c_X9_hates hx10) S hK hP 0 7 rfl rfl kVX3_21 rfl hl.1 [] rfl (Nat.le_of_ble_eq_true rfl) ⟨(Nat.le_of_ble_eq_true rfl), (Nat.le_of_ble_eq_true rfl)⟩ ⟨(Nat.zero_le _), (Nat.zero_le _)⟩ dX3_ofMeeting_67 ?_
        refine lv_if_eq (tgt := 76) S.1 S.2.1 dX3_ofMeeting_70 (by decide) (fun c_ => ?_) (fun c_ => ?_)
        · have hf := it_p c_ hf
          refine q_iinc (w := 1) (lv' := [(6, .int (s7.2.2 + 1)), (3, .int (s7.1 + 1)), (0, .ref t_q0), (1, .int p2), (2, .int p3), (4, .int s7.2.1), (5, .int s2.2.2)]) S dX3_ofMeeting_76 hl (k := 6) rfl ic_1 (by decide) rfl (fun ls hl => ?_)
          refine lv_goto (tgt := 23) S.1 S.2.1 dX3_ofMeeting_79 (by decide) ?_
          exact hI8 _ (Option.some.inj hf).symm _ (lv_sub hl [2, 3, 4, 1, 5, 6, 0] rfl)
        · have hf := it_n c_ hf
          refine q_iinc (w := 1) (lv' := [(4, .int (s7.2.1 + 1)), (3, .int (s7.1 + 1)), (0, .ref t_q0), (1, .int p2), (2, .int p3), (5, .int s2.2.2), (6, .int s7.2.2)]) S dX3_ofMeeting_73 hl (k := 4) rfl ic_1 (by decide) rfl (fun ls hl => ?_)
          refine q_iinc (w := 1) (lv' := [(6, .int (s7.2.2 + 1)), (4, .int (s7.2.1 + 1)), (3, .int (s7.1 + 1)), (0, .ref t_q0), (1, .int p2), (2, .int p3), (5, .int s2.2.2)]) S dX3_ofMeeting_76 hl (k := 6) rfl ic_1 (by decide) rfl (fun ls hl => ?_)
          refine lv_goto (tgt := 23) S.1 S.2.1 dX3_ofMeeting_79 (by decide) ?_
          exact hI8 _ (Option.some.inj hf).symm _ (lv_sub hl [3, 4, 5, 2, 1, 6, 0] rfl)
      · have hf := it_n c_ hf
        refine lv_aload_n S.1 S.2.1 dX3_ofMeeting_39 rfl (lv_at hl 1 rfl) ?_
        refine lv_iload S.1 S.2.1 dX3_ofMeeting_40 (lv_at hl 5 rfl) ?_
        refine lv_iload S.1 S.2.1 dX3_ofMeeting_42 (lv_at hl 6 rfl) ?_
        obtain ⟨x11, hx11, hf⟩ := bnd_e hf
        refine Rd.cV (c_X9_owes hx11) S hK hP 0 7 rfl rfl kVX3_17 rfl hl.1 [] rfl (Nat.le_of_ble_eq_true rfl) ⟨(Nat.le_of_ble_eq_true rfl), (Nat.le_of_ble_eq_true rfl)⟩ ⟨(Nat.zero_le _), (Nat.zero_le _)⟩ dX3_ofMeeting_44 ?_
        refine lv_aload_n S.1 S.2.1 dX3_ofMeeting_47 rfl (lv_at hl 1 rfl) ?_
        refine lv_iload S.1 S.2.1 dX3_ofMeeting_48 (lv_at hl 6 rfl) ?_
        refine lv_iload S.1 S.2.1 dX3_ofMeeting_50 (lv_at hl 5 rfl) ?_
        obtain ⟨x12, hx12, hf⟩ := bnd_e hf
        refine Rd.cV (c_X9_owes hx12) S hK hP 0 7 rfl rfl kVX3_17 rfl hl.1 [.int x11] rfl (Nat.le_of_ble_eq_true rfl) ⟨(Nat.le_of_ble_eq_true rfl), (Nat.le_of_ble_eq_true rfl)⟩ ⟨(Nat.zero_le _), (Nat.zero_le _)⟩ dX3_ofMeeting_52 ?_
        refine lv_iadd S.1 S.2.1 dX3_ofMeeting_55 ?_
        refine lv_if_le (tgt := 76) S.1 S.2.1 dX3_ofMeeting_56 (by decide) (fun c_ => ?_) (fun c_ => ?_)
        · have hf := it_p c_ hf
          refine q_iinc (w := 1) (lv' := [(6, .int (s7.2.2 + 1)), (3, .int (s7.1 + 1)), (0, .ref t_q0), (1, .int p2), (2, .int p3), (4, .int s7.2.1), (5, .int s2.2.2)]) S dX3_ofMeeting_76 hl (k := 6) rfl ic_1 (by decide) rfl (fun ls hl => ?_)
          refine lv_goto (tgt := 23) S.1 S.2.1 dX3_ofMeeting_79 (by decide) ?_
          exact hI8 _ (Option.some.inj hf).symm _ (lv_sub hl [2, 3, 4, 1, 5, 6, 0] rfl)
        · have hf := it_n c_ hf
          refine lv_goto (tgt := 73) S.1 S.2.1 dX3_ofMeeting_59 (by decide) ?_
          refine q_iinc (w := 1) (lv' := [(4, .int (s7.2.1 + 1)), (3, .int (s7.1 + 1)), (0, .ref t_q0), (1, .int p2), (2, .int p3), (5, .int s2.2.2), (6, .int s7.2.2)]) S dX3_ofMeeting_73 hl (k := 4) rfl ic_1 (by decide) rfl (fun ls hl => ?_)
          refine q_iinc (w := 1) (lv' := [(6, .int (s7.2.2 + 1)), (4, .int (s7.2.1 + 1)), (3, .int (s7.1 + 1)), (0, .ref t_q0), (1, .int p2), (2, .int p3), (5, .int s2.2.2)]) S dX3_ofMeeting_76 hl (k := 6) rfl ic_1 (by decide) rfl (fun ls hl => ?_)
          refine lv_goto (tgt := 23) S.1 S.2.1 dX3_ofMeeting_79 (by decide) ?_
          exact hI8 _ (Option.some.inj hf).symm _ (lv_sub hl [3, 4, 5, 2, 1, 6, 0] rfl)
def f_X3_ofGuest_L5 (t_people : Int32) (t_purse : (Nat → Int32)) (p2 : Int32) (s2 : Int32 × Int32) : Option ((Int32 × Int32) ⊕ (Int32)) := if t_people ≤ s2.2 then some (.inr s2.1) else bnd (α := Int32) (rdi 6 t_purse s2.2) (fun x5 => if x5 < p2 then some (.inl (s2.1, (s2.2 + 1))) else some (.inl ((s2.1 + 1), (s2.2 + 1))))
def f_X3_ofGuest (fu : Nat) (t_people : Int32) (t_purse : (Nat → Int32)) (p2 : Int32) (p3 : Int32) : Option (Int64) := bnd (α := Int32) (lp (f_X3_ofGuest_L5 t_people t_purse p2) fu ((0 : Int32), (0 : Int32))) (fun v6 => bnd (α := Int64) (f_X3_lowest fu (v6.toInt64) (t_people.toInt64) p3) (fun x7 => some x7))
set_option maxHeartbeats 4000000 in
set_option maxRecDepth 100000 in
theorem c_X3_ofGuest {l : Launch} {D : va_G} {g : Nat → ClassId} {fu : Nat} {t_q0 t_q1 t_q2 t_q3 t_q4 : Nat} {t_people : Int32} {t_wit : (Nat → Int32)} {t_purse : (Nat → Int32)} {t_hated : (Nat → Int32)} {t_owed : (Nat → Int32)} {p2 : Int32} {p3 : Int32} {r : Int64} (hf : f_X3_ofGuest fu t_people t_purse p2 p3 = some r) : Rd l D (gy g) yX3_ofGuest cX3_ofGuest 5 (some .long) 1 [.ref t_q0, .int p2, .int p3] (wTw g t_q0 t_q1 t_q2 t_q3 t_q4 t_people t_wit t_purse t_hated t_owed) (some (.long r)) := by
  refine Rd.ofL (by decide) (Nat.le_of_ble_eq_true rfl) ?_
  intro p e s m args below meth c Q S hK hP hret ls hl
  have hl : lv_has ls 5 [(0, .ref t_q0), (1, .int p2), (2, .int p3)] := hl
  refine lv_iconst (v := 0) S.1 S.2.1 dX3_ofGuest_0 ic_0 ?_
  refine lv_istore_n (lv' := [(3, .int (0 : Int32)), (0, .ref t_q0), (1, .int p2), (2, .int p3)]) S.1 S.2.1 dX3_ofGuest_1 rfl hl (by decide) rfl (fun ls hl => ?_)
  refine lv_iconst (v := 0) S.1 S.2.1 dX3_ofGuest_2 ic_0 ?_
  refine lv_istore (lv' := [(4, .int (0 : Int32)), (3, .int (0 : Int32)), (0, .ref t_q0), (1, .int p2), (2, .int p3)]) S.1 S.2.1 dX3_ofGuest_3 hl (by decide) rfl (fun ls hl => ?_)
  obtain ⟨x3, hf_, hk3⟩ := bnd_e hf
  have hE3 : ∀ (v6 : Int32), v6 = x3 → ∀ (ls : Array Slot), lv_has ls 5 [(0, .ref t_q0), (2, .int p3), (3, .int v6)] → W p l e (rmD 1) s m args below meth c s.heap [] 0 0 Q (F0 m 34 ls []) := by
    intro v6 e_ ls hl
    subst e_
    have hf := hk3
    refine lv_iload_n S.1 S.2.1 dX3_ofGuest_34 rfl (lv_at hl 2 rfl) ?_
    refine lv_i2l (v := (v6.toInt64)) S.1 S.2.1 dX3_ofGuest_35 rfl ?_
    refine lv_aload_n S.1 S.2.1 dX3_ofGuest_36 rfl (lv_at hl 0 rfl) ?_
    refine gfX3_11 S hK hP 0 rfl rfl dX3_ofGuest_37 ?_
    refine lv_i2l (v := (t_people.toInt64)) S.1 S.2.1 dX3_ofGuest_40 rfl ?_
    refine lv_iload_n S.1 S.2.1 dX3_ofGuest_41 rfl (lv_at hl 1 rfl) ?_
    obtain ⟨x7, hx7, hf⟩ := bnd_e hf
    refine Rd.cS (c_X3_lowest hx7) S hK va_P.nil kSX3_25 rfl hl.1 [] rfl (Nat.le_of_ble_eq_true rfl) ⟨(Nat.le_of_ble_eq_true rfl), (Nat.le_of_ble_eq_true rfl)⟩ ⟨(Nat.zero_le _), (Nat.zero_le _)⟩ dX3_ofGuest_42 ?_
    have e_ := Option.some.inj hf
    subst e_
    exact hret _ _ dX3_ofGuest_45
  refine lp_ind (P := fun (s2 : Int32 × Int32) => ∀ (ls : Array Slot), lv_has ls 5 [(0, .ref t_q0), (1, .int p2), (2, .int p3), (3, .int s2.1), (4, .int s2.2)] → W p l e (rmD 1) s m args below meth c s.heap [] 0 0 Q (F0 m 5 ls [])) ?_ _ _ hf_ _ (lv_sub hl [2, 3, 4, 1, 0] rfl)
  intro s2 x4 hf hI3 hR3 ls hl
  refine lv_iload S.1 S.2.1 dX3_ofGuest_5 (lv_at hl 4 rfl) ?_
  refine lv_aload_n S.1 S.2.1 dX3_ofGuest_7 rfl (lv_at hl 0 rfl) ?_
  refine gfX3_11 S hK hP 0 rfl rfl dX3_ofGuest_8 ?_
  refine lv_icmp_ge (tgt := 34) S.1 S.2.1 dX3_ofGuest_11 (by decide) (fun c_ => ?_) (fun c_ => ?_)
  · have hf := it_p c_ hf
    have e_ := hR3 _ (Option.some.inj hf).symm
    exact hE3 _ e_ _ (lv_sub hl [0, 2, 3] rfl)
  · have hf := it_n c_ hf
    refine lv_aload_n S.1 S.2.1 dX3_ofGuest_14 rfl (lv_at hl 0 rfl) ?_
    refine gfX3_31 S hK hP 0 rfl rfl dX3_ofGuest_15 ?_
    refine lv_iload S.1 S.2.1 dX3_ofGuest_18 (lv_at hl 4 rfl) ?_
    obtain ⟨x5, hx5, hf⟩ := bnd_e hf
    refine q_iald S hK hP 2 0 rfl rfl hx5 dX3_ofGuest_20 ?_
    refine lv_iload_n S.1 S.2.1 dX3_ofGuest_21 rfl (lv_at hl 1 rfl) ?_
    refine lv_icmp_lt (tgt := 28) S.1 S.2.1 dX3_ofGuest_22 (by decide) (fun c_ => ?_) (fun c_ => ?_)
    · have hf := it_p c_ hf
      refine q_iinc (w := 1) (lv' := [(4, .int (s2.2 + 1)), (0, .ref t_q0), (1, .int p2), (2, .int p3), (3, .int s2.1)]) S dX3_ofGuest_28 hl (k := 4) rfl ic_1 (by decide) rfl (fun ls hl => ?_)
      refine lv_goto (tgt := 5) S.1 S.2.1 dX3_ofGuest_31 (by decide) ?_
      exact hI3 _ (Option.some.inj hf).symm _ (lv_sub hl [1, 2, 3, 4, 0] rfl)
    · have hf := it_n c_ hf
      refine q_iinc (w := 1) (lv' := [(3, .int (s2.1 + 1)), (0, .ref t_q0), (1, .int p2), (2, .int p3), (4, .int s2.2)]) S dX3_ofGuest_25 hl (k := 3) rfl ic_1 (by decide) rfl (fun ls hl => ?_)
      refine q_iinc (w := 1) (lv' := [(4, .int (s2.2 + 1)), (3, .int (s2.1 + 1)), (0, .ref t_q0), (1, .int p2), (2, .int p3)]) S dX3_ofGuest_28 hl (k := 4) rfl ic_1 (by decide) rfl (fun ls hl => ?_)
      refine lv_goto (tgt := 5) S.1 S.2.1 dX3_ofGuest_31 (by decide) ?_
      exact hI3 _ (Option.some.inj hf).symm _ (lv_sub hl [2, 3, 4, 1, 0] rfl)
def f_X0_owesTo_L5 (fu : Nat) (t_people : Int32) (t_owed : (Nat → Int32)) (p2 : Int32) (p3 : Int32) (s2 : Int32 × Int32) : Option ((Int32 × Int32) ⊕ (Int32)) := if t_people ≤ s2.2 then some (.inr s2.1) else if ((jshr p3 s2.2) &&& (1 : Int32)) = 0 then some (.inl (s2.1, (s2.2 + 1))) else bnd (α := Int32) (f_X9_owes fu t_owed p2 s2.2) (fun x5 => ltn (s2.1 + x5) (fun x6 => some (.inl (x6, (s2.2 + 1)))))
def f_X0_owesTo (fu : Nat) (t_people : Int32) (t_owed : (Nat → Int32)) (p2 : Int32) (p3 : Int32) : Option (Int32) := bnd (α := Int32) (lp (f_X0_owesTo_L5 fu t_people t_owed p2 p3) fu ((0 : Int32), (0 : Int32))) (fun v7 => some v7)
set_option maxHeartbeats 4000000 in
set_option maxRecDepth 100000 in
theorem c_X0_owesTo {l : Launch} {D : va_G} {g : Nat → ClassId} {fu : Nat} {t_q0 t_q1 t_q2 t_q3 t_q4 : Nat} {t_people : Int32} {t_wit : (Nat → Int32)} {t_purse : (Nat → Int32)} {t_hated : (Nat → Int32)} {t_owed : (Nat → Int32)} {p2 : Int32} {p3 : Int32} {r : Int32} (hf : f_X0_owesTo fu t_people t_owed p2 p3 = some r) : Rd l D (gy g) yX0_owesTo cX0_owesTo 5 (some .int) 1 [.ref t_q0, .int p2, .int p3] (wTw g t_q0 t_q1 t_q2 t_q3 t_q4 t_people t_wit t_purse t_hated t_owed) (some (.int r)) := by
  refine Rd.ofI (by decide) (Nat.le_of_ble_eq_true rfl) ?_
  intro p e s m args below meth c Q S hK hP hret ls hl
  have hl : lv_has ls 5 [(0, .ref t_q0), (1, .int p2), (2, .int p3)] := hl
  refine lv_iconst (v := 0) S.1 S.2.1 dX0_owesTo_0 ic_0 ?_
  refine lv_istore_n (lv' := [(3, .int (0 : Int32)), (0, .ref t_q0), (1, .int p2), (2, .int p3)]) S.1 S.2.1 dX0_owesTo_1 rfl hl (by decide) rfl (fun ls hl => ?_)
  refine lv_iconst (v := 0) S.1 S.2.1 dX0_owesTo_2 ic_0 ?_
  refine lv_istore (lv' := [(4, .int (0 : Int32)), (3, .int (0 : Int32)), (0, .ref t_q0), (1, .int p2), (2, .int p3)]) S.1 S.2.1 dX0_owesTo_3 hl (by decide) rfl (fun ls hl => ?_)
  obtain ⟨x3, hf_, hk3⟩ := bnd_e hf
  have hE3 : ∀ (v7 : Int32), v7 = x3 → ∀ (ls : Array Slot), lv_has ls 5 [(3, .int v7)] → W p l e (rmD 1) s m args below meth c s.heap [] 0 0 Q (F0 m 39 ls []) := by
    intro v7 e_ ls hl
    subst e_
    have hf := hk3
    refine lv_iload_n S.1 S.2.1 dX0_owesTo_39 rfl (lv_at hl 0 rfl) ?_
    have e_ := Option.some.inj hf
    subst e_
    exact hret _ _ dX0_owesTo_40
  refine lp_ind (P := fun (s2 : Int32 × Int32) => ∀ (ls : Array Slot), lv_has ls 5 [(0, .ref t_q0), (1, .int p2), (2, .int p3), (3, .int s2.1), (4, .int s2.2)] → W p l e (rmD 1) s m args below meth c s.heap [] 0 0 Q (F0 m 5 ls [])) ?_ _ _ hf_ _ (lv_sub hl [2, 3, 4, 1, 0] rfl)
  intro s2 x4 hf hI3 hR3 ls hl
  refine lv_iload S.1 S.2.1 dX0_owesTo_5 (lv_at hl 4 rfl) ?_
  refine lv_aload_n S.1 S.2.1 dX0_owesTo_7 rfl (lv_at hl 0 rfl) ?_
  refine gfX0_9 S hK hP 0 rfl rfl dX0_owesTo_8 ?_
  refine lv_icmp_ge (tgt := 39) S.1 S.2.1 dX0_owesTo_11 (by decide) (fun c_ => ?_) (fun c_ => ?_)
  · have hf := it_p c_ hf
    have e_ := hR3 _ (Option.some.inj hf).symm
    exact hE3 _ e_ _ (lv_sub hl [3] rfl)
  · have hf := it_n c_ hf
    refine lv_iload_n S.1 S.2.1 dX0_owesTo_14 rfl (lv_at hl 2 rfl) ?_
    refine lv_iload S.1 S.2.1 dX0_owesTo_15 (lv_at hl 4 rfl) ?_
    refine lv_ishr S.1 S.2.1 dX0_owesTo_17 ?_
    refine lv_iconst (v := 1) S.1 S.2.1 dX0_owesTo_18 ic_1 ?_
    refine lv_iand S.1 S.2.1 dX0_owesTo_19 ?_
    refine lv_if_eq (tgt := 33) S.1 S.2.1 dX0_owesTo_20 (by decide) (fun c_ => ?_) (fun c_ => ?_)
    · have hf := it_p c_ hf
      refine q_iinc (w := 1) (lv' := [(4, .int (s2.2 + 1)), (0, .ref t_q0), (1, .int p2), (2, .int p3), (3, .int s2.1)]) S dX0_owesTo_33 hl (k := 4) rfl ic_1 (by decide) rfl (fun ls hl => ?_)
      refine lv_goto (tgt := 5) S.1 S.2.1 dX0_owesTo_36 (by decide) ?_
      exact hI3 _ (Option.some.inj hf).symm _ (lv_sub hl [1, 2, 3, 4, 0] rfl)
    · have hf := it_n c_ hf
      refine lv_iload_n S.1 S.2.1 dX0_owesTo_23 rfl (lv_at hl 3 rfl) ?_
      refine lv_aload_n S.1 S.2.1 dX0_owesTo_24 rfl (lv_at hl 0 rfl) ?_
      refine lv_iload_n S.1 S.2.1 dX0_owesTo_25 rfl (lv_at hl 1 rfl) ?_
      refine lv_iload S.1 S.2.1 dX0_owesTo_26 (lv_at hl 4 rfl) ?_
      obtain ⟨x5, hx5, hf⟩ := bnd_e hf
      refine Rd.cV (c_X9_owes hx5) S hK hP 0 7 rfl rfl kVX0_25 rfl hl.1 [.int s2.1] rfl (Nat.le_of_ble_eq_true rfl) ⟨(Nat.le_of_ble_eq_true rfl), (Nat.le_of_ble_eq_true rfl)⟩ ⟨(Nat.zero_le _), (Nat.zero_le _)⟩ dX0_owesTo_28 ?_
      refine lv_iadd S.1 S.2.1 dX0_owesTo_31 ?_
      refine lv_topi (fun x6 ex6 => ?_)
      have hf := ltn_e hf ex6
      refine lv_istore_n (lv' := [(3, .int x6), (0, .ref t_q0), (1, .int p2), (2, .int p3), (4, .int s2.2)]) S.1 S.2.1 dX0_owesTo_32 rfl hl (by decide) rfl (fun ls hl => ?_)
      refine q_iinc (w := 1) (lv' := [(4, .int (s2.2 + 1)), (3, .int x6), (0, .ref t_q0), (1, .int p2), (2, .int p3)]) S dX0_owesTo_33 hl (k := 4) rfl ic_1 (by decide) rfl (fun ls hl => ?_)
      refine lv_goto (tgt := 5) S.1 S.2.1 dX0_owesTo_36 (by decide) ?_
      exact hI3 _ (Option.some.inj hf).symm _ (lv_sub hl [2, 3, 4, 1, 0] rfl)
def f_X0_hardestCourt_L8 (fu : Nat) (t_people : Int32) (t_hated : (Nat → Int32)) (t_owed : (Nat → Int32)) (p2 : Int32) (s2 : Int32 × Int32 × Int32) : Option ((Int32 × Int32 × Int32) ⊕ (Int32 × Int32)) := if (jshl (1 : Int32) t_people) ≤ s2.2.2 then some (.inr (s2.1, s2.2.1)) else bnd (α := Int32) (f_X9_allHate fu t_people t_hated s2.2.2) (fun x5 => bnd (α := Int32) (if x5 = 0 then some (0 : Int32) else bnd (α := Int32) (f_X0_owesTo fu t_people t_owed p2 s2.2.2) (fun x8 => some x8)) (fun v7 => if v7 ≤ s2.1 then some (.inl (s2.1, s2.2.1, (s2.2.2 + 1))) else some (.inl (v7, s2.2.2, (s2.2.2 + 1)))))
def f_X0_hardestCourt (fu : Nat) (t_people : Int32) (t_hated : (Nat → Int32)) (t_owed : (Nat → Int32)) (p2 : Int32) (p3 : Int32) : Option (Int32) := bnd (α := Int32 × Int32) (lp (f_X0_hardestCourt_L8 fu t_people t_hated t_owed p2) fu ((0 : Int32), (0 : Int32), (1 : Int32))) (fun v9 => if p3 = 0 then some v9.1 else some v9.2)
set_option maxHeartbeats 4000000 in
set_option maxRecDepth 100000 in
theorem c_X0_hardestCourt {l : Launch} {D : va_G} {g : Nat → ClassId} {fu : Nat} {t_q0 t_q1 t_q2 t_q3 t_q4 : Nat} {t_people : Int32} {t_wit : (Nat → Int32)} {t_purse : (Nat → Int32)} {t_hated : (Nat → Int32)} {t_owed : (Nat → Int32)} {p2 : Int32} {p3 : Int32} {r : Int32} (hf : f_X0_hardestCourt fu t_people t_hated t_owed p2 p3 = some r) : Rd l D (gy g) yX0_hardestCourt cX0_hardestCourt 7 (some .int) 2 [.ref t_q0, .int p2, .int p3] (wTw g t_q0 t_q1 t_q2 t_q3 t_q4 t_people t_wit t_purse t_hated t_owed) (some (.int r)) := by
  refine Rd.ofI (by decide) (Nat.le_of_ble_eq_true rfl) ?_
  intro p e s m args below meth c Q S hK hP hret ls hl
  have hl : lv_has ls 7 [(0, .ref t_q0), (1, .int p2), (2, .int p3)] := hl
  refine lv_iconst (v := 0) S.1 S.2.1 dX0_hardestCourt_0 ic_0 ?_
  refine lv_istore_n (lv' := [(3, .int (0 : Int32)), (0, .ref t_q0), (1, .int p2), (2, .int p3)]) S.1 S.2.1 dX0_hardestCourt_1 rfl hl (by decide) rfl (fun ls hl => ?_)
  refine lv_iconst (v := 0) S.1 S.2.1 dX0_hardestCourt_2 ic_0 ?_
  refine lv_istore (lv' := [(4, .int (0 : Int32)), (3, .int (0 : Int32)), (0, .ref t_q0), (1, .int p2), (2, .int p3)]) S.1 S.2.1 dX0_hardestCourt_3 hl (by decide) rfl (fun ls hl => ?_)
  refine lv_iconst (v := 1) S.1 S.2.1 dX0_hardestCourt_5 ic_1 ?_
  refine lv_istore (lv' := [(5, .int (1 : Int32)), (4, .int (0 : Int32)), (3, .int (0 : Int32)), (0, .ref t_q0), (1, .int p2), (2, .int p3)]) S.1 S.2.1 dX0_hardestCourt_6 hl (by decide) rfl (fun ls hl => ?_)
  obtain ⟨x3, hf_, hk3⟩ := bnd_e hf
  have hE3 : ∀ (v9 : Int32 × Int32), v9 = x3 → ∀ (ls : Array Slot), lv_has ls 7 [(2, .int p3), (3, .int v9.1), (4, .int v9.2)] → W p l e (rmD 2) s m args below meth c s.heap [] 0 0 Q (F0 m 60 ls []) := by
    intro v9 e_ ls hl
    subst e_
    have hf := hk3
    refine lv_iload_n S.1 S.2.1 dX0_hardestCourt_60 rfl (lv_at hl 0 rfl) ?_
    refine lv_if_eq (tgt := 69) S.1 S.2.1 dX0_hardestCourt_61 (by decide) (fun c_ => ?_) (fun c_ => ?_)
    · have hf := it_p c_ hf
      refine lv_iload_n S.1 S.2.1 dX0_hardestCourt_69 rfl (lv_at hl 1 rfl) ?_
      have e_ := Option.some.inj hf
      subst e_
      exact hret _ _ dX0_hardestCourt_70
    · have hf := it_n c_ hf
      refine lv_iload S.1 S.2.1 dX0_hardestCourt_64 (lv_at hl 2 rfl) ?_
      refine lv_goto (tgt := 70) S.1 S.2.1 dX0_hardestCourt_66 (by decide) ?_
      have e_ := Option.some.inj hf
      subst e_
      exact hret _ _ dX0_hardestCourt_70
  refine lp_ind (P := fun (s2 : Int32 × Int32 × Int32) => ∀ (ls : Array Slot), lv_has ls 7 [(0, .ref t_q0), (1, .int p2), (2, .int p3), (3, .int s2.1), (4, .int s2.2.1), (5, .int s2.2.2)] → W p l e (rmD 2) s m args below meth c s.heap [] 0 0 Q (F0 m 8 ls [])) ?_ _ _ hf_ _ (lv_sub hl [3, 4, 5, 2, 1, 0] rfl)
  intro s2 x4 hf hI3 hR3 ls hl
  refine lv_iload S.1 S.2.1 dX0_hardestCourt_8 (lv_at hl 5 rfl) ?_
  refine lv_iconst (v := 1) S.1 S.2.1 dX0_hardestCourt_10 ic_1 ?_
  refine lv_aload_n S.1 S.2.1 dX0_hardestCourt_11 rfl (lv_at hl 0 rfl) ?_
  refine gfX0_9 S hK hP 0 rfl rfl dX0_hardestCourt_12 ?_
  refine lv_ishl S.1 S.2.1 dX0_hardestCourt_15 ?_
  refine lv_icmp_ge (tgt := 60) S.1 S.2.1 dX0_hardestCourt_16 (by decide) (fun c_ => ?_) (fun c_ => ?_)
  · have hf := it_p c_ hf
    have e_ := hR3 _ (Option.some.inj hf).symm
    exact hE3 _ e_ _ (lv_sub hl [2, 3, 4] rfl)
  · have hf := it_n c_ hf
    refine lv_aload_n S.1 S.2.1 dX0_hardestCourt_19 rfl (lv_at hl 0 rfl) ?_
    refine lv_iload S.1 S.2.1 dX0_hardestCourt_20 (lv_at hl 5 rfl) ?_
    obtain ⟨x5, hx5, hf⟩ := bnd_e hf
    refine Rd.cV (c_X9_allHate hx5) S hK hP 0 7 rfl rfl kVX0_15 rfl hl.1 [] rfl (Nat.le_of_ble_eq_true rfl) ⟨(Nat.le_of_ble_eq_true rfl), (Nat.le_of_ble_eq_true rfl)⟩ ⟨(Nat.zero_le _), (Nat.zero_le _)⟩ dX0_hardestCourt_22 ?_
    obtain ⟨x6, hf_, hk6⟩ := bnd_e hf
    have hJ6 : ∀ (v7 : Int32), v7 = x6 → ∀ (ls : Array Slot), lv_has ls 7 [(0, .ref t_q0), (1, .int p2), (2, .int p3), (3, .int s2.1), (4, .int s2.2.1), (5, .int s2.2.2)] → W p l e (rmD 2) s m args below meth c s.heap [] 0 0 Q (F0 m 39 ls [.int v7]) := by
      intro v7 e_ ls hl
      subst e_
      have hf := hk6
      refine lv_istore (lv' := [(6, .int v7), (0, .ref t_q0), (1, .int p2), (2, .int p3), (3, .int s2.1), (4, .int s2.2.1), (5, .int s2.2.2)]) S.1 S.2.1 dX0_hardestCourt_39 hl (by decide) rfl (fun ls hl => ?_)
      refine lv_iload S.1 S.2.1 dX0_hardestCourt_41 (lv_at hl 0 rfl) ?_
      refine lv_iload_n S.1 S.2.1 dX0_hardestCourt_43 rfl (lv_at hl 4 rfl) ?_
      refine lv_icmp_le (tgt := 54) S.1 S.2.1 dX0_hardestCourt_44 (by decide) (fun c_ => ?_) (fun c_ => ?_)
      · have hf := it_p c_ hf
        refine q_iinc (w := 1) (lv' := [(5, .int (s2.2.2 + 1)), (6, .int v7), (0, .ref t_q0), (1, .int p2), (2, .int p3), (3, .int s2.1), (4, .int s2.2.1)]) S dX0_hardestCourt_54 hl (k := 6) rfl ic_1 (by decide) rfl (fun ls hl => ?_)
        refine lv_goto (tgt := 8) S.1 S.2.1 dX0_hardestCourt_57 (by decide) ?_
        exact hI3 _ (Option.some.inj hf).symm _ (lv_sub hl [2, 3, 4, 5, 6, 0] rfl)
      · have hf := it_n c_ hf
        refine lv_iload S.1 S.2.1 dX0_hardestCourt_47 (lv_at hl 0 rfl) ?_
        refine lv_istore_n (lv' := [(3, .int v7), (6, .int v7), (0, .ref t_q0), (1, .int p2), (2, .int p3), (4, .int s2.2.1), (5, .int s2.2.2)]) S.1 S.2.1 dX0_hardestCourt_49 rfl hl (by decide) rfl (fun ls hl => ?_)
        refine lv_iload S.1 S.2.1 dX0_hardestCourt_50 (lv_at hl 6 rfl) ?_
        refine lv_istore (lv' := [(4, .int s2.2.2), (3, .int v7), (6, .int v7), (0, .ref t_q0), (1, .int p2), (2, .int p3), (5, .int s2.2.2)]) S.1 S.2.1 dX0_hardestCourt_52 hl (by decide) rfl (fun ls hl => ?_)
        refine q_iinc (w := 1) (lv' := [(5, .int (s2.2.2 + 1)), (4, .int s2.2.2), (3, .int v7), (6, .int v7), (0, .ref t_q0), (1, .int p2), (2, .int p3)]) S dX0_hardestCourt_54 hl (k := 6) rfl ic_1 (by decide) rfl (fun ls hl => ?_)
        refine lv_goto (tgt := 8) S.1 S.2.1 dX0_hardestCourt_57 (by decide) ?_
        exact hI3 _ (Option.some.inj hf).symm _ (lv_sub hl [4, 5, 6, 2, 1, 0] rfl)
    have hf := hf_
    refine lv_if_eq (tgt := 38) S.1 S.2.1 dX0_hardestCourt_25 (by decide) (fun c_ => ?_) (fun c_ => ?_)
    · have hf := it_p c_ hf
      refine lv_iconst (v := 0) S.1 S.2.1 dX0_hardestCourt_38 ic_0 ?_
      exact hJ6 _ (Option.some.inj hf) _ (lv_sub hl [0, 1, 2, 3, 4, 5] rfl)
    · have hf := it_n c_ hf
      refine lv_aload_n S.1 S.2.1 dX0_hardestCourt_28 rfl (lv_at hl 0 rfl) ?_
      refine lv_iload_n S.1 S.2.1 dX0_hardestCourt_29 rfl (lv_at hl 1 rfl) ?_
      refine lv_iload S.1 S.2.1 dX0_hardestCourt_30 (lv_at hl 5 rfl) ?_
      obtain ⟨x8, hx8, hf⟩ := bnd_e hf
      refine Rd.cS (c_X0_owesTo hx8) S hK hP kSX0_19 rfl hl.1 [] rfl (Nat.le_of_ble_eq_true rfl) ⟨(Nat.le_of_ble_eq_true rfl), (Nat.le_of_ble_eq_true rfl)⟩ ⟨(Nat.zero_le _), (Nat.zero_le _)⟩ dX0_hardestCourt_32 ?_
      refine lv_goto (tgt := 39) S.1 S.2.1 dX0_hardestCourt_35 (by decide) ?_
      exact hJ6 _ (Option.some.inj hf) _ (lv_sub hl [0, 1, 2, 3, 4, 5] rfl)
def f_X0_longestRota_L7 (fu : Nat) (t_people : Int32) (t_owed : (Nat → Int32)) (s2 : Int32 × Int32 × Int32) : Option ((Int32 × Int32 × Int32) ⊕ (Int32 × Int32)) := if t_people ≤ s2.2.2 then some (.inr (s2.1, s2.2.1)) else bnd (α := Int32) (f_X9_isOwedInAll fu t_people t_owed s2.2.2) (fun x5 => if x5 ≤ s2.1 then some (.inl (s2.1, s2.2.1, (s2.2.2 + 1))) else some (.inl (x5, s2.2.2, (s2.2.2 + 1))))
def f_X0_longestRota (fu : Nat) (t_people : Int32) (t_owed : (Nat → Int32)) (p2 : Int32) : Option (Int32) := bnd (α := Int32 × Int32) (lp (f_X0_longestRota_L7 fu t_people t_owed) fu ((-1 : Int32), (-1 : Int32), (0 : Int32))) (fun v6 => if p2 = 0 then some (jmax (0 : Int32) v6.1) else some v6.2)
set_option maxHeartbeats 4000000 in
set_option maxRecDepth 100000 in
theorem c_X0_longestRota {l : Launch} {D : va_G} {g : Nat → ClassId} {fu : Nat} {t_q0 t_q1 t_q2 t_q3 t_q4 : Nat} {t_people : Int32} {t_wit : (Nat → Int32)} {t_purse : (Nat → Int32)} {t_hated : (Nat → Int32)} {t_owed : (Nat → Int32)} {p2 : Int32} {r : Int32} (hf : f_X0_longestRota fu t_people t_owed p2 = some r) : Rd l D (gy g) yX0_longestRota cX0_longestRota 6 (some .int) 2 [.ref t_q0, .int p2] (wTw g t_q0 t_q1 t_q2 t_q3 t_q4 t_people t_wit t_purse t_hated t_owed) (some (.int r)) := by
  refine Rd.ofI (by decide) (Nat.le_of_ble_eq_true rfl) ?_
  intro p e s m args below meth c Q S hK hP hret ls hl
  have hl : lv_has ls 6 [(0, .ref t_q0), (1, .int p2)] := hl
  refine lv_iconst (v := (-1)) S.1 S.2.1 dX0_longestRota_0 ic_m1 ?_
  refine lv_istore_n (lv' := [(2, .int (-1 : Int32)), (0, .ref t_q0), (1, .int p2)]) S.1 S.2.1 dX0_longestRota_1 rfl hl (by decide) rfl (fun ls hl => ?_)
  refine lv_iconst (v := (-1)) S.1 S.2.1 dX0_longestRota_2 ic_m1 ?_
  refine lv_istore_n (lv' := [(3, .int (-1 : Int32)), (2, .int (-1 : Int32)), (0, .ref t_q0), (1, .int p2)]) S.1 S.2.1 dX0_longestRota_3 rfl hl (by decide) rfl (fun ls hl => ?_)
  refine lv_iconst (v := 0) S.1 S.2.1 dX0_longestRota_4 ic_0 ?_
  refine lv_istore (lv' := [(4, .int (0 : Int32)), (3, .int (-1 : Int32)), (2, .int (-1 : Int32)), (0, .ref t_q0), (1, .int p2)]) S.1 S.2.1 dX0_longestRota_5 hl (by decide) rfl (fun ls hl => ?_)
  obtain ⟨x3, hf_, hk3⟩ := bnd_e hf
  have hE3 : ∀ (v6 : Int32 × Int32), v6 = x3 → ∀ (ls : Array Slot), lv_has ls 6 [(1, .int p2), (2, .int v6.1), (3, .int v6.2)] → W p l e (rmD 2) s m args below meth c s.heap [] 0 0 Q (F0 m 42 ls []) := by
    intro v6 e_ ls hl
    subst e_
    have hf := hk3
    refine lv_iload_n S.1 S.2.1 dX0_longestRota_42 rfl (lv_at hl 0 rfl) ?_
    refine lv_if_eq (tgt := 50) S.1 S.2.1 dX0_longestRota_43 (by decide) (fun c_ => ?_) (fun c_ => ?_)
    · have hf := it_p c_ hf
      refine lv_iconst (v := 0) S.1 S.2.1 dX0_longestRota_50 ic_0 ?_
      refine lv_iload_n S.1 S.2.1 dX0_longestRota_51 rfl (lv_at hl 1 rfl) ?_
      refine va_mmax S.1 S.2.1 (S.2.2.1.trans hl.1.symm) S.2.2.2.1 (S.2.2.2.2 _ q_657) (S.2.2.2.2 _ q_658) (S.2.2.2.2 _ q_12) (S.2.2.2.2 _ q_659) (Nat.le_of_ble_eq_true rfl) (Nat.le_of_ble_eq_true rfl) (Nat.zero_le _) (Nat.zero_le _) dX0_longestRota_52 ?_
      have e_ := Option.some.inj hf
      subst e_
      exact hret _ _ dX0_longestRota_55
    · have hf := it_n c_ hf
      refine lv_iload_n S.1 S.2.1 dX0_longestRota_46 rfl (lv_at hl 2 rfl) ?_
      refine lv_goto (tgt := 55) S.1 S.2.1 dX0_longestRota_47 (by decide) ?_
      have e_ := Option.some.inj hf
      subst e_
      exact hret _ _ dX0_longestRota_55
  refine lp_ind (P := fun (s2 : Int32 × Int32 × Int32) => ∀ (ls : Array Slot), lv_has ls 6 [(0, .ref t_q0), (1, .int p2), (2, .int s2.1), (3, .int s2.2.1), (4, .int s2.2.2)] → W p l e (rmD 2) s m args below meth c s.heap [] 0 0 Q (F0 m 7 ls [])) ?_ _ _ hf_ _ (lv_sub hl [3, 4, 2, 1, 0] rfl)
  intro s2 x4 hf hI3 hR3 ls hl
  refine lv_iload S.1 S.2.1 dX0_longestRota_7 (lv_at hl 4 rfl) ?_
  refine lv_aload_n S.1 S.2.1 dX0_longestRota_9 rfl (lv_at hl 0 rfl) ?_
  refine gfX0_9 S hK hP 0 rfl rfl dX0_longestRota_10 ?_
  refine lv_icmp_ge (tgt := 42) S.1 S.2.1 dX0_longestRota_13 (by decide) (fun c_ => ?_) (fun c_ => ?_)
  · have hf := it_p c_ hf
    have e_ := hR3 _ (Option.some.inj hf).symm
    exact hE3 _ e_ _ (lv_sub hl [1, 2, 3] rfl)
  · have hf := it_n c_ hf
    refine lv_aload_n S.1 S.2.1 dX0_longestRota_16 rfl (lv_at hl 0 rfl) ?_
    refine lv_iload S.1 S.2.1 dX0_longestRota_17 (lv_at hl 4 rfl) ?_
    obtain ⟨x5, hx5, hf⟩ := bnd_e hf
    refine Rd.cV (c_X9_isOwedInAll hx5) S hK hP 0 7 rfl rfl kVX0_29 rfl hl.1 [] rfl (Nat.le_of_ble_eq_true rfl) ⟨(Nat.le_of_ble_eq_true rfl), (Nat.le_of_ble_eq_true rfl)⟩ ⟨(Nat.zero_le _), (Nat.zero_le _)⟩ dX0_longestRota_19 ?_
    refine lv_istore (lv' := [(5, .int x5), (0, .ref t_q0), (1, .int p2), (2, .int s2.1), (3, .int s2.2.1), (4, .int s2.2.2)]) S.1 S.2.1 dX0_longestRota_22 hl (by decide) rfl (fun ls hl => ?_)
    refine lv_iload S.1 S.2.1 dX0_longestRota_24 (lv_at hl 0 rfl) ?_
    refine lv_iload_n S.1 S.2.1 dX0_longestRota_26 rfl (lv_at hl 3 rfl) ?_
    refine lv_icmp_le (tgt := 36) S.1 S.2.1 dX0_longestRota_27 (by decide) (fun c_ => ?_) (fun c_ => ?_)
    · have hf := it_p c_ hf
      refine q_iinc (w := 1) (lv' := [(4, .int (s2.2.2 + 1)), (5, .int x5), (0, .ref t_q0), (1, .int p2), (2, .int s2.1), (3, .int s2.2.1)]) S dX0_longestRota_36 hl (k := 5) rfl ic_1 (by decide) rfl (fun ls hl => ?_)
      refine lv_goto (tgt := 7) S.1 S.2.1 dX0_longestRota_39 (by decide) ?_
      exact hI3 _ (Option.some.inj hf).symm _ (lv_sub hl [2, 3, 4, 5, 0] rfl)
    · have hf := it_n c_ hf
      refine lv_iload S.1 S.2.1 dX0_longestRota_30 (lv_at hl 0 rfl) ?_
      refine lv_istore_n (lv' := [(2, .int x5), (5, .int x5), (0, .ref t_q0), (1, .int p2), (3, .int s2.2.1), (4, .int s2.2.2)]) S.1 S.2.1 dX0_longestRota_32 rfl hl (by decide) rfl (fun ls hl => ?_)
      refine lv_iload S.1 S.2.1 dX0_longestRota_33 (lv_at hl 5 rfl) ?_
      refine lv_istore_n (lv' := [(3, .int s2.2.2), (2, .int x5), (5, .int x5), (0, .ref t_q0), (1, .int p2), (4, .int s2.2.2)]) S.1 S.2.1 dX0_longestRota_35 rfl hl (by decide) rfl (fun ls hl => ?_)
      refine q_iinc (w := 1) (lv' := [(4, .int (s2.2.2 + 1)), (3, .int s2.2.2), (2, .int x5), (5, .int x5), (0, .ref t_q0), (1, .int p2)]) S dX0_longestRota_36 hl (k := 5) rfl ic_1 (by decide) rfl (fun ls hl => ?_)
      refine lv_goto (tgt := 7) S.1 S.2.1 dX0_longestRota_39 (by decide) ?_
      exact hI3 _ (Option.some.inj hf).symm _ (lv_sub hl [4, 5, 2, 1, 0] rfl)
def f_X0_stillOwedTo_L5 (fu : Nat) (t_people : Int32) (t_owed : (Nat → Int32)) (p2 : Int32) (p3 : Int32) (s2 : Int32 × Int32) : Option ((Int32 × Int32) ⊕ (Int32)) := if t_people ≤ s2.2 then some (.inr s2.1) else if ((jshr p3 s2.2) &&& (1 : Int32)) = 0 then bnd (α := Int32) (f_X9_owes fu t_owed s2.2 p2) (fun x5 => ltn (s2.1 + x5) (fun x6 => some (.inl (x6, (s2.2 + 1))))) else some (.inl (s2.1, (s2.2 + 1)))
def f_X0_stillOwedTo (fu : Nat) (t_people : Int32) (t_owed : (Nat → Int32)) (p2 : Int32) (p3 : Int32) : Option (Int32) := bnd (α := Int32) (lp (f_X0_stillOwedTo_L5 fu t_people t_owed p2 p3) fu ((0 : Int32), (0 : Int32))) (fun v7 => some v7)
set_option maxHeartbeats 4000000 in
set_option maxRecDepth 100000 in
theorem c_X0_stillOwedTo {l : Launch} {D : va_G} {g : Nat → ClassId} {fu : Nat} {t_q0 t_q1 t_q2 t_q3 t_q4 : Nat} {t_people : Int32} {t_wit : (Nat → Int32)} {t_purse : (Nat → Int32)} {t_hated : (Nat → Int32)} {t_owed : (Nat → Int32)} {p2 : Int32} {p3 : Int32} {r : Int32} (hf : f_X0_stillOwedTo fu t_people t_owed p2 p3 = some r) : Rd l D (gy g) yX0_stillOwedTo cX0_stillOwedTo 5 (some .int) 1 [.ref t_q0, .int p2, .int p3] (wTw g t_q0 t_q1 t_q2 t_q3 t_q4 t_people t_wit t_purse t_hated t_owed) (some (.int r)) := by
  refine Rd.ofI (by decide) (Nat.le_of_ble_eq_true rfl) ?_
  intro p e s m args below meth c Q S hK hP hret ls hl
  have hl : lv_has ls 5 [(0, .ref t_q0), (1, .int p2), (2, .int p3)] := hl
  refine lv_iconst (v := 0) S.1 S.2.1 dX0_stillOwedTo_0 ic_0 ?_
  refine lv_istore_n (lv' := [(3, .int (0 : Int32)), (0, .ref t_q0), (1, .int p2), (2, .int p3)]) S.1 S.2.1 dX0_stillOwedTo_1 rfl hl (by decide) rfl (fun ls hl => ?_)
  refine lv_iconst (v := 0) S.1 S.2.1 dX0_stillOwedTo_2 ic_0 ?_
  refine lv_istore (lv' := [(4, .int (0 : Int32)), (3, .int (0 : Int32)), (0, .ref t_q0), (1, .int p2), (2, .int p3)]) S.1 S.2.1 dX0_stillOwedTo_3 hl (by decide) rfl (fun ls hl => ?_)
  obtain ⟨x3, hf_, hk3⟩ := bnd_e hf
  have hE3 : ∀ (v7 : Int32), v7 = x3 → ∀ (ls : Array Slot), lv_has ls 5 [(3, .int v7)] → W p l e (rmD 1) s m args below meth c s.heap [] 0 0 Q (F0 m 39 ls []) := by
    intro v7 e_ ls hl
    subst e_
    have hf := hk3
    refine lv_iload_n S.1 S.2.1 dX0_stillOwedTo_39 rfl (lv_at hl 0 rfl) ?_
    have e_ := Option.some.inj hf
    subst e_
    exact hret _ _ dX0_stillOwedTo_40
  refine lp_ind (P := fun (s2 : Int32 × Int32) => ∀ (ls : Array Slot), lv_has ls 5 [(0, .ref t_q0), (1, .int p2), (2, .int p3), (3, .int s2.1), (4, .int s2.2)] → W p l e (rmD 1) s m args below meth c s.heap [] 0 0 Q (F0 m 5 ls [])) ?_ _ _ hf_ _ (lv_sub hl [2, 3, 4, 1, 0] rfl)
  intro s2 x4 hf hI3 hR3 ls hl
  refine lv_iload S.1 S.2.1 dX0_stillOwedTo_5 (lv_at hl 4 rfl) ?_
  refine lv_aload_n S.1 S.2.1 dX0_stillOwedTo_7 rfl (lv_at hl 0 rfl) ?_
  refine gfX0_9 S hK hP 0 rfl rfl dX0_stillOwedTo_8 ?_
  refine lv_icmp_ge (tgt := 39) S.1 S.2.1 dX0_stillOwedTo_11 (by decide) (fun c_ => ?_) (fun c_ => ?_)
  · have hf := it_p c_ hf
    have e_ := hR3 _ (Option.some.inj hf).symm
    exact hE3 _ e_ _ (lv_sub hl [3] rfl)
  · have hf := it_n c_ hf
    refine lv_iload_n S.1 S.2.1 dX0_stillOwedTo_14 rfl (lv_at hl 2 rfl) ?_
    refine lv_iload S.1 S.2.1 dX0_stillOwedTo_15 (lv_at hl 4 rfl) ?_
    refine lv_ishr S.1 S.2.1 dX0_stillOwedTo_17 ?_
    refine lv_iconst (v := 1) S.1 S.2.1 dX0_stillOwedTo_18 ic_1 ?_
    refine lv_iand S.1 S.2.1 dX0_stillOwedTo_19 ?_
    refine lv_if_ne (tgt := 33) S.1 S.2.1 dX0_stillOwedTo_20 (by decide) (fun c_ => ?_) (fun c_ => ?_)
    · have hf := it_n c_ hf
      refine q_iinc (w := 1) (lv' := [(4, .int (s2.2 + 1)), (0, .ref t_q0), (1, .int p2), (2, .int p3), (3, .int s2.1)]) S dX0_stillOwedTo_33 hl (k := 4) rfl ic_1 (by decide) rfl (fun ls hl => ?_)
      refine lv_goto (tgt := 5) S.1 S.2.1 dX0_stillOwedTo_36 (by decide) ?_
      exact hI3 _ (Option.some.inj hf).symm _ (lv_sub hl [1, 2, 3, 4, 0] rfl)
    · have hf := it_p c_ hf
      refine lv_iload_n S.1 S.2.1 dX0_stillOwedTo_23 rfl (lv_at hl 3 rfl) ?_
      refine lv_aload_n S.1 S.2.1 dX0_stillOwedTo_24 rfl (lv_at hl 0 rfl) ?_
      refine lv_iload S.1 S.2.1 dX0_stillOwedTo_25 (lv_at hl 4 rfl) ?_
      refine lv_iload_n S.1 S.2.1 dX0_stillOwedTo_27 rfl (lv_at hl 1 rfl) ?_
      obtain ⟨x5, hx5, hf⟩ := bnd_e hf
      refine Rd.cV (c_X9_owes hx5) S hK hP 0 7 rfl rfl kVX0_25 rfl hl.1 [.int s2.1] rfl (Nat.le_of_ble_eq_true rfl) ⟨(Nat.le_of_ble_eq_true rfl), (Nat.le_of_ble_eq_true rfl)⟩ ⟨(Nat.zero_le _), (Nat.zero_le _)⟩ dX0_stillOwedTo_28 ?_
      refine lv_iadd S.1 S.2.1 dX0_stillOwedTo_31 ?_
      refine lv_topi (fun x6 ex6 => ?_)
      have hf := ltn_e hf ex6
      refine lv_istore_n (lv' := [(3, .int x6), (0, .ref t_q0), (1, .int p2), (2, .int p3), (4, .int s2.2)]) S.1 S.2.1 dX0_stillOwedTo_32 rfl hl (by decide) rfl (fun ls hl => ?_)
      refine q_iinc (w := 1) (lv' := [(4, .int (s2.2 + 1)), (3, .int x6), (0, .ref t_q0), (1, .int p2), (2, .int p3)]) S dX0_stillOwedTo_33 hl (k := 4) rfl ic_1 (by decide) rfl (fun ls hl => ?_)
      refine lv_goto (tgt := 5) S.1 S.2.1 dX0_stillOwedTo_36 (by decide) ?_
      exact hI3 _ (Option.some.inj hf).symm _ (lv_sub hl [2, 3, 4, 1, 0] rfl)
def f_X0_ruinedBy_L20 (fu : Nat) (t_people : Int32) (t_purse : (Nat → Int32)) (t_owed : (Nat → Int32)) (s7 : Int32 × Int32) : Option ((Int32 × Int32) ⊕ (Int32)) := if t_people ≤ s7.2 then some (.inr s7.1) else bnd (α := Int32) (f_X9_owesInAll fu t_people t_owed s7.2) (fun x10 => bnd (α := Int32) (rdi 6 t_purse s7.2) (fun x11 => bnd (α := Int32) (f_X0_stillOwedTo fu t_people t_owed s7.2 s7.1) (fun x12 => if x10 ≤ (x11 + x12) then some (.inl (s7.1, (s7.2 + 1))) else ltn (s7.1 ||| (jshl (1 : Int32) s7.2)) (fun x13 => some (.inl (x13, (s7.2 + 1)))))))
def f_X0_ruinedBy_L6 (fu : Nat) (t_people : Int32) (t_purse : (Nat → Int32)) (t_owed : (Nat → Int32)) (s3 : Int32 × Int32) : Option ((Int32 × Int32) ⊕ (Int32)) := if t_people ≤ s3.2 then some (.inr s3.1) else bnd (α := Int32) (lp (f_X0_ruinedBy_L20 fu t_people t_purse t_owed) fu (s3.1, (0 : Int32))) (fun v14 => if v14 = s3.1 then some (.inr v14) else some (.inl (v14, (s3.2 + 1))))
def f_X0_ruinedBy (fu : Nat) (t_people : Int32) (t_purse : (Nat → Int32)) (t_owed : (Nat → Int32)) (p2 : Int32) : Option (Int32) := ltn (jshl (1 : Int32) p2) (fun x1 => bnd (α := Int32) (lp (f_X0_ruinedBy_L6 fu t_people t_purse t_owed) fu (x1, (0 : Int32))) (fun v15 => some v15))
set_option maxHeartbeats 4000000 in
set_option maxRecDepth 100000 in
theorem c_X0_ruinedBy {l : Launch} {D : va_G} {g : Nat → ClassId} {fu : Nat} {t_q0 t_q1 t_q2 t_q3 t_q4 : Nat} {t_people : Int32} {t_wit : (Nat → Int32)} {t_purse : (Nat → Int32)} {t_hated : (Nat → Int32)} {t_owed : (Nat → Int32)} {p2 : Int32} {r : Int32} (hf : f_X0_ruinedBy fu t_people t_purse t_owed p2 = some r) : Rd l D (gy g) yX0_ruinedBy cX0_ruinedBy 6 (some .int) 2 [.ref t_q0, .int p2] (wTw g t_q0 t_q1 t_q2 t_q3 t_q4 t_people t_wit t_purse t_hated t_owed) (some (.int r)) := by
  refine Rd.ofI (by decide) (Nat.le_of_ble_eq_true rfl) ?_
  intro p e s m args below meth c Q S hK hP hret ls hl
  have hl : lv_has ls 6 [(0, .ref t_q0), (1, .int p2)] := hl
  refine lv_iconst (v := 1) S.1 S.2.1 dX0_ruinedBy_0 ic_1 ?_
  refine lv_iload_n S.1 S.2.1 dX0_ruinedBy_1 rfl (lv_at hl 1 rfl) ?_
  refine lv_ishl S.1 S.2.1 dX0_ruinedBy_2 ?_
  refine lv_topi (fun x1 ex1 => ?_)
  have hf := ltn_e hf ex1
  refine lv_istore_n (lv' := [(2, .int x1), (0, .ref t_q0), (1, .int p2)]) S.1 S.2.1 dX0_ruinedBy_3 rfl hl (by decide) rfl (fun ls hl => ?_)
  refine lv_iconst (v := 0) S.1 S.2.1 dX0_ruinedBy_4 ic_0 ?_
  refine lv_istore_n (lv' := [(3, .int (0 : Int32)), (2, .int x1), (0, .ref t_q0), (1, .int p2)]) S.1 S.2.1 dX0_ruinedBy_5 rfl hl (by decide) rfl (fun ls hl => ?_)
  obtain ⟨x4, hf_, hk4⟩ := bnd_e hf
  have hE4 : ∀ (v15 : Int32), v15 = x4 → ∀ (ls : Array Slot), lv_has ls 6 [(2, .int v15)] → W p l e (rmD 2) s m args below meth c s.heap [] 0 0 Q (F0 m 81 ls []) := by
    intro v15 e_ ls hl
    subst e_
    have hf := hk4
    refine lv_iload_n S.1 S.2.1 dX0_ruinedBy_81 rfl (lv_at hl 0 rfl) ?_
    have e_ := Option.some.inj hf
    subst e_
    exact hret _ _ dX0_ruinedBy_82
  refine lp_ind (P := fun (s3 : Int32 × Int32) => ∀ (ls : Array Slot), lv_has ls 6 [(0, .ref t_q0), (2, .int s3.1), (3, .int s3.2)] → W p l e (rmD 2) s m args below meth c s.heap [] 0 0 Q (F0 m 6 ls [])) ?_ _ _ hf_ _ (lv_sub hl [2, 1, 0] rfl)
  intro s3 x5 hf hI4 hR4 ls hl
  refine lv_iload_n S.1 S.2.1 dX0_ruinedBy_6 rfl (lv_at hl 2 rfl) ?_
  refine lv_aload_n S.1 S.2.1 dX0_ruinedBy_7 rfl (lv_at hl 0 rfl) ?_
  refine gfX0_9 S hK hP 0 rfl rfl dX0_ruinedBy_8 ?_
  refine lv_icmp_ge (tgt := 81) S.1 S.2.1 dX0_ruinedBy_11 (by decide) (fun c_ => ?_) (fun c_ => ?_)
  · have hf := it_p c_ hf
    have e_ := hR4 _ (Option.some.inj hf).symm
    exact hE4 _ e_ _ (lv_sub hl [1] rfl)
  · have hf := it_n c_ hf
    refine lv_iload_n S.1 S.2.1 dX0_ruinedBy_14 rfl (lv_at hl 1 rfl) ?_
    refine lv_istore (lv' := [(4, .int s3.1), (0, .ref t_q0), (2, .int s3.1), (3, .int s3.2)]) S.1 S.2.1 dX0_ruinedBy_15 hl (by decide) rfl (fun ls hl => ?_)
    refine lv_iconst (v := 0) S.1 S.2.1 dX0_ruinedBy_17 ic_0 ?_
    refine lv_istore (lv' := [(5, .int (0 : Int32)), (4, .int s3.1), (0, .ref t_q0), (2, .int s3.1), (3, .int s3.2)]) S.1 S.2.1 dX0_ruinedBy_18 hl (by decide) rfl (fun ls hl => ?_)
    obtain ⟨x8, hf_, hk8⟩ := bnd_e hf
    have hE8 : ∀ (v14 : Int32), v14 = x8 → ∀ (ls : Array Slot), lv_has ls 6 [(0, .ref t_q0), (2, .int v14), (3, .int s3.2), (4, .int s3.1)] → W p l e (rmD 2) s m args below meth c s.heap [] 0 0 Q (F0 m 66 ls []) := by
      intro v14 e_ ls hl
      subst e_
      have hf := hk8
      refine lv_iload_n S.1 S.2.1 dX0_ruinedBy_66 rfl (lv_at hl 1 rfl) ?_
      refine lv_iload S.1 S.2.1 dX0_ruinedBy_67 (lv_at hl 3 rfl) ?_
      refine lv_icmp_ne (tgt := 75) S.1 S.2.1 dX0_ruinedBy_69 (by decide) (fun c_ => ?_) (fun c_ => ?_)
      · have hf := it_n c_ hf
        refine q_iinc (w := 1) (lv' := [(3, .int (s3.2 + 1)), (0, .ref t_q0), (2, .int v14), (4, .int s3.1)]) S dX0_ruinedBy_75 hl (k := 2) rfl ic_1 (by decide) rfl (fun ls hl => ?_)
        refine lv_goto (tgt := 6) S.1 S.2.1 dX0_ruinedBy_78 (by decide) ?_
        exact hI4 _ (Option.some.inj hf).symm _ (lv_sub hl [1, 2, 0] rfl)
      · have hf := it_p c_ hf
        refine lv_goto (tgt := 81) S.1 S.2.1 dX0_ruinedBy_72 (by decide) ?_
        have e_ := hR4 _ (Option.some.inj hf).symm
        exact hE4 _ e_ _ (lv_sub hl [1] rfl)
    refine lp_ind (P := fun (s7 : Int32 × Int32) => ∀ (ls : Array Slot), lv_has ls 6 [(0, .ref t_q0), (2, .int s7.1), (3, .int s3.2), (4, .int s3.1), (5, .int s7.2)] → W p l e (rmD 2) s m args below meth c s.heap [] 0 0 Q (F0 m 20 ls [])) ?_ _ _ hf_ _ (lv_sub hl [2, 3, 4, 1, 0] rfl)
    intro s7 x9 hf hI8 hR8 ls hl
    refine lv_iload S.1 S.2.1 dX0_ruinedBy_20 (lv_at hl 4 rfl) ?_
    refine lv_aload_n S.1 S.2.1 dX0_ruinedBy_22 rfl (lv_at hl 0 rfl) ?_
    refine gfX0_9 S hK hP 0 rfl rfl dX0_ruinedBy_23 ?_
    refine lv_icmp_ge (tgt := 66) S.1 S.2.1 dX0_ruinedBy_26 (by decide) (fun c_ => ?_) (fun c_ => ?_)
    · have hf := it_p c_ hf
      have e_ := hR8 _ (Option.some.inj hf).symm
      exact hE8 _ e_ _ (lv_sub hl [0, 1, 2, 3] rfl)
    · have hf := it_n c_ hf
      refine lv_aload_n S.1 S.2.1 dX0_ruinedBy_29 rfl (lv_at hl 0 rfl) ?_
      refine lv_iload S.1 S.2.1 dX0_ruinedBy_30 (lv_at hl 4 rfl) ?_
      obtain ⟨x10, hx10, hf⟩ := bnd_e hf
      refine Rd.cV (c_X9_owesInAll hx10) S hK hP 0 7 rfl rfl kVX0_38 rfl hl.1 [] rfl (Nat.le_of_ble_eq_true rfl) ⟨(Nat.le_of_ble_eq_true rfl), (Nat.le_of_ble_eq_true rfl)⟩ ⟨(Nat.zero_le _), (Nat.zero_le _)⟩ dX0_ruinedBy_32 ?_
      refine lv_aload_n S.1 S.2.1 dX0_ruinedBy_35 rfl (lv_at hl 0 rfl) ?_
      refine gfX0_41 S hK hP 0 rfl rfl dX0_ruinedBy_36 ?_
      refine lv_iload S.1 S.2.1 dX0_ruinedBy_39 (lv_at hl 4 rfl) ?_
      obtain ⟨x11, hx11, hf⟩ := bnd_e hf
      refine q_iald S hK hP 2 0 rfl rfl hx11 dX0_ruinedBy_41 ?_
      refine lv_aload_n S.1 S.2.1 dX0_ruinedBy_42 rfl (lv_at hl 0 rfl) ?_
      refine lv_iload S.1 S.2.1 dX0_ruinedBy_43 (lv_at hl 4 rfl) ?_
      refine lv_iload_n S.1 S.2.1 dX0_ruinedBy_45 rfl (lv_at hl 1 rfl) ?_
      obtain ⟨x12, hx12, hf⟩ := bnd_e hf
      refine Rd.cS (c_X0_stillOwedTo hx12) S hK hP kSX0_45 rfl hl.1 [.int x11, .int x10] rfl (Nat.le_of_ble_eq_true rfl) ⟨(Nat.le_of_ble_eq_true rfl), (Nat.le_of_ble_eq_true rfl)⟩ ⟨(Nat.zero_le _), (Nat.zero_le _)⟩ dX0_ruinedBy_46 ?_
      refine lv_iadd S.1 S.2.1 dX0_ruinedBy_49 ?_
      refine lv_icmp_le (tgt := 60) S.1 S.2.1 dX0_ruinedBy_50 (by decide) (fun c_ => ?_) (fun c_ => ?_)
      · have hf := it_p c_ hf
        refine q_iinc (w := 1) (lv' := [(5, .int (s7.2 + 1)), (0, .ref t_q0), (2, .int s7.1), (3, .int s3.2), (4, .int s3.1)]) S dX0_ruinedBy_60 hl (k := 4) rfl ic_1 (by decide) rfl (fun ls hl => ?_)
        refine lv_goto (tgt := 20) S.1 S.2.1 dX0_ruinedBy_63 (by decide) ?_
        exact hI8 _ (Option.some.inj hf).symm _ (lv_sub hl [1, 2, 3, 4, 0] rfl)
      · have hf := it_n c_ hf
        refine lv_iload_n S.1 S.2.1 dX0_ruinedBy_53 rfl (lv_at hl 1 rfl) ?_
        refine lv_iconst (v := 1) S.1 S.2.1 dX0_ruinedBy_54 ic_1 ?_
        refine lv_iload S.1 S.2.1 dX0_ruinedBy_55 (lv_at hl 4 rfl) ?_
        refine lv_ishl S.1 S.2.1 dX0_ruinedBy_57 ?_
        refine lv_ior S.1 S.2.1 dX0_ruinedBy_58 ?_
        refine lv_topi (fun x13 ex13 => ?_)
        have hf := ltn_e hf ex13
        refine lv_istore_n (lv' := [(2, .int x13), (0, .ref t_q0), (3, .int s3.2), (4, .int s3.1), (5, .int s7.2)]) S.1 S.2.1 dX0_ruinedBy_59 rfl hl (by decide) rfl (fun ls hl => ?_)
        refine q_iinc (w := 1) (lv' := [(5, .int (s7.2 + 1)), (2, .int x13), (0, .ref t_q0), (3, .int s3.2), (4, .int s3.1)]) S dX0_ruinedBy_60 hl (k := 4) rfl ic_1 (by decide) rfl (fun ls hl => ?_)
        refine lv_goto (tgt := 20) S.1 S.2.1 dX0_ruinedBy_63 (by decide) ?_
        exact hI8 _ (Option.some.inj hf).symm _ (lv_sub hl [2, 1, 3, 4, 0] rfl)
def f_X0_forgivenDownTo_L4 (fu : Nat) (t_people : Int32) (t_owed : (Nat → Int32)) (p2 : Int32) (s2 : Int32 × Int32) : Option ((Int32 × Int32) ⊕ (Int32)) := if t_people ≤ s2.2 then some (.inr s2.1) else bnd (α := Int32) (f_X9_owesInAll fu t_people t_owed s2.2) (fun x5 => ltn (s2.1 + (jmax (0 : Int32) (x5 - p2))) (fun x6 => some (.inl (x6, (s2.2 + 1)))))
def f_X0_forgivenDownTo (fu : Nat) (t_people : Int32) (t_owed : (Nat → Int32)) (p2 : Int32) : Option (Int32) := bnd (α := Int32) (lp (f_X0_forgivenDownTo_L4 fu t_people t_owed p2) fu ((0 : Int32), (0 : Int32))) (fun v7 => some v7)
set_option maxHeartbeats 4000000 in
set_option maxRecDepth 100000 in
theorem c_X0_forgivenDownTo {l : Launch} {D : va_G} {g : Nat → ClassId} {fu : Nat} {t_q0 t_q1 t_q2 t_q3 t_q4 : Nat} {t_people : Int32} {t_wit : (Nat → Int32)} {t_purse : (Nat → Int32)} {t_hated : (Nat → Int32)} {t_owed : (Nat → Int32)} {p2 : Int32} {r : Int32} (hf : f_X0_forgivenDownTo fu t_people t_owed p2 = some r) : Rd l D (gy g) yX0_forgivenDownTo cX0_forgivenDownTo 4 (some .int) 2 [.ref t_q0, .int p2] (wTw g t_q0 t_q1 t_q2 t_q3 t_q4 t_people t_wit t_purse t_hated t_owed) (some (.int r)) := by
  refine Rd.ofI (by decide) (Nat.le_of_ble_eq_true rfl) ?_
  intro p e s m args below meth c Q S hK hP hret ls hl
  have hl : lv_has ls 4 [(0, .ref t_q0), (1, .int p2)] := hl
  refine lv_iconst (v := 0) S.1 S.2.1 dX0_forgivenDownTo_0 ic_0 ?_
  refine lv_istore_n (lv' := [(2, .int (0 : Int32)), (0, .ref t_q0), (1, .int p2)]) S.1 S.2.1 dX0_forgivenDownTo_1 rfl hl (by decide) rfl (fun ls hl => ?_)
  refine lv_iconst (v := 0) S.1 S.2.1 dX0_forgivenDownTo_2 ic_0 ?_
  refine lv_istore_n (lv' := [(3, .int (0 : Int32)), (2, .int (0 : Int32)), (0, .ref t_q0), (1, .int p2)]) S.1 S.2.1 dX0_forgivenDownTo_3 rfl hl (by decide) rfl (fun ls hl => ?_)
  obtain ⟨x3, hf_, hk3⟩ := bnd_e hf
  have hE3 : ∀ (v7 : Int32), v7 = x3 → ∀ (ls : Array Slot), lv_has ls 4 [(2, .int v7)] → W p l e (rmD 2) s m args below meth c s.heap [] 0 0 Q (F0 m 32 ls []) := by
    intro v7 e_ ls hl
    subst e_
    have hf := hk3
    refine lv_iload_n S.1 S.2.1 dX0_forgivenDownTo_32 rfl (lv_at hl 0 rfl) ?_
    have e_ := Option.some.inj hf
    subst e_
    exact hret _ _ dX0_forgivenDownTo_33
  refine lp_ind (P := fun (s2 : Int32 × Int32) => ∀ (ls : Array Slot), lv_has ls 4 [(0, .ref t_q0), (1, .int p2), (2, .int s2.1), (3, .int s2.2)] → W p l e (rmD 2) s m args below meth c s.heap [] 0 0 Q (F0 m 4 ls [])) ?_ _ _ hf_ _ (lv_sub hl [2, 3, 1, 0] rfl)
  intro s2 x4 hf hI3 hR3 ls hl
  refine lv_iload_n S.1 S.2.1 dX0_forgivenDownTo_4 rfl (lv_at hl 3 rfl) ?_
  refine lv_aload_n S.1 S.2.1 dX0_forgivenDownTo_5 rfl (lv_at hl 0 rfl) ?_
  refine gfX0_9 S hK hP 0 rfl rfl dX0_forgivenDownTo_6 ?_
  refine lv_icmp_ge (tgt := 32) S.1 S.2.1 dX0_forgivenDownTo_9 (by decide) (fun c_ => ?_) (fun c_ => ?_)
  · have hf := it_p c_ hf
    have e_ := hR3 _ (Option.some.inj hf).symm
    exact hE3 _ e_ _ (lv_sub hl [2] rfl)
  · have hf := it_n c_ hf
    refine lv_iload_n S.1 S.2.1 dX0_forgivenDownTo_12 rfl (lv_at hl 2 rfl) ?_
    refine lv_iconst (v := 0) S.1 S.2.1 dX0_forgivenDownTo_13 ic_0 ?_
    refine lv_aload_n S.1 S.2.1 dX0_forgivenDownTo_14 rfl (lv_at hl 0 rfl) ?_
    refine lv_iload_n S.1 S.2.1 dX0_forgivenDownTo_15 rfl (lv_at hl 3 rfl) ?_
    obtain ⟨x5, hx5, hf⟩ := bnd_e hf
    refine Rd.cV (c_X9_owesInAll hx5) S hK hP 0 7 rfl rfl kVX0_38 rfl hl.1 [.int (0 : Int32), .int s2.1] rfl (Nat.le_of_ble_eq_true rfl) ⟨(Nat.le_of_ble_eq_true rfl), (Nat.le_of_ble_eq_true rfl)⟩ ⟨(Nat.zero_le _), (Nat.zero_le _)⟩ dX0_forgivenDownTo_16 ?_
    refine lv_iload_n S.1 S.2.1 dX0_forgivenDownTo_19 rfl (lv_at hl 1 rfl) ?_
    refine lv_isub S.1 S.2.1 dX0_forgivenDownTo_20 ?_
    refine va_mmax S.1 S.2.1 (S.2.2.1.trans hl.1.symm) S.2.2.2.1 (S.2.2.2.2 _ q_657) (S.2.2.2.2 _ q_658) (S.2.2.2.2 _ q_12) (S.2.2.2.2 _ q_659) (Nat.le_of_ble_eq_true rfl) (Nat.le_of_ble_eq_true rfl) (Nat.zero_le _) (Nat.zero_le _) dX0_forgivenDownTo_21 ?_
    refine lv_iadd S.1 S.2.1 dX0_forgivenDownTo_24 ?_
    refine lv_topi (fun x6 ex6 => ?_)
    have hf := ltn_e hf ex6
    refine lv_istore_n (lv' := [(2, .int x6), (0, .ref t_q0), (1, .int p2), (3, .int s2.2)]) S.1 S.2.1 dX0_forgivenDownTo_25 rfl hl (by decide) rfl (fun ls hl => ?_)
    refine q_iinc (w := 1) (lv' := [(3, .int (s2.2 + 1)), (2, .int x6), (0, .ref t_q0), (1, .int p2)]) S dX0_forgivenDownTo_26 hl (k := 3) rfl ic_1 (by decide) rfl (fun ls hl => ?_)
    refine lv_goto (tgt := 4) S.1 S.2.1 dX0_forgivenDownTo_29 (by decide) ?_
    exact hI3 _ (Option.some.inj hf).symm _ (lv_sub hl [2, 3, 1, 0] rfl)
def f_X0_mutual_L16 (fu : Nat) (t_people : Int32) (t_owed : (Nat → Int32)) (s2 : Int32 × Int32) (s7 : Int32 × Int32) : Option ((Int32 × Int32) ⊕ (Int32)) := if t_people ≤ s7.2 then some (.inr s7.1) else bnd (α := Int32) (f_X9_owes fu t_owed s2.2 s7.2) (fun x10 => bnd (α := Int32) (f_X9_owes fu t_owed s7.2 s2.2) (fun x11 => ltn (s7.1 + (jmin x10 x11)) (fun x12 => some (.inl (x12, (s7.2 + 1))))))
def f_X0_mutual_L4 (fu : Nat) (t_people : Int32) (t_owed : (Nat → Int32)) (s2 : Int32 × Int32) : Option ((Int32 × Int32) ⊕ (Int32)) := if t_people ≤ s2.2 then some (.inr s2.1) else ltn (s2.2 + (1 : Int32)) (fun x5 => bnd (α := Int32) (lp (f_X0_mutual_L16 fu t_people t_owed s2) fu (s2.1, x5)) (fun v13 => some (.inl (v13, (s2.2 + 1)))))
def f_X0_mutual (fu : Nat) (t_people : Int32) (t_owed : (Nat → Int32)) : Option (Int32) := bnd (α := Int32) (lp (f_X0_mutual_L4 fu t_people t_owed) fu ((0 : Int32), (0 : Int32))) (fun v14 => some v14)
set_option maxHeartbeats 4000000 in
set_option maxRecDepth 100000 in
theorem c_X0_mutual {l : Launch} {D : va_G} {g : Nat → ClassId} {fu : Nat} {t_q0 t_q1 t_q2 t_q3 t_q4 : Nat} {t_people : Int32} {t_wit : (Nat → Int32)} {t_purse : (Nat → Int32)} {t_hated : (Nat → Int32)} {t_owed : (Nat → Int32)} {r : Int32} (hf : f_X0_mutual fu t_people t_owed = some r) : Rd l D (gy g) yX0_mutual cX0_mutual 4 (some .int) 1 [.ref t_q0] (wTw g t_q0 t_q1 t_q2 t_q3 t_q4 t_people t_wit t_purse t_hated t_owed) (some (.int r)) := by
  refine Rd.ofI (by decide) (Nat.le_of_ble_eq_true rfl) ?_
  intro p e s m args below meth c Q S hK hP hret ls hl
  have hl : lv_has ls 4 [(0, .ref t_q0)] := hl
  refine lv_iconst (v := 0) S.1 S.2.1 dX0_mutual_0 ic_0 ?_
  refine lv_istore_n (lv' := [(1, .int (0 : Int32)), (0, .ref t_q0)]) S.1 S.2.1 dX0_mutual_1 rfl hl (by decide) rfl (fun ls hl => ?_)
  refine lv_iconst (v := 0) S.1 S.2.1 dX0_mutual_2 ic_0 ?_
  refine lv_istore_n (lv' := [(2, .int (0 : Int32)), (1, .int (0 : Int32)), (0, .ref t_q0)]) S.1 S.2.1 dX0_mutual_3 rfl hl (by decide) rfl (fun ls hl => ?_)
  obtain ⟨x3, hf_, hk3⟩ := bnd_e hf
  have hE3 : ∀ (v14 : Int32), v14 = x3 → ∀ (ls : Array Slot), lv_has ls 4 [(1, .int v14)] → W p l e (rmD 1) s m args below meth c s.heap [] 0 0 Q (F0 m 54 ls []) := by
    intro v14 e_ ls hl
    subst e_
    have hf := hk3
    refine lv_iload_n S.1 S.2.1 dX0_mutual_54 rfl (lv_at hl 0 rfl) ?_
    have e_ := Option.some.inj hf
    subst e_
    exact hret _ _ dX0_mutual_55
  refine lp_ind (P := fun (s2 : Int32 × Int32) => ∀ (ls : Array Slot), lv_has ls 4 [(0, .ref t_q0), (1, .int s2.1), (2, .int s2.2)] → W p l e (rmD 1) s m args below meth c s.heap [] 0 0 Q (F0 m 4 ls [])) ?_ _ _ hf_ _ (lv_sub hl [2, 1, 0] rfl)
  intro s2 x4 hf hI3 hR3 ls hl
  refine lv_iload_n S.1 S.2.1 dX0_mutual_4 rfl (lv_at hl 2 rfl) ?_
  refine lv_aload_n S.1 S.2.1 dX0_mutual_5 rfl (lv_at hl 0 rfl) ?_
  refine gfX0_9 S hK hP 0 rfl rfl dX0_mutual_6 ?_
  refine lv_icmp_ge (tgt := 54) S.1 S.2.1 dX0_mutual_9 (by decide) (fun c_ => ?_) (fun c_ => ?_)
  · have hf := it_p c_ hf
    have e_ := hR3 _ (Option.some.inj hf).symm
    exact hE3 _ e_ _ (lv_sub hl [1] rfl)
  · have hf := it_n c_ hf
    refine lv_iload_n S.1 S.2.1 dX0_mutual_12 rfl (lv_at hl 2 rfl) ?_
    refine lv_iconst (v := 1) S.1 S.2.1 dX0_mutual_13 ic_1 ?_
    refine lv_iadd S.1 S.2.1 dX0_mutual_14 ?_
    refine lv_topi (fun x5 ex5 => ?_)
    have hf := ltn_e hf ex5
    refine lv_istore_n (lv' := [(3, .int x5), (0, .ref t_q0), (1, .int s2.1), (2, .int s2.2)]) S.1 S.2.1 dX0_mutual_15 rfl hl (by decide) rfl (fun ls hl => ?_)
    obtain ⟨x8, hf_, hk8⟩ := bnd_e hf
    have hE8 : ∀ (v13 : Int32), v13 = x8 → ∀ (ls : Array Slot), lv_has ls 4 [(0, .ref t_q0), (1, .int v13), (2, .int s2.2)] → W p l e (rmD 1) s m args below meth c s.heap [] 0 0 Q (F0 m 48 ls []) := by
      intro v13 e_ ls hl
      subst e_
      have hf := hk8
      refine q_iinc (w := 1) (lv' := [(2, .int (s2.2 + 1)), (0, .ref t_q0), (1, .int v13)]) S dX0_mutual_48 hl (k := 2) rfl ic_1 (by decide) rfl (fun ls hl => ?_)
      refine lv_goto (tgt := 4) S.1 S.2.1 dX0_mutual_51 (by decide) ?_
      exact hI3 _ (Option.some.inj hf).symm _ (lv_sub hl [1, 2, 0] rfl)
    refine lp_ind (P := fun (s7 : Int32 × Int32) => ∀ (ls : Array Slot), lv_has ls 4 [(0, .ref t_q0), (1, .int s7.1), (2, .int s2.2), (3, .int s7.2)] → W p l e (rmD 1) s m args below meth c s.heap [] 0 0 Q (F0 m 16 ls [])) ?_ _ _ hf_ _ (lv_sub hl [1, 2, 3, 0] rfl)
    intro s7 x9 hf hI8 hR8 ls hl
    refine lv_iload_n S.1 S.2.1 dX0_mutual_16 rfl (lv_at hl 3 rfl) ?_
    refine lv_aload_n S.1 S.2.1 dX0_mutual_17 rfl (lv_at hl 0 rfl) ?_
    refine gfX0_9 S hK hP 0 rfl rfl dX0_mutual_18 ?_
    refine lv_icmp_ge (tgt := 48) S.1 S.2.1 dX0_mutual_21 (by decide) (fun c_ => ?_) (fun c_ => ?_)
    · have hf := it_p c_ hf
      have e_ := hR8 _ (Option.some.inj hf).symm
      exact hE8 _ e_ _ (lv_sub hl [0, 1, 2] rfl)
    · have hf := it_n c_ hf
      refine lv_iload_n S.1 S.2.1 dX0_mutual_24 rfl (lv_at hl 1 rfl) ?_
      refine lv_aload_n S.1 S.2.1 dX0_mutual_25 rfl (lv_at hl 0 rfl) ?_
      refine lv_iload_n S.1 S.2.1 dX0_mutual_26 rfl (lv_at hl 2 rfl) ?_
      refine lv_iload_n S.1 S.2.1 dX0_mutual_27 rfl (lv_at hl 3 rfl) ?_
      obtain ⟨x10, hx10, hf⟩ := bnd_e hf
      refine Rd.cV (c_X9_owes hx10) S hK hP 0 7 rfl rfl kVX0_25 rfl hl.1 [.int s7.1] rfl (Nat.le_of_ble_eq_true rfl) ⟨(Nat.le_of_ble_eq_true rfl), (Nat.le_of_ble_eq_true rfl)⟩ ⟨(Nat.zero_le _), (Nat.zero_le _)⟩ dX0_mutual_28 ?_
      refine lv_aload_n S.1 S.2.1 dX0_mutual_31 rfl (lv_at hl 0 rfl) ?_
      refine lv_iload_n S.1 S.2.1 dX0_mutual_32 rfl (lv_at hl 3 rfl) ?_
      refine lv_iload_n S.1 S.2.1 dX0_mutual_33 rfl (lv_at hl 2 rfl) ?_
      obtain ⟨x11, hx11, hf⟩ := bnd_e hf
      refine Rd.cV (c_X9_owes hx11) S hK hP 0 7 rfl rfl kVX0_25 rfl hl.1 [.int x10, .int s7.1] rfl (Nat.le_of_ble_eq_true rfl) ⟨(Nat.le_of_ble_eq_true rfl), (Nat.le_of_ble_eq_true rfl)⟩ ⟨(Nat.zero_le _), (Nat.zero_le _)⟩ dX0_mutual_34 ?_
      refine va_mmin S.1 S.2.1 (S.2.2.1.trans hl.1.symm) S.2.2.2.1 (S.2.2.2.2 _ q_864) (S.2.2.2.2 _ q_362) (S.2.2.2.2 _ q_12) (S.2.2.2.2 _ q_363) (Nat.le_of_ble_eq_true rfl) (Nat.le_of_ble_eq_true rfl) (Nat.zero_le _) (Nat.zero_le _) dX0_mutual_37 ?_
      refine lv_iadd S.1 S.2.1 dX0_mutual_40 ?_
      refine lv_topi (fun x12 ex12 => ?_)
      have hf := ltn_e hf ex12
      refine lv_istore_n (lv' := [(1, .int x12), (0, .ref t_q0), (2, .int s2.2), (3, .int s7.2)]) S.1 S.2.1 dX0_mutual_41 rfl hl (by decide) rfl (fun ls hl => ?_)
      refine q_iinc (w := 1) (lv' := [(3, .int (s7.2 + 1)), (1, .int x12), (0, .ref t_q0), (2, .int s2.2)]) S dX0_mutual_42 hl (k := 3) rfl ic_1 (by decide) rfl (fun ls hl => ?_)
      refine lv_goto (tgt := 16) S.1 S.2.1 dX0_mutual_45 (by decide) ?_
      exact hI8 _ (Option.some.inj hf).symm _ (lv_sub hl [2, 1, 3, 0] rfl)
def f_X0_stepsBackTo_L20 (fu : Nat) (t_people : Int32) (t_owed : (Nat → Int32)) (s3 : Int32 × Int32) (s7 : Int32 × Int32) : Option ((Int32 × Int32) ⊕ (Int32)) := if t_people ≤ s7.2 then some (.inr s7.1) else if ((jshr s3.1 s7.2) &&& (1 : Int32)) = 0 then some (.inl (s7.1, (s7.2 + 1))) else bnd (α := Int32) (f_X9_creditorsOf fu t_people t_owed s7.2) (fun x10 => ltn (s7.1 ||| x10) (fun x11 => some (.inl (x11, (s7.2 + 1)))))
def f_X0_stepsBackTo_L6 (fu : Nat) (t_people : Int32) (t_owed : (Nat → Int32)) (p2 : Int32) (s3 : Int32 × Int32) : Option ((Int32 × Int32) ⊕ ((Int32) ⊕ (Unit))) := if t_people < s3.2 then some (.inr (.inr ())) else bnd (α := Int32) (lp (f_X0_stepsBackTo_L20 fu t_people t_owed s3) fu ((0 : Int32), (0 : Int32))) (fun v12 => if ((jshr v12 p2) &&& (1 : Int32)) = 0 then some (.inl (v12, (s3.2 + 1))) else some (.inr (.inl s3.2)))
def f_X0_stepsBackTo (fu : Nat) (t_people : Int32) (t_owed : (Nat → Int32)) (p2 : Int32) : Option (Int32) := ltn (jshl (1 : Int32) p2) (fun x1 => bnd (α := (Int32) ⊕ (Unit)) (lp (f_X0_stepsBackTo_L6 fu t_people t_owed p2) fu (x1, (1 : Int32))) (fun x4 => cse x4 (fun y14 => some y14) (fun v13 => some (-1 : Int32))))
set_option maxHeartbeats 4000000 in
set_option maxRecDepth 100000 in
theorem c_X0_stepsBackTo {l : Launch} {D : va_G} {g : Nat → ClassId} {fu : Nat} {t_q0 t_q1 t_q2 t_q3 t_q4 : Nat} {t_people : Int32} {t_wit : (Nat → Int32)} {t_purse : (Nat → Int32)} {t_hated : (Nat → Int32)} {t_owed : (Nat → Int32)} {p2 : Int32} {r : Int32} (hf : f_X0_stepsBackTo fu t_people t_owed p2 = some r) : Rd l D (gy g) yX0_stepsBackTo cX0_stepsBackTo 6 (some .int) 2 [.ref t_q0, .int p2] (wTw g t_q0 t_q1 t_q2 t_q3 t_q4 t_people t_wit t_purse t_hated t_owed) (some (.int r)) := by
  refine Rd.ofI (by decide) (Nat.le_of_ble_eq_true rfl) ?_
  intro p e s m args below meth c Q S hK hP hret ls hl
  have hl : lv_has ls 6 [(0, .ref t_q0), (1, .int p2)] := hl
  refine lv_iconst (v := 1) S.1 S.2.1 dX0_stepsBackTo_0 ic_1 ?_
  refine lv_iload_n S.1 S.2.1 dX0_stepsBackTo_1 rfl (lv_at hl 1 rfl) ?_
  refine lv_ishl S.1 S.2.1 dX0_stepsBackTo_2 ?_
  refine lv_topi (fun x1 ex1 => ?_)
  have hf := ltn_e hf ex1
  refine lv_istore_n (lv' := [(2, .int x1), (0, .ref t_q0), (1, .int p2)]) S.1 S.2.1 dX0_stepsBackTo_3 rfl hl (by decide) rfl (fun ls hl => ?_)
  refine lv_iconst (v := 1) S.1 S.2.1 dX0_stepsBackTo_4 ic_1 ?_
  refine lv_istore_n (lv' := [(3, .int (1 : Int32)), (2, .int x1), (0, .ref t_q0), (1, .int p2)]) S.1 S.2.1 dX0_stepsBackTo_5 rfl hl (by decide) rfl (fun ls hl => ?_)
  obtain ⟨x4, hf_, hk4⟩ := bnd_e hf
  have hE4 : ∀ (v13 : Unit), x4 = .inr v13 → ∀ (ls : Array Slot), lv_has ls 6 [] → W p l e (rmD 2) s m args below meth c s.heap [] 0 0 Q (F0 m 75 ls []) := by
    intro v13 e_ ls hl
    subst e_
    have hf := cse_r hk4
    refine lv_iconst (v := (-1)) S.1 S.2.1 dX0_stepsBackTo_75 ic_m1 ?_
    have e_ := Option.some.inj hf
    subst e_
    exact hret _ _ dX0_stepsBackTo_76
  refine lp_ind (P := fun (s3 : Int32 × Int32) => ∀ (ls : Array Slot), lv_has ls 6 [(0, .ref t_q0), (1, .int p2), (2, .int s3.1), (3, .int s3.2)] → W p l e (rmD 2) s m args below meth c s.heap [] 0 0 Q (F0 m 6 ls [])) ?_ _ _ hf_ _ (lv_sub hl [2, 3, 1, 0] rfl)
  intro s3 x5 hf hI4 hR4 ls hl
  refine lv_iload_n S.1 S.2.1 dX0_stepsBackTo_6 rfl (lv_at hl 3 rfl) ?_
  refine lv_aload_n S.1 S.2.1 dX0_stepsBackTo_7 rfl (lv_at hl 0 rfl) ?_
  refine gfX0_9 S hK hP 0 rfl rfl dX0_stepsBackTo_8 ?_
  refine lv_icmp_gt (tgt := 75) S.1 S.2.1 dX0_stepsBackTo_11 (by decide) (fun c_ => ?_) (fun c_ => ?_)
  · have hf := it_p c_ hf
    have e_ := hR4 _ (Option.some.inj hf).symm
    exact hE4 _ e_.symm _ (lv_sub hl [] rfl)
  · have hf := it_n c_ hf
    refine lv_iconst (v := 0) S.1 S.2.1 dX0_stepsBackTo_14 ic_0 ?_
    refine lv_istore (lv' := [(4, .int (0 : Int32)), (0, .ref t_q0), (1, .int p2), (2, .int s3.1), (3, .int s3.2)]) S.1 S.2.1 dX0_stepsBackTo_15 hl (by decide) rfl (fun ls hl => ?_)
    refine lv_iconst (v := 0) S.1 S.2.1 dX0_stepsBackTo_17 ic_0 ?_
    refine lv_istore (lv' := [(5, .int (0 : Int32)), (4, .int (0 : Int32)), (0, .ref t_q0), (1, .int p2), (2, .int s3.1), (3, .int s3.2)]) S.1 S.2.1 dX0_stepsBackTo_18 hl (by decide) rfl (fun ls hl => ?_)
    obtain ⟨x8, hf_, hk8⟩ := bnd_e hf
    have hE8 : ∀ (v12 : Int32), v12 = x8 → ∀ (ls : Array Slot), lv_has ls 6 [(0, .ref t_q0), (1, .int p2), (3, .int s3.2), (4, .int v12)] → W p l e (rmD 2) s m args below meth c s.heap [] 0 0 Q (F0 m 55 ls []) := by
      intro v12 e_ ls hl
      subst e_
      have hf := hk8
      refine lv_iload S.1 S.2.1 dX0_stepsBackTo_55 (lv_at hl 3 rfl) ?_
      refine lv_iload_n S.1 S.2.1 dX0_stepsBackTo_57 rfl (lv_at hl 1 rfl) ?_
      refine lv_ishr S.1 S.2.1 dX0_stepsBackTo_58 ?_
      refine lv_iconst (v := 1) S.1 S.2.1 dX0_stepsBackTo_59 ic_1 ?_
      refine lv_iand S.1 S.2.1 dX0_stepsBackTo_60 ?_
      refine lv_if_eq (tgt := 66) S.1 S.2.1 dX0_stepsBackTo_61 (by decide) (fun c_ => ?_) (fun c_ => ?_)
      · have hf := it_p c_ hf
        refine lv_iload S.1 S.2.1 dX0_stepsBackTo_66 (lv_at hl 3 rfl) ?_
        refine lv_istore_n (lv' := [(2, .int v12), (0, .ref t_q0), (1, .int p2), (3, .int s3.2), (4, .int v12)]) S.1 S.2.1 dX0_stepsBackTo_68 rfl hl (by decide) rfl (fun ls hl => ?_)
        refine q_iinc (w := 1) (lv' := [(3, .int (s3.2 + 1)), (2, .int v12), (0, .ref t_q0), (1, .int p2), (4, .int v12)]) S dX0_stepsBackTo_69 hl (k := 3) rfl ic_1 (by decide) rfl (fun ls hl => ?_)
        refine lv_goto (tgt := 6) S.1 S.2.1 dX0_stepsBackTo_72 (by decide) ?_
        exact hI4 _ (Option.some.inj hf).symm _ (lv_sub hl [2, 3, 1, 0] rfl)
      · have hf := it_n c_ hf
        refine lv_iload_n S.1 S.2.1 dX0_stepsBackTo_64 rfl (lv_at hl 2 rfl) ?_
        have e_ := hR4 _ (Option.some.inj hf).symm
        subst e_
        have hf := cse_l hk4
        have e_ := Option.some.inj hf
        subst e_
        exact hret _ _ dX0_stepsBackTo_65
    refine lp_ind (P := fun (s7 : Int32 × Int32) => ∀ (ls : Array Slot), lv_has ls 6 [(0, .ref t_q0), (1, .int p2), (2, .int s3.1), (3, .int s3.2), (4, .int s7.1), (5, .int s7.2)] → W p l e (rmD 2) s m args below meth c s.heap [] 0 0 Q (F0 m 20 ls [])) ?_ _ _ hf_ _ (lv_sub hl [2, 3, 4, 5, 1, 0] rfl)
    intro s7 x9 hf hI8 hR8 ls hl
    refine lv_iload S.1 S.2.1 dX0_stepsBackTo_20 (lv_at hl 5 rfl) ?_
    refine lv_aload_n S.1 S.2.1 dX0_stepsBackTo_22 rfl (lv_at hl 0 rfl) ?_
    refine gfX0_9 S hK hP 0 rfl rfl dX0_stepsBackTo_23 ?_
    refine lv_icmp_ge (tgt := 55) S.1 S.2.1 dX0_stepsBackTo_26 (by decide) (fun c_ => ?_) (fun c_ => ?_)
    · have hf := it_p c_ hf
      have e_ := hR8 _ (Option.some.inj hf).symm
      exact hE8 _ e_ _ (lv_sub hl [0, 1, 3, 4] rfl)
    · have hf := it_n c_ hf
      refine lv_iload_n S.1 S.2.1 dX0_stepsBackTo_29 rfl (lv_at hl 2 rfl) ?_
      refine lv_iload S.1 S.2.1 dX0_stepsBackTo_30 (lv_at hl 5 rfl) ?_
      refine lv_ishr S.1 S.2.1 dX0_stepsBackTo_32 ?_
      refine lv_iconst (v := 1) S.1 S.2.1 dX0_stepsBackTo_33 ic_1 ?_
      refine lv_iand S.1 S.2.1 dX0_stepsBackTo_34 ?_
      refine lv_if_eq (tgt := 49) S.1 S.2.1 dX0_stepsBackTo_35 (by decide) (fun c_ => ?_) (fun c_ => ?_)
      · have hf := it_p c_ hf
        refine q_iinc (w := 1) (lv' := [(5, .int (s7.2 + 1)), (0, .ref t_q0), (1, .int p2), (2, .int s3.1), (3, .int s3.2), (4, .int s7.1)]) S dX0_stepsBackTo_49 hl (k := 5) rfl ic_1 (by decide) rfl (fun ls hl => ?_)
        refine lv_goto (tgt := 20) S.1 S.2.1 dX0_stepsBackTo_52 (by decide) ?_
        exact hI8 _ (Option.some.inj hf).symm _ (lv_sub hl [1, 2, 3, 4, 5, 0] rfl)
      · have hf := it_n c_ hf
        refine lv_iload S.1 S.2.1 dX0_stepsBackTo_38 (lv_at hl 4 rfl) ?_
        refine lv_aload_n S.1 S.2.1 dX0_stepsBackTo_40 rfl (lv_at hl 0 rfl) ?_
        refine lv_iload S.1 S.2.1 dX0_stepsBackTo_41 (lv_at hl 5 rfl) ?_
        obtain ⟨x10, hx10, hf⟩ := bnd_e hf
        refine Rd.cV (c_X9_creditorsOf hx10) S hK hP 0 7 rfl rfl kVX0_71 rfl hl.1 [.int s7.1] rfl (Nat.le_of_ble_eq_true rfl) ⟨(Nat.le_of_ble_eq_true rfl), (Nat.le_of_ble_eq_true rfl)⟩ ⟨(Nat.zero_le _), (Nat.zero_le _)⟩ dX0_stepsBackTo_43 ?_
        refine lv_ior S.1 S.2.1 dX0_stepsBackTo_46 ?_
        refine lv_topi (fun x11 ex11 => ?_)
        have hf := ltn_e hf ex11
        refine lv_istore (lv' := [(4, .int x11), (0, .ref t_q0), (1, .int p2), (2, .int s3.1), (3, .int s3.2), (5, .int s7.2)]) S.1 S.2.1 dX0_stepsBackTo_47 hl (by decide) rfl (fun ls hl => ?_)
        refine q_iinc (w := 1) (lv' := [(5, .int (s7.2 + 1)), (4, .int x11), (0, .ref t_q0), (1, .int p2), (2, .int s3.1), (3, .int s3.2)]) S dX0_stepsBackTo_49 hl (k := 5) rfl ic_1 (by decide) rfl (fun ls hl => ?_)
        refine lv_goto (tgt := 20) S.1 S.2.1 dX0_stepsBackTo_52 (by decide) ?_
        exact hI8 _ (Option.some.inj hf).symm _ (lv_sub hl [2, 3, 4, 5, 1, 0] rfl)
def f_X0_shortestRing_L4 (fu : Nat) (t_people : Int32) (t_owed : (Nat → Int32)) (s2 : Int32 × Int32) : Option ((Int32 × Int32) ⊕ (Int32)) := if t_people ≤ s2.2 then some (.inr s2.1) else bnd (α := Int32) (f_X0_stepsBackTo fu t_people t_owed s2.2) (fun x5 => if x5 = (-1 : Int32) then some (.inl (s2.1, (s2.2 + 1))) else if s2.1 = (-1 : Int32) then some (.inl (x5, (s2.2 + 1))) else if s2.1 ≤ x5 then some (.inl (s2.1, (s2.2 + 1))) else some (.inl (x5, (s2.2 + 1))))
def f_X0_shortestRing (fu : Nat) (t_people : Int32) (t_owed : (Nat → Int32)) : Option (Int32) := bnd (α := Int32) (lp (f_X0_shortestRing_L4 fu t_people t_owed) fu ((-1 : Int32), (0 : Int32))) (fun v6 => some v6)
set_option maxHeartbeats 4000000 in
set_option maxRecDepth 100000 in
theorem c_X0_shortestRing {l : Launch} {D : va_G} {g : Nat → ClassId} {fu : Nat} {t_q0 t_q1 t_q2 t_q3 t_q4 : Nat} {t_people : Int32} {t_wit : (Nat → Int32)} {t_purse : (Nat → Int32)} {t_hated : (Nat → Int32)} {t_owed : (Nat → Int32)} {r : Int32} (hf : f_X0_shortestRing fu t_people t_owed = some r) : Rd l D (gy g) yX0_shortestRing cX0_shortestRing 4 (some .int) 3 [.ref t_q0] (wTw g t_q0 t_q1 t_q2 t_q3 t_q4 t_people t_wit t_purse t_hated t_owed) (some (.int r)) := by
  refine Rd.ofI (by decide) (Nat.le_of_ble_eq_true rfl) ?_
  intro p e s m args below meth c Q S hK hP hret ls hl
  have hl : lv_has ls 4 [(0, .ref t_q0)] := hl
  refine lv_iconst (v := (-1)) S.1 S.2.1 dX0_shortestRing_0 ic_m1 ?_
  refine lv_istore_n (lv' := [(1, .int (-1 : Int32)), (0, .ref t_q0)]) S.1 S.2.1 dX0_shortestRing_1 rfl hl (by decide) rfl (fun ls hl => ?_)
  refine lv_iconst (v := 0) S.1 S.2.1 dX0_shortestRing_2 ic_0 ?_
  refine lv_istore_n (lv' := [(2, .int (0 : Int32)), (1, .int (-1 : Int32)), (0, .ref t_q0)]) S.1 S.2.1 dX0_shortestRing_3 rfl hl (by decide) rfl (fun ls hl => ?_)
  obtain ⟨x3, hf_, hk3⟩ := bnd_e hf
  have hE3 : ∀ (v6 : Int32), v6 = x3 → ∀ (ls : Array Slot), lv_has ls 4 [(1, .int v6)] → W p l e (rmD 3) s m args below meth c s.heap [] 0 0 Q (F0 m 41 ls []) := by
    intro v6 e_ ls hl
    subst e_
    have hf := hk3
    refine lv_iload_n S.1 S.2.1 dX0_shortestRing_41 rfl (lv_at hl 0 rfl) ?_
    have e_ := Option.some.inj hf
    subst e_
    exact hret _ _ dX0_shortestRing_42
  refine lp_ind (P := fun (s2 : Int32 × Int32) => ∀ (ls : Array Slot), lv_has ls 4 [(0, .ref t_q0), (1, .int s2.1), (2, .int s2.2)] → W p l e (rmD 3) s m args below meth c s.heap [] 0 0 Q (F0 m 4 ls [])) ?_ _ _ hf_ _ (lv_sub hl [2, 1, 0] rfl)
  intro s2 x4 hf hI3 hR3 ls hl
  refine lv_iload_n S.1 S.2.1 dX0_shortestRing_4 rfl (lv_at hl 2 rfl) ?_
  refine lv_aload_n S.1 S.2.1 dX0_shortestRing_5 rfl (lv_at hl 0 rfl) ?_
  refine gfX0_9 S hK hP 0 rfl rfl dX0_shortestRing_6 ?_
  refine lv_icmp_ge (tgt := 41) S.1 S.2.1 dX0_shortestRing_9 (by decide) (fun c_ => ?_) (fun c_ => ?_)
  · have hf := it_p c_ hf
    have e_ := hR3 _ (Option.some.inj hf).symm
    exact hE3 _ e_ _ (lv_sub hl [1] rfl)
  · have hf := it_n c_ hf
    refine lv_aload_n S.1 S.2.1 dX0_shortestRing_12 rfl (lv_at hl 0 rfl) ?_
    refine lv_iload_n S.1 S.2.1 dX0_shortestRing_13 rfl (lv_at hl 2 rfl) ?_
    obtain ⟨x5, hx5, hf⟩ := bnd_e hf
    refine Rd.cS (c_X0_stepsBackTo hx5) S hK hP kSX0_67 rfl hl.1 [] rfl (Nat.le_of_ble_eq_true rfl) ⟨(Nat.le_of_ble_eq_true rfl), (Nat.le_of_ble_eq_true rfl)⟩ ⟨(Nat.zero_le _), (Nat.zero_le _)⟩ dX0_shortestRing_14 ?_
    refine lv_istore_n (lv' := [(3, .int x5), (0, .ref t_q0), (1, .int s2.1), (2, .int s2.2)]) S.1 S.2.1 dX0_shortestRing_17 rfl hl (by decide) rfl (fun ls hl => ?_)
    refine lv_iload_n S.1 S.2.1 dX0_shortestRing_18 rfl (lv_at hl 0 rfl) ?_
    refine lv_iconst (v := (-1)) S.1 S.2.1 dX0_shortestRing_19 ic_m1 ?_
    refine lv_icmp_eq (tgt := 35) S.1 S.2.1 dX0_shortestRing_20 (by decide) (fun c_ => ?_) (fun c_ => ?_)
    · have hf := it_p c_ hf
      refine q_iinc (w := 1) (lv' := [(2, .int (s2.2 + 1)), (3, .int x5), (0, .ref t_q0), (1, .int s2.1)]) S dX0_shortestRing_35 hl (k := 3) rfl ic_1 (by decide) rfl (fun ls hl => ?_)
      refine lv_goto (tgt := 4) S.1 S.2.1 dX0_shortestRing_38 (by decide) ?_
      exact hI3 _ (Option.some.inj hf).symm _ (lv_sub hl [2, 3, 0] rfl)
    · have hf := it_n c_ hf
      refine lv_iload_n S.1 S.2.1 dX0_shortestRing_23 rfl (lv_at hl 2 rfl) ?_
      refine lv_iconst (v := (-1)) S.1 S.2.1 dX0_shortestRing_24 ic_m1 ?_
      refine lv_icmp_eq (tgt := 33) S.1 S.2.1 dX0_shortestRing_25 (by decide) (fun c_ => ?_) (fun c_ => ?_)
      · have hf := it_p c_ hf
        refine lv_iload_n S.1 S.2.1 dX0_shortestRing_33 rfl (lv_at hl 0 rfl) ?_
        refine lv_istore_n (lv' := [(1, .int x5), (3, .int x5), (0, .ref t_q0), (2, .int s2.2)]) S.1 S.2.1 dX0_shortestRing_34 rfl hl (by decide) rfl (fun ls hl => ?_)
        refine q_iinc (w := 1) (lv' := [(2, .int (s2.2 + 1)), (1, .int x5), (3, .int x5), (0, .ref t_q0)]) S dX0_shortestRing_35 hl (k := 3) rfl ic_1 (by decide) rfl (fun ls hl => ?_)
        refine lv_goto (tgt := 4) S.1 S.2.1 dX0_shortestRing_38 (by decide) ?_
        exact hI3 _ (Option.some.inj hf).symm _ (lv_sub hl [3, 1, 0] rfl)
      · have hf := it_n c_ hf
        refine lv_iload_n S.1 S.2.1 dX0_shortestRing_28 rfl (lv_at hl 0 rfl) ?_
        refine lv_iload_n S.1 S.2.1 dX0_shortestRing_29 rfl (lv_at hl 2 rfl) ?_
        refine lv_icmp_ge (tgt := 35) S.1 S.2.1 dX0_shortestRing_30 (by decide) (fun c_ => ?_) (fun c_ => ?_)
        · have hf := it_p c_ hf
          refine q_iinc (w := 1) (lv' := [(2, .int (s2.2 + 1)), (3, .int x5), (0, .ref t_q0), (1, .int s2.1)]) S dX0_shortestRing_35 hl (k := 3) rfl ic_1 (by decide) rfl (fun ls hl => ?_)
          refine lv_goto (tgt := 4) S.1 S.2.1 dX0_shortestRing_38 (by decide) ?_
          exact hI3 _ (Option.some.inj hf).symm _ (lv_sub hl [2, 3, 0] rfl)
        · have hf := it_n c_ hf
          refine lv_iload_n S.1 S.2.1 dX0_shortestRing_33 rfl (lv_at hl 0 rfl) ?_
          refine lv_istore_n (lv' := [(1, .int x5), (3, .int x5), (0, .ref t_q0), (2, .int s2.2)]) S.1 S.2.1 dX0_shortestRing_34 rfl hl (by decide) rfl (fun ls hl => ?_)
          refine q_iinc (w := 1) (lv' := [(2, .int (s2.2 + 1)), (1, .int x5), (3, .int x5), (0, .ref t_q0)]) S dX0_shortestRing_35 hl (k := 3) rfl ic_1 (by decide) rfl (fun ls hl => ?_)
          refine lv_goto (tgt := 4) S.1 S.2.1 dX0_shortestRing_38 (by decide) ?_
          exact hI3 _ (Option.some.inj hf).symm _ (lv_sub hl [3, 1, 0] rfl)
def f_X0_richest_L6 (fu : Nat) (t_people : Int32) (t_purse : (Nat → Int32)) (t_owed : (Nat → Int32)) (s2 : Int32 × Int32 × Int32) : Option ((Int32 × Int32 × Int32) ⊕ (Int32)) := if t_people ≤ s2.2.2 then some (.inr s2.1) else bnd (α := Int32) (f_X9_wealthOf fu t_people t_purse t_owed s2.2.2) (fun x5 => if s2.1 = (-1 : Int32) then some (.inl (s2.2.2, x5, (s2.2.2 + 1))) else if x5 ≤ s2.2.1 then some (.inl (s2.1, s2.2.1, (s2.2.2 + 1))) else some (.inl (s2.2.2, x5, (s2.2.2 + 1))))
def f_X0_richest (fu : Nat) (t_people : Int32) (t_purse : (Nat → Int32)) (t_owed : (Nat → Int32)) : Option (Int32) := bnd (α := Int32) (lp (f_X0_richest_L6 fu t_people t_purse t_owed) fu ((-1 : Int32), (0 : Int32), (0 : Int32))) (fun v6 => some v6)
set_option maxHeartbeats 4000000 in
set_option maxRecDepth 100000 in
theorem c_X0_richest {l : Launch} {D : va_G} {g : Nat → ClassId} {fu : Nat} {t_q0 t_q1 t_q2 t_q3 t_q4 : Nat} {t_people : Int32} {t_wit : (Nat → Int32)} {t_purse : (Nat → Int32)} {t_hated : (Nat → Int32)} {t_owed : (Nat → Int32)} {r : Int32} (hf : f_X0_richest fu t_people t_purse t_owed = some r) : Rd l D (gy g) yX0_richest cX0_richest 5 (some .int) 4 [.ref t_q0] (wTw g t_q0 t_q1 t_q2 t_q3 t_q4 t_people t_wit t_purse t_hated t_owed) (some (.int r)) := by
  refine Rd.ofI (by decide) (Nat.le_of_ble_eq_true rfl) ?_
  intro p e s m args below meth c Q S hK hP hret ls hl
  have hl : lv_has ls 5 [(0, .ref t_q0)] := hl
  refine lv_iconst (v := (-1)) S.1 S.2.1 dX0_richest_0 ic_m1 ?_
  refine lv_istore_n (lv' := [(1, .int (-1 : Int32)), (0, .ref t_q0)]) S.1 S.2.1 dX0_richest_1 rfl hl (by decide) rfl (fun ls hl => ?_)
  refine lv_iconst (v := 0) S.1 S.2.1 dX0_richest_2 ic_0 ?_
  refine lv_istore_n (lv' := [(2, .int (0 : Int32)), (1, .int (-1 : Int32)), (0, .ref t_q0)]) S.1 S.2.1 dX0_richest_3 rfl hl (by decide) rfl (fun ls hl => ?_)
  refine lv_iconst (v := 0) S.1 S.2.1 dX0_richest_4 ic_0 ?_
  refine lv_istore_n (lv' := [(3, .int (0 : Int32)), (2, .int (0 : Int32)), (1, .int (-1 : Int32)), (0, .ref t_q0)]) S.1 S.2.1 dX0_richest_5 rfl hl (by decide) rfl (fun ls hl => ?_)
  obtain ⟨x3, hf_, hk3⟩ := bnd_e hf
  have hE3 : ∀ (v6 : Int32), v6 = x3 → ∀ (ls : Array Slot), lv_has ls 5 [(1, .int v6)] → W p l e (rmD 4) s m args below meth c s.heap [] 0 0 Q (F0 m 43 ls []) := by
    intro v6 e_ ls hl
    subst e_
    have hf := hk3
    refine lv_iload_n S.1 S.2.1 dX0_richest_43 rfl (lv_at hl 0 rfl) ?_
    have e_ := Option.some.inj hf
    subst e_
    exact hret _ _ dX0_richest_44
  refine lp_ind (P := fun (s2 : Int32 × Int32 × Int32) => ∀ (ls : Array Slot), lv_has ls 5 [(0, .ref t_q0), (1, .int s2.1), (2, .int s2.2.1), (3, .int s2.2.2)] → W p l e (rmD 4) s m args below meth c s.heap [] 0 0 Q (F0 m 6 ls [])) ?_ _ _ hf_ _ (lv_sub hl [3, 2, 1, 0] rfl)
  intro s2 x4 hf hI3 hR3 ls hl
  refine lv_iload_n S.1 S.2.1 dX0_richest_6 rfl (lv_at hl 3 rfl) ?_
  refine lv_aload_n S.1 S.2.1 dX0_richest_7 rfl (lv_at hl 0 rfl) ?_
  refine gfX0_9 S hK hP 0 rfl rfl dX0_richest_8 ?_
  refine lv_icmp_ge (tgt := 43) S.1 S.2.1 dX0_richest_11 (by decide) (fun c_ => ?_) (fun c_ => ?_)
  · have hf := it_p c_ hf
    have e_ := hR3 _ (Option.some.inj hf).symm
    exact hE3 _ e_ _ (lv_sub hl [1] rfl)
  · have hf := it_n c_ hf
    refine lv_aload_n S.1 S.2.1 dX0_richest_14 rfl (lv_at hl 0 rfl) ?_
    refine lv_iload_n S.1 S.2.1 dX0_richest_15 rfl (lv_at hl 3 rfl) ?_
    obtain ⟨x5, hx5, hf⟩ := bnd_e hf
    refine Rd.cV (c_X9_wealthOf hx5) S hK hP 0 7 rfl rfl kVX0_74 rfl hl.1 [] rfl (Nat.le_of_ble_eq_true rfl) ⟨(Nat.le_of_ble_eq_true rfl), (Nat.le_of_ble_eq_true rfl)⟩ ⟨(Nat.zero_le _), (Nat.zero_le _)⟩ dX0_richest_16 ?_
    refine lv_istore (lv' := [(4, .int x5), (0, .ref t_q0), (1, .int s2.1), (2, .int s2.2.1), (3, .int s2.2.2)]) S.1 S.2.1 dX0_richest_19 hl (by decide) rfl (fun ls hl => ?_)
    refine lv_iload_n S.1 S.2.1 dX0_richest_21 rfl (lv_at hl 2 rfl) ?_
    refine lv_iconst (v := (-1)) S.1 S.2.1 dX0_richest_22 ic_m1 ?_
    refine lv_icmp_eq (tgt := 32) S.1 S.2.1 dX0_richest_23 (by decide) (fun c_ => ?_) (fun c_ => ?_)
    · have hf := it_p c_ hf
      refine lv_iload_n S.1 S.2.1 dX0_richest_32 rfl (lv_at hl 4 rfl) ?_
      refine lv_istore_n (lv' := [(1, .int s2.2.2), (4, .int x5), (0, .ref t_q0), (2, .int s2.2.1), (3, .int s2.2.2)]) S.1 S.2.1 dX0_richest_33 rfl hl (by decide) rfl (fun ls hl => ?_)
      refine lv_iload S.1 S.2.1 dX0_richest_34 (lv_at hl 1 rfl) ?_
      refine lv_istore_n (lv' := [(2, .int x5), (1, .int s2.2.2), (4, .int x5), (0, .ref t_q0), (3, .int s2.2.2)]) S.1 S.2.1 dX0_richest_36 rfl hl (by decide) rfl (fun ls hl => ?_)
      refine q_iinc (w := 1) (lv' := [(3, .int (s2.2.2 + 1)), (2, .int x5), (1, .int s2.2.2), (4, .int x5), (0, .ref t_q0)]) S dX0_richest_37 hl (k := 4) rfl ic_1 (by decide) rfl (fun ls hl => ?_)
      refine lv_goto (tgt := 6) S.1 S.2.1 dX0_richest_40 (by decide) ?_
      exact hI3 _ (Option.some.inj hf).symm _ (lv_sub hl [4, 2, 1, 0] rfl)
    · have hf := it_n c_ hf
      refine lv_iload S.1 S.2.1 dX0_richest_26 (lv_at hl 0 rfl) ?_
      refine lv_iload_n S.1 S.2.1 dX0_richest_28 rfl (lv_at hl 3 rfl) ?_
      refine lv_icmp_le (tgt := 37) S.1 S.2.1 dX0_richest_29 (by decide) (fun c_ => ?_) (fun c_ => ?_)
      · have hf := it_p c_ hf
        refine q_iinc (w := 1) (lv' := [(3, .int (s2.2.2 + 1)), (4, .int x5), (0, .ref t_q0), (1, .int s2.1), (2, .int s2.2.1)]) S dX0_richest_37 hl (k := 4) rfl ic_1 (by decide) rfl (fun ls hl => ?_)
        refine lv_goto (tgt := 6) S.1 S.2.1 dX0_richest_40 (by decide) ?_
        exact hI3 _ (Option.some.inj hf).symm _ (lv_sub hl [2, 3, 4, 0] rfl)
      · have hf := it_n c_ hf
        refine lv_iload_n S.1 S.2.1 dX0_richest_32 rfl (lv_at hl 4 rfl) ?_
        refine lv_istore_n (lv' := [(1, .int s2.2.2), (4, .int x5), (0, .ref t_q0), (2, .int s2.2.1), (3, .int s2.2.2)]) S.1 S.2.1 dX0_richest_33 rfl hl (by decide) rfl (fun ls hl => ?_)
        refine lv_iload S.1 S.2.1 dX0_richest_34 (lv_at hl 1 rfl) ?_
        refine lv_istore_n (lv' := [(2, .int x5), (1, .int s2.2.2), (4, .int x5), (0, .ref t_q0), (3, .int s2.2.2)]) S.1 S.2.1 dX0_richest_36 rfl hl (by decide) rfl (fun ls hl => ?_)
        refine q_iinc (w := 1) (lv' := [(3, .int (s2.2.2 + 1)), (2, .int x5), (1, .int s2.2.2), (4, .int x5), (0, .ref t_q0)]) S dX0_richest_37 hl (k := 4) rfl ic_1 (by decide) rfl (fun ls hl => ?_)
        refine lv_goto (tgt := 6) S.1 S.2.1 dX0_richest_40 (by decide) ?_
        exact hI3 _ (Option.some.inj hf).symm _ (lv_sub hl [4, 2, 1, 0] rfl)
def f_X0_twins_L16 (t_people : Int32) (t_wit : (Nat → Int32)) (t_purse : (Nat → Int32)) (s2 : Int32 × Int32) (s7 : Int32 × Int32) : Option ((Int32 × Int32) ⊕ (Int32)) := if t_people ≤ s7.2 then some (.inr s7.1) else bnd (α := Int32) (rdi 6 t_wit s2.2) (fun x10 => bnd (α := Int32) (rdi 6 t_wit s7.2) (fun x11 => if x10 = x11 then bnd (α := Int32) (rdi 6 t_purse s2.2) (fun x12 => bnd (α := Int32) (rdi 6 t_purse s7.2) (fun x13 => if x12 = x13 then some (.inl ((s7.1 + 1), (s7.2 + 1))) else some (.inl (s7.1, (s7.2 + 1))))) else some (.inl (s7.1, (s7.2 + 1)))))
def f_X0_twins_L4 (fu : Nat) (t_people : Int32) (t_wit : (Nat → Int32)) (t_purse : (Nat → Int32)) (s2 : Int32 × Int32) : Option ((Int32 × Int32) ⊕ (Int32)) := if t_people ≤ s2.2 then some (.inr s2.1) else ltn (s2.2 + (1 : Int32)) (fun x5 => bnd (α := Int32) (lp (f_X0_twins_L16 t_people t_wit t_purse s2) fu (s2.1, x5)) (fun v14 => some (.inl (v14, (s2.2 + 1)))))
def f_X0_twins (fu : Nat) (t_people : Int32) (t_wit : (Nat → Int32)) (t_purse : (Nat → Int32)) : Option (Int32) := bnd (α := Int32) (lp (f_X0_twins_L4 fu t_people t_wit t_purse) fu ((0 : Int32), (0 : Int32))) (fun v15 => some v15)
set_option maxHeartbeats 4000000 in
set_option maxRecDepth 100000 in
theorem c_X0_twins {l : Launch} {D : va_G} {g : Nat → ClassId} {fu : Nat} {t_q0 t_q1 t_q2 t_q3 t_q4 : Nat} {t_people : Int32} {t_wit : (Nat → Int32)} {t_purse : (Nat → Int32)} {t_hated : (Nat → Int32)} {t_owed : (Nat → Int32)} {r : Int32} (hf : f_X0_twins fu t_people t_wit t_purse = some r) : Rd l D (gy g) yX0_twins cX0_twins 4 (some .int) 0 [.ref t_q0] (wTw g t_q0 t_q1 t_q2 t_q3 t_q4 t_people t_wit t_purse t_hated t_owed) (some (.int r)) := by
  refine Rd.ofI (by decide) (Nat.le_of_ble_eq_true rfl) ?_
  intro p e s m args below meth c Q S hK hP hret ls hl
  have hl : lv_has ls 4 [(0, .ref t_q0)] := hl
  refine lv_iconst (v := 0) S.1 S.2.1 dX0_twins_0 ic_0 ?_
  refine lv_istore_n (lv' := [(1, .int (0 : Int32)), (0, .ref t_q0)]) S.1 S.2.1 dX0_twins_1 rfl hl (by decide) rfl (fun ls hl => ?_)
  refine lv_iconst (v := 0) S.1 S.2.1 dX0_twins_2 ic_0 ?_
  refine lv_istore_n (lv' := [(2, .int (0 : Int32)), (1, .int (0 : Int32)), (0, .ref t_q0)]) S.1 S.2.1 dX0_twins_3 rfl hl (by decide) rfl (fun ls hl => ?_)
  obtain ⟨x3, hf_, hk3⟩ := bnd_e hf
  have hE3 : ∀ (v15 : Int32), v15 = x3 → ∀ (ls : Array Slot), lv_has ls 4 [(1, .int v15)] → W p l e (rmD 0) s m args below meth c s.heap [] 0 0 Q (F0 m 69 ls []) := by
    intro v15 e_ ls hl
    subst e_
    have hf := hk3
    refine lv_iload_n S.1 S.2.1 dX0_twins_69 rfl (lv_at hl 0 rfl) ?_
    have e_ := Option.some.inj hf
    subst e_
    exact hret _ _ dX0_twins_70
  refine lp_ind (P := fun (s2 : Int32 × Int32) => ∀ (ls : Array Slot), lv_has ls 4 [(0, .ref t_q0), (1, .int s2.1), (2, .int s2.2)] → W p l e (rmD 0) s m args below meth c s.heap [] 0 0 Q (F0 m 4 ls [])) ?_ _ _ hf_ _ (lv_sub hl [2, 1, 0] rfl)
  intro s2 x4 hf hI3 hR3 ls hl
  refine lv_iload_n S.1 S.2.1 dX0_twins_4 rfl (lv_at hl 2 rfl) ?_
  refine lv_aload_n S.1 S.2.1 dX0_twins_5 rfl (lv_at hl 0 rfl) ?_
  refine gfX0_9 S hK hP 0 rfl rfl dX0_twins_6 ?_
  refine lv_icmp_ge (tgt := 69) S.1 S.2.1 dX0_twins_9 (by decide) (fun c_ => ?_) (fun c_ => ?_)
  · have hf := it_p c_ hf
    have e_ := hR3 _ (Option.some.inj hf).symm
    exact hE3 _ e_ _ (lv_sub hl [1] rfl)
  · have hf := it_n c_ hf
    refine lv_iload_n S.1 S.2.1 dX0_twins_12 rfl (lv_at hl 2 rfl) ?_
    refine lv_iconst (v := 1) S.1 S.2.1 dX0_twins_13 ic_1 ?_
    refine lv_iadd S.1 S.2.1 dX0_twins_14 ?_
    refine lv_topi (fun x5 ex5 => ?_)
    have hf := ltn_e hf ex5
    refine lv_istore_n (lv' := [(3, .int x5), (0, .ref t_q0), (1, .int s2.1), (2, .int s2.2)]) S.1 S.2.1 dX0_twins_15 rfl hl (by decide) rfl (fun ls hl => ?_)
    obtain ⟨x8, hf_, hk8⟩ := bnd_e hf
    have hE8 : ∀ (v14 : Int32), v14 = x8 → ∀ (ls : Array Slot), lv_has ls 4 [(0, .ref t_q0), (1, .int v14), (2, .int s2.2)] → W p l e (rmD 0) s m args below meth c s.heap [] 0 0 Q (F0 m 63 ls []) := by
      intro v14 e_ ls hl
      subst e_
      have hf := hk8
      refine q_iinc (w := 1) (lv' := [(2, .int (s2.2 + 1)), (0, .ref t_q0), (1, .int v14)]) S dX0_twins_63 hl (k := 2) rfl ic_1 (by decide) rfl (fun ls hl => ?_)
      refine lv_goto (tgt := 4) S.1 S.2.1 dX0_twins_66 (by decide) ?_
      exact hI3 _ (Option.some.inj hf).symm _ (lv_sub hl [1, 2, 0] rfl)
    refine lp_ind (P := fun (s7 : Int32 × Int32) => ∀ (ls : Array Slot), lv_has ls 4 [(0, .ref t_q0), (1, .int s7.1), (2, .int s2.2), (3, .int s7.2)] → W p l e (rmD 0) s m args below meth c s.heap [] 0 0 Q (F0 m 16 ls [])) ?_ _ _ hf_ _ (lv_sub hl [1, 2, 3, 0] rfl)
    intro s7 x9 hf hI8 hR8 ls hl
    refine lv_iload_n S.1 S.2.1 dX0_twins_16 rfl (lv_at hl 3 rfl) ?_
    refine lv_aload_n S.1 S.2.1 dX0_twins_17 rfl (lv_at hl 0 rfl) ?_
    refine gfX0_9 S hK hP 0 rfl rfl dX0_twins_18 ?_
    refine lv_icmp_ge (tgt := 63) S.1 S.2.1 dX0_twins_21 (by decide) (fun c_ => ?_) (fun c_ => ?_)
    · have hf := it_p c_ hf
      have e_ := hR8 _ (Option.some.inj hf).symm
      exact hE8 _ e_ _ (lv_sub hl [0, 1, 2] rfl)
    · have hf := it_n c_ hf
      refine lv_aload_n S.1 S.2.1 dX0_twins_24 rfl (lv_at hl 0 rfl) ?_
      refine gfX0_77 S hK hP 0 rfl rfl dX0_twins_25 ?_
      refine lv_iload_n S.1 S.2.1 dX0_twins_28 rfl (lv_at hl 2 rfl) ?_
      obtain ⟨x10, hx10, hf⟩ := bnd_e hf
      refine q_iald S hK hP 1 0 rfl rfl hx10 dX0_twins_29 ?_
      refine lv_aload_n S.1 S.2.1 dX0_twins_30 rfl (lv_at hl 0 rfl) ?_
      refine gfX0_77 S hK hP 0 rfl rfl dX0_twins_31 ?_
      refine lv_iload_n S.1 S.2.1 dX0_twins_34 rfl (lv_at hl 3 rfl) ?_
      obtain ⟨x11, hx11, hf⟩ := bnd_e hf
      refine q_iald S hK hP 1 0 rfl rfl hx11 dX0_twins_35 ?_
      refine lv_icmp_ne (tgt := 57) S.1 S.2.1 dX0_twins_36 (by decide) (fun c_ => ?_) (fun c_ => ?_)
      · have hf := it_n c_ hf
        refine q_iinc (w := 1) (lv' := [(3, .int (s7.2 + 1)), (0, .ref t_q0), (1, .int s7.1), (2, .int s2.2)]) S dX0_twins_57 hl (k := 3) rfl ic_1 (by decide) rfl (fun ls hl => ?_)
        refine lv_goto (tgt := 16) S.1 S.2.1 dX0_twins_60 (by decide) ?_
        exact hI8 _ (Option.some.inj hf).symm _ (lv_sub hl [1, 2, 3, 0] rfl)
      · have hf := it_p c_ hf
        refine lv_aload_n S.1 S.2.1 dX0_twins_39 rfl (lv_at hl 0 rfl) ?_
        refine gfX0_41 S hK hP 0 rfl rfl dX0_twins_40 ?_
        refine lv_iload_n S.1 S.2.1 dX0_twins_43 rfl (lv_at hl 2 rfl) ?_
        obtain ⟨x12, hx12, hf⟩ := bnd_e hf
        refine q_iald S hK hP 2 0 rfl rfl hx12 dX0_twins_44 ?_
        refine lv_aload_n S.1 S.2.1 dX0_twins_45 rfl (lv_at hl 0 rfl) ?_
        refine gfX0_41 S hK hP 0 rfl rfl dX0_twins_46 ?_
        refine lv_iload_n S.1 S.2.1 dX0_twins_49 rfl (lv_at hl 3 rfl) ?_
        obtain ⟨x13, hx13, hf⟩ := bnd_e hf
        refine q_iald S hK hP 2 0 rfl rfl hx13 dX0_twins_50 ?_
        refine lv_icmp_ne (tgt := 57) S.1 S.2.1 dX0_twins_51 (by decide) (fun c_ => ?_) (fun c_ => ?_)
        · have hf := it_n c_ hf
          refine q_iinc (w := 1) (lv' := [(3, .int (s7.2 + 1)), (0, .ref t_q0), (1, .int s7.1), (2, .int s2.2)]) S dX0_twins_57 hl (k := 3) rfl ic_1 (by decide) rfl (fun ls hl => ?_)
          refine lv_goto (tgt := 16) S.1 S.2.1 dX0_twins_60 (by decide) ?_
          exact hI8 _ (Option.some.inj hf).symm _ (lv_sub hl [1, 2, 3, 0] rfl)
        · have hf := it_p c_ hf
          refine q_iinc (w := 1) (lv' := [(1, .int (s7.1 + 1)), (0, .ref t_q0), (2, .int s2.2), (3, .int s7.2)]) S dX0_twins_54 hl (k := 1) rfl ic_1 (by decide) rfl (fun ls hl => ?_)
          refine q_iinc (w := 1) (lv' := [(3, .int (s7.2 + 1)), (1, .int (s7.1 + 1)), (0, .ref t_q0), (2, .int s2.2)]) S dX0_twins_57 hl (k := 3) rfl ic_1 (by decide) rfl (fun ls hl => ?_)
          refine lv_goto (tgt := 16) S.1 S.2.1 dX0_twins_60 (by decide) ?_
          exact hI8 _ (Option.some.inj hf).symm _ (lv_sub hl [2, 1, 3, 0] rfl)
def f_J6_bitCount_0f7a4 (fu : Nat) (p1 : Int32) : Option (Int32) := ltn (p1 - ((jushr p1 (1 : Int32)) &&& (1431655765 : Int32))) (fun x1 => ltn ((x1 &&& (858993459 : Int32)) + ((jushr x1 (2 : Int32)) &&& (858993459 : Int32))) (fun x2 => ltn ((x2 + (jushr x2 (4 : Int32))) &&& (252645135 : Int32)) (fun x3 => ltn (x3 + (jushr x3 (8 : Int32))) (fun x4 => ltn (x4 + (jushr x4 (16 : Int32))) (fun x5 => some (x5 &&& (63 : Int32)))))))
set_option maxHeartbeats 4000000 in
set_option maxRecDepth 100000 in
theorem c_J6_bitCount_0f7a4 {l : Launch} {D : va_G} {g : Nat → ClassId} {fu : Nat} {p1 : Int32} {r : Int32} (hf : f_J6_bitCount_0f7a4 fu p1 = some r) : Rd l D (gy g) yJ6_bitCount_0f7a4 cJ6_bitCount_0f7a4 1 (some .int) 0 [.int p1] ([] : va_W) (some (.int r)) := by
  refine Rd.ofI (by decide) (Nat.le_of_ble_eq_true rfl) ?_
  intro p e s m args below meth c Q S hK hP hret ls hl
  have hl : lv_has ls 1 [(0, .int p1)] := hl
  refine lv_iload_n S.1 S.2.1 dJ6_bitCount_0f7a4_0 rfl (lv_at hl 0 rfl) ?_
  refine lv_iload_n S.1 S.2.1 dJ6_bitCount_0f7a4_1 rfl (lv_at hl 0 rfl) ?_
  refine lv_iconst (v := 1) S.1 S.2.1 dJ6_bitCount_0f7a4_2 ic_1 ?_
  refine lv_iushr (v := (jushr p1 (1 : Int32))) S.1 S.2.1 dJ6_bitCount_0f7a4_3 rfl ?_
  refine lv_ldcw (v := 1431655765) S.1 S.2.1 S.2.2.2.1 (S.2.2.2.2 _ q_890) dJ6_bitCount_0f7a4_4 ?_
  refine lv_iand S.1 S.2.1 dJ6_bitCount_0f7a4_7 ?_
  refine lv_isub S.1 S.2.1 dJ6_bitCount_0f7a4_8 ?_
  refine lv_topi (fun x1 ex1 => ?_)
  have hf := ltn_e hf ex1
  refine lv_istore_n (lv' := [(0, .int x1)]) S.1 S.2.1 dJ6_bitCount_0f7a4_9 rfl hl (by decide) rfl (fun ls hl => ?_)
  refine lv_iload_n S.1 S.2.1 dJ6_bitCount_0f7a4_10 rfl (lv_at hl 0 rfl) ?_
  refine lv_ldcw (v := 858993459) S.1 S.2.1 S.2.2.2.1 (S.2.2.2.2 _ q_891) dJ6_bitCount_0f7a4_11 ?_
  refine lv_iand S.1 S.2.1 dJ6_bitCount_0f7a4_14 ?_
  refine lv_iload_n S.1 S.2.1 dJ6_bitCount_0f7a4_15 rfl (lv_at hl 0 rfl) ?_
  refine lv_iconst (v := 2) S.1 S.2.1 dJ6_bitCount_0f7a4_16 ic_2 ?_
  refine lv_iushr (v := (jushr x1 (2 : Int32))) S.1 S.2.1 dJ6_bitCount_0f7a4_17 rfl ?_
  refine lv_ldcw (v := 858993459) S.1 S.2.1 S.2.2.2.1 (S.2.2.2.2 _ q_891) dJ6_bitCount_0f7a4_18 ?_
  refine lv_iand S.1 S.2.1 dJ6_bitCount_0f7a4_21 ?_
  refine lv_iadd S.1 S.2.1 dJ6_bitCount_0f7a4_22 ?_
  refine lv_topi (fun x2 ex2 => ?_)
  have hf := ltn_e hf ex2
  refine lv_istore_n (lv' := [(0, .int x2)]) S.1 S.2.1 dJ6_bitCount_0f7a4_23 rfl hl (by decide) rfl (fun ls hl => ?_)
  refine lv_iload_n S.1 S.2.1 dJ6_bitCount_0f7a4_24 rfl (lv_at hl 0 rfl) ?_
  refine lv_iload_n S.1 S.2.1 dJ6_bitCount_0f7a4_25 rfl (lv_at hl 0 rfl) ?_
  refine lv_iconst (v := 4) S.1 S.2.1 dJ6_bitCount_0f7a4_26 ic_4 ?_
  refine lv_iushr (v := (jushr x2 (4 : Int32))) S.1 S.2.1 dJ6_bitCount_0f7a4_27 rfl ?_
  refine lv_iadd S.1 S.2.1 dJ6_bitCount_0f7a4_28 ?_
  refine lv_ldcw (v := 252645135) S.1 S.2.1 S.2.2.2.1 (S.2.2.2.2 _ q_892) dJ6_bitCount_0f7a4_29 ?_
  refine lv_iand S.1 S.2.1 dJ6_bitCount_0f7a4_32 ?_
  refine lv_topi (fun x3 ex3 => ?_)
  have hf := ltn_e hf ex3
  refine lv_istore_n (lv' := [(0, .int x3)]) S.1 S.2.1 dJ6_bitCount_0f7a4_33 rfl hl (by decide) rfl (fun ls hl => ?_)
  refine lv_iload_n S.1 S.2.1 dJ6_bitCount_0f7a4_34 rfl (lv_at hl 0 rfl) ?_
  refine lv_iload_n S.1 S.2.1 dJ6_bitCount_0f7a4_35 rfl (lv_at hl 0 rfl) ?_
  refine lv_bipush (v := 8) S.1 S.2.1 dJ6_bitCount_0f7a4_36 bp_8 ?_
  refine lv_iushr (v := (jushr x3 (8 : Int32))) S.1 S.2.1 dJ6_bitCount_0f7a4_38 rfl ?_
  refine lv_iadd S.1 S.2.1 dJ6_bitCount_0f7a4_39 ?_
  refine lv_topi (fun x4 ex4 => ?_)
  have hf := ltn_e hf ex4
  refine lv_istore_n (lv' := [(0, .int x4)]) S.1 S.2.1 dJ6_bitCount_0f7a4_40 rfl hl (by decide) rfl (fun ls hl => ?_)
  refine lv_iload_n S.1 S.2.1 dJ6_bitCount_0f7a4_41 rfl (lv_at hl 0 rfl) ?_
  refine lv_iload_n S.1 S.2.1 dJ6_bitCount_0f7a4_42 rfl (lv_at hl 0 rfl) ?_
  refine lv_bipush (v := 16) S.1 S.2.1 dJ6_bitCount_0f7a4_43 bp_16 ?_
  refine lv_iushr (v := (jushr x4 (16 : Int32))) S.1 S.2.1 dJ6_bitCount_0f7a4_45 rfl ?_
  refine lv_iadd S.1 S.2.1 dJ6_bitCount_0f7a4_46 ?_
  refine lv_topi (fun x5 ex5 => ?_)
  have hf := ltn_e hf ex5
  refine lv_istore_n (lv' := [(0, .int x5)]) S.1 S.2.1 dJ6_bitCount_0f7a4_47 rfl hl (by decide) rfl (fun ls hl => ?_)
  refine lv_iload_n S.1 S.2.1 dJ6_bitCount_0f7a4_48 rfl (lv_at hl 0 rfl) ?_
  refine lv_bipush (v := 63) S.1 S.2.1 dJ6_bitCount_0f7a4_49 bp_63 ?_
  refine lv_iand S.1 S.2.1 dJ6_bitCount_0f7a4_51 ?_
  have e_ := Option.some.inj hf
  subst e_
  exact hret _ _ dJ6_bitCount_0f7a4_52
def f_X0_favourite_L6 (fu : Nat) (t_people : Int32) (t_owed : (Nat → Int32)) (s2 : Int32 × Int32 × Int32) : Option ((Int32 × Int32 × Int32) ⊕ (Int32)) := if t_people ≤ s2.2.2 then some (.inr s2.1) else bnd (α := Int32) (f_X9_debtorsOf fu t_people t_owed s2.2.2) (fun x5 => bnd (α := Int32) (f_J6_bitCount_0f7a4 fu x5) (fun x6 => if x6 ≤ s2.2.1 then some (.inl (s2.1, s2.2.1, (s2.2.2 + 1))) else some (.inl (s2.2.2, x6, (s2.2.2 + 1)))))
def f_X0_favourite (fu : Nat) (t_people : Int32) (t_owed : (Nat → Int32)) : Option (Int32) := bnd (α := Int32) (lp (f_X0_favourite_L6 fu t_people t_owed) fu ((-1 : Int32), (-1 : Int32), (0 : Int32))) (fun v7 => some v7)
set_option maxHeartbeats 4000000 in
set_option maxRecDepth 100000 in
theorem c_X0_favourite {l : Launch} {D : va_G} {g : Nat → ClassId} {fu : Nat} {t_q0 t_q1 t_q2 t_q3 t_q4 : Nat} {t_people : Int32} {t_wit : (Nat → Int32)} {t_purse : (Nat → Int32)} {t_hated : (Nat → Int32)} {t_owed : (Nat → Int32)} {r : Int32} (hf : f_X0_favourite fu t_people t_owed = some r) : Rd l D (gy g) yX0_favourite cX0_favourite 5 (some .int) 2 [.ref t_q0] (wTw g t_q0 t_q1 t_q2 t_q3 t_q4 t_people t_wit t_purse t_hated t_owed) (some (.int r)) := by
  refine Rd.ofI (by decide) (Nat.le_of_ble_eq_true rfl) ?_
  intro p e s m args below meth c Q S hK hP hret ls hl
  have hl : lv_has ls 5 [(0, .ref t_q0)] := hl
  refine lv_iconst (v := (-1)) S.1 S.2.1 dX0_favourite_0 ic_m1 ?_
  refine lv_istore_n (lv' := [(1, .int (-1 : Int32)), (0, .ref t_q0)]) S.1 S.2.1 dX0_favourite_1 rfl hl (by decide) rfl (fun ls hl => ?_)
  refine lv_iconst (v := (-1)) S.1 S.2.1 dX0_favourite_2 ic_m1 ?_
  refine lv_istore_n (lv' := [(2, .int (-1 : Int32)), (1, .int (-1 : Int32)), (0, .ref t_q0)]) S.1 S.2.1 dX0_favourite_3 rfl hl (by decide) rfl (fun ls hl => ?_)
  refine lv_iconst (v := 0) S.1 S.2.1 dX0_favourite_4 ic_0 ?_
  refine lv_istore_n (lv' := [(3, .int (0 : Int32)), (2, .int (-1 : Int32)), (1, .int (-1 : Int32)), (0, .ref t_q0)]) S.1 S.2.1 dX0_favourite_5 rfl hl (by decide) rfl (fun ls hl => ?_)
  obtain ⟨x3, hf_, hk3⟩ := bnd_e hf
  have hE3 : ∀ (v7 : Int32), v7 = x3 → ∀ (ls : Array Slot), lv_has ls 5 [(1, .int v7)] → W p l e (rmD 2) s m args below meth c s.heap [] 0 0 Q (F0 m 41 ls []) := by
    intro v7 e_ ls hl
    subst e_
    have hf := hk3
    refine lv_iload_n S.1 S.2.1 dX0_favourite_41 rfl (lv_at hl 0 rfl) ?_
    have e_ := Option.some.inj hf
    subst e_
    exact hret _ _ dX0_favourite_42
  refine lp_ind (P := fun (s2 : Int32 × Int32 × Int32) => ∀ (ls : Array Slot), lv_has ls 5 [(0, .ref t_q0), (1, .int s2.1), (2, .int s2.2.1), (3, .int s2.2.2)] → W p l e (rmD 2) s m args below meth c s.heap [] 0 0 Q (F0 m 6 ls [])) ?_ _ _ hf_ _ (lv_sub hl [3, 2, 1, 0] rfl)
  intro s2 x4 hf hI3 hR3 ls hl
  refine lv_iload_n S.1 S.2.1 dX0_favourite_6 rfl (lv_at hl 3 rfl) ?_
  refine lv_aload_n S.1 S.2.1 dX0_favourite_7 rfl (lv_at hl 0 rfl) ?_
  refine gfX0_9 S hK hP 0 rfl rfl dX0_favourite_8 ?_
  refine lv_icmp_ge (tgt := 41) S.1 S.2.1 dX0_favourite_11 (by decide) (fun c_ => ?_) (fun c_ => ?_)
  · have hf := it_p c_ hf
    have e_ := hR3 _ (Option.some.inj hf).symm
    exact hE3 _ e_ _ (lv_sub hl [1] rfl)
  · have hf := it_n c_ hf
    refine lv_aload_n S.1 S.2.1 dX0_favourite_14 rfl (lv_at hl 0 rfl) ?_
    refine lv_iload_n S.1 S.2.1 dX0_favourite_15 rfl (lv_at hl 3 rfl) ?_
    obtain ⟨x5, hx5, hf⟩ := bnd_e hf
    refine Rd.cV (c_X9_debtorsOf hx5) S hK hP 0 7 rfl rfl kVX0_80 rfl hl.1 [] rfl (Nat.le_of_ble_eq_true rfl) ⟨(Nat.le_of_ble_eq_true rfl), (Nat.le_of_ble_eq_true rfl)⟩ ⟨(Nat.zero_le _), (Nat.zero_le _)⟩ dX0_favourite_16 ?_
    obtain ⟨x6, hx6, hf⟩ := bnd_e hf
    refine Rd.cS (c_J6_bitCount_0f7a4 hx6) S hK va_P.nil kSX0_83 rfl hl.1 [] rfl (Nat.le_of_ble_eq_true rfl) ⟨(Nat.le_of_ble_eq_true rfl), (Nat.le_of_ble_eq_true rfl)⟩ ⟨(Nat.zero_le _), (Nat.zero_le _)⟩ dX0_favourite_19 ?_
    refine lv_istore (lv' := [(4, .int x6), (0, .ref t_q0), (1, .int s2.1), (2, .int s2.2.1), (3, .int s2.2.2)]) S.1 S.2.1 dX0_favourite_22 hl (by decide) rfl (fun ls hl => ?_)
    refine lv_iload S.1 S.2.1 dX0_favourite_24 (lv_at hl 0 rfl) ?_
    refine lv_iload_n S.1 S.2.1 dX0_favourite_26 rfl (lv_at hl 3 rfl) ?_
    refine lv_icmp_le (tgt := 35) S.1 S.2.1 dX0_favourite_27 (by decide) (fun c_ => ?_) (fun c_ => ?_)
    · have hf := it_p c_ hf
      refine q_iinc (w := 1) (lv' := [(3, .int (s2.2.2 + 1)), (4, .int x6), (0, .ref t_q0), (1, .int s2.1), (2, .int s2.2.1)]) S dX0_favourite_35 hl (k := 4) rfl ic_1 (by decide) rfl (fun ls hl => ?_)
      refine lv_goto (tgt := 6) S.1 S.2.1 dX0_favourite_38 (by decide) ?_
      exact hI3 _ (Option.some.inj hf).symm _ (lv_sub hl [2, 3, 4, 0] rfl)
    · have hf := it_n c_ hf
      refine lv_iload S.1 S.2.1 dX0_favourite_30 (lv_at hl 0 rfl) ?_
      refine lv_istore_n (lv' := [(2, .int x6), (4, .int x6), (0, .ref t_q0), (1, .int s2.1), (3, .int s2.2.2)]) S.1 S.2.1 dX0_favourite_32 rfl hl (by decide) rfl (fun ls hl => ?_)
      refine lv_iload_n S.1 S.2.1 dX0_favourite_33 rfl (lv_at hl 4 rfl) ?_
      refine lv_istore_n (lv' := [(1, .int s2.2.2), (2, .int x6), (4, .int x6), (0, .ref t_q0), (3, .int s2.2.2)]) S.1 S.2.1 dX0_favourite_34 rfl hl (by decide) rfl (fun ls hl => ?_)
      refine q_iinc (w := 1) (lv' := [(3, .int (s2.2.2 + 1)), (1, .int s2.2.2), (2, .int x6), (4, .int x6), (0, .ref t_q0)]) S dX0_favourite_35 hl (k := 4) rfl ic_1 (by decide) rfl (fun ls hl => ?_)
      refine lv_goto (tgt := 6) S.1 S.2.1 dX0_favourite_38 (by decide) ?_
      exact hI3 _ (Option.some.inj hf).symm _ (lv_sub hl [4, 1, 2, 0] rfl)
def f_X0_tellOfTown (fu : Nat) (t_people : Int32) (t_wit : (Nat → Int32)) (t_purse : (Nat → Int32)) (t_owed : (Nat → Int32)) (p2 : Int32) : Option (Int32) := if p2 = 0 then bnd (α := Int32) (f_X0_mutual fu t_people t_owed) (fun x1 => some x1) else if p2 = 1 then bnd (α := Int32) (f_X0_shortestRing fu t_people t_owed) (fun x2 => some x2) else if p2 = 2 then bnd (α := Int32) (f_X0_richest fu t_people t_purse t_owed) (fun x3 => some x3) else if p2 = 3 then bnd (α := Int32) (f_X0_twins fu t_people t_wit t_purse) (fun x4 => some x4) else if p2 = 4 then bnd (α := Int32) (f_X0_favourite fu t_people t_owed) (fun x5 => some x5) else some (-2 : Int32)
set_option maxHeartbeats 4000000 in
set_option maxRecDepth 100000 in
theorem c_X0_tellOfTown {l : Launch} {D : va_G} {g : Nat → ClassId} {fu : Nat} {t_q0 t_q1 t_q2 t_q3 t_q4 : Nat} {t_people : Int32} {t_wit : (Nat → Int32)} {t_purse : (Nat → Int32)} {t_hated : (Nat → Int32)} {t_owed : (Nat → Int32)} {p2 : Int32} {r : Int32} (hf : f_X0_tellOfTown fu t_people t_wit t_purse t_owed p2 = some r) : Rd l D (gy g) yX0_tellOfTown cX0_tellOfTown 2 (some .int) 5 [.ref t_q0, .int p2] (wTw g t_q0 t_q1 t_q2 t_q3 t_q4 t_people t_wit t_purse t_hated t_owed) (some (.int r)) := by
  refine Rd.ofI (by decide) (Nat.le_of_ble_eq_true rfl) ?_
  intro p e s m args below meth c Q S hK hP hret ls hl
  have hl : lv_has ls 2 [(0, .ref t_q0), (1, .int p2)] := hl
  refine lv_iload_n S.1 S.2.1 dX0_tellOfTown_0 rfl (lv_at hl 1 rfl) ?_
  by_cases c_0 : p2 = 0
  · have hf := it_p c_0 hf
    refine lv_tableIn (tgt := 36) (off := 35) S.1 S.2.1 dX0_tellOfTown_1 (by rw [c_0]; decide) (by rw [c_0]; decide) (by rw [c_0]; decide) (by decide) ?_
    refine lv_aload_n S.1 S.2.1 dX0_tellOfTown_36 rfl (lv_at hl 0 rfl) ?_
    obtain ⟨x1, hx1, hf⟩ := bnd_e hf
    refine Rd.cS (c_X0_mutual hx1) S hK hP kSX0_48 rfl hl.1 [] rfl (Nat.le_of_ble_eq_true rfl) ⟨(Nat.le_of_ble_eq_true rfl), (Nat.le_of_ble_eq_true rfl)⟩ ⟨(Nat.zero_le _), (Nat.zero_le _)⟩ dX0_tellOfTown_37 ?_
    have e_ := Option.some.inj hf
    subst e_
    exact hret _ _ dX0_tellOfTown_40
  have hf := it_n c_0 hf
  by_cases c_1 : p2 = 1
  · have hf := it_p c_1 hf
    refine lv_tableIn (tgt := 41) (off := 40) S.1 S.2.1 dX0_tellOfTown_1 (by rw [c_1]; decide) (by rw [c_1]; decide) (by rw [c_1]; decide) (by decide) ?_
    refine lv_aload_n S.1 S.2.1 dX0_tellOfTown_41 rfl (lv_at hl 0 rfl) ?_
    obtain ⟨x2, hx2, hf⟩ := bnd_e hf
    refine Rd.cS (c_X0_shortestRing hx2) S hK hP kSX0_52 rfl hl.1 [] rfl (Nat.le_of_ble_eq_true rfl) ⟨(Nat.le_of_ble_eq_true rfl), (Nat.le_of_ble_eq_true rfl)⟩ ⟨(Nat.zero_le _), (Nat.zero_le _)⟩ dX0_tellOfTown_42 ?_
    have e_ := Option.some.inj hf
    subst e_
    exact hret _ _ dX0_tellOfTown_45
  have hf := it_n c_1 hf
  by_cases c_2 : p2 = 2
  · have hf := it_p c_2 hf
    refine lv_tableIn (tgt := 46) (off := 45) S.1 S.2.1 dX0_tellOfTown_1 (by rw [c_2]; decide) (by rw [c_2]; decide) (by rw [c_2]; decide) (by decide) ?_
    refine lv_aload_n S.1 S.2.1 dX0_tellOfTown_46 rfl (lv_at hl 0 rfl) ?_
    obtain ⟨x3, hx3, hf⟩ := bnd_e hf
    refine Rd.cS (c_X0_richest hx3) S hK hP kSX0_55 rfl hl.1 [] rfl (Nat.le_of_ble_eq_true rfl) ⟨(Nat.le_of_ble_eq_true rfl), (Nat.le_of_ble_eq_true rfl)⟩ ⟨(Nat.zero_le _), (Nat.zero_le _)⟩ dX0_tellOfTown_47 ?_
    have e_ := Option.some.inj hf
    subst e_
    exact hret _ _ dX0_tellOfTown_50
  have hf := it_n c_2 hf
  by_cases c_3 : p2 = 3
  · have hf := it_p c_3 hf
    refine lv_tableIn (tgt := 51) (off := 50) S.1 S.2.1 dX0_tellOfTown_1 (by rw [c_3]; decide) (by rw [c_3]; decide) (by rw [c_3]; decide) (by decide) ?_
    refine lv_aload_n S.1 S.2.1 dX0_tellOfTown_51 rfl (lv_at hl 0 rfl) ?_
    obtain ⟨x4, hx4, hf⟩ := bnd_e hf
    refine Rd.cS (c_X0_twins hx4) S hK hP kSX0_58 rfl hl.1 [] rfl (Nat.le_of_ble_eq_true rfl) ⟨(Nat.le_of_ble_eq_true rfl), (Nat.le_of_ble_eq_true rfl)⟩ ⟨(Nat.zero_le _), (Nat.zero_le _)⟩ dX0_tellOfTown_52 ?_
    have e_ := Option.some.inj hf
    subst e_
    exact hret _ _ dX0_tellOfTown_55
  have hf := it_n c_3 hf
  by_cases c_4 : p2 = 4
  · have hf := it_p c_4 hf
    refine lv_tableIn (tgt := 56) (off := 55) S.1 S.2.1 dX0_tellOfTown_1 (by rw [c_4]; decide) (by rw [c_4]; decide) (by rw [c_4]; decide) (by decide) ?_
    refine lv_aload_n S.1 S.2.1 dX0_tellOfTown_56 rfl (lv_at hl 0 rfl) ?_
    obtain ⟨x5, hx5, hf⟩ := bnd_e hf
    refine Rd.cS (c_X0_favourite hx5) S hK hP kSX0_61 rfl hl.1 [] rfl (Nat.le_of_ble_eq_true rfl) ⟨(Nat.le_of_ble_eq_true rfl), (Nat.le_of_ble_eq_true rfl)⟩ ⟨(Nat.zero_le _), (Nat.zero_le _)⟩ dX0_tellOfTown_57 ?_
    have e_ := Option.some.inj hf
    subst e_
    exact hret _ _ dX0_tellOfTown_60
  have hf := it_n c_4 hf
  refine lv_tableOut (tgt := 61) S.1 S.2.1 dX0_tellOfTown_1 (by have n_0 := lv_neT c_0 (a := 0) (by decide); have n_1 := lv_neT c_1 (a := 1) (by decide); have n_2 := lv_neT c_2 (a := 2) (by decide); have n_3 := lv_neT c_3 (a := 3) (by decide); have n_4 := lv_neT c_4 (a := 4) (by decide); omega) (by decide) ?_
  refine lv_bipush (v := (-2)) S.1 S.2.1 dX0_tellOfTown_61 bp_m2 ?_
  have e_ := Option.some.inj hf
  subst e_
  exact hret _ _ dX0_tellOfTown_63
