def f_X7_add (fu : Nat) (o_size : Int32) (o_found : (Nat → Int32)) (p1 : Int32) : Option (Int32 × (Nat → Int32)) := if (186 : Int32) ≤ o_size then some (o_size, o_found) else bnd (α := (Nat → Int32)) (wri 186 o_found o_size p1) (fun x1 => ltn (o_size + (1 : Int32)) (fun x2 => some (x2, x1)))
set_option maxHeartbeats 4000000 in
set_option maxRecDepth 100000 in
theorem c_X7_add {l : Launch} {D : va_G} {g : Nat → ClassId} {fu : Nat} {o_q0 o_q1 : Nat} {o_size : Int32} {o_people : Int32} {o_found : (Nat → Int32)} {p1 : Int32} {r : Int32 × (Nat → Int32)} (hf : f_X7_add fu o_size o_found p1 = some r) : Wr l D (gy g) yX7_add cX7_add 2 none 0 [.ref o_q0, .int p1] (wSu g o_q0 o_q1 o_size o_people o_found) (wSu g o_q0 o_q1 r.1 o_people r.2) none := by
  refine Wr.ofV (by decide) (Nat.le_of_ble_eq_true rfl) ?_
  intro p e s m args below meth c Q A S hK hA hret ls hl hW
  have hl : lv_has ls 2 [(0, .ref o_q0), (1, .int p1)] := hl
  refine lv_aload_n S.1 S.2.1 dX7_add_0 rfl (lv_at hl 0 rfl) ?_
  refine gfX7_9 S hK hW.1 0 rfl rfl dX7_add_1 ?_
  refine lv_aload_n S.1 S.2.1 dX7_add_4 rfl (lv_at hl 0 rfl) ?_
  refine gfX7_18 S hK hW.1 0 rfl rfl dX7_add_5 ?_
  refine q_alen S hK hW.1 1 0 rfl rfl (v := (186 : Int32)) rfl dX7_add_8 ?_
  refine lv_icmp_ge (tgt := 32) S.1 S.2.1 dX7_add_9 (by decide) (fun c_ => ?_) (fun c_ => ?_)
  · have hf := it_p c_ hf
    have e_ := Option.some.inj hf
    subst e_
    exact hret _ _ _ _ dX7_add_32 hW
  · have hf := it_n c_ hf
    refine lv_aload_n S.1 S.2.1 dX7_add_12 rfl (lv_at hl 0 rfl) ?_
    refine gfX7_18 S hK hW.1 0 rfl rfl dX7_add_13 ?_
    refine lv_aload_n S.1 S.2.1 dX7_add_16 rfl (lv_at hl 0 rfl) ?_
    refine gfX7_9 S hK hW.1 0 rfl rfl dX7_add_17 ?_
    refine lv_iload_n S.1 S.2.1 dX7_add_20 rfl (lv_at hl 1 rfl) ?_
    obtain ⟨x1, hx1, hf⟩ := bnd_e hf
    refine q_iast (ws2 := (wSu g o_q0 o_q1 o_size o_people x1)) S hK hW 1 0 rfl rfl hx1 rfl dX7_add_21 (fun H locs hW => ?_)
    refine lv_aload_n S.1 S.2.1 dX7_add_22 rfl (lv_at hl 0 rfl) ?_
    refine lv_dup S.1 S.2.1 dX7_add_23 rfl ?_
    refine gfX7_9 S hK hW.1 0 rfl rfl dX7_add_24 ?_
    refine lv_iconst (v := 1) S.1 S.2.1 dX7_add_27 ic_1 ?_
    refine lv_iadd S.1 S.2.1 dX7_add_28 ?_
    refine lv_topi (fun x2 ex2 => ?_)
    have hf := ltn_e hf ex2
    refine pfX7_9 (ws2 := (wSu g o_q0 o_q1 x2 o_people x1)) S hK hW 0 rfl rfl rfl (Nat.le_of_ble_eq_true rfl) rfl dX7_add_29 (fun H locs hW => ?_)
    have e_ := Option.some.inj hf
    subst e_
    exact hret _ _ _ _ dX7_add_32 hW
def f_X7_find_L46 (fu : Nat) (t_people : Int32) (t_hated : (Nat → Int32)) (l_facts : Int32) (l_cells : (Nat → Int32)) (s3 : Int32 × Int32 × (Nat → Int32)) (s7 : Int32 × Int32 × (Nat → Int32)) : Option ((Int32 × Int32 × (Nat → Int32)) ⊕ (Int32 × (Nat → Int32))) := if (jshl (1 : Int32) t_people) ≤ s7.1 then some (.inr (s7.2.1, s7.2.2)) else if ((jshr s7.1 s3.1) &&& (1 : Int32)) = 0 then bnd (α := Int32) (f_X2_agrees fu l_facts l_cells (s7.1 ||| (jshl (1 : Int32) s3.1))) (fun x10 => if x10 = 0 then some (.inl ((s7.1 + 1), s7.2.1, s7.2.2)) else bnd (α := Int32) (f_X9_noneHate fu t_people t_hated s7.1) (fun x11 => if x11 = 0 then some (.inl ((s7.1 + 1), s7.2.1, s7.2.2)) else bnd (α := Int32 × (Nat → Int32)) (f_X7_add fu s7.2.1 s7.2.2 (((100 : Int32) * s3.1) + s7.1)) (fun x12 => some (.inl ((s7.1 + 1), x12.1, x12.2))))) else some (.inl ((s7.1 + 1), s7.2.1, s7.2.2))
def f_X7_find_L35 (fu : Nat) (t_people : Int32) (t_hated : (Nat → Int32)) (l_facts : Int32) (l_cells : (Nat → Int32)) (s3 : Int32 × Int32 × (Nat → Int32)) : Option ((Int32 × Int32 × (Nat → Int32)) ⊕ (Int32 × (Nat → Int32))) := if t_people ≤ s3.1 then some (.inr (s3.2.1, s3.2.2)) else bnd (α := Int32 × (Nat → Int32)) (lp (f_X7_find_L46 fu t_people t_hated l_facts l_cells s3) fu ((1 : Int32), s3.2.1, s3.2.2)) (fun v13 => some (.inl ((s3.1 + 1), v13.1, v13.2)))
def f_X7_find (fu : Nat) (o_size : Int32) (o_people : Int32) (o_found : (Nat → Int32)) (t_people : Int32) (t_hated : (Nat → Int32)) (l_facts : Int32) (l_cells : (Nat → Int32)) : Option (Int32 × Int32 × Int32 × (Nat → Int32)) := bnd (α := Int32) (f_X2_isOf fu l_facts l_cells t_people) (fun x1 => if x1 = 0 then some ((1 : Int32), (0 : Int32), t_people, o_found) else bnd (α := Int32 × (Nat → Int32)) (lp (f_X7_find_L35 fu t_people t_hated l_facts l_cells) fu ((0 : Int32), (0 : Int32), o_found)) (fun v14 => some ((1 : Int32), v14.1, t_people, v14.2)))
set_option maxHeartbeats 4000000 in
set_option maxRecDepth 100000 in
theorem c_X7_find {l : Launch} {D : va_G} {g : Nat → ClassId} {fu : Nat} {o_q0 o_q1 t_q0 t_q1 t_q2 t_q3 t_q4 l_q0 l_q1 : Nat} {o_size : Int32} {o_people : Int32} {o_found : (Nat → Int32)} {t_people : Int32} {t_wit : (Nat → Int32)} {t_purse : (Nat → Int32)} {t_hated : (Nat → Int32)} {t_owed : (Nat → Int32)} {l_facts : Int32} {l_cells : (Nat → Int32)} {r : Int32 × Int32 × Int32 × (Nat → Int32)} (hf : f_X7_find fu o_size o_people o_found t_people t_hated l_facts l_cells = some r) : Wr l D (gy g) yX7_find cX7_find 5 (some .boolean) 2 [.ref o_q0, .ref t_q0, .ref l_q0] (wSu g o_q0 o_q1 o_size o_people o_found ++ (wTw g t_q0 t_q1 t_q2 t_q3 t_q4 t_people t_wit t_purse t_hated t_owed ++ wLo g l_q0 l_q1 l_facts l_cells)) (wSu g o_q0 o_q1 r.2.1 r.2.2.1 r.2.2.2 ++ (wTw g t_q0 t_q1 t_q2 t_q3 t_q4 t_people t_wit t_purse t_hated t_owed ++ wLo g l_q0 l_q1 l_facts l_cells)) (some (.int r.1)) := by
  refine Wr.ofZ (by decide) (Nat.le_of_ble_eq_true rfl) ?_
  intro p e s m args below meth c Q A S hK hA hret ls hl hW
  have hl : lv_has ls 5 [(0, .ref o_q0), (1, .ref t_q0), (2, .ref l_q0)] := hl
  refine lv_aload_n S.1 S.2.1 dX7_find_0 rfl (lv_at hl 0 rfl) ?_
  refine lv_iconst (v := 0) S.1 S.2.1 dX7_find_1 ic_0 ?_
  refine pfX7_9 (ws2 := (wSu g o_q0 o_q1 (0 : Int32) o_people o_found ++ (wTw g t_q0 t_q1 t_q2 t_q3 t_q4 t_people t_wit t_purse t_hated t_owed ++ wLo g l_q0 l_q1 l_facts l_cells))) S hK hW 0 rfl rfl rfl (Nat.le_of_ble_eq_true rfl) rfl dX7_find_2 (fun H locs hW => ?_)
  refine lv_aload_n S.1 S.2.1 dX7_find_5 rfl (lv_at hl 1 rfl) ?_
  refine lv_ifnull S.1 S.2.1 dX7_find_6 ?_
  refine lv_aload_n S.1 S.2.1 dX7_find_9 rfl (lv_at hl 2 rfl) ?_
  refine lv_ifnonnull (tgt := 15) S.1 S.2.1 dX7_find_10 (by decide) ?_
  refine lv_aload_n S.1 S.2.1 dX7_find_15 rfl (lv_at hl 0 rfl) ?_
  refine lv_aload_n S.1 S.2.1 dX7_find_16 rfl (lv_at hl 1 rfl) ?_
  refine gfX7_22 S hK hW.1 2 rfl rfl dX7_find_17 ?_
  refine pfX7_15 (ws2 := (wSu g o_q0 o_q1 (0 : Int32) t_people o_found ++ (wTw g t_q0 t_q1 t_q2 t_q3 t_q4 t_people t_wit t_purse t_hated t_owed ++ wLo g l_q0 l_q1 l_facts l_cells))) S hK hW 0 rfl rfl rfl (Nat.le_of_ble_eq_true rfl) rfl dX7_find_20 (fun H locs hW => ?_)
  refine lv_aload_n S.1 S.2.1 dX7_find_23 rfl (lv_at hl 2 rfl) ?_
  refine lv_aload_n S.1 S.2.1 dX7_find_24 rfl (lv_at hl 1 rfl) ?_
  obtain ⟨x1, hx1, hf⟩ := bnd_e hf
  refine Rd.cV (c_X2_isOf hx1) S hK (hW.1.sub (ws' := (wLo g l_q0 l_q1 l_facts l_cells ++ wTw g t_q0 t_q1 t_q2 t_q3 t_q4 t_people t_wit t_purse t_hated t_owed)) [7, 8, 2, 3, 4, 5, 6] rfl) 0 1 rfl rfl kVX7_25 rfl hl.1 [] rfl (Nat.le_of_ble_eq_true rfl) ⟨(Nat.le_of_ble_eq_true rfl), (Nat.le_of_ble_eq_true rfl)⟩ ⟨(Nat.zero_le _), (Nat.zero_le _)⟩ dX7_find_25 ?_
  refine lv_if_ne (tgt := 33) S.1 S.2.1 dX7_find_28 (by decide) (fun c_ => ?_) (fun c_ => ?_)
  · have hf := it_n c_ hf
    refine lv_iconst (v := 0) S.1 S.2.1 dX7_find_33 ic_0 ?_
    refine lv_istore_n (lv' := [(3, .int (0 : Int32)), (0, .ref o_q0), (1, .ref t_q0), (2, .ref l_q0)]) S.1 S.2.1 dX7_find_34 rfl hl (by decide) rfl (fun ls hl => ?_)
    obtain ⟨x4, hf_, hk4⟩ := bnd_e hf
    have hE4 : ∀ (v14 : Int32 × (Nat → Int32)), v14 = x4 → ∀ (ls : Array Slot) (H : Heap) (locs : List Loc), lv_has ls 5 [] → St A s.heap D (wSu g o_q0 o_q1 v14.1 t_people v14.2 ++ (wTw g t_q0 t_q1 t_q2 t_q3 t_q4 t_people t_wit t_purse t_hated t_owed ++ wLo g l_q0 l_q1 l_facts l_cells)) H locs → W p l e (rmD 2) s m args below meth c H locs 0 0 Q (F0 m 111 ls []) := by
      intro v14 e_ ls H locs hl hW
      subst e_
      have hf := hk4
      refine lv_iconst (v := 1) S.1 S.2.1 dX7_find_111 ic_1 ?_
      have e_ := Option.some.inj hf
      subst e_
      exact hret _ _ _ _ (Or.inr rfl) dX7_find_112 hW
    refine lp_ind (P := fun (s3 : Int32 × Int32 × (Nat → Int32)) => ∀ (ls : Array Slot) (H : Heap) (locs : List Loc), lv_has ls 5 [(0, .ref o_q0), (1, .ref t_q0), (2, .ref l_q0), (3, .int s3.1)] → St A s.heap D (wSu g o_q0 o_q1 s3.2.1 t_people s3.2.2 ++ (wTw g t_q0 t_q1 t_q2 t_q3 t_q4 t_people t_wit t_purse t_hated t_owed ++ wLo g l_q0 l_q1 l_facts l_cells)) H locs → W p l e (rmD 2) s m args below meth c H locs 0 0 Q (F0 m 35 ls [])) ?_ _ _ hf_ _ _ _ (lv_sub hl [1, 2, 3, 0] rfl) hW
    intro s3 x5 hf hI4 hR4 ls H locs hl hW
    refine lv_iload_n S.1 S.2.1 dX7_find_35 rfl (lv_at hl 3 rfl) ?_
    refine lv_aload_n S.1 S.2.1 dX7_find_36 rfl (lv_at hl 1 rfl) ?_
    refine gfX7_22 S hK hW.1 2 rfl rfl dX7_find_37 ?_
    refine lv_icmp_ge (tgt := 111) S.1 S.2.1 dX7_find_40 (by decide) (fun c_ => ?_) (fun c_ => ?_)
    · have hf := it_p c_ hf
      have e_ := hR4 _ (Option.some.inj hf).symm
      exact hE4 _ e_ _ _ _ (lv_sub hl [] rfl) hW
    · have hf := it_n c_ hf
      refine lv_iconst (v := 1) S.1 S.2.1 dX7_find_43 ic_1 ?_
      refine lv_istore (lv' := [(4, .int (1 : Int32)), (0, .ref o_q0), (1, .ref t_q0), (2, .ref l_q0), (3, .int s3.1)]) S.1 S.2.1 dX7_find_44 hl (by decide) rfl (fun ls hl => ?_)
      obtain ⟨x8, hf_, hk8⟩ := bnd_e hf
      have hE8 : ∀ (v13 : Int32 × (Nat → Int32)), v13 = x8 → ∀ (ls : Array Slot) (H : Heap) (locs : List Loc), lv_has ls 5 [(0, .ref o_q0), (1, .ref t_q0), (2, .ref l_q0), (3, .int s3.1)] → St A s.heap D (wSu g o_q0 o_q1 v13.1 t_people v13.2 ++ (wTw g t_q0 t_q1 t_q2 t_q3 t_q4 t_people t_wit t_purse t_hated t_owed ++ wLo g l_q0 l_q1 l_facts l_cells)) H locs → W p l e (rmD 2) s m args below meth c H locs 0 0 Q (F0 m 105 ls []) := by
        intro v13 e_ ls H locs hl hW
        subst e_
        have hf := hk8
        refine q_iinc (w := 1) (lv' := [(3, .int (s3.1 + 1)), (0, .ref o_q0), (1, .ref t_q0), (2, .ref l_q0)]) S dX7_find_105 hl (k := 3) rfl ic_1 (by decide) rfl (fun ls hl => ?_)
        refine lv_goto (tgt := 35) S.1 S.2.1 dX7_find_108 (by decide) ?_
        exact hI4 _ (Option.some.inj hf).symm _ _ _ (lv_sub hl [1, 2, 3, 0] rfl) hW
      refine lp_ind (P := fun (s7 : Int32 × Int32 × (Nat → Int32)) => ∀ (ls : Array Slot) (H : Heap) (locs : List Loc), lv_has ls 5 [(0, .ref o_q0), (1, .ref t_q0), (2, .ref l_q0), (3, .int s3.1), (4, .int s7.1)] → St A s.heap D (wSu g o_q0 o_q1 s7.2.1 t_people s7.2.2 ++ (wTw g t_q0 t_q1 t_q2 t_q3 t_q4 t_people t_wit t_purse t_hated t_owed ++ wLo g l_q0 l_q1 l_facts l_cells)) H locs → W p l e (rmD 2) s m args below meth c H locs 0 0 Q (F0 m 46 ls [])) ?_ _ _ hf_ _ _ _ (lv_sub hl [1, 2, 3, 4, 0] rfl) hW
      intro s7 x9 hf hI8 hR8 ls H locs hl hW
      refine lv_iload S.1 S.2.1 dX7_find_46 (lv_at hl 4 rfl) ?_
      refine lv_iconst (v := 1) S.1 S.2.1 dX7_find_48 ic_1 ?_
      refine lv_aload_n S.1 S.2.1 dX7_find_49 rfl (lv_at hl 1 rfl) ?_
      refine gfX7_22 S hK hW.1 2 rfl rfl dX7_find_50 ?_
      refine lv_ishl S.1 S.2.1 dX7_find_53 ?_
      refine lv_icmp_ge (tgt := 105) S.1 S.2.1 dX7_find_54 (by decide) (fun c_ => ?_) (fun c_ => ?_)
      · have hf := it_p c_ hf
        have e_ := hR8 _ (Option.some.inj hf).symm
        exact hE8 _ e_ _ _ _ (lv_sub hl [0, 1, 2, 3] rfl) hW
      · have hf := it_n c_ hf
        refine lv_iload S.1 S.2.1 dX7_find_57 (lv_at hl 4 rfl) ?_
        refine lv_iload_n S.1 S.2.1 dX7_find_59 rfl (lv_at hl 3 rfl) ?_
        refine lv_ishr S.1 S.2.1 dX7_find_60 ?_
        refine lv_iconst (v := 1) S.1 S.2.1 dX7_find_61 ic_1 ?_
        refine lv_iand S.1 S.2.1 dX7_find_62 ?_
        refine lv_if_ne (tgt := 99) S.1 S.2.1 dX7_find_63 (by decide) (fun c_ => ?_) (fun c_ => ?_)
        · have hf := it_n c_ hf
          refine q_iinc (w := 1) (lv' := [(4, .int (s7.1 + 1)), (0, .ref o_q0), (1, .ref t_q0), (2, .ref l_q0), (3, .int s3.1)]) S dX7_find_99 hl (k := 4) rfl ic_1 (by decide) rfl (fun ls hl => ?_)
          refine lv_goto (tgt := 46) S.1 S.2.1 dX7_find_102 (by decide) ?_
          exact hI8 _ (Option.some.inj hf).symm _ _ _ (lv_sub hl [1, 2, 3, 4, 0] rfl) hW
        · have hf := it_p c_ hf
          refine lv_aload_n S.1 S.2.1 dX7_find_66 rfl (lv_at hl 2 rfl) ?_
          refine lv_iload S.1 S.2.1 dX7_find_67 (lv_at hl 4 rfl) ?_
          refine lv_iconst (v := 1) S.1 S.2.1 dX7_find_69 ic_1 ?_
          refine lv_iload_n S.1 S.2.1 dX7_find_70 rfl (lv_at hl 3 rfl) ?_
          refine lv_ishl S.1 S.2.1 dX7_find_71 ?_
          refine lv_ior S.1 S.2.1 dX7_find_72 ?_
          obtain ⟨x10, hx10, hf⟩ := bnd_e hf
          refine Rd.cV (c_X2_agrees hx10) S hK (hW.1.sub (ws' := (wLo g l_q0 l_q1 l_facts l_cells)) [7, 8] rfl) 0 1 rfl rfl kVX7_31 rfl hl.1 [] rfl (Nat.le_of_ble_eq_true rfl) ⟨(Nat.le_of_ble_eq_true rfl), (Nat.le_of_ble_eq_true rfl)⟩ ⟨(Nat.zero_le _), (Nat.zero_le _)⟩ dX7_find_73 ?_
          refine lv_if_eq (tgt := 99) S.1 S.2.1 dX7_find_76 (by decide) (fun c_ => ?_) (fun c_ => ?_)
          · have hf := it_p c_ hf
            refine q_iinc (w := 1) (lv' := [(4, .int (s7.1 + 1)), (0, .ref o_q0), (1, .ref t_q0), (2, .ref l_q0), (3, .int s3.1)]) S dX7_find_99 hl (k := 4) rfl ic_1 (by decide) rfl (fun ls hl => ?_)
            refine lv_goto (tgt := 46) S.1 S.2.1 dX7_find_102 (by decide) ?_
            exact hI8 _ (Option.some.inj hf).symm _ _ _ (lv_sub hl [1, 2, 3, 4, 0] rfl) hW
          · have hf := it_n c_ hf
            refine lv_aload_n S.1 S.2.1 dX7_find_79 rfl (lv_at hl 1 rfl) ?_
            refine lv_iload S.1 S.2.1 dX7_find_80 (lv_at hl 4 rfl) ?_
            obtain ⟨x11, hx11, hf⟩ := bnd_e hf
            refine Rd.cV (c_X9_noneHate hx11) S hK (hW.1.sub (ws' := (wTw g t_q0 t_q1 t_q2 t_q3 t_q4 t_people t_wit t_purse t_hated t_owed)) [2, 3, 4, 5, 6] rfl) 0 7 rfl rfl kVX7_35 rfl hl.1 [] rfl (Nat.le_of_ble_eq_true rfl) ⟨(Nat.le_of_ble_eq_true rfl), (Nat.le_of_ble_eq_true rfl)⟩ ⟨(Nat.zero_le _), (Nat.zero_le _)⟩ dX7_find_82 ?_
            refine lv_if_eq (tgt := 99) S.1 S.2.1 dX7_find_85 (by decide) (fun c_ => ?_) (fun c_ => ?_)
            · have hf := it_p c_ hf
              refine q_iinc (w := 1) (lv' := [(4, .int (s7.1 + 1)), (0, .ref o_q0), (1, .ref t_q0), (2, .ref l_q0), (3, .int s3.1)]) S dX7_find_99 hl (k := 4) rfl ic_1 (by decide) rfl (fun ls hl => ?_)
              refine lv_goto (tgt := 46) S.1 S.2.1 dX7_find_102 (by decide) ?_
              exact hI8 _ (Option.some.inj hf).symm _ _ _ (lv_sub hl [1, 2, 3, 4, 0] rfl) hW
            · have hf := it_n c_ hf
              refine lv_aload_n S.1 S.2.1 dX7_find_88 rfl (lv_at hl 0 rfl) ?_
              refine lv_bipush (v := 100) S.1 S.2.1 dX7_find_89 bp_100 ?_
              refine lv_iload_n S.1 S.2.1 dX7_find_91 rfl (lv_at hl 3 rfl) ?_
              refine lv_imul S.1 S.2.1 dX7_find_92 ?_
              refine lv_iload S.1 S.2.1 dX7_find_93 (lv_at hl 4 rfl) ?_
              refine lv_iadd S.1 S.2.1 dX7_find_95 ?_
              obtain ⟨x12, hx12, hf⟩ := bnd_e hf
              refine Wr.go (ws2 := (wSu g o_q0 o_q1 x12.1 t_people x12.2 ++ (wTw g t_q0 t_q1 t_q2 t_q3 t_q4 t_people t_wit t_purse t_hated t_owed ++ wLo g l_q0 l_q1 l_facts l_cells))) (Wr.runV (c_X7_add hx12) S hK (hW.1.sub (ws' := (wSu g o_q0 o_q1 s7.2.1 t_people s7.2.2)) [0, 1] rfl) (hW.2.1.sub (ws' := (wSu g o_q0 o_q1 s7.2.1 t_people s7.2.2)) [0, 1] (by decide) rfl) 0 5 rfl rfl kVX7_38 rfl hl.1 [] rfl (Nat.le_of_ble_eq_true rfl) ⟨(Nat.le_of_ble_eq_true rfl), (Nat.le_of_ble_eq_true rfl)⟩ ⟨(Nat.zero_le _), (Nat.zero_le _)⟩ dX7_find_96) hW hA [0, 1] rfl [(true, 0), (true, 1), (false, 2), (false, 3), (false, 4), (false, 5), (false, 6), (false, 7), (false, 8)] rfl (by decide) rfl (fun H locs hW => ?_)
              refine q_iinc (w := 1) (lv' := [(4, .int (s7.1 + 1)), (0, .ref o_q0), (1, .ref t_q0), (2, .ref l_q0), (3, .int s3.1)]) S dX7_find_99 hl (k := 4) rfl ic_1 (by decide) rfl (fun ls hl => ?_)
              refine lv_goto (tgt := 46) S.1 S.2.1 dX7_find_102 (by decide) ?_
              exact hI8 _ (Option.some.inj hf).symm _ _ _ (lv_sub hl [1, 2, 3, 4, 0] rfl) hW
  · have hf := it_p c_ hf
    refine lv_iconst (v := 1) S.1 S.2.1 dX7_find_31 ic_1 ?_
    have e_ := Option.some.inj hf
    subst e_
    exact hret _ _ _ _ (Or.inr rfl) dX7_find_32 hW
def f_X7_together_L5 (o_size : Int32) (o_found : (Nat → Int32)) (p1 : Int32) (p2 : Int32) (s2 : Int32 × Int32) : Option ((Int32 × Int32) ⊕ (Int32)) := if o_size ≤ s2.2 then some (.inr s2.1) else bnd (α := Int32) (rdi 186 o_found s2.2) (fun x5 => bnd (α := Int32) (rdi 186 o_found s2.2) (fun x6 => ltn ((jrm x5 (100 : Int32)) ||| (jshl (1 : Int32) (x6 / (100 : Int32)))) (fun x7 => ltn (s2.1 + (((jshr x7 p1) &&& (jshr x7 p2)) &&& (1 : Int32))) (fun x8 => some (.inl (x8, (s2.2 + 1)))))))
def f_X7_together (fu : Nat) (o_size : Int32) (o_found : (Nat → Int32)) (p1 : Int32) (p2 : Int32) : Option (Int32) := bnd (α := Int32) (lp (f_X7_together_L5 o_size o_found p1 p2) fu ((0 : Int32), (0 : Int32))) (fun v9 => some v9)
set_option maxHeartbeats 4000000 in
set_option maxRecDepth 100000 in
theorem c_X7_together {l : Launch} {D : va_G} {g : Nat → ClassId} {fu : Nat} {o_q0 o_q1 : Nat} {o_size : Int32} {o_people : Int32} {o_found : (Nat → Int32)} {p1 : Int32} {p2 : Int32} {r : Int32} (hf : f_X7_together fu o_size o_found p1 p2 = some r) : Rd l D (gy g) yX7_together cX7_together 6 (some .int) 0 [.ref o_q0, .int p1, .int p2] (wSu g o_q0 o_q1 o_size o_people o_found) (some (.int r)) := by
  refine Rd.ofI (by decide) (Nat.le_of_ble_eq_true rfl) ?_
  intro p e s m args below meth c Q S hK hP hret ls hl
  have hl : lv_has ls 6 [(0, .ref o_q0), (1, .int p1), (2, .int p2)] := hl
  refine lv_iconst (v := 0) S.1 S.2.1 dX7_together_0 ic_0 ?_
  refine lv_istore_n (lv' := [(3, .int (0 : Int32)), (0, .ref o_q0), (1, .int p1), (2, .int p2)]) S.1 S.2.1 dX7_together_1 rfl hl (by decide) rfl (fun ls hl => ?_)
  refine lv_iconst (v := 0) S.1 S.2.1 dX7_together_2 ic_0 ?_
  refine lv_istore (lv' := [(4, .int (0 : Int32)), (3, .int (0 : Int32)), (0, .ref o_q0), (1, .int p1), (2, .int p2)]) S.1 S.2.1 dX7_together_3 hl (by decide) rfl (fun ls hl => ?_)
  obtain ⟨x3, hf_, hk3⟩ := bnd_e hf
  have hE3 : ∀ (v9 : Int32), v9 = x3 → ∀ (ls : Array Slot), lv_has ls 6 [(3, .int v9)] → W p l e (rmD 0) s m args below meth c s.heap [] 0 0 Q (F0 m 59 ls []) := by
    intro v9 e_ ls hl
    subst e_
    have hf := hk3
    refine lv_iload_n S.1 S.2.1 dX7_together_59 rfl (lv_at hl 0 rfl) ?_
    have e_ := Option.some.inj hf
    subst e_
    exact hret _ _ dX7_together_60
  refine lp_ind (P := fun (s2 : Int32 × Int32) => ∀ (ls : Array Slot), lv_has ls 6 [(0, .ref o_q0), (1, .int p1), (2, .int p2), (3, .int s2.1), (4, .int s2.2)] → W p l e (rmD 0) s m args below meth c s.heap [] 0 0 Q (F0 m 5 ls [])) ?_ _ _ hf_ _ (lv_sub hl [2, 3, 4, 1, 0] rfl)
  intro s2 x4 hf hI3 hR3 ls hl
  refine lv_iload S.1 S.2.1 dX7_together_5 (lv_at hl 4 rfl) ?_
  refine lv_aload_n S.1 S.2.1 dX7_together_7 rfl (lv_at hl 0 rfl) ?_
  refine gfX7_9 S hK hP 0 rfl rfl dX7_together_8 ?_
  refine lv_icmp_ge (tgt := 59) S.1 S.2.1 dX7_together_11 (by decide) (fun c_ => ?_) (fun c_ => ?_)
  · have hf := it_p c_ hf
    have e_ := hR3 _ (Option.some.inj hf).symm
    exact hE3 _ e_ _ (lv_sub hl [3] rfl)
  · have hf := it_n c_ hf
    refine lv_aload_n S.1 S.2.1 dX7_together_14 rfl (lv_at hl 0 rfl) ?_
    refine gfX7_18 S hK hP 0 rfl rfl dX7_together_15 ?_
    refine lv_iload S.1 S.2.1 dX7_together_18 (lv_at hl 4 rfl) ?_
    obtain ⟨x5, hx5, hf⟩ := bnd_e hf
    refine q_iald S hK hP 1 0 rfl rfl hx5 dX7_together_20 ?_
    refine lv_bipush (v := 100) S.1 S.2.1 dX7_together_21 bp_100 ?_
    refine lv_irem S.1 S.2.1 dX7_together_23 (by decide) ?_
    refine lv_iconst (v := 1) S.1 S.2.1 dX7_together_24 ic_1 ?_
    refine lv_aload_n S.1 S.2.1 dX7_together_25 rfl (lv_at hl 0 rfl) ?_
    refine gfX7_18 S hK hP 0 rfl rfl dX7_together_26 ?_
    refine lv_iload S.1 S.2.1 dX7_together_29 (lv_at hl 4 rfl) ?_
    obtain ⟨x6, hx6, hf⟩ := bnd_e hf
    refine q_iald S hK hP 1 0 rfl rfl hx6 dX7_together_31 ?_
    refine lv_bipush (v := 100) S.1 S.2.1 dX7_together_32 bp_100 ?_
    refine lv_idiv S.1 S.2.1 dX7_together_34 (by decide) ?_
    refine lv_ishl S.1 S.2.1 dX7_together_35 ?_
    refine lv_ior S.1 S.2.1 dX7_together_36 ?_
    refine lv_topi (fun x7 ex7 => ?_)
    have hf := ltn_e hf ex7
    refine lv_istore (lv' := [(5, .int x7), (0, .ref o_q0), (1, .int p1), (2, .int p2), (3, .int s2.1), (4, .int s2.2)]) S.1 S.2.1 dX7_together_37 hl (by decide) rfl (fun ls hl => ?_)
    refine lv_iload_n S.1 S.2.1 dX7_together_39 rfl (lv_at hl 4 rfl) ?_
    refine lv_iload S.1 S.2.1 dX7_together_40 (lv_at hl 0 rfl) ?_
    refine lv_iload_n S.1 S.2.1 dX7_together_42 rfl (lv_at hl 2 rfl) ?_
    refine lv_ishr S.1 S.2.1 dX7_together_43 ?_
    refine lv_iload S.1 S.2.1 dX7_together_44 (lv_at hl 0 rfl) ?_
    refine lv_iload_n S.1 S.2.1 dX7_together_46 rfl (lv_at hl 3 rfl) ?_
    refine lv_ishr S.1 S.2.1 dX7_together_47 ?_
    refine lv_iand S.1 S.2.1 dX7_together_48 ?_
    refine lv_iconst (v := 1) S.1 S.2.1 dX7_together_49 ic_1 ?_
    refine lv_iand S.1 S.2.1 dX7_together_50 ?_
    refine lv_iadd S.1 S.2.1 dX7_together_51 ?_
    refine lv_topi (fun x8 ex8 => ?_)
    have hf := ltn_e hf ex8
    refine lv_istore_n (lv' := [(3, .int x8), (5, .int x7), (0, .ref o_q0), (1, .int p1), (2, .int p2), (4, .int s2.2)]) S.1 S.2.1 dX7_together_52 rfl hl (by decide) rfl (fun ls hl => ?_)
    refine q_iinc (w := 1) (lv' := [(4, .int (s2.2 + 1)), (3, .int x8), (5, .int x7), (0, .ref o_q0), (1, .int p1), (2, .int p2)]) S dX7_together_53 hl (k := 5) rfl ic_1 (by decide) rfl (fun ls hl => ?_)
    refine lv_goto (tgt := 5) S.1 S.2.1 dX7_together_56 (by decide) ?_
    exact hI3 _ (Option.some.inj hf).symm _ (lv_sub hl [3, 4, 5, 1, 0] rfl)
def f_X7_sure (fu : Nat) (o_size : Int32) (o_found : (Nat → Int32)) : Option (Int32) := if o_size ≤ 0 then some (-1 : Int32) else bnd (α := Int32) (rdi 186 o_found (0 : Int32)) (fun x1 => bnd (α := Int32) (rdi 186 o_found (o_size - (1 : Int32))) (fun x2 => if (x1 / (100 : Int32)) = (x2 / (100 : Int32)) then bnd (α := Int32) (rdi 186 o_found (0 : Int32)) (fun x3 => some (x3 / (100 : Int32))) else some (-1 : Int32)))
set_option maxHeartbeats 4000000 in
set_option maxRecDepth 100000 in
theorem c_X7_sure {l : Launch} {D : va_G} {g : Nat → ClassId} {fu : Nat} {o_q0 o_q1 : Nat} {o_size : Int32} {o_people : Int32} {o_found : (Nat → Int32)} {r : Int32} (hf : f_X7_sure fu o_size o_found = some r) : Rd l D (gy g) yX7_sure cX7_sure 1 (some .int) 0 [.ref o_q0] (wSu g o_q0 o_q1 o_size o_people o_found) (some (.int r)) := by
  refine Rd.ofI (by decide) (Nat.le_of_ble_eq_true rfl) ?_
  intro p e s m args below meth c Q S hK hP hret ls hl
  have hl : lv_has ls 1 [(0, .ref o_q0)] := hl
  refine lv_aload_n S.1 S.2.1 dX7_sure_0 rfl (lv_at hl 0 rfl) ?_
  refine gfX7_9 S hK hP 0 rfl rfl dX7_sure_1 ?_
  refine lv_if_le (tgt := 45) S.1 S.2.1 dX7_sure_4 (by decide) (fun c_ => ?_) (fun c_ => ?_)
  · have hf := it_p c_ hf
    refine lv_iconst (v := (-1)) S.1 S.2.1 dX7_sure_45 ic_m1 ?_
    have e_ := Option.some.inj hf
    subst e_
    exact hret _ _ dX7_sure_46
  · have hf := it_n c_ hf
    refine lv_aload_n S.1 S.2.1 dX7_sure_7 rfl (lv_at hl 0 rfl) ?_
    refine gfX7_18 S hK hP 0 rfl rfl dX7_sure_8 ?_
    refine lv_iconst (v := 0) S.1 S.2.1 dX7_sure_11 ic_0 ?_
    obtain ⟨x1, hx1, hf⟩ := bnd_e hf
    refine q_iald S hK hP 1 0 rfl rfl hx1 dX7_sure_12 ?_
    refine lv_bipush (v := 100) S.1 S.2.1 dX7_sure_13 bp_100 ?_
    refine lv_idiv S.1 S.2.1 dX7_sure_15 (by decide) ?_
    refine lv_aload_n S.1 S.2.1 dX7_sure_16 rfl (lv_at hl 0 rfl) ?_
    refine gfX7_18 S hK hP 0 rfl rfl dX7_sure_17 ?_
    refine lv_aload_n S.1 S.2.1 dX7_sure_20 rfl (lv_at hl 0 rfl) ?_
    refine gfX7_9 S hK hP 0 rfl rfl dX7_sure_21 ?_
    refine lv_iconst (v := 1) S.1 S.2.1 dX7_sure_24 ic_1 ?_
    refine lv_isub S.1 S.2.1 dX7_sure_25 ?_
    obtain ⟨x2, hx2, hf⟩ := bnd_e hf
    refine q_iald S hK hP 1 0 rfl rfl hx2 dX7_sure_26 ?_
    refine lv_bipush (v := 100) S.1 S.2.1 dX7_sure_27 bp_100 ?_
    refine lv_idiv S.1 S.2.1 dX7_sure_29 (by decide) ?_
    refine lv_icmp_ne (tgt := 45) S.1 S.2.1 dX7_sure_30 (by decide) (fun c_ => ?_) (fun c_ => ?_)
    · have hf := it_n c_ hf
      refine lv_iconst (v := (-1)) S.1 S.2.1 dX7_sure_45 ic_m1 ?_
      have e_ := Option.some.inj hf
      subst e_
      exact hret _ _ dX7_sure_46
    · have hf := it_p c_ hf
      refine lv_aload_n S.1 S.2.1 dX7_sure_33 rfl (lv_at hl 0 rfl) ?_
      refine gfX7_18 S hK hP 0 rfl rfl dX7_sure_34 ?_
      refine lv_iconst (v := 0) S.1 S.2.1 dX7_sure_37 ic_0 ?_
      obtain ⟨x3, hx3, hf⟩ := bnd_e hf
      refine q_iald S hK hP 1 0 rfl rfl hx3 dX7_sure_38 ?_
      refine lv_bipush (v := 100) S.1 S.2.1 dX7_sure_39 bp_100 ?_
      refine lv_idiv S.1 S.2.1 dX7_sure_41 (by decide) ?_
      refine lv_goto (tgt := 46) S.1 S.2.1 dX7_sure_42 (by decide) ?_
      have e_ := Option.some.inj hf
      subst e_
      exact hret _ _ dX7_sure_46
def f_X7_watch_L31 (fu : Nat) (o_size : Int32) (o_people : Int32) (o_found : (Nat → Int32)) (s3 : Int32 × Int32 × Int32) (s8 : Int32 × Int32 × Int32) : Option ((Int32 × Int32 × Int32) ⊕ (Int32 × Int32)) := if o_people ≤ s8.2.2 then some (.inr (s8.1, s8.2.1)) else bnd (α := Int32) (f_X7_together fu o_size o_found s3.2.2 s8.2.2) (fun x11 => ltn (jmax x11 (o_size - x11)) (fun x12 => if s8.2.1 ≤ x12 then some (.inl (s8.1, s8.2.1, (s8.2.2 + 1))) else ltn (((10 : Int32) * s3.2.2) + s8.2.2) (fun x13 => some (.inl (x13, x12, (s8.2.2 + 1))))))
def f_X7_watch_L11 (fu : Nat) (o_size : Int32) (o_people : Int32) (o_found : (Nat → Int32)) (s3 : Int32 × Int32 × Int32) : Option ((Int32 × Int32 × Int32) ⊕ (Int32)) := if o_people ≤ s3.2.2 then some (.inr s3.1) else if o_size ≤ 0 then some (.inr s3.1) else ltn (s3.2.2 + (1 : Int32)) (fun x6 => bnd (α := Int32 × Int32) (lp (f_X7_watch_L31 fu o_size o_people o_found s3) fu (s3.1, s3.2.1, x6)) (fun v14 => some (.inl (v14.1, v14.2, (s3.2.2 + 1)))))
def f_X7_watch (fu : Nat) (o_size : Int32) (o_people : Int32) (o_found : (Nat → Int32)) : Option (Int32) := ltn (o_size + (1 : Int32)) (fun x1 => bnd (α := Int32) (lp (f_X7_watch_L11 fu o_size o_people o_found) fu ((-1 : Int32), x1, (0 : Int32))) (fun v15 => some v15))
set_option maxHeartbeats 4000000 in
set_option maxRecDepth 100000 in
theorem c_X7_watch {l : Launch} {D : va_G} {g : Nat → ClassId} {fu : Nat} {o_q0 o_q1 : Nat} {o_size : Int32} {o_people : Int32} {o_found : (Nat → Int32)} {r : Int32} (hf : f_X7_watch fu o_size o_people o_found = some r) : Rd l D (gy g) yX7_watch cX7_watch 7 (some .int) 1 [.ref o_q0] (wSu g o_q0 o_q1 o_size o_people o_found) (some (.int r)) := by
  refine Rd.ofI (by decide) (Nat.le_of_ble_eq_true rfl) ?_
  intro p e s m args below meth c Q S hK hP hret ls hl
  have hl : lv_has ls 7 [(0, .ref o_q0)] := hl
  refine lv_iconst (v := (-1)) S.1 S.2.1 dX7_watch_0 ic_m1 ?_
  refine lv_istore_n (lv' := [(1, .int (-1 : Int32)), (0, .ref o_q0)]) S.1 S.2.1 dX7_watch_1 rfl hl (by decide) rfl (fun ls hl => ?_)
  refine lv_aload_n S.1 S.2.1 dX7_watch_2 rfl (lv_at hl 1 rfl) ?_
  refine gfX7_9 S hK hP 0 rfl rfl dX7_watch_3 ?_
  refine lv_iconst (v := 1) S.1 S.2.1 dX7_watch_6 ic_1 ?_
  refine lv_iadd S.1 S.2.1 dX7_watch_7 ?_
  refine lv_topi (fun x1 ex1 => ?_)
  have hf := ltn_e hf ex1
  refine lv_istore_n (lv' := [(2, .int x1), (1, .int (-1 : Int32)), (0, .ref o_q0)]) S.1 S.2.1 dX7_watch_8 rfl hl (by decide) rfl (fun ls hl => ?_)
  refine lv_iconst (v := 0) S.1 S.2.1 dX7_watch_9 ic_0 ?_
  refine lv_istore_n (lv' := [(3, .int (0 : Int32)), (2, .int x1), (1, .int (-1 : Int32)), (0, .ref o_q0)]) S.1 S.2.1 dX7_watch_10 rfl hl (by decide) rfl (fun ls hl => ?_)
  obtain ⟨x4, hf_, hk4⟩ := bnd_e hf
  have hE4 : ∀ (v15 : Int32), v15 = x4 → ∀ (ls : Array Slot), lv_has ls 7 [(1, .int v15)] → W p l e (rmD 1) s m args below meth c s.heap [] 0 0 Q (F0 m 92 ls []) := by
    intro v15 e_ ls hl
    subst e_
    have hf := hk4
    refine lv_iload_n S.1 S.2.1 dX7_watch_92 rfl (lv_at hl 0 rfl) ?_
    have e_ := Option.some.inj hf
    subst e_
    exact hret _ _ dX7_watch_93
  refine lp_ind (P := fun (s3 : Int32 × Int32 × Int32) => ∀ (ls : Array Slot), lv_has ls 7 [(0, .ref o_q0), (1, .int s3.1), (2, .int s3.2.1), (3, .int s3.2.2)] → W p l e (rmD 1) s m args below meth c s.heap [] 0 0 Q (F0 m 11 ls [])) ?_ _ _ hf_ _ (lv_sub hl [3, 2, 1, 0] rfl)
  intro s3 x5 hf hI4 hR4 ls hl
  refine lv_iload_n S.1 S.2.1 dX7_watch_11 rfl (lv_at hl 3 rfl) ?_
  refine lv_aload_n S.1 S.2.1 dX7_watch_12 rfl (lv_at hl 0 rfl) ?_
  refine gfX7_15 S hK hP 0 rfl rfl dX7_watch_13 ?_
  refine lv_icmp_ge (tgt := 92) S.1 S.2.1 dX7_watch_16 (by decide) (fun c_ => ?_) (fun c_ => ?_)
  · have hf := it_p c_ hf
    have e_ := hR4 _ (Option.some.inj hf).symm
    exact hE4 _ e_ _ (lv_sub hl [1] rfl)
  · have hf := it_n c_ hf
    refine lv_aload_n S.1 S.2.1 dX7_watch_19 rfl (lv_at hl 0 rfl) ?_
    refine gfX7_9 S hK hP 0 rfl rfl dX7_watch_20 ?_
    refine lv_if_le (tgt := 92) S.1 S.2.1 dX7_watch_23 (by decide) (fun c_ => ?_) (fun c_ => ?_)
    · have hf := it_p c_ hf
      have e_ := hR4 _ (Option.some.inj hf).symm
      exact hE4 _ e_ _ (lv_sub hl [1] rfl)
    · have hf := it_n c_ hf
      refine lv_iload_n S.1 S.2.1 dX7_watch_26 rfl (lv_at hl 3 rfl) ?_
      refine lv_iconst (v := 1) S.1 S.2.1 dX7_watch_27 ic_1 ?_
      refine lv_iadd S.1 S.2.1 dX7_watch_28 ?_
      refine lv_topi (fun x6 ex6 => ?_)
      have hf := ltn_e hf ex6
      refine lv_istore (lv' := [(4, .int x6), (0, .ref o_q0), (1, .int s3.1), (2, .int s3.2.1), (3, .int s3.2.2)]) S.1 S.2.1 dX7_watch_29 hl (by decide) rfl (fun ls hl => ?_)
      obtain ⟨x9, hf_, hk9⟩ := bnd_e hf
      have hE9 : ∀ (v14 : Int32 × Int32), v14 = x9 → ∀ (ls : Array Slot), lv_has ls 7 [(0, .ref o_q0), (1, .int v14.1), (2, .int v14.2), (3, .int s3.2.2)] → W p l e (rmD 1) s m args below meth c s.heap [] 0 0 Q (F0 m 86 ls []) := by
        intro v14 e_ ls hl
        subst e_
        have hf := hk9
        refine q_iinc (w := 1) (lv' := [(3, .int (s3.2.2 + 1)), (0, .ref o_q0), (1, .int v14.1), (2, .int v14.2)]) S dX7_watch_86 hl (k := 3) rfl ic_1 (by decide) rfl (fun ls hl => ?_)
        refine lv_goto (tgt := 11) S.1 S.2.1 dX7_watch_89 (by decide) ?_
        exact hI4 _ (Option.some.inj hf).symm _ (lv_sub hl [1, 2, 3, 0] rfl)
      refine lp_ind (P := fun (s8 : Int32 × Int32 × Int32) => ∀ (ls : Array Slot), lv_has ls 7 [(0, .ref o_q0), (1, .int s8.1), (2, .int s8.2.1), (3, .int s3.2.2), (4, .int s8.2.2)] → W p l e (rmD 1) s m args below meth c s.heap [] 0 0 Q (F0 m 31 ls [])) ?_ _ _ hf_ _ (lv_sub hl [1, 2, 3, 4, 0] rfl)
      intro s8 x10 hf hI9 hR9 ls hl
      refine lv_iload S.1 S.2.1 dX7_watch_31 (lv_at hl 4 rfl) ?_
      refine lv_aload_n S.1 S.2.1 dX7_watch_33 rfl (lv_at hl 0 rfl) ?_
      refine gfX7_15 S hK hP 0 rfl rfl dX7_watch_34 ?_
      refine lv_icmp_ge (tgt := 86) S.1 S.2.1 dX7_watch_37 (by decide) (fun c_ => ?_) (fun c_ => ?_)
      · have hf := it_p c_ hf
        have e_ := hR9 _ (Option.some.inj hf).symm
        exact hE9 _ e_ _ (lv_sub hl [0, 1, 2, 3] rfl)
      · have hf := it_n c_ hf
        refine lv_aload_n S.1 S.2.1 dX7_watch_40 rfl (lv_at hl 0 rfl) ?_
        refine lv_iload_n S.1 S.2.1 dX7_watch_41 rfl (lv_at hl 3 rfl) ?_
        refine lv_iload S.1 S.2.1 dX7_watch_42 (lv_at hl 4 rfl) ?_
        obtain ⟨x11, hx11, hf⟩ := bnd_e hf
        refine Rd.cV (c_X7_together hx11) S hK hP 0 5 rfl rfl kVX7_49 rfl hl.1 [] rfl (Nat.le_of_ble_eq_true rfl) ⟨(Nat.le_of_ble_eq_true rfl), (Nat.le_of_ble_eq_true rfl)⟩ ⟨(Nat.zero_le _), (Nat.zero_le _)⟩ dX7_watch_44 ?_
        refine lv_istore (lv' := [(5, .int x11), (0, .ref o_q0), (1, .int s8.1), (2, .int s8.2.1), (3, .int s3.2.2), (4, .int s8.2.2)]) S.1 S.2.1 dX7_watch_47 hl (by decide) rfl (fun ls hl => ?_)
        refine lv_iload S.1 S.2.1 dX7_watch_49 (lv_at hl 0 rfl) ?_
        refine lv_aload_n S.1 S.2.1 dX7_watch_51 rfl (lv_at hl 1 rfl) ?_
        refine gfX7_9 S hK hP 0 rfl rfl dX7_watch_52 ?_
        refine lv_iload S.1 S.2.1 dX7_watch_55 (lv_at hl 0 rfl) ?_
        refine lv_isub S.1 S.2.1 dX7_watch_57 ?_
        refine va_mmax S.1 S.2.1 (S.2.2.1.trans hl.1.symm) S.2.2.2.1 (S.2.2.2.2 _ q_812) (S.2.2.2.2 _ q_658) (S.2.2.2.2 _ q_12) (S.2.2.2.2 _ q_659) (Nat.le_of_ble_eq_true rfl) (Nat.le_of_ble_eq_true rfl) (Nat.zero_le _) (Nat.zero_le _) dX7_watch_58 ?_
        refine lv_topi (fun x12 ex12 => ?_)
        have hf := ltn_e hf ex12
        refine lv_istore (lv' := [(6, .int x12), (5, .int x11), (0, .ref o_q0), (1, .int s8.1), (2, .int s8.2.1), (3, .int s3.2.2), (4, .int s8.2.2)]) S.1 S.2.1 dX7_watch_61 hl (by decide) rfl (fun ls hl => ?_)
        refine lv_iload S.1 S.2.1 dX7_watch_63 (lv_at hl 0 rfl) ?_
        refine lv_iload_n S.1 S.2.1 dX7_watch_65 rfl (lv_at hl 4 rfl) ?_
        refine lv_icmp_ge (tgt := 80) S.1 S.2.1 dX7_watch_66 (by decide) (fun c_ => ?_) (fun c_ => ?_)
        · have hf := it_p c_ hf
          refine q_iinc (w := 1) (lv' := [(4, .int (s8.2.2 + 1)), (6, .int x12), (5, .int x11), (0, .ref o_q0), (1, .int s8.1), (2, .int s8.2.1), (3, .int s3.2.2)]) S dX7_watch_80 hl (k := 6) rfl ic_1 (by decide) rfl (fun ls hl => ?_)
          refine lv_goto (tgt := 31) S.1 S.2.1 dX7_watch_83 (by decide) ?_
          exact hI9 _ (Option.some.inj hf).symm _ (lv_sub hl [3, 4, 5, 6, 0] rfl)
        · have hf := it_n c_ hf
          refine lv_iload S.1 S.2.1 dX7_watch_69 (lv_at hl 0 rfl) ?_
          refine lv_istore_n (lv' := [(2, .int x12), (6, .int x12), (5, .int x11), (0, .ref o_q0), (1, .int s8.1), (3, .int s3.2.2), (4, .int s8.2.2)]) S.1 S.2.1 dX7_watch_71 rfl hl (by decide) rfl (fun ls hl => ?_)
          refine lv_bipush (v := 10) S.1 S.2.1 dX7_watch_72 bp_10 ?_
          refine lv_iload_n S.1 S.2.1 dX7_watch_74 rfl (lv_at hl 5 rfl) ?_
          refine lv_imul S.1 S.2.1 dX7_watch_75 ?_
          refine lv_iload S.1 S.2.1 dX7_watch_76 (lv_at hl 6 rfl) ?_
          refine lv_iadd S.1 S.2.1 dX7_watch_78 ?_
          refine lv_topi (fun x13 ex13 => ?_)
          have hf := ltn_e hf ex13
          refine lv_istore_n (lv' := [(1, .int x13), (2, .int x12), (6, .int x12), (5, .int x11), (0, .ref o_q0), (3, .int s3.2.2), (4, .int s8.2.2)]) S.1 S.2.1 dX7_watch_79 rfl hl (by decide) rfl (fun ls hl => ?_)
          refine q_iinc (w := 1) (lv' := [(4, .int (s8.2.2 + 1)), (1, .int x13), (2, .int x12), (6, .int x12), (5, .int x11), (0, .ref o_q0), (3, .int s3.2.2)]) S dX7_watch_80 hl (k := 6) rfl ic_1 (by decide) rfl (fun ls hl => ?_)
          refine lv_goto (tgt := 31) S.1 S.2.1 dX7_watch_83 (by decide) ?_
          exact hI9 _ (Option.some.inj hf).symm _ (lv_sub hl [5, 1, 2, 6, 0] rfl)
def f_X7_tell (fu : Nat) (o_size : Int32) (o_people : Int32) (o_found : (Nat → Int32)) (p1 : Int32) : Option (Int32) := if p1 = 0 then some o_size else if p1 = (1 : Int32) then bnd (α := Int32) (f_X7_sure fu o_size o_found) (fun x1 => some x1) else if p1 = (2 : Int32) then bnd (α := Int32) (f_X7_watch fu o_size o_people o_found) (fun x2 => some x2) else if p1 < (10 : Int32) then some (-2 : Int32) else if o_size ≤ (p1 - (10 : Int32)) then some (-2 : Int32) else bnd (α := Int32) (rdi 186 o_found (p1 - (10 : Int32))) (fun x3 => some x3)
set_option maxHeartbeats 4000000 in
set_option maxRecDepth 100000 in
theorem c_X7_tell {l : Launch} {D : va_G} {g : Nat → ClassId} {fu : Nat} {o_q0 o_q1 : Nat} {o_size : Int32} {o_people : Int32} {o_found : (Nat → Int32)} {p1 : Int32} {r : Int32} (hf : f_X7_tell fu o_size o_people o_found p1 = some r) : Rd l D (gy g) yX7_tell cX7_tell 2 (some .int) 2 [.ref o_q0, .int p1] (wSu g o_q0 o_q1 o_size o_people o_found) (some (.int r)) := by
  refine Rd.ofI (by decide) (Nat.le_of_ble_eq_true rfl) ?_
  intro p e s m args below meth c Q S hK hP hret ls hl
  have hl : lv_has ls 2 [(0, .ref o_q0), (1, .int p1)] := hl
  refine lv_iload_n S.1 S.2.1 dX7_tell_0 rfl (lv_at hl 1 rfl) ?_
  refine lv_if_ne (tgt := 9) S.1 S.2.1 dX7_tell_1 (by decide) (fun c_ => ?_) (fun c_ => ?_)
  · have hf := it_n c_ hf
    refine lv_iload_n S.1 S.2.1 dX7_tell_9 rfl (lv_at hl 1 rfl) ?_
    refine lv_iconst (v := 1) S.1 S.2.1 dX7_tell_10 ic_1 ?_
    refine lv_icmp_ne (tgt := 19) S.1 S.2.1 dX7_tell_11 (by decide) (fun c_ => ?_) (fun c_ => ?_)
    · have hf := it_n c_ hf
      refine lv_iload_n S.1 S.2.1 dX7_tell_19 rfl (lv_at hl 1 rfl) ?_
      refine lv_iconst (v := 2) S.1 S.2.1 dX7_tell_20 ic_2 ?_
      refine lv_icmp_ne (tgt := 29) S.1 S.2.1 dX7_tell_21 (by decide) (fun c_ => ?_) (fun c_ => ?_)
      · have hf := it_n c_ hf
        refine lv_iload_n S.1 S.2.1 dX7_tell_29 rfl (lv_at hl 1 rfl) ?_
        refine lv_bipush (v := 10) S.1 S.2.1 dX7_tell_30 bp_10 ?_
        refine lv_icmp_lt (tgt := 58) S.1 S.2.1 dX7_tell_32 (by decide) (fun c_ => ?_) (fun c_ => ?_)
        · have hf := it_p c_ hf
          refine lv_bipush (v := (-2)) S.1 S.2.1 dX7_tell_58 bp_m2 ?_
          have e_ := Option.some.inj hf
          subst e_
          exact hret _ _ dX7_tell_60
        · have hf := it_n c_ hf
          refine lv_iload_n S.1 S.2.1 dX7_tell_35 rfl (lv_at hl 1 rfl) ?_
          refine lv_bipush (v := 10) S.1 S.2.1 dX7_tell_36 bp_10 ?_
          refine lv_isub S.1 S.2.1 dX7_tell_38 ?_
          refine lv_aload_n S.1 S.2.1 dX7_tell_39 rfl (lv_at hl 0 rfl) ?_
          refine gfX7_9 S hK hP 0 rfl rfl dX7_tell_40 ?_
          refine lv_icmp_ge (tgt := 58) S.1 S.2.1 dX7_tell_43 (by decide) (fun c_ => ?_) (fun c_ => ?_)
          · have hf := it_p c_ hf
            refine lv_bipush (v := (-2)) S.1 S.2.1 dX7_tell_58 bp_m2 ?_
            have e_ := Option.some.inj hf
            subst e_
            exact hret _ _ dX7_tell_60
          · have hf := it_n c_ hf
            refine lv_aload_n S.1 S.2.1 dX7_tell_46 rfl (lv_at hl 0 rfl) ?_
            refine gfX7_18 S hK hP 0 rfl rfl dX7_tell_47 ?_
            refine lv_iload_n S.1 S.2.1 dX7_tell_50 rfl (lv_at hl 1 rfl) ?_
            refine lv_bipush (v := 10) S.1 S.2.1 dX7_tell_51 bp_10 ?_
            refine lv_isub S.1 S.2.1 dX7_tell_53 ?_
            obtain ⟨x3, hx3, hf⟩ := bnd_e hf
            refine q_iald S hK hP 1 0 rfl rfl hx3 dX7_tell_54 ?_
            refine lv_goto (tgt := 60) S.1 S.2.1 dX7_tell_55 (by decide) ?_
            have e_ := Option.some.inj hf
            subst e_
            exact hret _ _ dX7_tell_60
      · have hf := it_p c_ hf
        refine lv_aload_n S.1 S.2.1 dX7_tell_24 rfl (lv_at hl 0 rfl) ?_
        obtain ⟨x2, hx2, hf⟩ := bnd_e hf
        refine Rd.cV (c_X7_watch hx2) S hK hP 0 5 rfl rfl kVX7_46 rfl hl.1 [] rfl (Nat.le_of_ble_eq_true rfl) ⟨(Nat.le_of_ble_eq_true rfl), (Nat.le_of_ble_eq_true rfl)⟩ ⟨(Nat.zero_le _), (Nat.zero_le _)⟩ dX7_tell_25 ?_
        have e_ := Option.some.inj hf
        subst e_
        exact hret _ _ dX7_tell_28
    · have hf := it_p c_ hf
      refine lv_aload_n S.1 S.2.1 dX7_tell_14 rfl (lv_at hl 0 rfl) ?_
      obtain ⟨x1, hx1, hf⟩ := bnd_e hf
      refine Rd.cV (c_X7_sure hx1) S hK hP 0 5 rfl rfl kVX7_42 rfl hl.1 [] rfl (Nat.le_of_ble_eq_true rfl) ⟨(Nat.le_of_ble_eq_true rfl), (Nat.le_of_ble_eq_true rfl)⟩ ⟨(Nat.zero_le _), (Nat.zero_le _)⟩ dX7_tell_15 ?_
      have e_ := Option.some.inj hf
      subst e_
      exact hret _ _ dX7_tell_18
  · have hf := it_p c_ hf
    refine lv_aload_n S.1 S.2.1 dX7_tell_4 rfl (lv_at hl 0 rfl) ?_
    refine gfX7_9 S hK hP 0 rfl rfl dX7_tell_5 ?_
    have e_ := Option.some.inj hf
    subst e_
    exact hret _ _ dX7_tell_8
def f_X7_company_L4 (fu : Nat) (o_size : Int32) (o_found : (Nat → Int32)) (p1 : Int32) (s2 : Int32 × Int32) : Option ((Int32 × Int32) ⊕ (Int32)) := if o_size ≤ s2.2 then some (.inr s2.1) else bnd (α := Int32) (rdi 186 o_found s2.2) (fun x5 => bnd (α := Int32) (f_J6_bitCount_0f7a4 fu (jrm x5 (100 : Int32))) (fun x6 => if s2.1 = (-1 : Int32) then some (.inl (x6, (s2.2 + 1))) else if p1 = 0 then if s2.1 ≤ x6 then some (.inl (s2.1, (s2.2 + 1))) else some (.inl (x6, (s2.2 + 1))) else if x6 ≤ s2.1 then some (.inl (s2.1, (s2.2 + 1))) else some (.inl (x6, (s2.2 + 1)))))
def f_X7_company (fu : Nat) (o_size : Int32) (o_found : (Nat → Int32)) (p1 : Int32) : Option (Int32) := bnd (α := Int32) (lp (f_X7_company_L4 fu o_size o_found p1) fu ((-1 : Int32), (0 : Int32))) (fun v7 => some v7)
set_option maxHeartbeats 4000000 in
set_option maxRecDepth 100000 in
theorem c_X7_company {l : Launch} {D : va_G} {g : Nat → ClassId} {fu : Nat} {o_q0 o_q1 : Nat} {o_size : Int32} {o_people : Int32} {o_found : (Nat → Int32)} {p1 : Int32} {r : Int32} (hf : f_X7_company fu o_size o_found p1 = some r) : Rd l D (gy g) yX7_company cX7_company 5 (some .int) 1 [.ref o_q0, .int p1] (wSu g o_q0 o_q1 o_size o_people o_found) (some (.int r)) := by
  refine Rd.ofI (by decide) (Nat.le_of_ble_eq_true rfl) ?_
  intro p e s m args below meth c Q S hK hP hret ls hl
  have hl : lv_has ls 5 [(0, .ref o_q0), (1, .int p1)] := hl
  refine lv_iconst (v := (-1)) S.1 S.2.1 dX7_company_0 ic_m1 ?_
  refine lv_istore_n (lv' := [(2, .int (-1 : Int32)), (0, .ref o_q0), (1, .int p1)]) S.1 S.2.1 dX7_company_1 rfl hl (by decide) rfl (fun ls hl => ?_)
  refine lv_iconst (v := 0) S.1 S.2.1 dX7_company_2 ic_0 ?_
  refine lv_istore_n (lv' := [(3, .int (0 : Int32)), (2, .int (-1 : Int32)), (0, .ref o_q0), (1, .int p1)]) S.1 S.2.1 dX7_company_3 rfl hl (by decide) rfl (fun ls hl => ?_)
  obtain ⟨x3, hf_, hk3⟩ := bnd_e hf
  have hE3 : ∀ (v7 : Int32), v7 = x3 → ∀ (ls : Array Slot), lv_has ls 5 [(2, .int v7)] → W p l e (rmD 1) s m args below meth c s.heap [] 0 0 Q (F0 m 59 ls []) := by
    intro v7 e_ ls hl
    subst e_
    have hf := hk3
    refine lv_iload_n S.1 S.2.1 dX7_company_59 rfl (lv_at hl 0 rfl) ?_
    have e_ := Option.some.inj hf
    subst e_
    exact hret _ _ dX7_company_60
  refine lp_ind (P := fun (s2 : Int32 × Int32) => ∀ (ls : Array Slot), lv_has ls 5 [(0, .ref o_q0), (1, .int p1), (2, .int s2.1), (3, .int s2.2)] → W p l e (rmD 1) s m args below meth c s.heap [] 0 0 Q (F0 m 4 ls [])) ?_ _ _ hf_ _ (lv_sub hl [2, 3, 1, 0] rfl)
  intro s2 x4 hf hI3 hR3 ls hl
  refine lv_iload_n S.1 S.2.1 dX7_company_4 rfl (lv_at hl 3 rfl) ?_
  refine lv_aload_n S.1 S.2.1 dX7_company_5 rfl (lv_at hl 0 rfl) ?_
  refine gfX7_9 S hK hP 0 rfl rfl dX7_company_6 ?_
  refine lv_icmp_ge (tgt := 59) S.1 S.2.1 dX7_company_9 (by decide) (fun c_ => ?_) (fun c_ => ?_)
  · have hf := it_p c_ hf
    have e_ := hR3 _ (Option.some.inj hf).symm
    exact hE3 _ e_ _ (lv_sub hl [2] rfl)
  · have hf := it_n c_ hf
    refine lv_aload_n S.1 S.2.1 dX7_company_12 rfl (lv_at hl 0 rfl) ?_
    refine gfX7_18 S hK hP 0 rfl rfl dX7_company_13 ?_
    refine lv_iload_n S.1 S.2.1 dX7_company_16 rfl (lv_at hl 3 rfl) ?_
    obtain ⟨x5, hx5, hf⟩ := bnd_e hf
    refine q_iald S hK hP 1 0 rfl rfl hx5 dX7_company_17 ?_
    refine lv_bipush (v := 100) S.1 S.2.1 dX7_company_18 bp_100 ?_
    refine lv_irem S.1 S.2.1 dX7_company_20 (by decide) ?_
    obtain ⟨x6, hx6, hf⟩ := bnd_e hf
    refine Rd.cS (c_J6_bitCount_0f7a4 hx6) S hK va_P.nil kSX7_58 rfl hl.1 [] rfl (Nat.le_of_ble_eq_true rfl) ⟨(Nat.le_of_ble_eq_true rfl), (Nat.le_of_ble_eq_true rfl)⟩ ⟨(Nat.zero_le _), (Nat.zero_le _)⟩ dX7_company_21 ?_
    refine lv_istore (lv' := [(4, .int x6), (0, .ref o_q0), (1, .int p1), (2, .int s2.1), (3, .int s2.2)]) S.1 S.2.1 dX7_company_24 hl (by decide) rfl (fun ls hl => ?_)
    refine lv_iload_n S.1 S.2.1 dX7_company_26 rfl (lv_at hl 3 rfl) ?_
    refine lv_iconst (v := (-1)) S.1 S.2.1 dX7_company_27 ic_m1 ?_
    refine lv_icmp_eq (tgt := 50) S.1 S.2.1 dX7_company_28 (by decide) (fun c_ => ?_) (fun c_ => ?_)
    · have hf := it_p c_ hf
      refine lv_iload S.1 S.2.1 dX7_company_50 (lv_at hl 0 rfl) ?_
      refine lv_istore_n (lv' := [(2, .int x6), (4, .int x6), (0, .ref o_q0), (1, .int p1), (3, .int s2.2)]) S.1 S.2.1 dX7_company_52 rfl hl (by decide) rfl (fun ls hl => ?_)
      refine q_iinc (w := 1) (lv' := [(3, .int (s2.2 + 1)), (2, .int x6), (4, .int x6), (0, .ref o_q0), (1, .int p1)]) S dX7_company_53 hl (k := 4) rfl ic_1 (by decide) rfl (fun ls hl => ?_)
      refine lv_goto (tgt := 4) S.1 S.2.1 dX7_company_56 (by decide) ?_
      exact hI3 _ (Option.some.inj hf).symm _ (lv_sub hl [3, 4, 1, 0] rfl)
    · have hf := it_n c_ hf
      refine lv_iload_n S.1 S.2.1 dX7_company_31 rfl (lv_at hl 2 rfl) ?_
      refine lv_if_eq (tgt := 44) S.1 S.2.1 dX7_company_32 (by decide) (fun c_ => ?_) (fun c_ => ?_)
      · have hf := it_p c_ hf
        refine lv_iload S.1 S.2.1 dX7_company_44 (lv_at hl 0 rfl) ?_
        refine lv_iload_n S.1 S.2.1 dX7_company_46 rfl (lv_at hl 3 rfl) ?_
        refine lv_icmp_ge (tgt := 53) S.1 S.2.1 dX7_company_47 (by decide) (fun c_ => ?_) (fun c_ => ?_)
        · have hf := it_p c_ hf
          refine q_iinc (w := 1) (lv' := [(3, .int (s2.2 + 1)), (4, .int x6), (0, .ref o_q0), (1, .int p1), (2, .int s2.1)]) S dX7_company_53 hl (k := 4) rfl ic_1 (by decide) rfl (fun ls hl => ?_)
          refine lv_goto (tgt := 4) S.1 S.2.1 dX7_company_56 (by decide) ?_
          exact hI3 _ (Option.some.inj hf).symm _ (lv_sub hl [2, 3, 4, 0] rfl)
        · have hf := it_n c_ hf
          refine lv_iload S.1 S.2.1 dX7_company_50 (lv_at hl 0 rfl) ?_
          refine lv_istore_n (lv' := [(2, .int x6), (4, .int x6), (0, .ref o_q0), (1, .int p1), (3, .int s2.2)]) S.1 S.2.1 dX7_company_52 rfl hl (by decide) rfl (fun ls hl => ?_)
          refine q_iinc (w := 1) (lv' := [(3, .int (s2.2 + 1)), (2, .int x6), (4, .int x6), (0, .ref o_q0), (1, .int p1)]) S dX7_company_53 hl (k := 4) rfl ic_1 (by decide) rfl (fun ls hl => ?_)
          refine lv_goto (tgt := 4) S.1 S.2.1 dX7_company_56 (by decide) ?_
          exact hI3 _ (Option.some.inj hf).symm _ (lv_sub hl [3, 4, 1, 0] rfl)
      · have hf := it_n c_ hf
        refine lv_iload S.1 S.2.1 dX7_company_35 (lv_at hl 0 rfl) ?_
        refine lv_iload_n S.1 S.2.1 dX7_company_37 rfl (lv_at hl 3 rfl) ?_
        refine lv_icmp_le (tgt := 53) S.1 S.2.1 dX7_company_38 (by decide) (fun c_ => ?_) (fun c_ => ?_)
        · have hf := it_p c_ hf
          refine q_iinc (w := 1) (lv' := [(3, .int (s2.2 + 1)), (4, .int x6), (0, .ref o_q0), (1, .int p1), (2, .int s2.1)]) S dX7_company_53 hl (k := 4) rfl ic_1 (by decide) rfl (fun ls hl => ?_)
          refine lv_goto (tgt := 4) S.1 S.2.1 dX7_company_56 (by decide) ?_
          exact hI3 _ (Option.some.inj hf).symm _ (lv_sub hl [2, 3, 4, 0] rfl)
        · have hf := it_n c_ hf
          refine lv_goto (tgt := 50) S.1 S.2.1 dX7_company_41 (by decide) ?_
          refine lv_iload S.1 S.2.1 dX7_company_50 (lv_at hl 0 rfl) ?_
          refine lv_istore_n (lv' := [(2, .int x6), (4, .int x6), (0, .ref o_q0), (1, .int p1), (3, .int s2.2)]) S.1 S.2.1 dX7_company_52 rfl hl (by decide) rfl (fun ls hl => ?_)
          refine q_iinc (w := 1) (lv' := [(3, .int (s2.2 + 1)), (2, .int x6), (4, .int x6), (0, .ref o_q0), (1, .int p1)]) S dX7_company_53 hl (k := 4) rfl ic_1 (by decide) rfl (fun ls hl => ?_)
          refine lv_goto (tgt := 4) S.1 S.2.1 dX7_company_56 (by decide) ?_
          exact hI3 _ (Option.some.inj hf).symm _ (lv_sub hl [3, 4, 1, 0] rfl)
