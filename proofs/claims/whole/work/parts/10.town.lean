def f_J7_fill_53178_L5 (p2 : Int32) (x1 : Int32) (p1_n : Nat) (s3 : Int32 × (Nat → Int32)) : Option ((Int32 × (Nat → Int32)) ⊕ ((Nat → Int32))) := if x1 ≤ s3.1 then some (.inr s3.2) else bnd (α := (Nat → Int32)) (wri p1_n s3.2 s3.1 p2) (fun x6 => some (.inl ((s3.1 + 1), x6)))
def f_J7_fill_53178 (fu : Nat) (p1_n : Nat) (p1_f : (Nat → Int32)) (p2 : Int32) : Option ((Nat → Int32)) := ltn (nI p1_n) (fun x1 => bnd (α := (Nat → Int32)) (lp (f_J7_fill_53178_L5 p2 x1 p1_n) fu ((0 : Int32), p1_f)) (fun v7 => some v7))
set_option maxHeartbeats 4000000 in
set_option maxRecDepth 100000 in
theorem c_J7_fill_53178 {l : Launch} {D : va_G} {g : Nat → ClassId} {fu : Nat} {p1_q0 : Nat} {p1_n : Nat} {p1_f : (Nat → Int32)} {p2 : Int32} {r : (Nat → Int32)} (hf : f_J7_fill_53178 fu p1_n p1_f p2 = some r) : Wr l D (gy g) yJ7_fill_53178 cJ7_fill_53178 4 none 0 [.ref p1_q0, .int p2] (wAI g p1_q0 p1_n p1_f) (wAI g p1_q0 p1_n r) none := by
  refine Wr.ofV (by decide) (Nat.le_of_ble_eq_true rfl) ?_
  intro p e s m args below meth c Q A S hK hA hret ls hl hW
  have hl : lv_has ls 4 [(0, .ref p1_q0), (1, .int p2)] := hl
  refine lv_iconst (v := 0) S.1 S.2.1 dJ7_fill_53178_0 ic_0 ?_
  refine lv_istore_n (lv' := [(2, .int (0 : Int32)), (0, .ref p1_q0), (1, .int p2)]) S.1 S.2.1 dJ7_fill_53178_1 rfl hl (by decide) rfl (fun ls hl => ?_)
  refine lv_aload_n S.1 S.2.1 dJ7_fill_53178_2 rfl (lv_at hl 1 rfl) ?_
  refine q_alen S hK hW.1 0 0 rfl rfl (v := (nI p1_n)) rfl dJ7_fill_53178_3 ?_
  refine lv_topi (fun x1 ex1 => ?_)
  have hf := ltn_e hf ex1
  refine lv_istore_n (lv' := [(3, .int x1), (2, .int (0 : Int32)), (0, .ref p1_q0), (1, .int p2)]) S.1 S.2.1 dJ7_fill_53178_4 rfl hl (by decide) rfl (fun ls hl => ?_)
  obtain ⟨x4, hf_, hk4⟩ := bnd_e hf
  have hE4 : ∀ (v7 : (Nat → Int32)), v7 = x4 → ∀ (ls : Array Slot) (H : Heap) (locs : List Loc), lv_has ls 4 [] → St A s.heap D (wAI g p1_q0 p1_n v7) H locs → W p l e (rmD 0) s m args below meth c H locs 0 0 Q (F0 m 20 ls []) := by
    intro v7 e_ ls H locs hl hW
    subst e_
    have hf := hk4
    have e_ := Option.some.inj hf
    subst e_
    exact hret _ _ _ _ dJ7_fill_53178_20 hW
  refine lp_ind (P := fun (s3 : Int32 × (Nat → Int32)) => ∀ (ls : Array Slot) (H : Heap) (locs : List Loc), lv_has ls 4 [(0, .ref p1_q0), (1, .int p2), (2, .int s3.1), (3, .int x1)] → St A s.heap D (wAI g p1_q0 p1_n s3.2) H locs → W p l e (rmD 0) s m args below meth c H locs 0 0 Q (F0 m 5 ls [])) ?_ _ _ hf_ _ _ _ (lv_sub hl [2, 3, 1, 0] rfl) hW
  intro s3 x5 hf hI4 hR4 ls H locs hl hW
  refine lv_iload_n S.1 S.2.1 dJ7_fill_53178_5 rfl (lv_at hl 2 rfl) ?_
  refine lv_iload_n S.1 S.2.1 dJ7_fill_53178_6 rfl (lv_at hl 3 rfl) ?_
  refine lv_icmp_ge (tgt := 20) S.1 S.2.1 dJ7_fill_53178_7 (by decide) (fun c_ => ?_) (fun c_ => ?_)
  · have hf := it_p c_ hf
    have e_ := hR4 _ (Option.some.inj hf).symm
    exact hE4 _ e_ _ _ _ (lv_sub hl [] rfl) hW
  · have hf := it_n c_ hf
    refine lv_aload_n S.1 S.2.1 dJ7_fill_53178_10 rfl (lv_at hl 0 rfl) ?_
    refine lv_iload_n S.1 S.2.1 dJ7_fill_53178_11 rfl (lv_at hl 2 rfl) ?_
    refine lv_iload_n S.1 S.2.1 dJ7_fill_53178_12 rfl (lv_at hl 1 rfl) ?_
    obtain ⟨x6, hx6, hf⟩ := bnd_e hf
    refine q_iast (ws2 := (wAI g p1_q0 p1_n x6)) S hK hW 0 0 rfl rfl hx6 rfl dJ7_fill_53178_13 (fun H locs hW => ?_)
    refine q_iinc (w := 1) (lv' := [(2, .int (s3.1 + 1)), (0, .ref p1_q0), (1, .int p2), (3, .int x1)]) S dJ7_fill_53178_14 hl (k := 2) rfl ic_1 (by decide) rfl (fun ls hl => ?_)
    refine lv_goto (tgt := 5) S.1 S.2.1 dJ7_fill_53178_17 (by decide) ?_
    exact hI4 _ (Option.some.inj hf).symm _ _ _ (lv_sub hl [1, 2, 0, 3] rfl) hW
def f_X9_clear (fu : Nat) (o_people : Int32) (o_hated : (Nat → Int32)) (o_owed : (Nat → Int32)) : Option (Int32 × (Nat → Int32) × (Nat → Int32)) := bnd (α := (Nat → Int32)) (f_J7_fill_53178 fu 6 o_hated (0 : Int32)) (fun x1 => bnd (α := (Nat → Int32)) (f_J7_fill_53178 fu 36 o_owed (0 : Int32)) (fun x2 => some ((0 : Int32), x1, x2)))
set_option maxHeartbeats 4000000 in
set_option maxRecDepth 100000 in
theorem c_X9_clear {l : Launch} {D : va_G} {g : Nat → ClassId} {fu : Nat} {o_q0 o_q1 o_q2 o_q3 o_q4 : Nat} {o_people : Int32} {o_wit : (Nat → Int32)} {o_purse : (Nat → Int32)} {o_hated : (Nat → Int32)} {o_owed : (Nat → Int32)} {r : Int32 × (Nat → Int32) × (Nat → Int32)} (hf : f_X9_clear fu o_people o_hated o_owed = some r) : Wr l D (gy g) yX9_clear cX9_clear 1 none 1 [.ref o_q0] (wTw g o_q0 o_q1 o_q2 o_q3 o_q4 o_people o_wit o_purse o_hated o_owed) (wTw g o_q0 o_q1 o_q2 o_q3 o_q4 r.1 o_wit o_purse r.2.1 r.2.2) none := by
  refine Wr.ofV (by decide) (Nat.le_of_ble_eq_true rfl) ?_
  intro p e s m args below meth c Q A S hK hA hret ls hl hW
  have hl : lv_has ls 1 [(0, .ref o_q0)] := hl
  refine lv_aload_n S.1 S.2.1 dX9_clear_0 rfl (lv_at hl 0 rfl) ?_
  refine lv_iconst (v := 0) S.1 S.2.1 dX9_clear_1 ic_0 ?_
  refine pfX9_9 (ws2 := (wTw g o_q0 o_q1 o_q2 o_q3 o_q4 (0 : Int32) o_wit o_purse o_hated o_owed)) S hK hW 0 rfl rfl rfl (Nat.le_of_ble_eq_true rfl) rfl dX9_clear_2 (fun H locs hW => ?_)
  refine lv_aload_n S.1 S.2.1 dX9_clear_5 rfl (lv_at hl 0 rfl) ?_
  refine gfX9_22 S hK hW.1 0 rfl rfl dX9_clear_6 ?_
  refine lv_iconst (v := 0) S.1 S.2.1 dX9_clear_9 ic_0 ?_
  obtain ⟨x1, hx1, hf⟩ := bnd_e hf
  refine Wr.go (ws2 := (wTw g o_q0 o_q1 o_q2 o_q3 o_q4 (0 : Int32) o_wit o_purse x1 o_owed)) (Wr.runS (c_J7_fill_53178 hx1) S hK (hW.1.sub (ws' := (wAI g o_q3 6 o_hated)) [3] rfl) (hW.2.1.sub (ws' := (wAI g o_q3 6 o_hated)) [3] (by decide) rfl) kSX9_28 rfl hl.1 [] rfl (Nat.le_of_ble_eq_true rfl) ⟨(Nat.le_of_ble_eq_true rfl), (Nat.le_of_ble_eq_true rfl)⟩ ⟨(Nat.zero_le _), (Nat.zero_le _)⟩ dX9_clear_10) hW hA [3] rfl [(false, 0), (false, 1), (false, 2), (true, 0), (false, 4)] rfl (by decide) rfl (fun H locs hW => ?_)
  refine lv_aload_n S.1 S.2.1 dX9_clear_13 rfl (lv_at hl 0 rfl) ?_
  refine gfX9_25 S hK hW.1 0 rfl rfl dX9_clear_14 ?_
  refine lv_iconst (v := 0) S.1 S.2.1 dX9_clear_17 ic_0 ?_
  obtain ⟨x2, hx2, hf⟩ := bnd_e hf
  refine Wr.go (ws2 := (wTw g o_q0 o_q1 o_q2 o_q3 o_q4 (0 : Int32) o_wit o_purse x1 x2)) (Wr.runS (c_J7_fill_53178 hx2) S hK (hW.1.sub (ws' := (wAI g o_q4 36 o_owed)) [4] rfl) (hW.2.1.sub (ws' := (wAI g o_q4 36 o_owed)) [4] (by decide) rfl) kSX9_28 rfl hl.1 [] rfl (Nat.le_of_ble_eq_true rfl) ⟨(Nat.le_of_ble_eq_true rfl), (Nat.le_of_ble_eq_true rfl)⟩ ⟨(Nat.zero_le _), (Nat.zero_le _)⟩ dX9_clear_18) hW hA [4] rfl [(false, 0), (false, 1), (false, 2), (false, 3), (true, 0)] rfl (by decide) rfl (fun H locs hW => ?_)
  have e_ := Option.some.inj hf
  subst e_
  exact hret _ _ _ _ dX9_clear_21 hW
def f_X9_copy (fu : Nat) (o_people : Int32) (o_wit : (Nat → Int32)) (o_purse : (Nat → Int32)) (o_hated : (Nat → Int32)) (o_owed : (Nat → Int32)) (t_people : Int32) (t_wit : (Nat → Int32)) (t_purse : (Nat → Int32)) (t_hated : (Nat → Int32)) (t_owed : (Nat → Int32)) : Option (Int32 × (Nat → Int32) × (Nat → Int32) × (Nat → Int32) × (Nat → Int32)) := bnd (α := (Nat → Int32)) (cpi 6 6 t_wit o_wit (0 : Int32) (0 : Int32) (6 : Int32)) (fun x1 => bnd (α := (Nat → Int32)) (cpi 6 6 t_purse o_purse (0 : Int32) (0 : Int32) (6 : Int32)) (fun x2 => bnd (α := (Nat → Int32)) (cpi 6 6 t_hated o_hated (0 : Int32) (0 : Int32) (6 : Int32)) (fun x3 => bnd (α := (Nat → Int32)) (cpi 36 36 t_owed o_owed (0 : Int32) (0 : Int32) (36 : Int32)) (fun x4 => some (t_people, x1, x2, x3, x4)))))
set_option maxHeartbeats 4000000 in
set_option maxRecDepth 100000 in
theorem c_X9_copy {l : Launch} {D : va_G} {g : Nat → ClassId} {fu : Nat} {o_q0 o_q1 o_q2 o_q3 o_q4 t_q0 t_q1 t_q2 t_q3 t_q4 : Nat} {o_people : Int32} {o_wit : (Nat → Int32)} {o_purse : (Nat → Int32)} {o_hated : (Nat → Int32)} {o_owed : (Nat → Int32)} {t_people : Int32} {t_wit : (Nat → Int32)} {t_purse : (Nat → Int32)} {t_hated : (Nat → Int32)} {t_owed : (Nat → Int32)} {r : Int32 × (Nat → Int32) × (Nat → Int32) × (Nat → Int32) × (Nat → Int32)} (hf : f_X9_copy fu o_people o_wit o_purse o_hated o_owed t_people t_wit t_purse t_hated t_owed = some r) : Wr l D (gy g) yX9_copy cX9_copy 2 none 1 [.ref o_q0, .ref t_q0] (wTw g o_q0 o_q1 o_q2 o_q3 o_q4 o_people o_wit o_purse o_hated o_owed ++ wTw g t_q0 t_q1 t_q2 t_q3 t_q4 t_people t_wit t_purse t_hated t_owed) (wTw g o_q0 o_q1 o_q2 o_q3 o_q4 r.1 r.2.1 r.2.2.1 r.2.2.2.1 r.2.2.2.2 ++ wTw g t_q0 t_q1 t_q2 t_q3 t_q4 t_people t_wit t_purse t_hated t_owed) none := by
  refine Wr.ofV (by decide) (Nat.le_of_ble_eq_true rfl) ?_
  intro p e s m args below meth c Q A S hK hA hret ls hl hW
  have hl : lv_has ls 2 [(0, .ref o_q0), (1, .ref t_q0)] := hl
  refine lv_aload_n S.1 S.2.1 dX9_copy_0 rfl (lv_at hl 0 rfl) ?_
  refine lv_aload_n S.1 S.2.1 dX9_copy_1 rfl (lv_at hl 1 rfl) ?_
  refine gfX9_9 S hK hW.1 5 rfl rfl dX9_copy_2 ?_
  refine pfX9_9 (ws2 := (wTw g o_q0 o_q1 o_q2 o_q3 o_q4 t_people o_wit o_purse o_hated o_owed ++ wTw g t_q0 t_q1 t_q2 t_q3 t_q4 t_people t_wit t_purse t_hated t_owed)) S hK hW 0 rfl rfl rfl (Nat.le_of_ble_eq_true rfl) rfl dX9_copy_5 (fun H locs hW => ?_)
  refine lv_aload_n S.1 S.2.1 dX9_copy_8 rfl (lv_at hl 1 rfl) ?_
  refine gfX9_15 S hK hW.1 5 rfl rfl dX9_copy_9 ?_
  refine lv_iconst (v := 0) S.1 S.2.1 dX9_copy_12 ic_0 ?_
  refine lv_aload_n S.1 S.2.1 dX9_copy_13 rfl (lv_at hl 0 rfl) ?_
  refine gfX9_15 S hK hW.1 0 rfl rfl dX9_copy_14 ?_
  refine lv_iconst (v := 0) S.1 S.2.1 dX9_copy_17 ic_0 ?_
  refine lv_bipush (v := 6) S.1 S.2.1 dX9_copy_18 bp_6 ?_
  obtain ⟨x1, hx1, hf⟩ := bnd_e hf
  refine q_copyi (ws2 := (wTw g o_q0 o_q1 o_q2 o_q3 o_q4 t_people x1 o_purse o_hated o_owed ++ wTw g t_q0 t_q1 t_q2 t_q3 t_q4 t_people t_wit t_purse t_hated t_owed)) S q_522 q_507 q_506 q_18 hK hW hl.1 6 1 0 0 rfl rfl rfl rfl hx1 rfl (Nat.le_of_ble_eq_true rfl) (Nat.le_of_ble_eq_true rfl) dX9_copy_20 (fun H locs hW => ?_)
  refine lv_aload_n S.1 S.2.1 dX9_copy_23 rfl (lv_at hl 1 rfl) ?_
  refine gfX9_19 S hK hW.1 5 rfl rfl dX9_copy_24 ?_
  refine lv_iconst (v := 0) S.1 S.2.1 dX9_copy_27 ic_0 ?_
  refine lv_aload_n S.1 S.2.1 dX9_copy_28 rfl (lv_at hl 0 rfl) ?_
  refine gfX9_19 S hK hW.1 0 rfl rfl dX9_copy_29 ?_
  refine lv_iconst (v := 0) S.1 S.2.1 dX9_copy_32 ic_0 ?_
  refine lv_bipush (v := 6) S.1 S.2.1 dX9_copy_33 bp_6 ?_
  obtain ⟨x2, hx2, hf⟩ := bnd_e hf
  refine q_copyi (ws2 := (wTw g o_q0 o_q1 o_q2 o_q3 o_q4 t_people x1 x2 o_hated o_owed ++ wTw g t_q0 t_q1 t_q2 t_q3 t_q4 t_people t_wit t_purse t_hated t_owed)) S q_522 q_507 q_506 q_18 hK hW hl.1 7 2 0 0 rfl rfl rfl rfl hx2 rfl (Nat.le_of_ble_eq_true rfl) (Nat.le_of_ble_eq_true rfl) dX9_copy_35 (fun H locs hW => ?_)
  refine lv_aload_n S.1 S.2.1 dX9_copy_38 rfl (lv_at hl 1 rfl) ?_
  refine gfX9_22 S hK hW.1 5 rfl rfl dX9_copy_39 ?_
  refine lv_iconst (v := 0) S.1 S.2.1 dX9_copy_42 ic_0 ?_
  refine lv_aload_n S.1 S.2.1 dX9_copy_43 rfl (lv_at hl 0 rfl) ?_
  refine gfX9_22 S hK hW.1 0 rfl rfl dX9_copy_44 ?_
  refine lv_iconst (v := 0) S.1 S.2.1 dX9_copy_47 ic_0 ?_
  refine lv_bipush (v := 6) S.1 S.2.1 dX9_copy_48 bp_6 ?_
  obtain ⟨x3, hx3, hf⟩ := bnd_e hf
  refine q_copyi (ws2 := (wTw g o_q0 o_q1 o_q2 o_q3 o_q4 t_people x1 x2 x3 o_owed ++ wTw g t_q0 t_q1 t_q2 t_q3 t_q4 t_people t_wit t_purse t_hated t_owed)) S q_522 q_507 q_506 q_18 hK hW hl.1 8 3 0 0 rfl rfl rfl rfl hx3 rfl (Nat.le_of_ble_eq_true rfl) (Nat.le_of_ble_eq_true rfl) dX9_copy_50 (fun H locs hW => ?_)
  refine lv_aload_n S.1 S.2.1 dX9_copy_53 rfl (lv_at hl 1 rfl) ?_
  refine gfX9_25 S hK hW.1 5 rfl rfl dX9_copy_54 ?_
  refine lv_iconst (v := 0) S.1 S.2.1 dX9_copy_57 ic_0 ?_
  refine lv_aload_n S.1 S.2.1 dX9_copy_58 rfl (lv_at hl 0 rfl) ?_
  refine gfX9_25 S hK hW.1 0 rfl rfl dX9_copy_59 ?_
  refine lv_iconst (v := 0) S.1 S.2.1 dX9_copy_62 ic_0 ?_
  refine lv_bipush (v := 36) S.1 S.2.1 dX9_copy_63 bp_36 ?_
  obtain ⟨x4, hx4, hf⟩ := bnd_e hf
  refine q_copyi (ws2 := (wTw g o_q0 o_q1 o_q2 o_q3 o_q4 t_people x1 x2 x3 x4 ++ wTw g t_q0 t_q1 t_q2 t_q3 t_q4 t_people t_wit t_purse t_hated t_owed)) S q_522 q_507 q_506 q_18 hK hW hl.1 9 4 0 0 rfl rfl rfl rfl hx4 rfl (Nat.le_of_ble_eq_true rfl) (Nat.le_of_ble_eq_true rfl) dX9_copy_65 (fun H locs hW => ?_)
  have e_ := Option.some.inj hf
  subst e_
  exact hret _ _ _ _ dX9_copy_68 hW
def f_X9_has (fu : Nat) (o_people : Int32) (p1 : Int32) : Option (Int32) := if p1 < 0 then some (0 : Int32) else if o_people ≤ p1 then some (0 : Int32) else some (1 : Int32)
set_option maxHeartbeats 4000000 in
set_option maxRecDepth 100000 in
theorem c_X9_has {l : Launch} {D : va_G} {g : Nat → ClassId} {fu : Nat} {o_q0 o_q1 o_q2 o_q3 o_q4 : Nat} {o_people : Int32} {o_wit : (Nat → Int32)} {o_purse : (Nat → Int32)} {o_hated : (Nat → Int32)} {o_owed : (Nat → Int32)} {p1 : Int32} {r : Int32} (hf : f_X9_has fu o_people p1 = some r) : Rd l D (gy g) yX9_has cX9_has 2 (some .boolean) 0 [.ref o_q0, .int p1] (wTw g o_q0 o_q1 o_q2 o_q3 o_q4 o_people o_wit o_purse o_hated o_owed) (some (.int r)) := by
  refine Rd.ofZ (by decide) (Nat.le_of_ble_eq_true rfl) ?_
  intro p e s m args below meth c Q S hK hP hret ls hl
  have hl : lv_has ls 2 [(0, .ref o_q0), (1, .int p1)] := hl
  refine lv_iload_n S.1 S.2.1 dX9_has_0 rfl (lv_at hl 1 rfl) ?_
  refine lv_if_lt (tgt := 16) S.1 S.2.1 dX9_has_1 (by decide) (fun c_ => ?_) (fun c_ => ?_)
  · have hf := it_p c_ hf
    refine lv_iconst (v := 0) S.1 S.2.1 dX9_has_16 ic_0 ?_
    have e_ := Option.some.inj hf
    subst e_
    exact hret _ _ (Or.inl rfl) dX9_has_17
  · have hf := it_n c_ hf
    refine lv_iload_n S.1 S.2.1 dX9_has_4 rfl (lv_at hl 1 rfl) ?_
    refine lv_aload_n S.1 S.2.1 dX9_has_5 rfl (lv_at hl 0 rfl) ?_
    refine gfX9_9 S hK hP 0 rfl rfl dX9_has_6 ?_
    refine lv_icmp_ge (tgt := 16) S.1 S.2.1 dX9_has_9 (by decide) (fun c_ => ?_) (fun c_ => ?_)
    · have hf := it_p c_ hf
      refine lv_iconst (v := 0) S.1 S.2.1 dX9_has_16 ic_0 ?_
      have e_ := Option.some.inj hf
      subst e_
      exact hret _ _ (Or.inl rfl) dX9_has_17
    · have hf := it_n c_ hf
      refine lv_iconst (v := 1) S.1 S.2.1 dX9_has_12 ic_1 ?_
      refine lv_goto (tgt := 17) S.1 S.2.1 dX9_has_13 (by decide) ?_
      have e_ := Option.some.inj hf
      subst e_
      exact hret _ _ (Or.inr rfl) dX9_has_17
def f_X9_owes (fu : Nat) (o_owed : (Nat → Int32)) (p1 : Int32) (p2 : Int32) : Option (Int32) := bnd (α := Int32) (rdi 36 o_owed (((6 : Int32) * p1) + p2)) (fun x1 => some x1)
set_option maxHeartbeats 4000000 in
set_option maxRecDepth 100000 in
theorem c_X9_owes {l : Launch} {D : va_G} {g : Nat → ClassId} {fu : Nat} {o_q0 o_q1 o_q2 o_q3 o_q4 : Nat} {o_people : Int32} {o_wit : (Nat → Int32)} {o_purse : (Nat → Int32)} {o_hated : (Nat → Int32)} {o_owed : (Nat → Int32)} {p1 : Int32} {p2 : Int32} {r : Int32} (hf : f_X9_owes fu o_owed p1 p2 = some r) : Rd l D (gy g) yX9_owes cX9_owes 3 (some .int) 0 [.ref o_q0, .int p1, .int p2] (wTw g o_q0 o_q1 o_q2 o_q3 o_q4 o_people o_wit o_purse o_hated o_owed) (some (.int r)) := by
  refine Rd.ofI (by decide) (Nat.le_of_ble_eq_true rfl) ?_
  intro p e s m args below meth c Q S hK hP hret ls hl
  have hl : lv_has ls 3 [(0, .ref o_q0), (1, .int p1), (2, .int p2)] := hl
  refine lv_aload_n S.1 S.2.1 dX9_owes_0 rfl (lv_at hl 0 rfl) ?_
  refine gfX9_25 S hK hP 0 rfl rfl dX9_owes_1 ?_
  refine lv_bipush (v := 6) S.1 S.2.1 dX9_owes_4 bp_6 ?_
  refine lv_iload_n S.1 S.2.1 dX9_owes_6 rfl (lv_at hl 1 rfl) ?_
  refine lv_imul S.1 S.2.1 dX9_owes_7 ?_
  refine lv_iload_n S.1 S.2.1 dX9_owes_8 rfl (lv_at hl 2 rfl) ?_
  refine lv_iadd S.1 S.2.1 dX9_owes_9 ?_
  obtain ⟨x1, hx1, hf⟩ := bnd_e hf
  refine q_iald S hK hP 4 0 rfl rfl hx1 dX9_owes_10 ?_
  have e_ := Option.some.inj hf
  subst e_
  exact hret _ _ dX9_owes_11
def f_X9_hates (fu : Nat) (o_hated : (Nat → Int32)) (p1 : Int32) (p2 : Int32) : Option (Int32) := bnd (α := Int32) (rdi 6 o_hated p1) (fun x1 => if ((jshr x1 p2) &&& (1 : Int32)) = 0 then some (0 : Int32) else some (1 : Int32))
set_option maxHeartbeats 4000000 in
set_option maxRecDepth 100000 in
theorem c_X9_hates {l : Launch} {D : va_G} {g : Nat → ClassId} {fu : Nat} {o_q0 o_q1 o_q2 o_q3 o_q4 : Nat} {o_people : Int32} {o_wit : (Nat → Int32)} {o_purse : (Nat → Int32)} {o_hated : (Nat → Int32)} {o_owed : (Nat → Int32)} {p1 : Int32} {p2 : Int32} {r : Int32} (hf : f_X9_hates fu o_hated p1 p2 = some r) : Rd l D (gy g) yX9_hates cX9_hates 3 (some .boolean) 0 [.ref o_q0, .int p1, .int p2] (wTw g o_q0 o_q1 o_q2 o_q3 o_q4 o_people o_wit o_purse o_hated o_owed) (some (.int r)) := by
  refine Rd.ofZ (by decide) (Nat.le_of_ble_eq_true rfl) ?_
  intro p e s m args below meth c Q S hK hP hret ls hl
  have hl : lv_has ls 3 [(0, .ref o_q0), (1, .int p1), (2, .int p2)] := hl
  refine lv_aload_n S.1 S.2.1 dX9_hates_0 rfl (lv_at hl 0 rfl) ?_
  refine gfX9_22 S hK hP 0 rfl rfl dX9_hates_1 ?_
  refine lv_iload_n S.1 S.2.1 dX9_hates_4 rfl (lv_at hl 1 rfl) ?_
  obtain ⟨x1, hx1, hf⟩ := bnd_e hf
  refine q_iald S hK hP 3 0 rfl rfl hx1 dX9_hates_5 ?_
  refine lv_iload_n S.1 S.2.1 dX9_hates_6 rfl (lv_at hl 2 rfl) ?_
  refine lv_ishr S.1 S.2.1 dX9_hates_7 ?_
  refine lv_iconst (v := 1) S.1 S.2.1 dX9_hates_8 ic_1 ?_
  refine lv_iand S.1 S.2.1 dX9_hates_9 ?_
  refine lv_if_eq (tgt := 17) S.1 S.2.1 dX9_hates_10 (by decide) (fun c_ => ?_) (fun c_ => ?_)
  · have hf := it_p c_ hf
    refine lv_iconst (v := 0) S.1 S.2.1 dX9_hates_17 ic_0 ?_
    have e_ := Option.some.inj hf
    subst e_
    exact hret _ _ (Or.inl rfl) dX9_hates_18
  · have hf := it_n c_ hf
    refine lv_iconst (v := 1) S.1 S.2.1 dX9_hates_13 ic_1 ?_
    refine lv_goto (tgt := 18) S.1 S.2.1 dX9_hates_14 (by decide) ?_
    have e_ := Option.some.inj hf
    subst e_
    exact hret _ _ (Or.inr rfl) dX9_hates_18
def f_X9_owesInAll_L4 (fu : Nat) (o_people : Int32) (o_owed : (Nat → Int32)) (p1 : Int32) (s2 : Int32 × Int32) : Option ((Int32 × Int32) ⊕ (Int32)) := if o_people ≤ s2.2 then some (.inr s2.1) else bnd (α := Int32) (f_X9_owes fu o_owed p1 s2.2) (fun x5 => ltn (s2.1 + x5) (fun x6 => some (.inl (x6, (s2.2 + 1)))))
def f_X9_owesInAll (fu : Nat) (o_people : Int32) (o_owed : (Nat → Int32)) (p1 : Int32) : Option (Int32) := bnd (α := Int32) (lp (f_X9_owesInAll_L4 fu o_people o_owed p1) fu ((0 : Int32), (0 : Int32))) (fun v7 => some v7)
set_option maxHeartbeats 4000000 in
set_option maxRecDepth 100000 in
theorem c_X9_owesInAll {l : Launch} {D : va_G} {g : Nat → ClassId} {fu : Nat} {o_q0 o_q1 o_q2 o_q3 o_q4 : Nat} {o_people : Int32} {o_wit : (Nat → Int32)} {o_purse : (Nat → Int32)} {o_hated : (Nat → Int32)} {o_owed : (Nat → Int32)} {p1 : Int32} {r : Int32} (hf : f_X9_owesInAll fu o_people o_owed p1 = some r) : Rd l D (gy g) yX9_owesInAll cX9_owesInAll 4 (some .int) 1 [.ref o_q0, .int p1] (wTw g o_q0 o_q1 o_q2 o_q3 o_q4 o_people o_wit o_purse o_hated o_owed) (some (.int r)) := by
  refine Rd.ofI (by decide) (Nat.le_of_ble_eq_true rfl) ?_
  intro p e s m args below meth c Q S hK hP hret ls hl
  have hl : lv_has ls 4 [(0, .ref o_q0), (1, .int p1)] := hl
  refine lv_iconst (v := 0) S.1 S.2.1 dX9_owesInAll_0 ic_0 ?_
  refine lv_istore_n (lv' := [(2, .int (0 : Int32)), (0, .ref o_q0), (1, .int p1)]) S.1 S.2.1 dX9_owesInAll_1 rfl hl (by decide) rfl (fun ls hl => ?_)
  refine lv_iconst (v := 0) S.1 S.2.1 dX9_owesInAll_2 ic_0 ?_
  refine lv_istore_n (lv' := [(3, .int (0 : Int32)), (2, .int (0 : Int32)), (0, .ref o_q0), (1, .int p1)]) S.1 S.2.1 dX9_owesInAll_3 rfl hl (by decide) rfl (fun ls hl => ?_)
  obtain ⟨x3, hf_, hk3⟩ := bnd_e hf
  have hE3 : ∀ (v7 : Int32), v7 = x3 → ∀ (ls : Array Slot), lv_has ls 4 [(2, .int v7)] → W p l e (rmD 1) s m args below meth c s.heap [] 0 0 Q (F0 m 27 ls []) := by
    intro v7 e_ ls hl
    subst e_
    have hf := hk3
    refine lv_iload_n S.1 S.2.1 dX9_owesInAll_27 rfl (lv_at hl 0 rfl) ?_
    have e_ := Option.some.inj hf
    subst e_
    exact hret _ _ dX9_owesInAll_28
  refine lp_ind (P := fun (s2 : Int32 × Int32) => ∀ (ls : Array Slot), lv_has ls 4 [(0, .ref o_q0), (1, .int p1), (2, .int s2.1), (3, .int s2.2)] → W p l e (rmD 1) s m args below meth c s.heap [] 0 0 Q (F0 m 4 ls [])) ?_ _ _ hf_ _ (lv_sub hl [2, 3, 1, 0] rfl)
  intro s2 x4 hf hI3 hR3 ls hl
  refine lv_iload_n S.1 S.2.1 dX9_owesInAll_4 rfl (lv_at hl 3 rfl) ?_
  refine lv_aload_n S.1 S.2.1 dX9_owesInAll_5 rfl (lv_at hl 0 rfl) ?_
  refine gfX9_9 S hK hP 0 rfl rfl dX9_owesInAll_6 ?_
  refine lv_icmp_ge (tgt := 27) S.1 S.2.1 dX9_owesInAll_9 (by decide) (fun c_ => ?_) (fun c_ => ?_)
  · have hf := it_p c_ hf
    have e_ := hR3 _ (Option.some.inj hf).symm
    exact hE3 _ e_ _ (lv_sub hl [2] rfl)
  · have hf := it_n c_ hf
    refine lv_iload_n S.1 S.2.1 dX9_owesInAll_12 rfl (lv_at hl 2 rfl) ?_
    refine lv_aload_n S.1 S.2.1 dX9_owesInAll_13 rfl (lv_at hl 0 rfl) ?_
    refine lv_iload_n S.1 S.2.1 dX9_owesInAll_14 rfl (lv_at hl 1 rfl) ?_
    refine lv_iload_n S.1 S.2.1 dX9_owesInAll_15 rfl (lv_at hl 3 rfl) ?_
    obtain ⟨x5, hx5, hf⟩ := bnd_e hf
    refine Rd.cV (c_X9_owes hx5) S hK hP 0 7 rfl rfl kVX9_40 rfl hl.1 [.int s2.1] rfl (Nat.le_of_ble_eq_true rfl) ⟨(Nat.le_of_ble_eq_true rfl), (Nat.le_of_ble_eq_true rfl)⟩ ⟨(Nat.zero_le _), (Nat.zero_le _)⟩ dX9_owesInAll_16 ?_
    refine lv_iadd S.1 S.2.1 dX9_owesInAll_19 ?_
    refine lv_topi (fun x6 ex6 => ?_)
    have hf := ltn_e hf ex6
    refine lv_istore_n (lv' := [(2, .int x6), (0, .ref o_q0), (1, .int p1), (3, .int s2.2)]) S.1 S.2.1 dX9_owesInAll_20 rfl hl (by decide) rfl (fun ls hl => ?_)
    refine q_iinc (w := 1) (lv' := [(3, .int (s2.2 + 1)), (2, .int x6), (0, .ref o_q0), (1, .int p1)]) S dX9_owesInAll_21 hl (k := 3) rfl ic_1 (by decide) rfl (fun ls hl => ?_)
    refine lv_goto (tgt := 4) S.1 S.2.1 dX9_owesInAll_24 (by decide) ?_
    exact hI3 _ (Option.some.inj hf).symm _ (lv_sub hl [2, 3, 1, 0] rfl)
def f_X9_isOwedInAll_L4 (fu : Nat) (o_people : Int32) (o_owed : (Nat → Int32)) (p1 : Int32) (s2 : Int32 × Int32) : Option ((Int32 × Int32) ⊕ (Int32)) := if o_people ≤ s2.2 then some (.inr s2.1) else bnd (α := Int32) (f_X9_owes fu o_owed s2.2 p1) (fun x5 => ltn (s2.1 + x5) (fun x6 => some (.inl (x6, (s2.2 + 1)))))
def f_X9_isOwedInAll (fu : Nat) (o_people : Int32) (o_owed : (Nat → Int32)) (p1 : Int32) : Option (Int32) := bnd (α := Int32) (lp (f_X9_isOwedInAll_L4 fu o_people o_owed p1) fu ((0 : Int32), (0 : Int32))) (fun v7 => some v7)
set_option maxHeartbeats 4000000 in
set_option maxRecDepth 100000 in
theorem c_X9_isOwedInAll {l : Launch} {D : va_G} {g : Nat → ClassId} {fu : Nat} {o_q0 o_q1 o_q2 o_q3 o_q4 : Nat} {o_people : Int32} {o_wit : (Nat → Int32)} {o_purse : (Nat → Int32)} {o_hated : (Nat → Int32)} {o_owed : (Nat → Int32)} {p1 : Int32} {r : Int32} (hf : f_X9_isOwedInAll fu o_people o_owed p1 = some r) : Rd l D (gy g) yX9_isOwedInAll cX9_isOwedInAll 4 (some .int) 1 [.ref o_q0, .int p1] (wTw g o_q0 o_q1 o_q2 o_q3 o_q4 o_people o_wit o_purse o_hated o_owed) (some (.int r)) := by
  refine Rd.ofI (by decide) (Nat.le_of_ble_eq_true rfl) ?_
  intro p e s m args below meth c Q S hK hP hret ls hl
  have hl : lv_has ls 4 [(0, .ref o_q0), (1, .int p1)] := hl
  refine lv_iconst (v := 0) S.1 S.2.1 dX9_isOwedInAll_0 ic_0 ?_
  refine lv_istore_n (lv' := [(2, .int (0 : Int32)), (0, .ref o_q0), (1, .int p1)]) S.1 S.2.1 dX9_isOwedInAll_1 rfl hl (by decide) rfl (fun ls hl => ?_)
  refine lv_iconst (v := 0) S.1 S.2.1 dX9_isOwedInAll_2 ic_0 ?_
  refine lv_istore_n (lv' := [(3, .int (0 : Int32)), (2, .int (0 : Int32)), (0, .ref o_q0), (1, .int p1)]) S.1 S.2.1 dX9_isOwedInAll_3 rfl hl (by decide) rfl (fun ls hl => ?_)
  obtain ⟨x3, hf_, hk3⟩ := bnd_e hf
  have hE3 : ∀ (v7 : Int32), v7 = x3 → ∀ (ls : Array Slot), lv_has ls 4 [(2, .int v7)] → W p l e (rmD 1) s m args below meth c s.heap [] 0 0 Q (F0 m 27 ls []) := by
    intro v7 e_ ls hl
    subst e_
    have hf := hk3
    refine lv_iload_n S.1 S.2.1 dX9_isOwedInAll_27 rfl (lv_at hl 0 rfl) ?_
    have e_ := Option.some.inj hf
    subst e_
    exact hret _ _ dX9_isOwedInAll_28
  refine lp_ind (P := fun (s2 : Int32 × Int32) => ∀ (ls : Array Slot), lv_has ls 4 [(0, .ref o_q0), (1, .int p1), (2, .int s2.1), (3, .int s2.2)] → W p l e (rmD 1) s m args below meth c s.heap [] 0 0 Q (F0 m 4 ls [])) ?_ _ _ hf_ _ (lv_sub hl [2, 3, 1, 0] rfl)
  intro s2 x4 hf hI3 hR3 ls hl
  refine lv_iload_n S.1 S.2.1 dX9_isOwedInAll_4 rfl (lv_at hl 3 rfl) ?_
  refine lv_aload_n S.1 S.2.1 dX9_isOwedInAll_5 rfl (lv_at hl 0 rfl) ?_
  refine gfX9_9 S hK hP 0 rfl rfl dX9_isOwedInAll_6 ?_
  refine lv_icmp_ge (tgt := 27) S.1 S.2.1 dX9_isOwedInAll_9 (by decide) (fun c_ => ?_) (fun c_ => ?_)
  · have hf := it_p c_ hf
    have e_ := hR3 _ (Option.some.inj hf).symm
    exact hE3 _ e_ _ (lv_sub hl [2] rfl)
  · have hf := it_n c_ hf
    refine lv_iload_n S.1 S.2.1 dX9_isOwedInAll_12 rfl (lv_at hl 2 rfl) ?_
    refine lv_aload_n S.1 S.2.1 dX9_isOwedInAll_13 rfl (lv_at hl 0 rfl) ?_
    refine lv_iload_n S.1 S.2.1 dX9_isOwedInAll_14 rfl (lv_at hl 3 rfl) ?_
    refine lv_iload_n S.1 S.2.1 dX9_isOwedInAll_15 rfl (lv_at hl 1 rfl) ?_
    obtain ⟨x5, hx5, hf⟩ := bnd_e hf
    refine Rd.cV (c_X9_owes hx5) S hK hP 0 7 rfl rfl kVX9_40 rfl hl.1 [.int s2.1] rfl (Nat.le_of_ble_eq_true rfl) ⟨(Nat.le_of_ble_eq_true rfl), (Nat.le_of_ble_eq_true rfl)⟩ ⟨(Nat.zero_le _), (Nat.zero_le _)⟩ dX9_isOwedInAll_16 ?_
    refine lv_iadd S.1 S.2.1 dX9_isOwedInAll_19 ?_
    refine lv_topi (fun x6 ex6 => ?_)
    have hf := ltn_e hf ex6
    refine lv_istore_n (lv' := [(2, .int x6), (0, .ref o_q0), (1, .int p1), (3, .int s2.2)]) S.1 S.2.1 dX9_isOwedInAll_20 rfl hl (by decide) rfl (fun ls hl => ?_)
    refine q_iinc (w := 1) (lv' := [(3, .int (s2.2 + 1)), (2, .int x6), (0, .ref o_q0), (1, .int p1)]) S dX9_isOwedInAll_21 hl (k := 3) rfl ic_1 (by decide) rfl (fun ls hl => ?_)
    refine lv_goto (tgt := 4) S.1 S.2.1 dX9_isOwedInAll_24 (by decide) ?_
    exact hI3 _ (Option.some.inj hf).symm _ (lv_sub hl [2, 3, 1, 0] rfl)
def f_X9_netOf (fu : Nat) (o_people : Int32) (o_owed : (Nat → Int32)) (p1 : Int32) : Option (Int32) := bnd (α := Int32) (f_X9_isOwedInAll fu o_people o_owed p1) (fun x1 => bnd (α := Int32) (f_X9_owesInAll fu o_people o_owed p1) (fun x2 => some (x1 - x2)))
set_option maxHeartbeats 4000000 in
set_option maxRecDepth 100000 in
theorem c_X9_netOf {l : Launch} {D : va_G} {g : Nat → ClassId} {fu : Nat} {o_q0 o_q1 o_q2 o_q3 o_q4 : Nat} {o_people : Int32} {o_wit : (Nat → Int32)} {o_purse : (Nat → Int32)} {o_hated : (Nat → Int32)} {o_owed : (Nat → Int32)} {p1 : Int32} {r : Int32} (hf : f_X9_netOf fu o_people o_owed p1 = some r) : Rd l D (gy g) yX9_netOf cX9_netOf 2 (some .int) 2 [.ref o_q0, .int p1] (wTw g o_q0 o_q1 o_q2 o_q3 o_q4 o_people o_wit o_purse o_hated o_owed) (some (.int r)) := by
  refine Rd.ofI (by decide) (Nat.le_of_ble_eq_true rfl) ?_
  intro p e s m args below meth c Q S hK hP hret ls hl
  have hl : lv_has ls 2 [(0, .ref o_q0), (1, .int p1)] := hl
  refine lv_aload_n S.1 S.2.1 dX9_netOf_0 rfl (lv_at hl 0 rfl) ?_
  refine lv_iload_n S.1 S.2.1 dX9_netOf_1 rfl (lv_at hl 1 rfl) ?_
  obtain ⟨x1, hx1, hf⟩ := bnd_e hf
  refine Rd.cV (c_X9_isOwedInAll hx1) S hK hP 0 7 rfl rfl kVX9_44 rfl hl.1 [] rfl (Nat.le_of_ble_eq_true rfl) ⟨(Nat.le_of_ble_eq_true rfl), (Nat.le_of_ble_eq_true rfl)⟩ ⟨(Nat.zero_le _), (Nat.zero_le _)⟩ dX9_netOf_2 ?_
  refine lv_aload_n S.1 S.2.1 dX9_netOf_5 rfl (lv_at hl 0 rfl) ?_
  refine lv_iload_n S.1 S.2.1 dX9_netOf_6 rfl (lv_at hl 1 rfl) ?_
  obtain ⟨x2, hx2, hf⟩ := bnd_e hf
  refine Rd.cV (c_X9_owesInAll hx2) S hK hP 0 7 rfl rfl kVX9_48 rfl hl.1 [.int x1] rfl (Nat.le_of_ble_eq_true rfl) ⟨(Nat.le_of_ble_eq_true rfl), (Nat.le_of_ble_eq_true rfl)⟩ ⟨(Nat.zero_le _), (Nat.zero_le _)⟩ dX9_netOf_7 ?_
  refine lv_isub S.1 S.2.1 dX9_netOf_10 ?_
  have e_ := Option.some.inj hf
  subst e_
  exact hret _ _ dX9_netOf_11
def f_X9_wealthOf (fu : Nat) (o_people : Int32) (o_purse : (Nat → Int32)) (o_owed : (Nat → Int32)) (p1 : Int32) : Option (Int32) := bnd (α := Int32) (rdi 6 o_purse p1) (fun x1 => bnd (α := Int32) (f_X9_netOf fu o_people o_owed p1) (fun x2 => some (x1 + x2)))
set_option maxHeartbeats 4000000 in
set_option maxRecDepth 100000 in
theorem c_X9_wealthOf {l : Launch} {D : va_G} {g : Nat → ClassId} {fu : Nat} {o_q0 o_q1 o_q2 o_q3 o_q4 : Nat} {o_people : Int32} {o_wit : (Nat → Int32)} {o_purse : (Nat → Int32)} {o_hated : (Nat → Int32)} {o_owed : (Nat → Int32)} {p1 : Int32} {r : Int32} (hf : f_X9_wealthOf fu o_people o_purse o_owed p1 = some r) : Rd l D (gy g) yX9_wealthOf cX9_wealthOf 2 (some .int) 3 [.ref o_q0, .int p1] (wTw g o_q0 o_q1 o_q2 o_q3 o_q4 o_people o_wit o_purse o_hated o_owed) (some (.int r)) := by
  refine Rd.ofI (by decide) (Nat.le_of_ble_eq_true rfl) ?_
  intro p e s m args below meth c Q S hK hP hret ls hl
  have hl : lv_has ls 2 [(0, .ref o_q0), (1, .int p1)] := hl
  refine lv_aload_n S.1 S.2.1 dX9_wealthOf_0 rfl (lv_at hl 0 rfl) ?_
  refine gfX9_19 S hK hP 0 rfl rfl dX9_wealthOf_1 ?_
  refine lv_iload_n S.1 S.2.1 dX9_wealthOf_4 rfl (lv_at hl 1 rfl) ?_
  obtain ⟨x1, hx1, hf⟩ := bnd_e hf
  refine q_iald S hK hP 2 0 rfl rfl hx1 dX9_wealthOf_5 ?_
  refine lv_aload_n S.1 S.2.1 dX9_wealthOf_6 rfl (lv_at hl 0 rfl) ?_
  refine lv_iload_n S.1 S.2.1 dX9_wealthOf_7 rfl (lv_at hl 1 rfl) ?_
  obtain ⟨x2, hx2, hf⟩ := bnd_e hf
  refine Rd.cV (c_X9_netOf hx2) S hK hP 0 7 rfl rfl kVX9_51 rfl hl.1 [.int x1] rfl (Nat.le_of_ble_eq_true rfl) ⟨(Nat.le_of_ble_eq_true rfl), (Nat.le_of_ble_eq_true rfl)⟩ ⟨(Nat.zero_le _), (Nat.zero_le _)⟩ dX9_wealthOf_8 ?_
  refine lv_iadd S.1 S.2.1 dX9_wealthOf_11 ?_
  have e_ := Option.some.inj hf
  subst e_
  exact hret _ _ dX9_wealthOf_12
def f_X9_creditorsOf_L4 (fu : Nat) (o_people : Int32) (o_owed : (Nat → Int32)) (p1 : Int32) (s2 : Int32 × Int32) : Option ((Int32 × Int32) ⊕ (Int32)) := if o_people ≤ s2.2 then some (.inr s2.1) else bnd (α := Int32) (f_X9_owes fu o_owed p1 s2.2) (fun x5 => if x5 ≤ 0 then some (.inl (s2.1, (s2.2 + 1))) else ltn (s2.1 ||| (jshl (1 : Int32) s2.2)) (fun x6 => some (.inl (x6, (s2.2 + 1)))))
def f_X9_creditorsOf (fu : Nat) (o_people : Int32) (o_owed : (Nat → Int32)) (p1 : Int32) : Option (Int32) := bnd (α := Int32) (lp (f_X9_creditorsOf_L4 fu o_people o_owed p1) fu ((0 : Int32), (0 : Int32))) (fun v7 => some v7)
set_option maxHeartbeats 4000000 in
set_option maxRecDepth 100000 in
theorem c_X9_creditorsOf {l : Launch} {D : va_G} {g : Nat → ClassId} {fu : Nat} {o_q0 o_q1 o_q2 o_q3 o_q4 : Nat} {o_people : Int32} {o_wit : (Nat → Int32)} {o_purse : (Nat → Int32)} {o_hated : (Nat → Int32)} {o_owed : (Nat → Int32)} {p1 : Int32} {r : Int32} (hf : f_X9_creditorsOf fu o_people o_owed p1 = some r) : Rd l D (gy g) yX9_creditorsOf cX9_creditorsOf 4 (some .int) 1 [.ref o_q0, .int p1] (wTw g o_q0 o_q1 o_q2 o_q3 o_q4 o_people o_wit o_purse o_hated o_owed) (some (.int r)) := by
  refine Rd.ofI (by decide) (Nat.le_of_ble_eq_true rfl) ?_
  intro p e s m args below meth c Q S hK hP hret ls hl
  have hl : lv_has ls 4 [(0, .ref o_q0), (1, .int p1)] := hl
  refine lv_iconst (v := 0) S.1 S.2.1 dX9_creditorsOf_0 ic_0 ?_
  refine lv_istore_n (lv' := [(2, .int (0 : Int32)), (0, .ref o_q0), (1, .int p1)]) S.1 S.2.1 dX9_creditorsOf_1 rfl hl (by decide) rfl (fun ls hl => ?_)
  refine lv_iconst (v := 0) S.1 S.2.1 dX9_creditorsOf_2 ic_0 ?_
  refine lv_istore_n (lv' := [(3, .int (0 : Int32)), (2, .int (0 : Int32)), (0, .ref o_q0), (1, .int p1)]) S.1 S.2.1 dX9_creditorsOf_3 rfl hl (by decide) rfl (fun ls hl => ?_)
  obtain ⟨x3, hf_, hk3⟩ := bnd_e hf
  have hE3 : ∀ (v7 : Int32), v7 = x3 → ∀ (ls : Array Slot), lv_has ls 4 [(2, .int v7)] → W p l e (rmD 1) s m args below meth c s.heap [] 0 0 Q (F0 m 33 ls []) := by
    intro v7 e_ ls hl
    subst e_
    have hf := hk3
    refine lv_iload_n S.1 S.2.1 dX9_creditorsOf_33 rfl (lv_at hl 0 rfl) ?_
    have e_ := Option.some.inj hf
    subst e_
    exact hret _ _ dX9_creditorsOf_34
  refine lp_ind (P := fun (s2 : Int32 × Int32) => ∀ (ls : Array Slot), lv_has ls 4 [(0, .ref o_q0), (1, .int p1), (2, .int s2.1), (3, .int s2.2)] → W p l e (rmD 1) s m args below meth c s.heap [] 0 0 Q (F0 m 4 ls [])) ?_ _ _ hf_ _ (lv_sub hl [2, 3, 1, 0] rfl)
  intro s2 x4 hf hI3 hR3 ls hl
  refine lv_iload_n S.1 S.2.1 dX9_creditorsOf_4 rfl (lv_at hl 3 rfl) ?_
  refine lv_aload_n S.1 S.2.1 dX9_creditorsOf_5 rfl (lv_at hl 0 rfl) ?_
  refine gfX9_9 S hK hP 0 rfl rfl dX9_creditorsOf_6 ?_
  refine lv_icmp_ge (tgt := 33) S.1 S.2.1 dX9_creditorsOf_9 (by decide) (fun c_ => ?_) (fun c_ => ?_)
  · have hf := it_p c_ hf
    have e_ := hR3 _ (Option.some.inj hf).symm
    exact hE3 _ e_ _ (lv_sub hl [2] rfl)
  · have hf := it_n c_ hf
    refine lv_aload_n S.1 S.2.1 dX9_creditorsOf_12 rfl (lv_at hl 0 rfl) ?_
    refine lv_iload_n S.1 S.2.1 dX9_creditorsOf_13 rfl (lv_at hl 1 rfl) ?_
    refine lv_iload_n S.1 S.2.1 dX9_creditorsOf_14 rfl (lv_at hl 3 rfl) ?_
    obtain ⟨x5, hx5, hf⟩ := bnd_e hf
    refine Rd.cV (c_X9_owes hx5) S hK hP 0 7 rfl rfl kVX9_40 rfl hl.1 [] rfl (Nat.le_of_ble_eq_true rfl) ⟨(Nat.le_of_ble_eq_true rfl), (Nat.le_of_ble_eq_true rfl)⟩ ⟨(Nat.zero_le _), (Nat.zero_le _)⟩ dX9_creditorsOf_15 ?_
    refine lv_if_le (tgt := 27) S.1 S.2.1 dX9_creditorsOf_18 (by decide) (fun c_ => ?_) (fun c_ => ?_)
    · have hf := it_p c_ hf
      refine q_iinc (w := 1) (lv' := [(3, .int (s2.2 + 1)), (0, .ref o_q0), (1, .int p1), (2, .int s2.1)]) S dX9_creditorsOf_27 hl (k := 3) rfl ic_1 (by decide) rfl (fun ls hl => ?_)
      refine lv_goto (tgt := 4) S.1 S.2.1 dX9_creditorsOf_30 (by decide) ?_
      exact hI3 _ (Option.some.inj hf).symm _ (lv_sub hl [1, 2, 3, 0] rfl)
    · have hf := it_n c_ hf
      refine lv_iload_n S.1 S.2.1 dX9_creditorsOf_21 rfl (lv_at hl 2 rfl) ?_
      refine lv_iconst (v := 1) S.1 S.2.1 dX9_creditorsOf_22 ic_1 ?_
      refine lv_iload_n S.1 S.2.1 dX9_creditorsOf_23 rfl (lv_at hl 3 rfl) ?_
      refine lv_ishl S.1 S.2.1 dX9_creditorsOf_24 ?_
      refine lv_ior S.1 S.2.1 dX9_creditorsOf_25 ?_
      refine lv_topi (fun x6 ex6 => ?_)
      have hf := ltn_e hf ex6
      refine lv_istore_n (lv' := [(2, .int x6), (0, .ref o_q0), (1, .int p1), (3, .int s2.2)]) S.1 S.2.1 dX9_creditorsOf_26 rfl hl (by decide) rfl (fun ls hl => ?_)
      refine q_iinc (w := 1) (lv' := [(3, .int (s2.2 + 1)), (2, .int x6), (0, .ref o_q0), (1, .int p1)]) S dX9_creditorsOf_27 hl (k := 3) rfl ic_1 (by decide) rfl (fun ls hl => ?_)
      refine lv_goto (tgt := 4) S.1 S.2.1 dX9_creditorsOf_30 (by decide) ?_
      exact hI3 _ (Option.some.inj hf).symm _ (lv_sub hl [2, 3, 1, 0] rfl)
def f_X9_debtorsOf_L4 (fu : Nat) (o_people : Int32) (o_owed : (Nat → Int32)) (p1 : Int32) (s2 : Int32 × Int32) : Option ((Int32 × Int32) ⊕ (Int32)) := if o_people ≤ s2.2 then some (.inr s2.1) else bnd (α := Int32) (f_X9_owes fu o_owed s2.2 p1) (fun x5 => if x5 ≤ 0 then some (.inl (s2.1, (s2.2 + 1))) else ltn (s2.1 ||| (jshl (1 : Int32) s2.2)) (fun x6 => some (.inl (x6, (s2.2 + 1)))))
def f_X9_debtorsOf (fu : Nat) (o_people : Int32) (o_owed : (Nat → Int32)) (p1 : Int32) : Option (Int32) := bnd (α := Int32) (lp (f_X9_debtorsOf_L4 fu o_people o_owed p1) fu ((0 : Int32), (0 : Int32))) (fun v7 => some v7)
set_option maxHeartbeats 4000000 in
set_option maxRecDepth 100000 in
theorem c_X9_debtorsOf {l : Launch} {D : va_G} {g : Nat → ClassId} {fu : Nat} {o_q0 o_q1 o_q2 o_q3 o_q4 : Nat} {o_people : Int32} {o_wit : (Nat → Int32)} {o_purse : (Nat → Int32)} {o_hated : (Nat → Int32)} {o_owed : (Nat → Int32)} {p1 : Int32} {r : Int32} (hf : f_X9_debtorsOf fu o_people o_owed p1 = some r) : Rd l D (gy g) yX9_debtorsOf cX9_debtorsOf 4 (some .int) 1 [.ref o_q0, .int p1] (wTw g o_q0 o_q1 o_q2 o_q3 o_q4 o_people o_wit o_purse o_hated o_owed) (some (.int r)) := by
  refine Rd.ofI (by decide) (Nat.le_of_ble_eq_true rfl) ?_
  intro p e s m args below meth c Q S hK hP hret ls hl
  have hl : lv_has ls 4 [(0, .ref o_q0), (1, .int p1)] := hl
  refine lv_iconst (v := 0) S.1 S.2.1 dX9_debtorsOf_0 ic_0 ?_
  refine lv_istore_n (lv' := [(2, .int (0 : Int32)), (0, .ref o_q0), (1, .int p1)]) S.1 S.2.1 dX9_debtorsOf_1 rfl hl (by decide) rfl (fun ls hl => ?_)
  refine lv_iconst (v := 0) S.1 S.2.1 dX9_debtorsOf_2 ic_0 ?_
  refine lv_istore_n (lv' := [(3, .int (0 : Int32)), (2, .int (0 : Int32)), (0, .ref o_q0), (1, .int p1)]) S.1 S.2.1 dX9_debtorsOf_3 rfl hl (by decide) rfl (fun ls hl => ?_)
  obtain ⟨x3, hf_, hk3⟩ := bnd_e hf
  have hE3 : ∀ (v7 : Int32), v7 = x3 → ∀ (ls : Array Slot), lv_has ls 4 [(2, .int v7)] → W p l e (rmD 1) s m args below meth c s.heap [] 0 0 Q (F0 m 33 ls []) := by
    intro v7 e_ ls hl
    subst e_
    have hf := hk3
    refine lv_iload_n S.1 S.2.1 dX9_debtorsOf_33 rfl (lv_at hl 0 rfl) ?_
    have e_ := Option.some.inj hf
    subst e_
    exact hret _ _ dX9_debtorsOf_34
  refine lp_ind (P := fun (s2 : Int32 × Int32) => ∀ (ls : Array Slot), lv_has ls 4 [(0, .ref o_q0), (1, .int p1), (2, .int s2.1), (3, .int s2.2)] → W p l e (rmD 1) s m args below meth c s.heap [] 0 0 Q (F0 m 4 ls [])) ?_ _ _ hf_ _ (lv_sub hl [2, 3, 1, 0] rfl)
  intro s2 x4 hf hI3 hR3 ls hl
  refine lv_iload_n S.1 S.2.1 dX9_debtorsOf_4 rfl (lv_at hl 3 rfl) ?_
  refine lv_aload_n S.1 S.2.1 dX9_debtorsOf_5 rfl (lv_at hl 0 rfl) ?_
  refine gfX9_9 S hK hP 0 rfl rfl dX9_debtorsOf_6 ?_
  refine lv_icmp_ge (tgt := 33) S.1 S.2.1 dX9_debtorsOf_9 (by decide) (fun c_ => ?_) (fun c_ => ?_)
  · have hf := it_p c_ hf
    have e_ := hR3 _ (Option.some.inj hf).symm
    exact hE3 _ e_ _ (lv_sub hl [2] rfl)
  · have hf := it_n c_ hf
    refine lv_aload_n S.1 S.2.1 dX9_debtorsOf_12 rfl (lv_at hl 0 rfl) ?_
    refine lv_iload_n S.1 S.2.1 dX9_debtorsOf_13 rfl (lv_at hl 3 rfl) ?_
    refine lv_iload_n S.1 S.2.1 dX9_debtorsOf_14 rfl (lv_at hl 1 rfl) ?_
    obtain ⟨x5, hx5, hf⟩ := bnd_e hf
    refine Rd.cV (c_X9_owes hx5) S hK hP 0 7 rfl rfl kVX9_40 rfl hl.1 [] rfl (Nat.le_of_ble_eq_true rfl) ⟨(Nat.le_of_ble_eq_true rfl), (Nat.le_of_ble_eq_true rfl)⟩ ⟨(Nat.zero_le _), (Nat.zero_le _)⟩ dX9_debtorsOf_15 ?_
    refine lv_if_le (tgt := 27) S.1 S.2.1 dX9_debtorsOf_18 (by decide) (fun c_ => ?_) (fun c_ => ?_)
    · have hf := it_p c_ hf
      refine q_iinc (w := 1) (lv' := [(3, .int (s2.2 + 1)), (0, .ref o_q0), (1, .int p1), (2, .int s2.1)]) S dX9_debtorsOf_27 hl (k := 3) rfl ic_1 (by decide) rfl (fun ls hl => ?_)
      refine lv_goto (tgt := 4) S.1 S.2.1 dX9_debtorsOf_30 (by decide) ?_
      exact hI3 _ (Option.some.inj hf).symm _ (lv_sub hl [1, 2, 3, 0] rfl)
    · have hf := it_n c_ hf
      refine lv_iload_n S.1 S.2.1 dX9_debtorsOf_21 rfl (lv_at hl 2 rfl) ?_
      refine lv_iconst (v := 1) S.1 S.2.1 dX9_debtorsOf_22 ic_1 ?_
      refine lv_iload_n S.1 S.2.1 dX9_debtorsOf_23 rfl (lv_at hl 3 rfl) ?_
      refine lv_ishl S.1 S.2.1 dX9_debtorsOf_24 ?_
      refine lv_ior S.1 S.2.1 dX9_debtorsOf_25 ?_
      refine lv_topi (fun x6 ex6 => ?_)
      have hf := ltn_e hf ex6
      refine lv_istore_n (lv' := [(2, .int x6), (0, .ref o_q0), (1, .int p1), (3, .int s2.2)]) S.1 S.2.1 dX9_debtorsOf_26 rfl hl (by decide) rfl (fun ls hl => ?_)
      refine q_iinc (w := 1) (lv' := [(3, .int (s2.2 + 1)), (2, .int x6), (0, .ref o_q0), (1, .int p1)]) S dX9_debtorsOf_27 hl (k := 3) rfl ic_1 (by decide) rfl (fun ls hl => ?_)
      refine lv_goto (tgt := 4) S.1 S.2.1 dX9_debtorsOf_30 (by decide) ?_
      exact hI3 _ (Option.some.inj hf).symm _ (lv_sub hl [2, 3, 1, 0] rfl)
def f_X9_allHate_L2 (o_people : Int32) (o_hated : (Nat → Int32)) (p1 : Int32) (s2 : Int32) : Option ((Int32) ⊕ ((Int32) ⊕ (Unit))) := if o_people ≤ s2 then some (.inr (.inr ())) else if ((jshr p1 s2) &&& (1 : Int32)) = 0 then some (.inl (s2 + 1)) else bnd (α := Int32) (rdi 6 o_hated s2) (fun x5 => if (p1 &&& (x5 ^^^ (-1 : Int32))) = (jshl (1 : Int32) s2) then some (.inl (s2 + 1)) else some (.inr (.inl (0 : Int32))))
def f_X9_allHate (fu : Nat) (o_people : Int32) (o_hated : (Nat → Int32)) (p1 : Int32) : Option (Int32) := bnd (α := (Int32) ⊕ (Unit)) (lp (f_X9_allHate_L2 o_people o_hated p1) fu (0 : Int32)) (fun x3 => cse x3 (fun y7 => some y7) (fun v6 => some (1 : Int32)))
set_option maxHeartbeats 4000000 in
set_option maxRecDepth 100000 in
theorem c_X9_allHate {l : Launch} {D : va_G} {g : Nat → ClassId} {fu : Nat} {o_q0 o_q1 o_q2 o_q3 o_q4 : Nat} {o_people : Int32} {o_wit : (Nat → Int32)} {o_purse : (Nat → Int32)} {o_hated : (Nat → Int32)} {o_owed : (Nat → Int32)} {p1 : Int32} {r : Int32} (hf : f_X9_allHate fu o_people o_hated p1 = some r) : Rd l D (gy g) yX9_allHate cX9_allHate 3 (some .boolean) 0 [.ref o_q0, .int p1] (wTw g o_q0 o_q1 o_q2 o_q3 o_q4 o_people o_wit o_purse o_hated o_owed) (some (.int r)) := by
  refine Rd.ofZ (by decide) (Nat.le_of_ble_eq_true rfl) ?_
  intro p e s m args below meth c Q S hK hP hret ls hl
  have hl : lv_has ls 3 [(0, .ref o_q0), (1, .int p1)] := hl
  refine lv_iconst (v := 0) S.1 S.2.1 dX9_allHate_0 ic_0 ?_
  refine lv_istore_n (lv' := [(2, .int (0 : Int32)), (0, .ref o_q0), (1, .int p1)]) S.1 S.2.1 dX9_allHate_1 rfl hl (by decide) rfl (fun ls hl => ?_)
  obtain ⟨x3, hf_, hk3⟩ := bnd_e hf
  have hE3 : ∀ (v6 : Unit), x3 = .inr v6 → ∀ (ls : Array Slot), lv_has ls 3 [] → W p l e (rmD 0) s m args below meth c s.heap [] 0 0 Q (F0 m 42 ls []) := by
    intro v6 e_ ls hl
    subst e_
    have hf := cse_r hk3
    refine lv_iconst (v := 1) S.1 S.2.1 dX9_allHate_42 ic_1 ?_
    have e_ := Option.some.inj hf
    subst e_
    exact hret _ _ (Or.inr rfl) dX9_allHate_43
  refine lp_ind (P := fun (s2 : Int32) => ∀ (ls : Array Slot), lv_has ls 3 [(0, .ref o_q0), (1, .int p1), (2, .int s2)] → W p l e (rmD 0) s m args below meth c s.heap [] 0 0 Q (F0 m 2 ls [])) ?_ _ _ hf_ _ (lv_sub hl [1, 2, 0] rfl)
  intro s2 x4 hf hI3 hR3 ls hl
  refine lv_iload_n S.1 S.2.1 dX9_allHate_2 rfl (lv_at hl 2 rfl) ?_
  refine lv_aload_n S.1 S.2.1 dX9_allHate_3 rfl (lv_at hl 0 rfl) ?_
  refine gfX9_9 S hK hP 0 rfl rfl dX9_allHate_4 ?_
  refine lv_icmp_ge (tgt := 42) S.1 S.2.1 dX9_allHate_7 (by decide) (fun c_ => ?_) (fun c_ => ?_)
  · have hf := it_p c_ hf
    have e_ := hR3 _ (Option.some.inj hf).symm
    exact hE3 _ e_.symm _ (lv_sub hl [] rfl)
  · have hf := it_n c_ hf
    refine lv_iload_n S.1 S.2.1 dX9_allHate_10 rfl (lv_at hl 1 rfl) ?_
    refine lv_iload_n S.1 S.2.1 dX9_allHate_11 rfl (lv_at hl 2 rfl) ?_
    refine lv_ishr S.1 S.2.1 dX9_allHate_12 ?_
    refine lv_iconst (v := 1) S.1 S.2.1 dX9_allHate_13 ic_1 ?_
    refine lv_iand S.1 S.2.1 dX9_allHate_14 ?_
    refine lv_if_eq (tgt := 36) S.1 S.2.1 dX9_allHate_15 (by decide) (fun c_ => ?_) (fun c_ => ?_)
    · have hf := it_p c_ hf
      refine q_iinc (w := 1) (lv' := [(2, .int (s2 + 1)), (0, .ref o_q0), (1, .int p1)]) S dX9_allHate_36 hl (k := 2) rfl ic_1 (by decide) rfl (fun ls hl => ?_)
      refine lv_goto (tgt := 2) S.1 S.2.1 dX9_allHate_39 (by decide) ?_
      exact hI3 _ (Option.some.inj hf).symm _ (lv_sub hl [1, 2, 0] rfl)
    · have hf := it_n c_ hf
      refine lv_iload_n S.1 S.2.1 dX9_allHate_18 rfl (lv_at hl 1 rfl) ?_
      refine lv_aload_n S.1 S.2.1 dX9_allHate_19 rfl (lv_at hl 0 rfl) ?_
      refine gfX9_22 S hK hP 0 rfl rfl dX9_allHate_20 ?_
      refine lv_iload_n S.1 S.2.1 dX9_allHate_23 rfl (lv_at hl 2 rfl) ?_
      obtain ⟨x5, hx5, hf⟩ := bnd_e hf
      refine q_iald S hK hP 3 0 rfl rfl hx5 dX9_allHate_24 ?_
      refine lv_iconst (v := (-1)) S.1 S.2.1 dX9_allHate_25 ic_m1 ?_
      refine lv_ixor S.1 S.2.1 dX9_allHate_26 ?_
      refine lv_iand S.1 S.2.1 dX9_allHate_27 ?_
      refine lv_iconst (v := 1) S.1 S.2.1 dX9_allHate_28 ic_1 ?_
      refine lv_iload_n S.1 S.2.1 dX9_allHate_29 rfl (lv_at hl 2 rfl) ?_
      refine lv_ishl S.1 S.2.1 dX9_allHate_30 ?_
      refine lv_icmp_eq (tgt := 36) S.1 S.2.1 dX9_allHate_31 (by decide) (fun c_ => ?_) (fun c_ => ?_)
      · have hf := it_p c_ hf
        refine q_iinc (w := 1) (lv' := [(2, .int (s2 + 1)), (0, .ref o_q0), (1, .int p1)]) S dX9_allHate_36 hl (k := 2) rfl ic_1 (by decide) rfl (fun ls hl => ?_)
        refine lv_goto (tgt := 2) S.1 S.2.1 dX9_allHate_39 (by decide) ?_
        exact hI3 _ (Option.some.inj hf).symm _ (lv_sub hl [1, 2, 0] rfl)
      · have hf := it_n c_ hf
        refine lv_iconst (v := 0) S.1 S.2.1 dX9_allHate_34 ic_0 ?_
        have e_ := hR3 _ (Option.some.inj hf).symm
        subst e_
        have hf := cse_l hk3
        have e_ := Option.some.inj hf
        subst e_
        exact hret _ _ (Or.inl rfl) dX9_allHate_35
def f_X9_noneHate_L2 (o_people : Int32) (o_hated : (Nat → Int32)) (p1 : Int32) (s2 : Int32) : Option ((Int32) ⊕ ((Int32) ⊕ (Unit))) := if o_people ≤ s2 then some (.inr (.inr ())) else if ((jshr p1 s2) &&& (1 : Int32)) = 0 then some (.inl (s2 + 1)) else bnd (α := Int32) (rdi 6 o_hated s2) (fun x5 => if (p1 &&& x5) = 0 then some (.inl (s2 + 1)) else some (.inr (.inl (0 : Int32))))
def f_X9_noneHate (fu : Nat) (o_people : Int32) (o_hated : (Nat → Int32)) (p1 : Int32) : Option (Int32) := bnd (α := (Int32) ⊕ (Unit)) (lp (f_X9_noneHate_L2 o_people o_hated p1) fu (0 : Int32)) (fun x3 => cse x3 (fun y7 => some y7) (fun v6 => some (1 : Int32)))
set_option maxHeartbeats 4000000 in
set_option maxRecDepth 100000 in
theorem c_X9_noneHate {l : Launch} {D : va_G} {g : Nat → ClassId} {fu : Nat} {o_q0 o_q1 o_q2 o_q3 o_q4 : Nat} {o_people : Int32} {o_wit : (Nat → Int32)} {o_purse : (Nat → Int32)} {o_hated : (Nat → Int32)} {o_owed : (Nat → Int32)} {p1 : Int32} {r : Int32} (hf : f_X9_noneHate fu o_people o_hated p1 = some r) : Rd l D (gy g) yX9_noneHate cX9_noneHate 3 (some .boolean) 0 [.ref o_q0, .int p1] (wTw g o_q0 o_q1 o_q2 o_q3 o_q4 o_people o_wit o_purse o_hated o_owed) (some (.int r)) := by
  refine Rd.ofZ (by decide) (Nat.le_of_ble_eq_true rfl) ?_
  intro p e s m args below meth c Q S hK hP hret ls hl
  have hl : lv_has ls 3 [(0, .ref o_q0), (1, .int p1)] := hl
  refine lv_iconst (v := 0) S.1 S.2.1 dX9_noneHate_0 ic_0 ?_
  refine lv_istore_n (lv' := [(2, .int (0 : Int32)), (0, .ref o_q0), (1, .int p1)]) S.1 S.2.1 dX9_noneHate_1 rfl hl (by decide) rfl (fun ls hl => ?_)
  obtain ⟨x3, hf_, hk3⟩ := bnd_e hf
  have hE3 : ∀ (v6 : Unit), x3 = .inr v6 → ∀ (ls : Array Slot), lv_has ls 3 [] → W p l e (rmD 0) s m args below meth c s.heap [] 0 0 Q (F0 m 37 ls []) := by
    intro v6 e_ ls hl
    subst e_
    have hf := cse_r hk3
    refine lv_iconst (v := 1) S.1 S.2.1 dX9_noneHate_37 ic_1 ?_
    have e_ := Option.some.inj hf
    subst e_
    exact hret _ _ (Or.inr rfl) dX9_noneHate_38
  refine lp_ind (P := fun (s2 : Int32) => ∀ (ls : Array Slot), lv_has ls 3 [(0, .ref o_q0), (1, .int p1), (2, .int s2)] → W p l e (rmD 0) s m args below meth c s.heap [] 0 0 Q (F0 m 2 ls [])) ?_ _ _ hf_ _ (lv_sub hl [1, 2, 0] rfl)
  intro s2 x4 hf hI3 hR3 ls hl
  refine lv_iload_n S.1 S.2.1 dX9_noneHate_2 rfl (lv_at hl 2 rfl) ?_
  refine lv_aload_n S.1 S.2.1 dX9_noneHate_3 rfl (lv_at hl 0 rfl) ?_
  refine gfX9_9 S hK hP 0 rfl rfl dX9_noneHate_4 ?_
  refine lv_icmp_ge (tgt := 37) S.1 S.2.1 dX9_noneHate_7 (by decide) (fun c_ => ?_) (fun c_ => ?_)
  · have hf := it_p c_ hf
    have e_ := hR3 _ (Option.some.inj hf).symm
    exact hE3 _ e_.symm _ (lv_sub hl [] rfl)
  · have hf := it_n c_ hf
    refine lv_iload_n S.1 S.2.1 dX9_noneHate_10 rfl (lv_at hl 1 rfl) ?_
    refine lv_iload_n S.1 S.2.1 dX9_noneHate_11 rfl (lv_at hl 2 rfl) ?_
    refine lv_ishr S.1 S.2.1 dX9_noneHate_12 ?_
    refine lv_iconst (v := 1) S.1 S.2.1 dX9_noneHate_13 ic_1 ?_
    refine lv_iand S.1 S.2.1 dX9_noneHate_14 ?_
    refine lv_if_eq (tgt := 31) S.1 S.2.1 dX9_noneHate_15 (by decide) (fun c_ => ?_) (fun c_ => ?_)
    · have hf := it_p c_ hf
      refine q_iinc (w := 1) (lv' := [(2, .int (s2 + 1)), (0, .ref o_q0), (1, .int p1)]) S dX9_noneHate_31 hl (k := 2) rfl ic_1 (by decide) rfl (fun ls hl => ?_)
      refine lv_goto (tgt := 2) S.1 S.2.1 dX9_noneHate_34 (by decide) ?_
      exact hI3 _ (Option.some.inj hf).symm _ (lv_sub hl [1, 2, 0] rfl)
    · have hf := it_n c_ hf
      refine lv_iload_n S.1 S.2.1 dX9_noneHate_18 rfl (lv_at hl 1 rfl) ?_
      refine lv_aload_n S.1 S.2.1 dX9_noneHate_19 rfl (lv_at hl 0 rfl) ?_
      refine gfX9_22 S hK hP 0 rfl rfl dX9_noneHate_20 ?_
      refine lv_iload_n S.1 S.2.1 dX9_noneHate_23 rfl (lv_at hl 2 rfl) ?_
      obtain ⟨x5, hx5, hf⟩ := bnd_e hf
      refine q_iald S hK hP 3 0 rfl rfl hx5 dX9_noneHate_24 ?_
      refine lv_iand S.1 S.2.1 dX9_noneHate_25 ?_
      refine lv_if_eq (tgt := 31) S.1 S.2.1 dX9_noneHate_26 (by decide) (fun c_ => ?_) (fun c_ => ?_)
      · have hf := it_p c_ hf
        refine q_iinc (w := 1) (lv' := [(2, .int (s2 + 1)), (0, .ref o_q0), (1, .int p1)]) S dX9_noneHate_31 hl (k := 2) rfl ic_1 (by decide) rfl (fun ls hl => ?_)
        refine lv_goto (tgt := 2) S.1 S.2.1 dX9_noneHate_34 (by decide) ?_
        exact hI3 _ (Option.some.inj hf).symm _ (lv_sub hl [1, 2, 0] rfl)
      · have hf := it_n c_ hf
        refine lv_iconst (v := 0) S.1 S.2.1 dX9_noneHate_29 ic_0 ?_
        have e_ := hR3 _ (Option.some.inj hf).symm
        subst e_
        have hf := cse_l hk3
        have e_ := Option.some.inj hf
        subst e_
        exact hret _ _ (Or.inl rfl) dX9_noneHate_30
def f_X9_witOf_L4 (o_people : Int32) (o_wit : (Nat → Int32)) (p1 : Int32) (s2 : Int32 × Int32) : Option ((Int32 × Int32) ⊕ (Int32)) := if o_people ≤ s2.2 then some (.inr s2.1) else if ((jshr p1 s2.2) &&& (1 : Int32)) = 0 then some (.inl (s2.1, (s2.2 + 1))) else bnd (α := Int32) (rdi 6 o_wit s2.2) (fun x5 => ltn (s2.1 + x5) (fun x6 => some (.inl (x6, (s2.2 + 1)))))
def f_X9_witOf (fu : Nat) (o_people : Int32) (o_wit : (Nat → Int32)) (p1 : Int32) : Option (Int32) := bnd (α := Int32) (lp (f_X9_witOf_L4 o_people o_wit p1) fu ((0 : Int32), (0 : Int32))) (fun v7 => some v7)
set_option maxHeartbeats 4000000 in
set_option maxRecDepth 100000 in
theorem c_X9_witOf {l : Launch} {D : va_G} {g : Nat → ClassId} {fu : Nat} {o_q0 o_q1 o_q2 o_q3 o_q4 : Nat} {o_people : Int32} {o_wit : (Nat → Int32)} {o_purse : (Nat → Int32)} {o_hated : (Nat → Int32)} {o_owed : (Nat → Int32)} {p1 : Int32} {r : Int32} (hf : f_X9_witOf fu o_people o_wit p1 = some r) : Rd l D (gy g) yX9_witOf cX9_witOf 4 (some .int) 0 [.ref o_q0, .int p1] (wTw g o_q0 o_q1 o_q2 o_q3 o_q4 o_people o_wit o_purse o_hated o_owed) (some (.int r)) := by
  refine Rd.ofI (by decide) (Nat.le_of_ble_eq_true rfl) ?_
  intro p e s m args below meth c Q S hK hP hret ls hl
  have hl : lv_has ls 4 [(0, .ref o_q0), (1, .int p1)] := hl
  refine lv_iconst (v := 0) S.1 S.2.1 dX9_witOf_0 ic_0 ?_
  refine lv_istore_n (lv' := [(2, .int (0 : Int32)), (0, .ref o_q0), (1, .int p1)]) S.1 S.2.1 dX9_witOf_1 rfl hl (by decide) rfl (fun ls hl => ?_)
  refine lv_iconst (v := 0) S.1 S.2.1 dX9_witOf_2 ic_0 ?_
  refine lv_istore_n (lv' := [(3, .int (0 : Int32)), (2, .int (0 : Int32)), (0, .ref o_q0), (1, .int p1)]) S.1 S.2.1 dX9_witOf_3 rfl hl (by decide) rfl (fun ls hl => ?_)
  obtain ⟨x3, hf_, hk3⟩ := bnd_e hf
  have hE3 : ∀ (v7 : Int32), v7 = x3 → ∀ (ls : Array Slot), lv_has ls 4 [(2, .int v7)] → W p l e (rmD 0) s m args below meth c s.heap [] 0 0 Q (F0 m 35 ls []) := by
    intro v7 e_ ls hl
    subst e_
    have hf := hk3
    refine lv_iload_n S.1 S.2.1 dX9_witOf_35 rfl (lv_at hl 0 rfl) ?_
    have e_ := Option.some.inj hf
    subst e_
    exact hret _ _ dX9_witOf_36
  refine lp_ind (P := fun (s2 : Int32 × Int32) => ∀ (ls : Array Slot), lv_has ls 4 [(0, .ref o_q0), (1, .int p1), (2, .int s2.1), (3, .int s2.2)] → W p l e (rmD 0) s m args below meth c s.heap [] 0 0 Q (F0 m 4 ls [])) ?_ _ _ hf_ _ (lv_sub hl [2, 3, 1, 0] rfl)
  intro s2 x4 hf hI3 hR3 ls hl
  refine lv_iload_n S.1 S.2.1 dX9_witOf_4 rfl (lv_at hl 3 rfl) ?_
  refine lv_aload_n S.1 S.2.1 dX9_witOf_5 rfl (lv_at hl 0 rfl) ?_
  refine gfX9_9 S hK hP 0 rfl rfl dX9_witOf_6 ?_
  refine lv_icmp_ge (tgt := 35) S.1 S.2.1 dX9_witOf_9 (by decide) (fun c_ => ?_) (fun c_ => ?_)
  · have hf := it_p c_ hf
    have e_ := hR3 _ (Option.some.inj hf).symm
    exact hE3 _ e_ _ (lv_sub hl [2] rfl)
  · have hf := it_n c_ hf
    refine lv_iload_n S.1 S.2.1 dX9_witOf_12 rfl (lv_at hl 1 rfl) ?_
    refine lv_iload_n S.1 S.2.1 dX9_witOf_13 rfl (lv_at hl 3 rfl) ?_
    refine lv_ishr S.1 S.2.1 dX9_witOf_14 ?_
    refine lv_iconst (v := 1) S.1 S.2.1 dX9_witOf_15 ic_1 ?_
    refine lv_iand S.1 S.2.1 dX9_witOf_16 ?_
    refine lv_if_eq (tgt := 29) S.1 S.2.1 dX9_witOf_17 (by decide) (fun c_ => ?_) (fun c_ => ?_)
    · have hf := it_p c_ hf
      refine q_iinc (w := 1) (lv' := [(3, .int (s2.2 + 1)), (0, .ref o_q0), (1, .int p1), (2, .int s2.1)]) S dX9_witOf_29 hl (k := 3) rfl ic_1 (by decide) rfl (fun ls hl => ?_)
      refine lv_goto (tgt := 4) S.1 S.2.1 dX9_witOf_32 (by decide) ?_
      exact hI3 _ (Option.some.inj hf).symm _ (lv_sub hl [1, 2, 3, 0] rfl)
    · have hf := it_n c_ hf
      refine lv_iload_n S.1 S.2.1 dX9_witOf_20 rfl (lv_at hl 2 rfl) ?_
      refine lv_aload_n S.1 S.2.1 dX9_witOf_21 rfl (lv_at hl 0 rfl) ?_
      refine gfX9_15 S hK hP 0 rfl rfl dX9_witOf_22 ?_
      refine lv_iload_n S.1 S.2.1 dX9_witOf_25 rfl (lv_at hl 3 rfl) ?_
      obtain ⟨x5, hx5, hf⟩ := bnd_e hf
      refine q_iald S hK hP 1 0 rfl rfl hx5 dX9_witOf_26 ?_
      refine lv_iadd S.1 S.2.1 dX9_witOf_27 ?_
      refine lv_topi (fun x6 ex6 => ?_)
      have hf := ltn_e hf ex6
      refine lv_istore_n (lv' := [(2, .int x6), (0, .ref o_q0), (1, .int p1), (3, .int s2.2)]) S.1 S.2.1 dX9_witOf_28 rfl hl (by decide) rfl (fun ls hl => ?_)
      refine q_iinc (w := 1) (lv' := [(3, .int (s2.2 + 1)), (2, .int x6), (0, .ref o_q0), (1, .int p1)]) S dX9_witOf_29 hl (k := 3) rfl ic_1 (by decide) rfl (fun ls hl => ?_)
      refine lv_goto (tgt := 4) S.1 S.2.1 dX9_witOf_32 (by decide) ?_
      exact hI3 _ (Option.some.inj hf).symm _ (lv_sub hl [2, 3, 1, 0] rfl)
def f_X9_tell (fu : Nat) (o_people : Int32) (o_wit : (Nat → Int32)) (o_purse : (Nat → Int32)) (o_hated : (Nat → Int32)) (o_owed : (Nat → Int32)) (p1 : Int32) : Option (Int32) := if p1 = 0 then some o_people else bnd (α := (Int32) ⊕ (Unit)) (if p1 < (10 : Int32) then some (.inr ()) else if (40 : Int32) ≤ p1 then some (.inr ()) else ltn (jrm p1 (10 : Int32)) (fun x8 => bnd (α := Int32) (f_X9_has fu o_people x8) (fun x9 => if x9 = 0 then some (.inl (-1 : Int32)) else if (20 : Int32) ≤ p1 then if (30 : Int32) ≤ p1 then bnd (α := Int32) (rdi 6 o_hated x8) (fun x10 => some (.inl x10)) else bnd (α := Int32) (rdi 6 o_purse x8) (fun x11 => some (.inl x11)) else bnd (α := Int32) (rdi 6 o_wit x8) (fun x12 => some (.inl x12))))) (fun x1 => cse x1 (fun y13 => some y13) (fun v2 => if p1 < (100 : Int32) then some (-1 : Int32) else if (200 : Int32) ≤ p1 then some (-1 : Int32) else ltn ((p1 - (100 : Int32)) / (10 : Int32)) (fun x3 => ltn (jrm p1 (10 : Int32)) (fun x4 => bnd (α := Int32) (f_X9_has fu o_people x3) (fun x5 => if x5 = 0 then some (-1 : Int32) else bnd (α := Int32) (f_X9_has fu o_people x4) (fun x6 => if x6 = 0 then some (-1 : Int32) else bnd (α := Int32) (f_X9_owes fu o_owed x3 x4) (fun x7 => some x7)))))))
set_option maxHeartbeats 4000000 in
set_option maxRecDepth 100000 in
theorem c_X9_tell {l : Launch} {D : va_G} {g : Nat → ClassId} {fu : Nat} {o_q0 o_q1 o_q2 o_q3 o_q4 : Nat} {o_people : Int32} {o_wit : (Nat → Int32)} {o_purse : (Nat → Int32)} {o_hated : (Nat → Int32)} {o_owed : (Nat → Int32)} {p1 : Int32} {r : Int32} (hf : f_X9_tell fu o_people o_wit o_purse o_hated o_owed p1 = some r) : Rd l D (gy g) yX9_tell cX9_tell 4 (some .int) 1 [.ref o_q0, .int p1] (wTw g o_q0 o_q1 o_q2 o_q3 o_q4 o_people o_wit o_purse o_hated o_owed) (some (.int r)) := by
  refine Rd.ofI (by decide) (Nat.le_of_ble_eq_true rfl) ?_
  intro p e s m args below meth c Q S hK hP hret ls hl
  have hl : lv_has ls 4 [(0, .ref o_q0), (1, .int p1)] := hl
  refine lv_iload_n S.1 S.2.1 dX9_tell_0 rfl (lv_at hl 1 rfl) ?_
  refine lv_if_ne (tgt := 9) S.1 S.2.1 dX9_tell_1 (by decide) (fun c_ => ?_) (fun c_ => ?_)
  · have hf := it_n c_ hf
    refine lv_iload_n S.1 S.2.1 dX9_tell_9 rfl (lv_at hl 1 rfl) ?_
    refine lv_bipush (v := 10) S.1 S.2.1 dX9_tell_10 bp_10 ?_
    obtain ⟨x1, hf_, hk1⟩ := bnd_e hf
    have hJ1 : ∀ (v2 : Unit), x1 = .inr v2 → ∀ (ls : Array Slot), lv_has ls 4 [(0, .ref o_q0), (1, .int p1)] → W p l e (rmD 1) s m args below meth c s.heap [] 0 0 Q (F0 m 71 ls []) := by
      intro v2 e_ ls hl
      subst e_
      have hf := cse_r hk1
      refine lv_iload_n S.1 S.2.1 dX9_tell_71 rfl (lv_at hl 1 rfl) ?_
      refine lv_bipush (v := 100) S.1 S.2.1 dX9_tell_72 bp_100 ?_
      refine lv_icmp_lt (tgt := 124) S.1 S.2.1 dX9_tell_74 (by decide) (fun c_ => ?_) (fun c_ => ?_)
      · have hf := it_p c_ hf
        refine lv_iconst (v := (-1)) S.1 S.2.1 dX9_tell_124 ic_m1 ?_
        have e_ := Option.some.inj hf
        subst e_
        exact hret _ _ dX9_tell_125
      · have hf := it_n c_ hf
        refine lv_iload_n S.1 S.2.1 dX9_tell_77 rfl (lv_at hl 1 rfl) ?_
        refine lv_sipush (v := 200) S.1 S.2.1 dX9_tell_78 sp_200 ?_
        refine lv_icmp_ge (tgt := 124) S.1 S.2.1 dX9_tell_81 (by decide) (fun c_ => ?_) (fun c_ => ?_)
        · have hf := it_p c_ hf
          refine lv_iconst (v := (-1)) S.1 S.2.1 dX9_tell_124 ic_m1 ?_
          have e_ := Option.some.inj hf
          subst e_
          exact hret _ _ dX9_tell_125
        · have hf := it_n c_ hf
          refine lv_iload_n S.1 S.2.1 dX9_tell_84 rfl (lv_at hl 1 rfl) ?_
          refine lv_bipush (v := 100) S.1 S.2.1 dX9_tell_85 bp_100 ?_
          refine lv_isub S.1 S.2.1 dX9_tell_87 ?_
          refine lv_bipush (v := 10) S.1 S.2.1 dX9_tell_88 bp_10 ?_
          refine lv_idiv S.1 S.2.1 dX9_tell_90 (by decide) ?_
          refine lv_topi (fun x3 ex3 => ?_)
          have hf := ltn_e hf ex3
          refine lv_istore_n (lv' := [(2, .int x3), (0, .ref o_q0), (1, .int p1)]) S.1 S.2.1 dX9_tell_91 rfl hl (by decide) rfl (fun ls hl => ?_)
          refine lv_iload_n S.1 S.2.1 dX9_tell_92 rfl (lv_at hl 2 rfl) ?_
          refine lv_bipush (v := 10) S.1 S.2.1 dX9_tell_93 bp_10 ?_
          refine lv_irem S.1 S.2.1 dX9_tell_95 (by decide) ?_
          refine lv_topi (fun x4 ex4 => ?_)
          have hf := ltn_e hf ex4
          refine lv_istore_n (lv' := [(3, .int x4), (2, .int x3), (0, .ref o_q0), (1, .int p1)]) S.1 S.2.1 dX9_tell_96 rfl hl (by decide) rfl (fun ls hl => ?_)
          refine lv_aload_n S.1 S.2.1 dX9_tell_97 rfl (lv_at hl 2 rfl) ?_
          refine lv_iload_n S.1 S.2.1 dX9_tell_98 rfl (lv_at hl 1 rfl) ?_
          obtain ⟨x5, hx5, hf⟩ := bnd_e hf
          refine Rd.cV (c_X9_has hx5) S hK hP 0 7 rfl rfl kVX9_54 rfl hl.1 [] rfl (Nat.le_of_ble_eq_true rfl) ⟨(Nat.le_of_ble_eq_true rfl), (Nat.le_of_ble_eq_true rfl)⟩ ⟨(Nat.zero_le _), (Nat.zero_le _)⟩ dX9_tell_99 ?_
          refine lv_if_eq (tgt := 122) S.1 S.2.1 dX9_tell_102 (by decide) (fun c_ => ?_) (fun c_ => ?_)
          · have hf := it_p c_ hf
            refine lv_iconst (v := (-1)) S.1 S.2.1 dX9_tell_122 ic_m1 ?_
            have e_ := Option.some.inj hf
            subst e_
            exact hret _ _ dX9_tell_123
          · have hf := it_n c_ hf
            refine lv_aload_n S.1 S.2.1 dX9_tell_105 rfl (lv_at hl 2 rfl) ?_
            refine lv_iload_n S.1 S.2.1 dX9_tell_106 rfl (lv_at hl 0 rfl) ?_
            obtain ⟨x6, hx6, hf⟩ := bnd_e hf
            refine Rd.cV (c_X9_has hx6) S hK hP 0 7 rfl rfl kVX9_54 rfl hl.1 [] rfl (Nat.le_of_ble_eq_true rfl) ⟨(Nat.le_of_ble_eq_true rfl), (Nat.le_of_ble_eq_true rfl)⟩ ⟨(Nat.zero_le _), (Nat.zero_le _)⟩ dX9_tell_107 ?_
            refine lv_if_eq (tgt := 122) S.1 S.2.1 dX9_tell_110 (by decide) (fun c_ => ?_) (fun c_ => ?_)
            · have hf := it_p c_ hf
              refine lv_iconst (v := (-1)) S.1 S.2.1 dX9_tell_122 ic_m1 ?_
              have e_ := Option.some.inj hf
              subst e_
              exact hret _ _ dX9_tell_123
            · have hf := it_n c_ hf
              refine lv_aload_n S.1 S.2.1 dX9_tell_113 rfl (lv_at hl 2 rfl) ?_
              refine lv_iload_n S.1 S.2.1 dX9_tell_114 rfl (lv_at hl 1 rfl) ?_
              refine lv_iload_n S.1 S.2.1 dX9_tell_115 rfl (lv_at hl 0 rfl) ?_
              obtain ⟨x7, hx7, hf⟩ := bnd_e hf
              refine Rd.cV (c_X9_owes hx7) S hK hP 0 7 rfl rfl kVX9_40 rfl hl.1 [] rfl (Nat.le_of_ble_eq_true rfl) ⟨(Nat.le_of_ble_eq_true rfl), (Nat.le_of_ble_eq_true rfl)⟩ ⟨(Nat.zero_le _), (Nat.zero_le _)⟩ dX9_tell_116 ?_
              refine lv_goto (tgt := 123) S.1 S.2.1 dX9_tell_119 (by decide) ?_
              have e_ := Option.some.inj hf
              subst e_
              exact hret _ _ dX9_tell_123
    have hf := hf_
    refine lv_icmp_lt (tgt := 71) S.1 S.2.1 dX9_tell_12 (by decide) (fun c_ => ?_) (fun c_ => ?_)
    · have hf := it_p c_ hf
      exact hJ1 _ (Option.some.inj hf).symm _ (lv_sub hl [0, 1] rfl)
    · have hf := it_n c_ hf
      refine lv_iload_n S.1 S.2.1 dX9_tell_15 rfl (lv_at hl 1 rfl) ?_
      refine lv_bipush (v := 40) S.1 S.2.1 dX9_tell_16 bp_40 ?_
      refine lv_icmp_ge (tgt := 71) S.1 S.2.1 dX9_tell_18 (by decide) (fun c_ => ?_) (fun c_ => ?_)
      · have hf := it_p c_ hf
        exact hJ1 _ (Option.some.inj hf).symm _ (lv_sub hl [0, 1] rfl)
      · have hf := it_n c_ hf
        refine lv_iload_n S.1 S.2.1 dX9_tell_21 rfl (lv_at hl 1 rfl) ?_
        refine lv_bipush (v := 10) S.1 S.2.1 dX9_tell_22 bp_10 ?_
        refine lv_irem S.1 S.2.1 dX9_tell_24 (by decide) ?_
        refine lv_topi (fun x8 ex8 => ?_)
        have hf := ltn_e hf ex8
        refine lv_istore_n (lv' := [(2, .int x8), (0, .ref o_q0), (1, .int p1)]) S.1 S.2.1 dX9_tell_25 rfl hl (by decide) rfl (fun ls hl => ?_)
        refine lv_aload_n S.1 S.2.1 dX9_tell_26 rfl (lv_at hl 1 rfl) ?_
        refine lv_iload_n S.1 S.2.1 dX9_tell_27 rfl (lv_at hl 0 rfl) ?_
        obtain ⟨x9, hx9, hf⟩ := bnd_e hf
        refine Rd.cV (c_X9_has hx9) S hK hP 0 7 rfl rfl kVX9_54 rfl hl.1 [] rfl (Nat.le_of_ble_eq_true rfl) ⟨(Nat.le_of_ble_eq_true rfl), (Nat.le_of_ble_eq_true rfl)⟩ ⟨(Nat.zero_le _), (Nat.zero_le _)⟩ dX9_tell_28 ?_
        refine lv_if_ne (tgt := 36) S.1 S.2.1 dX9_tell_31 (by decide) (fun c_ => ?_) (fun c_ => ?_)
        · have hf := it_n c_ hf
          refine lv_iload_n S.1 S.2.1 dX9_tell_36 rfl (lv_at hl 2 rfl) ?_
          refine lv_bipush (v := 20) S.1 S.2.1 dX9_tell_37 bp_20 ?_
          refine lv_icmp_ge (tgt := 49) S.1 S.2.1 dX9_tell_39 (by decide) (fun c_ => ?_) (fun c_ => ?_)
          · have hf := it_p c_ hf
            refine lv_iload_n S.1 S.2.1 dX9_tell_49 rfl (lv_at hl 2 rfl) ?_
            refine lv_bipush (v := 30) S.1 S.2.1 dX9_tell_50 bp_30 ?_
            refine lv_icmp_ge (tgt := 64) S.1 S.2.1 dX9_tell_52 (by decide) (fun c_ => ?_) (fun c_ => ?_)
            · have hf := it_p c_ hf
              refine lv_aload_n S.1 S.2.1 dX9_tell_64 rfl (lv_at hl 1 rfl) ?_
              refine gfX9_22 S hK hP 0 rfl rfl dX9_tell_65 ?_
              refine lv_iload_n S.1 S.2.1 dX9_tell_68 rfl (lv_at hl 0 rfl) ?_
              obtain ⟨x10, hx10, hf⟩ := bnd_e hf
              refine q_iald S hK hP 3 0 rfl rfl hx10 dX9_tell_69 ?_
              have e_ := Option.some.inj hf
              subst e_
              have hf := cse_l hk1
              have e_ := Option.some.inj hf
              subst e_
              exact hret _ _ dX9_tell_70
            · have hf := it_n c_ hf
              refine lv_aload_n S.1 S.2.1 dX9_tell_55 rfl (lv_at hl 1 rfl) ?_
              refine gfX9_19 S hK hP 0 rfl rfl dX9_tell_56 ?_
              refine lv_iload_n S.1 S.2.1 dX9_tell_59 rfl (lv_at hl 0 rfl) ?_
              obtain ⟨x11, hx11, hf⟩ := bnd_e hf
              refine q_iald S hK hP 2 0 rfl rfl hx11 dX9_tell_60 ?_
              refine lv_goto (tgt := 70) S.1 S.2.1 dX9_tell_61 (by decide) ?_
              have e_ := Option.some.inj hf
              subst e_
              have hf := cse_l hk1
              have e_ := Option.some.inj hf
              subst e_
              exact hret _ _ dX9_tell_70
          · have hf := it_n c_ hf
            refine lv_aload_n S.1 S.2.1 dX9_tell_42 rfl (lv_at hl 1 rfl) ?_
            refine gfX9_15 S hK hP 0 rfl rfl dX9_tell_43 ?_
            refine lv_iload_n S.1 S.2.1 dX9_tell_46 rfl (lv_at hl 0 rfl) ?_
            obtain ⟨x12, hx12, hf⟩ := bnd_e hf
            refine q_iald S hK hP 1 0 rfl rfl hx12 dX9_tell_47 ?_
            have e_ := Option.some.inj hf
            subst e_
            have hf := cse_l hk1
            have e_ := Option.some.inj hf
            subst e_
            exact hret _ _ dX9_tell_48
        · have hf := it_p c_ hf
          refine lv_iconst (v := (-1)) S.1 S.2.1 dX9_tell_34 ic_m1 ?_
          have e_ := Option.some.inj hf
          subst e_
          have hf := cse_l hk1
          have e_ := Option.some.inj hf
          subst e_
          exact hret _ _ dX9_tell_35
  · have hf := it_p c_ hf
    refine lv_aload_n S.1 S.2.1 dX9_tell_4 rfl (lv_at hl 0 rfl) ?_
    refine gfX9_9 S hK hP 0 rfl rfl dX9_tell_5 ?_
    have e_ := Option.some.inj hf
    subst e_
    exact hret _ _ dX9_tell_8
