def f_X6_gain (fu : Nat) (t_wit : (Nat → Int32)) (t_hated : (Nat → Int32)) (p2 : Int32) (p3 : Int32) : Option (Int32) := bnd (α := Int32) (rdi 6 t_hated p2) (fun x1 => if (x1 &&& p3) = 0 then bnd (α := Int32) (rdi 6 t_wit p2) (fun x2 => some x2) else bnd (α := Int32) (rdi 6 t_wit p2) (fun x3 => some (-x3)))
set_option maxHeartbeats 4000000 in
set_option maxRecDepth 100000 in
theorem c_X6_gain {l : Launch} {D : va_G} {g : Nat → ClassId} {fu : Nat} {t_q0 t_q1 t_q2 t_q3 t_q4 : Nat} {t_people : Int32} {t_wit : (Nat → Int32)} {t_purse : (Nat → Int32)} {t_hated : (Nat → Int32)} {t_owed : (Nat → Int32)} {p2 : Int32} {p3 : Int32} {r : Int32} (hf : f_X6_gain fu t_wit t_hated p2 p3 = some r) : Rd l D (gy g) yX6_gain cX6_gain 3 (some .int) 0 [.ref t_q0, .int p2, .int p3] (wTw g t_q0 t_q1 t_q2 t_q3 t_q4 t_people t_wit t_purse t_hated t_owed) (some (.int r)) := by
  refine Rd.ofI (by decide) (Nat.le_of_ble_eq_true rfl) ?_
  intro p e s m args below meth c Q S hK hP hret ls hl
  have hl : lv_has ls 3 [(0, .ref t_q0), (1, .int p2), (2, .int p3)] := hl
  refine lv_aload_n S.1 S.2.1 dX6_gain_0 rfl (lv_at hl 0 rfl) ?_
  refine gfX6_32 S hK hP 0 rfl rfl dX6_gain_1 ?_
  refine lv_iload_n S.1 S.2.1 dX6_gain_4 rfl (lv_at hl 1 rfl) ?_
  obtain ⟨x1, hx1, hf⟩ := bnd_e hf
  refine q_iald S hK hP 3 0 rfl rfl hx1 dX6_gain_5 ?_
  refine lv_iload_n S.1 S.2.1 dX6_gain_6 rfl (lv_at hl 2 rfl) ?_
  refine lv_iand S.1 S.2.1 dX6_gain_7 ?_
  refine lv_if_ne (tgt := 20) S.1 S.2.1 dX6_gain_8 (by decide) (fun c_ => ?_) (fun c_ => ?_)
  · have hf := it_n c_ hf
    refine lv_aload_n S.1 S.2.1 dX6_gain_20 rfl (lv_at hl 0 rfl) ?_
    refine gfX6_35 S hK hP 0 rfl rfl dX6_gain_21 ?_
    refine lv_iload_n S.1 S.2.1 dX6_gain_24 rfl (lv_at hl 1 rfl) ?_
    obtain ⟨x3, hx3, hf⟩ := bnd_e hf
    refine q_iald S hK hP 1 0 rfl rfl hx3 dX6_gain_25 ?_
    refine lv_ineg S.1 S.2.1 dX6_gain_26 ?_
    have e_ := Option.some.inj hf
    subst e_
    exact hret _ _ dX6_gain_27
  · have hf := it_p c_ hf
    refine lv_aload_n S.1 S.2.1 dX6_gain_11 rfl (lv_at hl 0 rfl) ?_
    refine gfX6_35 S hK hP 0 rfl rfl dX6_gain_12 ?_
    refine lv_iload_n S.1 S.2.1 dX6_gain_15 rfl (lv_at hl 1 rfl) ?_
    obtain ⟨x2, hx2, hf⟩ := bnd_e hf
    refine q_iald S hK hP 1 0 rfl rfl hx2 dX6_gain_16 ?_
    refine lv_goto (tgt := 27) S.1 S.2.1 dX6_gain_17 (by decide) ?_
    have e_ := Option.some.inj hf
    subst e_
    exact hret _ _ dX6_gain_27
def f_X6_leadOf_L40 (fu : Nat) (rec_ : Int32 → (Nat → Int32) → (Nat → Int32) → Int32 → Int32 → Int32 → Option (Int32)) (t_people : Int32) (t_wit : (Nat → Int32)) (t_hated : (Nat → Int32)) (p2 : Int32) (p3 : Int32) (p4 : Int32) (x1 : Int32) (s3 : Int32 × Int32) : Option ((Int32 × Int32) ⊕ (Int32)) := if t_people ≤ s3.2 then some (.inr s3.1) else if ((jshr x1 s3.2) &&& (1 : Int32)) = 0 then some (.inl (s3.1, (s3.2 + 1))) else bnd (α := Int32) (f_X6_gain fu t_wit t_hated s3.2 p2) (fun x6 => bnd (α := Int32) (rec_ t_people t_wit t_hated p3 (p2 ||| (jshl (1 : Int32) s3.2)) (p4 - (1 : Int32))) (fun x7 => ltn (jmax s3.1 (x6 - x7)) (fun x8 => some (.inl (x8, (s3.2 + 1))))))
def F_X6_leadOf (rec_ : Int32 → (Nat → Int32) → (Nat → Int32) → Int32 → Int32 → Int32 → Option (Int32)) (fu : Nat) (t_people : Int32) (t_wit : (Nat → Int32)) (t_hated : (Nat → Int32)) (p2 : Int32) (p3 : Int32) (p4 : Int32) : Option (Int32) := ltn (((p2 ||| p3) ^^^ (-1 : Int32)) &&& ((jshl (1 : Int32) t_people) - (1 : Int32))) (fun x1 => if p4 ≤ 0 then some (0 : Int32) else if (5 : Int32) < p4 then some (0 : Int32) else if x1 = 0 then some (0 : Int32) else bnd (α := Int32) (lp (f_X6_leadOf_L40 fu rec_ t_people t_wit t_hated p2 p3 p4 x1) fu ((-999 : Int32), (0 : Int32))) (fun v9 => some v9))
def f_X6_leadOf (fu : Nat) : Nat → Int32 → (Nat → Int32) → (Nat → Int32) → Int32 → Int32 → Int32 → Option (Int32)
  | 0, _, _, _, _, _, _ => none
  | dp + 1, t_people, t_wit, t_hated, p2, p3, p4 => F_X6_leadOf (f_X6_leadOf fu dp) fu t_people t_wit t_hated p2 p3 p4
set_option maxHeartbeats 4000000 in
set_option maxRecDepth 100000 in
theorem c_X6_leadOf {l : Launch} {D : va_G} {g : Nat → ClassId} {fu : Nat} : ∀ (dp : Nat) {t_q0 t_q1 t_q2 t_q3 t_q4 : Nat} {t_people : Int32} {t_wit : (Nat → Int32)} {t_purse : (Nat → Int32)} {t_hated : (Nat → Int32)} {t_owed : (Nat → Int32)} {p2 : Int32} {p3 : Int32} {p4 : Int32} {r : Int32}, f_X6_leadOf fu dp t_people t_wit t_hated p2 p3 p4 = some r → Rd l D (gy g) yX6_leadOf cX6_leadOf 7 (some .int) (1 + dp) [.ref t_q0, .int p2, .int p3, .int p4] (wTw g t_q0 t_q1 t_q2 t_q3 t_q4 t_people t_wit t_purse t_hated t_owed) (some (.int r)) := by
  intro dp
  induction dp with
  | zero => intro t_q0 t_q1 t_q2 t_q3 t_q4 t_people t_wit t_purse t_hated t_owed p2 p3 p4 r hf; cases hf
  | succ dp ih_ =>
  intro t_q0 t_q1 t_q2 t_q3 t_q4 t_people t_wit t_purse t_hated t_owed p2 p3 p4 r hf
  have hf : F_X6_leadOf (f_X6_leadOf fu dp) fu t_people t_wit t_hated p2 p3 p4 = some r := hf
  refine Rd.ofI (by decide) (Nat.le_of_ble_eq_true rfl) ?_
  intro p e s m args below meth c Q S hK hP hret ls hl
  have hl : lv_has ls 7 [(0, .ref t_q0), (1, .int p2), (2, .int p3), (3, .int p4)] := hl
  refine lv_iload_n S.1 S.2.1 dX6_leadOf_0 rfl (lv_at hl 1 rfl) ?_
  refine lv_iload_n S.1 S.2.1 dX6_leadOf_1 rfl (lv_at hl 2 rfl) ?_
  refine lv_ior S.1 S.2.1 dX6_leadOf_2 ?_
  refine lv_iconst (v := (-1)) S.1 S.2.1 dX6_leadOf_3 ic_m1 ?_
  refine lv_ixor S.1 S.2.1 dX6_leadOf_4 ?_
  refine lv_iconst (v := 1) S.1 S.2.1 dX6_leadOf_5 ic_1 ?_
  refine lv_aload_n S.1 S.2.1 dX6_leadOf_6 rfl (lv_at hl 0 rfl) ?_
  refine gfX6_18 S hK hP 0 rfl rfl dX6_leadOf_7 ?_
  refine lv_ishl S.1 S.2.1 dX6_leadOf_10 ?_
  refine lv_iconst (v := 1) S.1 S.2.1 dX6_leadOf_11 ic_1 ?_
  refine lv_isub S.1 S.2.1 dX6_leadOf_12 ?_
  refine lv_iand S.1 S.2.1 dX6_leadOf_13 ?_
  refine lv_topi (fun x1 ex1 => ?_)
  have hf := ltn_e hf ex1
  refine lv_istore (lv' := [(4, .int x1), (0, .ref t_q0), (1, .int p2), (2, .int p3), (3, .int p4)]) S.1 S.2.1 dX6_leadOf_14 hl (by decide) rfl (fun ls hl => ?_)
  refine lv_iload_n S.1 S.2.1 dX6_leadOf_16 rfl (lv_at hl 4 rfl) ?_
  refine lv_if_le (tgt := 30) S.1 S.2.1 dX6_leadOf_17 (by decide) (fun c_ => ?_) (fun c_ => ?_)
  · have hf := it_p c_ hf
    refine lv_iconst (v := 0) S.1 S.2.1 dX6_leadOf_30 ic_0 ?_
    have e_ := Option.some.inj hf
    subst e_
    exact hret _ _ dX6_leadOf_31
  · have hf := it_n c_ hf
    refine lv_iload_n S.1 S.2.1 dX6_leadOf_20 rfl (lv_at hl 4 rfl) ?_
    refine lv_iconst (v := 5) S.1 S.2.1 dX6_leadOf_21 ic_5 ?_
    refine lv_icmp_gt (tgt := 30) S.1 S.2.1 dX6_leadOf_22 (by decide) (fun c_ => ?_) (fun c_ => ?_)
    · have hf := it_p c_ hf
      refine lv_iconst (v := 0) S.1 S.2.1 dX6_leadOf_30 ic_0 ?_
      have e_ := Option.some.inj hf
      subst e_
      exact hret _ _ dX6_leadOf_31
    · have hf := it_n c_ hf
      refine lv_iload S.1 S.2.1 dX6_leadOf_25 (lv_at hl 0 rfl) ?_
      refine lv_if_ne (tgt := 32) S.1 S.2.1 dX6_leadOf_27 (by decide) (fun c_ => ?_) (fun c_ => ?_)
      · have hf := it_n c_ hf
        refine lv_sipush (v := (-999)) S.1 S.2.1 dX6_leadOf_32 sp_m999 ?_
        refine lv_istore (lv' := [(5, .int (-999 : Int32)), (4, .int x1), (0, .ref t_q0), (1, .int p2), (2, .int p3), (3, .int p4)]) S.1 S.2.1 dX6_leadOf_35 hl (by decide) rfl (fun ls hl => ?_)
        refine lv_iconst (v := 0) S.1 S.2.1 dX6_leadOf_37 ic_0 ?_
        refine lv_istore (lv' := [(6, .int (0 : Int32)), (5, .int (-999 : Int32)), (4, .int x1), (0, .ref t_q0), (1, .int p2), (2, .int p3), (3, .int p4)]) S.1 S.2.1 dX6_leadOf_38 hl (by decide) rfl (fun ls hl => ?_)
        obtain ⟨x4, hf_, hk4⟩ := bnd_e hf
        have hE4 : ∀ (v9 : Int32), v9 = x4 → ∀ (ls : Array Slot), lv_has ls 7 [(5, .int v9)] → W p l e (rmD (1 + (dp + 1))) s m args below meth c s.heap [] 0 0 Q (F0 m 94 ls []) := by
          intro v9 e_ ls hl
          subst e_
          have hf := hk4
          refine lv_iload S.1 S.2.1 dX6_leadOf_94 (lv_at hl 0 rfl) ?_
          have e_ := Option.some.inj hf
          subst e_
          exact hret _ _ dX6_leadOf_96
        refine lp_ind (P := fun (s3 : Int32 × Int32) => ∀ (ls : Array Slot), lv_has ls 7 [(0, .ref t_q0), (1, .int p2), (2, .int p3), (3, .int p4), (4, .int x1), (5, .int s3.1), (6, .int s3.2)] → W p l e (rmD (1 + (dp + 1))) s m args below meth c s.heap [] 0 0 Q (F0 m 40 ls [])) ?_ _ _ hf_ _ (lv_sub hl [3, 4, 5, 6, 2, 1, 0] rfl)
        intro s3 x5 hf hI4 hR4 ls hl
        refine lv_iload S.1 S.2.1 dX6_leadOf_40 (lv_at hl 6 rfl) ?_
        refine lv_aload_n S.1 S.2.1 dX6_leadOf_42 rfl (lv_at hl 0 rfl) ?_
        refine gfX6_18 S hK hP 0 rfl rfl dX6_leadOf_43 ?_
        refine lv_icmp_ge (tgt := 94) S.1 S.2.1 dX6_leadOf_46 (by decide) (fun c_ => ?_) (fun c_ => ?_)
        · have hf := it_p c_ hf
          have e_ := hR4 _ (Option.some.inj hf).symm
          exact hE4 _ e_ _ (lv_sub hl [5] rfl)
        · have hf := it_n c_ hf
          refine lv_iload S.1 S.2.1 dX6_leadOf_49 (lv_at hl 4 rfl) ?_
          refine lv_iload S.1 S.2.1 dX6_leadOf_51 (lv_at hl 6 rfl) ?_
          refine lv_ishr S.1 S.2.1 dX6_leadOf_53 ?_
          refine lv_iconst (v := 1) S.1 S.2.1 dX6_leadOf_54 ic_1 ?_
          refine lv_iand S.1 S.2.1 dX6_leadOf_55 ?_
          refine lv_if_eq (tgt := 88) S.1 S.2.1 dX6_leadOf_56 (by decide) (fun c_ => ?_) (fun c_ => ?_)
          · have hf := it_p c_ hf
            refine q_iinc (w := 1) (lv' := [(6, .int (s3.2 + 1)), (0, .ref t_q0), (1, .int p2), (2, .int p3), (3, .int p4), (4, .int x1), (5, .int s3.1)]) S dX6_leadOf_88 hl (k := 6) rfl ic_1 (by decide) rfl (fun ls hl => ?_)
            refine lv_goto (tgt := 40) S.1 S.2.1 dX6_leadOf_91 (by decide) ?_
            exact hI4 _ (Option.some.inj hf).symm _ (lv_sub hl [1, 2, 3, 4, 5, 6, 0] rfl)
          · have hf := it_n c_ hf
            refine lv_iload S.1 S.2.1 dX6_leadOf_59 (lv_at hl 5 rfl) ?_
            refine lv_aload_n S.1 S.2.1 dX6_leadOf_61 rfl (lv_at hl 0 rfl) ?_
            refine lv_iload S.1 S.2.1 dX6_leadOf_62 (lv_at hl 6 rfl) ?_
            refine lv_iload_n S.1 S.2.1 dX6_leadOf_64 rfl (lv_at hl 1 rfl) ?_
            obtain ⟨x6, hx6, hf⟩ := bnd_e hf
            refine Rd.cS (c_X6_gain hx6) S hK hP kSX6_24 rfl hl.1 [.int s3.1] rfl (Nat.le_of_ble_eq_true rfl) (rm_le (by omega) (by decide)) ⟨(Nat.zero_le _), (Nat.zero_le _)⟩ dX6_leadOf_65 ?_
            refine lv_aload_n S.1 S.2.1 dX6_leadOf_68 rfl (lv_at hl 0 rfl) ?_
            refine lv_iload_n S.1 S.2.1 dX6_leadOf_69 rfl (lv_at hl 2 rfl) ?_
            refine lv_iload_n S.1 S.2.1 dX6_leadOf_70 rfl (lv_at hl 1 rfl) ?_
            refine lv_iconst (v := 1) S.1 S.2.1 dX6_leadOf_71 ic_1 ?_
            refine lv_iload S.1 S.2.1 dX6_leadOf_72 (lv_at hl 6 rfl) ?_
            refine lv_ishl S.1 S.2.1 dX6_leadOf_74 ?_
            refine lv_ior S.1 S.2.1 dX6_leadOf_75 ?_
            refine lv_iload_n S.1 S.2.1 dX6_leadOf_76 rfl (lv_at hl 3 rfl) ?_
            refine lv_iconst (v := 1) S.1 S.2.1 dX6_leadOf_77 ic_1 ?_
            refine lv_isub S.1 S.2.1 dX6_leadOf_78 ?_
            obtain ⟨x7, hx7, hf⟩ := bnd_e hf
            refine Rd.cS (ih_ hx7) S hK hP kSX6_28 rfl hl.1 [.int x6, .int s3.1] rfl (Nat.le_of_ble_eq_true rfl) (rm_le (by omega) (by decide)) ⟨(Nat.zero_le _), (Nat.zero_le _)⟩ dX6_leadOf_79 ?_
            refine lv_isub S.1 S.2.1 dX6_leadOf_82 ?_
            refine va_mmax S.1 S.2.1 (S.2.2.1.trans hl.1.symm) S.2.2.2.1 (S.2.2.2.2 _ q_740) (S.2.2.2.2 _ q_658) (S.2.2.2.2 _ q_12) (S.2.2.2.2 _ q_659) (rm_1 (by omega)) (rm_13 (by omega) (Nat.le_of_ble_eq_true rfl)) (Nat.zero_le _) (Nat.zero_le _) dX6_leadOf_83 ?_
            refine lv_topi (fun x8 ex8 => ?_)
            have hf := ltn_e hf ex8
            refine lv_istore (lv' := [(5, .int x8), (0, .ref t_q0), (1, .int p2), (2, .int p3), (3, .int p4), (4, .int x1), (6, .int s3.2)]) S.1 S.2.1 dX6_leadOf_86 hl (by decide) rfl (fun ls hl => ?_)
            refine q_iinc (w := 1) (lv' := [(6, .int (s3.2 + 1)), (5, .int x8), (0, .ref t_q0), (1, .int p2), (2, .int p3), (3, .int p4), (4, .int x1)]) S dX6_leadOf_88 hl (k := 6) rfl ic_1 (by decide) rfl (fun ls hl => ?_)
            refine lv_goto (tgt := 40) S.1 S.2.1 dX6_leadOf_91 (by decide) ?_
            exact hI4 _ (Option.some.inj hf).symm _ (lv_sub hl [2, 3, 4, 5, 6, 1, 0] rfl)
      · have hf := it_p c_ hf
        refine lv_iconst (v := 0) S.1 S.2.1 dX6_leadOf_30 ic_0 ?_
        have e_ := Option.some.inj hf
        subst e_
        exact hret _ _ dX6_leadOf_31
def f_X6_bestChoice_L8 (fu : Nat) (t_people : Int32) (t_wit : (Nat → Int32)) (t_hated : (Nat → Int32)) (p2 : Int32) (s2 : Int32 × Int32 × Int32) : Option ((Int32 × Int32 × Int32) ⊕ (Int32 × Int32)) := if t_people ≤ s2.2.2 then some (.inr (s2.1, s2.2.1)) else if p2 ≤ 0 then some (.inr (s2.1, s2.2.1)) else bnd (α := Int32) (f_X6_gain fu t_wit t_hated s2.2.2 (0 : Int32)) (fun x5 => bnd (α := Int32) (f_X6_leadOf fu 8 t_people t_wit t_hated (0 : Int32) (jshl (1 : Int32) s2.2.2) (p2 - (1 : Int32))) (fun x6 => ltn (x5 - x6) (fun x7 => if s2.2.1 = (-1 : Int32) then some (.inl (x7, s2.2.2, (s2.2.2 + 1))) else if x7 ≤ s2.1 then some (.inl (s2.1, s2.2.1, (s2.2.2 + 1))) else some (.inl (x7, s2.2.2, (s2.2.2 + 1))))))
def f_X6_bestChoice (fu : Nat) (t_people : Int32) (t_wit : (Nat → Int32)) (t_hated : (Nat → Int32)) (p2 : Int32) (p3 : Int32) : Option (Int32) := bnd (α := Int32 × Int32) (lp (f_X6_bestChoice_L8 fu t_people t_wit t_hated p2) fu ((0 : Int32), (-1 : Int32), (0 : Int32))) (fun v8 => if p3 = 0 then some v8.1 else some v8.2)
set_option maxHeartbeats 4000000 in
set_option maxRecDepth 100000 in
theorem c_X6_bestChoice {l : Launch} {D : va_G} {g : Nat → ClassId} {fu : Nat} {t_q0 t_q1 t_q2 t_q3 t_q4 : Nat} {t_people : Int32} {t_wit : (Nat → Int32)} {t_purse : (Nat → Int32)} {t_hated : (Nat → Int32)} {t_owed : (Nat → Int32)} {p2 : Int32} {p3 : Int32} {r : Int32} (hf : f_X6_bestChoice fu t_people t_wit t_hated p2 p3 = some r) : Rd l D (gy g) yX6_bestChoice cX6_bestChoice 7 (some .int) 10 [.ref t_q0, .int p2, .int p3] (wTw g t_q0 t_q1 t_q2 t_q3 t_q4 t_people t_wit t_purse t_hated t_owed) (some (.int r)) := by
  refine Rd.ofI (by decide) (Nat.le_of_ble_eq_true rfl) ?_
  intro p e s m args below meth c Q S hK hP hret ls hl
  have hl : lv_has ls 7 [(0, .ref t_q0), (1, .int p2), (2, .int p3)] := hl
  refine lv_iconst (v := 0) S.1 S.2.1 dX6_bestChoice_0 ic_0 ?_
  refine lv_istore_n (lv' := [(3, .int (0 : Int32)), (0, .ref t_q0), (1, .int p2), (2, .int p3)]) S.1 S.2.1 dX6_bestChoice_1 rfl hl (by decide) rfl (fun ls hl => ?_)
  refine lv_iconst (v := (-1)) S.1 S.2.1 dX6_bestChoice_2 ic_m1 ?_
  refine lv_istore (lv' := [(4, .int (-1 : Int32)), (3, .int (0 : Int32)), (0, .ref t_q0), (1, .int p2), (2, .int p3)]) S.1 S.2.1 dX6_bestChoice_3 hl (by decide) rfl (fun ls hl => ?_)
  refine lv_iconst (v := 0) S.1 S.2.1 dX6_bestChoice_5 ic_0 ?_
  refine lv_istore (lv' := [(5, .int (0 : Int32)), (4, .int (-1 : Int32)), (3, .int (0 : Int32)), (0, .ref t_q0), (1, .int p2), (2, .int p3)]) S.1 S.2.1 dX6_bestChoice_6 hl (by decide) rfl (fun ls hl => ?_)
  obtain ⟨x3, hf_, hk3⟩ := bnd_e hf
  have hE3 : ∀ (v8 : Int32 × Int32), v8 = x3 → ∀ (ls : Array Slot), lv_has ls 7 [(2, .int p3), (3, .int v8.1), (4, .int v8.2)] → W p l e (rmD 10) s m args below meth c s.heap [] 0 0 Q (F0 m 68 ls []) := by
    intro v8 e_ ls hl
    subst e_
    have hf := hk3
    refine lv_iload_n S.1 S.2.1 dX6_bestChoice_68 rfl (lv_at hl 0 rfl) ?_
    refine lv_if_eq (tgt := 77) S.1 S.2.1 dX6_bestChoice_69 (by decide) (fun c_ => ?_) (fun c_ => ?_)
    · have hf := it_p c_ hf
      refine lv_iload_n S.1 S.2.1 dX6_bestChoice_77 rfl (lv_at hl 1 rfl) ?_
      have e_ := Option.some.inj hf
      subst e_
      exact hret _ _ dX6_bestChoice_78
    · have hf := it_n c_ hf
      refine lv_iload S.1 S.2.1 dX6_bestChoice_72 (lv_at hl 2 rfl) ?_
      refine lv_goto (tgt := 78) S.1 S.2.1 dX6_bestChoice_74 (by decide) ?_
      have e_ := Option.some.inj hf
      subst e_
      exact hret _ _ dX6_bestChoice_78
  refine lp_ind (P := fun (s2 : Int32 × Int32 × Int32) => ∀ (ls : Array Slot), lv_has ls 7 [(0, .ref t_q0), (1, .int p2), (2, .int p3), (3, .int s2.1), (4, .int s2.2.1), (5, .int s2.2.2)] → W p l e (rmD 10) s m args below meth c s.heap [] 0 0 Q (F0 m 8 ls [])) ?_ _ _ hf_ _ (lv_sub hl [3, 4, 5, 2, 1, 0] rfl)
  intro s2 x4 hf hI3 hR3 ls hl
  refine lv_iload S.1 S.2.1 dX6_bestChoice_8 (lv_at hl 5 rfl) ?_
  refine lv_aload_n S.1 S.2.1 dX6_bestChoice_10 rfl (lv_at hl 0 rfl) ?_
  refine gfX6_18 S hK hP 0 rfl rfl dX6_bestChoice_11 ?_
  refine lv_icmp_ge (tgt := 68) S.1 S.2.1 dX6_bestChoice_14 (by decide) (fun c_ => ?_) (fun c_ => ?_)
  · have hf := it_p c_ hf
    have e_ := hR3 _ (Option.some.inj hf).symm
    exact hE3 _ e_ _ (lv_sub hl [2, 3, 4] rfl)
  · have hf := it_n c_ hf
    refine lv_iload_n S.1 S.2.1 dX6_bestChoice_17 rfl (lv_at hl 1 rfl) ?_
    refine lv_if_le (tgt := 68) S.1 S.2.1 dX6_bestChoice_18 (by decide) (fun c_ => ?_) (fun c_ => ?_)
    · have hf := it_p c_ hf
      have e_ := hR3 _ (Option.some.inj hf).symm
      exact hE3 _ e_ _ (lv_sub hl [2, 3, 4] rfl)
    · have hf := it_n c_ hf
      refine lv_aload_n S.1 S.2.1 dX6_bestChoice_21 rfl (lv_at hl 0 rfl) ?_
      refine lv_iload S.1 S.2.1 dX6_bestChoice_22 (lv_at hl 5 rfl) ?_
      refine lv_iconst (v := 0) S.1 S.2.1 dX6_bestChoice_24 ic_0 ?_
      obtain ⟨x5, hx5, hf⟩ := bnd_e hf
      refine Rd.cS (c_X6_gain hx5) S hK hP kSX6_24 rfl hl.1 [] rfl (Nat.le_of_ble_eq_true rfl) ⟨(Nat.le_of_ble_eq_true rfl), (Nat.le_of_ble_eq_true rfl)⟩ ⟨(Nat.zero_le _), (Nat.zero_le _)⟩ dX6_bestChoice_25 ?_
      refine lv_aload_n S.1 S.2.1 dX6_bestChoice_28 rfl (lv_at hl 0 rfl) ?_
      refine lv_iconst (v := 0) S.1 S.2.1 dX6_bestChoice_29 ic_0 ?_
      refine lv_iconst (v := 1) S.1 S.2.1 dX6_bestChoice_30 ic_1 ?_
      refine lv_iload S.1 S.2.1 dX6_bestChoice_31 (lv_at hl 5 rfl) ?_
      refine lv_ishl S.1 S.2.1 dX6_bestChoice_33 ?_
      refine lv_iload_n S.1 S.2.1 dX6_bestChoice_34 rfl (lv_at hl 1 rfl) ?_
      refine lv_iconst (v := 1) S.1 S.2.1 dX6_bestChoice_35 ic_1 ?_
      refine lv_isub S.1 S.2.1 dX6_bestChoice_36 ?_
      obtain ⟨x6, hx6, hf⟩ := bnd_e hf
      refine Rd.cS (c_X6_leadOf 8 hx6) S hK hP kSX6_28 rfl hl.1 [.int x5] rfl (Nat.le_of_ble_eq_true rfl) ⟨(Nat.le_of_ble_eq_true rfl), (Nat.le_of_ble_eq_true rfl)⟩ ⟨(Nat.zero_le _), (Nat.zero_le _)⟩ dX6_bestChoice_37 ?_
      refine lv_isub S.1 S.2.1 dX6_bestChoice_40 ?_
      refine lv_topi (fun x7 ex7 => ?_)
      have hf := ltn_e hf ex7
      refine lv_istore (lv' := [(6, .int x7), (0, .ref t_q0), (1, .int p2), (2, .int p3), (3, .int s2.1), (4, .int s2.2.1), (5, .int s2.2.2)]) S.1 S.2.1 dX6_bestChoice_41 hl (by decide) rfl (fun ls hl => ?_)
      refine lv_iload S.1 S.2.1 dX6_bestChoice_43 (lv_at hl 5 rfl) ?_
      refine lv_iconst (v := (-1)) S.1 S.2.1 dX6_bestChoice_45 ic_m1 ?_
      refine lv_icmp_eq (tgt := 55) S.1 S.2.1 dX6_bestChoice_46 (by decide) (fun c_ => ?_) (fun c_ => ?_)
      · have hf := it_p c_ hf
        refine lv_iload S.1 S.2.1 dX6_bestChoice_55 (lv_at hl 0 rfl) ?_
        refine lv_istore_n (lv' := [(3, .int x7), (6, .int x7), (0, .ref t_q0), (1, .int p2), (2, .int p3), (4, .int s2.2.1), (5, .int s2.2.2)]) S.1 S.2.1 dX6_bestChoice_57 rfl hl (by decide) rfl (fun ls hl => ?_)
        refine lv_iload S.1 S.2.1 dX6_bestChoice_58 (lv_at hl 6 rfl) ?_
        refine lv_istore (lv' := [(4, .int s2.2.2), (3, .int x7), (6, .int x7), (0, .ref t_q0), (1, .int p2), (2, .int p3), (5, .int s2.2.2)]) S.1 S.2.1 dX6_bestChoice_60 hl (by decide) rfl (fun ls hl => ?_)
        refine q_iinc (w := 1) (lv' := [(5, .int (s2.2.2 + 1)), (4, .int s2.2.2), (3, .int x7), (6, .int x7), (0, .ref t_q0), (1, .int p2), (2, .int p3)]) S dX6_bestChoice_62 hl (k := 6) rfl ic_1 (by decide) rfl (fun ls hl => ?_)
        refine lv_goto (tgt := 8) S.1 S.2.1 dX6_bestChoice_65 (by decide) ?_
        exact hI3 _ (Option.some.inj hf).symm _ (lv_sub hl [4, 5, 6, 2, 1, 0] rfl)
      · have hf := it_n c_ hf
        refine lv_iload S.1 S.2.1 dX6_bestChoice_49 (lv_at hl 0 rfl) ?_
        refine lv_iload_n S.1 S.2.1 dX6_bestChoice_51 rfl (lv_at hl 4 rfl) ?_
        refine lv_icmp_le (tgt := 62) S.1 S.2.1 dX6_bestChoice_52 (by decide) (fun c_ => ?_) (fun c_ => ?_)
        · have hf := it_p c_ hf
          refine q_iinc (w := 1) (lv' := [(5, .int (s2.2.2 + 1)), (6, .int x7), (0, .ref t_q0), (1, .int p2), (2, .int p3), (3, .int s2.1), (4, .int s2.2.1)]) S dX6_bestChoice_62 hl (k := 6) rfl ic_1 (by decide) rfl (fun ls hl => ?_)
          refine lv_goto (tgt := 8) S.1 S.2.1 dX6_bestChoice_65 (by decide) ?_
          exact hI3 _ (Option.some.inj hf).symm _ (lv_sub hl [2, 3, 4, 5, 6, 0] rfl)
        · have hf := it_n c_ hf
          refine lv_iload S.1 S.2.1 dX6_bestChoice_55 (lv_at hl 0 rfl) ?_
          refine lv_istore_n (lv' := [(3, .int x7), (6, .int x7), (0, .ref t_q0), (1, .int p2), (2, .int p3), (4, .int s2.2.1), (5, .int s2.2.2)]) S.1 S.2.1 dX6_bestChoice_57 rfl hl (by decide) rfl (fun ls hl => ?_)
          refine lv_iload S.1 S.2.1 dX6_bestChoice_58 (lv_at hl 6 rfl) ?_
          refine lv_istore (lv' := [(4, .int s2.2.2), (3, .int x7), (6, .int x7), (0, .ref t_q0), (1, .int p2), (2, .int p3), (5, .int s2.2.2)]) S.1 S.2.1 dX6_bestChoice_60 hl (by decide) rfl (fun ls hl => ?_)
          refine q_iinc (w := 1) (lv' := [(5, .int (s2.2.2 + 1)), (4, .int s2.2.2), (3, .int x7), (6, .int x7), (0, .ref t_q0), (1, .int p2), (2, .int p3)]) S dX6_bestChoice_62 hl (k := 6) rfl ic_1 (by decide) rfl (fun ls hl => ?_)
          refine lv_goto (tgt := 8) S.1 S.2.1 dX6_bestChoice_65 (by decide) ?_
          exact hI3 _ (Option.some.inj hf).symm _ (lv_sub hl [4, 5, 6, 2, 1, 0] rfl)
def f_X6_feudOf_L17 (t_people : Int32) (t_hated : (Nat → Int32)) (s7 : Int32 × Int32) : Option ((Int32 × Int32) ⊕ (Int32)) := if t_people ≤ s7.2 then some (.inr s7.1) else if ((jshr s7.1 s7.2) &&& (1 : Int32)) = 0 then some (.inl (s7.1, (s7.2 + 1))) else bnd (α := Int32) (rdi 6 t_hated s7.2) (fun x10 => ltn (s7.1 ||| x10) (fun x11 => some (.inl (x11, (s7.2 + 1)))))
def f_X6_feudOf_L6 (fu : Nat) (t_people : Int32) (t_hated : (Nat → Int32)) (s3 : Int32 × Int32) : Option ((Int32 × Int32) ⊕ (Int32)) := if t_people ≤ s3.2 then some (.inr s3.1) else bnd (α := Int32) (lp (f_X6_feudOf_L17 t_people t_hated) fu (s3.1, (0 : Int32))) (fun v12 => some (.inl (v12, (s3.2 + 1))))
def f_X6_feudOf (fu : Nat) (t_people : Int32) (t_hated : (Nat → Int32)) (p2 : Int32) : Option (Int32) := ltn (jshl (1 : Int32) p2) (fun x1 => bnd (α := Int32) (lp (f_X6_feudOf_L6 fu t_people t_hated) fu (x1, (0 : Int32))) (fun v13 => some v13))
set_option maxHeartbeats 4000000 in
set_option maxRecDepth 100000 in
theorem c_X6_feudOf {l : Launch} {D : va_G} {g : Nat → ClassId} {fu : Nat} {t_q0 t_q1 t_q2 t_q3 t_q4 : Nat} {t_people : Int32} {t_wit : (Nat → Int32)} {t_purse : (Nat → Int32)} {t_hated : (Nat → Int32)} {t_owed : (Nat → Int32)} {p2 : Int32} {r : Int32} (hf : f_X6_feudOf fu t_people t_hated p2 = some r) : Rd l D (gy g) yX6_feudOf cX6_feudOf 5 (some .int) 0 [.ref t_q0, .int p2] (wTw g t_q0 t_q1 t_q2 t_q3 t_q4 t_people t_wit t_purse t_hated t_owed) (some (.int r)) := by
  refine Rd.ofI (by decide) (Nat.le_of_ble_eq_true rfl) ?_
  intro p e s m args below meth c Q S hK hP hret ls hl
  have hl : lv_has ls 5 [(0, .ref t_q0), (1, .int p2)] := hl
  refine lv_iconst (v := 1) S.1 S.2.1 dX6_feudOf_0 ic_1 ?_
  refine lv_iload_n S.1 S.2.1 dX6_feudOf_1 rfl (lv_at hl 1 rfl) ?_
  refine lv_ishl S.1 S.2.1 dX6_feudOf_2 ?_
  refine lv_topi (fun x1 ex1 => ?_)
  have hf := ltn_e hf ex1
  refine lv_istore_n (lv' := [(2, .int x1), (0, .ref t_q0), (1, .int p2)]) S.1 S.2.1 dX6_feudOf_3 rfl hl (by decide) rfl (fun ls hl => ?_)
  refine lv_iconst (v := 0) S.1 S.2.1 dX6_feudOf_4 ic_0 ?_
  refine lv_istore_n (lv' := [(3, .int (0 : Int32)), (2, .int x1), (0, .ref t_q0), (1, .int p2)]) S.1 S.2.1 dX6_feudOf_5 rfl hl (by decide) rfl (fun ls hl => ?_)
  obtain ⟨x4, hf_, hk4⟩ := bnd_e hf
  have hE4 : ∀ (v13 : Int32), v13 = x4 → ∀ (ls : Array Slot), lv_has ls 5 [(2, .int v13)] → W p l e (rmD 0) s m args below meth c s.heap [] 0 0 Q (F0 m 57 ls []) := by
    intro v13 e_ ls hl
    subst e_
    have hf := hk4
    refine lv_iload_n S.1 S.2.1 dX6_feudOf_57 rfl (lv_at hl 0 rfl) ?_
    have e_ := Option.some.inj hf
    subst e_
    exact hret _ _ dX6_feudOf_58
  refine lp_ind (P := fun (s3 : Int32 × Int32) => ∀ (ls : Array Slot), lv_has ls 5 [(0, .ref t_q0), (2, .int s3.1), (3, .int s3.2)] → W p l e (rmD 0) s m args below meth c s.heap [] 0 0 Q (F0 m 6 ls [])) ?_ _ _ hf_ _ (lv_sub hl [2, 1, 0] rfl)
  intro s3 x5 hf hI4 hR4 ls hl
  refine lv_iload_n S.1 S.2.1 dX6_feudOf_6 rfl (lv_at hl 2 rfl) ?_
  refine lv_aload_n S.1 S.2.1 dX6_feudOf_7 rfl (lv_at hl 0 rfl) ?_
  refine gfX6_18 S hK hP 0 rfl rfl dX6_feudOf_8 ?_
  refine lv_icmp_ge (tgt := 57) S.1 S.2.1 dX6_feudOf_11 (by decide) (fun c_ => ?_) (fun c_ => ?_)
  · have hf := it_p c_ hf
    have e_ := hR4 _ (Option.some.inj hf).symm
    exact hE4 _ e_ _ (lv_sub hl [1] rfl)
  · have hf := it_n c_ hf
    refine lv_iconst (v := 0) S.1 S.2.1 dX6_feudOf_14 ic_0 ?_
    refine lv_istore (lv' := [(4, .int (0 : Int32)), (0, .ref t_q0), (2, .int s3.1), (3, .int s3.2)]) S.1 S.2.1 dX6_feudOf_15 hl (by decide) rfl (fun ls hl => ?_)
    obtain ⟨x8, hf_, hk8⟩ := bnd_e hf
    have hE8 : ∀ (v12 : Int32), v12 = x8 → ∀ (ls : Array Slot), lv_has ls 5 [(0, .ref t_q0), (2, .int v12), (3, .int s3.2)] → W p l e (rmD 0) s m args below meth c s.heap [] 0 0 Q (F0 m 51 ls []) := by
      intro v12 e_ ls hl
      subst e_
      have hf := hk8
      refine q_iinc (w := 1) (lv' := [(3, .int (s3.2 + 1)), (0, .ref t_q0), (2, .int v12)]) S dX6_feudOf_51 hl (k := 2) rfl ic_1 (by decide) rfl (fun ls hl => ?_)
      refine lv_goto (tgt := 6) S.1 S.2.1 dX6_feudOf_54 (by decide) ?_
      exact hI4 _ (Option.some.inj hf).symm _ (lv_sub hl [1, 2, 0] rfl)
    refine lp_ind (P := fun (s7 : Int32 × Int32) => ∀ (ls : Array Slot), lv_has ls 5 [(0, .ref t_q0), (2, .int s7.1), (3, .int s3.2), (4, .int s7.2)] → W p l e (rmD 0) s m args below meth c s.heap [] 0 0 Q (F0 m 17 ls [])) ?_ _ _ hf_ _ (lv_sub hl [1, 2, 3, 0] rfl)
    intro s7 x9 hf hI8 hR8 ls hl
    refine lv_iload S.1 S.2.1 dX6_feudOf_17 (lv_at hl 3 rfl) ?_
    refine lv_aload_n S.1 S.2.1 dX6_feudOf_19 rfl (lv_at hl 0 rfl) ?_
    refine gfX6_18 S hK hP 0 rfl rfl dX6_feudOf_20 ?_
    refine lv_icmp_ge (tgt := 51) S.1 S.2.1 dX6_feudOf_23 (by decide) (fun c_ => ?_) (fun c_ => ?_)
    · have hf := it_p c_ hf
      have e_ := hR8 _ (Option.some.inj hf).symm
      exact hE8 _ e_ _ (lv_sub hl [0, 1, 2] rfl)
    · have hf := it_n c_ hf
      refine lv_iload_n S.1 S.2.1 dX6_feudOf_26 rfl (lv_at hl 1 rfl) ?_
      refine lv_iload S.1 S.2.1 dX6_feudOf_27 (lv_at hl 3 rfl) ?_
      refine lv_ishr S.1 S.2.1 dX6_feudOf_29 ?_
      refine lv_iconst (v := 1) S.1 S.2.1 dX6_feudOf_30 ic_1 ?_
      refine lv_iand S.1 S.2.1 dX6_feudOf_31 ?_
      refine lv_if_eq (tgt := 45) S.1 S.2.1 dX6_feudOf_32 (by decide) (fun c_ => ?_) (fun c_ => ?_)
      · have hf := it_p c_ hf
        refine q_iinc (w := 1) (lv' := [(4, .int (s7.2 + 1)), (0, .ref t_q0), (2, .int s7.1), (3, .int s3.2)]) S dX6_feudOf_45 hl (k := 3) rfl ic_1 (by decide) rfl (fun ls hl => ?_)
        refine lv_goto (tgt := 17) S.1 S.2.1 dX6_feudOf_48 (by decide) ?_
        exact hI8 _ (Option.some.inj hf).symm _ (lv_sub hl [1, 2, 3, 0] rfl)
      · have hf := it_n c_ hf
        refine lv_iload_n S.1 S.2.1 dX6_feudOf_35 rfl (lv_at hl 1 rfl) ?_
        refine lv_aload_n S.1 S.2.1 dX6_feudOf_36 rfl (lv_at hl 0 rfl) ?_
        refine gfX6_32 S hK hP 0 rfl rfl dX6_feudOf_37 ?_
        refine lv_iload S.1 S.2.1 dX6_feudOf_40 (lv_at hl 3 rfl) ?_
        obtain ⟨x10, hx10, hf⟩ := bnd_e hf
        refine q_iald S hK hP 3 0 rfl rfl hx10 dX6_feudOf_42 ?_
        refine lv_ior S.1 S.2.1 dX6_feudOf_43 ?_
        refine lv_topi (fun x11 ex11 => ?_)
        have hf := ltn_e hf ex11
        refine lv_istore_n (lv' := [(2, .int x11), (0, .ref t_q0), (3, .int s3.2), (4, .int s7.2)]) S.1 S.2.1 dX6_feudOf_44 rfl hl (by decide) rfl (fun ls hl => ?_)
        refine q_iinc (w := 1) (lv' := [(4, .int (s7.2 + 1)), (2, .int x11), (0, .ref t_q0), (3, .int s3.2)]) S dX6_feudOf_45 hl (k := 3) rfl ic_1 (by decide) rfl (fun ls hl => ?_)
        refine lv_goto (tgt := 17) S.1 S.2.1 dX6_feudOf_48 (by decide) ?_
        exact hI8 _ (Option.some.inj hf).symm _ (lv_sub hl [2, 1, 3, 0] rfl)
def f_X6_feuds_L6 (fu : Nat) (t_people : Int32) (t_hated : (Nat → Int32)) (s2 : Int32 × Int32 × Int32) : Option ((Int32 × Int32 × Int32) ⊕ (Int32)) := if t_people ≤ s2.2.2 then some (.inr s2.2.1) else if ((jshr s2.1 s2.2.2) &&& (1 : Int32)) = 0 then bnd (α := Int32) (f_X6_feudOf fu t_people t_hated s2.2.2) (fun x5 => ltn (s2.1 ||| x5) (fun x6 => some (.inl (x6, (s2.2.1 + 1), (s2.2.2 + 1))))) else some (.inl (s2.1, s2.2.1, (s2.2.2 + 1)))
def f_X6_feuds (fu : Nat) (t_people : Int32) (t_hated : (Nat → Int32)) : Option (Int32) := bnd (α := Int32) (lp (f_X6_feuds_L6 fu t_people t_hated) fu ((0 : Int32), (0 : Int32), (0 : Int32))) (fun v7 => some v7)
set_option maxHeartbeats 4000000 in
set_option maxRecDepth 100000 in
theorem c_X6_feuds {l : Launch} {D : va_G} {g : Nat → ClassId} {fu : Nat} {t_q0 t_q1 t_q2 t_q3 t_q4 : Nat} {t_people : Int32} {t_wit : (Nat → Int32)} {t_purse : (Nat → Int32)} {t_hated : (Nat → Int32)} {t_owed : (Nat → Int32)} {r : Int32} (hf : f_X6_feuds fu t_people t_hated = some r) : Rd l D (gy g) yX6_feuds cX6_feuds 4 (some .int) 1 [.ref t_q0] (wTw g t_q0 t_q1 t_q2 t_q3 t_q4 t_people t_wit t_purse t_hated t_owed) (some (.int r)) := by
  refine Rd.ofI (by decide) (Nat.le_of_ble_eq_true rfl) ?_
  intro p e s m args below meth c Q S hK hP hret ls hl
  have hl : lv_has ls 4 [(0, .ref t_q0)] := hl
  refine lv_iconst (v := 0) S.1 S.2.1 dX6_feuds_0 ic_0 ?_
  refine lv_istore_n (lv' := [(1, .int (0 : Int32)), (0, .ref t_q0)]) S.1 S.2.1 dX6_feuds_1 rfl hl (by decide) rfl (fun ls hl => ?_)
  refine lv_iconst (v := 0) S.1 S.2.1 dX6_feuds_2 ic_0 ?_
  refine lv_istore_n (lv' := [(2, .int (0 : Int32)), (1, .int (0 : Int32)), (0, .ref t_q0)]) S.1 S.2.1 dX6_feuds_3 rfl hl (by decide) rfl (fun ls hl => ?_)
  refine lv_iconst (v := 0) S.1 S.2.1 dX6_feuds_4 ic_0 ?_
  refine lv_istore_n (lv' := [(3, .int (0 : Int32)), (2, .int (0 : Int32)), (1, .int (0 : Int32)), (0, .ref t_q0)]) S.1 S.2.1 dX6_feuds_5 rfl hl (by decide) rfl (fun ls hl => ?_)
  obtain ⟨x3, hf_, hk3⟩ := bnd_e hf
  have hE3 : ∀ (v7 : Int32), v7 = x3 → ∀ (ls : Array Slot), lv_has ls 4 [(2, .int v7)] → W p l e (rmD 1) s m args below meth c s.heap [] 0 0 Q (F0 m 39 ls []) := by
    intro v7 e_ ls hl
    subst e_
    have hf := hk3
    refine lv_iload_n S.1 S.2.1 dX6_feuds_39 rfl (lv_at hl 0 rfl) ?_
    have e_ := Option.some.inj hf
    subst e_
    exact hret _ _ dX6_feuds_40
  refine lp_ind (P := fun (s2 : Int32 × Int32 × Int32) => ∀ (ls : Array Slot), lv_has ls 4 [(0, .ref t_q0), (1, .int s2.1), (2, .int s2.2.1), (3, .int s2.2.2)] → W p l e (rmD 1) s m args below meth c s.heap [] 0 0 Q (F0 m 6 ls [])) ?_ _ _ hf_ _ (lv_sub hl [3, 2, 1, 0] rfl)
  intro s2 x4 hf hI3 hR3 ls hl
  refine lv_iload_n S.1 S.2.1 dX6_feuds_6 rfl (lv_at hl 3 rfl) ?_
  refine lv_aload_n S.1 S.2.1 dX6_feuds_7 rfl (lv_at hl 0 rfl) ?_
  refine gfX6_18 S hK hP 0 rfl rfl dX6_feuds_8 ?_
  refine lv_icmp_ge (tgt := 39) S.1 S.2.1 dX6_feuds_11 (by decide) (fun c_ => ?_) (fun c_ => ?_)
  · have hf := it_p c_ hf
    have e_ := hR3 _ (Option.some.inj hf).symm
    exact hE3 _ e_ _ (lv_sub hl [2] rfl)
  · have hf := it_n c_ hf
    refine lv_iload_n S.1 S.2.1 dX6_feuds_14 rfl (lv_at hl 1 rfl) ?_
    refine lv_iload_n S.1 S.2.1 dX6_feuds_15 rfl (lv_at hl 3 rfl) ?_
    refine lv_ishr S.1 S.2.1 dX6_feuds_16 ?_
    refine lv_iconst (v := 1) S.1 S.2.1 dX6_feuds_17 ic_1 ?_
    refine lv_iand S.1 S.2.1 dX6_feuds_18 ?_
    refine lv_if_ne (tgt := 33) S.1 S.2.1 dX6_feuds_19 (by decide) (fun c_ => ?_) (fun c_ => ?_)
    · have hf := it_n c_ hf
      refine q_iinc (w := 1) (lv' := [(3, .int (s2.2.2 + 1)), (0, .ref t_q0), (1, .int s2.1), (2, .int s2.2.1)]) S dX6_feuds_33 hl (k := 3) rfl ic_1 (by decide) rfl (fun ls hl => ?_)
      refine lv_goto (tgt := 6) S.1 S.2.1 dX6_feuds_36 (by decide) ?_
      exact hI3 _ (Option.some.inj hf).symm _ (lv_sub hl [1, 2, 3, 0] rfl)
    · have hf := it_p c_ hf
      refine lv_iload_n S.1 S.2.1 dX6_feuds_22 rfl (lv_at hl 1 rfl) ?_
      refine lv_aload_n S.1 S.2.1 dX6_feuds_23 rfl (lv_at hl 0 rfl) ?_
      refine lv_iload_n S.1 S.2.1 dX6_feuds_24 rfl (lv_at hl 3 rfl) ?_
      obtain ⟨x5, hx5, hf⟩ := bnd_e hf
      refine Rd.cS (c_X6_feudOf hx5) S hK hP kSX6_59 rfl hl.1 [.int s2.1] rfl (Nat.le_of_ble_eq_true rfl) ⟨(Nat.le_of_ble_eq_true rfl), (Nat.le_of_ble_eq_true rfl)⟩ ⟨(Nat.zero_le _), (Nat.zero_le _)⟩ dX6_feuds_25 ?_
      refine lv_ior S.1 S.2.1 dX6_feuds_28 ?_
      refine lv_topi (fun x6 ex6 => ?_)
      have hf := ltn_e hf ex6
      refine lv_istore_n (lv' := [(1, .int x6), (0, .ref t_q0), (2, .int s2.2.1), (3, .int s2.2.2)]) S.1 S.2.1 dX6_feuds_29 rfl hl (by decide) rfl (fun ls hl => ?_)
      refine q_iinc (w := 1) (lv' := [(2, .int (s2.2.1 + 1)), (1, .int x6), (0, .ref t_q0), (3, .int s2.2.2)]) S dX6_feuds_30 hl (k := 2) rfl ic_1 (by decide) rfl (fun ls hl => ?_)
      refine q_iinc (w := 1) (lv' := [(3, .int (s2.2.2 + 1)), (2, .int (s2.2.1 + 1)), (1, .int x6), (0, .ref t_q0)]) S dX6_feuds_33 hl (k := 3) rfl ic_1 (by decide) rfl (fun ls hl => ?_)
      refine lv_goto (tgt := 6) S.1 S.2.1 dX6_feuds_36 (by decide) ?_
      exact hI3 _ (Option.some.inj hf).symm _ (lv_sub hl [3, 2, 1, 0] rfl)
def f_X6_loners_L4 (fu : Nat) (t_people : Int32) (t_owed : (Nat → Int32)) (s2 : Int32 × Int32) : Option ((Int32 × Int32) ⊕ (Int32)) := if t_people ≤ s2.2 then some (.inr s2.1) else bnd (α := Int32) (f_X9_creditorsOf fu t_people t_owed s2.2) (fun x5 => if x5 = 0 then bnd (α := Int32) (f_X9_debtorsOf fu t_people t_owed s2.2) (fun x6 => if x6 = 0 then ltn (s2.1 ||| (jshl (1 : Int32) s2.2)) (fun x7 => some (.inl (x7, (s2.2 + 1)))) else some (.inl (s2.1, (s2.2 + 1)))) else some (.inl (s2.1, (s2.2 + 1))))
def f_X6_loners (fu : Nat) (t_people : Int32) (t_owed : (Nat → Int32)) : Option (Int32) := bnd (α := Int32) (lp (f_X6_loners_L4 fu t_people t_owed) fu ((0 : Int32), (0 : Int32))) (fun v8 => some v8)
set_option maxHeartbeats 4000000 in
set_option maxRecDepth 100000 in
theorem c_X6_loners {l : Launch} {D : va_G} {g : Nat → ClassId} {fu : Nat} {t_q0 t_q1 t_q2 t_q3 t_q4 : Nat} {t_people : Int32} {t_wit : (Nat → Int32)} {t_purse : (Nat → Int32)} {t_hated : (Nat → Int32)} {t_owed : (Nat → Int32)} {r : Int32} (hf : f_X6_loners fu t_people t_owed = some r) : Rd l D (gy g) yX6_loners cX6_loners 3 (some .int) 2 [.ref t_q0] (wTw g t_q0 t_q1 t_q2 t_q3 t_q4 t_people t_wit t_purse t_hated t_owed) (some (.int r)) := by
  refine Rd.ofI (by decide) (Nat.le_of_ble_eq_true rfl) ?_
  intro p e s m args below meth c Q S hK hP hret ls hl
  have hl : lv_has ls 3 [(0, .ref t_q0)] := hl
  refine lv_iconst (v := 0) S.1 S.2.1 dX6_loners_0 ic_0 ?_
  refine lv_istore_n (lv' := [(1, .int (0 : Int32)), (0, .ref t_q0)]) S.1 S.2.1 dX6_loners_1 rfl hl (by decide) rfl (fun ls hl => ?_)
  refine lv_iconst (v := 0) S.1 S.2.1 dX6_loners_2 ic_0 ?_
  refine lv_istore_n (lv' := [(2, .int (0 : Int32)), (1, .int (0 : Int32)), (0, .ref t_q0)]) S.1 S.2.1 dX6_loners_3 rfl hl (by decide) rfl (fun ls hl => ?_)
  obtain ⟨x3, hf_, hk3⟩ := bnd_e hf
  have hE3 : ∀ (v8 : Int32), v8 = x3 → ∀ (ls : Array Slot), lv_has ls 3 [(1, .int v8)] → W p l e (rmD 2) s m args below meth c s.heap [] 0 0 Q (F0 m 40 ls []) := by
    intro v8 e_ ls hl
    subst e_
    have hf := hk3
    refine lv_iload_n S.1 S.2.1 dX6_loners_40 rfl (lv_at hl 0 rfl) ?_
    have e_ := Option.some.inj hf
    subst e_
    exact hret _ _ dX6_loners_41
  refine lp_ind (P := fun (s2 : Int32 × Int32) => ∀ (ls : Array Slot), lv_has ls 3 [(0, .ref t_q0), (1, .int s2.1), (2, .int s2.2)] → W p l e (rmD 2) s m args below meth c s.heap [] 0 0 Q (F0 m 4 ls [])) ?_ _ _ hf_ _ (lv_sub hl [2, 1, 0] rfl)
  intro s2 x4 hf hI3 hR3 ls hl
  refine lv_iload_n S.1 S.2.1 dX6_loners_4 rfl (lv_at hl 2 rfl) ?_
  refine lv_aload_n S.1 S.2.1 dX6_loners_5 rfl (lv_at hl 0 rfl) ?_
  refine gfX6_18 S hK hP 0 rfl rfl dX6_loners_6 ?_
  refine lv_icmp_ge (tgt := 40) S.1 S.2.1 dX6_loners_9 (by decide) (fun c_ => ?_) (fun c_ => ?_)
  · have hf := it_p c_ hf
    have e_ := hR3 _ (Option.some.inj hf).symm
    exact hE3 _ e_ _ (lv_sub hl [1] rfl)
  · have hf := it_n c_ hf
    refine lv_aload_n S.1 S.2.1 dX6_loners_12 rfl (lv_at hl 0 rfl) ?_
    refine lv_iload_n S.1 S.2.1 dX6_loners_13 rfl (lv_at hl 2 rfl) ?_
    obtain ⟨x5, hx5, hf⟩ := bnd_e hf
    refine Rd.cV (c_X9_creditorsOf hx5) S hK hP 0 7 rfl rfl kVX6_62 rfl hl.1 [] rfl (Nat.le_of_ble_eq_true rfl) ⟨(Nat.le_of_ble_eq_true rfl), (Nat.le_of_ble_eq_true rfl)⟩ ⟨(Nat.zero_le _), (Nat.zero_le _)⟩ dX6_loners_14 ?_
    refine lv_if_ne (tgt := 34) S.1 S.2.1 dX6_loners_17 (by decide) (fun c_ => ?_) (fun c_ => ?_)
    · have hf := it_n c_ hf
      refine q_iinc (w := 1) (lv' := [(2, .int (s2.2 + 1)), (0, .ref t_q0), (1, .int s2.1)]) S dX6_loners_34 hl (k := 2) rfl ic_1 (by decide) rfl (fun ls hl => ?_)
      refine lv_goto (tgt := 4) S.1 S.2.1 dX6_loners_37 (by decide) ?_
      exact hI3 _ (Option.some.inj hf).symm _ (lv_sub hl [1, 2, 0] rfl)
    · have hf := it_p c_ hf
      refine lv_aload_n S.1 S.2.1 dX6_loners_20 rfl (lv_at hl 0 rfl) ?_
      refine lv_iload_n S.1 S.2.1 dX6_loners_21 rfl (lv_at hl 2 rfl) ?_
      obtain ⟨x6, hx6, hf⟩ := bnd_e hf
      refine Rd.cV (c_X9_debtorsOf hx6) S hK hP 0 7 rfl rfl kVX6_66 rfl hl.1 [] rfl (Nat.le_of_ble_eq_true rfl) ⟨(Nat.le_of_ble_eq_true rfl), (Nat.le_of_ble_eq_true rfl)⟩ ⟨(Nat.zero_le _), (Nat.zero_le _)⟩ dX6_loners_22 ?_
      refine lv_if_ne (tgt := 34) S.1 S.2.1 dX6_loners_25 (by decide) (fun c_ => ?_) (fun c_ => ?_)
      · have hf := it_n c_ hf
        refine q_iinc (w := 1) (lv' := [(2, .int (s2.2 + 1)), (0, .ref t_q0), (1, .int s2.1)]) S dX6_loners_34 hl (k := 2) rfl ic_1 (by decide) rfl (fun ls hl => ?_)
        refine lv_goto (tgt := 4) S.1 S.2.1 dX6_loners_37 (by decide) ?_
        exact hI3 _ (Option.some.inj hf).symm _ (lv_sub hl [1, 2, 0] rfl)
      · have hf := it_p c_ hf
        refine lv_iload_n S.1 S.2.1 dX6_loners_28 rfl (lv_at hl 1 rfl) ?_
        refine lv_iconst (v := 1) S.1 S.2.1 dX6_loners_29 ic_1 ?_
        refine lv_iload_n S.1 S.2.1 dX6_loners_30 rfl (lv_at hl 2 rfl) ?_
        refine lv_ishl S.1 S.2.1 dX6_loners_31 ?_
        refine lv_ior S.1 S.2.1 dX6_loners_32 ?_
        refine lv_topi (fun x7 ex7 => ?_)
        have hf := ltn_e hf ex7
        refine lv_istore_n (lv' := [(1, .int x7), (0, .ref t_q0), (2, .int s2.2)]) S.1 S.2.1 dX6_loners_33 rfl hl (by decide) rfl (fun ls hl => ?_)
        refine q_iinc (w := 1) (lv' := [(2, .int (s2.2 + 1)), (1, .int x7), (0, .ref t_q0)]) S dX6_loners_34 hl (k := 2) rfl ic_1 (by decide) rfl (fun ls hl => ?_)
        refine lv_goto (tgt := 4) S.1 S.2.1 dX6_loners_37 (by decide) ?_
        exact hI3 _ (Option.some.inj hf).symm _ (lv_sub hl [2, 1, 0] rfl)
def f_X6_boreAt_L15 (t_people : Int32) (t_wit : (Nat → Int32)) (s2 : Int32) (s6 : Int32 × Int32) : Option ((Int32 × Int32) ⊕ (Int32)) := if t_people ≤ s6.2 then some (.inr s6.1) else bnd (α := Int32) (rdi 6 t_wit s6.2) (fun x9 => bnd (α := Int32) (rdi 6 t_wit s2) (fun x10 => if x9 < x10 then some (.inl ((s6.1 + 1), (s6.2 + 1))) else bnd (α := Int32) (rdi 6 t_wit s6.2) (fun x11 => bnd (α := Int32) (rdi 6 t_wit s2) (fun x12 => if x11 = x12 then if s2 ≤ s6.2 then some (.inl (s6.1, (s6.2 + 1))) else some (.inl ((s6.1 + 1), (s6.2 + 1))) else some (.inl (s6.1, (s6.2 + 1)))))))
def f_X6_boreAt_L2 (fu : Nat) (t_people : Int32) (t_wit : (Nat → Int32)) (p2 : Int32) (s2 : Int32) : Option ((Int32) ⊕ ((Int32) ⊕ (Unit))) := if t_people ≤ s2 then some (.inr (.inr ())) else bnd (α := Int32) (lp (f_X6_boreAt_L15 t_people t_wit s2) fu ((0 : Int32), (0 : Int32))) (fun v13 => if v13 = p2 then some (.inr (.inl s2)) else some (.inl (s2 + 1)))
def f_X6_boreAt (fu : Nat) (t_people : Int32) (t_wit : (Nat → Int32)) (p2 : Int32) : Option (Int32) := bnd (α := (Int32) ⊕ (Unit)) (lp (f_X6_boreAt_L2 fu t_people t_wit p2) fu (0 : Int32)) (fun x3 => cse x3 (fun y15 => some y15) (fun v14 => some (-2 : Int32)))
set_option maxHeartbeats 4000000 in
set_option maxRecDepth 100000 in
theorem c_X6_boreAt {l : Launch} {D : va_G} {g : Nat → ClassId} {fu : Nat} {t_q0 t_q1 t_q2 t_q3 t_q4 : Nat} {t_people : Int32} {t_wit : (Nat → Int32)} {t_purse : (Nat → Int32)} {t_hated : (Nat → Int32)} {t_owed : (Nat → Int32)} {p2 : Int32} {r : Int32} (hf : f_X6_boreAt fu t_people t_wit p2 = some r) : Rd l D (gy g) yX6_boreAt cX6_boreAt 5 (some .int) 0 [.ref t_q0, .int p2] (wTw g t_q0 t_q1 t_q2 t_q3 t_q4 t_people t_wit t_purse t_hated t_owed) (some (.int r)) := by
  refine Rd.ofI (by decide) (Nat.le_of_ble_eq_true rfl) ?_
  intro p e s m args below meth c Q S hK hP hret ls hl
  have hl : lv_has ls 5 [(0, .ref t_q0), (1, .int p2)] := hl
  refine lv_iconst (v := 0) S.1 S.2.1 dX6_boreAt_0 ic_0 ?_
  refine lv_istore_n (lv' := [(2, .int (0 : Int32)), (0, .ref t_q0), (1, .int p2)]) S.1 S.2.1 dX6_boreAt_1 rfl hl (by decide) rfl (fun ls hl => ?_)
  obtain ⟨x3, hf_, hk3⟩ := bnd_e hf
  have hE3 : ∀ (v14 : Unit), x3 = .inr v14 → ∀ (ls : Array Slot), lv_has ls 5 [] → W p l e (rmD 0) s m args below meth c s.heap [] 0 0 Q (F0 m 84 ls []) := by
    intro v14 e_ ls hl
    subst e_
    have hf := cse_r hk3
    refine lv_bipush (v := (-2)) S.1 S.2.1 dX6_boreAt_84 bp_m2 ?_
    have e_ := Option.some.inj hf
    subst e_
    exact hret _ _ dX6_boreAt_86
  refine lp_ind (P := fun (s2 : Int32) => ∀ (ls : Array Slot), lv_has ls 5 [(0, .ref t_q0), (1, .int p2), (2, .int s2)] → W p l e (rmD 0) s m args below meth c s.heap [] 0 0 Q (F0 m 2 ls [])) ?_ _ _ hf_ _ (lv_sub hl [1, 2, 0] rfl)
  intro s2 x4 hf hI3 hR3 ls hl
  refine lv_iload_n S.1 S.2.1 dX6_boreAt_2 rfl (lv_at hl 2 rfl) ?_
  refine lv_aload_n S.1 S.2.1 dX6_boreAt_3 rfl (lv_at hl 0 rfl) ?_
  refine gfX6_18 S hK hP 0 rfl rfl dX6_boreAt_4 ?_
  refine lv_icmp_ge (tgt := 84) S.1 S.2.1 dX6_boreAt_7 (by decide) (fun c_ => ?_) (fun c_ => ?_)
  · have hf := it_p c_ hf
    have e_ := hR3 _ (Option.some.inj hf).symm
    exact hE3 _ e_.symm _ (lv_sub hl [] rfl)
  · have hf := it_n c_ hf
    refine lv_iconst (v := 0) S.1 S.2.1 dX6_boreAt_10 ic_0 ?_
    refine lv_istore_n (lv' := [(3, .int (0 : Int32)), (0, .ref t_q0), (1, .int p2), (2, .int s2)]) S.1 S.2.1 dX6_boreAt_11 rfl hl (by decide) rfl (fun ls hl => ?_)
    refine lv_iconst (v := 0) S.1 S.2.1 dX6_boreAt_12 ic_0 ?_
    refine lv_istore (lv' := [(4, .int (0 : Int32)), (3, .int (0 : Int32)), (0, .ref t_q0), (1, .int p2), (2, .int s2)]) S.1 S.2.1 dX6_boreAt_13 hl (by decide) rfl (fun ls hl => ?_)
    obtain ⟨x7, hf_, hk7⟩ := bnd_e hf
    have hE7 : ∀ (v13 : Int32), v13 = x7 → ∀ (ls : Array Slot), lv_has ls 5 [(0, .ref t_q0), (1, .int p2), (2, .int s2), (3, .int v13)] → W p l e (rmD 0) s m args below meth c s.heap [] 0 0 Q (F0 m 71 ls []) := by
      intro v13 e_ ls hl
      subst e_
      have hf := hk7
      refine lv_iload_n S.1 S.2.1 dX6_boreAt_71 rfl (lv_at hl 3 rfl) ?_
      refine lv_iload_n S.1 S.2.1 dX6_boreAt_72 rfl (lv_at hl 1 rfl) ?_
      refine lv_icmp_ne (tgt := 78) S.1 S.2.1 dX6_boreAt_73 (by decide) (fun c_ => ?_) (fun c_ => ?_)
      · have hf := it_n c_ hf
        refine q_iinc (w := 1) (lv' := [(2, .int (s2 + 1)), (0, .ref t_q0), (1, .int p2), (3, .int v13)]) S dX6_boreAt_78 hl (k := 2) rfl ic_1 (by decide) rfl (fun ls hl => ?_)
        refine lv_goto (tgt := 2) S.1 S.2.1 dX6_boreAt_81 (by decide) ?_
        exact hI3 _ (Option.some.inj hf).symm _ (lv_sub hl [1, 2, 0] rfl)
      · have hf := it_p c_ hf
        refine lv_iload_n S.1 S.2.1 dX6_boreAt_76 rfl (lv_at hl 2 rfl) ?_
        have e_ := hR3 _ (Option.some.inj hf).symm
        subst e_
        have hf := cse_l hk3
        have e_ := Option.some.inj hf
        subst e_
        exact hret _ _ dX6_boreAt_77
    refine lp_ind (P := fun (s6 : Int32 × Int32) => ∀ (ls : Array Slot), lv_has ls 5 [(0, .ref t_q0), (1, .int p2), (2, .int s2), (3, .int s6.1), (4, .int s6.2)] → W p l e (rmD 0) s m args below meth c s.heap [] 0 0 Q (F0 m 15 ls [])) ?_ _ _ hf_ _ (lv_sub hl [2, 3, 4, 1, 0] rfl)
    intro s6 x8 hf hI7 hR7 ls hl
    refine lv_iload S.1 S.2.1 dX6_boreAt_15 (lv_at hl 4 rfl) ?_
    refine lv_aload_n S.1 S.2.1 dX6_boreAt_17 rfl (lv_at hl 0 rfl) ?_
    refine gfX6_18 S hK hP 0 rfl rfl dX6_boreAt_18 ?_
    refine lv_icmp_ge (tgt := 71) S.1 S.2.1 dX6_boreAt_21 (by decide) (fun c_ => ?_) (fun c_ => ?_)
    · have hf := it_p c_ hf
      have e_ := hR7 _ (Option.some.inj hf).symm
      exact hE7 _ e_ _ (lv_sub hl [0, 1, 2, 3] rfl)
    · have hf := it_n c_ hf
      refine lv_aload_n S.1 S.2.1 dX6_boreAt_24 rfl (lv_at hl 0 rfl) ?_
      refine gfX6_35 S hK hP 0 rfl rfl dX6_boreAt_25 ?_
      refine lv_iload S.1 S.2.1 dX6_boreAt_28 (lv_at hl 4 rfl) ?_
      obtain ⟨x9, hx9, hf⟩ := bnd_e hf
      refine q_iald S hK hP 1 0 rfl rfl hx9 dX6_boreAt_30 ?_
      refine lv_aload_n S.1 S.2.1 dX6_boreAt_31 rfl (lv_at hl 0 rfl) ?_
      refine gfX6_35 S hK hP 0 rfl rfl dX6_boreAt_32 ?_
      refine lv_iload_n S.1 S.2.1 dX6_boreAt_35 rfl (lv_at hl 2 rfl) ?_
      obtain ⟨x10, hx10, hf⟩ := bnd_e hf
      refine q_iald S hK hP 1 0 rfl rfl hx10 dX6_boreAt_36 ?_
      refine lv_icmp_lt (tgt := 62) S.1 S.2.1 dX6_boreAt_37 (by decide) (fun c_ => ?_) (fun c_ => ?_)
      · have hf := it_p c_ hf
        refine q_iinc (w := 1) (lv' := [(3, .int (s6.1 + 1)), (0, .ref t_q0), (1, .int p2), (2, .int s2), (4, .int s6.2)]) S dX6_boreAt_62 hl (k := 3) rfl ic_1 (by decide) rfl (fun ls hl => ?_)
        refine q_iinc (w := 1) (lv' := [(4, .int (s6.2 + 1)), (3, .int (s6.1 + 1)), (0, .ref t_q0), (1, .int p2), (2, .int s2)]) S dX6_boreAt_65 hl (k := 4) rfl ic_1 (by decide) rfl (fun ls hl => ?_)
        refine lv_goto (tgt := 15) S.1 S.2.1 dX6_boreAt_68 (by decide) ?_
        exact hI7 _ (Option.some.inj hf).symm _ (lv_sub hl [2, 3, 4, 1, 0] rfl)
      · have hf := it_n c_ hf
        refine lv_aload_n S.1 S.2.1 dX6_boreAt_40 rfl (lv_at hl 0 rfl) ?_
        refine gfX6_35 S hK hP 0 rfl rfl dX6_boreAt_41 ?_
        refine lv_iload S.1 S.2.1 dX6_boreAt_44 (lv_at hl 4 rfl) ?_
        obtain ⟨x11, hx11, hf⟩ := bnd_e hf
        refine q_iald S hK hP 1 0 rfl rfl hx11 dX6_boreAt_46 ?_
        refine lv_aload_n S.1 S.2.1 dX6_boreAt_47 rfl (lv_at hl 0 rfl) ?_
        refine gfX6_35 S hK hP 0 rfl rfl dX6_boreAt_48 ?_
        refine lv_iload_n S.1 S.2.1 dX6_boreAt_51 rfl (lv_at hl 2 rfl) ?_
        obtain ⟨x12, hx12, hf⟩ := bnd_e hf
        refine q_iald S hK hP 1 0 rfl rfl hx12 dX6_boreAt_52 ?_
        refine lv_icmp_ne (tgt := 65) S.1 S.2.1 dX6_boreAt_53 (by decide) (fun c_ => ?_) (fun c_ => ?_)
        · have hf := it_n c_ hf
          refine q_iinc (w := 1) (lv' := [(4, .int (s6.2 + 1)), (0, .ref t_q0), (1, .int p2), (2, .int s2), (3, .int s6.1)]) S dX6_boreAt_65 hl (k := 4) rfl ic_1 (by decide) rfl (fun ls hl => ?_)
          refine lv_goto (tgt := 15) S.1 S.2.1 dX6_boreAt_68 (by decide) ?_
          exact hI7 _ (Option.some.inj hf).symm _ (lv_sub hl [1, 2, 3, 4, 0] rfl)
        · have hf := it_p c_ hf
          refine lv_iload S.1 S.2.1 dX6_boreAt_56 (lv_at hl 4 rfl) ?_
          refine lv_iload_n S.1 S.2.1 dX6_boreAt_58 rfl (lv_at hl 2 rfl) ?_
          refine lv_icmp_ge (tgt := 65) S.1 S.2.1 dX6_boreAt_59 (by decide) (fun c_ => ?_) (fun c_ => ?_)
          · have hf := it_p c_ hf
            refine q_iinc (w := 1) (lv' := [(4, .int (s6.2 + 1)), (0, .ref t_q0), (1, .int p2), (2, .int s2), (3, .int s6.1)]) S dX6_boreAt_65 hl (k := 4) rfl ic_1 (by decide) rfl (fun ls hl => ?_)
            refine lv_goto (tgt := 15) S.1 S.2.1 dX6_boreAt_68 (by decide) ?_
            exact hI7 _ (Option.some.inj hf).symm _ (lv_sub hl [1, 2, 3, 4, 0] rfl)
          · have hf := it_n c_ hf
            refine q_iinc (w := 1) (lv' := [(3, .int (s6.1 + 1)), (0, .ref t_q0), (1, .int p2), (2, .int s2), (4, .int s6.2)]) S dX6_boreAt_62 hl (k := 3) rfl ic_1 (by decide) rfl (fun ls hl => ?_)
            refine q_iinc (w := 1) (lv' := [(4, .int (s6.2 + 1)), (3, .int (s6.1 + 1)), (0, .ref t_q0), (1, .int p2), (2, .int s2)]) S dX6_boreAt_65 hl (k := 4) rfl ic_1 (by decide) rfl (fun ls hl => ?_)
            refine lv_goto (tgt := 15) S.1 S.2.1 dX6_boreAt_68 (by decide) ?_
            exact hI7 _ (Option.some.inj hf).symm _ (lv_sub hl [2, 3, 4, 1, 0] rfl)
def f_X6_tellOfPeople (fu : Nat) (t_people : Int32) (t_wit : (Nat → Int32)) (t_hated : (Nat → Int32)) (t_owed : (Nat → Int32)) (p2 : Int32) : Option (Int32) := if p2 = (5 : Int32) then bnd (α := Int32) (f_X6_feuds fu t_people t_hated) (fun x1 => some x1) else if p2 = (6 : Int32) then bnd (α := Int32) (f_X6_loners fu t_people t_owed) (fun x2 => some x2) else bnd (α := (Int32) ⊕ (Unit)) (if p2 < (10 : Int32) then some (.inr ()) else if (20 : Int32) ≤ p2 then some (.inr ()) else bnd (α := Int32) (f_X6_boreAt fu t_people t_wit (p2 - (10 : Int32))) (fun x7 => some (.inl x7))) (fun x3 => cse x3 (fun y8 => some y8) (fun v4 => if p2 < (20 : Int32) then some (-2 : Int32) else if (30 : Int32) ≤ p2 then some (-2 : Int32) else bnd (α := Int32) (f_X9_has fu t_people (p2 - (20 : Int32))) (fun x5 => if x5 = 0 then some (-2 : Int32) else bnd (α := Int32) (f_X6_feudOf fu t_people t_hated (p2 - (20 : Int32))) (fun x6 => some x6))))
set_option maxHeartbeats 4000000 in
set_option maxRecDepth 100000 in
theorem c_X6_tellOfPeople {l : Launch} {D : va_G} {g : Nat → ClassId} {fu : Nat} {t_q0 t_q1 t_q2 t_q3 t_q4 : Nat} {t_people : Int32} {t_wit : (Nat → Int32)} {t_purse : (Nat → Int32)} {t_hated : (Nat → Int32)} {t_owed : (Nat → Int32)} {p2 : Int32} {r : Int32} (hf : f_X6_tellOfPeople fu t_people t_wit t_hated t_owed p2 = some r) : Rd l D (gy g) yX6_tellOfPeople cX6_tellOfPeople 2 (some .int) 3 [.ref t_q0, .int p2] (wTw g t_q0 t_q1 t_q2 t_q3 t_q4 t_people t_wit t_purse t_hated t_owed) (some (.int r)) := by
  refine Rd.ofI (by decide) (Nat.le_of_ble_eq_true rfl) ?_
  intro p e s m args below meth c Q S hK hP hret ls hl
  have hl : lv_has ls 2 [(0, .ref t_q0), (1, .int p2)] := hl
  refine lv_iload_n S.1 S.2.1 dX6_tellOfPeople_0 rfl (lv_at hl 1 rfl) ?_
  refine lv_iconst (v := 5) S.1 S.2.1 dX6_tellOfPeople_1 ic_5 ?_
  refine lv_icmp_ne (tgt := 10) S.1 S.2.1 dX6_tellOfPeople_2 (by decide) (fun c_ => ?_) (fun c_ => ?_)
  · have hf := it_n c_ hf
    refine lv_iload_n S.1 S.2.1 dX6_tellOfPeople_10 rfl (lv_at hl 1 rfl) ?_
    refine lv_bipush (v := 6) S.1 S.2.1 dX6_tellOfPeople_11 bp_6 ?_
    refine lv_icmp_ne (tgt := 21) S.1 S.2.1 dX6_tellOfPeople_13 (by decide) (fun c_ => ?_) (fun c_ => ?_)
    · have hf := it_n c_ hf
      refine lv_iload_n S.1 S.2.1 dX6_tellOfPeople_21 rfl (lv_at hl 1 rfl) ?_
      refine lv_bipush (v := 10) S.1 S.2.1 dX6_tellOfPeople_22 bp_10 ?_
      obtain ⟨x3, hf_, hk3⟩ := bnd_e hf
      have hJ3 : ∀ (v4 : Unit), x3 = .inr v4 → ∀ (ls : Array Slot), lv_has ls 2 [(0, .ref t_q0), (1, .int p2)] → W p l e (rmD 3) s m args below meth c s.heap [] 0 0 Q (F0 m 42 ls []) := by
        intro v4 e_ ls hl
        subst e_
        have hf := cse_r hk3
        refine lv_iload_n S.1 S.2.1 dX6_tellOfPeople_42 rfl (lv_at hl 1 rfl) ?_
        refine lv_bipush (v := 20) S.1 S.2.1 dX6_tellOfPeople_43 bp_20 ?_
        refine lv_icmp_lt (tgt := 76) S.1 S.2.1 dX6_tellOfPeople_45 (by decide) (fun c_ => ?_) (fun c_ => ?_)
        · have hf := it_p c_ hf
          refine lv_bipush (v := (-2)) S.1 S.2.1 dX6_tellOfPeople_76 bp_m2 ?_
          have e_ := Option.some.inj hf
          subst e_
          exact hret _ _ dX6_tellOfPeople_78
        · have hf := it_n c_ hf
          refine lv_iload_n S.1 S.2.1 dX6_tellOfPeople_48 rfl (lv_at hl 1 rfl) ?_
          refine lv_bipush (v := 30) S.1 S.2.1 dX6_tellOfPeople_49 bp_30 ?_
          refine lv_icmp_ge (tgt := 76) S.1 S.2.1 dX6_tellOfPeople_51 (by decide) (fun c_ => ?_) (fun c_ => ?_)
          · have hf := it_p c_ hf
            refine lv_bipush (v := (-2)) S.1 S.2.1 dX6_tellOfPeople_76 bp_m2 ?_
            have e_ := Option.some.inj hf
            subst e_
            exact hret _ _ dX6_tellOfPeople_78
          · have hf := it_n c_ hf
            refine lv_aload_n S.1 S.2.1 dX6_tellOfPeople_54 rfl (lv_at hl 0 rfl) ?_
            refine lv_iload_n S.1 S.2.1 dX6_tellOfPeople_55 rfl (lv_at hl 1 rfl) ?_
            refine lv_bipush (v := 20) S.1 S.2.1 dX6_tellOfPeople_56 bp_20 ?_
            refine lv_isub S.1 S.2.1 dX6_tellOfPeople_58 ?_
            obtain ⟨x5, hx5, hf⟩ := bnd_e hf
            refine Rd.cV (c_X9_has hx5) S hK hP 0 7 rfl rfl kVX6_55 rfl hl.1 [] rfl (Nat.le_of_ble_eq_true rfl) ⟨(Nat.le_of_ble_eq_true rfl), (Nat.le_of_ble_eq_true rfl)⟩ ⟨(Nat.zero_le _), (Nat.zero_le _)⟩ dX6_tellOfPeople_59 ?_
            refine lv_if_eq (tgt := 76) S.1 S.2.1 dX6_tellOfPeople_62 (by decide) (fun c_ => ?_) (fun c_ => ?_)
            · have hf := it_p c_ hf
              refine lv_bipush (v := (-2)) S.1 S.2.1 dX6_tellOfPeople_76 bp_m2 ?_
              have e_ := Option.some.inj hf
              subst e_
              exact hret _ _ dX6_tellOfPeople_78
            · have hf := it_n c_ hf
              refine lv_aload_n S.1 S.2.1 dX6_tellOfPeople_65 rfl (lv_at hl 0 rfl) ?_
              refine lv_iload_n S.1 S.2.1 dX6_tellOfPeople_66 rfl (lv_at hl 1 rfl) ?_
              refine lv_bipush (v := 20) S.1 S.2.1 dX6_tellOfPeople_67 bp_20 ?_
              refine lv_isub S.1 S.2.1 dX6_tellOfPeople_69 ?_
              obtain ⟨x6, hx6, hf⟩ := bnd_e hf
              refine Rd.cS (c_X6_feudOf hx6) S hK hP kSX6_59 rfl hl.1 [] rfl (Nat.le_of_ble_eq_true rfl) ⟨(Nat.le_of_ble_eq_true rfl), (Nat.le_of_ble_eq_true rfl)⟩ ⟨(Nat.zero_le _), (Nat.zero_le _)⟩ dX6_tellOfPeople_70 ?_
              refine lv_goto (tgt := 78) S.1 S.2.1 dX6_tellOfPeople_73 (by decide) ?_
              have e_ := Option.some.inj hf
              subst e_
              exact hret _ _ dX6_tellOfPeople_78
      have hf := hf_
      refine lv_icmp_lt (tgt := 42) S.1 S.2.1 dX6_tellOfPeople_24 (by decide) (fun c_ => ?_) (fun c_ => ?_)
      · have hf := it_p c_ hf
        exact hJ3 _ (Option.some.inj hf).symm _ (lv_sub hl [0, 1] rfl)
      · have hf := it_n c_ hf
        refine lv_iload_n S.1 S.2.1 dX6_tellOfPeople_27 rfl (lv_at hl 1 rfl) ?_
        refine lv_bipush (v := 20) S.1 S.2.1 dX6_tellOfPeople_28 bp_20 ?_
        refine lv_icmp_ge (tgt := 42) S.1 S.2.1 dX6_tellOfPeople_30 (by decide) (fun c_ => ?_) (fun c_ => ?_)
        · have hf := it_p c_ hf
          exact hJ3 _ (Option.some.inj hf).symm _ (lv_sub hl [0, 1] rfl)
        · have hf := it_n c_ hf
          refine lv_aload_n S.1 S.2.1 dX6_tellOfPeople_33 rfl (lv_at hl 0 rfl) ?_
          refine lv_iload_n S.1 S.2.1 dX6_tellOfPeople_34 rfl (lv_at hl 1 rfl) ?_
          refine lv_bipush (v := 10) S.1 S.2.1 dX6_tellOfPeople_35 bp_10 ?_
          refine lv_isub S.1 S.2.1 dX6_tellOfPeople_37 ?_
          obtain ⟨x7, hx7, hf⟩ := bnd_e hf
          refine Rd.cS (c_X6_boreAt hx7) S hK hP kSX6_51 rfl hl.1 [] rfl (Nat.le_of_ble_eq_true rfl) ⟨(Nat.le_of_ble_eq_true rfl), (Nat.le_of_ble_eq_true rfl)⟩ ⟨(Nat.zero_le _), (Nat.zero_le _)⟩ dX6_tellOfPeople_38 ?_
          have e_ := Option.some.inj hf
          subst e_
          have hf := cse_l hk3
          have e_ := Option.some.inj hf
          subst e_
          exact hret _ _ dX6_tellOfPeople_41
    · have hf := it_p c_ hf
      refine lv_aload_n S.1 S.2.1 dX6_tellOfPeople_16 rfl (lv_at hl 0 rfl) ?_
      obtain ⟨x2, hx2, hf⟩ := bnd_e hf
      refine Rd.cS (c_X6_loners hx2) S hK hP kSX6_48 rfl hl.1 [] rfl (Nat.le_of_ble_eq_true rfl) ⟨(Nat.le_of_ble_eq_true rfl), (Nat.le_of_ble_eq_true rfl)⟩ ⟨(Nat.zero_le _), (Nat.zero_le _)⟩ dX6_tellOfPeople_17 ?_
      have e_ := Option.some.inj hf
      subst e_
      exact hret _ _ dX6_tellOfPeople_20
  · have hf := it_p c_ hf
    refine lv_aload_n S.1 S.2.1 dX6_tellOfPeople_5 rfl (lv_at hl 0 rfl) ?_
    obtain ⟨x1, hx1, hf⟩ := bnd_e hf
    refine Rd.cS (c_X6_feuds hx1) S hK hP kSX6_44 rfl hl.1 [] rfl (Nat.le_of_ble_eq_true rfl) ⟨(Nat.le_of_ble_eq_true rfl), (Nat.le_of_ble_eq_true rfl)⟩ ⟨(Nat.zero_le _), (Nat.zero_le _)⟩ dX6_tellOfPeople_6 ?_
    have e_ := Option.some.inj hf
    subst e_
    exact hret _ _ dX6_tellOfPeople_9
def f_X6_wittiestParty_L8 (fu : Nat) (t_people : Int32) (t_wit : (Nat → Int32)) (t_hated : (Nat → Int32)) (p2 : Int32) (s2 : Int32 × Int32 × Int32) : Option ((Int32 × Int32 × Int32) ⊕ (Int32 × Int32)) := if (jshl (1 : Int32) t_people) ≤ s2.2.2 then some (.inr (s2.1, s2.2.1)) else bnd (α := Int32) (f_J6_bitCount_0f7a4 fu s2.2.2) (fun x5 => if x5 = p2 then bnd (α := Int32) (f_X9_noneHate fu t_people t_hated s2.2.2) (fun x6 => if x6 = 0 then some (.inl (s2.1, s2.2.1, (s2.2.2 + 1))) else bnd (α := Int32) (f_X9_witOf fu t_people t_wit s2.2.2) (fun x7 => if x7 ≤ s2.1 then some (.inl (s2.1, s2.2.1, (s2.2.2 + 1))) else bnd (α := Int32) (f_X9_witOf fu t_people t_wit s2.2.2) (fun x8 => some (.inl (x8, s2.2.2, (s2.2.2 + 1)))))) else some (.inl (s2.1, s2.2.1, (s2.2.2 + 1))))
def f_X6_wittiestParty (fu : Nat) (t_people : Int32) (t_wit : (Nat → Int32)) (t_hated : (Nat → Int32)) (p2 : Int32) (p3 : Int32) : Option (Int32) := bnd (α := Int32 × Int32) (lp (f_X6_wittiestParty_L8 fu t_people t_wit t_hated p2) fu ((-1 : Int32), (-1 : Int32), (0 : Int32))) (fun v9 => if p3 = 0 then some v9.1 else some v9.2)
set_option maxHeartbeats 4000000 in
set_option maxRecDepth 100000 in
theorem c_X6_wittiestParty {l : Launch} {D : va_G} {g : Nat → ClassId} {fu : Nat} {t_q0 t_q1 t_q2 t_q3 t_q4 : Nat} {t_people : Int32} {t_wit : (Nat → Int32)} {t_purse : (Nat → Int32)} {t_hated : (Nat → Int32)} {t_owed : (Nat → Int32)} {p2 : Int32} {p3 : Int32} {r : Int32} (hf : f_X6_wittiestParty fu t_people t_wit t_hated p2 p3 = some r) : Rd l D (gy g) yX6_wittiestParty cX6_wittiestParty 6 (some .int) 1 [.ref t_q0, .int p2, .int p3] (wTw g t_q0 t_q1 t_q2 t_q3 t_q4 t_people t_wit t_purse t_hated t_owed) (some (.int r)) := by
  refine Rd.ofI (by decide) (Nat.le_of_ble_eq_true rfl) ?_
  intro p e s m args below meth c Q S hK hP hret ls hl
  have hl : lv_has ls 6 [(0, .ref t_q0), (1, .int p2), (2, .int p3)] := hl
  refine lv_iconst (v := (-1)) S.1 S.2.1 dX6_wittiestParty_0 ic_m1 ?_
  refine lv_istore_n (lv' := [(3, .int (-1 : Int32)), (0, .ref t_q0), (1, .int p2), (2, .int p3)]) S.1 S.2.1 dX6_wittiestParty_1 rfl hl (by decide) rfl (fun ls hl => ?_)
  refine lv_iconst (v := (-1)) S.1 S.2.1 dX6_wittiestParty_2 ic_m1 ?_
  refine lv_istore (lv' := [(4, .int (-1 : Int32)), (3, .int (-1 : Int32)), (0, .ref t_q0), (1, .int p2), (2, .int p3)]) S.1 S.2.1 dX6_wittiestParty_3 hl (by decide) rfl (fun ls hl => ?_)
  refine lv_iconst (v := 0) S.1 S.2.1 dX6_wittiestParty_5 ic_0 ?_
  refine lv_istore (lv' := [(5, .int (0 : Int32)), (4, .int (-1 : Int32)), (3, .int (-1 : Int32)), (0, .ref t_q0), (1, .int p2), (2, .int p3)]) S.1 S.2.1 dX6_wittiestParty_6 hl (by decide) rfl (fun ls hl => ?_)
  obtain ⟨x3, hf_, hk3⟩ := bnd_e hf
  have hE3 : ∀ (v9 : Int32 × Int32), v9 = x3 → ∀ (ls : Array Slot), lv_has ls 6 [(2, .int p3), (3, .int v9.1), (4, .int v9.2)] → W p l e (rmD 1) s m args below meth c s.heap [] 0 0 Q (F0 m 64 ls []) := by
    intro v9 e_ ls hl
    subst e_
    have hf := hk3
    refine lv_iload_n S.1 S.2.1 dX6_wittiestParty_64 rfl (lv_at hl 0 rfl) ?_
    refine lv_if_eq (tgt := 73) S.1 S.2.1 dX6_wittiestParty_65 (by decide) (fun c_ => ?_) (fun c_ => ?_)
    · have hf := it_p c_ hf
      refine lv_iload_n S.1 S.2.1 dX6_wittiestParty_73 rfl (lv_at hl 1 rfl) ?_
      have e_ := Option.some.inj hf
      subst e_
      exact hret _ _ dX6_wittiestParty_74
    · have hf := it_n c_ hf
      refine lv_iload S.1 S.2.1 dX6_wittiestParty_68 (lv_at hl 2 rfl) ?_
      refine lv_goto (tgt := 74) S.1 S.2.1 dX6_wittiestParty_70 (by decide) ?_
      have e_ := Option.some.inj hf
      subst e_
      exact hret _ _ dX6_wittiestParty_74
  refine lp_ind (P := fun (s2 : Int32 × Int32 × Int32) => ∀ (ls : Array Slot), lv_has ls 6 [(0, .ref t_q0), (1, .int p2), (2, .int p3), (3, .int s2.1), (4, .int s2.2.1), (5, .int s2.2.2)] → W p l e (rmD 1) s m args below meth c s.heap [] 0 0 Q (F0 m 8 ls [])) ?_ _ _ hf_ _ (lv_sub hl [3, 4, 5, 2, 1, 0] rfl)
  intro s2 x4 hf hI3 hR3 ls hl
  refine lv_iload S.1 S.2.1 dX6_wittiestParty_8 (lv_at hl 5 rfl) ?_
  refine lv_iconst (v := 1) S.1 S.2.1 dX6_wittiestParty_10 ic_1 ?_
  refine lv_aload_n S.1 S.2.1 dX6_wittiestParty_11 rfl (lv_at hl 0 rfl) ?_
  refine gfX6_18 S hK hP 0 rfl rfl dX6_wittiestParty_12 ?_
  refine lv_ishl S.1 S.2.1 dX6_wittiestParty_15 ?_
  refine lv_icmp_ge (tgt := 64) S.1 S.2.1 dX6_wittiestParty_16 (by decide) (fun c_ => ?_) (fun c_ => ?_)
  · have hf := it_p c_ hf
    have e_ := hR3 _ (Option.some.inj hf).symm
    exact hE3 _ e_ _ (lv_sub hl [2, 3, 4] rfl)
  · have hf := it_n c_ hf
    refine lv_iload S.1 S.2.1 dX6_wittiestParty_19 (lv_at hl 5 rfl) ?_
    obtain ⟨x5, hx5, hf⟩ := bnd_e hf
    refine Rd.cS (c_J6_bitCount_0f7a4 hx5) S hK va_P.nil kSX6_69 rfl hl.1 [] rfl (Nat.le_of_ble_eq_true rfl) ⟨(Nat.le_of_ble_eq_true rfl), (Nat.le_of_ble_eq_true rfl)⟩ ⟨(Nat.zero_le _), (Nat.zero_le _)⟩ dX6_wittiestParty_21 ?_
    refine lv_iload_n S.1 S.2.1 dX6_wittiestParty_24 rfl (lv_at hl 1 rfl) ?_
    refine lv_icmp_ne (tgt := 58) S.1 S.2.1 dX6_wittiestParty_25 (by decide) (fun c_ => ?_) (fun c_ => ?_)
    · have hf := it_n c_ hf
      refine q_iinc (w := 1) (lv' := [(5, .int (s2.2.2 + 1)), (0, .ref t_q0), (1, .int p2), (2, .int p3), (3, .int s2.1), (4, .int s2.2.1)]) S dX6_wittiestParty_58 hl (k := 5) rfl ic_1 (by decide) rfl (fun ls hl => ?_)
      refine lv_goto (tgt := 8) S.1 S.2.1 dX6_wittiestParty_61 (by decide) ?_
      exact hI3 _ (Option.some.inj hf).symm _ (lv_sub hl [1, 2, 3, 4, 5, 0] rfl)
    · have hf := it_p c_ hf
      refine lv_aload_n S.1 S.2.1 dX6_wittiestParty_28 rfl (lv_at hl 0 rfl) ?_
      refine lv_iload S.1 S.2.1 dX6_wittiestParty_29 (lv_at hl 5 rfl) ?_
      obtain ⟨x6, hx6, hf⟩ := bnd_e hf
      refine Rd.cV (c_X9_noneHate hx6) S hK hP 0 7 rfl rfl kVX6_74 rfl hl.1 [] rfl (Nat.le_of_ble_eq_true rfl) ⟨(Nat.le_of_ble_eq_true rfl), (Nat.le_of_ble_eq_true rfl)⟩ ⟨(Nat.zero_le _), (Nat.zero_le _)⟩ dX6_wittiestParty_31 ?_
      refine lv_if_eq (tgt := 58) S.1 S.2.1 dX6_wittiestParty_34 (by decide) (fun c_ => ?_) (fun c_ => ?_)
      · have hf := it_p c_ hf
        refine q_iinc (w := 1) (lv' := [(5, .int (s2.2.2 + 1)), (0, .ref t_q0), (1, .int p2), (2, .int p3), (3, .int s2.1), (4, .int s2.2.1)]) S dX6_wittiestParty_58 hl (k := 5) rfl ic_1 (by decide) rfl (fun ls hl => ?_)
        refine lv_goto (tgt := 8) S.1 S.2.1 dX6_wittiestParty_61 (by decide) ?_
        exact hI3 _ (Option.some.inj hf).symm _ (lv_sub hl [1, 2, 3, 4, 5, 0] rfl)
      · have hf := it_n c_ hf
        refine lv_aload_n S.1 S.2.1 dX6_wittiestParty_37 rfl (lv_at hl 0 rfl) ?_
        refine lv_iload S.1 S.2.1 dX6_wittiestParty_38 (lv_at hl 5 rfl) ?_
        obtain ⟨x7, hx7, hf⟩ := bnd_e hf
        refine Rd.cV (c_X9_witOf hx7) S hK hP 0 7 rfl rfl kVX6_77 rfl hl.1 [] rfl (Nat.le_of_ble_eq_true rfl) ⟨(Nat.le_of_ble_eq_true rfl), (Nat.le_of_ble_eq_true rfl)⟩ ⟨(Nat.zero_le _), (Nat.zero_le _)⟩ dX6_wittiestParty_40 ?_
        refine lv_iload_n S.1 S.2.1 dX6_wittiestParty_43 rfl (lv_at hl 3 rfl) ?_
        refine lv_icmp_le (tgt := 58) S.1 S.2.1 dX6_wittiestParty_44 (by decide) (fun c_ => ?_) (fun c_ => ?_)
        · have hf := it_p c_ hf
          refine q_iinc (w := 1) (lv' := [(5, .int (s2.2.2 + 1)), (0, .ref t_q0), (1, .int p2), (2, .int p3), (3, .int s2.1), (4, .int s2.2.1)]) S dX6_wittiestParty_58 hl (k := 5) rfl ic_1 (by decide) rfl (fun ls hl => ?_)
          refine lv_goto (tgt := 8) S.1 S.2.1 dX6_wittiestParty_61 (by decide) ?_
          exact hI3 _ (Option.some.inj hf).symm _ (lv_sub hl [1, 2, 3, 4, 5, 0] rfl)
        · have hf := it_n c_ hf
          refine lv_aload_n S.1 S.2.1 dX6_wittiestParty_47 rfl (lv_at hl 0 rfl) ?_
          refine lv_iload S.1 S.2.1 dX6_wittiestParty_48 (lv_at hl 5 rfl) ?_
          obtain ⟨x8, hx8, hf⟩ := bnd_e hf
          refine Rd.cV (c_X9_witOf hx8) S hK hP 0 7 rfl rfl kVX6_77 rfl hl.1 [] rfl (Nat.le_of_ble_eq_true rfl) ⟨(Nat.le_of_ble_eq_true rfl), (Nat.le_of_ble_eq_true rfl)⟩ ⟨(Nat.zero_le _), (Nat.zero_le _)⟩ dX6_wittiestParty_50 ?_
          refine lv_istore_n (lv' := [(3, .int x8), (0, .ref t_q0), (1, .int p2), (2, .int p3), (4, .int s2.2.1), (5, .int s2.2.2)]) S.1 S.2.1 dX6_wittiestParty_53 rfl hl (by decide) rfl (fun ls hl => ?_)
          refine lv_iload S.1 S.2.1 dX6_wittiestParty_54 (lv_at hl 5 rfl) ?_
          refine lv_istore (lv' := [(4, .int s2.2.2), (3, .int x8), (0, .ref t_q0), (1, .int p2), (2, .int p3), (5, .int s2.2.2)]) S.1 S.2.1 dX6_wittiestParty_56 hl (by decide) rfl (fun ls hl => ?_)
          refine q_iinc (w := 1) (lv' := [(5, .int (s2.2.2 + 1)), (4, .int s2.2.2), (3, .int x8), (0, .ref t_q0), (1, .int p2), (2, .int p3)]) S dX6_wittiestParty_58 hl (k := 5) rfl ic_1 (by decide) rfl (fun ls hl => ?_)
          refine lv_goto (tgt := 8) S.1 S.2.1 dX6_wittiestParty_61 (by decide) ?_
          exact hI3 _ (Option.some.inj hf).symm _ (lv_sub hl [3, 4, 5, 2, 1, 0] rfl)
def f_X6_isFree_L3 (fu : Nat) (t_hated : (Nat → Int32)) (p2_f : (Nat → Int32)) (p3 : Int32) (p4 : Int32) (p2_n : Nat) (s2 : Int32) : Option ((Int32) ⊕ ((Int32) ⊕ (Unit))) := if p3 ≤ s2 then some (.inr (.inr ())) else bnd (α := Int32) (rdi p2_n p2_f s2) (fun x5 => if x5 = p4 then bnd (α := Int32) (f_X9_hates fu t_hated p3 s2) (fun x6 => if x6 = 0 then some (.inl (s2 + 1)) else some (.inr (.inl (0 : Int32)))) else some (.inl (s2 + 1)))
def f_X6_isFree (fu : Nat) (p2_n : Nat) (t_hated : (Nat → Int32)) (p2_f : (Nat → Int32)) (p3 : Int32) (p4 : Int32) : Option (Int32) := bnd (α := (Int32) ⊕ (Unit)) (lp (f_X6_isFree_L3 fu t_hated p2_f p3 p4 p2_n) fu (0 : Int32)) (fun x3 => cse x3 (fun y8 => some y8) (fun v7 => some (1 : Int32)))
set_option maxHeartbeats 4000000 in
set_option maxRecDepth 100000 in
theorem c_X6_isFree {l : Launch} {D : va_G} {g : Nat → ClassId} {fu : Nat} {t_q0 t_q1 t_q2 t_q3 t_q4 p2_q0 : Nat} {p2_n : Nat} {t_people : Int32} {t_wit : (Nat → Int32)} {t_purse : (Nat → Int32)} {t_hated : (Nat → Int32)} {t_owed : (Nat → Int32)} {p2_f : (Nat → Int32)} {p3 : Int32} {p4 : Int32} {r : Int32} (hf : f_X6_isFree fu p2_n t_hated p2_f p3 p4 = some r) : Rd l D (gy g) yX6_isFree cX6_isFree 5 (some .boolean) 1 [.ref t_q0, .ref p2_q0, .int p3, .int p4] (wTw g t_q0 t_q1 t_q2 t_q3 t_q4 t_people t_wit t_purse t_hated t_owed ++ wAI g p2_q0 p2_n p2_f) (some (.int r)) := by
  refine Rd.ofZ (by decide) (Nat.le_of_ble_eq_true rfl) ?_
  intro p e s m args below meth c Q S hK hP hret ls hl
  have hl : lv_has ls 5 [(0, .ref t_q0), (1, .ref p2_q0), (2, .int p3), (3, .int p4)] := hl
  refine lv_iconst (v := 0) S.1 S.2.1 dX6_isFree_0 ic_0 ?_
  refine lv_istore (lv' := [(4, .int (0 : Int32)), (0, .ref t_q0), (1, .ref p2_q0), (2, .int p3), (3, .int p4)]) S.1 S.2.1 dX6_isFree_1 hl (by decide) rfl (fun ls hl => ?_)
  obtain ⟨x3, hf_, hk3⟩ := bnd_e hf
  have hE3 : ∀ (v7 : Unit), x3 = .inr v7 → ∀ (ls : Array Slot), lv_has ls 5 [] → W p l e (rmD 1) s m args below meth c s.heap [] 0 0 Q (F0 m 35 ls []) := by
    intro v7 e_ ls hl
    subst e_
    have hf := cse_r hk3
    refine lv_iconst (v := 1) S.1 S.2.1 dX6_isFree_35 ic_1 ?_
    have e_ := Option.some.inj hf
    subst e_
    exact hret _ _ (Or.inr rfl) dX6_isFree_36
  refine lp_ind (P := fun (s2 : Int32) => ∀ (ls : Array Slot), lv_has ls 5 [(0, .ref t_q0), (1, .ref p2_q0), (2, .int p3), (3, .int p4), (4, .int s2)] → W p l e (rmD 1) s m args below meth c s.heap [] 0 0 Q (F0 m 3 ls [])) ?_ _ _ hf_ _ (lv_sub hl [1, 2, 3, 4, 0] rfl)
  intro s2 x4 hf hI3 hR3 ls hl
  refine lv_iload S.1 S.2.1 dX6_isFree_3 (lv_at hl 4 rfl) ?_
  refine lv_iload_n S.1 S.2.1 dX6_isFree_5 rfl (lv_at hl 2 rfl) ?_
  refine lv_icmp_ge (tgt := 35) S.1 S.2.1 dX6_isFree_6 (by decide) (fun c_ => ?_) (fun c_ => ?_)
  · have hf := it_p c_ hf
    have e_ := hR3 _ (Option.some.inj hf).symm
    exact hE3 _ e_.symm _ (lv_sub hl [] rfl)
  · have hf := it_n c_ hf
    refine lv_aload_n S.1 S.2.1 dX6_isFree_9 rfl (lv_at hl 1 rfl) ?_
    refine lv_iload S.1 S.2.1 dX6_isFree_10 (lv_at hl 4 rfl) ?_
    obtain ⟨x5, hx5, hf⟩ := bnd_e hf
    refine q_iald S hK hP 5 0 rfl rfl hx5 dX6_isFree_12 ?_
    refine lv_iload_n S.1 S.2.1 dX6_isFree_13 rfl (lv_at hl 3 rfl) ?_
    refine lv_icmp_ne (tgt := 29) S.1 S.2.1 dX6_isFree_14 (by decide) (fun c_ => ?_) (fun c_ => ?_)
    · have hf := it_n c_ hf
      refine q_iinc (w := 1) (lv' := [(4, .int (s2 + 1)), (0, .ref t_q0), (1, .ref p2_q0), (2, .int p3), (3, .int p4)]) S dX6_isFree_29 hl (k := 4) rfl ic_1 (by decide) rfl (fun ls hl => ?_)
      refine lv_goto (tgt := 3) S.1 S.2.1 dX6_isFree_32 (by decide) ?_
      exact hI3 _ (Option.some.inj hf).symm _ (lv_sub hl [1, 2, 3, 4, 0] rfl)
    · have hf := it_p c_ hf
      refine lv_aload_n S.1 S.2.1 dX6_isFree_17 rfl (lv_at hl 0 rfl) ?_
      refine lv_iload_n S.1 S.2.1 dX6_isFree_18 rfl (lv_at hl 2 rfl) ?_
      refine lv_iload S.1 S.2.1 dX6_isFree_19 (lv_at hl 4 rfl) ?_
      obtain ⟨x6, hx6, hf⟩ := bnd_e hf
      refine Rd.cV (c_X9_hates hx6) S hK (hP.sub (ws' := (wTw g t_q0 t_q1 t_q2 t_q3 t_q4 t_people t_wit t_purse t_hated t_owed)) [0, 1, 2, 3, 4] rfl) 0 7 rfl rfl kVX6_88 rfl hl.1 [] rfl (Nat.le_of_ble_eq_true rfl) ⟨(Nat.le_of_ble_eq_true rfl), (Nat.le_of_ble_eq_true rfl)⟩ ⟨(Nat.zero_le _), (Nat.zero_le _)⟩ dX6_isFree_21 ?_
      refine lv_if_eq (tgt := 29) S.1 S.2.1 dX6_isFree_24 (by decide) (fun c_ => ?_) (fun c_ => ?_)
      · have hf := it_p c_ hf
        refine q_iinc (w := 1) (lv' := [(4, .int (s2 + 1)), (0, .ref t_q0), (1, .ref p2_q0), (2, .int p3), (3, .int p4)]) S dX6_isFree_29 hl (k := 4) rfl ic_1 (by decide) rfl (fun ls hl => ?_)
        refine lv_goto (tgt := 3) S.1 S.2.1 dX6_isFree_32 (by decide) ?_
        exact hI3 _ (Option.some.inj hf).symm _ (lv_sub hl [1, 2, 3, 4, 0] rfl)
      · have hf := it_n c_ hf
        refine lv_iconst (v := 0) S.1 S.2.1 dX6_isFree_27 ic_0 ?_
        have e_ := hR3 _ (Option.some.inj hf).symm
        subst e_
        have hf := cse_l hk3
        have e_ := Option.some.inj hf
        subst e_
        exact hret _ _ (Or.inl rfl) dX6_isFree_28
def f_X6_canSeat_L19 (fu : Nat) (rec_ : Nat → Int32 → (Nat → Int32) → (Nat → Int32) → Int32 → Int32 → Int32 → Option (Int32 × (Nat → Int32))) (t_people : Int32) (t_hated : (Nat → Int32)) (p3 : Int32) (p4 : Int32) (p5 : Int32) (p2_n : Nat) (s2 : Int32 × (Nat → Int32)) : Option ((Int32 × (Nat → Int32)) ⊕ ((Int32 × (Nat → Int32)) ⊕ ((Nat → Int32)))) := if p4 ≤ s2.1 then some (.inr (.inr s2.2)) else if p5 < s2.1 then some (.inr (.inr s2.2)) else bnd (α := Int32) (f_X6_isFree fu p2_n t_hated s2.2 p3 s2.1) (fun x5 => if x5 = 0 then some (.inl ((s2.1 + 1), s2.2)) else bnd (α := (Nat → Int32)) (wri p2_n s2.2 p3 s2.1) (fun x6 => bnd (α := Int32 × (Nat → Int32)) (rec_ p2_n t_people t_hated x6 (p3 + (1 : Int32)) p4 (jmax p5 (s2.1 + (1 : Int32)))) (fun x7 => if x7.1 = 0 then some (.inl ((s2.1 + 1), x7.2)) else some (.inr (.inl ((1 : Int32), x7.2))))))
def F_X6_canSeat (rec_ : Nat → Int32 → (Nat → Int32) → (Nat → Int32) → Int32 → Int32 → Int32 → Option (Int32 × (Nat → Int32))) (fu : Nat) (p2_n : Nat) (t_people : Int32) (t_hated : (Nat → Int32)) (p2_f : (Nat → Int32)) (p3 : Int32) (p4 : Int32) (p5 : Int32) : Option (Int32 × (Nat → Int32)) := if t_people ≤ p3 then some ((1 : Int32), p2_f) else if p3 < (nI p2_n) then bnd (α := (Int32 × (Nat → Int32)) ⊕ ((Nat → Int32))) (lp (f_X6_canSeat_L19 fu rec_ t_people t_hated p3 p4 p5 p2_n) fu ((0 : Int32), p2_f)) (fun x3 => cse x3 (fun y9 => some y9) (fun v8 => some ((0 : Int32), v8))) else some ((1 : Int32), p2_f)
def f_X6_canSeat (fu : Nat) : Nat → Nat → Int32 → (Nat → Int32) → (Nat → Int32) → Int32 → Int32 → Int32 → Option (Int32 × (Nat → Int32))
  | 0, _, _, _, _, _, _, _ => none
  | dp + 1, p2_n, t_people, t_hated, p2_f, p3, p4, p5 => F_X6_canSeat (f_X6_canSeat fu dp) fu p2_n t_people t_hated p2_f p3 p4 p5
set_option maxHeartbeats 4000000 in
set_option maxRecDepth 100000 in
theorem c_X6_canSeat {l : Launch} {D : va_G} {g : Nat → ClassId} {fu : Nat} : ∀ (dp : Nat) {t_q0 t_q1 t_q2 t_q3 t_q4 p2_q0 : Nat} {p2_n : Nat} {t_people : Int32} {t_wit : (Nat → Int32)} {t_purse : (Nat → Int32)} {t_hated : (Nat → Int32)} {t_owed : (Nat → Int32)} {p2_f : (Nat → Int32)} {p3 : Int32} {p4 : Int32} {p5 : Int32} {r : Int32 × (Nat → Int32)}, f_X6_canSeat fu dp p2_n t_people t_hated p2_f p3 p4 p5 = some r → Wr l D (gy g) yX6_canSeat cX6_canSeat 6 (some .boolean) (2 + dp) [.ref t_q0, .ref p2_q0, .int p3, .int p4, .int p5] (wTw g t_q0 t_q1 t_q2 t_q3 t_q4 t_people t_wit t_purse t_hated t_owed ++ wAI g p2_q0 p2_n p2_f) (wTw g t_q0 t_q1 t_q2 t_q3 t_q4 t_people t_wit t_purse t_hated t_owed ++ wAI g p2_q0 p2_n r.2) (some (.int r.1)) := by
  intro dp
  induction dp with
  | zero => intro t_q0 t_q1 t_q2 t_q3 t_q4 p2_q0 p2_n t_people t_wit t_purse t_hated t_owed p2_f p3 p4 p5 r hf; cases hf
  | succ dp ih_ =>
  intro t_q0 t_q1 t_q2 t_q3 t_q4 p2_q0 p2_n t_people t_wit t_purse t_hated t_owed p2_f p3 p4 p5 r hf
  have hf : F_X6_canSeat (f_X6_canSeat fu dp) fu p2_n t_people t_hated p2_f p3 p4 p5 = some r := hf
  refine Wr.ofZ (by decide) (Nat.le_of_ble_eq_true rfl) ?_
  intro p e s m args below meth c Q A S hK hA hret ls hl hW
  have hl : lv_has ls 6 [(0, .ref t_q0), (1, .ref p2_q0), (2, .int p3), (3, .int p4), (4, .int p5)] := hl
  refine lv_iload_n S.1 S.2.1 dX6_canSeat_0 rfl (lv_at hl 2 rfl) ?_
  refine lv_aload_n S.1 S.2.1 dX6_canSeat_1 rfl (lv_at hl 0 rfl) ?_
  refine gfX6_18 S hK hW.1 0 rfl rfl dX6_canSeat_2 ?_
  refine lv_icmp_ge (tgt := 14) S.1 S.2.1 dX6_canSeat_5 (by decide) (fun c_ => ?_) (fun c_ => ?_)
  · have hf := it_p c_ hf
    refine lv_iconst (v := 1) S.1 S.2.1 dX6_canSeat_14 ic_1 ?_
    have e_ := Option.some.inj hf
    subst e_
    exact hret _ _ _ _ (Or.inr rfl) dX6_canSeat_15 hW
  · have hf := it_n c_ hf
    refine lv_iload_n S.1 S.2.1 dX6_canSeat_8 rfl (lv_at hl 2 rfl) ?_
    refine lv_aload_n S.1 S.2.1 dX6_canSeat_9 rfl (lv_at hl 1 rfl) ?_
    refine q_alen S hK hW.1 5 0 rfl rfl (v := (nI p2_n)) rfl dX6_canSeat_10 ?_
    refine lv_icmp_lt (tgt := 16) S.1 S.2.1 dX6_canSeat_11 (by decide) (fun c_ => ?_) (fun c_ => ?_)
    · have hf := it_p c_ hf
      refine lv_iconst (v := 0) S.1 S.2.1 dX6_canSeat_16 ic_0 ?_
      refine lv_istore (lv' := [(5, .int (0 : Int32)), (0, .ref t_q0), (1, .ref p2_q0), (2, .int p3), (3, .int p4), (4, .int p5)]) S.1 S.2.1 dX6_canSeat_17 hl (by decide) rfl (fun ls hl => ?_)
      obtain ⟨x3, hf_, hk3⟩ := bnd_e hf
      have hE3 : ∀ (v8 : (Nat → Int32)), x3 = .inr v8 → ∀ (ls : Array Slot) (H : Heap) (locs : List Loc), lv_has ls 6 [] → St A s.heap D (wTw g t_q0 t_q1 t_q2 t_q3 t_q4 t_people t_wit t_purse t_hated t_owed ++ wAI g p2_q0 p2_n v8) H locs → W p l e (rmD (2 + (dp + 1))) s m args below meth c H locs 0 0 Q (F0 m 77 ls []) := by
        intro v8 e_ ls H locs hl hW
        subst e_
        have hf := cse_r hk3
        refine lv_iconst (v := 0) S.1 S.2.1 dX6_canSeat_77 ic_0 ?_
        have e_ := Option.some.inj hf
        subst e_
        exact hret _ _ _ _ (Or.inl rfl) dX6_canSeat_78 hW
      refine lp_ind (P := fun (s2 : Int32 × (Nat → Int32)) => ∀ (ls : Array Slot) (H : Heap) (locs : List Loc), lv_has ls 6 [(0, .ref t_q0), (1, .ref p2_q0), (2, .int p3), (3, .int p4), (4, .int p5), (5, .int s2.1)] → St A s.heap D (wTw g t_q0 t_q1 t_q2 t_q3 t_q4 t_people t_wit t_purse t_hated t_owed ++ wAI g p2_q0 p2_n s2.2) H locs → W p l e (rmD (2 + (dp + 1))) s m args below meth c H locs 0 0 Q (F0 m 19 ls [])) ?_ _ _ hf_ _ _ _ (lv_sub hl [1, 2, 3, 4, 5, 0] rfl) hW
      intro s2 x4 hf hI3 hR3 ls H locs hl hW
      refine lv_iload S.1 S.2.1 dX6_canSeat_19 (lv_at hl 5 rfl) ?_
      refine lv_iload_n S.1 S.2.1 dX6_canSeat_21 rfl (lv_at hl 3 rfl) ?_
      refine lv_icmp_ge (tgt := 77) S.1 S.2.1 dX6_canSeat_22 (by decide) (fun c_ => ?_) (fun c_ => ?_)
      · have hf := it_p c_ hf
        have e_ := hR3 _ (Option.some.inj hf).symm
        exact hE3 _ e_.symm _ _ _ (lv_sub hl [] rfl) hW
      · have hf := it_n c_ hf
        refine lv_iload S.1 S.2.1 dX6_canSeat_25 (lv_at hl 5 rfl) ?_
        refine lv_iload S.1 S.2.1 dX6_canSeat_27 (lv_at hl 4 rfl) ?_
        refine lv_icmp_gt (tgt := 77) S.1 S.2.1 dX6_canSeat_29 (by decide) (fun c_ => ?_) (fun c_ => ?_)
        · have hf := it_p c_ hf
          have e_ := hR3 _ (Option.some.inj hf).symm
          exact hE3 _ e_.symm _ _ _ (lv_sub hl [] rfl) hW
        · have hf := it_n c_ hf
          refine lv_aload_n S.1 S.2.1 dX6_canSeat_32 rfl (lv_at hl 0 rfl) ?_
          refine lv_aload_n S.1 S.2.1 dX6_canSeat_33 rfl (lv_at hl 1 rfl) ?_
          refine lv_iload_n S.1 S.2.1 dX6_canSeat_34 rfl (lv_at hl 2 rfl) ?_
          refine lv_iload S.1 S.2.1 dX6_canSeat_35 (lv_at hl 5 rfl) ?_
          obtain ⟨x5, hx5, hf⟩ := bnd_e hf
          refine Rd.cS (c_X6_isFree hx5) S hK hW.1 kSX6_84 rfl hl.1 [] rfl (Nat.le_of_ble_eq_true rfl) (rm_le (by omega) (by decide)) ⟨(Nat.zero_le _), (Nat.zero_le _)⟩ dX6_canSeat_37 ?_
          refine lv_if_eq (tgt := 71) S.1 S.2.1 dX6_canSeat_40 (by decide) (fun c_ => ?_) (fun c_ => ?_)
          · have hf := it_p c_ hf
            refine q_iinc (w := 1) (lv' := [(5, .int (s2.1 + 1)), (0, .ref t_q0), (1, .ref p2_q0), (2, .int p3), (3, .int p4), (4, .int p5)]) S dX6_canSeat_71 hl (k := 5) rfl ic_1 (by decide) rfl (fun ls hl => ?_)
            refine lv_goto (tgt := 19) S.1 S.2.1 dX6_canSeat_74 (by decide) ?_
            exact hI3 _ (Option.some.inj hf).symm _ _ _ (lv_sub hl [1, 2, 3, 4, 5, 0] rfl) hW
          · have hf := it_n c_ hf
            refine lv_aload_n S.1 S.2.1 dX6_canSeat_43 rfl (lv_at hl 1 rfl) ?_
            refine lv_iload_n S.1 S.2.1 dX6_canSeat_44 rfl (lv_at hl 2 rfl) ?_
            refine lv_iload S.1 S.2.1 dX6_canSeat_45 (lv_at hl 5 rfl) ?_
            obtain ⟨x6, hx6, hf⟩ := bnd_e hf
            refine q_iast (ws2 := (wTw g t_q0 t_q1 t_q2 t_q3 t_q4 t_people t_wit t_purse t_hated t_owed ++ wAI g p2_q0 p2_n x6)) S hK hW 5 0 rfl rfl hx6 rfl dX6_canSeat_47 (fun H locs hW => ?_)
            refine lv_aload_n S.1 S.2.1 dX6_canSeat_48 rfl (lv_at hl 0 rfl) ?_
            refine lv_aload_n S.1 S.2.1 dX6_canSeat_49 rfl (lv_at hl 1 rfl) ?_
            refine lv_iload_n S.1 S.2.1 dX6_canSeat_50 rfl (lv_at hl 2 rfl) ?_
            refine lv_iconst (v := 1) S.1 S.2.1 dX6_canSeat_51 ic_1 ?_
            refine lv_iadd S.1 S.2.1 dX6_canSeat_52 ?_
            refine lv_iload_n S.1 S.2.1 dX6_canSeat_53 rfl (lv_at hl 3 rfl) ?_
            refine lv_iload S.1 S.2.1 dX6_canSeat_54 (lv_at hl 4 rfl) ?_
            refine lv_iload S.1 S.2.1 dX6_canSeat_56 (lv_at hl 5 rfl) ?_
            refine lv_iconst (v := 1) S.1 S.2.1 dX6_canSeat_58 ic_1 ?_
            refine lv_iadd S.1 S.2.1 dX6_canSeat_59 ?_
            refine va_mmax S.1 S.2.1 (S.2.2.1.trans hl.1.symm) S.2.2.2.1 (S.2.2.2.2 _ q_740) (S.2.2.2.2 _ q_658) (S.2.2.2.2 _ q_12) (S.2.2.2.2 _ q_659) (rm_1 (by omega)) (rm_13 (by omega) (Nat.le_of_ble_eq_true rfl)) (Nat.zero_le _) (Nat.zero_le _) dX6_canSeat_60 ?_
            obtain ⟨x7, hx7, hf⟩ := bnd_e hf
            refine Wr.goW (Wr.runS (ih_ hx7) S hK hW.1 hW.2.1 kSX6_80 rfl hl.1 [] rfl (Nat.le_of_ble_eq_true rfl) (rm_le (by omega) (by decide)) ⟨(Nat.zero_le _), (Nat.zero_le _)⟩ dX6_canSeat_63) hW hA (fun H locs hW => ?_)
            refine lv_if_eq (tgt := 71) S.1 S.2.1 dX6_canSeat_66 (by decide) (fun c_ => ?_) (fun c_ => ?_)
            · have hf := it_p c_ hf
              refine q_iinc (w := 1) (lv' := [(5, .int (s2.1 + 1)), (0, .ref t_q0), (1, .ref p2_q0), (2, .int p3), (3, .int p4), (4, .int p5)]) S dX6_canSeat_71 hl (k := 5) rfl ic_1 (by decide) rfl (fun ls hl => ?_)
              refine lv_goto (tgt := 19) S.1 S.2.1 dX6_canSeat_74 (by decide) ?_
              exact hI3 _ (Option.some.inj hf).symm _ _ _ (lv_sub hl [1, 2, 3, 4, 5, 0] rfl) hW
            · have hf := it_n c_ hf
              refine lv_iconst (v := 1) S.1 S.2.1 dX6_canSeat_69 ic_1 ?_
              have e_ := hR3 _ (Option.some.inj hf).symm
              subst e_
              have hf := cse_l hk3
              have e_ := Option.some.inj hf
              subst e_
              exact hret _ _ _ _ (Or.inr rfl) dX6_canSeat_70 hW
    · have hf := it_n c_ hf
      refine lv_iconst (v := 1) S.1 S.2.1 dX6_canSeat_14 ic_1 ?_
      have e_ := Option.some.inj hf
      subst e_
      exact hret _ _ _ _ (Or.inr rfl) dX6_canSeat_15 hW
def f_X6_fewestTables_L2 (fu : Nat) (t_people : Int32) (t_hated : (Nat → Int32)) (s2 : Int32 × (Nat → Int32)) : Option ((Int32 × (Nat → Int32)) ⊕ (Int32 × (Nat → Int32))) := if t_people ≤ s2.1 then some (.inr (s2.1, s2.2)) else bnd (α := Int32 × (Nat → Int32)) (f_X6_canSeat fu 8 6 t_people t_hated s2.2 (0 : Int32) s2.1 (0 : Int32)) (fun x5 => if x5.1 = 0 then some (.inl ((s2.1 + 1), x5.2)) else some (.inr (s2.1, x5.2)))
def f_X6_fewestTables (fu : Nat) (o_row : (Nat → Int32)) (t_people : Int32) (t_hated : (Nat → Int32)) (p2 : Int32) : Option (Int32 × (Nat → Int32)) := bnd (α := Int32 × (Nat → Int32)) (lp (f_X6_fewestTables_L2 fu t_people t_hated) fu ((0 : Int32), o_row)) (fun v6 => bnd (α := (Nat → Int32)) (if v6.1 = t_people then bnd (α := Int32 × (Nat → Int32)) (f_X6_canSeat fu 8 6 t_people t_hated v6.2 (0 : Int32) v6.1 (0 : Int32)) (fun x10 => some x10.2) else some v6.2) (fun v8 => if p2 < 0 then some (v6.1, v8) else if p2 < (6 : Int32) then bnd (α := Int32) (rdi 6 v8 p2) (fun x9 => some (x9, v8)) else some (v6.1, v8)))
set_option maxHeartbeats 4000000 in
set_option maxRecDepth 100000 in
theorem c_X6_fewestTables {l : Launch} {D : va_G} {g : Nat → ClassId} {fu : Nat} {o_q0 o_q1 o_q2 t_q0 t_q1 t_q2 t_q3 t_q4 : Nat} {o_row : (Nat → Int32)} {o_debtors : (Nat → Int32)} {t_people : Int32} {t_wit : (Nat → Int32)} {t_purse : (Nat → Int32)} {t_hated : (Nat → Int32)} {t_owed : (Nat → Int32)} {p2 : Int32} {r : Int32 × (Nat → Int32)} (hf : f_X6_fewestTables fu o_row t_people t_hated p2 = some r) : Wr l D (gy g) yX6_fewestTables cX6_fewestTables 4 (some .int) 11 [.ref o_q0, .ref t_q0, .int p2] (wSe g o_q0 o_q1 o_q2 o_row o_debtors ++ wTw g t_q0 t_q1 t_q2 t_q3 t_q4 t_people t_wit t_purse t_hated t_owed) (wSe g o_q0 o_q1 o_q2 r.2 o_debtors ++ wTw g t_q0 t_q1 t_q2 t_q3 t_q4 t_people t_wit t_purse t_hated t_owed) (some (.int r.1)) := by
  refine Wr.ofI (by decide) (Nat.le_of_ble_eq_true rfl) ?_
  intro p e s m args below meth c Q A S hK hA hret ls hl hW
  have hl : lv_has ls 4 [(0, .ref o_q0), (1, .ref t_q0), (2, .int p2)] := hl
  refine lv_iconst (v := 0) S.1 S.2.1 dX6_fewestTables_0 ic_0 ?_
  refine lv_istore_n (lv' := [(3, .int (0 : Int32)), (0, .ref o_q0), (1, .ref t_q0), (2, .int p2)]) S.1 S.2.1 dX6_fewestTables_1 rfl hl (by decide) rfl (fun ls hl => ?_)
  obtain ⟨x3, hf_, hk3⟩ := bnd_e hf
  have hE3 : ∀ (v6 : Int32 × (Nat → Int32)), v6 = x3 → ∀ (ls : Array Slot) (H : Heap) (locs : List Loc), lv_has ls 4 [(0, .ref o_q0), (1, .ref t_q0), (2, .int p2), (3, .int v6.1)] → St A s.heap D (wSe g o_q0 o_q1 o_q2 v6.2 o_debtors ++ wTw g t_q0 t_q1 t_q2 t_q3 t_q4 t_people t_wit t_purse t_hated t_owed) H locs → W p l e (rmD 11) s m args below meth c H locs 0 0 Q (F0 m 30 ls []) := by
    intro v6 e_ ls H locs hl hW
    subst e_
    have hf := hk3
    refine lv_iload_n S.1 S.2.1 dX6_fewestTables_30 rfl (lv_at hl 3 rfl) ?_
    refine lv_aload_n S.1 S.2.1 dX6_fewestTables_31 rfl (lv_at hl 1 rfl) ?_
    refine gfX6_18 S hK hW.1 3 rfl rfl dX6_fewestTables_32 ?_
    obtain ⟨x7, hf_, hk7⟩ := bnd_e hf
    have hJ7 : ∀ (v8 : (Nat → Int32)), v8 = x7 → ∀ (ls : Array Slot) (H : Heap) (locs : List Loc), lv_has ls 4 [(0, .ref o_q0), (2, .int p2), (3, .int v6.1)] → St A s.heap D (wSe g o_q0 o_q1 o_q2 v8 o_debtors ++ wTw g t_q0 t_q1 t_q2 t_q3 t_q4 t_people t_wit t_purse t_hated t_owed) H locs → W p l e (rmD 11) s m args below meth c H locs 0 0 Q (F0 m 50 ls []) := by
      intro v8 e_ ls H locs hl hW
      subst e_
      have hf := hk7
      refine lv_iload_n S.1 S.2.1 dX6_fewestTables_50 rfl (lv_at hl 1 rfl) ?_
      refine lv_if_lt (tgt := 60) S.1 S.2.1 dX6_fewestTables_51 (by decide) (fun c_ => ?_) (fun c_ => ?_)
      · have hf := it_p c_ hf
        refine lv_iload_n S.1 S.2.1 dX6_fewestTables_60 rfl (lv_at hl 2 rfl) ?_
        refine lv_goto (tgt := 70) S.1 S.2.1 dX6_fewestTables_61 (by decide) ?_
        have e_ := Option.some.inj hf
        subst e_
        exact hret _ _ _ _ dX6_fewestTables_70 hW
      · have hf := it_n c_ hf
        refine lv_iload_n S.1 S.2.1 dX6_fewestTables_54 rfl (lv_at hl 1 rfl) ?_
        refine lv_bipush (v := 6) S.1 S.2.1 dX6_fewestTables_55 bp_6 ?_
        refine lv_icmp_lt (tgt := 64) S.1 S.2.1 dX6_fewestTables_57 (by decide) (fun c_ => ?_) (fun c_ => ?_)
        · have hf := it_p c_ hf
          refine lv_aload_n S.1 S.2.1 dX6_fewestTables_64 rfl (lv_at hl 0 rfl) ?_
          refine gfX6_9 S hK hW.1 0 rfl rfl dX6_fewestTables_65 ?_
          refine lv_iload_n S.1 S.2.1 dX6_fewestTables_68 rfl (lv_at hl 1 rfl) ?_
          obtain ⟨x9, hx9, hf⟩ := bnd_e hf
          refine q_iald S hK hW.1 1 0 rfl rfl hx9 dX6_fewestTables_69 ?_
          have e_ := Option.some.inj hf
          subst e_
          exact hret _ _ _ _ dX6_fewestTables_70 hW
        · have hf := it_n c_ hf
          refine lv_iload_n S.1 S.2.1 dX6_fewestTables_60 rfl (lv_at hl 2 rfl) ?_
          refine lv_goto (tgt := 70) S.1 S.2.1 dX6_fewestTables_61 (by decide) ?_
          have e_ := Option.some.inj hf
          subst e_
          exact hret _ _ _ _ dX6_fewestTables_70 hW
    have hf := hf_
    refine lv_icmp_ne (tgt := 50) S.1 S.2.1 dX6_fewestTables_35 (by decide) (fun c_ => ?_) (fun c_ => ?_)
    · have hf := it_n c_ hf
      exact hJ7 _ (Option.some.inj hf) _ _ _ (lv_sub hl [0, 2, 3] rfl) hW
    · have hf := it_p c_ hf
      refine lv_aload_n S.1 S.2.1 dX6_fewestTables_38 rfl (lv_at hl 1 rfl) ?_
      refine lv_aload_n S.1 S.2.1 dX6_fewestTables_39 rfl (lv_at hl 0 rfl) ?_
      refine gfX6_9 S hK hW.1 0 rfl rfl dX6_fewestTables_40 ?_
      refine lv_iconst (v := 0) S.1 S.2.1 dX6_fewestTables_43 ic_0 ?_
      refine lv_iload_n S.1 S.2.1 dX6_fewestTables_44 rfl (lv_at hl 3 rfl) ?_
      refine lv_iconst (v := 0) S.1 S.2.1 dX6_fewestTables_45 ic_0 ?_
      obtain ⟨x10, hx10, hf⟩ := bnd_e hf
      refine Wr.go (ws2 := (wSe g o_q0 o_q1 o_q2 x10.2 o_debtors ++ wTw g t_q0 t_q1 t_q2 t_q3 t_q4 t_people t_wit t_purse t_hated t_owed)) (Wr.runS (c_X6_canSeat 8 hx10) S hK (hW.1.sub (ws' := (wTw g t_q0 t_q1 t_q2 t_q3 t_q4 t_people t_wit t_purse t_hated t_owed ++ wAI g o_q1 6 v6.2)) [3, 4, 5, 6, 7, 1] rfl) (hW.2.1.sub (ws' := (wTw g t_q0 t_q1 t_q2 t_q3 t_q4 t_people t_wit t_purse t_hated t_owed ++ wAI g o_q1 6 v6.2)) [3, 4, 5, 6, 7, 1] (by decide) rfl) kSX6_80 rfl hl.1 [] rfl (Nat.le_of_ble_eq_true rfl) ⟨(Nat.le_of_ble_eq_true rfl), (Nat.le_of_ble_eq_true rfl)⟩ ⟨(Nat.zero_le _), (Nat.zero_le _)⟩ dX6_fewestTables_46) hW hA [3, 4, 5, 6, 7, 1] rfl [(false, 0), (true, 5), (false, 2), (true, 0), (true, 1), (true, 2), (true, 3), (true, 4)] rfl (by decide) rfl (fun H locs hW => ?_)
      refine lv_pop S.1 S.2.1 dX6_fewestTables_49 rfl ?_
      exact hJ7 _ (Option.some.inj hf) _ _ _ (lv_sub hl [0, 2, 3] rfl) hW
  refine lp_ind (P := fun (s2 : Int32 × (Nat → Int32)) => ∀ (ls : Array Slot) (H : Heap) (locs : List Loc), lv_has ls 4 [(0, .ref o_q0), (1, .ref t_q0), (2, .int p2), (3, .int s2.1)] → St A s.heap D (wSe g o_q0 o_q1 o_q2 s2.2 o_debtors ++ wTw g t_q0 t_q1 t_q2 t_q3 t_q4 t_people t_wit t_purse t_hated t_owed) H locs → W p l e (rmD 11) s m args below meth c H locs 0 0 Q (F0 m 2 ls [])) ?_ _ _ hf_ _ _ _ (lv_sub hl [1, 2, 3, 0] rfl) hW
  intro s2 x4 hf hI3 hR3 ls H locs hl hW
  refine lv_iload_n S.1 S.2.1 dX6_fewestTables_2 rfl (lv_at hl 3 rfl) ?_
  refine lv_aload_n S.1 S.2.1 dX6_fewestTables_3 rfl (lv_at hl 1 rfl) ?_
  refine gfX6_18 S hK hW.1 3 rfl rfl dX6_fewestTables_4 ?_
  refine lv_icmp_ge (tgt := 30) S.1 S.2.1 dX6_fewestTables_7 (by decide) (fun c_ => ?_) (fun c_ => ?_)
  · have hf := it_p c_ hf
    have e_ := hR3 _ (Option.some.inj hf).symm
    exact hE3 _ e_ _ _ _ (lv_sub hl [0, 1, 2, 3] rfl) hW
  · have hf := it_n c_ hf
    refine lv_aload_n S.1 S.2.1 dX6_fewestTables_10 rfl (lv_at hl 1 rfl) ?_
    refine lv_aload_n S.1 S.2.1 dX6_fewestTables_11 rfl (lv_at hl 0 rfl) ?_
    refine gfX6_9 S hK hW.1 0 rfl rfl dX6_fewestTables_12 ?_
    refine lv_iconst (v := 0) S.1 S.2.1 dX6_fewestTables_15 ic_0 ?_
    refine lv_iload_n S.1 S.2.1 dX6_fewestTables_16 rfl (lv_at hl 3 rfl) ?_
    refine lv_iconst (v := 0) S.1 S.2.1 dX6_fewestTables_17 ic_0 ?_
    obtain ⟨x5, hx5, hf⟩ := bnd_e hf
    refine Wr.go (ws2 := (wSe g o_q0 o_q1 o_q2 x5.2 o_debtors ++ wTw g t_q0 t_q1 t_q2 t_q3 t_q4 t_people t_wit t_purse t_hated t_owed)) (Wr.runS (c_X6_canSeat 8 hx5) S hK (hW.1.sub (ws' := (wTw g t_q0 t_q1 t_q2 t_q3 t_q4 t_people t_wit t_purse t_hated t_owed ++ wAI g o_q1 6 s2.2)) [3, 4, 5, 6, 7, 1] rfl) (hW.2.1.sub (ws' := (wTw g t_q0 t_q1 t_q2 t_q3 t_q4 t_people t_wit t_purse t_hated t_owed ++ wAI g o_q1 6 s2.2)) [3, 4, 5, 6, 7, 1] (by decide) rfl) kSX6_80 rfl hl.1 [] rfl (Nat.le_of_ble_eq_true rfl) ⟨(Nat.le_of_ble_eq_true rfl), (Nat.le_of_ble_eq_true rfl)⟩ ⟨(Nat.zero_le _), (Nat.zero_le _)⟩ dX6_fewestTables_18) hW hA [3, 4, 5, 6, 7, 1] rfl [(false, 0), (true, 5), (false, 2), (true, 0), (true, 1), (true, 2), (true, 3), (true, 4)] rfl (by decide) rfl (fun H locs hW => ?_)
    refine lv_if_ne (tgt := 30) S.1 S.2.1 dX6_fewestTables_21 (by decide) (fun c_ => ?_) (fun c_ => ?_)
    · have hf := it_n c_ hf
      have e_ := hR3 _ (Option.some.inj hf).symm
      exact hE3 _ e_ _ _ _ (lv_sub hl [0, 1, 2, 3] rfl) hW
    · have hf := it_p c_ hf
      refine q_iinc (w := 1) (lv' := [(3, .int (s2.1 + 1)), (0, .ref o_q0), (1, .ref t_q0), (2, .int p2)]) S dX6_fewestTables_24 hl (k := 3) rfl ic_1 (by decide) rfl (fun ls hl => ?_)
      refine lv_goto (tgt := 2) S.1 S.2.1 dX6_fewestTables_27 (by decide) ?_
      exact hI3 _ (Option.some.inj hf).symm _ _ _ (lv_sub hl [1, 2, 3, 0] rfl) hW
def f_X6_canSit_L25 (fu : Nat) (rec_ : Nat → Nat → Int32 → (Nat → Int32) → (Nat → Int32) → (Nat → Int32) → Int32 → Int32 → Option (Int32 × (Nat → Int32))) (t_people : Int32) (t_hated : (Nat → Int32)) (p2_f : (Nat → Int32)) (p4 : Int32) (p5 : Int32) (p2_n : Nat) (p3_n : Nat) (s2 : Int32 × (Nat → Int32)) : Option ((Int32 × (Nat → Int32)) ⊕ ((Int32 × (Nat → Int32)) ⊕ ((Nat → Int32)))) := if t_people ≤ s2.1 then some (.inr (.inr s2.2)) else bnd (α := Int32) (rdi p2_n p2_f p4) (fun x5 => if ((jshr x5 s2.1) &&& (1 : Int32)) = 0 then some (.inl ((s2.1 + 1), s2.2)) else bnd (α := Int32) (f_X6_isFree fu p3_n t_hated s2.2 p4 s2.1) (fun x6 => if x6 = 0 then some (.inl ((s2.1 + 1), s2.2)) else bnd (α := (Nat → Int32)) (wri p3_n s2.2 p4 s2.1) (fun x7 => bnd (α := Int32 × (Nat → Int32)) (rec_ p2_n p3_n t_people t_hated p2_f x7 (p4 + (1 : Int32)) p5) (fun x8 => if x8.1 = 0 then some (.inl ((s2.1 + 1), x8.2)) else some (.inr (.inl ((1 : Int32), x8.2)))))))
def F_X6_canSit (rec_ : Nat → Nat → Int32 → (Nat → Int32) → (Nat → Int32) → (Nat → Int32) → Int32 → Int32 → Option (Int32 × (Nat → Int32))) (fu : Nat) (p2_n : Nat) (p3_n : Nat) (t_people : Int32) (t_hated : (Nat → Int32)) (p2_f : (Nat → Int32)) (p3_f : (Nat → Int32)) (p4 : Int32) (p5 : Int32) : Option (Int32 × (Nat → Int32)) := if t_people ≤ p4 then some ((1 : Int32), p3_f) else if (nI p3_n) ≤ p4 then some ((1 : Int32), p3_f) else if p4 < (nI p2_n) then bnd (α := (Int32 × (Nat → Int32)) ⊕ ((Nat → Int32))) (lp (f_X6_canSit_L25 fu rec_ t_people t_hated p2_f p4 p5 p2_n p3_n) fu ((0 : Int32), p3_f)) (fun x3 => cse x3 (fun y15 => some y15) (fun v9 => bnd (α := (Nat → Int32)) (wri p3_n v9 p4 (6 : Int32)) (fun x10 => bnd (α := Int32) (rdi p2_n p2_f p4) (fun x11 => if x11 = 0 then bnd (α := Int32 × (Nat → Int32)) (rec_ p2_n p3_n t_people t_hated p2_f x10 (p4 + (1 : Int32)) p5) (fun x12 => bnd (α := Int32) (bz x12.1) (fun z13 => some (z13, x12.2))) else if p5 ≤ 0 then some ((0 : Int32), x10) else bnd (α := Int32 × (Nat → Int32)) (rec_ p2_n p3_n t_people t_hated p2_f x10 (p4 + (1 : Int32)) (p5 - (1 : Int32))) (fun x14 => if x14.1 = 0 then some ((0 : Int32), x14.2) else some ((1 : Int32), x14.2)))))) else some ((1 : Int32), p3_f)
def f_X6_canSit (fu : Nat) : Nat → Nat → Nat → Int32 → (Nat → Int32) → (Nat → Int32) → (Nat → Int32) → Int32 → Int32 → Option (Int32 × (Nat → Int32))
  | 0, _, _, _, _, _, _, _, _ => none
  | dp + 1, p2_n, p3_n, t_people, t_hated, p2_f, p3_f, p4, p5 => F_X6_canSit (f_X6_canSit fu dp) fu p2_n p3_n t_people t_hated p2_f p3_f p4 p5
set_option maxHeartbeats 4000000 in
set_option maxRecDepth 100000 in
theorem c_X6_canSit {l : Launch} {D : va_G} {g : Nat → ClassId} {fu : Nat} : ∀ (dp : Nat) {t_q0 t_q1 t_q2 t_q3 t_q4 p2_q0 p3_q0 : Nat} {p2_n p3_n : Nat} {t_people : Int32} {t_wit : (Nat → Int32)} {t_purse : (Nat → Int32)} {t_hated : (Nat → Int32)} {t_owed : (Nat → Int32)} {p2_f : (Nat → Int32)} {p3_f : (Nat → Int32)} {p4 : Int32} {p5 : Int32} {r : Int32 × (Nat → Int32)}, f_X6_canSit fu dp p2_n p3_n t_people t_hated p2_f p3_f p4 p5 = some r → Wr l D (gy g) yX6_canSit cX6_canSit 6 (some .boolean) (2 + dp) [.ref t_q0, .ref p2_q0, .ref p3_q0, .int p4, .int p5] (wTw g t_q0 t_q1 t_q2 t_q3 t_q4 t_people t_wit t_purse t_hated t_owed ++ (wAI g p2_q0 p2_n p2_f ++ wAI g p3_q0 p3_n p3_f)) (wTw g t_q0 t_q1 t_q2 t_q3 t_q4 t_people t_wit t_purse t_hated t_owed ++ (wAI g p2_q0 p2_n p2_f ++ wAI g p3_q0 p3_n r.2)) (some (.int r.1)) := by
  intro dp
  induction dp with
  | zero => intro t_q0 t_q1 t_q2 t_q3 t_q4 p2_q0 p3_q0 p2_n p3_n t_people t_wit t_purse t_hated t_owed p2_f p3_f p4 p5 r hf; cases hf
  | succ dp ih_ =>
  intro t_q0 t_q1 t_q2 t_q3 t_q4 p2_q0 p3_q0 p2_n p3_n t_people t_wit t_purse t_hated t_owed p2_f p3_f p4 p5 r hf
  have hf : F_X6_canSit (f_X6_canSit fu dp) fu p2_n p3_n t_people t_hated p2_f p3_f p4 p5 = some r := hf
  refine Wr.ofZ (by decide) (Nat.le_of_ble_eq_true rfl) ?_
  intro p e s m args below meth c Q A S hK hA hret ls hl hW
  have hl : lv_has ls 6 [(0, .ref t_q0), (1, .ref p2_q0), (2, .ref p3_q0), (3, .int p4), (4, .int p5)] := hl
  refine lv_iload_n S.1 S.2.1 dX6_canSit_0 rfl (lv_at hl 3 rfl) ?_
  refine lv_aload_n S.1 S.2.1 dX6_canSit_1 rfl (lv_at hl 0 rfl) ?_
  refine gfX6_18 S hK hW.1 0 rfl rfl dX6_canSit_2 ?_
  refine lv_icmp_ge (tgt := 20) S.1 S.2.1 dX6_canSit_5 (by decide) (fun c_ => ?_) (fun c_ => ?_)
  · have hf := it_p c_ hf
    refine lv_iconst (v := 1) S.1 S.2.1 dX6_canSit_20 ic_1 ?_
    have e_ := Option.some.inj hf
    subst e_
    exact hret _ _ _ _ (Or.inr rfl) dX6_canSit_21 hW
  · have hf := it_n c_ hf
    refine lv_iload_n S.1 S.2.1 dX6_canSit_8 rfl (lv_at hl 3 rfl) ?_
    refine lv_aload_n S.1 S.2.1 dX6_canSit_9 rfl (lv_at hl 2 rfl) ?_
    refine q_alen S hK hW.1 6 0 rfl rfl (v := (nI p3_n)) rfl dX6_canSit_10 ?_
    refine lv_icmp_ge (tgt := 20) S.1 S.2.1 dX6_canSit_11 (by decide) (fun c_ => ?_) (fun c_ => ?_)
    · have hf := it_p c_ hf
      refine lv_iconst (v := 1) S.1 S.2.1 dX6_canSit_20 ic_1 ?_
      have e_ := Option.some.inj hf
      subst e_
      exact hret _ _ _ _ (Or.inr rfl) dX6_canSit_21 hW
    · have hf := it_n c_ hf
      refine lv_iload_n S.1 S.2.1 dX6_canSit_14 rfl (lv_at hl 3 rfl) ?_
      refine lv_aload_n S.1 S.2.1 dX6_canSit_15 rfl (lv_at hl 1 rfl) ?_
      refine q_alen S hK hW.1 5 0 rfl rfl (v := (nI p2_n)) rfl dX6_canSit_16 ?_
      refine lv_icmp_lt (tgt := 22) S.1 S.2.1 dX6_canSit_17 (by decide) (fun c_ => ?_) (fun c_ => ?_)
      · have hf := it_p c_ hf
        refine lv_iconst (v := 0) S.1 S.2.1 dX6_canSit_22 ic_0 ?_
        refine lv_istore (lv' := [(5, .int (0 : Int32)), (0, .ref t_q0), (1, .ref p2_q0), (2, .ref p3_q0), (3, .int p4), (4, .int p5)]) S.1 S.2.1 dX6_canSit_23 hl (by decide) rfl (fun ls hl => ?_)
        obtain ⟨x3, hf_, hk3⟩ := bnd_e hf
        have hE3 : ∀ (v9 : (Nat → Int32)), x3 = .inr v9 → ∀ (ls : Array Slot) (H : Heap) (locs : List Loc), lv_has ls 6 [(0, .ref t_q0), (1, .ref p2_q0), (2, .ref p3_q0), (3, .int p4), (4, .int p5)] → St A s.heap D (wTw g t_q0 t_q1 t_q2 t_q3 t_q4 t_people t_wit t_purse t_hated t_owed ++ (wAI g p2_q0 p2_n p2_f ++ wAI g p3_q0 p3_n v9)) H locs → W p l e (rmD (2 + (dp + 1))) s m args below meth c H locs 0 0 Q (F0 m 83 ls []) := by
          intro v9 e_ ls H locs hl hW
          subst e_
          have hf := cse_r hk3
          refine lv_aload_n S.1 S.2.1 dX6_canSit_83 rfl (lv_at hl 2 rfl) ?_
          refine lv_iload_n S.1 S.2.1 dX6_canSit_84 rfl (lv_at hl 3 rfl) ?_
          refine lv_bipush (v := 6) S.1 S.2.1 dX6_canSit_85 bp_6 ?_
          obtain ⟨x10, hx10, hf⟩ := bnd_e hf
          refine q_iast (ws2 := (wTw g t_q0 t_q1 t_q2 t_q3 t_q4 t_people t_wit t_purse t_hated t_owed ++ (wAI g p2_q0 p2_n p2_f ++ wAI g p3_q0 p3_n x10))) S hK hW 6 0 rfl rfl hx10 rfl dX6_canSit_87 (fun H locs hW => ?_)
          refine lv_aload_n S.1 S.2.1 dX6_canSit_88 rfl (lv_at hl 1 rfl) ?_
          refine lv_iload_n S.1 S.2.1 dX6_canSit_89 rfl (lv_at hl 3 rfl) ?_
          obtain ⟨x11, hx11, hf⟩ := bnd_e hf
          refine q_iald S hK hW.1 5 0 rfl rfl hx11 dX6_canSit_90 ?_
          refine lv_if_ne (tgt := 106) S.1 S.2.1 dX6_canSit_91 (by decide) (fun c_ => ?_) (fun c_ => ?_)
          · have hf := it_n c_ hf
            refine lv_iload S.1 S.2.1 dX6_canSit_106 (lv_at hl 4 rfl) ?_
            refine lv_if_le (tgt := 131) S.1 S.2.1 dX6_canSit_108 (by decide) (fun c_ => ?_) (fun c_ => ?_)
            · have hf := it_p c_ hf
              refine lv_iconst (v := 0) S.1 S.2.1 dX6_canSit_131 ic_0 ?_
              have e_ := Option.some.inj hf
              subst e_
              exact hret _ _ _ _ (Or.inl rfl) dX6_canSit_132 hW
            · have hf := it_n c_ hf
              refine lv_aload_n S.1 S.2.1 dX6_canSit_111 rfl (lv_at hl 0 rfl) ?_
              refine lv_aload_n S.1 S.2.1 dX6_canSit_112 rfl (lv_at hl 1 rfl) ?_
              refine lv_aload_n S.1 S.2.1 dX6_canSit_113 rfl (lv_at hl 2 rfl) ?_
              refine lv_iload_n S.1 S.2.1 dX6_canSit_114 rfl (lv_at hl 3 rfl) ?_
              refine lv_iconst (v := 1) S.1 S.2.1 dX6_canSit_115 ic_1 ?_
              refine lv_iadd S.1 S.2.1 dX6_canSit_116 ?_
              refine lv_iload S.1 S.2.1 dX6_canSit_117 (lv_at hl 4 rfl) ?_
              refine lv_iconst (v := 1) S.1 S.2.1 dX6_canSit_119 ic_1 ?_
              refine lv_isub S.1 S.2.1 dX6_canSit_120 ?_
              obtain ⟨x14, hx14, hf⟩ := bnd_e hf
              refine Wr.goW (Wr.runS (ih_ hx14) S hK hW.1 hW.2.1 kSX6_92 rfl hl.1 [] rfl (Nat.le_of_ble_eq_true rfl) (rm_le (by omega) (by decide)) ⟨(Nat.zero_le _), (Nat.zero_le _)⟩ dX6_canSit_121) hW hA (fun H locs hW => ?_)
              refine lv_if_eq (tgt := 131) S.1 S.2.1 dX6_canSit_124 (by decide) (fun c_ => ?_) (fun c_ => ?_)
              · have hf := it_p c_ hf
                refine lv_iconst (v := 0) S.1 S.2.1 dX6_canSit_131 ic_0 ?_
                have e_ := Option.some.inj hf
                subst e_
                exact hret _ _ _ _ (Or.inl rfl) dX6_canSit_132 hW
              · have hf := it_n c_ hf
                refine lv_iconst (v := 1) S.1 S.2.1 dX6_canSit_127 ic_1 ?_
                refine lv_goto (tgt := 132) S.1 S.2.1 dX6_canSit_128 (by decide) ?_
                have e_ := Option.some.inj hf
                subst e_
                exact hret _ _ _ _ (Or.inr rfl) dX6_canSit_132 hW
          · have hf := it_p c_ hf
            refine lv_aload_n S.1 S.2.1 dX6_canSit_94 rfl (lv_at hl 0 rfl) ?_
            refine lv_aload_n S.1 S.2.1 dX6_canSit_95 rfl (lv_at hl 1 rfl) ?_
            refine lv_aload_n S.1 S.2.1 dX6_canSit_96 rfl (lv_at hl 2 rfl) ?_
            refine lv_iload_n S.1 S.2.1 dX6_canSit_97 rfl (lv_at hl 3 rfl) ?_
            refine lv_iconst (v := 1) S.1 S.2.1 dX6_canSit_98 ic_1 ?_
            refine lv_iadd S.1 S.2.1 dX6_canSit_99 ?_
            refine lv_iload S.1 S.2.1 dX6_canSit_100 (lv_at hl 4 rfl) ?_
            obtain ⟨x12, hx12, hf⟩ := bnd_e hf
            refine Wr.goW (Wr.runS (ih_ hx12) S hK hW.1 hW.2.1 kSX6_92 rfl hl.1 [] rfl (Nat.le_of_ble_eq_true rfl) (rm_le (by omega) (by decide)) ⟨(Nat.zero_le _), (Nat.zero_le _)⟩ dX6_canSit_102) hW hA (fun H locs hW => ?_)
            obtain ⟨z13, hz13, hf⟩ := bnd_e hf
            obtain ⟨hzz13, ezz13⟩ := bz_e hz13
            rw [ezz13]
            have e_ := Option.some.inj hf
            subst e_
            exact hret _ _ _ _ hzz13 dX6_canSit_105 hW
        refine lp_ind (P := fun (s2 : Int32 × (Nat → Int32)) => ∀ (ls : Array Slot) (H : Heap) (locs : List Loc), lv_has ls 6 [(0, .ref t_q0), (1, .ref p2_q0), (2, .ref p3_q0), (3, .int p4), (4, .int p5), (5, .int s2.1)] → St A s.heap D (wTw g t_q0 t_q1 t_q2 t_q3 t_q4 t_people t_wit t_purse t_hated t_owed ++ (wAI g p2_q0 p2_n p2_f ++ wAI g p3_q0 p3_n s2.2)) H locs → W p l e (rmD (2 + (dp + 1))) s m args below meth c H locs 0 0 Q (F0 m 25 ls [])) ?_ _ _ hf_ _ _ _ (lv_sub hl [1, 2, 3, 4, 5, 0] rfl) hW
        intro s2 x4 hf hI3 hR3 ls H locs hl hW
        refine lv_iload S.1 S.2.1 dX6_canSit_25 (lv_at hl 5 rfl) ?_
        refine lv_aload_n S.1 S.2.1 dX6_canSit_27 rfl (lv_at hl 0 rfl) ?_
        refine gfX6_18 S hK hW.1 0 rfl rfl dX6_canSit_28 ?_
        refine lv_icmp_ge (tgt := 83) S.1 S.2.1 dX6_canSit_31 (by decide) (fun c_ => ?_) (fun c_ => ?_)
        · have hf := it_p c_ hf
          have e_ := hR3 _ (Option.some.inj hf).symm
          exact hE3 _ e_.symm _ _ _ (lv_sub hl [0, 1, 2, 3, 4] rfl) hW
        · have hf := it_n c_ hf
          refine lv_aload_n S.1 S.2.1 dX6_canSit_34 rfl (lv_at hl 1 rfl) ?_
          refine lv_iload_n S.1 S.2.1 dX6_canSit_35 rfl (lv_at hl 3 rfl) ?_
          obtain ⟨x5, hx5, hf⟩ := bnd_e hf
          refine q_iald S hK hW.1 5 0 rfl rfl hx5 dX6_canSit_36 ?_
          refine lv_iload S.1 S.2.1 dX6_canSit_37 (lv_at hl 5 rfl) ?_
          refine lv_ishr S.1 S.2.1 dX6_canSit_39 ?_
          refine lv_iconst (v := 1) S.1 S.2.1 dX6_canSit_40 ic_1 ?_
          refine lv_iand S.1 S.2.1 dX6_canSit_41 ?_
          refine lv_if_eq (tgt := 77) S.1 S.2.1 dX6_canSit_42 (by decide) (fun c_ => ?_) (fun c_ => ?_)
          · have hf := it_p c_ hf
            refine q_iinc (w := 1) (lv' := [(5, .int (s2.1 + 1)), (0, .ref t_q0), (1, .ref p2_q0), (2, .ref p3_q0), (3, .int p4), (4, .int p5)]) S dX6_canSit_77 hl (k := 5) rfl ic_1 (by decide) rfl (fun ls hl => ?_)
            refine lv_goto (tgt := 25) S.1 S.2.1 dX6_canSit_80 (by decide) ?_
            exact hI3 _ (Option.some.inj hf).symm _ _ _ (lv_sub hl [1, 2, 3, 4, 5, 0] rfl) hW
          · have hf := it_n c_ hf
            refine lv_aload_n S.1 S.2.1 dX6_canSit_45 rfl (lv_at hl 0 rfl) ?_
            refine lv_aload_n S.1 S.2.1 dX6_canSit_46 rfl (lv_at hl 2 rfl) ?_
            refine lv_iload_n S.1 S.2.1 dX6_canSit_47 rfl (lv_at hl 3 rfl) ?_
            refine lv_iload S.1 S.2.1 dX6_canSit_48 (lv_at hl 5 rfl) ?_
            obtain ⟨x6, hx6, hf⟩ := bnd_e hf
            refine Rd.cS (c_X6_isFree hx6) S hK (hW.1.sub (ws' := (wTw g t_q0 t_q1 t_q2 t_q3 t_q4 t_people t_wit t_purse t_hated t_owed ++ wAI g p3_q0 p3_n s2.2)) [0, 1, 2, 3, 4, 6] rfl) kSX6_84 rfl hl.1 [] rfl (Nat.le_of_ble_eq_true rfl) (rm_le (by omega) (by decide)) ⟨(Nat.zero_le _), (Nat.zero_le _)⟩ dX6_canSit_50 ?_
            refine lv_if_eq (tgt := 77) S.1 S.2.1 dX6_canSit_53 (by decide) (fun c_ => ?_) (fun c_ => ?_)
            · have hf := it_p c_ hf
              refine q_iinc (w := 1) (lv' := [(5, .int (s2.1 + 1)), (0, .ref t_q0), (1, .ref p2_q0), (2, .ref p3_q0), (3, .int p4), (4, .int p5)]) S dX6_canSit_77 hl (k := 5) rfl ic_1 (by decide) rfl (fun ls hl => ?_)
              refine lv_goto (tgt := 25) S.1 S.2.1 dX6_canSit_80 (by decide) ?_
              exact hI3 _ (Option.some.inj hf).symm _ _ _ (lv_sub hl [1, 2, 3, 4, 5, 0] rfl) hW
            · have hf := it_n c_ hf
              refine lv_aload_n S.1 S.2.1 dX6_canSit_56 rfl (lv_at hl 2 rfl) ?_
              refine lv_iload_n S.1 S.2.1 dX6_canSit_57 rfl (lv_at hl 3 rfl) ?_
              refine lv_iload S.1 S.2.1 dX6_canSit_58 (lv_at hl 5 rfl) ?_
              obtain ⟨x7, hx7, hf⟩ := bnd_e hf
              refine q_iast (ws2 := (wTw g t_q0 t_q1 t_q2 t_q3 t_q4 t_people t_wit t_purse t_hated t_owed ++ (wAI g p2_q0 p2_n p2_f ++ wAI g p3_q0 p3_n x7))) S hK hW 6 0 rfl rfl hx7 rfl dX6_canSit_60 (fun H locs hW => ?_)
              refine lv_aload_n S.1 S.2.1 dX6_canSit_61 rfl (lv_at hl 0 rfl) ?_
              refine lv_aload_n S.1 S.2.1 dX6_canSit_62 rfl (lv_at hl 1 rfl) ?_
              refine lv_aload_n S.1 S.2.1 dX6_canSit_63 rfl (lv_at hl 2 rfl) ?_
              refine lv_iload_n S.1 S.2.1 dX6_canSit_64 rfl (lv_at hl 3 rfl) ?_
              refine lv_iconst (v := 1) S.1 S.2.1 dX6_canSit_65 ic_1 ?_
              refine lv_iadd S.1 S.2.1 dX6_canSit_66 ?_
              refine lv_iload S.1 S.2.1 dX6_canSit_67 (lv_at hl 4 rfl) ?_
              obtain ⟨x8, hx8, hf⟩ := bnd_e hf
              refine Wr.goW (Wr.runS (ih_ hx8) S hK hW.1 hW.2.1 kSX6_92 rfl hl.1 [] rfl (Nat.le_of_ble_eq_true rfl) (rm_le (by omega) (by decide)) ⟨(Nat.zero_le _), (Nat.zero_le _)⟩ dX6_canSit_69) hW hA (fun H locs hW => ?_)
              refine lv_if_eq (tgt := 77) S.1 S.2.1 dX6_canSit_72 (by decide) (fun c_ => ?_) (fun c_ => ?_)
              · have hf := it_p c_ hf
                refine q_iinc (w := 1) (lv' := [(5, .int (s2.1 + 1)), (0, .ref t_q0), (1, .ref p2_q0), (2, .ref p3_q0), (3, .int p4), (4, .int p5)]) S dX6_canSit_77 hl (k := 5) rfl ic_1 (by decide) rfl (fun ls hl => ?_)
                refine lv_goto (tgt := 25) S.1 S.2.1 dX6_canSit_80 (by decide) ?_
                exact hI3 _ (Option.some.inj hf).symm _ _ _ (lv_sub hl [1, 2, 3, 4, 5, 0] rfl) hW
              · have hf := it_n c_ hf
                refine lv_iconst (v := 1) S.1 S.2.1 dX6_canSit_75 ic_1 ?_
                have e_ := hR3 _ (Option.some.inj hf).symm
                subst e_
                have hf := cse_l hk3
                have e_ := Option.some.inj hf
                subst e_
                exact hret _ _ _ _ (Or.inr rfl) dX6_canSit_76 hW
      · have hf := it_n c_ hf
        refine lv_iconst (v := 1) S.1 S.2.1 dX6_canSit_20 ic_1 ?_
        have e_ := Option.some.inj hf
        subst e_
        exact hret _ _ _ _ (Or.inr rfl) dX6_canSit_21 hW
def f_X6_fullestHour_L5 (fu : Nat) (t_people : Int32) (t_owed : (Nat → Int32)) (s2 : Int32 × Int32 × (Nat → Int32)) : Option ((Int32 × Int32 × (Nat → Int32)) ⊕ (Int32 × (Nat → Int32))) := if t_people ≤ s2.2.1 then some (.inr (s2.1, s2.2.2)) else bnd (α := Int32) (f_X9_debtorsOf fu t_people t_owed s2.2.1) (fun x5 => bnd (α := (Nat → Int32)) (wri 6 s2.2.2 s2.2.1 x5) (fun x6 => bnd (α := Int32) (rdi 6 x6 s2.2.1) (fun x7 => if x7 = 0 then some (.inl (s2.1, (s2.2.1 + 1), x6)) else some (.inl ((s2.1 + 1), (s2.2.1 + 1), x6)))))
def f_X6_fullestHour_L49 (fu : Nat) (t_people : Int32) (t_hated : (Nat → Int32)) (v8 : Int32 × (Nat → Int32)) (s10 : Int32 × (Nat → Int32)) : Option ((Int32 × (Nat → Int32)) ⊕ (Int32 × (Nat → Int32))) := if s10.1 ≤ 0 then some (.inr (s10.1, s10.2)) else bnd (α := Int32 × (Nat → Int32)) (f_X6_canSit fu 8 6 6 t_people t_hated v8.2 s10.2 (0 : Int32) (v8.1 - s10.1)) (fun x13 => if x13.1 = 0 then some (.inl ((s10.1 + (-1)), x13.2)) else some (.inr (s10.1, x13.2)))
def f_X6_fullestHour (fu : Nat) (o_row : (Nat → Int32)) (o_debtors : (Nat → Int32)) (t_people : Int32) (t_hated : (Nat → Int32)) (t_owed : (Nat → Int32)) (p2 : Int32) : Option (Int32 × (Nat → Int32) × (Nat → Int32)) := bnd (α := Int32 × (Nat → Int32)) (lp (f_X6_fullestHour_L5 fu t_people t_owed) fu ((0 : Int32), (0 : Int32), o_debtors)) (fun v8 => bnd (α := Int32 × (Nat → Int32)) (lp (f_X6_fullestHour_L49 fu t_people t_hated v8) fu (v8.1, o_row)) (fun v14 => bnd (α := (Nat → Int32)) (if v14.1 = 0 then bnd (α := (Nat → Int32)) (f_J7_fill_53178 fu 6 v14.2 (6 : Int32)) (fun x18 => some x18) else some v14.2) (fun v16 => if p2 < 0 then some (v14.1, v16, v8.2) else if p2 < (6 : Int32) then bnd (α := Int32) (rdi 6 v16 p2) (fun x17 => some (x17, v16, v8.2)) else some (v14.1, v16, v8.2))))
set_option maxHeartbeats 4000000 in
set_option maxRecDepth 100000 in
theorem c_X6_fullestHour {l : Launch} {D : va_G} {g : Nat → ClassId} {fu : Nat} {o_q0 o_q1 o_q2 t_q0 t_q1 t_q2 t_q3 t_q4 : Nat} {o_row : (Nat → Int32)} {o_debtors : (Nat → Int32)} {t_people : Int32} {t_wit : (Nat → Int32)} {t_purse : (Nat → Int32)} {t_hated : (Nat → Int32)} {t_owed : (Nat → Int32)} {p2 : Int32} {r : Int32 × (Nat → Int32) × (Nat → Int32)} (hf : f_X6_fullestHour fu o_row o_debtors t_people t_hated t_owed p2 = some r) : Wr l D (gy g) yX6_fullestHour cX6_fullestHour 5 (some .int) 11 [.ref o_q0, .ref t_q0, .int p2] (wSe g o_q0 o_q1 o_q2 o_row o_debtors ++ wTw g t_q0 t_q1 t_q2 t_q3 t_q4 t_people t_wit t_purse t_hated t_owed) (wSe g o_q0 o_q1 o_q2 r.2.1 r.2.2 ++ wTw g t_q0 t_q1 t_q2 t_q3 t_q4 t_people t_wit t_purse t_hated t_owed) (some (.int r.1)) := by
  refine Wr.ofI (by decide) (Nat.le_of_ble_eq_true rfl) ?_
  intro p e s m args below meth c Q A S hK hA hret ls hl hW
  have hl : lv_has ls 5 [(0, .ref o_q0), (1, .ref t_q0), (2, .int p2)] := hl
  refine lv_iconst (v := 0) S.1 S.2.1 dX6_fullestHour_0 ic_0 ?_
  refine lv_istore_n (lv' := [(3, .int (0 : Int32)), (0, .ref o_q0), (1, .ref t_q0), (2, .int p2)]) S.1 S.2.1 dX6_fullestHour_1 rfl hl (by decide) rfl (fun ls hl => ?_)
  refine lv_iconst (v := 0) S.1 S.2.1 dX6_fullestHour_2 ic_0 ?_
  refine lv_istore (lv' := [(4, .int (0 : Int32)), (3, .int (0 : Int32)), (0, .ref o_q0), (1, .ref t_q0), (2, .int p2)]) S.1 S.2.1 dX6_fullestHour_3 hl (by decide) rfl (fun ls hl => ?_)
  obtain ⟨x3, hf_, hk3⟩ := bnd_e hf
  have hE3 : ∀ (v8 : Int32 × (Nat → Int32)), v8 = x3 → ∀ (ls : Array Slot) (H : Heap) (locs : List Loc), lv_has ls 5 [(0, .ref o_q0), (1, .ref t_q0), (2, .int p2), (3, .int v8.1)] → St A s.heap D (wSe g o_q0 o_q1 o_q2 o_row v8.2 ++ wTw g t_q0 t_q1 t_q2 t_q3 t_q4 t_people t_wit t_purse t_hated t_owed) H locs → W p l e (rmD 11) s m args below meth c H locs 0 0 Q (F0 m 46 ls []) := by
    intro v8 e_ ls H locs hl hW
    subst e_
    have hf := hk3
    refine lv_iload_n S.1 S.2.1 dX6_fullestHour_46 rfl (lv_at hl 3 rfl) ?_
    refine lv_istore (lv' := [(4, .int v8.1), (0, .ref o_q0), (1, .ref t_q0), (2, .int p2), (3, .int v8.1)]) S.1 S.2.1 dX6_fullestHour_47 hl (by decide) rfl (fun ls hl => ?_)
    obtain ⟨x11, hf_, hk11⟩ := bnd_e hf
    have hE11 : ∀ (v14 : Int32 × (Nat → Int32)), v14 = x11 → ∀ (ls : Array Slot) (H : Heap) (locs : List Loc), lv_has ls 5 [(0, .ref o_q0), (2, .int p2), (4, .int v14.1)] → St A s.heap D (wSe g o_q0 o_q1 o_q2 v14.2 v8.2 ++ wTw g t_q0 t_q1 t_q2 t_q3 t_q4 t_people t_wit t_purse t_hated t_owed) H locs → W p l e (rmD 11) s m args below meth c H locs 0 0 Q (F0 m 80 ls []) := by
      intro v14 e_ ls H locs hl hW
      subst e_
      have hf := hk11
      refine lv_iload S.1 S.2.1 dX6_fullestHour_80 (lv_at hl 2 rfl) ?_
      obtain ⟨x15, hf_, hk15⟩ := bnd_e hf
      have hJ15 : ∀ (v16 : (Nat → Int32)), v16 = x15 → ∀ (ls : Array Slot) (H : Heap) (locs : List Loc), lv_has ls 5 [(0, .ref o_q0), (2, .int p2), (4, .int v14.1)] → St A s.heap D (wSe g o_q0 o_q1 o_q2 v16 v8.2 ++ wTw g t_q0 t_q1 t_q2 t_q3 t_q4 t_people t_wit t_purse t_hated t_owed) H locs → W p l e (rmD 11) s m args below meth c H locs 0 0 Q (F0 m 94 ls []) := by
        intro v16 e_ ls H locs hl hW
        subst e_
        have hf := hk15
        refine lv_iload_n S.1 S.2.1 dX6_fullestHour_94 rfl (lv_at hl 1 rfl) ?_
        refine lv_if_lt (tgt := 104) S.1 S.2.1 dX6_fullestHour_95 (by decide) (fun c_ => ?_) (fun c_ => ?_)
        · have hf := it_p c_ hf
          refine lv_iload S.1 S.2.1 dX6_fullestHour_104 (lv_at hl 2 rfl) ?_
          refine lv_goto (tgt := 115) S.1 S.2.1 dX6_fullestHour_106 (by decide) ?_
          have e_ := Option.some.inj hf
          subst e_
          exact hret _ _ _ _ dX6_fullestHour_115 hW
        · have hf := it_n c_ hf
          refine lv_iload_n S.1 S.2.1 dX6_fullestHour_98 rfl (lv_at hl 1 rfl) ?_
          refine lv_bipush (v := 6) S.1 S.2.1 dX6_fullestHour_99 bp_6 ?_
          refine lv_icmp_lt (tgt := 109) S.1 S.2.1 dX6_fullestHour_101 (by decide) (fun c_ => ?_) (fun c_ => ?_)
          · have hf := it_p c_ hf
            refine lv_aload_n S.1 S.2.1 dX6_fullestHour_109 rfl (lv_at hl 0 rfl) ?_
            refine gfX6_9 S hK hW.1 0 rfl rfl dX6_fullestHour_110 ?_
            refine lv_iload_n S.1 S.2.1 dX6_fullestHour_113 rfl (lv_at hl 1 rfl) ?_
            obtain ⟨x17, hx17, hf⟩ := bnd_e hf
            refine q_iald S hK hW.1 1 0 rfl rfl hx17 dX6_fullestHour_114 ?_
            have e_ := Option.some.inj hf
            subst e_
            exact hret _ _ _ _ dX6_fullestHour_115 hW
          · have hf := it_n c_ hf
            refine lv_iload S.1 S.2.1 dX6_fullestHour_104 (lv_at hl 2 rfl) ?_
            refine lv_goto (tgt := 115) S.1 S.2.1 dX6_fullestHour_106 (by decide) ?_
            have e_ := Option.some.inj hf
            subst e_
            exact hret _ _ _ _ dX6_fullestHour_115 hW
      have hf := hf_
      refine lv_if_ne (tgt := 94) S.1 S.2.1 dX6_fullestHour_82 (by decide) (fun c_ => ?_) (fun c_ => ?_)
      · have hf := it_n c_ hf
        exact hJ15 _ (Option.some.inj hf) _ _ _ (lv_sub hl [0, 1, 2] rfl) hW
      · have hf := it_p c_ hf
        refine lv_aload_n S.1 S.2.1 dX6_fullestHour_85 rfl (lv_at hl 0 rfl) ?_
        refine gfX6_9 S hK hW.1 0 rfl rfl dX6_fullestHour_86 ?_
        refine lv_bipush (v := 6) S.1 S.2.1 dX6_fullestHour_89 bp_6 ?_
        obtain ⟨x18, hx18, hf⟩ := bnd_e hf
        refine Wr.go (ws2 := (wSe g o_q0 o_q1 o_q2 x18 v8.2 ++ wTw g t_q0 t_q1 t_q2 t_q3 t_q4 t_people t_wit t_purse t_hated t_owed)) (Wr.runS (c_J7_fill_53178 hx18) S hK (hW.1.sub (ws' := (wAI g o_q1 6 v14.2)) [1] rfl) (hW.2.1.sub (ws' := (wAI g o_q1 6 v14.2)) [1] (by decide) rfl) kSX6_96 rfl hl.1 [] rfl (Nat.le_of_ble_eq_true rfl) ⟨(Nat.le_of_ble_eq_true rfl), (Nat.le_of_ble_eq_true rfl)⟩ ⟨(Nat.zero_le _), (Nat.zero_le _)⟩ dX6_fullestHour_91) hW hA [1] rfl [(false, 0), (true, 0), (false, 2), (false, 3), (false, 4), (false, 5), (false, 6), (false, 7)] rfl (by decide) rfl (fun H locs hW => ?_)
        exact hJ15 _ (Option.some.inj hf) _ _ _ (lv_sub hl [0, 1, 2] rfl) hW
    refine lp_ind (P := fun (s10 : Int32 × (Nat → Int32)) => ∀ (ls : Array Slot) (H : Heap) (locs : List Loc), lv_has ls 5 [(0, .ref o_q0), (1, .ref t_q0), (2, .int p2), (3, .int v8.1), (4, .int s10.1)] → St A s.heap D (wSe g o_q0 o_q1 o_q2 s10.2 v8.2 ++ wTw g t_q0 t_q1 t_q2 t_q3 t_q4 t_people t_wit t_purse t_hated t_owed) H locs → W p l e (rmD 11) s m args below meth c H locs 0 0 Q (F0 m 49 ls [])) ?_ _ _ hf_ _ _ _ (lv_sub hl [1, 2, 3, 4, 0] rfl) hW
    intro s10 x12 hf hI11 hR11 ls H locs hl hW
    refine lv_iload S.1 S.2.1 dX6_fullestHour_49 (lv_at hl 4 rfl) ?_
    refine lv_if_le (tgt := 80) S.1 S.2.1 dX6_fullestHour_51 (by decide) (fun c_ => ?_) (fun c_ => ?_)
    · have hf := it_p c_ hf
      have e_ := hR11 _ (Option.some.inj hf).symm
      exact hE11 _ e_ _ _ _ (lv_sub hl [0, 2, 4] rfl) hW
    · have hf := it_n c_ hf
      refine lv_aload_n S.1 S.2.1 dX6_fullestHour_54 rfl (lv_at hl 1 rfl) ?_
      refine lv_aload_n S.1 S.2.1 dX6_fullestHour_55 rfl (lv_at hl 0 rfl) ?_
      refine gfX6_15 S hK hW.1 0 rfl rfl dX6_fullestHour_56 ?_
      refine lv_aload_n S.1 S.2.1 dX6_fullestHour_59 rfl (lv_at hl 0 rfl) ?_
      refine gfX6_9 S hK hW.1 0 rfl rfl dX6_fullestHour_60 ?_
      refine lv_iconst (v := 0) S.1 S.2.1 dX6_fullestHour_63 ic_0 ?_
      refine lv_iload_n S.1 S.2.1 dX6_fullestHour_64 rfl (lv_at hl 3 rfl) ?_
      refine lv_iload S.1 S.2.1 dX6_fullestHour_65 (lv_at hl 4 rfl) ?_
      refine lv_isub S.1 S.2.1 dX6_fullestHour_67 ?_
      obtain ⟨x13, hx13, hf⟩ := bnd_e hf
      refine Wr.go (ws2 := (wSe g o_q0 o_q1 o_q2 x13.2 v8.2 ++ wTw g t_q0 t_q1 t_q2 t_q3 t_q4 t_people t_wit t_purse t_hated t_owed)) (Wr.runS (c_X6_canSit 8 hx13) S hK (hW.1.sub (ws' := (wTw g t_q0 t_q1 t_q2 t_q3 t_q4 t_people t_wit t_purse t_hated t_owed ++ (wAI g o_q2 6 v8.2 ++ wAI g o_q1 6 s10.2))) [3, 4, 5, 6, 7, 2, 1] rfl) (hW.2.1.sub (ws' := (wTw g t_q0 t_q1 t_q2 t_q3 t_q4 t_people t_wit t_purse t_hated t_owed ++ (wAI g o_q2 6 v8.2 ++ wAI g o_q1 6 s10.2))) [3, 4, 5, 6, 7, 2, 1] (by decide) rfl) kSX6_92 rfl hl.1 [] rfl (Nat.le_of_ble_eq_true rfl) ⟨(Nat.le_of_ble_eq_true rfl), (Nat.le_of_ble_eq_true rfl)⟩ ⟨(Nat.zero_le _), (Nat.zero_le _)⟩ dX6_fullestHour_68) hW hA [3, 4, 5, 6, 7, 2, 1] rfl [(false, 0), (true, 6), (true, 5), (true, 0), (true, 1), (true, 2), (true, 3), (true, 4)] rfl (by decide) rfl (fun H locs hW => ?_)
      refine lv_if_ne (tgt := 80) S.1 S.2.1 dX6_fullestHour_71 (by decide) (fun c_ => ?_) (fun c_ => ?_)
      · have hf := it_n c_ hf
        have e_ := hR11 _ (Option.some.inj hf).symm
        exact hE11 _ e_ _ _ _ (lv_sub hl [0, 2, 4] rfl) hW
      · have hf := it_p c_ hf
        refine q_iinc (w := (-1)) (lv' := [(4, .int (s10.1 + (-1))), (0, .ref o_q0), (1, .ref t_q0), (2, .int p2), (3, .int v8.1)]) S dX6_fullestHour_74 hl (k := 4) rfl ic_m1 (by decide) rfl (fun ls hl => ?_)
        refine lv_goto (tgt := 49) S.1 S.2.1 dX6_fullestHour_77 (by decide) ?_
        exact hI11 _ (Option.some.inj hf).symm _ _ _ (lv_sub hl [1, 2, 3, 4, 0] rfl) hW
  refine lp_ind (P := fun (s2 : Int32 × Int32 × (Nat → Int32)) => ∀ (ls : Array Slot) (H : Heap) (locs : List Loc), lv_has ls 5 [(0, .ref o_q0), (1, .ref t_q0), (2, .int p2), (3, .int s2.1), (4, .int s2.2.1)] → St A s.heap D (wSe g o_q0 o_q1 o_q2 o_row s2.2.2 ++ wTw g t_q0 t_q1 t_q2 t_q3 t_q4 t_people t_wit t_purse t_hated t_owed) H locs → W p l e (rmD 11) s m args below meth c H locs 0 0 Q (F0 m 5 ls [])) ?_ _ _ hf_ _ _ _ (lv_sub hl [2, 3, 4, 1, 0] rfl) hW
  intro s2 x4 hf hI3 hR3 ls H locs hl hW
  refine lv_iload S.1 S.2.1 dX6_fullestHour_5 (lv_at hl 4 rfl) ?_
  refine lv_aload_n S.1 S.2.1 dX6_fullestHour_7 rfl (lv_at hl 1 rfl) ?_
  refine gfX6_18 S hK hW.1 3 rfl rfl dX6_fullestHour_8 ?_
  refine lv_icmp_ge (tgt := 46) S.1 S.2.1 dX6_fullestHour_11 (by decide) (fun c_ => ?_) (fun c_ => ?_)
  · have hf := it_p c_ hf
    have e_ := hR3 _ (Option.some.inj hf).symm
    exact hE3 _ e_ _ _ _ (lv_sub hl [0, 1, 2, 3] rfl) hW
  · have hf := it_n c_ hf
    refine lv_aload_n S.1 S.2.1 dX6_fullestHour_14 rfl (lv_at hl 0 rfl) ?_
    refine gfX6_15 S hK hW.1 0 rfl rfl dX6_fullestHour_15 ?_
    refine lv_iload S.1 S.2.1 dX6_fullestHour_18 (lv_at hl 4 rfl) ?_
    refine lv_aload_n S.1 S.2.1 dX6_fullestHour_20 rfl (lv_at hl 1 rfl) ?_
    refine lv_iload S.1 S.2.1 dX6_fullestHour_21 (lv_at hl 4 rfl) ?_
    obtain ⟨x5, hx5, hf⟩ := bnd_e hf
    refine Rd.cV (c_X9_debtorsOf hx5) S hK (hW.1.sub (ws' := (wTw g t_q0 t_q1 t_q2 t_q3 t_q4 t_people t_wit t_purse t_hated t_owed)) [3, 4, 5, 6, 7] rfl) 0 7 rfl rfl kVX6_66 rfl hl.1 [.int s2.2.1, .ref o_q2] rfl (Nat.le_of_ble_eq_true rfl) ⟨(Nat.le_of_ble_eq_true rfl), (Nat.le_of_ble_eq_true rfl)⟩ ⟨(Nat.zero_le _), (Nat.zero_le _)⟩ dX6_fullestHour_23 ?_
    obtain ⟨x6, hx6, hf⟩ := bnd_e hf
    refine q_iast (ws2 := (wSe g o_q0 o_q1 o_q2 o_row x6 ++ wTw g t_q0 t_q1 t_q2 t_q3 t_q4 t_people t_wit t_purse t_hated t_owed)) S hK hW 2 0 rfl rfl hx6 rfl dX6_fullestHour_26 (fun H locs hW => ?_)
    refine lv_aload_n S.1 S.2.1 dX6_fullestHour_27 rfl (lv_at hl 0 rfl) ?_
    refine gfX6_15 S hK hW.1 0 rfl rfl dX6_fullestHour_28 ?_
    refine lv_iload S.1 S.2.1 dX6_fullestHour_31 (lv_at hl 4 rfl) ?_
    obtain ⟨x7, hx7, hf⟩ := bnd_e hf
    refine q_iald S hK hW.1 2 0 rfl rfl hx7 dX6_fullestHour_33 ?_
    refine lv_if_eq (tgt := 40) S.1 S.2.1 dX6_fullestHour_34 (by decide) (fun c_ => ?_) (fun c_ => ?_)
    · have hf := it_p c_ hf
      refine q_iinc (w := 1) (lv' := [(4, .int (s2.2.1 + 1)), (0, .ref o_q0), (1, .ref t_q0), (2, .int p2), (3, .int s2.1)]) S dX6_fullestHour_40 hl (k := 4) rfl ic_1 (by decide) rfl (fun ls hl => ?_)
      refine lv_goto (tgt := 5) S.1 S.2.1 dX6_fullestHour_43 (by decide) ?_
      exact hI3 _ (Option.some.inj hf).symm _ _ _ (lv_sub hl [1, 2, 3, 4, 0] rfl) hW
    · have hf := it_n c_ hf
      refine q_iinc (w := 1) (lv' := [(3, .int (s2.1 + 1)), (0, .ref o_q0), (1, .ref t_q0), (2, .int p2), (4, .int s2.2.1)]) S dX6_fullestHour_37 hl (k := 3) rfl ic_1 (by decide) rfl (fun ls hl => ?_)
      refine q_iinc (w := 1) (lv' := [(4, .int (s2.2.1 + 1)), (3, .int (s2.1 + 1)), (0, .ref o_q0), (1, .ref t_q0), (2, .int p2)]) S dX6_fullestHour_40 hl (k := 4) rfl ic_1 (by decide) rfl (fun ls hl => ?_)
      refine lv_goto (tgt := 5) S.1 S.2.1 dX6_fullestHour_43 (by decide) ?_
      exact hI3 _ (Option.some.inj hf).symm _ _ _ (lv_sub hl [2, 3, 4, 1, 0] rfl) hW
