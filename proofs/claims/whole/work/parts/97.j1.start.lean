/-! ===== the law's start ===== -/
theorem tt_1 {w : Cond} {i : Nat} (h0 : tables_1_1[i]? = some w) : w ∈ lw_tbl := List.mem_append_right _ (by have h := List.mem_of_getElem? h0; exact List.mem_append_left _ h)
theorem tt_2 {w : Cond} {i : Nat} (h0 : tables_1_2[i]? = some w) : w ∈ lw_tbl := List.mem_append_right _ (by have h := List.mem_of_getElem? h0; exact List.mem_append_right _ (List.mem_append_left _ h))
theorem tt_3 {w : Cond} {i : Nat} (h0 : tables_1_3[i]? = some w) : w ∈ lw_tbl := List.mem_append_right _ (by have h := List.mem_of_getElem? h0; exact List.mem_append_right _ (List.mem_append_right _ (List.mem_append_left _ h)))
theorem tt_5 {w : Cond} {i : Nat} (h0 : tables_1_5[i]? = some w) : w ∈ lw_tbl := List.mem_append_right _ (by have h := List.mem_of_getElem? h0; exact List.mem_append_right _ (List.mem_append_right _ (List.mem_append_right _ (List.mem_append_right _ (List.mem_append_left _ h)))))
abbrev flS : List Cond := flatC (Cond.and given_1 narrow_1)
def tmS (i : Nat) : Term := .string "KeptCompany$Reader" (sIdx.getD i 0)
theorem fl_ex : ∀ i, i < 12 → Cond.exactly (tmS i) "java/lang/String" ∈ flS := by decide +kernel
theorem fl_co : ∀ i, i < 12 → Cond.eq (.field (tmS i) "java/lang/String" "coder" "B") (.int 0) ∈ flS := by decide +kernel
theorem fl_ar : ∀ i, i < 12 → Cond.arrayOf (.field (tmS i) "java/lang/String" "value" "[B") .byte ∈ flS := by decide +kernel
theorem fl_le : ∀ i, i < 12 → Cond.eq (.length (.field (tmS i) "java/lang/String" "value" "[B")) (.int (Int32.ofNat (sLen.getD i 0))) ∈ flS := by decide +kernel
theorem fl_el : ∀ i, i < 12 → ∀ j, j < 8 → j < sLen.getD i 0 → Cond.eq (.elem (.field (tmS i) "java/lang/String" "value" "[B") (.int (Int32.ofNat j))) (.int ((sByt.getD i []).getD j 0)) ∈ flS := by decide +kernel
theorem fl_ne : ∀ i, i < 12 → ∀ j, j < 12 → i ≠ j → Cond.not (Cond.eq (tmS i) (tmS j)) ∈ flS ∨ Cond.not (Cond.eq (tmS j) (tmS i)) ∈ flS := by decide +kernel
theorem fl_l8 : ∀ i, i < 12 → sLen.getD i 0 ≤ 8 := by decide
theorem fl_sr : ∀ i, i < 12 → Cond.stringRef "KeptCompany$Reader" (sIdx.getD i 0) (sTxt.getD i "") ∈ tables_1_2 := by decide +kernel
theorem fl_tw : ∀ j, j < 3 → Cond.eq (.elem (.static "KeptCompany$Reader" "NUMBERS_IN_TOWN" "[I") (.int (Int32.ofNat j))) (.int (nTown.getD j 0)) ∈ flS := by decide +kernel
theorem fl_wk : ∀ j, j < 7 → Cond.eq (.elem (.static "KeptCompany$Reader" "NUMBERS_IN_WEEK" "[I") (.int (Int32.ofNat j))) (.int (nWeek.getD j 0)) ∈ flS := by decide +kernel
theorem nw_mem (k : Nat) : nwW k ∈ lw_tbl := by
  unfold nwW
  split
  · exact tt_1 (i := 43) rfl
  · exact tt_1 (i := 88) rfl
  · exact tt_1 (i := 103) rfl
  · exact tt_1 (i := 152) rfl
  · exact tt_1 (i := 154) rfl
  · exact tt_1 (i := 156) rfl
  · exact tt_1 (i := 204) rfl
  · exact tt_2 (i := 19) rfl
  · exact tt_2 (i := 39) rfl
  · exact tt_2 (i := 52) rfl
section STA
variable {s : State} {b : Nat}
theorem start_Ex (hts : ∀ w ∈ lw_tbl, w.before #[Value.ref b] s = true) (hgv : (Cond.and given_1 narrow_1).before #[Value.ref b] s = true) : ∃ z, Ex z (fun q : Nat => s.heap.size ≤ q) s s.heap := by
  have hf := flat_of_before _ hgv
  have hA : ∀ a : Nat, a < s.heap.size → ¬ (fun q : Nat => s.heap.size ≤ q) a := fun a h q => Nat.not_le.mpr h q
  obtain ⟨aK, aV, hS, hE⟩ := vk_Sof (N := 12) (tm := tmS) (len := sLen) (byt := sByt) (A := fun q : Nat => s.heap.size ≤ q) (fun i hi => by have := fl_l8 i hi; omega) (fun i hi => hf _ (fl_ex i hi)) (fun i hi => hf _ (fl_co i hi)) (fun i hi => hf _ (fl_ar i hi)) (fun i hi => hf _ (fl_le i hi)) (fun i hi j hj => hf _ (fl_el i hi j (by have := fl_l8 i hi; omega) hj)) (fun i j hi hj hn => (fl_ne i hi j hj hn).imp (hf _) (hf _)) hA
  obtain ⟨t0, g0, T0⟩ := va_Tof (tm := .static "KeptCompany$Reader" "NUMBERS_IN_TOWN" "[I") (ty := .int) (N := 3) (f := fun j => .int (nTown.getD j 0)) (A := fun q : Nat => s.heap.size ≤ q) (by decide) (hf _ (by decide +kernel)) (va_eqt (hf _ (by decide +kernel))) (fun j hj => va_eqt (hf _ (fl_tw j hj))) hA
  obtain ⟨t1, g1, T1⟩ := va_Tof (tm := .static "KeptCompany$Reader" "NUMBERS_IN_WEEK" "[I") (ty := .int) (N := 7) (f := fun j => .int (nWeek.getD j 0)) (A := fun q : Nat => s.heap.size ≤ q) (by decide) (hf _ (by decide +kernel)) (va_eqt (hf _ (by decide +kernel))) (fun j hj => va_eqt (hf _ (fl_wk j hj))) hA
  refine ⟨fun k => if k = 0 then t0 else if k = 1 then t1 else if k % 2 = 0 then aK (k / 2 - 1) else aV (k / 2 - 1), ?_⟩
  have eK : adK (fun k => if k = 0 then t0 else if k = 1 then t1 else if k % 2 = 0 then aK (k / 2 - 1) else aV (k / 2 - 1)) = aK := by
    funext i
    show (if 2 * i + 2 = 0 then t0 else if 2 * i + 2 = 1 then t1 else if (2 * i + 2) % 2 = 0 then aK ((2 * i + 2) / 2 - 1) else aV ((2 * i + 2) / 2 - 1)) = aK i
    rw [if_neg (by omega), if_neg (by omega), if_pos (by omega), show (2 * i + 2) / 2 - 1 = i by omega]
  have eV : adV (fun k => if k = 0 then t0 else if k = 1 then t1 else if k % 2 = 0 then aK (k / 2 - 1) else aV (k / 2 - 1)) = aV := by
    funext i
    show (if 2 * i + 3 = 0 then t0 else if 2 * i + 3 = 1 then t1 else if (2 * i + 3) % 2 = 0 then aK ((2 * i + 3) / 2 - 1) else aV ((2 * i + 3) / 2 - 1)) = aV i
    rw [if_neg (by omega), if_neg (by omega), if_neg (by omega), show (2 * i + 3) / 2 - 1 = i by omega]
  unfold Ex
  rw [eK, eV]
  refine ⟨?_, ?_, hS, fun i hi => vk_R.of (hts _ (List.mem_append_right _ (List.mem_append_right _ (List.mem_append_left _ (fl_sr i hi))))) (hE i hi), ⟨?_, T0⟩, ⟨?_, T1⟩, fun k => va_Nw.of (nwW_tab k) (hts _ (nw_mem k))⟩
  · exact va_Zof (hts _ (tt_2 (i := 175) rfl)) (hts _ (tt_1 (i := 14) rfl)) (va_eqt (hf _ (by decide +kernel))) hA
  · exact va_Zqof (hts _ (tt_2 (i := 191) rfl)) (hts _ (tt_1 (i := 16) rfl)) (hf _ (by decide +kernel)) hA
  · exact va_Zof (hts _ (tt_3 (i := 6) rfl)) (hts _ (tt_1 (i := 6) rfl)) g0 hA
  · exact va_Zof (hts _ (tt_3 (i := 8) rfl)) (hts _ (tt_1 (i := 6) rfl)) g1 hA
theorem start_Nz (hts : ∀ w ∈ lw_tbl, w.before #[Value.ref b] s = true) : Nz s :=
  ⟨fun k => va_Nw.of (nwW_tab k) (hts _ (nw_mem k)), va_AO.of (hts _ (tt_1 (i := 37) rfl)), va_AO.of (hts _ (tt_1 (i := 39) rfl)), va_AO.of (hts _ (tt_1 (i := 41) rfl)), va_AO.of (hts _ (tt_1 (i := 144) rfl))⟩
theorem arr_o {C : String} (h : (Cond.arrayOver (.object C)).before #[Value.ref b] s = true) : ∃ cA, ArrOfT s cA (.object C) ∧ va_RA s cA (.object C) := by
  obtain ⟨comp, c, k, f1, f2, f3, f4, f5⟩ := Cond.arrayOver_spec h
  exact ⟨c, fun n z => ⟨fun k h => (by cases h), k, f3, comp, f4⟩, k, comp, f3, f4, f1, f5⟩
theorem arr_i (h : (Cond.arrayClass .int).before #[Value.ref b] s = true) : ∃ cA, ArrOfT s cA .int ∧ va_RA s cA .int := by
  obtain ⟨c, k, comp, f1, f2, f3⟩ := Cond.arrayClass_spec h
  exact ⟨c, fun n z => ⟨fun k h => (by cases h), k, f2, comp, f3⟩, f1⟩
theorem arr_b (h : (Cond.arrayClass .byte).before #[Value.ref b] s = true) : ∃ cA, ArrOfT s cA .byte ∧ va_RA s cA .byte := by
  obtain ⟨c, k, comp, f1, f2, f3⟩ := Cond.arrayClass_spec h
  exact ⟨c, fun n z => ⟨fun k h => (by cases h), k, f2, comp, f3⟩, f1⟩
theorem arr_l (h : (Cond.arrayClass .long).before #[Value.ref b] s = true) : ∃ cA, ArrOfT s cA .long ∧ va_RA s cA .long := by
  obtain ⟨c, k, comp, f1, f2, f3⟩ := Cond.arrayClass_spec h
  exact ⟨c, fun n z => ⟨fun k h => (by cases h), k, f2, comp, f3⟩, f1⟩
theorem arr_z (h : (Cond.arrayClass .boolean).before #[Value.ref b] s = true) : ∃ cA, ArrOfT s cA .boolean ∧ va_RA s cA .boolean := by
  obtain ⟨c, k, comp, f1, f2, f3⟩ := Cond.arrayClass_spec h
  exact ⟨c, fun n z => ⟨fun k h => (by cases h), k, f2, comp, f3⟩, f1⟩
theorem start_K (hts : ∀ w ∈ lw_tbl, w.before #[Value.ref b] s = true) : ∃ (D : va_G) (g : Nat → ClassId), va_K D gCl (gy g) s := by
  have hw : ∀ w ∈ lw_w, w.before #[Value.ref b] s = true := fun w h => hts w (List.mem_filter.mp h).1
  obtain ⟨c0, i0, k0⟩ := u_known (C := RX1) (T := TX1) (N := 16) (n := 16) hw iwX1 (hw _ q_203)
  obtain ⟨c1, i1, k1⟩ := u_known (C := RX2) (T := TX2) (N := 2) (n := 2) hw iwX2 (hw _ q_102)
  obtain ⟨c2, i2, k2⟩ := u_known (C := RX4) (T := TX4) (N := 4) (n := 4) hw iwX4 (hw _ q_258)
  obtain ⟨c3, i3, k3⟩ := u_known (C := RX5) (T := TX5) (N := 13) (n := 13) hw iwX5 (hw _ q_146)
  obtain ⟨c4, i4, k4⟩ := u_known (C := RX6) (T := TX6) (N := 2) (n := 2) hw iwX6 (hw _ q_278)
  obtain ⟨c5, i5, k5⟩ := u_known (C := RX7) (T := TX7) (N := 3) (n := 3) hw iwX7 (hw _ q_291)
  obtain ⟨c6, i6, k6⟩ := u_known (C := RX8) (T := TX8) (N := 8) (n := 8) hw iwX8 (hw _ q_31)
  obtain ⟨c7, i7, k7⟩ := u_known (C := RX9) (T := TX9) (N := 5) (n := 5) hw iwX9 (hw _ q_42)
  obtain ⟨c8, i8, k8⟩ := u_known (C := RX10) (T := TX10) (N := 2) (n := 2) hw iwX10 (hw _ q_87)
  obtain ⟨c9, i9, k9⟩ := u_known (C := RX11) (T := TX11) (N := 7) (n := 7) hw iwX11 (hw _ q_23)
  obtain ⟨c10, i10, k10⟩ := u_known (C := RX12) (T := TX12) (N := 48) (n := 48) hw iwX12 (hw _ q_1041)
  obtain ⟨a0, r0⟩ := arr_i (hts _ (tt_1 (i := 86) rfl))
  obtain ⟨a1, r1⟩ := arr_b (hts _ (tt_1 (i := 85) rfl))
  obtain ⟨a2, r2⟩ := arr_l (hts _ (tt_2 (i := 36) rfl))
  obtain ⟨a3, r3⟩ := arr_z (hts _ (tt_5 (i := 231) rfl))
  obtain ⟨a4, r4⟩ := arr_o (hts _ (tt_1 (i := 37) rfl))
  obtain ⟨a5, r5⟩ := arr_o (hts _ (tt_1 (i := 39) rfl))
  obtain ⟨a6, r6⟩ := arr_o (hts _ (tt_1 (i := 41) rfl))
  obtain ⟨a7, r7⟩ := arr_o (hts _ (tt_1 (i := 144) rfl))
  refine ⟨(fun k => if k = 0 then c0 else if k = 1 then c1 else if k = 2 then c2 else if k = 3 then c3 else if k = 4 then c4 else if k = 5 then c5 else if k = 6 then c6 else if k = 7 then c7 else if k = 8 then c8 else if k = 9 then c9 else c10, fun k => if k = 0 then i0 else if k = 1 then i1 else if k = 2 then i2 else if k = 3 then i3 else if k = 4 then i4 else if k = 5 then i5 else if k = 6 then i6 else if k = 7 then i7 else if k = 8 then i8 else if k = 9 then i9 else i10), fun k => if k = 0 then a0 else if k = 1 then a1 else if k = 2 then a2 else if k = 3 then a3 else if k = 4 then a4 else if k = 5 then a5 else if k = 6 then a6 else a7, ?_, ?_⟩
  · intro k q hq
    match k, hq with
    | 0, hq => cases hq; exact k0
    | 1, hq => cases hq; exact k1
    | 2, hq => cases hq; exact k2
    | 3, hq => cases hq; exact k3
    | 4, hq => cases hq; exact k4
    | 5, hq => cases hq; exact k5
    | 6, hq => cases hq; exact k6
    | 7, hq => cases hq; exact k7
    | 8, hq => cases hq; exact k8
    | 9, hq => cases hq; exact k9
    | 10, hq => cases hq; exact k10
    | k + 11, hq => exact absurd hq (by simp)
  · intro k q hq
    match k, hq with
    | 0, hq => cases hq; exact r0
    | 1, hq => cases hq; exact r1
    | 2, hq => cases hq; exact r2
    | 3, hq => cases hq; exact r3
    | 4, hq => cases hq; exact r4
    | 5, hq => cases hq; exact r5
    | 6, hq => cases hq; exact r6
    | 7, hq => cases hq; exact r7
    | k + 8, hq => exact absurd hq (by simp [gy])
end STA
