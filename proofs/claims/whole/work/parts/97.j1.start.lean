/-! ===== the law's start ===== -/
theorem tt_1 {w : Cond} {i : Nat} (h0 : tables_1_1[i]? = some w) : w ∈ lw_tbl := List.mem_append_right _ (by have h := List.mem_of_getElem? h0; exact List.mem_append_left _ h)
theorem tt_2 {w : Cond} {i : Nat} (h0 : tables_1_2[i]? = some w) : w ∈ lw_tbl := List.mem_append_right _ (by have h := List.mem_of_getElem? h0; exact List.mem_append_right _ (List.mem_append_left _ h))
theorem tt_3 {w : Cond} {i : Nat} (h0 : tables_1_3[i]? = some w) : w ∈ lw_tbl := List.mem_append_right _ (by have h := List.mem_of_getElem? h0; exact List.mem_append_right _ (List.mem_append_right _ (List.mem_append_left _ h)))
theorem tt_5 {w : Cond} {i : Nat} (h0 : tables_1_5[i]? = some w) : w ∈ lw_tbl := List.mem_append_right _ (by have h := List.mem_of_getElem? h0; exact List.mem_append_right _ (List.mem_append_right _ (List.mem_append_right _ (List.mem_append_right _ (List.mem_append_left _ h)))))
abbrev flS : List Cond := flatC (Cond.and given_1 narrow_1)
def tmS (i : Nat) : Term := .string "KeptCompany$Reader" (sIdx.getD i 0)
theorem fl_ex : ∀ i, i < 12 → Cond.exactly (tmS i) "java/lang/String" ∈ flS := by decide +kernel
theorem fl_co : ∀ i, i < 12 → Cond.eq (.field (tmS i) "java/lang/String" "coder" "B") (.int 0) ∈ flS := by decide +kernel
theorem fl_ar : ∀ i, i < 12 → Cond.arrayOf (.field (tmS i) "java/lang/String" "value" "[B") .byte ∈ flS := by decide +kernel
theorem fl_le : ∀ i, i < 12 → Cond.eq (.length (.field (tmS i) "java/lang/String" "value" "[B")) (.int (Int32.ofNat (sLen.getD i 0))) ∈ flS := by decide +kernel
theorem fl_el : ∀ i, i < 12 → ∀ j, j < 8 → j < sLen.getD i 0 → Cond.eq (.elem (.field (tmS i) "java/lang/String" "value" "[B") (.int (Int32.ofNat j))) (.int ((sByt.getD i []).getD j 0)) ∈ flS := by decide +kernel
theorem fm_0 : Cond.not (Cond.eq (tmS (1 / 12)) (tmS (1 % 12))) ∈ flS := List.mem_of_getElem? (i := 87) (by decide +kernel)
theorem fm_1 : Cond.not (Cond.eq (tmS (2 / 12)) (tmS (2 % 12))) ∈ flS := List.mem_of_getElem? (i := 96) (by decide +kernel)
theorem fm_2 : Cond.not (Cond.eq (tmS (14 / 12)) (tmS (14 % 12))) ∈ flS := List.mem_of_getElem? (i := 97) (by decide +kernel)
theorem fm_3 : Cond.not (Cond.eq (tmS (3 / 12)) (tmS (3 % 12))) ∈ flS := List.mem_of_getElem? (i := 105) (by decide +kernel)
theorem fm_4 : Cond.not (Cond.eq (tmS (15 / 12)) (tmS (15 % 12))) ∈ flS := List.mem_of_getElem? (i := 106) (by decide +kernel)
theorem fm_5 : Cond.not (Cond.eq (tmS (27 / 12)) (tmS (27 % 12))) ∈ flS := List.mem_of_getElem? (i := 107) (by decide +kernel)
theorem fm_6 : Cond.not (Cond.eq (tmS (4 / 12)) (tmS (4 % 12))) ∈ flS := List.mem_of_getElem? (i := 116) (by decide +kernel)
theorem fm_7 : Cond.not (Cond.eq (tmS (16 / 12)) (tmS (16 % 12))) ∈ flS := List.mem_of_getElem? (i := 117) (by decide +kernel)
theorem fm_8 : Cond.not (Cond.eq (tmS (28 / 12)) (tmS (28 % 12))) ∈ flS := List.mem_of_getElem? (i := 118) (by decide +kernel)
theorem fm_9 : Cond.not (Cond.eq (tmS (40 / 12)) (tmS (40 % 12))) ∈ flS := List.mem_of_getElem? (i := 119) (by decide +kernel)
theorem fm_10 : Cond.not (Cond.eq (tmS (5 / 12)) (tmS (5 % 12))) ∈ flS := List.mem_of_getElem? (i := 127) (by decide +kernel)
theorem fm_11 : Cond.not (Cond.eq (tmS (17 / 12)) (tmS (17 % 12))) ∈ flS := List.mem_of_getElem? (i := 128) (by decide +kernel)
theorem fm_12 : Cond.not (Cond.eq (tmS (29 / 12)) (tmS (29 % 12))) ∈ flS := List.mem_of_getElem? (i := 129) (by decide +kernel)
theorem fm_13 : Cond.not (Cond.eq (tmS (41 / 12)) (tmS (41 % 12))) ∈ flS := List.mem_of_getElem? (i := 130) (by decide +kernel)
theorem fm_14 : Cond.not (Cond.eq (tmS (53 / 12)) (tmS (53 % 12))) ∈ flS := List.mem_of_getElem? (i := 131) (by decide +kernel)
theorem fm_15 : Cond.not (Cond.eq (tmS (6 / 12)) (tmS (6 % 12))) ∈ flS := List.mem_of_getElem? (i := 143) (by decide +kernel)
theorem fm_16 : Cond.not (Cond.eq (tmS (18 / 12)) (tmS (18 % 12))) ∈ flS := List.mem_of_getElem? (i := 144) (by decide +kernel)
theorem fm_17 : Cond.not (Cond.eq (tmS (30 / 12)) (tmS (30 % 12))) ∈ flS := List.mem_of_getElem? (i := 145) (by decide +kernel)
theorem fm_18 : Cond.not (Cond.eq (tmS (42 / 12)) (tmS (42 % 12))) ∈ flS := List.mem_of_getElem? (i := 146) (by decide +kernel)
theorem fm_19 : Cond.not (Cond.eq (tmS (54 / 12)) (tmS (54 % 12))) ∈ flS := List.mem_of_getElem? (i := 147) (by decide +kernel)
theorem fm_20 : Cond.not (Cond.eq (tmS (66 / 12)) (tmS (66 % 12))) ∈ flS := List.mem_of_getElem? (i := 148) (by decide +kernel)
theorem fm_21 : Cond.not (Cond.eq (tmS (7 / 12)) (tmS (7 % 12))) ∈ flS := List.mem_of_getElem? (i := 159) (by decide +kernel)
theorem fm_22 : Cond.not (Cond.eq (tmS (19 / 12)) (tmS (19 % 12))) ∈ flS := List.mem_of_getElem? (i := 160) (by decide +kernel)
theorem fm_23 : Cond.not (Cond.eq (tmS (31 / 12)) (tmS (31 % 12))) ∈ flS := List.mem_of_getElem? (i := 161) (by decide +kernel)
theorem fm_24 : Cond.not (Cond.eq (tmS (43 / 12)) (tmS (43 % 12))) ∈ flS := List.mem_of_getElem? (i := 162) (by decide +kernel)
theorem fm_25 : Cond.not (Cond.eq (tmS (55 / 12)) (tmS (55 % 12))) ∈ flS := List.mem_of_getElem? (i := 163) (by decide +kernel)
theorem fm_26 : Cond.not (Cond.eq (tmS (67 / 12)) (tmS (67 % 12))) ∈ flS := List.mem_of_getElem? (i := 164) (by decide +kernel)
theorem fm_27 : Cond.not (Cond.eq (tmS (79 / 12)) (tmS (79 % 12))) ∈ flS := List.mem_of_getElem? (i := 165) (by decide +kernel)
theorem fm_28 : Cond.not (Cond.eq (tmS (8 / 12)) (tmS (8 % 12))) ∈ flS := List.mem_of_getElem? (i := 175) (by decide +kernel)
theorem fm_29 : Cond.not (Cond.eq (tmS (20 / 12)) (tmS (20 % 12))) ∈ flS := List.mem_of_getElem? (i := 176) (by decide +kernel)
theorem fm_30 : Cond.not (Cond.eq (tmS (32 / 12)) (tmS (32 % 12))) ∈ flS := List.mem_of_getElem? (i := 177) (by decide +kernel)
theorem fm_31 : Cond.not (Cond.eq (tmS (44 / 12)) (tmS (44 % 12))) ∈ flS := List.mem_of_getElem? (i := 178) (by decide +kernel)
theorem fm_32 : Cond.not (Cond.eq (tmS (56 / 12)) (tmS (56 % 12))) ∈ flS := List.mem_of_getElem? (i := 179) (by decide +kernel)
theorem fm_33 : Cond.not (Cond.eq (tmS (68 / 12)) (tmS (68 % 12))) ∈ flS := List.mem_of_getElem? (i := 180) (by decide +kernel)
theorem fm_34 : Cond.not (Cond.eq (tmS (80 / 12)) (tmS (80 % 12))) ∈ flS := List.mem_of_getElem? (i := 181) (by decide +kernel)
theorem fm_35 : Cond.not (Cond.eq (tmS (92 / 12)) (tmS (92 % 12))) ∈ flS := List.mem_of_getElem? (i := 182) (by decide +kernel)
theorem fm_36 : Cond.not (Cond.eq (tmS (9 / 12)) (tmS (9 % 12))) ∈ flS := List.mem_of_getElem? (i := 191) (by decide +kernel)
theorem fm_37 : Cond.not (Cond.eq (tmS (21 / 12)) (tmS (21 % 12))) ∈ flS := List.mem_of_getElem? (i := 192) (by decide +kernel)
theorem fm_38 : Cond.not (Cond.eq (tmS (33 / 12)) (tmS (33 % 12))) ∈ flS := List.mem_of_getElem? (i := 193) (by decide +kernel)
theorem fm_39 : Cond.not (Cond.eq (tmS (45 / 12)) (tmS (45 % 12))) ∈ flS := List.mem_of_getElem? (i := 194) (by decide +kernel)
theorem fm_40 : Cond.not (Cond.eq (tmS (57 / 12)) (tmS (57 % 12))) ∈ flS := List.mem_of_getElem? (i := 195) (by decide +kernel)
theorem fm_41 : Cond.not (Cond.eq (tmS (69 / 12)) (tmS (69 % 12))) ∈ flS := List.mem_of_getElem? (i := 196) (by decide +kernel)
theorem fm_42 : Cond.not (Cond.eq (tmS (81 / 12)) (tmS (81 % 12))) ∈ flS := List.mem_of_getElem? (i := 197) (by decide +kernel)
theorem fm_43 : Cond.not (Cond.eq (tmS (93 / 12)) (tmS (93 % 12))) ∈ flS := List.mem_of_getElem? (i := 198) (by decide +kernel)
theorem fm_44 : Cond.not (Cond.eq (tmS (105 / 12)) (tmS (105 % 12))) ∈ flS := List.mem_of_getElem? (i := 199) (by decide +kernel)
theorem fm_45 : Cond.not (Cond.eq (tmS (10 / 12)) (tmS (10 % 12))) ∈ flS := List.mem_of_getElem? (i := 212) (by decide +kernel)
theorem fm_46 : Cond.not (Cond.eq (tmS (22 / 12)) (tmS (22 % 12))) ∈ flS := List.mem_of_getElem? (i := 213) (by decide +kernel)
theorem fm_47 : Cond.not (Cond.eq (tmS (34 / 12)) (tmS (34 % 12))) ∈ flS := List.mem_of_getElem? (i := 214) (by decide +kernel)
theorem fm_48 : Cond.not (Cond.eq (tmS (46 / 12)) (tmS (46 % 12))) ∈ flS := List.mem_of_getElem? (i := 215) (by decide +kernel)
theorem fm_49 : Cond.not (Cond.eq (tmS (58 / 12)) (tmS (58 % 12))) ∈ flS := List.mem_of_getElem? (i := 216) (by decide +kernel)
theorem fm_50 : Cond.not (Cond.eq (tmS (70 / 12)) (tmS (70 % 12))) ∈ flS := List.mem_of_getElem? (i := 217) (by decide +kernel)
theorem fm_51 : Cond.not (Cond.eq (tmS (82 / 12)) (tmS (82 % 12))) ∈ flS := List.mem_of_getElem? (i := 218) (by decide +kernel)
theorem fm_52 : Cond.not (Cond.eq (tmS (94 / 12)) (tmS (94 % 12))) ∈ flS := List.mem_of_getElem? (i := 219) (by decide +kernel)
theorem fm_53 : Cond.not (Cond.eq (tmS (106 / 12)) (tmS (106 % 12))) ∈ flS := List.mem_of_getElem? (i := 220) (by decide +kernel)
theorem fm_54 : Cond.not (Cond.eq (tmS (118 / 12)) (tmS (118 % 12))) ∈ flS := List.mem_of_getElem? (i := 221) (by decide +kernel)
theorem fm_55 : Cond.not (Cond.eq (tmS (11 / 12)) (tmS (11 % 12))) ∈ flS := List.mem_of_getElem? (i := 231) (by decide +kernel)
theorem fm_56 : Cond.not (Cond.eq (tmS (23 / 12)) (tmS (23 % 12))) ∈ flS := List.mem_of_getElem? (i := 232) (by decide +kernel)
theorem fm_57 : Cond.not (Cond.eq (tmS (35 / 12)) (tmS (35 % 12))) ∈ flS := List.mem_of_getElem? (i := 233) (by decide +kernel)
theorem fm_58 : Cond.not (Cond.eq (tmS (47 / 12)) (tmS (47 % 12))) ∈ flS := List.mem_of_getElem? (i := 234) (by decide +kernel)
theorem fm_59 : Cond.not (Cond.eq (tmS (59 / 12)) (tmS (59 % 12))) ∈ flS := List.mem_of_getElem? (i := 235) (by decide +kernel)
theorem fm_60 : Cond.not (Cond.eq (tmS (71 / 12)) (tmS (71 % 12))) ∈ flS := List.mem_of_getElem? (i := 236) (by decide +kernel)
theorem fm_61 : Cond.not (Cond.eq (tmS (83 / 12)) (tmS (83 % 12))) ∈ flS := List.mem_of_getElem? (i := 237) (by decide +kernel)
theorem fm_62 : Cond.not (Cond.eq (tmS (95 / 12)) (tmS (95 % 12))) ∈ flS := List.mem_of_getElem? (i := 238) (by decide +kernel)
theorem fm_63 : Cond.not (Cond.eq (tmS (107 / 12)) (tmS (107 % 12))) ∈ flS := List.mem_of_getElem? (i := 239) (by decide +kernel)
theorem fm_64 : Cond.not (Cond.eq (tmS (119 / 12)) (tmS (119 % 12))) ∈ flS := List.mem_of_getElem? (i := 240) (by decide +kernel)
theorem fm_65 : Cond.not (Cond.eq (tmS (131 / 12)) (tmS (131 % 12))) ∈ flS := List.mem_of_getElem? (i := 241) (by decide +kernel)
def prN : List Nat := [1, 2, 14, 3, 15, 27, 4, 16, 28, 40, 5, 17, 29, 41, 53, 6, 18, 30, 42, 54, 66, 7, 19, 31, 43, 55, 67, 79, 8, 20, 32, 44, 56, 68, 80, 92, 9, 21, 33, 45, 57, 69, 81, 93, 105, 10, 22, 34, 46, 58, 70, 82, 94, 106, 118, 11, 23, 35, 47, 59, 71, 83, 95, 107, 119, 131]
theorem fl_all : ∀ n ∈ prN, Cond.not (Cond.eq (tmS (n / 12)) (tmS (n % 12))) ∈ flS := List.forall_mem_cons.mpr ⟨fm_0, List.forall_mem_cons.mpr ⟨fm_1, List.forall_mem_cons.mpr ⟨fm_2, List.forall_mem_cons.mpr ⟨fm_3, List.forall_mem_cons.mpr ⟨fm_4, List.forall_mem_cons.mpr ⟨fm_5, List.forall_mem_cons.mpr ⟨fm_6, List.forall_mem_cons.mpr ⟨fm_7, List.forall_mem_cons.mpr ⟨fm_8, List.forall_mem_cons.mpr ⟨fm_9, List.forall_mem_cons.mpr ⟨fm_10, List.forall_mem_cons.mpr ⟨fm_11, List.forall_mem_cons.mpr ⟨fm_12, List.forall_mem_cons.mpr ⟨fm_13, List.forall_mem_cons.mpr ⟨fm_14, List.forall_mem_cons.mpr ⟨fm_15, List.forall_mem_cons.mpr ⟨fm_16, List.forall_mem_cons.mpr ⟨fm_17, List.forall_mem_cons.mpr ⟨fm_18, List.forall_mem_cons.mpr ⟨fm_19, List.forall_mem_cons.mpr ⟨fm_20, List.forall_mem_cons.mpr ⟨fm_21, List.forall_mem_cons.mpr ⟨fm_22, List.forall_mem_cons.mpr ⟨fm_23, List.forall_mem_cons.mpr ⟨fm_24, List.forall_mem_cons.mpr ⟨fm_25, List.forall_mem_cons.mpr ⟨fm_26, List.forall_mem_cons.mpr ⟨fm_27, List.forall_mem_cons.mpr ⟨fm_28, List.forall_mem_cons.mpr ⟨fm_29, List.forall_mem_cons.mpr ⟨fm_30, List.forall_mem_cons.mpr ⟨fm_31, List.forall_mem_cons.mpr ⟨fm_32, List.forall_mem_cons.mpr ⟨fm_33, List.forall_mem_cons.mpr ⟨fm_34, List.forall_mem_cons.mpr ⟨fm_35, List.forall_mem_cons.mpr ⟨fm_36, List.forall_mem_cons.mpr ⟨fm_37, List.forall_mem_cons.mpr ⟨fm_38, List.forall_mem_cons.mpr ⟨fm_39, List.forall_mem_cons.mpr ⟨fm_40, List.forall_mem_cons.mpr ⟨fm_41, List.forall_mem_cons.mpr ⟨fm_42, List.forall_mem_cons.mpr ⟨fm_43, List.forall_mem_cons.mpr ⟨fm_44, List.forall_mem_cons.mpr ⟨fm_45, List.forall_mem_cons.mpr ⟨fm_46, List.forall_mem_cons.mpr ⟨fm_47, List.forall_mem_cons.mpr ⟨fm_48, List.forall_mem_cons.mpr ⟨fm_49, List.forall_mem_cons.mpr ⟨fm_50, List.forall_mem_cons.mpr ⟨fm_51, List.forall_mem_cons.mpr ⟨fm_52, List.forall_mem_cons.mpr ⟨fm_53, List.forall_mem_cons.mpr ⟨fm_54, List.forall_mem_cons.mpr ⟨fm_55, List.forall_mem_cons.mpr ⟨fm_56, List.forall_mem_cons.mpr ⟨fm_57, List.forall_mem_cons.mpr ⟨fm_58, List.forall_mem_cons.mpr ⟨fm_59, List.forall_mem_cons.mpr ⟨fm_60, List.forall_mem_cons.mpr ⟨fm_61, List.forall_mem_cons.mpr ⟨fm_62, List.forall_mem_cons.mpr ⟨fm_63, List.forall_mem_cons.mpr ⟨fm_64, List.forall_mem_cons.mpr ⟨fm_65, fun _ h => absurd h List.not_mem_nil⟩⟩⟩⟩⟩⟩⟩⟩⟩⟩⟩⟩⟩⟩⟩⟩⟩⟩⟩⟩⟩⟩⟩⟩⟩⟩⟩⟩⟩⟩⟩⟩⟩⟩⟩⟩⟩⟩⟩⟩⟩⟩⟩⟩⟩⟩⟩⟩⟩⟩⟩⟩⟩⟩⟩⟩⟩⟩⟩⟩⟩⟩⟩⟩⟩⟩
theorem pr_all : ∀ i, i < 12 → ∀ j, j < 12 → i ≠ j → 12 * i + j ∈ prN ∨ 12 * j + i ∈ prN := by decide +kernel
theorem fl_mm {i j : Nat} (hj : j < 12) (h : 12 * i + j ∈ prN) : Cond.not (Cond.eq (tmS i) (tmS j)) ∈ flS := by
  have h2 := fl_all _ h
  rw [show (12 * i + j) / 12 = i by omega, show (12 * i + j) % 12 = j by omega] at h2
  exact h2
theorem fl_ne : ∀ i, i < 12 → ∀ j, j < 12 → i ≠ j → Cond.not (Cond.eq (tmS i) (tmS j)) ∈ flS ∨ Cond.not (Cond.eq (tmS j) (tmS i)) ∈ flS := fun i hi j hj hn => (pr_all i hi j hj hn).imp (fl_mm hj) (fl_mm hi)
theorem fl_l8 : ∀ i, i < 12 → sLen.getD i 0 ≤ 8 := by decide
theorem fl_sr : ∀ i, i < 12 → Cond.stringRef "KeptCompany$Reader" (sIdx.getD i 0) (sTxt.getD i "") ∈ tables_1_2 := by decide +kernel
theorem fl_tw : ∀ j, j < 3 → Cond.eq (.elem (.static "KeptCompany$Reader" "NUMBERS_IN_TOWN" "[I") (.int (Int32.ofNat j))) (.int (nTown.getD j 0)) ∈ flS := by decide +kernel
theorem fl_wk : ∀ j, j < 7 → Cond.eq (.elem (.static "KeptCompany$Reader" "NUMBERS_IN_WEEK" "[I") (.int (Int32.ofNat j))) (.int (nWeek.getD j 0)) ∈ flS := by decide +kernel
theorem nw_mem (k : Nat) : nwW k ∈ lw_tbl := by
  unfold nwW
  split
  · exact tt_1 (i := 43) rfl
  · exact tt_1 (i := 88) rfl
  · exact tt_1 (i := 103) rfl
  · exact tt_1 (i := 152) rfl
  · exact tt_1 (i := 154) rfl
  · exact tt_1 (i := 156) rfl
  · exact tt_1 (i := 204) rfl
  · exact tt_2 (i := 19) rfl
  · exact tt_2 (i := 39) rfl
  · exact tt_2 (i := 52) rfl
section STA
variable {s : State} {b : Nat}
theorem start_Ex (hts : ∀ w ∈ lw_tbl, w.before #[Value.ref b] s = true) (hgv : (Cond.and given_1 narrow_1).before #[Value.ref b] s = true) : ∃ z, Ex z (fun q : Nat => s.heap.size ≤ q) s s.heap := by
  have hf := flat_of_before _ hgv
  have hA : ∀ a : Nat, a < s.heap.size → ¬ (fun q : Nat => s.heap.size ≤ q) a := fun a h q => Nat.not_le.mpr h q
  obtain ⟨aK, aV, hS, hE⟩ := vk_Sof (N := 12) (tm := tmS) (len := sLen) (byt := sByt) (A := fun q : Nat => s.heap.size ≤ q) (fun i hi => by have := fl_l8 i hi; omega) (fun i hi => hf _ (fl_ex i hi)) (fun i hi => hf _ (fl_co i hi)) (fun i hi => hf _ (fl_ar i hi)) (fun i hi => hf _ (fl_le i hi)) (fun i hi j hj => hf _ (fl_el i hi j (by have := fl_l8 i hi; omega) hj)) (fun i j hi hj hn => (fl_ne i hi j hj hn).imp (hf _) (hf _)) hA
  obtain ⟨t0, g0, T0⟩ := va_Tof (tm := .static "KeptCompany$Reader" "NUMBERS_IN_TOWN" "[I") (ty := .int) (N := 3) (f := fun j => .int (nTown.getD j 0)) (A := fun q : Nat => s.heap.size ≤ q) (by decide) (hf _ (by decide +kernel)) (va_eqt (hf _ (by decide +kernel))) (fun j hj => va_eqt (hf _ (fl_tw j hj))) hA
  obtain ⟨t1, g1, T1⟩ := va_Tof (tm := .static "KeptCompany$Reader" "NUMBERS_IN_WEEK" "[I") (ty := .int) (N := 7) (f := fun j => .int (nWeek.getD j 0)) (A := fun q : Nat => s.heap.size ≤ q) (by decide) (hf _ (by decide +kernel)) (va_eqt (hf _ (by decide +kernel))) (fun j hj => va_eqt (hf _ (fl_wk j hj))) hA
  refine ⟨fun k => if k = 0 then t0 else if k = 1 then t1 else if k % 2 = 0 then aK (k / 2 - 1) else aV (k / 2 - 1), ?_⟩
  have eK : adK (fun k => if k = 0 then t0 else if k = 1 then t1 else if k % 2 = 0 then aK (k / 2 - 1) else aV (k / 2 - 1)) = aK := by
    funext i
    show (if 2 * i + 2 = 0 then t0 else if 2 * i + 2 = 1 then t1 else if (2 * i + 2) % 2 = 0 then aK ((2 * i + 2) / 2 - 1) else aV ((2 * i + 2) / 2 - 1)) = aK i
    rw [if_neg (by omega), if_neg (by omega), if_pos (by omega), show (2 * i + 2) / 2 - 1 = i by omega]
  have eV : adV (fun k => if k = 0 then t0 else if k = 1 then t1 else if k % 2 = 0 then aK (k / 2 - 1) else aV (k / 2 - 1)) = aV := by
    funext i
    show (if 2 * i + 3 = 0 then t0 else if 2 * i + 3 = 1 then t1 else if (2 * i + 3) % 2 = 0 then aK ((2 * i + 3) / 2 - 1) else aV ((2 * i + 3) / 2 - 1)) = aV i
    rw [if_neg (by omega), if_neg (by omega), if_neg (by omega), show (2 * i + 3) / 2 - 1 = i by omega]
  unfold Ex
  rw [eK, eV]
  refine ⟨?_, ?_, hS, fun i hi => vk_R.of (hts _ (List.mem_append_right _ (List.mem_append_right _ (List.mem_append_left _ (fl_sr i hi))))) (hE i hi), ⟨?_, T0⟩, ⟨?_, T1⟩, fun k => va_Nw.of (nwW_tab k) (hts _ (nw_mem k))⟩
  · exact va_Zof (hts _ (tt_2 (i := 175) rfl)) (hts _ (tt_1 (i := 14) rfl)) (va_eqt (hf _ (by decide +kernel))) hA
  · exact va_Zqof (hts _ (tt_2 (i := 191) rfl)) (hts _ (tt_1 (i := 16) rfl)) (hf _ (by decide +kernel)) hA
  · exact va_Zof (hts _ (tt_3 (i := 6) rfl)) (hts _ (tt_1 (i := 6) rfl)) g0 hA
  · exact va_Zof (hts _ (tt_3 (i := 8) rfl)) (hts _ (tt_1 (i := 6) rfl)) g1 hA
theorem start_Nz (hts : ∀ w ∈ lw_tbl, w.before #[Value.ref b] s = true) : Nz s :=
  ⟨fun k => va_Nw.of (nwW_tab k) (hts _ (nw_mem k)), va_AO.of (hts _ (tt_1 (i := 37) rfl)), va_AO.of (hts _ (tt_1 (i := 39) rfl)), va_AO.of (hts _ (tt_1 (i := 41) rfl)), va_AO.of (hts _ (tt_1 (i := 144) rfl))⟩
theorem arr_o {C : String} (h : (Cond.arrayOver (.object C)).before #[Value.ref b] s = true) : ∃ cA, ArrOfT s cA (.object C) ∧ va_RA s cA (.object C) := by
  obtain ⟨comp, c, k, f1, f2, f3, f4, f5⟩ := Cond.arrayOver_spec h
  exact ⟨c, fun n z => ⟨fun k h => (by cases h), k, f3, comp, f4⟩, k, comp, f3, f4, f1, f5⟩
theorem arr_i (h : (Cond.arrayClass .int).before #[Value.ref b] s = true) : ∃ cA, ArrOfT s cA .int ∧ va_RA s cA .int := by
  obtain ⟨c, k, comp, f1, f2, f3⟩ := Cond.arrayClass_spec h
  exact ⟨c, fun n z => ⟨fun k h => (by cases h), k, f2, comp, f3⟩, f1⟩
theorem arr_b (h : (Cond.arrayClass .byte).before #[Value.ref b] s = true) : ∃ cA, ArrOfT s cA .byte ∧ va_RA s cA .byte := by
  obtain ⟨c, k, comp, f1, f2, f3⟩ := Cond.arrayClass_spec h
  exact ⟨c, fun n z => ⟨fun k h => (by cases h), k, f2, comp, f3⟩, f1⟩
theorem arr_l (h : (Cond.arrayClass .long).before #[Value.ref b] s = true) : ∃ cA, ArrOfT s cA .long ∧ va_RA s cA .long := by
  obtain ⟨c, k, comp, f1, f2, f3⟩ := Cond.arrayClass_spec h
  exact ⟨c, fun n z => ⟨fun k h => (by cases h), k, f2, comp, f3⟩, f1⟩
theorem arr_z (h : (Cond.arrayClass .boolean).before #[Value.ref b] s = true) : ∃ cA, ArrOfT s cA .boolean ∧ va_RA s cA .boolean := by
  obtain ⟨c, k, comp, f1, f2, f3⟩ := Cond.arrayClass_spec h
  exact ⟨c, fun n z => ⟨fun k h => (by cases h), k, f2, comp, f3⟩, f1⟩
theorem start_K (hts : ∀ w ∈ lw_tbl, w.before #[Value.ref b] s = true) : ∃ (D : va_G) (g : Nat → ClassId), va_K D gCl (gy g) s := by
  have hw : ∀ w ∈ lw_w, w.before #[Value.ref b] s = true := fun w h => hts w (List.mem_filter.mp h).1
  obtain ⟨c0, i0, k0⟩ := u_known (C := RX1) (T := TX1) (N := 16) (n := 16) hw iwX1 (hw _ q_203)
  obtain ⟨c1, i1, k1⟩ := u_known (C := RX2) (T := TX2) (N := 2) (n := 2) hw iwX2 (hw _ q_102)
  obtain ⟨c2, i2, k2⟩ := u_known (C := RX4) (T := TX4) (N := 4) (n := 4) hw iwX4 (hw _ q_258)
  obtain ⟨c3, i3, k3⟩ := u_known (C := RX5) (T := TX5) (N := 13) (n := 13) hw iwX5 (hw _ q_146)
  obtain ⟨c4, i4, k4⟩ := u_known (C := RX6) (T := TX6) (N := 2) (n := 2) hw iwX6 (hw _ q_278)
  obtain ⟨c5, i5, k5⟩ := u_known (C := RX7) (T := TX7) (N := 3) (n := 3) hw iwX7 (hw _ q_291)
  obtain ⟨c6, i6, k6⟩ := u_known (C := RX8) (T := TX8) (N := 8) (n := 8) hw iwX8 (hw _ q_31)
  obtain ⟨c7, i7, k7⟩ := u_known (C := RX9) (T := TX9) (N := 5) (n := 5) hw iwX9 (hw _ q_42)
  obtain ⟨c8, i8, k8⟩ := u_known (C := RX10) (T := TX10) (N := 2) (n := 2) hw iwX10 (hw _ q_87)
  obtain ⟨c9, i9, k9⟩ := u_known (C := RX11) (T := TX11) (N := 7) (n := 7) hw iwX11 (hw _ q_23)
  obtain ⟨c10, i10, k10⟩ := u_known (C := RX12) (T := TX12) (N := 48) (n := 48) hw iwX12 (hw _ q_1041)
  obtain ⟨a0, r0⟩ := arr_i (hts _ (tt_1 (i := 86) rfl))
  obtain ⟨a1, r1⟩ := arr_b (hts _ (tt_1 (i := 85) rfl))
  obtain ⟨a2, r2⟩ := arr_l (hts _ (tt_2 (i := 36) rfl))
  obtain ⟨a3, r3⟩ := arr_z (hts _ (tt_5 (i := 231) rfl))
  obtain ⟨a4, r4⟩ := arr_o (hts _ (tt_1 (i := 37) rfl))
  obtain ⟨a5, r5⟩ := arr_o (hts _ (tt_1 (i := 39) rfl))
  obtain ⟨a6, r6⟩ := arr_o (hts _ (tt_1 (i := 41) rfl))
  obtain ⟨a7, r7⟩ := arr_o (hts _ (tt_1 (i := 144) rfl))
  refine ⟨(fun k => if k = 0 then c0 else if k = 1 then c1 else if k = 2 then c2 else if k = 3 then c3 else if k = 4 then c4 else if k = 5 then c5 else if k = 6 then c6 else if k = 7 then c7 else if k = 8 then c8 else if k = 9 then c9 else c10, fun k => if k = 0 then i0 else if k = 1 then i1 else if k = 2 then i2 else if k = 3 then i3 else if k = 4 then i4 else if k = 5 then i5 else if k = 6 then i6 else if k = 7 then i7 else if k = 8 then i8 else if k = 9 then i9 else i10), fun k => if k = 0 then a0 else if k = 1 then a1 else if k = 2 then a2 else if k = 3 then a3 else if k = 4 then a4 else if k = 5 then a5 else if k = 6 then a6 else a7, ?_, ?_⟩
  · intro k q hq
    match k, hq with
    | 0, hq => cases hq; exact k0
    | 1, hq => cases hq; exact k1
    | 2, hq => cases hq; exact k2
    | 3, hq => cases hq; exact k3
    | 4, hq => cases hq; exact k4
    | 5, hq => cases hq; exact k5
    | 6, hq => cases hq; exact k6
    | 7, hq => cases hq; exact k7
    | 8, hq => cases hq; exact k8
    | 9, hq => cases hq; exact k9
    | 10, hq => cases hq; exact k10
    | k + 11, hq => exact absurd hq (by simp)
  · intro k q hq
    match k, hq with
    | 0, hq => cases hq; exact r0
    | 1, hq => cases hq; exact r1
    | 2, hq => cases hq; exact r2
    | 3, hq => cases hq; exact r3
    | 4, hq => cases hq; exact r4
    | 5, hq => cases hq; exact r5
    | 6, hq => cases hq; exact r6
    | 7, hq => cases hq; exact r7
    | k + 8, hq => exact absurd hq (by simp [gy])
end STA
