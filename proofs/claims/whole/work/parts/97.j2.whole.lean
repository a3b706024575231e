/-! ===== the law from its entry ===== -/
theorem TS_start : TS 0 (((fun _ => 0), 0, 0, -1, (fun _ => 0), 0, (fun _ => 0), (fun _ => 0), (fun _ => 0), (fun _ => 0), 0, (fun _ => 0), (fun _ => 0), (fun _ => 0), (fun _ => 0), 0, (fun _ => 0), 0, (fun _ => 0), 0, (fun _ => 0), 0, (fun _ => 0)) : TT) (((fun _ => 0), (fun _ => 0), (fun _ => 0), upd (fun _ => 0) 0 (-1), (fun _ => 0), (fun _ => 0), (fun _ => 0), (fun _ => 0)) : RT) := by
  have n0 : ¬ 0 < 0 := Nat.lt_irrefl 0
  have n1 : ¬ 1 < 0 := by decide
  exact ⟨⟨0, by decide, rfl, rfl, fun i hi => absurd hi (Nat.not_lt_zero _)⟩, rfl, (show upd (fun _ => (0 : Int32)) 0 (-1) 0 = (-1 : Int32) from pk_us), ⟨0, by decide, rfl, rfl, fun h => absurd h n0, fun h => absurd h n1⟩, ⟨0, by decide, rfl, rfl, fun h => absurd h n0, fun h => absurd h n1⟩, ⟨0, by decide, rfl, rfl, fun h => absurd h n0, fun h => absurd h n1⟩, ⟨0, by decide, rfl⟩, ⟨0, by decide, rfl⟩, ⟨0, by decide, rfl⟩, ⟨0, by decide, rfl⟩⟩
theorem Inv_start {g : Nat → ClassId} {h0 h1 : Nat} {q q' : Nat → Nat} : Inv g h0 h1 (mkKc g h0 q) (mkMd g h1 q') := by
  refine ⟨((fun _ => 0), 0, 0, -1, (fun _ => 0), 0, (fun _ => 0), (fun _ => 0), (fun _ => 0), (fun _ => 0), 0, (fun _ => 0), (fun _ => 0), (fun _ => 0), (fun _ => 0), 0, (fun _ => 0), 0, (fun _ => 0), 0, (fun _ => 0), 0, (fun _ => 0)), ((fun _ => 0), (fun _ => 0), (fun _ => 0), upd (fun _ => 0) 0 (-1), (fun _ => 0), (fun _ => 0), (fun _ => 0), (fun _ => 0)), fun _ => none, fun _ => 0, mkKc g h0 q, [], [], [], ?_, ⟨q, _, _, _, _, _, _, _, _, _, _, _, _, _, _, _, _, _, _, _, _, _, _, _, _, _, _, _, _, _, _, _, _, _, _, _, _, _, _, _, _, _, _, _, rfl⟩, ⟨q', _, _, _, _, _, _, _, _, _, _, _, _, _, _, _, _, _, _, _, _, _, _, _, _, _, _, _, _, _, _, _, _, _, _, _, _, _, _, _, rfl⟩, TS_start, Or.inl ⟨rfl, rfl, rfl⟩, Or.inl ⟨rfl, rfl, rfl⟩, Or.inl ⟨rfl, rfl, rfl⟩⟩
  rw [List.append_nil, List.append_nil, List.append_nil]
set_option maxHeartbeats 4000000 in
set_option maxRecDepth 100000 in
theorem whole_start {p : Program} {e : Env} {s : State} {m : MethodId} {below : List Frame} {meth : Method} {c : Code} (l : Launch) (hflags : l.flags = flags0) {b L : Nat} {xs : Nat → Int32} (hL : L ≤ 3072) (C0 : lw_At p s m meth c b L xs) : W p l e room_1 s m #[Value.ref b] below meth c s.heap [] 0 0 (lw_Z below #[Value.ref b] s) (entryFrame m ([Value.ref b] : List Value).toArray 4) := by
  obtain ⟨hx, hb, hr, hml, hown, hts, hX, hbl, hlocks, hgv⟩ := C0
  obtain ⟨z, hE⟩ := start_Ex hts hgv
  have hN := start_Nz hts
  obtain ⟨D, g, hK⟩ := start_K hts
  have hA : ∀ q : Nat, s.heap.size ≤ q → (fun q : Nat => s.heap.size ≤ q) q := fun _ h => h
  have S : CallFix p m c cL_law 4 s #[Value.ref b] lw_w RL := ⟨hx, hb, hml, hown, fun w h => hts w (List.mem_filter.mp h).1⟩
  have X : LawCx p s m c D g z (fun q : Nat => s.heap.size ≤ q) b L xs := ⟨S, hK, hE, hN, hA, hX, hbl, Nat.not_le.mpr hbl, hL⟩
  have hW : St (fun q : Nat => s.heap.size ≤ q) s.heap D [] s.heap [] := ⟨fun k q h => by simp at h, ⟨fun i j p q h => by simp at h, fun k q h => by simp at h⟩, va_S.rf⟩
  have hl := lv_entry ([.ref b]) (n := 4) (Nat.le_of_ble_eq_true rfl)
  rw [lg_entry_eq]
  generalize (lg_sl ([.ref b]) ++ List.replicate (4 - (lg_sl ([.ref b])).length) Slot.unset).toArray = ls at hl ⊢
  have hl : lv_has ls 4 [(0, .ref b)] := hl
  refine q_new (C := RX11) (T := TX11) (N := 7) (ci := 9) (fs := dfX11) S hK hW hA iwX11 tyX11 tyX11_ok rfl q_22 q_23 q_1 dflX11 (Nat.le_of_ble_eq_true rfl) (Nat.le_of_ble_eq_true rfl) dL_law_0 (fun h0 H hW => ?_)
  have hW : St (fun q : Nat => s.heap.size ≤ q) s.heap D ([(h0, .inr (9, dfX11))] ++ []) H [] := hW
  refine lv_dup S.1 S.2.1 dL_law_3 rfl ?_
  refine Mk.goA (wr := []) (Mk.runI (c_X11_init (g := g)) S hK hW hN [0] rfl rfl kIL_9 rfl hl.1 [.ref h0] rfl (Nat.le_of_ble_eq_true rfl) ⟨(Nat.le_of_ble_eq_true rfl), (Nat.le_of_ble_eq_true rfl)⟩ ⟨(Nat.le_of_ble_eq_true rfl), (Nat.le_of_ble_eq_true rfl)⟩ dL_law_4) hW hA (fun q H locs hW => ?_)
  refine lv_astore_n (lv' := [(1, .ref h0), (0, .ref b)]) S.1 S.2.1 dL_law_7 rfl hl (by decide) rfl (fun ls hl => ?_)
  refine q_new (C := RX12) (T := TX12) (N := 48) (ci := 10) (fs := dfX12) S hK hW hA iwX12 tyX12 tyX12_ok rfl q_1040 q_1041 q_11 dflX12 (Nat.le_of_ble_eq_true rfl) (Nat.le_of_ble_eq_true rfl) dL_law_8 (fun h1 H hW => ?_)
  have hW : St (fun q : Nat => s.heap.size ≤ q) s.heap D ([(h1, .inr (10, dfX12))] ++ (mkKc g h0 q ++ [])) H locs := hW.permL List.perm_append_comm
  refine lv_dup S.1 S.2.1 dL_law_11 rfl ?_
  refine Mk.goA (wr := mkKc g h0 q ++ []) (Mk.runI (c_X12_init (g := g)) S hK hW hN [0] rfl rfl kIL_12 rfl hl.1 [.ref h1] rfl (Nat.le_of_ble_eq_true rfl) ⟨(Nat.le_of_ble_eq_true rfl), (Nat.le_of_ble_eq_true rfl)⟩ ⟨(Nat.le_of_ble_eq_true rfl), (Nat.le_of_ble_eq_true rfl)⟩ dL_law_12) hW hA (fun q' H locs hW => ?_)
  refine lv_astore_n (lv' := [(2, .ref h1), (1, .ref h0), (0, .ref b)]) S.1 S.2.1 dL_law_15 rfl hl (by decide) rfl (fun ls hl => ?_)
  refine lv_iconst (v := 0) S.1 S.2.1 dL_law_16 (by decide) ?_
  refine lv_istore_n (lv' := [(3, .int 0), (2, .ref h1), (1, .ref h0), (0, .ref b)]) S.1 S.2.1 dL_law_17 rfl hl (by decide) rfl (fun ls hl => ?_)
  rw [List.append_nil] at hW
  exact law_loop X hr hlocks 513 0 _ _ (mkKc g h0 q) (mkMd g h1 q') H locs ls (Nat.zero_le _) (by omega) (Nat.le_of_ble_eq_true rfl) (Nat.le_of_ble_eq_true rfl) Inv_start (hW.permL List.perm_append_comm) (lv_sub hl [3, 2, 1, 0] rfl)
