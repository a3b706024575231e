/-! what stands outside every world: texts, static rows, nest links -/
def sIdx : List Nat := [139, 141, 143, 145, 147, 149, 151, 153, 155, 157, 131, 137]
def sTxt : List String := ["person", "hate", "owes", "sit", "lend", "pay", "forgive", "silent", "talks", "hour", "together", "apart"]
def sLen : List Nat := [6, 4, 4, 3, 4, 3, 7, 6, 5, 4, 8, 5]
def sByt : List (List Int32) := [[112, 101, 114, 115, 111, 110], [104, 97, 116, 101], [111, 119, 101, 115], [115, 105, 116], [108, 101, 110, 100], [112, 97, 121], [102, 111, 114, 103, 105, 118, 101], [115, 105, 108, 101, 110, 116], [116, 97, 108, 107, 115], [104, 111, 117, 114], [116, 111, 103, 101, 116, 104, 101, 114], [97, 112, 97, 114, 116]]
def nTown : List Int32 := [2, 2, 3]
def nWeek : List Int32 := [2, 3, 3, 3, 1, 1, 0]
def nwW : Nat → Cond := fun k => match k with
  | 0 => .methodLinkNest "KeptCompany$Told" 47 yX9_init "KeptCompany"
  | 1 => .methodLinkNest "KeptCompany$Told" 48 yX10_init "KeptCompany"
  | 2 => .methodLinkNest "KeptCompany$Told" 49 yX2_init "KeptCompany"
  | 3 => .methodLinkNest "KeptCompany$Reader" 11 yX9_init "KeptCompany"
  | 4 => .methodLinkNest "KeptCompany$Reader" 20 yX10_init "KeptCompany"
  | 5 => .methodLinkNest "KeptCompany$Reader" 27 yX2_init "KeptCompany"
  | 6 => .methodLinkNest "KeptCompany" 35 yX1_init "KeptCompany"
  | 7 => .methodLinkNest "KeptCompany" 42 yX4_init "KeptCompany"
  | 8 => .methodLinkNest "KeptCompany" 49 yX6_init "KeptCompany"
  | _ => .methodLinkNest "KeptCompany" 56 yX7_init "KeptCompany"
def adK (z : Nat → Nat) (i : Nat) : Nat := z (2 * i + 2)
def adV (z : Nat → Nat) (i : Nat) : Nat := z (2 * i + 3)
def Ex (z : Nat → Nat) (A : Nat → Prop) (U : State) (H : Heap) : Prop :=
  va_Z "java/lang/String" "COMPACT_STRINGS" "Z" (.int 1) A U H ∧ va_Zq "jdk/internal/util/Preconditions" "SIOOBE_FORMATTER" "Ljava/util/function/BiFunction;" A U H ∧
  vk_S 12 sLen sByt (adK z) (adV z) A U H ∧ (∀ i : Nat, i < 12 → vk_R "KeptCompany$Reader" (sIdx.getD i 0) (sTxt.getD i "") (adK z i) U) ∧
  (va_Z "KeptCompany$Reader" "NUMBERS_IN_TOWN" "[I" (.ref (z 0)) A U H ∧ va_T .int (z 0) 3 (fun j => .int (nTown.getD j 0)) A U H) ∧
  (va_Z "KeptCompany$Reader" "NUMBERS_IN_WEEK" "[I" (.ref (z 1)) A U H ∧ va_T .int (z 1) 7 (fun j => .int (nWeek.getD j 0)) A U H) ∧
  ∀ k : Nat, va_Nw (nwW k) U
theorem nwW_tab (k : Nat) : (nwW k).onTables = true := by unfold nwW; split <;> rfl
theorem nwW_warm {s U : State} (k : Nat) (hW : s.WarmedH U.vm) (h : va_Nw (nwW k) s) : va_Nw (nwW k) U := by
  revert h
  unfold nwW
  split <;> exact fun h => va_Nw.warmM hW h
theorem Ex.warm {z : Nat → Nat} {A : Nat → Prop} {s U : State} {H : Heap} (hW : s.WarmedH U.vm) (h : Ex z A s H) : Ex z A U H := by
  obtain ⟨h1, h2, h3, h4, ⟨h5, h6⟩, ⟨h7, h8⟩, h9⟩ := h
  exact ⟨h1.moved hW.alike, h2.moved hW.alike, h3.moved hW.alike, fun i hi => (h4 i hi).warm hW, ⟨h5.moved hW.alike, h6.moved hW.alike⟩, ⟨h7.moved hW.alike, h8.moved hW.alike⟩, fun k => nwW_warm k hW (h9 k)⟩
theorem Ex.same {z : Nat → Nat} {A : Nat → Prop} {s U : State} {H : Heap} (hv : U.vm = s.vm) (h : Ex z A s H) : Ex z A U H := by
  obtain ⟨h1, h2, h3, h4, ⟨h5, h6⟩, ⟨h7, h8⟩, h9⟩ := h
  have hal : s.vm.Alike U.vm := by rw [hv]; exact Vm.Alike.refl _
  exact ⟨h1.moved hal, h2.moved hal, h3.moved hal, fun i hi => (h4 i hi).same hv, ⟨h5.moved hal, h6.moved hal⟩, ⟨h7.moved hal, h8.moved hal⟩, fun k => va_Nw.same (nwW_tab k) hv.symm (h9 k)⟩
theorem Ex.kept {z : Nat → Nat} {A : Nat → Prop} {U : State} {H H1 : Heap} (h : Ex z A U H) (hq : ∀ a : Nat, a < H.size → ¬ A a → H1[a]? = H[a]?) : Ex z A U H1 := by
  obtain ⟨h1, h2, h3, h4, ⟨h5, h6⟩, ⟨h7, h8⟩, h9⟩ := h
  exact ⟨h1.kept hq, h2.kept hq, h3.kept hq, h4, ⟨h5.kept hq, h6.kept hq⟩, ⟨h7.kept hq, h8.kept hq⟩, h9⟩
theorem Ex.narrow {z : Nat → Nat} {A B : Nat → Prop} {U : State} {H : Heap} (h : Ex z A U H) (hAB : ∀ q, B q → A q) : Ex z B U H := by
  obtain ⟨h1, h2, h3, h4, ⟨h5, h6⟩, ⟨h7, h8⟩, h9⟩ := h
  exact ⟨h1.narrow hAB, h2.narrow hAB, h3.narrow hAB, h4, ⟨h5.narrow hAB, h6.narrow hAB⟩, ⟨h7.narrow hAB, h8.narrow hAB⟩, h9⟩
theorem Ex.rd {z : Nat → Nat} {A : Nat → Prop} {s : State} {H : Heap} {locs : List Loc} (h : Ex z A s s.heap) (hS : va_S A s.heap H locs) : Ex z (fun _ => False) s H := (h.kept (fun a h1 h2 => hS.2.1 a h1 h2)).narrow (fun _ h => h.elim)
theorem Ex.wr {z : Nat → Nat} {A B : Nat → Prop} {s : State} {H : Heap} {locs : List Loc} (h : Ex z A s s.heap) (hS : va_S A s.heap H locs) (hAB : ∀ q, B q → A q) : Ex z B s H := (h.kept (fun a h1 h2 => hS.2.1 a h1 h2)).narrow hAB
def RdE (l : Launch) (D : va_G) (tys : gT) (y : MethodName) (cc : ByteArray) (nL : Nat) (ret : Option FieldType) (d : Nat) (z : Nat → Nat) (av : List Value) (ws : va_W) (v : Option Value) : Prop :=
  Met l y (tw y cc nL ret) (rmD d) (va_Pc av (fun U => va_P D gCl ws U.heap ∧ va_K D gCl tys U ∧ Ex z (fun _ => False) U U.heap)) (fun _ st o t => o = .returned v ∧ t.heap = st.heap) 0 0 (fun _ => False)
def WrE (l : Launch) (D : va_G) (tys : gT) (y : MethodName) (cc : ByteArray) (nL : Nat) (ret : Option FieldType) (d : Nat) (z : Nat → Nat) (av : List Value) (ws ws' : va_W) (v : Option Value) : Prop :=
  ∀ sz : Nat, Met l y (tw y cc nL ret) (rmD d) (va_Pc av (fun U => U.heap.size = sz ∧ va_P D gCl ws U.heap ∧ va_K D gCl tys U ∧ va_D (fun _ => True) ws ∧ Ex z (va_A ws sz) U U.heap)) (fun _ st o t => (o = .returned v ∧ va_P D gCl ws' t.heap ∧ va_D (va_A ws sz) ws') ∧ va_F (va_A ws sz) st t) 0 0 (va_A ws sz)
section RDE
variable {l : Launch} {D : va_G} {tys : gT} {y : MethodName} {cc : ByteArray} {nL d : Nat} {ret : Option FieldType} {av : List Value} {ws ws' : va_W} {v : Option Value} {z : Nat → Nat}
theorem RdE.of (hy : plainName y.cls = true) (hn : (lg_sl av).length ≤ nL)
    (body : ∀ (p : Program) (e : Env) (s : State) (m : MethodId) (args : Array Value) (below : List Frame) (meth : Method) (c : Code) (Q : State → Prop), CallFix p m c cc nL s args lw_w y.cls → meth.sig.returnType = ret → meth.locks = false → va_K D gCl tys s → va_P D gCl ws s.heap → Ex z (fun _ => False) s s.heap →
      Q = MQ below (fun _ st o t => o = .returned v ∧ t.heap = st.heap) args s 0 0 (fun _ => False) → ∀ ls : Array Slot, lv_has ls nL (lv_args 0 av) → W p l e (rmD d) s m args below meth c s.heap [] 0 0 Q (F0 m 0 ls [])) : RdE l D tys y cc nL ret d z av ws v := by
  refine Met.ofW (cc := cc) (maxL := nL) (ret := ret) hy rfl ?_
  intro p e s m args below meth c s₁ B hml hv
  obtain ⟨rfl, hP, hK, hX⟩ := hv
  have hts := atoms_spec (ws := tw y cc nL ret) B.pre
  have hown : s.vm.findClass y.cls = some m.cls := findClass_of_methodNamed B.named
  have hl := lv_entry av (n := nL) hn
  rw [lg_entry_eq]
  exact body p e s m _ below meth c _ ⟨B.exec, B.bytes, hml, hown, fun w h => hts w (List.mem_cons_of_mem _ h)⟩ B.returns B.notSynchronized hK hP hX rfl _ hl
theorem RdE.ofT {r : Int32} {ty : FieldType} (hy : plainName y.cls = true) (hn : (lg_sl av).length ≤ nL) (hnr : narrow ty (.int r) = .int r)
    (body : ∀ (p : Program) (e : Env) (s : State) (m : MethodId) (args : Array Value) (below : List Frame) (meth : Method) (c : Code) (Q : State → Prop), CallFix p m c cc nL s args lw_w y.cls → va_K D gCl tys s → va_P D gCl ws s.heap → Ex z (fun _ => False) s s.heap →
      (∀ (pc : Nat) (ls : Array Slot), decode cc pc = .ok (.ireturn, 1) → W p l e (rmD d) s m args below meth c s.heap [] 0 0 Q (F0 m pc ls [.int r])) → ∀ ls : Array Slot, lv_has ls nL (lv_args 0 av) → W p l e (rmD d) s m args below meth c s.heap [] 0 0 Q (F0 m 0 ls [])) : RdE l D tys y cc nL (some ty) d z av ws (some (.int r)) := by
  refine RdE.of hy hn ?_
  intro p e s m args below meth c Q S hr hlocks hK hP hX hQ ls hl
  refine body p e s m args below meth c Q S hK hP hX (fun pc ls hd => ?_) ls hl
  rw [hQ]
  exact W.zret S.1 S.2.1 hr hnr (fun t ht hW => ⟨rfl, ht⟩) (fun q h => by cases h) hd hlocks
theorem RdE.ofI {r : Int32} (hy : plainName y.cls = true) (hn : (lg_sl av).length ≤ nL)
    (body : ∀ (p : Program) (e : Env) (s : State) (m : MethodId) (args : Array Value) (below : List Frame) (meth : Method) (c : Code) (Q : State → Prop), CallFix p m c cc nL s args lw_w y.cls → va_K D gCl tys s → va_P D gCl ws s.heap → Ex z (fun _ => False) s s.heap →
      (∀ (pc : Nat) (ls : Array Slot), decode cc pc = .ok (.ireturn, 1) → W p l e (rmD d) s m args below meth c s.heap [] 0 0 Q (F0 m pc ls [.int r])) → ∀ ls : Array Slot, lv_has ls nL (lv_args 0 av) → W p l e (rmD d) s m args below meth c s.heap [] 0 0 Q (F0 m 0 ls [])) : RdE l D tys y cc nL (some .int) d z av ws (some (.int r)) := RdE.ofT hy hn rfl body
theorem RdE.ofZ {r : Int32} (hy : plainName y.cls = true) (hn : (lg_sl av).length ≤ nL)
    (body : ∀ (p : Program) (e : Env) (s : State) (m : MethodId) (args : Array Value) (below : List Frame) (meth : Method) (c : Code) (Q : State → Prop), CallFix p m c cc nL s args lw_w y.cls → va_K D gCl tys s → va_P D gCl ws s.heap → Ex z (fun _ => False) s s.heap →
      (∀ (pc : Nat) (ls : Array Slot), (r = 0 ∨ r = 1) → decode cc pc = .ok (.ireturn, 1) → W p l e (rmD d) s m args below meth c s.heap [] 0 0 Q (F0 m pc ls [.int r])) → ∀ ls : Array Slot, lv_has ls nL (lv_args 0 av) → W p l e (rmD d) s m args below meth c s.heap [] 0 0 Q (F0 m 0 ls [])) : RdE l D tys y cc nL (some .boolean) d z av ws (some (.int r)) := by
  refine RdE.of hy hn ?_
  intro p e s m args below meth c Q S hr hlocks hK hP hX hQ ls hl
  refine body p e s m args below meth c Q S hK hP hX (fun pc ls hz hd => ?_) ls hl
  rw [hQ]
  exact W.zret S.1 S.2.1 hr (by rcases hz with h | h <;> rw [h] <;> rfl) (fun t ht hW => ⟨rfl, ht⟩) (fun q h => by cases h) hd hlocks
theorem RdE.ofV (hy : plainName y.cls = true) (hn : (lg_sl av).length ≤ nL)
    (body : ∀ (p : Program) (e : Env) (s : State) (m : MethodId) (args : Array Value) (below : List Frame) (meth : Method) (c : Code) (Q : State → Prop), CallFix p m c cc nL s args lw_w y.cls → va_K D gCl tys s → va_P D gCl ws s.heap → Ex z (fun _ => False) s s.heap →
      (∀ (pc : Nat) (ls : Array Slot), decode cc pc = .ok (.return_, 1) → W p l e (rmD d) s m args below meth c s.heap [] 0 0 Q (F0 m pc ls [])) → ∀ ls : Array Slot, lv_has ls nL (lv_args 0 av) → W p l e (rmD d) s m args below meth c s.heap [] 0 0 Q (F0 m 0 ls [])) : RdE l D tys y cc nL none d z av ws none := by
  refine RdE.of hy hn ?_
  intro p e s m args below meth c Q S hr hlocks hK hP hX hQ ls hl
  refine body p e s m args below meth c Q S hK hP hX (fun pc ls hd => ?_) ls hl
  rw [hQ]
  exact W.vret S.1 S.2.1 hr (fun t ht hW => ⟨rfl, ht⟩) (fun q h => by cases h) hd hlocks
theorem WrE.of (hy : plainName y.cls = true) (hn : (lg_sl av).length ≤ nL)
    (body : ∀ (p : Program) (e : Env) (s : State) (m : MethodId) (args : Array Value) (below : List Frame) (meth : Method) (c : Code) (Q : State → Prop) (A : Nat → Prop), CallFix p m c cc nL s args lw_w y.cls → meth.sig.returnType = ret → meth.locks = false → va_K D gCl tys s → (∀ q : Nat, s.heap.size ≤ q → A q) → Ex z A s s.heap →
      Q = MQ below (fun _ st o t => (o = .returned v ∧ va_P D gCl ws' t.heap ∧ va_D A ws') ∧ va_F A st t) args s 0 0 A → ∀ ls : Array Slot, lv_has ls nL (lv_args 0 av) → St A s.heap D ws s.heap [] → W p l e (rmD d) s m args below meth c s.heap [] 0 0 Q (F0 m 0 ls [])) : WrE l D tys y cc nL ret d z av ws ws' v := by
  intro sz
  refine Met.ofW (cc := cc) (maxL := nL) (ret := ret) hy rfl ?_
  intro p e s m args below meth c s₁ B hml hv
  obtain ⟨rfl, hsz, hP, hK, hD0, hX⟩ := hv
  subst hsz
  have hts := atoms_spec (ws := tw y cc nL ret) B.pre
  have hown : s.vm.findClass y.cls = some m.cls := findClass_of_methodNamed B.named
  have hl := lv_entry av (n := nL) hn
  rw [lg_entry_eq]
  exact body p e s m _ below meth c _ _ ⟨B.exec, B.bytes, hml, hown, fun w h => hts w (List.mem_cons_of_mem _ h)⟩ B.returns B.notSynchronized hK (fun q h => Or.inr h) hX rfl _ hl ⟨hP, hD0.self (sz := s.heap.size), va_S.rf⟩
theorem WrE.ofI {r : Int32} (hy : plainName y.cls = true) (hn : (lg_sl av).length ≤ nL)
    (body : ∀ (p : Program) (e : Env) (s : State) (m : MethodId) (args : Array Value) (below : List Frame) (meth : Method) (c : Code) (Q : State → Prop) (A : Nat → Prop), CallFix p m c cc nL s args lw_w y.cls → va_K D gCl tys s → (∀ q : Nat, s.heap.size ≤ q → A q) → Ex z A s s.heap →
      (∀ (pc : Nat) (ls : Array Slot) (H : Heap) (locs : List Loc), decode cc pc = .ok (.ireturn, 1) → St A s.heap D ws' H locs → W p l e (rmD d) s m args below meth c H locs 0 0 Q (F0 m pc ls [.int r])) → ∀ ls : Array Slot, lv_has ls nL (lv_args 0 av) → St A s.heap D ws s.heap [] → W p l e (rmD d) s m args below meth c s.heap [] 0 0 Q (F0 m 0 ls [])) : WrE l D tys y cc nL (some .int) d z av ws ws' (some (.int r)) := by
  refine WrE.of hy hn ?_
  intro p e s m args below meth c Q A S hr hlocks hK hA hX hQ ls hl hW
  refine body p e s m args below meth c Q A S hK hA hX (fun pc ls H locs hd h => ?_) ls hl hW
  rw [hQ]
  exact W.iret S.1 S.2.1 hr (fun t ht hW => ⟨⟨rfl, by rw [ht]; exact h.1, h.2.1⟩, h.2.2.F ht⟩) h.2.2.2.2 hd hlocks
theorem WrE.ofV (hy : plainName y.cls = true) (hn : (lg_sl av).length ≤ nL)
    (body : ∀ (p : Program) (e : Env) (s : State) (m : MethodId) (args : Array Value) (below : List Frame) (meth : Method) (c : Code) (Q : State → Prop) (A : Nat → Prop), CallFix p m c cc nL s args lw_w y.cls → va_K D gCl tys s → (∀ q : Nat, s.heap.size ≤ q → A q) → Ex z A s s.heap →
      (∀ (pc : Nat) (ls : Array Slot) (H : Heap) (locs : List Loc), decode cc pc = .ok (.return_, 1) → St A s.heap D ws' H locs → W p l e (rmD d) s m args below meth c H locs 0 0 Q (F0 m pc ls [])) → ∀ ls : Array Slot, lv_has ls nL (lv_args 0 av) → St A s.heap D ws s.heap [] → W p l e (rmD d) s m args below meth c s.heap [] 0 0 Q (F0 m 0 ls [])) : WrE l D tys y cc nL none d z av ws ws' none := by
  refine WrE.of hy hn ?_
  intro p e s m args below meth c Q A S hr hlocks hK hA hX hQ ls hl hW
  refine body p e s m args below meth c Q A S hK hA hX (fun pc ls H locs hd h => ?_) ls hl hW
  rw [hQ]
  exact W.vret S.1 S.2.1 hr (fun t ht hW => ⟨⟨rfl, by rw [ht]; exact h.1, h.2.1⟩, h.2.2.F ht⟩) h.2.2.2.2 hd hlocks
end RDE
section CLE
variable {p : Program} {l : Launch} {e : Env} {R : Room} {s : State} {m : MethodId} {args : Array Value} {below : List Frame} {meth : Method} {c : Code} {H : Heap} {locs : List Loc} {cells slots : Nat} {Q : State → Prop} {pc : Nat} {ls : Array Slot} {st rest : List Value} {cc : ByteArray} {nL index n : Nat} {own : String}
variable {D : va_G} {tys : gT} {y : MethodName} {cc' : ByteArray} {nL' d' : Nat} {ret' : Option FieldType} {b : Nat} {As : List Value} {ws wc wc' ws2 : va_W} {v : Option Value} {A : Nat → Prop} {H0 : Heap} {z : Nat → Nat}
theorem RdE.blind {av : List Value} : FrameBlind (va_Pc av (fun U => va_P D gCl wc U.heap ∧ va_K D gCl tys U ∧ Ex z (fun _ => False) U U.heap)) := fun a U g mk q => by
  obtain ⟨q0, qP, qK, qX⟩ := q
  exact ⟨q0, qP, va_K.moved (u := U) (U := U.calling g mk a) (Vm.Alike.refl U.vm) qK, Ex.same (s := U) (U := U.calling g mk a) rfl qX⟩
theorem WrE.blind {av : List Value} {sz : Nat} : FrameBlind (va_Pc av (fun U => U.heap.size = sz ∧ va_P D gCl wc U.heap ∧ va_K D gCl tys U ∧ va_D (fun _ => True) wc ∧ Ex z (va_A wc sz) U U.heap)) := fun a U g mk q => by
  obtain ⟨q0, q1, qP, qK, qD, qX⟩ := q
  exact ⟨q0, q1, qP, va_K.moved (u := U) (U := U.calling g mk a) (Vm.Alike.refl U.vm) qK, qD, Ex.same (s := U) (U := U.calling g mk a) rfl qX⟩
theorem RdE.cVr (hM : RdE l D tys y cc' nL' ret' d' z (.ref b :: As) wc v) (S : CallFix p m c cc nL s args lw_w own) (hK : va_K D gCl tys s) (hP : va_P D gCl wc H) (hX : Ex z (fun _ => False) s H) (hrecv : ∃ cell : Cell, H[b]? = some cell ∧ cell.vm.isStatics = false ∧ s.vm.findClass y.cls = some cell.cls)
    (k : KV own index y cc' nL' ret' n) (hn : As.length = n) (hs : ls.size = nL) (rest : List Value) (hst : st = As.reverse ++ .ref b :: rest) (hW : (rest.map fun v => v.category).sum ≤ 8) (hR : d' + 1 ≤ R.frames ∧ 8 + (nL' + 11) + 64 * d' ≤ R.locals) (hcs : cells ≤ R.cells ∧ slots ≤ R.slots) (hd : decode cc pc = .ok (.invokevirtual index, 3))
    (kk : W p l e R s m args below meth c H locs cells slots Q (F0 m (pc + 3) ls (v.toList ++ rest))) : W p l e R s m args below meth c H locs cells slots Q (F0 m pc ls st) := by
  have hr := W.runV (n := n) (rest := rest) (H := H) (locs := locs) (cells := cells) (slots := slots) (g := F0 m pc ls st) (below := below) (meth := meth) (e := e) S hM (KV.cw (rm := rmD d') k S.2.2.2.2 hR) ⟨RdE.blind, hrecv, fun U hU hW => ⟨rfl, by rw [hU]; exact hP, va_K.moved hW.alike hK, by rw [hU]; exact hX.warm hW⟩⟩ rfl hn hs hst (lv_room hW) hd hcs
  exact Rd.go hr kk
theorem RdE.cV (hM : RdE l D tys y cc' nL' ret' d' z (.ref b :: As) wc v) (S : CallFix p m c cc nL s args lw_w own) (hK : va_K D gCl tys s) (hP : va_P D gCl wc H) (hX : Ex z (fun _ => False) s H) (q0 ci : Nat) {fs : List Value} {T : u_T} {N : Nat} (he : wc[q0]? = some (b, .inr (ci, fs))) (hc : gCl[ci]? = some (y.cls, T, N))
    (k : KV own index y cc' nL' ret' n) (hn : As.length = n) (hs : ls.size = nL) (rest : List Value) (hst : st = As.reverse ++ .ref b :: rest) (hW : (rest.map fun v => v.category).sum ≤ 8) (hR : d' + 1 ≤ R.frames ∧ 8 + (nL' + 11) + 64 * d' ≤ R.locals) (hcs : cells ≤ R.cells ∧ slots ≤ R.slots) (hd : decode cc pc = .ok (.invokevirtual index, 3))
    (kk : W p l e R s m args below meth c H locs cells slots Q (F0 m (pc + 3) ls (v.toList ++ rest))) : W p l e R s m args below meth c H locs cells slots Q (F0 m pc ls st) :=
  RdE.cVr hM S hK hP hX (va_recv hK hP hc he) k hn hs rest hst hW hR hcs hd kk
theorem RdE.cS (hM : RdE l D tys y cc' nL' ret' d' z As wc v) (S : CallFix p m c cc nL s args lw_w own) (hK : va_K D gCl tys s) (hP : va_P D gCl wc H) (hX : Ex z (fun _ => False) s H)
    (k : KS own index y cc' nL' ret' n) (hn : As.length = n) (hs : ls.size = nL) (rest : List Value) (hst : st = As.reverse ++ rest) (hW : (rest.map fun v => v.category).sum ≤ 8) (hR : d' + 1 ≤ R.frames ∧ 8 + (nL' + 11) + 64 * d' ≤ R.locals) (hcs : cells ≤ R.cells ∧ slots ≤ R.slots) (hd : decode cc pc = .ok (.invokestatic index, 3))
    (kk : W p l e R s m args below meth c H locs cells slots Q (F0 m (pc + 3) ls (v.toList ++ rest))) : W p l e R s m args below meth c H locs cells slots Q (F0 m pc ls st) := by
  have hr := W.runS (n := n) (rest := rest) (H := H) (locs := locs) (cells := cells) (slots := slots) (g := F0 m pc ls st) (below := below) (meth := meth) (e := e) S hM (KS.cw (rm := rmD d') k S.2.2.2.2 hR) ⟨RdE.blind, fun U hU hW => ⟨rfl, by rw [hU]; exact hP, va_K.moved hW.alike hK, by rw [hU]; exact hX.warm hW⟩⟩ rfl hn hs hst (lv_room hW) hd hcs
  exact Rd.go hr kk
theorem WrE.runV (hM : WrE l D tys y cc' nL' ret' d' z (.ref b :: As) wc wc' v) (S : CallFix p m c cc nL s args lw_w own) (hK : va_K D gCl tys s) (hP : va_P D gCl wc H) (hD : va_D A wc) (hX : Ex z A s s.heap) (hS : va_S A s.heap H locs) (hA : ∀ q : Nat, s.heap.size ≤ q → A q) (q0 ci : Nat) {fs : List Value} {T : u_T} {N : Nat} (he : wc[q0]? = some (b, .inr (ci, fs))) (hc : gCl[ci]? = some (y.cls, T, N))
    (k : KV own index y cc' nL' ret' n) (hn : As.length = n) (hs : ls.size = nL) (rest : List Value) (hst : st = As.reverse ++ .ref b :: rest) (hW : (rest.map fun v => v.category).sum ≤ 8) (hR : d' + 1 ≤ R.frames ∧ 8 + (nL' + 11) + 64 * d' ≤ R.locals) (hcs : cells ≤ R.cells ∧ slots ≤ R.slots) (hd : decode cc pc = .ok (.invokevirtual index, 3)) :
    CallRun p l e R s m args below meth c H locs cells slots 0 0 (F0 m pc ls st) rest (fun st o t => (o = .returned v ∧ va_P D gCl wc' t.heap ∧ va_D (va_A wc H.size) wc') ∧ va_F (va_A wc H.size) st t) (va_A wc H.size) := by
  have hfr : ∀ q, va_A wc H.size q → A q := fun q hq => by
    rcases hq with ⟨k, e2, hq⟩ | hq
    · exact hD.2 k _ hq
    · exact hA q (Nat.le_trans hS.1 hq)
  exact W.runV (n := n) (rest := rest) (H := H) (locs := locs) (cells := cells) (slots := slots) (g := F0 m pc ls st) (below := below) (meth := meth) (e := e) S (hM H.size) (KV.cw (rm := rmD d') k S.2.2.2.2 hR) ⟨WrE.blind, va_recv hK hP hc he, fun U hU hW => ⟨rfl, by rw [hU], by rw [hU]; exact hP, va_K.moved hW.alike hK, hD.weaken (fun _ _ _ _ => trivial), by rw [hU]; exact (hX.wr hS hfr).warm hW⟩⟩ rfl hn hs hst (lv_room hW) hd hcs
end CLE
/-! the JDK's own members over the texts -/
def sch (i k : Nat) : Int32 := ((((sByt.getD i []).getD k 0) &&& 255).toUInt32 % 65536).toInt32
theorem sLen_ok : ∀ i, i < 12 → nI (sLen.getD i 0) >>> ((0 : Int32) &&& 31) = nI (sLen.getD i 0) := by decide
section JDKS
variable {l : Launch} {D : va_G} {tys : gT} {z : Nat → Nat}
set_option maxHeartbeats 4000000 in
theorem c_coder {i : Nat} (hi : i < 12) : RdE l D tys yJ0_coder_7d493 cJ0_coder_7d493 1 (some .byte) 0 z [.ref (adK z i)] [] (some (.int 0)) := by
  refine RdE.ofT (by decide) (Nat.le_of_ble_eq_true rfl) rfl ?_
  intro p e s m args below meth c Q S hK hP hX hret ls hl
  have hl : lv_has ls 1 [(0, .ref (adK z i))] := hl
  refine va_gets S.1 S.2.1 hX.1 va_S.rf S.2.2.2.1 (S.2.2.2.2 _ q_414) (fun _ h => h) dJ0_coder_7d493_0 ?_
  refine lv_if_eq (tgt := 13) S.1 S.2.1 dJ0_coder_7d493_3 (by decide) (fun c_ => absurd c_ (by decide)) (fun c_ => ?_)
  refine lv_aload_n S.1 S.2.1 dJ0_coder_7d493_6 rfl (lv_at hl 0 rfl) ?_
  refine vk_getf S.1 S.2.1 (hX.2.2.1.1 i hi).2.1 va_S.rf S.2.2.2.1 (S.2.2.2.2 _ q_1728) (fun _ h => h) dJ0_coder_7d493_7 ?_
  refine lv_goto (tgt := 14) S.1 S.2.1 dJ0_coder_7d493_10 (by decide) ?_
  exact hret _ _ dJ0_coder_7d493_14
set_option maxHeartbeats 4000000 in
theorem c_isLatin1 {i : Nat} (hi : i < 12) : RdE l D tys yJ0_isLatin1_aae02 cJ0_isLatin1_aae02 1 (some .boolean) 0 z [.ref (adK z i)] [] (some (.int 1)) := by
  refine RdE.ofT (by decide) (Nat.le_of_ble_eq_true rfl) rfl ?_
  intro p e s m args below meth c Q S hK hP hX hret ls hl
  have hl : lv_has ls 1 [(0, .ref (adK z i))] := hl
  refine va_gets S.1 S.2.1 hX.1 va_S.rf S.2.2.2.1 (S.2.2.2.2 _ q_414) (fun _ h => h) dJ0_isLatin1_aae02_0 ?_
  refine lv_if_eq (tgt := 17) S.1 S.2.1 dJ0_isLatin1_aae02_3 (by decide) (fun c_ => absurd c_ (by decide)) (fun c_ => ?_)
  refine lv_aload_n S.1 S.2.1 dJ0_isLatin1_aae02_6 rfl (lv_at hl 0 rfl) ?_
  refine vk_getf S.1 S.2.1 (hX.2.2.1.1 i hi).2.1 va_S.rf S.2.2.2.1 (S.2.2.2.2 _ q_1728) (fun _ h => h) dJ0_isLatin1_aae02_7 ?_
  refine lv_if_ne (tgt := 17) S.1 S.2.1 dJ0_isLatin1_aae02_10 (by decide) (fun c_ => absurd rfl c_) (fun c_ => ?_)
  refine lv_iconst (v := 1) S.1 S.2.1 dJ0_isLatin1_aae02_13 ic_1 ?_
  refine lv_goto (tgt := 18) S.1 S.2.1 dJ0_isLatin1_aae02_14 (by decide) ?_
  exact hret _ _ dJ0_isLatin1_aae02_18
set_option maxHeartbeats 4000000 in
theorem c_slength {i : Nat} (hi : i < 12) : RdE l D tys yJ0_length_8abf5 cJ0_length_8abf5 1 (some .int) 1 z [.ref (adK z i)] [] (some (.int (nI (sLen.getD i 0)))) := by
  refine RdE.ofI (by decide) (Nat.le_of_ble_eq_true rfl) ?_
  intro p e s m args below meth c Q S hK hP hX hret ls hl
  have hl : lv_has ls 1 [(0, .ref (adK z i))] := hl
  refine lv_aload_n S.1 S.2.1 dJ0_length_8abf5_0 rfl (lv_at hl 0 rfl) ?_
  refine vk_getf S.1 S.2.1 (hX.2.2.1.1 i hi).2.2.1 va_S.rf S.2.2.2.1 (S.2.2.2.2 _ q_1727) (fun _ h => h) dJ0_length_8abf5_1 ?_
  refine va_tlen S.1 S.2.1 (hX.2.2.1.1 i hi).2.2.2 va_S.rf (v := nI (sLen.getD i 0)) rfl dJ0_length_8abf5_4 ?_
  refine lv_aload_n S.1 S.2.1 dJ0_length_8abf5_5 rfl (lv_at hl 0 rfl) ?_
  refine RdE.cVr (c_coder hi) S hK va_P.nil hX (vk_recv hX.2.2.1 hi va_S.rf) kVJ0_335 rfl hl.1 [.int (nI (sLen.getD i 0))] rfl (Nat.le_of_ble_eq_true rfl) ⟨(Nat.le_of_ble_eq_true rfl), (Nat.le_of_ble_eq_true rfl)⟩ ⟨(Nat.zero_le _), (Nat.zero_le _)⟩ dJ0_length_8abf5_6 ?_
  refine lv_ishr S.1 S.2.1 dJ0_length_8abf5_9 ?_
  rw [sLen_ok i hi]
  exact hret _ _ dJ0_length_8abf5_10
set_option maxHeartbeats 4000000 in
theorem c_pcheck {k n : Int32} {v : Value} (hv : v = .null ∨ ∃ t, v = .ref t) (h0 : ¬ k < 0) (h1 : k < n) : RdE l D tys yJ3_checkIndex_8e157 cJ3_checkIndex_8e157 3 (some .int) 0 z [.int k, .int n, v] [] (some (.int k)) := by
  refine RdE.ofI (by decide) (by rcases hv with h | ⟨t, h⟩ <;> subst h <;> exact Nat.le_of_ble_eq_true rfl) ?_
  intro p e s m args below meth c Q S hK hP hX hret ls hl
  have hl : lv_has ls 3 [(0, .int k), (1, .int n)] := by
    rcases hv with h | ⟨t, h⟩ <;> subst h <;> exact lv_sub hl [0, 1] rfl
  refine lv_iload_n S.1 S.2.1 dJ3_checkIndex_8e157_0 rfl (lv_at hl 0 rfl) ?_
  refine lv_if_lt (tgt := 9) S.1 S.2.1 dJ3_checkIndex_8e157_1 (by decide) (fun c_ => absurd c_ h0) (fun c_ => ?_)
  refine lv_iload_n S.1 S.2.1 dJ3_checkIndex_8e157_4 rfl (lv_at hl 0 rfl) ?_
  refine lv_iload_n S.1 S.2.1 dJ3_checkIndex_8e157_5 rfl (lv_at hl 1 rfl) ?_
  refine lv_icmp_lt (tgt := 16) S.1 S.2.1 dJ3_checkIndex_8e157_6 (by decide) (fun c_ => ?_) (fun c_ => absurd h1 c_)
  refine lv_iload_n S.1 S.2.1 dJ3_checkIndex_8e157_16 rfl (lv_at hl 0 rfl) ?_
  exact hret _ _ dJ3_checkIndex_8e157_17
set_option maxHeartbeats 4000000 in
theorem c_scheck {k n : Int32} (h0 : ¬ k < 0) (h1 : k < n) : RdE l D tys yJ0_checkIndex_df160 cJ0_checkIndex_df160 2 none 1 z [.int k, .int n] [] none := by
  refine RdE.ofV (by decide) (Nat.le_of_ble_eq_true rfl) ?_
  intro p e s m args below meth c Q S hK hP hX hret ls hl
  have hl : lv_has ls 2 [(0, .int k), (1, .int n)] := hl
  refine lv_iload_n S.1 S.2.1 dJ0_checkIndex_df160_0 rfl (lv_at hl 0 rfl) ?_
  refine lv_iload_n S.1 S.2.1 dJ0_checkIndex_df160_1 rfl (lv_at hl 1 rfl) ?_
  rcases hX.2.1 with hZ | ⟨t, hZ⟩
  · refine va_gets S.1 S.2.1 hZ va_S.rf S.2.2.2.1 (S.2.2.2.2 _ q_430) (fun _ h => h) dJ0_checkIndex_df160_2 ?_
    refine RdE.cS (c_pcheck (v := .null) (Or.inl rfl) h0 h1) S hK va_P.nil hX kSJ0_1059 rfl hl.1 [] rfl (Nat.le_of_ble_eq_true rfl) ⟨(Nat.le_of_ble_eq_true rfl), (Nat.le_of_ble_eq_true rfl)⟩ ⟨(Nat.zero_le _), (Nat.zero_le _)⟩ dJ0_checkIndex_df160_5 ?_
    refine lv_pop S.1 S.2.1 dJ0_checkIndex_df160_8 rfl ?_
    exact hret _ _ dJ0_checkIndex_df160_9
  · refine va_gets S.1 S.2.1 hZ va_S.rf S.2.2.2.1 (S.2.2.2.2 _ q_430) (fun _ h => h) dJ0_checkIndex_df160_2 ?_
    refine RdE.cS (c_pcheck (v := .ref t) (Or.inr ⟨t, rfl⟩) h0 h1) S hK va_P.nil hX kSJ0_1059 rfl hl.1 [] rfl (Nat.le_of_ble_eq_true rfl) ⟨(Nat.le_of_ble_eq_true rfl), (Nat.le_of_ble_eq_true rfl)⟩ ⟨(Nat.zero_le _), (Nat.zero_le _)⟩ dJ0_checkIndex_df160_5 ?_
    refine lv_pop S.1 S.2.1 dJ0_checkIndex_df160_8 rfl ?_
    exact hret _ _ dJ0_checkIndex_df160_9
theorem sLen_b : ∀ i, i < 12 → sLen.getD i 0 < 2 ^ 31 := by decide
set_option maxHeartbeats 4000000 in
theorem c_lcharAt {i k : Nat} (hi : i < 12) (hk : k < sLen.getD i 0) : RdE l D tys yJ1_charAt_3b067 cJ1_charAt_3b067 2 (some .char) 2 z [.ref (adV z i), .int (nI k)] [] (some (.int (sch i k))) := by
  have hb := sLen_b i hi
  refine RdE.ofT (by decide) (Nat.le_of_ble_eq_true rfl) (pk_nc _) ?_
  intro p e s m args below meth c Q S hK hP hX hret ls hl
  have hl : lv_has ls 2 [(0, .ref (adV z i)), (1, .int (nI k))] := hl
  refine lv_iload_n S.1 S.2.1 dJ1_charAt_3b067_0 rfl (lv_at hl 1 rfl) ?_
  refine lv_aload_n S.1 S.2.1 dJ1_charAt_3b067_1 rfl (lv_at hl 0 rfl) ?_
  refine va_tlen S.1 S.2.1 (hX.2.2.1.1 i hi).2.2.2 va_S.rf (v := nI (sLen.getD i 0)) rfl dJ1_charAt_3b067_2 ?_
  refine RdE.cS (c_scheck (k := nI k) (n := nI (sLen.getD i 0)) (nI_pos (by omega)) (nI_lt hk hb)) S hK va_P.nil hX kSJ1_9 rfl hl.1 [] rfl (Nat.le_of_ble_eq_true rfl) ⟨(Nat.le_of_ble_eq_true rfl), (Nat.le_of_ble_eq_true rfl)⟩ ⟨(Nat.zero_le _), (Nat.zero_le _)⟩ dJ1_charAt_3b067_3 ?_
  refine lv_aload_n S.1 S.2.1 dJ1_charAt_3b067_6 rfl (lv_at hl 0 rfl) ?_
  refine lv_iload_n S.1 S.2.1 dJ1_charAt_3b067_7 rfl (lv_at hl 1 rfl) ?_
  refine va_tb S.1 S.2.1 (hX.2.2.1.1 i hi).2.2.2 va_S.rf (vp_in_nI hk hb) (v := .int ((sByt.getD i []).getD k 0)) (by rw [nI_clamp (by omega)]) dJ1_charAt_3b067_8 ?_
  refine lv_sipush (v := 255) S.1 S.2.1 dJ1_charAt_3b067_9 sp_255 ?_
  refine lv_iand S.1 S.2.1 dJ1_charAt_3b067_12 ?_
  refine lv_i2c (v := sch i k) S.1 S.2.1 dJ1_charAt_3b067_13 rfl ?_
  exact hret _ _ dJ1_charAt_3b067_14
set_option maxHeartbeats 4000000 in
theorem c_charAt {i k : Nat} (hi : i < 12) (hk : k < sLen.getD i 0) : RdE l D tys yJ0_charAt_5068e cJ0_charAt_5068e 2 (some .char) 3 z [.ref (adK z i), .int (nI k)] [] (some (.int (sch i k))) := by
  refine RdE.ofT (by decide) (Nat.le_of_ble_eq_true rfl) (pk_nc _) ?_
  intro p e s m args below meth c Q S hK hP hX hret ls hl
  have hl : lv_has ls 2 [(0, .ref (adK z i)), (1, .int (nI k))] := hl
  refine lv_aload_n S.1 S.2.1 dJ0_charAt_5068e_0 rfl (lv_at hl 0 rfl) ?_
  refine RdE.cVr (c_isLatin1 hi) S hK va_P.nil hX (vk_recv hX.2.2.1 hi va_S.rf) kVJ0_492 rfl hl.1 [] rfl (Nat.le_of_ble_eq_true rfl) ⟨(Nat.le_of_ble_eq_true rfl), (Nat.le_of_ble_eq_true rfl)⟩ ⟨(Nat.zero_le _), (Nat.zero_le _)⟩ dJ0_charAt_5068e_1 ?_
  refine lv_if_eq (tgt := 16) S.1 S.2.1 dJ0_charAt_5068e_4 (by decide) (fun c_ => absurd c_ (by decide)) (fun c_ => ?_)
  refine lv_aload_n S.1 S.2.1 dJ0_charAt_5068e_7 rfl (lv_at hl 0 rfl) ?_
  refine vk_getf S.1 S.2.1 (hX.2.2.1.1 i hi).2.2.1 va_S.rf S.2.2.2.1 (S.2.2.2.2 _ q_1727) (fun _ h => h) dJ0_charAt_5068e_8 ?_
  refine lv_iload_n S.1 S.2.1 dJ0_charAt_5068e_11 rfl (lv_at hl 1 rfl) ?_
  refine RdE.cS (c_lcharAt hi hk) S hK va_P.nil hX kSJ0_495 rfl hl.1 [] rfl (Nat.le_of_ble_eq_true rfl) ⟨(Nat.le_of_ble_eq_true rfl), (Nat.le_of_ble_eq_true rfl)⟩ ⟨(Nat.zero_le _), (Nat.zero_le _)⟩ dJ0_charAt_5068e_12 ?_
  exact hret _ _ dJ0_charAt_5068e_15
end JDKS
