/-! ===== constructors ===== -/
def rmC (d mc ms : Nat) : Room := { frames := d, cells := mc, slots := ms, locals := 64 * d }
def Nz (U : State) : Prop := (∀ k : Nat, va_Nw (nwW k) U) ∧ va_AO "KeptCompany$Town" U ∧ va_AO "KeptCompany$Week" U ∧ va_AO "KeptCompany$Log" U ∧ va_AO "KeptCompany$Told" U
theorem Nz.warm {s U : State} (hW : s.WarmedH U.vm) (h : Nz s) : Nz U := ⟨fun k => nwW_warm k hW (h.1 k), h.2.1.moved hW.alike, h.2.2.1.moved hW.alike, h.2.2.2.1.moved hW.alike, h.2.2.2.2.moved hW.alike⟩
theorem Nz.same {s U : State} (hv : U.vm = s.vm) (h : Nz s) : Nz U := by
  have hal : s.vm.Alike U.vm := by rw [hv]; exact Vm.Alike.refl _
  exact ⟨fun k => va_Nw.same (nwW_tab k) hv.symm (h.1 k), h.2.1.moved hal, h.2.2.1.moved hal, h.2.2.2.1.moved hal, h.2.2.2.2.moved hal⟩
/-- a method that makes cells: its world behind it is at addresses q -/
def Mk (l : Launch) (D : va_G) (tys : gT) (y : MethodName) (cc : ByteArray) (nL : Nat) (d : Nat) (av : List Value) (w0 : va_W) (W' : (Nat → Nat) → va_W) (mc ms : Nat) : Prop :=
  ∀ sz : Nat, Met l y (tw y cc nL none) (rmC d mc ms) (va_Pc av (fun U => U.heap.size = sz ∧ va_P D gCl w0 U.heap ∧ va_K D gCl tys U ∧ va_D (fun _ => True) w0 ∧ Nz U)) (fun _ st o t => (o = .returned none ∧ ∃ q : Nat → Nat, va_P D gCl (W' q) t.heap ∧ va_D (va_A w0 sz) (W' q)) ∧ va_F (va_A w0 sz) st t) mc ms (va_A w0 sz)
theorem St.perm {A : Nat → Prop} {H0 H : Heap} {D : va_G} {ws ws' : va_W} {locs : List Loc} (h : St A H0 D ws H locs) (is : List Nat) (hn : va_nd is = true) (hs : is.map (fun i => ws[i]?) = ws'.map some) : St A H0 D ws' H locs := by
  refine ⟨h.1.sub is ?_, h.2.1.sub is hn hs, h.2.2⟩
  have : ∀ (is : List Nat) (ws' : va_W), is.map (fun i => ws[i]?) = ws'.map some → is.filterMap (fun i => ws[i]?) = ws' := by
    intro is
    induction is with
    | nil => intro w hw; cases w with
      | nil => rfl
      | cons a b => cases hw
    | cons i is ih =>
      intro w hw
      cases w with
      | nil => cases hw
      | cons a b =>
        simp only [List.map_cons, List.cons.injEq] at hw
        rw [List.filterMap_cons, hw.1]
        simp only [List.cons.injEq, true_and]
        exact ih b hw.2
  exact this is ws' hs
section MK
variable {l : Launch} {D : va_G} {tys : gT} {y : MethodName} {cc : ByteArray} {nL d mc ms : Nat} {av : List Value} {w0 : va_W} {W' : (Nat → Nat) → va_W}
theorem Mk.of (hy : plainName y.cls = true) (hy1 : y.name = "<init>") (hn : (lg_sl av).length ≤ nL)
    (body : ∀ (p : Program) (e : Env) (s : State) (m : MethodId) (args : Array Value) (below : List Frame) (meth : Method) (c : Code) (Q : State → Prop) (A : Nat → Prop), CallFix p m c cc nL s args lw_w y.cls → meth.name = "<init>" → va_K D gCl tys s → (∀ q : Nat, s.heap.size ≤ q → A q) → Nz s →
      (∀ (pc : Nat) (ls : Array Slot) (H : Heap) (locs : List Loc) (q : Nat → Nat) (cells slots : Nat), cells ≤ mc → slots ≤ ms → decode cc pc = .ok (.return_, 1) → St A s.heap D (W' q) H locs → W p l e (rmC d mc ms) s m args below meth c H locs cells slots Q (F0 m pc ls [])) → ∀ ls : Array Slot, lv_has ls nL (lv_args 0 av) → St A s.heap D w0 s.heap [] → W p l e (rmC d mc ms) s m args below meth c s.heap [] 0 0 Q (F0 m 0 ls [])) : Mk l D tys y cc nL d av w0 W' mc ms := by
  intro sz
  refine Met.ofW (cc := cc) (maxL := nL) (ret := none) hy rfl ?_
  intro p e s m args below meth c s₁ B hml hv
  obtain ⟨rfl, hsz, hP, hK, hD0, hN⟩ := hv
  subst hsz
  have hts := atoms_spec (ws := tw y cc nL none) B.pre
  have hown : s.vm.findClass y.cls = some m.cls := findClass_of_methodNamed B.named
  have hl := lv_entry av (n := nL) hn
  have hnm : meth.name = "<init>" := ((name_of_methodNamed B.named B.method).1).trans hy1
  have hlocks := B.notSynchronized
  have hr := B.returns
  rw [lg_entry_eq]
  have S : CallFix p m c cc nL s av.toArray lw_w y.cls := ⟨B.exec, B.bytes, hml, hown, fun w h => hts w (List.mem_cons_of_mem _ h)⟩
  refine body p e s m _ below meth c _ (va_A w0 s.heap.size) S hnm hK (fun q h => Or.inr h) hN (fun pc ls H locs q cells slots h1 h2 hd h => ?_) _ hl ⟨hP, hD0.self (sz := s.heap.size), va_S.rf⟩
  refine W.widen h1 h2 ?_
  exact W.vret S.1 S.2.1 hr (fun t ht hW => ⟨⟨rfl, q, by rw [ht]; exact h.1, h.2.1⟩, h.2.2.F ht⟩) h.2.2.2.2 hd hlocks
end MK
def KI (own : String) (index : Nat) (y : MethodName) (cc : ByteArray) (nL : Nat) (n : Nat) : Prop :=
  Cond.methodLink own index y ∈ lw_w ∧ Cond.instanceMethod y ∈ lw_w ∧ Cond.initialized y.cls ∈ lw_w ∧ Cond.code y cc nL none ∈ lw_w ∧ y.name = "<init>" ∧
  (y.cls ≠ "java/lang/invoke/MethodHandle" ∧ y.cls ≠ "java/lang/invoke/VarHandle" ∧ (parseMethodDescriptor y.desc).map (fun d => d.parameters.length) = some n)
def KN (y : MethodName) (cc : ByteArray) (nL : Nat) (n : Nat) : Prop :=
  Cond.instanceMethod y ∈ lw_w ∧ Cond.initialized y.cls ∈ lw_w ∧ Cond.code y cc nL none ∈ lw_w ∧ y.name = "<init>" ∧
  (y.cls ≠ "java/lang/invoke/MethodHandle" ∧ y.cls ≠ "java/lang/invoke/VarHandle" ∧ (parseMethodDescriptor y.desc).map (fun d => d.parameters.length) = some n)
section CMK
variable {p : Program} {l : Launch} {e : Env} {R : Room} {s : State} {m : MethodId} {args : Array Value} {below : List Frame} {meth : Method} {c : Code} {H : Heap} {locs : List Loc} {cells slots : Nat} {Q : State → Prop} {pc : Nat} {ls : Array Slot} {st rest : List Value} {cc : ByteArray} {nL index n : Nat} {own : String}
variable {D : va_G} {tys : gT} {y : MethodName} {cc' : ByteArray} {nL' d' mc ms : Nat} {b : Nat} {As : List Value} {ws w0 wr ws2 : va_W} {W' : (Nat → Nat) → va_W} {A : Nat → Prop} {H0 : Heap}
theorem Mk.blind {av : List Value} {sz : Nat} : FrameBlind (va_Pc av (fun U => U.heap.size = sz ∧ va_P D gCl w0 U.heap ∧ va_K D gCl tys U ∧ va_D (fun _ => True) w0 ∧ Nz U)) := fun a U g mk q => by
  obtain ⟨q0, q1, qP, qK, qD, qN⟩ := q
  exact ⟨q0, q1, qP, va_K.moved (u := U) (U := U.calling g mk a) (Vm.Alike.refl U.vm) qK, qD, Nz.same (s := U) (U := U.calling g mk a) rfl qN⟩
theorem Mk.pre (hW : St A H0 D ws H locs) (hK : va_K D gCl tys s) (hN : Nz s) (isC : List Nat) (hn : va_nd isC = true) (hC : isC.map (fun i => ws[i]?) = w0.map some) : PreS s H (va_Pc (.ref b :: As) (fun U => U.heap.size = H.size ∧ va_P D gCl w0 U.heap ∧ va_K D gCl tys U ∧ va_D (fun _ => True) w0 ∧ Nz U)) (.ref b :: As) :=
  ⟨Mk.blind, fun U hU hw => ⟨rfl, by rw [hU], by rw [hU]; exact (hW.perm isC hn hC).1, va_K.moved hw.alike hK, (hW.perm isC hn hC).2.1.weaken (fun _ _ _ _ => trivial), hN.warm hw⟩⟩
theorem Mk.go (hr : CallRun p l e R s m args below meth c H locs cells slots mc ms (F0 m pc ls st) rest (fun st o t => (o = .returned none ∧ ∃ q : Nat → Nat, va_P D gCl (W' q) t.heap ∧ va_D (va_A w0 H.size) (W' q)) ∧ va_F (va_A w0 H.size) st t) (va_A w0 H.size))
    (h : St A H0 D ws H locs) (hA : ∀ q : Nat, H0.size ≤ q → A q) (isC : List Nat) (hC : isC.map (fun i => ws[i]?) = w0.map some) (isR : List Nat) (hR : isR.map (fun i => ws[i]?) = wr.map some) (hn : va_nd isR = true) (hdis : ∀ i ∈ isR, i ∉ isC)
    (kk : ∀ (q : Nat → Nat) (H1 : Heap) (locs1 : List Loc), St A H0 D (wr ++ W' q) H1 locs1 → W p l e R s m args below meth c H1 locs1 (cells + mc) (slots + ms) Q (F0 m (pc + 3) ls rest)) : W p l e R s m args below meth c H locs cells slots Q (F0 m pc ls st) := by
  intro T hT X
  obtain ⟨v', st₀, t, T', L, h0, X', hL, e1, ⟨⟨hv, q, hP1, hD1⟩, hF⟩, st⟩ := hr T hT X
  cases hv
  obtain ⟨hP, hD, hS⟩ := h
  subst h0
  have hfr := va_free hD hS hA isC hC
  have hj := va_join hP hD isC isR hC hR hn hdis hF.2 hfr hP1 hD1
  obtain ⟨t2, a1, b1⟩ := kk q T'.heap (locs ++ L) ⟨by rw [e1]; exact hj.1, hj.2, by rw [e1]; exact Nat.le_trans hS.1 hF.1, fun q h1 h2 => by
      rw [e1, hF.2 q (Nat.lt_of_lt_of_le h1 hS.1) (fun z => h2 (hfr q z))]
      exact hS.2.1 q h1 h2, fun q hq => by
      rcases List.mem_append.mp hq with h | h
      · exact hS.2.2 q h
      · exact hfr _ (hL q h)⟩ T' rfl X'
  exact ⟨t2, st t2 a1, b1⟩
theorem Mk.runI (hM : Mk l D tys y cc' nL' d' (.ref b :: As) w0 W' mc ms) (S : CallFix p m c cc nL s args lw_w own) (hK : va_K D gCl tys s) (hW : St A H0 D ws H locs) (hN : Nz s) (isC : List Nat) (hnd : va_nd isC = true) (hC : isC.map (fun i => ws[i]?) = w0.map some)
    (k : KI own index y cc' nL' n) (hn : As.length = n) (hs : ls.size = nL) (rest : List Value) (hst : st = As.reverse ++ .ref b :: rest) (hw : (rest.map fun v => v.category).sum ≤ 8) (hR : d' + 1 ≤ R.frames ∧ 8 + (nL' + 11) + 64 * d' ≤ R.locals) (hcs : cells + mc ≤ R.cells ∧ slots + ms ≤ R.slots) (hd : decode cc pc = .ok (.invokespecial index, 3)) :
    CallRun p l e R s m args below meth c H locs cells slots mc ms (F0 m pc ls st) rest (fun st o t => (o = .returned none ∧ ∃ q : Nat → Nat, va_P D gCl (W' q) t.heap ∧ va_D (va_A w0 H.size) (W' q)) ∧ va_F (va_A w0 H.size) st t) (va_A w0 H.size) := by
  obtain ⟨h1, h2, h4, h5, hy1, hdd⟩ := k
  exact W.runI (n := n) (rest := rest) (H := H) (locs := locs) (cells := cells) (slots := slots) (g := F0 m pc ls st) (below := below) (meth := meth) (e := e) S (hM H.size) (cwI (rm := rmC d' mc ms) n S.2.2.2.2 (tw_in h5) rfl rfl rfl (S.2.2.2.2 _ h4) (S.2.2.2.2 _ h1) (S.2.2.2.2 _ h2) hy1 hdd hR) (Mk.pre hW hK hN isC hnd hC) rfl hn hs hst (lv_room hw) hd hcs
theorem Mk.runN {host : String} (hM : Mk l D tys y cc' nL' d' (.ref b :: As) w0 W' mc ms) (S : CallFix p m c cc nL s args lw_w own) (hK : va_K D gCl tys s) (hW : St A H0 D ws H locs) (hN : Nz s) (isC : List Nat) (hnd : va_nd isC = true) (hC : isC.map (fun i => ws[i]?) = w0.map some)
    (k : KN y cc' nL' n) (hl : va_Nw (.methodLinkNest own index y host) s) (hn : As.length = n) (hs : ls.size = nL) (rest : List Value) (hst : st = As.reverse ++ .ref b :: rest) (hw : (rest.map fun v => v.category).sum ≤ 8) (hR : d' + 1 ≤ R.frames ∧ 8 + (nL' + 11) + 64 * d' ≤ R.locals) (hcs : cells + mc ≤ R.cells ∧ slots + ms ≤ R.slots) (hd : decode cc pc = .ok (.invokespecial index, 3)) :
    CallRun p l e R s m args below meth c H locs cells slots mc ms (F0 m pc ls st) rest (fun st o t => (o = .returned none ∧ ∃ q : Nat → Nat, va_P D gCl (W' q) t.heap ∧ va_D (va_A w0 H.size) (W' q)) ∧ va_F (va_A w0 H.size) st t) (va_A w0 H.size) := by
  obtain ⟨h2, h4, h5, hy1, hdd⟩ := k
  exact (va_runIN (n := n) (rest := rest) (H := H) (locs := locs) (cells := cells) (slots := slots) (g := F0 m pc ls st) (below := below) (meth := meth) (e := e) S (hM H.size) ⟨va_cnB (rm := rmC d' mc ms) n S.2.2.2.2 (tw_in h5) rfl rfl rfl hl (S.2.2.2.2 _ h4) hdd hR, hy1, S.2.2.2.2 _ h2⟩ (Mk.pre hW hK hN isC hnd hC) rfl hn hs hst (lv_room hw) hd hcs).run
theorem q_oi {idx : Nat} {a : Nat} (S : CallFix p m c cc nL s args lw_w own) (hl : Cond.methodLink own idx Lib.objectInit ∈ lw_w) (hs : ls.size = nL) (hframes : 1 ≤ R.frames) (hlocals : (rest.map fun v => v.category).sum + 12 ≤ R.locals) (hd : decode cc pc = .ok (.invokespecial idx, 3))
    (kk : W p l e R s m args below meth c H locs cells slots Q (F0 m (pc + 3) ls rest)) : W p l e R s m args below meth c H locs cells slots Q (F0 m pc ls (.ref a :: rest)) :=
  W.objInit S.1 S.2.1 S.2.2.2.1 (S.2.2.2.2 _ hl) (S.2.2.2.2 _ q_28) (S.2.2.2.2 _ q_29) (g := F0 m pc ls (.ref a :: rest)) rfl (hs.trans S.2.2.1.symm) rfl hd hframes (by show 2 * 0 + _ + 12 ≤ _; omega) kk
theorem q_new (S : CallFix p m c cc nL s args lw_w own) (hK : va_K D gCl tys s) (hW : St A H0 D ws H locs) (hA : ∀ q, H0.size ≤ q → A q) {C : String} {T : u_T} {N ci : Nat} (hin : ∀ w ∈ u_ws C T N, w ∈ lw_w) (ty : Nat → FieldType) (hty : ∀ k, k < N → parseFieldDescriptor (T k).2.2.1 = some (ty k)) (hc : gCl[ci]? = some (C, T, N)) (hcl : Cond.classLink own index C ∈ lw_w) (hinst : Cond.instantiable C N ∈ lw_w) (hini : Cond.initialized C ∈ lw_w)
    {fs : List Value} (hfs : ∀ j, j < N → defaultValue (ty j) = vp_V fs j) (hcells : cells + 1 ≤ R.cells) (hslots : slots + N ≤ R.slots) (hd : decode cc pc = .ok (.new index, 3))
    (kk : ∀ (q : Nat) (H1 : Heap), St A H0 D (ws ++ [(q, .inr (ci, fs))]) H1 locs → W p l e R s m args below meth c H1 locs (cells + 1) (slots + N) Q (F0 m (pc + 3) ls (.ref q :: rest))) : W p l e R s m args below meth c H locs cells slots Q (F0 m pc ls rest) :=
  va_new (C := C) (T := T) (N := N) S.1 S.2.1 S.2.2.2.2 hin ty hty S.2.2.2.1 (S.2.2.2.2 _ hcl) (S.2.2.2.2 _ hinst) (S.2.2.2.2 _ hini) hK hW.1 hW.2.1 hW.2.2 hA hc hfs hcells hslots hd (fun q H1 a1 a2 a3 => kk q H1 ⟨a1, a2, a3⟩)
theorem q_newa {atype : ArrayType} {ty : FieldType} (S : CallFix p m c cc nL s args lw_w own) (hty : newarray.typeOf atype = ty) (harr : Cond.arrayClass ty ∈ lw_w) (hK : va_K D gCl tys s) (hW : St A H0 D ws H locs) (hA : ∀ q, H0.size ≤ q → A q) (t0 : Nat) {cA0 : ClassId} (ht : tys[t0]? = some (cA0, ty)) (hra : ∀ cA, va_RA s cA ty → s.vm.findClass ("[" ++ ty.toString) = some cA)
    {n : Int32} {N' : Nat} {a0 : vp_A} (ha : ∀ cA : ClassId, vp_cell cA a0 = arrV cA N' (fun _ => defaultValue ty)) (hn : ¬ n < 0) (hN : n.toNatClampNeg = N') (hbytes : N' * componentBytes ty ≤ 536870912) (hcells : cells + 1 ≤ R.cells) (hslots : slots + N' ≤ R.slots) (hd : decode cc pc = .ok (.newarray atype, 2))
    (kk : ∀ (q : Nat) (H1 : Heap), St A H0 D (ws ++ [(q, .inl (cA0, a0))]) H1 locs → W p l e R s m args below meth c H1 locs (cells + 1) (slots + N') Q (F0 m (pc + 2) ls (.ref q :: rest))) : W p l e R s m args below meth c H locs cells slots Q (F0 m pc ls (.int n :: rest)) := by
  refine va_newa (atype := atype) S.1 S.2.1 (by rw [hty]; exact S.2.2.2.2 _ harr) hty hK hW.1 hW.2.1 hW.2.2 hA ha hn hN hbytes hcells hslots hd (fun q cA H1 hK1 a1 a2 a3 => ?_)
  have e1 := hra _ (hK.2 t0 _ ht).2
  have e2 := hra _ (hK1.2 tys.length (cA, ty) (by simp)).2
  have e3 : cA = cA0 := Option.some.inj (e2.symm.trans e1)
  subst e3
  exact kk q H1 ⟨a1, a2, a3⟩
theorem q_newq {C : String} (S : CallFix p m c cc nL s args lw_w own) (hcl : Cond.classLink own index C ∈ lw_w) (hover : va_AO C s) (hK : va_K D gCl tys s) (hW : St A H0 D ws H locs) (hA : ∀ q, H0.size ≤ q → A q) (t0 : Nat) {cA0 : ClassId} (ht : tys[t0]? = some (cA0, .object C))
    {n : Int32} {N' : Nat} (hn : ¬ n < 0) (hN : n.toNatClampNeg = N') (hbytes : N' * 4 ≤ 536870912) (hcells : cells + 1 ≤ R.cells) (hslots : slots + N' ≤ R.slots) (hd : decode cc pc = .ok (.anewarray index, 3))
    (kk : ∀ (q : Nat) (H1 : Heap), St A H0 D (ws ++ [(q, .inl (cA0, N', .inr (.inr (.inr (.inr (fun _ => none))))))]) H1 locs → W p l e R s m args below meth c H1 locs (cells + 1) (slots + N') Q (F0 m (pc + 3) ls (.ref q :: rest))) : W p l e R s m args below meth c H locs cells slots Q (F0 m pc ls (.int n :: rest)) := by
  refine va_newq S.1 S.2.1 S.2.2.2.1 (S.2.2.2.2 _ hcl) hover hK hW.1 hW.2.1 hW.2.2 hA hn hN hbytes hcells hslots hd (fun q cA H1 hK1 a1 a2 a3 => ?_)
  obtain ⟨_, _, _, _, _, e1⟩ := (hK.2 t0 _ ht).2
  obtain ⟨_, _, _, _, _, e2⟩ := (hK1.2 tys.length (cA, .object C) (by simp)).2
  have e3 : cA = cA0 := Option.some.inj (e2.symm.trans e1)
  subst e3
  exact kk q H1 ⟨a1, a2, a3⟩
theorem q_putF (S : CallFix p m c cc nL s args lw_w own) (hK : va_K D gCl tys s) (hW : St A H0 D ws H locs) {C : String} {T : u_T} {N ci a : Nat} (hin : ∀ w ∈ u_ws C T N, w ∈ lw_w) (ty0 : Nat → FieldType) (hty : ∀ k, k < N → parseFieldDescriptor (T k).2.2.1 = some (ty0 k)) (hnm : ∀ a, a < N → ∀ b, b < N → a ≠ b → (T a).2.1 ≠ (T b).2.1) (hc : gCl[ci]? = some (C, T, N)) (k : Nat) (hk : k < N) (hC : (T k).1 = C) (ho : C = own) (hfin : (T k).2.2.2 = true) (hinit : meth.name = "<init>") (hl : Cond.fieldLink own index C (T k).2.1 (T k).2.2.1 ∈ lw_w) (q0 : Nat) {fs : List Value} (he : ws[q0]? = some (a, .inr (ci, fs))) {x : Value} (hn : narrow (ty0 k) x = x) (hfit : fits (ty0 k) x = true) (hlen : k < fs.length) (h2 : ws.set q0 (a, .inr (ci, fs.set k x)) = ws2) (hd : decode cc pc = .ok (.putfield index, 3))
    (kk : ∀ (H1 : Heap) (locs1 : List Loc), St A H0 D ws2 H1 locs1 → W p l e R s m args below meth c H1 locs1 cells slots Q (F0 m (pc + 3) ls rest)) : W p l e R s m args below meth c H locs cells slots Q (F0 m pc ls (x :: .ref a :: rest)) := by
  subst h2
  exact va_putF (C := C) (T := T) (N := N) S.1 S.2.1 S.2.2.2.2 hin ty0 hty hnm S.2.2.2.1 hK hW.1 hW.2.1 hW.2.2 q0 he hc k hk (S.2.2.2.2 _ hl) (fun z h9 => by rw [hC] at h9; exact h9) hfin hinit (hC.trans ho) (hty k hk) hn hfit hlen hd (fun H1 locs1 a1 a2 a3 => kk H1 locs1 ⟨a1, a2, a3⟩)
theorem q_aast (S : CallFix p m c cc nL s args lw_w own) (hK : va_K D gCl tys s) (hW : St A H0 D ws H locs) (q0 t0 qk ci : Nat) {cA : ClassId} {r : vw_C} {n v a : Nat} {vs : List Value} {f : Nat → Option Nat} (ha : ws[q0]? = some (a, .inl (cA, n, .inr (.inr (.inr (.inr f)))))) (ht : tys[t0]? = some (cA, .object r.1)) (hv : ws[qk]? = some (v, .inr (ci, vs))) (hc : gCl[ci]? = some r) {i : Int32} (hin : vp_in i n) (h2 : ws.set q0 (a, .inl (cA, n, .inr (.inr (.inr (.inr (va_up f i.toNatClampNeg (some v))))))) = ws2) (hd : decode cc pc = .ok (.aastore, 1))
    (kk : ∀ (H1 : Heap) (locs1 : List Loc), St A H0 D ws2 H1 locs1 → W p l e R s m args below meth c H1 locs1 cells slots Q (F0 m (pc + 1) ls rest)) : W p l e R s m args below meth c H locs cells slots Q (F0 m pc ls (.ref v :: .int i :: .ref a :: rest)) := by
  subst h2
  exact va_astq S.1 S.2.1 hK hW.1 hW.2.1 hW.2.2 q0 t0 qk ci ha ht hv hc hin hd (fun H1 locs1 a1 a2 a3 => kk H1 locs1 ⟨a1, a2, a3⟩)
end CMK
theorem vpin_2_0 : vp_in (0 : Int32) 2 := by unfold vp_in; decide
theorem vpin_2_1 : vp_in (1 : Int32) 2 := by unfold vp_in; decide
