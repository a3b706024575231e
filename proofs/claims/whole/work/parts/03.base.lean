/-! ===== the pure words: what the methods' functions are made of ===== -/
def bnd {α β : Type} (o : Option α) (f : α → Option β) : Option β := match o with
  | none => none
  | some a => f a
theorem bnd_e {α β : Type} {o : Option α} {f : α → Option β} {r : β} (h : bnd o f = some r) : ∃ x, o = some x ∧ f x = some r := by
  cases o with
  | none => cases h
  | some a => exact ⟨a, rfl, h⟩
theorem bnd_some {α β : Type} (a : α) (f : α → Option β) : bnd (some a) f = f a := rfl
def ltn {α β : Type} (a : α) (f : α → β) : β := f a
theorem ltn_e {α β : Type} {a : α} {f : α → β} {r : β} (h : ltn a f = r) {x : α} (e : x = a) : f x = r := by subst e; exact h
theorem it_p {α : Type} {c : Prop} [Decidable c] {a b r : α} (h : c) (hf : (if c then a else b) = r) : a = r := by rw [if_pos h] at hf; exact hf
theorem it_n {α : Type} {c : Prop} [Decidable c] {a b r : α} (h : ¬ c) (hf : (if c then a else b) = r) : b = r := by rw [if_neg h] at hf; exact hf
theorem it_pn {α : Type} {c : Prop} [Decidable c] {a b r : α} (h : ¬ c) (hf : (if ¬ c then a else b) = r) : a = r := by rw [if_pos h] at hf; exact hf
theorem it_nn {α : Type} {c : Prop} [Decidable c] {a b r : α} (h : c) (hf : (if ¬ c then a else b) = r) : b = r := by rw [if_neg (fun q => q h)] at hf; exact hf
/-- a loop: a step goes on (inl) or ends (inr) -/
def lp {σ ρ : Type} (step : σ → Option (σ ⊕ ρ)) : Nat → σ → Option ρ
  | 0, _ => none
  | n + 1, s => bnd (step s) (fun x => match x with
    | .inl s' => lp step n s'
    | .inr r => some r)
theorem lp_ind {σ ρ : Type} {step : σ → Option (σ ⊕ ρ)} {r : ρ} {P : σ → Prop} (h : ∀ (s : σ) (x : σ ⊕ ρ), step s = some x → (∀ s', x = .inl s' → P s') → (∀ r', x = .inr r' → r' = r) → P s) : ∀ (n : Nat) (s : σ), lp step n s = some r → P s := by
  intro n
  induction n with
  | zero => intro s hs; cases hs
  | succ n ih =>
    intro s hs
    obtain ⟨x, hx, hf⟩ := bnd_e hs
    cases x with
    | inl s' => exact h s _ hx (fun t ht => by cases ht; exact ih _ hf) (fun t ht => by cases ht)
    | inr r' => exact h s _ hx (fun t ht => by cases ht) (fun t ht => by cases ht; cases hf; rfl)
def rdi (n : Nat) (f : Nat → Int32) (i : Int32) : Option Int32 := if i < 0 ∨ n ≤ i.toNatClampNeg then none else some (f i.toNatClampNeg)
theorem rdi_e {n : Nat} {f : Nat → Int32} {i x : Int32} (h : rdi n f i = some x) : vp_in i n ∧ x = f i.toNatClampNeg := by
  unfold rdi at h
  split at h
  · cases h
  · rename_i q
    cases h
    exact ⟨q, rfl⟩
def wri (n : Nat) (f : Nat → Int32) (i x : Int32) : Option (Nat → Int32) := if i < 0 ∨ n ≤ i.toNatClampNeg then none else some (upd f i.toNatClampNeg x)
theorem wri_e {n : Nat} {f g : Nat → Int32} {i x : Int32} (h : wri n f i x = some g) : vp_in i n ∧ g = upd f i.toNatClampNeg x := by
  unfold wri at h
  split at h
  · cases h
  · rename_i q
    cases h
    exact ⟨q, rfl⟩
def rdl (n : Nat) (f : Nat → Int64) (i : Int32) : Option Int64 := if i < 0 ∨ n ≤ i.toNatClampNeg then none else some (f i.toNatClampNeg)
theorem rdl_e {n : Nat} {f : Nat → Int64} {i : Int32} {x : Int64} (h : rdl n f i = some x) : vp_in i n ∧ x = f i.toNatClampNeg := by
  unfold rdl at h
  split at h
  · cases h
  · rename_i q
    cases h
    exact ⟨q, rfl⟩
def wrl (n : Nat) (f : Nat → Int64) (i : Int32) (x : Int64) : Option (Nat → Int64) := if i < 0 ∨ n ≤ i.toNatClampNeg then none else some (vp_updL f i.toNatClampNeg x)
theorem wrl_e {n : Nat} {f g : Nat → Int64} {i : Int32} {x : Int64} (h : wrl n f i x = some g) : vp_in i n ∧ g = vp_updL f i.toNatClampNeg x := by
  unfold wrl at h
  split at h
  · cases h
  · rename_i q
    cases h
    exact ⟨q, rfl⟩
def dvi (x y : Int32) : Option Int32 := if y = 0 then none else some (x / y)
theorem dvi_e {x y z : Int32} (h : dvi x y = some z) : ¬ y = 0 ∧ z = x / y := by
  unfold dvi at h
  split at h
  · cases h
  · rename_i q
    cases h
    exact ⟨q, rfl⟩
def jrm (x y : Int32) : Int32 := x - x / y * y
def rmi (x y : Int32) : Option Int32 := if y = 0 then none else some (jrm x y)
theorem rmi_e {x y z : Int32} (h : rmi x y = some z) : ¬ y = 0 ∧ z = x - x / y * y := by
  unfold rmi at h
  split at h
  · cases h
  · rename_i q
    cases h
    exact ⟨q, rfl⟩
def dvl (x y : Int64) : Option Int64 := if y = 0 then none else some (x / y)
theorem dvl_e {x y z : Int64} (h : dvl x y = some z) : ¬ y = 0 ∧ z = x / y := by
  unfold dvl at h
  split at h
  · cases h
  · rename_i q
    cases h
    exact ⟨q, rfl⟩
def jrl (x y : Int64) : Int64 := x - x / y * y
def rml (x y : Int64) : Option Int64 := if y = 0 then none else some (jrl x y)
theorem rml_e {x y z : Int64} (h : rml x y = some z) : ¬ y = 0 ∧ z = x - x / y * y := by
  unfold rml at h
  split at h
  · cases h
  · rename_i q
    cases h
    exact ⟨q, rfl⟩
def bz (x : Int32) : Option Int32 := if x = 0 ∨ x = 1 then some x else none
theorem bz_e {x r : Int32} (h : bz x = some r) : (r = 0 ∨ r = 1) ∧ x = r := by
  unfold bz at h
  split at h
  · rename_i q
    cases h
    exact ⟨q, rfl⟩
  · cases h
def jshl (x y : Int32) : Int32 := x <<< (y &&& 31)
def jshr (x y : Int32) : Int32 := x >>> (y &&& 31)
def jushr (x y : Int32) : Int32 := (x.toUInt32 >>> (y.toUInt32 &&& Int32.toUInt32 31)).toInt32
def jshll (x : Int64) (y : Int32) : Int64 := x <<< (y.toInt64 &&& 63)
def jmax (x y : Int32) : Int32 := if x < y then y else x
def jmin (x y : Int32) : Int32 := if y < x then y else x
def jbyte (x : Int32) : Int32 := x.toInt8.toInt32
/-- arraycopy, where it may be -/
def cpi (n0 n1 : Nat) (f g : Nat → Int32) (sp dp n : Int32) : Option (Nat → Int32) := if sp < 0 ∨ dp < 0 ∨ n < 0 ∨ n0 < sp.toNatClampNeg + n.toNatClampNeg ∨ n1 < dp.toNatClampNeg + n.toNatClampNeg then none else some (va_cpy f g sp.toNatClampNeg dp.toNatClampNeg n.toNatClampNeg)
theorem cpi_e {n0 n1 : Nat} {f g h : Nat → Int32} {sp dp n : Int32} (q : cpi n0 n1 f g sp dp n = some h) : ¬ sp < 0 ∧ ¬ dp < 0 ∧ ¬ n < 0 ∧ sp.toNatClampNeg + n.toNatClampNeg ≤ n0 ∧ dp.toNatClampNeg + n.toNatClampNeg ≤ n1 ∧ h = va_cpy f g sp.toNatClampNeg dp.toNatClampNeg n.toNatClampNeg := by
  unfold cpi at q
  split at q
  · cases q
  · rename_i z
    cases q
    simp only [not_or, Nat.not_lt] at z
    exact ⟨z.1, z.2.1, z.2.2.1, z.2.2.2.1, z.2.2.2.2, rfl⟩
/-! ===== contracts ===== -/
def rmD (d : Nat) : Room := { frames := d, cells := 0, slots := 0, locals := 64 * d }
def tw (y : MethodName) (cc : ByteArray) (nL : Nat) (ret : Option FieldType) : List Cond := .code y cc nL ret :: lw_w
theorem lw_good : lw_w.all goodWord = true := List.all_eq_true.mpr (fun w h => (List.mem_filter.mp h).2)
theorem lw_in {ws : List Cond} (h : ∀ w ∈ ws, w ∈ lw_w) : GoodIn lw_w ws := fun w hw => ⟨h w hw, good_of_word (List.all_eq_true.mp lw_good w (h w hw))⟩
theorem tw_in {y : MethodName} {cc : ByteArray} {nL : Nat} {ret : Option FieldType} (h : Cond.code y cc nL ret ∈ lw_w) : GoodIn lw_w (tw y cc nL ret) := lw_in (fun w hw => by
  rcases List.mem_cons.mp hw with e | e
  · rw [e]; exact h
  · exact e)
/-- the words of a call, found in the tables once -/
def KV (own : String) (index : Nat) (y : MethodName) (cc : ByteArray) (nL : Nat) (ret : Option FieldType) (n : Nat) : Prop :=
  Cond.methodLink own index y ∈ lw_w ∧ Cond.instanceMethod y ∈ lw_w ∧ Cond.selects y.cls y y ∈ lw_w ∧ Cond.initialized y.cls ∈ lw_w ∧ Cond.code y cc nL ret ∈ lw_w ∧
  (y.cls ≠ "java/lang/invoke/MethodHandle" ∧ y.cls ≠ "java/lang/invoke/VarHandle" ∧ (parseMethodDescriptor y.desc).map (fun d => d.parameters.length) = some n)
def KS (own : String) (index : Nat) (y : MethodName) (cc : ByteArray) (nL : Nat) (ret : Option FieldType) (n : Nat) : Prop :=
  Cond.methodLink own index y ∈ lw_w ∧ Cond.static y ∈ lw_w ∧ Cond.initialized y.cls ∈ lw_w ∧ Cond.code y cc nL ret ∈ lw_w ∧
  (y.cls ≠ "java/lang/invoke/MethodHandle" ∧ y.cls ≠ "java/lang/invoke/VarHandle" ∧ (parseMethodDescriptor y.desc).map (fun d => d.parameters.length) = some n)
abbrev gT : Type := List (ClassId × FieldType)
/-- a method that only reads: the world stays, the answer is v -/
def Rd (l : Launch) (D : va_G) (tys : gT) (y : MethodName) (cc : ByteArray) (nL : Nat) (ret : Option FieldType) (d : Nat) (av : List Value) (ws : va_W) (v : Option Value) : Prop :=
  Met l y (tw y cc nL ret) (rmD d) (va_Pc av (fun U => va_P D gCl ws U.heap ∧ va_K D gCl tys U)) (fun _ st o t => o = .returned v ∧ t.heap = st.heap) 0 0 (fun _ => False)
/-- a method that writes in its world, and makes nothing -/
def Wr (l : Launch) (D : va_G) (tys : gT) (y : MethodName) (cc : ByteArray) (nL : Nat) (ret : Option FieldType) (d : Nat) (av : List Value) (ws ws' : va_W) (v : Option Value) : Prop :=
  ∀ sz : Nat, Met l y (tw y cc nL ret) (rmD d) (va_Pc av (fun U => U.heap.size = sz ∧ va_P D gCl ws U.heap ∧ va_K D gCl tys U ∧ va_D (fun _ => True) ws)) (fun _ st o t => (o = .returned v ∧ va_P D gCl ws' t.heap ∧ va_D (va_A ws sz) ws') ∧ va_F (va_A ws sz) st t) 0 0 (va_A ws sz)
def St (A : Nat → Prop) (H0 : Heap) (D : va_G) (ws : va_W) (H : Heap) (locs : List Loc) : Prop := va_P D gCl ws H ∧ va_D A ws ∧ va_S A H0 H locs
section RD
variable {l : Launch} {D : va_G} {tys : gT} {y : MethodName} {cc : ByteArray} {nL d : Nat} {ret : Option FieldType} {av : List Value} {ws ws' : va_W} {v : Option Value}
theorem Rd.of (hy : plainName y.cls = true) (hn : (lg_sl av).length ≤ nL)
    (body : ∀ (p : Program) (e : Env) (s : State) (m : MethodId) (args : Array Value) (below : List Frame) (meth : Method) (c : Code) (Q : State → Prop), CallFix p m c cc nL s args lw_w y.cls → meth.sig.returnType = ret → meth.locks = false → va_K D gCl tys s → va_P D gCl ws s.heap →
      Q = MQ below (fun _ st o t => o = .returned v ∧ t.heap = st.heap) args s 0 0 (fun _ => False) → ∀ ls : Array Slot, lv_has ls nL (lv_args 0 av) → W p l e (rmD d) s m args below meth c s.heap [] 0 0 Q (F0 m 0 ls [])) : Rd l D tys y cc nL ret d av ws v := by
  refine Met.ofW (cc := cc) (maxL := nL) (ret := ret) hy rfl ?_
  intro p e s m args below meth c s₁ B hml hv
  obtain ⟨rfl, hP, hK⟩ := hv
  have hts := atoms_spec (ws := tw y cc nL ret) B.pre
  have hown : s.vm.findClass y.cls = some m.cls := findClass_of_methodNamed B.named
  have hl := lv_entry av (n := nL) hn
  rw [lg_entry_eq]
  exact body p e s m _ below meth c _ ⟨B.exec, B.bytes, hml, hown, fun w h => hts w (List.mem_cons_of_mem _ h)⟩ B.returns B.notSynchronized hK hP rfl _ hl
theorem Rd.ofI {r : Int32} (hy : plainName y.cls = true) (hn : (lg_sl av).length ≤ nL)
    (body : ∀ (p : Program) (e : Env) (s : State) (m : MethodId) (args : Array Value) (below : List Frame) (meth : Method) (c : Code) (Q : State → Prop), CallFix p m c cc nL s args lw_w y.cls → va_K D gCl tys s → va_P D gCl ws s.heap →
      (∀ (pc : Nat) (ls : Array Slot), decode cc pc = .ok (.ireturn, 1) → W p l e (rmD d) s m args below meth c s.heap [] 0 0 Q (F0 m pc ls [.int r])) → ∀ ls : Array Slot, lv_has ls nL (lv_args 0 av) → W p l e (rmD d) s m args below meth c s.heap [] 0 0 Q (F0 m 0 ls [])) : Rd l D tys y cc nL (some .int) d av ws (some (.int r)) := by
  refine Rd.of hy hn ?_
  intro p e s m args below meth c Q S hr hlocks hK hP hQ ls hl
  refine body p e s m args below meth c Q S hK hP (fun pc ls hd => ?_) ls hl
  rw [hQ]
  exact W.iret S.1 S.2.1 hr (fun t ht hW => ⟨rfl, ht⟩) (fun q h => by cases h) hd hlocks
theorem Rd.ofZ {r : Int32} (hy : plainName y.cls = true) (hn : (lg_sl av).length ≤ nL)
    (body : ∀ (p : Program) (e : Env) (s : State) (m : MethodId) (args : Array Value) (below : List Frame) (meth : Method) (c : Code) (Q : State → Prop), CallFix p m c cc nL s args lw_w y.cls → va_K D gCl tys s → va_P D gCl ws s.heap →
      (∀ (pc : Nat) (ls : Array Slot), (r = 0 ∨ r = 1) → decode cc pc = .ok (.ireturn, 1) → W p l e (rmD d) s m args below meth c s.heap [] 0 0 Q (F0 m pc ls [.int r])) → ∀ ls : Array Slot, lv_has ls nL (lv_args 0 av) → W p l e (rmD d) s m args below meth c s.heap [] 0 0 Q (F0 m 0 ls [])) : Rd l D tys y cc nL (some .boolean) d av ws (some (.int r)) := by
  refine Rd.of hy hn ?_
  intro p e s m args below meth c Q S hr hlocks hK hP hQ ls hl
  refine body p e s m args below meth c Q S hK hP (fun pc ls hz hd => ?_) ls hl
  rw [hQ]
  exact W.zret S.1 S.2.1 hr (by rcases hz with h | h <;> rw [h] <;> rfl) (fun t ht hW => ⟨rfl, ht⟩) (fun q h => by cases h) hd hlocks
theorem Rd.ofL {r : Int64} (hy : plainName y.cls = true) (hn : (lg_sl av).length ≤ nL)
    (body : ∀ (p : Program) (e : Env) (s : State) (m : MethodId) (args : Array Value) (below : List Frame) (meth : Method) (c : Code) (Q : State → Prop), CallFix p m c cc nL s args lw_w y.cls → va_K D gCl tys s → va_P D gCl ws s.heap →
      (∀ (pc : Nat) (ls : Array Slot), decode cc pc = .ok (.lreturn, 1) → W p l e (rmD d) s m args below meth c s.heap [] 0 0 Q (F0 m pc ls [.long r])) → ∀ ls : Array Slot, lv_has ls nL (lv_args 0 av) → W p l e (rmD d) s m args below meth c s.heap [] 0 0 Q (F0 m 0 ls [])) : Rd l D tys y cc nL (some .long) d av ws (some (.long r)) := by
  refine Rd.of hy hn ?_
  intro p e s m args below meth c Q S hr hlocks hK hP hQ ls hl
  refine body p e s m args below meth c Q S hK hP (fun pc ls hd => ?_) ls hl
  rw [hQ]
  exact W.lret S.1 S.2.1 hr (fun t ht hW => ⟨rfl, ht⟩) (fun q h => by cases h) hd hlocks
theorem Wr.of (hy : plainName y.cls = true) (hn : (lg_sl av).length ≤ nL)
    (body : ∀ (p : Program) (e : Env) (s : State) (m : MethodId) (args : Array Value) (below : List Frame) (meth : Method) (c : Code) (Q : State → Prop) (A : Nat → Prop), CallFix p m c cc nL s args lw_w y.cls → meth.sig.returnType = ret → meth.locks = false → va_K D gCl tys s → (∀ q : Nat, s.heap.size ≤ q → A q) →
      Q = MQ below (fun _ st o t => (o = .returned v ∧ va_P D gCl ws' t.heap ∧ va_D A ws') ∧ va_F A st t) args s 0 0 A → ∀ ls : Array Slot, lv_has ls nL (lv_args 0 av) → St A s.heap D ws s.heap [] → W p l e (rmD d) s m args below meth c s.heap [] 0 0 Q (F0 m 0 ls [])) : Wr l D tys y cc nL ret d av ws ws' v := by
  intro sz
  refine Met.ofW (cc := cc) (maxL := nL) (ret := ret) hy rfl ?_
  intro p e s m args below meth c s₁ B hml hv
  obtain ⟨rfl, hsz, hP, hK, hD0⟩ := hv
  subst hsz
  have hts := atoms_spec (ws := tw y cc nL ret) B.pre
  have hown : s.vm.findClass y.cls = some m.cls := findClass_of_methodNamed B.named
  have hl := lv_entry av (n := nL) hn
  rw [lg_entry_eq]
  exact body p e s m _ below meth c _ _ ⟨B.exec, B.bytes, hml, hown, fun w h => hts w (List.mem_cons_of_mem _ h)⟩ B.returns B.notSynchronized hK (fun q h => Or.inr h) rfl _ hl ⟨hP, hD0.self (sz := s.heap.size), va_S.rf⟩
theorem Wr.ofI {r : Int32} (hy : plainName y.cls = true) (hn : (lg_sl av).length ≤ nL)
    (body : ∀ (p : Program) (e : Env) (s : State) (m : MethodId) (args : Array Value) (below : List Frame) (meth : Method) (c : Code) (Q : State → Prop) (A : Nat → Prop), CallFix p m c cc nL s args lw_w y.cls → va_K D gCl tys s → (∀ q : Nat, s.heap.size ≤ q → A q) →
      (∀ (pc : Nat) (ls : Array Slot) (H : Heap) (locs : List Loc), decode cc pc = .ok (.ireturn, 1) → St A s.heap D ws' H locs → W p l e (rmD d) s m args below meth c H locs 0 0 Q (F0 m pc ls [.int r])) → ∀ ls : Array Slot, lv_has ls nL (lv_args 0 av) → St A s.heap D ws s.heap [] → W p l e (rmD d) s m args below meth c s.heap [] 0 0 Q (F0 m 0 ls [])) : Wr l D tys y cc nL (some .int) d av ws ws' (some (.int r)) := by
  refine Wr.of hy hn ?_
  intro p e s m args below meth c Q A S hr hlocks hK hA hQ ls hl hW
  refine body p e s m args below meth c Q A S hK hA (fun pc ls H locs hd h => ?_) ls hl hW
  rw [hQ]
  exact W.iret S.1 S.2.1 hr (fun t ht hW => ⟨⟨rfl, by rw [ht]; exact h.1, h.2.1⟩, h.2.2.F ht⟩) h.2.2.2.2 hd hlocks
theorem Wr.ofZ {r : Int32} (hy : plainName y.cls = true) (hn : (lg_sl av).length ≤ nL)
    (body : ∀ (p : Program) (e : Env) (s : State) (m : MethodId) (args : Array Value) (below : List Frame) (meth : Method) (c : Code) (Q : State → Prop) (A : Nat → Prop), CallFix p m c cc nL s args lw_w y.cls → va_K D gCl tys s → (∀ q : Nat, s.heap.size ≤ q → A q) →
      (∀ (pc : Nat) (ls : Array Slot) (H : Heap) (locs : List Loc), (r = 0 ∨ r = 1) → decode cc pc = .ok (.ireturn, 1) → St A s.heap D ws' H locs → W p l e (rmD d) s m args below meth c H locs 0 0 Q (F0 m pc ls [.int r])) → ∀ ls : Array Slot, lv_has ls nL (lv_args 0 av) → St A s.heap D ws s.heap [] → W p l e (rmD d) s m args below meth c s.heap [] 0 0 Q (F0 m 0 ls [])) : Wr l D tys y cc nL (some .boolean) d av ws ws' (some (.int r)) := by
  refine Wr.of hy hn ?_
  intro p e s m args below meth c Q A S hr hlocks hK hA hQ ls hl hW
  refine body p e s m args below meth c Q A S hK hA (fun pc ls H locs hz hd h => ?_) ls hl hW
  rw [hQ]
  exact W.zret S.1 S.2.1 hr (by rcases hz with h | h <;> rw [h] <;> rfl) (fun t ht hW => ⟨⟨rfl, by rw [ht]; exact h.1, h.2.1⟩, h.2.2.F ht⟩) h.2.2.2.2 hd hlocks
theorem Wr.ofL {r : Int64} (hy : plainName y.cls = true) (hn : (lg_sl av).length ≤ nL)
    (body : ∀ (p : Program) (e : Env) (s : State) (m : MethodId) (args : Array Value) (below : List Frame) (meth : Method) (c : Code) (Q : State → Prop) (A : Nat → Prop), CallFix p m c cc nL s args lw_w y.cls → va_K D gCl tys s → (∀ q : Nat, s.heap.size ≤ q → A q) →
      (∀ (pc : Nat) (ls : Array Slot) (H : Heap) (locs : List Loc), decode cc pc = .ok (.lreturn, 1) → St A s.heap D ws' H locs → W p l e (rmD d) s m args below meth c H locs 0 0 Q (F0 m pc ls [.long r])) → ∀ ls : Array Slot, lv_has ls nL (lv_args 0 av) → St A s.heap D ws s.heap [] → W p l e (rmD d) s m args below meth c s.heap [] 0 0 Q (F0 m 0 ls [])) : Wr l D tys y cc nL (some .long) d av ws ws' (some (.long r)) := by
  refine Wr.of hy hn ?_
  intro p e s m args below meth c Q A S hr hlocks hK hA hQ ls hl hW
  refine body p e s m args below meth c Q A S hK hA (fun pc ls H locs hd h => ?_) ls hl hW
  rw [hQ]
  exact W.lret S.1 S.2.1 hr (fun t ht hW => ⟨⟨rfl, by rw [ht]; exact h.1, h.2.1⟩, h.2.2.F ht⟩) h.2.2.2.2 hd hlocks
theorem Wr.ofV (hy : plainName y.cls = true) (hn : (lg_sl av).length ≤ nL)
    (body : ∀ (p : Program) (e : Env) (s : State) (m : MethodId) (args : Array Value) (below : List Frame) (meth : Method) (c : Code) (Q : State → Prop) (A : Nat → Prop), CallFix p m c cc nL s args lw_w y.cls → va_K D gCl tys s → (∀ q : Nat, s.heap.size ≤ q → A q) →
      (∀ (pc : Nat) (ls : Array Slot) (H : Heap) (locs : List Loc), decode cc pc = .ok (.return_, 1) → St A s.heap D ws' H locs → W p l e (rmD d) s m args below meth c H locs 0 0 Q (F0 m pc ls [])) → ∀ ls : Array Slot, lv_has ls nL (lv_args 0 av) → St A s.heap D ws s.heap [] → W p l e (rmD d) s m args below meth c s.heap [] 0 0 Q (F0 m 0 ls [])) : Wr l D tys y cc nL none d av ws ws' none := by
  refine Wr.of hy hn ?_
  intro p e s m args below meth c Q A S hr hlocks hK hA hQ ls hl hW
  refine body p e s m args below meth c Q A S hK hA (fun pc ls H locs hd h => ?_) ls hl hW
  rw [hQ]
  exact W.vret S.1 S.2.1 hr (fun t ht hW => ⟨⟨rfl, by rw [ht]; exact h.1, h.2.1⟩, h.2.2.F ht⟩) h.2.2.2.2 hd hlocks
end RD
section CL
variable {p : Program} {l : Launch} {e : Env} {R : Room} {s : State} {m : MethodId} {args : Array Value} {below : List Frame} {meth : Method} {c : Code} {H : Heap} {locs : List Loc} {cells slots : Nat} {Q : State → Prop} {pc : Nat} {ls : Array Slot} {st rest : List Value} {cc : ByteArray} {nL index n : Nat} {own : String}
variable {D : va_G} {tys : gT} {y : MethodName} {cc' : ByteArray} {nL' d' : Nat} {ret' : Option FieldType} {b : Nat} {As : List Value} {ws wc wc' ws2 : va_W} {v : Option Value} {A : Nat → Prop} {H0 : Heap}
theorem Rd.blind {av : List Value} : FrameBlind (va_Pc av (fun U => va_P D gCl wc U.heap ∧ va_K D gCl tys U)) := fun a U g mk q => by
  obtain ⟨q0, qP, qK⟩ := q
  exact ⟨q0, qP, va_K.moved (u := U) (U := U.calling g mk a) (Vm.Alike.refl U.vm) qK⟩
theorem Wr.blind {av : List Value} {sz : Nat} : FrameBlind (va_Pc av (fun U => U.heap.size = sz ∧ va_P D gCl wc U.heap ∧ va_K D gCl tys U ∧ va_D (fun _ => True) wc)) := fun a U g mk q => by
  obtain ⟨q0, q1, qP, qK, qD⟩ := q
  exact ⟨q0, q1, qP, va_K.moved (u := U) (U := U.calling g mk a) (Vm.Alike.refl U.vm) qK, qD⟩
theorem KV.cw {rm : Room} (k : KV own index y cc' nL' ret' n) (hts : ∀ w ∈ lw_w, w.before args s = true) (hR : rm.frames + 1 ≤ R.frames ∧ 8 + (nL' + 11) + rm.locals ≤ R.locals) : CallW R s args own y.cls index y cc' nL' ret' (tw y cc' nL' ret') rm rm.cells rm.slots n := by
  obtain ⟨h1, h2, h3, h4, h5, hd⟩ := k
  exact ⟨callB_of n hts (tw_in h5) rfl rfl rfl (hts _ h4) (hts _ h1) hd hR, hts _ h2, hts _ h3⟩
theorem KS.cw {rm : Room} (k : KS own index y cc' nL' ret' n) (hts : ∀ w ∈ lw_w, w.before args s = true) (hR : rm.frames + 1 ≤ R.frames ∧ 8 + (nL' + 11) + rm.locals ≤ R.locals) : CallB R s args own index y cc' nL' ret' (tw y cc' nL' ret') rm rm.cells rm.slots n ∧ (Cond.static y).before args s = true := by
  obtain ⟨h1, h2, h4, h5, hd⟩ := k
  exact ⟨callB_of n hts (tw_in h5) rfl rfl rfl (hts _ h4) (hts _ h1) hd hR, hts _ h2⟩
theorem Rd.go (hr : CallRun p l e R s m args below meth c H locs cells slots 0 0 (F0 m pc ls st) rest (fun st o t => o = .returned v ∧ t.heap = st.heap) (fun _ => False)) (kk : W p l e R s m args below meth c H locs cells slots Q (F0 m (pc + 3) ls (v.toList ++ rest))) : W p l e R s m args below meth c H locs cells slots Q (F0 m pc ls st) := by
  intro T hT X
  obtain ⟨v', st₀, t, T', L, h0, X', hL, e1, ⟨hv, hh⟩, st⟩ := hr T hT X
  cases hv
  obtain ⟨t2, a1, b1⟩ := kk T' (by rw [e1, hh, h0]) (Stand.forget X' (fun q h => (hL q h).elim))
  exact ⟨t2, st t2 a1, b1⟩
/-- a call of a method that only reads -/
theorem Rd.cV (hM : Rd l D tys y cc' nL' ret' d' (.ref b :: As) wc v) (S : CallFix p m c cc nL s args lw_w own) (hK : va_K D gCl tys s) (hP : va_P D gCl wc H) (q0 ci : Nat) {fs : List Value} {T : u_T} {N : Nat} (he : wc[q0]? = some (b, .inr (ci, fs))) (hc : gCl[ci]? = some (y.cls, T, N))
    (k : KV own index y cc' nL' ret' n) (hn : As.length = n) (hs : ls.size = nL) (rest : List Value) (hst : st = As.reverse ++ .ref b :: rest) (hW : (rest.map fun v => v.category).sum ≤ 8) (hR : d' + 1 ≤ R.frames ∧ 8 + (nL' + 11) + 64 * d' ≤ R.locals) (hcs : cells ≤ R.cells ∧ slots ≤ R.slots) (hd : decode cc pc = .ok (.invokevirtual index, 3))
    (kk : W p l e R s m args below meth c H locs cells slots Q (F0 m (pc + 3) ls (v.toList ++ rest))) : W p l e R s m args below meth c H locs cells slots Q (F0 m pc ls st) := by
  have hr := W.runV (n := n) (rest := rest) (H := H) (locs := locs) (cells := cells) (slots := slots) (g := F0 m pc ls st) (below := below) (meth := meth) (e := e) S hM (KV.cw (rm := rmD d') k S.2.2.2.2 hR) ⟨Rd.blind, va_recv hK hP hc he, fun U hU hW => ⟨rfl, by rw [hU]; exact hP, va_K.moved hW.alike hK⟩⟩ rfl hn hs hst (lv_room hW) hd hcs
  exact Rd.go hr kk
theorem Rd.cS (hM : Rd l D tys y cc' nL' ret' d' As wc v) (S : CallFix p m c cc nL s args lw_w own) (hK : va_K D gCl tys s) (hP : va_P D gCl wc H)
    (k : KS own index y cc' nL' ret' n) (hn : As.length = n) (hs : ls.size = nL) (rest : List Value) (hst : st = As.reverse ++ rest) (hW : (rest.map fun v => v.category).sum ≤ 8) (hR : d' + 1 ≤ R.frames ∧ 8 + (nL' + 11) + 64 * d' ≤ R.locals) (hcs : cells ≤ R.cells ∧ slots ≤ R.slots) (hd : decode cc pc = .ok (.invokestatic index, 3))
    (kk : W p l e R s m args below meth c H locs cells slots Q (F0 m (pc + 3) ls (v.toList ++ rest))) : W p l e R s m args below meth c H locs cells slots Q (F0 m pc ls st) := by
  have hr := W.runS (n := n) (rest := rest) (H := H) (locs := locs) (cells := cells) (slots := slots) (g := F0 m pc ls st) (below := below) (meth := meth) (e := e) S hM (KS.cw (rm := rmD d') k S.2.2.2.2 hR) ⟨Rd.blind, fun U hU hW => ⟨rfl, by rw [hU]; exact hP, va_K.moved hW.alike hK⟩⟩ rfl hn hs hst (lv_room hW) hd hcs
  exact Rd.go hr kk
/-- a world's cells behind a call that changed some of them -/
theorem St.after {H1 : Heap} {L : List Loc} {st₀ t : State} (h : St A H0 D ws H locs) (hA : ∀ q : Nat, H0.size ≤ q → A q) (isC : List Nat) (hC : isC.map (fun i => ws[i]?) = wc.map some) (sel : List (Bool × Nat)) (hsel : sel.map (fun q => if q.1 then wc'[q.2]? else ws[q.2]?) = ws2.map some) (hdis : sel.all (fun q => q.1 || decide (q.2 ∉ isC)) = true) (had : ws2.map (fun q => q.1) = ws.map (fun q => q.1))
    (h0 : st₀.heap = H) (h1 : H1 = t.heap) (hP1 : va_P D gCl wc' t.heap) (hF : va_F (va_A wc H.size) st₀ t) (hL : ∀ q ∈ L, va_A wc H.size q.base) : St A H0 D ws2 H1 (locs ++ L) := by
  obtain ⟨hP, hD, hS⟩ := h
  have hfr := va_free hD hS hA isC hC
  subst h0
  have at' : ∀ (k : Nat) (q : Nat × va_E), wc[k]? = some q → ∃ i, isC[k]? = some i ∧ ws[i]? = some q := by
    intro k q hq
    have h1 : (isC.map (fun i => ws[i]?))[k]? = some (some q) := by rw [hC, List.getElem?_map, hq]; rfl
    rw [List.getElem?_map] at h1
    cases hi : isC[k]? with
    | none => rw [hi] at h1; cases h1
    | some i => rw [hi] at h1; exact ⟨i, rfl, Option.some.inj h1⟩
  subst h1
  refine ⟨fun k q hk => ?_, ⟨fun i j x z hi hj hxz => ?_, fun k q hk => ?_⟩, ?_, fun q h1 h2 => ?_, fun q hq => ?_⟩
  · have h1 : (sel.map (fun q => if q.1 then wc'[q.2]? else ws[q.2]?))[k]? = some (some q) := by rw [hsel, List.getElem?_map, hk]; rfl
    rw [List.getElem?_map] at h1
    cases hi : sel[k]? with
    | none => rw [hi] at h1; cases h1
    | some z =>
      rw [hi] at h1
      have h2 : (if z.1 = true then wc'[z.2]? else ws[z.2]?) = some q := Option.some.inj h1
      by_cases hz : z.1 = true
      · rw [if_pos hz] at h2
        exact hP1 _ q h2
      · rw [if_neg hz] at h2
        have h3 := List.all_eq_true.mp hdis z (List.mem_of_getElem? hi)
        have h4 : z.2 ∉ isC := by
          cases hb : z.1 with
          | true => exact absurd hb hz
          | false => rw [hb] at h3; simpa using h3
        refine (hP z.2 q h2).kept (hF.2 q.1 (hP z.2 q h2).lt (fun hx => ?_))
        rcases hx with ⟨k2, e2, hx⟩ | hx
        · obtain ⟨j, h5, h6⟩ := at' k2 (q.1, e2) hx
          have hij := hD.1 z.2 j q (q.1, e2) h2 h6 rfl
          rw [hij] at h4
          exact h4 (List.mem_of_getElem? h5)
        · exact absurd (hP z.2 q h2).lt (Nat.not_lt.mpr hx)
  · have key : ∀ (k : Nat) (q : Nat × va_E), ws2[k]? = some q → ∃ q', ws[k]? = some q' ∧ q'.1 = q.1 := by
      intro k q hk
      have h1 : (ws.map (fun q => q.1))[k]? = some q.1 := by rw [← had, List.getElem?_map, hk]; rfl
      rw [List.getElem?_map] at h1
      cases hi : ws[k]? with
      | none => rw [hi] at h1; cases h1
      | some z => rw [hi] at h1; exact ⟨z, rfl, Option.some.inj h1⟩
    obtain ⟨x', a1, a2⟩ := key i x hi
    obtain ⟨z', b1, b2⟩ := key j z hj
    exact hD.1 i j x' z' a1 b1 (a2.trans (hxz.trans b2.symm))
  · have h1 : (ws.map (fun q => q.1))[k]? = some q.1 := by rw [← had, List.getElem?_map, hk]; rfl
    rw [List.getElem?_map] at h1
    cases hi : ws[k]? with
    | none => rw [hi] at h1; cases h1
    | some z => rw [hi] at h1; rw [← Option.some.inj h1]; exact hD.2 k z hi
  · exact Nat.le_trans hS.1 hF.1
  · rw [hF.2 q (Nat.lt_of_lt_of_le h1 hS.1) (fun z => h2 (hfr q z))]
    exact hS.2.1 q h1 h2
  · rcases List.mem_append.mp hq with h | h
    · exact hS.2.2 q h
    · exact hfr _ (hL q h)
theorem Wr.go (hr : CallRun p l e R s m args below meth c H locs cells slots 0 0 (F0 m pc ls st) rest (fun st o t => (o = .returned v ∧ va_P D gCl wc' t.heap ∧ va_D (va_A wc H.size) wc') ∧ va_F (va_A wc H.size) st t) (va_A wc H.size))
    (h : St A H0 D ws H locs) (hA : ∀ q : Nat, H0.size ≤ q → A q) (isC : List Nat) (hC : isC.map (fun i => ws[i]?) = wc.map some) (sel : List (Bool × Nat)) (hsel : sel.map (fun q => if q.1 then wc'[q.2]? else ws[q.2]?) = ws2.map some) (hdis : sel.all (fun q => q.1 || decide (q.2 ∉ isC)) = true) (had : ws2.map (fun q => q.1) = ws.map (fun q => q.1))
    (kk : ∀ (H1 : Heap) (locs1 : List Loc), St A H0 D ws2 H1 locs1 → W p l e R s m args below meth c H1 locs1 cells slots Q (F0 m (pc + 3) ls (v.toList ++ rest))) : W p l e R s m args below meth c H locs cells slots Q (F0 m pc ls st) := by
  intro T hT X
  obtain ⟨v', st₀, t, T', L, h0, X', hL, e1, ⟨⟨hv, hP1, hD1⟩, hF⟩, st⟩ := hr T hT X
  cases hv
  obtain ⟨t2, a1, b1⟩ := kk T'.heap (locs ++ L) (St.after h hA isC hC sel hsel hdis had h0 e1 hP1 hF hL) T' rfl X'
  exact ⟨t2, st t2 a1, b1⟩
/-- the whole world is the callee's -/
theorem Wr.goW (hr : CallRun p l e R s m args below meth c H locs cells slots 0 0 (F0 m pc ls st) rest (fun st o t => (o = .returned v ∧ va_P D gCl wc' t.heap ∧ va_D (va_A wc H.size) wc') ∧ va_F (va_A wc H.size) st t) (va_A wc H.size))
    (h : St A H0 D wc H locs) (hA : ∀ q : Nat, H0.size ≤ q → A q)
    (kk : ∀ (H1 : Heap) (locs1 : List Loc), St A H0 D wc' H1 locs1 → W p l e R s m args below meth c H1 locs1 cells slots Q (F0 m (pc + 3) ls (v.toList ++ rest))) : W p l e R s m args below meth c H locs cells slots Q (F0 m pc ls st) := by
  intro T hT X
  obtain ⟨v', st₀, t, T', L, h0, X', hL, e1, ⟨⟨hv, hP1, hD1⟩, hF⟩, st⟩ := hr T hT X
  cases hv
  obtain ⟨hP, hD, hS⟩ := h
  subst h0
  have hfr : ∀ q, va_A wc st₀.heap.size q → A q := fun q hq => by
    rcases hq with ⟨k, e2, hq⟩ | hq
    · exact hD.2 k _ hq
    · exact hA q (Nat.le_trans hS.1 hq)
  obtain ⟨t2, a1, b1⟩ := kk T'.heap (locs ++ L) ⟨by rw [e1]; exact hP1, hD1.weaken (fun k q _ h => hfr q.1 h), by rw [e1]; exact Nat.le_trans hS.1 hF.1, fun q h1 h2 => by
      rw [e1, hF.2 q (Nat.lt_of_lt_of_le h1 hS.1) (fun z => h2 (hfr q z))]
      exact hS.2.1 q h1 h2, fun q hq => by
      rcases List.mem_append.mp hq with h | h
      · exact hS.2.2 q h
      · exact hfr _ (hL q h)⟩ T' rfl X'
  exact ⟨t2, st t2 a1, b1⟩
theorem Wr.runV (hM : Wr l D tys y cc' nL' ret' d' (.ref b :: As) wc wc' v) (S : CallFix p m c cc nL s args lw_w own) (hK : va_K D gCl tys s) (hP : va_P D gCl wc H) (hD : va_D A wc) (q0 ci : Nat) {fs : List Value} {T : u_T} {N : Nat} (he : wc[q0]? = some (b, .inr (ci, fs))) (hc : gCl[ci]? = some (y.cls, T, N))
    (k : KV own index y cc' nL' ret' n) (hn : As.length = n) (hs : ls.size = nL) (rest : List Value) (hst : st = As.reverse ++ .ref b :: rest) (hW : (rest.map fun v => v.category).sum ≤ 8) (hR : d' + 1 ≤ R.frames ∧ 8 + (nL' + 11) + 64 * d' ≤ R.locals) (hcs : cells ≤ R.cells ∧ slots ≤ R.slots) (hd : decode cc pc = .ok (.invokevirtual index, 3)) :
    CallRun p l e R s m args below meth c H locs cells slots 0 0 (F0 m pc ls st) rest (fun st o t => (o = .returned v ∧ va_P D gCl wc' t.heap ∧ va_D (va_A wc H.size) wc') ∧ va_F (va_A wc H.size) st t) (va_A wc H.size) :=
  W.runV (n := n) (rest := rest) (H := H) (locs := locs) (cells := cells) (slots := slots) (g := F0 m pc ls st) (below := below) (meth := meth) (e := e) S (hM H.size) (KV.cw (rm := rmD d') k S.2.2.2.2 hR) ⟨Wr.blind, va_recv hK hP hc he, fun U hU hW => ⟨rfl, by rw [hU], by rw [hU]; exact hP, va_K.moved hW.alike hK, hD.weaken (fun _ _ _ _ => trivial)⟩⟩ rfl hn hs hst (lv_room hW) hd hcs
theorem Wr.runS (hM : Wr l D tys y cc' nL' ret' d' As wc wc' v) (S : CallFix p m c cc nL s args lw_w own) (hK : va_K D gCl tys s) (hP : va_P D gCl wc H) (hD : va_D A wc)
    (k : KS own index y cc' nL' ret' n) (hn : As.length = n) (hs : ls.size = nL) (rest : List Value) (hst : st = As.reverse ++ rest) (hW : (rest.map fun v => v.category).sum ≤ 8) (hR : d' + 1 ≤ R.frames ∧ 8 + (nL' + 11) + 64 * d' ≤ R.locals) (hcs : cells ≤ R.cells ∧ slots ≤ R.slots) (hd : decode cc pc = .ok (.invokestatic index, 3)) :
    CallRun p l e R s m args below meth c H locs cells slots 0 0 (F0 m pc ls st) rest (fun st o t => (o = .returned v ∧ va_P D gCl wc' t.heap ∧ va_D (va_A wc H.size) wc') ∧ va_F (va_A wc H.size) st t) (va_A wc H.size) :=
  W.runS (n := n) (rest := rest) (H := H) (locs := locs) (cells := cells) (slots := slots) (g := F0 m pc ls st) (below := below) (meth := meth) (e := e) S (hM H.size) (KS.cw (rm := rmD d') k S.2.2.2.2 hR) ⟨Wr.blind, fun U hU hW => ⟨rfl, by rw [hU], by rw [hU]; exact hP, va_K.moved hW.alike hK, hD.weaken (fun _ _ _ _ => trivial)⟩⟩ rfl hn hs hst (lv_room hW) hd hcs
/-! the instructions on the heap -/
theorem q_get (S : CallFix p m c cc nL s args lw_w own) (hK : va_K D gCl tys s) (hP : va_P D gCl ws H) {C : String} {T : u_T} {N ci a : Nat} (hin : ∀ w ∈ u_ws C T N, w ∈ lw_w) (hc : gCl[ci]? = some (C, T, N)) (k : Nat) (hk : k < N) (hC : (T k).1 = C) (hl : Cond.fieldLink own index C (T k).2.1 (T k).2.2.1 ∈ lw_w) (q0 : Nat) {fs : List Value} (he : ws[q0]? = some (a, .inr (ci, fs))) {x : Value} (hv : fs[k]? = some x) (hd : decode cc pc = .ok (.getfield index, 3))
    (kk : W p l e R s m args below meth c H locs cells slots Q (F0 m (pc + 3) ls (x :: rest))) : W p l e R s m args below meth c H locs cells slots Q (F0 m pc ls (.ref a :: rest)) :=
  va_get (C := C) (T := T) (N := N) S.1 S.2.1 S.2.2.2.2 hin S.2.2.2.1 hK hP q0 he hc k hk (S.2.2.2.2 _ hl) (fun z h9 => by rw [hC] at h9; exact h9) hv hd kk
theorem q_put (S : CallFix p m c cc nL s args lw_w own) (hK : va_K D gCl tys s) (hW : St A H0 D ws H locs) {C : String} {T : u_T} {N ci a : Nat} (hin : ∀ w ∈ u_ws C T N, w ∈ lw_w) (ty0 : Nat → FieldType) (hty : ∀ k, k < N → parseFieldDescriptor (T k).2.2.1 = some (ty0 k)) (hnm : ∀ a, a < N → ∀ b, b < N → a ≠ b → (T a).2.1 ≠ (T b).2.1) (hc : gCl[ci]? = some (C, T, N)) (k : Nat) (hk : k < N) (hC : (T k).1 = C) (hfin : (T k).2.2.2 = false) (hl : Cond.fieldLink own index C (T k).2.1 (T k).2.2.1 ∈ lw_w) (q0 : Nat) {fs : List Value} (he : ws[q0]? = some (a, .inr (ci, fs))) {x : Value} (hn : narrow (ty0 k) x = x) (hfit : fits (ty0 k) x = true) (hlen : k < fs.length) (h2 : ws.set q0 (a, .inr (ci, fs.set k x)) = ws2) (hd : decode cc pc = .ok (.putfield index, 3))
    (kk : ∀ (H1 : Heap) (locs1 : List Loc), St A H0 D ws2 H1 locs1 → W p l e R s m args below meth c H1 locs1 cells slots Q (F0 m (pc + 3) ls rest)) : W p l e R s m args below meth c H locs cells slots Q (F0 m pc ls (x :: .ref a :: rest)) := by
  subst h2
  exact va_put (C := C) (T := T) (N := N) S.1 S.2.1 S.2.2.2.2 hin ty0 hty hnm S.2.2.2.1 hK hW.1 hW.2.1 hW.2.2 q0 he hc k hk (S.2.2.2.2 _ hl) (fun z h9 => by rw [hC] at h9; exact h9) hfin (hty k hk) hn hfit hlen hd (fun H1 locs1 a1 a2 a3 => kk H1 locs1 ⟨a1, a2, a3⟩)
theorem q_iald (S : CallFix p m c cc nL s args lw_w own) (hK : va_K D gCl tys s) (hP : va_P D gCl ws H) (q0 t0 : Nat) {cA : ClassId} {n a : Nat} {f : Nat → Int32} (ha : ws[q0]? = some (a, .inl (cA, n, .inl f))) (ht : tys[t0]? = some (cA, .int)) {i x : Int32} (hx : rdi n f i = some x) (hd : decode cc pc = .ok (.iaload, 1))
    (kk : W p l e R s m args below meth c H locs cells slots Q (F0 m (pc + 1) ls (.int x :: rest))) : W p l e R s m args below meth c H locs cells slots Q (F0 m pc ls (.int i :: .ref a :: rest)) := by
  obtain ⟨h1, rfl⟩ := rdi_e hx
  exact va_iald S.1 S.2.1 hK hP q0 t0 ha ht h1 hd kk
theorem q_bald (S : CallFix p m c cc nL s args lw_w own) (hK : va_K D gCl tys s) (hP : va_P D gCl ws H) (q0 t0 : Nat) {cA : ClassId} {n a : Nat} {f : Nat → Int32} (ha : ws[q0]? = some (a, .inl (cA, n, .inl f))) (ht : tys[t0]? = some (cA, .byte)) {i x : Int32} (hx : rdi n f i = some x) (hd : decode cc pc = .ok (.baload, 1))
    (kk : W p l e R s m args below meth c H locs cells slots Q (F0 m (pc + 1) ls (.int x :: rest))) : W p l e R s m args below meth c H locs cells slots Q (F0 m pc ls (.int i :: .ref a :: rest)) := by
  obtain ⟨h1, rfl⟩ := rdi_e hx
  exact va_bald S.1 S.2.1 hK hP q0 t0 ha ht h1 hd kk
theorem q_zald (S : CallFix p m c cc nL s args lw_w own) (hK : va_K D gCl tys s) (hP : va_P D gCl ws H) (q0 t0 : Nat) {cA : ClassId} {n a : Nat} {f : Nat → Int32} (ha : ws[q0]? = some (a, .inl (cA, n, .inl f))) (ht : tys[t0]? = some (cA, .boolean)) {i x : Int32} (hx : rdi n f i = some x) (hd : decode cc pc = .ok (.baload, 1))
    (kk : W p l e R s m args below meth c H locs cells slots Q (F0 m (pc + 1) ls (.int x :: rest))) : W p l e R s m args below meth c H locs cells slots Q (F0 m pc ls (.int i :: .ref a :: rest)) := by
  obtain ⟨h1, rfl⟩ := rdi_e hx
  exact va_zald S.1 S.2.1 hK hP q0 t0 ha ht h1 hd kk
theorem q_lald (S : CallFix p m c cc nL s args lw_w own) (hK : va_K D gCl tys s) (hP : va_P D gCl ws H) (q0 t0 : Nat) {cA : ClassId} {n a : Nat} {f : Nat → Int64} (ha : ws[q0]? = some (a, .inl (cA, n, .inr (.inl f)))) (ht : tys[t0]? = some (cA, .long)) {i : Int32} {x : Int64} (hx : rdl n f i = some x) (hd : decode cc pc = .ok (.laload, 1))
    (kk : W p l e R s m args below meth c H locs cells slots Q (F0 m (pc + 1) ls (.long x :: rest))) : W p l e R s m args below meth c H locs cells slots Q (F0 m pc ls (.int i :: .ref a :: rest)) := by
  obtain ⟨h1, rfl⟩ := rdl_e hx
  exact va_lald S.1 S.2.1 hK hP q0 t0 ha ht h1 hd kk
theorem q_iast (S : CallFix p m c cc nL s args lw_w own) (hK : va_K D gCl tys s) (hW : St A H0 D ws H locs) (q0 t0 : Nat) {cA : ClassId} {n a : Nat} {f g : Nat → Int32} (ha : ws[q0]? = some (a, .inl (cA, n, .inl f))) (ht : tys[t0]? = some (cA, .int)) {i x : Int32} (hx : wri n f i x = some g) (h2 : ws.set q0 (a, .inl (cA, n, .inl g)) = ws2) (hd : decode cc pc = .ok (.iastore, 1))
    (kk : ∀ (H1 : Heap) (locs1 : List Loc), St A H0 D ws2 H1 locs1 → W p l e R s m args below meth c H1 locs1 cells slots Q (F0 m (pc + 1) ls rest)) : W p l e R s m args below meth c H locs cells slots Q (F0 m pc ls (.int x :: .int i :: .ref a :: rest)) := by
  obtain ⟨h1, rfl⟩ := wri_e hx
  subst h2
  exact va_iast S.1 S.2.1 hK hW.1 hW.2.1 hW.2.2 q0 t0 ha ht h1 hd (fun H1 locs1 a1 a2 a3 => kk H1 locs1 ⟨a1, a2, a3⟩)
theorem q_bast (S : CallFix p m c cc nL s args lw_w own) (hK : va_K D gCl tys s) (hW : St A H0 D ws H locs) (q0 t0 : Nat) {cA : ClassId} {n a : Nat} {f g : Nat → Int32} (ha : ws[q0]? = some (a, .inl (cA, n, .inl f))) (ht : tys[t0]? = some (cA, .byte)) {i x : Int32} (hx : wri n f i (vp_nar .byte x) = some g) (h2 : ws.set q0 (a, .inl (cA, n, .inl g)) = ws2) (hd : decode cc pc = .ok (.bastore, 1))
    (kk : ∀ (H1 : Heap) (locs1 : List Loc), St A H0 D ws2 H1 locs1 → W p l e R s m args below meth c H1 locs1 cells slots Q (F0 m (pc + 1) ls rest)) : W p l e R s m args below meth c H locs cells slots Q (F0 m pc ls (.int x :: .int i :: .ref a :: rest)) := by
  obtain ⟨h1, rfl⟩ := wri_e hx
  subst h2
  exact va_bast S.1 S.2.1 hK hW.1 hW.2.1 hW.2.2 q0 t0 ha ht h1 hd (fun H1 locs1 a1 a2 a3 => kk H1 locs1 ⟨a1, a2, a3⟩)
theorem q_zast (S : CallFix p m c cc nL s args lw_w own) (hK : va_K D gCl tys s) (hW : St A H0 D ws H locs) (q0 t0 : Nat) {cA : ClassId} {n a : Nat} {f g : Nat → Int32} (ha : ws[q0]? = some (a, .inl (cA, n, .inl f))) (ht : tys[t0]? = some (cA, .boolean)) {i x : Int32} (hx : wri n f i (vp_nar .boolean x) = some g) (h2 : ws.set q0 (a, .inl (cA, n, .inl g)) = ws2) (hd : decode cc pc = .ok (.bastore, 1))
    (kk : ∀ (H1 : Heap) (locs1 : List Loc), St A H0 D ws2 H1 locs1 → W p l e R s m args below meth c H1 locs1 cells slots Q (F0 m (pc + 1) ls rest)) : W p l e R s m args below meth c H locs cells slots Q (F0 m pc ls (.int x :: .int i :: .ref a :: rest)) := by
  obtain ⟨h1, rfl⟩ := wri_e hx
  subst h2
  exact va_zast S.1 S.2.1 hK hW.1 hW.2.1 hW.2.2 q0 t0 ha ht h1 hd (fun H1 locs1 a1 a2 a3 => kk H1 locs1 ⟨a1, a2, a3⟩)
theorem q_last (S : CallFix p m c cc nL s args lw_w own) (hK : va_K D gCl tys s) (hW : St A H0 D ws H locs) (q0 t0 : Nat) {cA : ClassId} {n a : Nat} {f g : Nat → Int64} (ha : ws[q0]? = some (a, .inl (cA, n, .inr (.inl f)))) (ht : tys[t0]? = some (cA, .long)) {i : Int32} {x : Int64} (hx : wrl n f i x = some g) (h2 : ws.set q0 (a, .inl (cA, n, .inr (.inl g))) = ws2) (hd : decode cc pc = .ok (.lastore, 1))
    (kk : ∀ (H1 : Heap) (locs1 : List Loc), St A H0 D ws2 H1 locs1 → W p l e R s m args below meth c H1 locs1 cells slots Q (F0 m (pc + 1) ls rest)) : W p l e R s m args below meth c H locs cells slots Q (F0 m pc ls (.long x :: .int i :: .ref a :: rest)) := by
  obtain ⟨h1, rfl⟩ := wrl_e hx
  subst h2
  exact va_last S.1 S.2.1 hK hW.1 hW.2.1 hW.2.2 q0 t0 ha ht h1 hd (fun H1 locs1 a1 a2 a3 => kk H1 locs1 ⟨a1, a2, a3⟩)
theorem q_alen (S : CallFix p m c cc nL s args lw_w own) (hK : va_K D gCl tys s) (hP : va_P D gCl ws H) (q0 t0 : Nat) {cA : ClassId} {x : vp_A} {a : Nat} (ha : ws[q0]? = some (a, .inl (cA, x))) {ty : FieldType} (ht : tys[t0]? = some (cA, ty)) {v : Int32} (hv : Int32.ofNat x.1 = v) (hd : decode cc pc = .ok (.arraylength, 1))
    (kk : W p l e R s m args below meth c H locs cells slots Q (F0 m (pc + 1) ls (.int v :: rest))) : W p l e R s m args below meth c H locs cells slots Q (F0 m pc ls (.ref a :: rest)) := va_alen S.1 S.2.1 hK hP q0 t0 ha ht hv hd kk
theorem q_idiv (S : CallFix p m c cc nL s args lw_w own) {x y z : Int32} (h : dvi x y = some z) (hd : decode cc pc = .ok (.idiv, 1)) (kk : W p l e R s m args below meth c H locs cells slots Q (F0 m (pc + 1) ls (.int z :: rest))) : W p l e R s m args below meth c H locs cells slots Q (F0 m pc ls (.int y :: .int x :: rest)) := by
  obtain ⟨h1, rfl⟩ := dvi_e h
  exact lv_idiv S.1 S.2.1 hd h1 kk
theorem q_irem (S : CallFix p m c cc nL s args lw_w own) {x y z : Int32} (h : rmi x y = some z) (hd : decode cc pc = .ok (.irem, 1)) (kk : W p l e R s m args below meth c H locs cells slots Q (F0 m (pc + 1) ls (.int z :: rest))) : W p l e R s m args below meth c H locs cells slots Q (F0 m pc ls (.int y :: .int x :: rest)) := by
  obtain ⟨h1, rfl⟩ := rmi_e h
  exact lv_irem S.1 S.2.1 hd h1 kk
theorem q_ldiv (S : CallFix p m c cc nL s args lw_w own) {x y z : Int64} (h : dvl x y = some z) (hd : decode cc pc = .ok (.ldiv, 1)) (kk : W p l e R s m args below meth c H locs cells slots Q (F0 m (pc + 1) ls (.long z :: rest))) : W p l e R s m args below meth c H locs cells slots Q (F0 m pc ls (.long y :: .long x :: rest)) := by
  obtain ⟨h1, rfl⟩ := dvl_e h
  exact lv_ldiv S.1 S.2.1 hd h1 kk
theorem q_lrem (S : CallFix p m c cc nL s args lw_w own) {x y z : Int64} (h : rml x y = some z) (hd : decode cc pc = .ok (.lrem, 1)) (kk : W p l e R s m args below meth c H locs cells slots Q (F0 m (pc + 1) ls (.long z :: rest))) : W p l e R s m args below meth c H locs cells slots Q (F0 m pc ls (.long y :: .long x :: rest)) := by
  obtain ⟨h1, rfl⟩ := rml_e h
  exact lv_lrem S.1 S.2.1 hd h1 kk
end CL
