/-! ===== worlds side by side ===== -/
theorem va_P.l {D : va_G} {cl : List vw_C} {a b : va_W} {H : Heap} (h : va_P D cl (a ++ b) H) : va_P D cl a H := by
  intro k q hk
  obtain ⟨i, hi⟩ := List.getElem?_of_mem (List.mem_append_left b (List.mem_of_getElem? hk))
  exact h i q hi
theorem va_P.r {D : va_G} {cl : List vw_C} {a b : va_W} {H : Heap} (h : va_P D cl (a ++ b) H) : va_P D cl b H := by
  intro k q hk
  obtain ⟨i, hi⟩ := List.getElem?_of_mem (List.mem_append_right a (List.mem_of_getElem? hk))
  exact h i q hi
theorem va_D.nodup {A : Nat → Prop} {ws : va_W} (h : va_D A ws) : (ws.map (fun q => q.1)).Nodup := by
  rw [List.nodup_iff_pairwise_ne, List.pairwise_iff_getElem]
  intro i j hi hj hij he
  rw [List.length_map] at hi hj
  rw [List.getElem_map, List.getElem_map] at he
  have := h.1 i j ws[i] ws[j] (List.getElem?_eq_getElem hi) (List.getElem?_eq_getElem hj) he
  omega
theorem va_D.ofNodup {A : Nat → Prop} {ws : va_W} (h : (ws.map (fun q => q.1)).Nodup) (hA : ∀ q ∈ ws, A q.1) : va_D A ws := by
  refine ⟨fun i j x y hi hj hxy => ?_, fun k q hk => hA q (List.mem_of_getElem? hk)⟩
  rw [List.nodup_iff_pairwise_ne, List.pairwise_iff_getElem] at h
  obtain ⟨hi', ei⟩ := List.getElem?_eq_some_iff.mp hi
  obtain ⟨hj', ej⟩ := List.getElem?_eq_some_iff.mp hj
  rcases Nat.lt_trichotomy i j with q | q | q
  · have := h i j (by rw [List.length_map]; exact hi') (by rw [List.length_map]; exact hj') q
    rw [List.getElem_map, List.getElem_map, ei, ej] at this
    exact absurd hxy this
  · exact q
  · have := h j i (by rw [List.length_map]; exact hj') (by rw [List.length_map]; exact hi') q
    rw [List.getElem_map, List.getElem_map, ei, ej] at this
    exact absurd hxy.symm this
theorem St.permL {A : Nat → Prop} {H0 H : Heap} {D : va_G} {ws ws' : va_W} {locs : List Loc} (h : St A H0 D ws H locs) (hp : ws.Perm ws') : St A H0 D ws' H locs := by
  refine ⟨fun k q hk => ?_, va_D.ofNodup ((hp.map _).nodup_iff.mp h.2.1.nodup) (fun q hq => ?_), h.2.2⟩
  · obtain ⟨i, hi⟩ := List.getElem?_of_mem (hp.mem_iff.mpr (List.mem_of_getElem? hk))
    exact h.1 i q hi
  · obtain ⟨i, hi⟩ := List.getElem?_of_mem (hp.mem_iff.mpr hq)
    exact h.2.1.2 i q hi
theorem va_D.l {A : Nat → Prop} {a b : va_W} (h : va_D A (a ++ b)) : va_D A a := va_D.ofNodup (by have := h.nodup; rw [List.map_append] at this; exact (List.nodup_append.mp this).1) (fun q hq => by
  obtain ⟨i, hi⟩ := List.getElem?_of_mem (List.mem_append_left b hq)
  exact h.2 i q hi)
theorem va_D.r {A : Nat → Prop} {a b : va_W} (h : va_D A (a ++ b)) : va_D A b := va_D.ofNodup (by have := h.nodup; rw [List.map_append] at this; exact (List.nodup_append.mp this).2.1) (fun q hq => by
  obtain ⟨i, hi⟩ := List.getElem?_of_mem (List.mem_append_right a hq)
  exact h.2 i q hi)
theorem va_D.apart {A : Nat → Prop} {a b : va_W} (h : va_D A (a ++ b)) : ∀ x ∈ a, ∀ y ∈ b, x.1 ≠ y.1 := by
  intro x hx y hy
  have := h.nodup
  rw [List.map_append] at this
  exact (List.nodup_append.mp this).2.2 x.1 (List.mem_map.mpr ⟨x, hx, rfl⟩) y.1 (List.mem_map.mpr ⟨y, hy, rfl⟩)
/-- what a call does to the first part of a world -/
theorem St.afterA {A : Nat → Prop} {H0 H H1 : Heap} {D : va_G} {wc wc' wr : va_W} {locs L : List Loc} {st₀ t : State} (h : St A H0 D (wc ++ wr) H locs) (hA : ∀ q : Nat, H0.size ≤ q → A q) (h0 : st₀.heap = H) (h1 : H1 = t.heap) (hP1 : va_P D gCl wc' t.heap) (hD1 : va_D (va_A wc H.size) wc') (hF : va_F (va_A wc H.size) st₀ t) (hL : ∀ q ∈ L, va_A wc H.size q.base) : St A H0 D (wc' ++ wr) H1 (locs ++ L) := by
  obtain ⟨hP, hD, hS⟩ := h
  subst h0
  subst h1
  have hDl := hD.l
  have hap := hD.apart
  have hfr : ∀ q, va_A wc st₀.heap.size q → A q := fun q hq => by
    rcases hq with ⟨k, e2, hq⟩ | hq
    · exact hDl.2 k _ hq
    · exact hA q (Nat.le_trans hS.1 hq)
  have hout : ∀ y ∈ wr, y.1 < st₀.heap.size ∧ ¬ va_A wc st₀.heap.size y.1 := by
    intro y hy
    obtain ⟨i, hi⟩ := List.getElem?_of_mem hy
    have hl := (hP.r i y hi).lt
    refine ⟨hl, fun hq => ?_⟩
    rcases hq with ⟨k, e2, hq⟩ | hq
    · exact hap (y.1, e2) (List.mem_of_getElem? hq) y hy rfl
    · omega
  refine ⟨va_P.app hP1 (fun k q hk => ?_), va_D.app (hD1.weaken (fun k q _ h => hfr q.1 h)) hD.r (fun i j x y hx hy hxy => ?_), Nat.le_trans hS.1 hF.1, fun q h1 h2 => ?_, fun q hq => ?_⟩
  · have hm := List.mem_of_getElem? hk
    exact (hP.r k q hk).kept (hF.2 q.1 (hout q hm).1 (hout q hm).2)
  · exact (hout y (List.mem_of_getElem? hy)).2 (by rw [← hxy]; exact hD1.2 i x hx)
  · rw [hF.2 q (Nat.lt_of_lt_of_le h1 hS.1) (fun z => h2 (hfr q z))]
    exact hS.2.1 q h1 h2
  · rcases List.mem_append.mp hq with h | h
    · exact hS.2.2 q h
    · exact hfr _ (hL q h)
section GOA
variable {p : Program} {l : Launch} {e : Env} {R : Room} {s : State} {m : MethodId} {args : Array Value} {below : List Frame} {meth : Method} {c : Code} {H : Heap} {locs : List Loc} {cells slots mc ms : Nat} {Q : State → Prop} {pc : Nat} {ls : Array Slot} {st rest : List Value}
variable {D : va_G} {wc wc' wr : va_W} {v : Option Value} {A : Nat → Prop} {H0 : Heap}
theorem Wr.goA (hr : CallRun p l e R s m args below meth c H locs cells slots 0 0 (F0 m pc ls st) rest (fun st o t => (o = .returned v ∧ va_P D gCl wc' t.heap ∧ va_D (va_A wc H.size) wc') ∧ va_F (va_A wc H.size) st t) (va_A wc H.size))
    (h : St A H0 D (wc ++ wr) H locs) (hA : ∀ q : Nat, H0.size ≤ q → A q)
    (kk : ∀ (H1 : Heap) (locs1 : List Loc), St A H0 D (wc' ++ wr) H1 locs1 → W p l e R s m args below meth c H1 locs1 cells slots Q (F0 m (pc + 3) ls (v.toList ++ rest))) : W p l e R s m args below meth c H locs cells slots Q (F0 m pc ls st) := by
  intro T hT X
  obtain ⟨v', st₀, t, T', L, h0, X', hL, e1, ⟨⟨hv, hP1, hD1⟩, hF⟩, st⟩ := hr T hT X
  cases hv
  obtain ⟨t2, a1, b1⟩ := kk T'.heap (locs ++ L) (St.afterA h hA h0 e1 hP1 hD1 hF hL) T' rfl X'
  exact ⟨t2, st t2 a1, b1⟩
theorem Mk.goA {W' : (Nat → Nat) → va_W} (hr : CallRun p l e R s m args below meth c H locs cells slots mc ms (F0 m pc ls st) rest (fun st o t => (o = .returned v ∧ ∃ q : Nat → Nat, va_P D gCl (W' q) t.heap ∧ va_D (va_A wc H.size) (W' q)) ∧ va_F (va_A wc H.size) st t) (va_A wc H.size))
    (h : St A H0 D (wc ++ wr) H locs) (hA : ∀ q : Nat, H0.size ≤ q → A q)
    (kk : ∀ (q : Nat → Nat) (H1 : Heap) (locs1 : List Loc), St A H0 D (W' q ++ wr) H1 locs1 → W p l e R s m args below meth c H1 locs1 (cells + mc) (slots + ms) Q (F0 m (pc + 3) ls (v.toList ++ rest))) : W p l e R s m args below meth c H locs cells slots Q (F0 m pc ls st) := by
  intro T hT X
  obtain ⟨v', st₀, t, T', L, h0, X', hL, e1, ⟨⟨hv, q, hP1, hD1⟩, hF⟩, st⟩ := hr T hT X
  cases hv
  obtain ⟨t2, a1, b1⟩ := kk q T'.heap (locs ++ L) (St.afterA h hA h0 e1 hP1 hD1 hF hL) T' rfl X'
  exact ⟨t2, st t2 a1, b1⟩
end GOA
/-! ===== a method that answers an int and makes cells ===== -/
def MkI (l : Launch) (D : va_G) (tys : gT) (y : MethodName) (cc : ByteArray) (nL : Nat) (ret : Option FieldType) (d : Nat) (av : List Value) (w0 : va_W) (W' : (Nat → Nat) → va_W) (v : Option Value) (mc ms : Nat) : Prop :=
  ∀ sz : Nat, Met l y (tw y cc nL ret) (rmC d mc ms) (va_Pc av (fun U => U.heap.size = sz ∧ va_P D gCl w0 U.heap ∧ va_K D gCl tys U ∧ va_D (fun _ => True) w0 ∧ Nz U)) (fun _ st o t => (o = .returned v ∧ ∃ q : Nat → Nat, va_P D gCl (W' q) t.heap ∧ va_D (va_A w0 sz) (W' q)) ∧ va_F (va_A w0 sz) st t) mc ms (va_A w0 sz)
section MKI
variable {l : Launch} {D : va_G} {tys : gT} {y : MethodName} {cc : ByteArray} {nL d mc ms : Nat} {av : List Value} {w0 : va_W} {W' : (Nat → Nat) → va_W}
theorem MkI.ofZ {r : Int32} (hy : plainName y.cls = true) (hn : (lg_sl av).length ≤ nL)
    (body : ∀ (p : Program) (e : Env) (s : State) (m : MethodId) (args : Array Value) (below : List Frame) (meth : Method) (c : Code) (Q : State → Prop) (A : Nat → Prop), CallFix p m c cc nL s args lw_w y.cls → va_K D gCl tys s → (∀ q : Nat, s.heap.size ≤ q → A q) → Nz s →
      (∀ (pc : Nat) (ls : Array Slot) (H : Heap) (locs : List Loc) (q : Nat → Nat) (cells slots : Nat), (r = 0 ∨ r = 1) → cells ≤ mc → slots ≤ ms → decode cc pc = .ok (.ireturn, 1) → St A s.heap D (W' q) H locs → W p l e (rmC d mc ms) s m args below meth c H locs cells slots Q (F0 m pc ls [.int r])) → ∀ ls : Array Slot, lv_has ls nL (lv_args 0 av) → St A s.heap D w0 s.heap [] → W p l e (rmC d mc ms) s m args below meth c s.heap [] 0 0 Q (F0 m 0 ls [])) : MkI l D tys y cc nL (some .boolean) d av w0 W' (some (.int r)) mc ms := by
  intro sz
  refine Met.ofW (cc := cc) (maxL := nL) (ret := some .boolean) hy rfl ?_
  intro p e s m args below meth c s₁ B hml hv
  obtain ⟨rfl, hsz, hP, hK, hD0, hN⟩ := hv
  subst hsz
  have hts := atoms_spec (ws := tw y cc nL (some .boolean)) B.pre
  have hown : s.vm.findClass y.cls = some m.cls := findClass_of_methodNamed B.named
  have hl := lv_entry av (n := nL) hn
  have hlocks := B.notSynchronized
  have hr := B.returns
  rw [lg_entry_eq]
  have S : CallFix p m c cc nL s av.toArray lw_w y.cls := ⟨B.exec, B.bytes, hml, hown, fun w h => hts w (List.mem_cons_of_mem _ h)⟩
  refine body p e s m _ below meth c _ (va_A w0 s.heap.size) S hK (fun q h => Or.inr h) hN (fun pc ls H locs q cells slots hz h1 h2 hd h => ?_) _ hl ⟨hP, hD0.self (sz := s.heap.size), va_S.rf⟩
  refine W.widen h1 h2 ?_
  exact W.zret S.1 S.2.1 hr (by rcases hz with h | h <;> rw [h] <;> rfl) (fun t ht hW => ⟨⟨rfl, q, by rw [ht]; exact h.1, h.2.1⟩, h.2.2.F ht⟩) h.2.2.2.2 hd hlocks
end MKI
def rdq (n : Nat) (i : Int32) : Option Unit := if i < 0 ∨ n ≤ i.toNatClampNeg then none else some ()
theorem rdq_e {n : Nat} {i : Int32} {x : Unit} (h : rdq n i = some x) : vp_in i n := by
  unfold rdq at h
  split at h
  · cases h
  · rename_i q; exact q
section QAL
variable {p : Program} {l : Launch} {e : Env} {R : Room} {s : State} {m : MethodId} {args : Array Value} {below : List Frame} {meth : Method} {c : Code} {H : Heap} {locs : List Loc} {cells slots : Nat} {Q : State → Prop} {pc : Nat} {ls : Array Slot} {rest : List Value} {cc : ByteArray} {nL : Nat} {own : String}
variable {D : va_G} {tys : gT} {ws : va_W}
theorem q_qalds (S : CallFix p m c cc nL s args lw_w own) (hK : va_K D gCl tys s) (hP : va_P D gCl ws H) (q0 t0 : Nat) {cA : ClassId} {C : String} {a n b : Nat} {f : Nat → Option Nat} (ha : ws[q0]? = some (a, .inl (cA, n, .inr (.inr (.inr (.inr f)))))) (ht : tys[t0]? = some (cA, .object C)) {i : Int32} {x : Unit} (hx : rdq n i = some x) (hq : f i.toNatClampNeg = some b) (hd : decode cc pc = .ok (.aaload, 1))
    (kk : W p l e R s m args below meth c H locs cells slots Q (F0 m (pc + 1) ls (.ref b :: rest))) : W p l e R s m args below meth c H locs cells slots Q (F0 m pc ls (.int i :: .ref a :: rest)) :=
  va_aldq S.1 S.2.1 hK hP q0 t0 ha ht (rdq_e hx) hd (by rw [hq]; exact kk)
theorem q_qaldn (S : CallFix p m c cc nL s args lw_w own) (hK : va_K D gCl tys s) (hP : va_P D gCl ws H) (q0 t0 : Nat) {cA : ClassId} {C : String} {a n : Nat} {f : Nat → Option Nat} (ha : ws[q0]? = some (a, .inl (cA, n, .inr (.inr (.inr (.inr f)))))) (ht : tys[t0]? = some (cA, .object C)) {i : Int32} {x : Unit} (hx : rdq n i = some x) (hq : f i.toNatClampNeg = none) (hd : decode cc pc = .ok (.aaload, 1))
    (kk : W p l e R s m args below meth c H locs cells slots Q (F0 m (pc + 1) ls (.null :: rest))) : W p l e R s m args below meth c H locs cells slots Q (F0 m pc ls (.int i :: .ref a :: rest)) :=
  va_aldq S.1 S.2.1 hK hP q0 t0 ha ht (rdq_e hx) hd (by rw [hq]; exact kk)
end QAL
theorem fa_lt0 (a : Int32) : (¬ a < 0) = (0 ≤ a.toInt) := by
  rw [Int32.lt_iff_toInt_lt]
  exact propext Int.not_lt
theorem fa_lt3 (a : Int32) : (a < 3) = (a.toInt < 3) := by
  rw [Int32.lt_iff_toInt_lt]
  rfl
