/-! ===== the law's calls ===== -/
/-- a call that the law makes: whatever stands beside it in the world stays -/
def LCl (l : Launch) (D : va_G) (g : Nat → ClassId) (z : Nat → Nat) (mc ms : Nat) (index : Nat) (As : List Value) (b : Nat) (wc : va_W) (r : Value) (Post : va_W → Prop) : Prop :=
  ∀ (p : Program) (e : Env) (s : State) (m : MethodId) (args : Array Value) (below : List Frame) (meth : Method) (c : Code) (H : Heap) (locs : List Loc) (cells slots : Nat) (Q : State → Prop) (pc : Nat) (ls : Array Slot) (rest : List Value) (wr : va_W) (A : Nat → Prop),
    CallFix p m c cL_law 4 s args lw_w RL → va_K D gCl (gy g) s → Ex z A s s.heap → Nz s → (∀ q : Nat, s.heap.size ≤ q → A q) → ls.size = 4 → (rest.map fun v => v.category).sum ≤ 8 → (cells + mc ≤ room_1.cells ∧ slots + ms ≤ room_1.slots) → decode cL_law pc = .ok (.invokevirtual index, 3) → St A s.heap D (wc ++ wr) H locs →
    (∀ (wc' : va_W) (H1 : Heap) (locs1 : List Loc), Post wc' → St A s.heap D (wc' ++ wr) H1 locs1 → W p l e room_1 s m args below meth c H1 locs1 (cells + mc) (slots + ms) Q (F0 m (pc + 3) ls (r :: rest))) →
    W p l e room_1 s m args below meth c H locs cells slots Q (F0 m pc ls (As.reverse ++ .ref b :: rest))
section LCS
variable {l : Launch} {D : va_G} {g : Nat → ClassId} {z : Nat → Nat} {mc ms index n : Nat} {y : MethodName} {cc' : ByteArray} {nL' d' : Nat} {ret' : Option FieldType} {As : List Value} {b : Nat} {wc wc2 wx : va_W} {r : Value} {Post : va_W → Prop} {ci q0 N : Nat} {fs : List Value} {T : u_T}
theorem LCl.ofRd (hM : Rd l D (gy g) y cc' nL' ret' d' (.ref b :: As) wc (some r)) (he : wc[q0]? = some (b, .inr (ci, fs))) (hc : gCl[ci]? = some (y.cls, T, N)) (k : KV RL index y cc' nL' ret' n) (hn : As.length = n) (hR : d' + 1 ≤ room_1.frames ∧ 8 + (nL' + 11) + 64 * d' ≤ room_1.locals) (hP : Post wc) : LCl l D g z mc ms index As b wc r Post := by
  intro p e s m args below meth c H locs cells slots Q pc ls rest wr A S hK hX hN hA hs hrs hcs hd h kk
  refine Rd.cV hM S hK h.1.l q0 ci he hc k hn hs rest rfl hrs hR ⟨by omega, by omega⟩ hd ?_
  exact W.widen (k := cells + mc) (n := slots + ms) (by omega) (by omega) (kk wc H locs hP h)
theorem LCl.ofRdE (hM : RdE l D (gy g) y cc' nL' ret' d' z (.ref b :: As) wc (some r)) (he : wc[q0]? = some (b, .inr (ci, fs))) (hc : gCl[ci]? = some (y.cls, T, N)) (k : KV RL index y cc' nL' ret' n) (hn : As.length = n) (hR : d' + 1 ≤ room_1.frames ∧ 8 + (nL' + 11) + 64 * d' ≤ room_1.locals) (hP : Post wc) : LCl l D g z mc ms index As b wc r Post := by
  intro p e s m args below meth c H locs cells slots Q pc ls rest wr A S hK hX hN hA hs hrs hcs hd h kk
  refine RdE.cV hM S hK h.1.l (hX.rd h.2.2) q0 ci he hc k hn hs rest rfl hrs hR ⟨by omega, by omega⟩ hd ?_
  exact W.widen (k := cells + mc) (n := slots + ms) (by omega) (by omega) (kk wc H locs hP h)
theorem LCl.ofWr (hM : Wr l D (gy g) y cc' nL' ret' d' (.ref b :: As) wc wc2 (some r)) (he : wc[q0]? = some (b, .inr (ci, fs))) (hc : gCl[ci]? = some (y.cls, T, N)) (k : KV RL index y cc' nL' ret' n) (hn : As.length = n) (hR : d' + 1 ≤ room_1.frames ∧ 8 + (nL' + 11) + 64 * d' ≤ room_1.locals) (hP : Post wc2) : LCl l D g z mc ms index As b wc r Post := by
  intro p e s m args below meth c H locs cells slots Q pc ls rest wr A S hK hX hN hA hs hrs hcs hd h kk
  refine Wr.goA (Wr.runV hM S hK h.1.l h.2.1.l q0 ci he hc k hn hs rest rfl hrs hR ⟨by omega, by omega⟩ hd) h hA (fun H1 locs1 h1 => ?_)
  exact W.widen (k := cells + mc) (n := slots + ms) (by omega) (by omega) (kk wc2 H1 locs1 hP h1)
theorem LCl.ofWrE (hM : WrE l D (gy g) y cc' nL' ret' d' z (.ref b :: As) wc wc2 (some r)) (he : wc[q0]? = some (b, .inr (ci, fs))) (hc : gCl[ci]? = some (y.cls, T, N)) (k : KV RL index y cc' nL' ret' n) (hn : As.length = n) (hR : d' + 1 ≤ room_1.frames ∧ 8 + (nL' + 11) + 64 * d' ≤ room_1.locals) (hP : Post wc2) : LCl l D g z mc ms index As b wc r Post := by
  intro p e s m args below meth c H locs cells slots Q pc ls rest wr A S hK hX hN hA hs hrs hcs hd h kk
  refine Wr.goA (WrE.runV hM S hK h.1.l h.2.1.l hX h.2.2 hA q0 ci he hc k hn hs rest rfl hrs hR ⟨by omega, by omega⟩ hd) h hA (fun H1 locs1 h1 => ?_)
  exact W.widen (k := cells + mc) (n := slots + ms) (by omega) (by omega) (kk wc2 H1 locs1 hP h1)
theorem LCl.ofMkI {W' : (Nat → Nat) → va_W} (hM : MkI l D (gy g) y cc' nL' ret' d' (.ref b :: As) wc W' (some r) mc ms) (he : wc[q0]? = some (b, .inr (ci, fs))) (hc : gCl[ci]? = some (y.cls, T, N)) (k : KV RL index y cc' nL' ret' n) (hn : As.length = n) (hR : d' + 1 ≤ room_1.frames ∧ 8 + (nL' + 11) + 64 * d' ≤ room_1.locals) (hP : ∀ q, Post (W' q)) : LCl l D g z mc ms index As b wc r Post := by
  intro p e s m args below meth c H locs cells slots Q pc ls rest wr A S hK hX hN hA hs hrs hcs hd h kk
  have hr := W.runV (n := n) (rest := rest) (H := H) (locs := locs) (cells := cells) (slots := slots) (g := F0 m pc ls (As.reverse ++ .ref b :: rest)) (below := below) (meth := meth) (e := e) S (hM H.size) (KV.cw (rm := rmC d' mc ms) k S.2.2.2.2 hR) ⟨Mk.blind, va_recv hK h.1.l hc he, fun U hU hW => ⟨rfl, by rw [hU], by rw [hU]; exact h.1.l, va_K.moved hW.alike hK, h.2.1.l.weaken (fun _ _ _ _ => trivial), hN.warm hW⟩⟩ rfl hn hs rfl (lv_room hrs) hd hcs
  exact Mk.goA hr h hA (fun q H1 locs1 h1 => kk (W' q) H1 locs1 (hP q) h1)
theorem LCl.frame (h : LCl l D g z mc ms index As b wc r Post) : LCl l D g z mc ms index As b (wc ++ wx) r (fun w => ∃ w', Post w' ∧ w = w' ++ wx) := by
  intro p e s m args below meth c H locs cells slots Q pc ls rest wr A S hK hX hN hA hs hrs hcs hd hS kk
  rw [List.append_assoc] at hS
  refine h p e s m args below meth c H locs cells slots Q pc ls rest (wx ++ wr) A S hK hX hN hA hs hrs hcs hd hS (fun wc' H1 locs1 h1 h2 => ?_)
  refine kk (wc' ++ wx) H1 locs1 ⟨wc', h1, rfl⟩ ?_
  rw [List.append_assoc]
  exact h2
theorem LCl.mono {Post2 : va_W → Prop} (h : LCl l D g z mc ms index As b wc r Post) (hp : ∀ w, Post w → Post2 w) : LCl l D g z mc ms index As b wc r Post2 := by
  intro p e s m args below meth c H locs cells slots Q pc ls rest wr A S hK hX hN hA hs hrs hcs hd hS kk
  exact h p e s m args below meth c H locs cells slots Q pc ls rest wr A S hK hX hN hA hs hrs hcs hd hS (fun wc' H1 locs1 h1 h2 => kk wc' H1 locs1 (hp _ h1) h2)
theorem LCl.perm (h : LCl l D g z mc ms index As b wc r Post) (hp : wc2.Perm wc) : LCl l D g z mc ms index As b wc2 r Post := by
  intro p e s m args below meth c H locs cells slots Q pc ls rest wr A S hK hX hN hA hs hrs hcs hd hS kk
  exact h p e s m args below meth c H locs cells slots Q pc ls rest wr A S hK hX hN hA hs hrs hcs hd (hS.permL (hp.append_right wr)) kk
end LCS
