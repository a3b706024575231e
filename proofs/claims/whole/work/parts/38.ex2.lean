def slen (k : Nat) : Option Int32 := if k < 12 then some (nI (sLen.getD k 0)) else none
theorem slen_e {k : Nat} {x : Int32} (h : slen k = some x) : k < 12 ∧ x = nI (sLen.getD k 0) := by
  unfold slen at h
  split at h
  · rename_i q; cases h; exact ⟨q, rfl⟩
  · cases h
def schr (k : Nat) (i : Int32) : Option Int32 := if k < 12 then (if i < 0 ∨ sLen.getD k 0 ≤ i.toNatClampNeg then none else some (sch k i.toNatClampNeg)) else none
theorem schr_e {k : Nat} {i x : Int32} (h : schr k i = some x) : k < 12 ∧ vp_in i (sLen.getD k 0) ∧ x = sch k i.toNatClampNeg := by
  unfold schr at h
  split at h
  · rename_i q
    split at h
    · cases h
    · rename_i q2; cases h; exact ⟨q, q2, rfl⟩
  · cases h
section CX2
variable {p : Program} {l : Launch} {e : Env} {R : Room} {s : State} {m : MethodId} {args : Array Value} {below : List Frame} {meth : Method} {c : Code} {Q : State → Prop} {pc : Nat} {ls : Array Slot} {rest : List Value} {cc : ByteArray} {nL index n : Nat} {own : String} {cells slots : Nat}
variable {D : va_G} {tys : gT} {z : Nat → Nat}
theorem q_slen {k : Nat} {x : Int32} (hx : slen k = some x) (S : CallFix p m c cc nL s args lw_w own) (hK : va_K D gCl tys s) (hX : Ex z (fun _ => False) s s.heap) (kv : KV own index yJ0_length_8abf5 cJ0_length_8abf5 1 (some .int) 0) (hs : ls.size = nL) (hW : (rest.map fun v => v.category).sum ≤ 8) (hR : 1 + 1 ≤ R.frames ∧ 8 + (1 + 11) + 64 * 1 ≤ R.locals) (hcs : cells ≤ R.cells ∧ slots ≤ R.slots) (hd : decode cc pc = .ok (.invokevirtual index, 3))
    (kk : W p l e R s m args below meth c s.heap [] cells slots Q (F0 m (pc + 3) ls (.int x :: rest))) : W p l e R s m args below meth c s.heap [] cells slots Q (F0 m pc ls (.ref (adK z k) :: rest)) := by
  obtain ⟨hk, rfl⟩ := slen_e hx
  exact RdE.cVr (c_slength hk) S hK va_P.nil hX (vk_recv hX.2.2.1 hk va_S.rf) kv rfl hs rest rfl hW hR hcs hd kk
theorem q_schr {k : Nat} {i x : Int32} (hx : schr k i = some x) (S : CallFix p m c cc nL s args lw_w own) (hK : va_K D gCl tys s) (hX : Ex z (fun _ => False) s s.heap) (kv : KV own index yJ0_charAt_5068e cJ0_charAt_5068e 2 (some .char) 1) (hs : ls.size = nL) (hW : (rest.map fun v => v.category).sum ≤ 8) (hR : 3 + 1 ≤ R.frames ∧ 8 + (2 + 11) + 64 * 3 ≤ R.locals) (hcs : cells ≤ R.cells ∧ slots ≤ R.slots) (hd : decode cc pc = .ok (.invokevirtual index, 3))
    (kk : W p l e R s m args below meth c s.heap [] cells slots Q (F0 m (pc + 3) ls (.int x :: rest))) : W p l e R s m args below meth c s.heap [] cells slots Q (F0 m pc ls (.int i :: .ref (adK z k) :: rest)) := by
  obtain ⟨hk, hin, rfl⟩ := schr_e hx
  obtain ⟨j, hj, rfl⟩ := vp_in_of hin (sLen_b k hk)
  have hb := sLen_b k hk
  rw [nI_clamp (by omega)] at kk
  exact RdE.cVr (c_charAt hk hj) S hK va_P.nil hX (vk_recv hX.2.2.1 hk va_S.rf) kv rfl hs rest rfl hW hR hcs hd kk
theorem q_stald {N t : Nat} {f : Nat → Int32} {A : Nat → Prop} {i x : Int32} (S : CallFix p m c cc nL s args lw_w own) (hT : va_T .int t N (fun j => .int (f j)) A s s.heap) (hx : rdi N f i = some x) (hd : decode cc pc = .ok (.iaload, 1))
    (kk : W p l e R s m args below meth c s.heap [] cells slots Q (F0 m (pc + 1) ls (.int x :: rest))) : W p l e R s m args below meth c s.heap [] cells slots Q (F0 m pc ls (.int i :: .ref t :: rest)) := by
  obtain ⟨h1, rfl⟩ := rdi_e hx
  exact va_ti S.1 S.2.1 hT va_S.rf h1 rfl hd kk
end CX2
