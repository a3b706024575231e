def cse {α β γ : Type} (x : α ⊕ β) (f : α → γ) (g : β → γ) : γ := match x with
  | .inl a => f a
  | .inr b => g b
theorem va_P.nil {D : va_G} {cl : List vw_C} {H : Heap} : va_P D cl [] H := fun k q h => by simp at h
section CL2
variable {p : Program} {l : Launch} {e : Env} {R : Room} {s : State} {m : MethodId} {args : Array Value} {below : List Frame} {meth : Method} {c : Code} {H : Heap} {locs : List Loc} {cells slots : Nat} {Q : State → Prop} {pc : Nat} {ls : Array Slot} {st rest : List Value} {cc : ByteArray} {nL index n : Nat} {own : String}
variable {D : va_G} {tys : gT} {ws ws2 : va_W} {A : Nat → Prop} {H0 : Heap}
theorem q_iinc {i nL' k : Nat} {n : Int} {x w : Int32} {lv lv' : List (Nat × Value)} (S : CallFix p m c cc nL s args lw_w own) (hdg : decode cc pc = .ok (.iinc i n, 3)) (h : lv_has ls nL' lv) (hk : lv[k]? = some (i, .int x)) (hw : Int32.ofInt n = w) (hn : i < nL') (hl : (i, Value.int (x + w)) :: lv.filter (fun q => !(q.1 == i) && !(q.1 + 1 == i && q.2.category == 2)) = lv')
    (kk : ∀ ls', lv_has ls' nL' lv' → W p l e R s m args below meth c H locs cells slots Q (F0 m (pc + 3) ls' rest)) : W p l e R s m args below meth c H locs cells slots Q (F0 m pc ls rest) :=
  lv_iinc (v := x + w) (k := k) S.1 S.2.1 hdg h hk (by rw [hw]) hn hl kk
theorem q_copyi (S : CallFix p m c cc nL s args lw_w own) (hl : Cond.methodLink own index arraycopyName ∈ lw_w) (hn : Cond.native arraycopyName ∈ lw_w) (hst : Cond.static arraycopyName ∈ lw_w) (hi : Cond.initialized "java/lang/System" ∈ lw_w)
    (hK : va_K D gCl tys s) (hW : St A H0 D ws H locs) (hsz : ls.size = nL) (q0 q1 t0 t1 : Nat) {a a0 : Nat} {c0 c1 : ClassId} {n0 n1 : Nat} {f g h : Nat → Int32} (ha0 : ws[q0]? = some (a0, .inl (c0, n0, .inl f))) (ha1 : ws[q1]? = some (a, .inl (c1, n1, .inl g))) (ht0 : tys[t0]? = some (c0, .int)) (ht1 : tys[t1]? = some (c1, .int))
    {sp dp n : Int32} (hx : cpi n0 n1 f g sp dp n = some h) (h2 : ws.set q1 (a, .inl (c1, n1, .inl h)) = ws2) (hframes : 1 ≤ R.frames) (hlocals : (rest.map fun v => v.category).sum + (nativeFrameWords "java/lang/System" "arraycopy" 5 + 11) ≤ R.locals) (hdg : decode cc pc = .ok (.invokestatic index, 3))
    (kk : ∀ (H1 : Heap) (locs1 : List Loc), St A H0 D ws2 H1 locs1 → W p l e R s m args below meth c H1 locs1 cells slots Q (F0 m (pc + 3) ls rest)) : W p l e R s m args below meth c H locs cells slots Q (F0 m pc ls (.int n :: .int dp :: .ref a :: .int sp :: .ref a0 :: rest)) := by
  obtain ⟨e1, e2, e3, e4, e5, rfl⟩ := cpi_e hx
  subst h2
  exact va_copyi S.1 S.2.1 (S.2.2.1.trans hsz.symm) S.2.2.2.1 (S.2.2.2.2 _ hl) (S.2.2.2.2 _ hn) (S.2.2.2.2 _ hst) (S.2.2.2.2 _ hi) hK hW.1 hW.2.1 hW.2.2 q0 q1 t0 t1 ha0 ha1 ht0 ht1 rfl e1 e2 e3 e4 e5 (fun i _ => rfl) hframes hlocals hdg (fun H1 locs1 a1 a2 a3 => kk H1 locs1 ⟨a1, a2, a3⟩)
end CL2
def gy (g : Nat → ClassId) : gT := [(g 0, .int), (g 1, .byte), (g 2, .long), (g 3, .boolean), (g 4, .object "KeptCompany$Town"), (g 5, .object "KeptCompany$Week"), (g 6, .object "KeptCompany$Log"), (g 7, .object "KeptCompany$Told")]
def wAI (g : Nat → ClassId) (q0 n : Nat) (f : Nat → Int32) : va_W := [(q0, .inl (g 0, n, .inl f))]
def wAB (g : Nat → ClassId) (q0 n : Nat) (f : Nat → Int32) : va_W := [(q0, .inl (g 1, n, .inl f))]
def wAZ (g : Nat → ClassId) (q0 n : Nat) (f : Nat → Int32) : va_W := [(q0, .inl (g 3, n, .inl f))]
def wAJ (g : Nat → ClassId) (q0 n : Nat) (f : Nat → Int64) : va_W := [(q0, .inl (g 2, n, .inr (.inl f)))]
def wTw (g : Nat → ClassId) (q0 q1 q2 q3 q4 : Nat) (xpeople : Int32) (xwit : (Nat → Int32)) (xpurse : (Nat → Int32)) (xhated : (Nat → Int32)) (xowed : (Nat → Int32)) : va_W := [(q0, .inr (7, [.int xpeople, .ref q1, .ref q2, .ref q3, .ref q4])), (q1, .inl (g 0, 6, .inl xwit)), (q2, .inl (g 0, 6, .inl xpurse)), (q3, .inl (g 0, 6, .inl xhated)), (q4, .inl (g 0, 36, .inl xowed))]
def wWe (g : Nat → ClassId) (q0 q1 : Nat) (xdeeds : Int32) (xcells : (Nat → Int32)) : va_W := [(q0, .inr (8, [.int xdeeds, .ref q1])), (q1, .inl (g 0, 160, .inl xcells))]
def wLo (g : Nat → ClassId) (q0 q1 : Nat) (xfacts : Int32) (xcells : (Nat → Int32)) : va_W := [(q0, .inr (1, [.int xfacts, .ref q1])), (q1, .inl (g 0, 24, .inl xcells))]
def wLi (g : Nat → ClassId) (q0 q1 q2 q3 q4 q5 q6 : Nat) (xpeople : Int32) (xhated : (Nat → Int32)) (xpurse : (Nat → Int32)) (xowed : (Nat → Int32)) (xseat : (Nat → Int32)) (xkept : (Nat → Int32)) (xwasKept : (Nat → Int32)) (xsilent : Int32) (xclock : Int32) (xsat : Int32) (xdone : Int32) (xfirst : Int32) (xvain : Int32) (xlent : Int32) (xforgiven : Int32) (xseed : Int32) : va_W := [(q0, .inr (0, [.int xpeople, .ref q1, .ref q2, .ref q3, .ref q4, .ref q5, .ref q6, .int xsilent, .int xclock, .int xsat, .int xdone, .int xfirst, .int xvain, .int xlent, .int xforgiven, .int xseed])), (q1, .inl (g 0, 6, .inl xhated)), (q2, .inl (g 0, 6, .inl xpurse)), (q3, .inl (g 0, 36, .inl xowed)), (q4, .inl (g 0, 6, .inl xseat)), (q5, .inl (g 0, 6, .inl xkept)), (q6, .inl (g 0, 6, .inl xwasKept))]
def wPu (g : Nat → ClassId) (q0 q1 q2 q3 q4 : Nat) (xsums : (Nat → Int32)) (xtable : (Nat → Int32)) (xonward : (Nat → Int32)) (xchances : (Nat → Int64)) : va_W := [(q0, .inr (2, [.ref q1, .ref q2, .ref q3, .ref q4])), (q1, .inl (g 0, 64, .inl xsums)), (q2, .inl (g 0, 448, .inl xtable)), (q3, .inl (g 0, 6, .inl xonward)), (q4, .inl (g 2, 13, .inr (.inl xchances)))]
def wSe (g : Nat → ClassId) (q0 q1 q2 : Nat) (xrow : (Nat → Int32)) (xdebtors : (Nat → Int32)) : va_W := [(q0, .inr (4, [.ref q1, .ref q2])), (q1, .inl (g 0, 6, .inl xrow)), (q2, .inl (g 0, 6, .inl xdebtors))]
def wSu (g : Nat → ClassId) (q0 q1 : Nat) (xsize : Int32) (xpeople : Int32) (xfound : (Nat → Int32)) : va_W := [(q0, .inr (5, [.int xsize, .int xpeople, .ref q1])), (q1, .inl (g 0, 186, .inl xfound))]
def wMd (g : Nat → ClassId) (q0 q1 q2 q3 q4 q5 q6 q7 q8 q9 q10 q11 q12 q13 q14 q15 q16 q17 q18 q19 q20 q21 q22 : Nat) (xcode : Int32) (xtape : (Nat → Int32)) (xsize : (Nat → Int32)) (xfault : (Nat → Int32)) (xfaultPlace : (Nat → Int32)) (xmany : (Nat → Int32)) (xtowns : (Nat → Int32)) (xweeks : (Nat → Int32)) (xlogs : (Nat → Int32)) (xreached : Int32) (xlength : Int32) (xbegins : Int32) (xsort : Int32) (xvalue : Int32) (xword : Int64) (xwrongAt : Int32) (xlaterFault : Int32) (xlaterPlace : Int32) (xtold : (Nat → Int32)) (xread : (Nat → Int32)) (xfarOne : Int32) (xgood : Int32) (xtown : Int32) (xpeople : Int32) (xwhen : Int32) (xsat : Int32) (xquiet : Int32) (xvain : Int32) (xlent : Int32) (xforgiven : Int32) (xsundays : Int32) (xpurse : (Nat → Int32)) (xbeside : (Nat → Int32)) (xdebts : (Nat → Int32)) (xsitting : (Nat → Int32)) (xvisited : (Nat → Int32)) (xweek : Int32) (xheaps : (Nat → Int32)) (xtaken : (Nat → Int32)) (xbest : (Nat → Int32)) (xmore : (Nat → Int32)) (xfirstOne : Int32) (xlog : Int32) (xfitting : (Nat → Int32)) (xfound : Int32) (xseed : Int32) (xrow : (Nat → Int32)) (xsaved : (Nat → Int32)) : va_W := [(q0, .inr (10, [.int xcode, .ref q1, .ref q2, .ref q3, .ref q4, .ref q5, .ref q6, .ref q7, .ref q8, .int xreached, .int xlength, .int xbegins, .int xsort, .int xvalue, .long xword, .int xwrongAt, .int xlaterFault, .int xlaterPlace, .ref q9, .ref q10, .int xfarOne, .int xgood, .int xtown, .int xpeople, .int xwhen, .int xsat, .int xquiet, .int xvain, .int xlent, .int xforgiven, .int xsundays, .ref q11, .ref q12, .ref q13, .ref q14, .ref q15, .int xweek, .ref q16, .ref q17, .ref q18, .ref q19, .int xfirstOne, .int xlog, .ref q20, .int xfound, .int xseed, .ref q21, .ref q22])), (q1, .inl (g 1, 2400, .inl xtape)), (q2, .inl (g 0, 4, .inl xsize)), (q3, .inl (g 0, 4, .inl xfault)), (q4, .inl (g 0, 4, .inl xfaultPlace)), (q5, .inl (g 0, 12, .inl xmany)), (q6, .inl (g 0, 440, .inl xtowns)), (q7, .inl (g 0, 1288, .inl xweeks)), (q8, .inl (g 0, 200, .inl xlogs)), (q9, .inl (g 0, 161, .inl xtold)), (q10, .inl (g 0, 4, .inl xread)), (q11, .inl (g 0, 6, .inl xpurse)), (q12, .inl (g 0, 6, .inl xbeside)), (q13, .inl (g 0, 36, .inl xdebts)), (q14, .inl (g 0, 6, .inl xsitting)), (q15, .inl (g 0, 6, .inl xvisited)), (q16, .inl (g 0, 64, .inl xheaps)), (q17, .inl (g 0, 6, .inl xtaken)), (q18, .inl (g 0, 448, .inl xbest)), (q19, .inl (g 0, 729, .inl xmore)), (q20, .inl (g 0, 192, .inl xfitting)), (q21, .inl (g 0, 6, .inl xrow)), (q22, .inl (g 3, 3, .inl xsaved))]
def wMdo (g : Nat → ClassId) (q0 q1 q2 q3 q4 q5 q6 q7 q8 q9 q10 q11 q12 q13 q14 q15 q16 q17 q18 q19 q20 q21 q22 : Nat) (xcode : Int32) (xreached : Int32) (xlength : Int32) (xbegins : Int32) (xsort : Int32) (xvalue : Int32) (xword : Int64) (xwrongAt : Int32) (xlaterFault : Int32) (xlaterPlace : Int32) (xtold : (Nat → Int32)) (xfarOne : Int32) (xgood : Int32) (xtown : Int32) (xpeople : Int32) (xwhen : Int32) (xsat : Int32) (xquiet : Int32) (xvain : Int32) (xlent : Int32) (xforgiven : Int32) (xsundays : Int32) (xweek : Int32) (xfirstOne : Int32) (xlog : Int32) (xfound : Int32) (xseed : Int32) : va_W := [(q0, .inr (10, [.int xcode, .ref q1, .ref q2, .ref q3, .ref q4, .ref q5, .ref q6, .ref q7, .ref q8, .int xreached, .int xlength, .int xbegins, .int xsort, .int xvalue, .long xword, .int xwrongAt, .int xlaterFault, .int xlaterPlace, .ref q9, .ref q10, .int xfarOne, .int xgood, .int xtown, .int xpeople, .int xwhen, .int xsat, .int xquiet, .int xvain, .int xlent, .int xforgiven, .int xsundays, .ref q11, .ref q12, .ref q13, .ref q14, .ref q15, .int xweek, .ref q16, .ref q17, .ref q18, .ref q19, .int xfirstOne, .int xlog, .ref q20, .int xfound, .int xseed, .ref q21, .ref q22])), (q9, .inl (g 0, 161, .inl xtold))]
theorem bp_m2 : (Int8.ofInt (-2)).toInt32 = (-2) := by decide
theorem bp_6 : (Int8.ofInt 6).toInt32 = 6 := by decide
theorem bp_7 : (Int8.ofInt 7).toInt32 = 7 := by decide
theorem bp_8 : (Int8.ofInt 8).toInt32 = 8 := by decide
theorem bp_9 : (Int8.ofInt 9).toInt32 = 9 := by decide
theorem bp_10 : (Int8.ofInt 10).toInt32 = 10 := by decide
theorem bp_12 : (Int8.ofInt 12).toInt32 = 12 := by decide
theorem bp_13 : (Int8.ofInt 13).toInt32 = 13 := by decide
theorem bp_16 : (Int8.ofInt 16).toInt32 = 16 := by decide
theorem bp_19 : (Int8.ofInt 19).toInt32 = 19 := by decide
theorem bp_20 : (Int8.ofInt 20).toInt32 = 20 := by decide
theorem bp_24 : (Int8.ofInt 24).toInt32 = 24 := by decide
theorem bp_25 : (Int8.ofInt 25).toInt32 = 25 := by decide
theorem bp_30 : (Int8.ofInt 30).toInt32 = 30 := by decide
theorem bp_32 : (Int8.ofInt 32).toInt32 = 32 := by decide
theorem bp_36 : (Int8.ofInt 36).toInt32 = 36 := by decide
theorem bp_40 : (Int8.ofInt 40).toInt32 = 40 := by decide
theorem bp_48 : (Int8.ofInt 48).toInt32 = 48 := by decide
theorem bp_50 : (Int8.ofInt 50).toInt32 = 50 := by decide
theorem bp_55 : (Int8.ofInt 55).toInt32 = 55 := by decide
theorem bp_57 : (Int8.ofInt 57).toInt32 = 57 := by decide
theorem bp_59 : (Int8.ofInt 59).toInt32 = 59 := by decide
theorem bp_60 : (Int8.ofInt 60).toInt32 = 60 := by decide
theorem bp_63 : (Int8.ofInt 63).toInt32 = 63 := by decide
theorem bp_64 : (Int8.ofInt 64).toInt32 = 64 := by decide
theorem bp_97 : (Int8.ofInt 97).toInt32 = 97 := by decide
theorem bp_99 : (Int8.ofInt 99).toInt32 = 99 := by decide
theorem bp_100 : (Int8.ofInt 100).toInt32 = 100 := by decide
theorem bp_110 : (Int8.ofInt 110).toInt32 = 110 := by decide
theorem bp_122 : (Int8.ofInt 122).toInt32 = 122 := by decide
theorem ic_m8 : Int32.ofInt (-8) = (-8) := by decide
theorem ic_m1 : Int32.ofInt (-1) = (-1) := by decide
theorem ic_0 : Int32.ofInt 0 = 0 := by decide
theorem ic_1 : Int32.ofInt 1 = 1 := by decide
theorem ic_2 : Int32.ofInt 2 = 2 := by decide
theorem ic_3 : Int32.ofInt 3 = 3 := by decide
theorem ic_4 : Int32.ofInt 4 = 4 := by decide
theorem ic_5 : Int32.ofInt 5 = 5 := by decide
theorem ic_6 : Int32.ofInt 6 = 6 := by decide
theorem sp_m999 : (Int16.ofInt (-999)).toInt32 = (-999) := by decide
theorem sp_160 : (Int16.ofInt 160).toInt32 = 160 := by decide
theorem sp_161 : (Int16.ofInt 161).toInt32 = 161 := by decide
theorem sp_186 : (Int16.ofInt 186).toInt32 = 186 := by decide
theorem sp_192 : (Int16.ofInt 192).toInt32 = 192 := by decide
theorem sp_200 : (Int16.ofInt 200).toInt32 = 200 := by decide
theorem sp_255 : (Int16.ofInt 255).toInt32 = 255 := by decide
theorem sp_322 : (Int16.ofInt 322).toInt32 = 322 := by decide
theorem sp_384 : (Int16.ofInt 384).toInt32 = 384 := by decide
theorem sp_440 : (Int16.ofInt 440).toInt32 = 440 := by decide
theorem sp_448 : (Int16.ofInt 448).toInt32 = 448 := by decide
theorem sp_600 : (Int16.ofInt 600).toInt32 = 600 := by decide
theorem sp_729 : (Int16.ofInt 729).toInt32 = 729 := by decide
theorem sp_1288 : (Int16.ofInt 1288).toInt32 = 1288 := by decide
theorem sp_2400 : (Int16.ofInt 2400).toInt32 = 2400 := by decide
theorem sp_12345 : (Int16.ofInt 12345).toInt32 = 12345 := by decide
