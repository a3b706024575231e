/-! ===== the law's loop ===== -/
theorem and63 (x : Int32) : ∃ k, k < 64 ∧ x &&& 63 = nI k := by
  refine ⟨(x &&& 63).toBitVec.toNat, ?_, ?_⟩
  · show (x.toBitVec &&& 63#32).toNat < 64
    rw [BitVec.toNat_and]
    exact Nat.lt_succ_of_le Nat.and_le_right
  · apply Int32.toBitVec_inj.1
    show (x &&& 63).toBitVec = BitVec.ofNat 32 (x &&& 63).toBitVec.toNat
    exact (BitVec.ofNat_toNat _ _ ▸ by simp)
theorem nI6 : ∀ L, L < 6 → nI L - 6 < 0 := by decide
theorem law_more {L i : Nat} (hL : L ≤ 3072) (hi : i ≤ L) (h : ¬ Int32.ofNat L - 6 < nI i) : i + 6 ≤ L := by
  have h : ¬ nI L - 6 < nI i := h
  rcases Nat.lt_or_ge L 6 with q | q
  · refine absurd ?_ h
    have a := nI6 L q
    have b : ¬ nI i < 0 := nI_pos (by omega)
    rw [Int32.lt_iff_toInt_lt] at a b ⊢
    omega
  · rw [show (6 : Int32) = nI 6 from rfl, pk_sub q] at h
    rcases Nat.lt_or_ge (L - 6) i with w | w
    · exact absurd (nI_lt w (by omega)) h
    · omega
theorem law_out : ∀ k, k < 64 → ¬ k < 36 → (35 : Int) < (nI k).toInt := by decide
section LOP
variable {p : Program} {l : Launch} {e : Env} {s : State} {m : MethodId} {below : List Frame} {meth : Method} {c : Code} {D : va_G} {g : Nat → ClassId} {z : Nat → Nat} {b L : Nat} {xs : Nat → Int32} {h0 h1 : Nat}
set_option maxHeartbeats 4000000 in
set_option maxRecDepth 100000 in
theorem law_loop (X : LawCx p s m c D g z (fun q : Nat => s.heap.size ≤ q) b L xs) (hrt : meth.sig.returnType = ret) (hlocks : meth.locks = false) :
    ∀ (n i : Nat) (cells slots : Nat) (wc wm : va_W) (H : Heap) (locs : List Loc) (ls : Array Slot), i ≤ L → L < i + 6 * n → cells + 24 * n ≤ room_1.cells → slots + 1111 * n ≤ room_1.slots → Inv g h0 h1 wc wm → St (fun q : Nat => s.heap.size ≤ q) s.heap D (wc ++ wm) H locs → lv_has ls 4 [(0, .ref b), (1, .ref h0), (2, .ref h1), (3, .int (nI i))] → W p l e room_1 s m #[Value.ref b] below meth c H locs cells slots (lw_Z below #[Value.ref b] s) (F0 m 18 ls []) := by
  have X0 := X
  obtain ⟨S, hK, hX, hN, hA, hx, hb, hbA, hL⟩ := X
  intro n
  induction n with
  | zero => intro i cells slots wc wm H locs ls h1 h2; exact absurd h2 (by omega)
  | succ n ih =>
    intro i cells slots wc wm H locs ls hi hin hc1 hc2 hI hSt hl
    refine lv_iload_n S.1 S.2.1 dL_law_18 rfl (lv_at hl 3 rfl) ?_
    refine lv_aload_n S.1 S.2.1 dL_law_19 rfl (lv_at hl 0 rfl) ?_
    refine va_slen S.1 S.2.1 hx hb hbA hSt.2.2 dL_law_20 ?_
    refine lv_bipush (v := 6) S.1 S.2.1 dL_law_21 (by decide) ?_
    refine lv_isub S.1 S.2.1 dL_law_23 ?_
    refine lv_icmp_gt (tgt := 1750) S.1 S.2.1 dL_law_24 (by decide) (fun h => ?_) (fun h => ?_)
    · refine lv_iconst (v := 1) S.1 S.2.1 dL_law_1750 (by decide) ?_
      refine va_forget (fun q hq => hSt.2.2.2.2 q hq) ?_
      refine W.widen (k := 600000) (n := 7302250) (Nat.le_trans (Nat.le_add_right _ _) hc1) (Nat.le_trans (Nat.le_add_right _ _) hc2) ?_
      exact lw_ret S.1 S.2.1 hrt hlocks dL_law_1751
    · have h6 : i + 6 ≤ L := law_more hL hi h
      have next : ∀ (wc' wm' : va_W) (H1 : Heap) (locs1 : List Loc), Inv g h0 h1 wc' wm' → St (fun q : Nat => s.heap.size ≤ q) s.heap D (wc' ++ wm') H1 locs1 → W p l e room_1 s m #[Value.ref b] below meth c H1 locs1 (cells + 24) (slots + 1111) (lw_Z below #[Value.ref b] s) (F0 m 1744 ls []) := by
        intro wc' wm' H1 locs1 q1 q2
        refine lv_iinc (v := nI (i + 6)) (lv' := [(3, .int (nI (i + 6))), (0, .ref b), (1, .ref h0), (2, .ref h1)]) S.1 S.2.1 dL_law_1744 hl (k := 3) rfl (by rw [show Int32.ofInt 6 = nI 6 from rfl, nI_add]) (by decide) rfl (fun ls hl => ?_)
        refine lv_goto (tgt := 18) S.1 S.2.1 dL_law_1747 (by decide) ?_
        exact ih (i + 6) (cells + 24) (slots + 1111) wc' wm' H1 locs1 ls h6 (by omega) (by omega) (by omega) q1 q2 (lv_sub hl [1, 2, 3, 0] rfl)
      have hr : cells + 24 ≤ room_1.cells ∧ slots + 1111 ≤ room_1.slots := ⟨Nat.le_trans (show cells + 24 ≤ cells + 24 * (n + 1) by omega) hc1, Nat.le_trans (show slots + 1111 ≤ slots + 1111 * (n + 1) by omega) hc2⟩
      refine lv_aload_n S.1 S.2.1 dL_law_27 rfl (lv_at hl 0 rfl) ?_
      refine lv_iload_n S.1 S.2.1 dL_law_28 rfl (lv_at hl 3 rfl) ?_
      refine va_sld S.1 S.2.1 hx hb hbA hSt.2.2 (vp_in_nI (show i < L by omega) (by omega)) dL_law_29 ?_
      refine lv_bipush (v := 63) S.1 S.2.1 dL_law_30 (by decide) ?_
      refine lv_iand S.1 S.2.1 dL_law_32 ?_
      obtain ⟨k, hk, ek⟩ := and63 (xs (nI i).toNatClampNeg)
      rw [ek]
      by_cases hk2 : k < 36
      · rcases (show k = 0 ∨ k = 1 ∨ k = 2 ∨ k = 3 ∨ k = 4 ∨ k = 5 ∨ k = 6 ∨ k = 7 ∨ k = 8 ∨ k = 9 ∨ k = 10 ∨ k = 11 ∨ k = 12 ∨ k = 13 ∨ k = 14 ∨ k = 15 ∨ k = 16 ∨ k = 17 ∨ k = 18 ∨ k = 19 ∨ k = 20 ∨ k = 21 ∨ k = 22 ∨ k = 23 ∨ k = 24 ∨ k = 25 ∨ k = 26 ∨ k = 27 ∨ k = 28 ∨ k = 29 ∨ k = 30 ∨ k = 31 ∨ k = 32 ∨ k = 33 ∨ k = 34 ∨ k = 35 by omega) with rfl | rfl | rfl | rfl | rfl | rfl | rfl | rfl | rfl | rfl | rfl | rfl | rfl | rfl | rfl | rfl | rfl | rfl | rfl | rfl | rfl | rfl | rfl | rfl | rfl | rfl | rfl | rfl | rfl | rfl | rfl | rfl | rfl | rfl | rfl | rfl
        · refine lv_tableIn (off := 159) (tgt := 192) S.1 S.2.1 dL_law_33 (by decide) (by decide) rfl (by decide) ?_
          exact law_c0 X0 hI hSt hl h6 hr next
        · refine lv_tableIn (off := 222) (tgt := 255) S.1 S.2.1 dL_law_33 (by decide) (by decide) rfl (by decide) ?_
          exact law_c1 X0 hI hSt hl h6 hr next
        · refine lv_tableIn (off := 245) (tgt := 278) S.1 S.2.1 dL_law_33 (by decide) (by decide) rfl (by decide) ?_
          exact law_c2 X0 hI hSt hl h6 hr next
        · refine lv_tableIn (off := 278) (tgt := 311) S.1 S.2.1 dL_law_33 (by decide) (by decide) rfl (by decide) ?_
          exact law_c3 X0 hI hSt hl h6 hr next
        · refine lv_tableIn (off := 301) (tgt := 334) S.1 S.2.1 dL_law_33 (by decide) (by decide) rfl (by decide) ?_
          exact law_c4 X0 hI hSt hl h6 hr next
        · refine lv_tableIn (off := 334) (tgt := 367) S.1 S.2.1 dL_law_33 (by decide) (by decide) rfl (by decide) ?_
          exact law_c5 X0 hI hSt hl h6 hr next
        · refine lv_tableIn (off := 377) (tgt := 410) S.1 S.2.1 dL_law_33 (by decide) (by decide) rfl (by decide) ?_
          exact law_c6 X0 hI hSt hl h6 hr next
        · refine lv_tableIn (off := 410) (tgt := 443) S.1 S.2.1 dL_law_33 (by decide) (by decide) rfl (by decide) ?_
          exact law_c7 X0 hI hSt hl h6 hr next
        · refine lv_tableIn (off := 463) (tgt := 496) S.1 S.2.1 dL_law_33 (by decide) (by decide) rfl (by decide) ?_
          exact law_c8 X0 hI hSt hl h6 hr next
        · refine lv_tableIn (off := 522) (tgt := 555) S.1 S.2.1 dL_law_33 (by decide) (by decide) rfl (by decide) ?_
          exact law_c9 X0 hI hSt hl h6 hr next
        · refine lv_tableIn (off := 571) (tgt := 604) S.1 S.2.1 dL_law_33 (by decide) (by decide) rfl (by decide) ?_
          exact law_c10 X0 hI hSt hl h6 hr next
        · refine lv_tableIn (off := 604) (tgt := 637) S.1 S.2.1 dL_law_33 (by decide) (by decide) rfl (by decide) ?_
          exact law_c11 X0 hI hSt hl h6 hr next
        · refine lv_tableIn (off := 627) (tgt := 660) S.1 S.2.1 dL_law_33 (by decide) (by decide) rfl (by decide) ?_
          exact law_c12 X0 hI hSt hl h6 hr next
        · refine lv_tableIn (off := 660) (tgt := 693) S.1 S.2.1 dL_law_33 (by decide) (by decide) rfl (by decide) ?_
          exact law_c13 X0 hI hSt hl h6 hr next
        · refine lv_tableIn (off := 713) (tgt := 746) S.1 S.2.1 dL_law_33 (by decide) (by decide) rfl (by decide) ?_
          exact law_c14 X0 hI hSt hl h6 hr next
        · refine lv_tableIn (off := 746) (tgt := 779) S.1 S.2.1 dL_law_33 (by decide) (by decide) rfl (by decide) ?_
          exact law_c15 X0 hI hSt hl h6 hr next
        · refine lv_tableIn (off := 805) (tgt := 838) S.1 S.2.1 dL_law_33 (by decide) (by decide) rfl (by decide) ?_
          exact law_c16 X0 hI hSt hl h6 hr next
        · refine lv_tableIn (off := 885) (tgt := 918) S.1 S.2.1 dL_law_33 (by decide) (by decide) rfl (by decide) ?_
          exact law_c17 X0 hI hSt hl h6 hr next
        · refine lv_tableIn (off := 928) (tgt := 961) S.1 S.2.1 dL_law_33 (by decide) (by decide) rfl (by decide) ?_
          exact law_c18 X0 hI hSt hl h6 hr next
        · refine lv_tableIn (off := 971) (tgt := 1004) S.1 S.2.1 dL_law_33 (by decide) (by decide) rfl (by decide) ?_
          exact law_c19 X0 hI hSt hl h6 hr next
        · refine lv_tableIn (off := 1024) (tgt := 1057) S.1 S.2.1 dL_law_33 (by decide) (by decide) rfl (by decide) ?_
          exact law_c20 X0 hI hSt hl h6 hr next
        · refine lv_tableIn (off := 1057) (tgt := 1090) S.1 S.2.1 dL_law_33 (by decide) (by decide) rfl (by decide) ?_
          exact law_c21 X0 hI hSt hl h6 hr next
        · refine lv_tableIn (off := 1090) (tgt := 1123) S.1 S.2.1 dL_law_33 (by decide) (by decide) rfl (by decide) ?_
          exact law_c22 X0 hI hSt hl h6 hr next
        · refine lv_tableIn (off := 1123) (tgt := 1156) S.1 S.2.1 dL_law_33 (by decide) (by decide) rfl (by decide) ?_
          exact law_c23 X0 hI hSt hl h6 hr next
        · refine lv_tableIn (off := 1156) (tgt := 1189) S.1 S.2.1 dL_law_33 (by decide) (by decide) rfl (by decide) ?_
          exact law_c24 X0 hI hSt hl h6 hr next
        · refine lv_tableIn (off := 1215) (tgt := 1248) S.1 S.2.1 dL_law_33 (by decide) (by decide) rfl (by decide) ?_
          exact law_c25 X0 hI hSt hl h6 hr next
        · refine lv_tableIn (off := 1248) (tgt := 1281) S.1 S.2.1 dL_law_33 (by decide) (by decide) rfl (by decide) ?_
          exact law_c26 X0 hI hSt hl h6 hr next
        · refine lv_tableIn (off := 1281) (tgt := 1314) S.1 S.2.1 dL_law_33 (by decide) (by decide) rfl (by decide) ?_
          exact law_c27 X0 hI hSt hl h6 hr next
        · refine lv_tableIn (off := 1324) (tgt := 1357) S.1 S.2.1 dL_law_33 (by decide) (by decide) rfl (by decide) ?_
          exact law_c28 X0 hI hSt hl h6 hr next
        · refine lv_tableIn (off := 1400) (tgt := 1433) S.1 S.2.1 dL_law_33 (by decide) (by decide) rfl (by decide) ?_
          exact law_c29 X0 hI hSt hl h6 hr next
        · refine lv_tableIn (off := 1460) (tgt := 1493) S.1 S.2.1 dL_law_33 (by decide) (by decide) rfl (by decide) ?_
          exact law_c30 X0 hI hSt hl h6 hr next
        · refine lv_tableIn (off := 1503) (tgt := 1536) S.1 S.2.1 dL_law_33 (by decide) (by decide) rfl (by decide) ?_
          exact law_c31 X0 hI hSt hl h6 hr next
        · refine lv_tableIn (off := 1583) (tgt := 1616) S.1 S.2.1 dL_law_33 (by decide) (by decide) rfl (by decide) ?_
          exact law_c32 X0 hI hSt hl h6 hr next
        · refine lv_tableIn (off := 1642) (tgt := 1675) S.1 S.2.1 dL_law_33 (by decide) (by decide) rfl (by decide) ?_
          exact law_c33 X0 hI hSt hl h6 hr next
        · refine lv_tableIn (off := 1665) (tgt := 1698) S.1 S.2.1 dL_law_33 (by decide) (by decide) rfl (by decide) ?_
          exact law_c34 X0 hI hSt hl h6 hr next
        · refine lv_tableIn (off := 1688) (tgt := 1721) S.1 S.2.1 dL_law_33 (by decide) (by decide) rfl (by decide) ?_
          exact law_c35 X0 hI hSt hl h6 hr next
      · refine lv_tableOut (tgt := 1744) S.1 S.2.1 dL_law_33 (Or.inr (law_out k hk hk2)) (by decide) ?_
        exact W.widen (k := cells + 24) (n := slots + 1111) (by omega) (by omega) (next wc wm H locs hI hSt)
end LOP
