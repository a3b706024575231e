/-! ===== a line of a town: the reference ===== -/
section TWM
variable {fu L i a n y0 y1 : Nat} {tape mt : FN} {mf mp mf1 mp1 : Int32} {ml wr far far9 x11 gd : Int32} {wd w6 : Int64} {told rd : FN} {rc bg so rc1 bg1 so1 vl1 rc2 bg2 so2 vl2 mf2 mp2 gd2 rc3 bg3 so3 vl3 mf3 mp3 gd3 : Int32} {wd1 wd2 wd3 : Int64} {rd2 rd3 : FN}
theorem T_fail (h0 : ¬ lg_cmp w6 (lN (wC 0)) = 0) (h1 : ¬ lg_cmp w6 (lN (wC 1)) = 0) (h2 : ¬ lg_cmp w6 (lN (wC 2)) = 0) : ∃ z, MLn fu mt (nI L) 0 rc (nI a) so ml wd wr mf mp told rd far w6 = some z ∧ MStop z a := by
  have h0 : ¬ lg_cmp w6 (123581014175598 : Int64) = 0 := h0
  have h1 : ¬ lg_cmp w6 (1751217253 : Int64) = 0 := h1
  have h2 : ¬ lg_cmp w6 (1870095731 : Int64) = 0 := h2
  unfold MLn f_X12_townLine
  rw [if_pos rfl, if_neg h0, if_neg h1, if_neg h2]
  exact ⟨_, rfl, rfl, rfl⟩
theorem P_s1 {z : TkT} (h0 : lg_cmp w6 (lN (wC 0)) = 0) (g2 : f_X12_full fu mf mp told 6 bg = some (mf1, mp1)) (k1 : f_X12_token fu mt rc (nI L) bg so ml wd = some (rc1, bg1, so1, vl1, wd1)) (hz : f_X12_take fu mt rc1 (nI L) bg1 so1 vl1 wd1 wr mf1 mp1 rd 1 0 0 9 = some z) (z0 : z.1 = 0) (z7 : z.2.2.2.2.2.2.1 = nI a) : ∃ y, MLn fu mt (nI L) 0 rc bg so ml wd wr mf mp told rd far w6 = some y ∧ MStop y a := by
  have h0 : lg_cmp w6 (123581014175598 : Int64) = 0 := h0
  unfold MLn f_X12_townLine
  rw [if_pos rfl, if_pos h0]
  unfold f_X12_personLine
  rw [g2, bnd_some]
  dsimp only
  rw [k1, bnd_some]
  dsimp only
  rw [hz, bnd_some, if_pos z0, bnd_some]
  exact ⟨_, rfl, rfl, z7⟩
theorem P_s2 {z : TkT} (h0 : lg_cmp w6 (lN (wC 0)) = 0) (g2 : f_X12_full fu mf mp told 6 bg = some (mf1, mp1)) (k1 : f_X12_token fu mt rc (nI L) bg so ml wd = some (rc1, bg1, so1, vl1, wd1)) (hz : f_X12_take fu mt rc1 (nI L) bg1 so1 vl1 wd1 wr mf1 mp1 rd 1 0 0 9 = some (1, rc2, bg2, so2, vl2, wd2, wr, mf2, mp2, rd2, gd2)) (hy : f_X12_take fu mt rc2 (nI L) bg2 so2 vl2 wd2 wr mf2 mp2 rd2 gd2 1 0 99 = some z) (z0 : z.1 = 0) (z7 : z.2.2.2.2.2.2.1 = nI a) : ∃ y, MLn fu mt (nI L) 0 rc bg so ml wd wr mf mp told rd far w6 = some y ∧ MStop y a := by
  have h0 : lg_cmp w6 (123581014175598 : Int64) = 0 := h0
  unfold MLn f_X12_townLine
  rw [if_pos rfl, if_pos h0]
  unfold f_X12_personLine
  rw [g2, bnd_some]
  dsimp only
  rw [k1, bnd_some]
  dsimp only
  rw [hz, bnd_some, if_neg i10]
  dsimp only
  rw [hy, bnd_some, if_pos z0, bnd_some]
  exact ⟨_, rfl, rfl, z7⟩
theorem P_go (h0 : lg_cmp w6 (lN (wC 0)) = 0) (g2 : f_X12_full fu mf mp told 6 bg = some (mf1, mp1)) (k1 : f_X12_token fu mt rc (nI L) bg so ml wd = some (rc1, bg1, so1, vl1, wd1)) (hz : f_X12_take fu mt rc1 (nI L) bg1 so1 vl1 wd1 wr mf1 mp1 rd 1 0 0 9 = some (1, rc2, bg2, so2, vl2, wd2, wr, mf2, mp2, rd2, gd2)) (hy : f_X12_take fu mt rc2 (nI L) bg2 so2 vl2 wd2 wr mf2 mp2 rd2 gd2 1 0 99 = some (1, rc3, bg3, so3, vl3, wd3, wr, mf3, mp3, rd3, gd3)) (ht : told 0 = nI n) (hn : n ≤ 6) (e0 : rd3 0 = nI y0) (e1 : rd3 1 = nI y1) :
    ∃ t9, MLn fu mt (nI L) 0 rc bg so ml wd wr mf mp told rd far w6 = some (1, rc3, bg3, so3, vl3, wd3, wr, mf3, mp3, t9, rd3, far, gd3) ∧ (n = 6 → t9 = told) ∧ (n < 6 → t9 = upd (upd (upd told (1 + n) (nI y0)) (7 + n) (nI y1)) 0 (nI (n + 1))) := by
  have h0 : lg_cmp w6 (123581014175598 : Int64) = 0 := h0
  unfold MLn f_X12_townLine
  rw [if_pos rfl, if_pos h0]
  unfold f_X12_personLine
  rw [g2, bnd_some]
  dsimp only
  rw [k1, bnd_some]
  dsimp only
  rw [hz, bnd_some, if_neg i10]
  dsimp only
  rw [hy, bnd_some, if_neg i10, show rdi 161 told 0 = some (nI n) from rdi_n (k := 0) (by decide) (by decide) ht, bnd_some]
  by_cases c : n = 6
  · rw [if_pos (show (6 : Int32) ≤ nI n by rw [c]; decide)]
    exact ⟨told, rfl, fun _ => rfl, fun z => by omega⟩
  · rw [if_neg (ab_ok (show n < 6 by omega)).2.1]
    dsimp only [ltn]
    rw [show rdi 4 rd3 0 = some (nI y0) from rdi_n (k := 0) (by decide) (by decide) e0, bnd_some, show (1 : Int32) + nI n = nI (1 + n) from nI_add 1 n, wri_n (show 1 + n < 161 by omega) (by decide), bnd_some, show rdi 4 rd3 1 = some (nI y1) from rdi_n (k := 1) (by decide) (by decide) e1, bnd_some, show (7 : Int32) + nI n = nI (7 + n) from nI_add 7 n, wri_n (show 7 + n < 161 by omega) (by decide), bnd_some, show rdi 161 (upd (upd told (1 + n) (nI y0)) (7 + n) (nI y1)) 0 = some (nI n) from rdi_n (k := 0) (by decide) (by decide) ((pk_un (by omega)).trans ((pk_un (by omega)).trans ht)), bnd_some, nI_1, show wri 161 (upd (upd told (1 + n) (nI y0)) (7 + n) (nI y1)) 0 (nI (n + 1)) = some (upd (upd (upd told (1 + n) (nI y0)) (7 + n) (nI y1)) 0 (nI (n + 1))) from wri_n (k := 0) (by decide) (by decide), bnd_some]
    exact ⟨_, rfl, fun z => absurd z c, fun _ => rfl⟩
/-- hate, owes: up to the two numbers -/
theorem H_s {z : TkT} (h0 : ¬ lg_cmp w6 (lN (wC 0)) = 0) (h12 : lg_cmp w6 (lN (wC 1)) = 0 ∨ (¬ lg_cmp w6 (lN (wC 1)) = 0 ∧ lg_cmp w6 (lN (wC 2)) = 0)) (k1 : f_X12_token fu mt rc (nI L) bg so ml wd = some (rc1, bg1, so1, vl1, wd1)) (hz : f_X12_takeTwo fu mt rc1 (nI L) bg1 so1 vl1 wd1 wr mf mp rd 1 0 = some z) (z0 : z.1 = 0) (z7 : z.2.2.2.2.2.2.1 = nI a) : ∃ y, MLn fu mt (nI L) 0 rc bg so ml wd wr mf mp told rd far w6 = some y ∧ MStop y a := by
  have h0 : ¬ lg_cmp w6 (123581014175598 : Int64) = 0 := h0
  have h12 : lg_cmp w6 (1751217253 : Int64) = 0 ∨ (¬ lg_cmp w6 (1751217253 : Int64) = 0 ∧ lg_cmp w6 (1870095731 : Int64) = 0) := h12
  unfold MLn f_X12_townLine
  rw [if_pos rfl, if_neg h0]
  rcases h12 with h1 | ⟨h1, h2⟩
  · rw [if_pos h1, bnd_some]
    dsimp only [cse]
    rw [k1, bnd_some]
    dsimp only
    rw [hz, bnd_some, if_pos z0]
    exact ⟨_, rfl, rfl, z7⟩
  · rw [if_neg h1, if_pos h2, bnd_some]
    dsimp only [cse]
    rw [k1, bnd_some]
    dsimp only
    rw [hz, bnd_some, if_pos z0]
    exact ⟨_, rfl, rfl, z7⟩
theorem O_s {z : TkT} (h0 : ¬ lg_cmp w6 (lN (wC 0)) = 0) (h1 : ¬ lg_cmp w6 (lN (wC 1)) = 0) (h2 : lg_cmp w6 (lN (wC 2)) = 0) (k1 : f_X12_token fu mt rc (nI L) bg so ml wd = some (rc1, bg1, so1, vl1, wd1)) (hz : f_X12_takeTwo fu mt rc1 (nI L) bg1 so1 vl1 wd1 wr mf mp rd 1 0 = some (1, rc2, bg2, so2, vl2, wd2, wr, mf2, mp2, rd2, gd2)) (hy : f_X12_take fu mt rc2 (nI L) bg2 so2 vl2 wd2 wr mf2 mp2 rd2 gd2 2 0 30 = some z) (z0 : z.1 = 0) (z7 : z.2.2.2.2.2.2.1 = nI a) : ∃ y, MLn fu mt (nI L) 0 rc bg so ml wd wr mf mp told rd far w6 = some y ∧ MStop y a := by
  have h0 : ¬ lg_cmp w6 (123581014175598 : Int64) = 0 := h0
  have h1 : ¬ lg_cmp w6 (1751217253 : Int64) = 0 := h1
  have h2 : lg_cmp w6 (1870095731 : Int64) = 0 := h2
  unfold MLn f_X12_townLine
  rw [if_pos rfl, if_neg h0, if_neg h1, if_pos h2, bnd_some]
  dsimp only [cse]
  rw [k1, bnd_some]
  dsimp only
  rw [hz, bnd_some, if_neg i10, if_pos h2]
  dsimp only
  rw [hy, bnd_some, if_pos z0, bnd_some]
  exact ⟨_, rfl, rfl, z7⟩
theorem O_go (h0 : ¬ lg_cmp w6 (lN (wC 0)) = 0) (h1 : ¬ lg_cmp w6 (lN (wC 1)) = 0) (h2 : lg_cmp w6 (lN (wC 2)) = 0) (k1 : f_X12_token fu mt rc (nI L) bg so ml wd = some (rc1, bg1, so1, vl1, wd1)) (hz : f_X12_takeTwo fu mt rc1 (nI L) bg1 so1 vl1 wd1 wr mf mp rd 1 0 = some (1, rc2, bg2, so2, vl2, wd2, wr, mf2, mp2, rd2, gd2)) (hy : f_X12_take fu mt rc2 (nI L) bg2 so2 vl2 wd2 wr mf2 mp2 rd2 gd2 2 0 30 = some (1, rc3, bg3, so3, vl3, wd3, wr, mf3, mp3, rd3, gd3)) (e0 : rd3 0 = nI y0) (e1 : rd3 1 = nI y1) (x1 : f_X12_greater fu (nI y0) (nI y1) = some x11) (x2 : f_X12_greater fu far x11 = some far9) :
    (gd3 = 0 → MLn fu mt (nI L) 0 rc bg so ml wd wr mf mp told rd far w6 = some (1, rc3, bg3, so3, vl3, wd3, wr, mf3, mp3, told, rd3, far9, gd3)) ∧ (¬ gd3 = 0 → y0 < 6 → y1 < 6 → MLn fu mt (nI L) 0 rc bg so ml wd wr mf mp told rd far w6 = some (1, rc3, bg3, so3, vl3, wd3, wr, mf3, mp3, upd told (19 + 6 * y0 + y1) (rd3 2), rd3, far9, gd3)) := by
  have h0 : ¬ lg_cmp w6 (123581014175598 : Int64) = 0 := h0
  have h1 : ¬ lg_cmp w6 (1751217253 : Int64) = 0 := h1
  have h2 : lg_cmp w6 (1870095731 : Int64) = 0 := h2
  have r0 : rdi 4 rd3 0 = some (nI y0) := rdi_n (k := 0) (by decide) (by decide) e0
  have r1 : rdi 4 rd3 1 = some (nI y1) := rdi_n (k := 1) (by decide) (by decide) e1
  have r2 : rdi 4 rd3 2 = some (rd3 2) := rdi_n (k := 2) (by decide) (by decide) rfl
  unfold MLn f_X12_townLine
  rw [if_pos rfl, if_neg h0, if_neg h1, if_pos h2, bnd_some]
  dsimp only [cse]
  rw [k1, bnd_some]
  dsimp only
  rw [hz, bnd_some, if_neg i10, if_pos h2]
  dsimp only
  rw [hy, bnd_some, if_neg i10, bnd_some]
  dsimp only
  rw [r0, bnd_some, r1, bnd_some, x1, bnd_some, x2, bnd_some]
  refine ⟨fun g => ?_, fun g l0 l1 => ?_⟩
  · rw [if_pos g, bnd_some]
  · rw [if_neg g, if_pos h2, bnd_some, bnd_some, r2, bnd_some, show (19 : Int32) + (6 : Int32) * nI y0 + nI y1 = nI (19 + 6 * y0 + y1) by rw [show (6 : Int32) = nI 6 from rfl, pk_mul, show (19 : Int32) = nI 19 from rfl, nI_add, nI_add], wri_n (show 19 + 6 * y0 + y1 < 161 by omega) (by decide), bnd_some, bnd_some]
theorem H_go (h0 : ¬ lg_cmp w6 (lN (wC 0)) = 0) (h1 : lg_cmp w6 (lN (wC 1)) = 0) (h2 : ¬ lg_cmp w6 (lN (wC 2)) = 0) (k1 : f_X12_token fu mt rc (nI L) bg so ml wd = some (rc1, bg1, so1, vl1, wd1)) (hz : f_X12_takeTwo fu mt rc1 (nI L) bg1 so1 vl1 wd1 wr mf mp rd 1 0 = some (1, rc2, bg2, so2, vl2, wd2, wr, mf2, mp2, rd2, gd2)) (e0 : rd2 0 = nI y0) (e1 : rd2 1 = nI y1) (x1 : f_X12_greater fu (nI y0) (nI y1) = some x11) (x2 : f_X12_greater fu far x11 = some far9) :
    (gd2 = 0 → MLn fu mt (nI L) 0 rc bg so ml wd wr mf mp told rd far w6 = some (1, rc2, bg2, so2, vl2, wd2, wr, mf2, mp2, told, rd2, far9, gd2)) ∧ (¬ gd2 = 0 → y0 < 6 → y1 < 6 → y0 ≠ y1 → MLn fu mt (nI L) 0 rc bg so ml wd wr mf mp told rd far w6 = some (1, rc2, bg2, so2, vl2, wd2, wr, mf2, mp2, upd (upd told (13 + y0) (told (13 + y0) ||| nI (2 ^ y1))) (13 + y1) (told (13 + y1) ||| nI (2 ^ y0)), rd2, far9, gd2)) := by
  have h0 : ¬ lg_cmp w6 (123581014175598 : Int64) = 0 := h0
  have h1 : lg_cmp w6 (1751217253 : Int64) = 0 := h1
  have h2 : ¬ lg_cmp w6 (1870095731 : Int64) = 0 := h2
  have r0 : rdi 4 rd2 0 = some (nI y0) := rdi_n (k := 0) (by decide) (by decide) e0
  have r1 : rdi 4 rd2 1 = some (nI y1) := rdi_n (k := 1) (by decide) (by decide) e1
  unfold MLn f_X12_townLine
  rw [if_pos rfl, if_neg h0, if_pos h1, bnd_some]
  dsimp only [cse]
  rw [k1, bnd_some]
  dsimp only
  rw [hz, bnd_some, if_neg i10, if_neg h2, bnd_some]
  dsimp only
  rw [r0, bnd_some, r1, bnd_some, x1, bnd_some, x2, bnd_some]
  refine ⟨fun g => ?_, fun g l0 l1 l2 => ?_⟩
  · rw [if_pos g, bnd_some]
  · rw [if_neg g, if_neg h2, bnd_some]
    dsimp only [ltn]
    rw [show (13 : Int32) + nI y0 = nI (13 + y0) from nI_add 13 y0, rdi_n (show 13 + y0 < 161 by omega) (by decide) rfl, bnd_some, bnd_some, jshl_1 y1 (by omega), wri_n (show 13 + y0 < 161 by omega) (by decide), bnd_some, bnd_some, show (13 : Int32) + nI y1 = nI (13 + y1) from nI_add 13 y1, rdi_n (show 13 + y1 < 161 by omega) (by decide) (pk_un (by omega)), bnd_some, bnd_some, jshl_1 y0 (by omega), wri_n (show 13 + y1 < 161 by omega) (by decide), bnd_some, bnd_some]
end TWM
