/-! ===== a line of a week: forms, and the reference ===== -/
section WKL
variable {fu L i a b k v n x : Nat} {w : Int64} {tape mt : FN} {mf mp mf1 mp1 : Int32} {ml wr far gd : Int32} {wd w6 : Int64} {told rd : FN} {rc bg so rc1 bg1 so1 vl1 rc2 bg2 so2 vl2 mf2 mp2 gd2 rc3 bg3 so3 vl3 mf3 mp3 gd3 : Int32} {wd1 wd2 wd3 : Int64} {rd2 rd3 t9 : FN}
theorem W_form (W : wrd fu tape a b w) : (∃ x, x ≤ 6 ∧ f_X5_formOfWeek fu tape (nI b) (nI a) = some (nI x) ∧ f_X12_deedBy fu w = some (nI x)) ∨ (f_X5_formOfWeek fu tape (nI b) (nI a) = some (-1) ∧ f_X12_deedBy fu w = some (-1)) := by
  unfold f_X5_formOfWeek f_X12_deedBy
  have cv : ∀ {c : Int64} {k : Nat}, lN (wC k) = c → lg_cmp w (lN (wC k)) = lg_cmp w c := fun e => by rw [e]
  have W3 := W 3 (by decide)
  have W4 := W 4 (by decide)
  have W5 := W 5 (by decide)
  have W6 := W 6 (by decide)
  have W7 := W 7 (by decide)
  have W8 := W 8 (by decide)
  have W9 := W 9 (by decide)
  rw [cv (c := 7563636) (k := 3) rfl] at W3
  rw [cv (c := 1818586724) (k := 4) rfl] at W4
  rw [cv (c := 7364985) (k := 5) rfl] at W5
  rw [cv (c := 28832984776406629) (k := 6) rfl] at W6
  rw [cv (c := 126896627347060) (k := 7) rfl] at W7
  rw [cv (c := 499850701683) (k := 8) rfl] at W8
  rw [cv (c := 1752135026) (k := 9) rfl] at W9
  rcases W3 with ⟨y1, y2⟩ | ⟨y1, y2⟩
  · rw [y1, bnd_some, if_neg i10, if_pos y2]; exact Or.inl ⟨0, by decide, rfl, rfl⟩
  rw [y1, bnd_some, if_pos i00, if_neg y2]
  rcases W4 with ⟨y1, y2⟩ | ⟨y1, y2⟩
  · rw [y1, bnd_some, if_neg i10, if_pos y2]; exact Or.inl ⟨1, by decide, rfl, rfl⟩
  rw [y1, bnd_some, if_pos i00, if_neg y2]
  rcases W5 with ⟨y1, y2⟩ | ⟨y1, y2⟩
  · rw [y1, bnd_some, if_neg i10, if_pos y2]; exact Or.inl ⟨2, by decide, rfl, rfl⟩
  rw [y1, bnd_some, if_pos i00, if_neg y2]
  rcases W6 with ⟨y1, y2⟩ | ⟨y1, y2⟩
  · rw [y1, bnd_some, if_neg i10, if_pos y2]; exact Or.inl ⟨3, by decide, rfl, rfl⟩
  rw [y1, bnd_some, if_pos i00, if_neg y2]
  rcases W7 with ⟨y1, y2⟩ | ⟨y1, y2⟩
  · rw [y1, bnd_some, if_neg i10, if_pos y2]; exact Or.inl ⟨4, by decide, rfl, rfl⟩
  rw [y1, bnd_some, if_pos i00, if_neg y2]
  rcases W8 with ⟨y1, y2⟩ | ⟨y1, y2⟩
  · rw [y1, bnd_some, if_neg i10, if_pos y2]; exact Or.inl ⟨5, by decide, rfl, rfl⟩
  rw [y1, bnd_some, if_pos i00, if_neg y2]
  rcases W9 with ⟨y1, y2⟩ | ⟨y1, y2⟩
  · rw [y1, bnd_some, if_neg i10, if_pos y2]; exact Or.inl ⟨6, by decide, rfl, rfl⟩
  rw [y1, bnd_some, if_pos i00, if_neg y2]
  exact Or.inr ⟨rfl, rfl⟩
theorem W_fail (hd : f_X12_deedBy fu w6 = some (-1)) : ∃ z, MLn fu mt (nI L) 1 rc (nI a) so ml wd wr mf mp told rd far w6 = some z ∧ MStop z a := by
  unfold MLn f_X12_weekLine
  rw [if_neg (by decide), if_pos rfl, hd, bnd_some, if_pos rfl]
  exact ⟨_, rfl, rfl, rfl⟩
def rd8 (rd : FN) : FN := upd (upd (upd rd 1 (-1)) 2 (-1)) 3 (-1)
theorem W_wri {β : Type} {g : FN → Option β} : bnd (wri 4 rd 1 (-1)) (fun x6 => bnd (wri 4 x6 2 (-1)) (fun x7 => bnd (wri 4 x7 3 (-1)) g)) = g (rd8 rd) := by
  rw [show wri 4 rd 1 (-1) = some (upd rd 1 (-1)) from wri_n (k := 1) (by decide) (by decide), bnd_some, show wri 4 (upd rd 1 (-1)) 2 (-1) = some (upd (upd rd 1 (-1)) 2 (-1)) from wri_n (k := 2) (by decide) (by decide), bnd_some, show wri 4 (upd (upd rd 1 (-1)) 2 (-1)) 3 (-1) = some (rd8 rd) from wri_n (k := 3) (by decide) (by decide), bnd_some]
theorem W_in (hx : x ≤ 6) : f_X12_in fu (nI x) 1 3 = some (if 1 ≤ x ∧ x ≤ 3 then 1 else 0) := in_r (lo := 1) (hi := 3) (by omega) (by decide) (by decide)
theorem W_go0 (hd : f_X12_deedBy fu w6 = some (nI x)) (g2 : f_X12_full fu mf mp told 40 bg = some (mf1, mp1)) (k1 : f_X12_token fu mt rc (nI L) bg so ml wd = some (rc1, bg1, so1, vl1, wd1)) (hx : x = 6) (hk : f_X12_keepRow fu told (upd (rd8 rd) 0 (nI x)) 4 40 = some t9) : MLn fu mt (nI L) 1 rc bg so ml wd wr mf mp told rd far w6 = some (1, rc1, bg1, so1, vl1, wd1, wr, mf1, mp1, t9, upd (rd8 rd) 0 (nI x), far, 1) := by
  unfold MLn f_X12_weekLine
  rw [if_neg (by decide), if_pos rfl, hd, bnd_some, if_neg (nI_nm1 (by omega)), g2, bnd_some]
  dsimp only
  rw [k1, bnd_some, W_wri, if_pos (show nI x = 6 by rw [hx]; rfl), bnd_some, if_neg i10, W_in (by omega), bnd_some, if_neg (show ¬ (1 ≤ x ∧ x ≤ 3) by omega), if_pos i00, bnd_some]
  dsimp only [cse]
  rw [show wri 4 (rd8 rd) 0 (nI x) = some (upd (rd8 rd) 0 (nI x)) from wri_n (k := 0) (by decide) (by decide), bnd_some, hk, bnd_some, bnd_some]
theorem W_go1s {z : TkT} {a' : Nat} (hd : f_X12_deedBy fu w6 = some (nI x)) (g2 : f_X12_full fu mf mp told 40 bg = some (mf1, mp1)) (k1 : f_X12_token fu mt rc (nI L) bg so ml wd = some (rc1, bg1, so1, vl1, wd1)) (hx : x = 4 ∨ x = 5) (hz : f_X12_take fu mt rc1 (nI L) bg1 so1 vl1 wd1 wr mf1 mp1 (rd8 rd) 1 1 0 5 = some z) (z0 : z.1 = 0) (z7 : z.2.2.2.2.2.2.1 = nI a') : ∃ y, MLn fu mt (nI L) 1 rc bg so ml wd wr mf mp told rd far w6 = some y ∧ MStop y a' := by
  unfold MLn f_X12_weekLine
  rw [if_neg (by decide), if_pos rfl, hd, bnd_some, if_neg (nI_nm1 (by omega)), g2, bnd_some]
  dsimp only
  rw [k1, bnd_some, W_wri, if_neg (show ¬ nI x = 6 from fun y => by have := (nI_eq (b := 6) (by omega) (by decide)).1 y; omega), if_pos (show (4 : Int32) ≤ nI x from nI_le (a := 4) (by omega) (by omega)), hz, bnd_some, if_pos z0, bnd_some, if_pos i00, bnd_some]
  exact ⟨_, rfl, rfl, z7⟩
theorem W_go1 (hd : f_X12_deedBy fu w6 = some (nI x)) (g2 : f_X12_full fu mf mp told 40 bg = some (mf1, mp1)) (k1 : f_X12_token fu mt rc (nI L) bg so ml wd = some (rc1, bg1, so1, vl1, wd1)) (hx : x = 4 ∨ x = 5) (hz : f_X12_take fu mt rc1 (nI L) bg1 so1 vl1 wd1 wr mf1 mp1 (rd8 rd) 1 1 0 5 = some (1, rc2, bg2, so2, vl2, wd2, wr, mf2, mp2, rd2, gd2)) (hk : f_X12_keepRow fu told (upd rd2 0 (nI x)) 4 40 = some t9) : MLn fu mt (nI L) 1 rc bg so ml wd wr mf mp told rd far w6 = some (1, rc2, bg2, so2, vl2, wd2, wr, mf2, mp2, t9, upd rd2 0 (nI x), far, gd2) := by
  unfold MLn f_X12_weekLine
  rw [if_neg (by decide), if_pos rfl, hd, bnd_some, if_neg (nI_nm1 (by omega)), g2, bnd_some]
  dsimp only
  rw [k1, bnd_some, W_wri, if_neg (show ¬ nI x = 6 from fun y => by have := (nI_eq (b := 6) (by omega) (by decide)).1 y; omega), if_pos (show (4 : Int32) ≤ nI x from nI_le (a := 4) (by omega) (by omega)), hz, bnd_some, if_neg i10, bnd_some, if_neg i10, W_in (by omega), bnd_some, if_neg (show ¬ (1 ≤ x ∧ x ≤ 3) by omega), if_pos i00, bnd_some]
  dsimp only [cse]
  rw [show wri 4 rd2 0 (nI x) = some (upd rd2 0 (nI x)) from wri_n (k := 0) (by decide) (by decide), bnd_some, hk, bnd_some, bnd_some]
theorem W_go2s {z : TkT} {a' : Nat} (hd : f_X12_deedBy fu w6 = some (nI x)) (g2 : f_X12_full fu mf mp told 40 bg = some (mf1, mp1)) (k1 : f_X12_token fu mt rc (nI L) bg so ml wd = some (rc1, bg1, so1, vl1, wd1)) (hx : x ≤ 3) (hz : f_X12_takeTwo fu mt rc1 (nI L) bg1 so1 vl1 wd1 wr mf1 mp1 (rd8 rd) 1 1 = some z) (z0 : z.1 = 0) (z7 : z.2.2.2.2.2.2.1 = nI a') : ∃ y, MLn fu mt (nI L) 1 rc bg so ml wd wr mf mp told rd far w6 = some y ∧ MStop y a' := by
  unfold MLn f_X12_weekLine
  rw [if_neg (by decide), if_pos rfl, hd, bnd_some, if_neg (nI_nm1 (by omega)), g2, bnd_some]
  dsimp only
  rw [k1, bnd_some, W_wri, if_neg (show ¬ nI x = 6 from fun y => by have := (nI_eq (b := 6) (by omega) (by decide)).1 y; omega), if_neg (show ¬ (4 : Int32) ≤ nI x by rw [show (4 : Int32) = nI 4 from rfl]; exact nI_ge (by omega) (by decide)), hz, bnd_some, if_pos z0, bnd_some, if_pos i00, bnd_some]
  exact ⟨_, rfl, rfl, z7⟩
theorem W_go2 (hd : f_X12_deedBy fu w6 = some (nI x)) (g2 : f_X12_full fu mf mp told 40 bg = some (mf1, mp1)) (k1 : f_X12_token fu mt rc (nI L) bg so ml wd = some (rc1, bg1, so1, vl1, wd1)) (hx : x = 0) (hz : f_X12_takeTwo fu mt rc1 (nI L) bg1 so1 vl1 wd1 wr mf1 mp1 (rd8 rd) 1 1 = some (1, rc2, bg2, so2, vl2, wd2, wr, mf2, mp2, rd2, gd2)) (hk : f_X12_keepRow fu told (upd rd2 0 (nI x)) 4 40 = some t9) : MLn fu mt (nI L) 1 rc bg so ml wd wr mf mp told rd far w6 = some (1, rc2, bg2, so2, vl2, wd2, wr, mf2, mp2, t9, upd rd2 0 (nI x), far, gd2) := by
  unfold MLn f_X12_weekLine
  rw [if_neg (by decide), if_pos rfl, hd, bnd_some, if_neg (nI_nm1 (by omega)), g2, bnd_some]
  dsimp only
  rw [k1, bnd_some, W_wri, if_neg (show ¬ nI x = 6 from fun y => by have := (nI_eq (b := 6) (by omega) (by decide)).1 y; omega), if_neg (show ¬ (4 : Int32) ≤ nI x by rw [show (4 : Int32) = nI 4 from rfl]; exact nI_ge (by omega) (by decide)), hz, bnd_some, if_neg i10, bnd_some, if_neg i10, W_in (by omega), bnd_some, if_neg (show ¬ (1 ≤ x ∧ x ≤ 3) by omega), if_pos i00, bnd_some]
  dsimp only [cse]
  rw [show wri 4 rd2 0 (nI x) = some (upd rd2 0 (nI x)) from wri_n (k := 0) (by decide) (by decide), bnd_some, hk, bnd_some, bnd_some]
theorem W_go3s {z : TkT} {a' : Nat} (hd : f_X12_deedBy fu w6 = some (nI x)) (g2 : f_X12_full fu mf mp told 40 bg = some (mf1, mp1)) (k1 : f_X12_token fu mt rc (nI L) bg so ml wd = some (rc1, bg1, so1, vl1, wd1)) (hx : 1 ≤ x ∧ x ≤ 3) (hz : f_X12_takeTwo fu mt rc1 (nI L) bg1 so1 vl1 wd1 wr mf1 mp1 (rd8 rd) 1 1 = some (1, rc2, bg2, so2, vl2, wd2, wr, mf2, mp2, rd2, gd2)) (hy : f_X12_take fu mt rc2 (nI L) bg2 so2 vl2 wd2 wr mf2 mp2 rd2 gd2 3 1 30 = some z) (z0 : z.1 = 0) (z7 : z.2.2.2.2.2.2.1 = nI a') : ∃ y, MLn fu mt (nI L) 1 rc bg so ml wd wr mf mp told rd far w6 = some y ∧ MStop y a' := by
  unfold MLn f_X12_weekLine
  rw [if_neg (by decide), if_pos rfl, hd, bnd_some, if_neg (nI_nm1 (by omega)), g2, bnd_some]
  dsimp only
  rw [k1, bnd_some, W_wri, if_neg (show ¬ nI x = 6 from fun y => by have := (nI_eq (b := 6) (by omega) (by decide)).1 y; omega), if_neg (show ¬ (4 : Int32) ≤ nI x by rw [show (4 : Int32) = nI 4 from rfl]; exact nI_ge (by omega) (by decide)), hz, bnd_some, if_neg i10, bnd_some, if_neg i10, W_in (by omega), bnd_some, if_pos hx, if_neg i10]
  dsimp only
  rw [hy, bnd_some, if_pos z0, bnd_some]
  exact ⟨_, rfl, rfl, z7⟩
theorem W_go3 (hd : f_X12_deedBy fu w6 = some (nI x)) (g2 : f_X12_full fu mf mp told 40 bg = some (mf1, mp1)) (k1 : f_X12_token fu mt rc (nI L) bg so ml wd = some (rc1, bg1, so1, vl1, wd1)) (hx : 1 ≤ x ∧ x ≤ 3) (hz : f_X12_takeTwo fu mt rc1 (nI L) bg1 so1 vl1 wd1 wr mf1 mp1 (rd8 rd) 1 1 = some (1, rc2, bg2, so2, vl2, wd2, wr, mf2, mp2, rd2, gd2)) (hy : f_X12_take fu mt rc2 (nI L) bg2 so2 vl2 wd2 wr mf2 mp2 rd2 gd2 3 1 30 = some (1, rc3, bg3, so3, vl3, wd3, wr, mf3, mp3, rd3, gd3)) (hk : f_X12_keepRow fu told (upd rd3 0 (nI x)) 4 40 = some t9) : MLn fu mt (nI L) 1 rc bg so ml wd wr mf mp told rd far w6 = some (1, rc3, bg3, so3, vl3, wd3, wr, mf3, mp3, t9, upd rd3 0 (nI x), far, gd3) := by
  unfold MLn f_X12_weekLine
  rw [if_neg (by decide), if_pos rfl, hd, bnd_some, if_neg (nI_nm1 (by omega)), g2, bnd_some]
  dsimp only
  rw [k1, bnd_some, W_wri, if_neg (show ¬ nI x = 6 from fun y => by have := (nI_eq (b := 6) (by omega) (by decide)).1 y; omega), if_neg (show ¬ (4 : Int32) ≤ nI x by rw [show (4 : Int32) = nI 4 from rfl]; exact nI_ge (by omega) (by decide)), hz, bnd_some, if_neg i10, bnd_some, if_neg i10, W_in (by omega), bnd_some, if_pos hx, if_neg i10]
  dsimp only
  rw [hy, bnd_some, if_neg i10, bnd_some]
  dsimp only [cse]
  rw [show wri 4 rd3 0 (nI x) = some (upd rd3 0 (nI x)) from wri_n (k := 0) (by decide) (by decide), bnd_some, hk, bnd_some, bnd_some]
end WKL
