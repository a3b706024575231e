/-! ===== a text of each sort ===== -/
section SRT
variable {fu L : Nat} {B : Nat → Nat} {tape mt : FN} {p d e cf cp len nx st tk vl q : Int32} {wi pr ha ow c l num : FN} {fl pl : FN} {rc bg so mv wr mf mp far gd : Int32} {wd : Int64} {told rd : FN}
theorem J_text {p1 : Nat} (hp : p1 ≤ 2) (hB : ∀ i, i < L → B i < 256 ∧ tape i = sbN (B i) ∧ mt i = sbN (B i)) (hL : L ≤ 600) (hf : 1000 ≤ fu) :
    ∃ x y, f_X5_read fu p wi pr ha ow d c e l cf cp num tape len nx st tk vl q (nI p1) (nI L) = some x ∧ f_X12_readText fu mt fl pl rc (nI L) bg so mv wd wr mf mp told rd far gd (nI p1) = some y ∧ TOut (nI p1) fl pl x y := by
  have ht : ∀ i, i ≤ L → ∃ a b k v w, Tk fu tape mt L i a b k v w := fun i hi => tok hB hL hi hf
  rcases (show p1 = 0 ∨ p1 = 1 ∨ p1 = 2 by omega) with rfl | rfl | rfl
  · refine J_read (K := KTw) hB hL hf (fun i a b k v w cf cp mf mp p d e q vl ml wr far gd w0 u h o c l num told rd T hk F hK => J_town ht hL T hk F _ rfl hK hf) (fun h o t h1 h2 h3 => ?_) (fun p d e q w u h o c l told far hK => ?_)
    · refine ⟨0, by decide, h3 0 (by decide), fun _ => ⟨fun _ => 0, fun _ => 0, fun _ => 0, fun _ => 0, 0, 0, ⟨rfl, fun i hi => absurd hi (Nat.not_lt_zero _), fun i hi => absurd hi (Nat.not_lt_zero _), h1, h2⟩, ⟨h3 0 (by decide), fun i hi => h3 _ (by omega), fun i hi => h3 _ (by omega), fun i hi => h3 _ (by omega), fun i hi => h3 _ (by omega)⟩, rfl, by decide, Or.inl ⟨rfl, rfl⟩, fun j => ⟨fun _ => Nat.zero_le _, fun _ => Nat.two_pow_pos j⟩, fun _ _ => Nat.zero_le _, fun _ _ => Nat.zero_le _, fun _ _ j _ => Nat.two_pow_pos j, fun _ _ => Nat.zero_le _, fun _ _ _ _ => ⟨fun z => absurd z bt_0, fun z => absurd z bt_0⟩, fun i hi => ?_, fun _ _ _ _ z => absurd rfl z⟩⟩
      exact bt_0
    · obtain ⟨n, k1, k2, k3⟩ := hK
      obtain ⟨w', pu, h', o', tm, m, T⟩ := k3 rfl
      obtain ⟨f1, f2⟩ := four T k1
      refine ⟨fun _ => ?_, fun z => ⟨fun _ => ?_, fun z => absurd z (by decide), fun z => absurd z (by decide)⟩⟩
      · rw [k2]
        exact f1.trans f2.symm
      · have lt := z rfl
        rw [k2] at lt
        exact ⟨n, w', pu, h', o', TwO_V T k1 (f2.1 lt), T.1, T.2.1⟩
  · refine J_read (K := KWk) hB hL hf (fun i a b k v w cf cp mf mp p d e q vl ml wr far gd w0 u h o c l num told rd T hk F hK => J_week ht hL T hk F _ rfl hK hf) (fun h o t h1 h2 h3 => ?_) (fun p d e q w u h o c l told far hK => ?_)
    · exact ⟨0, by decide, h3 0 (by decide), fun _ => ⟨by decide, rfl, h3 0 (by decide), fun i hi => absurd hi (by omega), fun j hj => absurd hj (by omega)⟩⟩
    · obtain ⟨n, k1, k2, k3⟩ := hK
      exact ⟨fun z => absurd z (by decide), fun _ => ⟨fun z => absurd z (by decide), fun _ => ⟨n, k3 rfl⟩, fun z => absurd z (by decide)⟩⟩
  · refine J_read (K := KLg) hB hL hf (fun i a b k v w cf cp mf mp p d e q vl ml wr far gd w0 u h o c l num told rd T hk F hK => J_log ht hL T hk F _ rfl hK hf) (fun h o t h1 h2 h3 => ?_) (fun p d e q w u h o c l told far hK => ?_)
    · exact ⟨0, by decide, h3 0 (by decide), fun _ => ⟨by decide, rfl, h3 0 (by decide), fun i hi => absurd hi (by omega), fun j hj => absurd hj (by omega)⟩⟩
    · obtain ⟨n, k1, k2, k3⟩ := hK
      exact ⟨fun z => absurd z (by decide), fun _ => ⟨fun z => absurd z (by decide), fun z => absurd z (by decide), fun _ => ⟨n, k3 rfl⟩⟩⟩
end SRT
