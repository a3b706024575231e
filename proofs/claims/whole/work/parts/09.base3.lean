theorem rm_le {d d' k : Nat} (h : d' + 1 ≤ d) (hk : k ≤ 45) : d' + 1 ≤ (rmD d).frames ∧ 8 + (k + 11) + 64 * d' ≤ (rmD d).locals := ⟨h, by show _ ≤ 64 * d; omega⟩
theorem rm_1 {d : Nat} (h : 1 ≤ d) : 1 ≤ (rmD d).frames := h
theorem rm_13 {d x : Nat} (h : 1 ≤ d) (hx : x ≤ 64) : x ≤ (rmD d).locals := by show _ ≤ 64 * d; omega
theorem cse_l {α β γ : Type} {a : α} {f : α → γ} {g : β → γ} {r : γ} (h : cse (.inl a) f g = r) : f a = r := h
theorem cse_r {α β γ : Type} {b : β} {f : α → γ} {g : β → γ} {r : γ} (h : cse (.inr b) f g = r) : g b = r := h
