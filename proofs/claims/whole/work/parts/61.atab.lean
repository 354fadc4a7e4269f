/-! where two texts part; a parting input made less -/
def tg (x : Nat) : Nat := x / 64 + x / 8 % 8 + x % 8
theorem tg6_0 : ∀ x, x < 512 → fX6_together 0 (nI x) = some (nI (tg x)) := by decide +kernel
theorem tg12_0 : ∀ x, x < 512 → fX12_sumOf 0 (nI x) = some (nI (tg x)) := by decide +kernel
theorem tg6 {N x : Nat} (hx : x < 512) : fX6_together N (nI x) = some (nI (tg x)) := tg6_0 x hx
theorem tg12 {N x : Nat} (hx : x < 512) : fX12_sumOf N (nI x) = some (nI (tg x)) := tg12_0 x hx
theorem tg_lt {x : Nat} (hx : x < 512) : tg x < 64 := by unfold tg; omega
def spD (x s : Nat) : Nat := if s / 3 = 0 then 0 else if s / 3 = 1 then x / 8 ^ (s % 3) % 8 / 2 else x / 8 ^ (s % 3) % 8 - 1
def sp (x s : Nat) : Nat := x - (x / 8 ^ (s % 3) % 8 - spD x s) * 8 ^ (s % 3)
theorem sp_le (x s : Nat) : sp x s ≤ x := Nat.sub_le _ _
theorem sp6_0 : ∀ x, x < 512 → ∀ w, w < 3 → ∀ d, d < 3 → fX6_stepped 0 (nI x) (nI w) (nI d) = some (nI (sp x (3 * w + d))) := by decide +kernel
theorem sp12_0 : ∀ x, x < 512 → ∀ s, s < 9 → fX12_stepped 0 (nI x) (nI s) = some (nI (sp x s)) := by decide +kernel
theorem sp6 {N x w d : Nat} (hx : x < 512) (hw : w < 3) (hd : d < 3) : fX6_stepped N (nI x) (nI w) (nI d) = some (nI (sp x (3 * w + d))) := sp6_0 x hx w hw d hd
theorem sp12 {N x s : Nat} (hx : x < 512) (hs : s < 9) : fX12_stepped N (nI x) (nI s) = some (nI (sp x s)) := sp12_0 x hx s hs
